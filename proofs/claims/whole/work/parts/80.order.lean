/-! ===== the order, purely ===== -/
def o_nr (A : Nat → Nat → Bool) (nu : Nat) (H : Nat → Bool) (k : Nat) : Bool := p_any (fun j => A k j && H j) nu
def o_nx (A : Nat → Nat → Bool) (nu : Nat) (C D H : Nat → Bool) : Nat := if fa_first (fun k => (C k && !D k) && o_nr A nu H k) nu < nu then fa_first (fun k => (C k && !D k) && o_nr A nu H k) nu else fa_first (fun k => C k && !D k) nu
def o_hd (A : Nat → Nat → Bool) (H : Nat → Bool) (r : Nat) : Nat → Bool := fun k => (H k || decide (k = r)) || A r k
def o_st (A : Nat → Nat → Bool) (nu : Nat) (C : Nat → Bool) : Nat → (Nat → Bool) × (Nat → Bool)
  | 0 => (fun _ => false, fun _ => false)
  | n + 1 => (fput (o_st A nu C n).1 (o_nx A nu C (o_st A nu C n).1 (o_st A nu C n).2) true, o_hd A (o_st A nu C n).2 (o_nx A nu C (o_st A nu C n).1 (o_st A nu C n).2))
def o_r (A : Nat → Nat → Bool) (nu : Nat) (C : Nat → Bool) (n : Nat) : Nat := o_nx A nu C (o_st A nu C n).1 (o_st A nu C n).2
section OPURE
variable {A : Nat → Nat → Bool} {nu : Nat} {C D H : Nat → Bool}
theorem ff_eq {p : Nat → Bool} {n b : Nat} (hb : b < n) (hp : p b = true) (h : ∀ k, k < b → p k = false) : fa_first p n = b := by
  rcases Nat.lt_trichotomy (fa_first p n) b with c | c | c
  · have := fa_first_yes p n (by omega)
    rw [h _ c] at this; cases this
  · exact c
  · have := fa_first_no p n b c
    rw [hp] at this; cases this
theorem ff_none {p : Nat → Bool} {n : Nat} (h : ∀ k, k < n → p k = false) : fa_first p n = n := by
  have h1 := fa_first_le p n
  rcases Nat.lt_or_ge (fa_first p n) n with c | c
  · have := fa_first_yes p n c
    rw [h _ c] at this; cases this
  · omega
theorem ff_all {p : Nat → Bool} {n : Nat} (h : fa_first p n = n) : ∀ k, k < n → p k = false := fun k hk => fa_first_no p n k (by omega)
theorem o_nr_i {k : Nat} : o_nr A nu H k = true ↔ ∃ j, j < nu ∧ A k j = true ∧ H j = true := by
  unfold o_nr
  rw [p_any_iff]
  simp
theorem o_nr_put {a k : Nat} (ha : a < nu) : o_nr A nu (fput H a true) k = (o_nr A nu H k || A k a) := by
  rw [Bool.eq_iff_iff, Bool.or_eq_true, o_nr_i, o_nr_i]
  constructor
  · rintro ⟨j, h1, h2, h3⟩
    by_cases c : j = a
    · rw [c] at h2; exact Or.inr h2
    · rw [fput_n c] at h3; exact Or.inl ⟨j, h1, h2, h3⟩
  · rintro (⟨j, h1, h2, h3⟩ | h)
    · refine ⟨j, h1, h2, ?_⟩
      by_cases c : j = a
      · rw [c, fput_s]
      · rw [fput_n c]; exact h3
    · exact ⟨a, ha, h, fput_s⟩
theorem o_nx_lf (h : o_nx A nu C D H < nu) : C (o_nx A nu C D H) = true ∧ D (o_nx A nu C D H) = false := by
  have key : ∀ k, (C k && !D k) = true → C k = true ∧ D k = false := fun k hk => by
    rw [Bool.and_eq_true] at hk
    exact ⟨hk.1, by cases e : D k with | false => rfl | true => rw [e] at hk; exact absurd hk.2 (by decide)⟩
  unfold o_nx at h ⊢
  by_cases c : fa_first (fun k => (C k && !D k) && o_nr A nu H k) nu < nu
  · rw [if_pos c] at h ⊢
    have h1 := fa_first_yes _ _ c
    rw [Bool.and_eq_true] at h1
    exact key _ h1.1
  · rw [if_neg c] at h ⊢
    exact key _ (fa_first_yes _ _ h)
theorem o_nx_none : o_nx A nu C D H < nu ↔ ∃ k, k < nu ∧ (C k && !D k) = true := by
  constructor
  · intro h
    obtain ⟨h1, h2⟩ := o_nx_lf h
    exact ⟨_, h, by rw [h1, h2]; rfl⟩
  · rintro ⟨k, hk, h⟩
    unfold o_nx
    by_cases c : fa_first (fun k => (C k && !D k) && o_nr A nu H k) nu < nu
    · rw [if_pos c]; exact c
    · rw [if_neg c]
      have h1 := fa_first_le (fun k => C k && !D k) nu
      rcases Nat.lt_or_ge (fa_first (fun k => C k && !D k) nu) nu with c' | c'
      · exact c'
      · have := ff_all (p := fun k => C k && !D k) (by omega) k hk
        rw [h] at this; cases this
theorem o_left : ∀ n, n ≤ fb_ct C nu → fb_ct (fun k => C k && !(o_st A nu C n).1 k) nu + n = fb_ct C nu := by
  intro n
  induction n with
  | zero => intro _; rw [show (fun k => C k && !(o_st A nu C 0).1 k) = C from funext fun k => by simp [o_st]]; rfl
  | succ n ih =>
    intro hn
    have h1 := ih (by omega)
    have h2 : o_r A nu C n < nu := o_nx_none.mpr (fb_ct_pos.mp (by omega))
    obtain ⟨h3, h4⟩ := o_nx_lf h2
    have e := fb_ct_upd (fun k => C k && !(o_st A nu C n).1 k) false h2
    rw [if_pos (show (C (o_r A nu C n) && !(o_st A nu C n).1 (o_r A nu C n)) = true by
      rw [show C (o_r A nu C n) = true from h3, show (o_st A nu C n).1 (o_r A nu C n) = false from h4]; rfl)] at e
    simp only [Bool.false_eq_true, if_false] at e
    rw [show (fun k => C k && !(o_st A nu C (n + 1)).1 k) = (fun k => if k = o_r A nu C n then false else (C k && !(o_st A nu C n).1 k)) from funext fun k => by
      show (C k && !fput (o_st A nu C n).1 (o_r A nu C n) true k) = _
      by_cases c : k = o_r A nu C n
      · rw [if_pos c, c, fput_s]; simp
      · rw [if_neg c, fput_n c]]
    omega
theorem o_r_lt {n : Nat} (h : n < fb_ct C nu) : o_r A nu C n < nu := by
  have := o_left (A := A) (nu := nu) (C := C) n (by omega)
  exact o_nx_none.mpr (fb_ct_pos.mp (by omega))
theorem o_r_no {n : Nat} (h : n = fb_ct C nu) : ¬ o_r A nu C n < nu := fun c => by
  have h1 := o_left (A := A) (nu := nu) (C := C) n (by omega)
  obtain ⟨k, h2, h3⟩ := o_nx_none.mp c
  have := fb_ct_pos (p := fun k => C k && !(o_st A nu C n).1 k).mpr ⟨k, h2, h3⟩
  omega
end OPURE
/-! ===== the class puts in order ===== -/
def MR (h : am_H) (m : ml_T) (C D H : Nat → Bool) : Prop := h[27]? = some (am_O 2 [.ref 28]) ∧ ∃ f, h[28]? = some (am_L 20 f) ∧ ∀ i, i < 320 → bt_r f 0 i = C i ∧ bt_r f 1 i = (C i && !D i) ∧ bt_r f 2 i = H i ∧ bt_r f 3 i = o_nr (m_aj m) (m_nu m) H i
section CORDER
variable {l : Launch} {g : am_G} {d : Nat} {x : Bool} {h : am_H} {m : ml_T} {ch : Nat} {C D H : Nat → Bool}
variable {cs orr ql : Int32}
theorem MR.fr {h' : am_H} (hR : MR h m C D H) (h1 : h'[27]? = h[27]?) (h2 : h'[28]? = h[28]?) : MR h' m C D H := by
  obtain ⟨a, f, b, c⟩ := hR
  exact ⟨h1.trans a, f, h2.trans b, c⟩
theorem sp_takeInHand {a : Nat} {K : am_H → Prop} (hM : MC h m ch) (hv : ml_ok m) (hQ : h[26]? = some (c_mk ql cs orr)) (hR : MR h m C D H) (ha : a < m_nu m)
    (hK : ∀ h', MR h' m C D (fput H a true) → Fr 28 28 h h' → K h') : cl_N l g mX1_takeInHand (d + 1) x [.ref 26, .int (nI a)] h K := by
  have hn : m_nu m ≤ 300 := hv.1.2.2.2.2.2.1
  obtain ⟨h27, f, h28, hf⟩ := hR
  refine eX1_takeInHand (gtR hQ rfl ⟨⟨_, h27⟩, sp_has (row := 2) h27 h28 (by omega) (by omega) (by omega) (by omega) ⟨fun z => ⟨rfl, ?_⟩, fun z => gtR hQ rfl ⟨⟨_, h27⟩, sp_put (row := 2) h27 h28 (by omega) (by omega) (by omega) (by omega) (fun f1 hf1 => ?_)⟩⟩⟩)
  · have e : H a = true := by rw [← (hf a (by omega)).2.2.1]; exact bi_n0.mp z
    exact hK h (by rw [fput_id e]; exact ⟨h27, f, h28, hf⟩) Fr.rf
  · obtain ⟨fj, j17, hj⟩ := hM.2.2.2.2.2.2
    have q26 : (h.set 28 (am_L 20 f1))[26]? = some (c_mk ql cs orr) := (st_ne (by decide)).trans hQ
    have q27 : (h.set 28 (am_L 20 f1))[27]? = some (am_O 2 [.ref 28]) := (st_ne (by decide)).trans h27
    have q6 := (st_ne (h := h) (c := am_L 20 f1) (show 28 ≠ 6 by decide)).trans hM.1
    refine gtR q26 rfl (gtR q26 rfl (gtR q6 rfl ⟨⟨_, q27⟩, sp_putAll (row := 3) q27 (st_eq h28) ((st_ne (by decide)).trans hM.2.2.2.2.1) ((st_ne (by decide)).trans j17) (Or.inl (by decide)) (by omega) (by omega) (by omega) (by omega) (fun f2 hf2 => ⟨rfl, ?_⟩)⟩))
    refine hK _ ⟨(st_ne (by decide)).trans q27, f2, st_eq (st_eq h28), fun i hi => ?_⟩ ((Fr.rf.st (by decide)).st (by decide))
    obtain ⟨u0, u1, u2, u3⟩ := hf i hi
    have k0 : bt_r f1 0 i = C i := by rw [hf1 0 i hi, if_neg (fun z => absurd z.1 (by decide)), u0]
    have k1 : bt_r f1 1 i = (C i && !D i) := by rw [hf1 1 i hi, if_neg (fun z => absurd z.1 (by decide)), u1]
    have k3 : bt_r f1 3 i = o_nr (m_aj m) (m_nu m) H i := by rw [hf1 3 i hi, if_neg (fun z => absurd z.1 (by decide)), u3]
    have k2 : bt_r f1 2 i = fput H a true i := by
      rw [hf1 2 i hi]
      by_cases c : i = a
      · rw [if_pos ⟨rfl, c⟩, c, fput_s]
      · rw [if_neg (fun z => c z.2), fput_n c, u2]
    refine ⟨?_, ?_, ?_, ?_⟩
    · rw [hf2 0 i hi, if_neg (by decide), k0]
    · rw [hf2 1 i hi, if_neg (by decide), k1]
    · rw [hf2 2 i hi, if_neg (by decide), k2]
    · rw [hf2 3 i hi, if_pos rfl, k3, hj a i (by omega) hi, o_nr_put ha, aj_sy m a i]
theorem lm_takeLinked {K : am_H → Prop} {a : Nat} (hM : MC h m ch) (hv : ml_ok m) (hQ : h[26]? = some (c_mk ql cs orr)) (ha : a < m_nu m)
    (hK : ∀ h', MR h' m C D (fun k => H k || m_aj m a k) → Fr 28 28 h h' → K h') :
    ∀ k n v frm h1, n + k = 300 → n ≤ frm → nx_m m a frm v → MR h1 m C D (fun k => H k || (m_aj m a k && decide (k < frm))) → Fr 28 28 h h1 → am_J l g mX1_takeLinkedInHand (d + 2) (0, 0, x) 15 [(0, .ref 26), (1, .int (nI a)), (2, .int v), (3, .int (nI n))] [] h1 (fun r h' => r = none ∧ K h') := by
  have hn : m_nu m ≤ 300 := hv.1.2.2.2.2.2.1
  have full : ∀ frm, (∀ i, frm ≤ i → m_aj m a i = false) → (fun k => H k || (m_aj m a k && decide (k < frm))) = (fun k => H k || m_aj m a k) := fun frm hno => funext fun k => by
    rcases Nat.lt_or_ge k frm with c | c
    · rw [decide_eq_true c, Bool.and_true]
    · rw [hno k c]; rfl
  have out : ∀ i, 300 ≤ i → m_aj m a i = false := fun i hi => by
    cases e : m_aj m a i with
    | false => rfl
    | true => have := (aj_th hv e).2.2.2.1; omega
  intro k
  induction k with
  | zero =>
    intro n v frm h1 hnk hle hnx hR hf
    rw [full frm (fun i hi => out i (by omega))] at hR
    exact rX1_takeLinkedInHand_15 ⟨fun _ => ⟨rfl, hK h1 hR hf⟩, fun z => absurd (show (300 : Int32) ≤ nI n by rw [show n = 300 by omega]; decide) z⟩
  | succ k ih =>
    intro n v frm h1 hnk hle hnx hR hf
    have hQ1 := (hf 26 (by decide)).trans hQ
    have hM1 : MC h1 m ch := hM.fr (fun i a b => hf i (by omega))
    refine rX1_takeLinkedInHand_15 ⟨fun z => absurd ((nI_leI (a := 300) (by decide) (by omega)).mp z) (by omega), fun _ => ⟨fun z => ⟨rfl, ?_⟩, fun z => ?_⟩⟩
    · rcases hnx with ⟨-, c⟩ | ⟨b, c, hb1, hb2, hab, -⟩
      · rw [full frm (fun i hi => by
          rcases Nat.lt_or_ge i 320 with y | y
          · exact c i hi y
          · exact out i (by omega))] at hR
        exact hK h1 hR hf
      · rw [c] at z; exact absurd z (n1_ne (by omega))
    · rcases hnx with ⟨c, -⟩ | ⟨b, c, hb1, hb2, hab, hgap⟩
      · exact absurd c z
      · subst c
        have hbn := (aj_th hv hab).2.2.2.1
        refine ⟨⟨_, hQ1⟩, sp_takeInHand hM1 hv hQ1 hR hbn (fun h2 hR2 f2 => ?_)⟩
        have hQ2 := (f2 26 (by decide)).trans hQ1
        have hM2 : MC h2 m ch := hM1.fr (fun i a b => f2 i (by omega))
        refine gtR hQ2 rfl (gtR hM2.1 rfl ⟨⟨_, hM2.2.2.2.2.1⟩, ?_⟩)
        rw [nI_1]
        refine sp_nextM hM2 (by omega) (by omega) (fun v hnx' => ?_)
        rw [nI_1]
        refine ih (n + 1) v (b + 1) h2 (by omega) (by omega) hnx' ?_ (hf.tr f2)
        rw [show (fun k => H k || (m_aj m a k && decide (k < b + 1))) = fput (fun k => H k || (m_aj m a k && decide (k < frm))) b true from funext fun k => by
          by_cases c : k = b
          · rw [c, fput_s, hab, decide_eq_true (Nat.lt_succ_self b)]; simp
          · rw [fput_n c]
            rcases Nat.lt_or_ge k frm with y | y
            · rw [decide_eq_true y, decide_eq_true (show k < b + 1 by omega)]
            · rw [decide_eq_false (show ¬ k < frm by omega)]
              rcases Nat.lt_or_ge k b with y' | y'
              · rw [hgap k y y']; rfl
              · rw [decide_eq_false (show ¬ k < b + 1 by omega)]]
        exact hR2
theorem sp_takeLinked {K : am_H → Prop} {a : Nat} (hM : MC h m ch) (hv : ml_ok m) (hQ : h[26]? = some (c_mk ql cs orr)) (hR : MR h m C D H) (ha : a < m_nu m)
    (hK : ∀ h', MR h' m C D (fun k => H k || m_aj m a k) → Fr 28 28 h h' → K h') : cl_N l g mX1_takeLinkedInHand (d + 2) x [.ref 26, .int (nI a)] h K := by
  have hn : m_nu m ≤ 300 := hv.1.2.2.2.2.2.1
  refine eX1_takeLinkedInHand (gtR hQ rfl (gtR hM.1 rfl ⟨⟨_, hM.2.2.2.2.1⟩, sp_nextM (frm := 0) hM (by omega) (by omega) (fun v hnx => ?_)⟩))
  refine lm_takeLinked (d := d) hM hv hQ ha hK 300 0 v 0 h (by omega) (by omega) hnx ?_ Fr.rf
  rw [show (fun k => H k || (m_aj m a k && decide (k < 0))) = H from funext fun k => by simp]
  exact hR
theorem lm_nextOpen {K : Int32 → am_H → Prop} {least : Int32} (hv : ml_ok m) (hC : ∀ v, C v = true → v < m_nu m) (hQ : h[26]? = some (c_mk ql cs orr)) (hR : MR h m C D H) (hl : least = fi (fa_first (fun k => C k && !D k) (m_nu m)) (m_nu m)) (hK : K (fi (o_nx (m_aj m) (m_nu m) C D H) (m_nu m)) h) :
    ∀ k n v frm, n + k = 300 → n ≤ frm → ((v = -1 ∧ ∀ i, frm ≤ i → i < 320 → (C i && !D i) = false) ∨ (∃ j, v = nI j ∧ frm ≤ j ∧ j < 320 ∧ (C j && !D j) = true ∧ ∀ i, frm ≤ i → i < j → (C i && !D i) = false)) → (∀ i, i < frm → ((C i && !D i) && o_nr (m_aj m) (m_nu m) H i) = false) → am_J l g mX1_nextToOpen (d + 2) (0, 0, x) 14 [(0, .ref 26), (1, .int least), (2, .int v), (3, .int (nI n))] [] h (fun r h' => ∃ v, r = some (.int v) ∧ K v h') := by
  have hn : m_nu m ≤ 300 := hv.1.2.2.2.2.2.1
  obtain ⟨h27, f, h28, hf⟩ := hR
  have last : (∀ i, i < m_nu m → ((C i && !D i) && o_nr (m_aj m) (m_nu m) H i) = false) → K least h := fun hno => by
    have e : o_nx (m_aj m) (m_nu m) C D H = fa_first (fun k => C k && !D k) (m_nu m) := by
      unfold o_nx
      rw [ff_none hno, if_neg (Nat.lt_irrefl _)]
    rw [hl, ← e]; exact hK
  intro k
  induction k with
  | zero =>
    intro n v frm hnk hle hnx hno
    exact rX1_nextToOpen_14 ⟨fun _ => ⟨_, rfl, last (fun i hi => hno i (by omega))⟩, fun z => absurd (show (300 : Int32) ≤ nI n by rw [show n = 300 by omega]; decide) z⟩
  | succ k ih =>
    intro n v frm hnk hle hnx hno
    refine rX1_nextToOpen_14 ⟨fun z => absurd ((nI_leI (a := 300) (by decide) (by omega)).mp z) (by omega), fun _ => ⟨fun z => ⟨_, rfl, last (fun i hi => ?_)⟩, fun z => ?_⟩⟩
    · rcases hnx with ⟨-, c⟩ | ⟨b, c, hb1, hb2, hab, -⟩
      · rcases Nat.lt_or_ge i frm with y | y
        · exact hno i y
        · rw [c i y (by omega)]; rfl
      · rw [c] at z; exact absurd z (n1_ne (by omega))
    · rcases hnx with ⟨c, -⟩ | ⟨b, c, hb1, hb2, hab, hgap⟩
      · exact absurd c z
      · subst c
        have hbn : b < m_nu m := hC b (by rw [Bool.and_eq_true] at hab; exact hab.1)
        have hno' : ∀ i, i < b → ((C i && !D i) && o_nr (m_aj m) (m_nu m) H i) = false := fun i hi => by
          rcases Nat.lt_or_ge i frm with y | y
          · exact hno i y
          · rw [hgap i y hi]; rfl
        refine gtR hQ rfl ⟨⟨_, h27⟩, sp_has (row := 3) h27 h28 (by omega) (by omega) (by omega) (by omega) ?_⟩
        rw [(hf b (by omega)).2.2.2]
        refine ⟨fun y => gtR hQ rfl ⟨⟨_, h27⟩, ?_⟩, fun y => ⟨_, rfl, ?_⟩⟩
        · rw [nI_1]
          refine sp_next (row := 1) h27 h28 (by omega) (by omega) (by omega) (by omega) (fun v hnx' => ?_)
          rw [nI_1]
          refine ih (n + 1) v (b + 1) (by omega) (by omega) ?_ (fun i hi => ?_)
          · rcases hnx' with ⟨c1, c2⟩ | ⟨j, c1, c2, c3, c4, c5⟩
            · exact Or.inl ⟨c1, fun i a b => by rw [← (hf i b).2.1]; exact c2 i a b⟩
            · exact Or.inr ⟨j, c1, c2, c3, by rw [← (hf j c3).2.1]; exact c4, fun i a b => by rw [← (hf i (by omega)).2.1]; exact c5 i a b⟩
          · by_cases c : i = b
            · rw [c, bi_0.mp y, Bool.and_false]
            · exact hno' i (by omega)
        · have e1 := ff_eq (p := fun k => (C k && !D k) && o_nr (m_aj m) (m_nu m) H k) hbn (by simp only [hab, bi_n0.mp y]; rfl) hno'
          have e : o_nx (m_aj m) (m_nu m) C D H = b := by
            unfold o_nx
            rw [e1, if_pos hbn]
          rw [e] at hK
          unfold fi at hK
          rw [if_pos hbn] at hK; exact hK
theorem sp_nextToOpen {K : Int32 → am_H → Prop} (hv : ml_ok m) (hC : ∀ v, C v = true → v < m_nu m) (hQ : h[26]? = some (c_mk ql cs orr)) (hR : MR h m C D H) (hK : K (fi (o_nx (m_aj m) (m_nu m) C D H) (m_nu m)) h) : cl_I l g mX1_nextToOpen (d + 2) x [.ref 26] h K := by
  have hn : m_nu m ≤ 300 := hv.1.2.2.2.2.2.1
  obtain ⟨h27, f, h28, hf⟩ := id hR
  refine eX1_nextToOpen (gtR hQ rfl ⟨⟨_, h27⟩, sp_next (row := 1) (frm := 0) h27 h28 (by omega) (by omega) (by omega) (by omega) (fun v hnx => ?_)⟩)
  have hnx2 : (v = -1 ∧ ∀ i, 0 ≤ i → i < 320 → (C i && !D i) = false) ∨ (∃ j, v = nI j ∧ 0 ≤ j ∧ j < 320 ∧ (C j && !D j) = true ∧ ∀ i, 0 ≤ i → i < j → (C i && !D i) = false) := by
    rcases hnx with ⟨c1, c2⟩ | ⟨j, c1, c2, c3, c4, c5⟩
    · exact Or.inl ⟨c1, fun i a b => by rw [← (hf i b).2.1]; exact c2 i a b⟩
    · exact Or.inr ⟨j, c1, c2, c3, by rw [← (hf j c3).2.1]; exact c4, fun i a b => by rw [← (hf i (by omega)).2.1]; exact c5 i a b⟩
  refine lm_nextOpen (d := d) hv hC hQ hR ?_ hK 300 0 v 0 (by omega) (by omega) hnx2 (fun i hi => by omega)
  unfold fi
  rcases hnx2 with ⟨c1, c2⟩ | ⟨j, c1, c2, c3, c4, c5⟩
  · rw [ff_none (fun i hi => c2 i (by omega) (by omega)), if_neg (Nat.lt_irrefl _)]; exact c1
  · have hj : j < m_nu m := hC j (by rw [Bool.and_eq_true] at c4; exact c4.1)
    rw [ff_eq (p := fun k => C k && !D k) hj c4 (fun i hi => c5 i (by omega) hi), if_pos hj]; exact c1
theorem lm_putOrder {K : am_H → Prop} {cc : Nat} (hM : MC h m ch) (hv : ml_ok m) (hC : ∀ v, C v = true → v < m_nu m) (hcc : cc = fb_ct C (m_nu m)) (hQ : h[26]? = some (c_mk ql cs (nI cc)))
    (hK : ∀ h' f, MR h' m C (o_st (m_aj m) (m_nu m) C cc).1 (o_st (m_aj m) (m_nu m) C cc).2 → h'[33]? = some (am_I 0 300 f) → (∀ i, i < cc → f i = nI (o_r (m_aj m) (m_nu m) C i)) → Fr 28 33 h h' → (∀ i, 29 ≤ i → i ≤ 32 → h'[i]? = h[i]?) → K h') :
    ∀ k n h1 f, n + k = cc → MR h1 m C (o_st (m_aj m) (m_nu m) C n).1 (o_st (m_aj m) (m_nu m) C n).2 → h1[33]? = some (am_I 0 300 f) → (∀ i, i < n → f i = nI (o_r (m_aj m) (m_nu m) C i)) → Fr 28 33 h h1 → (∀ i, 29 ≤ i → i ≤ 32 → h1[i]? = h[i]?) → am_J l g mX1_putInOrder (d + 3) (0, 0, x) 15 [(0, .ref 26), (1, .int (nI n))] [] h1 (fun r h' => r = none ∧ K h') := by
  have hn : m_nu m ≤ 300 := hv.1.2.2.2.2.2.1
  have hc3 : cc ≤ m_nu m := by rw [hcc]; exact fb_ct_le _ _
  intro k
  induction k with
  | zero =>
    intro n h1 f hnk hR h33 hf hfr hfr2
    have hQ1 := (hfr 26 (by decide)).trans hQ
    have : n = cc := by omega
    subst this
    exact rX1_putInOrder_15 (gtI hQ1 rfl ⟨fun _ => ⟨rfl, hK h1 f hR h33 hf hfr hfr2⟩, fun z => absurd (nI_le (by omega) (by omega)) z⟩)
  | succ k ih =>
    intro n h1 f hnk hR h33 hf hfr hfr2
    have hQ1 := (hfr 26 (by decide)).trans hQ
    have hrn : o_r (m_aj m) (m_nu m) C n < m_nu m := o_r_lt (by omega)
    refine rX1_putInOrder_15 (gtI hQ1 rfl ⟨fun z => absurd ((nI_leI (by omega) (by omega)).mp z) (by omega), fun _ => ⟨⟨_, hQ1⟩, sp_nextToOpen hv hC hQ1 hR ?_⟩⟩)
    show gt_R h1 26 1 9 _
    rw [show fi (o_nx (m_aj m) (m_nu m) C (o_st (m_aj m) (m_nu m) C n).1 (o_st (m_aj m) (m_nu m) C n).2) (m_nu m) = nI (o_r (m_aj m) (m_nu m) C n) from if_pos hrn]
    refine gtR hQ1 rfl (asI h33 (by omega) (by decide) ⟨fun _ => ?_, fun c => absurd c (n1_ne (by omega))⟩)
    have q26 : (h1.set 33 (am_I 0 300 (upd f n (nI (o_r (m_aj m) (m_nu m) C n)))))[26]? = some (c_mk ql cs (nI cc)) := (st_ne (by decide)).trans hQ1
    obtain ⟨h27, w, h28, hw⟩ := hR.fr (h' := h1.set 33 (am_I 0 300 (upd f n (nI (o_r (m_aj m) (m_nu m) C n))))) (st_ne (by decide)) (st_ne (by decide))
    have F1 : Fr 28 33 h (h1.set 33 (am_I 0 300 (upd f n (nI (o_r (m_aj m) (m_nu m) C n))))) := hfr.st (by decide)
    refine gtR q26 rfl ⟨⟨_, h27⟩, sp_drop (row := 1) h27 h28 (by omega) (by omega) (by omega) (by omega) (fun w1 hw1 => ?_)⟩
    have q262 := (st_ne (h := h1.set 33 (am_I 0 300 (upd f n (nI (o_r (m_aj m) (m_nu m) C n))))) (c := am_L 20 w1) (show 28 ≠ 26 by decide)).trans q26
    have F2 : Fr 28 33 h ((h1.set 33 (am_I 0 300 (upd f n (nI (o_r (m_aj m) (m_nu m) C n))))).set 28 (am_L 20 w1)) := F1.st (by decide)
    have M2 : MC ((h1.set 33 (am_I 0 300 (upd f n (nI (o_r (m_aj m) (m_nu m) C n))))).set 28 (am_L 20 w1)) m ch := hM.fr (fun i a b => F2 i (by omega))
    have R2 : MR ((h1.set 33 (am_I 0 300 (upd f n (nI (o_r (m_aj m) (m_nu m) C n))))).set 28 (am_L 20 w1)) m C (fput (o_st (m_aj m) (m_nu m) C n).1 (o_r (m_aj m) (m_nu m) C n) true) (o_st (m_aj m) (m_nu m) C n).2 := by
      refine ⟨(st_ne (by decide)).trans h27, w1, st_eq h28, fun i hi => ?_⟩
      obtain ⟨u0, u1, u2, u3⟩ := hw i hi
      refine ⟨?_, ?_, ?_, ?_⟩
      · rw [hw1 0 i hi, if_neg (fun z => absurd z.1 (by decide)), u0]
      · rw [hw1 1 i hi]
        by_cases c : i = o_r (m_aj m) (m_nu m) C n
        · rw [if_pos ⟨rfl, c⟩, c, fput_s]; simp
        · rw [if_neg (fun z => c z.2), fput_n c, u1]
      · rw [hw1 2 i hi, if_neg (fun z => absurd z.1 (by decide)), u2]
      · rw [hw1 3 i hi, if_neg (fun z => absurd z.1 (by decide)), u3]
    refine ⟨⟨_, q262⟩, sp_takeInHand M2 hv q262 R2 hrn (fun h3 R3 f3 => ?_)⟩
    have q263 := (f3 26 (by decide)).trans q262
    have M3 : MC h3 m ch := M2.fr (fun i a b => f3 i (by omega))
    refine ⟨⟨_, q263⟩, sp_takeLinked M3 hv q263 R3 hrn (fun h4 R4 f4 => ?_)⟩
    rw [nI_1]
    have e4 : (fun k => fput (o_st (m_aj m) (m_nu m) C n).2 (o_r (m_aj m) (m_nu m) C n) true k || m_aj m (o_r (m_aj m) (m_nu m) C n) k) = (o_st (m_aj m) (m_nu m) C (n + 1)).2 := funext fun k => by
      show _ = o_hd (m_aj m) (o_st (m_aj m) (m_nu m) C n).2 (o_r (m_aj m) (m_nu m) C n) k
      unfold o_hd
      by_cases c : k = o_r (m_aj m) (m_nu m) C n
      · rw [c, fput_s, decide_eq_true rfl, Bool.or_true]
      · rw [fput_n c, decide_eq_false c, Bool.or_false]
    rw [e4] at R4
    have q33 : ((h1.set 33 (am_I 0 300 (upd f n (nI (o_r (m_aj m) (m_nu m) C n))))).set 28 (am_L 20 w1))[33]? = some (am_I 0 300 (upd f n (nI (o_r (m_aj m) (m_nu m) C n)))) := (st_ne (by decide)).trans (st_eq h33)
    refine ih (n + 1) h4 (upd f n (nI (o_r (m_aj m) (m_nu m) C n))) (by omega) R4 ((f4 33 (by decide)).trans ((f3 33 (by decide)).trans q33)) (fun i hi => ?_) ((F2.tr (f3.mono (by omega) (by omega))).tr (f4.mono (by omega) (by omega))) (fun i a b => ?_)
    · by_cases c : i = n
      · rw [c, pk_us]
      · rw [pk_un c]; exact hf i (by omega)
    · rw [f4 i (by omega), f3 i (by omega), st_ne (show 28 ≠ i by omega), st_ne (show 33 ≠ i by omega)]; exact hfr2 i a b
end CORDER
