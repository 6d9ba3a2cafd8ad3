/-! ===== both sides open the same; the model's order ===== -/
theorem MK.one {m : ml_T} {r1 r2 : Int32} {o1 o2 : Nat → Bool} (hv : ml_ok m) (h1 : MK m r1 o1) (h2 : MK m r2 o2) : r1 = r2 ∧ (¬ r1 = -1 → o1 = o2) := by
  have hn : m_nu m ≤ 300 := hv.1.2.2.2.2.2.1
  rcases h1 with ⟨a1, a2⟩ | ⟨L, pr, a1, a2, a3, a4, a5, a6, a7⟩
  · rcases h2 with ⟨b1, b2⟩ | ⟨L', pr', b1, b2, b3, b4, b5, b6, b7⟩
    · exact ⟨by rw [a1, b1], fun c => absurd a1 c⟩
    · exact absurd ⟨L', b3.2.1⟩ a2
  · rcases h2 with ⟨b1, b2⟩ | ⟨L', pr', b1, b2, b3, b4, b5, b6, b7⟩
    · exact absurd ⟨L, a3.2.1⟩ b2
    · have e : L = L' := funext fun v => by
        cases ht : m_th m v with
        | false =>
          rw [show L v = false from Bool.eq_false_iff.mpr (fun c => by rw [a1 v c] at ht; cases ht), show L' v = false from Bool.eq_false_iff.mpr (fun c => by rw [b1 v c] at ht; cases ht)]
        | true =>
          obtain ⟨q, l1, l2, l3⟩ := Lst.ex (A := m_aj m) (P := m_th m) v ht
          exact Two.one a3.2.1 b3.2.1 (by rw [a2 q l1, b2 q l1]) (l2.sy (aj_sy m))
      subst e
      refine ⟨by rw [a6, b6, pn_eq a3 a4 a5 b4 b5], fun _ => funext fun v => ?_⟩
      rw [a7 v, b7 v, Zr.eq a3 a4 a5 b4 b5]
section MORDER
variable {l : Launch} {g : am_G} {d : Nat} {x : Bool} {h : am_H} {m : ml_T} {Wh : wv_T} {o : mo_T} {C D H : Nat → Bool}
/-- what is done and at hand -/
def OS (h : am_H) (m : ml_T) (C D H : Nat → Bool) : Prop := (∃ f, h[70]? = some (am_I 2 300 f) ∧ ∀ v, v < m_nu m → f v = bi (C v)) ∧ (∃ f, h[71]? = some (am_I 2 300 f) ∧ ∀ v, v < m_nu m → f v = bi (H v)) ∧ (∃ f, h[72]? = some (am_I 2 300 f) ∧ ∀ v, v < m_nu m → f v = bi (D v))
theorem lm_nearHand {K : Int32 → am_H → Prop} {a : Nat} (hM : MM h m Wh o) (hv : ml_ok m) (hN : NR h m) (hO : OS h m C D H) (ha : a < m_nu m) (hK : K (bi (o_nr (m_aj m) (m_nu m) H a)) h) :
    ∀ k j is, j + k = dg m a → (is = true ↔ ∃ b, b < m_nu m ∧ m_aj m a b = true ∧ fb_ct (m_aj m a) b < j ∧ H b = true) → am_J l g mX9_isNearHand d (0, 0, x) 8 [(0, .ref 46), (1, .int (nI a)), (2, .int (bi is)), (3, .int (nI (300 * a + j)))] [] h (fun r h' => ∃ v, r = some (.int v) ∧ K v h') := by
  have hn : m_nu m ≤ 300 := hv.1.2.2.2.2.2.1
  obtain ⟨f, ge, q3, q4, hNP⟩ := id hN
  have hdg : dg m a ≤ 300 := by have := fb_ct_le (m_aj m a) (m_nu m); unfold dg; omega
  obtain ⟨-, ⟨fh, p71, hfh⟩, -⟩ := hO
  intro k
  induction k with
  | zero =>
    intro j is hj his
    refine rX9_isNearHand_8 (gtR hM.1 rfl (alI q3 (by omega) (by omega) ?_))
    rw [(hNP a ha).1, x300, nI_add]
    refine ⟨fun _ => ⟨bi_01 is, _, rfl, ?_⟩, fun z => absurd (nI_le (by omega) (by omega)) z⟩
    rw [show is = o_nr (m_aj m) (m_nu m) H a from by
      rw [Bool.eq_iff_iff, his, o_nr_i]
      constructor
      · rintro ⟨b, c1, c2, c3, c4⟩; exact ⟨b, c1, c2, c4⟩
      · rintro ⟨b, c1, c2, c4⟩; exact ⟨b, c1, c2, by rw [show j = dg m a by omega]; exact dg_lt c1 c2, c4⟩]
    exact hK
  | succ k ih =>
    intro j is hj his
    obtain ⟨b, hb, hab, hct, hge⟩ := NP.at hNP ha (show j < dg m a by omega)
    have go : ∀ is', is' = (is || H b) → am_J l g mX9_isNearHand d (0, 0, x) 8 [(0, .ref 46), (1, .int (nI a)), (2, .int (bi is')), (3, .int (nI (300 * a + j) + 1))] [] h (fun r h' => ∃ v, r = some (.int v) ∧ K v h') := fun is' e => by
      rw [nI_1]
      refine ih (j + 1) is' (by omega) ?_
      rw [e, Bool.or_eq_true, his]
      constructor
      · rintro (⟨c, c1, c2, c3, c4⟩ | c)
        · exact ⟨c, c1, c2, by omega, c4⟩
        · exact ⟨b, hb, hab, by omega, c⟩
      · rintro ⟨c, c1, c2, c3, c4⟩
        by_cases y : fb_ct (m_aj m a) c = j
        · have := fb_ct_kth_one c2 hab (y.trans hct.symm)
          rw [this] at c4; exact Or.inr c4
        · exact Or.inl ⟨c, c1, c2, by omega, c4⟩
    refine rX9_isNearHand_8 (gtR hM.1 rfl (alI q3 (by omega) (by omega) ?_))
    rw [(hNP a ha).1, x300, nI_add]
    refine ⟨fun z => absurd ((nI_leI (by omega) (by omega)).mp z) (by omega), fun _ => ⟨fun z => ?_, fun z => gtR hM.1 rfl (gtR hM.1 rfl (alI q4 (by omega) (by omega) ?_))⟩⟩
    · unfold zX9_isNearHand_42 zX9_isNearHand_47
      exact go true (by rw [bi_n0.mp z]; rfl)
    · rw [hge]
      refine alI p71 (by omega) (by omega) ?_
      rw [hfh b hb]
      refine ⟨fun y => ?_, fun y => ?_⟩
      · unfold zX9_isNearHand_47
        exact go false (by rw [bi_0.mp z, bi_0.mp y]; rfl)
      · unfold zX9_isNearHand_42 zX9_isNearHand_47
        exact go true (by rw [bi_n0.mp y]; simp)
theorem ms_isNearHand {K : Int32 → am_H → Prop} {a : Nat} (hM : MM h m Wh o) (hv : ml_ok m) (hN : NR h m) (hO : OS h m C D H) (ha : a < m_nu m) (hK : K (bi (o_nr (m_aj m) (m_nu m) H a)) h) : cl_I l g mX9_isNearHand d x [.ref 46, .int (nI a)] h K := by
  refine eX9_isNearHand ?_
  unfold zX9_isNearHand_0
  rw [x300]
  exact lm_nearHand hM hv hN hO ha hK (dg m a) 0 false (by omega) ⟨fun c => (by cases c), fun ⟨b, _, _, c, _⟩ => (by omega)⟩
theorem lm_nextOpened {K : Int32 → am_H → Prop} (hM : MM h m Wh o) (hv : ml_ok m) (hN : NR h m) (hO : OS h m C D H) (hK : K (fi (o_nx (m_aj m) (m_nu m) C D H) (m_nu m)) h) :
    ∀ k a any, a + k = m_nu m → (∀ i, i < a → ((C i && !D i) && o_nr (m_aj m) (m_nu m) H i) = false) → ((any = -1 ∧ ∀ i, i < a → (C i && !D i) = false) ∨ (∃ j, any = nI j ∧ j < a ∧ (C j && !D j) = true ∧ ∀ i, i < j → (C i && !D i) = false)) → am_J l g mX9_nextOpened (d + 1) (0, 0, x) 4 [(0, .ref 46), (1, .int any), (2, .int (nI a))] [] h (fun r h' => ∃ v, r = some (.int v) ∧ K v h') := by
  have hn : m_nu m ≤ 300 := hv.1.2.2.2.2.2.1
  obtain ⟨⟨fc, p70, hfc⟩, -, ⟨fd, p72, hfd⟩⟩ := id hO
  intro k
  induction k with
  | zero =>
    intro a any ha hno hany
    have : a = m_nu m := by omega
    subst this
    refine rX9_nextOpened_4 (gtI hM.1 rfl ⟨fun _ => ⟨_, rfl, ?_⟩, fun z => absurd (nI_le (by omega) (by omega)) z⟩)
    have e : o_nx (m_aj m) (m_nu m) C D H = fa_first (fun k => C k && !D k) (m_nu m) := by
      unfold o_nx
      rw [ff_none hno, if_neg (Nat.lt_irrefl _)]
    rw [e] at hK
    unfold fi at hK
    rcases hany with ⟨c1, c2⟩ | ⟨j, c1, c2, c3, c4⟩
    · rw [ff_none c2, if_neg (Nat.lt_irrefl _)] at hK
      rw [c1]; exact hK
    · rw [ff_eq c2 c3 c4, if_pos c2] at hK
      rw [c1]; exact hK
  | succ k ih =>
    intro a any ha hno hany
    have han : a < m_nu m := by omega
    have skip : (C a && !D a) = false → zX9_nextOpened_50 l g d x 46 any (nI a) h (fun r h' => ∃ v, r = some (.int v) ∧ K v h') := fun c => by
      unfold zX9_nextOpened_50
      rw [nI_1]
      refine ih (a + 1) any (by omega) (fun i hi => ?_) (hany.elim (fun ⟨c1, c2⟩ => Or.inl ⟨c1, fun i hi => ?_⟩) (fun ⟨j, c1, c2, c3⟩ => Or.inr ⟨j, c1, by omega, c3⟩))
      · by_cases y : i = a
        · rw [y, c]; rfl
        · exact hno i (by omega)
      · by_cases y : i = a
        · rw [y]; exact c
        · exact c2 i (by omega)
    refine rX9_nextOpened_4 (gtI hM.1 rfl ⟨fun z => absurd ((nI_leI (by omega) (by omega)).mp z) (by omega), fun _ => gtR hM.1 rfl (alI p70 (by omega) (by omega) ?_)⟩)
    rw [hfc a han]
    refine ⟨fun z => skip (by rw [bi_0.mp z]; rfl), fun z => gtR hM.1 rfl (alI p72 (by omega) (by omega) ?_)⟩
    rw [hfd a han]
    refine ⟨fun y => skip (by rw [bi_n0.mp y]; simp), fun y => ⟨⟨_, hM.1⟩, ms_isNearHand hM hv hN hO han ?_⟩⟩
    have hlf : (C a && !D a) = true := by rw [bi_n0.mp z, bi_0.mp y]; rfl
    refine ⟨fun w => ?_, fun w => ⟨_, rfl, ?_⟩⟩
    · have hno' : ∀ i, i < a + 1 → ((C i && !D i) && o_nr (m_aj m) (m_nu m) H i) = false := fun i hi => by
        by_cases y : i = a
        · rw [y, bi_0.mp w, Bool.and_false]
        · exact hno i (by omega)
      rcases hany with ⟨c1, c2⟩ | ⟨j, c1, c2, c3, c4⟩
      · subst c1
        refine ⟨fun q => absurd q (show ¬ (0 : Int32) ≤ -1 by decide), fun _ => ?_⟩
        unfold zX9_nextOpened_49 zX9_nextOpened_50
        rw [nI_1]
        exact ih (a + 1) (nI a) (by omega) hno' (Or.inr ⟨a, rfl, by omega, hlf, c2⟩)
      · subst c1
        refine ⟨fun _ => ?_, fun q => absurd (nI_pos' (by omega)) q⟩
        unfold zX9_nextOpened_49 zX9_nextOpened_50
        rw [nI_1]
        exact ih (a + 1) (nI j) (by omega) hno' (Or.inr ⟨j, rfl, by omega, c3, c4⟩)
    · have e1 := ff_eq (p := fun k => (C k && !D k) && o_nr (m_aj m) (m_nu m) H k) han (by simp only [hlf, bi_n0.mp w]; rfl) hno
      have e : o_nx (m_aj m) (m_nu m) C D H = a := by
        unfold o_nx
        rw [e1, if_pos han]
      rw [e] at hK
      unfold fi at hK
      rw [if_pos han] at hK; exact hK
theorem ms_nextOpened {K : Int32 → am_H → Prop} (hM : MM h m Wh o) (hv : ml_ok m) (hN : NR h m) (hO : OS h m C D H) (hK : K (fi (o_nx (m_aj m) (m_nu m) C D H) (m_nu m)) h) : cl_I l g mX9_nextOpened (d + 1) x [.ref 46] h K :=
  eX9_nextOpened (lm_nextOpened hM hv hN hO hK (m_nu m) 0 (-1) (by omega) (fun i hi => by omega) (Or.inl ⟨rfl, fun i hi => by omega⟩))
theorem lm_hand {Q : Option Value → am_H → Prop} {i3 : Int32} {i1 : Int32} {a : Nat} (hM : MM h m Wh o) (hv : ml_ok m) (hN : NR h m) (ha : a < m_nu m)
    (hK : ∀ h', OS h' m C D (fun k => H k || m_aj m a k) → Fr 71 71 h h' → cv_I l g mX9_nextOpened d x 9 46 [] h' (fun v3 h2 => am_J l g mX9_order (d + 1) (0, 0, x) 55 [(0, .ref 46), (1, .int i1), (2, .int v3), (3, .int (i3 + 1))] [] h2 Q)) :
    ∀ k b h1, b + k = m_nu m → OS h1 m C D (fun k => H k || (m_aj m a k && decide (k < b))) → Fr 71 71 h h1 → am_J l g mX9_order (d + 1) (0, 0, x) 81 [(0, .ref 46), (1, .int i1), (2, .int (nI a)), (3, .int i3), (4, .int (nI b))] [] h1 Q := by
  have hn : m_nu m ≤ 300 := hv.1.2.2.2.2.2.1
  intro k
  induction k with
  | zero =>
    intro b h1 hb hO hf
    have : b = m_nu m := by omega
    subst this
    have hM1 := hM.out (h' := h1) (fun i hi => hf i (by omega))
    refine rX9_order_81 (gtI hM1.1 rfl ⟨fun _ => hK h1 ?_ hf, fun z => absurd (nI_le (by omega) (by omega)) z⟩)
    rw [show (fun k => H k || m_aj m a k) = (fun k => H k || (m_aj m a k && decide (k < m_nu m))) from funext fun k => by
      cases e : m_aj m a k with
      | false => rfl
      | true => rw [decide_eq_true (aj_th hv e).2.2.2.1]; rfl]
    exact hO
  | succ k ih =>
    intro b h1 hb hO hf
    have hM1 := hM.out (h' := h1) (fun i hi => hf i (by omega))
    have hbn : b < m_nu m := by omega
    obtain ⟨⟨fc, p70, hfc⟩, ⟨fh, p71, hfh⟩, ⟨fd, p72, hfd⟩⟩ := hO
    have hfh' : ∀ v, v < m_nu m → fh v = bi (H v || (m_aj m a v && decide (v < b))) := hfh
    have put : ∀ (y : Bool), y = (H b || m_aj m a b) → zX9_order_121 l g d x 46 i1 (nI a) i3 (nI b) 71 (nI b) (bi y) h1 Q := fun y hy => by
      refine ⟨bi_01 y, asI p71 (by omega) (by omega) ?_⟩
      rw [nI_1]
      refine ih (b + 1) _ (by omega) ⟨⟨fc, (st_ne (by decide)).trans p70, hfc⟩, ⟨_, st_eq p71, fun v hvn => ?_⟩, ⟨fd, (st_ne (by decide)).trans p72, hfd⟩⟩ (hf.st (by decide))
      show upd fh b (bi y) v = bi (H v || (m_aj m a v && decide (v < b + 1)))
      by_cases c : v = b
      · rw [c, pk_us, hy, decide_eq_true (show b < b + 1 from Nat.lt_succ_self b), Bool.and_true]
      · rw [pk_un c, hfh' v hvn, show decide (v < b) = decide (v < b + 1) from decide_eq_decide.mpr (by omega)]
    refine rX9_order_81 (gtI hM1.1 rfl ⟨fun z => absurd ((nI_leI (by omega) (by omega)).mp z) (by omega), fun _ => gtR hM1.1 rfl (gtR hM1.1 rfl (alI p71 (by omega) (by omega) ?_))⟩)
    rw [hfh' b hbn, show decide (b < b) = false from decide_eq_false (Nat.lt_irrefl _), Bool.and_false, Bool.or_false]
    refine ⟨fun z => ?_, fun z => ⟨⟨_, hM1.1⟩, ms_areLinked hM1 (by omega) (by omega) ⟨fun y => ?_, fun y => ?_⟩⟩⟩
    · exact put true (by rw [bi_n0.mp z]; rfl)
    · exact put false (by rw [bi_0.mp z, bi_0.mp y]; rfl)
    · exact put true (by rw [bi_n0.mp y]; simp)
theorem o_r_end {A : Nat → Nat → Bool} {nu n : Nat} {C : Nat → Bool} (h : ¬ o_r A nu C n < nu) : ∀ k, ¬ o_r A nu C (n + k) < nu := by
  have key : ∀ k, (∀ j, j < nu → (C j && !(o_st A nu C (n + k)).1 j) = false) := by
    intro k
    induction k with
    | zero =>
      intro j hj
      refine Bool.eq_false_iff.mpr (fun c => h ?_)
      exact o_nx_none.mpr ⟨j, hj, c⟩
    | succ k ih =>
      intro j hj
      show (C j && !fput (o_st A nu C (n + k)).1 (o_r A nu C (n + k)) true j) = false
      by_cases c : j = o_r A nu C (n + k)
      · rw [c, fput_s]; simp
      · rw [fput_n c]; exact ih j hj
  intro k c
  obtain ⟨j, h1, h2⟩ := o_nx_none.mp c
  rw [key k j h1] at h2; cases h2
/-- what the model answers: its i-th ring -/
theorem lm_order {Q : Option Value → am_H → Prop} {i : Nat} (hi : i < 2 ^ 31) (hM : MM h m Wh o) (hv : ml_ok m) (hN : NR h m)
    (hK : ∀ h', (∃ f, h'[71]? = some (am_I 2 300 f)) → (∃ f, h'[72]? = some (am_I 2 300 f)) → Fr 71 72 h h' → Q (some (.int (fi (o_r (m_aj m) (m_nu m) C i) (m_nu m)))) h') :
    ∀ k n h1, n + k = i → OS h1 m C (o_st (m_aj m) (m_nu m) C n).1 (o_st (m_aj m) (m_nu m) C n).2 → Fr 71 72 h h1 → am_J l g mX9_order (d + 2) (0, 0, x) 55 [(0, .ref 46), (1, .int (nI i)), (2, .int (fi (o_r (m_aj m) (m_nu m) C n) (m_nu m))), (3, .int (nI n))] [] h1 Q := by
  have hn : m_nu m ≤ 300 := hv.1.2.2.2.2.2.1
  intro k
  induction k with
  | zero =>
    intro n h1 hni hO hf
    have : n = i := by omega
    subst this
    obtain ⟨-, ⟨fh, p71, -⟩, ⟨fd, p72, -⟩⟩ := hO
    exact rX9_order_55 ⟨fun _ => hK h1 ⟨fh, p71⟩ ⟨fd, p72⟩ hf, fun z => absurd (nI_le (Nat.le_refl _) hi) z⟩
  | succ k ih =>
    intro n h1 hni hO hf
    have hM1 := hM.out (h' := h1) (fun i hi => hf i (by omega))
    obtain ⟨⟨fc, p70, hfc⟩, ⟨fh, p71, hfh⟩, ⟨fd, p72, hfd⟩⟩ := id hO
    refine rX9_order_55 ⟨fun z => absurd ((nI_leI hi (by omega)).mp z) (by omega), fun _ => ?_⟩
    by_cases c : o_r (m_aj m) (m_nu m) C n < m_nu m
    · rw [show fi (o_r (m_aj m) (m_nu m) C n) (m_nu m) = nI (o_r (m_aj m) (m_nu m) C n) from if_pos c]
      refine ⟨fun z => absurd z (nI_pos (by omega)), fun _ => gtR hM1.1 rfl (asI p72 (by omega) (by omega) ?_)⟩
      have M2 : MM (h1.set 72 (am_I 2 300 (upd fd (o_r (m_aj m) (m_nu m) C n) 1))) m Wh o := hM1.out (fun i hi => st_ne (by omega))
      have p71' : (h1.set 72 (am_I 2 300 (upd fd (o_r (m_aj m) (m_nu m) C n) 1)))[71]? = some (am_I 2 300 fh) := (st_ne (by decide)).trans p71
      refine gtR M2.1 rfl (asI p71' (by omega) (by omega) ?_)
      have F3 : Fr 71 72 h ((h1.set 72 (am_I 2 300 (upd fd (o_r (m_aj m) (m_nu m) C n) 1))).set 71 (am_I 2 300 (upd fh (o_r (m_aj m) (m_nu m) C n) 1))) := (hf.st (by decide)).st (by decide)
      have M3 : MM ((h1.set 72 (am_I 2 300 (upd fd (o_r (m_aj m) (m_nu m) C n) 1))).set 71 (am_I 2 300 (upd fh (o_r (m_aj m) (m_nu m) C n) 1))) m Wh o := M2.out (fun i hi => st_ne (by omega))
      have N3 : NR ((h1.set 72 (am_I 2 300 (upd fd (o_r (m_aj m) (m_nu m) C n) 1))).set 71 (am_I 2 300 (upd fh (o_r (m_aj m) (m_nu m) C n) 1))) m := hN.fr (F3 63 (by decide)) (F3 64 (by decide))
      refine lm_hand (d := d + 1) (C := C) (D := fput (o_st (m_aj m) (m_nu m) C n).1 (o_r (m_aj m) (m_nu m) C n) true) (H := fput (o_st (m_aj m) (m_nu m) C n).2 (o_r (m_aj m) (m_nu m) C n) true) M3 hv N3 c (fun h4 O4 f4 => ?_) (m_nu m) 0 _ (by omega) ⟨⟨fc, (st_ne (by decide)).trans ((st_ne (by decide)).trans p70), hfc⟩, ⟨_, st_eq p71', fun v hvn => ?_⟩, ⟨_, (st_ne (by decide)).trans (st_eq p72), see_p hfd⟩⟩ Fr.rf
      · rw [nI_1]
        have M4 := M3.out (h' := h4) (fun i hi => f4 i (by omega))
        have F4 : Fr 71 72 h h4 := F3.tr (f4.mono (by omega) (by omega))
        have e4 : (fun k => fput (o_st (m_aj m) (m_nu m) C n).2 (o_r (m_aj m) (m_nu m) C n) true k || m_aj m (o_r (m_aj m) (m_nu m) C n) k) = (o_st (m_aj m) (m_nu m) C (n + 1)).2 := funext fun k => by
          show _ = o_hd (m_aj m) (o_st (m_aj m) (m_nu m) C n).2 (o_r (m_aj m) (m_nu m) C n) k
          unfold o_hd
          by_cases c : k = o_r (m_aj m) (m_nu m) C n
          · rw [c, fput_s, decide_eq_true rfl, Bool.or_true]
          · rw [fput_n c, decide_eq_false c, Bool.or_false]
        rw [e4] at O4
        have O5 : OS h4 m C (o_st (m_aj m) (m_nu m) C (n + 1)).1 (o_st (m_aj m) (m_nu m) C (n + 1)).2 := O4
        exact ⟨⟨_, M4.1⟩, ms_nextOpened M4 hv (N3.fr (f4 63 (by decide)) (f4 64 (by decide))) O5 (ih (n + 1) h4 (by omega) O5 F4)⟩
      · rw [show (fun k => fput (o_st (m_aj m) (m_nu m) C n).2 (o_r (m_aj m) (m_nu m) C n) true k || (m_aj m (o_r (m_aj m) (m_nu m) C n) k && decide (k < 0))) v = fput (o_st (m_aj m) (m_nu m) C n).2 (o_r (m_aj m) (m_nu m) C n) true v from by simp]
        exact see_p hfh v hvn
    · rw [show fi (o_r (m_aj m) (m_nu m) C n) (m_nu m) = -1 from if_neg c]
      refine ⟨fun _ => ?_, fun z => absurd (show (-1 : Int32) < 0 by decide) z⟩
      have := hK h1 ⟨fh, p71⟩ ⟨fd, p72⟩ hf
      have e : ¬ o_r (m_aj m) (m_nu m) C i < m_nu m := by
        have := o_r_end c (k + 1)
        rw [hni] at this; exact this
      rw [show fi (o_r (m_aj m) (m_nu m) C i) (m_nu m) = -1 from if_neg e] at this
      exact this
theorem lm_order0 {Q : Option Value → am_H → Prop} {i1 : Int32} (hM : MM h m Wh o) (hv : ml_ok m)
    (hK : ∀ h' f1 f2, h'[71]? = some (am_I 2 300 f1) → h'[72]? = some (am_I 2 300 f2) → (∀ v, v < m_nu m → f1 v = 0 ∧ f2 v = 0) → Fr 71 72 h h' → cv_I l g mX9_nextOpened d x 9 46 [] h' (fun v3 h2 => am_J l g mX9_order (d + 1) (0, 0, x) 55 [(0, .ref 46), (1, .int i1), (2, .int v3), (3, .int 0)] [] h2 Q)) :
    ∀ k i h1 f1 f2, i + k = m_nu m → h1[71]? = some (am_I 2 300 f1) → h1[72]? = some (am_I 2 300 f2) → (∀ v, v < i → f1 v = 0 ∧ f2 v = 0) → Fr 71 72 h h1 → am_J l g mX9_order (d + 1) (0, 0, x) 20 [(0, .ref 46), (1, .int i1), (2, .int (nI i))] [] h1 Q := by
  have hn : m_nu m ≤ 300 := hv.1.2.2.2.2.2.1
  intro k
  induction k with
  | zero =>
    intro i h1 f1 f2 hi p1 p2 hz hf
    have hM1 := hM.out (h' := h1) (fun i hi => hf i (by omega))
    exact rX9_order_20 (gtI hM1.1 rfl ⟨fun _ => hK h1 f1 f2 p1 p2 (fun v hv => hz v (by omega)) hf, fun z => absurd (nI_le (by omega) (by omega)) z⟩)
  | succ k ih =>
    intro i h1 f1 f2 hi p1 p2 hz hf
    have hM1 := hM.out (h' := h1) (fun i hi => hf i (by omega))
    refine rX9_order_20 (gtI hM1.1 rfl ⟨fun z => absurd ((nI_leI (by omega) (by omega)).mp z) (by omega), fun _ => gtR hM1.1 rfl (asI p1 (by omega) (by omega) ?_)⟩)
    have M2 : MM (h1.set 71 (am_I 2 300 (upd f1 i 0))) m Wh o := hM1.out (fun i hi => st_ne (by omega))
    have p2' : (h1.set 71 (am_I 2 300 (upd f1 i 0)))[72]? = some (am_I 2 300 f2) := (st_ne (by decide)).trans p2
    refine gtR M2.1 rfl (asI p2' (by omega) (by omega) ?_)
    rw [nI_1]
    refine ih (i + 1) _ (upd f1 i 0) (upd f2 i 0) (by omega) ((st_ne (by decide)).trans (st_eq p1)) (st_eq p2') (fun v hv => ?_) ((hf.st (by decide)).st (by decide))
    by_cases e : v = i
    · rw [e, pk_us, pk_us]; exact ⟨rfl, rfl⟩
    · rw [pk_un e, pk_un e]; exact hz v (by omega)
end MORDER
