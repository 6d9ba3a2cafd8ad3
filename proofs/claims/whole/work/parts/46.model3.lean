section MODEL4
variable {l : Launch} {g : am_G} {d : Nat} {x : Bool} {h : am_H} {m : ml_T} {Wh : wv_T} {o : mo_T}
/-- the model's take: entries cleared one by one -/
def m_cl (m : ml_T) (r b : Nat) : ml_T := m_cut m r b
theorem lm_take {r : Nat} {n : Int32} {Q : Option Value → am_H → Prop} (hv : ml_g m) (hr : r < m_nu m) (hlim : ∀ a b, m_ov m a b = true → a < m_nu m ∧ b < m_nu m) (hK : ∀ h', MM h' (m_take m r) Wh o → Fr 60 61 h h' → Q (some (.int n)) h') : ∀ k c h1, c + k = m_nu m → MM h1 (m_cut m r c) Wh o → Fr 60 61 h h1 → am_J l g mX9_take (d + 1) (0, 0, x) 23 [(0, .ref 46), (1, .int (nI r)), (2, .int n), (3, .int (nI c))] [] h1 Q := by
  have b6 := hv.2.2.2.2.2.1
  intro k
  induction k with
  | zero =>
    intro c h1 hc hM hf
    have : c = m_nu m := by omega
    subst this
    obtain ⟨q0, hW, ⟨f, h60, h60'⟩, ⟨ft, h61, h61'⟩⟩ := hM
    refine rX9_take_23 (gtI q0 rfl ⟨fun _ => gtR q0 rfl (asI h60 (by omega) (by omega) ?_), fun hq => absurd (nI_le (a := m_nu m) (b := m_nu m) (Nat.le_refl _) (by omega)) hq⟩)
    refine hK _ ⟨(st_ne (by decide)).trans q0, hW.fr (fun i a b => st_ne (by omega)), ⟨_, st_eq h60, fun i hi => ?_⟩, ⟨ft, (st_ne (by decide)).trans h61, fun a b ha hb => ?_⟩⟩ (hf.st (by decide))
    · by_cases e : i = r
      · subst e
        rw [pk_us]
        have : m_th (m_take m i) i = false := if_pos rfl
        rw [this]; rfl
      · rw [pk_un e, h60' i hi]
        have : m_th (m_take m r) i = m_th m i := if_neg e
        rw [this]; rfl
    · rw [h61' a b ha hb]
      have key : ∀ u w, m_ov (m_take m r) u w = m_ov (m_cut m r (m_nu m)) u w := by
        intro u w
        show (if u = r ∨ w = r then false else m_ov m u w) = (if (u = r ∧ w < m_nu m) ∨ (w = r ∧ u < m_nu m) then false else m_ov m u w)
        cases hz : m_ov m u w with
        | false => simp
        | true =>
          obtain ⟨l1, l2⟩ := hlim u w hz
          simp [l1, l2]
      unfold tv
      rw [key, key]
  | succ k ih =>
    intro c h1 hc hM hf
    have q0 := hM.1
    refine rX9_take_23 (gtI q0 rfl ⟨fun hq => absurd ((nI_leI (a := m_nu m) (by omega) (by omega)).mp hq) (by omega), fun _ => ⟨⟨_, q0⟩, ?_⟩⟩)
    have hs := ms_sets (l := l) (g := g) (d := d) (x := x) (u := r) (v := c) (w := 0) (K := fun h4 => am_J l g mX9_take (d + 1) (0, 0, x) 23 [(0, .ref 46), (1, .int (nI r)), (2, .int n), (3, .int (nI c + 1))] [] h4 Q) hM (by omega) (by omega) (Or.inr rfl) (Or.inr (Or.inr rfl)) (fun h4 hM4 hf4 => ?_)
    · exact hs
    · rw [nI_1]
      refine ih (c + 1) h4 (by omega) ?_ (hf.tr (hf4.mono (by omega) (by omega)))
      refine MM.ext hM4 ⟨rfl, rfl, rfl, rfl, rfl⟩ (fun u w hu hw => ?_)
      show (if (u = r ∧ w < c + 1) ∨ (w = r ∧ u < c + 1) then false else m_ov m u w) = (if u = r ∧ w = c then decide ((0 : Int) = 1) else if u = c ∧ w = r then decide ((0 : Int) = -1) else (if (u = r ∧ w < c) ∨ (w = r ∧ u < c) then false else m_ov m u w))
      by_cases e1 : u = r ∧ w = c
      · rw [if_pos e1, if_pos (by omega)]; rfl
      · rw [if_neg e1]
        by_cases e2 : u = c ∧ w = r
        · rw [if_pos e2, if_pos (by omega)]; rfl
        · rw [if_neg e2]
          by_cases e3 : (u = r ∧ w < c) ∨ (w = r ∧ u < c)
          · rw [if_pos e3, if_pos (by omega)]
          · rw [if_neg e3, if_neg (by omega)]
theorem ms_take {r : Int32} {K : Int32 → am_H → Prop} (hM : MM h m Wh o) (hv : ml_ok m) (h0 : ∀ h', MM h' m Wh (o_0 o) → FrM h h' → (r < 0 ∨ nI (m_nu m) ≤ r ∨ ∃ j, j < m_nu m ∧ r = nI j ∧ m_th m j = false) → K (-1) h') (h1 : ∀ h' j, j < m_nu m → r = nI j → m_th m j = true → MM h' (m_take m j) Wh (o_0 o) → FrM h h' → K (nI (fb_ct (m_aj m j) (m_nu m))) h') : cl_I l g mX9_take (d + 1) x [.ref 46, .int r] h K := by
  have b6 := hv.1.2.2.2.2.2.1
  refine eX9_take (mt_thr hM fun h' hM1 hf1 => ⟨⟨_, hM1.1⟩, ms_isRing hM1 hv.1 (fun hq => ⟨fun z => absurd rfl z, fun _ => ⟨_, rfl, h0 h' hM1 (hf1.m (by omega)) (hq.elim Or.inl (fun z => Or.inr (Or.inl z)))⟩⟩) (fun j hj e => ⟨fun hz => ?_, fun hz => ⟨_, rfl, h0 h' hM1 (hf1.m (by omega)) (Or.inr (Or.inr ⟨j, hj, e, bi_0.mp hz⟩))⟩⟩)⟩)
  subst e
  have hth := bi_n0.mp hz
  refine ⟨⟨_, hM1.1⟩, ms_linksOf hM1 hv.1 (by omega) ?_⟩
  have hlim : ∀ a b, m_ov m a b = true → a < m_nu m ∧ b < m_nu m := fun a b hab => ⟨hv.2.1 a (hv.2.2 a b hab).1, hv.2.1 b (hv.2.2 a b hab).2.1⟩
  refine lm_take (h := h') hv.1 hj hlim (fun h2 a b => ⟨_, rfl, h1 h2 j hj rfl hth a ((hf1.m (by omega)).tr (b.m (by omega)))⟩) (m_nu m) 0 h' (by omega) ?_ Fr.rf
  refine MM.ext hM1 ⟨rfl, rfl, rfl, rfl, rfl⟩ (fun u w _ _ => ?_)
  show (if (u = j ∧ w < 0) ∨ (w = j ∧ u < 0) then false else m_ov m u w) = m_ov m u w
  rw [if_neg (by omega)]
theorem ms_link {a b : Int32} {K : Int32 → am_H → Prop} (hM : MM h m Wh o) (hv : ml_ok m) (h0 : ∀ h', MM h' m Wh (o_0 o) → FrM h h' → ¬ (∃ i j, i < m_nu m ∧ j < m_nu m ∧ a = nI i ∧ b = nI j ∧ m_th m i = true ∧ m_th m j = true ∧ i ≠ j ∧ m_aj m i j = false) → K 0 h') (h1 : ∀ h' i j, i < m_nu m → j < m_nu m → a = nI i → b = nI j → m_th m i = true → m_th m j = true → i ≠ j → m_aj m i j = false → MM h' (m_link m i j) Wh (o_0 o) → FrM h h' → K 1 h') : cl_I l g mX9_link (d + 1) x [.ref 46, .int a, .int b] h K := by
  have b6 := hv.1.2.2.2.2.2.1
  refine eX9_link (mt_thr hM fun h' hM1 hf1 => ?_)
  have hf1' : FrM h h' := hf1.m (by omega)
  have no : (¬ ∃ i j, i < m_nu m ∧ j < m_nu m ∧ a = nI i ∧ b = nI j ∧ m_th m i = true ∧ m_th m j = true ∧ i ≠ j ∧ m_aj m i j = false) → ∃ v, some (Value.int 0) = some (.int v) ∧ K v h' := fun hq => ⟨_, rfl, h0 h' hM1 hf1' hq⟩
  refine ⟨⟨_, hM1.1⟩, ms_isRing hM1 hv.1 (fun hq => ⟨fun _ => no ?_, fun z => absurd rfl z⟩) (fun i hi e => ⟨fun hz => no ?_, fun hz => ⟨⟨_, hM1.1⟩, ms_isRing hM1 hv.1 (fun hq => ⟨fun _ => no ?_, fun z => absurd rfl z⟩) (fun j hj e' => ⟨fun hy => no ?_, fun hy => ⟨fun he => no ?_, fun he => ?_⟩⟩)⟩⟩)⟩
  · rintro ⟨i, j, hi, hj, rfl, -⟩
    rcases hq with q | q
    · exact nI_pos (by omega) q
    · exact absurd ((nI_leI (by omega) (by omega)).mp q) (by omega)
  · rintro ⟨i', j, hi', hj, e2, -, h3, -⟩
    have : i = i' := nI_eqI (by omega) (by omega) (e.symm.trans e2)
    rw [this] at hz
    rw [bi_0.mp hz] at h3; cases h3
  · rintro ⟨i', j, hi', hj, -, rfl, -⟩
    rcases hq with q | q
    · exact nI_pos (by omega) q
    · exact absurd ((nI_leI (by omega) (by omega)).mp q) (by omega)
  · rintro ⟨i', j', hi', hj', -, e2, -, h3, -⟩
    have : j = j' := nI_eqI (by omega) (by omega) (e'.symm.trans e2)
    rw [this] at hy
    rw [bi_0.mp hy] at h3; cases h3
  · rintro ⟨i', j', hi', hj', e1, e2, -, -, h4, -⟩
    exact h4 (nI_eqI (by omega) (by omega) (e1.symm.trans (he.trans e2)))
  · subst e; subst e'
    have hij : i ≠ j := fun z => he (by rw [z])
    refine ⟨⟨_, hM1.1⟩, ms_areLinked hM1 (by omega) (by omega) ⟨fun hw => ⟨⟨_, hM1.1⟩, ?_⟩, fun hw => no ?_⟩⟩
    · have haj := bi_0.mp hw
      have hs := ms_sets (l := l) (g := g) (d := d) (x := x) (u := i) (v := j) (w := 1) (K := fun h8 => ∃ v, some (Value.int 1) = some (.int v) ∧ K v h8) hM1 (by omega) (by omega) (Or.inl hij) (Or.inl rfl) (fun h8 hM8 hf8 => ⟨_, rfl, h1 h8 i j hi hj rfl rfl (bi_n0.mp hz) (bi_n0.mp hy) hij haj ?_ (hf1'.tr (hf8.m (by omega)))⟩)
      · exact hs
      · refine MM.ext hM8 ⟨rfl, rfl, rfl, rfl, rfl⟩ (fun u w hu hw => ?_)
        show (if u = i ∧ w = j then true else m_ov m u w) = (if u = i ∧ w = j then decide ((1 : Int) = 1) else if u = j ∧ w = i then decide ((1 : Int) = -1) else m_ov m u w)
        by_cases e1 : u = i ∧ w = j
        · rw [if_pos e1, if_pos e1]; rfl
        · rw [if_neg e1, if_neg e1]
          by_cases e2 : u = j ∧ w = i
          · rw [if_pos e2, e2.1, e2.2]
            simp only [m_aj, Bool.or_eq_false_iff] at haj
            rw [haj.2]; rfl
          · rw [if_neg e2]
    · rintro ⟨i', j', hi', hj', e1, e2, -, -, -, h5⟩
      have q1 : i = i' := nI_eqI (by omega) (by omega) e1
      have q2 : j = j' := nI_eqI (by omega) (by omega) e2
      rw [q1, q2] at hw
      rw [bi_n0.mp hw] at h5; cases h5
theorem ms_unlink {a b : Int32} {K : Int32 → am_H → Prop} (hM : MM h m Wh o) (hv : ml_ok m) (h0 : ∀ h', MM h' m Wh (o_0 o) → FrM h h' → ¬ (∃ i j, i < m_nu m ∧ j < m_nu m ∧ a = nI i ∧ b = nI j ∧ m_th m i = true ∧ m_th m j = true ∧ m_aj m i j = true) → K 0 h') (h1 : ∀ h' i j, i < m_nu m → j < m_nu m → a = nI i → b = nI j → m_th m i = true → m_th m j = true → m_aj m i j = true → MM h' (m_unlink m i j) Wh (o_0 o) → FrM h h' → K 1 h') : cl_I l g mX9_unlink (d + 1) x [.ref 46, .int a, .int b] h K := by
  have b6 := hv.1.2.2.2.2.2.1
  refine eX9_unlink (mt_thr hM fun h' hM1 hf1 => ?_)
  have hf1' : FrM h h' := hf1.m (by omega)
  have no : (¬ ∃ i j, i < m_nu m ∧ j < m_nu m ∧ a = nI i ∧ b = nI j ∧ m_th m i = true ∧ m_th m j = true ∧ m_aj m i j = true) → ∃ v, some (Value.int 0) = some (.int v) ∧ K v h' := fun hq => ⟨_, rfl, h0 h' hM1 hf1' hq⟩
  refine ⟨⟨_, hM1.1⟩, ms_isRing hM1 hv.1 (fun hq => ⟨fun _ => no ?_, fun z => absurd rfl z⟩) (fun i hi e => ⟨fun hz => no ?_, fun hz => ⟨⟨_, hM1.1⟩, ms_isRing hM1 hv.1 (fun hq => ⟨fun _ => no ?_, fun z => absurd rfl z⟩) (fun j hj e' => ⟨fun hy => no ?_, fun hy => ?_⟩)⟩⟩)⟩
  · rintro ⟨i, j, hi, hj, rfl, -⟩
    rcases hq with q | q
    · exact nI_pos (by omega) q
    · exact absurd ((nI_leI (by omega) (by omega)).mp q) (by omega)
  · rintro ⟨i', j, hi', hj, e2, -, h3, -⟩
    have : i = i' := nI_eqI (by omega) (by omega) (e.symm.trans e2)
    rw [this] at hz
    rw [bi_0.mp hz] at h3; cases h3
  · rintro ⟨i', j, hi', hj, -, rfl, -⟩
    rcases hq with q | q
    · exact nI_pos (by omega) q
    · exact absurd ((nI_leI (by omega) (by omega)).mp q) (by omega)
  · rintro ⟨i', j', hi', hj', -, e2, -, h3, -⟩
    have : j = j' := nI_eqI (by omega) (by omega) (e'.symm.trans e2)
    rw [this] at hy
    rw [bi_0.mp hy] at h3; cases h3
  · subst e; subst e'
    refine ⟨⟨_, hM1.1⟩, ms_areLinked hM1 (by omega) (by omega) ⟨fun hw => ⟨⟨_, hM1.1⟩, ?_⟩, fun hw => no ?_⟩⟩
    · have haj := bi_n0.mp hw
      have hs := ms_sets (l := l) (g := g) (d := d) (x := x) (u := i) (v := j) (w := 0) (K := fun h8 => ∃ v, some (Value.int 1) = some (.int v) ∧ K v h8) hM1 (by omega) (by omega) (Or.inr rfl) (Or.inr (Or.inr rfl)) (fun h8 hM8 hf8 => ⟨_, rfl, h1 h8 i j hi hj rfl rfl (bi_n0.mp hz) (bi_n0.mp hy) haj ?_ (hf1'.tr (hf8.m (by omega)))⟩)
      · exact hs
      · refine MM.ext hM8 ⟨rfl, rfl, rfl, rfl, rfl⟩ (fun u w hu hw => ?_)
        show (if (u = i ∧ w = j) ∨ (u = j ∧ w = i) then false else m_ov m u w) = (if u = i ∧ w = j then decide ((0 : Int) = 1) else if u = j ∧ w = i then decide ((0 : Int) = -1) else m_ov m u w)
        by_cases e1 : u = i ∧ w = j
        · rw [if_pos e1, if_pos (Or.inl e1)]; rfl
        · rw [if_neg e1]
          by_cases e2 : u = j ∧ w = i
          · rw [if_pos e2, if_pos (Or.inr e2)]; rfl
          · rw [if_neg e2, if_neg (fun z => z.elim e1 e2)]
    · rintro ⟨i', j', hi', hj', e1, e2, -, -, h5⟩
      have q1 : i = i' := nI_eqI (by omega) (by omega) e1
      have q2 : j = j' := nI_eqI (by omega) (by omega) e2
      rw [q1, q2] at hw
      rw [bi_0.mp hw] at h5; cases h5
theorem ms_over {a b : Int32} {K : Int32 → am_H → Prop} (hM : MM h m Wh o) (hv : ml_ok m) (h0 : ∀ h', MM h' m Wh (o_0 o) → FrM h h' → ¬ (∃ i j, i < m_nu m ∧ j < m_nu m ∧ a = nI i ∧ b = nI j ∧ m_th m i = true ∧ m_th m j = true) → K (-2) h') (h1 : ∀ h' i j, i < m_nu m → j < m_nu m → a = nI i → b = nI j → m_th m i = true → m_th m j = true → MM h' m Wh (o_0 o) → FrM h h' → K (tv (m_ov m) i j) h') : cl_I l g mX9_over (d + 1) x [.ref 46, .int a, .int b] h K := by
  have b6 := hv.1.2.2.2.2.2.1
  refine eX9_over (mt_thr hM fun h' hM1 hf1 => ?_)
  have hf1' : FrM h h' := hf1.m (by omega)
  have no : (¬ ∃ i j, i < m_nu m ∧ j < m_nu m ∧ a = nI i ∧ b = nI j ∧ m_th m i = true ∧ m_th m j = true) → ∃ v, some (Value.int (-2)) = some (.int v) ∧ K v h' := fun hq => ⟨_, rfl, h0 h' hM1 hf1' hq⟩
  refine ⟨⟨_, hM1.1⟩, ms_isRing hM1 hv.1 (fun hq => ⟨fun _ => no ?_, fun z => absurd rfl z⟩) (fun i hi e => ⟨fun hz => no ?_, fun hz => ⟨⟨_, hM1.1⟩, ms_isRing hM1 hv.1 (fun hq => ⟨fun _ => no ?_, fun z => absurd rfl z⟩) (fun j hj e' => ⟨fun hy => no ?_, fun hy => ?_⟩)⟩⟩)⟩
  · rintro ⟨i, j, hi, hj, rfl, -⟩
    rcases hq with q | q
    · exact nI_pos (by omega) q
    · exact absurd ((nI_leI (by omega) (by omega)).mp q) (by omega)
  · rintro ⟨i', j, hi', hj, e2, -, h3, -⟩
    have : i = i' := nI_eqI (by omega) (by omega) (e.symm.trans e2)
    rw [this] at hz
    rw [bi_0.mp hz] at h3; cases h3
  · rintro ⟨i', j, hi', hj, -, rfl, -⟩
    rcases hq with q | q
    · exact nI_pos (by omega) q
    · exact absurd ((nI_leI (by omega) (by omega)).mp q) (by omega)
  · rintro ⟨i', j', hi', hj', -, e2, -, h3⟩
    have : j = j' := nI_eqI (by omega) (by omega) (e'.symm.trans e2)
    rw [this] at hy
    rw [bi_0.mp hy] at h3; cases h3
  · subst e; subst e'
    obtain ⟨q0, -, -, ⟨ft, h61, h61'⟩⟩ := id hM1
    refine gtR q0 rfl ?_
    rw [ix_t]
    refine alI h61 (by omega) (by omega) ?_
    rw [h61' i j (by omega) (by omega)]
    exact ⟨_, rfl, h1 h' i j hi hj rfl rfl (bi_n0.mp hz) (bi_n0.mp hy) hM1 hf1'⟩
end MODEL4
