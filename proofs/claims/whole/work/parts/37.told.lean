/-! ===== links as the weave tells them ===== -/
def m_o (m : ml_T) (t : Nat) : Bool := (m.1.2.2 t).2.2.2.2
def m_j1 (m : ml_T) (r t : Nat) (f : Bool) : ml_T := if (m_is m r t f && m_in m r t f && m_th m (m_oth m r t f)) = true then (if m_o m t = f then m_link m r (m_oth m r t f) else m_link m (m_oth m r t f) r) else m
def m_jt (m : ml_T) (r : Nat) : Nat → ml_T
  | 0 => m
  | n + 1 => m_j1 (m_j1 (m_jt m r n) r n true) r n false
/-- the same weave, sheet, numbers and rings -/
def m_eq (m m' : ml_T) : Prop := m'.1 = m.1 ∧ m'.2.1 = m.2.1 ∧ m'.2.2.1 = m.2.2.1 ∧ m'.2.2.2.1 = m.2.2.2.1 ∧ m'.2.2.2.2.1 = m.2.2.2.2.1
theorem m_eq.rf {m : ml_T} : m_eq m m := ⟨rfl, rfl, rfl, rfl, rfl⟩
theorem m_eq.tr {a b c : ml_T} (h1 : m_eq a b) (h2 : m_eq b c) : m_eq a c := ⟨h2.1.trans h1.1, h2.2.1.trans h1.2.1, h2.2.2.1.trans h1.2.2.1, h2.2.2.2.1.trans h1.2.2.2.1, h2.2.2.2.2.trans h1.2.2.2.2⟩
theorem m_j1_eq (m : ml_T) (r t : Nat) (f : Bool) : m_eq m (m_j1 m r t f) := by
  unfold m_j1
  split
  · split <;> exact ⟨rfl, rfl, rfl, rfl, rfl⟩
  · exact m_eq.rf
theorem m_jt_eq (m : ml_T) (r : Nat) : ∀ n, m_eq m (m_jt m r n)
  | 0 => m_eq.rf
  | n + 1 => (m_jt_eq m r n).tr ((m_j1_eq _ r n true).tr (m_j1_eq _ r n false))
theorem m_eq.g {m m' : ml_T} (h : m_eq m m') (hv : ml_g m) : ml_g m' := by
  obtain ⟨e1, e2, e3, e4, e5⟩ := h
  unfold ml_g m_sh m_nu at *
  rw [e1, e2, e3, e4]
  exact hv
theorem m_eq.sh {m m' : ml_T} (h : m_eq m m') : m_sh m' = m_sh m := by
  obtain ⟨e1, e2, e3, e4, e5⟩ := h
  unfold m_sh
  rw [e1, e2, e3]
theorem m_eq.is {m m' : ml_T} (h : m_eq m m') (r t : Nat) (f : Bool) : m_is m' r t f = m_is m r t f ∧ m_in m' r t f = m_in m r t f ∧ m_oth m' r t f = m_oth m r t f ∧ m_o m' t = m_o m t ∧ (∀ i, m_th m' i = m_th m i) := by
  obtain ⟨e1, e2, e3, e4, e5⟩ := h
  unfold m_is m_in m_oth m_cx m_cy m_sx m_sy m_end m_o m_th
  rw [e1, e2, e3, e5]
  exact ⟨rfl, rfl, rfl, rfl, fun _ => rfl⟩
section TOLD
variable {l : Launch} {g : am_G} {d : Nat} {x : Bool} {h : am_H} {m : ml_T} {ch : Nat}
theorem sp_standsAsTold {r t : Nat} {f : Bool} {K : Int32 → am_H → Prop} (hM : MC h m ch) (hv : ml_g m) (hr : r < m_sh m) (ht : t < m.1.2.1) (hK : K (bi (!m_is m r t f || (m_in m r t f && (if m_o m t = f then m_ov m r (m_oth m r t f) else m_ov m (m_oth m r t f) r)))) h) : cl_I l g mX0_standsAsTold (d + 2) x [.ref 6, .int (nI r), .int (nI t), .int (bi f)] h K := by
  have b5 := hv.2.2.2.1
  have b4 := hv.1.2.1
  refine eX0_standsAsTold ⟨⟨_, hM.1⟩, sp_isOfLink hM hv (by omega) ht ⟨fun hz => ?_, fun hz => ?_⟩⟩
  · have hi : m_is m r t f = true := bi_n0.mp hz
    rw [hi] at hK
    refine ⟨⟨_, hM.1⟩, sp_otherAsTold hM hv hr ht (fun hin => ⟨fun _ => ?_, fun he => absurd he ?_⟩) (fun hin => ⟨fun he => absurd rfl he, fun _ => ⟨0, rfl, ?_⟩⟩)⟩
    · rw [hin] at hK
      have ho := m_oth_lt hv ht hin
      obtain ⟨q0, ⟨q7, f1, f2, f3, f4, f5, w1, w2, w3, w4, w5, w6⟩, -, h14, -, ⟨fa, h15, h15'⟩, -⟩ := hM
      refine gtR q0 rfl (gtR q7 rfl (alI w5 (by omega) (by omega) ?_))
      rw [(w6 t ht).2.2.2.2]
      refine ⟨fun he => gtR q0 rfl ⟨⟨_, h14⟩, sp_has h14 h15 (by omega) (by omega) (by omega) (by omega) ?_⟩, fun he => gtR q0 rfl ⟨⟨_, h14⟩, sp_has h14 h15 (by omega) (by omega) (by omega) (by omega) ?_⟩⟩
      · have hne : ¬ m_o m t = f := fun e => he (by show bi (m_o m t) = bi f; rw [e])
        rw [h15' _ _ (by omega) (by omega)]
        rw [if_neg hne] at hK
        exact ⟨bi_01 _, _, rfl, by simpa using hK⟩
      · have hne : m_o m t = f := by
          have he' : bi (m_o m t) = bi f := he
          cases h1 : m_o m t <;> cases h2 : f <;> rw [h1, h2] at he' <;> first | rfl | exact absurd he' (by decide)
        rw [h15' _ _ (by omega) (by omega)]
        rw [if_pos hne] at hK
        exact ⟨bi_01 _, _, rfl, by simpa using hK⟩
    · intro he
      have ho := m_oth_lt hv ht hin
      have := congrArg Int32.toInt he
      rw [nI_toInt (by omega)] at this
      have e2 : (-1 : Int32).toInt = -1 := rfl
      rw [e2] at this
      omega
    · rw [hin] at hK
      simpa [bi] using hK
  · have hi : m_is m r t f = false := bi_0.mp hz
    rw [hi] at hK
    exact ⟨1, rfl, by simpa [bi] using hK⟩
def m_fl (m : ml_T) (r t : Nat) (f : Bool) : Bool := !m_is m r t f || (m_in m r t f && (if m_o m t = f then m_ov m r (m_oth m r t f) else m_ov m (m_oth m r t f) r))
def m_fla (m : ml_T) (r : Nat) : Nat → Bool
  | 0 => true
  | n + 1 => m_fla m r n && (m_fl m r n true && m_fl m r n false)
theorem m_fla_mono {m : ml_T} {r : Nat} {a : Nat} : ∀ b, a ≤ b → m_fla m r a = false → m_fla m r b = false := by
  intro b
  induction b with
  | zero => intro h h2; have : a = 0 := by omega
            subst this; exact h2
  | succ b ih =>
    intro h h2
    by_cases e : a = b + 1
    · subst e; exact h2
    · simp only [m_fla]; rw [ih (by omega) h2]; rfl
/-- full: of a cell, there, with all its links by the weave -/
def m_full (m : ml_T) (r : Nat) : Bool := m_th m r && (decide (r < m_sh m) && m_fla m r m.1.2.1)
theorem lp_isFull {r : Nat} {Q : Option Value → am_H → Prop} (hM : MC h m ch) (hv : ml_g m) (hr : r < m_sh m) (hK : Q (some (.int (bi (m_fla m r m.1.2.1)))) h) : ∀ k c, c + k = m.1.2.1 → m_fla m r c = true → am_J l g mX0_isFull (d + 3) (0, 0, x) 20 [(0, .ref 6), (1, .int (nI r)), (2, .int (nI c))] [] h Q := by
  have b4 := hv.1.2.1
  have hM' := hM
  obtain ⟨q0, ⟨q7, -⟩, -⟩ := hM'
  intro k
  induction k with
  | zero =>
    intro c hc hf
    have : c = m.1.2.1 := by omega
    subst this
    rw [hf] at hK
    exact rX0_isFull_20 (gtR q0 rfl (gtI q7 rfl ⟨fun _ => hK, fun hq => absurd (nI_le (Nat.le_refl _) (by omega)) hq⟩))
  | succ k ih =>
    intro c hc hf
    refine rX0_isFull_20 (gtR q0 rfl (gtI q7 rfl ⟨fun hq => absurd ((nI_leI (by omega) (by omega)).mp hq) (by omega), fun _ => ?_⟩))
    refine ⟨⟨_, q0⟩, sp_standsAsTold (f := true) hM hv hr (by omega) ?_⟩
    have fin : ∀ b : Bool, b = false → m_fla m r (c + 1) = b → Q (some (.int 0)) h := fun b hb he => by
      rw [hb] at he
      rw [m_fla_mono m.1.2.1 (by omega) he] at hK
      exact hK
    refine ⟨fun hz => ?_, fun hz => ⟨⟨_, q0⟩, sp_standsAsTold (f := false) hM hv hr (by omega) ⟨fun hy => ?_, fun hy => ?_⟩⟩⟩
    · refine fin _ rfl ?_
      have : m_fl m r c true = false := bi_0.mp hz
      simp only [m_fla]; rw [this]; simp
    · have e1 : m_fl m r c true = true := bi_n0.mp hz
      have e2 : m_fl m r c false = true := bi_n0.mp hy
      rw [nI_1]
      refine ih (c + 1) (by omega) ?_
      simp only [m_fla]; rw [hf, e1, e2]; rfl
    · refine fin _ rfl ?_
      have : m_fl m r c false = false := bi_0.mp hy
      simp only [m_fla]; rw [this]; simp
theorem sp_isFull {r : Nat} {K : Int32 → am_H → Prop} (hM : MC h m ch) (hv : ml_g m) (hr : r < m_nu m) (hK : K (bi (m_full m r)) h) : cl_I l g mX0_isFull (d + 3) x [.ref 6, .int (nI r)] h K := by
  have b6 := hv.2.2.2.2.2.1
  have b5 := hv.2.2.2.1
  refine eX0_isFull ⟨⟨_, hM.1⟩, sp_isThere hM hv (fun hq => ?_) (fun j hj e => ?_)⟩
  · rcases hq with q | q
    · exact absurd q (nI_pos (by omega))
    · exact absurd ((nI_leI (by omega) (by omega)).mp q) (by omega)
  · have : r = j := (nI_eq (by omega) (by omega)).mp e
    subst this
    refine ⟨fun hz => ⟨0, rfl, ?_⟩, fun hz => gtI hM.1 rfl ⟨fun hy => ?_, fun hy => ⟨0, rfl, ?_⟩⟩⟩
    · have e1 : m_th m r = false := bi_0.mp hz
      unfold m_full at hK; rw [e1] at hK; exact hK
    · have e1 : m_th m r = true := bi_n0.mp hz
      have hlt : r < m_sh m := (nI_ltI (by omega) (by omega)).mp hy
      refine lp_isFull hM hv hlt ⟨_, rfl, ?_⟩ m.1.2.1 0 (by omega) rfl
      unfold m_full at hK
      rw [e1, decide_eq_true hlt] at hK
      exact hK
    · have hlt : ¬ r < m_sh m := fun q => hy ((nI_ltI (by omega) (by omega)).mpr q)
      unfold m_full at hK
      rw [decide_eq_false hlt] at hK
      simpa [bi] using hK
theorem sp_joinOne {r t : Nat} {f : Bool} {K : am_H → Prop} (hM : MC h m ch) (hv : ml_g m) (hr : r < m_sh m) (ht : t < m.1.2.1) (hK : ∀ h' ch', MC h' (m_j1 m r t f) ch' → ch ≤ ch' → ch' ≤ ch + 1 → Fr 6 17 h h' → K h') : cl_N l g mX0_joinOneAsTold (d + 2) x [.ref 6, .int (nI r), .int (nI t), .int (bi f)] h K := by
  have b5 := hv.2.2.2.1
  have b4 := hv.1.2.1
  have b6 := hv.2.2.2.2.2.1
  have b7 := hv.2.2.2.2.1
  refine eX0_joinOneAsTold ⟨⟨_, hM.1⟩, sp_isOfLink hM hv (by omega) ht ⟨fun hz => ?_, fun hz => ?_⟩⟩
  · have hi : m_is m r t f = true := bi_n0.mp hz
    refine ⟨⟨_, hM.1⟩, sp_otherAsTold hM hv hr ht (fun hin => ?_) (fun hin => ?_)⟩
    · have ho := m_oth_lt hv ht hin
      refine ⟨⟨_, hM.1⟩, sp_isThere hM hv (fun hq => ?_) (fun j hj e => ?_)⟩
      · rcases hq with q | q
        · exact absurd q (nI_pos (by omega))
        · exact absurd ((nI_leI (by omega) (by omega)).mp q) (by omega)
      · have : m_oth m r t f = j := (nI_eq (by omega) (by omega)).mp e
        subst this
        refine ⟨fun hy => ?_, fun hy => ?_⟩
        · have e1 : m_th m (m_oth m r t f) = true := bi_n0.mp hy
          have hM' := hM
          obtain ⟨q0, ⟨q7, f1, f2, f3, f4, f5, w1, w2, w3, w4, w5, w6⟩, -⟩ := hM'
          refine gtR q0 rfl (gtR q7 rfl (alI w5 (by omega) (by omega) ?_))
          rw [(w6 t ht).2.2.2.2]
          have hj1 : m_j1 m r t f = (if m_o m t = f then m_link m r (m_oth m r t f) else m_link m (m_oth m r t f) r) := by
            unfold m_j1; rw [hi, hin, e1]; rfl
          refine ⟨fun he => ⟨⟨_, q0⟩, sp_join hM (by omega) (by omega) fun h' hm hf => ⟨rfl, hK h' (ch + 1) ?_ (by omega) (by omega) hf⟩⟩, fun he => ⟨⟨_, q0⟩, sp_join hM (by omega) (by omega) fun h' hm hf => ⟨rfl, hK h' (ch + 1) ?_ (by omega) (by omega) hf⟩⟩⟩
          · have hne : ¬ m_o m t = f := fun e => he (by show bi (m_o m t) = bi f; rw [e])
            rw [hj1, if_neg hne]; exact hm
          · have hne : m_o m t = f := by
              have he' : bi (m_o m t) = bi f := he
              cases h1 : m_o m t <;> cases h2 : f <;> rw [h1, h2] at he' <;> first | rfl | exact absurd he' (by decide)
            rw [hj1, if_pos hne]; exact hm
        · have e1 : m_th m (m_oth m r t f) = false := bi_0.mp hy
          refine ⟨rfl, hK h ch ?_ (by omega) (by omega) Fr.rf⟩
          unfold m_j1; rw [e1]; simpa using hM
    · refine ⟨⟨_, hM.1⟩, sp_isThere hM hv (fun hq => ⟨fun z => absurd rfl z, fun _ => ⟨rfl, hK h ch ?_ (by omega) (by omega) Fr.rf⟩⟩) (fun j hj e => ?_)⟩
      · unfold m_j1; rw [hin]; simpa using hM
      · exfalso
        have := congrArg Int32.toInt e
        rw [nI_toInt (by omega)] at this
        have e2 : (-1 : Int32).toInt = -1 := rfl
        rw [e2] at this
        omega
  · have hi : m_is m r t f = false := bi_0.mp hz
    refine ⟨rfl, hK h ch ?_ (by omega) (by omega) Fr.rf⟩
    unfold m_j1; rw [hi]; simpa using hM
theorem lp_joinAll {r : Nat} {Q : Option Value → am_H → Prop} (hv : ml_g m) (hr : r < m_sh m) (hK : ∀ h' ch', MC h' (m_jt m r m.1.2.1) ch' → ch ≤ ch' → ch' ≤ ch + 2 * m.1.2.1 → Fr 6 17 h h' → Q none h') : ∀ k c h1 c1, c + k = m.1.2.1 → MC h1 (m_jt m r c) c1 → ch ≤ c1 → c1 ≤ ch + 2 * c → Fr 6 17 h h1 → am_J l g mX0_joinAsTold (d + 3) (0, 0, x) 2 [(0, .ref 6), (1, .int (nI r)), (2, .int (nI c))] [] h1 Q := by
  have b4 := hv.1.2.1
  intro k
  induction k with
  | zero =>
    intro c h1 c1 hc hM h2 h3 hf
    have : c = m.1.2.1 := by omega
    subst this
    have e1 : (m_jt m r m.1.2.1).1 = m.1 := (m_jt_eq m r _).1
    obtain ⟨q0, ⟨q7, q8⟩, q9⟩ := hM
    refine rX0_joinAsTold_2 (gtR q0 rfl (gtI q7 rfl ⟨fun _ => hK h1 c1 ⟨q0, ⟨q7, q8⟩, q9⟩ h2 h3 hf, fun hq => absurd ?_ hq⟩))
    rw [e1]; exact nI_le (Nat.le_refl _) (by omega)
  | succ k ih =>
    intro c h1 c1 hc hM h2 h3 hf
    have e1 : (m_jt m r c).1 = m.1 := (m_jt_eq m r _).1
    have hM' := hM
    obtain ⟨q0, ⟨q7, -⟩, -⟩ := hM'
    have hg := (m_jt_eq m r c).g hv
    have hs := (m_jt_eq m r c).sh
    refine rX0_joinAsTold_2 (gtR q0 rfl (gtI q7 rfl ⟨fun hq => ?_, fun _ => ⟨⟨_, q0⟩, sp_joinOne (f := true) hM hg (by omega) (by rw [e1]; omega) fun h3' c3 hM3 a1 a2 hf3 => ?_⟩⟩))
    · rw [e1] at hq
      exact absurd ((nI_leI (by omega) (by omega)).mp hq) (by omega)
    · have hg3 := (m_j1_eq (m_jt m r c) r c true).g hg
      have hs3 := (m_j1_eq (m_jt m r c) r c true).sh
      have e3 : (m_j1 (m_jt m r c) r c true).1 = m.1 := (m_j1_eq (m_jt m r c) r c true).1.trans e1
      refine ⟨⟨_, hM3.1⟩, sp_joinOne (f := false) hM3 hg3 (by omega) (by rw [e3]; omega) fun h5 c5 hM5 a3 a4 hf5 => ?_⟩
      rw [nI_1]
      exact ih (c + 1) h5 c5 (by omega) hM5 (by omega) (by omega) ((hf.tr hf3).tr hf5)
theorem sp_joinAll {r : Nat} {K : am_H → Prop} (hM : MC h m ch) (hv : ml_g m) (hr : r < m_sh m) (hK : ∀ h' ch', MC h' (m_jt m r m.1.2.1) ch' → ch ≤ ch' → ch' ≤ ch + 48 → Fr 6 17 h h' → K h') : cl_N l g mX0_joinAsTold (d + 3) x [.ref 6, .int (nI r)] h K := by
  have b4 := hv.1.2.1
  refine eX0_joinAsTold ?_
  exact lp_joinAll (ch := ch) (h := h) hv hr (fun h' ch' a b c f => ⟨rfl, hK h' ch' a b (by omega) f⟩) m.1.2.1 0 h ch (by omega) hM (Nat.le_refl _) (by omega) Fr.rf
end TOLD
