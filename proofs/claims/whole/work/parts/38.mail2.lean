section MAIL3
variable {l : Launch} {g : am_G} {d : Nat} {x : Bool} {h : am_H} {m : ml_T} {ch : Nat}
theorem lp_ringsThere {Q : Option Value → am_H → Prop} (hM : MC h m ch) (hv : ml_g m) (hK : Q (some (.int (nI (fb_ct (m_th m) (m_nu m))))) h) : ∀ k c, c + k = m_nu m → am_J l g mX0_ringsThere d (0, 0, x) 4 [(0, .ref 6), (1, .int (nI (fb_ct (m_th m) c))), (2, .int (nI c))] [] h Q := by
  have b6 := hv.2.2.2.2.2.1
  obtain ⟨q0, -, ⟨f, hf, hf'⟩, -⟩ := hM
  intro k
  induction k with
  | zero =>
    intro c hc
    have : c = m_nu m := by omega
    subst this
    exact rX0_ringsThere_4 (gtI q0 rfl ⟨fun _ => hK, fun hq => absurd (nI_le (Nat.le_refl _) (by omega)) hq⟩)
  | succ k ih =>
    intro c hc
    refine rX0_ringsThere_4 (gtI q0 rfl ⟨fun hq => absurd ((nI_leI (by omega) (by omega)).mp hq) (by omega), fun _ => gtR q0 rfl (alI hf (by omega) (by omega) ?_)⟩)
    rw [hf' c (by omega)]
    refine ⟨fun hz => ?_, fun hz => ?_⟩
    · unfold zX0_ringsThere_24
      have e : fb_ct (m_th m) (c + 1) = fb_ct (m_th m) c := by rw [fb_ct_succ, bi_0.mp hz]; rfl
      rw [nI_1, ← e]
      exact ih (c + 1) (by omega)
    · unfold zX0_ringsThere_24
      have e : fb_ct (m_th m) (c + 1) = fb_ct (m_th m) c + 1 := by rw [fb_ct_succ, bi_n0.mp hz]; rfl
      rw [nI_1, nI_1, ← e]
      exact ih (c + 1) (by omega)
theorem sp_ringsThere {K : Int32 → am_H → Prop} (hM : MC h m ch) (hv : ml_g m) (hK : K (nI (fb_ct (m_th m) (m_nu m))) h) : cl_I l g mX0_ringsThere d x [.ref 6] h K :=
  eX0_ringsThere (lp_ringsThere hM hv ⟨_, rfl, hK⟩ (m_nu m) 0 (by omega))
theorem lp_wornRings {Q : Option Value → am_H → Prop} (hM : MC h m ch) (hv : ml_g m) (hK : Q (some (.int (nI (fb_ct (fun i => !m_th m i) (m_sh m))))) h) : ∀ k c, c + k = m_sh m → am_J l g mX0_wornRings d (0, 0, x) 4 [(0, .ref 6), (1, .int (nI (fb_ct (fun i => !m_th m i) c))), (2, .int (nI c))] [] h Q := by
  have b6 := hv.2.2.2.2.2.1
  have b7 := hv.2.2.2.2.1
  obtain ⟨q0, -, ⟨f, hf, hf'⟩, -⟩ := hM
  intro k
  induction k with
  | zero =>
    intro c hc
    have : c = m_sh m := by omega
    subst this
    exact rX0_wornRings_4 (gtI q0 rfl ⟨fun _ => hK, fun hq => absurd (nI_le (Nat.le_refl _) (by omega)) hq⟩)
  | succ k ih =>
    intro c hc
    refine rX0_wornRings_4 (gtI q0 rfl ⟨fun hq => absurd ((nI_leI (by omega) (by omega)).mp hq) (by omega), fun _ => gtR q0 rfl (alI hf (by omega) (by omega) ?_)⟩)
    rw [hf' c (by omega)]
    refine ⟨fun hz => ?_, fun hz => ?_⟩
    · unfold zX0_wornRings_24
      have e : fb_ct (fun i => !m_th m i) (c + 1) = fb_ct (fun i => !m_th m i) c := by rw [fb_ct_succ]; simp [bi_n0.mp hz]
      rw [nI_1, ← e]
      exact ih (c + 1) (by omega)
    · unfold zX0_wornRings_24
      have e : fb_ct (fun i => !m_th m i) (c + 1) = fb_ct (fun i => !m_th m i) c + 1 := by rw [fb_ct_succ]; simp [bi_0.mp hz]
      rw [nI_1, nI_1, ← e]
      exact ih (c + 1) (by omega)
theorem sp_wornRings {K : Int32 → am_H → Prop} (hM : MC h m ch) (hv : ml_g m) (hK : K (nI (fb_ct (fun i => !m_th m i) (m_sh m))) h) : cl_I l g mX0_wornRings d x [.ref 6] h K :=
  eX0_wornRings (lp_wornRings hM hv ⟨_, rfl, hK⟩ (m_sh m) 0 (by omega))
theorem lp_fullRings {Q : Option Value → am_H → Prop} (hM : MC h m ch) (hv : ml_g m) (hK : Q (some (.int (nI (fb_ct (m_full m) (m_sh m))))) h) : ∀ k c, c + k = m_sh m → am_J l g mX0_fullRings (d + 4) (0, 0, x) 4 [(0, .ref 6), (1, .int (nI (fb_ct (m_full m) c))), (2, .int (nI c))] [] h Q := by
  have b6 := hv.2.2.2.2.2.1
  have b7 := hv.2.2.2.2.1
  have q0 := hM.1
  intro k
  induction k with
  | zero =>
    intro c hc
    have : c = m_sh m := by omega
    subst this
    exact rX0_fullRings_4 (gtI q0 rfl ⟨fun _ => hK, fun hq => absurd (nI_le (Nat.le_refl _) (by omega)) hq⟩)
  | succ k ih =>
    intro c hc
    refine rX0_fullRings_4 (gtI q0 rfl ⟨fun hq => absurd ((nI_leI (by omega) (by omega)).mp hq) (by omega), fun _ => ⟨⟨_, q0⟩, sp_isFull hM hv (by omega) ?_⟩⟩)
    refine ⟨fun hz => ?_, fun hz => ?_⟩
    · unfold zX0_fullRings_23
      have e : fb_ct (m_full m) (c + 1) = fb_ct (m_full m) c := by rw [fb_ct_succ, bi_0.mp hz]; rfl
      rw [nI_1, ← e]
      exact ih (c + 1) (by omega)
    · unfold zX0_fullRings_23
      have e : fb_ct (m_full m) (c + 1) = fb_ct (m_full m) c + 1 := by rw [fb_ct_succ, bi_n0.mp hz]; rfl
      rw [nI_1, nI_1, ← e]
      exact ih (c + 1) (by omega)
theorem sp_fullRings {K : Int32 → am_H → Prop} (hM : MC h m ch) (hv : ml_g m) (hK : K (nI (fb_ct (m_full m) (m_sh m))) h) : cl_I l g mX0_fullRings (d + 4) x [.ref 6] h K :=
  eX0_fullRings (lp_fullRings hM hv ⟨_, rfl, hK⟩ (m_sh m) 0 (by omega))
theorem lp_allLinks {Q : Option Value → am_H → Prop} (hM : MC h m ch) (hv : ml_g m) (hK : Q (some (.int (nI (fb_sm (fun r => fb_ct (m_ov m r) 320) (m_nu m))))) h) : ∀ k c, c + k = m_nu m → am_J l g mX0_allLinks (d + 2) (0, 0, x) 4 [(0, .ref 6), (1, .int (nI (fb_sm (fun r => fb_ct (m_ov m r) 320) c))), (2, .int (nI c))] [] h Q := by
  have b6 := hv.2.2.2.2.2.1
  obtain ⟨q0, -, -, h14, -, ⟨f, hf, hf'⟩, -⟩ := hM
  intro k
  induction k with
  | zero =>
    intro c hc
    have : c = m_nu m := by omega
    subst this
    exact rX0_allLinks_4 (gtI q0 rfl ⟨fun _ => hK, fun hq => absurd (nI_le (Nat.le_refl _) (by omega)) hq⟩)
  | succ k ih =>
    intro c hc
    refine rX0_allLinks_4 (gtI q0 rfl ⟨fun hq => absurd ((nI_leI (by omega) (by omega)).mp hq) (by omega), fun _ => gtR q0 rfl ⟨⟨_, h14⟩, sp_size h14 hf (by omega) (by omega) (by omega) ?_⟩⟩)
    rw [ct_congr 320 (fun i hi => hf' c i (by omega) hi), nI_add, nI_1]
    exact ih (c + 1) (by omega)
theorem sp_allLinks {K : Int32 → am_H → Prop} (hM : MC h m ch) (hv : ml_g m) (hK : K (nI (fb_sm (fun r => fb_ct (m_ov m r) 320) (m_nu m))) h) : cl_I l g mX0_allLinks (d + 2) x [.ref 6] h K :=
  eX0_allLinks (lp_allLinks hM hv ⟨_, rfl, hK⟩ (m_nu m) 0 (by omega))
/-- the first linked from a number on -/
def nx_m (m : ml_T) (r frm : Nat) (v : Int32) : Prop := (v = -1 ∧ ∀ i, frm ≤ i → i < 320 → m_aj m r i = false) ∨ (∃ j, v = nI j ∧ frm ≤ j ∧ j < 320 ∧ m_aj m r j = true ∧ ∀ i, frm ≤ i → i < j → m_aj m r i = false)
theorem sp_nextM {r frm : Nat} {K : Int32 → am_H → Prop} (hM : MC h m ch) (hr : r < 300) (hf : frm ≤ 320) (hK : ∀ v, nx_m m r frm v → K v h) : cl_I l g mX2_next (d + 1) x [.ref 16, .int (nI r), .int (nI frm)] h K := by
  obtain ⟨-, -, -, -, h16, -, ⟨f, hf1, hf'⟩⟩ := hM
  refine sp_next h16 hf1 (by omega) (by omega) (by omega) hf (fun v hv => hK v ?_)
  rcases hv with ⟨e, hz⟩ | ⟨j, e, h1, h2, h3, h4⟩
  · exact Or.inl ⟨e, fun i a b => by rw [← hf' r i hr b]; exact hz i a b⟩
  · exact Or.inr ⟨j, e, h1, h2, by rw [← hf' r j hr h2]; exact h3, fun i a b => by rw [← hf' r i hr (by omega)]; exact h4 i a b⟩
theorem n1_ne {j : Nat} (hj : j < 2 ^ 31) : ¬ nI j = -1 := by
  intro e
  have := congrArg Int32.toInt e
  rw [nI_toInt hj] at this
  have e2 : (-1 : Int32).toInt = -1 := rfl
  rw [e2] at this
  omega
theorem lp_linkedAt {r p : Nat} {Q : Option Value → am_H → Prop} (hM : MC h m ch) (hv : ml_g m) (hr : r < 300) (hp : p < 2 ^ 31)
    (h1 : ∀ j, j < 320 → m_aj m r j = true → fb_ct (m_aj m r) j = p → Q (some (.int (nI j))) h) (h0 : fb_ct (m_aj m r) 320 ≤ p → Q (some (.int (-1))) h) : ∀ k c frm v, frm + k = 320 → c ≤ p → c ≤ frm → fb_ct (m_aj m r) frm = c → nx_m m r frm v → am_J l g mX0_linkedAtPlace (d + 2) (0, 0, x) 13 [(0, .ref 6), (1, .int (nI r)), (2, .int (nI p)), (3, .int v), (4, .int (nI c))] [] h Q := by
  intro k
  induction k using Nat.strongRecOn with
  | ind k ih =>
  intro c frm v hk hcp hcf hct hnx
  have e42 : ∀ w : Int32, Q (some (.int w)) h → zX0_linkedAtPlace_42 l g (d + 1) x (nI p) w h Q := fun w hq => ⟨fun _ => hq, fun hz => absurd (nI_pos' hp) hz⟩
  refine rX0_linkedAtPlace_13 ⟨fun hq => e42 v ?_, fun hq => ⟨fun hz => e42 v ?_, fun hz => ?_⟩⟩
  · have hpc : p ≤ c := (nI_leI (by omega) (by omega)).mp hq
    rcases hnx with ⟨rfl, hn⟩ | ⟨j, rfl, j1, j2, j3, j4⟩
    · refine h0 ?_
      rw [ct_more frm 320 (by omega) hn]; omega
    · refine h1 j j2 j3 ?_
      rw [ct_more frm j j1 j4]; omega
  · subst hz
    rcases hnx with ⟨-, hn⟩ | ⟨j, e, j1, j2, j3, j4⟩
    · refine h0 ?_
      rw [ct_more frm 320 (by omega) hn]; omega
    · exact absurd e.symm (n1_ne (by omega))
  · have hpc : ¬ p ≤ c := fun q => hq ((nI_leI (by omega) (by omega)).mpr q)
    rcases hnx with ⟨e, hn⟩ | ⟨j, rfl, j1, j2, j3, j4⟩
    · exact absurd e hz
    · rw [nI_1, nI_1]
      obtain ⟨q0, -, -, -, h16, -⟩ := id hM
      refine gtR q0 rfl ⟨⟨_, h16⟩, sp_nextM hM hr (by omega) fun w hw => ?_⟩
      have hc2 : fb_ct (m_aj m r) (j + 1) = c + 1 := by rw [fb_ct_succ, j3, ct_more frm j j1 j4, hct]; rfl
      exact ih (320 - (j + 1)) (by omega) (c + 1) (j + 1) w (by omega) (by omega) (by omega) hc2 hw
theorem sp_linkedAt {r : Nat} {p : Int32} {K : Int32 → am_H → Prop} (hM : MC h m ch) (hv : ml_g m) (hr : r < 300) (hneg : p < 0 → K (-1) h)
    (h1 : ∀ i j, p = nI i → i < 2 ^ 31 → j < 320 → m_aj m r j = true → fb_ct (m_aj m r) j = i → K (nI j) h) (h0 : ∀ i, p = nI i → i < 2 ^ 31 → fb_ct (m_aj m r) 320 ≤ i → K (-1) h) : cl_I l g mX0_linkedAtPlace (d + 2) x [.ref 6, .int (nI r), .int p] h K := by
  obtain ⟨q0, -, -, -, h16, -⟩ := id hM
  refine eX0_linkedAtPlace (gtR q0 rfl ⟨⟨_, h16⟩, sp_nextM (frm := 0) hM hr (by omega) fun v hv0 => ?_⟩)
  by_cases hn : p < 0
  · refine rX0_linkedAtPlace_13 ⟨fun _ => ⟨fun hz => absurd hn (Int32.not_lt.mpr hz), fun _ => ⟨_, rfl, hneg hn⟩⟩, fun hq => absurd ?_ hq⟩
    show p ≤ 0
    rw [fa_lt] at hn
    rw [fa_le]
    omega
  · obtain ⟨i, hi, rfl⟩ := nI_of hn
    exact lp_linkedAt hM hv hr hi (fun j a b c => ⟨_, rfl, h1 i j rfl hi a b c⟩) (fun a => ⟨_, rfl, h0 i rfl hi a⟩) 320 0 0 v rfl (by omega) (by omega) rfl hv0
end MAIL3
