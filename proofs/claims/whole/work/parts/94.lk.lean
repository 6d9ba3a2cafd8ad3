/-! ===== the law calls its look ===== -/
def mLaw : am_M := (yL_law, cL_law, 7, some .boolean, 601024, 7293034)
/-- the law's look of the class's at these ints: what it answers, and the picture behind it -/
def lk_L (l : Launch) (g : am_G) (d a1 a3 : Nat) (i1 i2 : Int32) (h : am_H) (K : Int32 → am_H → Prop) : Prop :=
  a1 = 0 ∧ a3 = 73 ∧ ∃ d' P, d = d' + 1 ∧ 6 ≤ d' ∧ l.stackTraces = false ∧ (∃ fs, h[0]? = some (am_O 8 fs)) ∧ am_J l g mX8_look d' (0, 0, false) 0 (lv_args 0 [.ref 0, .int i1, .int i2]) [] h P ∧ (∀ k h', P (some (.retAddr k)) h' → k = 21 ∨ k = 58) ∧
  (∀ v h', P (some (.int v)) h' → ∃ f, h'[73]? = some (am_L 1 f) ∧ K 0 (h'.set 73 (am_L 1 (vp_updL f 0 v.toInt64)))) ∧ (∀ k h', P (some (.retAddr k)) h' → K 1 h')
section LKCALL
variable {l : Launch} {g : am_G} {d pc : Nat} {kc ks : Nat} {L : List (Nat × Value)} {h : am_H} {Q : Option Value → am_H → Prop}
theorem J_lk {i1 i2 : Int32} {K : Int32 → am_H → Prop} (hd : decode cL_law pc = .ok (.invokestatic 62, 3)) (hk : kc + 1 ≤ 601024 ∧ ks + 6 ≤ 7293034)
    (H : lk_L l g d 0 73 i1 i2 h K)
    (kk : ∀ v h', K v h' → am_J l g mLaw (d + 1) (kc + 1, ks + 6, false) (pc + 3) L [.int v] h' Q) : am_J l g mLaw (d + 1) (kc, ks, false) pc L [.ref 73, .int i2, .int i1, .ref 0] h Q := by
  obtain ⟨-, -, d', P, rfl, h6, hl, h0, hJ, hpc, hV, hT⟩ := H
  have hMet := am_look h6 hl h0 hJ hpc hV hT
  intro p e R s m args below meth c H locs ls Qm C hr hlv f1 f2 f3
  obtain ⟨hx, hb, -, hml, hown, hts, -, -, hRf, hRl, hRc, hRs⟩ := id C
  refine am_go (P := fun r h' => ∃ v, r = some (.int v) ∧ K v h') (mc := 1) (ms := 6) (rest := []) hr (vx_runSW (As := [.ref (g.1 + 0), .int i1, .int i2, .ref (g.1 + 73)]) (Ts := lw_gw) (y := yL_look) (bytes := cL_look) (maxL := 5) (ret := some .int) (hh := [(0, 10, 13, 13)]) (own := RL) (index := 62) (n := 4) ⟨hx, hb, hml, hown, hts⟩ hMet
    (vx_cwSW 4 hts (am_good ?_) rfl rfl rfl ⟨by decide, by decide, by decide +kernel⟩ ⟨?_, ?_⟩) ⟨am_blind, fun U hU hW => ⟨rfl, am_r_enter hr hU hW⟩⟩ rfl rfl hlv.1 rfl (lv_room (Nat.le_of_ble_eq_true rfl)) hd ⟨Nat.le_trans hk.1 hRc, Nat.le_trans hk.2 hRs⟩) ?_
  · intro w hw
    simp only [va_wsS, List.mem_append, List.mem_cons, List.not_mem_nil, or_false] at hw
    rcases hw with (rfl | rfl | rfl) | rfl | hw
    · exact kL_62
    · exact am_tbl am_words3.2.2.2.2.1 rfl
    · exact am_tbl am_words3.2.2.2.2.2.1 rfl
    · exact am_tbl am_words3.2.2.2.1 rfl
    · exact hw
  · show d' + 1 + 1 ≤ _; omega
  · show 8 + (5 + 11) + (d' + 1) * 41 ≤ _; omega
  · intro r h' H1 locs1 hp hr1
    obtain ⟨v, rfl, hp⟩ := hp
    exact kk v h' hp p e R s m args below meth c H1 locs1 ls Qm C hr1 hlv f1 f2 f3
end LKCALL
