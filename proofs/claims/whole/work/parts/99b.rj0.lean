/-! ===== the joint state at the start ===== -/
def HS : am_H := (H8 ++ H9) ++ [am_L 1 (fun _ => 0)]
def W0 : wv_T := (0, 0, fun _ => (0, 0, 0, 0, false))
def m0 : ml_T := (W0, 0, 0, 0, fun _ => false, fun _ _ => false)
theorem bt_zero {r i : Nat} : bt_r (fun _ => 0) r i = false := by
  show (BitVec.ofNat 64 0).getLsbD (i % 64) = false
  simp
theorem st_W {h : am_H} {q : Nat} (h0 : h[q]? = some (c_wv q 0 0)) (h1 : h[q + 1]? = some (am_I 0 24 (fun _ => 0))) (h2 : h[q + 2]? = some (am_I 0 24 (fun _ => 0))) (h3 : h[q + 3]? = some (am_I 0 24 (fun _ => 0))) (h4 : h[q + 4]? = some (am_I 0 24 (fun _ => 0))) (h5 : h[q + 5]? = some (am_I 2 24 (fun _ => 0))) : WC h q W0 :=
  ⟨h0, _, _, _, _, _, h1, h2, h3, h4, h5, fun k hk => absurd hk (Nat.not_lt_zero k)⟩
set_option maxRecDepth 20000 in
theorem st_MC : MC HS m0 0 := ⟨rfl, st_W rfl rfl rfl rfl rfl rfl, ⟨_, rfl, fun i hi => absurd hi (Nat.not_lt_zero i)⟩, rfl, rfl, ⟨_, rfl, fun _ _ _ _ => bt_zero⟩, ⟨_, rfl, fun _ _ _ _ => bt_zero⟩⟩
set_option maxRecDepth 20000 in
theorem st_CS : CS HS m0 0 := by
  refine ⟨-1, -1, ⟨⟨_, _, _, _, _, _, _, _, ⟨0, 0, 0, 0, 0, rfl⟩, rfl, rfl, rfl, rfl, rfl, rfl, rfl, rfl⟩, fun h => absurd h (by decide)⟩, ⟨0, 0, _, _, _, _, _, _, ⟨rfl, rfl, rfl, rfl, rfl⟩, rfl, rfl, rfl⟩, fun h => absurd h (by decide), .inl rfl, .inl rfl⟩
set_option maxRecDepth 20000 in
theorem st_JC : JC 0 HS m0 W0 (0, fun _ => 0) (nI 100, nI 400, nI 8) :=
  ⟨0, 34, 40, W0, rfl, .inl ⟨rfl, rfl⟩, ⟨rfl, Nat.zero_le _, _, rfl, fun i hi => absurd hi (Nat.not_lt_zero i)⟩, ⟨0, 0, 0, 0, 0, _, rfl, rfl, rfl⟩, st_W rfl rfl rfl rfl rfl rfl, st_W rfl rfl rfl rfl rfl rfl, st_MC, st_CS, Nat.le_refl _⟩
set_option maxRecDepth 20000 in
theorem st_AX : AX HS := by
  refine ⟨⟨_, rfl⟩, ⟨_, rfl⟩, ⟨_, rfl⟩, ⟨w4, rfl, fun w hw => ?_⟩, ⟨_, rfl⟩⟩
  match w, hw with
  | 0, _ => rfl
  | 1, _ => rfl
  | 2, _ => rfl
  | 3, _ => rfl
set_option maxRecDepth 20000 in
theorem st_JM : JM HS m0 W0 (0, fun _ => 0) (nI 100, nI 400, nI 8) := by
  refine ⟨(0, 0, 0, 0, 0, nI 100, nI 400, nI 8), ⟨rfl, ⟨_, _, _, _, _, _, _, rfl, rfl, rfl, rfl, rfl, rfl, rfl, rfl, rfl, rfl, rfl, fun k hk => absurd hk (Nat.not_lt_zero k), fun k hk => absurd hk (Nat.not_lt_zero k)⟩, ⟨_, rfl, fun i hi => absurd hi (Nat.not_lt_zero i)⟩, ⟨_, rfl, fun _ _ _ _ => rfl⟩⟩, ⟨rfl, Nat.zero_le _, _, rfl, fun i hi => absurd hi (Nat.not_lt_zero i)⟩, st_AX, ⟨_, rfl⟩, ⟨⟨_, rfl⟩, ⟨_, rfl⟩, ⟨_, rfl⟩, ⟨_, rfl⟩, ⟨_, rfl⟩, ⟨_, rfl⟩, ⟨_, rfl⟩, ⟨_, rfl⟩, ⟨_, rfl⟩, ⟨_, rfl⟩⟩, rfl⟩
theorem st_wv : wv_ok W0 := ⟨by decide, by decide, fun k hk => absurd hk (Nat.not_lt_zero k), fun j k _ hk => absurd hk (Nat.not_lt_zero k)⟩
theorem st_ml : ml_ok m0 := ⟨⟨st_wv, by decide, by decide, by decide, by decide, by decide, trivial⟩, fun i hi => absurd hi (by simp [m_th, m0]), fun a b hi => absurd hi (by simp [m_ov, m0])⟩
set_option maxRecDepth 20000 in
theorem st_RJ : RJ 0 HS := ⟨m0, W0, (0, fun _ => 0), (nI 100, nI 400, nI 8), st_JC, st_JM, ⟨⟨Nat.zero_le _, fun i hi => absurd hi (Nat.not_lt_zero i)⟩, st_wv, st_ml, ⟨100, 400, 8, rfl, by decide, by decide, by decide, by decide, by decide, by decide⟩⟩, _, rfl⟩
