/-! ===== the law's entry: both objects are made ===== -/
set_option maxRecDepth 4000 in
theorem rLaw_0 {l : Launch} {g : am_G} {d : Nat} {Q : Option Value → am_H → Prop} (H : ci_N l g mX8_init d true 0 [] [am_O 8 [.null, .null, .null, .null, .null, .null, .null, .int 0, .int 0, .int 0]] (fun h1 => ci_N l g mX9_init d true ((h1).length) [] (h1 ++ [am_O 9 [.int 0, .null, .int 0, .int 0, .null, .null, .null, .int 0, .int 0, .null, .null, .null, .null, .null, .null, .null, .null, .null, .int 0, .int 0, .int 0, .int 0, .null, .null, .null, .null, .null, .null, .null, .null, .null, .null, .null, .null, .null, .int 0, .int 0, .int 0]]) (fun h3 => am_J l g mLaw (d + 1) (74, 196089, false) 23 [(0, .retAddr 0), (1, .ref 0), (2, .ref ((h1).length)), (3, .ref ((h3).length)), (4, .int 0)] [] (h3 ++ [am_L 1 (fun _ => 0)]) Q))) : am_J l g mLaw (d + 1) (0, 0, true) 0 [(0, .retAddr 0)] [] [] Q := by
  refine J_new (ci := 8) (fs := [.null, .null, .null, .null, .null, .null, .null, .int 0, .int 0, .int 0]) dL_law_0 rfl gwX8 tyX8 tyX8_ok cL_8 nX8 zX8 (by decide +kernel) rfl ⟨Nat.le_of_ble_eq_true rfl, Nat.le_of_ble_eq_true rfl⟩ ?_
  refine J_dup dL_law_3 rfl ?_
  refine J_callI (As := []) (S := [.ref 0]) (b := 0) dL_law_4 mX8_init_ok rfl kL_15 rfl (by decide) (Nat.le_of_ble_eq_true rfl) rfl (Nat.le_of_ble_eq_true rfl) ⟨Nat.le_of_ble_eq_true rfl, Nat.le_of_ble_eq_true rfl⟩ (fun k h' hp => ?_) H (fun r h1 hp => ?_)
  · obtain ⟨hv, -⟩ := hp; cases hv
  obtain ⟨rfl, H⟩ := hp
  show am_J l g mLaw (d + 1) (46, 8362, true) 7 [(0, .retAddr 0)] [.ref 0] h1 Q
  refine J_astore_n (L' := [(1, .ref 0), (0, .retAddr 0)]) dL_law_7 (by decide) rfl ?_
  refine J_new (ci := 9) (fs := [.int 0, .null, .int 0, .int 0, .null, .null, .null, .int 0, .int 0, .null, .null, .null, .null, .null, .null, .null, .null, .null, .int 0, .int 0, .int 0, .int 0, .null, .null, .null, .null, .null, .null, .null, .null, .null, .null, .null, .null, .null, .int 0, .int 0, .int 0]) dL_law_8 rfl gwX9 tyX9 tyX9_ok cL_16 nX9 zX9 (by decide +kernel) rfl ⟨Nat.le_of_ble_eq_true rfl, Nat.le_of_ble_eq_true rfl⟩ ?_
  refine J_dup dL_law_11 rfl ?_
  refine J_callI (As := []) (S := [.ref ((h1).length)]) (b := ((h1).length)) dL_law_12 mX9_init_ok rfl kL_18 rfl (by decide) (Nat.le_of_ble_eq_true rfl) rfl (Nat.le_of_ble_eq_true rfl) ⟨Nat.le_of_ble_eq_true rfl, Nat.le_of_ble_eq_true rfl⟩ (fun k h' hp => ?_) H (fun r h3 hp => ?_)
  · obtain ⟨hv, -⟩ := hp; cases hv
  obtain ⟨rfl, H⟩ := hp
  show am_J l g mLaw (d + 1) (73, 196088, true) 15 [(1, .ref 0), (0, .retAddr 0)] [.ref ((h1).length)] h3 Q
  refine J_astore_n (L' := [(2, .ref ((h1).length)), (1, .ref 0), (0, .retAddr 0)]) dL_law_15 (by decide) rfl ?_
  refine J_iconst (v := 1) dL_law_16 (by decide) ?_
  refine J_newaL (N' := 1) dL_law_17 rfl aw_long (by decide +kernel) (by decide +kernel) (by decide +kernel) ⟨Nat.le_of_ble_eq_true rfl, Nat.le_of_ble_eq_true rfl⟩ ?_
  show am_J l g mLaw (d + 1) (74, 196089, true) 19 [(2, .ref ((h1).length)), (1, .ref 0), (0, .retAddr 0)] [.ref ((h3).length)] (h3 ++ [am_L 1 (fun _ => 0)]) Q
  refine J_astore_n (L' := [(3, .ref ((h3).length)), (2, .ref ((h1).length)), (1, .ref 0), (0, .retAddr 0)]) dL_law_19 (by decide) rfl ?_
  refine J_iconst (v := 0) dL_law_20 (by decide) ?_
  refine J_istore (L' := [(4, .int 0), (3, .ref ((h3).length)), (2, .ref ((h1).length)), (1, .ref 0), (0, .retAddr 0)]) dL_law_21 (by decide) rfl ?_
  exact J_weak (Nat.le_of_ble_eq_true rfl) (J_pick [4, 3, 2, 1, 0] rfl H)
