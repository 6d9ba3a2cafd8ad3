/-! ===== the start ===== -/
def H8 : am_H := [c_top 34 40 100 400 8, am_O 5 [.ref 2, .int 0], am_I 3 1000 (fun _ => 0), am_O 4 [.ref 4, .ref 5, .int 0], am_O 6 [.ref 1, .int 0, .int 0, .int 0, .long 0], am_L 4 (fun _ => 0),
  am_O 0 [.ref 7, .ref 13, .ref 14, .ref 16, .int 0, .int 0, .int 0, .int 0, .int 0], am_O 7 [.ref 8, .ref 9, .ref 10, .ref 11, .ref 12, .int 0, .int 0], am_I 0 24 (fun _ => 0), am_I 0 24 (fun _ => 0), am_I 0 24 (fun _ => 0), am_I 0 24 (fun _ => 0), am_I 2 24 (fun _ => 0),
  am_I 2 300 (fun _ => 0), am_O 2 [.ref 15], am_L 1500 (fun _ => 0), am_O 2 [.ref 17], am_L 1500 (fun _ => 0),
  am_O 3 [.ref 6, .ref 19, .ref 20, .ref 21, .ref 22, .int 0, .int 0, .int (-1), .ref 23, .ref 24, .ref 25, .int 0, .int 0, .int 0], am_I 0 300 (fun _ => 0), am_I 0 300 (fun _ => 0), am_I 0 300 (fun _ => 0), am_I 0 300 (fun _ => 0), am_I 0 300 (fun _ => 0), am_I 2 300 (fun _ => 0), am_I 2 300 (fun _ => 0),
  am_O 1 [.ref 6, .ref 18, .ref 27, .ref 29, .ref 30, .ref 31, .ref 32, .int 0, .int (-1), .ref 33, .int 0], am_O 2 [.ref 28], am_L 20 (fun _ => 0), am_I 0 300 (fun _ => 0), am_I 0 300 (fun _ => 0), am_I 0 300 (fun _ => 0), am_I 2 300 (fun _ => 0), am_I 0 300 (fun _ => 0),
  am_O 7 [.ref 35, .ref 36, .ref 37, .ref 38, .ref 39, .int 0, .int 0], am_I 0 24 (fun _ => 0), am_I 0 24 (fun _ => 0), am_I 0 24 (fun _ => 0), am_I 0 24 (fun _ => 0), am_I 2 24 (fun _ => 0),
  am_O 7 [.ref 41, .ref 42, .ref 43, .ref 44, .ref 45, .int 0, .int 0], am_I 0 24 (fun _ => 0), am_I 0 24 (fun _ => 0), am_I 0 24 (fun _ => 0), am_I 0 24 (fun _ => 0), am_I 2 24 (fun _ => 0)]
def w4 : Nat → Int64 := vp_updL (vp_updL (vp_updL (vp_updL (fun _ => 0) 0 924600) 1 620686) 2 790116) 3 40072202
def H9 : am_H := [c_mo 0 0 0 0 0 0 0 0 0 100 400 8, am_I 0 1000 (fun _ => 0), am_I 0 1002 (fun _ => 0), am_I 0 1002 (fun _ => 0), am_L 1002 (fun _ => 0), am_L 4 w4, am_I 0 3 (fun _ => 0), am_L 12 (fun _ => 0), am_I 0 3 (fun _ => 0), am_I 0 72 (fun _ => 0), am_I 0 72 (fun _ => 0), am_I 0 72 (fun _ => 0), am_I 0 72 (fun _ => 0), am_I 2 72 (fun _ => 0),
  am_I 2 300 (fun _ => 0), am_I 0 90000 (fun _ => 0), am_I 2 300 (fun _ => 0), am_I 0 300 (fun _ => 0), am_I 0 90000 (fun _ => 0), am_I 0 300 (fun _ => 0), am_I 0 300 (fun _ => 0), am_I 0 300 (fun _ => 0), am_I 0 300 (fun _ => 0), am_I 2 300 (fun _ => 0), am_I 2 300 (fun _ => 0), am_I 2 300 (fun _ => 0), am_I 2 300 (fun _ => 0)]
section START
variable {l : Launch} {g : am_G} {d : Nat}
set_option maxRecDepth 20000 in
set_option maxHeartbeats 4000000 in
theorem st_X8 {K : am_H → Prop} (hK : K H8) : ci_N l g mX8_init (d + 3) true 0 [] [am_O 8 [.null, .null, .null, .null, .null, .null, .null, .int 0, .int 0, .int 0]] K := by
  refine eX8_init ?_
  unfold zX8_init_0
  refine eX5_init (ptV rfl (Nat.le_of_ble_eq_true rfl) ⟨rfl, ?_⟩)
  refine ptV rfl (Nat.le_of_ble_eq_true rfl) ?_
  refine gtR rfl rfl ?_
  refine eX6_init (ptV rfl (Nat.le_of_ble_eq_true rfl) ⟨rfl, ?_⟩)
  refine eX4_init (ptV rfl (Nat.le_of_ble_eq_true rfl) (ptV rfl (Nat.le_of_ble_eq_true rfl) ⟨rfl, ?_⟩))
  refine ptV rfl (Nat.le_of_ble_eq_true rfl) ?_
  refine eX0_init (eX7_init (ptV rfl (Nat.le_of_ble_eq_true rfl) (ptV rfl (Nat.le_of_ble_eq_true rfl) (ptV rfl (Nat.le_of_ble_eq_true rfl) (ptV rfl (Nat.le_of_ble_eq_true rfl) (ptV rfl (Nat.le_of_ble_eq_true rfl) ⟨rfl, ?_⟩))))))
  refine ptV rfl (Nat.le_of_ble_eq_true rfl) (ptV rfl (Nat.le_of_ble_eq_true rfl) (eX2_init300 (ptV rfl (Nat.le_of_ble_eq_true rfl) ⟨rfl, ?_⟩)))
  refine ptV rfl (Nat.le_of_ble_eq_true rfl) (eX2_init300 (ptV rfl (Nat.le_of_ble_eq_true rfl) ⟨rfl, ?_⟩))
  refine ptV rfl (Nat.le_of_ble_eq_true rfl) ⟨rfl, ?_⟩
  refine ptV rfl (Nat.le_of_ble_eq_true rfl) ?_
  refine gtR rfl rfl ?_
  refine eX3_init (ptV rfl (Nat.le_of_ble_eq_true rfl) (ptV rfl (Nat.le_of_ble_eq_true rfl) (ptV rfl (Nat.le_of_ble_eq_true rfl) (ptV rfl (Nat.le_of_ble_eq_true rfl) ?_))))
  refine ptV rfl (Nat.le_of_ble_eq_true rfl) (ptV rfl (Nat.le_of_ble_eq_true rfl) (ptV rfl (Nat.le_of_ble_eq_true rfl) (ptV rfl (Nat.le_of_ble_eq_true rfl) (ptV rfl (Nat.le_of_ble_eq_true rfl) ⟨rfl, ?_⟩))))
  refine ptV rfl (Nat.le_of_ble_eq_true rfl) ?_
  refine gtR rfl rfl (gtR rfl rfl ?_)
  refine eX1_init (ptV rfl (Nat.le_of_ble_eq_true rfl) (ptV rfl (Nat.le_of_ble_eq_true rfl) (eX2_init4 (ptV rfl (Nat.le_of_ble_eq_true rfl) ⟨rfl, ?_⟩))))
  refine ptV rfl (Nat.le_of_ble_eq_true rfl) (ptV rfl (Nat.le_of_ble_eq_true rfl) (ptV rfl (Nat.le_of_ble_eq_true rfl) (ptV rfl (Nat.le_of_ble_eq_true rfl) (ptV rfl (Nat.le_of_ble_eq_true rfl) (ptV rfl (Nat.le_of_ble_eq_true rfl) (ptV rfl (Nat.le_of_ble_eq_true rfl) ⟨rfl, ?_⟩))))))
  refine ptV rfl (Nat.le_of_ble_eq_true rfl) (eX7_init (ptV rfl (Nat.le_of_ble_eq_true rfl) (ptV rfl (Nat.le_of_ble_eq_true rfl) (ptV rfl (Nat.le_of_ble_eq_true rfl) (ptV rfl (Nat.le_of_ble_eq_true rfl) (ptV rfl (Nat.le_of_ble_eq_true rfl) ⟨rfl, ?_⟩))))))
  refine ptV rfl (Nat.le_of_ble_eq_true rfl) (eX7_init (ptV rfl (Nat.le_of_ble_eq_true rfl) (ptV rfl (Nat.le_of_ble_eq_true rfl) (ptV rfl (Nat.le_of_ble_eq_true rfl) (ptV rfl (Nat.le_of_ble_eq_true rfl) (ptV rfl (Nat.le_of_ble_eq_true rfl) ⟨rfl, ?_⟩))))))
  refine ptV rfl (Nat.le_of_ble_eq_true rfl) (ptV rfl (Nat.le_of_ble_eq_true rfl) (ptV rfl (Nat.le_of_ble_eq_true rfl) (ptV rfl (Nat.le_of_ble_eq_true rfl) ⟨rfl, ?_⟩)))
  exact hK
set_option maxRecDepth 20000 in
set_option maxHeartbeats 4000000 in
theorem st_X9 {K : am_H → Prop} (hK : K (H8 ++ H9)) : ci_N l g mX9_init (d + 3) true H8.length [] (H8 ++ [am_O 9 [.int 0, .null, .int 0, .int 0, .null, .null, .null, .int 0, .int 0, .null, .null, .null, .null, .null, .null, .null, .null, .null, .int 0, .int 0, .int 0, .int 0, .null, .null, .null, .null, .null, .null, .null, .null, .null, .null, .null, .null, .null, .int 0, .int 0, .int 0]]) K := by
  refine eX9_init ?_
  unfold zX9_init_0
  refine ptV rfl (Nat.le_of_ble_eq_true rfl) (ptV rfl (Nat.le_of_ble_eq_true rfl) (ptV rfl (Nat.le_of_ble_eq_true rfl) (ptV rfl (Nat.le_of_ble_eq_true rfl) ?_)))
  unfold zX9_init_40
  refine asL (i := 0) rfl (by decide) (by decide) (asL (i := 1) rfl (by decide) (by decide) (asL (i := 2) rfl (by decide) (by decide) (asL (i := 3) rfl (by decide) (by decide) ?_)))
  refine ptV rfl (Nat.le_of_ble_eq_true rfl) (ptV rfl (Nat.le_of_ble_eq_true rfl) (ptV rfl (Nat.le_of_ble_eq_true rfl) (ptV rfl (Nat.le_of_ble_eq_true rfl) ?_)))
  unfold zX9_init_93
  refine ptV rfl (Nat.le_of_ble_eq_true rfl) (ptV rfl (Nat.le_of_ble_eq_true rfl) (ptV rfl (Nat.le_of_ble_eq_true rfl) (ptV rfl (Nat.le_of_ble_eq_true rfl) ?_)))
  unfold zX9_init_125
  refine ptV rfl (Nat.le_of_ble_eq_true rfl) (ptV rfl (Nat.le_of_ble_eq_true rfl) (ptV rfl (Nat.le_of_ble_eq_true rfl) (ptV rfl (Nat.le_of_ble_eq_true rfl) ?_)))
  unfold zX9_init_159
  refine ptV rfl (Nat.le_of_ble_eq_true rfl) (ptV rfl (Nat.le_of_ble_eq_true rfl) (ptV rfl (Nat.le_of_ble_eq_true rfl) (ptV rfl (Nat.le_of_ble_eq_true rfl) ?_)))
  unfold zX9_init_194
  refine ptV rfl (Nat.le_of_ble_eq_true rfl) (ptV rfl (Nat.le_of_ble_eq_true rfl) (ptV rfl (Nat.le_of_ble_eq_true rfl) (ptV rfl (Nat.le_of_ble_eq_true rfl) ?_)))
  unfold zX9_init_230
  refine ptV rfl (Nat.le_of_ble_eq_true rfl) (ptV rfl (Nat.le_of_ble_eq_true rfl) (ptV rfl (Nat.le_of_ble_eq_true rfl) (ptV rfl (Nat.le_of_ble_eq_true rfl) (ptV rfl (Nat.le_of_ble_eq_true rfl) ⟨rfl, ?_⟩))))
  exact hK
end START
