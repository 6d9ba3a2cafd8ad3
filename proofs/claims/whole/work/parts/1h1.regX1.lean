def zX1_takeInHand_0 (l : Launch) (g : am_G) (d : Nat) (x : Bool) (a0 : Nat) (i1 : Int32) (h : am_H) (Q : Option Value → am_H → Prop) : Prop := gt_R h a0 1 2 (fun v1 => cv_I l g mX2_has d x 2 v1 [.int 2, .int i1] h (fun v3 h2 => ((¬ v3 = 0 → Q none h2) ∧ (v3 = 0 → gt_R h2 a0 1 2 (fun v4 => cv_N l g mX2_put d x 2 v4 [.int 2, .int i1] h2 (fun h5 => gt_R h5 a0 1 2 (fun v7 => gt_R h5 a0 1 0 (fun v8 => gt_R h5 v8 0 3 (fun v9 => cv_N l g mX2_putAllOf d x 2 v7 [.int 3, .ref v9, .int i1] h5 (fun h10 => Q none h10))))))))))
set_option maxRecDepth 4000 in
theorem rX1_takeInHand_0 {l : Launch} {g : am_G} {d : Nat} {x : Bool} {a0 : Nat} {i1 : Int32} {h : am_H} {Q : Option Value → am_H → Prop} (H : zX1_takeInHand_0 l g d x a0 i1 h Q) : am_J l g mX1_takeInHand (d + 1) (0, 0, x) 0 [(0, .ref a0), (1, .int i1)] [] h Q := by
  unfold zX1_takeInHand_0 at H
  refine J_aload_n dX1_takeInHand_0 0 rfl ?_
  obtain ⟨fs, v1, hh, hk, H⟩ := H
  refine J_get dX1_takeInHand_1 fX1_24 hh hk ?_
  clear hh hk
  refine J_iconst (v := 2) dX1_takeInHand_4 (by decide) ?_
  refine J_iload_n dX1_takeInHand_5 1 rfl ?_
  obtain ⟨⟨fs, hh⟩, H⟩ := H
  refine J_callV (As := [.int 2, .int i1]) (S := []) (b := v1) dX1_takeInHand_6 mX2_has_ok kX1_81 rfl (by decide) (Nat.le_of_ble_eq_true rfl) hh rfl rfl (Nat.le_of_ble_eq_true rfl) ⟨Nat.le_of_ble_eq_true rfl, Nat.le_of_ble_eq_true rfl⟩ (fun k h' hp => ?_) H (fun r h2 hp => ?_)
  · obtain ⟨_, hv, -⟩ := hp; cases hv
  obtain ⟨v3, rfl, H⟩ := hp
  show am_J l g mX1_takeInHand (d + 1) (0, 0, x) 9 [(0, .ref a0), (1, .int i1)] [.int v3] h2 Q
  obtain ⟨H1, H2⟩ := H
  refine J_if_ne (tgt := 37) dX1_takeInHand_9 (by decide) (fun hc => ?_) (fun hc => ?_)
  · replace H := H1 hc
    clear H1 H2
    exact J_vret dX1_takeInHand_37 rfl ⟨Nat.le_of_ble_eq_true rfl, Nat.le_of_ble_eq_true rfl, fun _ => rfl⟩ H
  · replace H := H2 hc
    clear H1 H2
    refine J_aload_n dX1_takeInHand_12 0 rfl ?_
    obtain ⟨fs, v4, hh, hk, H⟩ := H
    refine J_get dX1_takeInHand_13 fX1_24 hh hk ?_
    clear hh hk
    refine J_iconst (v := 2) dX1_takeInHand_16 (by decide) ?_
    refine J_iload_n dX1_takeInHand_17 1 rfl ?_
    obtain ⟨⟨fs, hh⟩, H⟩ := H
    refine J_callV (As := [.int 2, .int i1]) (S := []) (b := v4) dX1_takeInHand_18 mX2_put_ok kX1_134 rfl (by decide) (Nat.le_of_ble_eq_true rfl) hh rfl rfl (Nat.le_of_ble_eq_true rfl) ⟨Nat.le_of_ble_eq_true rfl, Nat.le_of_ble_eq_true rfl⟩ (fun k h' hp => ?_) H (fun r h5 hp => ?_)
    · obtain ⟨hv, -⟩ := hp; cases hv
    obtain ⟨rfl, H⟩ := hp
    show am_J l g mX1_takeInHand (d + 1) (0, 0, x) 21 [(0, .ref a0), (1, .int i1)] [] h5 Q
    refine J_aload_n dX1_takeInHand_21 0 rfl ?_
    obtain ⟨fs, v7, hh, hk, H⟩ := H
    refine J_get dX1_takeInHand_22 fX1_24 hh hk ?_
    clear hh hk
    refine J_iconst (v := 3) dX1_takeInHand_25 (by decide) ?_
    refine J_aload_n dX1_takeInHand_26 0 rfl ?_
    obtain ⟨fs, v8, hh, hk, H⟩ := H
    refine J_get dX1_takeInHand_27 fX1_9 hh hk ?_
    clear hh hk
    obtain ⟨fs, v9, hh, hk, H⟩ := H
    refine J_get dX1_takeInHand_30 fX1_100 hh hk ?_
    clear hh hk
    refine J_iload_n dX1_takeInHand_33 1 rfl ?_
    obtain ⟨⟨fs, hh⟩, H⟩ := H
    refine J_callV (As := [.int 3, .ref v9, .int i1]) (S := []) (b := v7) dX1_takeInHand_34 mX2_putAllOf_ok kX1_141 rfl (by decide) (Nat.le_of_ble_eq_true rfl) hh rfl rfl (Nat.le_of_ble_eq_true rfl) ⟨Nat.le_of_ble_eq_true rfl, Nat.le_of_ble_eq_true rfl⟩ (fun k h' hp => ?_) H (fun r h10 hp => ?_)
    · obtain ⟨hv, -⟩ := hp; cases hv
    obtain ⟨rfl, H⟩ := hp
    show am_J l g mX1_takeInHand (d + 1) (0, 0, x) 37 [(0, .ref a0), (1, .int i1)] [] h10 Q
    exact J_vret dX1_takeInHand_37 rfl ⟨Nat.le_of_ble_eq_true rfl, Nat.le_of_ble_eq_true rfl, fun _ => rfl⟩ H
theorem eX1_takeInHand {l : Launch} {g : am_G} {d : Nat} {x : Bool} {a0 : Nat} {i1 : Int32} {h : am_H} {K : am_H → Prop} (H : zX1_takeInHand_0 l g d x a0 i1 h (fun r h' => r = none ∧ K h')) : cl_N l g mX1_takeInHand (d + 1) x [.ref a0, .int i1] h K := rX1_takeInHand_0 H
