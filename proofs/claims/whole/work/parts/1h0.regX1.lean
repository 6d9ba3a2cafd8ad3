def zX1_init_0 (l : Launch) (g : am_G) (d : Nat) (a0 : Nat) (a1 : Nat) (a2 : Nat) (h : am_H) (Q : Option Value → am_H → Prop) : Prop := pt_V h a0 1 0 (.ref a1) (fun h1 => pt_V h1 a0 1 1 (.ref a2) (fun h2 => ci_N l g mX2_init4 d true ((h2).length) [.int 4] (h2 ++ [am_O 2 [.null]]) (fun h3 => pt_V h3 a0 1 2 (.ref ((h2).length)) (fun h5 => pt_V (h5 ++ [am_I 0 300 (fun _ => 0)]) a0 1 3 (.ref ((h5).length)) (fun h6 => pt_V (h6 ++ [am_I 0 300 (fun _ => 0)]) a0 1 4 (.ref ((h6).length)) (fun h7 => pt_V (h7 ++ [am_I 0 300 (fun _ => 0)]) a0 1 5 (.ref ((h7).length)) (fun h8 => pt_V (h8 ++ [am_I 2 300 (fun _ => 0)]) a0 1 6 (.ref ((h8).length)) (fun h9 => pt_V (h9 ++ [am_I 0 300 (fun _ => 0)]) a0 1 9 (.ref ((h9).length)) (fun h10 => pt_V h10 a0 1 8 (.int (-1)) (fun h11 => Q none h11))))))))))
set_option maxRecDepth 4000 in
theorem rX1_init_0 {l : Launch} {g : am_G} {d : Nat} {a0 : Nat} {a1 : Nat} {a2 : Nat} {h : am_H} {Q : Option Value → am_H → Prop} (H : zX1_init_0 l g d a0 a1 a2 h Q) : am_J l g mX1_init (d + 1) (0, 0, true) 0 [(0, .ref a0), (1, .ref a1), (2, .ref a2)] [] h Q := by
  unfold zX1_init_0 at H
  refine J_aload_n dX1_init_0 0 rfl ?_
  refine J_objInit dX1_init_1 kX1_3 (Nat.le_of_ble_eq_true rfl) ?_
  refine J_aload_n dX1_init_4 0 rfl ?_
  refine J_aload_n dX1_init_5 1 rfl ?_
  obtain ⟨fs, hh, hk, H⟩ := H
  refine J_putF dX1_init_6 fX1_9 rfl rfl rfl rfl hh hk ?_
  generalize List.set h a0 (am_O 1 (List.set fs 0 (.ref a1))) = h1 at H ⊢
  clear hh hk
  refine J_aload_n dX1_init_9 0 rfl ?_
  refine J_aload_n dX1_init_10 2 rfl ?_
  obtain ⟨fs, hh, hk, H⟩ := H
  refine J_putF dX1_init_11 fX1_15 rfl rfl rfl rfl hh hk ?_
  generalize List.set h1 a0 (am_O 1 (List.set fs 1 (.ref a2))) = h2 at H ⊢
  clear hh hk
  refine J_aload_n dX1_init_14 0 rfl ?_
  refine J_new (ci := 2) (fs := [.null]) dX1_init_15 rfl gwX2 tyX2 tyX2_ok cX1_19 nX2 zX2 (by decide +kernel) rfl ⟨by decide, by decide⟩ ?_
  refine J_dup dX1_init_18 rfl ?_
  refine J_iconst (v := 4) dX1_init_19 (by decide) ?_
  refine J_callI (As := [.int 4]) (S := [.ref ((h2).length), .ref a0]) (b := ((h2).length)) dX1_init_20 mX2_init4_ok rfl kX1_21 rfl (by decide) (Nat.le_of_ble_eq_true rfl) rfl (Nat.le_of_ble_eq_true rfl) ⟨by decide, by decide⟩ (fun k h' hp => ?_) H (fun r h3 hp => ?_)
  · obtain ⟨hv, -⟩ := hp; cases hv
  obtain ⟨rfl, H⟩ := hp
  show am_J l g mX1_init (d + 1) (2, 21, true) 23 [(0, .ref a0), (1, .ref a1), (2, .ref a2)] [.ref ((h2).length), .ref a0] h3 Q
  obtain ⟨fs, hh, hk, H⟩ := H
  refine J_putF dX1_init_23 fX1_24 rfl rfl rfl rfl hh hk ?_
  generalize List.set h3 a0 (am_O 1 (List.set fs 2 (.ref ((h2).length)))) = h5 at H ⊢
  clear hh hk
  refine J_aload_n dX1_init_26 0 rfl ?_
  refine J_sipush (v := 300) dX1_init_27 (by decide) ?_
  refine J_newaI (t := 0) (N' := 300) (ty := .int) dX1_init_30 rfl aw_int (by decide) (by decide +kernel) (by decide +kernel) (by decide +kernel) ⟨by decide +kernel, by decide +kernel⟩ ?_
  show am_J l g mX1_init (d + 1) (3, 321, true) 32 [(0, .ref a0), (1, .ref a1), (2, .ref a2)] [.ref ((h5).length), .ref a0] (h5 ++ [am_I 0 300 (fun _ => 0)]) Q
  obtain ⟨fs, hh, hk, H⟩ := H
  refine J_putF dX1_init_32 fX1_28 rfl rfl rfl rfl hh hk ?_
  generalize List.set (h5 ++ [am_I 0 300 (fun _ => 0)]) a0 (am_O 1 (List.set fs 3 (.ref ((h5).length)))) = h6 at H ⊢
  clear hh hk
  refine J_aload_n dX1_init_35 0 rfl ?_
  refine J_sipush (v := 300) dX1_init_36 (by decide) ?_
  refine J_newaI (t := 0) (N' := 300) (ty := .int) dX1_init_39 rfl aw_int (by decide) (by decide +kernel) (by decide +kernel) (by decide +kernel) ⟨by decide +kernel, by decide +kernel⟩ ?_
  show am_J l g mX1_init (d + 1) (4, 621, true) 41 [(0, .ref a0), (1, .ref a1), (2, .ref a2)] [.ref ((h6).length), .ref a0] (h6 ++ [am_I 0 300 (fun _ => 0)]) Q
  obtain ⟨fs, hh, hk, H⟩ := H
  refine J_putF dX1_init_41 fX1_32 rfl rfl rfl rfl hh hk ?_
  generalize List.set (h6 ++ [am_I 0 300 (fun _ => 0)]) a0 (am_O 1 (List.set fs 4 (.ref ((h6).length)))) = h7 at H ⊢
  clear hh hk
  refine J_aload_n dX1_init_44 0 rfl ?_
  refine J_sipush (v := 300) dX1_init_45 (by decide) ?_
  refine J_newaI (t := 0) (N' := 300) (ty := .int) dX1_init_48 rfl aw_int (by decide) (by decide +kernel) (by decide +kernel) (by decide +kernel) ⟨by decide +kernel, by decide +kernel⟩ ?_
  show am_J l g mX1_init (d + 1) (5, 921, true) 50 [(0, .ref a0), (1, .ref a1), (2, .ref a2)] [.ref ((h7).length), .ref a0] (h7 ++ [am_I 0 300 (fun _ => 0)]) Q
  obtain ⟨fs, hh, hk, H⟩ := H
  refine J_putF dX1_init_50 fX1_35 rfl rfl rfl rfl hh hk ?_
  generalize List.set (h7 ++ [am_I 0 300 (fun _ => 0)]) a0 (am_O 1 (List.set fs 5 (.ref ((h7).length)))) = h8 at H ⊢
  clear hh hk
  refine J_aload_n dX1_init_53 0 rfl ?_
  refine J_sipush (v := 300) dX1_init_54 (by decide) ?_
  refine J_newaI (t := 2) (N' := 300) (ty := .boolean) dX1_init_57 rfl aw_boolean (by decide) (by decide +kernel) (by decide +kernel) (by decide +kernel) ⟨by decide +kernel, by decide +kernel⟩ ?_
  show am_J l g mX1_init (d + 1) (6, 1221, true) 59 [(0, .ref a0), (1, .ref a1), (2, .ref a2)] [.ref ((h8).length), .ref a0] (h8 ++ [am_I 2 300 (fun _ => 0)]) Q
  obtain ⟨fs, hh, hk, H⟩ := H
  refine J_putF dX1_init_59 fX1_38 rfl rfl rfl rfl hh hk ?_
  generalize List.set (h8 ++ [am_I 2 300 (fun _ => 0)]) a0 (am_O 1 (List.set fs 6 (.ref ((h8).length)))) = h9 at H ⊢
  clear hh hk
  refine J_aload_n dX1_init_62 0 rfl ?_
  refine J_sipush (v := 300) dX1_init_63 (by decide) ?_
  refine J_newaI (t := 0) (N' := 300) (ty := .int) dX1_init_66 rfl aw_int (by decide) (by decide +kernel) (by decide +kernel) (by decide +kernel) ⟨by decide +kernel, by decide +kernel⟩ ?_
  show am_J l g mX1_init (d + 1) (7, 1521, true) 68 [(0, .ref a0), (1, .ref a1), (2, .ref a2)] [.ref ((h9).length), .ref a0] (h9 ++ [am_I 0 300 (fun _ => 0)]) Q
  obtain ⟨fs, hh, hk, H⟩ := H
  refine J_putF dX1_init_68 fX1_42 rfl rfl rfl rfl hh hk ?_
  generalize List.set (h9 ++ [am_I 0 300 (fun _ => 0)]) a0 (am_O 1 (List.set fs 9 (.ref ((h9).length)))) = h10 at H ⊢
  clear hh hk
  refine J_aload_n dX1_init_71 0 rfl ?_
  refine J_iconst (v := (-1)) dX1_init_72 (by decide) ?_
  obtain ⟨fs, hh, hk, H⟩ := H
  refine J_put dX1_init_73 fX1_45 rfl rfl hh hk ?_
  generalize List.set h10 a0 (am_O 1 (List.set fs 8 (.int (-1)))) = h11 at H ⊢
  clear hh hk
  exact J_vret dX1_init_76 rfl ⟨by decide +kernel, by decide +kernel, fun _ => by decide +kernel⟩ H
theorem eX1_init {l : Launch} {g : am_G} {d : Nat} {a0 : Nat} {a1 : Nat} {a2 : Nat} {h : am_H} {K : am_H → Prop} (H : zX1_init_0 l g d a0 a1 a2 h (fun r h' => r = none ∧ K h')) : cl_N l g mX1_init (d + 1) true [.ref a0, .ref a1, .ref a2] h K := rX1_init_0 H
def zX1_refresh_0 (l : Launch) (g : am_G) (d : Nat) (x : Bool) (a0 : Nat) (h : am_H) (Q : Option Value → am_H → Prop) : Prop := gt_I h a0 1 8 (fun v1 => gt_R h a0 1 0 (fun v2 => gt_I h v2 0 8 (fun v3 => ((¬ v1 = v3 → gt_R h a0 1 0 (fun v4 => gt_I h v4 0 8 (fun v5 => pt_V h a0 1 8 (.int v5) (fun h6 => gt_R h6 a0 1 1 (fun v7 => cv_N l g mX3_refresh d x 3 v7 [] h6 (fun h8 => pt_V h8 a0 1 10 (.int 0) (fun h10 => gt_R h10 a0 1 2 (fun v11 => cv_N l g mX2_dropAll d x 2 v11 [] h10 (fun h12 => gt_R h12 a0 1 1 (fun v14 => gt_I h12 v14 3 13 (fun v15 => ((v15 = 0 → Q none h12) ∧ (¬ v15 = 0 → cv_N l g mX1_pairWhatIsFree d x 1 a0 [] h12 (fun h16 => cv_N l g mX1_pairAsManyAsCanBe d x 1 a0 [] h16 (fun h18 => cv_N l g mX1_markOpened d x 1 a0 [] h18 (fun h20 => cv_N l g mX1_putInOrder d x 1 a0 [] h20 (fun h22 => Q none h22))))))))))))))))) ∧ (v1 = v3 → Q none h)))))
set_option maxRecDepth 4000 in
theorem rX1_refresh_0 {l : Launch} {g : am_G} {d : Nat} {x : Bool} {a0 : Nat} {h : am_H} {Q : Option Value → am_H → Prop} (H : zX1_refresh_0 l g d x a0 h Q) : am_J l g mX1_refresh (d + 1) (0, 0, x) 0 [(0, .ref a0)] [] h Q := by
  unfold zX1_refresh_0 at H
  refine J_aload_n dX1_refresh_0 0 rfl ?_
  obtain ⟨fs, v1, hh, hk, H⟩ := H
  refine J_get dX1_refresh_1 fX1_45 hh hk ?_
  clear hh hk
  refine J_aload_n dX1_refresh_4 0 rfl ?_
  obtain ⟨fs, v2, hh, hk, H⟩ := H
  refine J_get dX1_refresh_5 fX1_9 hh hk ?_
  clear hh hk
  obtain ⟨fs, v3, hh, hk, H⟩ := H
  refine J_get dX1_refresh_8 fX1_49 hh hk ?_
  clear hh hk
  obtain ⟨H1, H2⟩ := H
  refine J_icmp_ne (tgt := 15) dX1_refresh_11 (by decide) (fun hc => ?_) (fun hc => ?_)
  · replace H := H1 hc
    clear H1 H2
    refine J_aload_n dX1_refresh_15 0 rfl ?_
    refine J_aload_n dX1_refresh_16 0 rfl ?_
    obtain ⟨fs, v4, hh, hk, H⟩ := H
    refine J_get dX1_refresh_17 fX1_9 hh hk ?_
    clear hh hk
    obtain ⟨fs, v5, hh, hk, H⟩ := H
    refine J_get dX1_refresh_20 fX1_49 hh hk ?_
    clear hh hk
    obtain ⟨fs, hh, hk, H⟩ := H
    refine J_put dX1_refresh_23 fX1_45 rfl rfl hh hk ?_
    generalize List.set h a0 (am_O 1 (List.set fs 8 (.int v5))) = h6 at H ⊢
    clear hh hk
    refine J_aload_n dX1_refresh_26 0 rfl ?_
    obtain ⟨fs, v7, hh, hk, H⟩ := H
    refine J_get dX1_refresh_27 fX1_15 hh hk ?_
    clear hh hk
    obtain ⟨⟨fs, hh⟩, H⟩ := H
    refine J_callV (As := []) (S := []) (b := v7) dX1_refresh_30 mX3_refresh_ok kX1_54 rfl (by decide) (Nat.le_of_ble_eq_true rfl) hh rfl rfl (Nat.le_of_ble_eq_true rfl) ⟨Nat.le_of_ble_eq_true rfl, Nat.le_of_ble_eq_true rfl⟩ (fun k h' hp => ?_) H (fun r h8 hp => ?_)
    · obtain ⟨hv, -⟩ := hp; cases hv
    obtain ⟨rfl, H⟩ := hp
    show am_J l g mX1_refresh (d + 1) (0, 0, x) 33 [(0, .ref a0)] [] h8 Q
    refine J_aload_n dX1_refresh_33 0 rfl ?_
    refine J_iconst (v := 0) dX1_refresh_34 (by decide) ?_
    obtain ⟨fs, hh, hk, H⟩ := H
    refine J_put dX1_refresh_35 fX1_59 rfl rfl hh hk ?_
    generalize List.set h8 a0 (am_O 1 (List.set fs 10 (.int 0))) = h10 at H ⊢
    clear hh hk
    refine J_aload_n dX1_refresh_38 0 rfl ?_
    obtain ⟨fs, v11, hh, hk, H⟩ := H
    refine J_get dX1_refresh_39 fX1_24 hh hk ?_
    clear hh hk
    obtain ⟨⟨fs, hh⟩, H⟩ := H
    refine J_callV (As := []) (S := []) (b := v11) dX1_refresh_42 mX2_dropAll_ok kX1_62 rfl (by decide) (Nat.le_of_ble_eq_true rfl) hh rfl rfl (Nat.le_of_ble_eq_true rfl) ⟨Nat.le_of_ble_eq_true rfl, Nat.le_of_ble_eq_true rfl⟩ (fun k h' hp => ?_) H (fun r h12 hp => ?_)
    · obtain ⟨hv, -⟩ := hp; cases hv
    obtain ⟨rfl, H⟩ := hp
    show am_J l g mX1_refresh (d + 1) (0, 0, x) 45 [(0, .ref a0)] [] h12 Q
    refine J_aload_n dX1_refresh_45 0 rfl ?_
    obtain ⟨fs, v14, hh, hk, H⟩ := H
    refine J_get dX1_refresh_46 fX1_15 hh hk ?_
    clear hh hk
    obtain ⟨fs, v15, hh, hk, H⟩ := H
    refine J_get dX1_refresh_49 fX1_65 hh hk ?_
    clear hh hk
    obtain ⟨H1, H2⟩ := H
    refine J_if_eq (tgt := 71) dX1_refresh_52 (by decide) (fun hc => ?_) (fun hc => ?_)
    · replace H := H1 hc
      clear H1 H2
      exact J_vret dX1_refresh_71 rfl ⟨Nat.le_of_ble_eq_true rfl, Nat.le_of_ble_eq_true rfl, fun _ => rfl⟩ H
    · replace H := H2 hc
      clear H1 H2
      refine J_aload_n dX1_refresh_55 0 rfl ?_
      obtain ⟨⟨fs, hh⟩, H⟩ := H
      refine J_callV (As := []) (S := []) (b := a0) dX1_refresh_56 mX1_pairWhatIsFree_ok kX1_69 rfl (by decide) (Nat.le_of_ble_eq_true rfl) hh rfl rfl (Nat.le_of_ble_eq_true rfl) ⟨Nat.le_of_ble_eq_true rfl, Nat.le_of_ble_eq_true rfl⟩ (fun k h' hp => ?_) H (fun r h16 hp => ?_)
      · obtain ⟨hv, -⟩ := hp; cases hv
      obtain ⟨rfl, H⟩ := hp
      show am_J l g mX1_refresh (d + 1) (0, 0, x) 59 [(0, .ref a0)] [] h16 Q
      refine J_aload_n dX1_refresh_59 0 rfl ?_
      obtain ⟨⟨fs, hh⟩, H⟩ := H
      refine J_callV (As := []) (S := []) (b := a0) dX1_refresh_60 mX1_pairAsManyAsCanBe_ok kX1_72 rfl (by decide) (Nat.le_of_ble_eq_true rfl) hh rfl rfl (Nat.le_of_ble_eq_true rfl) ⟨Nat.le_of_ble_eq_true rfl, Nat.le_of_ble_eq_true rfl⟩ (fun k h' hp => ?_) H (fun r h18 hp => ?_)
      · obtain ⟨hv, -⟩ := hp; cases hv
      obtain ⟨rfl, H⟩ := hp
      show am_J l g mX1_refresh (d + 1) (0, 0, x) 63 [(0, .ref a0)] [] h18 Q
      refine J_aload_n dX1_refresh_63 0 rfl ?_
      obtain ⟨⟨fs, hh⟩, H⟩ := H
      refine J_callV (As := []) (S := []) (b := a0) dX1_refresh_64 mX1_markOpened_ok kX1_75 rfl (by decide) (Nat.le_of_ble_eq_true rfl) hh rfl rfl (Nat.le_of_ble_eq_true rfl) ⟨Nat.le_of_ble_eq_true rfl, Nat.le_of_ble_eq_true rfl⟩ (fun k h' hp => ?_) H (fun r h20 hp => ?_)
      · obtain ⟨hv, -⟩ := hp; cases hv
      obtain ⟨rfl, H⟩ := hp
      show am_J l g mX1_refresh (d + 1) (0, 0, x) 67 [(0, .ref a0)] [] h20 Q
      refine J_aload_n dX1_refresh_67 0 rfl ?_
      obtain ⟨⟨fs, hh⟩, H⟩ := H
      refine J_callV (As := []) (S := []) (b := a0) dX1_refresh_68 mX1_putInOrder_ok kX1_78 rfl (by decide) (Nat.le_of_ble_eq_true rfl) hh rfl rfl (Nat.le_of_ble_eq_true rfl) ⟨Nat.le_of_ble_eq_true rfl, Nat.le_of_ble_eq_true rfl⟩ (fun k h' hp => ?_) H (fun r h22 hp => ?_)
      · obtain ⟨hv, -⟩ := hp; cases hv
      obtain ⟨rfl, H⟩ := hp
      show am_J l g mX1_refresh (d + 1) (0, 0, x) 71 [(0, .ref a0)] [] h22 Q
      exact J_vret dX1_refresh_71 rfl ⟨Nat.le_of_ble_eq_true rfl, Nat.le_of_ble_eq_true rfl, fun _ => rfl⟩ H
  · replace H := H2 hc
    clear H1 H2
    exact J_vret dX1_refresh_14 rfl ⟨Nat.le_of_ble_eq_true rfl, Nat.le_of_ble_eq_true rfl, fun _ => rfl⟩ H
theorem eX1_refresh {l : Launch} {g : am_G} {d : Nat} {x : Bool} {a0 : Nat} {h : am_H} {K : am_H → Prop} (H : zX1_refresh_0 l g d x a0 h (fun r h' => r = none ∧ K h')) : cl_N l g mX1_refresh (d + 1) x [.ref a0] h K := rX1_refresh_0 H
def zX1_isOpened_0 (l : Launch) (g : am_G) (d : Nat) (x : Bool) (a0 : Nat) (i1 : Int32) (h : am_H) (Q : Option Value → am_H → Prop) : Prop := gt_R h a0 1 2 (fun v1 => cv_I l g mX2_has d x 2 v1 [.int 0, .int i1] h (fun v3 h2 => ((v3 = 0 ∨ v3 = 1) ∧ Q (some (.int v3)) h2)))
set_option maxRecDepth 4000 in
theorem rX1_isOpened_0 {l : Launch} {g : am_G} {d : Nat} {x : Bool} {a0 : Nat} {i1 : Int32} {h : am_H} {Q : Option Value → am_H → Prop} (H : zX1_isOpened_0 l g d x a0 i1 h Q) : am_J l g mX1_isOpened (d + 1) (0, 0, x) 0 [(0, .ref a0), (1, .int i1)] [] h Q := by
  unfold zX1_isOpened_0 at H
  refine J_aload_n dX1_isOpened_0 0 rfl ?_
  obtain ⟨fs, v1, hh, hk, H⟩ := H
  refine J_get dX1_isOpened_1 fX1_24 hh hk ?_
  clear hh hk
  refine J_iconst (v := 0) dX1_isOpened_4 (by decide) ?_
  refine J_iload_n dX1_isOpened_5 1 rfl ?_
  obtain ⟨⟨fs, hh⟩, H⟩ := H
  refine J_callV (As := [.int 0, .int i1]) (S := []) (b := v1) dX1_isOpened_6 mX2_has_ok kX1_81 rfl (by decide) (Nat.le_of_ble_eq_true rfl) hh rfl rfl (Nat.le_of_ble_eq_true rfl) ⟨Nat.le_of_ble_eq_true rfl, Nat.le_of_ble_eq_true rfl⟩ (fun k h' hp => ?_) H (fun r h2 hp => ?_)
  · obtain ⟨_, hv, -⟩ := hp; cases hv
  obtain ⟨v3, rfl, H⟩ := hp
  show am_J l g mX1_isOpened (d + 1) (0, 0, x) 9 [(0, .ref a0), (1, .int i1)] [.int v3] h2 Q
  obtain ⟨hb, H⟩ := H
  exact J_iret dX1_isOpened_9 (am_nar01 rfl hb) ⟨Nat.le_of_ble_eq_true rfl, Nat.le_of_ble_eq_true rfl, fun _ => rfl⟩ H
theorem eX1_isOpened {l : Launch} {g : am_G} {d : Nat} {x : Bool} {a0 : Nat} {i1 : Int32} {h : am_H} {K : Int32 → am_H → Prop} (H : zX1_isOpened_0 l g d x a0 i1 h (fun r h' => ∃ v, r = some (.int v) ∧ K v h')) : cl_I l g mX1_isOpened (d + 1) x [.ref a0, .int i1] h K := rX1_isOpened_0 H
def zX1_pairWhatIsFree_38 (l : Launch) (g : am_G) (d : Nat) (x : Bool) (a0 : Nat) (i1 : Int32) (h : am_H) (Q : Option Value → am_H → Prop) : Prop := am_J l g mX1_pairWhatIsFree (d + 1) (0, 0, x) 10 [(0, .ref a0), (1, .int (i1 + 1))] [] h Q
set_option maxRecDepth 4000 in
theorem rX1_pairWhatIsFree_38 {l : Launch} {g : am_G} {d : Nat} {x : Bool} {a0 : Nat} {i1 : Int32} {h : am_H} {Q : Option Value → am_H → Prop} (H : zX1_pairWhatIsFree_38 l g d x a0 i1 h Q) : am_J l g mX1_pairWhatIsFree (d + 1) (0, 0, x) 38 [(0, .ref a0), (1, .int i1)] [] h Q := by
  unfold zX1_pairWhatIsFree_38 at H
  refine J_iinc (v := (i1 + 1)) (L' := [(1, .int (i1 + 1)), (0, .ref a0)]) dX1_pairWhatIsFree_38 1 rfl rfl (by decide) rfl ?_
  refine J_goto (tgt := 10) dX1_pairWhatIsFree_41 (by decide) ?_
  exact J_pick [1, 0] rfl H
def zX1_pairWhatIsFree_10 (l : Launch) (g : am_G) (d : Nat) (x : Bool) (a0 : Nat) (i1 : Int32) (h : am_H) (Q : Option Value → am_H → Prop) : Prop := gt_R h a0 1 0 (fun v1 => gt_I h v1 0 7 (fun v2 => ((v2 ≤ i1 → Q none h) ∧ (¬ v2 ≤ i1 → gt_R h a0 1 1 (fun v3 => gt_R h v3 3 9 (fun v4 => al_I 2 h v4 i1 (fun v5 => ((v5 = 0 → zX1_pairWhatIsFree_38 l g d x a0 i1  h Q) ∧ (¬ v5 = 0 → cv_N l g mX1_pairWithFree d x 1 a0 [.int i1] h (fun h6 => zX1_pairWhatIsFree_38 l g d x a0 i1  h6 Q))))))))))
set_option maxRecDepth 4000 in
theorem rX1_pairWhatIsFree_10 {l : Launch} {g : am_G} {d : Nat} {x : Bool} {a0 : Nat} {i1 : Int32} {h : am_H} {Q : Option Value → am_H → Prop} (H : zX1_pairWhatIsFree_10 l g d x a0 i1 h Q) : am_J l g mX1_pairWhatIsFree (d + 1) (0, 0, x) 10 [(0, .ref a0), (1, .int i1)] [] h Q := by
  unfold zX1_pairWhatIsFree_10 at H
  refine J_iload_n dX1_pairWhatIsFree_10 1 rfl ?_
  refine J_aload_n dX1_pairWhatIsFree_11 0 rfl ?_
  obtain ⟨fs, v1, hh, hk, H⟩ := H
  refine J_get dX1_pairWhatIsFree_12 fX1_9 hh hk ?_
  clear hh hk
  obtain ⟨fs, v2, hh, hk, H⟩ := H
  refine J_get dX1_pairWhatIsFree_15 fX1_91 hh hk ?_
  clear hh hk
  obtain ⟨H1, H2⟩ := H
  refine J_icmp_ge (tgt := 44) dX1_pairWhatIsFree_18 (by decide) (fun hc => ?_) (fun hc => ?_)
  · replace H := H1 hc
    clear H1 H2
    exact J_vret dX1_pairWhatIsFree_44 rfl ⟨Nat.le_of_ble_eq_true rfl, Nat.le_of_ble_eq_true rfl, fun _ => rfl⟩ H
  · replace H := H2 hc
    clear H1 H2
    refine J_aload_n dX1_pairWhatIsFree_21 0 rfl ?_
    obtain ⟨fs, v3, hh, hk, H⟩ := H
    refine J_get dX1_pairWhatIsFree_22 fX1_15 hh hk ?_
    clear hh hk
    obtain ⟨fs, v4, hh, hk, H⟩ := H
    refine J_get dX1_pairWhatIsFree_25 fX1_94 hh hk ?_
    clear hh hk
    refine J_iload_n dX1_pairWhatIsFree_28 1 rfl ?_
    obtain ⟨nn, ff, hh, hk, H⟩ := H
    refine J_zald dX1_pairWhatIsFree_29 hh hk ?_
    generalize ff (Int32.toNatClampNeg i1) = v5 at H ⊢
    clear hh hk ff
    obtain ⟨H1, H2⟩ := H
    refine J_if_eq (tgt := 38) dX1_pairWhatIsFree_30 (by decide) (fun hc => ?_) (fun hc => ?_)
    · replace H := H1 hc
      clear H1 H2
      exact J_pick [0, 1] rfl (rX1_pairWhatIsFree_38 H)
    · replace H := H2 hc
      clear H1 H2
      refine J_aload_n dX1_pairWhatIsFree_33 0 rfl ?_
      refine J_iload_n dX1_pairWhatIsFree_34 1 rfl ?_
      obtain ⟨⟨fs, hh⟩, H⟩ := H
      refine J_callV (As := [.int i1]) (S := []) (b := a0) dX1_pairWhatIsFree_35 mX1_pairWithFree_ok kX1_97 rfl (by decide) (Nat.le_of_ble_eq_true rfl) hh rfl rfl (Nat.le_of_ble_eq_true rfl) ⟨Nat.le_of_ble_eq_true rfl, Nat.le_of_ble_eq_true rfl⟩ (fun k h' hp => ?_) H (fun r h6 hp => ?_)
      · obtain ⟨hv, -⟩ := hp; cases hv
      obtain ⟨rfl, H⟩ := hp
      show am_J l g mX1_pairWhatIsFree (d + 1) (0, 0, x) 38 [(0, .ref a0), (1, .int i1)] [] h6 Q
      exact J_pick [0, 1] rfl (rX1_pairWhatIsFree_38 H)
def zX1_pairWhatIsFree_0 (l : Launch) (g : am_G) (d : Nat) (x : Bool) (a0 : Nat) (h : am_H) (Q : Option Value → am_H → Prop) : Prop := gt_R h a0 1 3 (fun v1 => cs_N l g mJ7_fill_53178 d x [.ref v1, .int (-1)] h (fun h2 => am_J l g mX1_pairWhatIsFree (d + 1) (0, 0, x) 10 [(0, .ref a0), (1, .int 0)] [] h2 Q))
set_option maxRecDepth 4000 in
theorem rX1_pairWhatIsFree_0 {l : Launch} {g : am_G} {d : Nat} {x : Bool} {a0 : Nat} {h : am_H} {Q : Option Value → am_H → Prop} (H : zX1_pairWhatIsFree_0 l g d x a0 h Q) : am_J l g mX1_pairWhatIsFree (d + 1) (0, 0, x) 0 [(0, .ref a0)] [] h Q := by
  unfold zX1_pairWhatIsFree_0 at H
  refine J_aload_n dX1_pairWhatIsFree_0 0 rfl ?_
  obtain ⟨fs, v1, hh, hk, H⟩ := H
  refine J_get dX1_pairWhatIsFree_1 fX1_28 hh hk ?_
  clear hh hk
  refine J_iconst (v := (-1)) dX1_pairWhatIsFree_4 (by decide) ?_
  refine J_callS (As := [.ref v1, .int (-1)]) (S := []) dX1_pairWhatIsFree_5 mJ7_fill_53178_ok kX1_85 rfl (by decide) (Nat.le_of_ble_eq_true rfl) rfl (Nat.le_of_ble_eq_true rfl) ⟨Nat.le_of_ble_eq_true rfl, Nat.le_of_ble_eq_true rfl⟩ (fun k h' hp => ?_) H (fun r h2 hp => ?_)
  · obtain ⟨hv, -⟩ := hp; cases hv
  obtain ⟨rfl, H⟩ := hp
  show am_J l g mX1_pairWhatIsFree (d + 1) (0, 0, x) 8 [(0, .ref a0)] [] h2 Q
  refine J_iconst (v := 0) dX1_pairWhatIsFree_8 (by decide) ?_
  refine J_istore_n (L' := [(1, .int 0), (0, .ref a0)]) dX1_pairWhatIsFree_9 (by decide) rfl ?_
  exact J_pick [1, 0] rfl H
theorem eX1_pairWhatIsFree {l : Launch} {g : am_G} {d : Nat} {x : Bool} {a0 : Nat} {h : am_H} {K : am_H → Prop} (H : zX1_pairWhatIsFree_0 l g d x a0 h (fun r h' => r = none ∧ K h')) : cl_N l g mX1_pairWhatIsFree (d + 1) x [.ref a0] h K := rX1_pairWhatIsFree_0 H
def zX1_pairWithFree_15 (l : Launch) (g : am_G) (d : Nat) (x : Bool) (a0 : Nat) (i1 : Int32) (i2 : Int32) (i3 : Int32) (h : am_H) (Q : Option Value → am_H → Prop) : Prop := ((300 ≤ i3 → Q none h) ∧ (¬ 300 ≤ i3 → ((i2 = (-1) → Q none h) ∧ (¬ i2 = (-1) → gt_R h a0 1 3 (fun v1 => al_I 0 h v1 i2 (fun v2 => ((¬ v2 = (-1) → gt_R h a0 1 0 (fun v3 => gt_R h v3 0 3 (fun v4 => cv_I l g mX2_next d x 2 v4 [.int i1, .int (i2 + 1)] h (fun v6 h5 => am_J l g mX1_pairWithFree (d + 1) (0, 0, x) 15 [(0, .ref a0), (1, .int i1), (2, .int v6), (3, .int (i3 + 1))] [] h5 Q)))) ∧ (v2 = (-1) → gt_R h a0 1 3 (fun v7 => as_I 0 h v7 i1 i2 (fun h8 => gt_R h8 a0 1 3 (fun v9 => as_I 0 h8 v9 i2 i1 (fun h10 => Q none h10))))))))))))
set_option maxRecDepth 4000 in
theorem rX1_pairWithFree_15 {l : Launch} {g : am_G} {d : Nat} {x : Bool} {a0 : Nat} {i1 : Int32} {i2 : Int32} {i3 : Int32} {h : am_H} {Q : Option Value → am_H → Prop} (H : zX1_pairWithFree_15 l g d x a0 i1 i2 i3 h Q) : am_J l g mX1_pairWithFree (d + 1) (0, 0, x) 15 [(0, .ref a0), (1, .int i1), (2, .int i2), (3, .int i3)] [] h Q := by
  unfold zX1_pairWithFree_15 at H
  refine J_iload_n dX1_pairWithFree_15 3 rfl ?_
  refine J_sipush (v := 300) dX1_pairWithFree_16 (by decide) ?_
  obtain ⟨H1, H2⟩ := H
  refine J_icmp_ge (tgt := 73) dX1_pairWithFree_19 (by decide) (fun hc => ?_) (fun hc => ?_)
  · replace H := H1 hc
    clear H1 H2
    exact J_vret dX1_pairWithFree_73 rfl ⟨Nat.le_of_ble_eq_true rfl, Nat.le_of_ble_eq_true rfl, fun _ => rfl⟩ H
  · replace H := H2 hc
    clear H1 H2
    refine J_iload_n dX1_pairWithFree_22 2 rfl ?_
    refine J_iconst (v := (-1)) dX1_pairWithFree_23 (by decide) ?_
    obtain ⟨H1, H2⟩ := H
    refine J_icmp_eq (tgt := 73) dX1_pairWithFree_24 (by decide) (fun hc => ?_) (fun hc => ?_)
    · replace H := H1 hc
      clear H1 H2
      exact J_vret dX1_pairWithFree_73 rfl ⟨Nat.le_of_ble_eq_true rfl, Nat.le_of_ble_eq_true rfl, fun _ => rfl⟩ H
    · replace H := H2 hc
      clear H1 H2
      refine J_aload_n dX1_pairWithFree_27 0 rfl ?_
      obtain ⟨fs, v1, hh, hk, H⟩ := H
      refine J_get dX1_pairWithFree_28 fX1_28 hh hk ?_
      clear hh hk
      refine J_iload_n dX1_pairWithFree_31 2 rfl ?_
      obtain ⟨nn, ff, hh, hk, H⟩ := H
      refine J_iald dX1_pairWithFree_32 hh hk ?_
      generalize ff (Int32.toNatClampNeg i2) = v2 at H ⊢
      clear hh hk ff
      refine J_iconst (v := (-1)) dX1_pairWithFree_33 (by decide) ?_
      obtain ⟨H1, H2⟩ := H
      refine J_icmp_ne (tgt := 52) dX1_pairWithFree_34 (by decide) (fun hc => ?_) (fun hc => ?_)
      · replace H := H1 hc
        clear H1 H2
        refine J_aload_n dX1_pairWithFree_52 0 rfl ?_
        obtain ⟨fs, v3, hh, hk, H⟩ := H
        refine J_get dX1_pairWithFree_53 fX1_9 hh hk ?_
        clear hh hk
        obtain ⟨fs, v4, hh, hk, H⟩ := H
        refine J_get dX1_pairWithFree_56 fX1_100 hh hk ?_
        clear hh hk
        refine J_iload_n dX1_pairWithFree_59 1 rfl ?_
        refine J_iload_n dX1_pairWithFree_60 2 rfl ?_
        refine J_iconst (v := 1) dX1_pairWithFree_61 (by decide) ?_
        refine J_iadd dX1_pairWithFree_62 ?_
        obtain ⟨⟨fs, hh⟩, H⟩ := H
        refine J_callV (As := [.int i1, .int (i2 + 1)]) (S := []) (b := v4) dX1_pairWithFree_63 mX2_next_ok kX1_103 rfl (by decide) (Nat.le_of_ble_eq_true rfl) hh rfl rfl (Nat.le_of_ble_eq_true rfl) ⟨Nat.le_of_ble_eq_true rfl, Nat.le_of_ble_eq_true rfl⟩ (fun k h' hp => ?_) H (fun r h5 hp => ?_)
        · obtain ⟨_, hv, -⟩ := hp; cases hv
        obtain ⟨v6, rfl, H⟩ := hp
        show am_J l g mX1_pairWithFree (d + 1) (0, 0, x) 66 [(0, .ref a0), (1, .int i1), (2, .int i2), (3, .int i3)] [.int v6] h5 Q
        refine J_istore_n (L' := [(2, .int v6), (0, .ref a0), (1, .int i1), (3, .int i3)]) dX1_pairWithFree_66 (by decide) rfl ?_
        refine J_iinc (v := (i3 + 1)) (L' := [(3, .int (i3 + 1)), (2, .int v6), (0, .ref a0), (1, .int i1)]) dX1_pairWithFree_67 3 rfl rfl (by decide) rfl ?_
        refine J_goto (tgt := 15) dX1_pairWithFree_70 (by decide) ?_
        exact J_pick [2, 3, 1, 0] rfl H
      · replace H := H2 hc
        clear H1 H2
        refine J_aload_n dX1_pairWithFree_37 0 rfl ?_
        obtain ⟨fs, v7, hh, hk, H⟩ := H
        refine J_get dX1_pairWithFree_38 fX1_28 hh hk ?_
        clear hh hk
        refine J_iload_n dX1_pairWithFree_41 1 rfl ?_
        refine J_iload_n dX1_pairWithFree_42 2 rfl ?_
        obtain ⟨nn, ff, hh, hk, H⟩ := H
        refine J_iast dX1_pairWithFree_43 hh hk ?_
        generalize List.set h v7 (am_I 0 nn (upd ff (Int32.toNatClampNeg i1) i2)) = h8 at H ⊢
        clear hh hk
        refine J_aload_n dX1_pairWithFree_44 0 rfl ?_
        obtain ⟨fs, v9, hh, hk, H⟩ := H
        refine J_get dX1_pairWithFree_45 fX1_28 hh hk ?_
        clear hh hk
        refine J_iload_n dX1_pairWithFree_48 2 rfl ?_
        refine J_iload_n dX1_pairWithFree_49 1 rfl ?_
        obtain ⟨nn, ff, hh, hk, H⟩ := H
        refine J_iast dX1_pairWithFree_50 hh hk ?_
        generalize List.set h8 v9 (am_I 0 nn (upd ff (Int32.toNatClampNeg i2) i1)) = h10 at H ⊢
        clear hh hk
        exact J_vret dX1_pairWithFree_51 rfl ⟨Nat.le_of_ble_eq_true rfl, Nat.le_of_ble_eq_true rfl, fun _ => rfl⟩ H
def zX1_pairWithFree_0 (l : Launch) (g : am_G) (d : Nat) (x : Bool) (a0 : Nat) (i1 : Int32) (h : am_H) (Q : Option Value → am_H → Prop) : Prop := gt_R h a0 1 0 (fun v1 => gt_R h v1 0 3 (fun v2 => cv_I l g mX2_next d x 2 v2 [.int i1, .int 0] h (fun v4 h3 => am_J l g mX1_pairWithFree (d + 1) (0, 0, x) 15 [(0, .ref a0), (1, .int i1), (2, .int v4), (3, .int 0)] [] h3 Q)))
set_option maxRecDepth 4000 in
theorem rX1_pairWithFree_0 {l : Launch} {g : am_G} {d : Nat} {x : Bool} {a0 : Nat} {i1 : Int32} {h : am_H} {Q : Option Value → am_H → Prop} (H : zX1_pairWithFree_0 l g d x a0 i1 h Q) : am_J l g mX1_pairWithFree (d + 1) (0, 0, x) 0 [(0, .ref a0), (1, .int i1)] [] h Q := by
  unfold zX1_pairWithFree_0 at H
  refine J_aload_n dX1_pairWithFree_0 0 rfl ?_
  obtain ⟨fs, v1, hh, hk, H⟩ := H
  refine J_get dX1_pairWithFree_1 fX1_9 hh hk ?_
  clear hh hk
  obtain ⟨fs, v2, hh, hk, H⟩ := H
  refine J_get dX1_pairWithFree_4 fX1_100 hh hk ?_
  clear hh hk
  refine J_iload_n dX1_pairWithFree_7 1 rfl ?_
  refine J_iconst (v := 0) dX1_pairWithFree_8 (by decide) ?_
  obtain ⟨⟨fs, hh⟩, H⟩ := H
  refine J_callV (As := [.int i1, .int 0]) (S := []) (b := v2) dX1_pairWithFree_9 mX2_next_ok kX1_103 rfl (by decide) (Nat.le_of_ble_eq_true rfl) hh rfl rfl (Nat.le_of_ble_eq_true rfl) ⟨Nat.le_of_ble_eq_true rfl, Nat.le_of_ble_eq_true rfl⟩ (fun k h' hp => ?_) H (fun r h3 hp => ?_)
  · obtain ⟨_, hv, -⟩ := hp; cases hv
  obtain ⟨v4, rfl, H⟩ := hp
  show am_J l g mX1_pairWithFree (d + 1) (0, 0, x) 12 [(0, .ref a0), (1, .int i1)] [.int v4] h3 Q
  refine J_istore_n (L' := [(2, .int v4), (0, .ref a0), (1, .int i1)]) dX1_pairWithFree_12 (by decide) rfl ?_
  refine J_iconst (v := 0) dX1_pairWithFree_13 (by decide) ?_
  refine J_istore_n (L' := [(3, .int 0), (2, .int v4), (0, .ref a0), (1, .int i1)]) dX1_pairWithFree_14 (by decide) rfl ?_
  exact J_pick [2, 3, 1, 0] rfl H
theorem eX1_pairWithFree {l : Launch} {g : am_G} {d : Nat} {x : Bool} {a0 : Nat} {i1 : Int32} {h : am_H} {K : am_H → Prop} (H : zX1_pairWithFree_0 l g d x a0 i1 h (fun r h' => r = none ∧ K h')) : cl_N l g mX1_pairWithFree (d + 1) x [.ref a0, .int i1] h K := rX1_pairWithFree_0 H
def zX1_pairAsManyAsCanBe_2 (l : Launch) (g : am_G) (d : Nat) (x : Bool) (a0 : Nat) (i1 : Int32) (h : am_H) (Q : Option Value → am_H → Prop) : Prop := ((300 < i1 → Q none h) ∧ (¬ 300 < i1 → cv_I l g mX1_reachFromUnpaired d x 1 a0 [] h (fun v2 h1 => ((¬ v2 = (-1) → cv_N l g mX1_turnPairsUpTo d x 1 a0 [.int v2] h1 (fun h3 => am_J l g mX1_pairAsManyAsCanBe (d + 1) (0, 0, x) 2 [(0, .ref a0), (1, .int (i1 + 1))] [] h3 Q)) ∧ (v2 = (-1) → Q none h1)))))
set_option maxRecDepth 4000 in
theorem rX1_pairAsManyAsCanBe_2 {l : Launch} {g : am_G} {d : Nat} {x : Bool} {a0 : Nat} {i1 : Int32} {h : am_H} {Q : Option Value → am_H → Prop} (H : zX1_pairAsManyAsCanBe_2 l g d x a0 i1 h Q) : am_J l g mX1_pairAsManyAsCanBe (d + 1) (0, 0, x) 2 [(0, .ref a0), (1, .int i1)] [] h Q := by
  unfold zX1_pairAsManyAsCanBe_2 at H
  refine J_iload_n dX1_pairAsManyAsCanBe_2 1 rfl ?_
  refine J_sipush (v := 300) dX1_pairAsManyAsCanBe_3 (by decide) ?_
  obtain ⟨H1, H2⟩ := H
  refine J_icmp_gt (tgt := 31) dX1_pairAsManyAsCanBe_6 (by decide) (fun hc => ?_) (fun hc => ?_)
  · replace H := H1 hc
    clear H1 H2
    exact J_vret dX1_pairAsManyAsCanBe_31 rfl ⟨Nat.le_of_ble_eq_true rfl, Nat.le_of_ble_eq_true rfl, fun _ => rfl⟩ H
  · replace H := H2 hc
    clear H1 H2
    refine J_aload_n dX1_pairAsManyAsCanBe_9 0 rfl ?_
    obtain ⟨⟨fs, hh⟩, H⟩ := H
    refine J_callV (As := []) (S := []) (b := a0) dX1_pairAsManyAsCanBe_10 mX1_reachFromUnpaired_ok kX1_107 rfl (by decide) (Nat.le_of_ble_eq_true rfl) hh rfl rfl (Nat.le_of_ble_eq_true rfl) ⟨Nat.le_of_ble_eq_true rfl, Nat.le_of_ble_eq_true rfl⟩ (fun k h' hp => ?_) H (fun r h1 hp => ?_)
    · obtain ⟨_, hv, -⟩ := hp; cases hv
    obtain ⟨v2, rfl, H⟩ := hp
    show am_J l g mX1_pairAsManyAsCanBe (d + 1) (0, 0, x) 13 [(0, .ref a0), (1, .int i1)] [.int v2] h1 Q
    refine J_istore_n (L' := [(2, .int v2), (0, .ref a0), (1, .int i1)]) dX1_pairAsManyAsCanBe_13 (by decide) rfl ?_
    refine J_iload_n dX1_pairAsManyAsCanBe_14 0 rfl ?_
    refine J_iconst (v := (-1)) dX1_pairAsManyAsCanBe_15 (by decide) ?_
    obtain ⟨H1, H2⟩ := H
    refine J_icmp_ne (tgt := 20) dX1_pairAsManyAsCanBe_16 (by decide) (fun hc => ?_) (fun hc => ?_)
    · replace H := H1 hc
      clear H1 H2
      refine J_aload_n dX1_pairAsManyAsCanBe_20 1 rfl ?_
      refine J_iload_n dX1_pairAsManyAsCanBe_21 0 rfl ?_
      obtain ⟨⟨fs, hh⟩, H⟩ := H
      refine J_callV (As := [.int v2]) (S := []) (b := a0) dX1_pairAsManyAsCanBe_22 mX1_turnPairsUpTo_ok kX1_111 rfl (by decide) (Nat.le_of_ble_eq_true rfl) hh rfl rfl (Nat.le_of_ble_eq_true rfl) ⟨Nat.le_of_ble_eq_true rfl, Nat.le_of_ble_eq_true rfl⟩ (fun k h' hp => ?_) H (fun r h3 hp => ?_)
      · obtain ⟨hv, -⟩ := hp; cases hv
      obtain ⟨rfl, H⟩ := hp
      show am_J l g mX1_pairAsManyAsCanBe (d + 1) (0, 0, x) 25 [(2, .int v2), (0, .ref a0), (1, .int i1)] [] h3 Q
      refine J_iinc (v := (i1 + 1)) (L' := [(1, .int (i1 + 1)), (2, .int v2), (0, .ref a0)]) dX1_pairAsManyAsCanBe_25 2 rfl rfl (by decide) rfl ?_
      refine J_goto (tgt := 2) dX1_pairAsManyAsCanBe_28 (by decide) ?_
      exact J_pick [2, 0] rfl H
    · replace H := H2 hc
      clear H1 H2
      exact J_vret dX1_pairAsManyAsCanBe_19 rfl ⟨Nat.le_of_ble_eq_true rfl, Nat.le_of_ble_eq_true rfl, fun _ => rfl⟩ H
def zX1_pairAsManyAsCanBe_0 (l : Launch) (g : am_G) (d : Nat) (x : Bool) (a0 : Nat) (h : am_H) (Q : Option Value → am_H → Prop) : Prop := am_J l g mX1_pairAsManyAsCanBe (d + 1) (0, 0, x) 2 [(0, .ref a0), (1, .int 0)] [] h Q
set_option maxRecDepth 4000 in
theorem rX1_pairAsManyAsCanBe_0 {l : Launch} {g : am_G} {d : Nat} {x : Bool} {a0 : Nat} {h : am_H} {Q : Option Value → am_H → Prop} (H : zX1_pairAsManyAsCanBe_0 l g d x a0 h Q) : am_J l g mX1_pairAsManyAsCanBe (d + 1) (0, 0, x) 0 [(0, .ref a0)] [] h Q := by
  unfold zX1_pairAsManyAsCanBe_0 at H
  refine J_iconst (v := 0) dX1_pairAsManyAsCanBe_0 (by decide) ?_
  refine J_istore_n (L' := [(1, .int 0), (0, .ref a0)]) dX1_pairAsManyAsCanBe_1 (by decide) rfl ?_
  exact J_pick [1, 0] rfl H
theorem eX1_pairAsManyAsCanBe {l : Launch} {g : am_G} {d : Nat} {x : Bool} {a0 : Nat} {h : am_H} {K : am_H → Prop} (H : zX1_pairAsManyAsCanBe_0 l g d x a0 h (fun r h' => r = none ∧ K h')) : cl_N l g mX1_pairAsManyAsCanBe (d + 1) x [.ref a0] h K := rX1_pairAsManyAsCanBe_0 H
def zX1_reachFromUnpaired_6 (l : Launch) (g : am_G) (d : Nat) (x : Bool) (a0 : Nat) (i1 : Int32) (h : am_H) (Q : Option Value → am_H → Prop) : Prop := ((300 ≤ i1 → Q (some (.int (-1))) h) ∧ (¬ 300 ≤ i1 → gt_I h a0 1 7 (fun v1 => ((v1 ≤ i1 → Q (some (.int (-1))) h) ∧ (¬ v1 ≤ i1 → gt_R h a0 1 5 (fun v2 => al_I 0 h v2 i1 (fun v3 => cv_I l g mX1_reachFrom d x 1 a0 [.int v3] h (fun v5 h4 => ((v5 = (-1) → am_J l g mX1_reachFromUnpaired (d + 1) (0, 0, x) 6 [(0, .ref a0), (1, .int (i1 + 1))] [] h4 Q) ∧ (¬ v5 = (-1) → Q (some (.int v5)) h4))))))))))
set_option maxRecDepth 4000 in
theorem rX1_reachFromUnpaired_6 {l : Launch} {g : am_G} {d : Nat} {x : Bool} {a0 : Nat} {i1 : Int32} {h : am_H} {Q : Option Value → am_H → Prop} (H : zX1_reachFromUnpaired_6 l g d x a0 i1 h Q) : am_J l g mX1_reachFromUnpaired (d + 1) (0, 0, x) 6 [(0, .ref a0), (1, .int i1)] [] h Q := by
  unfold zX1_reachFromUnpaired_6 at H
  refine J_iload_n dX1_reachFromUnpaired_6 1 rfl ?_
  refine J_sipush (v := 300) dX1_reachFromUnpaired_7 (by decide) ?_
  obtain ⟨H1, H2⟩ := H
  refine J_icmp_ge (tgt := 45) dX1_reachFromUnpaired_10 (by decide) (fun hc => ?_) (fun hc => ?_)
  · replace H := H1 hc
    clear H1 H2
    refine J_iconst (v := (-1)) dX1_reachFromUnpaired_45 (by decide) ?_
    exact J_iret dX1_reachFromUnpaired_46 ⟨_, rfl, rfl⟩ ⟨Nat.le_of_ble_eq_true rfl, Nat.le_of_ble_eq_true rfl, fun _ => rfl⟩ H
  · replace H := H2 hc
    clear H1 H2
    refine J_iload_n dX1_reachFromUnpaired_13 1 rfl ?_
    refine J_aload_n dX1_reachFromUnpaired_14 0 rfl ?_
    obtain ⟨fs, v1, hh, hk, H⟩ := H
    refine J_get dX1_reachFromUnpaired_15 fX1_117 hh hk ?_
    clear hh hk
    obtain ⟨H1, H2⟩ := H
    refine J_icmp_ge (tgt := 45) dX1_reachFromUnpaired_18 (by decide) (fun hc => ?_) (fun hc => ?_)
    · replace H := H1 hc
      clear H1 H2
      refine J_iconst (v := (-1)) dX1_reachFromUnpaired_45 (by decide) ?_
      exact J_iret dX1_reachFromUnpaired_46 ⟨_, rfl, rfl⟩ ⟨Nat.le_of_ble_eq_true rfl, Nat.le_of_ble_eq_true rfl, fun _ => rfl⟩ H
    · replace H := H2 hc
      clear H1 H2
      refine J_aload_n dX1_reachFromUnpaired_21 0 rfl ?_
      refine J_aload_n dX1_reachFromUnpaired_22 0 rfl ?_
      obtain ⟨fs, v2, hh, hk, H⟩ := H
      refine J_get dX1_reachFromUnpaired_23 fX1_35 hh hk ?_
      clear hh hk
      refine J_iload_n dX1_reachFromUnpaired_26 1 rfl ?_
      obtain ⟨nn, ff, hh, hk, H⟩ := H
      refine J_iald dX1_reachFromUnpaired_27 hh hk ?_
      generalize ff (Int32.toNatClampNeg i1) = v3 at H ⊢
      clear hh hk ff
      obtain ⟨⟨fs, hh⟩, H⟩ := H
      refine J_callV (As := [.int v3]) (S := []) (b := a0) dX1_reachFromUnpaired_28 mX1_reachFrom_ok kX1_120 rfl (by decide) (Nat.le_of_ble_eq_true rfl) hh rfl rfl (Nat.le_of_ble_eq_true rfl) ⟨Nat.le_of_ble_eq_true rfl, Nat.le_of_ble_eq_true rfl⟩ (fun k h' hp => ?_) H (fun r h4 hp => ?_)
      · obtain ⟨_, hv, -⟩ := hp; cases hv
      obtain ⟨v5, rfl, H⟩ := hp
      show am_J l g mX1_reachFromUnpaired (d + 1) (0, 0, x) 31 [(0, .ref a0), (1, .int i1)] [.int v5] h4 Q
      refine J_istore_n (L' := [(2, .int v5), (0, .ref a0), (1, .int i1)]) dX1_reachFromUnpaired_31 (by decide) rfl ?_
      refine J_iload_n dX1_reachFromUnpaired_32 0 rfl ?_
      refine J_iconst (v := (-1)) dX1_reachFromUnpaired_33 (by decide) ?_
      obtain ⟨H1, H2⟩ := H
      refine J_icmp_eq (tgt := 39) dX1_reachFromUnpaired_34 (by decide) (fun hc => ?_) (fun hc => ?_)
      · replace H := H1 hc
        clear H1 H2
        refine J_iinc (v := (i1 + 1)) (L' := [(1, .int (i1 + 1)), (2, .int v5), (0, .ref a0)]) dX1_reachFromUnpaired_39 2 rfl rfl (by decide) rfl ?_
        refine J_goto (tgt := 6) dX1_reachFromUnpaired_42 (by decide) ?_
        exact J_pick [2, 0] rfl H
      · replace H := H2 hc
        clear H1 H2
        refine J_iload_n dX1_reachFromUnpaired_37 0 rfl ?_
        exact J_iret dX1_reachFromUnpaired_38 ⟨_, rfl, rfl⟩ ⟨Nat.le_of_ble_eq_true rfl, Nat.le_of_ble_eq_true rfl, fun _ => rfl⟩ H
def zX1_reachFromUnpaired_0 (l : Launch) (g : am_G) (d : Nat) (x : Bool) (a0 : Nat) (h : am_H) (Q : Option Value → am_H → Prop) : Prop := cv_N l g mX1_queueUnpaired d x 1 a0 [] h (fun h1 => am_J l g mX1_reachFromUnpaired (d + 1) (0, 0, x) 6 [(0, .ref a0), (1, .int 0)] [] h1 Q)
set_option maxRecDepth 4000 in
theorem rX1_reachFromUnpaired_0 {l : Launch} {g : am_G} {d : Nat} {x : Bool} {a0 : Nat} {h : am_H} {Q : Option Value → am_H → Prop} (H : zX1_reachFromUnpaired_0 l g d x a0 h Q) : am_J l g mX1_reachFromUnpaired (d + 1) (0, 0, x) 0 [(0, .ref a0)] [] h Q := by
  unfold zX1_reachFromUnpaired_0 at H
  refine J_aload_n dX1_reachFromUnpaired_0 0 rfl ?_
  obtain ⟨⟨fs, hh⟩, H⟩ := H
  refine J_callV (As := []) (S := []) (b := a0) dX1_reachFromUnpaired_1 mX1_queueUnpaired_ok kX1_114 rfl (by decide) (Nat.le_of_ble_eq_true rfl) hh rfl rfl (Nat.le_of_ble_eq_true rfl) ⟨Nat.le_of_ble_eq_true rfl, Nat.le_of_ble_eq_true rfl⟩ (fun k h' hp => ?_) H (fun r h1 hp => ?_)
  · obtain ⟨hv, -⟩ := hp; cases hv
  obtain ⟨rfl, H⟩ := hp
  show am_J l g mX1_reachFromUnpaired (d + 1) (0, 0, x) 4 [(0, .ref a0)] [] h1 Q
  refine J_iconst (v := 0) dX1_reachFromUnpaired_4 (by decide) ?_
  refine J_istore_n (L' := [(1, .int 0), (0, .ref a0)]) dX1_reachFromUnpaired_5 (by decide) rfl ?_
  exact J_pick [1, 0] rfl H
theorem eX1_reachFromUnpaired {l : Launch} {g : am_G} {d : Nat} {x : Bool} {a0 : Nat} {h : am_H} {K : Int32 → am_H → Prop} (H : zX1_reachFromUnpaired_0 l g d x a0 h (fun r h' => ∃ v, r = some (.int v) ∧ K v h')) : cl_I l g mX1_reachFromUnpaired (d + 1) x [.ref a0] h K := rX1_reachFromUnpaired_0 H
def zX1_queueUnpaired_60 (l : Launch) (g : am_G) (d : Nat) (x : Bool) (a0 : Nat) (i1 : Int32) (h : am_H) (Q : Option Value → am_H → Prop) : Prop := am_J l g mX1_queueUnpaired (d + 1) (0, 0, x) 15 [(0, .ref a0), (1, .int (i1 + 1))] [] h Q
set_option maxRecDepth 4000 in
theorem rX1_queueUnpaired_60 {l : Launch} {g : am_G} {d : Nat} {x : Bool} {a0 : Nat} {i1 : Int32} {h : am_H} {Q : Option Value → am_H → Prop} (H : zX1_queueUnpaired_60 l g d x a0 i1 h Q) : am_J l g mX1_queueUnpaired (d + 1) (0, 0, x) 60 [(0, .ref a0), (1, .int i1)] [] h Q := by
  unfold zX1_queueUnpaired_60 at H
  refine J_iinc (v := (i1 + 1)) (L' := [(1, .int (i1 + 1)), (0, .ref a0)]) dX1_queueUnpaired_60 1 rfl rfl (by decide) rfl ?_
  refine J_goto (tgt := 15) dX1_queueUnpaired_63 (by decide) ?_
  exact J_pick [1, 0] rfl H
def zX1_queueUnpaired_15 (l : Launch) (g : am_G) (d : Nat) (x : Bool) (a0 : Nat) (i1 : Int32) (h : am_H) (Q : Option Value → am_H → Prop) : Prop := gt_R h a0 1 0 (fun v1 => gt_I h v1 0 7 (fun v2 => ((v2 ≤ i1 → Q none h) ∧ (¬ v2 ≤ i1 → gt_R h a0 1 6 (fun v3 => as_I 2 h v3 i1 0 (fun h4 => gt_R h4 a0 1 1 (fun v5 => gt_R h4 v5 3 9 (fun v6 => al_I 2 h4 v6 i1 (fun v7 => ((v7 = 0 → zX1_queueUnpaired_60 l g d x a0 i1  h4 Q) ∧ (¬ v7 = 0 → gt_R h4 a0 1 3 (fun v8 => al_I 0 h4 v8 i1 (fun v9 => ((¬ v9 = (-1) → zX1_queueUnpaired_60 l g d x a0 i1  h4 Q) ∧ (v9 = (-1) → cv_N l g mX1_putInQueue d x 1 a0 [.int i1] h4 (fun h10 => zX1_queueUnpaired_60 l g d x a0 i1  h10 Q))))))))))))))))
set_option maxRecDepth 4000 in
theorem rX1_queueUnpaired_15 {l : Launch} {g : am_G} {d : Nat} {x : Bool} {a0 : Nat} {i1 : Int32} {h : am_H} {Q : Option Value → am_H → Prop} (H : zX1_queueUnpaired_15 l g d x a0 i1 h Q) : am_J l g mX1_queueUnpaired (d + 1) (0, 0, x) 15 [(0, .ref a0), (1, .int i1)] [] h Q := by
  unfold zX1_queueUnpaired_15 at H
  refine J_iload_n dX1_queueUnpaired_15 1 rfl ?_
  refine J_aload_n dX1_queueUnpaired_16 0 rfl ?_
  obtain ⟨fs, v1, hh, hk, H⟩ := H
  refine J_get dX1_queueUnpaired_17 fX1_9 hh hk ?_
  clear hh hk
  obtain ⟨fs, v2, hh, hk, H⟩ := H
  refine J_get dX1_queueUnpaired_20 fX1_91 hh hk ?_
  clear hh hk
  obtain ⟨H1, H2⟩ := H
  refine J_icmp_ge (tgt := 66) dX1_queueUnpaired_23 (by decide) (fun hc => ?_) (fun hc => ?_)
  · replace H := H1 hc
    clear H1 H2
    exact J_vret dX1_queueUnpaired_66 rfl ⟨Nat.le_of_ble_eq_true rfl, Nat.le_of_ble_eq_true rfl, fun _ => rfl⟩ H
  · replace H := H2 hc
    clear H1 H2
    refine J_aload_n dX1_queueUnpaired_26 0 rfl ?_
    obtain ⟨fs, v3, hh, hk, H⟩ := H
    refine J_get dX1_queueUnpaired_27 fX1_38 hh hk ?_
    clear hh hk
    refine J_iload_n dX1_queueUnpaired_30 1 rfl ?_
    refine J_iconst (v := 0) dX1_queueUnpaired_31 (by decide) ?_
    obtain ⟨nn, ff, hh, hk, H⟩ := H
    refine J_zast dX1_queueUnpaired_32 hh hk rfl ?_
    generalize List.set h v3 (am_I 2 nn (upd ff (Int32.toNatClampNeg i1) 0)) = h4 at H ⊢
    clear hh hk
    refine J_aload_n dX1_queueUnpaired_33 0 rfl ?_
    obtain ⟨fs, v5, hh, hk, H⟩ := H
    refine J_get dX1_queueUnpaired_34 fX1_15 hh hk ?_
    clear hh hk
    obtain ⟨fs, v6, hh, hk, H⟩ := H
    refine J_get dX1_queueUnpaired_37 fX1_94 hh hk ?_
    clear hh hk
    refine J_iload_n dX1_queueUnpaired_40 1 rfl ?_
    obtain ⟨nn, ff, hh, hk, H⟩ := H
    refine J_zald dX1_queueUnpaired_41 hh hk ?_
    generalize ff (Int32.toNatClampNeg i1) = v7 at H ⊢
    clear hh hk ff
    obtain ⟨H1, H2⟩ := H
    refine J_if_eq (tgt := 60) dX1_queueUnpaired_42 (by decide) (fun hc => ?_) (fun hc => ?_)
    · replace H := H1 hc
      clear H1 H2
      exact J_pick [0, 1] rfl (rX1_queueUnpaired_60 H)
    · replace H := H2 hc
      clear H1 H2
      refine J_aload_n dX1_queueUnpaired_45 0 rfl ?_
      obtain ⟨fs, v8, hh, hk, H⟩ := H
      refine J_get dX1_queueUnpaired_46 fX1_28 hh hk ?_
      clear hh hk
      refine J_iload_n dX1_queueUnpaired_49 1 rfl ?_
      obtain ⟨nn, ff, hh, hk, H⟩ := H
      refine J_iald dX1_queueUnpaired_50 hh hk ?_
      generalize ff (Int32.toNatClampNeg i1) = v9 at H ⊢
      clear hh hk ff
      refine J_iconst (v := (-1)) dX1_queueUnpaired_51 (by decide) ?_
      obtain ⟨H1, H2⟩ := H
      refine J_icmp_ne (tgt := 60) dX1_queueUnpaired_52 (by decide) (fun hc => ?_) (fun hc => ?_)
      · replace H := H1 hc
        clear H1 H2
        exact J_pick [0, 1] rfl (rX1_queueUnpaired_60 H)
      · replace H := H2 hc
        clear H1 H2
        refine J_aload_n dX1_queueUnpaired_55 0 rfl ?_
        refine J_iload_n dX1_queueUnpaired_56 1 rfl ?_
        obtain ⟨⟨fs, hh⟩, H⟩ := H
        refine J_callV (As := [.int i1]) (S := []) (b := a0) dX1_queueUnpaired_57 mX1_putInQueue_ok kX1_124 rfl (by decide) (Nat.le_of_ble_eq_true rfl) hh rfl rfl (Nat.le_of_ble_eq_true rfl) ⟨Nat.le_of_ble_eq_true rfl, Nat.le_of_ble_eq_true rfl⟩ (fun k h' hp => ?_) H (fun r h10 hp => ?_)
        · obtain ⟨hv, -⟩ := hp; cases hv
        obtain ⟨rfl, H⟩ := hp
        show am_J l g mX1_queueUnpaired (d + 1) (0, 0, x) 60 [(0, .ref a0), (1, .int i1)] [] h10 Q
        exact J_pick [0, 1] rfl (rX1_queueUnpaired_60 H)
def zX1_queueUnpaired_0 (l : Launch) (g : am_G) (d : Nat) (x : Bool) (a0 : Nat) (h : am_H) (Q : Option Value → am_H → Prop) : Prop := gt_R h a0 1 4 (fun v1 => cs_N l g mJ7_fill_53178 d x [.ref v1, .int (-1)] h (fun h2 => pt_V h2 a0 1 7 (.int 0) (fun h4 => am_J l g mX1_queueUnpaired (d + 1) (0, 0, x) 15 [(0, .ref a0), (1, .int 0)] [] h4 Q)))
set_option maxRecDepth 4000 in
theorem rX1_queueUnpaired_0 {l : Launch} {g : am_G} {d : Nat} {x : Bool} {a0 : Nat} {h : am_H} {Q : Option Value → am_H → Prop} (H : zX1_queueUnpaired_0 l g d x a0 h Q) : am_J l g mX1_queueUnpaired (d + 1) (0, 0, x) 0 [(0, .ref a0)] [] h Q := by
  unfold zX1_queueUnpaired_0 at H
  refine J_aload_n dX1_queueUnpaired_0 0 rfl ?_
  obtain ⟨fs, v1, hh, hk, H⟩ := H
  refine J_get dX1_queueUnpaired_1 fX1_32 hh hk ?_
  clear hh hk
  refine J_iconst (v := (-1)) dX1_queueUnpaired_4 (by decide) ?_
  refine J_callS (As := [.ref v1, .int (-1)]) (S := []) dX1_queueUnpaired_5 mJ7_fill_53178_ok kX1_85 rfl (by decide) (Nat.le_of_ble_eq_true rfl) rfl (Nat.le_of_ble_eq_true rfl) ⟨Nat.le_of_ble_eq_true rfl, Nat.le_of_ble_eq_true rfl⟩ (fun k h' hp => ?_) H (fun r h2 hp => ?_)
  · obtain ⟨hv, -⟩ := hp; cases hv
  obtain ⟨rfl, H⟩ := hp
  show am_J l g mX1_queueUnpaired (d + 1) (0, 0, x) 8 [(0, .ref a0)] [] h2 Q
  refine J_aload_n dX1_queueUnpaired_8 0 rfl ?_
  refine J_iconst (v := 0) dX1_queueUnpaired_9 (by decide) ?_
  obtain ⟨fs, hh, hk, H⟩ := H
  refine J_put dX1_queueUnpaired_10 fX1_117 rfl rfl hh hk ?_
  generalize List.set h2 a0 (am_O 1 (List.set fs 7 (.int 0))) = h4 at H ⊢
  clear hh hk
  refine J_iconst (v := 0) dX1_queueUnpaired_13 (by decide) ?_
  refine J_istore_n (L' := [(1, .int 0), (0, .ref a0)]) dX1_queueUnpaired_14 (by decide) rfl ?_
  exact J_pick [1, 0] rfl H
theorem eX1_queueUnpaired {l : Launch} {g : am_G} {d : Nat} {x : Bool} {a0 : Nat} {h : am_H} {K : am_H → Prop} (H : zX1_queueUnpaired_0 l g d x a0 h (fun r h' => r = none ∧ K h')) : cl_N l g mX1_queueUnpaired (d + 1) x [.ref a0] h K := rX1_queueUnpaired_0 H
def zX1_reachFrom_66 (l : Launch) (g : am_G) (d : Nat) (x : Bool) (a0 : Nat) (i1 : Int32) (i2 : Int32) (i3 : Int32) (h : am_H) (Q : Option Value → am_H → Prop) : Prop := gt_R h a0 1 0 (fun v1 => gt_R h v1 0 3 (fun v2 => cv_I l g mX2_next d x 2 v2 [.int i1, .int (i2 + 1)] h (fun v4 h3 => am_J l g mX1_reachFrom (d + 1) (0, 0, x) 15 [(0, .ref a0), (1, .int i1), (2, .int v4), (3, .int (i3 + 1))] [] h3 Q)))
set_option maxRecDepth 4000 in
theorem rX1_reachFrom_66 {l : Launch} {g : am_G} {d : Nat} {x : Bool} {a0 : Nat} {i1 : Int32} {i2 : Int32} {i3 : Int32} {h : am_H} {Q : Option Value → am_H → Prop} (H : zX1_reachFrom_66 l g d x a0 i1 i2 i3 h Q) : am_J l g mX1_reachFrom (d + 1) (0, 0, x) 66 [(0, .ref a0), (1, .int i1), (2, .int i2), (3, .int i3)] [] h Q := by
  unfold zX1_reachFrom_66 at H
  refine J_aload_n dX1_reachFrom_66 0 rfl ?_
  obtain ⟨fs, v1, hh, hk, H⟩ := H
  refine J_get dX1_reachFrom_67 fX1_9 hh hk ?_
  clear hh hk
  obtain ⟨fs, v2, hh, hk, H⟩ := H
  refine J_get dX1_reachFrom_70 fX1_100 hh hk ?_
  clear hh hk
  refine J_iload_n dX1_reachFrom_73 1 rfl ?_
  refine J_iload_n dX1_reachFrom_74 2 rfl ?_
  refine J_iconst (v := 1) dX1_reachFrom_75 (by decide) ?_
  refine J_iadd dX1_reachFrom_76 ?_
  obtain ⟨⟨fs, hh⟩, H⟩ := H
  refine J_callV (As := [.int i1, .int (i2 + 1)]) (S := []) (b := v2) dX1_reachFrom_77 mX2_next_ok kX1_103 rfl (by decide) (Nat.le_of_ble_eq_true rfl) hh rfl rfl (Nat.le_of_ble_eq_true rfl) ⟨Nat.le_of_ble_eq_true rfl, Nat.le_of_ble_eq_true rfl⟩ (fun k h' hp => ?_) H (fun r h3 hp => ?_)
  · obtain ⟨_, hv, -⟩ := hp; cases hv
  obtain ⟨v4, rfl, H⟩ := hp
  show am_J l g mX1_reachFrom (d + 1) (0, 0, x) 80 [(0, .ref a0), (1, .int i1), (2, .int i2), (3, .int i3)] [.int v4] h3 Q
  refine J_istore_n (L' := [(2, .int v4), (0, .ref a0), (1, .int i1), (3, .int i3)]) dX1_reachFrom_80 (by decide) rfl ?_
  refine J_iinc (v := (i3 + 1)) (L' := [(3, .int (i3 + 1)), (2, .int v4), (0, .ref a0), (1, .int i1)]) dX1_reachFrom_81 3 rfl rfl (by decide) rfl ?_
  refine J_goto (tgt := 15) dX1_reachFrom_84 (by decide) ?_
  exact J_pick [2, 3, 1, 0] rfl H
def zX1_reachFrom_15 (l : Launch) (g : am_G) (d : Nat) (x : Bool) (a0 : Nat) (i1 : Int32) (i2 : Int32) (i3 : Int32) (h : am_H) (Q : Option Value → am_H → Prop) : Prop := ((300 ≤ i3 → Q (some (.int (-1))) h) ∧ (¬ 300 ≤ i3 → ((i2 = (-1) → Q (some (.int (-1))) h) ∧ (¬ i2 = (-1) → gt_R h a0 1 4 (fun v1 => al_I 0 h v1 i2 (fun v2 => ((¬ v2 = (-1) → zX1_reachFrom_66 l g d x a0 i1 i2 i3  h Q) ∧ (v2 = (-1) → gt_R h a0 1 4 (fun v3 => as_I 0 h v3 i2 i1 (fun h4 => gt_R h4 a0 1 3 (fun v5 => al_I 0 h4 v5 i2 (fun v6 => ((¬ v6 = (-1) → gt_R h4 a0 1 3 (fun v7 => al_I 0 h4 v7 i2 (fun v8 => cv_N l g mX1_putInQueue d x 1 a0 [.int v8] h4 (fun h9 => zX1_reachFrom_66 l g d x a0 i1 i2 i3  h9 Q)))) ∧ (v6 = (-1) → Q (some (.int i2)) h4))))))))))))))
set_option maxRecDepth 4000 in
theorem rX1_reachFrom_15 {l : Launch} {g : am_G} {d : Nat} {x : Bool} {a0 : Nat} {i1 : Int32} {i2 : Int32} {i3 : Int32} {h : am_H} {Q : Option Value → am_H → Prop} (H : zX1_reachFrom_15 l g d x a0 i1 i2 i3 h Q) : am_J l g mX1_reachFrom (d + 1) (0, 0, x) 15 [(0, .ref a0), (1, .int i1), (2, .int i2), (3, .int i3)] [] h Q := by
  unfold zX1_reachFrom_15 at H
  refine J_iload_n dX1_reachFrom_15 3 rfl ?_
  refine J_sipush (v := 300) dX1_reachFrom_16 (by decide) ?_
  obtain ⟨H1, H2⟩ := H
  refine J_icmp_ge (tgt := 87) dX1_reachFrom_19 (by decide) (fun hc => ?_) (fun hc => ?_)
  · replace H := H1 hc
    clear H1 H2
    refine J_iconst (v := (-1)) dX1_reachFrom_87 (by decide) ?_
    exact J_iret dX1_reachFrom_88 ⟨_, rfl, rfl⟩ ⟨Nat.le_of_ble_eq_true rfl, Nat.le_of_ble_eq_true rfl, fun _ => rfl⟩ H
  · replace H := H2 hc
    clear H1 H2
    refine J_iload_n dX1_reachFrom_22 2 rfl ?_
    refine J_iconst (v := (-1)) dX1_reachFrom_23 (by decide) ?_
    obtain ⟨H1, H2⟩ := H
    refine J_icmp_eq (tgt := 87) dX1_reachFrom_24 (by decide) (fun hc => ?_) (fun hc => ?_)
    · replace H := H1 hc
      clear H1 H2
      refine J_iconst (v := (-1)) dX1_reachFrom_87 (by decide) ?_
      exact J_iret dX1_reachFrom_88 ⟨_, rfl, rfl⟩ ⟨Nat.le_of_ble_eq_true rfl, Nat.le_of_ble_eq_true rfl, fun _ => rfl⟩ H
    · replace H := H2 hc
      clear H1 H2
      refine J_aload_n dX1_reachFrom_27 0 rfl ?_
      obtain ⟨fs, v1, hh, hk, H⟩ := H
      refine J_get dX1_reachFrom_28 fX1_32 hh hk ?_
      clear hh hk
      refine J_iload_n dX1_reachFrom_31 2 rfl ?_
      obtain ⟨nn, ff, hh, hk, H⟩ := H
      refine J_iald dX1_reachFrom_32 hh hk ?_
      generalize ff (Int32.toNatClampNeg i2) = v2 at H ⊢
      clear hh hk ff
      refine J_iconst (v := (-1)) dX1_reachFrom_33 (by decide) ?_
      obtain ⟨H1, H2⟩ := H
      refine J_icmp_ne (tgt := 66) dX1_reachFrom_34 (by decide) (fun hc => ?_) (fun hc => ?_)
      · replace H := H1 hc
        clear H1 H2
        exact J_pick [0, 1, 2, 3] rfl (rX1_reachFrom_66 H)
      · replace H := H2 hc
        clear H1 H2
        refine J_aload_n dX1_reachFrom_37 0 rfl ?_
        obtain ⟨fs, v3, hh, hk, H⟩ := H
        refine J_get dX1_reachFrom_38 fX1_32 hh hk ?_
        clear hh hk
        refine J_iload_n dX1_reachFrom_41 2 rfl ?_
        refine J_iload_n dX1_reachFrom_42 1 rfl ?_
        obtain ⟨nn, ff, hh, hk, H⟩ := H
        refine J_iast dX1_reachFrom_43 hh hk ?_
        generalize List.set h v3 (am_I 0 nn (upd ff (Int32.toNatClampNeg i2) i1)) = h4 at H ⊢
        clear hh hk
        refine J_aload_n dX1_reachFrom_44 0 rfl ?_
        obtain ⟨fs, v5, hh, hk, H⟩ := H
        refine J_get dX1_reachFrom_45 fX1_28 hh hk ?_
        clear hh hk
        refine J_iload_n dX1_reachFrom_48 2 rfl ?_
        obtain ⟨nn, ff, hh, hk, H⟩ := H
        refine J_iald dX1_reachFrom_49 hh hk ?_
        generalize ff (Int32.toNatClampNeg i2) = v6 at H ⊢
        clear hh hk ff
        refine J_iconst (v := (-1)) dX1_reachFrom_50 (by decide) ?_
        obtain ⟨H1, H2⟩ := H
        refine J_icmp_ne (tgt := 56) dX1_reachFrom_51 (by decide) (fun hc => ?_) (fun hc => ?_)
        · replace H := H1 hc
          clear H1 H2
          refine J_aload_n dX1_reachFrom_56 0 rfl ?_
          refine J_aload_n dX1_reachFrom_57 0 rfl ?_
          obtain ⟨fs, v7, hh, hk, H⟩ := H
          refine J_get dX1_reachFrom_58 fX1_28 hh hk ?_
          clear hh hk
          refine J_iload_n dX1_reachFrom_61 2 rfl ?_
          obtain ⟨nn, ff, hh, hk, H⟩ := H
          refine J_iald dX1_reachFrom_62 hh hk ?_
          generalize ff (Int32.toNatClampNeg i2) = v8 at H ⊢
          clear hh hk ff
          obtain ⟨⟨fs, hh⟩, H⟩ := H
          refine J_callV (As := [.int v8]) (S := []) (b := a0) dX1_reachFrom_63 mX1_putInQueue_ok kX1_124 rfl (by decide) (Nat.le_of_ble_eq_true rfl) hh rfl rfl (Nat.le_of_ble_eq_true rfl) ⟨Nat.le_of_ble_eq_true rfl, Nat.le_of_ble_eq_true rfl⟩ (fun k h' hp => ?_) H (fun r h9 hp => ?_)
          · obtain ⟨hv, -⟩ := hp; cases hv
          obtain ⟨rfl, H⟩ := hp
          show am_J l g mX1_reachFrom (d + 1) (0, 0, x) 66 [(0, .ref a0), (1, .int i1), (2, .int i2), (3, .int i3)] [] h9 Q
          exact J_pick [0, 1, 2, 3] rfl (rX1_reachFrom_66 H)
        · replace H := H2 hc
          clear H1 H2
          refine J_iload_n dX1_reachFrom_54 2 rfl ?_
          exact J_iret dX1_reachFrom_55 ⟨_, rfl, rfl⟩ ⟨Nat.le_of_ble_eq_true rfl, Nat.le_of_ble_eq_true rfl, fun _ => rfl⟩ H
def zX1_reachFrom_0 (l : Launch) (g : am_G) (d : Nat) (x : Bool) (a0 : Nat) (i1 : Int32) (h : am_H) (Q : Option Value → am_H → Prop) : Prop := gt_R h a0 1 0 (fun v1 => gt_R h v1 0 3 (fun v2 => cv_I l g mX2_next d x 2 v2 [.int i1, .int 0] h (fun v4 h3 => am_J l g mX1_reachFrom (d + 1) (0, 0, x) 15 [(0, .ref a0), (1, .int i1), (2, .int v4), (3, .int 0)] [] h3 Q)))
set_option maxRecDepth 4000 in
theorem rX1_reachFrom_0 {l : Launch} {g : am_G} {d : Nat} {x : Bool} {a0 : Nat} {i1 : Int32} {h : am_H} {Q : Option Value → am_H → Prop} (H : zX1_reachFrom_0 l g d x a0 i1 h Q) : am_J l g mX1_reachFrom (d + 1) (0, 0, x) 0 [(0, .ref a0), (1, .int i1)] [] h Q := by
  unfold zX1_reachFrom_0 at H
  refine J_aload_n dX1_reachFrom_0 0 rfl ?_
  obtain ⟨fs, v1, hh, hk, H⟩ := H
  refine J_get dX1_reachFrom_1 fX1_9 hh hk ?_
  clear hh hk
  obtain ⟨fs, v2, hh, hk, H⟩ := H
  refine J_get dX1_reachFrom_4 fX1_100 hh hk ?_
  clear hh hk
  refine J_iload_n dX1_reachFrom_7 1 rfl ?_
  refine J_iconst (v := 0) dX1_reachFrom_8 (by decide) ?_
  obtain ⟨⟨fs, hh⟩, H⟩ := H
  refine J_callV (As := [.int i1, .int 0]) (S := []) (b := v2) dX1_reachFrom_9 mX2_next_ok kX1_103 rfl (by decide) (Nat.le_of_ble_eq_true rfl) hh rfl rfl (Nat.le_of_ble_eq_true rfl) ⟨Nat.le_of_ble_eq_true rfl, Nat.le_of_ble_eq_true rfl⟩ (fun k h' hp => ?_) H (fun r h3 hp => ?_)
  · obtain ⟨_, hv, -⟩ := hp; cases hv
  obtain ⟨v4, rfl, H⟩ := hp
  show am_J l g mX1_reachFrom (d + 1) (0, 0, x) 12 [(0, .ref a0), (1, .int i1)] [.int v4] h3 Q
  refine J_istore_n (L' := [(2, .int v4), (0, .ref a0), (1, .int i1)]) dX1_reachFrom_12 (by decide) rfl ?_
  refine J_iconst (v := 0) dX1_reachFrom_13 (by decide) ?_
  refine J_istore_n (L' := [(3, .int 0), (2, .int v4), (0, .ref a0), (1, .int i1)]) dX1_reachFrom_14 (by decide) rfl ?_
  exact J_pick [2, 3, 1, 0] rfl H
theorem eX1_reachFrom {l : Launch} {g : am_G} {d : Nat} {x : Bool} {a0 : Nat} {i1 : Int32} {h : am_H} {K : Int32 → am_H → Prop} (H : zX1_reachFrom_0 l g d x a0 i1 h (fun r h' => ∃ v, r = some (.int v) ∧ K v h')) : cl_I l g mX1_reachFrom (d + 1) x [.ref a0, .int i1] h K := rX1_reachFrom_0 H
def zX1_putInQueue_0 (l : Launch) (g : am_G) (d : Nat) (x : Bool) (a0 : Nat) (i1 : Int32) (h : am_H) (Q : Option Value → am_H → Prop) : Prop := gt_R h a0 1 6 (fun v1 => al_I 2 h v1 i1 (fun v2 => ((¬ v2 = 0 → Q none h) ∧ (v2 = 0 → gt_I h a0 1 7 (fun v3 => ((300 ≤ v3 → Q none h) ∧ (¬ 300 ≤ v3 → gt_R h a0 1 6 (fun v4 => as_I 2 h v4 i1 1 (fun h5 => gt_R h5 a0 1 5 (fun v6 => gt_I h5 a0 1 7 (fun v7 => as_I 0 h5 v6 v7 i1 (fun h8 => gt_I h8 a0 1 7 (fun v9 => pt_V h8 a0 1 7 (.int (v9 + 1)) (fun h10 => Q none h10))))))))))))))
set_option maxRecDepth 4000 in
theorem rX1_putInQueue_0 {l : Launch} {g : am_G} {d : Nat} {x : Bool} {a0 : Nat} {i1 : Int32} {h : am_H} {Q : Option Value → am_H → Prop} (H : zX1_putInQueue_0 l g d x a0 i1 h Q) : am_J l g mX1_putInQueue d (0, 0, x) 0 [(0, .ref a0), (1, .int i1)] [] h Q := by
  unfold zX1_putInQueue_0 at H
  refine J_aload_n dX1_putInQueue_0 0 rfl ?_
  obtain ⟨fs, v1, hh, hk, H⟩ := H
  refine J_get dX1_putInQueue_1 fX1_38 hh hk ?_
  clear hh hk
  refine J_iload_n dX1_putInQueue_4 1 rfl ?_
  obtain ⟨nn, ff, hh, hk, H⟩ := H
  refine J_zald dX1_putInQueue_5 hh hk ?_
  generalize ff (Int32.toNatClampNeg i1) = v2 at H ⊢
  clear hh hk ff
  obtain ⟨H1, H2⟩ := H
  refine J_if_ne (tgt := 46) dX1_putInQueue_6 (by decide) (fun hc => ?_) (fun hc => ?_)
  · replace H := H1 hc
    clear H1 H2
    exact J_vret dX1_putInQueue_46 rfl ⟨Nat.le_of_ble_eq_true rfl, Nat.le_of_ble_eq_true rfl, fun _ => rfl⟩ H
  · replace H := H2 hc
    clear H1 H2
    refine J_aload_n dX1_putInQueue_9 0 rfl ?_
    obtain ⟨fs, v3, hh, hk, H⟩ := H
    refine J_get dX1_putInQueue_10 fX1_117 hh hk ?_
    clear hh hk
    refine J_sipush (v := 300) dX1_putInQueue_13 (by decide) ?_
    obtain ⟨H1, H2⟩ := H
    refine J_icmp_ge (tgt := 46) dX1_putInQueue_16 (by decide) (fun hc => ?_) (fun hc => ?_)
    · replace H := H1 hc
      clear H1 H2
      exact J_vret dX1_putInQueue_46 rfl ⟨Nat.le_of_ble_eq_true rfl, Nat.le_of_ble_eq_true rfl, fun _ => rfl⟩ H
    · replace H := H2 hc
      clear H1 H2
      refine J_aload_n dX1_putInQueue_19 0 rfl ?_
      obtain ⟨fs, v4, hh, hk, H⟩ := H
      refine J_get dX1_putInQueue_20 fX1_38 hh hk ?_
      clear hh hk
      refine J_iload_n dX1_putInQueue_23 1 rfl ?_
      refine J_iconst (v := 1) dX1_putInQueue_24 (by decide) ?_
      obtain ⟨nn, ff, hh, hk, H⟩ := H
      refine J_zast dX1_putInQueue_25 hh hk rfl ?_
      generalize List.set h v4 (am_I 2 nn (upd ff (Int32.toNatClampNeg i1) 1)) = h5 at H ⊢
      clear hh hk
      refine J_aload_n dX1_putInQueue_26 0 rfl ?_
      obtain ⟨fs, v6, hh, hk, H⟩ := H
      refine J_get dX1_putInQueue_27 fX1_35 hh hk ?_
      clear hh hk
      refine J_aload_n dX1_putInQueue_30 0 rfl ?_
      obtain ⟨fs, v7, hh, hk, H⟩ := H
      refine J_get dX1_putInQueue_31 fX1_117 hh hk ?_
      clear hh hk
      refine J_iload_n dX1_putInQueue_34 1 rfl ?_
      obtain ⟨nn, ff, hh, hk, H⟩ := H
      refine J_iast dX1_putInQueue_35 hh hk ?_
      generalize List.set h5 v6 (am_I 0 nn (upd ff (Int32.toNatClampNeg v7) i1)) = h8 at H ⊢
      clear hh hk
      refine J_aload_n dX1_putInQueue_36 0 rfl ?_
      refine J_dup dX1_putInQueue_37 rfl ?_
      obtain ⟨fs, v9, hh, hk, H⟩ := H
      refine J_get dX1_putInQueue_38 fX1_117 hh hk ?_
      clear hh hk
      refine J_iconst (v := 1) dX1_putInQueue_41 (by decide) ?_
      refine J_iadd dX1_putInQueue_42 ?_
      obtain ⟨fs, hh, hk, H⟩ := H
      refine J_put dX1_putInQueue_43 fX1_117 rfl rfl hh hk ?_
      generalize List.set h8 a0 (am_O 1 (List.set fs 7 (.int (v9 + 1)))) = h10 at H ⊢
      clear hh hk
      exact J_vret dX1_putInQueue_46 rfl ⟨Nat.le_of_ble_eq_true rfl, Nat.le_of_ble_eq_true rfl, fun _ => rfl⟩ H
theorem eX1_putInQueue {l : Launch} {g : am_G} {d : Nat} {x : Bool} {a0 : Nat} {i1 : Int32} {h : am_H} {K : am_H → Prop} (H : zX1_putInQueue_0 l g d x a0 i1 h (fun r h' => r = none ∧ K h')) : cl_N l g mX1_putInQueue d x [.ref a0, .int i1] h K := rX1_putInQueue_0 H
def zX1_turnPairsUpTo_4 (l : Launch) (g : am_G) (d : Nat) (x : Bool) (a0 : Nat) (i2 : Int32) (i3 : Int32) (h : am_H) (Q : Option Value → am_H → Prop) : Prop := ((300 ≤ i3 → Q none h) ∧ (¬ 300 ≤ i3 → ((i2 = (-1) → Q none h) ∧ (¬ i2 = (-1) → gt_R h a0 1 4 (fun v1 => al_I 0 h v1 i2 (fun v2 => ((¬ v2 = (-1) → gt_R h a0 1 3 (fun v3 => al_I 0 h v3 v2 (fun v4 => gt_R h a0 1 3 (fun v5 => as_I 0 h v5 v2 i2 (fun h6 => gt_R h6 a0 1 3 (fun v7 => as_I 0 h6 v7 i2 v2 (fun h8 => am_J l g mX1_turnPairsUpTo d (0, 0, x) 4 [(0, .ref a0), (2, .int v4), (3, .int (i3 + 1))] [] h8 Q))))))) ∧ (v2 = (-1) → Q none h))))))))
set_option maxRecDepth 4000 in
theorem rX1_turnPairsUpTo_4 {l : Launch} {g : am_G} {d : Nat} {x : Bool} {a0 : Nat} {i2 : Int32} {i3 : Int32} {h : am_H} {Q : Option Value → am_H → Prop} (H : zX1_turnPairsUpTo_4 l g d x a0 i2 i3 h Q) : am_J l g mX1_turnPairsUpTo d (0, 0, x) 4 [(0, .ref a0), (2, .int i2), (3, .int i3)] [] h Q := by
  unfold zX1_turnPairsUpTo_4 at H
  refine J_iload_n dX1_turnPairsUpTo_4 2 rfl ?_
  refine J_sipush (v := 300) dX1_turnPairsUpTo_5 (by decide) ?_
  obtain ⟨H1, H2⟩ := H
  refine J_icmp_ge (tgt := 65) dX1_turnPairsUpTo_8 (by decide) (fun hc => ?_) (fun hc => ?_)
  · replace H := H1 hc
    clear H1 H2
    exact J_vret dX1_turnPairsUpTo_65 rfl ⟨Nat.le_of_ble_eq_true rfl, Nat.le_of_ble_eq_true rfl, fun _ => rfl⟩ H
  · replace H := H2 hc
    clear H1 H2
    refine J_iload_n dX1_turnPairsUpTo_11 1 rfl ?_
    refine J_iconst (v := (-1)) dX1_turnPairsUpTo_12 (by decide) ?_
    obtain ⟨H1, H2⟩ := H
    refine J_icmp_eq (tgt := 65) dX1_turnPairsUpTo_13 (by decide) (fun hc => ?_) (fun hc => ?_)
    · replace H := H1 hc
      clear H1 H2
      exact J_vret dX1_turnPairsUpTo_65 rfl ⟨Nat.le_of_ble_eq_true rfl, Nat.le_of_ble_eq_true rfl, fun _ => rfl⟩ H
    · replace H := H2 hc
      clear H1 H2
      refine J_aload_n dX1_turnPairsUpTo_16 0 rfl ?_
      obtain ⟨fs, v1, hh, hk, H⟩ := H
      refine J_get dX1_turnPairsUpTo_17 fX1_32 hh hk ?_
      clear hh hk
      refine J_iload_n dX1_turnPairsUpTo_20 1 rfl ?_
      obtain ⟨nn, ff, hh, hk, H⟩ := H
      refine J_iald dX1_turnPairsUpTo_21 hh hk ?_
      generalize ff (Int32.toNatClampNeg i2) = v2 at H ⊢
      clear hh hk ff
      refine J_istore (L' := [(4, .int v2), (0, .ref a0), (2, .int i2), (3, .int i3)]) dX1_turnPairsUpTo_22 (by decide) rfl ?_
      refine J_iload dX1_turnPairsUpTo_24 0 rfl ?_
      refine J_iconst (v := (-1)) dX1_turnPairsUpTo_26 (by decide) ?_
      obtain ⟨H1, H2⟩ := H
      refine J_icmp_ne (tgt := 31) dX1_turnPairsUpTo_27 (by decide) (fun hc => ?_) (fun hc => ?_)
      · replace H := H1 hc
        clear H1 H2
        refine J_aload_n dX1_turnPairsUpTo_31 1 rfl ?_
        obtain ⟨fs, v3, hh, hk, H⟩ := H
        refine J_get dX1_turnPairsUpTo_32 fX1_28 hh hk ?_
        clear hh hk
        refine J_iload dX1_turnPairsUpTo_35 0 rfl ?_
        obtain ⟨nn, ff, hh, hk, H⟩ := H
        refine J_iald dX1_turnPairsUpTo_37 hh hk ?_
        generalize ff (Int32.toNatClampNeg v2) = v4 at H ⊢
        clear hh hk ff
        refine J_istore (L' := [(5, .int v4), (4, .int v2), (0, .ref a0), (2, .int i2), (3, .int i3)]) dX1_turnPairsUpTo_38 (by decide) rfl ?_
        refine J_aload_n dX1_turnPairsUpTo_40 2 rfl ?_
        obtain ⟨fs, v5, hh, hk, H⟩ := H
        refine J_get dX1_turnPairsUpTo_41 fX1_28 hh hk ?_
        clear hh hk
        refine J_iload dX1_turnPairsUpTo_44 1 rfl ?_
        refine J_iload_n dX1_turnPairsUpTo_46 3 rfl ?_
        obtain ⟨nn, ff, hh, hk, H⟩ := H
        refine J_iast dX1_turnPairsUpTo_47 hh hk ?_
        generalize List.set h v5 (am_I 0 nn (upd ff (Int32.toNatClampNeg v2) i2)) = h6 at H ⊢
        clear hh hk
        refine J_aload_n dX1_turnPairsUpTo_48 2 rfl ?_
        obtain ⟨fs, v7, hh, hk, H⟩ := H
        refine J_get dX1_turnPairsUpTo_49 fX1_28 hh hk ?_
        clear hh hk
        refine J_iload_n dX1_turnPairsUpTo_52 3 rfl ?_
        refine J_iload dX1_turnPairsUpTo_53 1 rfl ?_
        obtain ⟨nn, ff, hh, hk, H⟩ := H
        refine J_iast dX1_turnPairsUpTo_55 hh hk ?_
        generalize List.set h6 v7 (am_I 0 nn (upd ff (Int32.toNatClampNeg i2) v2)) = h8 at H ⊢
        clear hh hk
        refine J_iload dX1_turnPairsUpTo_56 0 rfl ?_
        refine J_istore_n (L' := [(2, .int v4), (5, .int v4), (4, .int v2), (0, .ref a0), (3, .int i3)]) dX1_turnPairsUpTo_58 (by decide) rfl ?_
        refine J_iinc (v := (i3 + 1)) (L' := [(3, .int (i3 + 1)), (2, .int v4), (5, .int v4), (4, .int v2), (0, .ref a0)]) dX1_turnPairsUpTo_59 4 rfl rfl (by decide) rfl ?_
        refine J_goto (tgt := 4) dX1_turnPairsUpTo_62 (by decide) ?_
        exact J_pick [4, 1, 0] rfl H
      · replace H := H2 hc
        clear H1 H2
        exact J_vret dX1_turnPairsUpTo_30 rfl ⟨Nat.le_of_ble_eq_true rfl, Nat.le_of_ble_eq_true rfl, fun _ => rfl⟩ H
def zX1_turnPairsUpTo_0 (l : Launch) (g : am_G) (d : Nat) (x : Bool) (a0 : Nat) (i1 : Int32) (h : am_H) (Q : Option Value → am_H → Prop) : Prop := am_J l g mX1_turnPairsUpTo d (0, 0, x) 4 [(0, .ref a0), (2, .int i1), (3, .int 0)] [] h Q
set_option maxRecDepth 4000 in
theorem rX1_turnPairsUpTo_0 {l : Launch} {g : am_G} {d : Nat} {x : Bool} {a0 : Nat} {i1 : Int32} {h : am_H} {Q : Option Value → am_H → Prop} (H : zX1_turnPairsUpTo_0 l g d x a0 i1 h Q) : am_J l g mX1_turnPairsUpTo d (0, 0, x) 0 [(0, .ref a0), (1, .int i1)] [] h Q := by
  unfold zX1_turnPairsUpTo_0 at H
  refine J_iload_n dX1_turnPairsUpTo_0 1 rfl ?_
  refine J_istore_n (L' := [(2, .int i1), (0, .ref a0), (1, .int i1)]) dX1_turnPairsUpTo_1 (by decide) rfl ?_
  refine J_iconst (v := 0) dX1_turnPairsUpTo_2 (by decide) ?_
  refine J_istore_n (L' := [(3, .int 0), (2, .int i1), (0, .ref a0), (1, .int i1)]) dX1_turnPairsUpTo_3 (by decide) rfl ?_
  exact J_pick [2, 1, 0] rfl H
theorem eX1_turnPairsUpTo {l : Launch} {g : am_G} {d : Nat} {x : Bool} {a0 : Nat} {i1 : Int32} {h : am_H} {K : am_H → Prop} (H : zX1_turnPairsUpTo_0 l g d x a0 i1 h (fun r h' => r = none ∧ K h')) : cl_N l g mX1_turnPairsUpTo d x [.ref a0, .int i1] h K := rX1_turnPairsUpTo_0 H
def zX1_markOpened_51 (l : Launch) (g : am_G) (d : Nat) (x : Bool) (a0 : Nat) (i1 : Int32) (h : am_H) (Q : Option Value → am_H → Prop) : Prop := am_J l g mX1_markOpened (d + 1) (0, 0, x) 2 [(0, .ref a0), (1, .int (i1 + 1))] [] h Q
set_option maxRecDepth 4000 in
theorem rX1_markOpened_51 {l : Launch} {g : am_G} {d : Nat} {x : Bool} {a0 : Nat} {i1 : Int32} {h : am_H} {Q : Option Value → am_H → Prop} (H : zX1_markOpened_51 l g d x a0 i1 h Q) : am_J l g mX1_markOpened (d + 1) (0, 0, x) 51 [(0, .ref a0), (1, .int i1)] [] h Q := by
  unfold zX1_markOpened_51 at H
  refine J_iinc (v := (i1 + 1)) (L' := [(1, .int (i1 + 1)), (0, .ref a0)]) dX1_markOpened_51 1 rfl rfl (by decide) rfl ?_
  refine J_goto (tgt := 2) dX1_markOpened_54 (by decide) ?_
  exact J_pick [1, 0] rfl H
def zX1_markOpened_2 (l : Launch) (g : am_G) (d : Nat) (x : Bool) (a0 : Nat) (i1 : Int32) (h : am_H) (Q : Option Value → am_H → Prop) : Prop := gt_R h a0 1 0 (fun v1 => gt_I h v1 0 7 (fun v2 => ((v2 ≤ i1 → Q none h) ∧ (¬ v2 ≤ i1 → gt_R h a0 1 0 (fun v3 => cv_I l g mX0_isThere d x 0 v3 [.int i1] h (fun v5 h4 => ((v5 = 0 → zX1_markOpened_51 l g d x a0 i1  h4 Q) ∧ (¬ v5 = 0 → cv_I l g mX1_needsOpening d x 1 a0 [.int i1] h4 (fun v7 h6 => ((v7 = 0 → zX1_markOpened_51 l g d x a0 i1  h6 Q) ∧ (¬ v7 = 0 → gt_R h6 a0 1 2 (fun v8 => cv_N l g mX2_put d x 2 v8 [.int 0, .int i1] h6 (fun h9 => gt_I h9 a0 1 10 (fun v11 => pt_V h9 a0 1 10 (.int (v11 + 1)) (fun h12 => zX1_markOpened_51 l g d x a0 i1  h12 Q)))))))))))))))
set_option maxRecDepth 4000 in
theorem rX1_markOpened_2 {l : Launch} {g : am_G} {d : Nat} {x : Bool} {a0 : Nat} {i1 : Int32} {h : am_H} {Q : Option Value → am_H → Prop} (H : zX1_markOpened_2 l g d x a0 i1 h Q) : am_J l g mX1_markOpened (d + 1) (0, 0, x) 2 [(0, .ref a0), (1, .int i1)] [] h Q := by
  unfold zX1_markOpened_2 at H
  refine J_iload_n dX1_markOpened_2 1 rfl ?_
  refine J_aload_n dX1_markOpened_3 0 rfl ?_
  obtain ⟨fs, v1, hh, hk, H⟩ := H
  refine J_get dX1_markOpened_4 fX1_9 hh hk ?_
  clear hh hk
  obtain ⟨fs, v2, hh, hk, H⟩ := H
  refine J_get dX1_markOpened_7 fX1_91 hh hk ?_
  clear hh hk
  obtain ⟨H1, H2⟩ := H
  refine J_icmp_ge (tgt := 57) dX1_markOpened_10 (by decide) (fun hc => ?_) (fun hc => ?_)
  · replace H := H1 hc
    clear H1 H2
    exact J_vret dX1_markOpened_57 rfl ⟨Nat.le_of_ble_eq_true rfl, Nat.le_of_ble_eq_true rfl, fun _ => rfl⟩ H
  · replace H := H2 hc
    clear H1 H2
    refine J_aload_n dX1_markOpened_13 0 rfl ?_
    obtain ⟨fs, v3, hh, hk, H⟩ := H
    refine J_get dX1_markOpened_14 fX1_9 hh hk ?_
    clear hh hk
    refine J_iload_n dX1_markOpened_17 1 rfl ?_
    obtain ⟨⟨fs, hh⟩, H⟩ := H
    refine J_callV (As := [.int i1]) (S := []) (b := v3) dX1_markOpened_18 mX0_isThere_ok kX1_127 rfl (by decide) (Nat.le_of_ble_eq_true rfl) hh rfl rfl (Nat.le_of_ble_eq_true rfl) ⟨Nat.le_of_ble_eq_true rfl, Nat.le_of_ble_eq_true rfl⟩ (fun k h' hp => ?_) H (fun r h4 hp => ?_)
    · obtain ⟨_, hv, -⟩ := hp; cases hv
    obtain ⟨v5, rfl, H⟩ := hp
    show am_J l g mX1_markOpened (d + 1) (0, 0, x) 21 [(0, .ref a0), (1, .int i1)] [.int v5] h4 Q
    obtain ⟨H1, H2⟩ := H
    refine J_if_eq (tgt := 51) dX1_markOpened_21 (by decide) (fun hc => ?_) (fun hc => ?_)
    · replace H := H1 hc
      clear H1 H2
      exact J_pick [0, 1] rfl (rX1_markOpened_51 H)
    · replace H := H2 hc
      clear H1 H2
      refine J_aload_n dX1_markOpened_24 0 rfl ?_
      refine J_iload_n dX1_markOpened_25 1 rfl ?_
      obtain ⟨⟨fs, hh⟩, H⟩ := H
      refine J_callV (As := [.int i1]) (S := []) (b := a0) dX1_markOpened_26 mX1_needsOpening_ok kX1_131 rfl (by decide) (Nat.le_of_ble_eq_true rfl) hh rfl rfl (Nat.le_of_ble_eq_true rfl) ⟨Nat.le_of_ble_eq_true rfl, Nat.le_of_ble_eq_true rfl⟩ (fun k h' hp => ?_) H (fun r h6 hp => ?_)
      · obtain ⟨_, hv, -⟩ := hp; cases hv
      obtain ⟨v7, rfl, H⟩ := hp
      show am_J l g mX1_markOpened (d + 1) (0, 0, x) 29 [(0, .ref a0), (1, .int i1)] [.int v7] h6 Q
      obtain ⟨H1, H2⟩ := H
      refine J_if_eq (tgt := 51) dX1_markOpened_29 (by decide) (fun hc => ?_) (fun hc => ?_)
      · replace H := H1 hc
        clear H1 H2
        exact J_pick [0, 1] rfl (rX1_markOpened_51 H)
      · replace H := H2 hc
        clear H1 H2
        refine J_aload_n dX1_markOpened_32 0 rfl ?_
        obtain ⟨fs, v8, hh, hk, H⟩ := H
        refine J_get dX1_markOpened_33 fX1_24 hh hk ?_
        clear hh hk
        refine J_iconst (v := 0) dX1_markOpened_36 (by decide) ?_
        refine J_iload_n dX1_markOpened_37 1 rfl ?_
        obtain ⟨⟨fs, hh⟩, H⟩ := H
        refine J_callV (As := [.int 0, .int i1]) (S := []) (b := v8) dX1_markOpened_38 mX2_put_ok kX1_134 rfl (by decide) (Nat.le_of_ble_eq_true rfl) hh rfl rfl (Nat.le_of_ble_eq_true rfl) ⟨Nat.le_of_ble_eq_true rfl, Nat.le_of_ble_eq_true rfl⟩ (fun k h' hp => ?_) H (fun r h9 hp => ?_)
        · obtain ⟨hv, -⟩ := hp; cases hv
        obtain ⟨rfl, H⟩ := hp
        show am_J l g mX1_markOpened (d + 1) (0, 0, x) 41 [(0, .ref a0), (1, .int i1)] [] h9 Q
        refine J_aload_n dX1_markOpened_41 0 rfl ?_
        refine J_dup dX1_markOpened_42 rfl ?_
        obtain ⟨fs, v11, hh, hk, H⟩ := H
        refine J_get dX1_markOpened_43 fX1_59 hh hk ?_
        clear hh hk
        refine J_iconst (v := 1) dX1_markOpened_46 (by decide) ?_
        refine J_iadd dX1_markOpened_47 ?_
        obtain ⟨fs, hh, hk, H⟩ := H
        refine J_put dX1_markOpened_48 fX1_59 rfl rfl hh hk ?_
        generalize List.set h9 a0 (am_O 1 (List.set fs 10 (.int (v11 + 1)))) = h12 at H ⊢
        clear hh hk
        exact J_pick [0, 1] rfl (rX1_markOpened_51 H)
def zX1_markOpened_0 (l : Launch) (g : am_G) (d : Nat) (x : Bool) (a0 : Nat) (h : am_H) (Q : Option Value → am_H → Prop) : Prop := am_J l g mX1_markOpened (d + 1) (0, 0, x) 2 [(0, .ref a0), (1, .int 0)] [] h Q
set_option maxRecDepth 4000 in
theorem rX1_markOpened_0 {l : Launch} {g : am_G} {d : Nat} {x : Bool} {a0 : Nat} {h : am_H} {Q : Option Value → am_H → Prop} (H : zX1_markOpened_0 l g d x a0 h Q) : am_J l g mX1_markOpened (d + 1) (0, 0, x) 0 [(0, .ref a0)] [] h Q := by
  unfold zX1_markOpened_0 at H
  refine J_iconst (v := 0) dX1_markOpened_0 (by decide) ?_
  refine J_istore_n (L' := [(1, .int 0), (0, .ref a0)]) dX1_markOpened_1 (by decide) rfl ?_
  exact J_pick [1, 0] rfl H
theorem eX1_markOpened {l : Launch} {g : am_G} {d : Nat} {x : Bool} {a0 : Nat} {h : am_H} {K : am_H → Prop} (H : zX1_markOpened_0 l g d x a0 h (fun r h' => r = none ∧ K h')) : cl_N l g mX1_markOpened (d + 1) x [.ref a0] h K := rX1_markOpened_0 H
def zX1_needsOpening_0 (l : Launch) (g : am_G) (d : Nat) (x : Bool) (a0 : Nat) (i1 : Int32) (h : am_H) (Q : Option Value → am_H → Prop) : Prop := gt_R h a0 1 1 (fun v1 => gt_R h v1 3 9 (fun v2 => al_I 2 h v2 i1 (fun v3 => ((v3 = 0 → gt_R h a0 1 4 (fun v4 => al_I 0 h v4 i1 (fun v5 => ((v5 = (-1) → Q (some (.int 0)) h) ∧ (¬ v5 = (-1) → Q (some (.int 1)) h))))) ∧ (¬ v3 = 0 → gt_R h a0 1 6 (fun v6 => al_I 2 h v6 i1 (fun v7 => ((¬ v7 = 0 → Q (some (.int 0)) h) ∧ (v7 = 0 → gt_R h a0 1 0 (fun v8 => cv_I l g mX0_linksOf d x 0 v8 [.int i1] h (fun v10 h9 => ((v10 ≤ 0 → Q (some (.int 0)) h9) ∧ (¬ v10 ≤ 0 → Q (some (.int 1)) h9)))))))))))))
set_option maxRecDepth 4000 in
theorem rX1_needsOpening_0 {l : Launch} {g : am_G} {d : Nat} {x : Bool} {a0 : Nat} {i1 : Int32} {h : am_H} {Q : Option Value → am_H → Prop} (H : zX1_needsOpening_0 l g d x a0 i1 h Q) : am_J l g mX1_needsOpening (d + 1) (0, 0, x) 0 [(0, .ref a0), (1, .int i1)] [] h Q := by
  unfold zX1_needsOpening_0 at H
  refine J_aload_n dX1_needsOpening_0 0 rfl ?_
  obtain ⟨fs, v1, hh, hk, H⟩ := H
  refine J_get dX1_needsOpening_1 fX1_15 hh hk ?_
  clear hh hk
  obtain ⟨fs, v2, hh, hk, H⟩ := H
  refine J_get dX1_needsOpening_4 fX1_94 hh hk ?_
  clear hh hk
  refine J_iload_n dX1_needsOpening_7 1 rfl ?_
  obtain ⟨nn, ff, hh, hk, H⟩ := H
  refine J_zald dX1_needsOpening_8 hh hk ?_
  generalize ff (Int32.toNatClampNeg i1) = v3 at H ⊢
  clear hh hk ff
  obtain ⟨H1, H2⟩ := H
  refine J_if_eq (tgt := 38) dX1_needsOpening_9 (by decide) (fun hc => ?_) (fun hc => ?_)
  · replace H := H1 hc
    clear H1 H2
    refine J_aload_n dX1_needsOpening_38 0 rfl ?_
    obtain ⟨fs, v4, hh, hk, H⟩ := H
    refine J_get dX1_needsOpening_39 fX1_32 hh hk ?_
    clear hh hk
    refine J_iload_n dX1_needsOpening_42 1 rfl ?_
    obtain ⟨nn, ff, hh, hk, H⟩ := H
    refine J_iald dX1_needsOpening_43 hh hk ?_
    generalize ff (Int32.toNatClampNeg i1) = v5 at H ⊢
    clear hh hk ff
    refine J_iconst (v := (-1)) dX1_needsOpening_44 (by decide) ?_
    obtain ⟨H1, H2⟩ := H
    refine J_icmp_eq (tgt := 52) dX1_needsOpening_45 (by decide) (fun hc => ?_) (fun hc => ?_)
    · replace H := H1 hc
      clear H1 H2
      refine J_iconst (v := 0) dX1_needsOpening_52 (by decide) ?_
      exact J_iret dX1_needsOpening_53 ⟨_, rfl, rfl⟩ ⟨Nat.le_of_ble_eq_true rfl, Nat.le_of_ble_eq_true rfl, fun _ => rfl⟩ H
    · replace H := H2 hc
      clear H1 H2
      refine J_iconst (v := 1) dX1_needsOpening_48 (by decide) ?_
      refine J_goto (tgt := 53) dX1_needsOpening_49 (by decide) ?_
      exact J_iret dX1_needsOpening_53 ⟨_, rfl, rfl⟩ ⟨Nat.le_of_ble_eq_true rfl, Nat.le_of_ble_eq_true rfl, fun _ => rfl⟩ H
  · replace H := H2 hc
    clear H1 H2
    refine J_aload_n dX1_needsOpening_12 0 rfl ?_
    obtain ⟨fs, v6, hh, hk, H⟩ := H
    refine J_get dX1_needsOpening_13 fX1_38 hh hk ?_
    clear hh hk
    refine J_iload_n dX1_needsOpening_16 1 rfl ?_
    obtain ⟨nn, ff, hh, hk, H⟩ := H
    refine J_zald dX1_needsOpening_17 hh hk ?_
    generalize ff (Int32.toNatClampNeg i1) = v7 at H ⊢
    clear hh hk ff
    obtain ⟨H1, H2⟩ := H
    refine J_if_ne (tgt := 36) dX1_needsOpening_18 (by decide) (fun hc => ?_) (fun hc => ?_)
    · replace H := H1 hc
      clear H1 H2
      refine J_iconst (v := 0) dX1_needsOpening_36 (by decide) ?_
      exact J_iret dX1_needsOpening_37 ⟨_, rfl, rfl⟩ ⟨Nat.le_of_ble_eq_true rfl, Nat.le_of_ble_eq_true rfl, fun _ => rfl⟩ H
    · replace H := H2 hc
      clear H1 H2
      refine J_aload_n dX1_needsOpening_21 0 rfl ?_
      obtain ⟨fs, v8, hh, hk, H⟩ := H
      refine J_get dX1_needsOpening_22 fX1_9 hh hk ?_
      clear hh hk
      refine J_iload_n dX1_needsOpening_25 1 rfl ?_
      obtain ⟨⟨fs, hh⟩, H⟩ := H
      refine J_callV (As := [.int i1]) (S := []) (b := v8) dX1_needsOpening_26 mX0_linksOf_ok kX1_138 rfl (by decide) (Nat.le_of_ble_eq_true rfl) hh rfl rfl (Nat.le_of_ble_eq_true rfl) ⟨Nat.le_of_ble_eq_true rfl, Nat.le_of_ble_eq_true rfl⟩ (fun k h' hp => ?_) H (fun r h9 hp => ?_)
      · obtain ⟨_, hv, -⟩ := hp; cases hv
      obtain ⟨v10, rfl, H⟩ := hp
      show am_J l g mX1_needsOpening (d + 1) (0, 0, x) 29 [(0, .ref a0), (1, .int i1)] [.int v10] h9 Q
      obtain ⟨H1, H2⟩ := H
      refine J_if_le (tgt := 36) dX1_needsOpening_29 (by decide) (fun hc => ?_) (fun hc => ?_)
      · replace H := H1 hc
        clear H1 H2
        refine J_iconst (v := 0) dX1_needsOpening_36 (by decide) ?_
        exact J_iret dX1_needsOpening_37 ⟨_, rfl, rfl⟩ ⟨Nat.le_of_ble_eq_true rfl, Nat.le_of_ble_eq_true rfl, fun _ => rfl⟩ H
      · replace H := H2 hc
        clear H1 H2
        refine J_iconst (v := 1) dX1_needsOpening_32 (by decide) ?_
        refine J_goto (tgt := 37) dX1_needsOpening_33 (by decide) ?_
        exact J_iret dX1_needsOpening_37 ⟨_, rfl, rfl⟩ ⟨Nat.le_of_ble_eq_true rfl, Nat.le_of_ble_eq_true rfl, fun _ => rfl⟩ H
theorem eX1_needsOpening {l : Launch} {g : am_G} {d : Nat} {x : Bool} {a0 : Nat} {i1 : Int32} {h : am_H} {K : Int32 → am_H → Prop} (H : zX1_needsOpening_0 l g d x a0 i1 h (fun r h' => ∃ v, r = some (.int v) ∧ K v h')) : cl_I l g mX1_needsOpening (d + 1) x [.ref a0, .int i1] h K := rX1_needsOpening_0 H
def zX1_putInOrder_15 (l : Launch) (g : am_G) (d : Nat) (x : Bool) (a0 : Nat) (i1 : Int32) (h : am_H) (Q : Option Value → am_H → Prop) : Prop := gt_I h a0 1 10 (fun v1 => ((v1 ≤ i1 → Q none h) ∧ (¬ v1 ≤ i1 → cv_I l g mX1_nextToOpen d x 1 a0 [] h (fun v3 h2 => gt_R h2 a0 1 9 (fun v4 => as_I 0 h2 v4 i1 v3 (fun h5 => ((¬ v3 = (-1) → gt_R h5 a0 1 2 (fun v6 => cv_N l g mX2_drop d x 2 v6 [.int 1, .int v3] h5 (fun h7 => cv_N l g mX1_takeInHand d x 1 a0 [.int v3] h7 (fun h9 => cv_N l g mX1_takeLinkedInHand d x 1 a0 [.int v3] h9 (fun h11 => am_J l g mX1_putInOrder (d + 1) (0, 0, x) 15 [(0, .ref a0), (1, .int (i1 + 1))] [] h11 Q))))) ∧ (v3 = (-1) → Q none h5))))))))
set_option maxRecDepth 4000 in
theorem rX1_putInOrder_15 {l : Launch} {g : am_G} {d : Nat} {x : Bool} {a0 : Nat} {i1 : Int32} {h : am_H} {Q : Option Value → am_H → Prop} (H : zX1_putInOrder_15 l g d x a0 i1 h Q) : am_J l g mX1_putInOrder (d + 1) (0, 0, x) 15 [(0, .ref a0), (1, .int i1)] [] h Q := by
  unfold zX1_putInOrder_15 at H
  refine J_iload_n dX1_putInOrder_15 1 rfl ?_
  refine J_aload_n dX1_putInOrder_16 0 rfl ?_
  obtain ⟨fs, v1, hh, hk, H⟩ := H
  refine J_get dX1_putInOrder_17 fX1_59 hh hk ?_
  clear hh hk
  obtain ⟨H1, H2⟩ := H
  refine J_icmp_ge (tgt := 66) dX1_putInOrder_20 (by decide) (fun hc => ?_) (fun hc => ?_)
  · replace H := H1 hc
    clear H1 H2
    exact J_vret dX1_putInOrder_66 rfl ⟨Nat.le_of_ble_eq_true rfl, Nat.le_of_ble_eq_true rfl, fun _ => rfl⟩ H
  · replace H := H2 hc
    clear H1 H2
    refine J_aload_n dX1_putInOrder_23 0 rfl ?_
    obtain ⟨⟨fs, hh⟩, H⟩ := H
    refine J_callV (As := []) (S := []) (b := a0) dX1_putInOrder_24 mX1_nextToOpen_ok kX1_145 rfl (by decide) (Nat.le_of_ble_eq_true rfl) hh rfl rfl (Nat.le_of_ble_eq_true rfl) ⟨Nat.le_of_ble_eq_true rfl, Nat.le_of_ble_eq_true rfl⟩ (fun k h' hp => ?_) H (fun r h2 hp => ?_)
    · obtain ⟨_, hv, -⟩ := hp; cases hv
    obtain ⟨v3, rfl, H⟩ := hp
    show am_J l g mX1_putInOrder (d + 1) (0, 0, x) 27 [(0, .ref a0), (1, .int i1)] [.int v3] h2 Q
    refine J_istore_n (L' := [(2, .int v3), (0, .ref a0), (1, .int i1)]) dX1_putInOrder_27 (by decide) rfl ?_
    refine J_aload_n dX1_putInOrder_28 1 rfl ?_
    obtain ⟨fs, v4, hh, hk, H⟩ := H
    refine J_get dX1_putInOrder_29 fX1_42 hh hk ?_
    clear hh hk
    refine J_iload_n dX1_putInOrder_32 2 rfl ?_
    refine J_iload_n dX1_putInOrder_33 0 rfl ?_
    obtain ⟨nn, ff, hh, hk, H⟩ := H
    refine J_iast dX1_putInOrder_34 hh hk ?_
    generalize List.set h2 v4 (am_I 0 nn (upd ff (Int32.toNatClampNeg i1) v3)) = h5 at H ⊢
    clear hh hk
    refine J_iload_n dX1_putInOrder_35 0 rfl ?_
    refine J_iconst (v := (-1)) dX1_putInOrder_36 (by decide) ?_
    obtain ⟨H1, H2⟩ := H
    refine J_icmp_ne (tgt := 41) dX1_putInOrder_37 (by decide) (fun hc => ?_) (fun hc => ?_)
    · replace H := H1 hc
      clear H1 H2
      refine J_aload_n dX1_putInOrder_41 1 rfl ?_
      obtain ⟨fs, v6, hh, hk, H⟩ := H
      refine J_get dX1_putInOrder_42 fX1_24 hh hk ?_
      clear hh hk
      refine J_iconst (v := 1) dX1_putInOrder_45 (by decide) ?_
      refine J_iload_n dX1_putInOrder_46 0 rfl ?_
      obtain ⟨⟨fs, hh⟩, H⟩ := H
      refine J_callV (As := [.int 1, .int v3]) (S := []) (b := v6) dX1_putInOrder_47 mX2_drop_ok kX1_148 rfl (by decide) (Nat.le_of_ble_eq_true rfl) hh rfl rfl (Nat.le_of_ble_eq_true rfl) ⟨Nat.le_of_ble_eq_true rfl, Nat.le_of_ble_eq_true rfl⟩ (fun k h' hp => ?_) H (fun r h7 hp => ?_)
      · obtain ⟨hv, -⟩ := hp; cases hv
      obtain ⟨rfl, H⟩ := hp
      show am_J l g mX1_putInOrder (d + 1) (0, 0, x) 50 [(2, .int v3), (0, .ref a0), (1, .int i1)] [] h7 Q
      refine J_aload_n dX1_putInOrder_50 1 rfl ?_
      refine J_iload_n dX1_putInOrder_51 0 rfl ?_
      obtain ⟨⟨fs, hh⟩, H⟩ := H
      refine J_callV (As := [.int v3]) (S := []) (b := a0) dX1_putInOrder_52 mX1_takeInHand_ok kX1_151 rfl (by decide) (Nat.le_of_ble_eq_true rfl) hh rfl rfl (Nat.le_of_ble_eq_true rfl) ⟨Nat.le_of_ble_eq_true rfl, Nat.le_of_ble_eq_true rfl⟩ (fun k h' hp => ?_) H (fun r h9 hp => ?_)
      · obtain ⟨hv, -⟩ := hp; cases hv
      obtain ⟨rfl, H⟩ := hp
      show am_J l g mX1_putInOrder (d + 1) (0, 0, x) 55 [(2, .int v3), (0, .ref a0), (1, .int i1)] [] h9 Q
      refine J_aload_n dX1_putInOrder_55 1 rfl ?_
      refine J_iload_n dX1_putInOrder_56 0 rfl ?_
      obtain ⟨⟨fs, hh⟩, H⟩ := H
      refine J_callV (As := [.int v3]) (S := []) (b := a0) dX1_putInOrder_57 mX1_takeLinkedInHand_ok kX1_154 rfl (by decide) (Nat.le_of_ble_eq_true rfl) hh rfl rfl (Nat.le_of_ble_eq_true rfl) ⟨Nat.le_of_ble_eq_true rfl, Nat.le_of_ble_eq_true rfl⟩ (fun k h' hp => ?_) H (fun r h11 hp => ?_)
      · obtain ⟨hv, -⟩ := hp; cases hv
      obtain ⟨rfl, H⟩ := hp
      show am_J l g mX1_putInOrder (d + 1) (0, 0, x) 60 [(2, .int v3), (0, .ref a0), (1, .int i1)] [] h11 Q
      refine J_iinc (v := (i1 + 1)) (L' := [(1, .int (i1 + 1)), (2, .int v3), (0, .ref a0)]) dX1_putInOrder_60 2 rfl rfl (by decide) rfl ?_
      refine J_goto (tgt := 15) dX1_putInOrder_63 (by decide) ?_
      exact J_pick [2, 0] rfl H
    · replace H := H2 hc
      clear H1 H2
      exact J_vret dX1_putInOrder_40 rfl ⟨Nat.le_of_ble_eq_true rfl, Nat.le_of_ble_eq_true rfl, fun _ => rfl⟩ H
def zX1_putInOrder_0 (l : Launch) (g : am_G) (d : Nat) (x : Bool) (a0 : Nat) (h : am_H) (Q : Option Value → am_H → Prop) : Prop := gt_R h a0 1 2 (fun v1 => gt_R h a0 1 2 (fun v2 => cv_N l g mX2_putAllOf d x 2 v1 [.int 1, .ref v2, .int 0] h (fun h3 => am_J l g mX1_putInOrder (d + 1) (0, 0, x) 15 [(0, .ref a0), (1, .int 0)] [] h3 Q)))
set_option maxRecDepth 4000 in
theorem rX1_putInOrder_0 {l : Launch} {g : am_G} {d : Nat} {x : Bool} {a0 : Nat} {h : am_H} {Q : Option Value → am_H → Prop} (H : zX1_putInOrder_0 l g d x a0 h Q) : am_J l g mX1_putInOrder (d + 1) (0, 0, x) 0 [(0, .ref a0)] [] h Q := by
  unfold zX1_putInOrder_0 at H
  refine J_aload_n dX1_putInOrder_0 0 rfl ?_
  obtain ⟨fs, v1, hh, hk, H⟩ := H
  refine J_get dX1_putInOrder_1 fX1_24 hh hk ?_
  clear hh hk
  refine J_iconst (v := 1) dX1_putInOrder_4 (by decide) ?_
  refine J_aload_n dX1_putInOrder_5 0 rfl ?_
  obtain ⟨fs, v2, hh, hk, H⟩ := H
  refine J_get dX1_putInOrder_6 fX1_24 hh hk ?_
  clear hh hk
  refine J_iconst (v := 0) dX1_putInOrder_9 (by decide) ?_
  obtain ⟨⟨fs, hh⟩, H⟩ := H
  refine J_callV (As := [.int 1, .ref v2, .int 0]) (S := []) (b := v1) dX1_putInOrder_10 mX2_putAllOf_ok kX1_141 rfl (by decide) (Nat.le_of_ble_eq_true rfl) hh rfl rfl (Nat.le_of_ble_eq_true rfl) ⟨Nat.le_of_ble_eq_true rfl, Nat.le_of_ble_eq_true rfl⟩ (fun k h' hp => ?_) H (fun r h3 hp => ?_)
  · obtain ⟨hv, -⟩ := hp; cases hv
  obtain ⟨rfl, H⟩ := hp
  show am_J l g mX1_putInOrder (d + 1) (0, 0, x) 13 [(0, .ref a0)] [] h3 Q
  refine J_iconst (v := 0) dX1_putInOrder_13 (by decide) ?_
  refine J_istore_n (L' := [(1, .int 0), (0, .ref a0)]) dX1_putInOrder_14 (by decide) rfl ?_
  exact J_pick [1, 0] rfl H
theorem eX1_putInOrder {l : Launch} {g : am_G} {d : Nat} {x : Bool} {a0 : Nat} {h : am_H} {K : am_H → Prop} (H : zX1_putInOrder_0 l g d x a0 h (fun r h' => r = none ∧ K h')) : cl_N l g mX1_putInOrder (d + 1) x [.ref a0] h K := rX1_putInOrder_0 H
def zX1_nextToOpen_14 (l : Launch) (g : am_G) (d : Nat) (x : Bool) (a0 : Nat) (i1 : Int32) (i2 : Int32) (i3 : Int32) (h : am_H) (Q : Option Value → am_H → Prop) : Prop := ((300 ≤ i3 → Q (some (.int i1)) h) ∧ (¬ 300 ≤ i3 → ((i2 = (-1) → Q (some (.int i1)) h) ∧ (¬ i2 = (-1) → gt_R h a0 1 2 (fun v1 => cv_I l g mX2_has d x 2 v1 [.int 3, .int i2] h (fun v3 h2 => ((v3 = 0 → gt_R h2 a0 1 2 (fun v4 => cv_I l g mX2_next d x 2 v4 [.int 1, .int (i2 + 1)] h2 (fun v6 h5 => am_J l g mX1_nextToOpen (d + 1) (0, 0, x) 14 [(0, .ref a0), (1, .int i1), (2, .int v6), (3, .int (i3 + 1))] [] h5 Q))) ∧ (¬ v3 = 0 → Q (some (.int i2)) h2))))))))
set_option maxRecDepth 4000 in
theorem rX1_nextToOpen_14 {l : Launch} {g : am_G} {d : Nat} {x : Bool} {a0 : Nat} {i1 : Int32} {i2 : Int32} {i3 : Int32} {h : am_H} {Q : Option Value → am_H → Prop} (H : zX1_nextToOpen_14 l g d x a0 i1 i2 i3 h Q) : am_J l g mX1_nextToOpen (d + 1) (0, 0, x) 14 [(0, .ref a0), (1, .int i1), (2, .int i2), (3, .int i3)] [] h Q := by
  unfold zX1_nextToOpen_14 at H
  refine J_iload_n dX1_nextToOpen_14 3 rfl ?_
  refine J_sipush (v := 300) dX1_nextToOpen_15 (by decide) ?_
  obtain ⟨H1, H2⟩ := H
  refine J_icmp_ge (tgt := 58) dX1_nextToOpen_18 (by decide) (fun hc => ?_) (fun hc => ?_)
  · replace H := H1 hc
    clear H1 H2
    refine J_iload_n dX1_nextToOpen_58 1 rfl ?_
    exact J_iret dX1_nextToOpen_59 ⟨_, rfl, rfl⟩ ⟨Nat.le_of_ble_eq_true rfl, Nat.le_of_ble_eq_true rfl, fun _ => rfl⟩ H
  · replace H := H2 hc
    clear H1 H2
    refine J_iload_n dX1_nextToOpen_21 2 rfl ?_
    refine J_iconst (v := (-1)) dX1_nextToOpen_22 (by decide) ?_
    obtain ⟨H1, H2⟩ := H
    refine J_icmp_eq (tgt := 58) dX1_nextToOpen_23 (by decide) (fun hc => ?_) (fun hc => ?_)
    · replace H := H1 hc
      clear H1 H2
      refine J_iload_n dX1_nextToOpen_58 1 rfl ?_
      exact J_iret dX1_nextToOpen_59 ⟨_, rfl, rfl⟩ ⟨Nat.le_of_ble_eq_true rfl, Nat.le_of_ble_eq_true rfl, fun _ => rfl⟩ H
    · replace H := H2 hc
      clear H1 H2
      refine J_aload_n dX1_nextToOpen_26 0 rfl ?_
      obtain ⟨fs, v1, hh, hk, H⟩ := H
      refine J_get dX1_nextToOpen_27 fX1_24 hh hk ?_
      clear hh hk
      refine J_iconst (v := 3) dX1_nextToOpen_30 (by decide) ?_
      refine J_iload_n dX1_nextToOpen_31 2 rfl ?_
      obtain ⟨⟨fs, hh⟩, H⟩ := H
      refine J_callV (As := [.int 3, .int i2]) (S := []) (b := v1) dX1_nextToOpen_32 mX2_has_ok kX1_81 rfl (by decide) (Nat.le_of_ble_eq_true rfl) hh rfl rfl (Nat.le_of_ble_eq_true rfl) ⟨Nat.le_of_ble_eq_true rfl, Nat.le_of_ble_eq_true rfl⟩ (fun k h' hp => ?_) H (fun r h2 hp => ?_)
      · obtain ⟨_, hv, -⟩ := hp; cases hv
      obtain ⟨v3, rfl, H⟩ := hp
      show am_J l g mX1_nextToOpen (d + 1) (0, 0, x) 35 [(0, .ref a0), (1, .int i1), (2, .int i2), (3, .int i3)] [.int v3] h2 Q
      obtain ⟨H1, H2⟩ := H
      refine J_if_eq (tgt := 40) dX1_nextToOpen_35 (by decide) (fun hc => ?_) (fun hc => ?_)
      · replace H := H1 hc
        clear H1 H2
        refine J_aload_n dX1_nextToOpen_40 0 rfl ?_
        obtain ⟨fs, v4, hh, hk, H⟩ := H
        refine J_get dX1_nextToOpen_41 fX1_24 hh hk ?_
        clear hh hk
        refine J_iconst (v := 1) dX1_nextToOpen_44 (by decide) ?_
        refine J_iload_n dX1_nextToOpen_45 2 rfl ?_
        refine J_iconst (v := 1) dX1_nextToOpen_46 (by decide) ?_
        refine J_iadd dX1_nextToOpen_47 ?_
        obtain ⟨⟨fs, hh⟩, H⟩ := H
        refine J_callV (As := [.int 1, .int (i2 + 1)]) (S := []) (b := v4) dX1_nextToOpen_48 mX2_next_ok kX1_103 rfl (by decide) (Nat.le_of_ble_eq_true rfl) hh rfl rfl (Nat.le_of_ble_eq_true rfl) ⟨Nat.le_of_ble_eq_true rfl, Nat.le_of_ble_eq_true rfl⟩ (fun k h' hp => ?_) H (fun r h5 hp => ?_)
        · obtain ⟨_, hv, -⟩ := hp; cases hv
        obtain ⟨v6, rfl, H⟩ := hp
        show am_J l g mX1_nextToOpen (d + 1) (0, 0, x) 51 [(0, .ref a0), (1, .int i1), (2, .int i2), (3, .int i3)] [.int v6] h5 Q
        refine J_istore_n (L' := [(2, .int v6), (0, .ref a0), (1, .int i1), (3, .int i3)]) dX1_nextToOpen_51 (by decide) rfl ?_
        refine J_iinc (v := (i3 + 1)) (L' := [(3, .int (i3 + 1)), (2, .int v6), (0, .ref a0), (1, .int i1)]) dX1_nextToOpen_52 3 rfl rfl (by decide) rfl ?_
        refine J_goto (tgt := 14) dX1_nextToOpen_55 (by decide) ?_
        exact J_pick [2, 3, 1, 0] rfl H
      · replace H := H2 hc
        clear H1 H2
        refine J_iload_n dX1_nextToOpen_38 2 rfl ?_
        exact J_iret dX1_nextToOpen_39 ⟨_, rfl, rfl⟩ ⟨Nat.le_of_ble_eq_true rfl, Nat.le_of_ble_eq_true rfl, fun _ => rfl⟩ H
def zX1_nextToOpen_0 (l : Launch) (g : am_G) (d : Nat) (x : Bool) (a0 : Nat) (h : am_H) (Q : Option Value → am_H → Prop) : Prop := gt_R h a0 1 2 (fun v1 => cv_I l g mX2_next d x 2 v1 [.int 1, .int 0] h (fun v3 h2 => am_J l g mX1_nextToOpen (d + 1) (0, 0, x) 14 [(0, .ref a0), (1, .int v3), (2, .int v3), (3, .int 0)] [] h2 Q))
set_option maxRecDepth 4000 in
theorem rX1_nextToOpen_0 {l : Launch} {g : am_G} {d : Nat} {x : Bool} {a0 : Nat} {h : am_H} {Q : Option Value → am_H → Prop} (H : zX1_nextToOpen_0 l g d x a0 h Q) : am_J l g mX1_nextToOpen (d + 1) (0, 0, x) 0 [(0, .ref a0)] [] h Q := by
  unfold zX1_nextToOpen_0 at H
  refine J_aload_n dX1_nextToOpen_0 0 rfl ?_
  obtain ⟨fs, v1, hh, hk, H⟩ := H
  refine J_get dX1_nextToOpen_1 fX1_24 hh hk ?_
  clear hh hk
  refine J_iconst (v := 1) dX1_nextToOpen_4 (by decide) ?_
  refine J_iconst (v := 0) dX1_nextToOpen_5 (by decide) ?_
  obtain ⟨⟨fs, hh⟩, H⟩ := H
  refine J_callV (As := [.int 1, .int 0]) (S := []) (b := v1) dX1_nextToOpen_6 mX2_next_ok kX1_103 rfl (by decide) (Nat.le_of_ble_eq_true rfl) hh rfl rfl (Nat.le_of_ble_eq_true rfl) ⟨Nat.le_of_ble_eq_true rfl, Nat.le_of_ble_eq_true rfl⟩ (fun k h' hp => ?_) H (fun r h2 hp => ?_)
  · obtain ⟨_, hv, -⟩ := hp; cases hv
  obtain ⟨v3, rfl, H⟩ := hp
  show am_J l g mX1_nextToOpen (d + 1) (0, 0, x) 9 [(0, .ref a0)] [.int v3] h2 Q
  refine J_istore_n (L' := [(1, .int v3), (0, .ref a0)]) dX1_nextToOpen_9 (by decide) rfl ?_
  refine J_iload_n dX1_nextToOpen_10 0 rfl ?_
  refine J_istore_n (L' := [(2, .int v3), (1, .int v3), (0, .ref a0)]) dX1_nextToOpen_11 (by decide) rfl ?_
  refine J_iconst (v := 0) dX1_nextToOpen_12 (by decide) ?_
  refine J_istore_n (L' := [(3, .int 0), (2, .int v3), (1, .int v3), (0, .ref a0)]) dX1_nextToOpen_13 (by decide) rfl ?_
  exact J_pick [3, 2, 1, 0] rfl H
theorem eX1_nextToOpen {l : Launch} {g : am_G} {d : Nat} {x : Bool} {a0 : Nat} {h : am_H} {K : Int32 → am_H → Prop} (H : zX1_nextToOpen_0 l g d x a0 h (fun r h' => ∃ v, r = some (.int v) ∧ K v h')) : cl_I l g mX1_nextToOpen (d + 1) x [.ref a0] h K := rX1_nextToOpen_0 H
def zX1_takeLinkedInHand_15 (l : Launch) (g : am_G) (d : Nat) (x : Bool) (a0 : Nat) (i1 : Int32) (i2 : Int32) (i3 : Int32) (h : am_H) (Q : Option Value → am_H → Prop) : Prop := ((300 ≤ i3 → Q none h) ∧ (¬ 300 ≤ i3 → ((i2 = (-1) → Q none h) ∧ (¬ i2 = (-1) → cv_N l g mX1_takeInHand d x 1 a0 [.int i2] h (fun h1 => gt_R h1 a0 1 0 (fun v3 => gt_R h1 v3 0 3 (fun v4 => cv_I l g mX2_next d x 2 v4 [.int i1, .int (i2 + 1)] h1 (fun v6 h5 => am_J l g mX1_takeLinkedInHand (d + 1) (0, 0, x) 15 [(0, .ref a0), (1, .int i1), (2, .int v6), (3, .int (i3 + 1))] [] h5 Q))))))))
set_option maxRecDepth 4000 in
theorem rX1_takeLinkedInHand_15 {l : Launch} {g : am_G} {d : Nat} {x : Bool} {a0 : Nat} {i1 : Int32} {i2 : Int32} {i3 : Int32} {h : am_H} {Q : Option Value → am_H → Prop} (H : zX1_takeLinkedInHand_15 l g d x a0 i1 i2 i3 h Q) : am_J l g mX1_takeLinkedInHand (d + 1) (0, 0, x) 15 [(0, .ref a0), (1, .int i1), (2, .int i2), (3, .int i3)] [] h Q := by
  unfold zX1_takeLinkedInHand_15 at H
  refine J_iload_n dX1_takeLinkedInHand_15 3 rfl ?_
  refine J_sipush (v := 300) dX1_takeLinkedInHand_16 (by decide) ?_
  obtain ⟨H1, H2⟩ := H
  refine J_icmp_ge (tgt := 53) dX1_takeLinkedInHand_19 (by decide) (fun hc => ?_) (fun hc => ?_)
  · replace H := H1 hc
    clear H1 H2
    exact J_vret dX1_takeLinkedInHand_53 rfl ⟨Nat.le_of_ble_eq_true rfl, Nat.le_of_ble_eq_true rfl, fun _ => rfl⟩ H
  · replace H := H2 hc
    clear H1 H2
    refine J_iload_n dX1_takeLinkedInHand_22 2 rfl ?_
    refine J_iconst (v := (-1)) dX1_takeLinkedInHand_23 (by decide) ?_
    obtain ⟨H1, H2⟩ := H
    refine J_icmp_eq (tgt := 53) dX1_takeLinkedInHand_24 (by decide) (fun hc => ?_) (fun hc => ?_)
    · replace H := H1 hc
      clear H1 H2
      exact J_vret dX1_takeLinkedInHand_53 rfl ⟨Nat.le_of_ble_eq_true rfl, Nat.le_of_ble_eq_true rfl, fun _ => rfl⟩ H
    · replace H := H2 hc
      clear H1 H2
      refine J_aload_n dX1_takeLinkedInHand_27 0 rfl ?_
      refine J_iload_n dX1_takeLinkedInHand_28 2 rfl ?_
      obtain ⟨⟨fs, hh⟩, H⟩ := H
      refine J_callV (As := [.int i2]) (S := []) (b := a0) dX1_takeLinkedInHand_29 mX1_takeInHand_ok kX1_151 rfl (by decide) (Nat.le_of_ble_eq_true rfl) hh rfl rfl (Nat.le_of_ble_eq_true rfl) ⟨Nat.le_of_ble_eq_true rfl, Nat.le_of_ble_eq_true rfl⟩ (fun k h' hp => ?_) H (fun r h1 hp => ?_)
      · obtain ⟨hv, -⟩ := hp; cases hv
      obtain ⟨rfl, H⟩ := hp
      show am_J l g mX1_takeLinkedInHand (d + 1) (0, 0, x) 32 [(0, .ref a0), (1, .int i1), (2, .int i2), (3, .int i3)] [] h1 Q
      refine J_aload_n dX1_takeLinkedInHand_32 0 rfl ?_
      obtain ⟨fs, v3, hh, hk, H⟩ := H
      refine J_get dX1_takeLinkedInHand_33 fX1_9 hh hk ?_
      clear hh hk
      obtain ⟨fs, v4, hh, hk, H⟩ := H
      refine J_get dX1_takeLinkedInHand_36 fX1_100 hh hk ?_
      clear hh hk
      refine J_iload_n dX1_takeLinkedInHand_39 1 rfl ?_
      refine J_iload_n dX1_takeLinkedInHand_40 2 rfl ?_
      refine J_iconst (v := 1) dX1_takeLinkedInHand_41 (by decide) ?_
      refine J_iadd dX1_takeLinkedInHand_42 ?_
      obtain ⟨⟨fs, hh⟩, H⟩ := H
      refine J_callV (As := [.int i1, .int (i2 + 1)]) (S := []) (b := v4) dX1_takeLinkedInHand_43 mX2_next_ok kX1_103 rfl (by decide) (Nat.le_of_ble_eq_true rfl) hh rfl rfl (Nat.le_of_ble_eq_true rfl) ⟨Nat.le_of_ble_eq_true rfl, Nat.le_of_ble_eq_true rfl⟩ (fun k h' hp => ?_) H (fun r h5 hp => ?_)
      · obtain ⟨_, hv, -⟩ := hp; cases hv
      obtain ⟨v6, rfl, H⟩ := hp
      show am_J l g mX1_takeLinkedInHand (d + 1) (0, 0, x) 46 [(0, .ref a0), (1, .int i1), (2, .int i2), (3, .int i3)] [.int v6] h5 Q
      refine J_istore_n (L' := [(2, .int v6), (0, .ref a0), (1, .int i1), (3, .int i3)]) dX1_takeLinkedInHand_46 (by decide) rfl ?_
      refine J_iinc (v := (i3 + 1)) (L' := [(3, .int (i3 + 1)), (2, .int v6), (0, .ref a0), (1, .int i1)]) dX1_takeLinkedInHand_47 3 rfl rfl (by decide) rfl ?_
      refine J_goto (tgt := 15) dX1_takeLinkedInHand_50 (by decide) ?_
      exact J_pick [2, 3, 1, 0] rfl H
def zX1_takeLinkedInHand_0 (l : Launch) (g : am_G) (d : Nat) (x : Bool) (a0 : Nat) (i1 : Int32) (h : am_H) (Q : Option Value → am_H → Prop) : Prop := gt_R h a0 1 0 (fun v1 => gt_R h v1 0 3 (fun v2 => cv_I l g mX2_next d x 2 v2 [.int i1, .int 0] h (fun v4 h3 => am_J l g mX1_takeLinkedInHand (d + 1) (0, 0, x) 15 [(0, .ref a0), (1, .int i1), (2, .int v4), (3, .int 0)] [] h3 Q)))
set_option maxRecDepth 4000 in
theorem rX1_takeLinkedInHand_0 {l : Launch} {g : am_G} {d : Nat} {x : Bool} {a0 : Nat} {i1 : Int32} {h : am_H} {Q : Option Value → am_H → Prop} (H : zX1_takeLinkedInHand_0 l g d x a0 i1 h Q) : am_J l g mX1_takeLinkedInHand (d + 1) (0, 0, x) 0 [(0, .ref a0), (1, .int i1)] [] h Q := by
  unfold zX1_takeLinkedInHand_0 at H
  refine J_aload_n dX1_takeLinkedInHand_0 0 rfl ?_
  obtain ⟨fs, v1, hh, hk, H⟩ := H
  refine J_get dX1_takeLinkedInHand_1 fX1_9 hh hk ?_
  clear hh hk
  obtain ⟨fs, v2, hh, hk, H⟩ := H
  refine J_get dX1_takeLinkedInHand_4 fX1_100 hh hk ?_
  clear hh hk
  refine J_iload_n dX1_takeLinkedInHand_7 1 rfl ?_
  refine J_iconst (v := 0) dX1_takeLinkedInHand_8 (by decide) ?_
  obtain ⟨⟨fs, hh⟩, H⟩ := H
  refine J_callV (As := [.int i1, .int 0]) (S := []) (b := v2) dX1_takeLinkedInHand_9 mX2_next_ok kX1_103 rfl (by decide) (Nat.le_of_ble_eq_true rfl) hh rfl rfl (Nat.le_of_ble_eq_true rfl) ⟨Nat.le_of_ble_eq_true rfl, Nat.le_of_ble_eq_true rfl⟩ (fun k h' hp => ?_) H (fun r h3 hp => ?_)
  · obtain ⟨_, hv, -⟩ := hp; cases hv
  obtain ⟨v4, rfl, H⟩ := hp
  show am_J l g mX1_takeLinkedInHand (d + 1) (0, 0, x) 12 [(0, .ref a0), (1, .int i1)] [.int v4] h3 Q
  refine J_istore_n (L' := [(2, .int v4), (0, .ref a0), (1, .int i1)]) dX1_takeLinkedInHand_12 (by decide) rfl ?_
  refine J_iconst (v := 0) dX1_takeLinkedInHand_13 (by decide) ?_
  refine J_istore_n (L' := [(3, .int 0), (2, .int v4), (0, .ref a0), (1, .int i1)]) dX1_takeLinkedInHand_14 (by decide) rfl ?_
  exact J_pick [2, 3, 1, 0] rfl H
theorem eX1_takeLinkedInHand {l : Launch} {g : am_G} {d : Nat} {x : Bool} {a0 : Nat} {i1 : Int32} {h : am_H} {K : am_H → Prop} (H : zX1_takeLinkedInHand_0 l g d x a0 i1 h (fun r h' => r = none ∧ K h')) : cl_N l g mX1_takeLinkedInHand (d + 1) x [.ref a0, .int i1] h K := rX1_takeLinkedInHand_0 H
