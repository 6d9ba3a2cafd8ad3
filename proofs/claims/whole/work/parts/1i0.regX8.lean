def zX8_init_0 (l : Launch) (g : am_G) (d : Nat) (a0 : Nat) (h : am_H) (Q : Option Value → am_H → Prop) : Prop := ci_N l g mX5_init d true ((h).length) [] (h ++ [am_O 5 [.null, .int 0]]) (fun h1 => pt_V h1 a0 8 0 (.ref ((h).length)) (fun h3 => gt_R ((h3 ++ [am_O 4 [.null, .null, .int 0]]) ++ [am_O 6 [.null, .int 0, .int 0, .int 0, .long 0]]) a0 8 0 (fun v4 => ci_N l g mX6_init d true (((h3 ++ [am_O 4 [.null, .null, .int 0]])).length) [.ref v4] ((h3 ++ [am_O 4 [.null, .null, .int 0]]) ++ [am_O 6 [.null, .int 0, .int 0, .int 0, .long 0]]) (fun h5 => ci_N l g mX4_init d true ((h3).length) [.ref (((h3 ++ [am_O 4 [.null, .null, .int 0]])).length)] h5 (fun h7 => pt_V h7 a0 8 1 (.ref ((h3).length)) (fun h9 => ci_N l g mX0_init d true ((h9).length) [] (h9 ++ [am_O 0 [.null, .null, .null, .null, .int 0, .int 0, .int 0, .int 0, .int 0]]) (fun h10 => pt_V h10 a0 8 2 (.ref ((h9).length)) (fun h12 => gt_R (h12 ++ [am_O 3 [.null, .null, .null, .null, .null, .int 0, .int 0, .int 0, .null, .null, .null, .int 0, .int 0, .int 0]]) a0 8 2 (fun v13 => ci_N l g mX3_init d true ((h12).length) [.ref v13] (h12 ++ [am_O 3 [.null, .null, .null, .null, .null, .int 0, .int 0, .int 0, .null, .null, .null, .int 0, .int 0, .int 0]]) (fun h14 => pt_V h14 a0 8 3 (.ref ((h12).length)) (fun h16 => gt_R (h16 ++ [am_O 1 [.null, .null, .null, .null, .null, .null, .null, .int 0, .int 0, .null, .int 0]]) a0 8 2 (fun v17 => gt_R (h16 ++ [am_O 1 [.null, .null, .null, .null, .null, .null, .null, .int 0, .int 0, .null, .int 0]]) a0 8 3 (fun v18 => ci_N l g mX1_init d true ((h16).length) [.ref v17, .ref v18] (h16 ++ [am_O 1 [.null, .null, .null, .null, .null, .null, .null, .int 0, .int 0, .null, .int 0]]) (fun h19 => pt_V h19 a0 8 4 (.ref ((h16).length)) (fun h21 => ci_N l g mX7_init d true ((h21).length) [] (h21 ++ [am_O 7 [.null, .null, .null, .null, .null, .int 0, .int 0]]) (fun h22 => pt_V h22 a0 8 5 (.ref ((h21).length)) (fun h24 => ci_N l g mX7_init d true ((h24).length) [] (h24 ++ [am_O 7 [.null, .null, .null, .null, .null, .int 0, .int 0]]) (fun h25 => pt_V h25 a0 8 6 (.ref ((h24).length)) (fun h27 => pt_V h27 a0 8 7 (.int 100) (fun h28 => pt_V h28 a0 8 8 (.int 400) (fun h29 => pt_V h29 a0 8 9 (.int 8) (fun h30 => Q none h30))))))))))))))))))))))
set_option maxRecDepth 4000 in
theorem rX8_init_0 {l : Launch} {g : am_G} {d : Nat} {a0 : Nat} {h : am_H} {Q : Option Value → am_H → Prop} (H : zX8_init_0 l g d a0 h Q) : am_J l g mX8_init (d + 1) (0, 0, true) 0 [(0, .ref a0)] [] h Q := by
  unfold zX8_init_0 at H
  refine J_aload_n dX8_init_0 0 rfl ?_
  refine J_objInit dX8_init_1 kX8_1 (Nat.le_of_ble_eq_true rfl) ?_
  refine J_aload_n dX8_init_4 0 rfl ?_
  refine J_new (ci := 5) (fs := [.null, .int 0]) dX8_init_5 rfl gwX5 tyX5 tyX5_ok cX8_7 nX5 zX5 (by decide +kernel) rfl ⟨by decide, by decide⟩ ?_
  refine J_dup dX8_init_8 rfl ?_
  refine J_callI (As := []) (S := [.ref ((h).length), .ref a0]) (b := ((h).length)) dX8_init_9 mX5_init_ok rfl kX8_9 rfl (by decide) (Nat.le_of_ble_eq_true rfl) rfl (Nat.le_of_ble_eq_true rfl) ⟨by decide, by decide⟩ (fun k h' hp => ?_) H (fun r h1 hp => ?_)
  · obtain ⟨hv, -⟩ := hp; cases hv
  obtain ⟨rfl, H⟩ := hp
  show am_J l g mX8_init (d + 1) (2, 1002, true) 12 [(0, .ref a0)] [.ref ((h).length), .ref a0] h1 Q
  obtain ⟨fs, hh, hk, H⟩ := H
  refine J_putF dX8_init_12 fX8_10 rfl rfl rfl rfl hh hk ?_
  generalize List.set h1 a0 (am_O 8 (List.set fs 0 (.ref ((h).length)))) = h3 at H ⊢
  clear hh hk
  refine J_aload_n dX8_init_15 0 rfl ?_
  refine J_new (ci := 4) (fs := [.null, .null, .int 0]) dX8_init_16 rfl gwX4 tyX4 tyX4_ok cX8_16 nX4 zX4 (by decide +kernel) rfl ⟨by decide, by decide⟩ ?_
  refine J_dup dX8_init_19 rfl ?_
  refine J_new (ci := 6) (fs := [.null, .int 0, .int 0, .int 0, .long 0]) dX8_init_20 rfl gwX6 tyX6 tyX6_ok cX8_18 nX6 zX6 (by decide +kernel) rfl ⟨by decide, by decide⟩ ?_
  refine J_dup dX8_init_23 rfl ?_
  refine J_aload_n dX8_init_24 0 rfl ?_
  obtain ⟨fs, v4, hh, hk, H⟩ := H
  refine J_get dX8_init_25 fX8_10 hh hk ?_
  clear hh hk
  refine J_callI (As := [.ref v4]) (S := [.ref (((h3 ++ [am_O 4 [.null, .null, .int 0]])).length), .ref ((h3).length), .ref ((h3).length), .ref a0]) (b := (((h3 ++ [am_O 4 [.null, .null, .int 0]])).length)) dX8_init_28 mX6_init_ok rfl kX8_20 rfl (by decide) (Nat.le_of_ble_eq_true rfl) rfl (Nat.le_of_ble_eq_true rfl) ⟨by decide, by decide⟩ (fun k h' hp => ?_) H (fun r h5 hp => ?_)
  · obtain ⟨hv, -⟩ := hp; cases hv
  obtain ⟨rfl, H⟩ := hp
  show am_J l g mX8_init (d + 1) (4, 1010, true) 31 [(0, .ref a0)] [.ref (((h3 ++ [am_O 4 [.null, .null, .int 0]])).length), .ref ((h3).length), .ref ((h3).length), .ref a0] h5 Q
  refine J_callI (As := [.ref (((h3 ++ [am_O 4 [.null, .null, .int 0]])).length)]) (S := [.ref ((h3).length), .ref a0]) (b := ((h3).length)) dX8_init_31 mX4_init_ok rfl kX8_23 rfl (by decide) (Nat.le_of_ble_eq_true rfl) rfl (Nat.le_of_ble_eq_true rfl) ⟨by decide, by decide⟩ (fun k h' hp => ?_) H (fun r h7 hp => ?_)
  · obtain ⟨hv, -⟩ := hp; cases hv
  obtain ⟨rfl, H⟩ := hp
  show am_J l g mX8_init (d + 1) (5, 1014, true) 34 [(0, .ref a0)] [.ref ((h3).length), .ref a0] h7 Q
  obtain ⟨fs, hh, hk, H⟩ := H
  refine J_putF dX8_init_34 fX8_26 rfl rfl rfl rfl hh hk ?_
  generalize List.set h7 a0 (am_O 8 (List.set fs 1 (.ref ((h3).length)))) = h9 at H ⊢
  clear hh hk
  refine J_aload_n dX8_init_37 0 rfl ?_
  refine J_new (ci := 0) (fs := [.null, .null, .null, .null, .int 0, .int 0, .int 0, .int 0, .int 0]) dX8_init_38 rfl gwX0 tyX0 tyX0_ok cX8_30 nX0 zX0 (by decide +kernel) rfl ⟨by decide, by decide⟩ ?_
  refine J_dup dX8_init_41 rfl ?_
  refine J_callI (As := []) (S := [.ref ((h9).length), .ref a0]) (b := ((h9).length)) dX8_init_42 mX0_init_ok rfl kX8_32 rfl (by decide) (Nat.le_of_ble_eq_true rfl) rfl (Nat.le_of_ble_eq_true rfl) ⟨by decide, by decide⟩ (fun k h' hp => ?_) H (fun r h10 hp => ?_)
  · obtain ⟨hv, -⟩ := hp; cases hv
  obtain ⟨rfl, H⟩ := hp
  show am_J l g mX8_init (d + 1) (17, 4452, true) 45 [(0, .ref a0)] [.ref ((h9).length), .ref a0] h10 Q
  obtain ⟨fs, hh, hk, H⟩ := H
  refine J_putF dX8_init_45 fX8_33 rfl rfl rfl rfl hh hk ?_
  generalize List.set h10 a0 (am_O 8 (List.set fs 2 (.ref ((h9).length)))) = h12 at H ⊢
  clear hh hk
  refine J_aload_n dX8_init_48 0 rfl ?_
  refine J_new (ci := 3) (fs := [.null, .null, .null, .null, .null, .int 0, .int 0, .int 0, .null, .null, .null, .int 0, .int 0, .int 0]) dX8_init_49 rfl gwX3 tyX3 tyX3_ok cX8_37 nX3 zX3 (by decide +kernel) rfl ⟨by decide, by decide⟩ ?_
  refine J_dup dX8_init_52 rfl ?_
  refine J_aload_n dX8_init_53 0 rfl ?_
  obtain ⟨fs, v13, hh, hk, H⟩ := H
  refine J_get dX8_init_54 fX8_33 hh hk ?_
  clear hh hk
  refine J_callI (As := [.ref v13]) (S := [.ref ((h12).length), .ref a0]) (b := ((h12).length)) dX8_init_57 mX3_init_ok rfl kX8_39 rfl (by decide) (Nat.le_of_ble_eq_true rfl) rfl (Nat.le_of_ble_eq_true rfl) ⟨by decide, by decide⟩ (fun k h' hp => ?_) H (fun r h14 hp => ?_)
  · obtain ⟨hv, -⟩ := hp; cases hv
  obtain ⟨rfl, H⟩ := hp
  show am_J l g mX8_init (d + 1) (25, 6566, true) 60 [(0, .ref a0)] [.ref ((h12).length), .ref a0] h14 Q
  obtain ⟨fs, hh, hk, H⟩ := H
  refine J_putF dX8_init_60 fX8_42 rfl rfl rfl rfl hh hk ?_
  generalize List.set h14 a0 (am_O 8 (List.set fs 3 (.ref ((h12).length)))) = h16 at H ⊢
  clear hh hk
  refine J_aload_n dX8_init_63 0 rfl ?_
  refine J_new (ci := 1) (fs := [.null, .null, .null, .null, .null, .null, .null, .int 0, .int 0, .null, .int 0]) dX8_init_64 rfl gwX1 tyX1 tyX1_ok cX8_46 nX1 zX1 (by decide +kernel) rfl ⟨by decide, by decide⟩ ?_
  refine J_dup dX8_init_67 rfl ?_
  refine J_aload_n dX8_init_68 0 rfl ?_
  obtain ⟨fs, v17, hh, hk, H⟩ := H
  refine J_get dX8_init_69 fX8_33 hh hk ?_
  clear hh hk
  refine J_aload_n dX8_init_72 0 rfl ?_
  obtain ⟨fs, v18, hh, hk, H⟩ := H
  refine J_get dX8_init_73 fX8_42 hh hk ?_
  clear hh hk
  refine J_callI (As := [.ref v17, .ref v18]) (S := [.ref ((h16).length), .ref a0]) (b := ((h16).length)) dX8_init_76 mX1_init_ok rfl kX8_48 rfl (by decide) (Nat.le_of_ble_eq_true rfl) rfl (Nat.le_of_ble_eq_true rfl) ⟨by decide, by decide⟩ (fun k h' hp => ?_) H (fun r h19 hp => ?_)
  · obtain ⟨hv, -⟩ := hp; cases hv
  obtain ⟨rfl, H⟩ := hp
  show am_J l g mX8_init (d + 1) (33, 8098, true) 79 [(0, .ref a0)] [.ref ((h16).length), .ref a0] h19 Q
  obtain ⟨fs, hh, hk, H⟩ := H
  refine J_putF dX8_init_79 fX8_51 rfl rfl rfl rfl hh hk ?_
  generalize List.set h19 a0 (am_O 8 (List.set fs 4 (.ref ((h16).length)))) = h21 at H ⊢
  clear hh hk
  refine J_aload_n dX8_init_82 0 rfl ?_
  refine J_new (ci := 7) (fs := [.null, .null, .null, .null, .null, .int 0, .int 0]) dX8_init_83 rfl gwX7 tyX7 tyX7_ok cX8_55 nX7 zX7 (by decide +kernel) rfl ⟨by decide, by decide⟩ ?_
  refine J_dup dX8_init_86 rfl ?_
  refine J_callI (As := []) (S := [.ref ((h21).length), .ref a0]) (b := ((h21).length)) dX8_init_87 mX7_init_ok rfl kX8_57 rfl (by decide) (Nat.le_of_ble_eq_true rfl) rfl (Nat.le_of_ble_eq_true rfl) ⟨by decide, by decide⟩ (fun k h' hp => ?_) H (fun r h22 hp => ?_)
  · obtain ⟨hv, -⟩ := hp; cases hv
  obtain ⟨rfl, H⟩ := hp
  show am_J l g mX8_init (d + 1) (39, 8225, true) 90 [(0, .ref a0)] [.ref ((h21).length), .ref a0] h22 Q
  obtain ⟨fs, hh, hk, H⟩ := H
  refine J_put dX8_init_90 fX8_58 rfl rfl hh hk ?_
  generalize List.set h22 a0 (am_O 8 (List.set fs 5 (.ref ((h21).length)))) = h24 at H ⊢
  clear hh hk
  refine J_aload_n dX8_init_93 0 rfl ?_
  refine J_new (ci := 7) (fs := [.null, .null, .null, .null, .null, .int 0, .int 0]) dX8_init_94 rfl gwX7 tyX7 tyX7_ok cX8_55 nX7 zX7 (by decide +kernel) rfl ⟨by decide, by decide⟩ ?_
  refine J_dup dX8_init_97 rfl ?_
  refine J_callI (As := []) (S := [.ref ((h24).length), .ref a0]) (b := ((h24).length)) dX8_init_98 mX7_init_ok rfl kX8_57 rfl (by decide) (Nat.le_of_ble_eq_true rfl) rfl (Nat.le_of_ble_eq_true rfl) ⟨by decide, by decide⟩ (fun k h' hp => ?_) H (fun r h25 hp => ?_)
  · obtain ⟨hv, -⟩ := hp; cases hv
  obtain ⟨rfl, H⟩ := hp
  show am_J l g mX8_init (d + 1) (45, 8352, true) 101 [(0, .ref a0)] [.ref ((h24).length), .ref a0] h25 Q
  obtain ⟨fs, hh, hk, H⟩ := H
  refine J_put dX8_init_101 fX8_62 rfl rfl hh hk ?_
  generalize List.set h25 a0 (am_O 8 (List.set fs 6 (.ref ((h24).length)))) = h27 at H ⊢
  clear hh hk
  refine J_aload_n dX8_init_104 0 rfl ?_
  refine J_bipush (v := 100) dX8_init_105 (by decide) ?_
  obtain ⟨fs, hh, hk, H⟩ := H
  refine J_put dX8_init_107 fX8_65 rfl rfl hh hk ?_
  generalize List.set h27 a0 (am_O 8 (List.set fs 7 (.int 100))) = h28 at H ⊢
  clear hh hk
  refine J_aload_n dX8_init_110 0 rfl ?_
  refine J_sipush (v := 400) dX8_init_111 (by decide) ?_
  obtain ⟨fs, hh, hk, H⟩ := H
  refine J_put dX8_init_114 fX8_69 rfl rfl hh hk ?_
  generalize List.set h28 a0 (am_O 8 (List.set fs 8 (.int 400))) = h29 at H ⊢
  clear hh hk
  refine J_aload_n dX8_init_117 0 rfl ?_
  refine J_bipush (v := 8) dX8_init_118 (by decide) ?_
  obtain ⟨fs, hh, hk, H⟩ := H
  refine J_put dX8_init_120 fX8_72 rfl rfl hh hk ?_
  generalize List.set h29 a0 (am_O 8 (List.set fs 9 (.int 8))) = h30 at H ⊢
  clear hh hk
  exact J_vret dX8_init_123 rfl ⟨by decide +kernel, by decide +kernel, fun _ => by decide +kernel⟩ H
theorem eX8_init {l : Launch} {g : am_G} {d : Nat} {a0 : Nat} {h : am_H} {K : am_H → Prop} (H : zX8_init_0 l g d a0 h (fun r h' => r = none ∧ K h')) : cl_N l g mX8_init (d + 1) true [.ref a0] h K := rX8_init_0 H
def zX8_feed_0 (l : Launch) (g : am_G) (d : Nat) (x : Bool) (a0 : Nat) (l1 : Int64) (l3 : Int64) (l5 : Int64) (h : am_H) (Q : Option Value → am_H → Prop) : Prop := gt_R h a0 8 0 (fun v1 => cv_N l g mX5_putBytes d x 5 v1 [.long l1] h (fun h2 => gt_R h2 a0 8 0 (fun v4 => cv_N l g mX5_putBytes d x 5 v4 [.long l3] h2 (fun h5 => gt_R h5 a0 8 0 (fun v7 => cv_N l g mX5_putBytes d x 5 v7 [.long l5] h5 (fun h8 => gt_R h8 a0 8 0 (fun v10 => gt_I h8 v10 5 1 (fun v11 => Q (some (.int v11)) h8))))))))
set_option maxRecDepth 4000 in
theorem rX8_feed_0 {l : Launch} {g : am_G} {d : Nat} {x : Bool} {a0 : Nat} {l1 : Int64} {l3 : Int64} {l5 : Int64} {h : am_H} {Q : Option Value → am_H → Prop} (H : zX8_feed_0 l g d x a0 l1 l3 l5 h Q) : am_J l g mX8_feed (d + 1) (0, 0, x) 0 [(0, .ref a0), (1, .long l1), (3, .long l3), (5, .long l5)] [] h Q := by
  unfold zX8_feed_0 at H
  refine J_aload_n dX8_feed_0 0 rfl ?_
  obtain ⟨fs, v1, hh, hk, H⟩ := H
  refine J_get dX8_feed_1 fX8_10 hh hk ?_
  clear hh hk
  refine J_lload_n dX8_feed_4 1 rfl ?_
  obtain ⟨⟨fs, hh⟩, H⟩ := H
  refine J_callV (As := [.long l1]) (S := []) (b := v1) dX8_feed_5 mX5_putBytes_ok kX8_75 rfl (by decide) (Nat.le_of_ble_eq_true rfl) hh rfl rfl (Nat.le_of_ble_eq_true rfl) ⟨Nat.le_of_ble_eq_true rfl, Nat.le_of_ble_eq_true rfl⟩ (fun k h' hp => ?_) H (fun r h2 hp => ?_)
  · obtain ⟨hv, -⟩ := hp; cases hv
  obtain ⟨rfl, H⟩ := hp
  show am_J l g mX8_feed (d + 1) (0, 0, x) 8 [(0, .ref a0), (1, .long l1), (3, .long l3), (5, .long l5)] [] h2 Q
  refine J_aload_n dX8_feed_8 0 rfl ?_
  obtain ⟨fs, v4, hh, hk, H⟩ := H
  refine J_get dX8_feed_9 fX8_10 hh hk ?_
  clear hh hk
  refine J_lload_n dX8_feed_12 2 rfl ?_
  obtain ⟨⟨fs, hh⟩, H⟩ := H
  refine J_callV (As := [.long l3]) (S := []) (b := v4) dX8_feed_13 mX5_putBytes_ok kX8_75 rfl (by decide) (Nat.le_of_ble_eq_true rfl) hh rfl rfl (Nat.le_of_ble_eq_true rfl) ⟨Nat.le_of_ble_eq_true rfl, Nat.le_of_ble_eq_true rfl⟩ (fun k h' hp => ?_) H (fun r h5 hp => ?_)
  · obtain ⟨hv, -⟩ := hp; cases hv
  obtain ⟨rfl, H⟩ := hp
  show am_J l g mX8_feed (d + 1) (0, 0, x) 16 [(0, .ref a0), (1, .long l1), (3, .long l3), (5, .long l5)] [] h5 Q
  refine J_aload_n dX8_feed_16 0 rfl ?_
  obtain ⟨fs, v7, hh, hk, H⟩ := H
  refine J_get dX8_feed_17 fX8_10 hh hk ?_
  clear hh hk
  refine J_lload dX8_feed_20 3 rfl ?_
  obtain ⟨⟨fs, hh⟩, H⟩ := H
  refine J_callV (As := [.long l5]) (S := []) (b := v7) dX8_feed_22 mX5_putBytes_ok kX8_75 rfl (by decide) (Nat.le_of_ble_eq_true rfl) hh rfl rfl (Nat.le_of_ble_eq_true rfl) ⟨Nat.le_of_ble_eq_true rfl, Nat.le_of_ble_eq_true rfl⟩ (fun k h' hp => ?_) H (fun r h8 hp => ?_)
  · obtain ⟨hv, -⟩ := hp; cases hv
  obtain ⟨rfl, H⟩ := hp
  show am_J l g mX8_feed (d + 1) (0, 0, x) 25 [(0, .ref a0), (1, .long l1), (3, .long l3), (5, .long l5)] [] h8 Q
  refine J_aload_n dX8_feed_25 0 rfl ?_
  obtain ⟨fs, v10, hh, hk, H⟩ := H
  refine J_get dX8_feed_26 fX8_10 hh hk ?_
  clear hh hk
  obtain ⟨fs, v11, hh, hk, H⟩ := H
  refine J_get dX8_feed_29 fX8_79 hh hk ?_
  clear hh hk
  exact J_iret dX8_feed_32 ⟨_, rfl, rfl⟩ ⟨Nat.le_of_ble_eq_true rfl, Nat.le_of_ble_eq_true rfl, fun _ => rfl⟩ H
theorem eX8_feed {l : Launch} {g : am_G} {d : Nat} {x : Bool} {a0 : Nat} {l1 : Int64} {l3 : Int64} {l5 : Int64} {h : am_H} {K : Int32 → am_H → Prop} (H : zX8_feed_0 l g d x a0 l1 l3 l5 h (fun r h' => ∃ v, r = some (.int v) ∧ K v h')) : cl_I l g mX8_feed (d + 1) x [.ref a0, .long l1, .long l3, .long l5] h K := rX8_feed_0 H
def zX8_weave_0 (l : Launch) (g : am_G) (d : Nat) (x : Bool) (a0 : Nat) (h : am_H) (Q : Option Value → am_H → Prop) : Prop := gt_R h a0 8 1 (fun v1 => gt_R h a0 8 6 (fun v2 => cv_I l g mX4_read d x 4 v1 [.ref v2] h (fun v4 h3 => gt_R h3 a0 8 0 (fun v5 => cv_N l g mX5_empty d x 5 v5 [] h3 (fun h6 => ((¬ v4 = 0 → Q (some (.int v4)) h6) ∧ (v4 = 0 → gt_R h6 a0 8 5 (fun v8 => gt_R h6 a0 8 6 (fun v9 => pt_V h6 a0 8 5 (.ref v9) (fun h10 => pt_V h10 a0 8 6 (.ref v8) (fun h11 => Q (some (.int v4)) h11)))))))))))
set_option maxRecDepth 4000 in
theorem rX8_weave_0 {l : Launch} {g : am_G} {d : Nat} {x : Bool} {a0 : Nat} {h : am_H} {Q : Option Value → am_H → Prop} (H : zX8_weave_0 l g d x a0 h Q) : am_J l g mX8_weave (d + 1) (0, 0, x) 0 [(0, .ref a0)] [] h Q := by
  unfold zX8_weave_0 at H
  refine J_aload_n dX8_weave_0 0 rfl ?_
  obtain ⟨fs, v1, hh, hk, H⟩ := H
  refine J_get dX8_weave_1 fX8_26 hh hk ?_
  clear hh hk
  refine J_aload_n dX8_weave_4 0 rfl ?_
  obtain ⟨fs, v2, hh, hk, H⟩ := H
  refine J_get dX8_weave_5 fX8_62 hh hk ?_
  clear hh hk
  obtain ⟨⟨fs, hh⟩, H⟩ := H
  refine J_callV (As := [.ref v2]) (S := []) (b := v1) dX8_weave_8 mX4_read_ok kX8_82 rfl (by decide) (Nat.le_of_ble_eq_true rfl) hh rfl rfl (Nat.le_of_ble_eq_true rfl) ⟨Nat.le_of_ble_eq_true rfl, Nat.le_of_ble_eq_true rfl⟩ (fun k h' hp => ?_) H (fun r h3 hp => ?_)
  · obtain ⟨_, hv, -⟩ := hp; cases hv
  obtain ⟨v4, rfl, H⟩ := hp
  show am_J l g mX8_weave (d + 1) (0, 0, x) 11 [(0, .ref a0)] [.int v4] h3 Q
  refine J_istore_n (L' := [(1, .int v4), (0, .ref a0)]) dX8_weave_11 (by decide) rfl ?_
  refine J_aload_n dX8_weave_12 1 rfl ?_
  obtain ⟨fs, v5, hh, hk, H⟩ := H
  refine J_get dX8_weave_13 fX8_10 hh hk ?_
  clear hh hk
  obtain ⟨⟨fs, hh⟩, H⟩ := H
  refine J_callV (As := []) (S := []) (b := v5) dX8_weave_16 mX5_empty_ok kX8_86 rfl (by decide) (Nat.le_of_ble_eq_true rfl) hh rfl rfl (Nat.le_of_ble_eq_true rfl) ⟨Nat.le_of_ble_eq_true rfl, Nat.le_of_ble_eq_true rfl⟩ (fun k h' hp => ?_) H (fun r h6 hp => ?_)
  · obtain ⟨hv, -⟩ := hp; cases hv
  obtain ⟨rfl, H⟩ := hp
  show am_J l g mX8_weave (d + 1) (0, 0, x) 19 [(1, .int v4), (0, .ref a0)] [] h6 Q
  refine J_iload_n dX8_weave_19 0 rfl ?_
  obtain ⟨H1, H2⟩ := H
  refine J_if_ne (tgt := 41) dX8_weave_20 (by decide) (fun hc => ?_) (fun hc => ?_)
  · replace H := H1 hc
    clear H1 H2
    refine J_iload_n dX8_weave_41 0 rfl ?_
    exact J_iret dX8_weave_42 ⟨_, rfl, rfl⟩ ⟨Nat.le_of_ble_eq_true rfl, Nat.le_of_ble_eq_true rfl, fun _ => rfl⟩ H
  · replace H := H2 hc
    clear H1 H2
    refine J_aload_n dX8_weave_23 1 rfl ?_
    obtain ⟨fs, v8, hh, hk, H⟩ := H
    refine J_get dX8_weave_24 fX8_58 hh hk ?_
    clear hh hk
    refine J_astore_n (L' := [(2, .ref v8), (1, .int v4), (0, .ref a0)]) dX8_weave_27 (by decide) rfl ?_
    refine J_aload_n dX8_weave_28 2 rfl ?_
    refine J_aload_n dX8_weave_29 2 rfl ?_
    obtain ⟨fs, v9, hh, hk, H⟩ := H
    refine J_get dX8_weave_30 fX8_62 hh hk ?_
    clear hh hk
    obtain ⟨fs, hh, hk, H⟩ := H
    refine J_put dX8_weave_33 fX8_58 rfl rfl hh hk ?_
    generalize List.set h6 a0 (am_O 8 (List.set fs 5 (.ref v9))) = h10 at H ⊢
    clear hh hk
    refine J_aload_n dX8_weave_36 2 rfl ?_
    refine J_aload_n dX8_weave_37 0 rfl ?_
    obtain ⟨fs, hh, hk, H⟩ := H
    refine J_put dX8_weave_38 fX8_62 rfl rfl hh hk ?_
    generalize List.set h10 a0 (am_O 8 (List.set fs 6 (.ref v8))) = h11 at H ⊢
    clear hh hk
    refine J_iload_n dX8_weave_41 1 rfl ?_
    exact J_iret dX8_weave_42 ⟨_, rfl, rfl⟩ ⟨Nat.le_of_ble_eq_true rfl, Nat.le_of_ble_eq_true rfl, fun _ => rfl⟩ H
theorem eX8_weave {l : Launch} {g : am_G} {d : Nat} {x : Bool} {a0 : Nat} {h : am_H} {K : Int32 → am_H → Prop} (H : zX8_weave_0 l g d x a0 h (fun r h' => ∃ v, r = some (.int v) ∧ K v h')) : cl_I l g mX8_weave (d + 1) x [.ref a0] h K := rX8_weave_0 H
def zX8_lay_0 (l : Launch) (g : am_G) (d : Nat) (x : Bool) (a0 : Nat) (i1 : Int32) (i2 : Int32) (h : am_H) (Q : Option Value → am_H → Prop) : Prop := gt_R h a0 8 5 (fun v1 => gt_I h v1 7 5 (fun v2 => ((v2 = 0 → Q (some (.int (-1))) h) ∧ (¬ v2 = 0 → cs_I l g mX8_isSide d x [.int i1] h (fun v4 h3 => ((v4 = 0 → Q (some (.int (-1))) h3) ∧ (¬ v4 = 0 → cs_I l g mX8_isSide d x [.int i2] h3 (fun v6 h5 => ((¬ v6 = 0 → gt_R h5 a0 8 5 (fun v7 => gt_I h5 v7 7 5 (fun v8 => ((((i1 * i2) * v8) ≤ 240 → gt_R h5 a0 8 2 (fun v9 => gt_R h5 a0 8 5 (fun v10 => cv_N l g mX0_layOut d x 0 v9 [.ref v10, .int i1, .int i2] h5 (fun h11 => gt_R h11 a0 8 2 (fun v13 => gt_I h11 v13 0 7 (fun v14 => Q (some (.int v14)) h11)))))) ∧ (¬ ((i1 * i2) * v8) ≤ 240 → Q (some (.int (-1))) h5))))) ∧ (v6 = 0 → Q (some (.int (-1))) h5))))))))))
set_option maxRecDepth 4000 in
theorem rX8_lay_0 {l : Launch} {g : am_G} {d : Nat} {x : Bool} {a0 : Nat} {i1 : Int32} {i2 : Int32} {h : am_H} {Q : Option Value → am_H → Prop} (H : zX8_lay_0 l g d x a0 i1 i2 h Q) : am_J l g mX8_lay (d + 1) (0, 0, x) 0 [(0, .ref a0), (1, .int i1), (2, .int i2)] [] h Q := by
  unfold zX8_lay_0 at H
  refine J_aload_n dX8_lay_0 0 rfl ?_
  obtain ⟨fs, v1, hh, hk, H⟩ := H
  refine J_get dX8_lay_1 fX8_58 hh hk ?_
  clear hh hk
  obtain ⟨fs, v2, hh, hk, H⟩ := H
  refine J_get dX8_lay_4 fX8_89 hh hk ?_
  clear hh hk
  obtain ⟨H1, H2⟩ := H
  refine J_if_eq (tgt := 24) dX8_lay_7 (by decide) (fun hc => ?_) (fun hc => ?_)
  · replace H := H1 hc
    clear H1 H2
    refine J_iconst (v := (-1)) dX8_lay_24 (by decide) ?_
    exact J_iret dX8_lay_25 ⟨_, rfl, rfl⟩ ⟨Nat.le_of_ble_eq_true rfl, Nat.le_of_ble_eq_true rfl, fun _ => rfl⟩ H
  · replace H := H2 hc
    clear H1 H2
    refine J_iload_n dX8_lay_10 1 rfl ?_
    refine J_callS (As := [.int i1]) (S := []) dX8_lay_11 mX8_isSide_ok kX8_92 rfl (by decide) (Nat.le_of_ble_eq_true rfl) rfl (Nat.le_of_ble_eq_true rfl) ⟨Nat.le_of_ble_eq_true rfl, Nat.le_of_ble_eq_true rfl⟩ (fun k h' hp => ?_) H (fun r h3 hp => ?_)
    · obtain ⟨_, hv, -⟩ := hp; cases hv
    obtain ⟨v4, rfl, H⟩ := hp
    show am_J l g mX8_lay (d + 1) (0, 0, x) 14 [(0, .ref a0), (1, .int i1), (2, .int i2)] [.int v4] h3 Q
    obtain ⟨H1, H2⟩ := H
    refine J_if_eq (tgt := 24) dX8_lay_14 (by decide) (fun hc => ?_) (fun hc => ?_)
    · replace H := H1 hc
      clear H1 H2
      refine J_iconst (v := (-1)) dX8_lay_24 (by decide) ?_
      exact J_iret dX8_lay_25 ⟨_, rfl, rfl⟩ ⟨Nat.le_of_ble_eq_true rfl, Nat.le_of_ble_eq_true rfl, fun _ => rfl⟩ H
    · replace H := H2 hc
      clear H1 H2
      refine J_iload_n dX8_lay_17 2 rfl ?_
      refine J_callS (As := [.int i2]) (S := []) dX8_lay_18 mX8_isSide_ok kX8_92 rfl (by decide) (Nat.le_of_ble_eq_true rfl) rfl (Nat.le_of_ble_eq_true rfl) ⟨Nat.le_of_ble_eq_true rfl, Nat.le_of_ble_eq_true rfl⟩ (fun k h' hp => ?_) H (fun r h5 hp => ?_)
      · obtain ⟨_, hv, -⟩ := hp; cases hv
      obtain ⟨v6, rfl, H⟩ := hp
      show am_J l g mX8_lay (d + 1) (0, 0, x) 21 [(0, .ref a0), (1, .int i1), (2, .int i2)] [.int v6] h5 Q
      obtain ⟨H1, H2⟩ := H
      refine J_if_ne (tgt := 26) dX8_lay_21 (by decide) (fun hc => ?_) (fun hc => ?_)
      · replace H := H1 hc
        clear H1 H2
        refine J_iload_n dX8_lay_26 1 rfl ?_
        refine J_iload_n dX8_lay_27 2 rfl ?_
        refine J_imul dX8_lay_28 ?_
        refine J_aload_n dX8_lay_29 0 rfl ?_
        obtain ⟨fs, v7, hh, hk, H⟩ := H
        refine J_get dX8_lay_30 fX8_58 hh hk ?_
        clear hh hk
        obtain ⟨fs, v8, hh, hk, H⟩ := H
        refine J_get dX8_lay_33 fX8_89 hh hk ?_
        clear hh hk
        refine J_imul dX8_lay_36 ?_
        refine J_sipush (v := 240) dX8_lay_37 (by decide) ?_
        obtain ⟨H1, H2⟩ := H
        refine J_icmp_le (tgt := 45) dX8_lay_40 (by decide) (fun hc => ?_) (fun hc => ?_)
        · replace H := H1 hc
          clear H1 H2
          refine J_aload_n dX8_lay_45 0 rfl ?_
          obtain ⟨fs, v9, hh, hk, H⟩ := H
          refine J_get dX8_lay_46 fX8_33 hh hk ?_
          clear hh hk
          refine J_aload_n dX8_lay_49 0 rfl ?_
          obtain ⟨fs, v10, hh, hk, H⟩ := H
          refine J_get dX8_lay_50 fX8_58 hh hk ?_
          clear hh hk
          refine J_iload_n dX8_lay_53 1 rfl ?_
          refine J_iload_n dX8_lay_54 2 rfl ?_
          obtain ⟨⟨fs, hh⟩, H⟩ := H
          refine J_callV (As := [.ref v10, .int i1, .int i2]) (S := []) (b := v9) dX8_lay_55 mX0_layOut_ok kX8_96 rfl (by decide) (Nat.le_of_ble_eq_true rfl) hh rfl rfl (Nat.le_of_ble_eq_true rfl) ⟨Nat.le_of_ble_eq_true rfl, Nat.le_of_ble_eq_true rfl⟩ (fun k h' hp => ?_) H (fun r h11 hp => ?_)
          · obtain ⟨hv, -⟩ := hp; cases hv
          obtain ⟨rfl, H⟩ := hp
          show am_J l g mX8_lay (d + 1) (0, 0, x) 58 [(0, .ref a0), (1, .int i1), (2, .int i2)] [] h11 Q
          refine J_aload_n dX8_lay_58 0 rfl ?_
          obtain ⟨fs, v13, hh, hk, H⟩ := H
          refine J_get dX8_lay_59 fX8_33 hh hk ?_
          clear hh hk
          obtain ⟨fs, v14, hh, hk, H⟩ := H
          refine J_get dX8_lay_62 fX8_100 hh hk ?_
          clear hh hk
          exact J_iret dX8_lay_65 ⟨_, rfl, rfl⟩ ⟨Nat.le_of_ble_eq_true rfl, Nat.le_of_ble_eq_true rfl, fun _ => rfl⟩ H
        · replace H := H2 hc
          clear H1 H2
          refine J_iconst (v := (-1)) dX8_lay_43 (by decide) ?_
          exact J_iret dX8_lay_44 ⟨_, rfl, rfl⟩ ⟨Nat.le_of_ble_eq_true rfl, Nat.le_of_ble_eq_true rfl, fun _ => rfl⟩ H
      · replace H := H2 hc
        clear H1 H2
        refine J_iconst (v := (-1)) dX8_lay_24 (by decide) ?_
        exact J_iret dX8_lay_25 ⟨_, rfl, rfl⟩ ⟨Nat.le_of_ble_eq_true rfl, Nat.le_of_ble_eq_true rfl, fun _ => rfl⟩ H
theorem eX8_lay {l : Launch} {g : am_G} {d : Nat} {x : Bool} {a0 : Nat} {i1 : Int32} {i2 : Int32} {h : am_H} {K : Int32 → am_H → Prop} (H : zX8_lay_0 l g d x a0 i1 i2 h (fun r h' => ∃ v, r = some (.int v) ∧ K v h')) : cl_I l g mX8_lay (d + 1) x [.ref a0, .int i1, .int i2] h K := rX8_lay_0 H
def zX8_at_0 (l : Launch) (g : am_G) (d : Nat) (x : Bool) (a0 : Nat) (i1 : Int32) (i2 : Int32) (i3 : Int32) (h : am_H) (Q : Option Value → am_H → Prop) : Prop := gt_R h a0 8 2 (fun v1 => cv_I l g mX0_ringOfCell d x 0 v1 [.int i1, .int i2, .int i3] h (fun v3 h2 => Q (some (.int v3)) h2))
set_option maxRecDepth 4000 in
theorem rX8_at_0 {l : Launch} {g : am_G} {d : Nat} {x : Bool} {a0 : Nat} {i1 : Int32} {i2 : Int32} {i3 : Int32} {h : am_H} {Q : Option Value → am_H → Prop} (H : zX8_at_0 l g d x a0 i1 i2 i3 h Q) : am_J l g mX8_at (d + 1) (0, 0, x) 0 [(0, .ref a0), (1, .int i1), (2, .int i2), (3, .int i3)] [] h Q := by
  unfold zX8_at_0 at H
  refine J_aload_n dX8_at_0 0 rfl ?_
  obtain ⟨fs, v1, hh, hk, H⟩ := H
  refine J_get dX8_at_1 fX8_33 hh hk ?_
  clear hh hk
  refine J_iload_n dX8_at_4 1 rfl ?_
  refine J_iload_n dX8_at_5 2 rfl ?_
  refine J_iload_n dX8_at_6 3 rfl ?_
  obtain ⟨⟨fs, hh⟩, H⟩ := H
  refine J_callV (As := [.int i1, .int i2, .int i3]) (S := []) (b := v1) dX8_at_7 mX0_ringOfCell_ok kX8_103 rfl (by decide) (Nat.le_of_ble_eq_true rfl) hh rfl rfl (Nat.le_of_ble_eq_true rfl) ⟨Nat.le_of_ble_eq_true rfl, Nat.le_of_ble_eq_true rfl⟩ (fun k h' hp => ?_) H (fun r h2 hp => ?_)
  · obtain ⟨_, hv, -⟩ := hp; cases hv
  obtain ⟨v3, rfl, H⟩ := hp
  show am_J l g mX8_at (d + 1) (0, 0, x) 10 [(0, .ref a0), (1, .int i1), (2, .int i2), (3, .int i3)] [.int v3] h2 Q
  exact J_iret dX8_at_10 ⟨_, rfl, rfl⟩ ⟨Nat.le_of_ble_eq_true rfl, Nat.le_of_ble_eq_true rfl, fun _ => rfl⟩ H
theorem eX8_at {l : Launch} {g : am_G} {d : Nat} {x : Bool} {a0 : Nat} {i1 : Int32} {i2 : Int32} {i3 : Int32} {h : am_H} {K : Int32 → am_H → Prop} (H : zX8_at_0 l g d x a0 i1 i2 i3 h (fun r h' => ∃ v, r = some (.int v) ∧ K v h')) : cl_I l g mX8_at (d + 1) x [.ref a0, .int i1, .int i2, .int i3] h K := rX8_at_0 H
def zX8_add_0 (l : Launch) (g : am_G) (d : Nat) (x : Bool) (a0 : Nat) (h : am_H) (Q : Option Value → am_H → Prop) : Prop := gt_R h a0 8 2 (fun v1 => cv_I l g mX0_putIn d x 0 v1 [] h (fun v3 h2 => Q (some (.int v3)) h2))
set_option maxRecDepth 4000 in
theorem rX8_add_0 {l : Launch} {g : am_G} {d : Nat} {x : Bool} {a0 : Nat} {h : am_H} {Q : Option Value → am_H → Prop} (H : zX8_add_0 l g d x a0 h Q) : am_J l g mX8_add (d + 1) (0, 0, x) 0 [(0, .ref a0)] [] h Q := by
  unfold zX8_add_0 at H
  refine J_aload_n dX8_add_0 0 rfl ?_
  obtain ⟨fs, v1, hh, hk, H⟩ := H
  refine J_get dX8_add_1 fX8_33 hh hk ?_
  clear hh hk
  obtain ⟨⟨fs, hh⟩, H⟩ := H
  refine J_callV (As := []) (S := []) (b := v1) dX8_add_4 mX0_putIn_ok kX8_107 rfl (by decide) (Nat.le_of_ble_eq_true rfl) hh rfl rfl (Nat.le_of_ble_eq_true rfl) ⟨Nat.le_of_ble_eq_true rfl, Nat.le_of_ble_eq_true rfl⟩ (fun k h' hp => ?_) H (fun r h2 hp => ?_)
  · obtain ⟨_, hv, -⟩ := hp; cases hv
  obtain ⟨v3, rfl, H⟩ := hp
  show am_J l g mX8_add (d + 1) (0, 0, x) 7 [(0, .ref a0)] [.int v3] h2 Q
  exact J_iret dX8_add_7 ⟨_, rfl, rfl⟩ ⟨Nat.le_of_ble_eq_true rfl, Nat.le_of_ble_eq_true rfl, fun _ => rfl⟩ H
theorem eX8_add {l : Launch} {g : am_G} {d : Nat} {x : Bool} {a0 : Nat} {h : am_H} {K : Int32 → am_H → Prop} (H : zX8_add_0 l g d x a0 h (fun r h' => ∃ v, r = some (.int v) ∧ K v h')) : cl_I l g mX8_add (d + 1) x [.ref a0] h K := rX8_add_0 H
def zX8_take_0 (l : Launch) (g : am_G) (d : Nat) (x : Bool) (a0 : Nat) (i1 : Int32) (h : am_H) (Q : Option Value → am_H → Prop) : Prop := gt_R h a0 8 2 (fun v1 => cv_I l g mX0_isThere d x 0 v1 [.int i1] h (fun v3 h2 => ((v3 = 0 → Q (some (.int (-1))) h2) ∧ (¬ v3 = 0 → gt_R h2 a0 8 2 (fun v4 => cv_I l g mX0_takeAway d x 0 v4 [.int i1] h2 (fun v6 h5 => Q (some (.int v6)) h5))))))
set_option maxRecDepth 4000 in
theorem rX8_take_0 {l : Launch} {g : am_G} {d : Nat} {x : Bool} {a0 : Nat} {i1 : Int32} {h : am_H} {Q : Option Value → am_H → Prop} (H : zX8_take_0 l g d x a0 i1 h Q) : am_J l g mX8_take (d + 1) (0, 0, x) 0 [(0, .ref a0), (1, .int i1)] [] h Q := by
  unfold zX8_take_0 at H
  refine J_aload_n dX8_take_0 0 rfl ?_
  obtain ⟨fs, v1, hh, hk, H⟩ := H
  refine J_get dX8_take_1 fX8_33 hh hk ?_
  clear hh hk
  refine J_iload_n dX8_take_4 1 rfl ?_
  obtain ⟨⟨fs, hh⟩, H⟩ := H
  refine J_callV (As := [.int i1]) (S := []) (b := v1) dX8_take_5 mX0_isThere_ok kX8_111 rfl (by decide) (Nat.le_of_ble_eq_true rfl) hh rfl rfl (Nat.le_of_ble_eq_true rfl) ⟨Nat.le_of_ble_eq_true rfl, Nat.le_of_ble_eq_true rfl⟩ (fun k h' hp => ?_) H (fun r h2 hp => ?_)
  · obtain ⟨_, hv, -⟩ := hp; cases hv
  obtain ⟨v3, rfl, H⟩ := hp
  show am_J l g mX8_take (d + 1) (0, 0, x) 8 [(0, .ref a0), (1, .int i1)] [.int v3] h2 Q
  obtain ⟨H1, H2⟩ := H
  refine J_if_eq (tgt := 22) dX8_take_8 (by decide) (fun hc => ?_) (fun hc => ?_)
  · replace H := H1 hc
    clear H1 H2
    refine J_iconst (v := (-1)) dX8_take_22 (by decide) ?_
    exact J_iret dX8_take_23 ⟨_, rfl, rfl⟩ ⟨Nat.le_of_ble_eq_true rfl, Nat.le_of_ble_eq_true rfl, fun _ => rfl⟩ H
  · replace H := H2 hc
    clear H1 H2
    refine J_aload_n dX8_take_11 0 rfl ?_
    obtain ⟨fs, v4, hh, hk, H⟩ := H
    refine J_get dX8_take_12 fX8_33 hh hk ?_
    clear hh hk
    refine J_iload_n dX8_take_15 1 rfl ?_
    obtain ⟨⟨fs, hh⟩, H⟩ := H
    refine J_callV (As := [.int i1]) (S := []) (b := v4) dX8_take_16 mX0_takeAway_ok kX8_114 rfl (by decide) (Nat.le_of_ble_eq_true rfl) hh rfl rfl (Nat.le_of_ble_eq_true rfl) ⟨Nat.le_of_ble_eq_true rfl, Nat.le_of_ble_eq_true rfl⟩ (fun k h' hp => ?_) H (fun r h5 hp => ?_)
    · obtain ⟨_, hv, -⟩ := hp; cases hv
    obtain ⟨v6, rfl, H⟩ := hp
    show am_J l g mX8_take (d + 1) (0, 0, x) 19 [(0, .ref a0), (1, .int i1)] [.int v6] h5 Q
    refine J_goto (tgt := 23) dX8_take_19 (by decide) ?_
    exact J_iret dX8_take_23 ⟨_, rfl, rfl⟩ ⟨Nat.le_of_ble_eq_true rfl, Nat.le_of_ble_eq_true rfl, fun _ => rfl⟩ H
theorem eX8_take {l : Launch} {g : am_G} {d : Nat} {x : Bool} {a0 : Nat} {i1 : Int32} {h : am_H} {K : Int32 → am_H → Prop} (H : zX8_take_0 l g d x a0 i1 h (fun r h' => ∃ v, r = some (.int v) ∧ K v h')) : cl_I l g mX8_take (d + 1) x [.ref a0, .int i1] h K := rX8_take_0 H
def zX8_link_0 (l : Launch) (g : am_G) (d : Nat) (x : Bool) (a0 : Nat) (i1 : Int32) (i2 : Int32) (h : am_H) (Q : Option Value → am_H → Prop) : Prop := ((i1 = i2 → Q (some (.int 0)) h) ∧ (¬ i1 = i2 → gt_R h a0 8 2 (fun v1 => cv_I l g mX0_isThere d x 0 v1 [.int i1] h (fun v3 h2 => ((v3 = 0 → Q (some (.int 0)) h2) ∧ (¬ v3 = 0 → gt_R h2 a0 8 2 (fun v4 => cv_I l g mX0_isThere d x 0 v4 [.int i2] h2 (fun v6 h5 => ((v6 = 0 → Q (some (.int 0)) h5) ∧ (¬ v6 = 0 → gt_R h5 a0 8 2 (fun v7 => cv_I l g mX0_areLinked d x 0 v7 [.int i1, .int i2] h5 (fun v9 h8 => ((v9 = 0 → gt_R h8 a0 8 2 (fun v10 => cv_N l g mX0_join d x 0 v10 [.int i1, .int i2] h8 (fun h11 => Q (some (.int 1)) h11))) ∧ (¬ v9 = 0 → Q (some (.int 0)) h8))))))))))))))
set_option maxRecDepth 4000 in
theorem rX8_link_0 {l : Launch} {g : am_G} {d : Nat} {x : Bool} {a0 : Nat} {i1 : Int32} {i2 : Int32} {h : am_H} {Q : Option Value → am_H → Prop} (H : zX8_link_0 l g d x a0 i1 i2 h Q) : am_J l g mX8_link (d + 1) (0, 0, x) 0 [(0, .ref a0), (1, .int i1), (2, .int i2)] [] h Q := by
  unfold zX8_link_0 at H
  refine J_iload_n dX8_link_0 1 rfl ?_
  refine J_iload_n dX8_link_1 2 rfl ?_
  obtain ⟨H1, H2⟩ := H
  refine J_icmp_eq (tgt := 39) dX8_link_2 (by decide) (fun hc => ?_) (fun hc => ?_)
  · replace H := H1 hc
    clear H1 H2
    refine J_iconst (v := 0) dX8_link_39 (by decide) ?_
    exact J_iret dX8_link_40 ⟨_, rfl, rfl⟩ ⟨Nat.le_of_ble_eq_true rfl, Nat.le_of_ble_eq_true rfl, fun _ => rfl⟩ H
  · replace H := H2 hc
    clear H1 H2
    refine J_aload_n dX8_link_5 0 rfl ?_
    obtain ⟨fs, v1, hh, hk, H⟩ := H
    refine J_get dX8_link_6 fX8_33 hh hk ?_
    clear hh hk
    refine J_iload_n dX8_link_9 1 rfl ?_
    obtain ⟨⟨fs, hh⟩, H⟩ := H
    refine J_callV (As := [.int i1]) (S := []) (b := v1) dX8_link_10 mX0_isThere_ok kX8_111 rfl (by decide) (Nat.le_of_ble_eq_true rfl) hh rfl rfl (Nat.le_of_ble_eq_true rfl) ⟨Nat.le_of_ble_eq_true rfl, Nat.le_of_ble_eq_true rfl⟩ (fun k h' hp => ?_) H (fun r h2 hp => ?_)
    · obtain ⟨_, hv, -⟩ := hp; cases hv
    obtain ⟨v3, rfl, H⟩ := hp
    show am_J l g mX8_link (d + 1) (0, 0, x) 13 [(0, .ref a0), (1, .int i1), (2, .int i2)] [.int v3] h2 Q
    obtain ⟨H1, H2⟩ := H
    refine J_if_eq (tgt := 39) dX8_link_13 (by decide) (fun hc => ?_) (fun hc => ?_)
    · replace H := H1 hc
      clear H1 H2
      refine J_iconst (v := 0) dX8_link_39 (by decide) ?_
      exact J_iret dX8_link_40 ⟨_, rfl, rfl⟩ ⟨Nat.le_of_ble_eq_true rfl, Nat.le_of_ble_eq_true rfl, fun _ => rfl⟩ H
    · replace H := H2 hc
      clear H1 H2
      refine J_aload_n dX8_link_16 0 rfl ?_
      obtain ⟨fs, v4, hh, hk, H⟩ := H
      refine J_get dX8_link_17 fX8_33 hh hk ?_
      clear hh hk
      refine J_iload_n dX8_link_20 2 rfl ?_
      obtain ⟨⟨fs, hh⟩, H⟩ := H
      refine J_callV (As := [.int i2]) (S := []) (b := v4) dX8_link_21 mX0_isThere_ok kX8_111 rfl (by decide) (Nat.le_of_ble_eq_true rfl) hh rfl rfl (Nat.le_of_ble_eq_true rfl) ⟨Nat.le_of_ble_eq_true rfl, Nat.le_of_ble_eq_true rfl⟩ (fun k h' hp => ?_) H (fun r h5 hp => ?_)
      · obtain ⟨_, hv, -⟩ := hp; cases hv
      obtain ⟨v6, rfl, H⟩ := hp
      show am_J l g mX8_link (d + 1) (0, 0, x) 24 [(0, .ref a0), (1, .int i1), (2, .int i2)] [.int v6] h5 Q
      obtain ⟨H1, H2⟩ := H
      refine J_if_eq (tgt := 39) dX8_link_24 (by decide) (fun hc => ?_) (fun hc => ?_)
      · replace H := H1 hc
        clear H1 H2
        refine J_iconst (v := 0) dX8_link_39 (by decide) ?_
        exact J_iret dX8_link_40 ⟨_, rfl, rfl⟩ ⟨Nat.le_of_ble_eq_true rfl, Nat.le_of_ble_eq_true rfl, fun _ => rfl⟩ H
      · replace H := H2 hc
        clear H1 H2
        refine J_aload_n dX8_link_27 0 rfl ?_
        obtain ⟨fs, v7, hh, hk, H⟩ := H
        refine J_get dX8_link_28 fX8_33 hh hk ?_
        clear hh hk
        refine J_iload_n dX8_link_31 1 rfl ?_
        refine J_iload_n dX8_link_32 2 rfl ?_
        obtain ⟨⟨fs, hh⟩, H⟩ := H
        refine J_callV (As := [.int i1, .int i2]) (S := []) (b := v7) dX8_link_33 mX0_areLinked_ok kX8_118 rfl (by decide) (Nat.le_of_ble_eq_true rfl) hh rfl rfl (Nat.le_of_ble_eq_true rfl) ⟨Nat.le_of_ble_eq_true rfl, Nat.le_of_ble_eq_true rfl⟩ (fun k h' hp => ?_) H (fun r h8 hp => ?_)
        · obtain ⟨_, hv, -⟩ := hp; cases hv
        obtain ⟨v9, rfl, H⟩ := hp
        show am_J l g mX8_link (d + 1) (0, 0, x) 36 [(0, .ref a0), (1, .int i1), (2, .int i2)] [.int v9] h8 Q
        obtain ⟨H1, H2⟩ := H
        refine J_if_eq (tgt := 41) dX8_link_36 (by decide) (fun hc => ?_) (fun hc => ?_)
        · replace H := H1 hc
          clear H1 H2
          refine J_aload_n dX8_link_41 0 rfl ?_
          obtain ⟨fs, v10, hh, hk, H⟩ := H
          refine J_get dX8_link_42 fX8_33 hh hk ?_
          clear hh hk
          refine J_iload_n dX8_link_45 1 rfl ?_
          refine J_iload_n dX8_link_46 2 rfl ?_
          obtain ⟨⟨fs, hh⟩, H⟩ := H
          refine J_callV (As := [.int i1, .int i2]) (S := []) (b := v10) dX8_link_47 mX0_join_ok kX8_122 rfl (by decide) (Nat.le_of_ble_eq_true rfl) hh rfl rfl (Nat.le_of_ble_eq_true rfl) ⟨Nat.le_of_ble_eq_true rfl, Nat.le_of_ble_eq_true rfl⟩ (fun k h' hp => ?_) H (fun r h11 hp => ?_)
          · obtain ⟨hv, -⟩ := hp; cases hv
          obtain ⟨rfl, H⟩ := hp
          show am_J l g mX8_link (d + 1) (0, 0, x) 50 [(0, .ref a0), (1, .int i1), (2, .int i2)] [] h11 Q
          refine J_iconst (v := 1) dX8_link_50 (by decide) ?_
          exact J_iret dX8_link_51 ⟨_, rfl, rfl⟩ ⟨Nat.le_of_ble_eq_true rfl, Nat.le_of_ble_eq_true rfl, fun _ => rfl⟩ H
        · replace H := H2 hc
          clear H1 H2
          refine J_iconst (v := 0) dX8_link_39 (by decide) ?_
          exact J_iret dX8_link_40 ⟨_, rfl, rfl⟩ ⟨Nat.le_of_ble_eq_true rfl, Nat.le_of_ble_eq_true rfl, fun _ => rfl⟩ H
theorem eX8_link {l : Launch} {g : am_G} {d : Nat} {x : Bool} {a0 : Nat} {i1 : Int32} {i2 : Int32} {h : am_H} {K : Int32 → am_H → Prop} (H : zX8_link_0 l g d x a0 i1 i2 h (fun r h' => ∃ v, r = some (.int v) ∧ K v h')) : cl_I l g mX8_link (d + 1) x [.ref a0, .int i1, .int i2] h K := rX8_link_0 H
def zX8_unlink_0 (l : Launch) (g : am_G) (d : Nat) (x : Bool) (a0 : Nat) (i1 : Int32) (i2 : Int32) (h : am_H) (Q : Option Value → am_H → Prop) : Prop := gt_R h a0 8 2 (fun v1 => cv_I l g mX0_isThere d x 0 v1 [.int i1] h (fun v3 h2 => ((v3 = 0 → Q (some (.int 0)) h2) ∧ (¬ v3 = 0 → gt_R h2 a0 8 2 (fun v4 => cv_I l g mX0_isThere d x 0 v4 [.int i2] h2 (fun v6 h5 => ((v6 = 0 → Q (some (.int 0)) h5) ∧ (¬ v6 = 0 → gt_R h5 a0 8 2 (fun v7 => cv_I l g mX0_areLinked d x 0 v7 [.int i1, .int i2] h5 (fun v9 h8 => ((¬ v9 = 0 → gt_R h8 a0 8 2 (fun v10 => cv_N l g mX0_part d x 0 v10 [.int i1, .int i2] h8 (fun h11 => Q (some (.int 1)) h11))) ∧ (v9 = 0 → Q (some (.int 0)) h8))))))))))))
set_option maxRecDepth 4000 in
theorem rX8_unlink_0 {l : Launch} {g : am_G} {d : Nat} {x : Bool} {a0 : Nat} {i1 : Int32} {i2 : Int32} {h : am_H} {Q : Option Value → am_H → Prop} (H : zX8_unlink_0 l g d x a0 i1 i2 h Q) : am_J l g mX8_unlink (d + 1) (0, 0, x) 0 [(0, .ref a0), (1, .int i1), (2, .int i2)] [] h Q := by
  unfold zX8_unlink_0 at H
  refine J_aload_n dX8_unlink_0 0 rfl ?_
  obtain ⟨fs, v1, hh, hk, H⟩ := H
  refine J_get dX8_unlink_1 fX8_33 hh hk ?_
  clear hh hk
  refine J_iload_n dX8_unlink_4 1 rfl ?_
  obtain ⟨⟨fs, hh⟩, H⟩ := H
  refine J_callV (As := [.int i1]) (S := []) (b := v1) dX8_unlink_5 mX0_isThere_ok kX8_111 rfl (by decide) (Nat.le_of_ble_eq_true rfl) hh rfl rfl (Nat.le_of_ble_eq_true rfl) ⟨Nat.le_of_ble_eq_true rfl, Nat.le_of_ble_eq_true rfl⟩ (fun k h' hp => ?_) H (fun r h2 hp => ?_)
  · obtain ⟨_, hv, -⟩ := hp; cases hv
  obtain ⟨v3, rfl, H⟩ := hp
  show am_J l g mX8_unlink (d + 1) (0, 0, x) 8 [(0, .ref a0), (1, .int i1), (2, .int i2)] [.int v3] h2 Q
  obtain ⟨H1, H2⟩ := H
  refine J_if_eq (tgt := 34) dX8_unlink_8 (by decide) (fun hc => ?_) (fun hc => ?_)
  · replace H := H1 hc
    clear H1 H2
    refine J_iconst (v := 0) dX8_unlink_34 (by decide) ?_
    exact J_iret dX8_unlink_35 ⟨_, rfl, rfl⟩ ⟨Nat.le_of_ble_eq_true rfl, Nat.le_of_ble_eq_true rfl, fun _ => rfl⟩ H
  · replace H := H2 hc
    clear H1 H2
    refine J_aload_n dX8_unlink_11 0 rfl ?_
    obtain ⟨fs, v4, hh, hk, H⟩ := H
    refine J_get dX8_unlink_12 fX8_33 hh hk ?_
    clear hh hk
    refine J_iload_n dX8_unlink_15 2 rfl ?_
    obtain ⟨⟨fs, hh⟩, H⟩ := H
    refine J_callV (As := [.int i2]) (S := []) (b := v4) dX8_unlink_16 mX0_isThere_ok kX8_111 rfl (by decide) (Nat.le_of_ble_eq_true rfl) hh rfl rfl (Nat.le_of_ble_eq_true rfl) ⟨Nat.le_of_ble_eq_true rfl, Nat.le_of_ble_eq_true rfl⟩ (fun k h' hp => ?_) H (fun r h5 hp => ?_)
    · obtain ⟨_, hv, -⟩ := hp; cases hv
    obtain ⟨v6, rfl, H⟩ := hp
    show am_J l g mX8_unlink (d + 1) (0, 0, x) 19 [(0, .ref a0), (1, .int i1), (2, .int i2)] [.int v6] h5 Q
    obtain ⟨H1, H2⟩ := H
    refine J_if_eq (tgt := 34) dX8_unlink_19 (by decide) (fun hc => ?_) (fun hc => ?_)
    · replace H := H1 hc
      clear H1 H2
      refine J_iconst (v := 0) dX8_unlink_34 (by decide) ?_
      exact J_iret dX8_unlink_35 ⟨_, rfl, rfl⟩ ⟨Nat.le_of_ble_eq_true rfl, Nat.le_of_ble_eq_true rfl, fun _ => rfl⟩ H
    · replace H := H2 hc
      clear H1 H2
      refine J_aload_n dX8_unlink_22 0 rfl ?_
      obtain ⟨fs, v7, hh, hk, H⟩ := H
      refine J_get dX8_unlink_23 fX8_33 hh hk ?_
      clear hh hk
      refine J_iload_n dX8_unlink_26 1 rfl ?_
      refine J_iload_n dX8_unlink_27 2 rfl ?_
      obtain ⟨⟨fs, hh⟩, H⟩ := H
      refine J_callV (As := [.int i1, .int i2]) (S := []) (b := v7) dX8_unlink_28 mX0_areLinked_ok kX8_118 rfl (by decide) (Nat.le_of_ble_eq_true rfl) hh rfl rfl (Nat.le_of_ble_eq_true rfl) ⟨Nat.le_of_ble_eq_true rfl, Nat.le_of_ble_eq_true rfl⟩ (fun k h' hp => ?_) H (fun r h8 hp => ?_)
      · obtain ⟨_, hv, -⟩ := hp; cases hv
      obtain ⟨v9, rfl, H⟩ := hp
      show am_J l g mX8_unlink (d + 1) (0, 0, x) 31 [(0, .ref a0), (1, .int i1), (2, .int i2)] [.int v9] h8 Q
      obtain ⟨H1, H2⟩ := H
      refine J_if_ne (tgt := 36) dX8_unlink_31 (by decide) (fun hc => ?_) (fun hc => ?_)
      · replace H := H1 hc
        clear H1 H2
        refine J_aload_n dX8_unlink_36 0 rfl ?_
        obtain ⟨fs, v10, hh, hk, H⟩ := H
        refine J_get dX8_unlink_37 fX8_33 hh hk ?_
        clear hh hk
        refine J_iload_n dX8_unlink_40 1 rfl ?_
        refine J_iload_n dX8_unlink_41 2 rfl ?_
        obtain ⟨⟨fs, hh⟩, H⟩ := H
        refine J_callV (As := [.int i1, .int i2]) (S := []) (b := v10) dX8_unlink_42 mX0_part_ok kX8_126 rfl (by decide) (Nat.le_of_ble_eq_true rfl) hh rfl rfl (Nat.le_of_ble_eq_true rfl) ⟨Nat.le_of_ble_eq_true rfl, Nat.le_of_ble_eq_true rfl⟩ (fun k h' hp => ?_) H (fun r h11 hp => ?_)
        · obtain ⟨hv, -⟩ := hp; cases hv
        obtain ⟨rfl, H⟩ := hp
        show am_J l g mX8_unlink (d + 1) (0, 0, x) 45 [(0, .ref a0), (1, .int i1), (2, .int i2)] [] h11 Q
        refine J_iconst (v := 1) dX8_unlink_45 (by decide) ?_
        exact J_iret dX8_unlink_46 ⟨_, rfl, rfl⟩ ⟨Nat.le_of_ble_eq_true rfl, Nat.le_of_ble_eq_true rfl, fun _ => rfl⟩ H
      · replace H := H2 hc
        clear H1 H2
        refine J_iconst (v := 0) dX8_unlink_34 (by decide) ?_
        exact J_iret dX8_unlink_35 ⟨_, rfl, rfl⟩ ⟨Nat.le_of_ble_eq_true rfl, Nat.le_of_ble_eq_true rfl, fun _ => rfl⟩ H
theorem eX8_unlink {l : Launch} {g : am_G} {d : Nat} {x : Bool} {a0 : Nat} {i1 : Int32} {i2 : Int32} {h : am_H} {K : Int32 → am_H → Prop} (H : zX8_unlink_0 l g d x a0 i1 i2 h (fun r h' => ∃ v, r = some (.int v) ∧ K v h')) : cl_I l g mX8_unlink (d + 1) x [.ref a0, .int i1, .int i2] h K := rX8_unlink_0 H
def zX8_mend_0 (l : Launch) (g : am_G) (d : Nat) (x : Bool) (a0 : Nat) (h : am_H) (Q : Option Value → am_H → Prop) : Prop := gt_R h a0 8 2 (fun v1 => cv_I l g mX0_mendWorn d x 0 v1 [] h (fun v3 h2 => Q (some (.int v3)) h2))
set_option maxRecDepth 4000 in
theorem rX8_mend_0 {l : Launch} {g : am_G} {d : Nat} {x : Bool} {a0 : Nat} {h : am_H} {Q : Option Value → am_H → Prop} (H : zX8_mend_0 l g d x a0 h Q) : am_J l g mX8_mend (d + 1) (0, 0, x) 0 [(0, .ref a0)] [] h Q := by
  unfold zX8_mend_0 at H
  refine J_aload_n dX8_mend_0 0 rfl ?_
  obtain ⟨fs, v1, hh, hk, H⟩ := H
  refine J_get dX8_mend_1 fX8_33 hh hk ?_
  clear hh hk
  obtain ⟨⟨fs, hh⟩, H⟩ := H
  refine J_callV (As := []) (S := []) (b := v1) dX8_mend_4 mX0_mendWorn_ok kX8_129 rfl (by decide) (Nat.le_of_ble_eq_true rfl) hh rfl rfl (Nat.le_of_ble_eq_true rfl) ⟨Nat.le_of_ble_eq_true rfl, Nat.le_of_ble_eq_true rfl⟩ (fun k h' hp => ?_) H (fun r h2 hp => ?_)
  · obtain ⟨_, hv, -⟩ := hp; cases hv
  obtain ⟨v3, rfl, H⟩ := hp
  show am_J l g mX8_mend (d + 1) (0, 0, x) 7 [(0, .ref a0)] [.int v3] h2 Q
  exact J_iret dX8_mend_7 ⟨_, rfl, rfl⟩ ⟨Nat.le_of_ble_eq_true rfl, Nat.le_of_ble_eq_true rfl, fun _ => rfl⟩ H
theorem eX8_mend {l : Launch} {g : am_G} {d : Nat} {x : Bool} {a0 : Nat} {h : am_H} {K : Int32 → am_H → Prop} (H : zX8_mend_0 l g d x a0 h (fun r h' => ∃ v, r = some (.int v) ∧ K v h')) : cl_I l g mX8_mend (d + 1) x [.ref a0] h K := rX8_mend_0 H
def zX8_look_0 (l : Launch) (g : am_G) (d : Nat) (x : Bool) (a0 : Nat) (i1 : Int32) (i2 : Int32) (h : am_H) (Q : Option Value → am_H → Prop) : Prop := gt_R h a0 8 2 (fun v1 => cv_I l g mX0_isNumbered d x 0 v1 [.int i1] h (fun v3 h2 => ((v3 = 0 → Q (some (.retAddr 21)) h2) ∧ (¬ v3 = 0 → ((i2 < 0 → Q (some (.retAddr 21)) h2) ∧ (¬ i2 < 0 → ((i2 ≤ 6 → ((¬ i2 = 0 → gt_R h2 a0 8 2 (fun v4 => cv_I l g mX0_isThere d x 0 v4 [.int i1] h2 (fun v6 h5 => ((¬ v6 = 0 → cv_I l g mX8_lookAtOneThere d x 8 a0 [.int i1, .int i2] h5 (fun v8 h7 => Q (some (.int v8)) h7)) ∧ (v6 = 0 → Q (some (.retAddr 58)) h5))))) ∧ (i2 = 0 → gt_R h2 a0 8 2 (fun v9 => cv_I l g mX0_isThere d x 0 v9 [.int i1] h2 (fun v11 h10 => cs_I l g mX8_asNumber d x [.int v11] h10 (fun v13 h12 => Q (some (.int v13)) h12)))))) ∧ (¬ i2 ≤ 6 → Q (some (.retAddr 21)) h2))))))))
set_option maxRecDepth 4000 in
theorem rX8_look_0 {l : Launch} {g : am_G} {d : Nat} {x : Bool} {a0 : Nat} {i1 : Int32} {i2 : Int32} {h : am_H} {Q : Option Value → am_H → Prop} (H : zX8_look_0 l g d x a0 i1 i2 h Q) : am_J l g mX8_look (d + 1) (0, 0, x) 0 [(0, .ref a0), (1, .int i1), (2, .int i2)] [] h Q := by
  unfold zX8_look_0 at H
  refine J_aload_n dX8_look_0 0 rfl ?_
  obtain ⟨fs, v1, hh, hk, H⟩ := H
  refine J_get dX8_look_1 fX8_33 hh hk ?_
  clear hh hk
  refine J_iload_n dX8_look_4 1 rfl ?_
  obtain ⟨⟨fs, hh⟩, H⟩ := H
  refine J_callV (As := [.int i1]) (S := []) (b := v1) dX8_look_5 mX0_isNumbered_ok kX8_132 rfl (by decide) (Nat.le_of_ble_eq_true rfl) hh rfl rfl (Nat.le_of_ble_eq_true rfl) ⟨Nat.le_of_ble_eq_true rfl, Nat.le_of_ble_eq_true rfl⟩ (fun k h' hp => ?_) H (fun r h2 hp => ?_)
  · obtain ⟨_, hv, -⟩ := hp; cases hv
  obtain ⟨v3, rfl, H⟩ := hp
  show am_J l g mX8_look (d + 1) (0, 0, x) 8 [(0, .ref a0), (1, .int i1), (2, .int i2)] [.int v3] h2 Q
  obtain ⟨H1, H2⟩ := H
  refine J_if_eq (tgt := 21) dX8_look_8 (by decide) (fun hc => ?_) (fun hc => ?_)
  · replace H := H1 hc
    clear H1 H2
    exact J_throw ⟨Nat.le_of_ble_eq_true rfl, Nat.le_of_ble_eq_true rfl⟩ H
  · replace H := H2 hc
    clear H1 H2
    refine J_iload_n dX8_look_11 2 rfl ?_
    obtain ⟨H1, H2⟩ := H
    refine J_if_lt (tgt := 21) dX8_look_12 (by decide) (fun hc => ?_) (fun hc => ?_)
    · replace H := H1 hc
      clear H1 H2
      exact J_throw ⟨Nat.le_of_ble_eq_true rfl, Nat.le_of_ble_eq_true rfl⟩ H
    · replace H := H2 hc
      clear H1 H2
      refine J_iload_n dX8_look_15 2 rfl ?_
      refine J_bipush (v := 6) dX8_look_16 (by decide) ?_
      obtain ⟨H1, H2⟩ := H
      refine J_icmp_le (tgt := 31) dX8_look_18 (by decide) (fun hc => ?_) (fun hc => ?_)
      · replace H := H1 hc
        clear H1 H2
        refine J_iload_n dX8_look_31 2 rfl ?_
        obtain ⟨H1, H2⟩ := H
        refine J_if_ne (tgt := 47) dX8_look_32 (by decide) (fun hc => ?_) (fun hc => ?_)
        · replace H := H1 hc
          clear H1 H2
          refine J_aload_n dX8_look_47 0 rfl ?_
          obtain ⟨fs, v4, hh, hk, H⟩ := H
          refine J_get dX8_look_48 fX8_33 hh hk ?_
          clear hh hk
          refine J_iload_n dX8_look_51 1 rfl ?_
          obtain ⟨⟨fs, hh⟩, H⟩ := H
          refine J_callV (As := [.int i1]) (S := []) (b := v4) dX8_look_52 mX0_isThere_ok kX8_111 rfl (by decide) (Nat.le_of_ble_eq_true rfl) hh rfl rfl (Nat.le_of_ble_eq_true rfl) ⟨Nat.le_of_ble_eq_true rfl, Nat.le_of_ble_eq_true rfl⟩ (fun k h' hp => ?_) H (fun r h5 hp => ?_)
          · obtain ⟨_, hv, -⟩ := hp; cases hv
          obtain ⟨v6, rfl, H⟩ := hp
          show am_J l g mX8_look (d + 1) (0, 0, x) 55 [(0, .ref a0), (1, .int i1), (2, .int i2)] [.int v6] h5 Q
          obtain ⟨H1, H2⟩ := H
          refine J_if_ne (tgt := 68) dX8_look_55 (by decide) (fun hc => ?_) (fun hc => ?_)
          · replace H := H1 hc
            clear H1 H2
            refine J_aload_n dX8_look_68 0 rfl ?_
            refine J_iload_n dX8_look_69 1 rfl ?_
            refine J_iload_n dX8_look_70 2 rfl ?_
            obtain ⟨⟨fs, hh⟩, H⟩ := H
            refine J_callV (As := [.int i1, .int i2]) (S := []) (b := a0) dX8_look_71 mX8_lookAtOneThere_ok kX8_148 rfl (by decide) (Nat.le_of_ble_eq_true rfl) hh rfl rfl (Nat.le_of_ble_eq_true rfl) ⟨Nat.le_of_ble_eq_true rfl, Nat.le_of_ble_eq_true rfl⟩ (fun k h' hp => ?_) H (fun r h7 hp => ?_)
            · obtain ⟨_, hv, -⟩ := hp; cases hv
            obtain ⟨v8, rfl, H⟩ := hp
            show am_J l g mX8_look (d + 1) (0, 0, x) 74 [(0, .ref a0), (1, .int i1), (2, .int i2)] [.int v8] h7 Q
            exact J_iret dX8_look_74 ⟨_, rfl, rfl⟩ ⟨Nat.le_of_ble_eq_true rfl, Nat.le_of_ble_eq_true rfl, fun _ => rfl⟩ H
          · replace H := H2 hc
            clear H1 H2
            exact J_throw ⟨Nat.le_of_ble_eq_true rfl, Nat.le_of_ble_eq_true rfl⟩ H
        · replace H := H2 hc
          clear H1 H2
          refine J_aload_n dX8_look_35 0 rfl ?_
          obtain ⟨fs, v9, hh, hk, H⟩ := H
          refine J_get dX8_look_36 fX8_33 hh hk ?_
          clear hh hk
          refine J_iload_n dX8_look_39 1 rfl ?_
          obtain ⟨⟨fs, hh⟩, H⟩ := H
          refine J_callV (As := [.int i1]) (S := []) (b := v9) dX8_look_40 mX0_isThere_ok kX8_111 rfl (by decide) (Nat.le_of_ble_eq_true rfl) hh rfl rfl (Nat.le_of_ble_eq_true rfl) ⟨Nat.le_of_ble_eq_true rfl, Nat.le_of_ble_eq_true rfl⟩ (fun k h' hp => ?_) H (fun r h10 hp => ?_)
          · obtain ⟨_, hv, -⟩ := hp; cases hv
          obtain ⟨v11, rfl, H⟩ := hp
          show am_J l g mX8_look (d + 1) (0, 0, x) 43 [(0, .ref a0), (1, .int i1), (2, .int i2)] [.int v11] h10 Q
          refine J_callS (As := [.int v11]) (S := []) dX8_look_43 mX8_asNumber_ok kX8_142 rfl (by decide) (Nat.le_of_ble_eq_true rfl) rfl (Nat.le_of_ble_eq_true rfl) ⟨Nat.le_of_ble_eq_true rfl, Nat.le_of_ble_eq_true rfl⟩ (fun k h' hp => ?_) H (fun r h12 hp => ?_)
          · obtain ⟨_, hv, -⟩ := hp; cases hv
          obtain ⟨v13, rfl, H⟩ := hp
          show am_J l g mX8_look (d + 1) (0, 0, x) 46 [(0, .ref a0), (1, .int i1), (2, .int i2)] [.int v13] h12 Q
          exact J_iret dX8_look_46 ⟨_, rfl, rfl⟩ ⟨Nat.le_of_ble_eq_true rfl, Nat.le_of_ble_eq_true rfl, fun _ => rfl⟩ H
      · replace H := H2 hc
        clear H1 H2
        exact J_throw ⟨Nat.le_of_ble_eq_true rfl, Nat.le_of_ble_eq_true rfl⟩ H
theorem eX8_look {l : Launch} {g : am_G} {d : Nat} {x : Bool} {a0 : Nat} {i1 : Int32} {i2 : Int32} {h : am_H} {K : Int32 → am_H → Prop} (H : zX8_look_0 l g d x a0 i1 i2 h (fun r h' => ∃ v, r = some (.int v) ∧ K v h')) : cl_I l g mX8_look (d + 1) x [.ref a0, .int i1, .int i2] h K := rX8_look_0 H
def zX8_over_0 (l : Launch) (g : am_G) (d : Nat) (x : Bool) (a0 : Nat) (i1 : Int32) (i2 : Int32) (h : am_H) (Q : Option Value → am_H → Prop) : Prop := gt_R h a0 8 2 (fun v1 => cv_I l g mX0_isThere d x 0 v1 [.int i1] h (fun v3 h2 => ((v3 = 0 → Q (some (.int (-2))) h2) ∧ (¬ v3 = 0 → gt_R h2 a0 8 2 (fun v4 => cv_I l g mX0_isThere d x 0 v4 [.int i2] h2 (fun v6 h5 => ((¬ v6 = 0 → gt_R h5 a0 8 2 (fun v7 => cv_I l g mX0_areLinked d x 0 v7 [.int i1, .int i2] h5 (fun v9 h8 => ((¬ v9 = 0 → gt_R h8 a0 8 2 (fun v10 => cv_I l g mX0_goesOver d x 0 v10 [.int i1, .int i2] h8 (fun v12 h11 => ((v12 = 0 → Q (some (.int (-1))) h11) ∧ (¬ v12 = 0 → Q (some (.int 1)) h11))))) ∧ (v9 = 0 → Q (some (.int 0)) h8))))) ∧ (v6 = 0 → Q (some (.int (-2))) h5))))))))
set_option maxRecDepth 4000 in
theorem rX8_over_0 {l : Launch} {g : am_G} {d : Nat} {x : Bool} {a0 : Nat} {i1 : Int32} {i2 : Int32} {h : am_H} {Q : Option Value → am_H → Prop} (H : zX8_over_0 l g d x a0 i1 i2 h Q) : am_J l g mX8_over (d + 1) (0, 0, x) 0 [(0, .ref a0), (1, .int i1), (2, .int i2)] [] h Q := by
  unfold zX8_over_0 at H
  refine J_aload_n dX8_over_0 0 rfl ?_
  obtain ⟨fs, v1, hh, hk, H⟩ := H
  refine J_get dX8_over_1 fX8_33 hh hk ?_
  clear hh hk
  refine J_iload_n dX8_over_4 1 rfl ?_
  obtain ⟨⟨fs, hh⟩, H⟩ := H
  refine J_callV (As := [.int i1]) (S := []) (b := v1) dX8_over_5 mX0_isThere_ok kX8_111 rfl (by decide) (Nat.le_of_ble_eq_true rfl) hh rfl rfl (Nat.le_of_ble_eq_true rfl) ⟨Nat.le_of_ble_eq_true rfl, Nat.le_of_ble_eq_true rfl⟩ (fun k h' hp => ?_) H (fun r h2 hp => ?_)
  · obtain ⟨_, hv, -⟩ := hp; cases hv
  obtain ⟨v3, rfl, H⟩ := hp
  show am_J l g mX8_over (d + 1) (0, 0, x) 8 [(0, .ref a0), (1, .int i1), (2, .int i2)] [.int v3] h2 Q
  obtain ⟨H1, H2⟩ := H
  refine J_if_eq (tgt := 22) dX8_over_8 (by decide) (fun hc => ?_) (fun hc => ?_)
  · replace H := H1 hc
    clear H1 H2
    refine J_bipush (v := (-2)) dX8_over_22 (by decide) ?_
    exact J_iret dX8_over_24 ⟨_, rfl, rfl⟩ ⟨Nat.le_of_ble_eq_true rfl, Nat.le_of_ble_eq_true rfl, fun _ => rfl⟩ H
  · replace H := H2 hc
    clear H1 H2
    refine J_aload_n dX8_over_11 0 rfl ?_
    obtain ⟨fs, v4, hh, hk, H⟩ := H
    refine J_get dX8_over_12 fX8_33 hh hk ?_
    clear hh hk
    refine J_iload_n dX8_over_15 2 rfl ?_
    obtain ⟨⟨fs, hh⟩, H⟩ := H
    refine J_callV (As := [.int i2]) (S := []) (b := v4) dX8_over_16 mX0_isThere_ok kX8_111 rfl (by decide) (Nat.le_of_ble_eq_true rfl) hh rfl rfl (Nat.le_of_ble_eq_true rfl) ⟨Nat.le_of_ble_eq_true rfl, Nat.le_of_ble_eq_true rfl⟩ (fun k h' hp => ?_) H (fun r h5 hp => ?_)
    · obtain ⟨_, hv, -⟩ := hp; cases hv
    obtain ⟨v6, rfl, H⟩ := hp
    show am_J l g mX8_over (d + 1) (0, 0, x) 19 [(0, .ref a0), (1, .int i1), (2, .int i2)] [.int v6] h5 Q
    obtain ⟨H1, H2⟩ := H
    refine J_if_ne (tgt := 25) dX8_over_19 (by decide) (fun hc => ?_) (fun hc => ?_)
    · replace H := H1 hc
      clear H1 H2
      refine J_aload_n dX8_over_25 0 rfl ?_
      obtain ⟨fs, v7, hh, hk, H⟩ := H
      refine J_get dX8_over_26 fX8_33 hh hk ?_
      clear hh hk
      refine J_iload_n dX8_over_29 1 rfl ?_
      refine J_iload_n dX8_over_30 2 rfl ?_
      obtain ⟨⟨fs, hh⟩, H⟩ := H
      refine J_callV (As := [.int i1, .int i2]) (S := []) (b := v7) dX8_over_31 mX0_areLinked_ok kX8_118 rfl (by decide) (Nat.le_of_ble_eq_true rfl) hh rfl rfl (Nat.le_of_ble_eq_true rfl) ⟨Nat.le_of_ble_eq_true rfl, Nat.le_of_ble_eq_true rfl⟩ (fun k h' hp => ?_) H (fun r h8 hp => ?_)
      · obtain ⟨_, hv, -⟩ := hp; cases hv
      obtain ⟨v9, rfl, H⟩ := hp
      show am_J l g mX8_over (d + 1) (0, 0, x) 34 [(0, .ref a0), (1, .int i1), (2, .int i2)] [.int v9] h8 Q
      obtain ⟨H1, H2⟩ := H
      refine J_if_ne (tgt := 39) dX8_over_34 (by decide) (fun hc => ?_) (fun hc => ?_)
      · replace H := H1 hc
        clear H1 H2
        refine J_aload_n dX8_over_39 0 rfl ?_
        obtain ⟨fs, v10, hh, hk, H⟩ := H
        refine J_get dX8_over_40 fX8_33 hh hk ?_
        clear hh hk
        refine J_iload_n dX8_over_43 1 rfl ?_
        refine J_iload_n dX8_over_44 2 rfl ?_
        obtain ⟨⟨fs, hh⟩, H⟩ := H
        refine J_callV (As := [.int i1, .int i2]) (S := []) (b := v10) dX8_over_45 mX0_goesOver_ok kX8_152 rfl (by decide) (Nat.le_of_ble_eq_true rfl) hh rfl rfl (Nat.le_of_ble_eq_true rfl) ⟨Nat.le_of_ble_eq_true rfl, Nat.le_of_ble_eq_true rfl⟩ (fun k h' hp => ?_) H (fun r h11 hp => ?_)
        · obtain ⟨_, hv, -⟩ := hp; cases hv
        obtain ⟨v12, rfl, H⟩ := hp
        show am_J l g mX8_over (d + 1) (0, 0, x) 48 [(0, .ref a0), (1, .int i1), (2, .int i2)] [.int v12] h11 Q
        obtain ⟨H1, H2⟩ := H
        refine J_if_eq (tgt := 55) dX8_over_48 (by decide) (fun hc => ?_) (fun hc => ?_)
        · replace H := H1 hc
          clear H1 H2
          refine J_iconst (v := (-1)) dX8_over_55 (by decide) ?_
          exact J_iret dX8_over_56 ⟨_, rfl, rfl⟩ ⟨Nat.le_of_ble_eq_true rfl, Nat.le_of_ble_eq_true rfl, fun _ => rfl⟩ H
        · replace H := H2 hc
          clear H1 H2
          refine J_iconst (v := 1) dX8_over_51 (by decide) ?_
          refine J_goto (tgt := 56) dX8_over_52 (by decide) ?_
          exact J_iret dX8_over_56 ⟨_, rfl, rfl⟩ ⟨Nat.le_of_ble_eq_true rfl, Nat.le_of_ble_eq_true rfl, fun _ => rfl⟩ H
      · replace H := H2 hc
        clear H1 H2
        refine J_iconst (v := 0) dX8_over_37 (by decide) ?_
        exact J_iret dX8_over_38 ⟨_, rfl, rfl⟩ ⟨Nat.le_of_ble_eq_true rfl, Nat.le_of_ble_eq_true rfl, fun _ => rfl⟩ H
    · replace H := H2 hc
      clear H1 H2
      refine J_bipush (v := (-2)) dX8_over_22 (by decide) ?_
      exact J_iret dX8_over_24 ⟨_, rfl, rfl⟩ ⟨Nat.le_of_ble_eq_true rfl, Nat.le_of_ble_eq_true rfl, fun _ => rfl⟩ H
theorem eX8_over {l : Launch} {g : am_G} {d : Nat} {x : Bool} {a0 : Nat} {i1 : Int32} {i2 : Int32} {h : am_H} {K : Int32 → am_H → Prop} (H : zX8_over_0 l g d x a0 i1 i2 h (fun r h' => ∃ v, r = some (.int v) ∧ K v h')) : cl_I l g mX8_over (d + 1) x [.ref a0, .int i1, .int i2] h K := rX8_over_0 H
def zX8_linked_0 (l : Launch) (g : am_G) (d : Nat) (x : Bool) (a0 : Nat) (i1 : Int32) (i2 : Int32) (h : am_H) (Q : Option Value → am_H → Prop) : Prop := gt_R h a0 8 2 (fun v1 => cv_I l g mX0_isThere d x 0 v1 [.int i1] h (fun v3 h2 => ((v3 = 0 → Q (some (.int (-1))) h2) ∧ (¬ v3 = 0 → gt_R h2 a0 8 2 (fun v4 => cv_I l g mX0_linkedAtPlace d x 0 v4 [.int i1, .int i2] h2 (fun v6 h5 => Q (some (.int v6)) h5))))))
set_option maxRecDepth 4000 in
theorem rX8_linked_0 {l : Launch} {g : am_G} {d : Nat} {x : Bool} {a0 : Nat} {i1 : Int32} {i2 : Int32} {h : am_H} {Q : Option Value → am_H → Prop} (H : zX8_linked_0 l g d x a0 i1 i2 h Q) : am_J l g mX8_linked (d + 1) (0, 0, x) 0 [(0, .ref a0), (1, .int i1), (2, .int i2)] [] h Q := by
  unfold zX8_linked_0 at H
  refine J_aload_n dX8_linked_0 0 rfl ?_
  obtain ⟨fs, v1, hh, hk, H⟩ := H
  refine J_get dX8_linked_1 fX8_33 hh hk ?_
  clear hh hk
  refine J_iload_n dX8_linked_4 1 rfl ?_
  obtain ⟨⟨fs, hh⟩, H⟩ := H
  refine J_callV (As := [.int i1]) (S := []) (b := v1) dX8_linked_5 mX0_isThere_ok kX8_111 rfl (by decide) (Nat.le_of_ble_eq_true rfl) hh rfl rfl (Nat.le_of_ble_eq_true rfl) ⟨Nat.le_of_ble_eq_true rfl, Nat.le_of_ble_eq_true rfl⟩ (fun k h' hp => ?_) H (fun r h2 hp => ?_)
  · obtain ⟨_, hv, -⟩ := hp; cases hv
  obtain ⟨v3, rfl, H⟩ := hp
  show am_J l g mX8_linked (d + 1) (0, 0, x) 8 [(0, .ref a0), (1, .int i1), (2, .int i2)] [.int v3] h2 Q
  obtain ⟨H1, H2⟩ := H
  refine J_if_eq (tgt := 23) dX8_linked_8 (by decide) (fun hc => ?_) (fun hc => ?_)
  · replace H := H1 hc
    clear H1 H2
    refine J_iconst (v := (-1)) dX8_linked_23 (by decide) ?_
    exact J_iret dX8_linked_24 ⟨_, rfl, rfl⟩ ⟨Nat.le_of_ble_eq_true rfl, Nat.le_of_ble_eq_true rfl, fun _ => rfl⟩ H
  · replace H := H2 hc
    clear H1 H2
    refine J_aload_n dX8_linked_11 0 rfl ?_
    obtain ⟨fs, v4, hh, hk, H⟩ := H
    refine J_get dX8_linked_12 fX8_33 hh hk ?_
    clear hh hk
    refine J_iload_n dX8_linked_15 1 rfl ?_
    refine J_iload_n dX8_linked_16 2 rfl ?_
    obtain ⟨⟨fs, hh⟩, H⟩ := H
    refine J_callV (As := [.int i1, .int i2]) (S := []) (b := v4) dX8_linked_17 mX0_linkedAtPlace_ok kX8_155 rfl (by decide) (Nat.le_of_ble_eq_true rfl) hh rfl rfl (Nat.le_of_ble_eq_true rfl) ⟨Nat.le_of_ble_eq_true rfl, Nat.le_of_ble_eq_true rfl⟩ (fun k h' hp => ?_) H (fun r h5 hp => ?_)
    · obtain ⟨_, hv, -⟩ := hp; cases hv
    obtain ⟨v6, rfl, H⟩ := hp
    show am_J l g mX8_linked (d + 1) (0, 0, x) 20 [(0, .ref a0), (1, .int i1), (2, .int i2)] [.int v6] h5 Q
    refine J_goto (tgt := 24) dX8_linked_20 (by decide) ?_
    exact J_iret dX8_linked_24 ⟨_, rfl, rfl⟩ ⟨Nat.le_of_ble_eq_true rfl, Nat.le_of_ble_eq_true rfl, fun _ => rfl⟩ H
theorem eX8_linked {l : Launch} {g : am_G} {d : Nat} {x : Bool} {a0 : Nat} {i1 : Int32} {i2 : Int32} {h : am_H} {K : Int32 → am_H → Prop} (H : zX8_linked_0 l g d x a0 i1 i2 h (fun r h' => ∃ v, r = some (.int v) ∧ K v h')) : cl_I l g mX8_linked (d + 1) x [.ref a0, .int i1, .int i2] h K := rX8_linked_0 H
def zX8_fewest_0 (l : Launch) (g : am_G) (d : Nat) (x : Bool) (a0 : Nat) (h : am_H) (Q : Option Value → am_H → Prop) : Prop := gt_R h a0 8 4 (fun v1 => cv_N l g mX1_refresh d x 1 v1 [] h (fun h2 => gt_R h2 a0 8 3 (fun v4 => gt_I h2 v4 3 13 (fun v5 => ((v5 = 0 → Q (some (.int (-1))) h2) ∧ (¬ v5 = 0 → gt_R h2 a0 8 4 (fun v6 => gt_I h2 v6 1 10 (fun v7 => Q (some (.int v7)) h2))))))))
set_option maxRecDepth 4000 in
theorem rX8_fewest_0 {l : Launch} {g : am_G} {d : Nat} {x : Bool} {a0 : Nat} {h : am_H} {Q : Option Value → am_H → Prop} (H : zX8_fewest_0 l g d x a0 h Q) : am_J l g mX8_fewest (d + 1) (0, 0, x) 0 [(0, .ref a0)] [] h Q := by
  unfold zX8_fewest_0 at H
  refine J_aload_n dX8_fewest_0 0 rfl ?_
  obtain ⟨fs, v1, hh, hk, H⟩ := H
  refine J_get dX8_fewest_1 fX8_51 hh hk ?_
  clear hh hk
  obtain ⟨⟨fs, hh⟩, H⟩ := H
  refine J_callV (As := []) (S := []) (b := v1) dX8_fewest_4 mX1_refresh_ok kX8_158 rfl (by decide) (Nat.le_of_ble_eq_true rfl) hh rfl rfl (Nat.le_of_ble_eq_true rfl) ⟨Nat.le_of_ble_eq_true rfl, Nat.le_of_ble_eq_true rfl⟩ (fun k h' hp => ?_) H (fun r h2 hp => ?_)
  · obtain ⟨hv, -⟩ := hp; cases hv
  obtain ⟨rfl, H⟩ := hp
  show am_J l g mX8_fewest (d + 1) (0, 0, x) 7 [(0, .ref a0)] [] h2 Q
  refine J_aload_n dX8_fewest_7 0 rfl ?_
  obtain ⟨fs, v4, hh, hk, H⟩ := H
  refine J_get dX8_fewest_8 fX8_42 hh hk ?_
  clear hh hk
  obtain ⟨fs, v5, hh, hk, H⟩ := H
  refine J_get dX8_fewest_11 fX8_161 hh hk ?_
  clear hh hk
  obtain ⟨H1, H2⟩ := H
  refine J_if_eq (tgt := 27) dX8_fewest_14 (by decide) (fun hc => ?_) (fun hc => ?_)
  · replace H := H1 hc
    clear H1 H2
    refine J_iconst (v := (-1)) dX8_fewest_27 (by decide) ?_
    exact J_iret dX8_fewest_28 ⟨_, rfl, rfl⟩ ⟨Nat.le_of_ble_eq_true rfl, Nat.le_of_ble_eq_true rfl, fun _ => rfl⟩ H
  · replace H := H2 hc
    clear H1 H2
    refine J_aload_n dX8_fewest_17 0 rfl ?_
    obtain ⟨fs, v6, hh, hk, H⟩ := H
    refine J_get dX8_fewest_18 fX8_51 hh hk ?_
    clear hh hk
    obtain ⟨fs, v7, hh, hk, H⟩ := H
    refine J_get dX8_fewest_21 fX8_165 hh hk ?_
    clear hh hk
    refine J_goto (tgt := 28) dX8_fewest_24 (by decide) ?_
    exact J_iret dX8_fewest_28 ⟨_, rfl, rfl⟩ ⟨Nat.le_of_ble_eq_true rfl, Nat.le_of_ble_eq_true rfl, fun _ => rfl⟩ H
theorem eX8_fewest {l : Launch} {g : am_G} {d : Nat} {x : Bool} {a0 : Nat} {h : am_H} {K : Int32 → am_H → Prop} (H : zX8_fewest_0 l g d x a0 h (fun r h' => ∃ v, r = some (.int v) ∧ K v h')) : cl_I l g mX8_fewest (d + 1) x [.ref a0] h K := rX8_fewest_0 H
def zX8_order_0 (l : Launch) (g : am_G) (d : Nat) (x : Bool) (a0 : Nat) (i1 : Int32) (h : am_H) (Q : Option Value → am_H → Prop) : Prop := gt_R h a0 8 4 (fun v1 => cv_N l g mX1_refresh d x 1 v1 [] h (fun h2 => ((i1 < 0 → Q (some (.int (-1))) h2) ∧ (¬ i1 < 0 → gt_R h2 a0 8 4 (fun v4 => gt_I h2 v4 1 10 (fun v5 => ((v5 ≤ i1 → Q (some (.int (-1))) h2) ∧ (¬ v5 ≤ i1 → gt_R h2 a0 8 4 (fun v6 => gt_R h2 v6 1 9 (fun v7 => al_I 0 h2 v7 i1 (fun v8 => Q (some (.int v8)) h2)))))))))))
set_option maxRecDepth 4000 in
theorem rX8_order_0 {l : Launch} {g : am_G} {d : Nat} {x : Bool} {a0 : Nat} {i1 : Int32} {h : am_H} {Q : Option Value → am_H → Prop} (H : zX8_order_0 l g d x a0 i1 h Q) : am_J l g mX8_order (d + 1) (0, 0, x) 0 [(0, .ref a0), (1, .int i1)] [] h Q := by
  unfold zX8_order_0 at H
  refine J_aload_n dX8_order_0 0 rfl ?_
  obtain ⟨fs, v1, hh, hk, H⟩ := H
  refine J_get dX8_order_1 fX8_51 hh hk ?_
  clear hh hk
  obtain ⟨⟨fs, hh⟩, H⟩ := H
  refine J_callV (As := []) (S := []) (b := v1) dX8_order_4 mX1_refresh_ok kX8_158 rfl (by decide) (Nat.le_of_ble_eq_true rfl) hh rfl rfl (Nat.le_of_ble_eq_true rfl) ⟨Nat.le_of_ble_eq_true rfl, Nat.le_of_ble_eq_true rfl⟩ (fun k h' hp => ?_) H (fun r h2 hp => ?_)
  · obtain ⟨hv, -⟩ := hp; cases hv
  obtain ⟨rfl, H⟩ := hp
  show am_J l g mX8_order (d + 1) (0, 0, x) 7 [(0, .ref a0), (1, .int i1)] [] h2 Q
  refine J_iload_n dX8_order_7 1 rfl ?_
  obtain ⟨H1, H2⟩ := H
  refine J_if_lt (tgt := 34) dX8_order_8 (by decide) (fun hc => ?_) (fun hc => ?_)
  · replace H := H1 hc
    clear H1 H2
    refine J_iconst (v := (-1)) dX8_order_34 (by decide) ?_
    exact J_iret dX8_order_35 ⟨_, rfl, rfl⟩ ⟨Nat.le_of_ble_eq_true rfl, Nat.le_of_ble_eq_true rfl, fun _ => rfl⟩ H
  · replace H := H2 hc
    clear H1 H2
    refine J_iload_n dX8_order_11 1 rfl ?_
    refine J_aload_n dX8_order_12 0 rfl ?_
    obtain ⟨fs, v4, hh, hk, H⟩ := H
    refine J_get dX8_order_13 fX8_51 hh hk ?_
    clear hh hk
    obtain ⟨fs, v5, hh, hk, H⟩ := H
    refine J_get dX8_order_16 fX8_165 hh hk ?_
    clear hh hk
    obtain ⟨H1, H2⟩ := H
    refine J_icmp_ge (tgt := 34) dX8_order_19 (by decide) (fun hc => ?_) (fun hc => ?_)
    · replace H := H1 hc
      clear H1 H2
      refine J_iconst (v := (-1)) dX8_order_34 (by decide) ?_
      exact J_iret dX8_order_35 ⟨_, rfl, rfl⟩ ⟨Nat.le_of_ble_eq_true rfl, Nat.le_of_ble_eq_true rfl, fun _ => rfl⟩ H
    · replace H := H2 hc
      clear H1 H2
      refine J_aload_n dX8_order_22 0 rfl ?_
      obtain ⟨fs, v6, hh, hk, H⟩ := H
      refine J_get dX8_order_23 fX8_51 hh hk ?_
      clear hh hk
      obtain ⟨fs, v7, hh, hk, H⟩ := H
      refine J_get dX8_order_26 fX8_168 hh hk ?_
      clear hh hk
      refine J_iload_n dX8_order_29 1 rfl ?_
      obtain ⟨nn, ff, hh, hk, H⟩ := H
      refine J_iald dX8_order_30 hh hk ?_
      generalize ff (Int32.toNatClampNeg i1) = v8 at H ⊢
      clear hh hk ff
      refine J_goto (tgt := 35) dX8_order_31 (by decide) ?_
      exact J_iret dX8_order_35 ⟨_, rfl, rfl⟩ ⟨Nat.le_of_ble_eq_true rfl, Nat.le_of_ble_eq_true rfl, fun _ => rfl⟩ H
theorem eX8_order {l : Launch} {g : am_G} {d : Nat} {x : Bool} {a0 : Nat} {i1 : Int32} {h : am_H} {K : Int32 → am_H → Prop} (H : zX8_order_0 l g d x a0 i1 h (fun r h' => ∃ v, r = some (.int v) ∧ K v h')) : cl_I l g mX8_order (d + 1) x [.ref a0, .int i1] h K := rX8_order_0 H
def zX8_sizes_0 (l : Launch) (g : am_G) (d : Nat) (x : Bool) (a0 : Nat) (i1 : Int32) (i2 : Int32) (i3 : Int32) (h : am_H) (Q : Option Value → am_H → Prop) : Prop := cs_I l g mX8_isWithin d x [.int i1, .int 999] h (fun v2 h1 => ((v2 = 0 → Q (some (.int 0)) h1) ∧ (¬ v2 = 0 → cs_I l g mX8_isWithin d x [.int i2, .int 9999] h1 (fun v4 h3 => ((v4 = 0 → Q (some (.int 0)) h3) ∧ (¬ v4 = 0 → cs_I l g mX8_isWithin d x [.int i3, .int 99] h3 (fun v6 h5 => ((¬ v6 = 0 → pt_V h5 a0 8 7 (.int i1) (fun h7 => pt_V h7 a0 8 8 (.int i2) (fun h8 => pt_V h8 a0 8 9 (.int i3) (fun h9 => Q (some (.int 1)) h9)))) ∧ (v6 = 0 → Q (some (.int 0)) h5)))))))))
set_option maxRecDepth 4000 in
theorem rX8_sizes_0 {l : Launch} {g : am_G} {d : Nat} {x : Bool} {a0 : Nat} {i1 : Int32} {i2 : Int32} {i3 : Int32} {h : am_H} {Q : Option Value → am_H → Prop} (H : zX8_sizes_0 l g d x a0 i1 i2 i3 h Q) : am_J l g mX8_sizes (d + 1) (0, 0, x) 0 [(0, .ref a0), (1, .int i1), (2, .int i2), (3, .int i3)] [] h Q := by
  unfold zX8_sizes_0 at H
  refine J_iload_n dX8_sizes_0 1 rfl ?_
  refine J_sipush (v := 999) dX8_sizes_1 (by decide) ?_
  refine J_callS (As := [.int i1, .int 999]) (S := []) dX8_sizes_4 mX8_isWithin_ok kX8_172 rfl (by decide) (Nat.le_of_ble_eq_true rfl) rfl (Nat.le_of_ble_eq_true rfl) ⟨Nat.le_of_ble_eq_true rfl, Nat.le_of_ble_eq_true rfl⟩ (fun k h' hp => ?_) H (fun r h1 hp => ?_)
  · obtain ⟨_, hv, -⟩ := hp; cases hv
  obtain ⟨v2, rfl, H⟩ := hp
  show am_J l g mX8_sizes (d + 1) (0, 0, x) 7 [(0, .ref a0), (1, .int i1), (2, .int i2), (3, .int i3)] [.int v2] h1 Q
  obtain ⟨H1, H2⟩ := H
  refine J_if_eq (tgt := 29) dX8_sizes_7 (by decide) (fun hc => ?_) (fun hc => ?_)
  · replace H := H1 hc
    clear H1 H2
    refine J_iconst (v := 0) dX8_sizes_29 (by decide) ?_
    exact J_iret dX8_sizes_30 ⟨_, rfl, rfl⟩ ⟨Nat.le_of_ble_eq_true rfl, Nat.le_of_ble_eq_true rfl, fun _ => rfl⟩ H
  · replace H := H2 hc
    clear H1 H2
    refine J_iload_n dX8_sizes_10 2 rfl ?_
    refine J_sipush (v := 9999) dX8_sizes_11 (by decide) ?_
    refine J_callS (As := [.int i2, .int 9999]) (S := []) dX8_sizes_14 mX8_isWithin_ok kX8_172 rfl (by decide) (Nat.le_of_ble_eq_true rfl) rfl (Nat.le_of_ble_eq_true rfl) ⟨Nat.le_of_ble_eq_true rfl, Nat.le_of_ble_eq_true rfl⟩ (fun k h' hp => ?_) H (fun r h3 hp => ?_)
    · obtain ⟨_, hv, -⟩ := hp; cases hv
    obtain ⟨v4, rfl, H⟩ := hp
    show am_J l g mX8_sizes (d + 1) (0, 0, x) 17 [(0, .ref a0), (1, .int i1), (2, .int i2), (3, .int i3)] [.int v4] h3 Q
    obtain ⟨H1, H2⟩ := H
    refine J_if_eq (tgt := 29) dX8_sizes_17 (by decide) (fun hc => ?_) (fun hc => ?_)
    · replace H := H1 hc
      clear H1 H2
      refine J_iconst (v := 0) dX8_sizes_29 (by decide) ?_
      exact J_iret dX8_sizes_30 ⟨_, rfl, rfl⟩ ⟨Nat.le_of_ble_eq_true rfl, Nat.le_of_ble_eq_true rfl, fun _ => rfl⟩ H
    · replace H := H2 hc
      clear H1 H2
      refine J_iload_n dX8_sizes_20 3 rfl ?_
      refine J_bipush (v := 99) dX8_sizes_21 (by decide) ?_
      refine J_callS (As := [.int i3, .int 99]) (S := []) dX8_sizes_23 mX8_isWithin_ok kX8_172 rfl (by decide) (Nat.le_of_ble_eq_true rfl) rfl (Nat.le_of_ble_eq_true rfl) ⟨Nat.le_of_ble_eq_true rfl, Nat.le_of_ble_eq_true rfl⟩ (fun k h' hp => ?_) H (fun r h5 hp => ?_)
      · obtain ⟨_, hv, -⟩ := hp; cases hv
      obtain ⟨v6, rfl, H⟩ := hp
      show am_J l g mX8_sizes (d + 1) (0, 0, x) 26 [(0, .ref a0), (1, .int i1), (2, .int i2), (3, .int i3)] [.int v6] h5 Q
      obtain ⟨H1, H2⟩ := H
      refine J_if_ne (tgt := 31) dX8_sizes_26 (by decide) (fun hc => ?_) (fun hc => ?_)
      · replace H := H1 hc
        clear H1 H2
        refine J_aload_n dX8_sizes_31 0 rfl ?_
        refine J_iload_n dX8_sizes_32 1 rfl ?_
        obtain ⟨fs, hh, hk, H⟩ := H
        refine J_put dX8_sizes_33 fX8_65 rfl rfl hh hk ?_
        generalize List.set h5 a0 (am_O 8 (List.set fs 7 (.int i1))) = h7 at H ⊢
        clear hh hk
        refine J_aload_n dX8_sizes_36 0 rfl ?_
        refine J_iload_n dX8_sizes_37 2 rfl ?_
        obtain ⟨fs, hh, hk, H⟩ := H
        refine J_put dX8_sizes_38 fX8_69 rfl rfl hh hk ?_
        generalize List.set h7 a0 (am_O 8 (List.set fs 8 (.int i2))) = h8 at H ⊢
        clear hh hk
        refine J_aload_n dX8_sizes_41 0 rfl ?_
        refine J_iload_n dX8_sizes_42 3 rfl ?_
        obtain ⟨fs, hh, hk, H⟩ := H
        refine J_put dX8_sizes_43 fX8_72 rfl rfl hh hk ?_
        generalize List.set h8 a0 (am_O 8 (List.set fs 9 (.int i3))) = h9 at H ⊢
        clear hh hk
        refine J_iconst (v := 1) dX8_sizes_46 (by decide) ?_
        exact J_iret dX8_sizes_47 ⟨_, rfl, rfl⟩ ⟨Nat.le_of_ble_eq_true rfl, Nat.le_of_ble_eq_true rfl, fun _ => rfl⟩ H
      · replace H := H2 hc
        clear H1 H2
        refine J_iconst (v := 0) dX8_sizes_29 (by decide) ?_
        exact J_iret dX8_sizes_30 ⟨_, rfl, rfl⟩ ⟨Nat.le_of_ble_eq_true rfl, Nat.le_of_ble_eq_true rfl, fun _ => rfl⟩ H
theorem eX8_sizes {l : Launch} {g : am_G} {d : Nat} {x : Bool} {a0 : Nat} {i1 : Int32} {i2 : Int32} {i3 : Int32} {h : am_H} {K : Int32 → am_H → Prop} (H : zX8_sizes_0 l g d x a0 i1 i2 i3 h (fun r h' => ∃ v, r = some (.int v) ∧ K v h')) : cl_I l g mX8_sizes (d + 1) x [.ref a0, .int i1, .int i2, .int i3] h K := rX8_sizes_0 H
def zX8_count_0 (l : Launch) (g : am_G) (d : Nat) (x : Bool) (a0 : Nat) (i1 : Int32) (h : am_H) (Q : Option Value → am_H → Prop) : Prop := ((Int32.toInt i1 < 0 ∨ 12 < Int32.toInt i1 → Q (some (.int (-1))) h) ∧ (i1 = 0 → gt_R h a0 8 2 (fun v1 => cv_I l g mX0_ringsThere d x 0 v1 [] h (fun v3 h2 => Q (some (.int v3)) h2))) ∧ (i1 = 1 → gt_R h a0 8 2 (fun v4 => cv_I l g mX0_allLinks d x 0 v4 [] h (fun v6 h5 => Q (some (.int v6)) h5))) ∧ (i1 = 2 → gt_R h a0 8 3 (fun v7 => cv_N l g mX3_refresh d x 3 v7 [] h (fun h8 => gt_R h8 a0 8 3 (fun v10 => gt_I h8 v10 3 11 (fun v11 => Q (some (.int v11)) h8))))) ∧ (i1 = 3 → gt_R h a0 8 2 (fun v12 => cv_I l g mX0_fullRings d x 0 v12 [] h (fun v14 h13 => Q (some (.int v14)) h13))) ∧ (i1 = 4 → cv_I l g mX8_bindingRings d x 8 a0 [] h (fun v16 h15 => Q (some (.int v16)) h15)) ∧ (i1 = 5 → gt_R h a0 8 3 (fun v17 => cv_N l g mX3_refresh d x 3 v17 [] h (fun h18 => gt_R h18 a0 8 3 (fun v20 => gt_I h18 v20 3 12 (fun v21 => Q (some (.int v21)) h18))))) ∧ (i1 = 6 → cv_I l g mX8_wireOfAll d x 8 a0 [] h (fun v23 h22 => Q (some (.int v23)) h22)) ∧ (i1 = 7 → cv_I l g mX8_weightOfAll d x 8 a0 [] h (fun v25 h24 => Q (some (.int v25)) h24)) ∧ (i1 = 8 → gt_R h a0 8 2 (fun v26 => gt_I h v26 0 7 (fun v27 => Q (some (.int v27)) h))) ∧ (i1 = 9 → gt_R h a0 8 5 (fun v28 => gt_I h v28 7 5 (fun v29 => Q (some (.int v29)) h))) ∧ (i1 = 10 → gt_R h a0 8 5 (fun v30 => gt_I h v30 7 6 (fun v31 => Q (some (.int v31)) h))) ∧ (i1 = 11 → gt_R h a0 8 0 (fun v32 => gt_I h v32 5 1 (fun v33 => Q (some (.int v33)) h))) ∧ (i1 = 12 → gt_R h a0 8 2 (fun v34 => cv_I l g mX0_wornRings d x 0 v34 [] h (fun v36 h35 => Q (some (.int v36)) h35))))
set_option maxRecDepth 4000 in
theorem rX8_count_0 {l : Launch} {g : am_G} {d : Nat} {x : Bool} {a0 : Nat} {i1 : Int32} {h : am_H} {Q : Option Value → am_H → Prop} (H : zX8_count_0 l g d x a0 i1 h Q) : am_J l g mX8_count (d + 1) (0, 0, x) 0 [(0, .ref a0), (1, .int i1)] [] h Q := by
  unfold zX8_count_0 at H
  refine J_iload_n dX8_count_0 1 rfl ?_
  obtain ⟨H0, H⟩ := H
  by_cases hsw : Int32.toInt i1 < 0 ∨ 12 < Int32.toInt i1
  · replace H := H0 hsw
    refine J_tableOut (tgt := 177) dX8_count_1 hsw (by decide) ?_
    refine J_iconst (v := (-1)) dX8_count_177 (by decide) ?_
    exact J_iret dX8_count_178 ⟨_, rfl, rfl⟩ ⟨Nat.le_of_ble_eq_true rfl, Nat.le_of_ble_eq_true rfl, fun _ => rfl⟩ H
  · rcases am_sw_0_12 hsw with he | he | he | he | he | he | he | he | he | he | he | he | he
    · replace H := H.1 he
      refine J_tableIn (off := 67) (tgt := 68) dX8_count_1 (by rw [he]; decide) (by rw [he]; decide) (by rw [he]; decide) (by decide) ?_
      refine J_aload_n dX8_count_68 0 rfl ?_
      obtain ⟨fs, v1, hh, hk, H⟩ := H
      refine J_get dX8_count_69 fX8_33 hh hk ?_
      clear hh hk
      obtain ⟨⟨fs, hh⟩, H⟩ := H
      refine J_callV (As := []) (S := []) (b := v1) dX8_count_72 mX0_ringsThere_ok kX8_175 rfl (by decide) (Nat.le_of_ble_eq_true rfl) hh rfl rfl (Nat.le_of_ble_eq_true rfl) ⟨Nat.le_of_ble_eq_true rfl, Nat.le_of_ble_eq_true rfl⟩ (fun k h' hp => ?_) H (fun r h2 hp => ?_)
      · obtain ⟨_, hv, -⟩ := hp; cases hv
      obtain ⟨v3, rfl, H⟩ := hp
      show am_J l g mX8_count (d + 1) (0, 0, x) 75 [(0, .ref a0), (1, .int i1)] [.int v3] h2 Q
      exact J_iret dX8_count_75 ⟨_, rfl, rfl⟩ ⟨Nat.le_of_ble_eq_true rfl, Nat.le_of_ble_eq_true rfl, fun _ => rfl⟩ H
    · replace H := H.2.1 he
      refine J_tableIn (off := 75) (tgt := 76) dX8_count_1 (by rw [he]; decide) (by rw [he]; decide) (by rw [he]; decide) (by decide) ?_
      refine J_aload_n dX8_count_76 0 rfl ?_
      obtain ⟨fs, v4, hh, hk, H⟩ := H
      refine J_get dX8_count_77 fX8_33 hh hk ?_
      clear hh hk
      obtain ⟨⟨fs, hh⟩, H⟩ := H
      refine J_callV (As := []) (S := []) (b := v4) dX8_count_80 mX0_allLinks_ok kX8_178 rfl (by decide) (Nat.le_of_ble_eq_true rfl) hh rfl rfl (Nat.le_of_ble_eq_true rfl) ⟨Nat.le_of_ble_eq_true rfl, Nat.le_of_ble_eq_true rfl⟩ (fun k h' hp => ?_) H (fun r h5 hp => ?_)
      · obtain ⟨_, hv, -⟩ := hp; cases hv
      obtain ⟨v6, rfl, H⟩ := hp
      show am_J l g mX8_count (d + 1) (0, 0, x) 83 [(0, .ref a0), (1, .int i1)] [.int v6] h5 Q
      exact J_iret dX8_count_83 ⟨_, rfl, rfl⟩ ⟨Nat.le_of_ble_eq_true rfl, Nat.le_of_ble_eq_true rfl, fun _ => rfl⟩ H
    · replace H := H.2.2.1 he
      refine J_tableIn (off := 83) (tgt := 84) dX8_count_1 (by rw [he]; decide) (by rw [he]; decide) (by rw [he]; decide) (by decide) ?_
      refine J_aload_n dX8_count_84 0 rfl ?_
      obtain ⟨fs, v7, hh, hk, H⟩ := H
      refine J_get dX8_count_85 fX8_42 hh hk ?_
      clear hh hk
      obtain ⟨⟨fs, hh⟩, H⟩ := H
      refine J_callV (As := []) (S := []) (b := v7) dX8_count_88 mX3_refresh_ok kX8_181 rfl (by decide) (Nat.le_of_ble_eq_true rfl) hh rfl rfl (Nat.le_of_ble_eq_true rfl) ⟨Nat.le_of_ble_eq_true rfl, Nat.le_of_ble_eq_true rfl⟩ (fun k h' hp => ?_) H (fun r h8 hp => ?_)
      · obtain ⟨hv, -⟩ := hp; cases hv
      obtain ⟨rfl, H⟩ := hp
      show am_J l g mX8_count (d + 1) (0, 0, x) 91 [(0, .ref a0), (1, .int i1)] [] h8 Q
      refine J_aload_n dX8_count_91 0 rfl ?_
      obtain ⟨fs, v10, hh, hk, H⟩ := H
      refine J_get dX8_count_92 fX8_42 hh hk ?_
      clear hh hk
      obtain ⟨fs, v11, hh, hk, H⟩ := H
      refine J_get dX8_count_95 fX8_182 hh hk ?_
      clear hh hk
      exact J_iret dX8_count_98 ⟨_, rfl, rfl⟩ ⟨Nat.le_of_ble_eq_true rfl, Nat.le_of_ble_eq_true rfl, fun _ => rfl⟩ H
    · replace H := H.2.2.2.1 he
      refine J_tableIn (off := 98) (tgt := 99) dX8_count_1 (by rw [he]; decide) (by rw [he]; decide) (by rw [he]; decide) (by decide) ?_
      refine J_aload_n dX8_count_99 0 rfl ?_
      obtain ⟨fs, v12, hh, hk, H⟩ := H
      refine J_get dX8_count_100 fX8_33 hh hk ?_
      clear hh hk
      obtain ⟨⟨fs, hh⟩, H⟩ := H
      refine J_callV (As := []) (S := []) (b := v12) dX8_count_103 mX0_fullRings_ok kX8_185 rfl (by decide) (Nat.le_of_ble_eq_true rfl) hh rfl rfl (Nat.le_of_ble_eq_true rfl) ⟨Nat.le_of_ble_eq_true rfl, Nat.le_of_ble_eq_true rfl⟩ (fun k h' hp => ?_) H (fun r h13 hp => ?_)
      · obtain ⟨_, hv, -⟩ := hp; cases hv
      obtain ⟨v14, rfl, H⟩ := hp
      show am_J l g mX8_count (d + 1) (0, 0, x) 106 [(0, .ref a0), (1, .int i1)] [.int v14] h13 Q
      exact J_iret dX8_count_106 ⟨_, rfl, rfl⟩ ⟨Nat.le_of_ble_eq_true rfl, Nat.le_of_ble_eq_true rfl, fun _ => rfl⟩ H
    · replace H := H.2.2.2.2.1 he
      refine J_tableIn (off := 106) (tgt := 107) dX8_count_1 (by rw [he]; decide) (by rw [he]; decide) (by rw [he]; decide) (by decide) ?_
      refine J_aload_n dX8_count_107 0 rfl ?_
      obtain ⟨⟨fs, hh⟩, H⟩ := H
      refine J_callV (As := []) (S := []) (b := a0) dX8_count_108 mX8_bindingRings_ok kX8_188 rfl (by decide) (Nat.le_of_ble_eq_true rfl) hh rfl rfl (Nat.le_of_ble_eq_true rfl) ⟨Nat.le_of_ble_eq_true rfl, Nat.le_of_ble_eq_true rfl⟩ (fun k h' hp => ?_) H (fun r h15 hp => ?_)
      · obtain ⟨_, hv, -⟩ := hp; cases hv
      obtain ⟨v16, rfl, H⟩ := hp
      show am_J l g mX8_count (d + 1) (0, 0, x) 111 [(0, .ref a0), (1, .int i1)] [.int v16] h15 Q
      exact J_iret dX8_count_111 ⟨_, rfl, rfl⟩ ⟨Nat.le_of_ble_eq_true rfl, Nat.le_of_ble_eq_true rfl, fun _ => rfl⟩ H
    · replace H := H.2.2.2.2.2.1 he
      refine J_tableIn (off := 111) (tgt := 112) dX8_count_1 (by rw [he]; decide) (by rw [he]; decide) (by rw [he]; decide) (by decide) ?_
      refine J_aload_n dX8_count_112 0 rfl ?_
      obtain ⟨fs, v17, hh, hk, H⟩ := H
      refine J_get dX8_count_113 fX8_42 hh hk ?_
      clear hh hk
      obtain ⟨⟨fs, hh⟩, H⟩ := H
      refine J_callV (As := []) (S := []) (b := v17) dX8_count_116 mX3_refresh_ok kX8_181 rfl (by decide) (Nat.le_of_ble_eq_true rfl) hh rfl rfl (Nat.le_of_ble_eq_true rfl) ⟨Nat.le_of_ble_eq_true rfl, Nat.le_of_ble_eq_true rfl⟩ (fun k h' hp => ?_) H (fun r h18 hp => ?_)
      · obtain ⟨hv, -⟩ := hp; cases hv
      obtain ⟨rfl, H⟩ := hp
      show am_J l g mX8_count (d + 1) (0, 0, x) 119 [(0, .ref a0), (1, .int i1)] [] h18 Q
      refine J_aload_n dX8_count_119 0 rfl ?_
      obtain ⟨fs, v20, hh, hk, H⟩ := H
      refine J_get dX8_count_120 fX8_42 hh hk ?_
      clear hh hk
      obtain ⟨fs, v21, hh, hk, H⟩ := H
      refine J_get dX8_count_123 fX8_191 hh hk ?_
      clear hh hk
      exact J_iret dX8_count_126 ⟨_, rfl, rfl⟩ ⟨Nat.le_of_ble_eq_true rfl, Nat.le_of_ble_eq_true rfl, fun _ => rfl⟩ H
    · replace H := H.2.2.2.2.2.2.1 he
      refine J_tableIn (off := 126) (tgt := 127) dX8_count_1 (by rw [he]; decide) (by rw [he]; decide) (by rw [he]; decide) (by decide) ?_
      refine J_aload_n dX8_count_127 0 rfl ?_
      obtain ⟨⟨fs, hh⟩, H⟩ := H
      refine J_callV (As := []) (S := []) (b := a0) dX8_count_128 mX8_wireOfAll_ok kX8_194 rfl (by decide) (Nat.le_of_ble_eq_true rfl) hh rfl rfl (Nat.le_of_ble_eq_true rfl) ⟨Nat.le_of_ble_eq_true rfl, Nat.le_of_ble_eq_true rfl⟩ (fun k h' hp => ?_) H (fun r h22 hp => ?_)
      · obtain ⟨_, hv, -⟩ := hp; cases hv
      obtain ⟨v23, rfl, H⟩ := hp
      show am_J l g mX8_count (d + 1) (0, 0, x) 131 [(0, .ref a0), (1, .int i1)] [.int v23] h22 Q
      exact J_iret dX8_count_131 ⟨_, rfl, rfl⟩ ⟨Nat.le_of_ble_eq_true rfl, Nat.le_of_ble_eq_true rfl, fun _ => rfl⟩ H
    · replace H := H.2.2.2.2.2.2.2.1 he
      refine J_tableIn (off := 131) (tgt := 132) dX8_count_1 (by rw [he]; decide) (by rw [he]; decide) (by rw [he]; decide) (by decide) ?_
      refine J_aload_n dX8_count_132 0 rfl ?_
      obtain ⟨⟨fs, hh⟩, H⟩ := H
      refine J_callV (As := []) (S := []) (b := a0) dX8_count_133 mX8_weightOfAll_ok kX8_197 rfl (by decide) (Nat.le_of_ble_eq_true rfl) hh rfl rfl (Nat.le_of_ble_eq_true rfl) ⟨Nat.le_of_ble_eq_true rfl, Nat.le_of_ble_eq_true rfl⟩ (fun k h' hp => ?_) H (fun r h24 hp => ?_)
      · obtain ⟨_, hv, -⟩ := hp; cases hv
      obtain ⟨v25, rfl, H⟩ := hp
      show am_J l g mX8_count (d + 1) (0, 0, x) 136 [(0, .ref a0), (1, .int i1)] [.int v25] h24 Q
      exact J_iret dX8_count_136 ⟨_, rfl, rfl⟩ ⟨Nat.le_of_ble_eq_true rfl, Nat.le_of_ble_eq_true rfl, fun _ => rfl⟩ H
    · replace H := H.2.2.2.2.2.2.2.2.1 he
      refine J_tableIn (off := 136) (tgt := 137) dX8_count_1 (by rw [he]; decide) (by rw [he]; decide) (by rw [he]; decide) (by decide) ?_
      refine J_aload_n dX8_count_137 0 rfl ?_
      obtain ⟨fs, v26, hh, hk, H⟩ := H
      refine J_get dX8_count_138 fX8_33 hh hk ?_
      clear hh hk
      obtain ⟨fs, v27, hh, hk, H⟩ := H
      refine J_get dX8_count_141 fX8_100 hh hk ?_
      clear hh hk
      exact J_iret dX8_count_144 ⟨_, rfl, rfl⟩ ⟨Nat.le_of_ble_eq_true rfl, Nat.le_of_ble_eq_true rfl, fun _ => rfl⟩ H
    · replace H := H.2.2.2.2.2.2.2.2.2.1 he
      refine J_tableIn (off := 144) (tgt := 145) dX8_count_1 (by rw [he]; decide) (by rw [he]; decide) (by rw [he]; decide) (by decide) ?_
      refine J_aload_n dX8_count_145 0 rfl ?_
      obtain ⟨fs, v28, hh, hk, H⟩ := H
      refine J_get dX8_count_146 fX8_58 hh hk ?_
      clear hh hk
      obtain ⟨fs, v29, hh, hk, H⟩ := H
      refine J_get dX8_count_149 fX8_89 hh hk ?_
      clear hh hk
      exact J_iret dX8_count_152 ⟨_, rfl, rfl⟩ ⟨Nat.le_of_ble_eq_true rfl, Nat.le_of_ble_eq_true rfl, fun _ => rfl⟩ H
    · replace H := H.2.2.2.2.2.2.2.2.2.2.1 he
      refine J_tableIn (off := 152) (tgt := 153) dX8_count_1 (by rw [he]; decide) (by rw [he]; decide) (by rw [he]; decide) (by decide) ?_
      refine J_aload_n dX8_count_153 0 rfl ?_
      obtain ⟨fs, v30, hh, hk, H⟩ := H
      refine J_get dX8_count_154 fX8_58 hh hk ?_
      clear hh hk
      obtain ⟨fs, v31, hh, hk, H⟩ := H
      refine J_get dX8_count_157 fX8_200 hh hk ?_
      clear hh hk
      exact J_iret dX8_count_160 ⟨_, rfl, rfl⟩ ⟨Nat.le_of_ble_eq_true rfl, Nat.le_of_ble_eq_true rfl, fun _ => rfl⟩ H
    · replace H := H.2.2.2.2.2.2.2.2.2.2.2.1 he
      refine J_tableIn (off := 160) (tgt := 161) dX8_count_1 (by rw [he]; decide) (by rw [he]; decide) (by rw [he]; decide) (by decide) ?_
      refine J_aload_n dX8_count_161 0 rfl ?_
      obtain ⟨fs, v32, hh, hk, H⟩ := H
      refine J_get dX8_count_162 fX8_10 hh hk ?_
      clear hh hk
      obtain ⟨fs, v33, hh, hk, H⟩ := H
      refine J_get dX8_count_165 fX8_79 hh hk ?_
      clear hh hk
      exact J_iret dX8_count_168 ⟨_, rfl, rfl⟩ ⟨Nat.le_of_ble_eq_true rfl, Nat.le_of_ble_eq_true rfl, fun _ => rfl⟩ H
    · replace H := H.2.2.2.2.2.2.2.2.2.2.2.2 he
      refine J_tableIn (off := 168) (tgt := 169) dX8_count_1 (by rw [he]; decide) (by rw [he]; decide) (by rw [he]; decide) (by decide) ?_
      refine J_aload_n dX8_count_169 0 rfl ?_
      obtain ⟨fs, v34, hh, hk, H⟩ := H
      refine J_get dX8_count_170 fX8_33 hh hk ?_
      clear hh hk
      obtain ⟨⟨fs, hh⟩, H⟩ := H
      refine J_callV (As := []) (S := []) (b := v34) dX8_count_173 mX0_wornRings_ok kX8_203 rfl (by decide) (Nat.le_of_ble_eq_true rfl) hh rfl rfl (Nat.le_of_ble_eq_true rfl) ⟨Nat.le_of_ble_eq_true rfl, Nat.le_of_ble_eq_true rfl⟩ (fun k h' hp => ?_) H (fun r h35 hp => ?_)
      · obtain ⟨_, hv, -⟩ := hp; cases hv
      obtain ⟨v36, rfl, H⟩ := hp
      show am_J l g mX8_count (d + 1) (0, 0, x) 176 [(0, .ref a0), (1, .int i1)] [.int v36] h35 Q
      exact J_iret dX8_count_176 ⟨_, rfl, rfl⟩ ⟨Nat.le_of_ble_eq_true rfl, Nat.le_of_ble_eq_true rfl, fun _ => rfl⟩ H
theorem eX8_count {l : Launch} {g : am_G} {d : Nat} {x : Bool} {a0 : Nat} {i1 : Int32} {h : am_H} {K : Int32 → am_H → Prop} (H : zX8_count_0 l g d x a0 i1 h (fun r h' => ∃ v, r = some (.int v) ∧ K v h')) : cl_I l g mX8_count (d + 1) x [.ref a0, .int i1] h K := rX8_count_0 H
def zX8_lookAtOneThere_0 (l : Launch) (g : am_G) (d : Nat) (x : Bool) (a0 : Nat) (i1 : Int32) (i2 : Int32) (h : am_H) (Q : Option Value → am_H → Prop) : Prop := ((Int32.toInt i2 < 1 ∨ 5 < Int32.toInt i2 → gt_R h a0 8 3 (fun v1 => cv_N l g mX3_refresh d x 3 v1 [] h (fun h2 => gt_R h2 a0 8 3 (fun v4 => gt_R h2 v4 3 8 (fun v5 => al_I 0 h2 v5 i1 (fun v6 => Q (some (.int v6)) h2)))))) ∧ (i2 = 1 → gt_R h a0 8 2 (fun v7 => cv_I l g mX0_linksOf d x 0 v7 [.int i1] h (fun v9 h8 => Q (some (.int v9)) h8))) ∧ (i2 = 2 → gt_R h a0 8 2 (fun v10 => cv_I l g mX0_isFull d x 0 v10 [.int i1] h (fun v12 h11 => cs_I l g mX8_asNumber d x [.int v12] h11 (fun v14 h13 => Q (some (.int v14)) h13)))) ∧ (i2 = 3 → cv_I l g mX8_binds d x 8 a0 [.int i1] h (fun v16 h15 => cs_I l g mX8_asNumber d x [.int v16] h15 (fun v18 h17 => Q (some (.int v18)) h17))) ∧ (i2 = 4 → gt_R h a0 8 3 (fun v19 => cv_N l g mX3_refresh d x 3 v19 [] h (fun h20 => gt_R h20 a0 8 3 (fun v22 => gt_R h20 v22 3 10 (fun v23 => al_I 2 h20 v23 i1 (fun v24 => cs_I l g mX8_asNumber d x [.int v24] h20 (fun v26 h25 => Q (some (.int v26)) h25))))))) ∧ (i2 = 5 → gt_R h a0 8 4 (fun v27 => cv_N l g mX1_refresh d x 1 v27 [] h (fun h28 => gt_R h28 a0 8 4 (fun v30 => cv_I l g mX1_isOpened d x 1 v30 [.int i1] h28 (fun v32 h31 => cs_I l g mX8_asNumber d x [.int v32] h31 (fun v34 h33 => Q (some (.int v34)) h33)))))))
set_option maxRecDepth 4000 in
theorem rX8_lookAtOneThere_0 {l : Launch} {g : am_G} {d : Nat} {x : Bool} {a0 : Nat} {i1 : Int32} {i2 : Int32} {h : am_H} {Q : Option Value → am_H → Prop} (H : zX8_lookAtOneThere_0 l g d x a0 i1 i2 h Q) : am_J l g mX8_lookAtOneThere (d + 1) (0, 0, x) 0 [(0, .ref a0), (1, .int i1), (2, .int i2)] [] h Q := by
  unfold zX8_lookAtOneThere_0 at H
  refine J_iload_n dX8_lookAtOneThere_0 2 rfl ?_
  obtain ⟨H0, H⟩ := H
  by_cases hsw : Int32.toInt i2 < 1 ∨ 5 < Int32.toInt i2
  · replace H := H0 hsw
    refine J_tableOut (tgt := 105) dX8_lookAtOneThere_1 hsw (by decide) ?_
    refine J_aload_n dX8_lookAtOneThere_105 0 rfl ?_
    obtain ⟨fs, v1, hh, hk, H⟩ := H
    refine J_get dX8_lookAtOneThere_106 fX8_42 hh hk ?_
    clear hh hk
    obtain ⟨⟨fs, hh⟩, H⟩ := H
    refine J_callV (As := []) (S := []) (b := v1) dX8_lookAtOneThere_109 mX3_refresh_ok kX8_181 rfl (by decide) (Nat.le_of_ble_eq_true rfl) hh rfl rfl (Nat.le_of_ble_eq_true rfl) ⟨Nat.le_of_ble_eq_true rfl, Nat.le_of_ble_eq_true rfl⟩ (fun k h' hp => ?_) H (fun r h2 hp => ?_)
    · obtain ⟨hv, -⟩ := hp; cases hv
    obtain ⟨rfl, H⟩ := hp
    show am_J l g mX8_lookAtOneThere (d + 1) (0, 0, x) 112 [(0, .ref a0), (1, .int i1), (2, .int i2)] [] h2 Q
    refine J_aload_n dX8_lookAtOneThere_112 0 rfl ?_
    obtain ⟨fs, v4, hh, hk, H⟩ := H
    refine J_get dX8_lookAtOneThere_113 fX8_42 hh hk ?_
    clear hh hk
    obtain ⟨fs, v5, hh, hk, H⟩ := H
    refine J_get dX8_lookAtOneThere_116 fX8_222 hh hk ?_
    clear hh hk
    refine J_iload_n dX8_lookAtOneThere_119 1 rfl ?_
    obtain ⟨nn, ff, hh, hk, H⟩ := H
    refine J_iald dX8_lookAtOneThere_120 hh hk ?_
    generalize ff (Int32.toNatClampNeg i1) = v6 at H ⊢
    clear hh hk ff
    exact J_iret dX8_lookAtOneThere_121 ⟨_, rfl, rfl⟩ ⟨Nat.le_of_ble_eq_true rfl, Nat.le_of_ble_eq_true rfl, fun _ => rfl⟩ H
  · rcases am_sw_1_5 hsw with he | he | he | he | he
    · replace H := H.1 he
      refine J_tableIn (off := 35) (tgt := 36) dX8_lookAtOneThere_1 (by rw [he]; decide) (by rw [he]; decide) (by rw [he]; decide) (by decide) ?_
      refine J_aload_n dX8_lookAtOneThere_36 0 rfl ?_
      obtain ⟨fs, v7, hh, hk, H⟩ := H
      refine J_get dX8_lookAtOneThere_37 fX8_33 hh hk ?_
      clear hh hk
      refine J_iload_n dX8_lookAtOneThere_40 1 rfl ?_
      obtain ⟨⟨fs, hh⟩, H⟩ := H
      refine J_callV (As := [.int i1]) (S := []) (b := v7) dX8_lookAtOneThere_41 mX0_linksOf_ok kX8_206 rfl (by decide) (Nat.le_of_ble_eq_true rfl) hh rfl rfl (Nat.le_of_ble_eq_true rfl) ⟨Nat.le_of_ble_eq_true rfl, Nat.le_of_ble_eq_true rfl⟩ (fun k h' hp => ?_) H (fun r h8 hp => ?_)
      · obtain ⟨_, hv, -⟩ := hp; cases hv
      obtain ⟨v9, rfl, H⟩ := hp
      show am_J l g mX8_lookAtOneThere (d + 1) (0, 0, x) 44 [(0, .ref a0), (1, .int i1), (2, .int i2)] [.int v9] h8 Q
      exact J_iret dX8_lookAtOneThere_44 ⟨_, rfl, rfl⟩ ⟨Nat.le_of_ble_eq_true rfl, Nat.le_of_ble_eq_true rfl, fun _ => rfl⟩ H
    · replace H := H.2.1 he
      refine J_tableIn (off := 44) (tgt := 45) dX8_lookAtOneThere_1 (by rw [he]; decide) (by rw [he]; decide) (by rw [he]; decide) (by decide) ?_
      refine J_aload_n dX8_lookAtOneThere_45 0 rfl ?_
      obtain ⟨fs, v10, hh, hk, H⟩ := H
      refine J_get dX8_lookAtOneThere_46 fX8_33 hh hk ?_
      clear hh hk
      refine J_iload_n dX8_lookAtOneThere_49 1 rfl ?_
      obtain ⟨⟨fs, hh⟩, H⟩ := H
      refine J_callV (As := [.int i1]) (S := []) (b := v10) dX8_lookAtOneThere_50 mX0_isFull_ok kX8_209 rfl (by decide) (Nat.le_of_ble_eq_true rfl) hh rfl rfl (Nat.le_of_ble_eq_true rfl) ⟨Nat.le_of_ble_eq_true rfl, Nat.le_of_ble_eq_true rfl⟩ (fun k h' hp => ?_) H (fun r h11 hp => ?_)
      · obtain ⟨_, hv, -⟩ := hp; cases hv
      obtain ⟨v12, rfl, H⟩ := hp
      show am_J l g mX8_lookAtOneThere (d + 1) (0, 0, x) 53 [(0, .ref a0), (1, .int i1), (2, .int i2)] [.int v12] h11 Q
      refine J_callS (As := [.int v12]) (S := []) dX8_lookAtOneThere_53 mX8_asNumber_ok kX8_142 rfl (by decide) (Nat.le_of_ble_eq_true rfl) rfl (Nat.le_of_ble_eq_true rfl) ⟨Nat.le_of_ble_eq_true rfl, Nat.le_of_ble_eq_true rfl⟩ (fun k h' hp => ?_) H (fun r h13 hp => ?_)
      · obtain ⟨_, hv, -⟩ := hp; cases hv
      obtain ⟨v14, rfl, H⟩ := hp
      show am_J l g mX8_lookAtOneThere (d + 1) (0, 0, x) 56 [(0, .ref a0), (1, .int i1), (2, .int i2)] [.int v14] h13 Q
      exact J_iret dX8_lookAtOneThere_56 ⟨_, rfl, rfl⟩ ⟨Nat.le_of_ble_eq_true rfl, Nat.le_of_ble_eq_true rfl, fun _ => rfl⟩ H
    · replace H := H.2.2.1 he
      refine J_tableIn (off := 56) (tgt := 57) dX8_lookAtOneThere_1 (by rw [he]; decide) (by rw [he]; decide) (by rw [he]; decide) (by decide) ?_
      refine J_aload_n dX8_lookAtOneThere_57 0 rfl ?_
      refine J_iload_n dX8_lookAtOneThere_58 1 rfl ?_
      obtain ⟨⟨fs, hh⟩, H⟩ := H
      refine J_callV (As := [.int i1]) (S := []) (b := a0) dX8_lookAtOneThere_59 mX8_binds_ok kX8_212 rfl (by decide) (Nat.le_of_ble_eq_true rfl) hh rfl rfl (Nat.le_of_ble_eq_true rfl) ⟨Nat.le_of_ble_eq_true rfl, Nat.le_of_ble_eq_true rfl⟩ (fun k h' hp => ?_) H (fun r h15 hp => ?_)
      · obtain ⟨_, hv, -⟩ := hp; cases hv
      obtain ⟨v16, rfl, H⟩ := hp
      show am_J l g mX8_lookAtOneThere (d + 1) (0, 0, x) 62 [(0, .ref a0), (1, .int i1), (2, .int i2)] [.int v16] h15 Q
      refine J_callS (As := [.int v16]) (S := []) dX8_lookAtOneThere_62 mX8_asNumber_ok kX8_142 rfl (by decide) (Nat.le_of_ble_eq_true rfl) rfl (Nat.le_of_ble_eq_true rfl) ⟨Nat.le_of_ble_eq_true rfl, Nat.le_of_ble_eq_true rfl⟩ (fun k h' hp => ?_) H (fun r h17 hp => ?_)
      · obtain ⟨_, hv, -⟩ := hp; cases hv
      obtain ⟨v18, rfl, H⟩ := hp
      show am_J l g mX8_lookAtOneThere (d + 1) (0, 0, x) 65 [(0, .ref a0), (1, .int i1), (2, .int i2)] [.int v18] h17 Q
      exact J_iret dX8_lookAtOneThere_65 ⟨_, rfl, rfl⟩ ⟨Nat.le_of_ble_eq_true rfl, Nat.le_of_ble_eq_true rfl, fun _ => rfl⟩ H
    · replace H := H.2.2.2.1 he
      refine J_tableIn (off := 65) (tgt := 66) dX8_lookAtOneThere_1 (by rw [he]; decide) (by rw [he]; decide) (by rw [he]; decide) (by decide) ?_
      refine J_aload_n dX8_lookAtOneThere_66 0 rfl ?_
      obtain ⟨fs, v19, hh, hk, H⟩ := H
      refine J_get dX8_lookAtOneThere_67 fX8_42 hh hk ?_
      clear hh hk
      obtain ⟨⟨fs, hh⟩, H⟩ := H
      refine J_callV (As := []) (S := []) (b := v19) dX8_lookAtOneThere_70 mX3_refresh_ok kX8_181 rfl (by decide) (Nat.le_of_ble_eq_true rfl) hh rfl rfl (Nat.le_of_ble_eq_true rfl) ⟨Nat.le_of_ble_eq_true rfl, Nat.le_of_ble_eq_true rfl⟩ (fun k h' hp => ?_) H (fun r h20 hp => ?_)
      · obtain ⟨hv, -⟩ := hp; cases hv
      obtain ⟨rfl, H⟩ := hp
      show am_J l g mX8_lookAtOneThere (d + 1) (0, 0, x) 73 [(0, .ref a0), (1, .int i1), (2, .int i2)] [] h20 Q
      refine J_aload_n dX8_lookAtOneThere_73 0 rfl ?_
      obtain ⟨fs, v22, hh, hk, H⟩ := H
      refine J_get dX8_lookAtOneThere_74 fX8_42 hh hk ?_
      clear hh hk
      obtain ⟨fs, v23, hh, hk, H⟩ := H
      refine J_get dX8_lookAtOneThere_77 fX8_215 hh hk ?_
      clear hh hk
      refine J_iload_n dX8_lookAtOneThere_80 1 rfl ?_
      obtain ⟨nn, ff, hh, hk, H⟩ := H
      refine J_zald dX8_lookAtOneThere_81 hh hk ?_
      generalize ff (Int32.toNatClampNeg i1) = v24 at H ⊢
      clear hh hk ff
      refine J_callS (As := [.int v24]) (S := []) dX8_lookAtOneThere_82 mX8_asNumber_ok kX8_142 rfl (by decide) (Nat.le_of_ble_eq_true rfl) rfl (Nat.le_of_ble_eq_true rfl) ⟨Nat.le_of_ble_eq_true rfl, Nat.le_of_ble_eq_true rfl⟩ (fun k h' hp => ?_) H (fun r h25 hp => ?_)
      · obtain ⟨_, hv, -⟩ := hp; cases hv
      obtain ⟨v26, rfl, H⟩ := hp
      show am_J l g mX8_lookAtOneThere (d + 1) (0, 0, x) 85 [(0, .ref a0), (1, .int i1), (2, .int i2)] [.int v26] h25 Q
      exact J_iret dX8_lookAtOneThere_85 ⟨_, rfl, rfl⟩ ⟨Nat.le_of_ble_eq_true rfl, Nat.le_of_ble_eq_true rfl, fun _ => rfl⟩ H
    · replace H := H.2.2.2.2 he
      refine J_tableIn (off := 85) (tgt := 86) dX8_lookAtOneThere_1 (by rw [he]; decide) (by rw [he]; decide) (by rw [he]; decide) (by decide) ?_
      refine J_aload_n dX8_lookAtOneThere_86 0 rfl ?_
      obtain ⟨fs, v27, hh, hk, H⟩ := H
      refine J_get dX8_lookAtOneThere_87 fX8_51 hh hk ?_
      clear hh hk
      obtain ⟨⟨fs, hh⟩, H⟩ := H
      refine J_callV (As := []) (S := []) (b := v27) dX8_lookAtOneThere_90 mX1_refresh_ok kX8_158 rfl (by decide) (Nat.le_of_ble_eq_true rfl) hh rfl rfl (Nat.le_of_ble_eq_true rfl) ⟨Nat.le_of_ble_eq_true rfl, Nat.le_of_ble_eq_true rfl⟩ (fun k h' hp => ?_) H (fun r h28 hp => ?_)
      · obtain ⟨hv, -⟩ := hp; cases hv
      obtain ⟨rfl, H⟩ := hp
      show am_J l g mX8_lookAtOneThere (d + 1) (0, 0, x) 93 [(0, .ref a0), (1, .int i1), (2, .int i2)] [] h28 Q
      refine J_aload_n dX8_lookAtOneThere_93 0 rfl ?_
      obtain ⟨fs, v30, hh, hk, H⟩ := H
      refine J_get dX8_lookAtOneThere_94 fX8_51 hh hk ?_
      clear hh hk
      refine J_iload_n dX8_lookAtOneThere_97 1 rfl ?_
      obtain ⟨⟨fs, hh⟩, H⟩ := H
      refine J_callV (As := [.int i1]) (S := []) (b := v30) dX8_lookAtOneThere_98 mX1_isOpened_ok kX8_219 rfl (by decide) (Nat.le_of_ble_eq_true rfl) hh rfl rfl (Nat.le_of_ble_eq_true rfl) ⟨Nat.le_of_ble_eq_true rfl, Nat.le_of_ble_eq_true rfl⟩ (fun k h' hp => ?_) H (fun r h31 hp => ?_)
      · obtain ⟨_, hv, -⟩ := hp; cases hv
      obtain ⟨v32, rfl, H⟩ := hp
      show am_J l g mX8_lookAtOneThere (d + 1) (0, 0, x) 101 [(0, .ref a0), (1, .int i1), (2, .int i2)] [.int v32] h31 Q
      refine J_callS (As := [.int v32]) (S := []) dX8_lookAtOneThere_101 mX8_asNumber_ok kX8_142 rfl (by decide) (Nat.le_of_ble_eq_true rfl) rfl (Nat.le_of_ble_eq_true rfl) ⟨Nat.le_of_ble_eq_true rfl, Nat.le_of_ble_eq_true rfl⟩ (fun k h' hp => ?_) H (fun r h33 hp => ?_)
      · obtain ⟨_, hv, -⟩ := hp; cases hv
      obtain ⟨v34, rfl, H⟩ := hp
      show am_J l g mX8_lookAtOneThere (d + 1) (0, 0, x) 104 [(0, .ref a0), (1, .int i1), (2, .int i2)] [.int v34] h33 Q
      exact J_iret dX8_lookAtOneThere_104 ⟨_, rfl, rfl⟩ ⟨Nat.le_of_ble_eq_true rfl, Nat.le_of_ble_eq_true rfl, fun _ => rfl⟩ H
theorem eX8_lookAtOneThere {l : Launch} {g : am_G} {d : Nat} {x : Bool} {a0 : Nat} {i1 : Int32} {i2 : Int32} {h : am_H} {K : Int32 → am_H → Prop} (H : zX8_lookAtOneThere_0 l g d x a0 i1 i2 h (fun r h' => ∃ v, r = some (.int v) ∧ K v h')) : cl_I l g mX8_lookAtOneThere (d + 1) x [.ref a0, .int i1, .int i2] h K := rX8_lookAtOneThere_0 H
def zX8_binds_0 (l : Launch) (g : am_G) (d : Nat) (x : Bool) (a0 : Nat) (i1 : Int32) (h : am_H) (Q : Option Value → am_H → Prop) : Prop := gt_R h a0 8 2 (fun v1 => cv_I l g mX0_linksOf d x 0 v1 [.int i1] h (fun v3 h2 => ((v3 ≤ 0 → Q (some (.int 0)) h2) ∧ (¬ v3 ≤ 0 → gt_I h2 a0 8 8 (fun v4 => gt_I h2 a0 8 7 (fun v5 => cs_I l g mX8_roomFor d x [.int v3] h2 (fun v7 h6 => (((v5 * v7) ≤ (1000 * v4) → Q (some (.int 0)) h6) ∧ (¬ (v5 * v7) ≤ (1000 * v4) → Q (some (.int 1)) h6)))))))))
set_option maxRecDepth 4000 in
theorem rX8_binds_0 {l : Launch} {g : am_G} {d : Nat} {x : Bool} {a0 : Nat} {i1 : Int32} {h : am_H} {Q : Option Value → am_H → Prop} (H : zX8_binds_0 l g d x a0 i1 h Q) : am_J l g mX8_binds (d + 1) (0, 0, x) 0 [(0, .ref a0), (1, .int i1)] [] h Q := by
  unfold zX8_binds_0 at H
  refine J_aload_n dX8_binds_0 0 rfl ?_
  obtain ⟨fs, v1, hh, hk, H⟩ := H
  refine J_get dX8_binds_1 fX8_33 hh hk ?_
  clear hh hk
  refine J_iload_n dX8_binds_4 1 rfl ?_
  obtain ⟨⟨fs, hh⟩, H⟩ := H
  refine J_callV (As := [.int i1]) (S := []) (b := v1) dX8_binds_5 mX0_linksOf_ok kX8_206 rfl (by decide) (Nat.le_of_ble_eq_true rfl) hh rfl rfl (Nat.le_of_ble_eq_true rfl) ⟨Nat.le_of_ble_eq_true rfl, Nat.le_of_ble_eq_true rfl⟩ (fun k h' hp => ?_) H (fun r h2 hp => ?_)
  · obtain ⟨_, hv, -⟩ := hp; cases hv
  obtain ⟨v3, rfl, H⟩ := hp
  show am_J l g mX8_binds (d + 1) (0, 0, x) 8 [(0, .ref a0), (1, .int i1)] [.int v3] h2 Q
  refine J_istore_n (L' := [(2, .int v3), (0, .ref a0), (1, .int i1)]) dX8_binds_8 (by decide) rfl ?_
  refine J_iload_n dX8_binds_9 0 rfl ?_
  obtain ⟨H1, H2⟩ := H
  refine J_if_le (tgt := 37) dX8_binds_10 (by decide) (fun hc => ?_) (fun hc => ?_)
  · replace H := H1 hc
    clear H1 H2
    refine J_iconst (v := 0) dX8_binds_37 (by decide) ?_
    exact J_iret dX8_binds_38 ⟨_, rfl, rfl⟩ ⟨Nat.le_of_ble_eq_true rfl, Nat.le_of_ble_eq_true rfl, fun _ => rfl⟩ H
  · replace H := H2 hc
    clear H1 H2
    refine J_sipush (v := 1000) dX8_binds_13 (by decide) ?_
    refine J_aload_n dX8_binds_16 1 rfl ?_
    obtain ⟨fs, v4, hh, hk, H⟩ := H
    refine J_get dX8_binds_17 fX8_69 hh hk ?_
    clear hh hk
    refine J_imul dX8_binds_20 ?_
    refine J_aload_n dX8_binds_21 1 rfl ?_
    obtain ⟨fs, v5, hh, hk, H⟩ := H
    refine J_get dX8_binds_22 fX8_65 hh hk ?_
    clear hh hk
    refine J_iload_n dX8_binds_25 0 rfl ?_
    refine J_callS (As := [.int v3]) (S := [.int v5, .int (1000 * v4)]) dX8_binds_26 mX8_roomFor_ok kX8_225 rfl (by decide) (Nat.le_of_ble_eq_true rfl) rfl (Nat.le_of_ble_eq_true rfl) ⟨Nat.le_of_ble_eq_true rfl, Nat.le_of_ble_eq_true rfl⟩ (fun k h' hp => ?_) H (fun r h6 hp => ?_)
    · obtain ⟨_, hv, -⟩ := hp; cases hv
    obtain ⟨v7, rfl, H⟩ := hp
    show am_J l g mX8_binds (d + 1) (0, 0, x) 29 [(2, .int v3), (0, .ref a0), (1, .int i1)] [.int v7, .int v5, .int (1000 * v4)] h6 Q
    refine J_imul dX8_binds_29 ?_
    obtain ⟨H1, H2⟩ := H
    refine J_icmp_ge (tgt := 37) dX8_binds_30 (by decide) (fun hc => ?_) (fun hc => ?_)
    · replace H := H1 hc
      clear H1 H2
      refine J_iconst (v := 0) dX8_binds_37 (by decide) ?_
      exact J_iret dX8_binds_38 ⟨_, rfl, rfl⟩ ⟨Nat.le_of_ble_eq_true rfl, Nat.le_of_ble_eq_true rfl, fun _ => rfl⟩ H
    · replace H := H2 hc
      clear H1 H2
      refine J_iconst (v := 1) dX8_binds_33 (by decide) ?_
      refine J_goto (tgt := 38) dX8_binds_34 (by decide) ?_
      exact J_iret dX8_binds_38 ⟨_, rfl, rfl⟩ ⟨Nat.le_of_ble_eq_true rfl, Nat.le_of_ble_eq_true rfl, fun _ => rfl⟩ H
theorem eX8_binds {l : Launch} {g : am_G} {d : Nat} {x : Bool} {a0 : Nat} {i1 : Int32} {h : am_H} {K : Int32 → am_H → Prop} (H : zX8_binds_0 l g d x a0 i1 h (fun r h' => ∃ v, r = some (.int v) ∧ K v h')) : cl_I l g mX8_binds (d + 1) x [.ref a0, .int i1] h K := rX8_binds_0 H
