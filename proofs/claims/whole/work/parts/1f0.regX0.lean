def zX0_init_0 (l : Launch) (g : am_G) (d : Nat) (a0 : Nat) (h : am_H) (Q : Option Value → am_H → Prop) : Prop := ci_N l g mX7_init d true ((h).length) [] (h ++ [am_O 7 [.null, .null, .null, .null, .null, .int 0, .int 0]]) (fun h1 => pt_V h1 a0 0 0 (.ref ((h).length)) (fun h3 => pt_V (h3 ++ [am_I 2 300 (fun _ => 0)]) a0 0 1 (.ref ((h3).length)) (fun h4 => ci_N l g mX2_init300 d true ((h4).length) [.int 300] (h4 ++ [am_O 2 [.null]]) (fun h5 => pt_V h5 a0 0 2 (.ref ((h4).length)) (fun h7 => ci_N l g mX2_init300 d true ((h7).length) [.int 300] (h7 ++ [am_O 2 [.null]]) (fun h8 => pt_V h8 a0 0 3 (.ref ((h7).length)) (fun h10 => Q none h10)))))))
set_option maxRecDepth 4000 in
theorem rX0_init_0 {l : Launch} {g : am_G} {d : Nat} {a0 : Nat} {h : am_H} {Q : Option Value → am_H → Prop} (H : zX0_init_0 l g d a0 h Q) : am_J l g mX0_init (d + 1) (0, 0, true) 0 [(0, .ref a0)] [] h Q := by
  unfold zX0_init_0 at H
  refine J_aload_n dX0_init_0 0 rfl ?_
  refine J_objInit dX0_init_1 kX0_3 (Nat.le_of_ble_eq_true rfl) ?_
  refine J_aload_n dX0_init_4 0 rfl ?_
  refine J_new (ci := 7) (fs := [.null, .null, .null, .null, .null, .int 0, .int 0]) dX0_init_5 rfl gwX7 tyX7 tyX7_ok cX0_9 nX7 zX7 (by decide +kernel) rfl ⟨by decide, by decide⟩ ?_
  refine J_dup dX0_init_8 rfl ?_
  refine J_callI (As := []) (S := [.ref ((h).length), .ref a0]) (b := ((h).length)) dX0_init_9 mX7_init_ok rfl kX0_11 rfl (by decide) (Nat.le_of_ble_eq_true rfl) rfl (Nat.le_of_ble_eq_true rfl) ⟨by decide, by decide⟩ (fun k h' hp => ?_) H (fun r h1 hp => ?_)
  · obtain ⟨hv, -⟩ := hp; cases hv
  obtain ⟨rfl, H⟩ := hp
  show am_J l g mX0_init (d + 1) (6, 127, true) 12 [(0, .ref a0)] [.ref ((h).length), .ref a0] h1 Q
  obtain ⟨fs, hh, hk, H⟩ := H
  refine J_putF dX0_init_12 fX0_12 rfl rfl rfl rfl hh hk ?_
  generalize List.set h1 a0 (am_O 0 (List.set fs 0 (.ref ((h).length)))) = h3 at H ⊢
  clear hh hk
  refine J_aload_n dX0_init_15 0 rfl ?_
  refine J_sipush (v := 300) dX0_init_16 (by decide) ?_
  refine J_newaI (t := 2) (N' := 300) (ty := .boolean) dX0_init_19 rfl aw_boolean (by decide) (by decide +kernel) (by decide +kernel) (by decide +kernel) ⟨by decide +kernel, by decide +kernel⟩ ?_
  show am_J l g mX0_init (d + 1) (7, 427, true) 21 [(0, .ref a0)] [.ref ((h3).length), .ref a0] (h3 ++ [am_I 2 300 (fun _ => 0)]) Q
  obtain ⟨fs, hh, hk, H⟩ := H
  refine J_putF dX0_init_21 fX0_18 rfl rfl rfl rfl hh hk ?_
  generalize List.set (h3 ++ [am_I 2 300 (fun _ => 0)]) a0 (am_O 0 (List.set fs 1 (.ref ((h3).length)))) = h4 at H ⊢
  clear hh hk
  refine J_aload_n dX0_init_24 0 rfl ?_
  refine J_new (ci := 2) (fs := [.null]) dX0_init_25 rfl gwX2 tyX2 tyX2_ok cX0_22 nX2 zX2 (by decide +kernel) rfl ⟨by decide, by decide⟩ ?_
  refine J_dup dX0_init_28 rfl ?_
  refine J_sipush (v := 300) dX0_init_29 (by decide) ?_
  refine J_callI (As := [.int 300]) (S := [.ref ((h4).length), .ref a0]) (b := ((h4).length)) dX0_init_32 mX2_init300_ok rfl kX0_24 rfl (by decide) (Nat.le_of_ble_eq_true rfl) rfl (Nat.le_of_ble_eq_true rfl) ⟨by decide, by decide⟩ (fun k h' hp => ?_) H (fun r h5 hp => ?_)
  · obtain ⟨hv, -⟩ := hp; cases hv
  obtain ⟨rfl, H⟩ := hp
  show am_J l g mX0_init (d + 1) (9, 1928, true) 35 [(0, .ref a0)] [.ref ((h4).length), .ref a0] h5 Q
  obtain ⟨fs, hh, hk, H⟩ := H
  refine J_putF dX0_init_35 fX0_27 rfl rfl rfl rfl hh hk ?_
  generalize List.set h5 a0 (am_O 0 (List.set fs 2 (.ref ((h4).length)))) = h7 at H ⊢
  clear hh hk
  refine J_aload_n dX0_init_38 0 rfl ?_
  refine J_new (ci := 2) (fs := [.null]) dX0_init_39 rfl gwX2 tyX2 tyX2_ok cX0_22 nX2 zX2 (by decide +kernel) rfl ⟨by decide, by decide⟩ ?_
  refine J_dup dX0_init_42 rfl ?_
  refine J_sipush (v := 300) dX0_init_43 (by decide) ?_
  refine J_callI (As := [.int 300]) (S := [.ref ((h7).length), .ref a0]) (b := ((h7).length)) dX0_init_46 mX2_init300_ok rfl kX0_24 rfl (by decide) (Nat.le_of_ble_eq_true rfl) rfl (Nat.le_of_ble_eq_true rfl) ⟨by decide, by decide⟩ (fun k h' hp => ?_) H (fun r h8 hp => ?_)
  · obtain ⟨hv, -⟩ := hp; cases hv
  obtain ⟨rfl, H⟩ := hp
  show am_J l g mX0_init (d + 1) (11, 3429, true) 49 [(0, .ref a0)] [.ref ((h7).length), .ref a0] h8 Q
  obtain ⟨fs, hh, hk, H⟩ := H
  refine J_putF dX0_init_49 fX0_31 rfl rfl rfl rfl hh hk ?_
  generalize List.set h8 a0 (am_O 0 (List.set fs 3 (.ref ((h7).length)))) = h10 at H ⊢
  clear hh hk
  exact J_vret dX0_init_52 rfl ⟨by decide +kernel, by decide +kernel, fun _ => by decide +kernel⟩ H
theorem eX0_init {l : Launch} {g : am_G} {d : Nat} {a0 : Nat} {h : am_H} {K : am_H → Prop} (H : zX0_init_0 l g d a0 h (fun r h' => r = none ∧ K h')) : cl_N l g mX0_init (d + 1) true [.ref a0] h K := rX0_init_0 H
def zX0_layOut_112 (l : Launch) (g : am_G) (d : Nat) (x : Bool) (a0 : Nat) (i4 : Int32) (h : am_H) (Q : Option Value → am_H → Prop) : Prop := gt_I h a0 0 6 (fun v1 => ((v1 ≤ i4 → Q none h) ∧ (¬ v1 ≤ i4 → cv_N l g mX0_joinAsTold d x 0 a0 [.int i4] h (fun h2 => am_J l g mX0_layOut (d + 1) (0, 0, x) 112 [(0, .ref a0), (4, .int (i4 + 1))] [] h2 Q))))
set_option maxRecDepth 4000 in
theorem rX0_layOut_112 {l : Launch} {g : am_G} {d : Nat} {x : Bool} {a0 : Nat} {i4 : Int32} {h : am_H} {Q : Option Value → am_H → Prop} (H : zX0_layOut_112 l g d x a0 i4 h Q) : am_J l g mX0_layOut (d + 1) (0, 0, x) 112 [(0, .ref a0), (4, .int i4)] [] h Q := by
  unfold zX0_layOut_112 at H
  refine J_iload dX0_layOut_112 1 rfl ?_
  refine J_aload_n dX0_layOut_114 0 rfl ?_
  obtain ⟨fs, v1, hh, hk, H⟩ := H
  refine J_get dX0_layOut_115 fX0_48 hh hk ?_
  clear hh hk
  obtain ⟨H1, H2⟩ := H
  refine J_icmp_ge (tgt := 133) dX0_layOut_118 (by decide) (fun hc => ?_) (fun hc => ?_)
  · replace H := H1 hc
    clear H1 H2
    exact J_vret dX0_layOut_133 rfl ⟨Nat.le_of_ble_eq_true rfl, Nat.le_of_ble_eq_true rfl, fun _ => rfl⟩ H
  · replace H := H2 hc
    clear H1 H2
    refine J_aload_n dX0_layOut_121 0 rfl ?_
    refine J_iload dX0_layOut_122 1 rfl ?_
    obtain ⟨⟨fs, hh⟩, H⟩ := H
    refine J_callV (As := [.int i4]) (S := []) (b := a0) dX0_layOut_124 mX0_joinAsTold_ok kX0_60 rfl (by decide) (Nat.le_of_ble_eq_true rfl) hh rfl rfl (Nat.le_of_ble_eq_true rfl) ⟨Nat.le_of_ble_eq_true rfl, Nat.le_of_ble_eq_true rfl⟩ (fun k h' hp => ?_) H (fun r h2 hp => ?_)
    · obtain ⟨hv, -⟩ := hp; cases hv
    obtain ⟨rfl, H⟩ := hp
    show am_J l g mX0_layOut (d + 1) (0, 0, x) 127 [(0, .ref a0), (4, .int i4)] [] h2 Q
    refine J_iinc (v := (i4 + 1)) (L' := [(4, .int (i4 + 1)), (0, .ref a0)]) dX0_layOut_127 1 rfl rfl (by decide) rfl ?_
    refine J_goto (tgt := 112) dX0_layOut_130 (by decide) ?_
    exact J_pick [1, 0] rfl H
def zX0_layOut_102 (l : Launch) (g : am_G) (d : Nat) (x : Bool) (a0 : Nat) (i4 : Int32) (s0 : Nat) (s1 : Int32) (s2 : Int32) (h : am_H) (Q : Option Value → am_H → Prop) : Prop := ((s2 = 0 ∨ s2 = 1) ∧ as_I 2 h s0 s1 s2 (fun h1 => am_J l g mX0_layOut (d + 1) (0, 0, x) 74 [(0, .ref a0), (4, .int (i4 + 1))] [] h1 Q))
set_option maxRecDepth 4000 in
theorem rX0_layOut_102 {l : Launch} {g : am_G} {d : Nat} {x : Bool} {a0 : Nat} {i4 : Int32} {s0 : Nat} {s1 : Int32} {s2 : Int32} {h : am_H} {Q : Option Value → am_H → Prop} (H : zX0_layOut_102 l g d x a0 i4 s0 s1 s2 h Q) : am_J l g mX0_layOut (d + 1) (0, 0, x) 102 [(0, .ref a0), (4, .int i4)] [.int s2, .int s1, .ref s0] h Q := by
  unfold zX0_layOut_102 at H
  obtain ⟨hb, H⟩ := H
  obtain ⟨nn, ff, hh, hk, H⟩ := H
  refine J_zast dX0_layOut_102 hh hk (by rcases hb with e | e <;> rw [e] <;> rfl) ?_
  generalize List.set h s0 (am_I 2 nn (upd ff (Int32.toNatClampNeg s1) s2)) = h1 at H ⊢
  clear hh hk
  refine J_iinc (v := (i4 + 1)) (L' := [(4, .int (i4 + 1)), (0, .ref a0)]) dX0_layOut_103 1 rfl rfl (by decide) rfl ?_
  refine J_goto (tgt := 74) dX0_layOut_106 (by decide) ?_
  exact J_pick [1, 0] rfl H
def zX0_layOut_74 (l : Launch) (g : am_G) (d : Nat) (x : Bool) (a0 : Nat) (i4 : Int32) (h : am_H) (Q : Option Value → am_H → Prop) : Prop := ((300 ≤ i4 → am_J l g mX0_layOut (d + 1) (0, 0, x) 112 [(0, .ref a0), (4, .int 0)] [] h Q) ∧ (¬ 300 ≤ i4 → gt_R h a0 0 1 (fun v1 => gt_I h a0 0 6 (fun v2 => ((v2 ≤ i4 → zX0_layOut_102 l g d x a0 i4 v1 i4 0 h Q) ∧ (¬ v2 ≤ i4 → zX0_layOut_102 l g d x a0 i4 v1 i4 1 h Q))))))
set_option maxRecDepth 4000 in
theorem rX0_layOut_74 {l : Launch} {g : am_G} {d : Nat} {x : Bool} {a0 : Nat} {i4 : Int32} {h : am_H} {Q : Option Value → am_H → Prop} (H : zX0_layOut_74 l g d x a0 i4 h Q) : am_J l g mX0_layOut (d + 1) (0, 0, x) 74 [(0, .ref a0), (4, .int i4)] [] h Q := by
  unfold zX0_layOut_74 at H
  refine J_iload dX0_layOut_74 1 rfl ?_
  refine J_sipush (v := 300) dX0_layOut_76 (by decide) ?_
  obtain ⟨H1, H2⟩ := H
  refine J_icmp_ge (tgt := 109) dX0_layOut_79 (by decide) (fun hc => ?_) (fun hc => ?_)
  · replace H := H1 hc
    clear H1 H2
    refine J_iconst (v := 0) dX0_layOut_109 (by decide) ?_
    refine J_istore (L' := [(4, .int 0), (0, .ref a0)]) dX0_layOut_110 (by decide) rfl ?_
    exact J_pick [1, 0] rfl H
  · replace H := H2 hc
    clear H1 H2
    refine J_aload_n dX0_layOut_82 0 rfl ?_
    obtain ⟨fs, v1, hh, hk, H⟩ := H
    refine J_get dX0_layOut_83 fX0_18 hh hk ?_
    clear hh hk
    refine J_iload dX0_layOut_86 1 rfl ?_
    refine J_iload dX0_layOut_88 1 rfl ?_
    refine J_aload_n dX0_layOut_90 0 rfl ?_
    obtain ⟨fs, v2, hh, hk, H⟩ := H
    refine J_get dX0_layOut_91 fX0_48 hh hk ?_
    clear hh hk
    obtain ⟨H1, H2⟩ := H
    refine J_icmp_ge (tgt := 101) dX0_layOut_94 (by decide) (fun hc => ?_) (fun hc => ?_)
    · replace H := H1 hc
      clear H1 H2
      refine J_iconst (v := 0) dX0_layOut_101 (by decide) ?_
      exact J_pick [0, 1] rfl (rX0_layOut_102 H)
    · replace H := H2 hc
      clear H1 H2
      refine J_iconst (v := 1) dX0_layOut_97 (by decide) ?_
      refine J_goto (tgt := 102) dX0_layOut_98 (by decide) ?_
      exact J_pick [0, 1] rfl (rX0_layOut_102 H)
def zX0_layOut_0 (l : Launch) (g : am_G) (d : Nat) (x : Bool) (a0 : Nat) (a1 : Nat) (i2 : Int32) (i3 : Int32) (h : am_H) (Q : Option Value → am_H → Prop) : Prop := gt_R h a0 0 0 (fun v1 => cv_N l g mX7_copyFrom d x 7 v1 [.ref a1] h (fun h2 => pt_V h2 a0 0 4 (.int i2) (fun h4 => pt_V h4 a0 0 5 (.int i3) (fun h5 => gt_I h5 a0 0 4 (fun v6 => gt_I h5 a0 0 5 (fun v7 => gt_R h5 a0 0 0 (fun v8 => gt_I h5 v8 7 5 (fun v9 => pt_V h5 a0 0 6 (.int ((v6 * v7) * v9)) (fun h10 => gt_I h10 a0 0 6 (fun v11 => pt_V h10 a0 0 7 (.int v11) (fun h12 => gt_I h12 a0 0 8 (fun v13 => pt_V h12 a0 0 8 (.int (v13 + 1)) (fun h14 => gt_R h14 a0 0 2 (fun v15 => cv_N l g mX2_dropAll d x 2 v15 [] h14 (fun h16 => gt_R h16 a0 0 3 (fun v18 => cv_N l g mX2_dropAll d x 2 v18 [] h16 (fun h19 => am_J l g mX0_layOut (d + 1) (0, 0, x) 74 [(0, .ref a0), (4, .int 0)] [] h19 Q)))))))))))))))))
set_option maxRecDepth 4000 in
theorem rX0_layOut_0 {l : Launch} {g : am_G} {d : Nat} {x : Bool} {a0 : Nat} {a1 : Nat} {i2 : Int32} {i3 : Int32} {h : am_H} {Q : Option Value → am_H → Prop} (H : zX0_layOut_0 l g d x a0 a1 i2 i3 h Q) : am_J l g mX0_layOut (d + 1) (0, 0, x) 0 [(0, .ref a0), (1, .ref a1), (2, .int i2), (3, .int i3)] [] h Q := by
  unfold zX0_layOut_0 at H
  refine J_aload_n dX0_layOut_0 0 rfl ?_
  obtain ⟨fs, v1, hh, hk, H⟩ := H
  refine J_get dX0_layOut_1 fX0_12 hh hk ?_
  clear hh hk
  refine J_aload_n dX0_layOut_4 1 rfl ?_
  obtain ⟨⟨fs, hh⟩, H⟩ := H
  refine J_callV (As := [.ref a1]) (S := []) (b := v1) dX0_layOut_5 mX7_copyFrom_ok kX0_34 rfl (by decide) (Nat.le_of_ble_eq_true rfl) hh rfl rfl (Nat.le_of_ble_eq_true rfl) ⟨Nat.le_of_ble_eq_true rfl, Nat.le_of_ble_eq_true rfl⟩ (fun k h' hp => ?_) H (fun r h2 hp => ?_)
  · obtain ⟨hv, -⟩ := hp; cases hv
  obtain ⟨rfl, H⟩ := hp
  show am_J l g mX0_layOut (d + 1) (0, 0, x) 8 [(0, .ref a0), (1, .ref a1), (2, .int i2), (3, .int i3)] [] h2 Q
  refine J_aload_n dX0_layOut_8 0 rfl ?_
  refine J_iload_n dX0_layOut_9 2 rfl ?_
  obtain ⟨fs, hh, hk, H⟩ := H
  refine J_put dX0_layOut_10 fX0_38 rfl rfl hh hk ?_
  generalize List.set h2 a0 (am_O 0 (List.set fs 4 (.int i2))) = h4 at H ⊢
  clear hh hk
  refine J_aload_n dX0_layOut_13 0 rfl ?_
  refine J_iload_n dX0_layOut_14 3 rfl ?_
  obtain ⟨fs, hh, hk, H⟩ := H
  refine J_put dX0_layOut_15 fX0_42 rfl rfl hh hk ?_
  generalize List.set h4 a0 (am_O 0 (List.set fs 5 (.int i3))) = h5 at H ⊢
  clear hh hk
  refine J_aload_n dX0_layOut_18 0 rfl ?_
  refine J_aload_n dX0_layOut_19 0 rfl ?_
  obtain ⟨fs, v6, hh, hk, H⟩ := H
  refine J_get dX0_layOut_20 fX0_38 hh hk ?_
  clear hh hk
  refine J_aload_n dX0_layOut_23 0 rfl ?_
  obtain ⟨fs, v7, hh, hk, H⟩ := H
  refine J_get dX0_layOut_24 fX0_42 hh hk ?_
  clear hh hk
  refine J_imul dX0_layOut_27 ?_
  refine J_aload_n dX0_layOut_28 0 rfl ?_
  obtain ⟨fs, v8, hh, hk, H⟩ := H
  refine J_get dX0_layOut_29 fX0_12 hh hk ?_
  clear hh hk
  obtain ⟨fs, v9, hh, hk, H⟩ := H
  refine J_get dX0_layOut_32 fX0_45 hh hk ?_
  clear hh hk
  refine J_imul dX0_layOut_35 ?_
  obtain ⟨fs, hh, hk, H⟩ := H
  refine J_put dX0_layOut_36 fX0_48 rfl rfl hh hk ?_
  generalize List.set h5 a0 (am_O 0 (List.set fs 6 (.int ((v6 * v7) * v9)))) = h10 at H ⊢
  clear hh hk
  refine J_aload_n dX0_layOut_39 0 rfl ?_
  refine J_aload_n dX0_layOut_40 0 rfl ?_
  obtain ⟨fs, v11, hh, hk, H⟩ := H
  refine J_get dX0_layOut_41 fX0_48 hh hk ?_
  clear hh hk
  obtain ⟨fs, hh, hk, H⟩ := H
  refine J_put dX0_layOut_44 fX0_51 rfl rfl hh hk ?_
  generalize List.set h10 a0 (am_O 0 (List.set fs 7 (.int v11))) = h12 at H ⊢
  clear hh hk
  refine J_aload_n dX0_layOut_47 0 rfl ?_
  refine J_dup dX0_layOut_48 rfl ?_
  obtain ⟨fs, v13, hh, hk, H⟩ := H
  refine J_get dX0_layOut_49 fX0_54 hh hk ?_
  clear hh hk
  refine J_iconst (v := 1) dX0_layOut_52 (by decide) ?_
  refine J_iadd dX0_layOut_53 ?_
  obtain ⟨fs, hh, hk, H⟩ := H
  refine J_put dX0_layOut_54 fX0_54 rfl rfl hh hk ?_
  generalize List.set h12 a0 (am_O 0 (List.set fs 8 (.int (v13 + 1)))) = h14 at H ⊢
  clear hh hk
  refine J_aload_n dX0_layOut_57 0 rfl ?_
  obtain ⟨fs, v15, hh, hk, H⟩ := H
  refine J_get dX0_layOut_58 fX0_27 hh hk ?_
  clear hh hk
  obtain ⟨⟨fs, hh⟩, H⟩ := H
  refine J_callV (As := []) (S := []) (b := v15) dX0_layOut_61 mX2_dropAll_ok kX0_57 rfl (by decide) (Nat.le_of_ble_eq_true rfl) hh rfl rfl (Nat.le_of_ble_eq_true rfl) ⟨Nat.le_of_ble_eq_true rfl, Nat.le_of_ble_eq_true rfl⟩ (fun k h' hp => ?_) H (fun r h16 hp => ?_)
  · obtain ⟨hv, -⟩ := hp; cases hv
  obtain ⟨rfl, H⟩ := hp
  show am_J l g mX0_layOut (d + 1) (0, 0, x) 64 [(0, .ref a0), (1, .ref a1), (2, .int i2), (3, .int i3)] [] h16 Q
  refine J_aload_n dX0_layOut_64 0 rfl ?_
  obtain ⟨fs, v18, hh, hk, H⟩ := H
  refine J_get dX0_layOut_65 fX0_31 hh hk ?_
  clear hh hk
  obtain ⟨⟨fs, hh⟩, H⟩ := H
  refine J_callV (As := []) (S := []) (b := v18) dX0_layOut_68 mX2_dropAll_ok kX0_57 rfl (by decide) (Nat.le_of_ble_eq_true rfl) hh rfl rfl (Nat.le_of_ble_eq_true rfl) ⟨Nat.le_of_ble_eq_true rfl, Nat.le_of_ble_eq_true rfl⟩ (fun k h' hp => ?_) H (fun r h19 hp => ?_)
  · obtain ⟨hv, -⟩ := hp; cases hv
  obtain ⟨rfl, H⟩ := hp
  show am_J l g mX0_layOut (d + 1) (0, 0, x) 71 [(0, .ref a0), (1, .ref a1), (2, .int i2), (3, .int i3)] [] h19 Q
  refine J_iconst (v := 0) dX0_layOut_71 (by decide) ?_
  refine J_istore (L' := [(4, .int 0), (0, .ref a0), (1, .ref a1), (2, .int i2), (3, .int i3)]) dX0_layOut_72 (by decide) rfl ?_
  exact J_pick [1, 0] rfl H
theorem eX0_layOut {l : Launch} {g : am_G} {d : Nat} {x : Bool} {a0 : Nat} {a1 : Nat} {i2 : Int32} {i3 : Int32} {h : am_H} {K : am_H → Prop} (H : zX0_layOut_0 l g d x a0 a1 i2 i3 h (fun r h' => r = none ∧ K h')) : cl_N l g mX0_layOut (d + 1) x [.ref a0, .ref a1, .int i2, .int i3] h K := rX0_layOut_0 H
def zX0_ringOfCell_29 (l : Launch) (g : am_G) (d : Nat) (x : Bool) (a0 : Nat) (i1 : Int32) (i2 : Int32) (i3 : Int32) (s0 : Int32) (h : am_H) (Q : Option Value → am_H → Prop) : Prop := ((s0 = 0 → Q (some (.int (-1))) h) ∧ (¬ s0 = 0 → ((i3 < 0 → Q (some (.int (-1))) h) ∧ (¬ i3 < 0 → gt_R h a0 0 0 (fun v1 => gt_I h v1 7 5 (fun v2 => ((i3 < v2 → gt_I h a0 0 4 (fun v3 => gt_R h a0 0 0 (fun v4 => gt_I h v4 7 5 (fun v5 => Q (some (.int ((((i2 * v3) + i1) * v5) + i3))) h)))) ∧ (¬ i3 < v2 → Q (some (.int (-1))) h))))))))
set_option maxRecDepth 4000 in
theorem rX0_ringOfCell_29 {l : Launch} {g : am_G} {d : Nat} {x : Bool} {a0 : Nat} {i1 : Int32} {i2 : Int32} {i3 : Int32} {s0 : Int32} {h : am_H} {Q : Option Value → am_H → Prop} (H : zX0_ringOfCell_29 l g d x a0 i1 i2 i3 s0 h Q) : am_J l g mX0_ringOfCell d (0, 0, x) 29 [(0, .ref a0), (1, .int i1), (2, .int i2), (3, .int i3)] [.int s0] h Q := by
  unfold zX0_ringOfCell_29 at H
  refine J_istore (L' := [(4, .int s0), (0, .ref a0), (1, .int i1), (2, .int i2), (3, .int i3)]) dX0_ringOfCell_29 (by decide) rfl ?_
  refine J_iload dX0_ringOfCell_31 0 rfl ?_
  obtain ⟨H1, H2⟩ := H
  refine J_if_eq (tgt := 51) dX0_ringOfCell_33 (by decide) (fun hc => ?_) (fun hc => ?_)
  · replace H := H1 hc
    clear H1 H2
    refine J_iconst (v := (-1)) dX0_ringOfCell_51 (by decide) ?_
    exact J_iret dX0_ringOfCell_52 ⟨_, rfl, rfl⟩ ⟨Nat.le_of_ble_eq_true rfl, Nat.le_of_ble_eq_true rfl, fun _ => rfl⟩ H
  · replace H := H2 hc
    clear H1 H2
    refine J_iload_n dX0_ringOfCell_36 4 rfl ?_
    obtain ⟨H1, H2⟩ := H
    refine J_if_lt (tgt := 51) dX0_ringOfCell_37 (by decide) (fun hc => ?_) (fun hc => ?_)
    · replace H := H1 hc
      clear H1 H2
      refine J_iconst (v := (-1)) dX0_ringOfCell_51 (by decide) ?_
      exact J_iret dX0_ringOfCell_52 ⟨_, rfl, rfl⟩ ⟨Nat.le_of_ble_eq_true rfl, Nat.le_of_ble_eq_true rfl, fun _ => rfl⟩ H
    · replace H := H2 hc
      clear H1 H2
      refine J_iload_n dX0_ringOfCell_40 4 rfl ?_
      refine J_aload_n dX0_ringOfCell_41 1 rfl ?_
      obtain ⟨fs, v1, hh, hk, H⟩ := H
      refine J_get dX0_ringOfCell_42 fX0_12 hh hk ?_
      clear hh hk
      obtain ⟨fs, v2, hh, hk, H⟩ := H
      refine J_get dX0_ringOfCell_45 fX0_45 hh hk ?_
      clear hh hk
      obtain ⟨H1, H2⟩ := H
      refine J_icmp_lt (tgt := 53) dX0_ringOfCell_48 (by decide) (fun hc => ?_) (fun hc => ?_)
      · replace H := H1 hc
        clear H1 H2
        refine J_iload_n dX0_ringOfCell_53 3 rfl ?_
        refine J_aload_n dX0_ringOfCell_54 1 rfl ?_
        obtain ⟨fs, v3, hh, hk, H⟩ := H
        refine J_get dX0_ringOfCell_55 fX0_38 hh hk ?_
        clear hh hk
        refine J_imul dX0_ringOfCell_58 ?_
        refine J_iload_n dX0_ringOfCell_59 2 rfl ?_
        refine J_iadd dX0_ringOfCell_60 ?_
        refine J_aload_n dX0_ringOfCell_61 1 rfl ?_
        obtain ⟨fs, v4, hh, hk, H⟩ := H
        refine J_get dX0_ringOfCell_62 fX0_12 hh hk ?_
        clear hh hk
        obtain ⟨fs, v5, hh, hk, H⟩ := H
        refine J_get dX0_ringOfCell_65 fX0_45 hh hk ?_
        clear hh hk
        refine J_imul dX0_ringOfCell_68 ?_
        refine J_iload_n dX0_ringOfCell_69 4 rfl ?_
        refine J_iadd dX0_ringOfCell_70 ?_
        exact J_iret dX0_ringOfCell_71 ⟨_, rfl, rfl⟩ ⟨Nat.le_of_ble_eq_true rfl, Nat.le_of_ble_eq_true rfl, fun _ => rfl⟩ H
      · replace H := H2 hc
        clear H1 H2
        refine J_iconst (v := (-1)) dX0_ringOfCell_51 (by decide) ?_
        exact J_iret dX0_ringOfCell_52 ⟨_, rfl, rfl⟩ ⟨Nat.le_of_ble_eq_true rfl, Nat.le_of_ble_eq_true rfl, fun _ => rfl⟩ H
def zX0_ringOfCell_28 (l : Launch) (g : am_G) (d : Nat) (x : Bool) (a0 : Nat) (i1 : Int32) (i2 : Int32) (i3 : Int32) (h : am_H) (Q : Option Value → am_H → Prop) : Prop := zX0_ringOfCell_29 l g d x a0 i1 i2 i3 0 h Q
set_option maxRecDepth 4000 in
theorem rX0_ringOfCell_28 {l : Launch} {g : am_G} {d : Nat} {x : Bool} {a0 : Nat} {i1 : Int32} {i2 : Int32} {i3 : Int32} {h : am_H} {Q : Option Value → am_H → Prop} (H : zX0_ringOfCell_28 l g d x a0 i1 i2 i3 h Q) : am_J l g mX0_ringOfCell d (0, 0, x) 28 [(0, .ref a0), (1, .int i1), (2, .int i2), (3, .int i3)] [] h Q := by
  unfold zX0_ringOfCell_28 at H
  refine J_iconst (v := 0) dX0_ringOfCell_28 (by decide) ?_
  exact J_pick [0, 1, 2, 3] rfl (rX0_ringOfCell_29 H)
def zX0_ringOfCell_0 (l : Launch) (g : am_G) (d : Nat) (x : Bool) (a0 : Nat) (i1 : Int32) (i2 : Int32) (i3 : Int32) (h : am_H) (Q : Option Value → am_H → Prop) : Prop := ((i1 < 0 → zX0_ringOfCell_28 l g d x a0 i1 i2 i3  h Q) ∧ (¬ i1 < 0 → gt_I h a0 0 4 (fun v1 => ((v1 ≤ i1 → zX0_ringOfCell_28 l g d x a0 i1 i2 i3  h Q) ∧ (¬ v1 ≤ i1 → ((i2 < 0 → zX0_ringOfCell_28 l g d x a0 i1 i2 i3  h Q) ∧ (¬ i2 < 0 → gt_I h a0 0 5 (fun v2 => ((v2 ≤ i2 → zX0_ringOfCell_28 l g d x a0 i1 i2 i3  h Q) ∧ (¬ v2 ≤ i2 → zX0_ringOfCell_29 l g d x a0 i1 i2 i3 1 h Q))))))))))
set_option maxRecDepth 4000 in
theorem rX0_ringOfCell_0 {l : Launch} {g : am_G} {d : Nat} {x : Bool} {a0 : Nat} {i1 : Int32} {i2 : Int32} {i3 : Int32} {h : am_H} {Q : Option Value → am_H → Prop} (H : zX0_ringOfCell_0 l g d x a0 i1 i2 i3 h Q) : am_J l g mX0_ringOfCell d (0, 0, x) 0 [(0, .ref a0), (1, .int i1), (2, .int i2), (3, .int i3)] [] h Q := by
  unfold zX0_ringOfCell_0 at H
  refine J_iload_n dX0_ringOfCell_0 1 rfl ?_
  obtain ⟨H1, H2⟩ := H
  refine J_if_lt (tgt := 28) dX0_ringOfCell_1 (by decide) (fun hc => ?_) (fun hc => ?_)
  · replace H := H1 hc
    clear H1 H2
    exact J_pick [0, 1, 2, 3] rfl (rX0_ringOfCell_28 H)
  · replace H := H2 hc
    clear H1 H2
    refine J_iload_n dX0_ringOfCell_4 1 rfl ?_
    refine J_aload_n dX0_ringOfCell_5 0 rfl ?_
    obtain ⟨fs, v1, hh, hk, H⟩ := H
    refine J_get dX0_ringOfCell_6 fX0_38 hh hk ?_
    clear hh hk
    obtain ⟨H1, H2⟩ := H
    refine J_icmp_ge (tgt := 28) dX0_ringOfCell_9 (by decide) (fun hc => ?_) (fun hc => ?_)
    · replace H := H1 hc
      clear H1 H2
      exact J_pick [0, 1, 2, 3] rfl (rX0_ringOfCell_28 H)
    · replace H := H2 hc
      clear H1 H2
      refine J_iload_n dX0_ringOfCell_12 2 rfl ?_
      obtain ⟨H1, H2⟩ := H
      refine J_if_lt (tgt := 28) dX0_ringOfCell_13 (by decide) (fun hc => ?_) (fun hc => ?_)
      · replace H := H1 hc
        clear H1 H2
        exact J_pick [0, 1, 2, 3] rfl (rX0_ringOfCell_28 H)
      · replace H := H2 hc
        clear H1 H2
        refine J_iload_n dX0_ringOfCell_16 2 rfl ?_
        refine J_aload_n dX0_ringOfCell_17 0 rfl ?_
        obtain ⟨fs, v2, hh, hk, H⟩ := H
        refine J_get dX0_ringOfCell_18 fX0_42 hh hk ?_
        clear hh hk
        obtain ⟨H1, H2⟩ := H
        refine J_icmp_ge (tgt := 28) dX0_ringOfCell_21 (by decide) (fun hc => ?_) (fun hc => ?_)
        · replace H := H1 hc
          clear H1 H2
          exact J_pick [0, 1, 2, 3] rfl (rX0_ringOfCell_28 H)
        · replace H := H2 hc
          clear H1 H2
          refine J_iconst (v := 1) dX0_ringOfCell_24 (by decide) ?_
          refine J_goto (tgt := 29) dX0_ringOfCell_25 (by decide) ?_
          exact J_pick [0, 1, 2, 3] rfl (rX0_ringOfCell_29 H)
theorem eX0_ringOfCell {l : Launch} {g : am_G} {d : Nat} {x : Bool} {a0 : Nat} {i1 : Int32} {i2 : Int32} {i3 : Int32} {h : am_H} {K : Int32 → am_H → Prop} (H : zX0_ringOfCell_0 l g d x a0 i1 i2 i3 h (fun r h' => ∃ v, r = some (.int v) ∧ K v h')) : cl_I l g mX0_ringOfCell d x [.ref a0, .int i1, .int i2, .int i3] h K := rX0_ringOfCell_0 H
def zX0_isNumbered_0 (l : Launch) (g : am_G) (d : Nat) (x : Bool) (a0 : Nat) (i1 : Int32) (h : am_H) (Q : Option Value → am_H → Prop) : Prop := ((i1 < 0 → Q (some (.int 0)) h) ∧ (¬ i1 < 0 → gt_I h a0 0 7 (fun v1 => ((v1 ≤ i1 → Q (some (.int 0)) h) ∧ (¬ v1 ≤ i1 → Q (some (.int 1)) h)))))
set_option maxRecDepth 4000 in
theorem rX0_isNumbered_0 {l : Launch} {g : am_G} {d : Nat} {x : Bool} {a0 : Nat} {i1 : Int32} {h : am_H} {Q : Option Value → am_H → Prop} (H : zX0_isNumbered_0 l g d x a0 i1 h Q) : am_J l g mX0_isNumbered d (0, 0, x) 0 [(0, .ref a0), (1, .int i1)] [] h Q := by
  unfold zX0_isNumbered_0 at H
  refine J_iload_n dX0_isNumbered_0 1 rfl ?_
  obtain ⟨H1, H2⟩ := H
  refine J_if_lt (tgt := 16) dX0_isNumbered_1 (by decide) (fun hc => ?_) (fun hc => ?_)
  · replace H := H1 hc
    clear H1 H2
    refine J_iconst (v := 0) dX0_isNumbered_16 (by decide) ?_
    exact J_iret dX0_isNumbered_17 ⟨_, rfl, rfl⟩ ⟨Nat.le_of_ble_eq_true rfl, Nat.le_of_ble_eq_true rfl, fun _ => rfl⟩ H
  · replace H := H2 hc
    clear H1 H2
    refine J_iload_n dX0_isNumbered_4 1 rfl ?_
    refine J_aload_n dX0_isNumbered_5 0 rfl ?_
    obtain ⟨fs, v1, hh, hk, H⟩ := H
    refine J_get dX0_isNumbered_6 fX0_51 hh hk ?_
    clear hh hk
    obtain ⟨H1, H2⟩ := H
    refine J_icmp_ge (tgt := 16) dX0_isNumbered_9 (by decide) (fun hc => ?_) (fun hc => ?_)
    · replace H := H1 hc
      clear H1 H2
      refine J_iconst (v := 0) dX0_isNumbered_16 (by decide) ?_
      exact J_iret dX0_isNumbered_17 ⟨_, rfl, rfl⟩ ⟨Nat.le_of_ble_eq_true rfl, Nat.le_of_ble_eq_true rfl, fun _ => rfl⟩ H
    · replace H := H2 hc
      clear H1 H2
      refine J_iconst (v := 1) dX0_isNumbered_12 (by decide) ?_
      refine J_goto (tgt := 17) dX0_isNumbered_13 (by decide) ?_
      exact J_iret dX0_isNumbered_17 ⟨_, rfl, rfl⟩ ⟨Nat.le_of_ble_eq_true rfl, Nat.le_of_ble_eq_true rfl, fun _ => rfl⟩ H
theorem eX0_isNumbered {l : Launch} {g : am_G} {d : Nat} {x : Bool} {a0 : Nat} {i1 : Int32} {h : am_H} {K : Int32 → am_H → Prop} (H : zX0_isNumbered_0 l g d x a0 i1 h (fun r h' => ∃ v, r = some (.int v) ∧ K v h')) : cl_I l g mX0_isNumbered d x [.ref a0, .int i1] h K := rX0_isNumbered_0 H
def zX0_isThere_0 (l : Launch) (g : am_G) (d : Nat) (x : Bool) (a0 : Nat) (i1 : Int32) (h : am_H) (Q : Option Value → am_H → Prop) : Prop := cv_I l g mX0_isNumbered d x 0 a0 [.int i1] h (fun v2 h1 => ((v2 = 0 → Q (some (.int 0)) h1) ∧ (¬ v2 = 0 → gt_R h1 a0 0 1 (fun v3 => al_I 2 h1 v3 i1 (fun v4 => ((v4 = 0 → Q (some (.int 0)) h1) ∧ (¬ v4 = 0 → Q (some (.int 1)) h1)))))))
set_option maxRecDepth 4000 in
theorem rX0_isThere_0 {l : Launch} {g : am_G} {d : Nat} {x : Bool} {a0 : Nat} {i1 : Int32} {h : am_H} {Q : Option Value → am_H → Prop} (H : zX0_isThere_0 l g d x a0 i1 h Q) : am_J l g mX0_isThere (d + 1) (0, 0, x) 0 [(0, .ref a0), (1, .int i1)] [] h Q := by
  unfold zX0_isThere_0 at H
  refine J_aload_n dX0_isThere_0 0 rfl ?_
  refine J_iload_n dX0_isThere_1 1 rfl ?_
  obtain ⟨⟨fs, hh⟩, H⟩ := H
  refine J_callV (As := [.int i1]) (S := []) (b := a0) dX0_isThere_2 mX0_isNumbered_ok kX0_63 rfl (by decide) (Nat.le_of_ble_eq_true rfl) hh rfl rfl (Nat.le_of_ble_eq_true rfl) ⟨Nat.le_of_ble_eq_true rfl, Nat.le_of_ble_eq_true rfl⟩ (fun k h' hp => ?_) H (fun r h1 hp => ?_)
  · obtain ⟨_, hv, -⟩ := hp; cases hv
  obtain ⟨v2, rfl, H⟩ := hp
  show am_J l g mX0_isThere (d + 1) (0, 0, x) 5 [(0, .ref a0), (1, .int i1)] [.int v2] h1 Q
  obtain ⟨H1, H2⟩ := H
  refine J_if_eq (tgt := 21) dX0_isThere_5 (by decide) (fun hc => ?_) (fun hc => ?_)
  · replace H := H1 hc
    clear H1 H2
    refine J_iconst (v := 0) dX0_isThere_21 (by decide) ?_
    exact J_iret dX0_isThere_22 ⟨_, rfl, rfl⟩ ⟨Nat.le_of_ble_eq_true rfl, Nat.le_of_ble_eq_true rfl, fun _ => rfl⟩ H
  · replace H := H2 hc
    clear H1 H2
    refine J_aload_n dX0_isThere_8 0 rfl ?_
    obtain ⟨fs, v3, hh, hk, H⟩ := H
    refine J_get dX0_isThere_9 fX0_18 hh hk ?_
    clear hh hk
    refine J_iload_n dX0_isThere_12 1 rfl ?_
    obtain ⟨nn, ff, hh, hk, H⟩ := H
    refine J_zald dX0_isThere_13 hh hk ?_
    generalize ff (Int32.toNatClampNeg i1) = v4 at H ⊢
    clear hh hk ff
    obtain ⟨H1, H2⟩ := H
    refine J_if_eq (tgt := 21) dX0_isThere_14 (by decide) (fun hc => ?_) (fun hc => ?_)
    · replace H := H1 hc
      clear H1 H2
      refine J_iconst (v := 0) dX0_isThere_21 (by decide) ?_
      exact J_iret dX0_isThere_22 ⟨_, rfl, rfl⟩ ⟨Nat.le_of_ble_eq_true rfl, Nat.le_of_ble_eq_true rfl, fun _ => rfl⟩ H
    · replace H := H2 hc
      clear H1 H2
      refine J_iconst (v := 1) dX0_isThere_17 (by decide) ?_
      refine J_goto (tgt := 22) dX0_isThere_18 (by decide) ?_
      exact J_iret dX0_isThere_22 ⟨_, rfl, rfl⟩ ⟨Nat.le_of_ble_eq_true rfl, Nat.le_of_ble_eq_true rfl, fun _ => rfl⟩ H
theorem eX0_isThere {l : Launch} {g : am_G} {d : Nat} {x : Bool} {a0 : Nat} {i1 : Int32} {h : am_H} {K : Int32 → am_H → Prop} (H : zX0_isThere_0 l g d x a0 i1 h (fun r h' => ∃ v, r = some (.int v) ∧ K v h')) : cl_I l g mX0_isThere (d + 1) x [.ref a0, .int i1] h K := rX0_isThere_0 H
def zX0_putIn_0 (l : Launch) (g : am_G) (d : Nat) (x : Bool) (a0 : Nat) (h : am_H) (Q : Option Value → am_H → Prop) : Prop := gt_I h a0 0 7 (fun v1 => ((v1 < 300 → gt_I h a0 0 7 (fun v2 => gt_R h a0 0 1 (fun v3 => as_I 2 h v3 v2 1 (fun h4 => gt_I h4 a0 0 7 (fun v5 => pt_V h4 a0 0 7 (.int (v5 + 1)) (fun h6 => gt_I h6 a0 0 8 (fun v7 => pt_V h6 a0 0 8 (.int (v7 + 1)) (fun h8 => Q (some (.int v2)) h8)))))))) ∧ (¬ v1 < 300 → Q (some (.int (-1))) h)))
set_option maxRecDepth 4000 in
theorem rX0_putIn_0 {l : Launch} {g : am_G} {d : Nat} {x : Bool} {a0 : Nat} {h : am_H} {Q : Option Value → am_H → Prop} (H : zX0_putIn_0 l g d x a0 h Q) : am_J l g mX0_putIn d (0, 0, x) 0 [(0, .ref a0)] [] h Q := by
  unfold zX0_putIn_0 at H
  refine J_aload_n dX0_putIn_0 0 rfl ?_
  obtain ⟨fs, v1, hh, hk, H⟩ := H
  refine J_get dX0_putIn_1 fX0_51 hh hk ?_
  clear hh hk
  refine J_sipush (v := 300) dX0_putIn_4 (by decide) ?_
  obtain ⟨H1, H2⟩ := H
  refine J_icmp_lt (tgt := 12) dX0_putIn_7 (by decide) (fun hc => ?_) (fun hc => ?_)
  · replace H := H1 hc
    clear H1 H2
    refine J_aload_n dX0_putIn_12 0 rfl ?_
    obtain ⟨fs, v2, hh, hk, H⟩ := H
    refine J_get dX0_putIn_13 fX0_51 hh hk ?_
    clear hh hk
    refine J_istore_n (L' := [(1, .int v2), (0, .ref a0)]) dX0_putIn_16 (by decide) rfl ?_
    refine J_aload_n dX0_putIn_17 1 rfl ?_
    obtain ⟨fs, v3, hh, hk, H⟩ := H
    refine J_get dX0_putIn_18 fX0_18 hh hk ?_
    clear hh hk
    refine J_iload_n dX0_putIn_21 0 rfl ?_
    refine J_iconst (v := 1) dX0_putIn_22 (by decide) ?_
    obtain ⟨nn, ff, hh, hk, H⟩ := H
    refine J_zast dX0_putIn_23 hh hk rfl ?_
    generalize List.set h v3 (am_I 2 nn (upd ff (Int32.toNatClampNeg v2) 1)) = h4 at H ⊢
    clear hh hk
    refine J_aload_n dX0_putIn_24 1 rfl ?_
    refine J_dup dX0_putIn_25 rfl ?_
    obtain ⟨fs, v5, hh, hk, H⟩ := H
    refine J_get dX0_putIn_26 fX0_51 hh hk ?_
    clear hh hk
    refine J_iconst (v := 1) dX0_putIn_29 (by decide) ?_
    refine J_iadd dX0_putIn_30 ?_
    obtain ⟨fs, hh, hk, H⟩ := H
    refine J_put dX0_putIn_31 fX0_51 rfl rfl hh hk ?_
    generalize List.set h4 a0 (am_O 0 (List.set fs 7 (.int (v5 + 1)))) = h6 at H ⊢
    clear hh hk
    refine J_aload_n dX0_putIn_34 1 rfl ?_
    refine J_dup dX0_putIn_35 rfl ?_
    obtain ⟨fs, v7, hh, hk, H⟩ := H
    refine J_get dX0_putIn_36 fX0_54 hh hk ?_
    clear hh hk
    refine J_iconst (v := 1) dX0_putIn_39 (by decide) ?_
    refine J_iadd dX0_putIn_40 ?_
    obtain ⟨fs, hh, hk, H⟩ := H
    refine J_put dX0_putIn_41 fX0_54 rfl rfl hh hk ?_
    generalize List.set h6 a0 (am_O 0 (List.set fs 8 (.int (v7 + 1)))) = h8 at H ⊢
    clear hh hk
    refine J_iload_n dX0_putIn_44 0 rfl ?_
    exact J_iret dX0_putIn_45 ⟨_, rfl, rfl⟩ ⟨Nat.le_of_ble_eq_true rfl, Nat.le_of_ble_eq_true rfl, fun _ => rfl⟩ H
  · replace H := H2 hc
    clear H1 H2
    refine J_iconst (v := (-1)) dX0_putIn_10 (by decide) ?_
    exact J_iret dX0_putIn_11 ⟨_, rfl, rfl⟩ ⟨Nat.le_of_ble_eq_true rfl, Nat.le_of_ble_eq_true rfl, fun _ => rfl⟩ H
theorem eX0_putIn {l : Launch} {g : am_G} {d : Nat} {x : Bool} {a0 : Nat} {h : am_H} {K : Int32 → am_H → Prop} (H : zX0_putIn_0 l g d x a0 h (fun r h' => ∃ v, r = some (.int v) ∧ K v h')) : cl_I l g mX0_putIn d x [.ref a0] h K := rX0_putIn_0 H
def zX0_takeAway_56 (l : Launch) (g : am_G) (d : Nat) (x : Bool) (a0 : Nat) (i1 : Int32) (i2 : Int32) (h : am_H) (Q : Option Value → am_H → Prop) : Prop := gt_R h a0 0 1 (fun v1 => as_I 2 h v1 i1 0 (fun h2 => gt_I h2 a0 0 8 (fun v3 => pt_V h2 a0 0 8 (.int (v3 + 1)) (fun h4 => Q (some (.int i2)) h4))))
set_option maxRecDepth 4000 in
theorem rX0_takeAway_56 {l : Launch} {g : am_G} {d : Nat} {x : Bool} {a0 : Nat} {i1 : Int32} {i2 : Int32} {h : am_H} {Q : Option Value → am_H → Prop} (H : zX0_takeAway_56 l g d x a0 i1 i2 h Q) : am_J l g mX0_takeAway (d + 1) (0, 0, x) 56 [(0, .ref a0), (1, .int i1), (2, .int i2)] [] h Q := by
  unfold zX0_takeAway_56 at H
  refine J_aload_n dX0_takeAway_56 0 rfl ?_
  obtain ⟨fs, v1, hh, hk, H⟩ := H
  refine J_get dX0_takeAway_57 fX0_18 hh hk ?_
  clear hh hk
  refine J_iload_n dX0_takeAway_60 1 rfl ?_
  refine J_iconst (v := 0) dX0_takeAway_61 (by decide) ?_
  obtain ⟨nn, ff, hh, hk, H⟩ := H
  refine J_zast dX0_takeAway_62 hh hk rfl ?_
  generalize List.set h v1 (am_I 2 nn (upd ff (Int32.toNatClampNeg i1) 0)) = h2 at H ⊢
  clear hh hk
  refine J_aload_n dX0_takeAway_63 0 rfl ?_
  refine J_dup dX0_takeAway_64 rfl ?_
  obtain ⟨fs, v3, hh, hk, H⟩ := H
  refine J_get dX0_takeAway_65 fX0_54 hh hk ?_
  clear hh hk
  refine J_iconst (v := 1) dX0_takeAway_68 (by decide) ?_
  refine J_iadd dX0_takeAway_69 ?_
  obtain ⟨fs, hh, hk, H⟩ := H
  refine J_put dX0_takeAway_70 fX0_54 rfl rfl hh hk ?_
  generalize List.set h2 a0 (am_O 0 (List.set fs 8 (.int (v3 + 1)))) = h4 at H ⊢
  clear hh hk
  refine J_iload_n dX0_takeAway_73 2 rfl ?_
  exact J_iret dX0_takeAway_74 ⟨_, rfl, rfl⟩ ⟨Nat.le_of_ble_eq_true rfl, Nat.le_of_ble_eq_true rfl, fun _ => rfl⟩ H
def zX0_takeAway_19 (l : Launch) (g : am_G) (d : Nat) (x : Bool) (a0 : Nat) (i1 : Int32) (i2 : Int32) (i3 : Int32) (i4 : Int32) (h : am_H) (Q : Option Value → am_H → Prop) : Prop := ((300 ≤ i4 → zX0_takeAway_56 l g d x a0 i1 i2  h Q) ∧ (¬ 300 ≤ i4 → ((i3 = (-1) → zX0_takeAway_56 l g d x a0 i1 i2  h Q) ∧ (¬ i3 = (-1) → cv_N l g mX0_part d x 0 a0 [.int i1, .int i3] h (fun h1 => gt_R h1 a0 0 3 (fun v3 => cv_I l g mX2_next d x 2 v3 [.int i1, .int (i3 + 1)] h1 (fun v5 h4 => am_J l g mX0_takeAway (d + 1) (0, 0, x) 19 [(0, .ref a0), (1, .int i1), (2, .int i2), (3, .int v5), (4, .int (i4 + 1))] [] h4 Q)))))))
set_option maxRecDepth 4000 in
theorem rX0_takeAway_19 {l : Launch} {g : am_G} {d : Nat} {x : Bool} {a0 : Nat} {i1 : Int32} {i2 : Int32} {i3 : Int32} {i4 : Int32} {h : am_H} {Q : Option Value → am_H → Prop} (H : zX0_takeAway_19 l g d x a0 i1 i2 i3 i4 h Q) : am_J l g mX0_takeAway (d + 1) (0, 0, x) 19 [(0, .ref a0), (1, .int i1), (2, .int i2), (3, .int i3), (4, .int i4)] [] h Q := by
  unfold zX0_takeAway_19 at H
  refine J_iload dX0_takeAway_19 4 rfl ?_
  refine J_sipush (v := 300) dX0_takeAway_21 (by decide) ?_
  obtain ⟨H1, H2⟩ := H
  refine J_icmp_ge (tgt := 56) dX0_takeAway_24 (by decide) (fun hc => ?_) (fun hc => ?_)
  · replace H := H1 hc
    clear H1 H2
    exact J_pick [0, 1, 2] rfl (rX0_takeAway_56 H)
  · replace H := H2 hc
    clear H1 H2
    refine J_iload_n dX0_takeAway_27 3 rfl ?_
    refine J_iconst (v := (-1)) dX0_takeAway_28 (by decide) ?_
    obtain ⟨H1, H2⟩ := H
    refine J_icmp_eq (tgt := 56) dX0_takeAway_29 (by decide) (fun hc => ?_) (fun hc => ?_)
    · replace H := H1 hc
      clear H1 H2
      exact J_pick [0, 1, 2] rfl (rX0_takeAway_56 H)
    · replace H := H2 hc
      clear H1 H2
      refine J_aload_n dX0_takeAway_32 0 rfl ?_
      refine J_iload_n dX0_takeAway_33 1 rfl ?_
      refine J_iload_n dX0_takeAway_34 3 rfl ?_
      obtain ⟨⟨fs, hh⟩, H⟩ := H
      refine J_callV (As := [.int i1, .int i3]) (S := []) (b := a0) dX0_takeAway_35 mX0_part_ok kX0_75 rfl (by decide) (Nat.le_of_ble_eq_true rfl) hh rfl rfl (Nat.le_of_ble_eq_true rfl) ⟨Nat.le_of_ble_eq_true rfl, Nat.le_of_ble_eq_true rfl⟩ (fun k h' hp => ?_) H (fun r h1 hp => ?_)
      · obtain ⟨hv, -⟩ := hp; cases hv
      obtain ⟨rfl, H⟩ := hp
      show am_J l g mX0_takeAway (d + 1) (0, 0, x) 38 [(0, .ref a0), (1, .int i1), (2, .int i2), (3, .int i3), (4, .int i4)] [] h1 Q
      refine J_aload_n dX0_takeAway_38 0 rfl ?_
      obtain ⟨fs, v3, hh, hk, H⟩ := H
      refine J_get dX0_takeAway_39 fX0_31 hh hk ?_
      clear hh hk
      refine J_iload_n dX0_takeAway_42 1 rfl ?_
      refine J_iload_n dX0_takeAway_43 3 rfl ?_
      refine J_iconst (v := 1) dX0_takeAway_44 (by decide) ?_
      refine J_iadd dX0_takeAway_45 ?_
      obtain ⟨⟨fs, hh⟩, H⟩ := H
      refine J_callV (As := [.int i1, .int (i3 + 1)]) (S := []) (b := v3) dX0_takeAway_46 mX2_next_ok kX0_71 rfl (by decide) (Nat.le_of_ble_eq_true rfl) hh rfl rfl (Nat.le_of_ble_eq_true rfl) ⟨Nat.le_of_ble_eq_true rfl, Nat.le_of_ble_eq_true rfl⟩ (fun k h' hp => ?_) H (fun r h4 hp => ?_)
      · obtain ⟨_, hv, -⟩ := hp; cases hv
      obtain ⟨v5, rfl, H⟩ := hp
      show am_J l g mX0_takeAway (d + 1) (0, 0, x) 49 [(0, .ref a0), (1, .int i1), (2, .int i2), (3, .int i3), (4, .int i4)] [.int v5] h4 Q
      refine J_istore_n (L' := [(3, .int v5), (0, .ref a0), (1, .int i1), (2, .int i2), (4, .int i4)]) dX0_takeAway_49 (by decide) rfl ?_
      refine J_iinc (v := (i4 + 1)) (L' := [(4, .int (i4 + 1)), (3, .int v5), (0, .ref a0), (1, .int i1), (2, .int i2)]) dX0_takeAway_50 4 rfl rfl (by decide) rfl ?_
      refine J_goto (tgt := 19) dX0_takeAway_53 (by decide) ?_
      exact J_pick [2, 3, 4, 1, 0] rfl H
def zX0_takeAway_0 (l : Launch) (g : am_G) (d : Nat) (x : Bool) (a0 : Nat) (i1 : Int32) (h : am_H) (Q : Option Value → am_H → Prop) : Prop := cv_I l g mX0_linksOf d x 0 a0 [.int i1] h (fun v2 h1 => gt_R h1 a0 0 3 (fun v3 => cv_I l g mX2_next d x 2 v3 [.int i1, .int 0] h1 (fun v5 h4 => am_J l g mX0_takeAway (d + 1) (0, 0, x) 19 [(0, .ref a0), (1, .int i1), (2, .int v2), (3, .int v5), (4, .int 0)] [] h4 Q)))
set_option maxRecDepth 4000 in
theorem rX0_takeAway_0 {l : Launch} {g : am_G} {d : Nat} {x : Bool} {a0 : Nat} {i1 : Int32} {h : am_H} {Q : Option Value → am_H → Prop} (H : zX0_takeAway_0 l g d x a0 i1 h Q) : am_J l g mX0_takeAway (d + 1) (0, 0, x) 0 [(0, .ref a0), (1, .int i1)] [] h Q := by
  unfold zX0_takeAway_0 at H
  refine J_aload_n dX0_takeAway_0 0 rfl ?_
  refine J_iload_n dX0_takeAway_1 1 rfl ?_
  obtain ⟨⟨fs, hh⟩, H⟩ := H
  refine J_callV (As := [.int i1]) (S := []) (b := a0) dX0_takeAway_2 mX0_linksOf_ok kX0_67 rfl (by decide) (Nat.le_of_ble_eq_true rfl) hh rfl rfl (Nat.le_of_ble_eq_true rfl) ⟨Nat.le_of_ble_eq_true rfl, Nat.le_of_ble_eq_true rfl⟩ (fun k h' hp => ?_) H (fun r h1 hp => ?_)
  · obtain ⟨_, hv, -⟩ := hp; cases hv
  obtain ⟨v2, rfl, H⟩ := hp
  show am_J l g mX0_takeAway (d + 1) (0, 0, x) 5 [(0, .ref a0), (1, .int i1)] [.int v2] h1 Q
  refine J_istore_n (L' := [(2, .int v2), (0, .ref a0), (1, .int i1)]) dX0_takeAway_5 (by decide) rfl ?_
  refine J_aload_n dX0_takeAway_6 1 rfl ?_
  obtain ⟨fs, v3, hh, hk, H⟩ := H
  refine J_get dX0_takeAway_7 fX0_31 hh hk ?_
  clear hh hk
  refine J_iload_n dX0_takeAway_10 2 rfl ?_
  refine J_iconst (v := 0) dX0_takeAway_11 (by decide) ?_
  obtain ⟨⟨fs, hh⟩, H⟩ := H
  refine J_callV (As := [.int i1, .int 0]) (S := []) (b := v3) dX0_takeAway_12 mX2_next_ok kX0_71 rfl (by decide) (Nat.le_of_ble_eq_true rfl) hh rfl rfl (Nat.le_of_ble_eq_true rfl) ⟨Nat.le_of_ble_eq_true rfl, Nat.le_of_ble_eq_true rfl⟩ (fun k h' hp => ?_) H (fun r h4 hp => ?_)
  · obtain ⟨_, hv, -⟩ := hp; cases hv
  obtain ⟨v5, rfl, H⟩ := hp
  show am_J l g mX0_takeAway (d + 1) (0, 0, x) 15 [(2, .int v2), (0, .ref a0), (1, .int i1)] [.int v5] h4 Q
  refine J_istore_n (L' := [(3, .int v5), (2, .int v2), (0, .ref a0), (1, .int i1)]) dX0_takeAway_15 (by decide) rfl ?_
  refine J_iconst (v := 0) dX0_takeAway_16 (by decide) ?_
  refine J_istore (L' := [(4, .int 0), (3, .int v5), (2, .int v2), (0, .ref a0), (1, .int i1)]) dX0_takeAway_17 (by decide) rfl ?_
  exact J_pick [3, 4, 2, 1, 0] rfl H
theorem eX0_takeAway {l : Launch} {g : am_G} {d : Nat} {x : Bool} {a0 : Nat} {i1 : Int32} {h : am_H} {K : Int32 → am_H → Prop} (H : zX0_takeAway_0 l g d x a0 i1 h (fun r h' => ∃ v, r = some (.int v) ∧ K v h')) : cl_I l g mX0_takeAway (d + 1) x [.ref a0, .int i1] h K := rX0_takeAway_0 H
def zX0_areLinked_0 (l : Launch) (g : am_G) (d : Nat) (x : Bool) (a0 : Nat) (i1 : Int32) (i2 : Int32) (h : am_H) (Q : Option Value → am_H → Prop) : Prop := gt_R h a0 0 3 (fun v1 => cv_I l g mX2_has d x 2 v1 [.int i1, .int i2] h (fun v3 h2 => ((v3 = 0 ∨ v3 = 1) ∧ Q (some (.int v3)) h2)))
set_option maxRecDepth 4000 in
theorem rX0_areLinked_0 {l : Launch} {g : am_G} {d : Nat} {x : Bool} {a0 : Nat} {i1 : Int32} {i2 : Int32} {h : am_H} {Q : Option Value → am_H → Prop} (H : zX0_areLinked_0 l g d x a0 i1 i2 h Q) : am_J l g mX0_areLinked (d + 1) (0, 0, x) 0 [(0, .ref a0), (1, .int i1), (2, .int i2)] [] h Q := by
  unfold zX0_areLinked_0 at H
  refine J_aload_n dX0_areLinked_0 0 rfl ?_
  obtain ⟨fs, v1, hh, hk, H⟩ := H
  refine J_get dX0_areLinked_1 fX0_31 hh hk ?_
  clear hh hk
  refine J_iload_n dX0_areLinked_4 1 rfl ?_
  refine J_iload_n dX0_areLinked_5 2 rfl ?_
  obtain ⟨⟨fs, hh⟩, H⟩ := H
  refine J_callV (As := [.int i1, .int i2]) (S := []) (b := v1) dX0_areLinked_6 mX2_has_ok kX0_79 rfl (by decide) (Nat.le_of_ble_eq_true rfl) hh rfl rfl (Nat.le_of_ble_eq_true rfl) ⟨Nat.le_of_ble_eq_true rfl, Nat.le_of_ble_eq_true rfl⟩ (fun k h' hp => ?_) H (fun r h2 hp => ?_)
  · obtain ⟨_, hv, -⟩ := hp; cases hv
  obtain ⟨v3, rfl, H⟩ := hp
  show am_J l g mX0_areLinked (d + 1) (0, 0, x) 9 [(0, .ref a0), (1, .int i1), (2, .int i2)] [.int v3] h2 Q
  obtain ⟨hb, H⟩ := H
  exact J_iret dX0_areLinked_9 (am_nar01 rfl hb) ⟨Nat.le_of_ble_eq_true rfl, Nat.le_of_ble_eq_true rfl, fun _ => rfl⟩ H
theorem eX0_areLinked {l : Launch} {g : am_G} {d : Nat} {x : Bool} {a0 : Nat} {i1 : Int32} {i2 : Int32} {h : am_H} {K : Int32 → am_H → Prop} (H : zX0_areLinked_0 l g d x a0 i1 i2 h (fun r h' => ∃ v, r = some (.int v) ∧ K v h')) : cl_I l g mX0_areLinked (d + 1) x [.ref a0, .int i1, .int i2] h K := rX0_areLinked_0 H
def zX0_goesOver_0 (l : Launch) (g : am_G) (d : Nat) (x : Bool) (a0 : Nat) (i1 : Int32) (i2 : Int32) (h : am_H) (Q : Option Value → am_H → Prop) : Prop := gt_R h a0 0 2 (fun v1 => cv_I l g mX2_has d x 2 v1 [.int i1, .int i2] h (fun v3 h2 => ((v3 = 0 ∨ v3 = 1) ∧ Q (some (.int v3)) h2)))
set_option maxRecDepth 4000 in
theorem rX0_goesOver_0 {l : Launch} {g : am_G} {d : Nat} {x : Bool} {a0 : Nat} {i1 : Int32} {i2 : Int32} {h : am_H} {Q : Option Value → am_H → Prop} (H : zX0_goesOver_0 l g d x a0 i1 i2 h Q) : am_J l g mX0_goesOver (d + 1) (0, 0, x) 0 [(0, .ref a0), (1, .int i1), (2, .int i2)] [] h Q := by
  unfold zX0_goesOver_0 at H
  refine J_aload_n dX0_goesOver_0 0 rfl ?_
  obtain ⟨fs, v1, hh, hk, H⟩ := H
  refine J_get dX0_goesOver_1 fX0_27 hh hk ?_
  clear hh hk
  refine J_iload_n dX0_goesOver_4 1 rfl ?_
  refine J_iload_n dX0_goesOver_5 2 rfl ?_
  obtain ⟨⟨fs, hh⟩, H⟩ := H
  refine J_callV (As := [.int i1, .int i2]) (S := []) (b := v1) dX0_goesOver_6 mX2_has_ok kX0_79 rfl (by decide) (Nat.le_of_ble_eq_true rfl) hh rfl rfl (Nat.le_of_ble_eq_true rfl) ⟨Nat.le_of_ble_eq_true rfl, Nat.le_of_ble_eq_true rfl⟩ (fun k h' hp => ?_) H (fun r h2 hp => ?_)
  · obtain ⟨_, hv, -⟩ := hp; cases hv
  obtain ⟨v3, rfl, H⟩ := hp
  show am_J l g mX0_goesOver (d + 1) (0, 0, x) 9 [(0, .ref a0), (1, .int i1), (2, .int i2)] [.int v3] h2 Q
  obtain ⟨hb, H⟩ := H
  exact J_iret dX0_goesOver_9 (am_nar01 rfl hb) ⟨Nat.le_of_ble_eq_true rfl, Nat.le_of_ble_eq_true rfl, fun _ => rfl⟩ H
theorem eX0_goesOver {l : Launch} {g : am_G} {d : Nat} {x : Bool} {a0 : Nat} {i1 : Int32} {i2 : Int32} {h : am_H} {K : Int32 → am_H → Prop} (H : zX0_goesOver_0 l g d x a0 i1 i2 h (fun r h' => ∃ v, r = some (.int v) ∧ K v h')) : cl_I l g mX0_goesOver (d + 1) x [.ref a0, .int i1, .int i2] h K := rX0_goesOver_0 H
def zX0_join_0 (l : Launch) (g : am_G) (d : Nat) (x : Bool) (a0 : Nat) (i1 : Int32) (i2 : Int32) (h : am_H) (Q : Option Value → am_H → Prop) : Prop := gt_R h a0 0 3 (fun v1 => cv_N l g mX2_put d x 2 v1 [.int i1, .int i2] h (fun h2 => gt_R h2 a0 0 3 (fun v4 => cv_N l g mX2_put d x 2 v4 [.int i2, .int i1] h2 (fun h5 => gt_R h5 a0 0 2 (fun v7 => cv_N l g mX2_put d x 2 v7 [.int i1, .int i2] h5 (fun h8 => gt_I h8 a0 0 8 (fun v10 => pt_V h8 a0 0 8 (.int (v10 + 1)) (fun h11 => Q none h11))))))))
set_option maxRecDepth 4000 in
theorem rX0_join_0 {l : Launch} {g : am_G} {d : Nat} {x : Bool} {a0 : Nat} {i1 : Int32} {i2 : Int32} {h : am_H} {Q : Option Value → am_H → Prop} (H : zX0_join_0 l g d x a0 i1 i2 h Q) : am_J l g mX0_join (d + 1) (0, 0, x) 0 [(0, .ref a0), (1, .int i1), (2, .int i2)] [] h Q := by
  unfold zX0_join_0 at H
  refine J_aload_n dX0_join_0 0 rfl ?_
  obtain ⟨fs, v1, hh, hk, H⟩ := H
  refine J_get dX0_join_1 fX0_31 hh hk ?_
  clear hh hk
  refine J_iload_n dX0_join_4 1 rfl ?_
  refine J_iload_n dX0_join_5 2 rfl ?_
  obtain ⟨⟨fs, hh⟩, H⟩ := H
  refine J_callV (As := [.int i1, .int i2]) (S := []) (b := v1) dX0_join_6 mX2_put_ok kX0_83 rfl (by decide) (Nat.le_of_ble_eq_true rfl) hh rfl rfl (Nat.le_of_ble_eq_true rfl) ⟨Nat.le_of_ble_eq_true rfl, Nat.le_of_ble_eq_true rfl⟩ (fun k h' hp => ?_) H (fun r h2 hp => ?_)
  · obtain ⟨hv, -⟩ := hp; cases hv
  obtain ⟨rfl, H⟩ := hp
  show am_J l g mX0_join (d + 1) (0, 0, x) 9 [(0, .ref a0), (1, .int i1), (2, .int i2)] [] h2 Q
  refine J_aload_n dX0_join_9 0 rfl ?_
  obtain ⟨fs, v4, hh, hk, H⟩ := H
  refine J_get dX0_join_10 fX0_31 hh hk ?_
  clear hh hk
  refine J_iload_n dX0_join_13 2 rfl ?_
  refine J_iload_n dX0_join_14 1 rfl ?_
  obtain ⟨⟨fs, hh⟩, H⟩ := H
  refine J_callV (As := [.int i2, .int i1]) (S := []) (b := v4) dX0_join_15 mX2_put_ok kX0_83 rfl (by decide) (Nat.le_of_ble_eq_true rfl) hh rfl rfl (Nat.le_of_ble_eq_true rfl) ⟨Nat.le_of_ble_eq_true rfl, Nat.le_of_ble_eq_true rfl⟩ (fun k h' hp => ?_) H (fun r h5 hp => ?_)
  · obtain ⟨hv, -⟩ := hp; cases hv
  obtain ⟨rfl, H⟩ := hp
  show am_J l g mX0_join (d + 1) (0, 0, x) 18 [(0, .ref a0), (1, .int i1), (2, .int i2)] [] h5 Q
  refine J_aload_n dX0_join_18 0 rfl ?_
  obtain ⟨fs, v7, hh, hk, H⟩ := H
  refine J_get dX0_join_19 fX0_27 hh hk ?_
  clear hh hk
  refine J_iload_n dX0_join_22 1 rfl ?_
  refine J_iload_n dX0_join_23 2 rfl ?_
  obtain ⟨⟨fs, hh⟩, H⟩ := H
  refine J_callV (As := [.int i1, .int i2]) (S := []) (b := v7) dX0_join_24 mX2_put_ok kX0_83 rfl (by decide) (Nat.le_of_ble_eq_true rfl) hh rfl rfl (Nat.le_of_ble_eq_true rfl) ⟨Nat.le_of_ble_eq_true rfl, Nat.le_of_ble_eq_true rfl⟩ (fun k h' hp => ?_) H (fun r h8 hp => ?_)
  · obtain ⟨hv, -⟩ := hp; cases hv
  obtain ⟨rfl, H⟩ := hp
  show am_J l g mX0_join (d + 1) (0, 0, x) 27 [(0, .ref a0), (1, .int i1), (2, .int i2)] [] h8 Q
  refine J_aload_n dX0_join_27 0 rfl ?_
  refine J_dup dX0_join_28 rfl ?_
  obtain ⟨fs, v10, hh, hk, H⟩ := H
  refine J_get dX0_join_29 fX0_54 hh hk ?_
  clear hh hk
  refine J_iconst (v := 1) dX0_join_32 (by decide) ?_
  refine J_iadd dX0_join_33 ?_
  obtain ⟨fs, hh, hk, H⟩ := H
  refine J_put dX0_join_34 fX0_54 rfl rfl hh hk ?_
  generalize List.set h8 a0 (am_O 0 (List.set fs 8 (.int (v10 + 1)))) = h11 at H ⊢
  clear hh hk
  exact J_vret dX0_join_37 rfl ⟨Nat.le_of_ble_eq_true rfl, Nat.le_of_ble_eq_true rfl, fun _ => rfl⟩ H
theorem eX0_join {l : Launch} {g : am_G} {d : Nat} {x : Bool} {a0 : Nat} {i1 : Int32} {i2 : Int32} {h : am_H} {K : am_H → Prop} (H : zX0_join_0 l g d x a0 i1 i2 h (fun r h' => r = none ∧ K h')) : cl_N l g mX0_join (d + 1) x [.ref a0, .int i1, .int i2] h K := rX0_join_0 H
def zX0_part_0 (l : Launch) (g : am_G) (d : Nat) (x : Bool) (a0 : Nat) (i1 : Int32) (i2 : Int32) (h : am_H) (Q : Option Value → am_H → Prop) : Prop := gt_R h a0 0 3 (fun v1 => cv_N l g mX2_drop d x 2 v1 [.int i1, .int i2] h (fun h2 => gt_R h2 a0 0 3 (fun v4 => cv_N l g mX2_drop d x 2 v4 [.int i2, .int i1] h2 (fun h5 => gt_R h5 a0 0 2 (fun v7 => cv_N l g mX2_drop d x 2 v7 [.int i1, .int i2] h5 (fun h8 => gt_R h8 a0 0 2 (fun v10 => cv_N l g mX2_drop d x 2 v10 [.int i2, .int i1] h8 (fun h11 => gt_I h11 a0 0 8 (fun v13 => pt_V h11 a0 0 8 (.int (v13 + 1)) (fun h14 => Q none h14))))))))))
set_option maxRecDepth 4000 in
theorem rX0_part_0 {l : Launch} {g : am_G} {d : Nat} {x : Bool} {a0 : Nat} {i1 : Int32} {i2 : Int32} {h : am_H} {Q : Option Value → am_H → Prop} (H : zX0_part_0 l g d x a0 i1 i2 h Q) : am_J l g mX0_part (d + 1) (0, 0, x) 0 [(0, .ref a0), (1, .int i1), (2, .int i2)] [] h Q := by
  unfold zX0_part_0 at H
  refine J_aload_n dX0_part_0 0 rfl ?_
  obtain ⟨fs, v1, hh, hk, H⟩ := H
  refine J_get dX0_part_1 fX0_31 hh hk ?_
  clear hh hk
  refine J_iload_n dX0_part_4 1 rfl ?_
  refine J_iload_n dX0_part_5 2 rfl ?_
  obtain ⟨⟨fs, hh⟩, H⟩ := H
  refine J_callV (As := [.int i1, .int i2]) (S := []) (b := v1) dX0_part_6 mX2_drop_ok kX0_86 rfl (by decide) (Nat.le_of_ble_eq_true rfl) hh rfl rfl (Nat.le_of_ble_eq_true rfl) ⟨Nat.le_of_ble_eq_true rfl, Nat.le_of_ble_eq_true rfl⟩ (fun k h' hp => ?_) H (fun r h2 hp => ?_)
  · obtain ⟨hv, -⟩ := hp; cases hv
  obtain ⟨rfl, H⟩ := hp
  show am_J l g mX0_part (d + 1) (0, 0, x) 9 [(0, .ref a0), (1, .int i1), (2, .int i2)] [] h2 Q
  refine J_aload_n dX0_part_9 0 rfl ?_
  obtain ⟨fs, v4, hh, hk, H⟩ := H
  refine J_get dX0_part_10 fX0_31 hh hk ?_
  clear hh hk
  refine J_iload_n dX0_part_13 2 rfl ?_
  refine J_iload_n dX0_part_14 1 rfl ?_
  obtain ⟨⟨fs, hh⟩, H⟩ := H
  refine J_callV (As := [.int i2, .int i1]) (S := []) (b := v4) dX0_part_15 mX2_drop_ok kX0_86 rfl (by decide) (Nat.le_of_ble_eq_true rfl) hh rfl rfl (Nat.le_of_ble_eq_true rfl) ⟨Nat.le_of_ble_eq_true rfl, Nat.le_of_ble_eq_true rfl⟩ (fun k h' hp => ?_) H (fun r h5 hp => ?_)
  · obtain ⟨hv, -⟩ := hp; cases hv
  obtain ⟨rfl, H⟩ := hp
  show am_J l g mX0_part (d + 1) (0, 0, x) 18 [(0, .ref a0), (1, .int i1), (2, .int i2)] [] h5 Q
  refine J_aload_n dX0_part_18 0 rfl ?_
  obtain ⟨fs, v7, hh, hk, H⟩ := H
  refine J_get dX0_part_19 fX0_27 hh hk ?_
  clear hh hk
  refine J_iload_n dX0_part_22 1 rfl ?_
  refine J_iload_n dX0_part_23 2 rfl ?_
  obtain ⟨⟨fs, hh⟩, H⟩ := H
  refine J_callV (As := [.int i1, .int i2]) (S := []) (b := v7) dX0_part_24 mX2_drop_ok kX0_86 rfl (by decide) (Nat.le_of_ble_eq_true rfl) hh rfl rfl (Nat.le_of_ble_eq_true rfl) ⟨Nat.le_of_ble_eq_true rfl, Nat.le_of_ble_eq_true rfl⟩ (fun k h' hp => ?_) H (fun r h8 hp => ?_)
  · obtain ⟨hv, -⟩ := hp; cases hv
  obtain ⟨rfl, H⟩ := hp
  show am_J l g mX0_part (d + 1) (0, 0, x) 27 [(0, .ref a0), (1, .int i1), (2, .int i2)] [] h8 Q
  refine J_aload_n dX0_part_27 0 rfl ?_
  obtain ⟨fs, v10, hh, hk, H⟩ := H
  refine J_get dX0_part_28 fX0_27 hh hk ?_
  clear hh hk
  refine J_iload_n dX0_part_31 2 rfl ?_
  refine J_iload_n dX0_part_32 1 rfl ?_
  obtain ⟨⟨fs, hh⟩, H⟩ := H
  refine J_callV (As := [.int i2, .int i1]) (S := []) (b := v10) dX0_part_33 mX2_drop_ok kX0_86 rfl (by decide) (Nat.le_of_ble_eq_true rfl) hh rfl rfl (Nat.le_of_ble_eq_true rfl) ⟨Nat.le_of_ble_eq_true rfl, Nat.le_of_ble_eq_true rfl⟩ (fun k h' hp => ?_) H (fun r h11 hp => ?_)
  · obtain ⟨hv, -⟩ := hp; cases hv
  obtain ⟨rfl, H⟩ := hp
  show am_J l g mX0_part (d + 1) (0, 0, x) 36 [(0, .ref a0), (1, .int i1), (2, .int i2)] [] h11 Q
  refine J_aload_n dX0_part_36 0 rfl ?_
  refine J_dup dX0_part_37 rfl ?_
  obtain ⟨fs, v13, hh, hk, H⟩ := H
  refine J_get dX0_part_38 fX0_54 hh hk ?_
  clear hh hk
  refine J_iconst (v := 1) dX0_part_41 (by decide) ?_
  refine J_iadd dX0_part_42 ?_
  obtain ⟨fs, hh, hk, H⟩ := H
  refine J_put dX0_part_43 fX0_54 rfl rfl hh hk ?_
  generalize List.set h11 a0 (am_O 0 (List.set fs 8 (.int (v13 + 1)))) = h14 at H ⊢
  clear hh hk
  exact J_vret dX0_part_46 rfl ⟨Nat.le_of_ble_eq_true rfl, Nat.le_of_ble_eq_true rfl, fun _ => rfl⟩ H
theorem eX0_part {l : Launch} {g : am_G} {d : Nat} {x : Bool} {a0 : Nat} {i1 : Int32} {i2 : Int32} {h : am_H} {K : am_H → Prop} (H : zX0_part_0 l g d x a0 i1 i2 h (fun r h' => r = none ∧ K h')) : cl_N l g mX0_part (d + 1) x [.ref a0, .int i1, .int i2] h K := rX0_part_0 H
def zX0_mendWorn_46 (l : Launch) (g : am_G) (d : Nat) (x : Bool) (a0 : Nat) (i1 : Int32) (i2 : Int32) (h : am_H) (Q : Option Value → am_H → Prop) : Prop := am_J l g mX0_mendWorn (d + 1) (0, 0, x) 4 [(0, .ref a0), (1, .int i1), (2, .int (i2 + 1))] [] h Q
set_option maxRecDepth 4000 in
theorem rX0_mendWorn_46 {l : Launch} {g : am_G} {d : Nat} {x : Bool} {a0 : Nat} {i1 : Int32} {i2 : Int32} {h : am_H} {Q : Option Value → am_H → Prop} (H : zX0_mendWorn_46 l g d x a0 i1 i2 h Q) : am_J l g mX0_mendWorn (d + 1) (0, 0, x) 46 [(0, .ref a0), (1, .int i1), (2, .int i2)] [] h Q := by
  unfold zX0_mendWorn_46 at H
  refine J_iinc (v := (i2 + 1)) (L' := [(2, .int (i2 + 1)), (0, .ref a0), (1, .int i1)]) dX0_mendWorn_46 2 rfl rfl (by decide) rfl ?_
  refine J_goto (tgt := 4) dX0_mendWorn_49 (by decide) ?_
  exact J_pick [1, 2, 0] rfl H
def zX0_mendWorn_4 (l : Launch) (g : am_G) (d : Nat) (x : Bool) (a0 : Nat) (i1 : Int32) (i2 : Int32) (h : am_H) (Q : Option Value → am_H → Prop) : Prop := gt_I h a0 0 6 (fun v1 => ((v1 ≤ i2 → Q (some (.int i1)) h) ∧ (¬ v1 ≤ i2 → gt_R h a0 0 1 (fun v2 => al_I 2 h v2 i2 (fun v3 => ((¬ v3 = 0 → zX0_mendWorn_46 l g d x a0 i1 i2  h Q) ∧ (v3 = 0 → gt_R h a0 0 1 (fun v4 => as_I 2 h v4 i2 1 (fun h5 => cv_N l g mX0_joinAsTold d x 0 a0 [.int i2] h5 (fun h6 => gt_I h6 a0 0 8 (fun v8 => pt_V h6 a0 0 8 (.int (v8 + 1)) (fun h9 => zX0_mendWorn_46 l g d x a0 (i1 + 1) i2  h9 Q))))))))))))
set_option maxRecDepth 4000 in
theorem rX0_mendWorn_4 {l : Launch} {g : am_G} {d : Nat} {x : Bool} {a0 : Nat} {i1 : Int32} {i2 : Int32} {h : am_H} {Q : Option Value → am_H → Prop} (H : zX0_mendWorn_4 l g d x a0 i1 i2 h Q) : am_J l g mX0_mendWorn (d + 1) (0, 0, x) 4 [(0, .ref a0), (1, .int i1), (2, .int i2)] [] h Q := by
  unfold zX0_mendWorn_4 at H
  refine J_iload_n dX0_mendWorn_4 2 rfl ?_
  refine J_aload_n dX0_mendWorn_5 0 rfl ?_
  obtain ⟨fs, v1, hh, hk, H⟩ := H
  refine J_get dX0_mendWorn_6 fX0_48 hh hk ?_
  clear hh hk
  obtain ⟨H1, H2⟩ := H
  refine J_icmp_ge (tgt := 52) dX0_mendWorn_9 (by decide) (fun hc => ?_) (fun hc => ?_)
  · replace H := H1 hc
    clear H1 H2
    refine J_iload_n dX0_mendWorn_52 1 rfl ?_
    exact J_iret dX0_mendWorn_53 ⟨_, rfl, rfl⟩ ⟨Nat.le_of_ble_eq_true rfl, Nat.le_of_ble_eq_true rfl, fun _ => rfl⟩ H
  · replace H := H2 hc
    clear H1 H2
    refine J_aload_n dX0_mendWorn_12 0 rfl ?_
    obtain ⟨fs, v2, hh, hk, H⟩ := H
    refine J_get dX0_mendWorn_13 fX0_18 hh hk ?_
    clear hh hk
    refine J_iload_n dX0_mendWorn_16 2 rfl ?_
    obtain ⟨nn, ff, hh, hk, H⟩ := H
    refine J_zald dX0_mendWorn_17 hh hk ?_
    generalize ff (Int32.toNatClampNeg i2) = v3 at H ⊢
    clear hh hk ff
    obtain ⟨H1, H2⟩ := H
    refine J_if_ne (tgt := 46) dX0_mendWorn_18 (by decide) (fun hc => ?_) (fun hc => ?_)
    · replace H := H1 hc
      clear H1 H2
      exact J_pick [0, 1, 2] rfl (rX0_mendWorn_46 H)
    · replace H := H2 hc
      clear H1 H2
      refine J_aload_n dX0_mendWorn_21 0 rfl ?_
      obtain ⟨fs, v4, hh, hk, H⟩ := H
      refine J_get dX0_mendWorn_22 fX0_18 hh hk ?_
      clear hh hk
      refine J_iload_n dX0_mendWorn_25 2 rfl ?_
      refine J_iconst (v := 1) dX0_mendWorn_26 (by decide) ?_
      obtain ⟨nn, ff, hh, hk, H⟩ := H
      refine J_zast dX0_mendWorn_27 hh hk rfl ?_
      generalize List.set h v4 (am_I 2 nn (upd ff (Int32.toNatClampNeg i2) 1)) = h5 at H ⊢
      clear hh hk
      refine J_aload_n dX0_mendWorn_28 0 rfl ?_
      refine J_iload_n dX0_mendWorn_29 2 rfl ?_
      obtain ⟨⟨fs, hh⟩, H⟩ := H
      refine J_callV (As := [.int i2]) (S := []) (b := a0) dX0_mendWorn_30 mX0_joinAsTold_ok kX0_60 rfl (by decide) (Nat.le_of_ble_eq_true rfl) hh rfl rfl (Nat.le_of_ble_eq_true rfl) ⟨Nat.le_of_ble_eq_true rfl, Nat.le_of_ble_eq_true rfl⟩ (fun k h' hp => ?_) H (fun r h6 hp => ?_)
      · obtain ⟨hv, -⟩ := hp; cases hv
      obtain ⟨rfl, H⟩ := hp
      show am_J l g mX0_mendWorn (d + 1) (0, 0, x) 33 [(0, .ref a0), (1, .int i1), (2, .int i2)] [] h6 Q
      refine J_iinc (v := (i1 + 1)) (L' := [(1, .int (i1 + 1)), (0, .ref a0), (2, .int i2)]) dX0_mendWorn_33 1 rfl rfl (by decide) rfl ?_
      refine J_aload_n dX0_mendWorn_36 1 rfl ?_
      refine J_dup dX0_mendWorn_37 rfl ?_
      obtain ⟨fs, v8, hh, hk, H⟩ := H
      refine J_get dX0_mendWorn_38 fX0_54 hh hk ?_
      clear hh hk
      refine J_iconst (v := 1) dX0_mendWorn_41 (by decide) ?_
      refine J_iadd dX0_mendWorn_42 ?_
      obtain ⟨fs, hh, hk, H⟩ := H
      refine J_put dX0_mendWorn_43 fX0_54 rfl rfl hh hk ?_
      generalize List.set h6 a0 (am_O 0 (List.set fs 8 (.int (v8 + 1)))) = h9 at H ⊢
      clear hh hk
      exact J_pick [1, 0, 2] rfl (rX0_mendWorn_46 H)
def zX0_mendWorn_0 (l : Launch) (g : am_G) (d : Nat) (x : Bool) (a0 : Nat) (h : am_H) (Q : Option Value → am_H → Prop) : Prop := am_J l g mX0_mendWorn (d + 1) (0, 0, x) 4 [(0, .ref a0), (1, .int 0), (2, .int 0)] [] h Q
set_option maxRecDepth 4000 in
theorem rX0_mendWorn_0 {l : Launch} {g : am_G} {d : Nat} {x : Bool} {a0 : Nat} {h : am_H} {Q : Option Value → am_H → Prop} (H : zX0_mendWorn_0 l g d x a0 h Q) : am_J l g mX0_mendWorn (d + 1) (0, 0, x) 0 [(0, .ref a0)] [] h Q := by
  unfold zX0_mendWorn_0 at H
  refine J_iconst (v := 0) dX0_mendWorn_0 (by decide) ?_
  refine J_istore_n (L' := [(1, .int 0), (0, .ref a0)]) dX0_mendWorn_1 (by decide) rfl ?_
  refine J_iconst (v := 0) dX0_mendWorn_2 (by decide) ?_
  refine J_istore_n (L' := [(2, .int 0), (1, .int 0), (0, .ref a0)]) dX0_mendWorn_3 (by decide) rfl ?_
  exact J_pick [2, 1, 0] rfl H
theorem eX0_mendWorn {l : Launch} {g : am_G} {d : Nat} {x : Bool} {a0 : Nat} {h : am_H} {K : Int32 → am_H → Prop} (H : zX0_mendWorn_0 l g d x a0 h (fun r h' => ∃ v, r = some (.int v) ∧ K v h')) : cl_I l g mX0_mendWorn (d + 1) x [.ref a0] h K := rX0_mendWorn_0 H
def zX0_linksOf_0 (l : Launch) (g : am_G) (d : Nat) (x : Bool) (a0 : Nat) (i1 : Int32) (h : am_H) (Q : Option Value → am_H → Prop) : Prop := gt_R h a0 0 3 (fun v1 => cv_I l g mX2_size d x 2 v1 [.int i1] h (fun v3 h2 => Q (some (.int v3)) h2))
set_option maxRecDepth 4000 in
theorem rX0_linksOf_0 {l : Launch} {g : am_G} {d : Nat} {x : Bool} {a0 : Nat} {i1 : Int32} {h : am_H} {Q : Option Value → am_H → Prop} (H : zX0_linksOf_0 l g d x a0 i1 h Q) : am_J l g mX0_linksOf (d + 1) (0, 0, x) 0 [(0, .ref a0), (1, .int i1)] [] h Q := by
  unfold zX0_linksOf_0 at H
  refine J_aload_n dX0_linksOf_0 0 rfl ?_
  obtain ⟨fs, v1, hh, hk, H⟩ := H
  refine J_get dX0_linksOf_1 fX0_31 hh hk ?_
  clear hh hk
  refine J_iload_n dX0_linksOf_4 1 rfl ?_
  obtain ⟨⟨fs, hh⟩, H⟩ := H
  refine J_callV (As := [.int i1]) (S := []) (b := v1) dX0_linksOf_5 mX2_size_ok kX0_89 rfl (by decide) (Nat.le_of_ble_eq_true rfl) hh rfl rfl (Nat.le_of_ble_eq_true rfl) ⟨Nat.le_of_ble_eq_true rfl, Nat.le_of_ble_eq_true rfl⟩ (fun k h' hp => ?_) H (fun r h2 hp => ?_)
  · obtain ⟨_, hv, -⟩ := hp; cases hv
  obtain ⟨v3, rfl, H⟩ := hp
  show am_J l g mX0_linksOf (d + 1) (0, 0, x) 8 [(0, .ref a0), (1, .int i1)] [.int v3] h2 Q
  exact J_iret dX0_linksOf_8 ⟨_, rfl, rfl⟩ ⟨Nat.le_of_ble_eq_true rfl, Nat.le_of_ble_eq_true rfl, fun _ => rfl⟩ H
theorem eX0_linksOf {l : Launch} {g : am_G} {d : Nat} {x : Bool} {a0 : Nat} {i1 : Int32} {h : am_H} {K : Int32 → am_H → Prop} (H : zX0_linksOf_0 l g d x a0 i1 h (fun r h' => ∃ v, r = some (.int v) ∧ K v h')) : cl_I l g mX0_linksOf (d + 1) x [.ref a0, .int i1] h K := rX0_linksOf_0 H
def zX0_linkedAtPlace_42 (l : Launch) (g : am_G) (d : Nat) (x : Bool) (i2 : Int32) (i3 : Int32) (h : am_H) (Q : Option Value → am_H → Prop) : Prop := ((0 ≤ i2 → Q (some (.int i3)) h) ∧ (¬ 0 ≤ i2 → Q (some (.int (-1))) h))
set_option maxRecDepth 4000 in
theorem rX0_linkedAtPlace_42 {l : Launch} {g : am_G} {d : Nat} {x : Bool} {i2 : Int32} {i3 : Int32} {h : am_H} {Q : Option Value → am_H → Prop} (H : zX0_linkedAtPlace_42 l g d x i2 i3 h Q) : am_J l g mX0_linkedAtPlace (d + 1) (0, 0, x) 42 [(2, .int i2), (3, .int i3)] [] h Q := by
  unfold zX0_linkedAtPlace_42 at H
  refine J_iload_n dX0_linkedAtPlace_42 0 rfl ?_
  obtain ⟨H1, H2⟩ := H
  refine J_if_ge (tgt := 50) dX0_linkedAtPlace_43 (by decide) (fun hc => ?_) (fun hc => ?_)
  · replace H := H1 hc
    clear H1 H2
    refine J_iload_n dX0_linkedAtPlace_50 1 rfl ?_
    exact J_iret dX0_linkedAtPlace_51 ⟨_, rfl, rfl⟩ ⟨Nat.le_of_ble_eq_true rfl, Nat.le_of_ble_eq_true rfl, fun _ => rfl⟩ H
  · replace H := H2 hc
    clear H1 H2
    refine J_iconst (v := (-1)) dX0_linkedAtPlace_46 (by decide) ?_
    refine J_goto (tgt := 51) dX0_linkedAtPlace_47 (by decide) ?_
    exact J_iret dX0_linkedAtPlace_51 ⟨_, rfl, rfl⟩ ⟨Nat.le_of_ble_eq_true rfl, Nat.le_of_ble_eq_true rfl, fun _ => rfl⟩ H
def zX0_linkedAtPlace_13 (l : Launch) (g : am_G) (d : Nat) (x : Bool) (a0 : Nat) (i1 : Int32) (i2 : Int32) (i3 : Int32) (i4 : Int32) (h : am_H) (Q : Option Value → am_H → Prop) : Prop := ((i2 ≤ i4 → zX0_linkedAtPlace_42 l g d x i2 i3  h Q) ∧ (¬ i2 ≤ i4 → ((i3 = (-1) → zX0_linkedAtPlace_42 l g d x i2 i3  h Q) ∧ (¬ i3 = (-1) → gt_R h a0 0 3 (fun v1 => cv_I l g mX2_next d x 2 v1 [.int i1, .int (i3 + 1)] h (fun v3 h2 => am_J l g mX0_linkedAtPlace (d + 1) (0, 0, x) 13 [(0, .ref a0), (1, .int i1), (2, .int i2), (3, .int v3), (4, .int (i4 + 1))] [] h2 Q))))))
set_option maxRecDepth 4000 in
theorem rX0_linkedAtPlace_13 {l : Launch} {g : am_G} {d : Nat} {x : Bool} {a0 : Nat} {i1 : Int32} {i2 : Int32} {i3 : Int32} {i4 : Int32} {h : am_H} {Q : Option Value → am_H → Prop} (H : zX0_linkedAtPlace_13 l g d x a0 i1 i2 i3 i4 h Q) : am_J l g mX0_linkedAtPlace (d + 1) (0, 0, x) 13 [(0, .ref a0), (1, .int i1), (2, .int i2), (3, .int i3), (4, .int i4)] [] h Q := by
  unfold zX0_linkedAtPlace_13 at H
  refine J_iload dX0_linkedAtPlace_13 4 rfl ?_
  refine J_iload_n dX0_linkedAtPlace_15 2 rfl ?_
  obtain ⟨H1, H2⟩ := H
  refine J_icmp_ge (tgt := 42) dX0_linkedAtPlace_16 (by decide) (fun hc => ?_) (fun hc => ?_)
  · replace H := H1 hc
    clear H1 H2
    exact J_pick [2, 3] rfl (rX0_linkedAtPlace_42 H)
  · replace H := H2 hc
    clear H1 H2
    refine J_iload_n dX0_linkedAtPlace_19 3 rfl ?_
    refine J_iconst (v := (-1)) dX0_linkedAtPlace_20 (by decide) ?_
    obtain ⟨H1, H2⟩ := H
    refine J_icmp_eq (tgt := 42) dX0_linkedAtPlace_21 (by decide) (fun hc => ?_) (fun hc => ?_)
    · replace H := H1 hc
      clear H1 H2
      exact J_pick [2, 3] rfl (rX0_linkedAtPlace_42 H)
    · replace H := H2 hc
      clear H1 H2
      refine J_aload_n dX0_linkedAtPlace_24 0 rfl ?_
      obtain ⟨fs, v1, hh, hk, H⟩ := H
      refine J_get dX0_linkedAtPlace_25 fX0_31 hh hk ?_
      clear hh hk
      refine J_iload_n dX0_linkedAtPlace_28 1 rfl ?_
      refine J_iload_n dX0_linkedAtPlace_29 3 rfl ?_
      refine J_iconst (v := 1) dX0_linkedAtPlace_30 (by decide) ?_
      refine J_iadd dX0_linkedAtPlace_31 ?_
      obtain ⟨⟨fs, hh⟩, H⟩ := H
      refine J_callV (As := [.int i1, .int (i3 + 1)]) (S := []) (b := v1) dX0_linkedAtPlace_32 mX2_next_ok kX0_71 rfl (by decide) (Nat.le_of_ble_eq_true rfl) hh rfl rfl (Nat.le_of_ble_eq_true rfl) ⟨Nat.le_of_ble_eq_true rfl, Nat.le_of_ble_eq_true rfl⟩ (fun k h' hp => ?_) H (fun r h2 hp => ?_)
      · obtain ⟨_, hv, -⟩ := hp; cases hv
      obtain ⟨v3, rfl, H⟩ := hp
      show am_J l g mX0_linkedAtPlace (d + 1) (0, 0, x) 35 [(0, .ref a0), (1, .int i1), (2, .int i2), (3, .int i3), (4, .int i4)] [.int v3] h2 Q
      refine J_istore_n (L' := [(3, .int v3), (0, .ref a0), (1, .int i1), (2, .int i2), (4, .int i4)]) dX0_linkedAtPlace_35 (by decide) rfl ?_
      refine J_iinc (v := (i4 + 1)) (L' := [(4, .int (i4 + 1)), (3, .int v3), (0, .ref a0), (1, .int i1), (2, .int i2)]) dX0_linkedAtPlace_36 4 rfl rfl (by decide) rfl ?_
      refine J_goto (tgt := 13) dX0_linkedAtPlace_39 (by decide) ?_
      exact J_pick [2, 3, 4, 1, 0] rfl H
def zX0_linkedAtPlace_0 (l : Launch) (g : am_G) (d : Nat) (x : Bool) (a0 : Nat) (i1 : Int32) (i2 : Int32) (h : am_H) (Q : Option Value → am_H → Prop) : Prop := gt_R h a0 0 3 (fun v1 => cv_I l g mX2_next d x 2 v1 [.int i1, .int 0] h (fun v3 h2 => am_J l g mX0_linkedAtPlace (d + 1) (0, 0, x) 13 [(0, .ref a0), (1, .int i1), (2, .int i2), (3, .int v3), (4, .int 0)] [] h2 Q))
set_option maxRecDepth 4000 in
theorem rX0_linkedAtPlace_0 {l : Launch} {g : am_G} {d : Nat} {x : Bool} {a0 : Nat} {i1 : Int32} {i2 : Int32} {h : am_H} {Q : Option Value → am_H → Prop} (H : zX0_linkedAtPlace_0 l g d x a0 i1 i2 h Q) : am_J l g mX0_linkedAtPlace (d + 1) (0, 0, x) 0 [(0, .ref a0), (1, .int i1), (2, .int i2)] [] h Q := by
  unfold zX0_linkedAtPlace_0 at H
  refine J_aload_n dX0_linkedAtPlace_0 0 rfl ?_
  obtain ⟨fs, v1, hh, hk, H⟩ := H
  refine J_get dX0_linkedAtPlace_1 fX0_31 hh hk ?_
  clear hh hk
  refine J_iload_n dX0_linkedAtPlace_4 1 rfl ?_
  refine J_iconst (v := 0) dX0_linkedAtPlace_5 (by decide) ?_
  obtain ⟨⟨fs, hh⟩, H⟩ := H
  refine J_callV (As := [.int i1, .int 0]) (S := []) (b := v1) dX0_linkedAtPlace_6 mX2_next_ok kX0_71 rfl (by decide) (Nat.le_of_ble_eq_true rfl) hh rfl rfl (Nat.le_of_ble_eq_true rfl) ⟨Nat.le_of_ble_eq_true rfl, Nat.le_of_ble_eq_true rfl⟩ (fun k h' hp => ?_) H (fun r h2 hp => ?_)
  · obtain ⟨_, hv, -⟩ := hp; cases hv
  obtain ⟨v3, rfl, H⟩ := hp
  show am_J l g mX0_linkedAtPlace (d + 1) (0, 0, x) 9 [(0, .ref a0), (1, .int i1), (2, .int i2)] [.int v3] h2 Q
  refine J_istore_n (L' := [(3, .int v3), (0, .ref a0), (1, .int i1), (2, .int i2)]) dX0_linkedAtPlace_9 (by decide) rfl ?_
  refine J_iconst (v := 0) dX0_linkedAtPlace_10 (by decide) ?_
  refine J_istore (L' := [(4, .int 0), (3, .int v3), (0, .ref a0), (1, .int i1), (2, .int i2)]) dX0_linkedAtPlace_11 (by decide) rfl ?_
  exact J_pick [2, 3, 4, 1, 0] rfl H
theorem eX0_linkedAtPlace {l : Launch} {g : am_G} {d : Nat} {x : Bool} {a0 : Nat} {i1 : Int32} {i2 : Int32} {h : am_H} {K : Int32 → am_H → Prop} (H : zX0_linkedAtPlace_0 l g d x a0 i1 i2 h (fun r h' => ∃ v, r = some (.int v) ∧ K v h')) : cl_I l g mX0_linkedAtPlace (d + 1) x [.ref a0, .int i1, .int i2] h K := rX0_linkedAtPlace_0 H
def zX0_isFull_20 (l : Launch) (g : am_G) (d : Nat) (x : Bool) (a0 : Nat) (i1 : Int32) (i2 : Int32) (h : am_H) (Q : Option Value → am_H → Prop) : Prop := gt_R h a0 0 0 (fun v1 => gt_I h v1 7 6 (fun v2 => ((v2 ≤ i2 → Q (some (.int 1)) h) ∧ (¬ v2 ≤ i2 → cv_I l g mX0_standsAsTold d x 0 a0 [.int i1, .int i2, .int 1] h (fun v4 h3 => ((v4 = 0 → Q (some (.int 0)) h3) ∧ (¬ v4 = 0 → cv_I l g mX0_standsAsTold d x 0 a0 [.int i1, .int i2, .int 0] h3 (fun v6 h5 => ((¬ v6 = 0 → am_J l g mX0_isFull (d + 1) (0, 0, x) 20 [(0, .ref a0), (1, .int i1), (2, .int (i2 + 1))] [] h5 Q) ∧ (v6 = 0 → Q (some (.int 0)) h5))))))))))
set_option maxRecDepth 4000 in
theorem rX0_isFull_20 {l : Launch} {g : am_G} {d : Nat} {x : Bool} {a0 : Nat} {i1 : Int32} {i2 : Int32} {h : am_H} {Q : Option Value → am_H → Prop} (H : zX0_isFull_20 l g d x a0 i1 i2 h Q) : am_J l g mX0_isFull (d + 1) (0, 0, x) 20 [(0, .ref a0), (1, .int i1), (2, .int i2)] [] h Q := by
  unfold zX0_isFull_20 at H
  refine J_iload_n dX0_isFull_20 2 rfl ?_
  refine J_aload_n dX0_isFull_21 0 rfl ?_
  obtain ⟨fs, v1, hh, hk, H⟩ := H
  refine J_get dX0_isFull_22 fX0_12 hh hk ?_
  clear hh hk
  obtain ⟨fs, v2, hh, hk, H⟩ := H
  refine J_get dX0_isFull_25 fX0_95 hh hk ?_
  clear hh hk
  obtain ⟨H1, H2⟩ := H
  refine J_icmp_ge (tgt := 59) dX0_isFull_28 (by decide) (fun hc => ?_) (fun hc => ?_)
  · replace H := H1 hc
    clear H1 H2
    refine J_iconst (v := 1) dX0_isFull_59 (by decide) ?_
    exact J_iret dX0_isFull_60 ⟨_, rfl, rfl⟩ ⟨Nat.le_of_ble_eq_true rfl, Nat.le_of_ble_eq_true rfl, fun _ => rfl⟩ H
  · replace H := H2 hc
    clear H1 H2
    refine J_aload_n dX0_isFull_31 0 rfl ?_
    refine J_iload_n dX0_isFull_32 1 rfl ?_
    refine J_iload_n dX0_isFull_33 2 rfl ?_
    refine J_iconst (v := 1) dX0_isFull_34 (by decide) ?_
    obtain ⟨⟨fs, hh⟩, H⟩ := H
    refine J_callV (As := [.int i1, .int i2, .int 1]) (S := []) (b := a0) dX0_isFull_35 mX0_standsAsTold_ok kX0_98 rfl (by decide) (Nat.le_of_ble_eq_true rfl) hh rfl rfl (Nat.le_of_ble_eq_true rfl) ⟨Nat.le_of_ble_eq_true rfl, Nat.le_of_ble_eq_true rfl⟩ (fun k h' hp => ?_) H (fun r h3 hp => ?_)
    · obtain ⟨_, hv, -⟩ := hp; cases hv
    obtain ⟨v4, rfl, H⟩ := hp
    show am_J l g mX0_isFull (d + 1) (0, 0, x) 38 [(0, .ref a0), (1, .int i1), (2, .int i2)] [.int v4] h3 Q
    obtain ⟨H1, H2⟩ := H
    refine J_if_eq (tgt := 51) dX0_isFull_38 (by decide) (fun hc => ?_) (fun hc => ?_)
    · replace H := H1 hc
      clear H1 H2
      refine J_iconst (v := 0) dX0_isFull_51 (by decide) ?_
      exact J_iret dX0_isFull_52 ⟨_, rfl, rfl⟩ ⟨Nat.le_of_ble_eq_true rfl, Nat.le_of_ble_eq_true rfl, fun _ => rfl⟩ H
    · replace H := H2 hc
      clear H1 H2
      refine J_aload_n dX0_isFull_41 0 rfl ?_
      refine J_iload_n dX0_isFull_42 1 rfl ?_
      refine J_iload_n dX0_isFull_43 2 rfl ?_
      refine J_iconst (v := 0) dX0_isFull_44 (by decide) ?_
      obtain ⟨⟨fs, hh⟩, H⟩ := H
      refine J_callV (As := [.int i1, .int i2, .int 0]) (S := []) (b := a0) dX0_isFull_45 mX0_standsAsTold_ok kX0_98 rfl (by decide) (Nat.le_of_ble_eq_true rfl) hh rfl rfl (Nat.le_of_ble_eq_true rfl) ⟨Nat.le_of_ble_eq_true rfl, Nat.le_of_ble_eq_true rfl⟩ (fun k h' hp => ?_) H (fun r h5 hp => ?_)
      · obtain ⟨_, hv, -⟩ := hp; cases hv
      obtain ⟨v6, rfl, H⟩ := hp
      show am_J l g mX0_isFull (d + 1) (0, 0, x) 48 [(0, .ref a0), (1, .int i1), (2, .int i2)] [.int v6] h5 Q
      obtain ⟨H1, H2⟩ := H
      refine J_if_ne (tgt := 53) dX0_isFull_48 (by decide) (fun hc => ?_) (fun hc => ?_)
      · replace H := H1 hc
        clear H1 H2
        refine J_iinc (v := (i2 + 1)) (L' := [(2, .int (i2 + 1)), (0, .ref a0), (1, .int i1)]) dX0_isFull_53 2 rfl rfl (by decide) rfl ?_
        refine J_goto (tgt := 20) dX0_isFull_56 (by decide) ?_
        exact J_pick [1, 2, 0] rfl H
      · replace H := H2 hc
        clear H1 H2
        refine J_iconst (v := 0) dX0_isFull_51 (by decide) ?_
        exact J_iret dX0_isFull_52 ⟨_, rfl, rfl⟩ ⟨Nat.le_of_ble_eq_true rfl, Nat.le_of_ble_eq_true rfl, fun _ => rfl⟩ H
def zX0_isFull_0 (l : Launch) (g : am_G) (d : Nat) (x : Bool) (a0 : Nat) (i1 : Int32) (h : am_H) (Q : Option Value → am_H → Prop) : Prop := cv_I l g mX0_isThere d x 0 a0 [.int i1] h (fun v2 h1 => ((v2 = 0 → Q (some (.int 0)) h1) ∧ (¬ v2 = 0 → gt_I h1 a0 0 6 (fun v3 => ((i1 < v3 → am_J l g mX0_isFull (d + 1) (0, 0, x) 20 [(0, .ref a0), (1, .int i1), (2, .int 0)] [] h1 Q) ∧ (¬ i1 < v3 → Q (some (.int 0)) h1))))))
set_option maxRecDepth 4000 in
theorem rX0_isFull_0 {l : Launch} {g : am_G} {d : Nat} {x : Bool} {a0 : Nat} {i1 : Int32} {h : am_H} {Q : Option Value → am_H → Prop} (H : zX0_isFull_0 l g d x a0 i1 h Q) : am_J l g mX0_isFull (d + 1) (0, 0, x) 0 [(0, .ref a0), (1, .int i1)] [] h Q := by
  unfold zX0_isFull_0 at H
  refine J_aload_n dX0_isFull_0 0 rfl ?_
  refine J_iload_n dX0_isFull_1 1 rfl ?_
  obtain ⟨⟨fs, hh⟩, H⟩ := H
  refine J_callV (As := [.int i1]) (S := []) (b := a0) dX0_isFull_2 mX0_isThere_ok kX0_92 rfl (by decide) (Nat.le_of_ble_eq_true rfl) hh rfl rfl (Nat.le_of_ble_eq_true rfl) ⟨Nat.le_of_ble_eq_true rfl, Nat.le_of_ble_eq_true rfl⟩ (fun k h' hp => ?_) H (fun r h1 hp => ?_)
  · obtain ⟨_, hv, -⟩ := hp; cases hv
  obtain ⟨v2, rfl, H⟩ := hp
  show am_J l g mX0_isFull (d + 1) (0, 0, x) 5 [(0, .ref a0), (1, .int i1)] [.int v2] h1 Q
  obtain ⟨H1, H2⟩ := H
  refine J_if_eq (tgt := 16) dX0_isFull_5 (by decide) (fun hc => ?_) (fun hc => ?_)
  · replace H := H1 hc
    clear H1 H2
    refine J_iconst (v := 0) dX0_isFull_16 (by decide) ?_
    exact J_iret dX0_isFull_17 ⟨_, rfl, rfl⟩ ⟨Nat.le_of_ble_eq_true rfl, Nat.le_of_ble_eq_true rfl, fun _ => rfl⟩ H
  · replace H := H2 hc
    clear H1 H2
    refine J_iload_n dX0_isFull_8 1 rfl ?_
    refine J_aload_n dX0_isFull_9 0 rfl ?_
    obtain ⟨fs, v3, hh, hk, H⟩ := H
    refine J_get dX0_isFull_10 fX0_48 hh hk ?_
    clear hh hk
    obtain ⟨H1, H2⟩ := H
    refine J_icmp_lt (tgt := 18) dX0_isFull_13 (by decide) (fun hc => ?_) (fun hc => ?_)
    · replace H := H1 hc
      clear H1 H2
      refine J_iconst (v := 0) dX0_isFull_18 (by decide) ?_
      refine J_istore_n (L' := [(2, .int 0), (0, .ref a0), (1, .int i1)]) dX0_isFull_19 (by decide) rfl ?_
      exact J_pick [1, 2, 0] rfl H
    · replace H := H2 hc
      clear H1 H2
      refine J_iconst (v := 0) dX0_isFull_16 (by decide) ?_
      exact J_iret dX0_isFull_17 ⟨_, rfl, rfl⟩ ⟨Nat.le_of_ble_eq_true rfl, Nat.le_of_ble_eq_true rfl, fun _ => rfl⟩ H
theorem eX0_isFull {l : Launch} {g : am_G} {d : Nat} {x : Bool} {a0 : Nat} {i1 : Int32} {h : am_H} {K : Int32 → am_H → Prop} (H : zX0_isFull_0 l g d x a0 i1 h (fun r h' => ∃ v, r = some (.int v) ∧ K v h')) : cl_I l g mX0_isFull (d + 1) x [.ref a0, .int i1] h K := rX0_isFull_0 H
def zX0_ringsThere_24 (l : Launch) (g : am_G) (d : Nat) (x : Bool) (a0 : Nat) (i1 : Int32) (i2 : Int32) (h : am_H) (Q : Option Value → am_H → Prop) : Prop := am_J l g mX0_ringsThere d (0, 0, x) 4 [(0, .ref a0), (1, .int i1), (2, .int (i2 + 1))] [] h Q
set_option maxRecDepth 4000 in
theorem rX0_ringsThere_24 {l : Launch} {g : am_G} {d : Nat} {x : Bool} {a0 : Nat} {i1 : Int32} {i2 : Int32} {h : am_H} {Q : Option Value → am_H → Prop} (H : zX0_ringsThere_24 l g d x a0 i1 i2 h Q) : am_J l g mX0_ringsThere d (0, 0, x) 24 [(0, .ref a0), (1, .int i1), (2, .int i2)] [] h Q := by
  unfold zX0_ringsThere_24 at H
  refine J_iinc (v := (i2 + 1)) (L' := [(2, .int (i2 + 1)), (0, .ref a0), (1, .int i1)]) dX0_ringsThere_24 2 rfl rfl (by decide) rfl ?_
  refine J_goto (tgt := 4) dX0_ringsThere_27 (by decide) ?_
  exact J_pick [1, 2, 0] rfl H
def zX0_ringsThere_4 (l : Launch) (g : am_G) (d : Nat) (x : Bool) (a0 : Nat) (i1 : Int32) (i2 : Int32) (h : am_H) (Q : Option Value → am_H → Prop) : Prop := gt_I h a0 0 7 (fun v1 => ((v1 ≤ i2 → Q (some (.int i1)) h) ∧ (¬ v1 ≤ i2 → gt_R h a0 0 1 (fun v2 => al_I 2 h v2 i2 (fun v3 => ((v3 = 0 → zX0_ringsThere_24 l g d x a0 i1 i2  h Q) ∧ (¬ v3 = 0 → zX0_ringsThere_24 l g d x a0 (i1 + 1) i2  h Q)))))))
set_option maxRecDepth 4000 in
theorem rX0_ringsThere_4 {l : Launch} {g : am_G} {d : Nat} {x : Bool} {a0 : Nat} {i1 : Int32} {i2 : Int32} {h : am_H} {Q : Option Value → am_H → Prop} (H : zX0_ringsThere_4 l g d x a0 i1 i2 h Q) : am_J l g mX0_ringsThere d (0, 0, x) 4 [(0, .ref a0), (1, .int i1), (2, .int i2)] [] h Q := by
  unfold zX0_ringsThere_4 at H
  refine J_iload_n dX0_ringsThere_4 2 rfl ?_
  refine J_aload_n dX0_ringsThere_5 0 rfl ?_
  obtain ⟨fs, v1, hh, hk, H⟩ := H
  refine J_get dX0_ringsThere_6 fX0_51 hh hk ?_
  clear hh hk
  obtain ⟨H1, H2⟩ := H
  refine J_icmp_ge (tgt := 30) dX0_ringsThere_9 (by decide) (fun hc => ?_) (fun hc => ?_)
  · replace H := H1 hc
    clear H1 H2
    refine J_iload_n dX0_ringsThere_30 1 rfl ?_
    exact J_iret dX0_ringsThere_31 ⟨_, rfl, rfl⟩ ⟨Nat.le_of_ble_eq_true rfl, Nat.le_of_ble_eq_true rfl, fun _ => rfl⟩ H
  · replace H := H2 hc
    clear H1 H2
    refine J_aload_n dX0_ringsThere_12 0 rfl ?_
    obtain ⟨fs, v2, hh, hk, H⟩ := H
    refine J_get dX0_ringsThere_13 fX0_18 hh hk ?_
    clear hh hk
    refine J_iload_n dX0_ringsThere_16 2 rfl ?_
    obtain ⟨nn, ff, hh, hk, H⟩ := H
    refine J_zald dX0_ringsThere_17 hh hk ?_
    generalize ff (Int32.toNatClampNeg i2) = v3 at H ⊢
    clear hh hk ff
    obtain ⟨H1, H2⟩ := H
    refine J_if_eq (tgt := 24) dX0_ringsThere_18 (by decide) (fun hc => ?_) (fun hc => ?_)
    · replace H := H1 hc
      clear H1 H2
      exact J_pick [0, 1, 2] rfl (rX0_ringsThere_24 H)
    · replace H := H2 hc
      clear H1 H2
      refine J_iinc (v := (i1 + 1)) (L' := [(1, .int (i1 + 1)), (0, .ref a0), (2, .int i2)]) dX0_ringsThere_21 1 rfl rfl (by decide) rfl ?_
      exact J_pick [1, 0, 2] rfl (rX0_ringsThere_24 H)
def zX0_ringsThere_0 (l : Launch) (g : am_G) (d : Nat) (x : Bool) (a0 : Nat) (h : am_H) (Q : Option Value → am_H → Prop) : Prop := am_J l g mX0_ringsThere d (0, 0, x) 4 [(0, .ref a0), (1, .int 0), (2, .int 0)] [] h Q
set_option maxRecDepth 4000 in
theorem rX0_ringsThere_0 {l : Launch} {g : am_G} {d : Nat} {x : Bool} {a0 : Nat} {h : am_H} {Q : Option Value → am_H → Prop} (H : zX0_ringsThere_0 l g d x a0 h Q) : am_J l g mX0_ringsThere d (0, 0, x) 0 [(0, .ref a0)] [] h Q := by
  unfold zX0_ringsThere_0 at H
  refine J_iconst (v := 0) dX0_ringsThere_0 (by decide) ?_
  refine J_istore_n (L' := [(1, .int 0), (0, .ref a0)]) dX0_ringsThere_1 (by decide) rfl ?_
  refine J_iconst (v := 0) dX0_ringsThere_2 (by decide) ?_
  refine J_istore_n (L' := [(2, .int 0), (1, .int 0), (0, .ref a0)]) dX0_ringsThere_3 (by decide) rfl ?_
  exact J_pick [2, 1, 0] rfl H
theorem eX0_ringsThere {l : Launch} {g : am_G} {d : Nat} {x : Bool} {a0 : Nat} {h : am_H} {K : Int32 → am_H → Prop} (H : zX0_ringsThere_0 l g d x a0 h (fun r h' => ∃ v, r = some (.int v) ∧ K v h')) : cl_I l g mX0_ringsThere d x [.ref a0] h K := rX0_ringsThere_0 H
def zX0_allLinks_4 (l : Launch) (g : am_G) (d : Nat) (x : Bool) (a0 : Nat) (i1 : Int32) (i2 : Int32) (h : am_H) (Q : Option Value → am_H → Prop) : Prop := gt_I h a0 0 7 (fun v1 => ((v1 ≤ i2 → Q (some (.int i1)) h) ∧ (¬ v1 ≤ i2 → gt_R h a0 0 2 (fun v2 => cv_I l g mX2_size d x 2 v2 [.int i2] h (fun v4 h3 => am_J l g mX0_allLinks (d + 1) (0, 0, x) 4 [(0, .ref a0), (1, .int (i1 + v4)), (2, .int (i2 + 1))] [] h3 Q)))))
set_option maxRecDepth 4000 in
theorem rX0_allLinks_4 {l : Launch} {g : am_G} {d : Nat} {x : Bool} {a0 : Nat} {i1 : Int32} {i2 : Int32} {h : am_H} {Q : Option Value → am_H → Prop} (H : zX0_allLinks_4 l g d x a0 i1 i2 h Q) : am_J l g mX0_allLinks (d + 1) (0, 0, x) 4 [(0, .ref a0), (1, .int i1), (2, .int i2)] [] h Q := by
  unfold zX0_allLinks_4 at H
  refine J_iload_n dX0_allLinks_4 2 rfl ?_
  refine J_aload_n dX0_allLinks_5 0 rfl ?_
  obtain ⟨fs, v1, hh, hk, H⟩ := H
  refine J_get dX0_allLinks_6 fX0_51 hh hk ?_
  clear hh hk
  obtain ⟨H1, H2⟩ := H
  refine J_icmp_ge (tgt := 29) dX0_allLinks_9 (by decide) (fun hc => ?_) (fun hc => ?_)
  · replace H := H1 hc
    clear H1 H2
    refine J_iload_n dX0_allLinks_29 1 rfl ?_
    exact J_iret dX0_allLinks_30 ⟨_, rfl, rfl⟩ ⟨Nat.le_of_ble_eq_true rfl, Nat.le_of_ble_eq_true rfl, fun _ => rfl⟩ H
  · replace H := H2 hc
    clear H1 H2
    refine J_iload_n dX0_allLinks_12 1 rfl ?_
    refine J_aload_n dX0_allLinks_13 0 rfl ?_
    obtain ⟨fs, v2, hh, hk, H⟩ := H
    refine J_get dX0_allLinks_14 fX0_27 hh hk ?_
    clear hh hk
    refine J_iload_n dX0_allLinks_17 2 rfl ?_
    obtain ⟨⟨fs, hh⟩, H⟩ := H
    refine J_callV (As := [.int i2]) (S := [.int i1]) (b := v2) dX0_allLinks_18 mX2_size_ok kX0_89 rfl (by decide) (Nat.le_of_ble_eq_true rfl) hh rfl rfl (Nat.le_of_ble_eq_true rfl) ⟨Nat.le_of_ble_eq_true rfl, Nat.le_of_ble_eq_true rfl⟩ (fun k h' hp => ?_) H (fun r h3 hp => ?_)
    · obtain ⟨_, hv, -⟩ := hp; cases hv
    obtain ⟨v4, rfl, H⟩ := hp
    show am_J l g mX0_allLinks (d + 1) (0, 0, x) 21 [(0, .ref a0), (1, .int i1), (2, .int i2)] [.int v4, .int i1] h3 Q
    refine J_iadd dX0_allLinks_21 ?_
    refine J_istore_n (L' := [(1, .int (i1 + v4)), (0, .ref a0), (2, .int i2)]) dX0_allLinks_22 (by decide) rfl ?_
    refine J_iinc (v := (i2 + 1)) (L' := [(2, .int (i2 + 1)), (1, .int (i1 + v4)), (0, .ref a0)]) dX0_allLinks_23 2 rfl rfl (by decide) rfl ?_
    refine J_goto (tgt := 4) dX0_allLinks_26 (by decide) ?_
    exact J_pick [2, 1, 0] rfl H
def zX0_allLinks_0 (l : Launch) (g : am_G) (d : Nat) (x : Bool) (a0 : Nat) (h : am_H) (Q : Option Value → am_H → Prop) : Prop := am_J l g mX0_allLinks (d + 1) (0, 0, x) 4 [(0, .ref a0), (1, .int 0), (2, .int 0)] [] h Q
set_option maxRecDepth 4000 in
theorem rX0_allLinks_0 {l : Launch} {g : am_G} {d : Nat} {x : Bool} {a0 : Nat} {h : am_H} {Q : Option Value → am_H → Prop} (H : zX0_allLinks_0 l g d x a0 h Q) : am_J l g mX0_allLinks (d + 1) (0, 0, x) 0 [(0, .ref a0)] [] h Q := by
  unfold zX0_allLinks_0 at H
  refine J_iconst (v := 0) dX0_allLinks_0 (by decide) ?_
  refine J_istore_n (L' := [(1, .int 0), (0, .ref a0)]) dX0_allLinks_1 (by decide) rfl ?_
  refine J_iconst (v := 0) dX0_allLinks_2 (by decide) ?_
  refine J_istore_n (L' := [(2, .int 0), (1, .int 0), (0, .ref a0)]) dX0_allLinks_3 (by decide) rfl ?_
  exact J_pick [2, 1, 0] rfl H
theorem eX0_allLinks {l : Launch} {g : am_G} {d : Nat} {x : Bool} {a0 : Nat} {h : am_H} {K : Int32 → am_H → Prop} (H : zX0_allLinks_0 l g d x a0 h (fun r h' => ∃ v, r = some (.int v) ∧ K v h')) : cl_I l g mX0_allLinks (d + 1) x [.ref a0] h K := rX0_allLinks_0 H
def zX0_fullRings_23 (l : Launch) (g : am_G) (d : Nat) (x : Bool) (a0 : Nat) (i1 : Int32) (i2 : Int32) (h : am_H) (Q : Option Value → am_H → Prop) : Prop := am_J l g mX0_fullRings (d + 1) (0, 0, x) 4 [(0, .ref a0), (1, .int i1), (2, .int (i2 + 1))] [] h Q
set_option maxRecDepth 4000 in
theorem rX0_fullRings_23 {l : Launch} {g : am_G} {d : Nat} {x : Bool} {a0 : Nat} {i1 : Int32} {i2 : Int32} {h : am_H} {Q : Option Value → am_H → Prop} (H : zX0_fullRings_23 l g d x a0 i1 i2 h Q) : am_J l g mX0_fullRings (d + 1) (0, 0, x) 23 [(0, .ref a0), (1, .int i1), (2, .int i2)] [] h Q := by
  unfold zX0_fullRings_23 at H
  refine J_iinc (v := (i2 + 1)) (L' := [(2, .int (i2 + 1)), (0, .ref a0), (1, .int i1)]) dX0_fullRings_23 2 rfl rfl (by decide) rfl ?_
  refine J_goto (tgt := 4) dX0_fullRings_26 (by decide) ?_
  exact J_pick [1, 2, 0] rfl H
def zX0_fullRings_4 (l : Launch) (g : am_G) (d : Nat) (x : Bool) (a0 : Nat) (i1 : Int32) (i2 : Int32) (h : am_H) (Q : Option Value → am_H → Prop) : Prop := gt_I h a0 0 6 (fun v1 => ((v1 ≤ i2 → Q (some (.int i1)) h) ∧ (¬ v1 ≤ i2 → cv_I l g mX0_isFull d x 0 a0 [.int i2] h (fun v3 h2 => ((v3 = 0 → zX0_fullRings_23 l g d x a0 i1 i2  h2 Q) ∧ (¬ v3 = 0 → zX0_fullRings_23 l g d x a0 (i1 + 1) i2  h2 Q))))))
set_option maxRecDepth 4000 in
theorem rX0_fullRings_4 {l : Launch} {g : am_G} {d : Nat} {x : Bool} {a0 : Nat} {i1 : Int32} {i2 : Int32} {h : am_H} {Q : Option Value → am_H → Prop} (H : zX0_fullRings_4 l g d x a0 i1 i2 h Q) : am_J l g mX0_fullRings (d + 1) (0, 0, x) 4 [(0, .ref a0), (1, .int i1), (2, .int i2)] [] h Q := by
  unfold zX0_fullRings_4 at H
  refine J_iload_n dX0_fullRings_4 2 rfl ?_
  refine J_aload_n dX0_fullRings_5 0 rfl ?_
  obtain ⟨fs, v1, hh, hk, H⟩ := H
  refine J_get dX0_fullRings_6 fX0_48 hh hk ?_
  clear hh hk
  obtain ⟨H1, H2⟩ := H
  refine J_icmp_ge (tgt := 29) dX0_fullRings_9 (by decide) (fun hc => ?_) (fun hc => ?_)
  · replace H := H1 hc
    clear H1 H2
    refine J_iload_n dX0_fullRings_29 1 rfl ?_
    exact J_iret dX0_fullRings_30 ⟨_, rfl, rfl⟩ ⟨Nat.le_of_ble_eq_true rfl, Nat.le_of_ble_eq_true rfl, fun _ => rfl⟩ H
  · replace H := H2 hc
    clear H1 H2
    refine J_aload_n dX0_fullRings_12 0 rfl ?_
    refine J_iload_n dX0_fullRings_13 2 rfl ?_
    obtain ⟨⟨fs, hh⟩, H⟩ := H
    refine J_callV (As := [.int i2]) (S := []) (b := a0) dX0_fullRings_14 mX0_isFull_ok kX0_102 rfl (by decide) (Nat.le_of_ble_eq_true rfl) hh rfl rfl (Nat.le_of_ble_eq_true rfl) ⟨Nat.le_of_ble_eq_true rfl, Nat.le_of_ble_eq_true rfl⟩ (fun k h' hp => ?_) H (fun r h2 hp => ?_)
    · obtain ⟨_, hv, -⟩ := hp; cases hv
    obtain ⟨v3, rfl, H⟩ := hp
    show am_J l g mX0_fullRings (d + 1) (0, 0, x) 17 [(0, .ref a0), (1, .int i1), (2, .int i2)] [.int v3] h2 Q
    obtain ⟨H1, H2⟩ := H
    refine J_if_eq (tgt := 23) dX0_fullRings_17 (by decide) (fun hc => ?_) (fun hc => ?_)
    · replace H := H1 hc
      clear H1 H2
      exact J_pick [0, 1, 2] rfl (rX0_fullRings_23 H)
    · replace H := H2 hc
      clear H1 H2
      refine J_iinc (v := (i1 + 1)) (L' := [(1, .int (i1 + 1)), (0, .ref a0), (2, .int i2)]) dX0_fullRings_20 1 rfl rfl (by decide) rfl ?_
      exact J_pick [1, 0, 2] rfl (rX0_fullRings_23 H)
def zX0_fullRings_0 (l : Launch) (g : am_G) (d : Nat) (x : Bool) (a0 : Nat) (h : am_H) (Q : Option Value → am_H → Prop) : Prop := am_J l g mX0_fullRings (d + 1) (0, 0, x) 4 [(0, .ref a0), (1, .int 0), (2, .int 0)] [] h Q
set_option maxRecDepth 4000 in
theorem rX0_fullRings_0 {l : Launch} {g : am_G} {d : Nat} {x : Bool} {a0 : Nat} {h : am_H} {Q : Option Value → am_H → Prop} (H : zX0_fullRings_0 l g d x a0 h Q) : am_J l g mX0_fullRings (d + 1) (0, 0, x) 0 [(0, .ref a0)] [] h Q := by
  unfold zX0_fullRings_0 at H
  refine J_iconst (v := 0) dX0_fullRings_0 (by decide) ?_
  refine J_istore_n (L' := [(1, .int 0), (0, .ref a0)]) dX0_fullRings_1 (by decide) rfl ?_
  refine J_iconst (v := 0) dX0_fullRings_2 (by decide) ?_
  refine J_istore_n (L' := [(2, .int 0), (1, .int 0), (0, .ref a0)]) dX0_fullRings_3 (by decide) rfl ?_
  exact J_pick [2, 1, 0] rfl H
theorem eX0_fullRings {l : Launch} {g : am_G} {d : Nat} {x : Bool} {a0 : Nat} {h : am_H} {K : Int32 → am_H → Prop} (H : zX0_fullRings_0 l g d x a0 h (fun r h' => ∃ v, r = some (.int v) ∧ K v h')) : cl_I l g mX0_fullRings (d + 1) x [.ref a0] h K := rX0_fullRings_0 H
def zX0_wornRings_24 (l : Launch) (g : am_G) (d : Nat) (x : Bool) (a0 : Nat) (i1 : Int32) (i2 : Int32) (h : am_H) (Q : Option Value → am_H → Prop) : Prop := am_J l g mX0_wornRings d (0, 0, x) 4 [(0, .ref a0), (1, .int i1), (2, .int (i2 + 1))] [] h Q
set_option maxRecDepth 4000 in
theorem rX0_wornRings_24 {l : Launch} {g : am_G} {d : Nat} {x : Bool} {a0 : Nat} {i1 : Int32} {i2 : Int32} {h : am_H} {Q : Option Value → am_H → Prop} (H : zX0_wornRings_24 l g d x a0 i1 i2 h Q) : am_J l g mX0_wornRings d (0, 0, x) 24 [(0, .ref a0), (1, .int i1), (2, .int i2)] [] h Q := by
  unfold zX0_wornRings_24 at H
  refine J_iinc (v := (i2 + 1)) (L' := [(2, .int (i2 + 1)), (0, .ref a0), (1, .int i1)]) dX0_wornRings_24 2 rfl rfl (by decide) rfl ?_
  refine J_goto (tgt := 4) dX0_wornRings_27 (by decide) ?_
  exact J_pick [1, 2, 0] rfl H
def zX0_wornRings_4 (l : Launch) (g : am_G) (d : Nat) (x : Bool) (a0 : Nat) (i1 : Int32) (i2 : Int32) (h : am_H) (Q : Option Value → am_H → Prop) : Prop := gt_I h a0 0 6 (fun v1 => ((v1 ≤ i2 → Q (some (.int i1)) h) ∧ (¬ v1 ≤ i2 → gt_R h a0 0 1 (fun v2 => al_I 2 h v2 i2 (fun v3 => ((¬ v3 = 0 → zX0_wornRings_24 l g d x a0 i1 i2  h Q) ∧ (v3 = 0 → zX0_wornRings_24 l g d x a0 (i1 + 1) i2  h Q)))))))
set_option maxRecDepth 4000 in
theorem rX0_wornRings_4 {l : Launch} {g : am_G} {d : Nat} {x : Bool} {a0 : Nat} {i1 : Int32} {i2 : Int32} {h : am_H} {Q : Option Value → am_H → Prop} (H : zX0_wornRings_4 l g d x a0 i1 i2 h Q) : am_J l g mX0_wornRings d (0, 0, x) 4 [(0, .ref a0), (1, .int i1), (2, .int i2)] [] h Q := by
  unfold zX0_wornRings_4 at H
  refine J_iload_n dX0_wornRings_4 2 rfl ?_
  refine J_aload_n dX0_wornRings_5 0 rfl ?_
  obtain ⟨fs, v1, hh, hk, H⟩ := H
  refine J_get dX0_wornRings_6 fX0_48 hh hk ?_
  clear hh hk
  obtain ⟨H1, H2⟩ := H
  refine J_icmp_ge (tgt := 30) dX0_wornRings_9 (by decide) (fun hc => ?_) (fun hc => ?_)
  · replace H := H1 hc
    clear H1 H2
    refine J_iload_n dX0_wornRings_30 1 rfl ?_
    exact J_iret dX0_wornRings_31 ⟨_, rfl, rfl⟩ ⟨Nat.le_of_ble_eq_true rfl, Nat.le_of_ble_eq_true rfl, fun _ => rfl⟩ H
  · replace H := H2 hc
    clear H1 H2
    refine J_aload_n dX0_wornRings_12 0 rfl ?_
    obtain ⟨fs, v2, hh, hk, H⟩ := H
    refine J_get dX0_wornRings_13 fX0_18 hh hk ?_
    clear hh hk
    refine J_iload_n dX0_wornRings_16 2 rfl ?_
    obtain ⟨nn, ff, hh, hk, H⟩ := H
    refine J_zald dX0_wornRings_17 hh hk ?_
    generalize ff (Int32.toNatClampNeg i2) = v3 at H ⊢
    clear hh hk ff
    obtain ⟨H1, H2⟩ := H
    refine J_if_ne (tgt := 24) dX0_wornRings_18 (by decide) (fun hc => ?_) (fun hc => ?_)
    · replace H := H1 hc
      clear H1 H2
      exact J_pick [0, 1, 2] rfl (rX0_wornRings_24 H)
    · replace H := H2 hc
      clear H1 H2
      refine J_iinc (v := (i1 + 1)) (L' := [(1, .int (i1 + 1)), (0, .ref a0), (2, .int i2)]) dX0_wornRings_21 1 rfl rfl (by decide) rfl ?_
      exact J_pick [1, 0, 2] rfl (rX0_wornRings_24 H)
def zX0_wornRings_0 (l : Launch) (g : am_G) (d : Nat) (x : Bool) (a0 : Nat) (h : am_H) (Q : Option Value → am_H → Prop) : Prop := am_J l g mX0_wornRings d (0, 0, x) 4 [(0, .ref a0), (1, .int 0), (2, .int 0)] [] h Q
set_option maxRecDepth 4000 in
theorem rX0_wornRings_0 {l : Launch} {g : am_G} {d : Nat} {x : Bool} {a0 : Nat} {h : am_H} {Q : Option Value → am_H → Prop} (H : zX0_wornRings_0 l g d x a0 h Q) : am_J l g mX0_wornRings d (0, 0, x) 0 [(0, .ref a0)] [] h Q := by
  unfold zX0_wornRings_0 at H
  refine J_iconst (v := 0) dX0_wornRings_0 (by decide) ?_
  refine J_istore_n (L' := [(1, .int 0), (0, .ref a0)]) dX0_wornRings_1 (by decide) rfl ?_
  refine J_iconst (v := 0) dX0_wornRings_2 (by decide) ?_
  refine J_istore_n (L' := [(2, .int 0), (1, .int 0), (0, .ref a0)]) dX0_wornRings_3 (by decide) rfl ?_
  exact J_pick [2, 1, 0] rfl H
theorem eX0_wornRings {l : Launch} {g : am_G} {d : Nat} {x : Bool} {a0 : Nat} {h : am_H} {K : Int32 → am_H → Prop} (H : zX0_wornRings_0 l g d x a0 h (fun r h' => ∃ v, r = some (.int v) ∧ K v h')) : cl_I l g mX0_wornRings d x [.ref a0] h K := rX0_wornRings_0 H
def zX0_joinAsTold_2 (l : Launch) (g : am_G) (d : Nat) (x : Bool) (a0 : Nat) (i1 : Int32) (i2 : Int32) (h : am_H) (Q : Option Value → am_H → Prop) : Prop := gt_R h a0 0 0 (fun v1 => gt_I h v1 7 6 (fun v2 => ((v2 ≤ i2 → Q none h) ∧ (¬ v2 ≤ i2 → cv_N l g mX0_joinOneAsTold d x 0 a0 [.int i1, .int i2, .int 1] h (fun h3 => cv_N l g mX0_joinOneAsTold d x 0 a0 [.int i1, .int i2, .int 0] h3 (fun h5 => am_J l g mX0_joinAsTold (d + 1) (0, 0, x) 2 [(0, .ref a0), (1, .int i1), (2, .int (i2 + 1))] [] h5 Q))))))
set_option maxRecDepth 4000 in
theorem rX0_joinAsTold_2 {l : Launch} {g : am_G} {d : Nat} {x : Bool} {a0 : Nat} {i1 : Int32} {i2 : Int32} {h : am_H} {Q : Option Value → am_H → Prop} (H : zX0_joinAsTold_2 l g d x a0 i1 i2 h Q) : am_J l g mX0_joinAsTold (d + 1) (0, 0, x) 2 [(0, .ref a0), (1, .int i1), (2, .int i2)] [] h Q := by
  unfold zX0_joinAsTold_2 at H
  refine J_iload_n dX0_joinAsTold_2 2 rfl ?_
  refine J_aload_n dX0_joinAsTold_3 0 rfl ?_
  obtain ⟨fs, v1, hh, hk, H⟩ := H
  refine J_get dX0_joinAsTold_4 fX0_12 hh hk ?_
  clear hh hk
  obtain ⟨fs, v2, hh, hk, H⟩ := H
  refine J_get dX0_joinAsTold_7 fX0_95 hh hk ?_
  clear hh hk
  obtain ⟨H1, H2⟩ := H
  refine J_icmp_ge (tgt := 33) dX0_joinAsTold_10 (by decide) (fun hc => ?_) (fun hc => ?_)
  · replace H := H1 hc
    clear H1 H2
    exact J_vret dX0_joinAsTold_33 rfl ⟨Nat.le_of_ble_eq_true rfl, Nat.le_of_ble_eq_true rfl, fun _ => rfl⟩ H
  · replace H := H2 hc
    clear H1 H2
    refine J_aload_n dX0_joinAsTold_13 0 rfl ?_
    refine J_iload_n dX0_joinAsTold_14 1 rfl ?_
    refine J_iload_n dX0_joinAsTold_15 2 rfl ?_
    refine J_iconst (v := 1) dX0_joinAsTold_16 (by decide) ?_
    obtain ⟨⟨fs, hh⟩, H⟩ := H
    refine J_callV (As := [.int i1, .int i2, .int 1]) (S := []) (b := a0) dX0_joinAsTold_17 mX0_joinOneAsTold_ok kX0_105 rfl (by decide) (Nat.le_of_ble_eq_true rfl) hh rfl rfl (Nat.le_of_ble_eq_true rfl) ⟨Nat.le_of_ble_eq_true rfl, Nat.le_of_ble_eq_true rfl⟩ (fun k h' hp => ?_) H (fun r h3 hp => ?_)
    · obtain ⟨hv, -⟩ := hp; cases hv
    obtain ⟨rfl, H⟩ := hp
    show am_J l g mX0_joinAsTold (d + 1) (0, 0, x) 20 [(0, .ref a0), (1, .int i1), (2, .int i2)] [] h3 Q
    refine J_aload_n dX0_joinAsTold_20 0 rfl ?_
    refine J_iload_n dX0_joinAsTold_21 1 rfl ?_
    refine J_iload_n dX0_joinAsTold_22 2 rfl ?_
    refine J_iconst (v := 0) dX0_joinAsTold_23 (by decide) ?_
    obtain ⟨⟨fs, hh⟩, H⟩ := H
    refine J_callV (As := [.int i1, .int i2, .int 0]) (S := []) (b := a0) dX0_joinAsTold_24 mX0_joinOneAsTold_ok kX0_105 rfl (by decide) (Nat.le_of_ble_eq_true rfl) hh rfl rfl (Nat.le_of_ble_eq_true rfl) ⟨Nat.le_of_ble_eq_true rfl, Nat.le_of_ble_eq_true rfl⟩ (fun k h' hp => ?_) H (fun r h5 hp => ?_)
    · obtain ⟨hv, -⟩ := hp; cases hv
    obtain ⟨rfl, H⟩ := hp
    show am_J l g mX0_joinAsTold (d + 1) (0, 0, x) 27 [(0, .ref a0), (1, .int i1), (2, .int i2)] [] h5 Q
    refine J_iinc (v := (i2 + 1)) (L' := [(2, .int (i2 + 1)), (0, .ref a0), (1, .int i1)]) dX0_joinAsTold_27 2 rfl rfl (by decide) rfl ?_
    refine J_goto (tgt := 2) dX0_joinAsTold_30 (by decide) ?_
    exact J_pick [1, 2, 0] rfl H
def zX0_joinAsTold_0 (l : Launch) (g : am_G) (d : Nat) (x : Bool) (a0 : Nat) (i1 : Int32) (h : am_H) (Q : Option Value → am_H → Prop) : Prop := am_J l g mX0_joinAsTold (d + 1) (0, 0, x) 2 [(0, .ref a0), (1, .int i1), (2, .int 0)] [] h Q
set_option maxRecDepth 4000 in
theorem rX0_joinAsTold_0 {l : Launch} {g : am_G} {d : Nat} {x : Bool} {a0 : Nat} {i1 : Int32} {h : am_H} {Q : Option Value → am_H → Prop} (H : zX0_joinAsTold_0 l g d x a0 i1 h Q) : am_J l g mX0_joinAsTold (d + 1) (0, 0, x) 0 [(0, .ref a0), (1, .int i1)] [] h Q := by
  unfold zX0_joinAsTold_0 at H
  refine J_iconst (v := 0) dX0_joinAsTold_0 (by decide) ?_
  refine J_istore_n (L' := [(2, .int 0), (0, .ref a0), (1, .int i1)]) dX0_joinAsTold_1 (by decide) rfl ?_
  exact J_pick [1, 2, 0] rfl H
theorem eX0_joinAsTold {l : Launch} {g : am_G} {d : Nat} {x : Bool} {a0 : Nat} {i1 : Int32} {h : am_H} {K : am_H → Prop} (H : zX0_joinAsTold_0 l g d x a0 i1 h (fun r h' => r = none ∧ K h')) : cl_N l g mX0_joinAsTold (d + 1) x [.ref a0, .int i1] h K := rX0_joinAsTold_0 H
def zX0_joinOneAsTold_0 (l : Launch) (g : am_G) (d : Nat) (x : Bool) (a0 : Nat) (i1 : Int32) (i2 : Int32) (i3 : Int32) (h : am_H) (Q : Option Value → am_H → Prop) : Prop := cv_I l g mX0_isOfLink d x 0 a0 [.int i1, .int i2, .int i3] h (fun v2 h1 => ((¬ v2 = 0 → cv_I l g mX0_otherAsTold d x 0 a0 [.int i1, .int i2, .int i3] h1 (fun v4 h3 => cv_I l g mX0_isThere d x 0 a0 [.int v4] h3 (fun v6 h5 => ((¬ v6 = 0 → gt_R h5 a0 0 0 (fun v7 => gt_R h5 v7 7 4 (fun v8 => al_I 2 h5 v8 i2 (fun v9 => ((¬ v9 = i3 → cv_N l g mX0_join d x 0 a0 [.int v4, .int i1] h5 (fun h10 => Q none h10)) ∧ (v9 = i3 → cv_N l g mX0_join d x 0 a0 [.int i1, .int v4] h5 (fun h12 => Q none h12))))))) ∧ (v6 = 0 → Q none h5))))) ∧ (v2 = 0 → Q none h1)))
set_option maxRecDepth 4000 in
theorem rX0_joinOneAsTold_0 {l : Launch} {g : am_G} {d : Nat} {x : Bool} {a0 : Nat} {i1 : Int32} {i2 : Int32} {i3 : Int32} {h : am_H} {Q : Option Value → am_H → Prop} (H : zX0_joinOneAsTold_0 l g d x a0 i1 i2 i3 h Q) : am_J l g mX0_joinOneAsTold (d + 1) (0, 0, x) 0 [(0, .ref a0), (1, .int i1), (2, .int i2), (3, .int i3)] [] h Q := by
  unfold zX0_joinOneAsTold_0 at H
  refine J_aload_n dX0_joinOneAsTold_0 0 rfl ?_
  refine J_iload_n dX0_joinOneAsTold_1 1 rfl ?_
  refine J_iload_n dX0_joinOneAsTold_2 2 rfl ?_
  refine J_iload_n dX0_joinOneAsTold_3 3 rfl ?_
  obtain ⟨⟨fs, hh⟩, H⟩ := H
  refine J_callV (As := [.int i1, .int i2, .int i3]) (S := []) (b := a0) dX0_joinOneAsTold_4 mX0_isOfLink_ok kX0_109 rfl (by decide) (Nat.le_of_ble_eq_true rfl) hh rfl rfl (Nat.le_of_ble_eq_true rfl) ⟨Nat.le_of_ble_eq_true rfl, Nat.le_of_ble_eq_true rfl⟩ (fun k h' hp => ?_) H (fun r h1 hp => ?_)
  · obtain ⟨_, hv, -⟩ := hp; cases hv
  obtain ⟨v2, rfl, H⟩ := hp
  show am_J l g mX0_joinOneAsTold (d + 1) (0, 0, x) 7 [(0, .ref a0), (1, .int i1), (2, .int i2), (3, .int i3)] [.int v2] h1 Q
  obtain ⟨H1, H2⟩ := H
  refine J_if_ne (tgt := 11) dX0_joinOneAsTold_7 (by decide) (fun hc => ?_) (fun hc => ?_)
  · replace H := H1 hc
    clear H1 H2
    refine J_aload_n dX0_joinOneAsTold_11 0 rfl ?_
    refine J_iload_n dX0_joinOneAsTold_12 1 rfl ?_
    refine J_iload_n dX0_joinOneAsTold_13 2 rfl ?_
    refine J_iload_n dX0_joinOneAsTold_14 3 rfl ?_
    obtain ⟨⟨fs, hh⟩, H⟩ := H
    refine J_callV (As := [.int i1, .int i2, .int i3]) (S := []) (b := a0) dX0_joinOneAsTold_15 mX0_otherAsTold_ok kX0_112 rfl (by decide) (Nat.le_of_ble_eq_true rfl) hh rfl rfl (Nat.le_of_ble_eq_true rfl) ⟨Nat.le_of_ble_eq_true rfl, Nat.le_of_ble_eq_true rfl⟩ (fun k h' hp => ?_) H (fun r h3 hp => ?_)
    · obtain ⟨_, hv, -⟩ := hp; cases hv
    obtain ⟨v4, rfl, H⟩ := hp
    show am_J l g mX0_joinOneAsTold (d + 1) (0, 0, x) 18 [(0, .ref a0), (1, .int i1), (2, .int i2), (3, .int i3)] [.int v4] h3 Q
    refine J_istore (L' := [(4, .int v4), (0, .ref a0), (1, .int i1), (2, .int i2), (3, .int i3)]) dX0_joinOneAsTold_18 (by decide) rfl ?_
    refine J_aload_n dX0_joinOneAsTold_20 1 rfl ?_
    refine J_iload dX0_joinOneAsTold_21 0 rfl ?_
    obtain ⟨⟨fs, hh⟩, H⟩ := H
    refine J_callV (As := [.int v4]) (S := []) (b := a0) dX0_joinOneAsTold_23 mX0_isThere_ok kX0_92 rfl (by decide) (Nat.le_of_ble_eq_true rfl) hh rfl rfl (Nat.le_of_ble_eq_true rfl) ⟨Nat.le_of_ble_eq_true rfl, Nat.le_of_ble_eq_true rfl⟩ (fun k h' hp => ?_) H (fun r h5 hp => ?_)
    · obtain ⟨_, hv, -⟩ := hp; cases hv
    obtain ⟨v6, rfl, H⟩ := hp
    show am_J l g mX0_joinOneAsTold (d + 1) (0, 0, x) 26 [(4, .int v4), (0, .ref a0), (1, .int i1), (2, .int i2), (3, .int i3)] [.int v6] h5 Q
    obtain ⟨H1, H2⟩ := H
    refine J_if_ne (tgt := 30) dX0_joinOneAsTold_26 (by decide) (fun hc => ?_) (fun hc => ?_)
    · replace H := H1 hc
      clear H1 H2
      refine J_aload_n dX0_joinOneAsTold_30 1 rfl ?_
      obtain ⟨fs, v7, hh, hk, H⟩ := H
      refine J_get dX0_joinOneAsTold_31 fX0_12 hh hk ?_
      clear hh hk
      obtain ⟨fs, v8, hh, hk, H⟩ := H
      refine J_get dX0_joinOneAsTold_34 fX0_116 hh hk ?_
      clear hh hk
      refine J_iload_n dX0_joinOneAsTold_37 3 rfl ?_
      obtain ⟨nn, ff, hh, hk, H⟩ := H
      refine J_zald dX0_joinOneAsTold_38 hh hk ?_
      generalize ff (Int32.toNatClampNeg i2) = v9 at H ⊢
      clear hh hk ff
      refine J_iload_n dX0_joinOneAsTold_39 4 rfl ?_
      obtain ⟨H1, H2⟩ := H
      refine J_icmp_ne (tgt := 53) dX0_joinOneAsTold_40 (by decide) (fun hc => ?_) (fun hc => ?_)
      · replace H := H1 hc
        clear H1 H2
        refine J_aload_n dX0_joinOneAsTold_53 1 rfl ?_
        refine J_iload dX0_joinOneAsTold_54 0 rfl ?_
        refine J_iload_n dX0_joinOneAsTold_56 2 rfl ?_
        obtain ⟨⟨fs, hh⟩, H⟩ := H
        refine J_callV (As := [.int v4, .int i1]) (S := []) (b := a0) dX0_joinOneAsTold_57 mX0_join_ok kX0_119 rfl (by decide) (Nat.le_of_ble_eq_true rfl) hh rfl rfl (Nat.le_of_ble_eq_true rfl) ⟨Nat.le_of_ble_eq_true rfl, Nat.le_of_ble_eq_true rfl⟩ (fun k h' hp => ?_) H (fun r h10 hp => ?_)
        · obtain ⟨hv, -⟩ := hp; cases hv
        obtain ⟨rfl, H⟩ := hp
        show am_J l g mX0_joinOneAsTold (d + 1) (0, 0, x) 60 [(4, .int v4), (0, .ref a0), (1, .int i1), (2, .int i2), (3, .int i3)] [] h10 Q
        exact J_vret dX0_joinOneAsTold_60 rfl ⟨Nat.le_of_ble_eq_true rfl, Nat.le_of_ble_eq_true rfl, fun _ => rfl⟩ H
      · replace H := H2 hc
        clear H1 H2
        refine J_aload_n dX0_joinOneAsTold_43 1 rfl ?_
        refine J_iload_n dX0_joinOneAsTold_44 2 rfl ?_
        refine J_iload dX0_joinOneAsTold_45 0 rfl ?_
        obtain ⟨⟨fs, hh⟩, H⟩ := H
        refine J_callV (As := [.int i1, .int v4]) (S := []) (b := a0) dX0_joinOneAsTold_47 mX0_join_ok kX0_119 rfl (by decide) (Nat.le_of_ble_eq_true rfl) hh rfl rfl (Nat.le_of_ble_eq_true rfl) ⟨Nat.le_of_ble_eq_true rfl, Nat.le_of_ble_eq_true rfl⟩ (fun k h' hp => ?_) H (fun r h12 hp => ?_)
        · obtain ⟨hv, -⟩ := hp; cases hv
        obtain ⟨rfl, H⟩ := hp
        show am_J l g mX0_joinOneAsTold (d + 1) (0, 0, x) 50 [(4, .int v4), (0, .ref a0), (1, .int i1), (2, .int i2), (3, .int i3)] [] h12 Q
        refine J_goto (tgt := 60) dX0_joinOneAsTold_50 (by decide) ?_
        exact J_vret dX0_joinOneAsTold_60 rfl ⟨Nat.le_of_ble_eq_true rfl, Nat.le_of_ble_eq_true rfl, fun _ => rfl⟩ H
    · replace H := H2 hc
      clear H1 H2
      exact J_vret dX0_joinOneAsTold_29 rfl ⟨Nat.le_of_ble_eq_true rfl, Nat.le_of_ble_eq_true rfl, fun _ => rfl⟩ H
  · replace H := H2 hc
    clear H1 H2
    exact J_vret dX0_joinOneAsTold_10 rfl ⟨Nat.le_of_ble_eq_true rfl, Nat.le_of_ble_eq_true rfl, fun _ => rfl⟩ H
theorem eX0_joinOneAsTold {l : Launch} {g : am_G} {d : Nat} {x : Bool} {a0 : Nat} {i1 : Int32} {i2 : Int32} {i3 : Int32} {h : am_H} {K : am_H → Prop} (H : zX0_joinOneAsTold_0 l g d x a0 i1 i2 i3 h (fun r h' => r = none ∧ K h')) : cl_N l g mX0_joinOneAsTold (d + 1) x [.ref a0, .int i1, .int i2, .int i3] h K := rX0_joinOneAsTold_0 H
