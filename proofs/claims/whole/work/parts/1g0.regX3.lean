def zX3_init_0 (l : Launch) (g : am_G) (d : Nat) (a0 : Nat) (a1 : Nat) (h : am_H) (Q : Option Value → am_H → Prop) : Prop := pt_V h a0 3 0 (.ref a1) (fun h1 => pt_V (h1 ++ [am_I 0 300 (fun _ => 0)]) a0 3 1 (.ref ((h1).length)) (fun h2 => pt_V (h2 ++ [am_I 0 300 (fun _ => 0)]) a0 3 2 (.ref ((h2).length)) (fun h3 => pt_V (h3 ++ [am_I 0 300 (fun _ => 0)]) a0 3 3 (.ref ((h3).length)) (fun h4 => pt_V (h4 ++ [am_I 0 300 (fun _ => 0)]) a0 3 4 (.ref ((h4).length)) (fun h5 => pt_V (h5 ++ [am_I 0 300 (fun _ => 0)]) a0 3 8 (.ref ((h5).length)) (fun h6 => pt_V (h6 ++ [am_I 2 300 (fun _ => 0)]) a0 3 9 (.ref ((h6).length)) (fun h7 => pt_V (h7 ++ [am_I 2 300 (fun _ => 0)]) a0 3 10 (.ref ((h7).length)) (fun h8 => pt_V h8 a0 3 7 (.int (-1)) (fun h9 => Q none h9)))))))))
set_option maxRecDepth 4000 in
theorem rX3_init_0 {l : Launch} {g : am_G} {d : Nat} {a0 : Nat} {a1 : Nat} {h : am_H} {Q : Option Value → am_H → Prop} (H : zX3_init_0 l g d a0 a1 h Q) : am_J l g mX3_init (d + 1) (0, 0, true) 0 [(0, .ref a0), (1, .ref a1)] [] h Q := by
  unfold zX3_init_0 at H
  refine J_aload_n dX3_init_0 0 rfl ?_
  refine J_objInit dX3_init_1 kX3_3 (Nat.le_of_ble_eq_true rfl) ?_
  refine J_aload_n dX3_init_4 0 rfl ?_
  refine J_aload_n dX3_init_5 1 rfl ?_
  obtain ⟨fs, hh, hk, H⟩ := H
  refine J_putF dX3_init_6 fX3_9 rfl rfl rfl rfl hh hk ?_
  generalize List.set h a0 (am_O 3 (List.set fs 0 (.ref a1))) = h1 at H ⊢
  clear hh hk
  refine J_aload_n dX3_init_9 0 rfl ?_
  refine J_sipush (v := 300) dX3_init_10 (by decide) ?_
  refine J_newaI (t := 0) (N' := 300) (ty := .int) dX3_init_13 rfl aw_int (by decide) (by decide +kernel) (by decide +kernel) (by decide +kernel) ⟨by decide +kernel, by decide +kernel⟩ ?_
  show am_J l g mX3_init (d + 1) (1, 300, true) 15 [(0, .ref a0), (1, .ref a1)] [.ref ((h1).length), .ref a0] (h1 ++ [am_I 0 300 (fun _ => 0)]) Q
  obtain ⟨fs, hh, hk, H⟩ := H
  refine J_putF dX3_init_15 fX3_15 rfl rfl rfl rfl hh hk ?_
  generalize List.set (h1 ++ [am_I 0 300 (fun _ => 0)]) a0 (am_O 3 (List.set fs 1 (.ref ((h1).length)))) = h2 at H ⊢
  clear hh hk
  refine J_aload_n dX3_init_18 0 rfl ?_
  refine J_sipush (v := 300) dX3_init_19 (by decide) ?_
  refine J_newaI (t := 0) (N' := 300) (ty := .int) dX3_init_22 rfl aw_int (by decide) (by decide +kernel) (by decide +kernel) (by decide +kernel) ⟨by decide +kernel, by decide +kernel⟩ ?_
  show am_J l g mX3_init (d + 1) (2, 600, true) 24 [(0, .ref a0), (1, .ref a1)] [.ref ((h2).length), .ref a0] (h2 ++ [am_I 0 300 (fun _ => 0)]) Q
  obtain ⟨fs, hh, hk, H⟩ := H
  refine J_putF dX3_init_24 fX3_19 rfl rfl rfl rfl hh hk ?_
  generalize List.set (h2 ++ [am_I 0 300 (fun _ => 0)]) a0 (am_O 3 (List.set fs 2 (.ref ((h2).length)))) = h3 at H ⊢
  clear hh hk
  refine J_aload_n dX3_init_27 0 rfl ?_
  refine J_sipush (v := 300) dX3_init_28 (by decide) ?_
  refine J_newaI (t := 0) (N' := 300) (ty := .int) dX3_init_31 rfl aw_int (by decide) (by decide +kernel) (by decide +kernel) (by decide +kernel) ⟨by decide +kernel, by decide +kernel⟩ ?_
  show am_J l g mX3_init (d + 1) (3, 900, true) 33 [(0, .ref a0), (1, .ref a1)] [.ref ((h3).length), .ref a0] (h3 ++ [am_I 0 300 (fun _ => 0)]) Q
  obtain ⟨fs, hh, hk, H⟩ := H
  refine J_putF dX3_init_33 fX3_22 rfl rfl rfl rfl hh hk ?_
  generalize List.set (h3 ++ [am_I 0 300 (fun _ => 0)]) a0 (am_O 3 (List.set fs 3 (.ref ((h3).length)))) = h4 at H ⊢
  clear hh hk
  refine J_aload_n dX3_init_36 0 rfl ?_
  refine J_sipush (v := 300) dX3_init_37 (by decide) ?_
  refine J_newaI (t := 0) (N' := 300) (ty := .int) dX3_init_40 rfl aw_int (by decide) (by decide +kernel) (by decide +kernel) (by decide +kernel) ⟨by decide +kernel, by decide +kernel⟩ ?_
  show am_J l g mX3_init (d + 1) (4, 1200, true) 42 [(0, .ref a0), (1, .ref a1)] [.ref ((h4).length), .ref a0] (h4 ++ [am_I 0 300 (fun _ => 0)]) Q
  obtain ⟨fs, hh, hk, H⟩ := H
  refine J_putF dX3_init_42 fX3_25 rfl rfl rfl rfl hh hk ?_
  generalize List.set (h4 ++ [am_I 0 300 (fun _ => 0)]) a0 (am_O 3 (List.set fs 4 (.ref ((h4).length)))) = h5 at H ⊢
  clear hh hk
  refine J_aload_n dX3_init_45 0 rfl ?_
  refine J_sipush (v := 300) dX3_init_46 (by decide) ?_
  refine J_newaI (t := 0) (N' := 300) (ty := .int) dX3_init_49 rfl aw_int (by decide) (by decide +kernel) (by decide +kernel) (by decide +kernel) ⟨by decide +kernel, by decide +kernel⟩ ?_
  show am_J l g mX3_init (d + 1) (5, 1500, true) 51 [(0, .ref a0), (1, .ref a1)] [.ref ((h5).length), .ref a0] (h5 ++ [am_I 0 300 (fun _ => 0)]) Q
  obtain ⟨fs, hh, hk, H⟩ := H
  refine J_putF dX3_init_51 fX3_28 rfl rfl rfl rfl hh hk ?_
  generalize List.set (h5 ++ [am_I 0 300 (fun _ => 0)]) a0 (am_O 3 (List.set fs 8 (.ref ((h5).length)))) = h6 at H ⊢
  clear hh hk
  refine J_aload_n dX3_init_54 0 rfl ?_
  refine J_sipush (v := 300) dX3_init_55 (by decide) ?_
  refine J_newaI (t := 2) (N' := 300) (ty := .boolean) dX3_init_58 rfl aw_boolean (by decide) (by decide +kernel) (by decide +kernel) (by decide +kernel) ⟨by decide +kernel, by decide +kernel⟩ ?_
  show am_J l g mX3_init (d + 1) (6, 1800, true) 60 [(0, .ref a0), (1, .ref a1)] [.ref ((h6).length), .ref a0] (h6 ++ [am_I 2 300 (fun _ => 0)]) Q
  obtain ⟨fs, hh, hk, H⟩ := H
  refine J_putF dX3_init_60 fX3_31 rfl rfl rfl rfl hh hk ?_
  generalize List.set (h6 ++ [am_I 2 300 (fun _ => 0)]) a0 (am_O 3 (List.set fs 9 (.ref ((h6).length)))) = h7 at H ⊢
  clear hh hk
  refine J_aload_n dX3_init_63 0 rfl ?_
  refine J_sipush (v := 300) dX3_init_64 (by decide) ?_
  refine J_newaI (t := 2) (N' := 300) (ty := .boolean) dX3_init_67 rfl aw_boolean (by decide) (by decide +kernel) (by decide +kernel) (by decide +kernel) ⟨by decide +kernel, by decide +kernel⟩ ?_
  show am_J l g mX3_init (d + 1) (7, 2100, true) 69 [(0, .ref a0), (1, .ref a1)] [.ref ((h7).length), .ref a0] (h7 ++ [am_I 2 300 (fun _ => 0)]) Q
  obtain ⟨fs, hh, hk, H⟩ := H
  refine J_putF dX3_init_69 fX3_35 rfl rfl rfl rfl hh hk ?_
  generalize List.set (h7 ++ [am_I 2 300 (fun _ => 0)]) a0 (am_O 3 (List.set fs 10 (.ref ((h7).length)))) = h8 at H ⊢
  clear hh hk
  refine J_aload_n dX3_init_72 0 rfl ?_
  refine J_iconst (v := (-1)) dX3_init_73 (by decide) ?_
  obtain ⟨fs, hh, hk, H⟩ := H
  refine J_put dX3_init_74 fX3_38 rfl rfl hh hk ?_
  generalize List.set h8 a0 (am_O 3 (List.set fs 7 (.int (-1)))) = h9 at H ⊢
  clear hh hk
  exact J_vret dX3_init_77 rfl ⟨by decide +kernel, by decide +kernel, fun _ => by decide +kernel⟩ H
theorem eX3_init {l : Launch} {g : am_G} {d : Nat} {a0 : Nat} {a1 : Nat} {h : am_H} {K : am_H → Prop} (H : zX3_init_0 l g d a0 a1 h (fun r h' => r = none ∧ K h')) : cl_N l g mX3_init (d + 1) true [.ref a0, .ref a1] h K := rX3_init_0 H
def zX3_refresh_131 (l : Launch) (g : am_G) (d : Nat) (x : Bool) (a0 : Nat) (i1 : Int32) (h : am_H) (Q : Option Value → am_H → Prop) : Prop := am_J l g mX3_refresh (d + 1) (0, 0, x) 84 [(0, .ref a0), (1, .int (i1 + 1))] [] h Q
set_option maxRecDepth 4000 in
theorem rX3_refresh_131 {l : Launch} {g : am_G} {d : Nat} {x : Bool} {a0 : Nat} {i1 : Int32} {h : am_H} {Q : Option Value → am_H → Prop} (H : zX3_refresh_131 l g d x a0 i1 h Q) : am_J l g mX3_refresh (d + 1) (0, 0, x) 131 [(0, .ref a0), (1, .int i1)] [] h Q := by
  unfold zX3_refresh_131 at H
  refine J_iinc (v := (i1 + 1)) (L' := [(1, .int (i1 + 1)), (0, .ref a0)]) dX3_refresh_131 1 rfl rfl (by decide) rfl ?_
  refine J_goto (tgt := 84) dX3_refresh_134 (by decide) ?_
  exact J_pick [1, 0] rfl H
def zX3_refresh_84 (l : Launch) (g : am_G) (d : Nat) (x : Bool) (a0 : Nat) (i1 : Int32) (h : am_H) (Q : Option Value → am_H → Prop) : Prop := gt_R h a0 3 0 (fun v1 => gt_I h v1 0 7 (fun v2 => ((v2 ≤ i1 → Q none h) ∧ (¬ v2 ≤ i1 → gt_R h a0 3 0 (fun v3 => cv_I l g mX0_isThere d x 0 v3 [.int i1] h (fun v5 h4 => ((v5 = 0 → zX3_refresh_131 l g d x a0 i1  h4 Q) ∧ (¬ v5 = 0 → gt_R h4 a0 3 1 (fun v6 => al_I 0 h4 v6 i1 (fun v7 => ((¬ v7 = (-1) → zX3_refresh_131 l g d x a0 i1  h4 Q) ∧ (v7 = (-1) → gt_I h4 a0 3 11 (fun v8 => pt_V h4 a0 3 11 (.int (v8 + 1)) (fun h9 => cv_N l g mX3_walkPiece d x 3 a0 [.int i1] h9 (fun h10 => zX3_refresh_131 l g d x a0 i1  h10 Q)))))))))))))))
set_option maxRecDepth 4000 in
theorem rX3_refresh_84 {l : Launch} {g : am_G} {d : Nat} {x : Bool} {a0 : Nat} {i1 : Int32} {h : am_H} {Q : Option Value → am_H → Prop} (H : zX3_refresh_84 l g d x a0 i1 h Q) : am_J l g mX3_refresh (d + 1) (0, 0, x) 84 [(0, .ref a0), (1, .int i1)] [] h Q := by
  unfold zX3_refresh_84 at H
  refine J_iload_n dX3_refresh_84 1 rfl ?_
  refine J_aload_n dX3_refresh_85 0 rfl ?_
  obtain ⟨fs, v1, hh, hk, H⟩ := H
  refine J_get dX3_refresh_86 fX3_9 hh hk ?_
  clear hh hk
  obtain ⟨fs, v2, hh, hk, H⟩ := H
  refine J_get dX3_refresh_89 fX3_60 hh hk ?_
  clear hh hk
  obtain ⟨H1, H2⟩ := H
  refine J_icmp_ge (tgt := 137) dX3_refresh_92 (by decide) (fun hc => ?_) (fun hc => ?_)
  · replace H := H1 hc
    clear H1 H2
    exact J_vret dX3_refresh_137 rfl ⟨Nat.le_of_ble_eq_true rfl, Nat.le_of_ble_eq_true rfl, fun _ => rfl⟩ H
  · replace H := H2 hc
    clear H1 H2
    refine J_aload_n dX3_refresh_95 0 rfl ?_
    obtain ⟨fs, v3, hh, hk, H⟩ := H
    refine J_get dX3_refresh_96 fX3_9 hh hk ?_
    clear hh hk
    refine J_iload_n dX3_refresh_99 1 rfl ?_
    obtain ⟨⟨fs, hh⟩, H⟩ := H
    refine J_callV (As := [.int i1]) (S := []) (b := v3) dX3_refresh_100 mX0_isThere_ok kX3_63 rfl (by decide) (Nat.le_of_ble_eq_true rfl) hh rfl rfl (Nat.le_of_ble_eq_true rfl) ⟨Nat.le_of_ble_eq_true rfl, Nat.le_of_ble_eq_true rfl⟩ (fun k h' hp => ?_) H (fun r h4 hp => ?_)
    · obtain ⟨_, hv, -⟩ := hp; cases hv
    obtain ⟨v5, rfl, H⟩ := hp
    show am_J l g mX3_refresh (d + 1) (0, 0, x) 103 [(0, .ref a0), (1, .int i1)] [.int v5] h4 Q
    obtain ⟨H1, H2⟩ := H
    refine J_if_eq (tgt := 131) dX3_refresh_103 (by decide) (fun hc => ?_) (fun hc => ?_)
    · replace H := H1 hc
      clear H1 H2
      exact J_pick [0, 1] rfl (rX3_refresh_131 H)
    · replace H := H2 hc
      clear H1 H2
      refine J_aload_n dX3_refresh_106 0 rfl ?_
      obtain ⟨fs, v6, hh, hk, H⟩ := H
      refine J_get dX3_refresh_107 fX3_15 hh hk ?_
      clear hh hk
      refine J_iload_n dX3_refresh_110 1 rfl ?_
      obtain ⟨nn, ff, hh, hk, H⟩ := H
      refine J_iald dX3_refresh_111 hh hk ?_
      generalize ff (Int32.toNatClampNeg i1) = v7 at H ⊢
      clear hh hk ff
      refine J_iconst (v := (-1)) dX3_refresh_112 (by decide) ?_
      obtain ⟨H1, H2⟩ := H
      refine J_icmp_ne (tgt := 131) dX3_refresh_113 (by decide) (fun hc => ?_) (fun hc => ?_)
      · replace H := H1 hc
        clear H1 H2
        exact J_pick [0, 1] rfl (rX3_refresh_131 H)
      · replace H := H2 hc
        clear H1 H2
        refine J_aload_n dX3_refresh_116 0 rfl ?_
        refine J_dup dX3_refresh_117 rfl ?_
        obtain ⟨fs, v8, hh, hk, H⟩ := H
        refine J_get dX3_refresh_118 fX3_47 hh hk ?_
        clear hh hk
        refine J_iconst (v := 1) dX3_refresh_121 (by decide) ?_
        refine J_iadd dX3_refresh_122 ?_
        obtain ⟨fs, hh, hk, H⟩ := H
        refine J_put dX3_refresh_123 fX3_47 rfl rfl hh hk ?_
        generalize List.set h4 a0 (am_O 3 (List.set fs 11 (.int (v8 + 1)))) = h9 at H ⊢
        clear hh hk
        refine J_aload_n dX3_refresh_126 0 rfl ?_
        refine J_iload_n dX3_refresh_127 1 rfl ?_
        obtain ⟨⟨fs, hh⟩, H⟩ := H
        refine J_callV (As := [.int i1]) (S := []) (b := a0) dX3_refresh_128 mX3_walkPiece_ok kX3_67 rfl (by decide) (Nat.le_of_ble_eq_true rfl) hh rfl rfl (Nat.le_of_ble_eq_true rfl) ⟨Nat.le_of_ble_eq_true rfl, Nat.le_of_ble_eq_true rfl⟩ (fun k h' hp => ?_) H (fun r h10 hp => ?_)
        · obtain ⟨hv, -⟩ := hp; cases hv
        obtain ⟨rfl, H⟩ := hp
        show am_J l g mX3_refresh (d + 1) (0, 0, x) 131 [(0, .ref a0), (1, .int i1)] [] h10 Q
        exact J_pick [0, 1] rfl (rX3_refresh_131 H)
def zX3_refresh_48 (l : Launch) (g : am_G) (d : Nat) (x : Bool) (a0 : Nat) (i1 : Int32) (h : am_H) (Q : Option Value → am_H → Prop) : Prop := ((300 ≤ i1 → am_J l g mX3_refresh (d + 1) (0, 0, x) 84 [(0, .ref a0), (1, .int 0)] [] h Q) ∧ (¬ 300 ≤ i1 → gt_R h a0 3 1 (fun v1 => as_I 0 h v1 i1 (-1) (fun h2 => gt_R h2 a0 3 9 (fun v3 => as_I 2 h2 v3 i1 0 (fun h4 => gt_R h4 a0 3 10 (fun v5 => as_I 2 h4 v5 i1 0 (fun h6 => am_J l g mX3_refresh (d + 1) (0, 0, x) 48 [(0, .ref a0), (1, .int (i1 + 1))] [] h6 Q))))))))
set_option maxRecDepth 4000 in
theorem rX3_refresh_48 {l : Launch} {g : am_G} {d : Nat} {x : Bool} {a0 : Nat} {i1 : Int32} {h : am_H} {Q : Option Value → am_H → Prop} (H : zX3_refresh_48 l g d x a0 i1 h Q) : am_J l g mX3_refresh (d + 1) (0, 0, x) 48 [(0, .ref a0), (1, .int i1)] [] h Q := by
  unfold zX3_refresh_48 at H
  refine J_iload_n dX3_refresh_48 1 rfl ?_
  refine J_sipush (v := 300) dX3_refresh_49 (by decide) ?_
  obtain ⟨H1, H2⟩ := H
  refine J_icmp_ge (tgt := 82) dX3_refresh_52 (by decide) (fun hc => ?_) (fun hc => ?_)
  · replace H := H1 hc
    clear H1 H2
    refine J_iconst (v := 0) dX3_refresh_82 (by decide) ?_
    refine J_istore_n (L' := [(1, .int 0), (0, .ref a0)]) dX3_refresh_83 (by decide) rfl ?_
    exact J_pick [1, 0] rfl H
  · replace H := H2 hc
    clear H1 H2
    refine J_aload_n dX3_refresh_55 0 rfl ?_
    obtain ⟨fs, v1, hh, hk, H⟩ := H
    refine J_get dX3_refresh_56 fX3_15 hh hk ?_
    clear hh hk
    refine J_iload_n dX3_refresh_59 1 rfl ?_
    refine J_iconst (v := (-1)) dX3_refresh_60 (by decide) ?_
    obtain ⟨nn, ff, hh, hk, H⟩ := H
    refine J_iast dX3_refresh_61 hh hk ?_
    generalize List.set h v1 (am_I 0 nn (upd ff (Int32.toNatClampNeg i1) (-1))) = h2 at H ⊢
    clear hh hk
    refine J_aload_n dX3_refresh_62 0 rfl ?_
    obtain ⟨fs, v3, hh, hk, H⟩ := H
    refine J_get dX3_refresh_63 fX3_31 hh hk ?_
    clear hh hk
    refine J_iload_n dX3_refresh_66 1 rfl ?_
    refine J_iconst (v := 0) dX3_refresh_67 (by decide) ?_
    obtain ⟨nn, ff, hh, hk, H⟩ := H
    refine J_zast dX3_refresh_68 hh hk rfl ?_
    generalize List.set h2 v3 (am_I 2 nn (upd ff (Int32.toNatClampNeg i1) 0)) = h4 at H ⊢
    clear hh hk
    refine J_aload_n dX3_refresh_69 0 rfl ?_
    obtain ⟨fs, v5, hh, hk, H⟩ := H
    refine J_get dX3_refresh_70 fX3_35 hh hk ?_
    clear hh hk
    refine J_iload_n dX3_refresh_73 1 rfl ?_
    refine J_iconst (v := 0) dX3_refresh_74 (by decide) ?_
    obtain ⟨nn, ff, hh, hk, H⟩ := H
    refine J_zast dX3_refresh_75 hh hk rfl ?_
    generalize List.set h4 v5 (am_I 2 nn (upd ff (Int32.toNatClampNeg i1) 0)) = h6 at H ⊢
    clear hh hk
    refine J_iinc (v := (i1 + 1)) (L' := [(1, .int (i1 + 1)), (0, .ref a0)]) dX3_refresh_76 1 rfl rfl (by decide) rfl ?_
    refine J_goto (tgt := 48) dX3_refresh_79 (by decide) ?_
    exact J_pick [1, 0] rfl H
def zX3_refresh_0 (l : Launch) (g : am_G) (d : Nat) (x : Bool) (a0 : Nat) (h : am_H) (Q : Option Value → am_H → Prop) : Prop := gt_I h a0 3 7 (fun v1 => gt_R h a0 3 0 (fun v2 => gt_I h v2 0 8 (fun v3 => ((¬ v1 = v3 → gt_R h a0 3 0 (fun v4 => gt_I h v4 0 8 (fun v5 => pt_V h a0 3 7 (.int v5) (fun h6 => pt_V h6 a0 3 11 (.int 0) (fun h7 => pt_V h7 a0 3 12 (.int 0) (fun h8 => pt_V h8 a0 3 13 (.int 1) (fun h9 => pt_V h9 a0 3 5 (.int 0) (fun h10 => am_J l g mX3_refresh (d + 1) (0, 0, x) 48 [(0, .ref a0), (1, .int 0)] [] h10 Q)))))))) ∧ (v1 = v3 → Q none h)))))
set_option maxRecDepth 4000 in
theorem rX3_refresh_0 {l : Launch} {g : am_G} {d : Nat} {x : Bool} {a0 : Nat} {h : am_H} {Q : Option Value → am_H → Prop} (H : zX3_refresh_0 l g d x a0 h Q) : am_J l g mX3_refresh (d + 1) (0, 0, x) 0 [(0, .ref a0)] [] h Q := by
  unfold zX3_refresh_0 at H
  refine J_aload_n dX3_refresh_0 0 rfl ?_
  obtain ⟨fs, v1, hh, hk, H⟩ := H
  refine J_get dX3_refresh_1 fX3_38 hh hk ?_
  clear hh hk
  refine J_aload_n dX3_refresh_4 0 rfl ?_
  obtain ⟨fs, v2, hh, hk, H⟩ := H
  refine J_get dX3_refresh_5 fX3_9 hh hk ?_
  clear hh hk
  obtain ⟨fs, v3, hh, hk, H⟩ := H
  refine J_get dX3_refresh_8 fX3_42 hh hk ?_
  clear hh hk
  obtain ⟨H1, H2⟩ := H
  refine J_icmp_ne (tgt := 15) dX3_refresh_11 (by decide) (fun hc => ?_) (fun hc => ?_)
  · replace H := H1 hc
    clear H1 H2
    refine J_aload_n dX3_refresh_15 0 rfl ?_
    refine J_aload_n dX3_refresh_16 0 rfl ?_
    obtain ⟨fs, v4, hh, hk, H⟩ := H
    refine J_get dX3_refresh_17 fX3_9 hh hk ?_
    clear hh hk
    obtain ⟨fs, v5, hh, hk, H⟩ := H
    refine J_get dX3_refresh_20 fX3_42 hh hk ?_
    clear hh hk
    obtain ⟨fs, hh, hk, H⟩ := H
    refine J_put dX3_refresh_23 fX3_38 rfl rfl hh hk ?_
    generalize List.set h a0 (am_O 3 (List.set fs 7 (.int v5))) = h6 at H ⊢
    clear hh hk
    refine J_aload_n dX3_refresh_26 0 rfl ?_
    refine J_iconst (v := 0) dX3_refresh_27 (by decide) ?_
    obtain ⟨fs, hh, hk, H⟩ := H
    refine J_put dX3_refresh_28 fX3_47 rfl rfl hh hk ?_
    generalize List.set h6 a0 (am_O 3 (List.set fs 11 (.int 0))) = h7 at H ⊢
    clear hh hk
    refine J_aload_n dX3_refresh_31 0 rfl ?_
    refine J_iconst (v := 0) dX3_refresh_32 (by decide) ?_
    obtain ⟨fs, hh, hk, H⟩ := H
    refine J_put dX3_refresh_33 fX3_50 rfl rfl hh hk ?_
    generalize List.set h7 a0 (am_O 3 (List.set fs 12 (.int 0))) = h8 at H ⊢
    clear hh hk
    refine J_aload_n dX3_refresh_36 0 rfl ?_
    refine J_iconst (v := 1) dX3_refresh_37 (by decide) ?_
    obtain ⟨fs, hh, hk, H⟩ := H
    refine J_put dX3_refresh_38 fX3_53 rfl rfl hh hk ?_
    generalize List.set h8 a0 (am_O 3 (List.set fs 13 (.int 1))) = h9 at H ⊢
    clear hh hk
    refine J_aload_n dX3_refresh_41 0 rfl ?_
    refine J_iconst (v := 0) dX3_refresh_42 (by decide) ?_
    obtain ⟨fs, hh, hk, H⟩ := H
    refine J_put dX3_refresh_43 fX3_57 rfl rfl hh hk ?_
    generalize List.set h9 a0 (am_O 3 (List.set fs 5 (.int 0))) = h10 at H ⊢
    clear hh hk
    refine J_iconst (v := 0) dX3_refresh_46 (by decide) ?_
    refine J_istore_n (L' := [(1, .int 0), (0, .ref a0)]) dX3_refresh_47 (by decide) rfl ?_
    exact J_pick [1, 0] rfl H
  · replace H := H2 hc
    clear H1 H2
    exact J_vret dX3_refresh_14 rfl ⟨Nat.le_of_ble_eq_true rfl, Nat.le_of_ble_eq_true rfl, fun _ => rfl⟩ H
theorem eX3_refresh {l : Launch} {g : am_G} {d : Nat} {x : Bool} {a0 : Nat} {h : am_H} {K : am_H → Prop} (H : zX3_refresh_0 l g d x a0 h (fun r h' => r = none ∧ K h')) : cl_N l g mX3_refresh (d + 1) x [.ref a0] h K := rX3_refresh_0 H
def zX3_walkPiece_98 (l : Launch) (g : am_G) (d : Nat) (x : Bool) (a0 : Nat) (i2 : Int32) (i3 : Int32) (h : am_H) (Q : Option Value → am_H → Prop) : Prop := am_J l g mX3_walkPiece (d + 1) (0, 0, x) 29 [(0, .ref a0), (2, .int i2), (3, .int (i3 + 1))] [] h Q
set_option maxRecDepth 4000 in
theorem rX3_walkPiece_98 {l : Launch} {g : am_G} {d : Nat} {x : Bool} {a0 : Nat} {i2 : Int32} {i3 : Int32} {h : am_H} {Q : Option Value → am_H → Prop} (H : zX3_walkPiece_98 l g d x a0 i2 i3 h Q) : am_J l g mX3_walkPiece (d + 1) (0, 0, x) 98 [(0, .ref a0), (2, .int i2), (3, .int i3)] [] h Q := by
  unfold zX3_walkPiece_98 at H
  refine J_iinc (v := (i3 + 1)) (L' := [(3, .int (i3 + 1)), (0, .ref a0), (2, .int i2)]) dX3_walkPiece_98 2 rfl rfl (by decide) rfl ?_
  refine J_goto (tgt := 29) dX3_walkPiece_101 (by decide) ?_
  exact J_pick [1, 2, 0] rfl H
def zX3_walkPiece_29 (l : Launch) (g : am_G) (d : Nat) (x : Bool) (a0 : Nat) (i2 : Int32) (i3 : Int32) (h : am_H) (Q : Option Value → am_H → Prop) : Prop := ((90300 ≤ i3 → Q none h) ∧ (¬ 90300 ≤ i3 → ((i2 = (-1) → Q none h) ∧ (¬ i2 = (-1) → gt_R h a0 3 0 (fun v1 => gt_R h v1 0 3 (fun v2 => gt_R h a0 3 4 (fun v3 => al_I 0 h v3 i2 (fun v4 => cv_I l g mX2_next d x 2 v2 [.int i2, .int v4] h (fun v6 h5 => ((¬ v6 = (-1) → gt_R h5 a0 3 4 (fun v7 => as_I 0 h5 v7 i2 (v6 + 1) (fun h8 => cv_I l g mX3_tryLink d x 3 a0 [.int i2, .int v6] h8 (fun v10 h9 => zX3_walkPiece_98 l g d x a0 v10 i3  h9 Q)))) ∧ (v6 = (-1) → cv_N l g mX3_leave d x 3 a0 [.int i2] h5 (fun h11 => gt_R h11 a0 3 3 (fun v13 => al_I 0 h11 v13 i2 (fun v14 => zX3_walkPiece_98 l g d x a0 v14 i3  h11 Q))))))))))))))
set_option maxRecDepth 4000 in
theorem rX3_walkPiece_29 {l : Launch} {g : am_G} {d : Nat} {x : Bool} {a0 : Nat} {i2 : Int32} {i3 : Int32} {h : am_H} {Q : Option Value → am_H → Prop} (H : zX3_walkPiece_29 l g d x a0 i2 i3 h Q) : am_J l g mX3_walkPiece (d + 1) (0, 0, x) 29 [(0, .ref a0), (2, .int i2), (3, .int i3)] [] h Q := by
  unfold zX3_walkPiece_29 at H
  refine J_iload_n dX3_walkPiece_29 2 rfl ?_
  refine J_ldc (v := 90300) dX3_walkPiece_30 qX3_78 ?_
  obtain ⟨H1, H2⟩ := H
  refine J_icmp_ge (tgt := 104) dX3_walkPiece_32 (by decide) (fun hc => ?_) (fun hc => ?_)
  · replace H := H1 hc
    clear H1 H2
    exact J_vret dX3_walkPiece_104 rfl ⟨Nat.le_of_ble_eq_true rfl, Nat.le_of_ble_eq_true rfl, fun _ => rfl⟩ H
  · replace H := H2 hc
    clear H1 H2
    refine J_iload_n dX3_walkPiece_35 1 rfl ?_
    refine J_iconst (v := (-1)) dX3_walkPiece_36 (by decide) ?_
    obtain ⟨H1, H2⟩ := H
    refine J_icmp_eq (tgt := 104) dX3_walkPiece_37 (by decide) (fun hc => ?_) (fun hc => ?_)
    · replace H := H1 hc
      clear H1 H2
      exact J_vret dX3_walkPiece_104 rfl ⟨Nat.le_of_ble_eq_true rfl, Nat.le_of_ble_eq_true rfl, fun _ => rfl⟩ H
    · replace H := H2 hc
      clear H1 H2
      refine J_aload_n dX3_walkPiece_40 0 rfl ?_
      obtain ⟨fs, v1, hh, hk, H⟩ := H
      refine J_get dX3_walkPiece_41 fX3_9 hh hk ?_
      clear hh hk
      obtain ⟨fs, v2, hh, hk, H⟩ := H
      refine J_get dX3_walkPiece_44 fX3_79 hh hk ?_
      clear hh hk
      refine J_iload_n dX3_walkPiece_47 1 rfl ?_
      refine J_aload_n dX3_walkPiece_48 0 rfl ?_
      obtain ⟨fs, v3, hh, hk, H⟩ := H
      refine J_get dX3_walkPiece_49 fX3_25 hh hk ?_
      clear hh hk
      refine J_iload_n dX3_walkPiece_52 1 rfl ?_
      obtain ⟨nn, ff, hh, hk, H⟩ := H
      refine J_iald dX3_walkPiece_53 hh hk ?_
      generalize ff (Int32.toNatClampNeg i2) = v4 at H ⊢
      clear hh hk ff
      obtain ⟨⟨fs, hh⟩, H⟩ := H
      refine J_callV (As := [.int i2, .int v4]) (S := []) (b := v2) dX3_walkPiece_54 mX2_next_ok kX3_83 rfl (by decide) (Nat.le_of_ble_eq_true rfl) hh rfl rfl (Nat.le_of_ble_eq_true rfl) ⟨Nat.le_of_ble_eq_true rfl, Nat.le_of_ble_eq_true rfl⟩ (fun k h' hp => ?_) H (fun r h5 hp => ?_)
      · obtain ⟨_, hv, -⟩ := hp; cases hv
      obtain ⟨v6, rfl, H⟩ := hp
      show am_J l g mX3_walkPiece (d + 1) (0, 0, x) 57 [(0, .ref a0), (2, .int i2), (3, .int i3)] [.int v6] h5 Q
      refine J_istore (L' := [(4, .int v6), (0, .ref a0), (2, .int i2), (3, .int i3)]) dX3_walkPiece_57 (by decide) rfl ?_
      refine J_iload dX3_walkPiece_59 0 rfl ?_
      refine J_iconst (v := (-1)) dX3_walkPiece_61 (by decide) ?_
      obtain ⟨H1, H2⟩ := H
      refine J_icmp_ne (tgt := 80) dX3_walkPiece_62 (by decide) (fun hc => ?_) (fun hc => ?_)
      · replace H := H1 hc
        clear H1 H2
        refine J_aload_n dX3_walkPiece_80 1 rfl ?_
        obtain ⟨fs, v7, hh, hk, H⟩ := H
        refine J_get dX3_walkPiece_81 fX3_25 hh hk ?_
        clear hh hk
        refine J_iload_n dX3_walkPiece_84 2 rfl ?_
        refine J_iload dX3_walkPiece_85 0 rfl ?_
        refine J_iconst (v := 1) dX3_walkPiece_87 (by decide) ?_
        refine J_iadd dX3_walkPiece_88 ?_
        obtain ⟨nn, ff, hh, hk, H⟩ := H
        refine J_iast dX3_walkPiece_89 hh hk ?_
        generalize List.set h5 v7 (am_I 0 nn (upd ff (Int32.toNatClampNeg i2) (v6 + 1))) = h8 at H ⊢
        clear hh hk
        refine J_aload_n dX3_walkPiece_90 1 rfl ?_
        refine J_iload_n dX3_walkPiece_91 2 rfl ?_
        refine J_iload dX3_walkPiece_92 0 rfl ?_
        obtain ⟨⟨fs, hh⟩, H⟩ := H
        refine J_callV (As := [.int i2, .int v6]) (S := []) (b := a0) dX3_walkPiece_94 mX3_tryLink_ok kX3_92 rfl (by decide) (Nat.le_of_ble_eq_true rfl) hh rfl rfl (Nat.le_of_ble_eq_true rfl) ⟨Nat.le_of_ble_eq_true rfl, Nat.le_of_ble_eq_true rfl⟩ (fun k h' hp => ?_) H (fun r h9 hp => ?_)
        · obtain ⟨_, hv, -⟩ := hp; cases hv
        obtain ⟨v10, rfl, H⟩ := hp
        show am_J l g mX3_walkPiece (d + 1) (0, 0, x) 97 [(4, .int v6), (0, .ref a0), (2, .int i2), (3, .int i3)] [.int v10] h9 Q
        refine J_istore_n (L' := [(2, .int v10), (4, .int v6), (0, .ref a0), (3, .int i3)]) dX3_walkPiece_97 (by decide) rfl ?_
        exact J_pick [2, 0, 3] rfl (rX3_walkPiece_98 H)
      · replace H := H2 hc
        clear H1 H2
        refine J_aload_n dX3_walkPiece_65 1 rfl ?_
        refine J_iload_n dX3_walkPiece_66 2 rfl ?_
        obtain ⟨⟨fs, hh⟩, H⟩ := H
        refine J_callV (As := [.int i2]) (S := []) (b := a0) dX3_walkPiece_67 mX3_leave_ok kX3_89 rfl (by decide) (Nat.le_of_ble_eq_true rfl) hh rfl rfl (Nat.le_of_ble_eq_true rfl) ⟨Nat.le_of_ble_eq_true rfl, Nat.le_of_ble_eq_true rfl⟩ (fun k h' hp => ?_) H (fun r h11 hp => ?_)
        · obtain ⟨hv, -⟩ := hp; cases hv
        obtain ⟨rfl, H⟩ := hp
        show am_J l g mX3_walkPiece (d + 1) (0, 0, x) 70 [(4, .int v6), (0, .ref a0), (2, .int i2), (3, .int i3)] [] h11 Q
        refine J_aload_n dX3_walkPiece_70 1 rfl ?_
        obtain ⟨fs, v13, hh, hk, H⟩ := H
        refine J_get dX3_walkPiece_71 fX3_22 hh hk ?_
        clear hh hk
        refine J_iload_n dX3_walkPiece_74 2 rfl ?_
        obtain ⟨nn, ff, hh, hk, H⟩ := H
        refine J_iald dX3_walkPiece_75 hh hk ?_
        generalize ff (Int32.toNatClampNeg i2) = v14 at H ⊢
        clear hh hk ff
        refine J_istore_n (L' := [(2, .int v14), (4, .int v6), (0, .ref a0), (3, .int i3)]) dX3_walkPiece_76 (by decide) rfl ?_
        refine J_goto (tgt := 98) dX3_walkPiece_77 (by decide) ?_
        exact J_pick [2, 0, 3] rfl (rX3_walkPiece_98 H)
def zX3_walkPiece_0 (l : Launch) (g : am_G) (d : Nat) (x : Bool) (a0 : Nat) (i1 : Int32) (h : am_H) (Q : Option Value → am_H → Prop) : Prop := pt_V h a0 3 6 (.int 0) (fun h1 => gt_R h1 a0 3 8 (fun v2 => as_I 0 h1 v2 i1 i1 (fun h3 => gt_R h3 a0 3 9 (fun v4 => as_I 2 h3 v4 i1 1 (fun h5 => cv_N l g mX3_enter d x 3 a0 [.int i1, .int (-1)] h5 (fun h6 => am_J l g mX3_walkPiece (d + 1) (0, 0, x) 29 [(0, .ref a0), (2, .int i1), (3, .int 0)] [] h6 Q))))))
set_option maxRecDepth 4000 in
theorem rX3_walkPiece_0 {l : Launch} {g : am_G} {d : Nat} {x : Bool} {a0 : Nat} {i1 : Int32} {h : am_H} {Q : Option Value → am_H → Prop} (H : zX3_walkPiece_0 l g d x a0 i1 h Q) : am_J l g mX3_walkPiece (d + 1) (0, 0, x) 0 [(0, .ref a0), (1, .int i1)] [] h Q := by
  unfold zX3_walkPiece_0 at H
  refine J_aload_n dX3_walkPiece_0 0 rfl ?_
  refine J_iconst (v := 0) dX3_walkPiece_1 (by decide) ?_
  obtain ⟨fs, hh, hk, H⟩ := H
  refine J_put dX3_walkPiece_2 fX3_71 rfl rfl hh hk ?_
  generalize List.set h a0 (am_O 3 (List.set fs 6 (.int 0))) = h1 at H ⊢
  clear hh hk
  refine J_aload_n dX3_walkPiece_5 0 rfl ?_
  obtain ⟨fs, v2, hh, hk, H⟩ := H
  refine J_get dX3_walkPiece_6 fX3_28 hh hk ?_
  clear hh hk
  refine J_iload_n dX3_walkPiece_9 1 rfl ?_
  refine J_iload_n dX3_walkPiece_10 1 rfl ?_
  obtain ⟨nn, ff, hh, hk, H⟩ := H
  refine J_iast dX3_walkPiece_11 hh hk ?_
  generalize List.set h1 v2 (am_I 0 nn (upd ff (Int32.toNatClampNeg i1) i1)) = h3 at H ⊢
  clear hh hk
  refine J_aload_n dX3_walkPiece_12 0 rfl ?_
  obtain ⟨fs, v4, hh, hk, H⟩ := H
  refine J_get dX3_walkPiece_13 fX3_31 hh hk ?_
  clear hh hk
  refine J_iload_n dX3_walkPiece_16 1 rfl ?_
  refine J_iconst (v := 1) dX3_walkPiece_17 (by decide) ?_
  obtain ⟨nn, ff, hh, hk, H⟩ := H
  refine J_zast dX3_walkPiece_18 hh hk rfl ?_
  generalize List.set h3 v4 (am_I 2 nn (upd ff (Int32.toNatClampNeg i1) 1)) = h5 at H ⊢
  clear hh hk
  refine J_aload_n dX3_walkPiece_19 0 rfl ?_
  refine J_iload_n dX3_walkPiece_20 1 rfl ?_
  refine J_iconst (v := (-1)) dX3_walkPiece_21 (by decide) ?_
  obtain ⟨⟨fs, hh⟩, H⟩ := H
  refine J_callV (As := [.int i1, .int (-1)]) (S := []) (b := a0) dX3_walkPiece_22 mX3_enter_ok kX3_74 rfl (by decide) (Nat.le_of_ble_eq_true rfl) hh rfl rfl (Nat.le_of_ble_eq_true rfl) ⟨Nat.le_of_ble_eq_true rfl, Nat.le_of_ble_eq_true rfl⟩ (fun k h' hp => ?_) H (fun r h6 hp => ?_)
  · obtain ⟨hv, -⟩ := hp; cases hv
  obtain ⟨rfl, H⟩ := hp
  show am_J l g mX3_walkPiece (d + 1) (0, 0, x) 25 [(0, .ref a0), (1, .int i1)] [] h6 Q
  refine J_iload_n dX3_walkPiece_25 1 rfl ?_
  refine J_istore_n (L' := [(2, .int i1), (0, .ref a0), (1, .int i1)]) dX3_walkPiece_26 (by decide) rfl ?_
  refine J_iconst (v := 0) dX3_walkPiece_27 (by decide) ?_
  refine J_istore_n (L' := [(3, .int 0), (2, .int i1), (0, .ref a0), (1, .int i1)]) dX3_walkPiece_28 (by decide) rfl ?_
  exact J_pick [2, 1, 0] rfl H
theorem eX3_walkPiece {l : Launch} {g : am_G} {d : Nat} {x : Bool} {a0 : Nat} {i1 : Int32} {h : am_H} {K : am_H → Prop} (H : zX3_walkPiece_0 l g d x a0 i1 h (fun r h' => r = none ∧ K h')) : cl_N l g mX3_walkPiece (d + 1) x [.ref a0, .int i1] h K := rX3_walkPiece_0 H
def zX3_tryLink_70 (l : Launch) (g : am_G) (d : Nat) (x : Bool) (a0 : Nat) (i1 : Int32) (i2 : Int32) (h : am_H) (Q : Option Value → am_H → Prop) : Prop := gt_R h a0 3 2 (fun v1 => gt_R h a0 3 2 (fun v2 => al_I 0 h v2 i1 (fun v3 => gt_R h a0 3 1 (fun v4 => al_I 0 h v4 i2 (fun v5 => as_I 0 h v1 i1 (if v5 < v3 then v5 else v3) (fun h6 => Q (some (.int i1)) h6))))))
set_option maxRecDepth 4000 in
theorem rX3_tryLink_70 {l : Launch} {g : am_G} {d : Nat} {x : Bool} {a0 : Nat} {i1 : Int32} {i2 : Int32} {h : am_H} {Q : Option Value → am_H → Prop} (H : zX3_tryLink_70 l g d x a0 i1 i2 h Q) : am_J l g mX3_tryLink (d + 1) (0, 0, x) 70 [(0, .ref a0), (1, .int i1), (2, .int i2)] [] h Q := by
  unfold zX3_tryLink_70 at H
  refine J_aload_n dX3_tryLink_70 0 rfl ?_
  obtain ⟨fs, v1, hh, hk, H⟩ := H
  refine J_get dX3_tryLink_71 fX3_19 hh hk ?_
  clear hh hk
  refine J_iload_n dX3_tryLink_74 1 rfl ?_
  refine J_aload_n dX3_tryLink_75 0 rfl ?_
  obtain ⟨fs, v2, hh, hk, H⟩ := H
  refine J_get dX3_tryLink_76 fX3_19 hh hk ?_
  clear hh hk
  refine J_iload_n dX3_tryLink_79 1 rfl ?_
  obtain ⟨nn, ff, hh, hk, H⟩ := H
  refine J_iald dX3_tryLink_80 hh hk ?_
  generalize ff (Int32.toNatClampNeg i1) = v3 at H ⊢
  clear hh hk ff
  refine J_aload_n dX3_tryLink_81 0 rfl ?_
  obtain ⟨fs, v4, hh, hk, H⟩ := H
  refine J_get dX3_tryLink_82 fX3_15 hh hk ?_
  clear hh hk
  refine J_iload_n dX3_tryLink_85 2 rfl ?_
  obtain ⟨nn, ff, hh, hk, H⟩ := H
  refine J_iald dX3_tryLink_86 hh hk ?_
  generalize ff (Int32.toNatClampNeg i2) = v5 at H ⊢
  clear hh hk ff
  refine J_min dX3_tryLink_87 kX3_95 mn_st mn_in mn_co (Nat.le_of_ble_eq_true rfl) ⟨Nat.le_of_ble_eq_true rfl, Nat.le_of_ble_eq_true rfl⟩ ?_
  obtain ⟨nn, ff, hh, hk, H⟩ := H
  refine J_iast dX3_tryLink_90 hh hk ?_
  generalize List.set h v1 (am_I 0 nn (upd ff (Int32.toNatClampNeg i1) (if v5 < v3 then v5 else v3))) = h6 at H ⊢
  clear hh hk
  refine J_iload_n dX3_tryLink_91 1 rfl ?_
  exact J_iret dX3_tryLink_92 ⟨_, rfl, rfl⟩ ⟨Nat.le_of_ble_eq_true rfl, Nat.le_of_ble_eq_true rfl, fun _ => rfl⟩ H
def zX3_tryLink_41 (l : Launch) (g : am_G) (d : Nat) (x : Bool) (a0 : Nat) (i1 : Int32) (i2 : Int32) (s0 : Nat) (s1 : Int32) (s2 : Int32) (h : am_H) (Q : Option Value → am_H → Prop) : Prop := ((s2 = 0 ∨ s2 = 1) ∧ as_I 2 h s0 s1 s2 (fun h1 => cv_N l g mX3_enter d x 3 a0 [.int i2, .int i1] h1 (fun h2 => Q (some (.int i2)) h2)))
set_option maxRecDepth 4000 in
theorem rX3_tryLink_41 {l : Launch} {g : am_G} {d : Nat} {x : Bool} {a0 : Nat} {i1 : Int32} {i2 : Int32} {s0 : Nat} {s1 : Int32} {s2 : Int32} {h : am_H} {Q : Option Value → am_H → Prop} (H : zX3_tryLink_41 l g d x a0 i1 i2 s0 s1 s2 h Q) : am_J l g mX3_tryLink (d + 1) (0, 0, x) 41 [(0, .ref a0), (1, .int i1), (2, .int i2)] [.int s2, .int s1, .ref s0] h Q := by
  unfold zX3_tryLink_41 at H
  obtain ⟨hb, H⟩ := H
  obtain ⟨nn, ff, hh, hk, H⟩ := H
  refine J_zast dX3_tryLink_41 hh hk (by rcases hb with e | e <;> rw [e] <;> rfl) ?_
  generalize List.set h s0 (am_I 2 nn (upd ff (Int32.toNatClampNeg s1) s2)) = h1 at H ⊢
  clear hh hk
  refine J_aload_n dX3_tryLink_42 0 rfl ?_
  refine J_iload_n dX3_tryLink_43 2 rfl ?_
  refine J_iload_n dX3_tryLink_44 1 rfl ?_
  obtain ⟨⟨fs, hh⟩, H⟩ := H
  refine J_callV (As := [.int i2, .int i1]) (S := []) (b := a0) dX3_tryLink_45 mX3_enter_ok kX3_74 rfl (by decide) (Nat.le_of_ble_eq_true rfl) hh rfl rfl (Nat.le_of_ble_eq_true rfl) ⟨Nat.le_of_ble_eq_true rfl, Nat.le_of_ble_eq_true rfl⟩ (fun k h' hp => ?_) H (fun r h2 hp => ?_)
  · obtain ⟨hv, -⟩ := hp; cases hv
  obtain ⟨rfl, H⟩ := hp
  show am_J l g mX3_tryLink (d + 1) (0, 0, x) 48 [(0, .ref a0), (1, .int i1), (2, .int i2)] [] h2 Q
  refine J_iload_n dX3_tryLink_48 2 rfl ?_
  exact J_iret dX3_tryLink_49 ⟨_, rfl, rfl⟩ ⟨Nat.le_of_ble_eq_true rfl, Nat.le_of_ble_eq_true rfl, fun _ => rfl⟩ H
def zX3_tryLink_0 (l : Launch) (g : am_G) (d : Nat) (x : Bool) (a0 : Nat) (i1 : Int32) (i2 : Int32) (h : am_H) (Q : Option Value → am_H → Prop) : Prop := gt_R h a0 3 1 (fun v1 => al_I 0 h v1 i2 (fun v2 => ((¬ v2 = (-1) → gt_R h a0 3 9 (fun v3 => al_I 2 h v3 i2 (fun v4 => gt_R h a0 3 9 (fun v5 => al_I 2 h v5 i1 (fun v6 => ((¬ v4 = v6 → zX3_tryLink_70 l g d x a0 i1 i2  h Q) ∧ (v4 = v6 → pt_V h a0 3 13 (.int 0) (fun h7 => zX3_tryLink_70 l g d x a0 i1 i2  h7 Q)))))))) ∧ (v2 = (-1) → gt_R h a0 3 8 (fun v8 => gt_R h a0 3 8 (fun v9 => al_I 0 h v9 i1 (fun v10 => as_I 0 h v8 i2 v10 (fun h11 => gt_R h11 a0 3 9 (fun v12 => gt_R h11 a0 3 9 (fun v13 => al_I 2 h11 v13 i1 (fun v14 => ((¬ v14 = 0 → zX3_tryLink_41 l g d x a0 i1 i2 v12 i2 0 h11 Q) ∧ (v14 = 0 → zX3_tryLink_41 l g d x a0 i1 i2 v12 i2 1 h11 Q)))))))))))))
set_option maxRecDepth 4000 in
theorem rX3_tryLink_0 {l : Launch} {g : am_G} {d : Nat} {x : Bool} {a0 : Nat} {i1 : Int32} {i2 : Int32} {h : am_H} {Q : Option Value → am_H → Prop} (H : zX3_tryLink_0 l g d x a0 i1 i2 h Q) : am_J l g mX3_tryLink (d + 1) (0, 0, x) 0 [(0, .ref a0), (1, .int i1), (2, .int i2)] [] h Q := by
  unfold zX3_tryLink_0 at H
  refine J_aload_n dX3_tryLink_0 0 rfl ?_
  obtain ⟨fs, v1, hh, hk, H⟩ := H
  refine J_get dX3_tryLink_1 fX3_15 hh hk ?_
  clear hh hk
  refine J_iload_n dX3_tryLink_4 2 rfl ?_
  obtain ⟨nn, ff, hh, hk, H⟩ := H
  refine J_iald dX3_tryLink_5 hh hk ?_
  generalize ff (Int32.toNatClampNeg i2) = v2 at H ⊢
  clear hh hk ff
  refine J_iconst (v := (-1)) dX3_tryLink_6 (by decide) ?_
  obtain ⟨H1, H2⟩ := H
  refine J_icmp_ne (tgt := 50) dX3_tryLink_7 (by decide) (fun hc => ?_) (fun hc => ?_)
  · replace H := H1 hc
    clear H1 H2
    refine J_aload_n dX3_tryLink_50 0 rfl ?_
    obtain ⟨fs, v3, hh, hk, H⟩ := H
    refine J_get dX3_tryLink_51 fX3_31 hh hk ?_
    clear hh hk
    refine J_iload_n dX3_tryLink_54 2 rfl ?_
    obtain ⟨nn, ff, hh, hk, H⟩ := H
    refine J_zald dX3_tryLink_55 hh hk ?_
    generalize ff (Int32.toNatClampNeg i2) = v4 at H ⊢
    clear hh hk ff
    refine J_aload_n dX3_tryLink_56 0 rfl ?_
    obtain ⟨fs, v5, hh, hk, H⟩ := H
    refine J_get dX3_tryLink_57 fX3_31 hh hk ?_
    clear hh hk
    refine J_iload_n dX3_tryLink_60 1 rfl ?_
    obtain ⟨nn, ff, hh, hk, H⟩ := H
    refine J_zald dX3_tryLink_61 hh hk ?_
    generalize ff (Int32.toNatClampNeg i1) = v6 at H ⊢
    clear hh hk ff
    obtain ⟨H1, H2⟩ := H
    refine J_icmp_ne (tgt := 70) dX3_tryLink_62 (by decide) (fun hc => ?_) (fun hc => ?_)
    · replace H := H1 hc
      clear H1 H2
      exact J_pick [0, 1, 2] rfl (rX3_tryLink_70 H)
    · replace H := H2 hc
      clear H1 H2
      refine J_aload_n dX3_tryLink_65 0 rfl ?_
      refine J_iconst (v := 0) dX3_tryLink_66 (by decide) ?_
      obtain ⟨fs, hh, hk, H⟩ := H
      refine J_put dX3_tryLink_67 fX3_53 rfl rfl hh hk ?_
      generalize List.set h a0 (am_O 3 (List.set fs 13 (.int 0))) = h7 at H ⊢
      clear hh hk
      exact J_pick [0, 1, 2] rfl (rX3_tryLink_70 H)
  · replace H := H2 hc
    clear H1 H2
    refine J_aload_n dX3_tryLink_10 0 rfl ?_
    obtain ⟨fs, v8, hh, hk, H⟩ := H
    refine J_get dX3_tryLink_11 fX3_28 hh hk ?_
    clear hh hk
    refine J_iload_n dX3_tryLink_14 2 rfl ?_
    refine J_aload_n dX3_tryLink_15 0 rfl ?_
    obtain ⟨fs, v9, hh, hk, H⟩ := H
    refine J_get dX3_tryLink_16 fX3_28 hh hk ?_
    clear hh hk
    refine J_iload_n dX3_tryLink_19 1 rfl ?_
    obtain ⟨nn, ff, hh, hk, H⟩ := H
    refine J_iald dX3_tryLink_20 hh hk ?_
    generalize ff (Int32.toNatClampNeg i1) = v10 at H ⊢
    clear hh hk ff
    obtain ⟨nn, ff, hh, hk, H⟩ := H
    refine J_iast dX3_tryLink_21 hh hk ?_
    generalize List.set h v8 (am_I 0 nn (upd ff (Int32.toNatClampNeg i2) v10)) = h11 at H ⊢
    clear hh hk
    refine J_aload_n dX3_tryLink_22 0 rfl ?_
    obtain ⟨fs, v12, hh, hk, H⟩ := H
    refine J_get dX3_tryLink_23 fX3_31 hh hk ?_
    clear hh hk
    refine J_iload_n dX3_tryLink_26 2 rfl ?_
    refine J_aload_n dX3_tryLink_27 0 rfl ?_
    obtain ⟨fs, v13, hh, hk, H⟩ := H
    refine J_get dX3_tryLink_28 fX3_31 hh hk ?_
    clear hh hk
    refine J_iload_n dX3_tryLink_31 1 rfl ?_
    obtain ⟨nn, ff, hh, hk, H⟩ := H
    refine J_zald dX3_tryLink_32 hh hk ?_
    generalize ff (Int32.toNatClampNeg i1) = v14 at H ⊢
    clear hh hk ff
    obtain ⟨H1, H2⟩ := H
    refine J_if_ne (tgt := 40) dX3_tryLink_33 (by decide) (fun hc => ?_) (fun hc => ?_)
    · replace H := H1 hc
      clear H1 H2
      refine J_iconst (v := 0) dX3_tryLink_40 (by decide) ?_
      exact J_pick [0, 1, 2] rfl (rX3_tryLink_41 H)
    · replace H := H2 hc
      clear H1 H2
      refine J_iconst (v := 1) dX3_tryLink_36 (by decide) ?_
      refine J_goto (tgt := 41) dX3_tryLink_37 (by decide) ?_
      exact J_pick [0, 1, 2] rfl (rX3_tryLink_41 H)
theorem eX3_tryLink {l : Launch} {g : am_G} {d : Nat} {x : Bool} {a0 : Nat} {i1 : Int32} {i2 : Int32} {h : am_H} {K : Int32 → am_H → Prop} (H : zX3_tryLink_0 l g d x a0 i1 i2 h (fun r h' => ∃ v, r = some (.int v) ∧ K v h')) : cl_I l g mX3_tryLink (d + 1) x [.ref a0, .int i1, .int i2] h K := rX3_tryLink_0 H
def zX3_enter_0 (l : Launch) (g : am_G) (d : Nat) (x : Bool) (a0 : Nat) (i1 : Int32) (i2 : Int32) (h : am_H) (Q : Option Value → am_H → Prop) : Prop := gt_R h a0 3 1 (fun v1 => gt_I h a0 3 5 (fun v2 => as_I 0 h v1 i1 v2 (fun h3 => gt_R h3 a0 3 2 (fun v4 => gt_I h3 a0 3 5 (fun v5 => as_I 0 h3 v4 i1 v5 (fun h6 => gt_I h6 a0 3 5 (fun v7 => pt_V h6 a0 3 5 (.int (v7 + 1)) (fun h8 => gt_R h8 a0 3 3 (fun v9 => as_I 0 h8 v9 i1 i2 (fun h10 => gt_R h10 a0 3 4 (fun v11 => as_I 0 h10 v11 i1 0 (fun h12 => Q none h12))))))))))))
set_option maxRecDepth 4000 in
theorem rX3_enter_0 {l : Launch} {g : am_G} {d : Nat} {x : Bool} {a0 : Nat} {i1 : Int32} {i2 : Int32} {h : am_H} {Q : Option Value → am_H → Prop} (H : zX3_enter_0 l g d x a0 i1 i2 h Q) : am_J l g mX3_enter d (0, 0, x) 0 [(0, .ref a0), (1, .int i1), (2, .int i2)] [] h Q := by
  unfold zX3_enter_0 at H
  refine J_aload_n dX3_enter_0 0 rfl ?_
  obtain ⟨fs, v1, hh, hk, H⟩ := H
  refine J_get dX3_enter_1 fX3_15 hh hk ?_
  clear hh hk
  refine J_iload_n dX3_enter_4 1 rfl ?_
  refine J_aload_n dX3_enter_5 0 rfl ?_
  obtain ⟨fs, v2, hh, hk, H⟩ := H
  refine J_get dX3_enter_6 fX3_57 hh hk ?_
  clear hh hk
  obtain ⟨nn, ff, hh, hk, H⟩ := H
  refine J_iast dX3_enter_9 hh hk ?_
  generalize List.set h v1 (am_I 0 nn (upd ff (Int32.toNatClampNeg i1) v2)) = h3 at H ⊢
  clear hh hk
  refine J_aload_n dX3_enter_10 0 rfl ?_
  obtain ⟨fs, v4, hh, hk, H⟩ := H
  refine J_get dX3_enter_11 fX3_19 hh hk ?_
  clear hh hk
  refine J_iload_n dX3_enter_14 1 rfl ?_
  refine J_aload_n dX3_enter_15 0 rfl ?_
  obtain ⟨fs, v5, hh, hk, H⟩ := H
  refine J_get dX3_enter_16 fX3_57 hh hk ?_
  clear hh hk
  obtain ⟨nn, ff, hh, hk, H⟩ := H
  refine J_iast dX3_enter_19 hh hk ?_
  generalize List.set h3 v4 (am_I 0 nn (upd ff (Int32.toNatClampNeg i1) v5)) = h6 at H ⊢
  clear hh hk
  refine J_aload_n dX3_enter_20 0 rfl ?_
  refine J_dup dX3_enter_21 rfl ?_
  obtain ⟨fs, v7, hh, hk, H⟩ := H
  refine J_get dX3_enter_22 fX3_57 hh hk ?_
  clear hh hk
  refine J_iconst (v := 1) dX3_enter_25 (by decide) ?_
  refine J_iadd dX3_enter_26 ?_
  obtain ⟨fs, hh, hk, H⟩ := H
  refine J_put dX3_enter_27 fX3_57 rfl rfl hh hk ?_
  generalize List.set h6 a0 (am_O 3 (List.set fs 5 (.int (v7 + 1)))) = h8 at H ⊢
  clear hh hk
  refine J_aload_n dX3_enter_30 0 rfl ?_
  obtain ⟨fs, v9, hh, hk, H⟩ := H
  refine J_get dX3_enter_31 fX3_22 hh hk ?_
  clear hh hk
  refine J_iload_n dX3_enter_34 1 rfl ?_
  refine J_iload_n dX3_enter_35 2 rfl ?_
  obtain ⟨nn, ff, hh, hk, H⟩ := H
  refine J_iast dX3_enter_36 hh hk ?_
  generalize List.set h8 v9 (am_I 0 nn (upd ff (Int32.toNatClampNeg i1) i2)) = h10 at H ⊢
  clear hh hk
  refine J_aload_n dX3_enter_37 0 rfl ?_
  obtain ⟨fs, v11, hh, hk, H⟩ := H
  refine J_get dX3_enter_38 fX3_25 hh hk ?_
  clear hh hk
  refine J_iload_n dX3_enter_41 1 rfl ?_
  refine J_iconst (v := 0) dX3_enter_42 (by decide) ?_
  obtain ⟨nn, ff, hh, hk, H⟩ := H
  refine J_iast dX3_enter_43 hh hk ?_
  generalize List.set h10 v11 (am_I 0 nn (upd ff (Int32.toNatClampNeg i1) 0)) = h12 at H ⊢
  clear hh hk
  exact J_vret dX3_enter_44 rfl ⟨Nat.le_of_ble_eq_true rfl, Nat.le_of_ble_eq_true rfl, fun _ => rfl⟩ H
theorem eX3_enter {l : Launch} {g : am_G} {d : Nat} {x : Bool} {a0 : Nat} {i1 : Int32} {i2 : Int32} {h : am_H} {K : am_H → Prop} (H : zX3_enter_0 l g d x a0 i1 i2 h (fun r h' => r = none ∧ K h')) : cl_N l g mX3_enter d x [.ref a0, .int i1, .int i2] h K := rX3_enter_0 H
def zX3_leave_0 (l : Launch) (g : am_G) (d : Nat) (x : Bool) (a0 : Nat) (i1 : Int32) (h : am_H) (Q : Option Value → am_H → Prop) : Prop := gt_R h a0 3 3 (fun v1 => al_I 0 h v1 i1 (fun v2 => ((¬ v2 = (-1) → gt_R h a0 3 2 (fun v3 => gt_R h a0 3 2 (fun v4 => al_I 0 h v4 v2 (fun v5 => gt_R h a0 3 2 (fun v6 => al_I 0 h v6 i1 (fun v7 => as_I 0 h v3 v2 (if v7 < v5 then v7 else v5) (fun h8 => gt_R h8 a0 3 3 (fun v9 => al_I 0 h8 v9 v2 (fun v10 => ((v10 = (-1) → gt_I h8 a0 3 6 (fun v11 => pt_V h8 a0 3 6 (.int (v11 + 1)) (fun h12 => gt_I h12 a0 3 6 (fun v13 => ((v13 ≤ 1 → Q none h12) ∧ (¬ v13 ≤ 1 → cv_N l g mX3_markCut d x 3 a0 [.int v2] h12 (fun h14 => Q none h14))))))) ∧ (¬ v10 = (-1) → gt_R h8 a0 3 2 (fun v16 => al_I 0 h8 v16 i1 (fun v17 => gt_R h8 a0 3 1 (fun v18 => al_I 0 h8 v18 v2 (fun v19 => ((v17 < v19 → Q none h8) ∧ (¬ v17 < v19 → cv_N l g mX3_markCut d x 3 a0 [.int v2] h8 (fun h20 => Q none h20)))))))))))))))))) ∧ (v2 = (-1) → Q none h))))
set_option maxRecDepth 4000 in
theorem rX3_leave_0 {l : Launch} {g : am_G} {d : Nat} {x : Bool} {a0 : Nat} {i1 : Int32} {h : am_H} {Q : Option Value → am_H → Prop} (H : zX3_leave_0 l g d x a0 i1 h Q) : am_J l g mX3_leave (d + 1) (0, 0, x) 0 [(0, .ref a0), (1, .int i1)] [] h Q := by
  unfold zX3_leave_0 at H
  refine J_aload_n dX3_leave_0 0 rfl ?_
  obtain ⟨fs, v1, hh, hk, H⟩ := H
  refine J_get dX3_leave_1 fX3_22 hh hk ?_
  clear hh hk
  refine J_iload_n dX3_leave_4 1 rfl ?_
  obtain ⟨nn, ff, hh, hk, H⟩ := H
  refine J_iald dX3_leave_5 hh hk ?_
  generalize ff (Int32.toNatClampNeg i1) = v2 at H ⊢
  clear hh hk ff
  refine J_istore_n (L' := [(2, .int v2), (0, .ref a0), (1, .int i1)]) dX3_leave_6 (by decide) rfl ?_
  refine J_iload_n dX3_leave_7 0 rfl ?_
  refine J_iconst (v := (-1)) dX3_leave_8 (by decide) ?_
  obtain ⟨H1, H2⟩ := H
  refine J_icmp_ne (tgt := 13) dX3_leave_9 (by decide) (fun hc => ?_) (fun hc => ?_)
  · replace H := H1 hc
    clear H1 H2
    refine J_aload_n dX3_leave_13 1 rfl ?_
    obtain ⟨fs, v3, hh, hk, H⟩ := H
    refine J_get dX3_leave_14 fX3_19 hh hk ?_
    clear hh hk
    refine J_iload_n dX3_leave_17 0 rfl ?_
    refine J_aload_n dX3_leave_18 1 rfl ?_
    obtain ⟨fs, v4, hh, hk, H⟩ := H
    refine J_get dX3_leave_19 fX3_19 hh hk ?_
    clear hh hk
    refine J_iload_n dX3_leave_22 0 rfl ?_
    obtain ⟨nn, ff, hh, hk, H⟩ := H
    refine J_iald dX3_leave_23 hh hk ?_
    generalize ff (Int32.toNatClampNeg v2) = v5 at H ⊢
    clear hh hk ff
    refine J_aload_n dX3_leave_24 1 rfl ?_
    obtain ⟨fs, v6, hh, hk, H⟩ := H
    refine J_get dX3_leave_25 fX3_19 hh hk ?_
    clear hh hk
    refine J_iload_n dX3_leave_28 2 rfl ?_
    obtain ⟨nn, ff, hh, hk, H⟩ := H
    refine J_iald dX3_leave_29 hh hk ?_
    generalize ff (Int32.toNatClampNeg i1) = v7 at H ⊢
    clear hh hk ff
    refine J_min dX3_leave_30 kX3_95 mn_st mn_in mn_co (Nat.le_of_ble_eq_true rfl) ⟨Nat.le_of_ble_eq_true rfl, Nat.le_of_ble_eq_true rfl⟩ ?_
    obtain ⟨nn, ff, hh, hk, H⟩ := H
    refine J_iast dX3_leave_33 hh hk ?_
    generalize List.set h v3 (am_I 0 nn (upd ff (Int32.toNatClampNeg v2) (if v7 < v5 then v7 else v5))) = h8 at H ⊢
    clear hh hk
    refine J_aload_n dX3_leave_34 1 rfl ?_
    obtain ⟨fs, v9, hh, hk, H⟩ := H
    refine J_get dX3_leave_35 fX3_22 hh hk ?_
    clear hh hk
    refine J_iload_n dX3_leave_38 0 rfl ?_
    obtain ⟨nn, ff, hh, hk, H⟩ := H
    refine J_iald dX3_leave_39 hh hk ?_
    generalize ff (Int32.toNatClampNeg v2) = v10 at H ⊢
    clear hh hk ff
    refine J_iconst (v := (-1)) dX3_leave_40 (by decide) ?_
    obtain ⟨H1, H2⟩ := H
    refine J_icmp_eq (tgt := 65) dX3_leave_41 (by decide) (fun hc => ?_) (fun hc => ?_)
    · replace H := H1 hc
      clear H1 H2
      refine J_aload_n dX3_leave_65 1 rfl ?_
      refine J_dup dX3_leave_66 rfl ?_
      obtain ⟨fs, v11, hh, hk, H⟩ := H
      refine J_get dX3_leave_67 fX3_71 hh hk ?_
      clear hh hk
      refine J_iconst (v := 1) dX3_leave_70 (by decide) ?_
      refine J_iadd dX3_leave_71 ?_
      obtain ⟨fs, hh, hk, H⟩ := H
      refine J_put dX3_leave_72 fX3_71 rfl rfl hh hk ?_
      generalize List.set h8 a0 (am_O 3 (List.set fs 6 (.int (v11 + 1)))) = h12 at H ⊢
      clear hh hk
      refine J_aload_n dX3_leave_75 1 rfl ?_
      obtain ⟨fs, v13, hh, hk, H⟩ := H
      refine J_get dX3_leave_76 fX3_71 hh hk ?_
      clear hh hk
      refine J_iconst (v := 1) dX3_leave_79 (by decide) ?_
      obtain ⟨H1, H2⟩ := H
      refine J_icmp_le (tgt := 88) dX3_leave_80 (by decide) (fun hc => ?_) (fun hc => ?_)
      · replace H := H1 hc
        clear H1 H2
        exact J_vret dX3_leave_88 rfl ⟨Nat.le_of_ble_eq_true rfl, Nat.le_of_ble_eq_true rfl, fun _ => rfl⟩ H
      · replace H := H2 hc
        clear H1 H2
        refine J_aload_n dX3_leave_83 1 rfl ?_
        refine J_iload_n dX3_leave_84 0 rfl ?_
        obtain ⟨⟨fs, hh⟩, H⟩ := H
        refine J_callV (As := [.int v2]) (S := []) (b := a0) dX3_leave_85 mX3_markCut_ok kX3_100 rfl (by decide) (Nat.le_of_ble_eq_true rfl) hh rfl rfl (Nat.le_of_ble_eq_true rfl) ⟨Nat.le_of_ble_eq_true rfl, Nat.le_of_ble_eq_true rfl⟩ (fun k h' hp => ?_) H (fun r h14 hp => ?_)
        · obtain ⟨hv, -⟩ := hp; cases hv
        obtain ⟨rfl, H⟩ := hp
        show am_J l g mX3_leave (d + 1) (0, 0, x) 88 [(2, .int v2), (0, .ref a0), (1, .int i1)] [] h14 Q
        exact J_vret dX3_leave_88 rfl ⟨Nat.le_of_ble_eq_true rfl, Nat.le_of_ble_eq_true rfl, fun _ => rfl⟩ H
    · replace H := H2 hc
      clear H1 H2
      refine J_aload_n dX3_leave_44 1 rfl ?_
      obtain ⟨fs, v16, hh, hk, H⟩ := H
      refine J_get dX3_leave_45 fX3_19 hh hk ?_
      clear hh hk
      refine J_iload_n dX3_leave_48 2 rfl ?_
      obtain ⟨nn, ff, hh, hk, H⟩ := H
      refine J_iald dX3_leave_49 hh hk ?_
      generalize ff (Int32.toNatClampNeg i1) = v17 at H ⊢
      clear hh hk ff
      refine J_aload_n dX3_leave_50 1 rfl ?_
      obtain ⟨fs, v18, hh, hk, H⟩ := H
      refine J_get dX3_leave_51 fX3_15 hh hk ?_
      clear hh hk
      refine J_iload_n dX3_leave_54 0 rfl ?_
      obtain ⟨nn, ff, hh, hk, H⟩ := H
      refine J_iald dX3_leave_55 hh hk ?_
      generalize ff (Int32.toNatClampNeg v2) = v19 at H ⊢
      clear hh hk ff
      obtain ⟨H1, H2⟩ := H
      refine J_icmp_lt (tgt := 64) dX3_leave_56 (by decide) (fun hc => ?_) (fun hc => ?_)
      · replace H := H1 hc
        clear H1 H2
        exact J_vret dX3_leave_64 rfl ⟨Nat.le_of_ble_eq_true rfl, Nat.le_of_ble_eq_true rfl, fun _ => rfl⟩ H
      · replace H := H2 hc
        clear H1 H2
        refine J_aload_n dX3_leave_59 1 rfl ?_
        refine J_iload_n dX3_leave_60 0 rfl ?_
        obtain ⟨⟨fs, hh⟩, H⟩ := H
        refine J_callV (As := [.int v2]) (S := []) (b := a0) dX3_leave_61 mX3_markCut_ok kX3_100 rfl (by decide) (Nat.le_of_ble_eq_true rfl) hh rfl rfl (Nat.le_of_ble_eq_true rfl) ⟨Nat.le_of_ble_eq_true rfl, Nat.le_of_ble_eq_true rfl⟩ (fun k h' hp => ?_) H (fun r h20 hp => ?_)
        · obtain ⟨hv, -⟩ := hp; cases hv
        obtain ⟨rfl, H⟩ := hp
        show am_J l g mX3_leave (d + 1) (0, 0, x) 64 [(2, .int v2), (0, .ref a0), (1, .int i1)] [] h20 Q
        exact J_vret dX3_leave_64 rfl ⟨Nat.le_of_ble_eq_true rfl, Nat.le_of_ble_eq_true rfl, fun _ => rfl⟩ H
  · replace H := H2 hc
    clear H1 H2
    exact J_vret dX3_leave_12 rfl ⟨Nat.le_of_ble_eq_true rfl, Nat.le_of_ble_eq_true rfl, fun _ => rfl⟩ H
theorem eX3_leave {l : Launch} {g : am_G} {d : Nat} {x : Bool} {a0 : Nat} {i1 : Int32} {h : am_H} {K : am_H → Prop} (H : zX3_leave_0 l g d x a0 i1 h (fun r h' => r = none ∧ K h')) : cl_N l g mX3_leave (d + 1) x [.ref a0, .int i1] h K := rX3_leave_0 H
def zX3_markCut_0 (l : Launch) (g : am_G) (d : Nat) (x : Bool) (a0 : Nat) (i1 : Int32) (h : am_H) (Q : Option Value → am_H → Prop) : Prop := gt_R h a0 3 10 (fun v1 => al_I 2 h v1 i1 (fun v2 => ((¬ v2 = 0 → Q none h) ∧ (v2 = 0 → gt_R h a0 3 10 (fun v3 => as_I 2 h v3 i1 1 (fun h4 => gt_I h4 a0 3 12 (fun v5 => pt_V h4 a0 3 12 (.int (v5 + 1)) (fun h6 => Q none h6))))))))
set_option maxRecDepth 4000 in
theorem rX3_markCut_0 {l : Launch} {g : am_G} {d : Nat} {x : Bool} {a0 : Nat} {i1 : Int32} {h : am_H} {Q : Option Value → am_H → Prop} (H : zX3_markCut_0 l g d x a0 i1 h Q) : am_J l g mX3_markCut d (0, 0, x) 0 [(0, .ref a0), (1, .int i1)] [] h Q := by
  unfold zX3_markCut_0 at H
  refine J_aload_n dX3_markCut_0 0 rfl ?_
  obtain ⟨fs, v1, hh, hk, H⟩ := H
  refine J_get dX3_markCut_1 fX3_35 hh hk ?_
  clear hh hk
  refine J_iload_n dX3_markCut_4 1 rfl ?_
  obtain ⟨nn, ff, hh, hk, H⟩ := H
  refine J_zald dX3_markCut_5 hh hk ?_
  generalize ff (Int32.toNatClampNeg i1) = v2 at H ⊢
  clear hh hk ff
  obtain ⟨H1, H2⟩ := H
  refine J_if_ne (tgt := 26) dX3_markCut_6 (by decide) (fun hc => ?_) (fun hc => ?_)
  · replace H := H1 hc
    clear H1 H2
    exact J_vret dX3_markCut_26 rfl ⟨Nat.le_of_ble_eq_true rfl, Nat.le_of_ble_eq_true rfl, fun _ => rfl⟩ H
  · replace H := H2 hc
    clear H1 H2
    refine J_aload_n dX3_markCut_9 0 rfl ?_
    obtain ⟨fs, v3, hh, hk, H⟩ := H
    refine J_get dX3_markCut_10 fX3_35 hh hk ?_
    clear hh hk
    refine J_iload_n dX3_markCut_13 1 rfl ?_
    refine J_iconst (v := 1) dX3_markCut_14 (by decide) ?_
    obtain ⟨nn, ff, hh, hk, H⟩ := H
    refine J_zast dX3_markCut_15 hh hk rfl ?_
    generalize List.set h v3 (am_I 2 nn (upd ff (Int32.toNatClampNeg i1) 1)) = h4 at H ⊢
    clear hh hk
    refine J_aload_n dX3_markCut_16 0 rfl ?_
    refine J_dup dX3_markCut_17 rfl ?_
    obtain ⟨fs, v5, hh, hk, H⟩ := H
    refine J_get dX3_markCut_18 fX3_50 hh hk ?_
    clear hh hk
    refine J_iconst (v := 1) dX3_markCut_21 (by decide) ?_
    refine J_iadd dX3_markCut_22 ?_
    obtain ⟨fs, hh, hk, H⟩ := H
    refine J_put dX3_markCut_23 fX3_50 rfl rfl hh hk ?_
    generalize List.set h4 a0 (am_O 3 (List.set fs 12 (.int (v5 + 1)))) = h6 at H ⊢
    clear hh hk
    exact J_vret dX3_markCut_26 rfl ⟨Nat.le_of_ble_eq_true rfl, Nat.le_of_ble_eq_true rfl, fun _ => rfl⟩ H
theorem eX3_markCut {l : Launch} {g : am_G} {d : Nat} {x : Bool} {a0 : Nat} {i1 : Int32} {h : am_H} {K : am_H → Prop} (H : zX3_markCut_0 l g d x a0 i1 h (fun r h' => r = none ∧ K h')) : cl_N l g mX3_markCut d x [.ref a0, .int i1] h K := rX3_markCut_0 H
