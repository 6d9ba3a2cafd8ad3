def zX7_init_0 (l : Launch) (g : am_G) (d : Nat) (a0 : Nat) (h : am_H) (Q : Option Value → am_H → Prop) : Prop := pt_V (h ++ [am_I 0 24 (fun _ => 0)]) a0 7 0 (.ref ((h).length)) (fun h1 => pt_V (h1 ++ [am_I 0 24 (fun _ => 0)]) a0 7 1 (.ref ((h1).length)) (fun h2 => pt_V (h2 ++ [am_I 0 24 (fun _ => 0)]) a0 7 2 (.ref ((h2).length)) (fun h3 => pt_V (h3 ++ [am_I 0 24 (fun _ => 0)]) a0 7 3 (.ref ((h3).length)) (fun h4 => pt_V (h4 ++ [am_I 2 24 (fun _ => 0)]) a0 7 4 (.ref ((h4).length)) (fun h5 => Q none h5)))))
set_option maxRecDepth 4000 in
theorem rX7_init_0 {l : Launch} {g : am_G} {d : Nat} {a0 : Nat} {h : am_H} {Q : Option Value → am_H → Prop} (H : zX7_init_0 l g d a0 h Q) : am_J l g mX7_init (d + 1) (0, 0, true) 0 [(0, .ref a0)] [] h Q := by
  unfold zX7_init_0 at H
  refine J_aload_n dX7_init_0 0 rfl ?_
  refine J_objInit dX7_init_1 kX7_3 (Nat.le_of_ble_eq_true rfl) ?_
  refine J_aload_n dX7_init_4 0 rfl ?_
  refine J_bipush (v := 24) dX7_init_5 (by decide) ?_
  refine J_newaI (t := 0) (N' := 24) (ty := .int) dX7_init_7 rfl aw_int (by decide) (by decide +kernel) (by decide +kernel) (by decide +kernel) ⟨by decide +kernel, by decide +kernel⟩ ?_
  show am_J l g mX7_init (d + 1) (1, 24, true) 9 [(0, .ref a0)] [.ref ((h).length), .ref a0] (h ++ [am_I 0 24 (fun _ => 0)]) Q
  obtain ⟨fs, hh, hk, H⟩ := H
  refine J_putF dX7_init_9 fX7_9 rfl rfl rfl rfl hh hk ?_
  generalize List.set (h ++ [am_I 0 24 (fun _ => 0)]) a0 (am_O 7 (List.set fs 0 (.ref ((h).length)))) = h1 at H ⊢
  clear hh hk
  refine J_aload_n dX7_init_12 0 rfl ?_
  refine J_bipush (v := 24) dX7_init_13 (by decide) ?_
  refine J_newaI (t := 0) (N' := 24) (ty := .int) dX7_init_15 rfl aw_int (by decide) (by decide +kernel) (by decide +kernel) (by decide +kernel) ⟨by decide +kernel, by decide +kernel⟩ ?_
  show am_J l g mX7_init (d + 1) (2, 48, true) 17 [(0, .ref a0)] [.ref ((h1).length), .ref a0] (h1 ++ [am_I 0 24 (fun _ => 0)]) Q
  obtain ⟨fs, hh, hk, H⟩ := H
  refine J_putF dX7_init_17 fX7_15 rfl rfl rfl rfl hh hk ?_
  generalize List.set (h1 ++ [am_I 0 24 (fun _ => 0)]) a0 (am_O 7 (List.set fs 1 (.ref ((h1).length)))) = h2 at H ⊢
  clear hh hk
  refine J_aload_n dX7_init_20 0 rfl ?_
  refine J_bipush (v := 24) dX7_init_21 (by decide) ?_
  refine J_newaI (t := 0) (N' := 24) (ty := .int) dX7_init_23 rfl aw_int (by decide) (by decide +kernel) (by decide +kernel) (by decide +kernel) ⟨by decide +kernel, by decide +kernel⟩ ?_
  show am_J l g mX7_init (d + 1) (3, 72, true) 25 [(0, .ref a0)] [.ref ((h2).length), .ref a0] (h2 ++ [am_I 0 24 (fun _ => 0)]) Q
  obtain ⟨fs, hh, hk, H⟩ := H
  refine J_putF dX7_init_25 fX7_18 rfl rfl rfl rfl hh hk ?_
  generalize List.set (h2 ++ [am_I 0 24 (fun _ => 0)]) a0 (am_O 7 (List.set fs 2 (.ref ((h2).length)))) = h3 at H ⊢
  clear hh hk
  refine J_aload_n dX7_init_28 0 rfl ?_
  refine J_bipush (v := 24) dX7_init_29 (by decide) ?_
  refine J_newaI (t := 0) (N' := 24) (ty := .int) dX7_init_31 rfl aw_int (by decide) (by decide +kernel) (by decide +kernel) (by decide +kernel) ⟨by decide +kernel, by decide +kernel⟩ ?_
  show am_J l g mX7_init (d + 1) (4, 96, true) 33 [(0, .ref a0)] [.ref ((h3).length), .ref a0] (h3 ++ [am_I 0 24 (fun _ => 0)]) Q
  obtain ⟨fs, hh, hk, H⟩ := H
  refine J_putF dX7_init_33 fX7_21 rfl rfl rfl rfl hh hk ?_
  generalize List.set (h3 ++ [am_I 0 24 (fun _ => 0)]) a0 (am_O 7 (List.set fs 3 (.ref ((h3).length)))) = h4 at H ⊢
  clear hh hk
  refine J_aload_n dX7_init_36 0 rfl ?_
  refine J_bipush (v := 24) dX7_init_37 (by decide) ?_
  refine J_newaI (t := 2) (N' := 24) (ty := .boolean) dX7_init_39 rfl aw_boolean (by decide) (by decide +kernel) (by decide +kernel) (by decide +kernel) ⟨by decide +kernel, by decide +kernel⟩ ?_
  show am_J l g mX7_init (d + 1) (5, 120, true) 41 [(0, .ref a0)] [.ref ((h4).length), .ref a0] (h4 ++ [am_I 2 24 (fun _ => 0)]) Q
  obtain ⟨fs, hh, hk, H⟩ := H
  refine J_putF dX7_init_41 fX7_24 rfl rfl rfl rfl hh hk ?_
  generalize List.set (h4 ++ [am_I 2 24 (fun _ => 0)]) a0 (am_O 7 (List.set fs 4 (.ref ((h4).length)))) = h5 at H ⊢
  clear hh hk
  exact J_vret dX7_init_44 rfl ⟨by decide +kernel, by decide +kernel, fun _ => by decide +kernel⟩ H
theorem eX7_init {l : Launch} {g : am_G} {d : Nat} {a0 : Nat} {h : am_H} {K : am_H → Prop} (H : zX7_init_0 l g d a0 h (fun r h' => r = none ∧ K h')) : cl_N l g mX7_init (d + 1) true [.ref a0] h K := rX7_init_0 H
def zX7_empty_0 (l : Launch) (g : am_G) (d : Nat) (x : Bool) (a0 : Nat) (h : am_H) (Q : Option Value → am_H → Prop) : Prop := pt_V h a0 7 5 (.int 0) (fun h1 => pt_V h1 a0 7 6 (.int 0) (fun h2 => Q none h2))
set_option maxRecDepth 4000 in
theorem rX7_empty_0 {l : Launch} {g : am_G} {d : Nat} {x : Bool} {a0 : Nat} {h : am_H} {Q : Option Value → am_H → Prop} (H : zX7_empty_0 l g d x a0 h Q) : am_J l g mX7_empty d (0, 0, x) 0 [(0, .ref a0)] [] h Q := by
  unfold zX7_empty_0 at H
  refine J_aload_n dX7_empty_0 0 rfl ?_
  refine J_iconst (v := 0) dX7_empty_1 (by decide) ?_
  obtain ⟨fs, hh, hk, H⟩ := H
  refine J_put dX7_empty_2 fX7_28 rfl rfl hh hk ?_
  generalize List.set h a0 (am_O 7 (List.set fs 5 (.int 0))) = h1 at H ⊢
  clear hh hk
  refine J_aload_n dX7_empty_5 0 rfl ?_
  refine J_iconst (v := 0) dX7_empty_6 (by decide) ?_
  obtain ⟨fs, hh, hk, H⟩ := H
  refine J_put dX7_empty_7 fX7_32 rfl rfl hh hk ?_
  generalize List.set h1 a0 (am_O 7 (List.set fs 6 (.int 0))) = h2 at H ⊢
  clear hh hk
  exact J_vret dX7_empty_10 rfl ⟨Nat.le_of_ble_eq_true rfl, Nat.le_of_ble_eq_true rfl, fun _ => rfl⟩ H
theorem eX7_empty {l : Launch} {g : am_G} {d : Nat} {x : Bool} {a0 : Nat} {h : am_H} {K : am_H → Prop} (H : zX7_empty_0 l g d x a0 h (fun r h' => r = none ∧ K h')) : cl_N l g mX7_empty d x [.ref a0] h K := rX7_empty_0 H
def zX7_copyFrom_18 (l : Launch) (g : am_G) (d : Nat) (x : Bool) (a0 : Nat) (a1 : Nat) (i2 : Int32) (h : am_H) (Q : Option Value → am_H → Prop) : Prop := gt_I h a0 7 6 (fun v1 => ((v1 ≤ i2 → Q none h) ∧ (¬ v1 ≤ i2 → gt_R h a0 7 0 (fun v2 => gt_R h a1 7 0 (fun v3 => al_I 0 h v3 i2 (fun v4 => as_I 0 h v2 i2 v4 (fun h5 => gt_R h5 a0 7 1 (fun v6 => gt_R h5 a1 7 1 (fun v7 => al_I 0 h5 v7 i2 (fun v8 => as_I 0 h5 v6 i2 v8 (fun h9 => gt_R h9 a0 7 2 (fun v10 => gt_R h9 a1 7 2 (fun v11 => al_I 0 h9 v11 i2 (fun v12 => as_I 0 h9 v10 i2 v12 (fun h13 => gt_R h13 a0 7 3 (fun v14 => gt_R h13 a1 7 3 (fun v15 => al_I 0 h13 v15 i2 (fun v16 => as_I 0 h13 v14 i2 v16 (fun h17 => gt_R h17 a0 7 4 (fun v18 => gt_R h17 a1 7 4 (fun v19 => al_I 2 h17 v19 i2 (fun v20 => ((v20 = 0 ∨ v20 = 1) ∧ as_I 2 h17 v18 i2 v20 (fun h21 => am_J l g mX7_copyFrom d (0, 0, x) 18 [(0, .ref a0), (1, .ref a1), (2, .int (i2 + 1))] [] h21 Q))))))))))))))))))))))))
set_option maxRecDepth 4000 in
theorem rX7_copyFrom_18 {l : Launch} {g : am_G} {d : Nat} {x : Bool} {a0 : Nat} {a1 : Nat} {i2 : Int32} {h : am_H} {Q : Option Value → am_H → Prop} (H : zX7_copyFrom_18 l g d x a0 a1 i2 h Q) : am_J l g mX7_copyFrom d (0, 0, x) 18 [(0, .ref a0), (1, .ref a1), (2, .int i2)] [] h Q := by
  unfold zX7_copyFrom_18 at H
  refine J_iload_n dX7_copyFrom_18 2 rfl ?_
  refine J_aload_n dX7_copyFrom_19 0 rfl ?_
  obtain ⟨fs, v1, hh, hk, H⟩ := H
  refine J_get dX7_copyFrom_20 fX7_32 hh hk ?_
  clear hh hk
  obtain ⟨H1, H2⟩ := H
  refine J_icmp_ge (tgt := 92) dX7_copyFrom_23 (by decide) (fun hc => ?_) (fun hc => ?_)
  · replace H := H1 hc
    clear H1 H2
    exact J_vret dX7_copyFrom_92 rfl ⟨Nat.le_of_ble_eq_true rfl, Nat.le_of_ble_eq_true rfl, fun _ => rfl⟩ H
  · replace H := H2 hc
    clear H1 H2
    refine J_aload_n dX7_copyFrom_26 0 rfl ?_
    obtain ⟨fs, v2, hh, hk, H⟩ := H
    refine J_get dX7_copyFrom_27 fX7_9 hh hk ?_
    clear hh hk
    refine J_iload_n dX7_copyFrom_30 2 rfl ?_
    refine J_aload_n dX7_copyFrom_31 1 rfl ?_
    obtain ⟨fs, v3, hh, hk, H⟩ := H
    refine J_get dX7_copyFrom_32 fX7_9 hh hk ?_
    clear hh hk
    refine J_iload_n dX7_copyFrom_35 2 rfl ?_
    obtain ⟨nn, ff, hh, hk, H⟩ := H
    refine J_iald dX7_copyFrom_36 hh hk ?_
    generalize ff (Int32.toNatClampNeg i2) = v4 at H ⊢
    clear hh hk ff
    obtain ⟨nn, ff, hh, hk, H⟩ := H
    refine J_iast dX7_copyFrom_37 hh hk ?_
    generalize List.set h v2 (am_I 0 nn (upd ff (Int32.toNatClampNeg i2) v4)) = h5 at H ⊢
    clear hh hk
    refine J_aload_n dX7_copyFrom_38 0 rfl ?_
    obtain ⟨fs, v6, hh, hk, H⟩ := H
    refine J_get dX7_copyFrom_39 fX7_15 hh hk ?_
    clear hh hk
    refine J_iload_n dX7_copyFrom_42 2 rfl ?_
    refine J_aload_n dX7_copyFrom_43 1 rfl ?_
    obtain ⟨fs, v7, hh, hk, H⟩ := H
    refine J_get dX7_copyFrom_44 fX7_15 hh hk ?_
    clear hh hk
    refine J_iload_n dX7_copyFrom_47 2 rfl ?_
    obtain ⟨nn, ff, hh, hk, H⟩ := H
    refine J_iald dX7_copyFrom_48 hh hk ?_
    generalize ff (Int32.toNatClampNeg i2) = v8 at H ⊢
    clear hh hk ff
    obtain ⟨nn, ff, hh, hk, H⟩ := H
    refine J_iast dX7_copyFrom_49 hh hk ?_
    generalize List.set h5 v6 (am_I 0 nn (upd ff (Int32.toNatClampNeg i2) v8)) = h9 at H ⊢
    clear hh hk
    refine J_aload_n dX7_copyFrom_50 0 rfl ?_
    obtain ⟨fs, v10, hh, hk, H⟩ := H
    refine J_get dX7_copyFrom_51 fX7_18 hh hk ?_
    clear hh hk
    refine J_iload_n dX7_copyFrom_54 2 rfl ?_
    refine J_aload_n dX7_copyFrom_55 1 rfl ?_
    obtain ⟨fs, v11, hh, hk, H⟩ := H
    refine J_get dX7_copyFrom_56 fX7_18 hh hk ?_
    clear hh hk
    refine J_iload_n dX7_copyFrom_59 2 rfl ?_
    obtain ⟨nn, ff, hh, hk, H⟩ := H
    refine J_iald dX7_copyFrom_60 hh hk ?_
    generalize ff (Int32.toNatClampNeg i2) = v12 at H ⊢
    clear hh hk ff
    obtain ⟨nn, ff, hh, hk, H⟩ := H
    refine J_iast dX7_copyFrom_61 hh hk ?_
    generalize List.set h9 v10 (am_I 0 nn (upd ff (Int32.toNatClampNeg i2) v12)) = h13 at H ⊢
    clear hh hk
    refine J_aload_n dX7_copyFrom_62 0 rfl ?_
    obtain ⟨fs, v14, hh, hk, H⟩ := H
    refine J_get dX7_copyFrom_63 fX7_21 hh hk ?_
    clear hh hk
    refine J_iload_n dX7_copyFrom_66 2 rfl ?_
    refine J_aload_n dX7_copyFrom_67 1 rfl ?_
    obtain ⟨fs, v15, hh, hk, H⟩ := H
    refine J_get dX7_copyFrom_68 fX7_21 hh hk ?_
    clear hh hk
    refine J_iload_n dX7_copyFrom_71 2 rfl ?_
    obtain ⟨nn, ff, hh, hk, H⟩ := H
    refine J_iald dX7_copyFrom_72 hh hk ?_
    generalize ff (Int32.toNatClampNeg i2) = v16 at H ⊢
    clear hh hk ff
    obtain ⟨nn, ff, hh, hk, H⟩ := H
    refine J_iast dX7_copyFrom_73 hh hk ?_
    generalize List.set h13 v14 (am_I 0 nn (upd ff (Int32.toNatClampNeg i2) v16)) = h17 at H ⊢
    clear hh hk
    refine J_aload_n dX7_copyFrom_74 0 rfl ?_
    obtain ⟨fs, v18, hh, hk, H⟩ := H
    refine J_get dX7_copyFrom_75 fX7_24 hh hk ?_
    clear hh hk
    refine J_iload_n dX7_copyFrom_78 2 rfl ?_
    refine J_aload_n dX7_copyFrom_79 1 rfl ?_
    obtain ⟨fs, v19, hh, hk, H⟩ := H
    refine J_get dX7_copyFrom_80 fX7_24 hh hk ?_
    clear hh hk
    refine J_iload_n dX7_copyFrom_83 2 rfl ?_
    obtain ⟨nn, ff, hh, hk, H⟩ := H
    refine J_zald dX7_copyFrom_84 hh hk ?_
    generalize ff (Int32.toNatClampNeg i2) = v20 at H ⊢
    clear hh hk ff
    obtain ⟨hb, H⟩ := H
    obtain ⟨nn, ff, hh, hk, H⟩ := H
    refine J_zast dX7_copyFrom_85 hh hk (by rcases hb with e | e <;> rw [e] <;> rfl) ?_
    generalize List.set h17 v18 (am_I 2 nn (upd ff (Int32.toNatClampNeg i2) v20)) = h21 at H ⊢
    clear hh hk
    refine J_iinc (v := (i2 + 1)) (L' := [(2, .int (i2 + 1)), (0, .ref a0), (1, .ref a1)]) dX7_copyFrom_86 2 rfl rfl (by decide) rfl ?_
    refine J_goto (tgt := 18) dX7_copyFrom_89 (by decide) ?_
    exact J_pick [1, 2, 0] rfl H
def zX7_copyFrom_0 (l : Launch) (g : am_G) (d : Nat) (x : Bool) (a0 : Nat) (a1 : Nat) (h : am_H) (Q : Option Value → am_H → Prop) : Prop := gt_I h a1 7 5 (fun v1 => pt_V h a0 7 5 (.int v1) (fun h2 => gt_I h2 a1 7 6 (fun v3 => pt_V h2 a0 7 6 (.int v3) (fun h4 => am_J l g mX7_copyFrom d (0, 0, x) 18 [(0, .ref a0), (1, .ref a1), (2, .int 0)] [] h4 Q))))
set_option maxRecDepth 4000 in
theorem rX7_copyFrom_0 {l : Launch} {g : am_G} {d : Nat} {x : Bool} {a0 : Nat} {a1 : Nat} {h : am_H} {Q : Option Value → am_H → Prop} (H : zX7_copyFrom_0 l g d x a0 a1 h Q) : am_J l g mX7_copyFrom d (0, 0, x) 0 [(0, .ref a0), (1, .ref a1)] [] h Q := by
  unfold zX7_copyFrom_0 at H
  refine J_aload_n dX7_copyFrom_0 0 rfl ?_
  refine J_aload_n dX7_copyFrom_1 1 rfl ?_
  obtain ⟨fs, v1, hh, hk, H⟩ := H
  refine J_get dX7_copyFrom_2 fX7_28 hh hk ?_
  clear hh hk
  obtain ⟨fs, hh, hk, H⟩ := H
  refine J_put dX7_copyFrom_5 fX7_28 rfl rfl hh hk ?_
  generalize List.set h a0 (am_O 7 (List.set fs 5 (.int v1))) = h2 at H ⊢
  clear hh hk
  refine J_aload_n dX7_copyFrom_8 0 rfl ?_
  refine J_aload_n dX7_copyFrom_9 1 rfl ?_
  obtain ⟨fs, v3, hh, hk, H⟩ := H
  refine J_get dX7_copyFrom_10 fX7_32 hh hk ?_
  clear hh hk
  obtain ⟨fs, hh, hk, H⟩ := H
  refine J_put dX7_copyFrom_13 fX7_32 rfl rfl hh hk ?_
  generalize List.set h2 a0 (am_O 7 (List.set fs 6 (.int v3))) = h4 at H ⊢
  clear hh hk
  refine J_iconst (v := 0) dX7_copyFrom_16 (by decide) ?_
  refine J_istore_n (L' := [(2, .int 0), (0, .ref a0), (1, .ref a1)]) dX7_copyFrom_17 (by decide) rfl ?_
  exact J_pick [1, 2, 0] rfl H
theorem eX7_copyFrom {l : Launch} {g : am_G} {d : Nat} {x : Bool} {a0 : Nat} {a1 : Nat} {h : am_H} {K : am_H → Prop} (H : zX7_copyFrom_0 l g d x a0 a1 h (fun r h' => r = none ∧ K h')) : cl_N l g mX7_copyFrom d x [.ref a0, .ref a1] h K := rX7_copyFrom_0 H
def zX7_takesNewLink_42 (l : Launch) (g : am_G) (d : Nat) (x : Bool) (a0 : Nat) (i1 : Int32) (i2 : Int32) (h : am_H) (Q : Option Value → am_H → Prop) : Prop := ((i1 ≤ i2 → Q (some (.int 1)) h) ∧ (¬ i1 ≤ i2 → cv_I l g mX7_isSameToldAlike d x 7 a0 [.int i2, .int i1] h (fun v2 h1 => ((¬ v2 = 0 → Q (some (.int 0)) h1) ∧ (v2 = 0 → cv_I l g mX7_isSameToldBack d x 7 a0 [.int i2, .int i1] h1 (fun v4 h3 => ((v4 = 0 → am_J l g mX7_takesNewLink (d + 1) (0, 0, x) 42 [(0, .ref a0), (1, .int i1), (2, .int (i2 + 1))] [] h3 Q) ∧ (¬ v4 = 0 → Q (some (.int 0)) h3))))))))
set_option maxRecDepth 4000 in
theorem rX7_takesNewLink_42 {l : Launch} {g : am_G} {d : Nat} {x : Bool} {a0 : Nat} {i1 : Int32} {i2 : Int32} {h : am_H} {Q : Option Value → am_H → Prop} (H : zX7_takesNewLink_42 l g d x a0 i1 i2 h Q) : am_J l g mX7_takesNewLink (d + 1) (0, 0, x) 42 [(0, .ref a0), (1, .int i1), (2, .int i2)] [] h Q := by
  unfold zX7_takesNewLink_42 at H
  refine J_iload_n dX7_takesNewLink_42 2 rfl ?_
  refine J_iload_n dX7_takesNewLink_43 1 rfl ?_
  obtain ⟨H1, H2⟩ := H
  refine J_icmp_ge (tgt := 73) dX7_takesNewLink_44 (by decide) (fun hc => ?_) (fun hc => ?_)
  · replace H := H1 hc
    clear H1 H2
    refine J_iconst (v := 1) dX7_takesNewLink_73 (by decide) ?_
    exact J_iret dX7_takesNewLink_74 ⟨_, rfl, rfl⟩ ⟨Nat.le_of_ble_eq_true rfl, Nat.le_of_ble_eq_true rfl, fun _ => rfl⟩ H
  · replace H := H2 hc
    clear H1 H2
    refine J_aload_n dX7_takesNewLink_47 0 rfl ?_
    refine J_iload_n dX7_takesNewLink_48 2 rfl ?_
    refine J_iload_n dX7_takesNewLink_49 1 rfl ?_
    obtain ⟨⟨fs, hh⟩, H⟩ := H
    refine J_callV (As := [.int i2, .int i1]) (S := []) (b := a0) dX7_takesNewLink_50 mX7_isSameToldAlike_ok kX7_35 rfl (by decide) (Nat.le_of_ble_eq_true rfl) hh rfl rfl (Nat.le_of_ble_eq_true rfl) ⟨Nat.le_of_ble_eq_true rfl, Nat.le_of_ble_eq_true rfl⟩ (fun k h' hp => ?_) H (fun r h1 hp => ?_)
    · obtain ⟨_, hv, -⟩ := hp; cases hv
    obtain ⟨v2, rfl, H⟩ := hp
    show am_J l g mX7_takesNewLink (d + 1) (0, 0, x) 53 [(0, .ref a0), (1, .int i1), (2, .int i2)] [.int v2] h1 Q
    obtain ⟨H1, H2⟩ := H
    refine J_if_ne (tgt := 65) dX7_takesNewLink_53 (by decide) (fun hc => ?_) (fun hc => ?_)
    · replace H := H1 hc
      clear H1 H2
      refine J_iconst (v := 0) dX7_takesNewLink_65 (by decide) ?_
      exact J_iret dX7_takesNewLink_66 ⟨_, rfl, rfl⟩ ⟨Nat.le_of_ble_eq_true rfl, Nat.le_of_ble_eq_true rfl, fun _ => rfl⟩ H
    · replace H := H2 hc
      clear H1 H2
      refine J_aload_n dX7_takesNewLink_56 0 rfl ?_
      refine J_iload_n dX7_takesNewLink_57 2 rfl ?_
      refine J_iload_n dX7_takesNewLink_58 1 rfl ?_
      obtain ⟨⟨fs, hh⟩, H⟩ := H
      refine J_callV (As := [.int i2, .int i1]) (S := []) (b := a0) dX7_takesNewLink_59 mX7_isSameToldBack_ok kX7_39 rfl (by decide) (Nat.le_of_ble_eq_true rfl) hh rfl rfl (Nat.le_of_ble_eq_true rfl) ⟨Nat.le_of_ble_eq_true rfl, Nat.le_of_ble_eq_true rfl⟩ (fun k h' hp => ?_) H (fun r h3 hp => ?_)
      · obtain ⟨_, hv, -⟩ := hp; cases hv
      obtain ⟨v4, rfl, H⟩ := hp
      show am_J l g mX7_takesNewLink (d + 1) (0, 0, x) 62 [(0, .ref a0), (1, .int i1), (2, .int i2)] [.int v4] h3 Q
      obtain ⟨H1, H2⟩ := H
      refine J_if_eq (tgt := 67) dX7_takesNewLink_62 (by decide) (fun hc => ?_) (fun hc => ?_)
      · replace H := H1 hc
        clear H1 H2
        refine J_iinc (v := (i2 + 1)) (L' := [(2, .int (i2 + 1)), (0, .ref a0), (1, .int i1)]) dX7_takesNewLink_67 2 rfl rfl (by decide) rfl ?_
        refine J_goto (tgt := 42) dX7_takesNewLink_70 (by decide) ?_
        exact J_pick [1, 2, 0] rfl H
      · replace H := H2 hc
        clear H1 H2
        refine J_iconst (v := 0) dX7_takesNewLink_65 (by decide) ?_
        exact J_iret dX7_takesNewLink_66 ⟨_, rfl, rfl⟩ ⟨Nat.le_of_ble_eq_true rfl, Nat.le_of_ble_eq_true rfl, fun _ => rfl⟩ H
def zX7_takesNewLink_40 (l : Launch) (g : am_G) (d : Nat) (x : Bool) (a0 : Nat) (i1 : Int32) (h : am_H) (Q : Option Value → am_H → Prop) : Prop := am_J l g mX7_takesNewLink (d + 1) (0, 0, x) 42 [(0, .ref a0), (1, .int i1), (2, .int 0)] [] h Q
set_option maxRecDepth 4000 in
theorem rX7_takesNewLink_40 {l : Launch} {g : am_G} {d : Nat} {x : Bool} {a0 : Nat} {i1 : Int32} {h : am_H} {Q : Option Value → am_H → Prop} (H : zX7_takesNewLink_40 l g d x a0 i1 h Q) : am_J l g mX7_takesNewLink (d + 1) (0, 0, x) 40 [(0, .ref a0), (1, .int i1)] [] h Q := by
  unfold zX7_takesNewLink_40 at H
  refine J_iconst (v := 0) dX7_takesNewLink_40 (by decide) ?_
  refine J_istore_n (L' := [(2, .int 0), (0, .ref a0), (1, .int i1)]) dX7_takesNewLink_41 (by decide) rfl ?_
  exact J_pick [1, 2, 0] rfl H
def zX7_takesNewLink_0 (l : Launch) (g : am_G) (d : Nat) (x : Bool) (a0 : Nat) (h : am_H) (Q : Option Value → am_H → Prop) : Prop := gt_I h a0 7 6 (fun v1 => gt_R h a0 7 0 (fun v2 => al_I 0 h v2 v1 (fun v3 => gt_R h a0 7 1 (fun v4 => al_I 0 h v4 v1 (fun v5 => ((¬ v3 = v5 → zX7_takesNewLink_40 l g d x a0 v1  h Q) ∧ (v3 = v5 → gt_R h a0 7 2 (fun v6 => al_I 0 h v6 v1 (fun v7 => ((¬ v7 = 0 → zX7_takesNewLink_40 l g d x a0 v1  h Q) ∧ (v7 = 0 → gt_R h a0 7 3 (fun v8 => al_I 0 h v8 v1 (fun v9 => ((¬ v9 = 0 → zX7_takesNewLink_40 l g d x a0 v1  h Q) ∧ (v9 = 0 → Q (some (.int 0)) h)))))))))))))))
set_option maxRecDepth 4000 in
theorem rX7_takesNewLink_0 {l : Launch} {g : am_G} {d : Nat} {x : Bool} {a0 : Nat} {h : am_H} {Q : Option Value → am_H → Prop} (H : zX7_takesNewLink_0 l g d x a0 h Q) : am_J l g mX7_takesNewLink (d + 1) (0, 0, x) 0 [(0, .ref a0)] [] h Q := by
  unfold zX7_takesNewLink_0 at H
  refine J_aload_n dX7_takesNewLink_0 0 rfl ?_
  obtain ⟨fs, v1, hh, hk, H⟩ := H
  refine J_get dX7_takesNewLink_1 fX7_32 hh hk ?_
  clear hh hk
  refine J_istore_n (L' := [(1, .int v1), (0, .ref a0)]) dX7_takesNewLink_4 (by decide) rfl ?_
  refine J_aload_n dX7_takesNewLink_5 1 rfl ?_
  obtain ⟨fs, v2, hh, hk, H⟩ := H
  refine J_get dX7_takesNewLink_6 fX7_9 hh hk ?_
  clear hh hk
  refine J_iload_n dX7_takesNewLink_9 0 rfl ?_
  obtain ⟨nn, ff, hh, hk, H⟩ := H
  refine J_iald dX7_takesNewLink_10 hh hk ?_
  generalize ff (Int32.toNatClampNeg v1) = v3 at H ⊢
  clear hh hk ff
  refine J_aload_n dX7_takesNewLink_11 1 rfl ?_
  obtain ⟨fs, v4, hh, hk, H⟩ := H
  refine J_get dX7_takesNewLink_12 fX7_15 hh hk ?_
  clear hh hk
  refine J_iload_n dX7_takesNewLink_15 0 rfl ?_
  obtain ⟨nn, ff, hh, hk, H⟩ := H
  refine J_iald dX7_takesNewLink_16 hh hk ?_
  generalize ff (Int32.toNatClampNeg v1) = v5 at H ⊢
  clear hh hk ff
  obtain ⟨H1, H2⟩ := H
  refine J_icmp_ne (tgt := 40) dX7_takesNewLink_17 (by decide) (fun hc => ?_) (fun hc => ?_)
  · replace H := H1 hc
    clear H1 H2
    exact J_pick [1, 0] rfl (rX7_takesNewLink_40 H)
  · replace H := H2 hc
    clear H1 H2
    refine J_aload_n dX7_takesNewLink_20 1 rfl ?_
    obtain ⟨fs, v6, hh, hk, H⟩ := H
    refine J_get dX7_takesNewLink_21 fX7_18 hh hk ?_
    clear hh hk
    refine J_iload_n dX7_takesNewLink_24 0 rfl ?_
    obtain ⟨nn, ff, hh, hk, H⟩ := H
    refine J_iald dX7_takesNewLink_25 hh hk ?_
    generalize ff (Int32.toNatClampNeg v1) = v7 at H ⊢
    clear hh hk ff
    obtain ⟨H1, H2⟩ := H
    refine J_if_ne (tgt := 40) dX7_takesNewLink_26 (by decide) (fun hc => ?_) (fun hc => ?_)
    · replace H := H1 hc
      clear H1 H2
      exact J_pick [1, 0] rfl (rX7_takesNewLink_40 H)
    · replace H := H2 hc
      clear H1 H2
      refine J_aload_n dX7_takesNewLink_29 1 rfl ?_
      obtain ⟨fs, v8, hh, hk, H⟩ := H
      refine J_get dX7_takesNewLink_30 fX7_21 hh hk ?_
      clear hh hk
      refine J_iload_n dX7_takesNewLink_33 0 rfl ?_
      obtain ⟨nn, ff, hh, hk, H⟩ := H
      refine J_iald dX7_takesNewLink_34 hh hk ?_
      generalize ff (Int32.toNatClampNeg v1) = v9 at H ⊢
      clear hh hk ff
      obtain ⟨H1, H2⟩ := H
      refine J_if_ne (tgt := 40) dX7_takesNewLink_35 (by decide) (fun hc => ?_) (fun hc => ?_)
      · replace H := H1 hc
        clear H1 H2
        exact J_pick [1, 0] rfl (rX7_takesNewLink_40 H)
      · replace H := H2 hc
        clear H1 H2
        refine J_iconst (v := 0) dX7_takesNewLink_38 (by decide) ?_
        exact J_iret dX7_takesNewLink_39 ⟨_, rfl, rfl⟩ ⟨Nat.le_of_ble_eq_true rfl, Nat.le_of_ble_eq_true rfl, fun _ => rfl⟩ H
theorem eX7_takesNewLink {l : Launch} {g : am_G} {d : Nat} {x : Bool} {a0 : Nat} {h : am_H} {K : Int32 → am_H → Prop} (H : zX7_takesNewLink_0 l g d x a0 h (fun r h' => ∃ v, r = some (.int v) ∧ K v h')) : cl_I l g mX7_takesNewLink (d + 1) x [.ref a0] h K := rX7_takesNewLink_0 H
def zX7_isSameToldAlike_0 (l : Launch) (g : am_G) (d : Nat) (x : Bool) (a0 : Nat) (i1 : Int32) (i2 : Int32) (h : am_H) (Q : Option Value → am_H → Prop) : Prop := gt_R h a0 7 0 (fun v1 => al_I 0 h v1 i1 (fun v2 => gt_R h a0 7 0 (fun v3 => al_I 0 h v3 i2 (fun v4 => ((¬ v2 = v4 → Q (some (.int 0)) h) ∧ (v2 = v4 → gt_R h a0 7 1 (fun v5 => al_I 0 h v5 i1 (fun v6 => gt_R h a0 7 1 (fun v7 => al_I 0 h v7 i2 (fun v8 => ((¬ v6 = v8 → Q (some (.int 0)) h) ∧ (v6 = v8 → gt_R h a0 7 2 (fun v9 => al_I 0 h v9 i1 (fun v10 => gt_R h a0 7 2 (fun v11 => al_I 0 h v11 i2 (fun v12 => ((¬ v10 = v12 → Q (some (.int 0)) h) ∧ (v10 = v12 → gt_R h a0 7 3 (fun v13 => al_I 0 h v13 i1 (fun v14 => gt_R h a0 7 3 (fun v15 => al_I 0 h v15 i2 (fun v16 => ((¬ v14 = v16 → Q (some (.int 0)) h) ∧ (v14 = v16 → Q (some (.int 1)) h))))))))))))))))))))))))
set_option maxRecDepth 4000 in
theorem rX7_isSameToldAlike_0 {l : Launch} {g : am_G} {d : Nat} {x : Bool} {a0 : Nat} {i1 : Int32} {i2 : Int32} {h : am_H} {Q : Option Value → am_H → Prop} (H : zX7_isSameToldAlike_0 l g d x a0 i1 i2 h Q) : am_J l g mX7_isSameToldAlike d (0, 0, x) 0 [(0, .ref a0), (1, .int i1), (2, .int i2)] [] h Q := by
  unfold zX7_isSameToldAlike_0 at H
  refine J_aload_n dX7_isSameToldAlike_0 0 rfl ?_
  obtain ⟨fs, v1, hh, hk, H⟩ := H
  refine J_get dX7_isSameToldAlike_1 fX7_9 hh hk ?_
  clear hh hk
  refine J_iload_n dX7_isSameToldAlike_4 1 rfl ?_
  obtain ⟨nn, ff, hh, hk, H⟩ := H
  refine J_iald dX7_isSameToldAlike_5 hh hk ?_
  generalize ff (Int32.toNatClampNeg i1) = v2 at H ⊢
  clear hh hk ff
  refine J_aload_n dX7_isSameToldAlike_6 0 rfl ?_
  obtain ⟨fs, v3, hh, hk, H⟩ := H
  refine J_get dX7_isSameToldAlike_7 fX7_9 hh hk ?_
  clear hh hk
  refine J_iload_n dX7_isSameToldAlike_10 2 rfl ?_
  obtain ⟨nn, ff, hh, hk, H⟩ := H
  refine J_iald dX7_isSameToldAlike_11 hh hk ?_
  generalize ff (Int32.toNatClampNeg i2) = v4 at H ⊢
  clear hh hk ff
  obtain ⟨H1, H2⟩ := H
  refine J_icmp_ne (tgt := 64) dX7_isSameToldAlike_12 (by decide) (fun hc => ?_) (fun hc => ?_)
  · replace H := H1 hc
    clear H1 H2
    refine J_iconst (v := 0) dX7_isSameToldAlike_64 (by decide) ?_
    exact J_iret dX7_isSameToldAlike_65 ⟨_, rfl, rfl⟩ ⟨Nat.le_of_ble_eq_true rfl, Nat.le_of_ble_eq_true rfl, fun _ => rfl⟩ H
  · replace H := H2 hc
    clear H1 H2
    refine J_aload_n dX7_isSameToldAlike_15 0 rfl ?_
    obtain ⟨fs, v5, hh, hk, H⟩ := H
    refine J_get dX7_isSameToldAlike_16 fX7_15 hh hk ?_
    clear hh hk
    refine J_iload_n dX7_isSameToldAlike_19 1 rfl ?_
    obtain ⟨nn, ff, hh, hk, H⟩ := H
    refine J_iald dX7_isSameToldAlike_20 hh hk ?_
    generalize ff (Int32.toNatClampNeg i1) = v6 at H ⊢
    clear hh hk ff
    refine J_aload_n dX7_isSameToldAlike_21 0 rfl ?_
    obtain ⟨fs, v7, hh, hk, H⟩ := H
    refine J_get dX7_isSameToldAlike_22 fX7_15 hh hk ?_
    clear hh hk
    refine J_iload_n dX7_isSameToldAlike_25 2 rfl ?_
    obtain ⟨nn, ff, hh, hk, H⟩ := H
    refine J_iald dX7_isSameToldAlike_26 hh hk ?_
    generalize ff (Int32.toNatClampNeg i2) = v8 at H ⊢
    clear hh hk ff
    obtain ⟨H1, H2⟩ := H
    refine J_icmp_ne (tgt := 64) dX7_isSameToldAlike_27 (by decide) (fun hc => ?_) (fun hc => ?_)
    · replace H := H1 hc
      clear H1 H2
      refine J_iconst (v := 0) dX7_isSameToldAlike_64 (by decide) ?_
      exact J_iret dX7_isSameToldAlike_65 ⟨_, rfl, rfl⟩ ⟨Nat.le_of_ble_eq_true rfl, Nat.le_of_ble_eq_true rfl, fun _ => rfl⟩ H
    · replace H := H2 hc
      clear H1 H2
      refine J_aload_n dX7_isSameToldAlike_30 0 rfl ?_
      obtain ⟨fs, v9, hh, hk, H⟩ := H
      refine J_get dX7_isSameToldAlike_31 fX7_18 hh hk ?_
      clear hh hk
      refine J_iload_n dX7_isSameToldAlike_34 1 rfl ?_
      obtain ⟨nn, ff, hh, hk, H⟩ := H
      refine J_iald dX7_isSameToldAlike_35 hh hk ?_
      generalize ff (Int32.toNatClampNeg i1) = v10 at H ⊢
      clear hh hk ff
      refine J_aload_n dX7_isSameToldAlike_36 0 rfl ?_
      obtain ⟨fs, v11, hh, hk, H⟩ := H
      refine J_get dX7_isSameToldAlike_37 fX7_18 hh hk ?_
      clear hh hk
      refine J_iload_n dX7_isSameToldAlike_40 2 rfl ?_
      obtain ⟨nn, ff, hh, hk, H⟩ := H
      refine J_iald dX7_isSameToldAlike_41 hh hk ?_
      generalize ff (Int32.toNatClampNeg i2) = v12 at H ⊢
      clear hh hk ff
      obtain ⟨H1, H2⟩ := H
      refine J_icmp_ne (tgt := 64) dX7_isSameToldAlike_42 (by decide) (fun hc => ?_) (fun hc => ?_)
      · replace H := H1 hc
        clear H1 H2
        refine J_iconst (v := 0) dX7_isSameToldAlike_64 (by decide) ?_
        exact J_iret dX7_isSameToldAlike_65 ⟨_, rfl, rfl⟩ ⟨Nat.le_of_ble_eq_true rfl, Nat.le_of_ble_eq_true rfl, fun _ => rfl⟩ H
      · replace H := H2 hc
        clear H1 H2
        refine J_aload_n dX7_isSameToldAlike_45 0 rfl ?_
        obtain ⟨fs, v13, hh, hk, H⟩ := H
        refine J_get dX7_isSameToldAlike_46 fX7_21 hh hk ?_
        clear hh hk
        refine J_iload_n dX7_isSameToldAlike_49 1 rfl ?_
        obtain ⟨nn, ff, hh, hk, H⟩ := H
        refine J_iald dX7_isSameToldAlike_50 hh hk ?_
        generalize ff (Int32.toNatClampNeg i1) = v14 at H ⊢
        clear hh hk ff
        refine J_aload_n dX7_isSameToldAlike_51 0 rfl ?_
        obtain ⟨fs, v15, hh, hk, H⟩ := H
        refine J_get dX7_isSameToldAlike_52 fX7_21 hh hk ?_
        clear hh hk
        refine J_iload_n dX7_isSameToldAlike_55 2 rfl ?_
        obtain ⟨nn, ff, hh, hk, H⟩ := H
        refine J_iald dX7_isSameToldAlike_56 hh hk ?_
        generalize ff (Int32.toNatClampNeg i2) = v16 at H ⊢
        clear hh hk ff
        obtain ⟨H1, H2⟩ := H
        refine J_icmp_ne (tgt := 64) dX7_isSameToldAlike_57 (by decide) (fun hc => ?_) (fun hc => ?_)
        · replace H := H1 hc
          clear H1 H2
          refine J_iconst (v := 0) dX7_isSameToldAlike_64 (by decide) ?_
          exact J_iret dX7_isSameToldAlike_65 ⟨_, rfl, rfl⟩ ⟨Nat.le_of_ble_eq_true rfl, Nat.le_of_ble_eq_true rfl, fun _ => rfl⟩ H
        · replace H := H2 hc
          clear H1 H2
          refine J_iconst (v := 1) dX7_isSameToldAlike_60 (by decide) ?_
          refine J_goto (tgt := 65) dX7_isSameToldAlike_61 (by decide) ?_
          exact J_iret dX7_isSameToldAlike_65 ⟨_, rfl, rfl⟩ ⟨Nat.le_of_ble_eq_true rfl, Nat.le_of_ble_eq_true rfl, fun _ => rfl⟩ H
theorem eX7_isSameToldAlike {l : Launch} {g : am_G} {d : Nat} {x : Bool} {a0 : Nat} {i1 : Int32} {i2 : Int32} {h : am_H} {K : Int32 → am_H → Prop} (H : zX7_isSameToldAlike_0 l g d x a0 i1 i2 h (fun r h' => ∃ v, r = some (.int v) ∧ K v h')) : cl_I l g mX7_isSameToldAlike d x [.ref a0, .int i1, .int i2] h K := rX7_isSameToldAlike_0 H
def zX7_isSameToldBack_0 (l : Launch) (g : am_G) (d : Nat) (x : Bool) (a0 : Nat) (i1 : Int32) (i2 : Int32) (h : am_H) (Q : Option Value → am_H → Prop) : Prop := gt_R h a0 7 0 (fun v1 => al_I 0 h v1 i1 (fun v2 => gt_R h a0 7 1 (fun v3 => al_I 0 h v3 i2 (fun v4 => ((¬ v2 = v4 → Q (some (.int 0)) h) ∧ (v2 = v4 → gt_R h a0 7 1 (fun v5 => al_I 0 h v5 i1 (fun v6 => gt_R h a0 7 0 (fun v7 => al_I 0 h v7 i2 (fun v8 => ((¬ v6 = v8 → Q (some (.int 0)) h) ∧ (v6 = v8 → gt_R h a0 7 2 (fun v9 => al_I 0 h v9 i1 (fun v10 => gt_R h a0 7 2 (fun v11 => al_I 0 h v11 i2 (fun v12 => ((¬ v10 = (-v12) → Q (some (.int 0)) h) ∧ (v10 = (-v12) → gt_R h a0 7 3 (fun v13 => al_I 0 h v13 i1 (fun v14 => gt_R h a0 7 3 (fun v15 => al_I 0 h v15 i2 (fun v16 => ((¬ v14 = (-v16) → Q (some (.int 0)) h) ∧ (v14 = (-v16) → Q (some (.int 1)) h))))))))))))))))))))))))
set_option maxRecDepth 4000 in
theorem rX7_isSameToldBack_0 {l : Launch} {g : am_G} {d : Nat} {x : Bool} {a0 : Nat} {i1 : Int32} {i2 : Int32} {h : am_H} {Q : Option Value → am_H → Prop} (H : zX7_isSameToldBack_0 l g d x a0 i1 i2 h Q) : am_J l g mX7_isSameToldBack d (0, 0, x) 0 [(0, .ref a0), (1, .int i1), (2, .int i2)] [] h Q := by
  unfold zX7_isSameToldBack_0 at H
  refine J_aload_n dX7_isSameToldBack_0 0 rfl ?_
  obtain ⟨fs, v1, hh, hk, H⟩ := H
  refine J_get dX7_isSameToldBack_1 fX7_9 hh hk ?_
  clear hh hk
  refine J_iload_n dX7_isSameToldBack_4 1 rfl ?_
  obtain ⟨nn, ff, hh, hk, H⟩ := H
  refine J_iald dX7_isSameToldBack_5 hh hk ?_
  generalize ff (Int32.toNatClampNeg i1) = v2 at H ⊢
  clear hh hk ff
  refine J_aload_n dX7_isSameToldBack_6 0 rfl ?_
  obtain ⟨fs, v3, hh, hk, H⟩ := H
  refine J_get dX7_isSameToldBack_7 fX7_15 hh hk ?_
  clear hh hk
  refine J_iload_n dX7_isSameToldBack_10 2 rfl ?_
  obtain ⟨nn, ff, hh, hk, H⟩ := H
  refine J_iald dX7_isSameToldBack_11 hh hk ?_
  generalize ff (Int32.toNatClampNeg i2) = v4 at H ⊢
  clear hh hk ff
  obtain ⟨H1, H2⟩ := H
  refine J_icmp_ne (tgt := 66) dX7_isSameToldBack_12 (by decide) (fun hc => ?_) (fun hc => ?_)
  · replace H := H1 hc
    clear H1 H2
    refine J_iconst (v := 0) dX7_isSameToldBack_66 (by decide) ?_
    exact J_iret dX7_isSameToldBack_67 ⟨_, rfl, rfl⟩ ⟨Nat.le_of_ble_eq_true rfl, Nat.le_of_ble_eq_true rfl, fun _ => rfl⟩ H
  · replace H := H2 hc
    clear H1 H2
    refine J_aload_n dX7_isSameToldBack_15 0 rfl ?_
    obtain ⟨fs, v5, hh, hk, H⟩ := H
    refine J_get dX7_isSameToldBack_16 fX7_15 hh hk ?_
    clear hh hk
    refine J_iload_n dX7_isSameToldBack_19 1 rfl ?_
    obtain ⟨nn, ff, hh, hk, H⟩ := H
    refine J_iald dX7_isSameToldBack_20 hh hk ?_
    generalize ff (Int32.toNatClampNeg i1) = v6 at H ⊢
    clear hh hk ff
    refine J_aload_n dX7_isSameToldBack_21 0 rfl ?_
    obtain ⟨fs, v7, hh, hk, H⟩ := H
    refine J_get dX7_isSameToldBack_22 fX7_9 hh hk ?_
    clear hh hk
    refine J_iload_n dX7_isSameToldBack_25 2 rfl ?_
    obtain ⟨nn, ff, hh, hk, H⟩ := H
    refine J_iald dX7_isSameToldBack_26 hh hk ?_
    generalize ff (Int32.toNatClampNeg i2) = v8 at H ⊢
    clear hh hk ff
    obtain ⟨H1, H2⟩ := H
    refine J_icmp_ne (tgt := 66) dX7_isSameToldBack_27 (by decide) (fun hc => ?_) (fun hc => ?_)
    · replace H := H1 hc
      clear H1 H2
      refine J_iconst (v := 0) dX7_isSameToldBack_66 (by decide) ?_
      exact J_iret dX7_isSameToldBack_67 ⟨_, rfl, rfl⟩ ⟨Nat.le_of_ble_eq_true rfl, Nat.le_of_ble_eq_true rfl, fun _ => rfl⟩ H
    · replace H := H2 hc
      clear H1 H2
      refine J_aload_n dX7_isSameToldBack_30 0 rfl ?_
      obtain ⟨fs, v9, hh, hk, H⟩ := H
      refine J_get dX7_isSameToldBack_31 fX7_18 hh hk ?_
      clear hh hk
      refine J_iload_n dX7_isSameToldBack_34 1 rfl ?_
      obtain ⟨nn, ff, hh, hk, H⟩ := H
      refine J_iald dX7_isSameToldBack_35 hh hk ?_
      generalize ff (Int32.toNatClampNeg i1) = v10 at H ⊢
      clear hh hk ff
      refine J_aload_n dX7_isSameToldBack_36 0 rfl ?_
      obtain ⟨fs, v11, hh, hk, H⟩ := H
      refine J_get dX7_isSameToldBack_37 fX7_18 hh hk ?_
      clear hh hk
      refine J_iload_n dX7_isSameToldBack_40 2 rfl ?_
      obtain ⟨nn, ff, hh, hk, H⟩ := H
      refine J_iald dX7_isSameToldBack_41 hh hk ?_
      generalize ff (Int32.toNatClampNeg i2) = v12 at H ⊢
      clear hh hk ff
      refine J_ineg dX7_isSameToldBack_42 ?_
      obtain ⟨H1, H2⟩ := H
      refine J_icmp_ne (tgt := 66) dX7_isSameToldBack_43 (by decide) (fun hc => ?_) (fun hc => ?_)
      · replace H := H1 hc
        clear H1 H2
        refine J_iconst (v := 0) dX7_isSameToldBack_66 (by decide) ?_
        exact J_iret dX7_isSameToldBack_67 ⟨_, rfl, rfl⟩ ⟨Nat.le_of_ble_eq_true rfl, Nat.le_of_ble_eq_true rfl, fun _ => rfl⟩ H
      · replace H := H2 hc
        clear H1 H2
        refine J_aload_n dX7_isSameToldBack_46 0 rfl ?_
        obtain ⟨fs, v13, hh, hk, H⟩ := H
        refine J_get dX7_isSameToldBack_47 fX7_21 hh hk ?_
        clear hh hk
        refine J_iload_n dX7_isSameToldBack_50 1 rfl ?_
        obtain ⟨nn, ff, hh, hk, H⟩ := H
        refine J_iald dX7_isSameToldBack_51 hh hk ?_
        generalize ff (Int32.toNatClampNeg i1) = v14 at H ⊢
        clear hh hk ff
        refine J_aload_n dX7_isSameToldBack_52 0 rfl ?_
        obtain ⟨fs, v15, hh, hk, H⟩ := H
        refine J_get dX7_isSameToldBack_53 fX7_21 hh hk ?_
        clear hh hk
        refine J_iload_n dX7_isSameToldBack_56 2 rfl ?_
        obtain ⟨nn, ff, hh, hk, H⟩ := H
        refine J_iald dX7_isSameToldBack_57 hh hk ?_
        generalize ff (Int32.toNatClampNeg i2) = v16 at H ⊢
        clear hh hk ff
        refine J_ineg dX7_isSameToldBack_58 ?_
        obtain ⟨H1, H2⟩ := H
        refine J_icmp_ne (tgt := 66) dX7_isSameToldBack_59 (by decide) (fun hc => ?_) (fun hc => ?_)
        · replace H := H1 hc
          clear H1 H2
          refine J_iconst (v := 0) dX7_isSameToldBack_66 (by decide) ?_
          exact J_iret dX7_isSameToldBack_67 ⟨_, rfl, rfl⟩ ⟨Nat.le_of_ble_eq_true rfl, Nat.le_of_ble_eq_true rfl, fun _ => rfl⟩ H
        · replace H := H2 hc
          clear H1 H2
          refine J_iconst (v := 1) dX7_isSameToldBack_62 (by decide) ?_
          refine J_goto (tgt := 67) dX7_isSameToldBack_63 (by decide) ?_
          exact J_iret dX7_isSameToldBack_67 ⟨_, rfl, rfl⟩ ⟨Nat.le_of_ble_eq_true rfl, Nat.le_of_ble_eq_true rfl, fun _ => rfl⟩ H
theorem eX7_isSameToldBack {l : Launch} {g : am_G} {d : Nat} {x : Bool} {a0 : Nat} {i1 : Int32} {i2 : Int32} {h : am_H} {K : Int32 → am_H → Prop} (H : zX7_isSameToldBack_0 l g d x a0 i1 i2 h (fun r h' => ∃ v, r = some (.int v) ∧ K v h')) : cl_I l g mX7_isSameToldBack d x [.ref a0, .int i1, .int i2] h K := rX7_isSameToldBack_0 H
