def zX2_init300_0 (l : Launch) (g : am_G) (d : Nat) (a0 : Nat) (h : am_H) (Q : Option Value → am_H → Prop) : Prop := pt_V (h ++ [am_L 1500 (fun _ => 0)]) a0 2 0 (.ref ((h).length)) (fun h1 => Q none h1)
set_option maxRecDepth 4000 in
theorem rX2_init300_0 {l : Launch} {g : am_G} {d : Nat} {a0 : Nat} {h : am_H} {Q : Option Value → am_H → Prop} (H : zX2_init300_0 l g d a0 h Q) : am_J l g mX2_init300 (d + 1) (0, 0, true) 0 [(0, .ref a0), (1, .int 300)] [] h Q := by
  unfold zX2_init300_0 at H
  refine J_aload_n dX2_init_0 0 rfl ?_
  refine J_objInit dX2_init_1 kX2_3 (Nat.le_of_ble_eq_true rfl) ?_
  refine J_aload_n dX2_init_4 0 rfl ?_
  refine J_iload_n dX2_init_5 1 rfl ?_
  refine J_iconst (v := 5) dX2_init_6 (by decide) ?_
  refine J_imul dX2_init_7 ?_
  refine J_newaL (N' := 1500) dX2_init_8 rfl aw_long (by decide +kernel) (by decide +kernel) (by decide +kernel) ⟨by decide +kernel, by decide +kernel⟩ ?_
  show am_J l g mX2_init300 (d + 1) (1, 1500, true) 10 [(0, .ref a0), (1, .int 300)] [.ref ((h).length), .ref a0] (h ++ [am_L 1500 (fun _ => 0)]) Q
  obtain ⟨fs, hh, hk, H⟩ := H
  refine J_putF dX2_init_10 fX2_11 rfl rfl rfl rfl hh hk ?_
  generalize List.set (h ++ [am_L 1500 (fun _ => 0)]) a0 (am_O 2 (List.set fs 0 (.ref ((h).length)))) = h1 at H ⊢
  clear hh hk
  exact J_vret dX2_init_13 rfl ⟨by decide +kernel, by decide +kernel, fun _ => by decide +kernel⟩ H
theorem eX2_init300 {l : Launch} {g : am_G} {d : Nat} {a0 : Nat} {h : am_H} {K : am_H → Prop} (H : zX2_init300_0 l g d a0 h (fun r h' => r = none ∧ K h')) : cl_N l g mX2_init300 (d + 1) true [.ref a0, .int 300] h K := rX2_init300_0 H
def zX2_init4_0 (l : Launch) (g : am_G) (d : Nat) (a0 : Nat) (h : am_H) (Q : Option Value → am_H → Prop) : Prop := pt_V (h ++ [am_L 20 (fun _ => 0)]) a0 2 0 (.ref ((h).length)) (fun h1 => Q none h1)
set_option maxRecDepth 4000 in
theorem rX2_init4_0 {l : Launch} {g : am_G} {d : Nat} {a0 : Nat} {h : am_H} {Q : Option Value → am_H → Prop} (H : zX2_init4_0 l g d a0 h Q) : am_J l g mX2_init4 (d + 1) (0, 0, true) 0 [(0, .ref a0), (1, .int 4)] [] h Q := by
  unfold zX2_init4_0 at H
  refine J_aload_n dX2_init_0 0 rfl ?_
  refine J_objInit dX2_init_1 kX2_3 (Nat.le_of_ble_eq_true rfl) ?_
  refine J_aload_n dX2_init_4 0 rfl ?_
  refine J_iload_n dX2_init_5 1 rfl ?_
  refine J_iconst (v := 5) dX2_init_6 (by decide) ?_
  refine J_imul dX2_init_7 ?_
  refine J_newaL (N' := 20) dX2_init_8 rfl aw_long (by decide +kernel) (by decide +kernel) (by decide +kernel) ⟨by decide +kernel, by decide +kernel⟩ ?_
  show am_J l g mX2_init4 (d + 1) (1, 20, true) 10 [(0, .ref a0), (1, .int 4)] [.ref ((h).length), .ref a0] (h ++ [am_L 20 (fun _ => 0)]) Q
  obtain ⟨fs, hh, hk, H⟩ := H
  refine J_putF dX2_init_10 fX2_11 rfl rfl rfl rfl hh hk ?_
  generalize List.set (h ++ [am_L 20 (fun _ => 0)]) a0 (am_O 2 (List.set fs 0 (.ref ((h).length)))) = h1 at H ⊢
  clear hh hk
  exact J_vret dX2_init_13 rfl ⟨by decide +kernel, by decide +kernel, fun _ => by decide +kernel⟩ H
theorem eX2_init4 {l : Launch} {g : am_G} {d : Nat} {a0 : Nat} {h : am_H} {K : am_H → Prop} (H : zX2_init4_0 l g d a0 h (fun r h' => r = none ∧ K h')) : cl_N l g mX2_init4 (d + 1) true [.ref a0, .int 4] h K := rX2_init4_0 H
def zX2_has_0 (l : Launch) (g : am_G) (d : Nat) (x : Bool) (a0 : Nat) (i1 : Int32) (i2 : Int32) (h : am_H) (Q : Option Value → am_H → Prop) : Prop := gt_R h a0 2 0 (fun v1 => al_L h v1 ((i1 * 5) + ((i2 : Int32) >>> ((6 : Int32) &&& (31 : Int32)))) (fun v2 => (((lg_cmp (((Int64.toUInt64 v2 >>> (Int64.toUInt64 (Int32.toInt64 (i2 &&& 63)) &&& Int64.toUInt64 63)).toInt64) &&& 1) 0) = 0 → Q (some (.int 0)) h) ∧ (¬ (lg_cmp (((Int64.toUInt64 v2 >>> (Int64.toUInt64 (Int32.toInt64 (i2 &&& 63)) &&& Int64.toUInt64 63)).toInt64) &&& 1) 0) = 0 → Q (some (.int 1)) h))))
set_option maxRecDepth 4000 in
theorem rX2_has_0 {l : Launch} {g : am_G} {d : Nat} {x : Bool} {a0 : Nat} {i1 : Int32} {i2 : Int32} {h : am_H} {Q : Option Value → am_H → Prop} (H : zX2_has_0 l g d x a0 i1 i2 h Q) : am_J l g mX2_has d (0, 0, x) 0 [(0, .ref a0), (1, .int i1), (2, .int i2)] [] h Q := by
  unfold zX2_has_0 at H
  refine J_aload_n dX2_has_0 0 rfl ?_
  obtain ⟨fs, v1, hh, hk, H⟩ := H
  refine J_get dX2_has_1 fX2_11 hh hk ?_
  clear hh hk
  refine J_iload_n dX2_has_4 1 rfl ?_
  refine J_iconst (v := 5) dX2_has_5 (by decide) ?_
  refine J_imul dX2_has_6 ?_
  refine J_iload_n dX2_has_7 2 rfl ?_
  refine J_bipush (v := 6) dX2_has_8 (by decide) ?_
  refine J_ishr dX2_has_10 ?_
  refine J_iadd dX2_has_11 ?_
  obtain ⟨nn, ff, hh, hk, H⟩ := H
  refine J_lald dX2_has_12 hh hk ?_
  generalize ff (Int32.toNatClampNeg ((i1 * 5) + ((i2 : Int32) >>> ((6 : Int32) &&& (31 : Int32))))) = v2 at H ⊢
  clear hh hk ff
  refine J_iload_n dX2_has_13 2 rfl ?_
  refine J_bipush (v := 63) dX2_has_14 (by decide) ?_
  refine J_iand dX2_has_16 ?_
  refine J_lushr dX2_has_17 ?_
  refine J_lconst (v := 1) dX2_has_18 (by decide) ?_
  refine J_land dX2_has_19 ?_
  refine J_lconst (v := 0) dX2_has_20 (by decide) ?_
  refine J_lcmp dX2_has_21 ?_
  obtain ⟨H1, H2⟩ := H
  refine J_if_eq (tgt := 29) dX2_has_22 (by decide) (fun hc => ?_) (fun hc => ?_)
  · replace H := H1 hc
    clear H1 H2
    refine J_iconst (v := 0) dX2_has_29 (by decide) ?_
    exact J_iret dX2_has_30 ⟨_, rfl, rfl⟩ ⟨Nat.le_of_ble_eq_true rfl, Nat.le_of_ble_eq_true rfl, fun _ => rfl⟩ H
  · replace H := H2 hc
    clear H1 H2
    refine J_iconst (v := 1) dX2_has_25 (by decide) ?_
    refine J_goto (tgt := 30) dX2_has_26 (by decide) ?_
    exact J_iret dX2_has_30 ⟨_, rfl, rfl⟩ ⟨Nat.le_of_ble_eq_true rfl, Nat.le_of_ble_eq_true rfl, fun _ => rfl⟩ H
theorem eX2_has {l : Launch} {g : am_G} {d : Nat} {x : Bool} {a0 : Nat} {i1 : Int32} {i2 : Int32} {h : am_H} {K : Int32 → am_H → Prop} (H : zX2_has_0 l g d x a0 i1 i2 h (fun r h' => ∃ v, r = some (.int v) ∧ K v h')) : cl_I l g mX2_has d x [.ref a0, .int i1, .int i2] h K := rX2_has_0 H
def zX2_put_0 (l : Launch) (g : am_G) (d : Nat) (x : Bool) (a0 : Nat) (i1 : Int32) (i2 : Int32) (h : am_H) (Q : Option Value → am_H → Prop) : Prop := gt_R h a0 2 0 (fun v1 => al_L h v1 ((i1 * 5) + ((i2 : Int32) >>> ((6 : Int32) &&& (31 : Int32)))) (fun v2 => as_L h v1 ((i1 * 5) + ((i2 : Int32) >>> ((6 : Int32) &&& (31 : Int32)))) (v2 ||| ((1 : Int64) <<< (Int32.toInt64 (i2 &&& 63) &&& (63 : Int64)))) (fun h3 => Q none h3)))
set_option maxRecDepth 4000 in
theorem rX2_put_0 {l : Launch} {g : am_G} {d : Nat} {x : Bool} {a0 : Nat} {i1 : Int32} {i2 : Int32} {h : am_H} {Q : Option Value → am_H → Prop} (H : zX2_put_0 l g d x a0 i1 i2 h Q) : am_J l g mX2_put d (0, 0, x) 0 [(0, .ref a0), (1, .int i1), (2, .int i2)] [] h Q := by
  unfold zX2_put_0 at H
  refine J_aload_n dX2_put_0 0 rfl ?_
  obtain ⟨fs, v1, hh, hk, H⟩ := H
  refine J_get dX2_put_1 fX2_11 hh hk ?_
  clear hh hk
  refine J_iload_n dX2_put_4 1 rfl ?_
  refine J_iconst (v := 5) dX2_put_5 (by decide) ?_
  refine J_imul dX2_put_6 ?_
  refine J_iload_n dX2_put_7 2 rfl ?_
  refine J_bipush (v := 6) dX2_put_8 (by decide) ?_
  refine J_ishr dX2_put_10 ?_
  refine J_iadd dX2_put_11 ?_
  refine J_dup2 dX2_put_12 rfl rfl ?_
  obtain ⟨nn, ff, hh, hk, H⟩ := H
  refine J_lald dX2_put_13 hh hk ?_
  generalize ff (Int32.toNatClampNeg ((i1 * 5) + ((i2 : Int32) >>> ((6 : Int32) &&& (31 : Int32))))) = v2 at H ⊢
  clear hh hk ff
  refine J_lconst (v := 1) dX2_put_14 (by decide) ?_
  refine J_iload_n dX2_put_15 2 rfl ?_
  refine J_bipush (v := 63) dX2_put_16 (by decide) ?_
  refine J_iand dX2_put_18 ?_
  refine J_lshl dX2_put_19 ?_
  refine J_lor dX2_put_20 ?_
  obtain ⟨nn, ff, hh, hk, H⟩ := H
  refine J_last dX2_put_21 hh hk ?_
  generalize List.set h v1 (am_L nn (vp_updL ff (Int32.toNatClampNeg ((i1 * 5) + ((i2 : Int32) >>> ((6 : Int32) &&& (31 : Int32))))) (v2 ||| ((1 : Int64) <<< (Int32.toInt64 (i2 &&& 63) &&& (63 : Int64)))))) = h3 at H ⊢
  clear hh hk
  exact J_vret dX2_put_22 rfl ⟨Nat.le_of_ble_eq_true rfl, Nat.le_of_ble_eq_true rfl, fun _ => rfl⟩ H
theorem eX2_put {l : Launch} {g : am_G} {d : Nat} {x : Bool} {a0 : Nat} {i1 : Int32} {i2 : Int32} {h : am_H} {K : am_H → Prop} (H : zX2_put_0 l g d x a0 i1 i2 h (fun r h' => r = none ∧ K h')) : cl_N l g mX2_put d x [.ref a0, .int i1, .int i2] h K := rX2_put_0 H
def zX2_drop_0 (l : Launch) (g : am_G) (d : Nat) (x : Bool) (a0 : Nat) (i1 : Int32) (i2 : Int32) (h : am_H) (Q : Option Value → am_H → Prop) : Prop := gt_R h a0 2 0 (fun v1 => al_L h v1 ((i1 * 5) + ((i2 : Int32) >>> ((6 : Int32) &&& (31 : Int32)))) (fun v2 => as_L h v1 ((i1 * 5) + ((i2 : Int32) >>> ((6 : Int32) &&& (31 : Int32)))) (v2 &&& (((1 : Int64) <<< (Int32.toInt64 (i2 &&& 63) &&& (63 : Int64))) ^^^ (-1))) (fun h3 => Q none h3)))
set_option maxRecDepth 4000 in
theorem rX2_drop_0 {l : Launch} {g : am_G} {d : Nat} {x : Bool} {a0 : Nat} {i1 : Int32} {i2 : Int32} {h : am_H} {Q : Option Value → am_H → Prop} (H : zX2_drop_0 l g d x a0 i1 i2 h Q) : am_J l g mX2_drop d (0, 0, x) 0 [(0, .ref a0), (1, .int i1), (2, .int i2)] [] h Q := by
  unfold zX2_drop_0 at H
  refine J_aload_n dX2_drop_0 0 rfl ?_
  obtain ⟨fs, v1, hh, hk, H⟩ := H
  refine J_get dX2_drop_1 fX2_11 hh hk ?_
  clear hh hk
  refine J_iload_n dX2_drop_4 1 rfl ?_
  refine J_iconst (v := 5) dX2_drop_5 (by decide) ?_
  refine J_imul dX2_drop_6 ?_
  refine J_iload_n dX2_drop_7 2 rfl ?_
  refine J_bipush (v := 6) dX2_drop_8 (by decide) ?_
  refine J_ishr dX2_drop_10 ?_
  refine J_iadd dX2_drop_11 ?_
  refine J_dup2 dX2_drop_12 rfl rfl ?_
  obtain ⟨nn, ff, hh, hk, H⟩ := H
  refine J_lald dX2_drop_13 hh hk ?_
  generalize ff (Int32.toNatClampNeg ((i1 * 5) + ((i2 : Int32) >>> ((6 : Int32) &&& (31 : Int32))))) = v2 at H ⊢
  clear hh hk ff
  refine J_lconst (v := 1) dX2_drop_14 (by decide) ?_
  refine J_iload_n dX2_drop_15 2 rfl ?_
  refine J_bipush (v := 63) dX2_drop_16 (by decide) ?_
  refine J_iand dX2_drop_18 ?_
  refine J_lshl dX2_drop_19 ?_
  refine J_ldc2 (v := (-1)) dX2_drop_20 qX2_15 ?_
  refine J_lxor dX2_drop_23 ?_
  refine J_land dX2_drop_24 ?_
  obtain ⟨nn, ff, hh, hk, H⟩ := H
  refine J_last dX2_drop_25 hh hk ?_
  generalize List.set h v1 (am_L nn (vp_updL ff (Int32.toNatClampNeg ((i1 * 5) + ((i2 : Int32) >>> ((6 : Int32) &&& (31 : Int32))))) (v2 &&& (((1 : Int64) <<< (Int32.toInt64 (i2 &&& 63) &&& (63 : Int64))) ^^^ (-1))))) = h3 at H ⊢
  clear hh hk
  exact J_vret dX2_drop_26 rfl ⟨Nat.le_of_ble_eq_true rfl, Nat.le_of_ble_eq_true rfl, fun _ => rfl⟩ H
theorem eX2_drop {l : Launch} {g : am_G} {d : Nat} {x : Bool} {a0 : Nat} {i1 : Int32} {i2 : Int32} {h : am_H} {K : am_H → Prop} (H : zX2_drop_0 l g d x a0 i1 i2 h (fun r h' => r = none ∧ K h')) : cl_N l g mX2_drop d x [.ref a0, .int i1, .int i2] h K := rX2_drop_0 H
def zX2_dropAll_0 (l : Launch) (g : am_G) (d : Nat) (x : Bool) (a0 : Nat) (h : am_H) (Q : Option Value → am_H → Prop) : Prop := gt_R h a0 2 0 (fun v1 => cs_N l g mJ7_fill_d0a16 d x [.ref v1, .long 0] h (fun h2 => Q none h2))
set_option maxRecDepth 4000 in
theorem rX2_dropAll_0 {l : Launch} {g : am_G} {d : Nat} {x : Bool} {a0 : Nat} {h : am_H} {Q : Option Value → am_H → Prop} (H : zX2_dropAll_0 l g d x a0 h Q) : am_J l g mX2_dropAll (d + 1) (0, 0, x) 0 [(0, .ref a0)] [] h Q := by
  unfold zX2_dropAll_0 at H
  refine J_aload_n dX2_dropAll_0 0 rfl ?_
  obtain ⟨fs, v1, hh, hk, H⟩ := H
  refine J_get dX2_dropAll_1 fX2_11 hh hk ?_
  clear hh hk
  refine J_lconst (v := 0) dX2_dropAll_4 (by decide) ?_
  refine J_callS (As := [.ref v1, .long 0]) (S := []) dX2_dropAll_5 mJ7_fill_d0a16_ok kX2_17 rfl (by decide) (Nat.le_of_ble_eq_true rfl) rfl (Nat.le_of_ble_eq_true rfl) ⟨Nat.le_of_ble_eq_true rfl, Nat.le_of_ble_eq_true rfl⟩ (fun k h' hp => ?_) H (fun r h2 hp => ?_)
  · obtain ⟨hv, -⟩ := hp; cases hv
  obtain ⟨rfl, H⟩ := hp
  show am_J l g mX2_dropAll (d + 1) (0, 0, x) 8 [(0, .ref a0)] [] h2 Q
  exact J_vret dX2_dropAll_8 rfl ⟨Nat.le_of_ble_eq_true rfl, Nat.le_of_ble_eq_true rfl, fun _ => rfl⟩ H
theorem eX2_dropAll {l : Launch} {g : am_G} {d : Nat} {x : Bool} {a0 : Nat} {h : am_H} {K : am_H → Prop} (H : zX2_dropAll_0 l g d x a0 h (fun r h' => r = none ∧ K h')) : cl_N l g mX2_dropAll (d + 1) x [.ref a0] h K := rX2_dropAll_0 H
def zX2_next_15 (l : Launch) (g : am_G) (d : Nat) (x : Bool) (a0 : Nat) (i1 : Int32) (l3 : Int64) (i5 : Int32) (h : am_H) (Q : Option Value → am_H → Prop) : Prop := ((5 ≤ i5 → Q (some (.int (-1))) h) ∧ (¬ 5 ≤ i5 → gt_R h a0 2 0 (fun v1 => al_L h v1 ((i1 * 5) + i5) (fun v2 => (((lg_cmp (v2 &&& l3) 0) = 0 → am_J l g mX2_next (d + 1) (0, 0, x) 15 [(0, .ref a0), (1, .int i1), (3, .long (-1)), (5, .int (i5 + 1))] [] h Q) ∧ (¬ (lg_cmp (v2 &&& l3) 0) = 0 → cs_I l g mJ13_bitCount_95d88 d x [.long (((v2 &&& l3) &&& (-(v2 &&& l3))) - 1)] h (fun v4 h3 => Q (some (.int ((i5 * 64) + v4))) h3)))))))
set_option maxRecDepth 4000 in
theorem rX2_next_15 {l : Launch} {g : am_G} {d : Nat} {x : Bool} {a0 : Nat} {i1 : Int32} {l3 : Int64} {i5 : Int32} {h : am_H} {Q : Option Value → am_H → Prop} (H : zX2_next_15 l g d x a0 i1 l3 i5 h Q) : am_J l g mX2_next (d + 1) (0, 0, x) 15 [(0, .ref a0), (1, .int i1), (3, .long l3), (5, .int i5)] [] h Q := by
  unfold zX2_next_15 at H
  refine J_iload dX2_next_15 3 rfl ?_
  refine J_iconst (v := 5) dX2_next_17 (by decide) ?_
  obtain ⟨H1, H2⟩ := H
  refine J_icmp_ge (tgt := 75) dX2_next_18 (by decide) (fun hc => ?_) (fun hc => ?_)
  · replace H := H1 hc
    clear H1 H2
    refine J_iconst (v := (-1)) dX2_next_75 (by decide) ?_
    exact J_iret dX2_next_76 ⟨_, rfl, rfl⟩ ⟨Nat.le_of_ble_eq_true rfl, Nat.le_of_ble_eq_true rfl, fun _ => rfl⟩ H
  · replace H := H2 hc
    clear H1 H2
    refine J_aload_n dX2_next_21 0 rfl ?_
    obtain ⟨fs, v1, hh, hk, H⟩ := H
    refine J_get dX2_next_22 fX2_11 hh hk ?_
    clear hh hk
    refine J_iload_n dX2_next_25 1 rfl ?_
    refine J_iconst (v := 5) dX2_next_26 (by decide) ?_
    refine J_imul dX2_next_27 ?_
    refine J_iload dX2_next_28 3 rfl ?_
    refine J_iadd dX2_next_30 ?_
    obtain ⟨nn, ff, hh, hk, H⟩ := H
    refine J_lald dX2_next_31 hh hk ?_
    generalize ff (Int32.toNatClampNeg ((i1 * 5) + i5)) = v2 at H ⊢
    clear hh hk ff
    refine J_lload_n dX2_next_32 2 rfl ?_
    refine J_land dX2_next_33 ?_
    refine J_lstore (L' := [(6, .long (v2 &&& l3)), (0, .ref a0), (1, .int i1), (3, .long l3), (5, .int i5)]) dX2_next_34 (by decide) rfl ?_
    refine J_lload dX2_next_36 0 rfl ?_
    refine J_lconst (v := 0) dX2_next_38 (by decide) ?_
    refine J_lcmp dX2_next_39 ?_
    obtain ⟨H1, H2⟩ := H
    refine J_if_eq (tgt := 65) dX2_next_40 (by decide) (fun hc => ?_) (fun hc => ?_)
    · replace H := H1 hc
      clear H1 H2
      refine J_ldc2 (v := (-1)) dX2_next_65 qX2_15 ?_
      refine J_lstore_n (L' := [(3, .long (-1)), (6, .long (v2 &&& l3)), (0, .ref a0), (1, .int i1), (5, .int i5)]) dX2_next_68 (by decide) rfl ?_
      refine J_iinc (v := (i5 + 1)) (L' := [(5, .int (i5 + 1)), (3, .long (-1)), (6, .long (v2 &&& l3)), (0, .ref a0), (1, .int i1)]) dX2_next_69 4 rfl rfl (by decide) rfl ?_
      refine J_goto (tgt := 15) dX2_next_72 (by decide) ?_
      exact J_pick [3, 4, 1, 0] rfl H
    · replace H := H2 hc
      clear H1 H2
      refine J_lload dX2_next_43 0 rfl ?_
      refine J_lload dX2_next_45 0 rfl ?_
      refine J_lneg dX2_next_47 ?_
      refine J_land dX2_next_48 ?_
      refine J_lconst (v := 1) dX2_next_49 (by decide) ?_
      refine J_lsub dX2_next_50 ?_
      refine J_lstore (L' := [(8, .long (((v2 &&& l3) &&& (-(v2 &&& l3))) - 1)), (6, .long (v2 &&& l3)), (0, .ref a0), (1, .int i1), (3, .long l3), (5, .int i5)]) dX2_next_51 (by decide) rfl ?_
      refine J_iload dX2_next_53 5 rfl ?_
      refine J_bipush (v := 64) dX2_next_55 (by decide) ?_
      refine J_imul dX2_next_57 ?_
      refine J_lload dX2_next_58 0 rfl ?_
      refine J_callS (As := [.long (((v2 &&& l3) &&& (-(v2 &&& l3))) - 1)]) (S := [.int (i5 * 64)]) dX2_next_60 mJ13_bitCount_95d88_ok kX2_23 rfl (by decide) (Nat.le_of_ble_eq_true rfl) rfl (Nat.le_of_ble_eq_true rfl) ⟨Nat.le_of_ble_eq_true rfl, Nat.le_of_ble_eq_true rfl⟩ (fun k h' hp => ?_) H (fun r h3 hp => ?_)
      · obtain ⟨_, hv, -⟩ := hp; cases hv
      obtain ⟨v4, rfl, H⟩ := hp
      show am_J l g mX2_next (d + 1) (0, 0, x) 63 [(8, .long (((v2 &&& l3) &&& (-(v2 &&& l3))) - 1)), (6, .long (v2 &&& l3)), (0, .ref a0), (1, .int i1), (3, .long l3), (5, .int i5)] [.int v4, .int (i5 * 64)] h3 Q
      refine J_iadd dX2_next_63 ?_
      exact J_iret dX2_next_64 ⟨_, rfl, rfl⟩ ⟨Nat.le_of_ble_eq_true rfl, Nat.le_of_ble_eq_true rfl, fun _ => rfl⟩ H
def zX2_next_0 (l : Launch) (g : am_G) (d : Nat) (x : Bool) (a0 : Nat) (i1 : Int32) (i2 : Int32) (h : am_H) (Q : Option Value → am_H → Prop) : Prop := am_J l g mX2_next (d + 1) (0, 0, x) 15 [(0, .ref a0), (1, .int i1), (3, .long (((-1) : Int64) <<< (Int32.toInt64 (i2 &&& 63) &&& (63 : Int64)))), (5, .int ((i2 : Int32) >>> ((6 : Int32) &&& (31 : Int32))))] [] h Q
set_option maxRecDepth 4000 in
theorem rX2_next_0 {l : Launch} {g : am_G} {d : Nat} {x : Bool} {a0 : Nat} {i1 : Int32} {i2 : Int32} {h : am_H} {Q : Option Value → am_H → Prop} (H : zX2_next_0 l g d x a0 i1 i2 h Q) : am_J l g mX2_next (d + 1) (0, 0, x) 0 [(0, .ref a0), (1, .int i1), (2, .int i2)] [] h Q := by
  unfold zX2_next_0 at H
  refine J_ldc2 (v := (-1)) dX2_next_0 qX2_15 ?_
  refine J_iload_n dX2_next_3 2 rfl ?_
  refine J_bipush (v := 63) dX2_next_4 (by decide) ?_
  refine J_iand dX2_next_6 ?_
  refine J_lshl dX2_next_7 ?_
  refine J_lstore_n (L' := [(3, .long (((-1) : Int64) <<< (Int32.toInt64 (i2 &&& 63) &&& (63 : Int64)))), (0, .ref a0), (1, .int i1), (2, .int i2)]) dX2_next_8 (by decide) rfl ?_
  refine J_iload_n dX2_next_9 3 rfl ?_
  refine J_bipush (v := 6) dX2_next_10 (by decide) ?_
  refine J_ishr dX2_next_12 ?_
  refine J_istore (L' := [(5, .int ((i2 : Int32) >>> ((6 : Int32) &&& (31 : Int32)))), (3, .long (((-1) : Int64) <<< (Int32.toInt64 (i2 &&& 63) &&& (63 : Int64)))), (0, .ref a0), (1, .int i1), (2, .int i2)]) dX2_next_13 (by decide) rfl ?_
  exact J_pick [2, 3, 1, 0] rfl H
theorem eX2_next {l : Launch} {g : am_G} {d : Nat} {x : Bool} {a0 : Nat} {i1 : Int32} {i2 : Int32} {h : am_H} {K : Int32 → am_H → Prop} (H : zX2_next_0 l g d x a0 i1 i2 h (fun r h' => ∃ v, r = some (.int v) ∧ K v h')) : cl_I l g mX2_next (d + 1) x [.ref a0, .int i1, .int i2] h K := rX2_next_0 H
def zX2_size_4 (l : Launch) (g : am_G) (d : Nat) (x : Bool) (a0 : Nat) (i1 : Int32) (i2 : Int32) (i3 : Int32) (h : am_H) (Q : Option Value → am_H → Prop) : Prop := ((5 ≤ i3 → Q (some (.int i2)) h) ∧ (¬ 5 ≤ i3 → gt_R h a0 2 0 (fun v1 => al_L h v1 ((i1 * 5) + i3) (fun v2 => cs_I l g mJ13_bitCount_95d88 d x [.long v2] h (fun v4 h3 => am_J l g mX2_size (d + 1) (0, 0, x) 4 [(0, .ref a0), (1, .int i1), (2, .int (i2 + v4)), (3, .int (i3 + 1))] [] h3 Q)))))
set_option maxRecDepth 4000 in
theorem rX2_size_4 {l : Launch} {g : am_G} {d : Nat} {x : Bool} {a0 : Nat} {i1 : Int32} {i2 : Int32} {i3 : Int32} {h : am_H} {Q : Option Value → am_H → Prop} (H : zX2_size_4 l g d x a0 i1 i2 i3 h Q) : am_J l g mX2_size (d + 1) (0, 0, x) 4 [(0, .ref a0), (1, .int i1), (2, .int i2), (3, .int i3)] [] h Q := by
  unfold zX2_size_4 at H
  refine J_iload_n dX2_size_4 3 rfl ?_
  refine J_iconst (v := 5) dX2_size_5 (by decide) ?_
  obtain ⟨H1, H2⟩ := H
  refine J_icmp_ge (tgt := 31) dX2_size_6 (by decide) (fun hc => ?_) (fun hc => ?_)
  · replace H := H1 hc
    clear H1 H2
    refine J_iload_n dX2_size_31 2 rfl ?_
    exact J_iret dX2_size_32 ⟨_, rfl, rfl⟩ ⟨Nat.le_of_ble_eq_true rfl, Nat.le_of_ble_eq_true rfl, fun _ => rfl⟩ H
  · replace H := H2 hc
    clear H1 H2
    refine J_iload_n dX2_size_9 2 rfl ?_
    refine J_aload_n dX2_size_10 0 rfl ?_
    obtain ⟨fs, v1, hh, hk, H⟩ := H
    refine J_get dX2_size_11 fX2_11 hh hk ?_
    clear hh hk
    refine J_iload_n dX2_size_14 1 rfl ?_
    refine J_iconst (v := 5) dX2_size_15 (by decide) ?_
    refine J_imul dX2_size_16 ?_
    refine J_iload_n dX2_size_17 3 rfl ?_
    refine J_iadd dX2_size_18 ?_
    obtain ⟨nn, ff, hh, hk, H⟩ := H
    refine J_lald dX2_size_19 hh hk ?_
    generalize ff (Int32.toNatClampNeg ((i1 * 5) + i3)) = v2 at H ⊢
    clear hh hk ff
    refine J_callS (As := [.long v2]) (S := [.int i2]) dX2_size_20 mJ13_bitCount_95d88_ok kX2_23 rfl (by decide) (Nat.le_of_ble_eq_true rfl) rfl (Nat.le_of_ble_eq_true rfl) ⟨Nat.le_of_ble_eq_true rfl, Nat.le_of_ble_eq_true rfl⟩ (fun k h' hp => ?_) H (fun r h3 hp => ?_)
    · obtain ⟨_, hv, -⟩ := hp; cases hv
    obtain ⟨v4, rfl, H⟩ := hp
    show am_J l g mX2_size (d + 1) (0, 0, x) 23 [(0, .ref a0), (1, .int i1), (2, .int i2), (3, .int i3)] [.int v4, .int i2] h3 Q
    refine J_iadd dX2_size_23 ?_
    refine J_istore_n (L' := [(2, .int (i2 + v4)), (0, .ref a0), (1, .int i1), (3, .int i3)]) dX2_size_24 (by decide) rfl ?_
    refine J_iinc (v := (i3 + 1)) (L' := [(3, .int (i3 + 1)), (2, .int (i2 + v4)), (0, .ref a0), (1, .int i1)]) dX2_size_25 3 rfl rfl (by decide) rfl ?_
    refine J_goto (tgt := 4) dX2_size_28 (by decide) ?_
    exact J_pick [2, 3, 1, 0] rfl H
def zX2_size_0 (l : Launch) (g : am_G) (d : Nat) (x : Bool) (a0 : Nat) (i1 : Int32) (h : am_H) (Q : Option Value → am_H → Prop) : Prop := am_J l g mX2_size (d + 1) (0, 0, x) 4 [(0, .ref a0), (1, .int i1), (2, .int 0), (3, .int 0)] [] h Q
set_option maxRecDepth 4000 in
theorem rX2_size_0 {l : Launch} {g : am_G} {d : Nat} {x : Bool} {a0 : Nat} {i1 : Int32} {h : am_H} {Q : Option Value → am_H → Prop} (H : zX2_size_0 l g d x a0 i1 h Q) : am_J l g mX2_size (d + 1) (0, 0, x) 0 [(0, .ref a0), (1, .int i1)] [] h Q := by
  unfold zX2_size_0 at H
  refine J_iconst (v := 0) dX2_size_0 (by decide) ?_
  refine J_istore_n (L' := [(2, .int 0), (0, .ref a0), (1, .int i1)]) dX2_size_1 (by decide) rfl ?_
  refine J_iconst (v := 0) dX2_size_2 (by decide) ?_
  refine J_istore_n (L' := [(3, .int 0), (2, .int 0), (0, .ref a0), (1, .int i1)]) dX2_size_3 (by decide) rfl ?_
  exact J_pick [2, 3, 1, 0] rfl H
theorem eX2_size {l : Launch} {g : am_G} {d : Nat} {x : Bool} {a0 : Nat} {i1 : Int32} {h : am_H} {K : Int32 → am_H → Prop} (H : zX2_size_0 l g d x a0 i1 h (fun r h' => ∃ v, r = some (.int v) ∧ K v h')) : cl_I l g mX2_size (d + 1) x [.ref a0, .int i1] h K := rX2_size_0 H
def zX2_putAllOf_3 (l : Launch) (g : am_G) (d : Nat) (x : Bool) (a0 : Nat) (i1 : Int32) (a2 : Nat) (i3 : Int32) (i4 : Int32) (h : am_H) (Q : Option Value → am_H → Prop) : Prop := ((5 ≤ i4 → Q none h) ∧ (¬ 5 ≤ i4 → gt_R h a0 2 0 (fun v1 => al_L h v1 ((i1 * 5) + i4) (fun v2 => gt_R h a2 2 0 (fun v3 => al_L h v3 ((i3 * 5) + i4) (fun v4 => as_L h v1 ((i1 * 5) + i4) (v2 ||| v4) (fun h5 => am_J l g mX2_putAllOf d (0, 0, x) 3 [(0, .ref a0), (1, .int i1), (2, .ref a2), (3, .int i3), (4, .int (i4 + 1))] [] h5 Q)))))))
set_option maxRecDepth 4000 in
theorem rX2_putAllOf_3 {l : Launch} {g : am_G} {d : Nat} {x : Bool} {a0 : Nat} {i1 : Int32} {a2 : Nat} {i3 : Int32} {i4 : Int32} {h : am_H} {Q : Option Value → am_H → Prop} (H : zX2_putAllOf_3 l g d x a0 i1 a2 i3 i4 h Q) : am_J l g mX2_putAllOf d (0, 0, x) 3 [(0, .ref a0), (1, .int i1), (2, .ref a2), (3, .int i3), (4, .int i4)] [] h Q := by
  unfold zX2_putAllOf_3 at H
  refine J_iload dX2_putAllOf_3 4 rfl ?_
  refine J_iconst (v := 5) dX2_putAllOf_5 (by decide) ?_
  obtain ⟨H1, H2⟩ := H
  refine J_icmp_ge (tgt := 40) dX2_putAllOf_6 (by decide) (fun hc => ?_) (fun hc => ?_)
  · replace H := H1 hc
    clear H1 H2
    exact J_vret dX2_putAllOf_40 rfl ⟨Nat.le_of_ble_eq_true rfl, Nat.le_of_ble_eq_true rfl, fun _ => rfl⟩ H
  · replace H := H2 hc
    clear H1 H2
    refine J_aload_n dX2_putAllOf_9 0 rfl ?_
    obtain ⟨fs, v1, hh, hk, H⟩ := H
    refine J_get dX2_putAllOf_10 fX2_11 hh hk ?_
    clear hh hk
    refine J_iload_n dX2_putAllOf_13 1 rfl ?_
    refine J_iconst (v := 5) dX2_putAllOf_14 (by decide) ?_
    refine J_imul dX2_putAllOf_15 ?_
    refine J_iload dX2_putAllOf_16 4 rfl ?_
    refine J_iadd dX2_putAllOf_18 ?_
    refine J_dup2 dX2_putAllOf_19 rfl rfl ?_
    obtain ⟨nn, ff, hh, hk, H⟩ := H
    refine J_lald dX2_putAllOf_20 hh hk ?_
    generalize ff (Int32.toNatClampNeg ((i1 * 5) + i4)) = v2 at H ⊢
    clear hh hk ff
    refine J_aload_n dX2_putAllOf_21 2 rfl ?_
    obtain ⟨fs, v3, hh, hk, H⟩ := H
    refine J_get dX2_putAllOf_22 fX2_11 hh hk ?_
    clear hh hk
    refine J_iload_n dX2_putAllOf_25 3 rfl ?_
    refine J_iconst (v := 5) dX2_putAllOf_26 (by decide) ?_
    refine J_imul dX2_putAllOf_27 ?_
    refine J_iload dX2_putAllOf_28 4 rfl ?_
    refine J_iadd dX2_putAllOf_30 ?_
    obtain ⟨nn, ff, hh, hk, H⟩ := H
    refine J_lald dX2_putAllOf_31 hh hk ?_
    generalize ff (Int32.toNatClampNeg ((i3 * 5) + i4)) = v4 at H ⊢
    clear hh hk ff
    refine J_lor dX2_putAllOf_32 ?_
    obtain ⟨nn, ff, hh, hk, H⟩ := H
    refine J_last dX2_putAllOf_33 hh hk ?_
    generalize List.set h v1 (am_L nn (vp_updL ff (Int32.toNatClampNeg ((i1 * 5) + i4)) (v2 ||| v4))) = h5 at H ⊢
    clear hh hk
    refine J_iinc (v := (i4 + 1)) (L' := [(4, .int (i4 + 1)), (0, .ref a0), (1, .int i1), (2, .ref a2), (3, .int i3)]) dX2_putAllOf_34 4 rfl rfl (by decide) rfl ?_
    refine J_goto (tgt := 3) dX2_putAllOf_37 (by decide) ?_
    exact J_pick [1, 2, 3, 4, 0] rfl H
def zX2_putAllOf_0 (l : Launch) (g : am_G) (d : Nat) (x : Bool) (a0 : Nat) (i1 : Int32) (a2 : Nat) (i3 : Int32) (h : am_H) (Q : Option Value → am_H → Prop) : Prop := am_J l g mX2_putAllOf d (0, 0, x) 3 [(0, .ref a0), (1, .int i1), (2, .ref a2), (3, .int i3), (4, .int 0)] [] h Q
set_option maxRecDepth 4000 in
theorem rX2_putAllOf_0 {l : Launch} {g : am_G} {d : Nat} {x : Bool} {a0 : Nat} {i1 : Int32} {a2 : Nat} {i3 : Int32} {h : am_H} {Q : Option Value → am_H → Prop} (H : zX2_putAllOf_0 l g d x a0 i1 a2 i3 h Q) : am_J l g mX2_putAllOf d (0, 0, x) 0 [(0, .ref a0), (1, .int i1), (2, .ref a2), (3, .int i3)] [] h Q := by
  unfold zX2_putAllOf_0 at H
  refine J_iconst (v := 0) dX2_putAllOf_0 (by decide) ?_
  refine J_istore (L' := [(4, .int 0), (0, .ref a0), (1, .int i1), (2, .ref a2), (3, .int i3)]) dX2_putAllOf_1 (by decide) rfl ?_
  exact J_pick [1, 2, 3, 4, 0] rfl H
theorem eX2_putAllOf {l : Launch} {g : am_G} {d : Nat} {x : Bool} {a0 : Nat} {i1 : Int32} {a2 : Nat} {i3 : Int32} {h : am_H} {K : am_H → Prop} (H : zX2_putAllOf_0 l g d x a0 i1 a2 i3 h (fun r h' => r = none ∧ K h')) : cl_N l g mX2_putAllOf d x [.ref a0, .int i1, .ref a2, .int i3] h K := rX2_putAllOf_0 H
