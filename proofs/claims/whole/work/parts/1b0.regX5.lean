def zX5_init_0 (l : Launch) (g : am_G) (d : Nat) (a0 : Nat) (h : am_H) (Q : Option Value → am_H → Prop) : Prop := pt_V (h ++ [am_I 3 1000 (fun _ => 0)]) a0 5 0 (.ref ((h).length)) (fun h1 => Q none h1)
set_option maxRecDepth 4000 in
theorem rX5_init_0 {l : Launch} {g : am_G} {d : Nat} {a0 : Nat} {h : am_H} {Q : Option Value → am_H → Prop} (H : zX5_init_0 l g d a0 h Q) : am_J l g mX5_init (d + 1) (0, 0, true) 0 [(0, .ref a0)] [] h Q := by
  unfold zX5_init_0 at H
  refine J_aload_n dX5_init_0 0 rfl ?_
  refine J_objInit dX5_init_1 kX5_3 (Nat.le_of_ble_eq_true rfl) ?_
  refine J_aload_n dX5_init_4 0 rfl ?_
  refine J_sipush (v := 1000) dX5_init_5 (by decide) ?_
  refine J_newaI (t := 3) (N' := 1000) (ty := .char) dX5_init_8 rfl aw_char (by decide) (by decide +kernel) (by decide +kernel) (by decide +kernel) ⟨by decide +kernel, by decide +kernel⟩ ?_
  show am_J l g mX5_init (d + 1) (1, 1000, true) 10 [(0, .ref a0)] [.ref ((h).length), .ref a0] (h ++ [am_I 3 1000 (fun _ => 0)]) Q
  obtain ⟨fs, hh, hk, H⟩ := H
  refine J_putF dX5_init_10 fX5_9 rfl rfl rfl rfl hh hk ?_
  generalize List.set (h ++ [am_I 3 1000 (fun _ => 0)]) a0 (am_O 5 (List.set fs 0 (.ref ((h).length)))) = h1 at H ⊢
  clear hh hk
  exact J_vret dX5_init_13 rfl ⟨by decide +kernel, by decide +kernel, fun _ => by decide +kernel⟩ H
theorem eX5_init {l : Launch} {g : am_G} {d : Nat} {a0 : Nat} {h : am_H} {K : am_H → Prop} (H : zX5_init_0 l g d a0 h (fun r h' => r = none ∧ K h')) : cl_N l g mX5_init (d + 1) true [.ref a0] h K := rX5_init_0 H
def zX5_putBytes_3 (l : Launch) (g : am_G) (d : Nat) (x : Bool) (a0 : Nat) (l1 : Int64) (i3 : Int32) (h : am_H) (Q : Option Value → am_H → Prop) : Prop := ((i3 < 0 → Q none h) ∧ (¬ i3 < 0 → cv_N l g mX5_putSign d x 5 a0 [.int ((Int64.toInt32 ((Int64.toUInt64 l1 >>> (Int64.toUInt64 (Int32.toInt64 i3) &&& Int64.toUInt64 63)).toInt64)) &&& 255)] h (fun h1 => am_J l g mX5_putBytes (d + 1) (0, 0, x) 3 [(0, .ref a0), (1, .long l1), (3, .int (i3 + (-8)))] [] h1 Q)))
set_option maxRecDepth 4000 in
theorem rX5_putBytes_3 {l : Launch} {g : am_G} {d : Nat} {x : Bool} {a0 : Nat} {l1 : Int64} {i3 : Int32} {h : am_H} {Q : Option Value → am_H → Prop} (H : zX5_putBytes_3 l g d x a0 l1 i3 h Q) : am_J l g mX5_putBytes (d + 1) (0, 0, x) 3 [(0, .ref a0), (1, .long l1), (3, .int i3)] [] h Q := by
  unfold zX5_putBytes_3 at H
  refine J_iload_n dX5_putBytes_3 2 rfl ?_
  obtain ⟨H1, H2⟩ := H
  refine J_if_lt (tgt := 25) dX5_putBytes_4 (by decide) (fun hc => ?_) (fun hc => ?_)
  · replace H := H1 hc
    clear H1 H2
    exact J_vret dX5_putBytes_25 rfl ⟨Nat.le_of_ble_eq_true rfl, Nat.le_of_ble_eq_true rfl, fun _ => rfl⟩ H
  · replace H := H2 hc
    clear H1 H2
    refine J_aload_n dX5_putBytes_7 0 rfl ?_
    refine J_lload_n dX5_putBytes_8 1 rfl ?_
    refine J_iload_n dX5_putBytes_9 2 rfl ?_
    refine J_lushr dX5_putBytes_10 ?_
    refine J_l2i dX5_putBytes_11 ?_
    refine J_sipush (v := 255) dX5_putBytes_12 (by decide) ?_
    refine J_iand dX5_putBytes_15 ?_
    obtain ⟨⟨fs, hh⟩, H⟩ := H
    refine J_callV (As := [.int ((Int64.toInt32 ((Int64.toUInt64 l1 >>> (Int64.toUInt64 (Int32.toInt64 i3) &&& Int64.toUInt64 63)).toInt64)) &&& 255)]) (S := []) (b := a0) dX5_putBytes_16 mX5_putSign_ok kX5_15 rfl (by decide) (Nat.le_of_ble_eq_true rfl) hh rfl rfl (Nat.le_of_ble_eq_true rfl) ⟨Nat.le_of_ble_eq_true rfl, Nat.le_of_ble_eq_true rfl⟩ (fun k h' hp => ?_) H (fun r h1 hp => ?_)
    · obtain ⟨hv, -⟩ := hp; cases hv
    obtain ⟨rfl, H⟩ := hp
    show am_J l g mX5_putBytes (d + 1) (0, 0, x) 19 [(0, .ref a0), (1, .long l1), (3, .int i3)] [] h1 Q
    refine J_iinc (v := (i3 + (-8))) (L' := [(3, .int (i3 + (-8))), (0, .ref a0), (1, .long l1)]) dX5_putBytes_19 2 rfl rfl (by decide) rfl ?_
    refine J_goto (tgt := 3) dX5_putBytes_22 (by decide) ?_
    exact J_pick [1, 2, 0] rfl H
def zX5_putBytes_0 (l : Launch) (g : am_G) (d : Nat) (x : Bool) (a0 : Nat) (l1 : Int64) (h : am_H) (Q : Option Value → am_H → Prop) : Prop := am_J l g mX5_putBytes (d + 1) (0, 0, x) 3 [(0, .ref a0), (1, .long l1), (3, .int 56)] [] h Q
set_option maxRecDepth 4000 in
theorem rX5_putBytes_0 {l : Launch} {g : am_G} {d : Nat} {x : Bool} {a0 : Nat} {l1 : Int64} {h : am_H} {Q : Option Value → am_H → Prop} (H : zX5_putBytes_0 l g d x a0 l1 h Q) : am_J l g mX5_putBytes (d + 1) (0, 0, x) 0 [(0, .ref a0), (1, .long l1)] [] h Q := by
  unfold zX5_putBytes_0 at H
  refine J_bipush (v := 56) dX5_putBytes_0 (by decide) ?_
  refine J_istore_n (L' := [(3, .int 56), (0, .ref a0), (1, .long l1)]) dX5_putBytes_2 (by decide) rfl ?_
  exact J_pick [1, 2, 0] rfl H
theorem eX5_putBytes {l : Launch} {g : am_G} {d : Nat} {x : Bool} {a0 : Nat} {l1 : Int64} {h : am_H} {K : am_H → Prop} (H : zX5_putBytes_0 l g d x a0 l1 h (fun r h' => r = none ∧ K h')) : cl_N l g mX5_putBytes (d + 1) x [.ref a0, .long l1] h K := rX5_putBytes_0 H
def zX5_empty_0 (l : Launch) (g : am_G) (d : Nat) (x : Bool) (a0 : Nat) (h : am_H) (Q : Option Value → am_H → Prop) : Prop := pt_V h a0 5 1 (.int 0) (fun h1 => Q none h1)
set_option maxRecDepth 4000 in
theorem rX5_empty_0 {l : Launch} {g : am_G} {d : Nat} {x : Bool} {a0 : Nat} {h : am_H} {Q : Option Value → am_H → Prop} (H : zX5_empty_0 l g d x a0 h Q) : am_J l g mX5_empty d (0, 0, x) 0 [(0, .ref a0)] [] h Q := by
  unfold zX5_empty_0 at H
  refine J_aload_n dX5_empty_0 0 rfl ?_
  refine J_iconst (v := 0) dX5_empty_1 (by decide) ?_
  obtain ⟨fs, hh, hk, H⟩ := H
  refine J_put dX5_empty_2 fX5_19 rfl rfl hh hk ?_
  generalize List.set h a0 (am_O 5 (List.set fs 1 (.int 0))) = h1 at H ⊢
  clear hh hk
  exact J_vret dX5_empty_5 rfl ⟨Nat.le_of_ble_eq_true rfl, Nat.le_of_ble_eq_true rfl, fun _ => rfl⟩ H
theorem eX5_empty {l : Launch} {g : am_G} {d : Nat} {x : Bool} {a0 : Nat} {h : am_H} {K : am_H → Prop} (H : zX5_empty_0 l g d x a0 h (fun r h' => r = none ∧ K h')) : cl_N l g mX5_empty d x [.ref a0] h K := rX5_empty_0 H
def zX5_putSign_23 (l : Launch) (g : am_G) (d : Nat) (x : Bool) (a0 : Nat) (i1 : Int32) (s0 : Int32) (h : am_H) (Q : Option Value → am_H → Prop) : Prop := ((s0 = 0 → Q none h) ∧ (¬ s0 = 0 → gt_I h a0 5 1 (fun v1 => ((1000 ≤ v1 → Q none h) ∧ (¬ 1000 ≤ v1 → gt_R h a0 5 0 (fun v2 => gt_I h a0 5 1 (fun v3 => as_I 3 h v2 v3 ((Int32.toUInt32 i1 % 65536).toInt32) (fun h4 => gt_I h4 a0 5 1 (fun v5 => pt_V h4 a0 5 1 (.int (v5 + 1)) (fun h6 => Q none h6))))))))))
set_option maxRecDepth 4000 in
theorem rX5_putSign_23 {l : Launch} {g : am_G} {d : Nat} {x : Bool} {a0 : Nat} {i1 : Int32} {s0 : Int32} {h : am_H} {Q : Option Value → am_H → Prop} (H : zX5_putSign_23 l g d x a0 i1 s0 h Q) : am_J l g mX5_putSign d (0, 0, x) 23 [(0, .ref a0), (1, .int i1)] [.int s0] h Q := by
  unfold zX5_putSign_23 at H
  refine J_istore_n (L' := [(2, .int s0), (0, .ref a0), (1, .int i1)]) dX5_putSign_23 (by decide) rfl ?_
  refine J_iload_n dX5_putSign_24 0 rfl ?_
  obtain ⟨H1, H2⟩ := H
  refine J_if_eq (tgt := 59) dX5_putSign_25 (by decide) (fun hc => ?_) (fun hc => ?_)
  · replace H := H1 hc
    clear H1 H2
    exact J_vret dX5_putSign_59 rfl ⟨Nat.le_of_ble_eq_true rfl, Nat.le_of_ble_eq_true rfl, fun _ => rfl⟩ H
  · replace H := H2 hc
    clear H1 H2
    refine J_aload_n dX5_putSign_28 1 rfl ?_
    obtain ⟨fs, v1, hh, hk, H⟩ := H
    refine J_get dX5_putSign_29 fX5_19 hh hk ?_
    clear hh hk
    refine J_sipush (v := 1000) dX5_putSign_32 (by decide) ?_
    obtain ⟨H1, H2⟩ := H
    refine J_icmp_ge (tgt := 59) dX5_putSign_35 (by decide) (fun hc => ?_) (fun hc => ?_)
    · replace H := H1 hc
      clear H1 H2
      exact J_vret dX5_putSign_59 rfl ⟨Nat.le_of_ble_eq_true rfl, Nat.le_of_ble_eq_true rfl, fun _ => rfl⟩ H
    · replace H := H2 hc
      clear H1 H2
      refine J_aload_n dX5_putSign_38 1 rfl ?_
      obtain ⟨fs, v2, hh, hk, H⟩ := H
      refine J_get dX5_putSign_39 fX5_9 hh hk ?_
      clear hh hk
      refine J_aload_n dX5_putSign_42 1 rfl ?_
      obtain ⟨fs, v3, hh, hk, H⟩ := H
      refine J_get dX5_putSign_43 fX5_19 hh hk ?_
      clear hh hk
      refine J_iload_n dX5_putSign_46 2 rfl ?_
      refine J_i2c dX5_putSign_47 ?_
      obtain ⟨nn, ff, hh, hk, H⟩ := H
      refine J_cast dX5_putSign_48 hh hk (pk_vc _) ?_
      generalize List.set h v2 (am_I 3 nn (upd ff (Int32.toNatClampNeg v3) ((Int32.toUInt32 i1 % 65536).toInt32))) = h4 at H ⊢
      clear hh hk
      refine J_aload_n dX5_putSign_49 1 rfl ?_
      refine J_dup dX5_putSign_50 rfl ?_
      obtain ⟨fs, v5, hh, hk, H⟩ := H
      refine J_get dX5_putSign_51 fX5_19 hh hk ?_
      clear hh hk
      refine J_iconst (v := 1) dX5_putSign_54 (by decide) ?_
      refine J_iadd dX5_putSign_55 ?_
      obtain ⟨fs, hh, hk, H⟩ := H
      refine J_put dX5_putSign_56 fX5_19 rfl rfl hh hk ?_
      generalize List.set h4 a0 (am_O 5 (List.set fs 1 (.int (v5 + 1)))) = h6 at H ⊢
      clear hh hk
      exact J_vret dX5_putSign_59 rfl ⟨Nat.le_of_ble_eq_true rfl, Nat.le_of_ble_eq_true rfl, fun _ => rfl⟩ H
def zX5_putSign_22 (l : Launch) (g : am_G) (d : Nat) (x : Bool) (a0 : Nat) (i1 : Int32) (h : am_H) (Q : Option Value → am_H → Prop) : Prop := zX5_putSign_23 l g d x a0 i1 0 h Q
set_option maxRecDepth 4000 in
theorem rX5_putSign_22 {l : Launch} {g : am_G} {d : Nat} {x : Bool} {a0 : Nat} {i1 : Int32} {h : am_H} {Q : Option Value → am_H → Prop} (H : zX5_putSign_22 l g d x a0 i1 h Q) : am_J l g mX5_putSign d (0, 0, x) 22 [(0, .ref a0), (1, .int i1)] [] h Q := by
  unfold zX5_putSign_22 at H
  refine J_iconst (v := 0) dX5_putSign_22 (by decide) ?_
  exact J_pick [0, 1] rfl (rX5_putSign_23 H)
def zX5_putSign_18 (l : Launch) (g : am_G) (d : Nat) (x : Bool) (a0 : Nat) (i1 : Int32) (h : am_H) (Q : Option Value → am_H → Prop) : Prop := zX5_putSign_23 l g d x a0 i1 1 h Q
set_option maxRecDepth 4000 in
theorem rX5_putSign_18 {l : Launch} {g : am_G} {d : Nat} {x : Bool} {a0 : Nat} {i1 : Int32} {h : am_H} {Q : Option Value → am_H → Prop} (H : zX5_putSign_18 l g d x a0 i1 h Q) : am_J l g mX5_putSign d (0, 0, x) 18 [(0, .ref a0), (1, .int i1)] [] h Q := by
  unfold zX5_putSign_18 at H
  refine J_iconst (v := 1) dX5_putSign_18 (by decide) ?_
  refine J_goto (tgt := 23) dX5_putSign_19 (by decide) ?_
  exact J_pick [0, 1] rfl (rX5_putSign_23 H)
def zX5_putSign_0 (l : Launch) (g : am_G) (d : Nat) (x : Bool) (a0 : Nat) (i1 : Int32) (h : am_H) (Q : Option Value → am_H → Prop) : Prop := ((i1 = 10 → zX5_putSign_18 l g d x a0 i1  h Q) ∧ (¬ i1 = 10 → ((i1 < 32 → zX5_putSign_22 l g d x a0 i1  h Q) ∧ (¬ i1 < 32 → ((126 < i1 → zX5_putSign_22 l g d x a0 i1  h Q) ∧ (¬ 126 < i1 → zX5_putSign_18 l g d x a0 i1  h Q))))))
set_option maxRecDepth 4000 in
theorem rX5_putSign_0 {l : Launch} {g : am_G} {d : Nat} {x : Bool} {a0 : Nat} {i1 : Int32} {h : am_H} {Q : Option Value → am_H → Prop} (H : zX5_putSign_0 l g d x a0 i1 h Q) : am_J l g mX5_putSign d (0, 0, x) 0 [(0, .ref a0), (1, .int i1)] [] h Q := by
  unfold zX5_putSign_0 at H
  refine J_iload_n dX5_putSign_0 1 rfl ?_
  refine J_bipush (v := 10) dX5_putSign_1 (by decide) ?_
  obtain ⟨H1, H2⟩ := H
  refine J_icmp_eq (tgt := 18) dX5_putSign_3 (by decide) (fun hc => ?_) (fun hc => ?_)
  · replace H := H1 hc
    clear H1 H2
    exact J_pick [0, 1] rfl (rX5_putSign_18 H)
  · replace H := H2 hc
    clear H1 H2
    refine J_iload_n dX5_putSign_6 1 rfl ?_
    refine J_bipush (v := 32) dX5_putSign_7 (by decide) ?_
    obtain ⟨H1, H2⟩ := H
    refine J_icmp_lt (tgt := 22) dX5_putSign_9 (by decide) (fun hc => ?_) (fun hc => ?_)
    · replace H := H1 hc
      clear H1 H2
      exact J_pick [0, 1] rfl (rX5_putSign_22 H)
    · replace H := H2 hc
      clear H1 H2
      refine J_iload_n dX5_putSign_12 1 rfl ?_
      refine J_bipush (v := 126) dX5_putSign_13 (by decide) ?_
      obtain ⟨H1, H2⟩ := H
      refine J_icmp_gt (tgt := 22) dX5_putSign_15 (by decide) (fun hc => ?_) (fun hc => ?_)
      · replace H := H1 hc
        clear H1 H2
        exact J_pick [0, 1] rfl (rX5_putSign_22 H)
      · replace H := H2 hc
        clear H1 H2
        exact J_pick [0, 1] rfl (rX5_putSign_18 H)
theorem eX5_putSign {l : Launch} {g : am_G} {d : Nat} {x : Bool} {a0 : Nat} {i1 : Int32} {h : am_H} {K : am_H → Prop} (H : zX5_putSign_0 l g d x a0 i1 h (fun r h' => r = none ∧ K h')) : cl_N l g mX5_putSign d x [.ref a0, .int i1] h K := rX5_putSign_0 H
