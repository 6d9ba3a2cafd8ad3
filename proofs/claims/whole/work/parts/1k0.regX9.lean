def zX9_thrown_0 (l : Launch) (g : am_G) (d : Nat) (x : Bool) (a0 : Nat) (h : am_H) (Q : Option Value → am_H → Prop) : Prop := gt_I h a0 9 0 (fun v1 => Q (some (.int v1)) h)
set_option maxRecDepth 4000 in
theorem rX9_thrown_0 {l : Launch} {g : am_G} {d : Nat} {x : Bool} {a0 : Nat} {h : am_H} {Q : Option Value → am_H → Prop} (H : zX9_thrown_0 l g d x a0 h Q) : am_J l g mX9_thrown d (0, 0, x) 0 [(0, .ref a0)] [] h Q := by
  unfold zX9_thrown_0 at H
  refine J_aload_n dX9_thrown_0 0 rfl ?_
  obtain ⟨fs, v1, hh, hk, H⟩ := H
  refine J_get dX9_thrown_1 fX9_1 hh hk ?_
  clear hh hk
  exact J_iret dX9_thrown_4 ⟨_, rfl, rfl⟩ ⟨Nat.le_of_ble_eq_true rfl, Nat.le_of_ble_eq_true rfl, fun _ => rfl⟩ H
theorem eX9_thrown {l : Launch} {g : am_G} {d : Nat} {x : Bool} {a0 : Nat} {h : am_H} {K : Int32 → am_H → Prop} (H : zX9_thrown_0 l g d x a0 h (fun r h' => ∃ v, r = some (.int v) ∧ K v h')) : cl_I l g mX9_thrown d x [.ref a0] h K := rX9_thrown_0 H
def zX9_feed_0 (l : Launch) (g : am_G) (d : Nat) (x : Bool) (a0 : Nat) (l1 : Int64) (l3 : Int64) (l5 : Int64) (h : am_H) (Q : Option Value → am_H → Prop) : Prop := pt_V h a0 9 0 (.int 0) (fun h1 => cv_N l g mX9_lay d x 9 a0 [.long l1] h1 (fun h2 => cv_N l g mX9_lay d x 9 a0 [.long l3] h2 (fun h4 => cv_N l g mX9_lay d x 9 a0 [.long l5] h4 (fun h6 => gt_I h6 a0 9 2 (fun v8 => Q (some (.int v8)) h6)))))
set_option maxRecDepth 4000 in
theorem rX9_feed_0 {l : Launch} {g : am_G} {d : Nat} {x : Bool} {a0 : Nat} {l1 : Int64} {l3 : Int64} {l5 : Int64} {h : am_H} {Q : Option Value → am_H → Prop} (H : zX9_feed_0 l g d x a0 l1 l3 l5 h Q) : am_J l g mX9_feed (d + 1) (0, 0, x) 0 [(0, .ref a0), (1, .long l1), (3, .long l3), (5, .long l5)] [] h Q := by
  unfold zX9_feed_0 at H
  refine J_aload_n dX9_feed_0 0 rfl ?_
  refine J_iconst (v := 0) dX9_feed_1 (by decide) ?_
  obtain ⟨fs, hh, hk, H⟩ := H
  refine J_put dX9_feed_2 fX9_1 rfl rfl hh hk ?_
  generalize List.set h a0 (am_O 9 (List.set fs 0 (.int 0))) = h1 at H ⊢
  clear hh hk
  refine J_aload_n dX9_feed_5 0 rfl ?_
  refine J_lload_n dX9_feed_6 1 rfl ?_
  obtain ⟨⟨fs, hh⟩, H⟩ := H
  refine J_callV (As := [.long l1]) (S := []) (b := a0) dX9_feed_7 mX9_lay_ok kX9_7 rfl (by decide) (Nat.le_of_ble_eq_true rfl) hh rfl rfl (Nat.le_of_ble_eq_true rfl) ⟨Nat.le_of_ble_eq_true rfl, Nat.le_of_ble_eq_true rfl⟩ (fun k h' hp => ?_) H (fun r h2 hp => ?_)
  · obtain ⟨hv, -⟩ := hp; cases hv
  obtain ⟨rfl, H⟩ := hp
  show am_J l g mX9_feed (d + 1) (0, 0, x) 10 [(0, .ref a0), (1, .long l1), (3, .long l3), (5, .long l5)] [] h2 Q
  refine J_aload_n dX9_feed_10 0 rfl ?_
  refine J_lload_n dX9_feed_11 2 rfl ?_
  obtain ⟨⟨fs, hh⟩, H⟩ := H
  refine J_callV (As := [.long l3]) (S := []) (b := a0) dX9_feed_12 mX9_lay_ok kX9_7 rfl (by decide) (Nat.le_of_ble_eq_true rfl) hh rfl rfl (Nat.le_of_ble_eq_true rfl) ⟨Nat.le_of_ble_eq_true rfl, Nat.le_of_ble_eq_true rfl⟩ (fun k h' hp => ?_) H (fun r h4 hp => ?_)
  · obtain ⟨hv, -⟩ := hp; cases hv
  obtain ⟨rfl, H⟩ := hp
  show am_J l g mX9_feed (d + 1) (0, 0, x) 15 [(0, .ref a0), (1, .long l1), (3, .long l3), (5, .long l5)] [] h4 Q
  refine J_aload_n dX9_feed_15 0 rfl ?_
  refine J_lload dX9_feed_16 3 rfl ?_
  obtain ⟨⟨fs, hh⟩, H⟩ := H
  refine J_callV (As := [.long l5]) (S := []) (b := a0) dX9_feed_18 mX9_lay_ok kX9_7 rfl (by decide) (Nat.le_of_ble_eq_true rfl) hh rfl rfl (Nat.le_of_ble_eq_true rfl) ⟨Nat.le_of_ble_eq_true rfl, Nat.le_of_ble_eq_true rfl⟩ (fun k h' hp => ?_) H (fun r h6 hp => ?_)
  · obtain ⟨hv, -⟩ := hp; cases hv
  obtain ⟨rfl, H⟩ := hp
  show am_J l g mX9_feed (d + 1) (0, 0, x) 21 [(0, .ref a0), (1, .long l1), (3, .long l3), (5, .long l5)] [] h6 Q
  refine J_aload_n dX9_feed_21 0 rfl ?_
  obtain ⟨fs, v8, hh, hk, H⟩ := H
  refine J_get dX9_feed_22 fX9_11 hh hk ?_
  clear hh hk
  exact J_iret dX9_feed_25 ⟨_, rfl, rfl⟩ ⟨Nat.le_of_ble_eq_true rfl, Nat.le_of_ble_eq_true rfl, fun _ => rfl⟩ H
theorem eX9_feed {l : Launch} {g : am_G} {d : Nat} {x : Bool} {a0 : Nat} {l1 : Int64} {l3 : Int64} {l5 : Int64} {h : am_H} {K : Int32 → am_H → Prop} (H : zX9_feed_0 l g d x a0 l1 l3 l5 h (fun r h' => ∃ v, r = some (.int v) ∧ K v h')) : cl_I l g mX9_feed (d + 1) x [.ref a0, .long l1, .long l3, .long l5] h K := rX9_feed_0 H
def zX9_lay_69 (l : Launch) (g : am_G) (d : Nat) (x : Bool) (a0 : Nat) (l1 : Int64) (i3 : Int32) (h : am_H) (Q : Option Value → am_H → Prop) : Prop := am_J l g mX9_lay d (0, 0, x) 3 [(0, .ref a0), (1, .long l1), (3, .int (i3 + (-8)))] [] h Q
set_option maxRecDepth 4000 in
theorem rX9_lay_69 {l : Launch} {g : am_G} {d : Nat} {x : Bool} {a0 : Nat} {l1 : Int64} {i3 : Int32} {h : am_H} {Q : Option Value → am_H → Prop} (H : zX9_lay_69 l g d x a0 l1 i3 h Q) : am_J l g mX9_lay d (0, 0, x) 69 [(0, .ref a0), (1, .long l1), (3, .int i3)] [] h Q := by
  unfold zX9_lay_69 at H
  refine J_iinc (v := (i3 + (-8))) (L' := [(3, .int (i3 + (-8))), (0, .ref a0), (1, .long l1)]) dX9_lay_69 2 rfl rfl (by decide) rfl ?_
  refine J_goto (tgt := 3) dX9_lay_72 (by decide) ?_
  exact J_pick [1, 2, 0] rfl H
def zX9_lay_38 (l : Launch) (g : am_G) (d : Nat) (x : Bool) (a0 : Nat) (l1 : Int64) (i3 : Int32) (i4 : Int32) (h : am_H) (Q : Option Value → am_H → Prop) : Prop := gt_I h a0 9 2 (fun v1 => ((1000 ≤ v1 → zX9_lay_69 l g d x a0 l1 i3  h Q) ∧ (¬ 1000 ≤ v1 → gt_R h a0 9 1 (fun v2 => gt_I h a0 9 2 (fun v3 => as_I 0 h v2 v3 i4 (fun h4 => gt_I h4 a0 9 2 (fun v5 => pt_V h4 a0 9 2 (.int (v5 + 1)) (fun h6 => zX9_lay_69 l g d x a0 l1 i3  h6 Q))))))))
set_option maxRecDepth 4000 in
theorem rX9_lay_38 {l : Launch} {g : am_G} {d : Nat} {x : Bool} {a0 : Nat} {l1 : Int64} {i3 : Int32} {i4 : Int32} {h : am_H} {Q : Option Value → am_H → Prop} (H : zX9_lay_38 l g d x a0 l1 i3 i4 h Q) : am_J l g mX9_lay d (0, 0, x) 38 [(0, .ref a0), (1, .long l1), (3, .int i3), (4, .int i4)] [] h Q := by
  unfold zX9_lay_38 at H
  refine J_aload_n dX9_lay_38 0 rfl ?_
  obtain ⟨fs, v1, hh, hk, H⟩ := H
  refine J_get dX9_lay_39 fX9_11 hh hk ?_
  clear hh hk
  refine J_sipush (v := 1000) dX9_lay_42 (by decide) ?_
  obtain ⟨H1, H2⟩ := H
  refine J_icmp_ge (tgt := 69) dX9_lay_45 (by decide) (fun hc => ?_) (fun hc => ?_)
  · replace H := H1 hc
    clear H1 H2
    exact J_pick [0, 1, 2] rfl (rX9_lay_69 H)
  · replace H := H2 hc
    clear H1 H2
    refine J_aload_n dX9_lay_48 0 rfl ?_
    obtain ⟨fs, v2, hh, hk, H⟩ := H
    refine J_get dX9_lay_49 fX9_14 hh hk ?_
    clear hh hk
    refine J_aload_n dX9_lay_52 0 rfl ?_
    obtain ⟨fs, v3, hh, hk, H⟩ := H
    refine J_get dX9_lay_53 fX9_11 hh hk ?_
    clear hh hk
    refine J_iload dX9_lay_56 3 rfl ?_
    obtain ⟨nn, ff, hh, hk, H⟩ := H
    refine J_iast dX9_lay_58 hh hk ?_
    generalize List.set h v2 (am_I 0 nn (upd ff (Int32.toNatClampNeg v3) i4)) = h4 at H ⊢
    clear hh hk
    refine J_aload_n dX9_lay_59 0 rfl ?_
    refine J_dup dX9_lay_60 rfl ?_
    obtain ⟨fs, v5, hh, hk, H⟩ := H
    refine J_get dX9_lay_61 fX9_11 hh hk ?_
    clear hh hk
    refine J_iconst (v := 1) dX9_lay_64 (by decide) ?_
    refine J_iadd dX9_lay_65 ?_
    obtain ⟨fs, hh, hk, H⟩ := H
    refine J_put dX9_lay_66 fX9_11 rfl rfl hh hk ?_
    generalize List.set h4 a0 (am_O 9 (List.set fs 2 (.int (v5 + 1)))) = h6 at H ⊢
    clear hh hk
    exact J_pick [0, 1, 2] rfl (rX9_lay_69 H)
def zX9_lay_3 (l : Launch) (g : am_G) (d : Nat) (x : Bool) (a0 : Nat) (l1 : Int64) (i3 : Int32) (h : am_H) (Q : Option Value → am_H → Prop) : Prop := ((i3 < 0 → Q none h) ∧ (¬ i3 < 0 → ((((Int64.toInt32 ((l1 : Int64) >>> (Int32.toInt64 i3 &&& (63 : Int64)))) &&& 255) = 10 → zX9_lay_38 l g d x a0 l1 i3 ((Int64.toInt32 ((l1 : Int64) >>> (Int32.toInt64 i3 &&& (63 : Int64)))) &&& 255)  h Q) ∧ (¬ ((Int64.toInt32 ((l1 : Int64) >>> (Int32.toInt64 i3 &&& (63 : Int64)))) &&& 255) = 10 → ((((Int64.toInt32 ((l1 : Int64) >>> (Int32.toInt64 i3 &&& (63 : Int64)))) &&& 255) < 32 → zX9_lay_69 l g d x a0 l1 i3  h Q) ∧ (¬ ((Int64.toInt32 ((l1 : Int64) >>> (Int32.toInt64 i3 &&& (63 : Int64)))) &&& 255) < 32 → ((126 < ((Int64.toInt32 ((l1 : Int64) >>> (Int32.toInt64 i3 &&& (63 : Int64)))) &&& 255) → zX9_lay_69 l g d x a0 l1 i3  h Q) ∧ (¬ 126 < ((Int64.toInt32 ((l1 : Int64) >>> (Int32.toInt64 i3 &&& (63 : Int64)))) &&& 255) → zX9_lay_38 l g d x a0 l1 i3 ((Int64.toInt32 ((l1 : Int64) >>> (Int32.toInt64 i3 &&& (63 : Int64)))) &&& 255)  h Q))))))))
set_option maxRecDepth 4000 in
theorem rX9_lay_3 {l : Launch} {g : am_G} {d : Nat} {x : Bool} {a0 : Nat} {l1 : Int64} {i3 : Int32} {h : am_H} {Q : Option Value → am_H → Prop} (H : zX9_lay_3 l g d x a0 l1 i3 h Q) : am_J l g mX9_lay d (0, 0, x) 3 [(0, .ref a0), (1, .long l1), (3, .int i3)] [] h Q := by
  unfold zX9_lay_3 at H
  refine J_iload_n dX9_lay_3 2 rfl ?_
  obtain ⟨H1, H2⟩ := H
  refine J_if_lt (tgt := 75) dX9_lay_4 (by decide) (fun hc => ?_) (fun hc => ?_)
  · replace H := H1 hc
    clear H1 H2
    exact J_vret dX9_lay_75 rfl ⟨Nat.le_of_ble_eq_true rfl, Nat.le_of_ble_eq_true rfl, fun _ => rfl⟩ H
  · replace H := H2 hc
    clear H1 H2
    refine J_lload_n dX9_lay_7 1 rfl ?_
    refine J_iload_n dX9_lay_8 2 rfl ?_
    refine J_lshr dX9_lay_9 ?_
    refine J_l2i dX9_lay_10 ?_
    refine J_sipush (v := 255) dX9_lay_11 (by decide) ?_
    refine J_iand dX9_lay_14 ?_
    refine J_istore (L' := [(4, .int ((Int64.toInt32 ((l1 : Int64) >>> (Int32.toInt64 i3 &&& (63 : Int64)))) &&& 255)), (0, .ref a0), (1, .long l1), (3, .int i3)]) dX9_lay_15 (by decide) rfl ?_
    refine J_iload dX9_lay_17 0 rfl ?_
    refine J_bipush (v := 10) dX9_lay_19 (by decide) ?_
    obtain ⟨H1, H2⟩ := H
    refine J_icmp_eq (tgt := 38) dX9_lay_21 (by decide) (fun hc => ?_) (fun hc => ?_)
    · replace H := H1 hc
      clear H1 H2
      exact J_pick [1, 2, 3, 0] rfl (rX9_lay_38 H)
    · replace H := H2 hc
      clear H1 H2
      refine J_iload dX9_lay_24 0 rfl ?_
      refine J_bipush (v := 32) dX9_lay_26 (by decide) ?_
      obtain ⟨H1, H2⟩ := H
      refine J_icmp_lt (tgt := 69) dX9_lay_28 (by decide) (fun hc => ?_) (fun hc => ?_)
      · replace H := H1 hc
        clear H1 H2
        exact J_pick [1, 2, 3] rfl (rX9_lay_69 H)
      · replace H := H2 hc
        clear H1 H2
        refine J_iload dX9_lay_31 0 rfl ?_
        refine J_bipush (v := 126) dX9_lay_33 (by decide) ?_
        obtain ⟨H1, H2⟩ := H
        refine J_icmp_gt (tgt := 69) dX9_lay_35 (by decide) (fun hc => ?_) (fun hc => ?_)
        · replace H := H1 hc
          clear H1 H2
          exact J_pick [1, 2, 3] rfl (rX9_lay_69 H)
        · replace H := H2 hc
          clear H1 H2
          exact J_pick [1, 2, 3, 0] rfl (rX9_lay_38 H)
def zX9_lay_0 (l : Launch) (g : am_G) (d : Nat) (x : Bool) (a0 : Nat) (l1 : Int64) (h : am_H) (Q : Option Value → am_H → Prop) : Prop := am_J l g mX9_lay d (0, 0, x) 3 [(0, .ref a0), (1, .long l1), (3, .int 56)] [] h Q
set_option maxRecDepth 4000 in
theorem rX9_lay_0 {l : Launch} {g : am_G} {d : Nat} {x : Bool} {a0 : Nat} {l1 : Int64} {h : am_H} {Q : Option Value → am_H → Prop} (H : zX9_lay_0 l g d x a0 l1 h Q) : am_J l g mX9_lay d (0, 0, x) 0 [(0, .ref a0), (1, .long l1)] [] h Q := by
  unfold zX9_lay_0 at H
  refine J_bipush (v := 56) dX9_lay_0 (by decide) ?_
  refine J_istore_n (L' := [(3, .int 56), (0, .ref a0), (1, .long l1)]) dX9_lay_2 (by decide) rfl ?_
  exact J_pick [1, 2, 0] rfl H
theorem eX9_lay {l : Launch} {g : am_G} {d : Nat} {x : Bool} {a0 : Nat} {l1 : Int64} {h : am_H} {K : am_H → Prop} (H : zX9_lay_0 l g d x a0 l1 h (fun r h' => r = none ∧ K h')) : cl_N l g mX9_lay d x [.ref a0, .long l1] h K := rX9_lay_0 H
