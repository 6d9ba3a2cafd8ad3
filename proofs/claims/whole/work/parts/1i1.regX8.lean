def zX8_roomFor_0 (l : Launch) (g : am_G) (d : Nat) (x : Bool) (i0 : Int32) (h : am_H) (Q : Option Value → am_H → Prop) : Prop := (((9 - 1) < i0 → (vp_in (9 - 1) 9 ∧ Q (some (.int ((am_room (Int32.toNatClampNeg (9 - 1))) + (400 * (i0 - (9 - 1)))))) h)) ∧ (¬ (9 - 1) < i0 → (vp_in i0 9 ∧ Q (some (.int (am_room (Int32.toNatClampNeg i0)))) h)))
set_option maxRecDepth 4000 in
theorem rX8_roomFor_0 {l : Launch} {g : am_G} {d : Nat} {x : Bool} {i0 : Int32} {h : am_H} {Q : Option Value → am_H → Prop} (H : zX8_roomFor_0 l g d x i0 h Q) : am_J l g mX8_roomFor d (0, 0, x) 0 [(0, .int i0)] [] h Q := by
  unfold zX8_roomFor_0 at H
  refine J_gets dX8_roomFor_0 fROOM ?_
  refine J_tlen dX8_roomFor_3 ?_
  refine J_iconst (v := 1) dX8_roomFor_4 (by decide) ?_
  refine J_isub dX8_roomFor_5 ?_
  refine J_istore_n (L' := [(1, .int (9 - 1)), (0, .int i0)]) dX8_roomFor_6 (by decide) rfl ?_
  refine J_iload_n dX8_roomFor_7 1 rfl ?_
  refine J_iload_n dX8_roomFor_8 0 rfl ?_
  obtain ⟨H1, H2⟩ := H
  refine J_icmp_gt (tgt := 18) dX8_roomFor_9 (by decide) (fun hc => ?_) (fun hc => ?_)
  · replace H := H1 hc
    clear H1 H2
    refine J_gets dX8_roomFor_18 fROOM ?_
    refine J_iload_n dX8_roomFor_21 0 rfl ?_
    obtain ⟨hk, H⟩ := H
    refine J_tld dX8_roomFor_22 hk ?_
    refine J_sipush (v := 400) dX8_roomFor_23 (by decide) ?_
    refine J_iload_n dX8_roomFor_26 1 rfl ?_
    refine J_iload_n dX8_roomFor_27 0 rfl ?_
    refine J_isub dX8_roomFor_28 ?_
    refine J_imul dX8_roomFor_29 ?_
    refine J_iadd dX8_roomFor_30 ?_
    exact J_iret dX8_roomFor_31 ⟨_, rfl, rfl⟩ ⟨Nat.le_of_ble_eq_true rfl, Nat.le_of_ble_eq_true rfl, fun _ => rfl⟩ H
  · replace H := H2 hc
    clear H1 H2
    refine J_gets dX8_roomFor_12 fROOM ?_
    refine J_iload_n dX8_roomFor_15 1 rfl ?_
    obtain ⟨hk, H⟩ := H
    refine J_tld dX8_roomFor_16 hk ?_
    exact J_iret dX8_roomFor_17 ⟨_, rfl, rfl⟩ ⟨Nat.le_of_ble_eq_true rfl, Nat.le_of_ble_eq_true rfl, fun _ => rfl⟩ H
theorem eX8_roomFor {l : Launch} {g : am_G} {d : Nat} {x : Bool} {i0 : Int32} {h : am_H} {K : Int32 → am_H → Prop} (H : zX8_roomFor_0 l g d x i0 h (fun r h' => ∃ v, r = some (.int v) ∧ K v h')) : cl_I l g mX8_roomFor d x [.int i0] h K := rX8_roomFor_0 H
def zX8_bindingRings_37 (l : Launch) (g : am_G) (d : Nat) (x : Bool) (a0 : Nat) (i1 : Int32) (i2 : Int32) (h : am_H) (Q : Option Value → am_H → Prop) : Prop := am_J l g mX8_bindingRings (d + 1) (0, 0, x) 4 [(0, .ref a0), (1, .int i1), (2, .int (i2 + 1))] [] h Q
set_option maxRecDepth 4000 in
theorem rX8_bindingRings_37 {l : Launch} {g : am_G} {d : Nat} {x : Bool} {a0 : Nat} {i1 : Int32} {i2 : Int32} {h : am_H} {Q : Option Value → am_H → Prop} (H : zX8_bindingRings_37 l g d x a0 i1 i2 h Q) : am_J l g mX8_bindingRings (d + 1) (0, 0, x) 37 [(0, .ref a0), (1, .int i1), (2, .int i2)] [] h Q := by
  unfold zX8_bindingRings_37 at H
  refine J_iinc (v := (i2 + 1)) (L' := [(2, .int (i2 + 1)), (0, .ref a0), (1, .int i1)]) dX8_bindingRings_37 2 rfl rfl (by decide) rfl ?_
  refine J_goto (tgt := 4) dX8_bindingRings_40 (by decide) ?_
  exact J_pick [1, 2, 0] rfl H
def zX8_bindingRings_4 (l : Launch) (g : am_G) (d : Nat) (x : Bool) (a0 : Nat) (i1 : Int32) (i2 : Int32) (h : am_H) (Q : Option Value → am_H → Prop) : Prop := gt_R h a0 8 2 (fun v1 => gt_I h v1 0 7 (fun v2 => ((v2 ≤ i2 → Q (some (.int i1)) h) ∧ (¬ v2 ≤ i2 → gt_R h a0 8 2 (fun v3 => cv_I l g mX0_isThere d x 0 v3 [.int i2] h (fun v5 h4 => ((v5 = 0 → zX8_bindingRings_37 l g d x a0 i1 i2  h4 Q) ∧ (¬ v5 = 0 → cv_I l g mX8_binds d x 8 a0 [.int i2] h4 (fun v7 h6 => ((v7 = 0 → zX8_bindingRings_37 l g d x a0 i1 i2  h6 Q) ∧ (¬ v7 = 0 → zX8_bindingRings_37 l g d x a0 (i1 + 1) i2  h6 Q)))))))))))
set_option maxRecDepth 4000 in
theorem rX8_bindingRings_4 {l : Launch} {g : am_G} {d : Nat} {x : Bool} {a0 : Nat} {i1 : Int32} {i2 : Int32} {h : am_H} {Q : Option Value → am_H → Prop} (H : zX8_bindingRings_4 l g d x a0 i1 i2 h Q) : am_J l g mX8_bindingRings (d + 1) (0, 0, x) 4 [(0, .ref a0), (1, .int i1), (2, .int i2)] [] h Q := by
  unfold zX8_bindingRings_4 at H
  refine J_iload_n dX8_bindingRings_4 2 rfl ?_
  refine J_aload_n dX8_bindingRings_5 0 rfl ?_
  obtain ⟨fs, v1, hh, hk, H⟩ := H
  refine J_get dX8_bindingRings_6 fX8_33 hh hk ?_
  clear hh hk
  obtain ⟨fs, v2, hh, hk, H⟩ := H
  refine J_get dX8_bindingRings_9 fX8_100 hh hk ?_
  clear hh hk
  obtain ⟨H1, H2⟩ := H
  refine J_icmp_ge (tgt := 43) dX8_bindingRings_12 (by decide) (fun hc => ?_) (fun hc => ?_)
  · replace H := H1 hc
    clear H1 H2
    refine J_iload_n dX8_bindingRings_43 1 rfl ?_
    exact J_iret dX8_bindingRings_44 ⟨_, rfl, rfl⟩ ⟨Nat.le_of_ble_eq_true rfl, Nat.le_of_ble_eq_true rfl, fun _ => rfl⟩ H
  · replace H := H2 hc
    clear H1 H2
    refine J_aload_n dX8_bindingRings_15 0 rfl ?_
    obtain ⟨fs, v3, hh, hk, H⟩ := H
    refine J_get dX8_bindingRings_16 fX8_33 hh hk ?_
    clear hh hk
    refine J_iload_n dX8_bindingRings_19 2 rfl ?_
    obtain ⟨⟨fs, hh⟩, H⟩ := H
    refine J_callV (As := [.int i2]) (S := []) (b := v3) dX8_bindingRings_20 mX0_isThere_ok kX8_111 rfl (by decide) (Nat.le_of_ble_eq_true rfl) hh rfl rfl (Nat.le_of_ble_eq_true rfl) ⟨Nat.le_of_ble_eq_true rfl, Nat.le_of_ble_eq_true rfl⟩ (fun k h' hp => ?_) H (fun r h4 hp => ?_)
    · obtain ⟨_, hv, -⟩ := hp; cases hv
    obtain ⟨v5, rfl, H⟩ := hp
    show am_J l g mX8_bindingRings (d + 1) (0, 0, x) 23 [(0, .ref a0), (1, .int i1), (2, .int i2)] [.int v5] h4 Q
    obtain ⟨H1, H2⟩ := H
    refine J_if_eq (tgt := 37) dX8_bindingRings_23 (by decide) (fun hc => ?_) (fun hc => ?_)
    · replace H := H1 hc
      clear H1 H2
      exact J_pick [0, 1, 2] rfl (rX8_bindingRings_37 H)
    · replace H := H2 hc
      clear H1 H2
      refine J_aload_n dX8_bindingRings_26 0 rfl ?_
      refine J_iload_n dX8_bindingRings_27 2 rfl ?_
      obtain ⟨⟨fs, hh⟩, H⟩ := H
      refine J_callV (As := [.int i2]) (S := []) (b := a0) dX8_bindingRings_28 mX8_binds_ok kX8_212 rfl (by decide) (Nat.le_of_ble_eq_true rfl) hh rfl rfl (Nat.le_of_ble_eq_true rfl) ⟨Nat.le_of_ble_eq_true rfl, Nat.le_of_ble_eq_true rfl⟩ (fun k h' hp => ?_) H (fun r h6 hp => ?_)
      · obtain ⟨_, hv, -⟩ := hp; cases hv
      obtain ⟨v7, rfl, H⟩ := hp
      show am_J l g mX8_bindingRings (d + 1) (0, 0, x) 31 [(0, .ref a0), (1, .int i1), (2, .int i2)] [.int v7] h6 Q
      obtain ⟨H1, H2⟩ := H
      refine J_if_eq (tgt := 37) dX8_bindingRings_31 (by decide) (fun hc => ?_) (fun hc => ?_)
      · replace H := H1 hc
        clear H1 H2
        exact J_pick [0, 1, 2] rfl (rX8_bindingRings_37 H)
      · replace H := H2 hc
        clear H1 H2
        refine J_iinc (v := (i1 + 1)) (L' := [(1, .int (i1 + 1)), (0, .ref a0), (2, .int i2)]) dX8_bindingRings_34 1 rfl rfl (by decide) rfl ?_
        exact J_pick [1, 0, 2] rfl (rX8_bindingRings_37 H)
def zX8_bindingRings_0 (l : Launch) (g : am_G) (d : Nat) (x : Bool) (a0 : Nat) (h : am_H) (Q : Option Value → am_H → Prop) : Prop := am_J l g mX8_bindingRings (d + 1) (0, 0, x) 4 [(0, .ref a0), (1, .int 0), (2, .int 0)] [] h Q
set_option maxRecDepth 4000 in
theorem rX8_bindingRings_0 {l : Launch} {g : am_G} {d : Nat} {x : Bool} {a0 : Nat} {h : am_H} {Q : Option Value → am_H → Prop} (H : zX8_bindingRings_0 l g d x a0 h Q) : am_J l g mX8_bindingRings (d + 1) (0, 0, x) 0 [(0, .ref a0)] [] h Q := by
  unfold zX8_bindingRings_0 at H
  refine J_iconst (v := 0) dX8_bindingRings_0 (by decide) ?_
  refine J_istore_n (L' := [(1, .int 0), (0, .ref a0)]) dX8_bindingRings_1 (by decide) rfl ?_
  refine J_iconst (v := 0) dX8_bindingRings_2 (by decide) ?_
  refine J_istore_n (L' := [(2, .int 0), (1, .int 0), (0, .ref a0)]) dX8_bindingRings_3 (by decide) rfl ?_
  exact J_pick [2, 1, 0] rfl H
theorem eX8_bindingRings {l : Launch} {g : am_G} {d : Nat} {x : Bool} {a0 : Nat} {h : am_H} {K : Int32 → am_H → Prop} (H : zX8_bindingRings_0 l g d x a0 h (fun r h' => ∃ v, r = some (.int v) ∧ K v h')) : cl_I l g mX8_bindingRings (d + 1) x [.ref a0] h K := rX8_bindingRings_0 H
def zX8_wireOfAll_0 (l : Launch) (g : am_G) (d : Nat) (x : Bool) (a0 : Nat) (h : am_H) (Q : Option Value → am_H → Prop) : Prop := gt_I h a0 8 8 (fun v1 => gt_I h a0 8 7 (fun v2 => gt_R h a0 8 2 (fun v3 => cv_I l g mX0_ringsThere d x 0 v3 [] h (fun v5 h4 => Q (some (.int ((((v1 + v2) * 355) / 113) * v5))) h4))))
set_option maxRecDepth 4000 in
theorem rX8_wireOfAll_0 {l : Launch} {g : am_G} {d : Nat} {x : Bool} {a0 : Nat} {h : am_H} {Q : Option Value → am_H → Prop} (H : zX8_wireOfAll_0 l g d x a0 h Q) : am_J l g mX8_wireOfAll (d + 1) (0, 0, x) 0 [(0, .ref a0)] [] h Q := by
  unfold zX8_wireOfAll_0 at H
  refine J_aload_n dX8_wireOfAll_0 0 rfl ?_
  obtain ⟨fs, v1, hh, hk, H⟩ := H
  refine J_get dX8_wireOfAll_1 fX8_69 hh hk ?_
  clear hh hk
  refine J_aload_n dX8_wireOfAll_4 0 rfl ?_
  obtain ⟨fs, v2, hh, hk, H⟩ := H
  refine J_get dX8_wireOfAll_5 fX8_65 hh hk ?_
  clear hh hk
  refine J_iadd dX8_wireOfAll_8 ?_
  refine J_sipush (v := 355) dX8_wireOfAll_9 (by decide) ?_
  refine J_imul dX8_wireOfAll_12 ?_
  refine J_bipush (v := 113) dX8_wireOfAll_13 (by decide) ?_
  refine J_idiv dX8_wireOfAll_15 (by decide) ?_
  refine J_aload_n dX8_wireOfAll_16 0 rfl ?_
  obtain ⟨fs, v3, hh, hk, H⟩ := H
  refine J_get dX8_wireOfAll_17 fX8_33 hh hk ?_
  clear hh hk
  obtain ⟨⟨fs, hh⟩, H⟩ := H
  refine J_callV (As := []) (S := [.int (((v1 + v2) * 355) / 113)]) (b := v3) dX8_wireOfAll_20 mX0_ringsThere_ok kX8_175 rfl (by decide) (Nat.le_of_ble_eq_true rfl) hh rfl rfl (Nat.le_of_ble_eq_true rfl) ⟨Nat.le_of_ble_eq_true rfl, Nat.le_of_ble_eq_true rfl⟩ (fun k h' hp => ?_) H (fun r h4 hp => ?_)
  · obtain ⟨_, hv, -⟩ := hp; cases hv
  obtain ⟨v5, rfl, H⟩ := hp
  show am_J l g mX8_wireOfAll (d + 1) (0, 0, x) 23 [(0, .ref a0)] [.int v5, .int (((v1 + v2) * 355) / 113)] h4 Q
  refine J_imul dX8_wireOfAll_23 ?_
  exact J_iret dX8_wireOfAll_24 ⟨_, rfl, rfl⟩ ⟨Nat.le_of_ble_eq_true rfl, Nat.le_of_ble_eq_true rfl, fun _ => rfl⟩ H
theorem eX8_wireOfAll {l : Launch} {g : am_G} {d : Nat} {x : Bool} {a0 : Nat} {h : am_H} {K : Int32 → am_H → Prop} (H : zX8_wireOfAll_0 l g d x a0 h (fun r h' => ∃ v, r = some (.int v) ∧ K v h')) : cl_I l g mX8_wireOfAll (d + 1) x [.ref a0] h K := rX8_wireOfAll_0 H
def zX8_weightOfAll_0 (l : Launch) (g : am_G) (d : Nat) (x : Bool) (a0 : Nat) (h : am_H) (Q : Option Value → am_H → Prop) : Prop := cv_I l g mX8_wireOfAll d x 8 a0 [] h (fun v2 h1 => gt_I h1 a0 8 7 (fun v3 => gt_I h1 a0 8 7 (fun v4 => gt_I h1 a0 8 9 (fun v5 => Q (some (.int (Int64.toInt32 (((((Int32.toInt64 v2) * (Int32.toInt64 v3)) * (Int32.toInt64 v4)) * (Int32.toInt64 v5)) / 1000000)))) h1))))
set_option maxRecDepth 4000 in
theorem rX8_weightOfAll_0 {l : Launch} {g : am_G} {d : Nat} {x : Bool} {a0 : Nat} {h : am_H} {Q : Option Value → am_H → Prop} (H : zX8_weightOfAll_0 l g d x a0 h Q) : am_J l g mX8_weightOfAll (d + 1) (0, 0, x) 0 [(0, .ref a0)] [] h Q := by
  unfold zX8_weightOfAll_0 at H
  refine J_aload_n dX8_weightOfAll_0 0 rfl ?_
  obtain ⟨⟨fs, hh⟩, H⟩ := H
  refine J_callV (As := []) (S := []) (b := a0) dX8_weightOfAll_1 mX8_wireOfAll_ok kX8_194 rfl (by decide) (Nat.le_of_ble_eq_true rfl) hh rfl rfl (Nat.le_of_ble_eq_true rfl) ⟨Nat.le_of_ble_eq_true rfl, Nat.le_of_ble_eq_true rfl⟩ (fun k h' hp => ?_) H (fun r h1 hp => ?_)
  · obtain ⟨_, hv, -⟩ := hp; cases hv
  obtain ⟨v2, rfl, H⟩ := hp
  show am_J l g mX8_weightOfAll (d + 1) (0, 0, x) 4 [(0, .ref a0)] [.int v2] h1 Q
  refine J_i2l dX8_weightOfAll_4 ?_
  refine J_aload_n dX8_weightOfAll_5 0 rfl ?_
  obtain ⟨fs, v3, hh, hk, H⟩ := H
  refine J_get dX8_weightOfAll_6 fX8_65 hh hk ?_
  clear hh hk
  refine J_i2l dX8_weightOfAll_9 ?_
  refine J_lmul dX8_weightOfAll_10 ?_
  refine J_aload_n dX8_weightOfAll_11 0 rfl ?_
  obtain ⟨fs, v4, hh, hk, H⟩ := H
  refine J_get dX8_weightOfAll_12 fX8_65 hh hk ?_
  clear hh hk
  refine J_i2l dX8_weightOfAll_15 ?_
  refine J_lmul dX8_weightOfAll_16 ?_
  refine J_aload_n dX8_weightOfAll_17 0 rfl ?_
  obtain ⟨fs, v5, hh, hk, H⟩ := H
  refine J_get dX8_weightOfAll_18 fX8_72 hh hk ?_
  clear hh hk
  refine J_i2l dX8_weightOfAll_21 ?_
  refine J_lmul dX8_weightOfAll_22 ?_
  refine J_ldc2 (v := 1000000) dX8_weightOfAll_23 qX8_231 ?_
  refine J_ldiv dX8_weightOfAll_26 (by decide) ?_
  refine J_l2i dX8_weightOfAll_27 ?_
  exact J_iret dX8_weightOfAll_28 ⟨_, rfl, rfl⟩ ⟨Nat.le_of_ble_eq_true rfl, Nat.le_of_ble_eq_true rfl, fun _ => rfl⟩ H
theorem eX8_weightOfAll {l : Launch} {g : am_G} {d : Nat} {x : Bool} {a0 : Nat} {h : am_H} {K : Int32 → am_H → Prop} (H : zX8_weightOfAll_0 l g d x a0 h (fun r h' => ∃ v, r = some (.int v) ∧ K v h')) : cl_I l g mX8_weightOfAll (d + 1) x [.ref a0] h K := rX8_weightOfAll_0 H
def zX8_isSide_0 (l : Launch) (g : am_G) (d : Nat) (x : Bool) (i0 : Int32) (h : am_H) (Q : Option Value → am_H → Prop) : Prop := cs_I l g mX8_isWithin d x [.int i0, .int 12] h (fun v2 h1 => ((v2 = 0 ∨ v2 = 1) ∧ Q (some (.int v2)) h1))
set_option maxRecDepth 4000 in
theorem rX8_isSide_0 {l : Launch} {g : am_G} {d : Nat} {x : Bool} {i0 : Int32} {h : am_H} {Q : Option Value → am_H → Prop} (H : zX8_isSide_0 l g d x i0 h Q) : am_J l g mX8_isSide (d + 1) (0, 0, x) 0 [(0, .int i0)] [] h Q := by
  unfold zX8_isSide_0 at H
  refine J_iload_n dX8_isSide_0 0 rfl ?_
  refine J_bipush (v := 12) dX8_isSide_1 (by decide) ?_
  refine J_callS (As := [.int i0, .int 12]) (S := []) dX8_isSide_3 mX8_isWithin_ok kX8_172 rfl (by decide) (Nat.le_of_ble_eq_true rfl) rfl (Nat.le_of_ble_eq_true rfl) ⟨Nat.le_of_ble_eq_true rfl, Nat.le_of_ble_eq_true rfl⟩ (fun k h' hp => ?_) H (fun r h1 hp => ?_)
  · obtain ⟨_, hv, -⟩ := hp; cases hv
  obtain ⟨v2, rfl, H⟩ := hp
  show am_J l g mX8_isSide (d + 1) (0, 0, x) 6 [(0, .int i0)] [.int v2] h1 Q
  obtain ⟨hb, H⟩ := H
  exact J_iret dX8_isSide_6 (am_nar01 rfl hb) ⟨Nat.le_of_ble_eq_true rfl, Nat.le_of_ble_eq_true rfl, fun _ => rfl⟩ H
theorem eX8_isSide {l : Launch} {g : am_G} {d : Nat} {x : Bool} {i0 : Int32} {h : am_H} {K : Int32 → am_H → Prop} (H : zX8_isSide_0 l g d x i0 h (fun r h' => ∃ v, r = some (.int v) ∧ K v h')) : cl_I l g mX8_isSide (d + 1) x [.int i0] h K := rX8_isSide_0 H
def zX8_isWithin_0 (l : Launch) (g : am_G) (d : Nat) (x : Bool) (i0 : Int32) (i1 : Int32) (h : am_H) (Q : Option Value → am_H → Prop) : Prop := ((i0 < 1 → Q (some (.int 0)) h) ∧ (¬ i0 < 1 → ((i1 < i0 → Q (some (.int 0)) h) ∧ (¬ i1 < i0 → Q (some (.int 1)) h))))
set_option maxRecDepth 4000 in
theorem rX8_isWithin_0 {l : Launch} {g : am_G} {d : Nat} {x : Bool} {i0 : Int32} {i1 : Int32} {h : am_H} {Q : Option Value → am_H → Prop} (H : zX8_isWithin_0 l g d x i0 i1 h Q) : am_J l g mX8_isWithin d (0, 0, x) 0 [(0, .int i0), (1, .int i1)] [] h Q := by
  unfold zX8_isWithin_0 at H
  refine J_iload_n dX8_isWithin_0 0 rfl ?_
  refine J_iconst (v := 1) dX8_isWithin_1 (by decide) ?_
  obtain ⟨H1, H2⟩ := H
  refine J_icmp_lt (tgt := 14) dX8_isWithin_2 (by decide) (fun hc => ?_) (fun hc => ?_)
  · replace H := H1 hc
    clear H1 H2
    refine J_iconst (v := 0) dX8_isWithin_14 (by decide) ?_
    exact J_iret dX8_isWithin_15 ⟨_, rfl, rfl⟩ ⟨Nat.le_of_ble_eq_true rfl, Nat.le_of_ble_eq_true rfl, fun _ => rfl⟩ H
  · replace H := H2 hc
    clear H1 H2
    refine J_iload_n dX8_isWithin_5 0 rfl ?_
    refine J_iload_n dX8_isWithin_6 1 rfl ?_
    obtain ⟨H1, H2⟩ := H
    refine J_icmp_gt (tgt := 14) dX8_isWithin_7 (by decide) (fun hc => ?_) (fun hc => ?_)
    · replace H := H1 hc
      clear H1 H2
      refine J_iconst (v := 0) dX8_isWithin_14 (by decide) ?_
      exact J_iret dX8_isWithin_15 ⟨_, rfl, rfl⟩ ⟨Nat.le_of_ble_eq_true rfl, Nat.le_of_ble_eq_true rfl, fun _ => rfl⟩ H
    · replace H := H2 hc
      clear H1 H2
      refine J_iconst (v := 1) dX8_isWithin_10 (by decide) ?_
      refine J_goto (tgt := 15) dX8_isWithin_11 (by decide) ?_
      exact J_iret dX8_isWithin_15 ⟨_, rfl, rfl⟩ ⟨Nat.le_of_ble_eq_true rfl, Nat.le_of_ble_eq_true rfl, fun _ => rfl⟩ H
theorem eX8_isWithin {l : Launch} {g : am_G} {d : Nat} {x : Bool} {i0 : Int32} {i1 : Int32} {h : am_H} {K : Int32 → am_H → Prop} (H : zX8_isWithin_0 l g d x i0 i1 h (fun r h' => ∃ v, r = some (.int v) ∧ K v h')) : cl_I l g mX8_isWithin d x [.int i0, .int i1] h K := rX8_isWithin_0 H
def zX8_asNumber_0 (l : Launch) (g : am_G) (d : Nat) (x : Bool) (i0 : Int32) (h : am_H) (Q : Option Value → am_H → Prop) : Prop := ((i0 = 0 → Q (some (.int 0)) h) ∧ (¬ i0 = 0 → Q (some (.int 1)) h))
set_option maxRecDepth 4000 in
theorem rX8_asNumber_0 {l : Launch} {g : am_G} {d : Nat} {x : Bool} {i0 : Int32} {h : am_H} {Q : Option Value → am_H → Prop} (H : zX8_asNumber_0 l g d x i0 h Q) : am_J l g mX8_asNumber d (0, 0, x) 0 [(0, .int i0)] [] h Q := by
  unfold zX8_asNumber_0 at H
  refine J_iload_n dX8_asNumber_0 0 rfl ?_
  obtain ⟨H1, H2⟩ := H
  refine J_if_eq (tgt := 8) dX8_asNumber_1 (by decide) (fun hc => ?_) (fun hc => ?_)
  · replace H := H1 hc
    clear H1 H2
    refine J_iconst (v := 0) dX8_asNumber_8 (by decide) ?_
    exact J_iret dX8_asNumber_9 ⟨_, rfl, rfl⟩ ⟨Nat.le_of_ble_eq_true rfl, Nat.le_of_ble_eq_true rfl, fun _ => rfl⟩ H
  · replace H := H2 hc
    clear H1 H2
    refine J_iconst (v := 1) dX8_asNumber_4 (by decide) ?_
    refine J_goto (tgt := 9) dX8_asNumber_5 (by decide) ?_
    exact J_iret dX8_asNumber_9 ⟨_, rfl, rfl⟩ ⟨Nat.le_of_ble_eq_true rfl, Nat.le_of_ble_eq_true rfl, fun _ => rfl⟩ H
theorem eX8_asNumber {l : Launch} {g : am_G} {d : Nat} {x : Bool} {i0 : Int32} {h : am_H} {K : Int32 → am_H → Prop} (H : zX8_asNumber_0 l g d x i0 h (fun r h' => ∃ v, r = some (.int v) ∧ K v h')) : cl_I l g mX8_asNumber d x [.int i0] h K := rX8_asNumber_0 H
