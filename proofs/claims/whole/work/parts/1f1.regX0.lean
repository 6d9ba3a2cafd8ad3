def zX0_standsAsTold_0 (l : Launch) (g : am_G) (d : Nat) (x : Bool) (a0 : Nat) (i1 : Int32) (i2 : Int32) (i3 : Int32) (h : am_H) (Q : Option Value → am_H → Prop) : Prop := cv_I l g mX0_isOfLink d x 0 a0 [.int i1, .int i2, .int i3] h (fun v2 h1 => ((¬ v2 = 0 → cv_I l g mX0_otherAsTold d x 0 a0 [.int i1, .int i2, .int i3] h1 (fun v4 h3 => ((¬ v4 = (-1) → gt_R h3 a0 0 0 (fun v5 => gt_R h3 v5 7 4 (fun v6 => al_I 2 h3 v6 i2 (fun v7 => ((¬ v7 = i3 → gt_R h3 a0 0 2 (fun v8 => cv_I l g mX2_has d x 2 v8 [.int v4, .int i1] h3 (fun v10 h9 => ((v10 = 0 ∨ v10 = 1) ∧ Q (some (.int v10)) h9)))) ∧ (v7 = i3 → gt_R h3 a0 0 2 (fun v11 => cv_I l g mX2_has d x 2 v11 [.int i1, .int v4] h3 (fun v13 h12 => ((v13 = 0 ∨ v13 = 1) ∧ Q (some (.int v13)) h12))))))))) ∧ (v4 = (-1) → Q (some (.int 0)) h3)))) ∧ (v2 = 0 → Q (some (.int 1)) h1)))
set_option maxRecDepth 4000 in
theorem rX0_standsAsTold_0 {l : Launch} {g : am_G} {d : Nat} {x : Bool} {a0 : Nat} {i1 : Int32} {i2 : Int32} {i3 : Int32} {h : am_H} {Q : Option Value → am_H → Prop} (H : zX0_standsAsTold_0 l g d x a0 i1 i2 i3 h Q) : am_J l g mX0_standsAsTold (d + 1) (0, 0, x) 0 [(0, .ref a0), (1, .int i1), (2, .int i2), (3, .int i3)] [] h Q := by
  unfold zX0_standsAsTold_0 at H
  refine J_aload_n dX0_standsAsTold_0 0 rfl ?_
  refine J_iload_n dX0_standsAsTold_1 1 rfl ?_
  refine J_iload_n dX0_standsAsTold_2 2 rfl ?_
  refine J_iload_n dX0_standsAsTold_3 3 rfl ?_
  obtain ⟨⟨fs, hh⟩, H⟩ := H
  refine J_callV (As := [.int i1, .int i2, .int i3]) (S := []) (b := a0) dX0_standsAsTold_4 mX0_isOfLink_ok kX0_109 rfl (by decide) (Nat.le_of_ble_eq_true rfl) hh rfl rfl (Nat.le_of_ble_eq_true rfl) ⟨Nat.le_of_ble_eq_true rfl, Nat.le_of_ble_eq_true rfl⟩ (fun k h' hp => ?_) H (fun r h1 hp => ?_)
  · obtain ⟨_, hv, -⟩ := hp; cases hv
  obtain ⟨v2, rfl, H⟩ := hp
  show am_J l g mX0_standsAsTold (d + 1) (0, 0, x) 7 [(0, .ref a0), (1, .int i1), (2, .int i2), (3, .int i3)] [.int v2] h1 Q
  obtain ⟨H1, H2⟩ := H
  refine J_if_ne (tgt := 12) dX0_standsAsTold_7 (by decide) (fun hc => ?_) (fun hc => ?_)
  · replace H := H1 hc
    clear H1 H2
    refine J_aload_n dX0_standsAsTold_12 0 rfl ?_
    refine J_iload_n dX0_standsAsTold_13 1 rfl ?_
    refine J_iload_n dX0_standsAsTold_14 2 rfl ?_
    refine J_iload_n dX0_standsAsTold_15 3 rfl ?_
    obtain ⟨⟨fs, hh⟩, H⟩ := H
    refine J_callV (As := [.int i1, .int i2, .int i3]) (S := []) (b := a0) dX0_standsAsTold_16 mX0_otherAsTold_ok kX0_112 rfl (by decide) (Nat.le_of_ble_eq_true rfl) hh rfl rfl (Nat.le_of_ble_eq_true rfl) ⟨Nat.le_of_ble_eq_true rfl, Nat.le_of_ble_eq_true rfl⟩ (fun k h' hp => ?_) H (fun r h3 hp => ?_)
    · obtain ⟨_, hv, -⟩ := hp; cases hv
    obtain ⟨v4, rfl, H⟩ := hp
    show am_J l g mX0_standsAsTold (d + 1) (0, 0, x) 19 [(0, .ref a0), (1, .int i1), (2, .int i2), (3, .int i3)] [.int v4] h3 Q
    refine J_istore (L' := [(4, .int v4), (0, .ref a0), (1, .int i1), (2, .int i2), (3, .int i3)]) dX0_standsAsTold_19 (by decide) rfl ?_
    refine J_iload dX0_standsAsTold_21 0 rfl ?_
    refine J_iconst (v := (-1)) dX0_standsAsTold_23 (by decide) ?_
    obtain ⟨H1, H2⟩ := H
    refine J_icmp_ne (tgt := 29) dX0_standsAsTold_24 (by decide) (fun hc => ?_) (fun hc => ?_)
    · replace H := H1 hc
      clear H1 H2
      refine J_aload_n dX0_standsAsTold_29 1 rfl ?_
      obtain ⟨fs, v5, hh, hk, H⟩ := H
      refine J_get dX0_standsAsTold_30 fX0_12 hh hk ?_
      clear hh hk
      obtain ⟨fs, v6, hh, hk, H⟩ := H
      refine J_get dX0_standsAsTold_33 fX0_116 hh hk ?_
      clear hh hk
      refine J_iload_n dX0_standsAsTold_36 3 rfl ?_
      obtain ⟨nn, ff, hh, hk, H⟩ := H
      refine J_zald dX0_standsAsTold_37 hh hk ?_
      generalize ff (Int32.toNatClampNeg i2) = v7 at H ⊢
      clear hh hk ff
      refine J_iload_n dX0_standsAsTold_38 4 rfl ?_
      obtain ⟨H1, H2⟩ := H
      refine J_icmp_ne (tgt := 55) dX0_standsAsTold_39 (by decide) (fun hc => ?_) (fun hc => ?_)
      · replace H := H1 hc
        clear H1 H2
        refine J_aload_n dX0_standsAsTold_55 1 rfl ?_
        obtain ⟨fs, v8, hh, hk, H⟩ := H
        refine J_get dX0_standsAsTold_56 fX0_27 hh hk ?_
        clear hh hk
        refine J_iload dX0_standsAsTold_59 0 rfl ?_
        refine J_iload_n dX0_standsAsTold_61 2 rfl ?_
        obtain ⟨⟨fs, hh⟩, H⟩ := H
        refine J_callV (As := [.int v4, .int i1]) (S := []) (b := v8) dX0_standsAsTold_62 mX2_has_ok kX0_79 rfl (by decide) (Nat.le_of_ble_eq_true rfl) hh rfl rfl (Nat.le_of_ble_eq_true rfl) ⟨Nat.le_of_ble_eq_true rfl, Nat.le_of_ble_eq_true rfl⟩ (fun k h' hp => ?_) H (fun r h9 hp => ?_)
        · obtain ⟨_, hv, -⟩ := hp; cases hv
        obtain ⟨v10, rfl, H⟩ := hp
        show am_J l g mX0_standsAsTold (d + 1) (0, 0, x) 65 [(4, .int v4), (0, .ref a0), (1, .int i1), (2, .int i2), (3, .int i3)] [.int v10] h9 Q
        obtain ⟨hb, H⟩ := H
        exact J_iret dX0_standsAsTold_65 (am_nar01 rfl hb) ⟨Nat.le_of_ble_eq_true rfl, Nat.le_of_ble_eq_true rfl, fun _ => rfl⟩ H
      · replace H := H2 hc
        clear H1 H2
        refine J_aload_n dX0_standsAsTold_42 1 rfl ?_
        obtain ⟨fs, v11, hh, hk, H⟩ := H
        refine J_get dX0_standsAsTold_43 fX0_27 hh hk ?_
        clear hh hk
        refine J_iload_n dX0_standsAsTold_46 2 rfl ?_
        refine J_iload dX0_standsAsTold_47 0 rfl ?_
        obtain ⟨⟨fs, hh⟩, H⟩ := H
        refine J_callV (As := [.int i1, .int v4]) (S := []) (b := v11) dX0_standsAsTold_49 mX2_has_ok kX0_79 rfl (by decide) (Nat.le_of_ble_eq_true rfl) hh rfl rfl (Nat.le_of_ble_eq_true rfl) ⟨Nat.le_of_ble_eq_true rfl, Nat.le_of_ble_eq_true rfl⟩ (fun k h' hp => ?_) H (fun r h12 hp => ?_)
        · obtain ⟨_, hv, -⟩ := hp; cases hv
        obtain ⟨v13, rfl, H⟩ := hp
        show am_J l g mX0_standsAsTold (d + 1) (0, 0, x) 52 [(4, .int v4), (0, .ref a0), (1, .int i1), (2, .int i2), (3, .int i3)] [.int v13] h12 Q
        refine J_goto (tgt := 65) dX0_standsAsTold_52 (by decide) ?_
        obtain ⟨hb, H⟩ := H
        exact J_iret dX0_standsAsTold_65 (am_nar01 rfl hb) ⟨Nat.le_of_ble_eq_true rfl, Nat.le_of_ble_eq_true rfl, fun _ => rfl⟩ H
    · replace H := H2 hc
      clear H1 H2
      refine J_iconst (v := 0) dX0_standsAsTold_27 (by decide) ?_
      exact J_iret dX0_standsAsTold_28 ⟨_, rfl, rfl⟩ ⟨Nat.le_of_ble_eq_true rfl, Nat.le_of_ble_eq_true rfl, fun _ => rfl⟩ H
  · replace H := H2 hc
    clear H1 H2
    refine J_iconst (v := 1) dX0_standsAsTold_10 (by decide) ?_
    exact J_iret dX0_standsAsTold_11 ⟨_, rfl, rfl⟩ ⟨Nat.le_of_ble_eq_true rfl, Nat.le_of_ble_eq_true rfl, fun _ => rfl⟩ H
theorem eX0_standsAsTold {l : Launch} {g : am_G} {d : Nat} {x : Bool} {a0 : Nat} {i1 : Int32} {i2 : Int32} {i3 : Int32} {h : am_H} {K : Int32 → am_H → Prop} (H : zX0_standsAsTold_0 l g d x a0 i1 i2 i3 h (fun r h' => ∃ v, r = some (.int v) ∧ K v h')) : cl_I l g mX0_standsAsTold (d + 1) x [.ref a0, .int i1, .int i2, .int i3] h K := rX0_standsAsTold_0 H
def zX0_isOfLink_47 (l : Launch) (g : am_G) (d : Nat) (x : Bool) (s0 : Int32) (s1 : Int32) (h : am_H) (Q : Option Value → am_H → Prop) : Prop := ((¬ s0 = s1 → Q (some (.int 0)) h) ∧ (s0 = s1 → Q (some (.int 1)) h))
set_option maxRecDepth 4000 in
theorem rX0_isOfLink_47 {l : Launch} {g : am_G} {d : Nat} {x : Bool} {s0 : Int32} {s1 : Int32} {h : am_H} {Q : Option Value → am_H → Prop} (H : zX0_isOfLink_47 l g d x s0 s1 h Q) : am_J l g mX0_isOfLink d (0, 0, x) 47 [] [.int s1, .int s0] h Q := by
  unfold zX0_isOfLink_47 at H
  obtain ⟨H1, H2⟩ := H
  refine J_icmp_ne (tgt := 54) dX0_isOfLink_47 (by decide) (fun hc => ?_) (fun hc => ?_)
  · replace H := H1 hc
    clear H1 H2
    refine J_iconst (v := 0) dX0_isOfLink_54 (by decide) ?_
    exact J_iret dX0_isOfLink_55 ⟨_, rfl, rfl⟩ ⟨Nat.le_of_ble_eq_true rfl, Nat.le_of_ble_eq_true rfl, fun _ => rfl⟩ H
  · replace H := H2 hc
    clear H1 H2
    refine J_iconst (v := 1) dX0_isOfLink_50 (by decide) ?_
    refine J_goto (tgt := 55) dX0_isOfLink_51 (by decide) ?_
    exact J_iret dX0_isOfLink_55 ⟨_, rfl, rfl⟩ ⟨Nat.le_of_ble_eq_true rfl, Nat.le_of_ble_eq_true rfl, fun _ => rfl⟩ H
def zX0_isOfLink_0 (l : Launch) (g : am_G) (d : Nat) (x : Bool) (a0 : Nat) (i1 : Int32) (i2 : Int32) (i3 : Int32) (h : am_H) (Q : Option Value → am_H → Prop) : Prop := gt_R h a0 0 0 (fun v1 => gt_I h v1 7 5 (fun v2 => ((1 ≤ v2 → gt_R h a0 0 0 (fun v3 => gt_I h v3 7 5 (fun v4 => (¬ v4 = 0 ∧ ((i3 = 0 → gt_R h a0 0 0 (fun v5 => gt_R h v5 7 1 (fun v6 => al_I 0 h v6 i2 (fun v7 => zX0_isOfLink_47 l g d x  (i1 - i1 / v4 * v4) v7 h Q)))) ∧ (¬ i3 = 0 → gt_R h a0 0 0 (fun v8 => gt_R h v8 7 0 (fun v9 => al_I 0 h v9 i2 (fun v10 => zX0_isOfLink_47 l g d x  (i1 - i1 / v4 * v4) v10 h Q))))))))) ∧ (¬ 1 ≤ v2 → Q (some (.int 0)) h))))
set_option maxRecDepth 4000 in
theorem rX0_isOfLink_0 {l : Launch} {g : am_G} {d : Nat} {x : Bool} {a0 : Nat} {i1 : Int32} {i2 : Int32} {i3 : Int32} {h : am_H} {Q : Option Value → am_H → Prop} (H : zX0_isOfLink_0 l g d x a0 i1 i2 i3 h Q) : am_J l g mX0_isOfLink d (0, 0, x) 0 [(0, .ref a0), (1, .int i1), (2, .int i2), (3, .int i3)] [] h Q := by
  unfold zX0_isOfLink_0 at H
  refine J_aload_n dX0_isOfLink_0 0 rfl ?_
  obtain ⟨fs, v1, hh, hk, H⟩ := H
  refine J_get dX0_isOfLink_1 fX0_12 hh hk ?_
  clear hh hk
  obtain ⟨fs, v2, hh, hk, H⟩ := H
  refine J_get dX0_isOfLink_4 fX0_45 hh hk ?_
  clear hh hk
  refine J_iconst (v := 1) dX0_isOfLink_7 (by decide) ?_
  obtain ⟨H1, H2⟩ := H
  refine J_icmp_ge (tgt := 13) dX0_isOfLink_8 (by decide) (fun hc => ?_) (fun hc => ?_)
  · replace H := H1 hc
    clear H1 H2
    refine J_iload_n dX0_isOfLink_13 1 rfl ?_
    refine J_aload_n dX0_isOfLink_14 0 rfl ?_
    obtain ⟨fs, v3, hh, hk, H⟩ := H
    refine J_get dX0_isOfLink_15 fX0_12 hh hk ?_
    clear hh hk
    obtain ⟨fs, v4, hh, hk, H⟩ := H
    refine J_get dX0_isOfLink_18 fX0_45 hh hk ?_
    clear hh hk
    obtain ⟨hn, H⟩ := H
    refine J_irem dX0_isOfLink_21 hn ?_
    refine J_iload_n dX0_isOfLink_22 3 rfl ?_
    obtain ⟨H1, H2⟩ := H
    refine J_if_eq (tgt := 38) dX0_isOfLink_23 (by decide) (fun hc => ?_) (fun hc => ?_)
    · replace H := H1 hc
      clear H1 H2
      refine J_aload_n dX0_isOfLink_38 0 rfl ?_
      obtain ⟨fs, v5, hh, hk, H⟩ := H
      refine J_get dX0_isOfLink_39 fX0_12 hh hk ?_
      clear hh hk
      obtain ⟨fs, v6, hh, hk, H⟩ := H
      refine J_get dX0_isOfLink_42 fX0_126 hh hk ?_
      clear hh hk
      refine J_iload_n dX0_isOfLink_45 2 rfl ?_
      obtain ⟨nn, ff, hh, hk, H⟩ := H
      refine J_iald dX0_isOfLink_46 hh hk ?_
      generalize ff (Int32.toNatClampNeg i2) = v7 at H ⊢
      clear hh hk ff
      exact J_pick [] rfl (rX0_isOfLink_47 H)
    · replace H := H2 hc
      clear H1 H2
      refine J_aload_n dX0_isOfLink_26 0 rfl ?_
      obtain ⟨fs, v8, hh, hk, H⟩ := H
      refine J_get dX0_isOfLink_27 fX0_12 hh hk ?_
      clear hh hk
      obtain ⟨fs, v9, hh, hk, H⟩ := H
      refine J_get dX0_isOfLink_30 fX0_122 hh hk ?_
      clear hh hk
      refine J_iload_n dX0_isOfLink_33 2 rfl ?_
      obtain ⟨nn, ff, hh, hk, H⟩ := H
      refine J_iald dX0_isOfLink_34 hh hk ?_
      generalize ff (Int32.toNatClampNeg i2) = v10 at H ⊢
      clear hh hk ff
      refine J_goto (tgt := 47) dX0_isOfLink_35 (by decide) ?_
      exact J_pick [] rfl (rX0_isOfLink_47 H)
  · replace H := H2 hc
    clear H1 H2
    refine J_iconst (v := 0) dX0_isOfLink_11 (by decide) ?_
    exact J_iret dX0_isOfLink_12 ⟨_, rfl, rfl⟩ ⟨Nat.le_of_ble_eq_true rfl, Nat.le_of_ble_eq_true rfl, fun _ => rfl⟩ H
theorem eX0_isOfLink {l : Launch} {g : am_G} {d : Nat} {x : Bool} {a0 : Nat} {i1 : Int32} {i2 : Int32} {i3 : Int32} {h : am_H} {K : Int32 → am_H → Prop} (H : zX0_isOfLink_0 l g d x a0 i1 i2 i3 h (fun r h' => ∃ v, r = some (.int v) ∧ K v h')) : cl_I l g mX0_isOfLink d x [.ref a0, .int i1, .int i2, .int i3] h K := rX0_isOfLink_0 H
def zX0_otherAsTold_0 (l : Launch) (g : am_G) (d : Nat) (x : Bool) (a0 : Nat) (i1 : Int32) (i2 : Int32) (i3 : Int32) (h : am_H) (Q : Option Value → am_H → Prop) : Prop := gt_R h a0 0 0 (fun v1 => gt_I h v1 7 5 (fun v2 => ((v2 < 1 → Q (some (.int (-1))) h) ∧ (¬ v2 < 1 → gt_I h a0 0 4 (fun v3 => ((1 ≤ v3 → gt_R h a0 0 0 (fun v4 => gt_I h v4 7 5 (fun v5 => (¬ v5 = 0 ∧ gt_I h a0 0 4 (fun v6 => (¬ v6 = 0 ∧ gt_I h a0 0 4 (fun v7 => (¬ v7 = 0 ∧ ((i3 = 0 → gt_R h a0 0 0 (fun v8 => gt_R h v8 7 2 (fun v9 => al_I 0 h v9 i2 (fun v10 => gt_R h a0 0 0 (fun v11 => gt_R h v11 7 3 (fun v12 => al_I 0 h v12 i2 (fun v13 => gt_R h a0 0 0 (fun v14 => gt_R h v14 7 0 (fun v15 => al_I 0 h v15 i2 (fun v16 => cv_I l g mX0_ringOfCell d x 0 a0 [.int (((i1 / v5) - (i1 / v5) / v6 * v6) - v10), .int (((i1 / v5) / v7) - v13), .int v16] h (fun v18 h17 => Q (some (.int v18)) h17))))))))))) ∧ (¬ i3 = 0 → gt_R h a0 0 0 (fun v19 => gt_R h v19 7 2 (fun v20 => al_I 0 h v20 i2 (fun v21 => gt_R h a0 0 0 (fun v22 => gt_R h v22 7 3 (fun v23 => al_I 0 h v23 i2 (fun v24 => gt_R h a0 0 0 (fun v25 => gt_R h v25 7 1 (fun v26 => al_I 0 h v26 i2 (fun v27 => cv_I l g mX0_ringOfCell d x 0 a0 [.int (((i1 / v5) - (i1 / v5) / v6 * v6) + v21), .int (((i1 / v5) / v7) + v24), .int v27] h (fun v29 h28 => Q (some (.int v29)) h28)))))))))))))))))))) ∧ (¬ 1 ≤ v3 → Q (some (.int (-1))) h)))))))
set_option maxRecDepth 4000 in
theorem rX0_otherAsTold_0 {l : Launch} {g : am_G} {d : Nat} {x : Bool} {a0 : Nat} {i1 : Int32} {i2 : Int32} {i3 : Int32} {h : am_H} {Q : Option Value → am_H → Prop} (H : zX0_otherAsTold_0 l g d x a0 i1 i2 i3 h Q) : am_J l g mX0_otherAsTold (d + 1) (0, 0, x) 0 [(0, .ref a0), (1, .int i1), (2, .int i2), (3, .int i3)] [] h Q := by
  unfold zX0_otherAsTold_0 at H
  refine J_aload_n dX0_otherAsTold_0 0 rfl ?_
  obtain ⟨fs, v1, hh, hk, H⟩ := H
  refine J_get dX0_otherAsTold_1 fX0_12 hh hk ?_
  clear hh hk
  obtain ⟨fs, v2, hh, hk, H⟩ := H
  refine J_get dX0_otherAsTold_4 fX0_45 hh hk ?_
  clear hh hk
  refine J_iconst (v := 1) dX0_otherAsTold_7 (by decide) ?_
  obtain ⟨H1, H2⟩ := H
  refine J_icmp_lt (tgt := 19) dX0_otherAsTold_8 (by decide) (fun hc => ?_) (fun hc => ?_)
  · replace H := H1 hc
    clear H1 H2
    refine J_iconst (v := (-1)) dX0_otherAsTold_19 (by decide) ?_
    exact J_iret dX0_otherAsTold_20 ⟨_, rfl, rfl⟩ ⟨Nat.le_of_ble_eq_true rfl, Nat.le_of_ble_eq_true rfl, fun _ => rfl⟩ H
  · replace H := H2 hc
    clear H1 H2
    refine J_aload_n dX0_otherAsTold_11 0 rfl ?_
    obtain ⟨fs, v3, hh, hk, H⟩ := H
    refine J_get dX0_otherAsTold_12 fX0_38 hh hk ?_
    clear hh hk
    refine J_iconst (v := 1) dX0_otherAsTold_15 (by decide) ?_
    obtain ⟨H1, H2⟩ := H
    refine J_icmp_ge (tgt := 21) dX0_otherAsTold_16 (by decide) (fun hc => ?_) (fun hc => ?_)
    · replace H := H1 hc
      clear H1 H2
      refine J_iload_n dX0_otherAsTold_21 1 rfl ?_
      refine J_aload_n dX0_otherAsTold_22 0 rfl ?_
      obtain ⟨fs, v4, hh, hk, H⟩ := H
      refine J_get dX0_otherAsTold_23 fX0_12 hh hk ?_
      clear hh hk
      obtain ⟨fs, v5, hh, hk, H⟩ := H
      refine J_get dX0_otherAsTold_26 fX0_45 hh hk ?_
      clear hh hk
      obtain ⟨hn, H⟩ := H
      refine J_idiv dX0_otherAsTold_29 hn ?_
      refine J_istore (L' := [(4, .int (i1 / v5)), (0, .ref a0), (1, .int i1), (2, .int i2), (3, .int i3)]) dX0_otherAsTold_30 (by decide) rfl ?_
      refine J_iload dX0_otherAsTold_32 0 rfl ?_
      refine J_aload_n dX0_otherAsTold_34 1 rfl ?_
      obtain ⟨fs, v6, hh, hk, H⟩ := H
      refine J_get dX0_otherAsTold_35 fX0_38 hh hk ?_
      clear hh hk
      obtain ⟨hn, H⟩ := H
      refine J_irem dX0_otherAsTold_38 hn ?_
      refine J_istore (L' := [(5, .int ((i1 / v5) - (i1 / v5) / v6 * v6)), (4, .int (i1 / v5)), (0, .ref a0), (1, .int i1), (2, .int i2), (3, .int i3)]) dX0_otherAsTold_39 (by decide) rfl ?_
      refine J_iload dX0_otherAsTold_41 1 rfl ?_
      refine J_aload_n dX0_otherAsTold_43 2 rfl ?_
      obtain ⟨fs, v7, hh, hk, H⟩ := H
      refine J_get dX0_otherAsTold_44 fX0_38 hh hk ?_
      clear hh hk
      obtain ⟨hn, H⟩ := H
      refine J_idiv dX0_otherAsTold_47 hn ?_
      refine J_istore (L' := [(6, .int ((i1 / v5) / v7)), (5, .int ((i1 / v5) - (i1 / v5) / v6 * v6)), (4, .int (i1 / v5)), (0, .ref a0), (1, .int i1), (2, .int i2), (3, .int i3)]) dX0_otherAsTold_48 (by decide) rfl ?_
      refine J_iload_n dX0_otherAsTold_50 6 rfl ?_
      obtain ⟨H1, H2⟩ := H
      refine J_if_eq (tgt := 92) dX0_otherAsTold_51 (by decide) (fun hc => ?_) (fun hc => ?_)
      · replace H := H1 hc
        clear H1 H2
        refine J_aload_n dX0_otherAsTold_92 3 rfl ?_
        refine J_iload dX0_otherAsTold_93 1 rfl ?_
        refine J_aload_n dX0_otherAsTold_95 3 rfl ?_
        obtain ⟨fs, v8, hh, hk, H⟩ := H
        refine J_get dX0_otherAsTold_96 fX0_12 hh hk ?_
        clear hh hk
        obtain ⟨fs, v9, hh, hk, H⟩ := H
        refine J_get dX0_otherAsTold_99 fX0_129 hh hk ?_
        clear hh hk
        refine J_iload_n dX0_otherAsTold_102 5 rfl ?_
        obtain ⟨nn, ff, hh, hk, H⟩ := H
        refine J_iald dX0_otherAsTold_103 hh hk ?_
        generalize ff (Int32.toNatClampNeg i2) = v10 at H ⊢
        clear hh hk ff
        refine J_isub dX0_otherAsTold_104 ?_
        refine J_iload dX0_otherAsTold_105 0 rfl ?_
        refine J_aload_n dX0_otherAsTold_107 3 rfl ?_
        obtain ⟨fs, v11, hh, hk, H⟩ := H
        refine J_get dX0_otherAsTold_108 fX0_12 hh hk ?_
        clear hh hk
        obtain ⟨fs, v12, hh, hk, H⟩ := H
        refine J_get dX0_otherAsTold_111 fX0_132 hh hk ?_
        clear hh hk
        refine J_iload_n dX0_otherAsTold_114 5 rfl ?_
        obtain ⟨nn, ff, hh, hk, H⟩ := H
        refine J_iald dX0_otherAsTold_115 hh hk ?_
        generalize ff (Int32.toNatClampNeg i2) = v13 at H ⊢
        clear hh hk ff
        refine J_isub dX0_otherAsTold_116 ?_
        refine J_aload_n dX0_otherAsTold_117 3 rfl ?_
        obtain ⟨fs, v14, hh, hk, H⟩ := H
        refine J_get dX0_otherAsTold_118 fX0_12 hh hk ?_
        clear hh hk
        obtain ⟨fs, v15, hh, hk, H⟩ := H
        refine J_get dX0_otherAsTold_121 fX0_122 hh hk ?_
        clear hh hk
        refine J_iload_n dX0_otherAsTold_124 5 rfl ?_
        obtain ⟨nn, ff, hh, hk, H⟩ := H
        refine J_iald dX0_otherAsTold_125 hh hk ?_
        generalize ff (Int32.toNatClampNeg i2) = v16 at H ⊢
        clear hh hk ff
        obtain ⟨⟨fs, hh⟩, H⟩ := H
        refine J_callV (As := [.int (((i1 / v5) - (i1 / v5) / v6 * v6) - v10), .int (((i1 / v5) / v7) - v13), .int v16]) (S := []) (b := a0) dX0_otherAsTold_126 mX0_ringOfCell_ok kX0_135 rfl (by decide) (Nat.le_of_ble_eq_true rfl) hh rfl rfl (Nat.le_of_ble_eq_true rfl) ⟨Nat.le_of_ble_eq_true rfl, Nat.le_of_ble_eq_true rfl⟩ (fun k h' hp => ?_) H (fun r h17 hp => ?_)
        · obtain ⟨_, hv, -⟩ := hp; cases hv
        obtain ⟨v18, rfl, H⟩ := hp
        show am_J l g mX0_otherAsTold (d + 1) (0, 0, x) 129 [(6, .int ((i1 / v5) / v7)), (5, .int ((i1 / v5) - (i1 / v5) / v6 * v6)), (4, .int (i1 / v5)), (0, .ref a0), (1, .int i1), (2, .int i2), (3, .int i3)] [.int v18] h17 Q
        exact J_iret dX0_otherAsTold_129 ⟨_, rfl, rfl⟩ ⟨Nat.le_of_ble_eq_true rfl, Nat.le_of_ble_eq_true rfl, fun _ => rfl⟩ H
      · replace H := H2 hc
        clear H1 H2
        refine J_aload_n dX0_otherAsTold_54 3 rfl ?_
        refine J_iload dX0_otherAsTold_55 1 rfl ?_
        refine J_aload_n dX0_otherAsTold_57 3 rfl ?_
        obtain ⟨fs, v19, hh, hk, H⟩ := H
        refine J_get dX0_otherAsTold_58 fX0_12 hh hk ?_
        clear hh hk
        obtain ⟨fs, v20, hh, hk, H⟩ := H
        refine J_get dX0_otherAsTold_61 fX0_129 hh hk ?_
        clear hh hk
        refine J_iload_n dX0_otherAsTold_64 5 rfl ?_
        obtain ⟨nn, ff, hh, hk, H⟩ := H
        refine J_iald dX0_otherAsTold_65 hh hk ?_
        generalize ff (Int32.toNatClampNeg i2) = v21 at H ⊢
        clear hh hk ff
        refine J_iadd dX0_otherAsTold_66 ?_
        refine J_iload dX0_otherAsTold_67 0 rfl ?_
        refine J_aload_n dX0_otherAsTold_69 3 rfl ?_
        obtain ⟨fs, v22, hh, hk, H⟩ := H
        refine J_get dX0_otherAsTold_70 fX0_12 hh hk ?_
        clear hh hk
        obtain ⟨fs, v23, hh, hk, H⟩ := H
        refine J_get dX0_otherAsTold_73 fX0_132 hh hk ?_
        clear hh hk
        refine J_iload_n dX0_otherAsTold_76 5 rfl ?_
        obtain ⟨nn, ff, hh, hk, H⟩ := H
        refine J_iald dX0_otherAsTold_77 hh hk ?_
        generalize ff (Int32.toNatClampNeg i2) = v24 at H ⊢
        clear hh hk ff
        refine J_iadd dX0_otherAsTold_78 ?_
        refine J_aload_n dX0_otherAsTold_79 3 rfl ?_
        obtain ⟨fs, v25, hh, hk, H⟩ := H
        refine J_get dX0_otherAsTold_80 fX0_12 hh hk ?_
        clear hh hk
        obtain ⟨fs, v26, hh, hk, H⟩ := H
        refine J_get dX0_otherAsTold_83 fX0_126 hh hk ?_
        clear hh hk
        refine J_iload_n dX0_otherAsTold_86 5 rfl ?_
        obtain ⟨nn, ff, hh, hk, H⟩ := H
        refine J_iald dX0_otherAsTold_87 hh hk ?_
        generalize ff (Int32.toNatClampNeg i2) = v27 at H ⊢
        clear hh hk ff
        obtain ⟨⟨fs, hh⟩, H⟩ := H
        refine J_callV (As := [.int (((i1 / v5) - (i1 / v5) / v6 * v6) + v21), .int (((i1 / v5) / v7) + v24), .int v27]) (S := []) (b := a0) dX0_otherAsTold_88 mX0_ringOfCell_ok kX0_135 rfl (by decide) (Nat.le_of_ble_eq_true rfl) hh rfl rfl (Nat.le_of_ble_eq_true rfl) ⟨Nat.le_of_ble_eq_true rfl, Nat.le_of_ble_eq_true rfl⟩ (fun k h' hp => ?_) H (fun r h28 hp => ?_)
        · obtain ⟨_, hv, -⟩ := hp; cases hv
        obtain ⟨v29, rfl, H⟩ := hp
        show am_J l g mX0_otherAsTold (d + 1) (0, 0, x) 91 [(6, .int ((i1 / v5) / v7)), (5, .int ((i1 / v5) - (i1 / v5) / v6 * v6)), (4, .int (i1 / v5)), (0, .ref a0), (1, .int i1), (2, .int i2), (3, .int i3)] [.int v29] h28 Q
        exact J_iret dX0_otherAsTold_91 ⟨_, rfl, rfl⟩ ⟨Nat.le_of_ble_eq_true rfl, Nat.le_of_ble_eq_true rfl, fun _ => rfl⟩ H
    · replace H := H2 hc
      clear H1 H2
      refine J_iconst (v := (-1)) dX0_otherAsTold_19 (by decide) ?_
      exact J_iret dX0_otherAsTold_20 ⟨_, rfl, rfl⟩ ⟨Nat.le_of_ble_eq_true rfl, Nat.le_of_ble_eq_true rfl, fun _ => rfl⟩ H
theorem eX0_otherAsTold {l : Launch} {g : am_G} {d : Nat} {x : Bool} {a0 : Nat} {i1 : Int32} {i2 : Int32} {i3 : Int32} {h : am_H} {K : Int32 → am_H → Prop} (H : zX0_otherAsTold_0 l g d x a0 i1 i2 i3 h (fun r h' => ∃ v, r = some (.int v) ∧ K v h')) : cl_I l g mX0_otherAsTold (d + 1) x [.ref a0, .int i1, .int i2, .int i3] h K := rX0_otherAsTold_0 H
