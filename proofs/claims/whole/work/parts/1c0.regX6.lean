def zX6_init_0 (l : Launch) (g : am_G) (d : Nat) (x : Bool) (a0 : Nat) (a1 : Nat) (h : am_H) (Q : Option Value → am_H → Prop) : Prop := pt_V h a0 6 0 (.ref a1) (fun h1 => Q none h1)
set_option maxRecDepth 4000 in
theorem rX6_init_0 {l : Launch} {g : am_G} {d : Nat} {x : Bool} {a0 : Nat} {a1 : Nat} {h : am_H} {Q : Option Value → am_H → Prop} (H : zX6_init_0 l g d x a0 a1 h Q) : am_J l g mX6_init (d + 1) (0, 0, x) 0 [(0, .ref a0), (1, .ref a1)] [] h Q := by
  unfold zX6_init_0 at H
  refine J_aload_n dX6_init_0 0 rfl ?_
  refine J_objInit dX6_init_1 kX6_1 (Nat.le_of_ble_eq_true rfl) ?_
  refine J_aload_n dX6_init_4 0 rfl ?_
  refine J_aload_n dX6_init_5 1 rfl ?_
  obtain ⟨fs, hh, hk, H⟩ := H
  refine J_putF dX6_init_6 fX6_7 rfl rfl rfl rfl hh hk ?_
  generalize List.set h a0 (am_O 6 (List.set fs 0 (.ref a1))) = h1 at H ⊢
  clear hh hk
  exact J_vret dX6_init_9 rfl ⟨Nat.le_of_ble_eq_true rfl, Nat.le_of_ble_eq_true rfl, fun _ => rfl⟩ H
theorem eX6_init {l : Launch} {g : am_G} {d : Nat} {x : Bool} {a0 : Nat} {a1 : Nat} {h : am_H} {K : am_H → Prop} (H : zX6_init_0 l g d x a0 a1 h (fun r h' => r = none ∧ K h')) : cl_N l g mX6_init (d + 1) x [.ref a0, .ref a1] h K := rX6_init_0 H
def zX6_start_0 (l : Launch) (g : am_G) (d : Nat) (x : Bool) (a0 : Nat) (h : am_H) (Q : Option Value → am_H → Prop) : Prop := pt_V h a0 6 1 (.int 0) (fun h1 => cv_N l g mX6_step d x 6 a0 [] h1 (fun h2 => Q none h2))
set_option maxRecDepth 4000 in
theorem rX6_start_0 {l : Launch} {g : am_G} {d : Nat} {x : Bool} {a0 : Nat} {h : am_H} {Q : Option Value → am_H → Prop} (H : zX6_start_0 l g d x a0 h Q) : am_J l g mX6_start (d + 1) (0, 0, x) 0 [(0, .ref a0)] [] h Q := by
  unfold zX6_start_0 at H
  refine J_aload_n dX6_start_0 0 rfl ?_
  refine J_iconst (v := 0) dX6_start_1 (by decide) ?_
  obtain ⟨fs, hh, hk, H⟩ := H
  refine J_put dX6_start_2 fX6_13 rfl rfl hh hk ?_
  generalize List.set h a0 (am_O 6 (List.set fs 1 (.int 0))) = h1 at H ⊢
  clear hh hk
  refine J_aload_n dX6_start_5 0 rfl ?_
  obtain ⟨⟨fs, hh⟩, H⟩ := H
  refine J_callV (As := []) (S := []) (b := a0) dX6_start_6 mX6_step_ok kX6_17 rfl (by decide) (Nat.le_of_ble_eq_true rfl) hh rfl rfl (Nat.le_of_ble_eq_true rfl) ⟨Nat.le_of_ble_eq_true rfl, Nat.le_of_ble_eq_true rfl⟩ (fun k h' hp => ?_) H (fun r h2 hp => ?_)
  · obtain ⟨hv, -⟩ := hp; cases hv
  obtain ⟨rfl, H⟩ := hp
  show am_J l g mX6_start (d + 1) (0, 0, x) 9 [(0, .ref a0)] [] h2 Q
  exact J_vret dX6_start_9 rfl ⟨Nat.le_of_ble_eq_true rfl, Nat.le_of_ble_eq_true rfl, fun _ => rfl⟩ H
theorem eX6_start {l : Launch} {g : am_G} {d : Nat} {x : Bool} {a0 : Nat} {h : am_H} {K : am_H → Prop} (H : zX6_start_0 l g d x a0 h (fun r h' => r = none ∧ K h')) : cl_N l g mX6_start (d + 1) x [.ref a0] h K := rX6_start_0 H
def zX6_step_0 (l : Launch) (g : am_G) (d : Nat) (x : Bool) (a0 : Nat) (h : am_H) (Q : Option Value → am_H → Prop) : Prop := gt_I h a0 6 1 (fun v1 => cv_I l g mX6_behindBlanks d x 6 a0 [.int v1] h (fun v3 h2 => pt_V h2 a0 6 3 (.int v3) (fun h4 => gt_I h4 a0 6 3 (fun v5 => pt_V h4 a0 6 1 (.int v5) (fun h6 => pt_V h6 a0 6 4 (.long 0) (fun h7 => gt_I h7 a0 6 3 (fun v8 => gt_R h7 a0 6 0 (fun v9 => gt_I h7 v9 5 1 (fun v10 => ((v8 < v10 → gt_R h7 a0 6 0 (fun v11 => gt_R h7 v11 5 0 (fun v12 => gt_I h7 a0 6 3 (fun v13 => al_I 3 h7 v12 v13 (fun v14 => cs_I l g mX6_isLetter d x [.int v14] h7 (fun v16 h15 => ((v16 = 0 → gt_R h15 a0 6 0 (fun v17 => gt_R h15 v17 5 0 (fun v18 => gt_I h15 a0 6 3 (fun v19 => al_I 3 h15 v18 v19 (fun v20 => cs_I l g mX6_isDigit d x [.int v20] h15 (fun v22 h21 => ((v22 = 0 → cv_N l g mX6_readSign d x 6 a0 [] h21 (fun h23 => Q none h23)) ∧ (¬ v22 = 0 → cv_N l g mX6_readNumber d x 6 a0 [] h21 (fun h25 => Q none h25))))))))) ∧ (¬ v16 = 0 → cv_N l g mX6_readWord d x 6 a0 [] h15 (fun h27 => Q none h27))))))))) ∧ (¬ v8 < v10 → pt_V h7 a0 6 2 (.int 0) (fun h29 => Q none h29))))))))))))
set_option maxRecDepth 4000 in
theorem rX6_step_0 {l : Launch} {g : am_G} {d : Nat} {x : Bool} {a0 : Nat} {h : am_H} {Q : Option Value → am_H → Prop} (H : zX6_step_0 l g d x a0 h Q) : am_J l g mX6_step (d + 1) (0, 0, x) 0 [(0, .ref a0)] [] h Q := by
  unfold zX6_step_0 at H
  refine J_aload_n dX6_step_0 0 rfl ?_
  refine J_aload_n dX6_step_1 0 rfl ?_
  refine J_aload_n dX6_step_2 0 rfl ?_
  obtain ⟨fs, v1, hh, hk, H⟩ := H
  refine J_get dX6_step_3 fX6_13 hh hk ?_
  clear hh hk
  obtain ⟨⟨fs, hh⟩, H⟩ := H
  refine J_callV (As := [.int v1]) (S := [.ref a0]) (b := a0) dX6_step_6 mX6_behindBlanks_ok kX6_20 rfl (by decide) (Nat.le_of_ble_eq_true rfl) hh rfl rfl (Nat.le_of_ble_eq_true rfl) ⟨Nat.le_of_ble_eq_true rfl, Nat.le_of_ble_eq_true rfl⟩ (fun k h' hp => ?_) H (fun r h2 hp => ?_)
  · obtain ⟨_, hv, -⟩ := hp; cases hv
  obtain ⟨v3, rfl, H⟩ := hp
  show am_J l g mX6_step (d + 1) (0, 0, x) 9 [(0, .ref a0)] [.int v3, .ref a0] h2 Q
  obtain ⟨fs, hh, hk, H⟩ := H
  refine J_put dX6_step_9 fX6_24 rfl rfl hh hk ?_
  generalize List.set h2 a0 (am_O 6 (List.set fs 3 (.int v3))) = h4 at H ⊢
  clear hh hk
  refine J_aload_n dX6_step_12 0 rfl ?_
  refine J_aload_n dX6_step_13 0 rfl ?_
  obtain ⟨fs, v5, hh, hk, H⟩ := H
  refine J_get dX6_step_14 fX6_24 hh hk ?_
  clear hh hk
  obtain ⟨fs, hh, hk, H⟩ := H
  refine J_put dX6_step_17 fX6_13 rfl rfl hh hk ?_
  generalize List.set h4 a0 (am_O 6 (List.set fs 1 (.int v5))) = h6 at H ⊢
  clear hh hk
  refine J_aload_n dX6_step_20 0 rfl ?_
  refine J_lconst (v := 0) dX6_step_21 (by decide) ?_
  obtain ⟨fs, hh, hk, H⟩ := H
  refine J_put dX6_step_22 fX6_27 rfl rfl hh hk ?_
  generalize List.set h6 a0 (am_O 6 (List.set fs 4 (.long 0))) = h7 at H ⊢
  clear hh hk
  refine J_aload_n dX6_step_25 0 rfl ?_
  obtain ⟨fs, v8, hh, hk, H⟩ := H
  refine J_get dX6_step_26 fX6_24 hh hk ?_
  clear hh hk
  refine J_aload_n dX6_step_29 0 rfl ?_
  obtain ⟨fs, v9, hh, hk, H⟩ := H
  refine J_get dX6_step_30 fX6_7 hh hk ?_
  clear hh hk
  obtain ⟨fs, v10, hh, hk, H⟩ := H
  refine J_get dX6_step_33 fX6_31 hh hk ?_
  clear hh hk
  obtain ⟨H1, H2⟩ := H
  refine J_icmp_lt (tgt := 47) dX6_step_36 (by decide) (fun hc => ?_) (fun hc => ?_)
  · replace H := H1 hc
    clear H1 H2
    refine J_aload_n dX6_step_47 0 rfl ?_
    obtain ⟨fs, v11, hh, hk, H⟩ := H
    refine J_get dX6_step_48 fX6_7 hh hk ?_
    clear hh hk
    obtain ⟨fs, v12, hh, hk, H⟩ := H
    refine J_get dX6_step_51 fX6_39 hh hk ?_
    clear hh hk
    refine J_aload_n dX6_step_54 0 rfl ?_
    obtain ⟨fs, v13, hh, hk, H⟩ := H
    refine J_get dX6_step_55 fX6_24 hh hk ?_
    clear hh hk
    obtain ⟨nn, ff, hh, hk, H⟩ := H
    refine J_cald dX6_step_58 hh hk ?_
    generalize ff (Int32.toNatClampNeg v13) = v14 at H ⊢
    clear hh hk ff
    refine J_callS (As := [.int v14]) (S := []) dX6_step_59 mX6_isLetter_ok kX6_43 rfl (by decide) (Nat.le_of_ble_eq_true rfl) rfl (Nat.le_of_ble_eq_true rfl) ⟨Nat.le_of_ble_eq_true rfl, Nat.le_of_ble_eq_true rfl⟩ (fun k h' hp => ?_) H (fun r h15 hp => ?_)
    · obtain ⟨_, hv, -⟩ := hp; cases hv
    obtain ⟨v16, rfl, H⟩ := hp
    show am_J l g mX6_step (d + 1) (0, 0, x) 62 [(0, .ref a0)] [.int v16] h15 Q
    obtain ⟨H1, H2⟩ := H
    refine J_if_eq (tgt := 72) dX6_step_62 (by decide) (fun hc => ?_) (fun hc => ?_)
    · replace H := H1 hc
      clear H1 H2
      refine J_aload_n dX6_step_72 0 rfl ?_
      obtain ⟨fs, v17, hh, hk, H⟩ := H
      refine J_get dX6_step_73 fX6_7 hh hk ?_
      clear hh hk
      obtain ⟨fs, v18, hh, hk, H⟩ := H
      refine J_get dX6_step_76 fX6_39 hh hk ?_
      clear hh hk
      refine J_aload_n dX6_step_79 0 rfl ?_
      obtain ⟨fs, v19, hh, hk, H⟩ := H
      refine J_get dX6_step_80 fX6_24 hh hk ?_
      clear hh hk
      obtain ⟨nn, ff, hh, hk, H⟩ := H
      refine J_cald dX6_step_83 hh hk ?_
      generalize ff (Int32.toNatClampNeg v19) = v20 at H ⊢
      clear hh hk ff
      refine J_callS (As := [.int v20]) (S := []) dX6_step_84 mX6_isDigit_ok kX6_50 rfl (by decide) (Nat.le_of_ble_eq_true rfl) rfl (Nat.le_of_ble_eq_true rfl) ⟨Nat.le_of_ble_eq_true rfl, Nat.le_of_ble_eq_true rfl⟩ (fun k h' hp => ?_) H (fun r h21 hp => ?_)
      · obtain ⟨_, hv, -⟩ := hp; cases hv
      obtain ⟨v22, rfl, H⟩ := hp
      show am_J l g mX6_step (d + 1) (0, 0, x) 87 [(0, .ref a0)] [.int v22] h21 Q
      obtain ⟨H1, H2⟩ := H
      refine J_if_eq (tgt := 97) dX6_step_87 (by decide) (fun hc => ?_) (fun hc => ?_)
      · replace H := H1 hc
        clear H1 H2
        refine J_aload_n dX6_step_97 0 rfl ?_
        obtain ⟨⟨fs, hh⟩, H⟩ := H
        refine J_callV (As := []) (S := []) (b := a0) dX6_step_98 mX6_readSign_ok kX6_56 rfl (by decide) (Nat.le_of_ble_eq_true rfl) hh rfl rfl (Nat.le_of_ble_eq_true rfl) ⟨Nat.le_of_ble_eq_true rfl, Nat.le_of_ble_eq_true rfl⟩ (fun k h' hp => ?_) H (fun r h23 hp => ?_)
        · obtain ⟨hv, -⟩ := hp; cases hv
        obtain ⟨rfl, H⟩ := hp
        show am_J l g mX6_step (d + 1) (0, 0, x) 101 [(0, .ref a0)] [] h23 Q
        exact J_vret dX6_step_101 rfl ⟨Nat.le_of_ble_eq_true rfl, Nat.le_of_ble_eq_true rfl, fun _ => rfl⟩ H
      · replace H := H2 hc
        clear H1 H2
        refine J_aload_n dX6_step_90 0 rfl ?_
        obtain ⟨⟨fs, hh⟩, H⟩ := H
        refine J_callV (As := []) (S := []) (b := a0) dX6_step_91 mX6_readNumber_ok kX6_53 rfl (by decide) (Nat.le_of_ble_eq_true rfl) hh rfl rfl (Nat.le_of_ble_eq_true rfl) ⟨Nat.le_of_ble_eq_true rfl, Nat.le_of_ble_eq_true rfl⟩ (fun k h' hp => ?_) H (fun r h25 hp => ?_)
        · obtain ⟨hv, -⟩ := hp; cases hv
        obtain ⟨rfl, H⟩ := hp
        show am_J l g mX6_step (d + 1) (0, 0, x) 94 [(0, .ref a0)] [] h25 Q
        refine J_goto (tgt := 101) dX6_step_94 (by decide) ?_
        exact J_vret dX6_step_101 rfl ⟨Nat.le_of_ble_eq_true rfl, Nat.le_of_ble_eq_true rfl, fun _ => rfl⟩ H
    · replace H := H2 hc
      clear H1 H2
      refine J_aload_n dX6_step_65 0 rfl ?_
      obtain ⟨⟨fs, hh⟩, H⟩ := H
      refine J_callV (As := []) (S := []) (b := a0) dX6_step_66 mX6_readWord_ok kX6_47 rfl (by decide) (Nat.le_of_ble_eq_true rfl) hh rfl rfl (Nat.le_of_ble_eq_true rfl) ⟨Nat.le_of_ble_eq_true rfl, Nat.le_of_ble_eq_true rfl⟩ (fun k h' hp => ?_) H (fun r h27 hp => ?_)
      · obtain ⟨hv, -⟩ := hp; cases hv
      obtain ⟨rfl, H⟩ := hp
      show am_J l g mX6_step (d + 1) (0, 0, x) 69 [(0, .ref a0)] [] h27 Q
      refine J_goto (tgt := 101) dX6_step_69 (by decide) ?_
      exact J_vret dX6_step_101 rfl ⟨Nat.le_of_ble_eq_true rfl, Nat.le_of_ble_eq_true rfl, fun _ => rfl⟩ H
  · replace H := H2 hc
    clear H1 H2
    refine J_aload_n dX6_step_39 0 rfl ?_
    refine J_iconst (v := 0) dX6_step_40 (by decide) ?_
    obtain ⟨fs, hh, hk, H⟩ := H
    refine J_put dX6_step_41 fX6_36 rfl rfl hh hk ?_
    generalize List.set h7 a0 (am_O 6 (List.set fs 2 (.int 0))) = h29 at H ⊢
    clear hh hk
    refine J_goto (tgt := 101) dX6_step_44 (by decide) ?_
    exact J_vret dX6_step_101 rfl ⟨Nat.le_of_ble_eq_true rfl, Nat.le_of_ble_eq_true rfl, fun _ => rfl⟩ H
theorem eX6_step {l : Launch} {g : am_G} {d : Nat} {x : Bool} {a0 : Nat} {h : am_H} {K : am_H → Prop} (H : zX6_step_0 l g d x a0 h (fun r h' => r = none ∧ K h')) : cl_N l g mX6_step (d + 1) x [.ref a0] h K := rX6_step_0 H
def zX6_is_0 (l : Launch) (g : am_G) (d : Nat) (x : Bool) (a0 : Nat) (i1 : Int32) (l2 : Int64) (h : am_H) (Q : Option Value → am_H → Prop) : Prop := gt_I h a0 6 2 (fun v1 => ((¬ v1 = i1 → Q (some (.int 0)) h) ∧ (v1 = i1 → gt_L h a0 6 4 (fun v2 => ((¬ (lg_cmp v2 l2) = 0 → Q (some (.int 0)) h) ∧ ((lg_cmp v2 l2) = 0 → Q (some (.int 1)) h))))))
set_option maxRecDepth 4000 in
theorem rX6_is_0 {l : Launch} {g : am_G} {d : Nat} {x : Bool} {a0 : Nat} {i1 : Int32} {l2 : Int64} {h : am_H} {Q : Option Value → am_H → Prop} (H : zX6_is_0 l g d x a0 i1 l2 h Q) : am_J l g mX6_is d (0, 0, x) 0 [(0, .ref a0), (1, .int i1), (2, .long l2)] [] h Q := by
  unfold zX6_is_0 at H
  refine J_aload_n dX6_is_0 0 rfl ?_
  obtain ⟨fs, v1, hh, hk, H⟩ := H
  refine J_get dX6_is_1 fX6_36 hh hk ?_
  clear hh hk
  refine J_iload_n dX6_is_4 1 rfl ?_
  obtain ⟨H1, H2⟩ := H
  refine J_icmp_ne (tgt := 21) dX6_is_5 (by decide) (fun hc => ?_) (fun hc => ?_)
  · replace H := H1 hc
    clear H1 H2
    refine J_iconst (v := 0) dX6_is_21 (by decide) ?_
    exact J_iret dX6_is_22 ⟨_, rfl, rfl⟩ ⟨Nat.le_of_ble_eq_true rfl, Nat.le_of_ble_eq_true rfl, fun _ => rfl⟩ H
  · replace H := H2 hc
    clear H1 H2
    refine J_aload_n dX6_is_8 0 rfl ?_
    obtain ⟨fs, v2, hh, hk, H⟩ := H
    refine J_get dX6_is_9 fX6_27 hh hk ?_
    clear hh hk
    refine J_lload_n dX6_is_12 2 rfl ?_
    refine J_lcmp dX6_is_13 ?_
    obtain ⟨H1, H2⟩ := H
    refine J_if_ne (tgt := 21) dX6_is_14 (by decide) (fun hc => ?_) (fun hc => ?_)
    · replace H := H1 hc
      clear H1 H2
      refine J_iconst (v := 0) dX6_is_21 (by decide) ?_
      exact J_iret dX6_is_22 ⟨_, rfl, rfl⟩ ⟨Nat.le_of_ble_eq_true rfl, Nat.le_of_ble_eq_true rfl, fun _ => rfl⟩ H
    · replace H := H2 hc
      clear H1 H2
      refine J_iconst (v := 1) dX6_is_17 (by decide) ?_
      refine J_goto (tgt := 22) dX6_is_18 (by decide) ?_
      exact J_iret dX6_is_22 ⟨_, rfl, rfl⟩ ⟨Nat.le_of_ble_eq_true rfl, Nat.le_of_ble_eq_true rfl, fun _ => rfl⟩ H
theorem eX6_is {l : Launch} {g : am_G} {d : Nat} {x : Bool} {a0 : Nat} {i1 : Int32} {l2 : Int64} {h : am_H} {K : Int32 → am_H → Prop} (H : zX6_is_0 l g d x a0 i1 l2 h (fun r h' => ∃ v, r = some (.int v) ∧ K v h')) : cl_I l g mX6_is d x [.ref a0, .int i1, .long l2] h K := rX6_is_0 H
def zX6_behindBlanks_41 (l : Launch) (g : am_G) (d : Nat) (x : Bool) (a0 : Nat) (i2 : Int32) (h : am_H) (Q : Option Value → am_H → Prop) : Prop := am_J l g mX6_behindBlanks d (0, 0, x) 2 [(0, .ref a0), (2, .int (i2 + 1))] [] h Q
set_option maxRecDepth 4000 in
theorem rX6_behindBlanks_41 {l : Launch} {g : am_G} {d : Nat} {x : Bool} {a0 : Nat} {i2 : Int32} {h : am_H} {Q : Option Value → am_H → Prop} (H : zX6_behindBlanks_41 l g d x a0 i2 h Q) : am_J l g mX6_behindBlanks d (0, 0, x) 41 [(0, .ref a0), (2, .int i2)] [] h Q := by
  unfold zX6_behindBlanks_41 at H
  refine J_iinc (v := (i2 + 1)) (L' := [(2, .int (i2 + 1)), (0, .ref a0)]) dX6_behindBlanks_41 1 rfl rfl (by decide) rfl ?_
  refine J_goto (tgt := 2) dX6_behindBlanks_44 (by decide) ?_
  exact J_pick [1, 0] rfl H
def zX6_behindBlanks_2 (l : Launch) (g : am_G) (d : Nat) (x : Bool) (a0 : Nat) (i2 : Int32) (h : am_H) (Q : Option Value → am_H → Prop) : Prop := gt_R h a0 6 0 (fun v1 => gt_I h v1 5 1 (fun v2 => ((v2 ≤ i2 → Q (some (.int i2)) h) ∧ (¬ v2 ≤ i2 → gt_R h a0 6 0 (fun v3 => gt_R h v3 5 0 (fun v4 => al_I 3 h v4 i2 (fun v5 => ((v5 = 10 → zX6_behindBlanks_41 l g d x a0 i2  h Q) ∧ (¬ v5 = 10 → gt_R h a0 6 0 (fun v6 => gt_R h v6 5 0 (fun v7 => al_I 3 h v7 i2 (fun v8 => ((¬ v8 = 32 → Q (some (.int i2)) h) ∧ (v8 = 32 → zX6_behindBlanks_41 l g d x a0 i2  h Q))))))))))))))
set_option maxRecDepth 4000 in
theorem rX6_behindBlanks_2 {l : Launch} {g : am_G} {d : Nat} {x : Bool} {a0 : Nat} {i2 : Int32} {h : am_H} {Q : Option Value → am_H → Prop} (H : zX6_behindBlanks_2 l g d x a0 i2 h Q) : am_J l g mX6_behindBlanks d (0, 0, x) 2 [(0, .ref a0), (2, .int i2)] [] h Q := by
  unfold zX6_behindBlanks_2 at H
  refine J_iload_n dX6_behindBlanks_2 1 rfl ?_
  refine J_aload_n dX6_behindBlanks_3 0 rfl ?_
  obtain ⟨fs, v1, hh, hk, H⟩ := H
  refine J_get dX6_behindBlanks_4 fX6_7 hh hk ?_
  clear hh hk
  obtain ⟨fs, v2, hh, hk, H⟩ := H
  refine J_get dX6_behindBlanks_7 fX6_31 hh hk ?_
  clear hh hk
  obtain ⟨H1, H2⟩ := H
  refine J_icmp_ge (tgt := 47) dX6_behindBlanks_10 (by decide) (fun hc => ?_) (fun hc => ?_)
  · replace H := H1 hc
    clear H1 H2
    refine J_iload_n dX6_behindBlanks_47 1 rfl ?_
    exact J_iret dX6_behindBlanks_48 ⟨_, rfl, rfl⟩ ⟨Nat.le_of_ble_eq_true rfl, Nat.le_of_ble_eq_true rfl, fun _ => rfl⟩ H
  · replace H := H2 hc
    clear H1 H2
    refine J_aload_n dX6_behindBlanks_13 0 rfl ?_
    obtain ⟨fs, v3, hh, hk, H⟩ := H
    refine J_get dX6_behindBlanks_14 fX6_7 hh hk ?_
    clear hh hk
    obtain ⟨fs, v4, hh, hk, H⟩ := H
    refine J_get dX6_behindBlanks_17 fX6_39 hh hk ?_
    clear hh hk
    refine J_iload_n dX6_behindBlanks_20 1 rfl ?_
    obtain ⟨nn, ff, hh, hk, H⟩ := H
    refine J_cald dX6_behindBlanks_21 hh hk ?_
    generalize ff (Int32.toNatClampNeg i2) = v5 at H ⊢
    clear hh hk ff
    refine J_bipush (v := 10) dX6_behindBlanks_22 (by decide) ?_
    obtain ⟨H1, H2⟩ := H
    refine J_icmp_eq (tgt := 41) dX6_behindBlanks_24 (by decide) (fun hc => ?_) (fun hc => ?_)
    · replace H := H1 hc
      clear H1 H2
      exact J_pick [0, 1] rfl (rX6_behindBlanks_41 H)
    · replace H := H2 hc
      clear H1 H2
      refine J_aload_n dX6_behindBlanks_27 0 rfl ?_
      obtain ⟨fs, v6, hh, hk, H⟩ := H
      refine J_get dX6_behindBlanks_28 fX6_7 hh hk ?_
      clear hh hk
      obtain ⟨fs, v7, hh, hk, H⟩ := H
      refine J_get dX6_behindBlanks_31 fX6_39 hh hk ?_
      clear hh hk
      refine J_iload_n dX6_behindBlanks_34 1 rfl ?_
      obtain ⟨nn, ff, hh, hk, H⟩ := H
      refine J_cald dX6_behindBlanks_35 hh hk ?_
      generalize ff (Int32.toNatClampNeg i2) = v8 at H ⊢
      clear hh hk ff
      refine J_bipush (v := 32) dX6_behindBlanks_36 (by decide) ?_
      obtain ⟨H1, H2⟩ := H
      refine J_icmp_ne (tgt := 47) dX6_behindBlanks_38 (by decide) (fun hc => ?_) (fun hc => ?_)
      · replace H := H1 hc
        clear H1 H2
        refine J_iload_n dX6_behindBlanks_47 1 rfl ?_
        exact J_iret dX6_behindBlanks_48 ⟨_, rfl, rfl⟩ ⟨Nat.le_of_ble_eq_true rfl, Nat.le_of_ble_eq_true rfl, fun _ => rfl⟩ H
      · replace H := H2 hc
        clear H1 H2
        exact J_pick [0, 1] rfl (rX6_behindBlanks_41 H)
def zX6_behindBlanks_0 (l : Launch) (g : am_G) (d : Nat) (x : Bool) (a0 : Nat) (i1 : Int32) (h : am_H) (Q : Option Value → am_H → Prop) : Prop := am_J l g mX6_behindBlanks d (0, 0, x) 2 [(0, .ref a0), (2, .int i1)] [] h Q
set_option maxRecDepth 4000 in
theorem rX6_behindBlanks_0 {l : Launch} {g : am_G} {d : Nat} {x : Bool} {a0 : Nat} {i1 : Int32} {h : am_H} {Q : Option Value → am_H → Prop} (H : zX6_behindBlanks_0 l g d x a0 i1 h Q) : am_J l g mX6_behindBlanks d (0, 0, x) 0 [(0, .ref a0), (1, .int i1)] [] h Q := by
  unfold zX6_behindBlanks_0 at H
  refine J_iload_n dX6_behindBlanks_0 1 rfl ?_
  refine J_istore_n (L' := [(2, .int i1), (0, .ref a0), (1, .int i1)]) dX6_behindBlanks_1 (by decide) rfl ?_
  exact J_pick [1, 0] rfl H
theorem eX6_behindBlanks {l : Launch} {g : am_G} {d : Nat} {x : Bool} {a0 : Nat} {i1 : Int32} {h : am_H} {K : Int32 → am_H → Prop} (H : zX6_behindBlanks_0 l g d x a0 i1 h (fun r h' => ∃ v, r = some (.int v) ∧ K v h')) : cl_I l g mX6_behindBlanks d x [.ref a0, .int i1] h K := rX6_behindBlanks_0 H
def zX6_readWord_90 (l : Launch) (g : am_G) (d : Nat) (x : Bool) (s0 : Nat) (s1 : Int32) (h : am_H) (Q : Option Value → am_H → Prop) : Prop := pt_V h s0 6 2 (.int s1) (fun h1 => Q none h1)
set_option maxRecDepth 4000 in
theorem rX6_readWord_90 {l : Launch} {g : am_G} {d : Nat} {x : Bool} {s0 : Nat} {s1 : Int32} {h : am_H} {Q : Option Value → am_H → Prop} (H : zX6_readWord_90 l g d x s0 s1 h Q) : am_J l g mX6_readWord (d + 1) (0, 0, x) 90 [] [.int s1, .ref s0] h Q := by
  unfold zX6_readWord_90 at H
  obtain ⟨fs, hh, hk, H⟩ := H
  refine J_put dX6_readWord_90 fX6_36 rfl rfl hh hk ?_
  generalize List.set h s0 (am_O 6 (List.set fs 2 (.int s1))) = h1 at H ⊢
  clear hh hk
  exact J_vret dX6_readWord_93 rfl ⟨Nat.le_of_ble_eq_true rfl, Nat.le_of_ble_eq_true rfl, fun _ => rfl⟩ H
def zX6_readWord_70 (l : Launch) (g : am_G) (d : Nat) (x : Bool) (a0 : Nat) (h : am_H) (Q : Option Value → am_H → Prop) : Prop := gt_I h a0 6 1 (fun v1 => gt_I h a0 6 3 (fun v2 => ((8 < (v1 - v2) → zX6_readWord_90 l g d x  a0 4 h Q) ∧ (¬ 8 < (v1 - v2) → zX6_readWord_90 l g d x  a0 1 h Q))))
set_option maxRecDepth 4000 in
theorem rX6_readWord_70 {l : Launch} {g : am_G} {d : Nat} {x : Bool} {a0 : Nat} {h : am_H} {Q : Option Value → am_H → Prop} (H : zX6_readWord_70 l g d x a0 h Q) : am_J l g mX6_readWord (d + 1) (0, 0, x) 70 [(0, .ref a0)] [] h Q := by
  unfold zX6_readWord_70 at H
  refine J_aload_n dX6_readWord_70 0 rfl ?_
  refine J_aload_n dX6_readWord_71 0 rfl ?_
  obtain ⟨fs, v1, hh, hk, H⟩ := H
  refine J_get dX6_readWord_72 fX6_13 hh hk ?_
  clear hh hk
  refine J_aload_n dX6_readWord_75 0 rfl ?_
  obtain ⟨fs, v2, hh, hk, H⟩ := H
  refine J_get dX6_readWord_76 fX6_24 hh hk ?_
  clear hh hk
  refine J_isub dX6_readWord_79 ?_
  refine J_bipush (v := 8) dX6_readWord_80 (by decide) ?_
  obtain ⟨H1, H2⟩ := H
  refine J_icmp_gt (tgt := 89) dX6_readWord_82 (by decide) (fun hc => ?_) (fun hc => ?_)
  · replace H := H1 hc
    clear H1 H2
    refine J_iconst (v := 4) dX6_readWord_89 (by decide) ?_
    exact J_pick [] rfl (rX6_readWord_90 H)
  · replace H := H2 hc
    clear H1 H2
    refine J_iconst (v := 1) dX6_readWord_85 (by decide) ?_
    refine J_goto (tgt := 90) dX6_readWord_86 (by decide) ?_
    exact J_pick [] rfl (rX6_readWord_90 H)
def zX6_readWord_0 (l : Launch) (g : am_G) (d : Nat) (x : Bool) (a0 : Nat) (h : am_H) (Q : Option Value → am_H → Prop) : Prop := gt_I h a0 6 1 (fun v1 => gt_R h a0 6 0 (fun v2 => gt_I h v2 5 1 (fun v3 => ((v3 ≤ v1 → zX6_readWord_70 l g d x a0  h Q) ∧ (¬ v3 ≤ v1 → gt_R h a0 6 0 (fun v4 => gt_R h v4 5 0 (fun v5 => gt_I h a0 6 1 (fun v6 => al_I 3 h v5 v6 (fun v7 => cs_I l g mX6_isLetter d x [.int v7] h (fun v9 h8 => ((v9 = 0 → zX6_readWord_70 l g d x a0  h8 Q) ∧ (¬ v9 = 0 → gt_L h8 a0 6 4 (fun v10 => gt_R h8 a0 6 0 (fun v11 => gt_R h8 v11 5 0 (fun v12 => gt_I h8 a0 6 1 (fun v13 => al_I 3 h8 v12 v13 (fun v14 => pt_V h8 a0 6 4 (.long (((v10 : Int64) <<< (Int32.toInt64 8 &&& (63 : Int64))) ||| (Int32.toInt64 v14))) (fun h15 => gt_I h15 a0 6 1 (fun v16 => pt_V h15 a0 6 1 (.int (v16 + 1)) (fun h17 => am_J l g mX6_readWord (d + 1) (0, 0, x) 0 [(0, .ref a0)] [] h17 Q))))))))))))))))))))
set_option maxRecDepth 4000 in
theorem rX6_readWord_0 {l : Launch} {g : am_G} {d : Nat} {x : Bool} {a0 : Nat} {h : am_H} {Q : Option Value → am_H → Prop} (H : zX6_readWord_0 l g d x a0 h Q) : am_J l g mX6_readWord (d + 1) (0, 0, x) 0 [(0, .ref a0)] [] h Q := by
  unfold zX6_readWord_0 at H
  refine J_aload_n dX6_readWord_0 0 rfl ?_
  obtain ⟨fs, v1, hh, hk, H⟩ := H
  refine J_get dX6_readWord_1 fX6_13 hh hk ?_
  clear hh hk
  refine J_aload_n dX6_readWord_4 0 rfl ?_
  obtain ⟨fs, v2, hh, hk, H⟩ := H
  refine J_get dX6_readWord_5 fX6_7 hh hk ?_
  clear hh hk
  obtain ⟨fs, v3, hh, hk, H⟩ := H
  refine J_get dX6_readWord_8 fX6_31 hh hk ?_
  clear hh hk
  obtain ⟨H1, H2⟩ := H
  refine J_icmp_ge (tgt := 70) dX6_readWord_11 (by decide) (fun hc => ?_) (fun hc => ?_)
  · replace H := H1 hc
    clear H1 H2
    exact J_pick [0] rfl (rX6_readWord_70 H)
  · replace H := H2 hc
    clear H1 H2
    refine J_aload_n dX6_readWord_14 0 rfl ?_
    obtain ⟨fs, v4, hh, hk, H⟩ := H
    refine J_get dX6_readWord_15 fX6_7 hh hk ?_
    clear hh hk
    obtain ⟨fs, v5, hh, hk, H⟩ := H
    refine J_get dX6_readWord_18 fX6_39 hh hk ?_
    clear hh hk
    refine J_aload_n dX6_readWord_21 0 rfl ?_
    obtain ⟨fs, v6, hh, hk, H⟩ := H
    refine J_get dX6_readWord_22 fX6_13 hh hk ?_
    clear hh hk
    obtain ⟨nn, ff, hh, hk, H⟩ := H
    refine J_cald dX6_readWord_25 hh hk ?_
    generalize ff (Int32.toNatClampNeg v6) = v7 at H ⊢
    clear hh hk ff
    refine J_callS (As := [.int v7]) (S := []) dX6_readWord_26 mX6_isLetter_ok kX6_43 rfl (by decide) (Nat.le_of_ble_eq_true rfl) rfl (Nat.le_of_ble_eq_true rfl) ⟨Nat.le_of_ble_eq_true rfl, Nat.le_of_ble_eq_true rfl⟩ (fun k h' hp => ?_) H (fun r h8 hp => ?_)
    · obtain ⟨_, hv, -⟩ := hp; cases hv
    obtain ⟨v9, rfl, H⟩ := hp
    show am_J l g mX6_readWord (d + 1) (0, 0, x) 29 [(0, .ref a0)] [.int v9] h8 Q
    obtain ⟨H1, H2⟩ := H
    refine J_if_eq (tgt := 70) dX6_readWord_29 (by decide) (fun hc => ?_) (fun hc => ?_)
    · replace H := H1 hc
      clear H1 H2
      exact J_pick [0] rfl (rX6_readWord_70 H)
    · replace H := H2 hc
      clear H1 H2
      refine J_aload_n dX6_readWord_32 0 rfl ?_
      refine J_aload_n dX6_readWord_33 0 rfl ?_
      obtain ⟨fs, v10, hh, hk, H⟩ := H
      refine J_get dX6_readWord_34 fX6_27 hh hk ?_
      clear hh hk
      refine J_bipush (v := 8) dX6_readWord_37 (by decide) ?_
      refine J_lshl dX6_readWord_39 ?_
      refine J_aload_n dX6_readWord_40 0 rfl ?_
      obtain ⟨fs, v11, hh, hk, H⟩ := H
      refine J_get dX6_readWord_41 fX6_7 hh hk ?_
      clear hh hk
      obtain ⟨fs, v12, hh, hk, H⟩ := H
      refine J_get dX6_readWord_44 fX6_39 hh hk ?_
      clear hh hk
      refine J_aload_n dX6_readWord_47 0 rfl ?_
      obtain ⟨fs, v13, hh, hk, H⟩ := H
      refine J_get dX6_readWord_48 fX6_13 hh hk ?_
      clear hh hk
      obtain ⟨nn, ff, hh, hk, H⟩ := H
      refine J_cald dX6_readWord_51 hh hk ?_
      generalize ff (Int32.toNatClampNeg v13) = v14 at H ⊢
      clear hh hk ff
      refine J_i2l dX6_readWord_52 ?_
      refine J_lor dX6_readWord_53 ?_
      obtain ⟨fs, hh, hk, H⟩ := H
      refine J_put dX6_readWord_54 fX6_27 rfl rfl hh hk ?_
      generalize List.set h8 a0 (am_O 6 (List.set fs 4 (.long (((v10 : Int64) <<< (Int32.toInt64 8 &&& (63 : Int64))) ||| (Int32.toInt64 v14))))) = h15 at H ⊢
      clear hh hk
      refine J_aload_n dX6_readWord_57 0 rfl ?_
      refine J_dup dX6_readWord_58 rfl ?_
      obtain ⟨fs, v16, hh, hk, H⟩ := H
      refine J_get dX6_readWord_59 fX6_13 hh hk ?_
      clear hh hk
      refine J_iconst (v := 1) dX6_readWord_62 (by decide) ?_
      refine J_iadd dX6_readWord_63 ?_
      obtain ⟨fs, hh, hk, H⟩ := H
      refine J_put dX6_readWord_64 fX6_13 rfl rfl hh hk ?_
      generalize List.set h15 a0 (am_O 6 (List.set fs 1 (.int (v16 + 1)))) = h17 at H ⊢
      clear hh hk
      refine J_goto (tgt := 0) dX6_readWord_67 (by decide) ?_
      exact J_pick [0] rfl H
theorem eX6_readWord {l : Launch} {g : am_G} {d : Nat} {x : Bool} {a0 : Nat} {h : am_H} {K : am_H → Prop} (H : zX6_readWord_0 l g d x a0 h (fun r h' => r = none ∧ K h')) : cl_N l g mX6_readWord (d + 1) x [.ref a0] h K := rX6_readWord_0 H
def zX6_readNumber_93 (l : Launch) (g : am_G) (d : Nat) (x : Bool) (s0 : Nat) (s1 : Int32) (h : am_H) (Q : Option Value → am_H → Prop) : Prop := pt_V h s0 6 2 (.int s1) (fun h1 => Q none h1)
set_option maxRecDepth 4000 in
theorem rX6_readNumber_93 {l : Launch} {g : am_G} {d : Nat} {x : Bool} {s0 : Nat} {s1 : Int32} {h : am_H} {Q : Option Value → am_H → Prop} (H : zX6_readNumber_93 l g d x s0 s1 h Q) : am_J l g mX6_readNumber (d + 1) (0, 0, x) 93 [] [.int s1, .ref s0] h Q := by
  unfold zX6_readNumber_93 at H
  obtain ⟨fs, hh, hk, H⟩ := H
  refine J_put dX6_readNumber_93 fX6_36 rfl rfl hh hk ?_
  generalize List.set h s0 (am_O 6 (List.set fs 2 (.int s1))) = h1 at H ⊢
  clear hh hk
  exact J_vret dX6_readNumber_96 rfl ⟨Nat.le_of_ble_eq_true rfl, Nat.le_of_ble_eq_true rfl, fun _ => rfl⟩ H
def zX6_readNumber_74 (l : Launch) (g : am_G) (d : Nat) (x : Bool) (a0 : Nat) (h : am_H) (Q : Option Value → am_H → Prop) : Prop := gt_I h a0 6 1 (fun v1 => gt_I h a0 6 3 (fun v2 => ((4 < (v1 - v2) → zX6_readNumber_93 l g d x  a0 4 h Q) ∧ (¬ 4 < (v1 - v2) → zX6_readNumber_93 l g d x  a0 2 h Q))))
set_option maxRecDepth 4000 in
theorem rX6_readNumber_74 {l : Launch} {g : am_G} {d : Nat} {x : Bool} {a0 : Nat} {h : am_H} {Q : Option Value → am_H → Prop} (H : zX6_readNumber_74 l g d x a0 h Q) : am_J l g mX6_readNumber (d + 1) (0, 0, x) 74 [(0, .ref a0)] [] h Q := by
  unfold zX6_readNumber_74 at H
  refine J_aload_n dX6_readNumber_74 0 rfl ?_
  refine J_aload_n dX6_readNumber_75 0 rfl ?_
  obtain ⟨fs, v1, hh, hk, H⟩ := H
  refine J_get dX6_readNumber_76 fX6_13 hh hk ?_
  clear hh hk
  refine J_aload_n dX6_readNumber_79 0 rfl ?_
  obtain ⟨fs, v2, hh, hk, H⟩ := H
  refine J_get dX6_readNumber_80 fX6_24 hh hk ?_
  clear hh hk
  refine J_isub dX6_readNumber_83 ?_
  refine J_iconst (v := 4) dX6_readNumber_84 (by decide) ?_
  obtain ⟨H1, H2⟩ := H
  refine J_icmp_gt (tgt := 92) dX6_readNumber_85 (by decide) (fun hc => ?_) (fun hc => ?_)
  · replace H := H1 hc
    clear H1 H2
    refine J_iconst (v := 4) dX6_readNumber_92 (by decide) ?_
    exact J_pick [] rfl (rX6_readNumber_93 H)
  · replace H := H2 hc
    clear H1 H2
    refine J_iconst (v := 2) dX6_readNumber_88 (by decide) ?_
    refine J_goto (tgt := 93) dX6_readNumber_89 (by decide) ?_
    exact J_pick [] rfl (rX6_readNumber_93 H)
def zX6_readNumber_0 (l : Launch) (g : am_G) (d : Nat) (x : Bool) (a0 : Nat) (h : am_H) (Q : Option Value → am_H → Prop) : Prop := gt_I h a0 6 1 (fun v1 => gt_R h a0 6 0 (fun v2 => gt_I h v2 5 1 (fun v3 => ((v3 ≤ v1 → zX6_readNumber_74 l g d x a0  h Q) ∧ (¬ v3 ≤ v1 → gt_R h a0 6 0 (fun v4 => gt_R h v4 5 0 (fun v5 => gt_I h a0 6 1 (fun v6 => al_I 3 h v5 v6 (fun v7 => cs_I l g mX6_isDigit d x [.int v7] h (fun v9 h8 => ((v9 = 0 → zX6_readNumber_74 l g d x a0  h8 Q) ∧ (¬ v9 = 0 → gt_L h8 a0 6 4 (fun v10 => gt_R h8 a0 6 0 (fun v11 => gt_R h8 v11 5 0 (fun v12 => gt_I h8 a0 6 1 (fun v13 => al_I 3 h8 v12 v13 (fun v14 => pt_V h8 a0 6 4 (.long ((v10 * 10) + (Int32.toInt64 (v14 - 48)))) (fun h15 => gt_I h15 a0 6 1 (fun v16 => pt_V h15 a0 6 1 (.int (v16 + 1)) (fun h17 => am_J l g mX6_readNumber (d + 1) (0, 0, x) 0 [(0, .ref a0)] [] h17 Q))))))))))))))))))))
set_option maxRecDepth 4000 in
theorem rX6_readNumber_0 {l : Launch} {g : am_G} {d : Nat} {x : Bool} {a0 : Nat} {h : am_H} {Q : Option Value → am_H → Prop} (H : zX6_readNumber_0 l g d x a0 h Q) : am_J l g mX6_readNumber (d + 1) (0, 0, x) 0 [(0, .ref a0)] [] h Q := by
  unfold zX6_readNumber_0 at H
  refine J_aload_n dX6_readNumber_0 0 rfl ?_
  obtain ⟨fs, v1, hh, hk, H⟩ := H
  refine J_get dX6_readNumber_1 fX6_13 hh hk ?_
  clear hh hk
  refine J_aload_n dX6_readNumber_4 0 rfl ?_
  obtain ⟨fs, v2, hh, hk, H⟩ := H
  refine J_get dX6_readNumber_5 fX6_7 hh hk ?_
  clear hh hk
  obtain ⟨fs, v3, hh, hk, H⟩ := H
  refine J_get dX6_readNumber_8 fX6_31 hh hk ?_
  clear hh hk
  obtain ⟨H1, H2⟩ := H
  refine J_icmp_ge (tgt := 74) dX6_readNumber_11 (by decide) (fun hc => ?_) (fun hc => ?_)
  · replace H := H1 hc
    clear H1 H2
    exact J_pick [0] rfl (rX6_readNumber_74 H)
  · replace H := H2 hc
    clear H1 H2
    refine J_aload_n dX6_readNumber_14 0 rfl ?_
    obtain ⟨fs, v4, hh, hk, H⟩ := H
    refine J_get dX6_readNumber_15 fX6_7 hh hk ?_
    clear hh hk
    obtain ⟨fs, v5, hh, hk, H⟩ := H
    refine J_get dX6_readNumber_18 fX6_39 hh hk ?_
    clear hh hk
    refine J_aload_n dX6_readNumber_21 0 rfl ?_
    obtain ⟨fs, v6, hh, hk, H⟩ := H
    refine J_get dX6_readNumber_22 fX6_13 hh hk ?_
    clear hh hk
    obtain ⟨nn, ff, hh, hk, H⟩ := H
    refine J_cald dX6_readNumber_25 hh hk ?_
    generalize ff (Int32.toNatClampNeg v6) = v7 at H ⊢
    clear hh hk ff
    refine J_callS (As := [.int v7]) (S := []) dX6_readNumber_26 mX6_isDigit_ok kX6_50 rfl (by decide) (Nat.le_of_ble_eq_true rfl) rfl (Nat.le_of_ble_eq_true rfl) ⟨Nat.le_of_ble_eq_true rfl, Nat.le_of_ble_eq_true rfl⟩ (fun k h' hp => ?_) H (fun r h8 hp => ?_)
    · obtain ⟨_, hv, -⟩ := hp; cases hv
    obtain ⟨v9, rfl, H⟩ := hp
    show am_J l g mX6_readNumber (d + 1) (0, 0, x) 29 [(0, .ref a0)] [.int v9] h8 Q
    obtain ⟨H1, H2⟩ := H
    refine J_if_eq (tgt := 74) dX6_readNumber_29 (by decide) (fun hc => ?_) (fun hc => ?_)
    · replace H := H1 hc
      clear H1 H2
      exact J_pick [0] rfl (rX6_readNumber_74 H)
    · replace H := H2 hc
      clear H1 H2
      refine J_aload_n dX6_readNumber_32 0 rfl ?_
      refine J_aload_n dX6_readNumber_33 0 rfl ?_
      obtain ⟨fs, v10, hh, hk, H⟩ := H
      refine J_get dX6_readNumber_34 fX6_27 hh hk ?_
      clear hh hk
      refine J_ldc2 (v := 10) dX6_readNumber_37 qX6_59 ?_
      refine J_lmul dX6_readNumber_40 ?_
      refine J_aload_n dX6_readNumber_41 0 rfl ?_
      obtain ⟨fs, v11, hh, hk, H⟩ := H
      refine J_get dX6_readNumber_42 fX6_7 hh hk ?_
      clear hh hk
      obtain ⟨fs, v12, hh, hk, H⟩ := H
      refine J_get dX6_readNumber_45 fX6_39 hh hk ?_
      clear hh hk
      refine J_aload_n dX6_readNumber_48 0 rfl ?_
      obtain ⟨fs, v13, hh, hk, H⟩ := H
      refine J_get dX6_readNumber_49 fX6_13 hh hk ?_
      clear hh hk
      obtain ⟨nn, ff, hh, hk, H⟩ := H
      refine J_cald dX6_readNumber_52 hh hk ?_
      generalize ff (Int32.toNatClampNeg v13) = v14 at H ⊢
      clear hh hk ff
      refine J_bipush (v := 48) dX6_readNumber_53 (by decide) ?_
      refine J_isub dX6_readNumber_55 ?_
      refine J_i2l dX6_readNumber_56 ?_
      refine J_ladd dX6_readNumber_57 ?_
      obtain ⟨fs, hh, hk, H⟩ := H
      refine J_put dX6_readNumber_58 fX6_27 rfl rfl hh hk ?_
      generalize List.set h8 a0 (am_O 6 (List.set fs 4 (.long ((v10 * 10) + (Int32.toInt64 (v14 - 48)))))) = h15 at H ⊢
      clear hh hk
      refine J_aload_n dX6_readNumber_61 0 rfl ?_
      refine J_dup dX6_readNumber_62 rfl ?_
      obtain ⟨fs, v16, hh, hk, H⟩ := H
      refine J_get dX6_readNumber_63 fX6_13 hh hk ?_
      clear hh hk
      refine J_iconst (v := 1) dX6_readNumber_66 (by decide) ?_
      refine J_iadd dX6_readNumber_67 ?_
      obtain ⟨fs, hh, hk, H⟩ := H
      refine J_put dX6_readNumber_68 fX6_13 rfl rfl hh hk ?_
      generalize List.set h15 a0 (am_O 6 (List.set fs 1 (.int (v16 + 1)))) = h17 at H ⊢
      clear hh hk
      refine J_goto (tgt := 0) dX6_readNumber_71 (by decide) ?_
      exact J_pick [0] rfl H
theorem eX6_readNumber {l : Launch} {g : am_G} {d : Nat} {x : Bool} {a0 : Nat} {h : am_H} {K : am_H → Prop} (H : zX6_readNumber_0 l g d x a0 h (fun r h' => r = none ∧ K h')) : cl_N l g mX6_readNumber (d + 1) x [.ref a0] h K := rX6_readNumber_0 H
def zX6_readSign_37 (l : Launch) (g : am_G) (d : Nat) (x : Bool) (a0 : Nat) (i1 : Int32) (s0 : Nat) (s1 : Int32) (h : am_H) (Q : Option Value → am_H → Prop) : Prop := pt_V h s0 6 2 (.int s1) (fun h1 => pt_V h1 a0 6 4 (.long (Int32.toInt64 i1)) (fun h2 => gt_I h2 a0 6 3 (fun v3 => pt_V h2 a0 6 1 (.int (v3 + 1)) (fun h4 => Q none h4))))
set_option maxRecDepth 4000 in
theorem rX6_readSign_37 {l : Launch} {g : am_G} {d : Nat} {x : Bool} {a0 : Nat} {i1 : Int32} {s0 : Nat} {s1 : Int32} {h : am_H} {Q : Option Value → am_H → Prop} (H : zX6_readSign_37 l g d x a0 i1 s0 s1 h Q) : am_J l g mX6_readSign d (0, 0, x) 37 [(0, .ref a0), (1, .int i1)] [.int s1, .ref s0] h Q := by
  unfold zX6_readSign_37 at H
  obtain ⟨fs, hh, hk, H⟩ := H
  refine J_put dX6_readSign_37 fX6_36 rfl rfl hh hk ?_
  generalize List.set h s0 (am_O 6 (List.set fs 2 (.int s1))) = h1 at H ⊢
  clear hh hk
  refine J_aload_n dX6_readSign_40 0 rfl ?_
  refine J_iload_n dX6_readSign_41 1 rfl ?_
  refine J_i2l dX6_readSign_42 ?_
  obtain ⟨fs, hh, hk, H⟩ := H
  refine J_put dX6_readSign_43 fX6_27 rfl rfl hh hk ?_
  generalize List.set h1 a0 (am_O 6 (List.set fs 4 (.long (Int32.toInt64 i1)))) = h2 at H ⊢
  clear hh hk
  refine J_aload_n dX6_readSign_46 0 rfl ?_
  refine J_aload_n dX6_readSign_47 0 rfl ?_
  obtain ⟨fs, v3, hh, hk, H⟩ := H
  refine J_get dX6_readSign_48 fX6_24 hh hk ?_
  clear hh hk
  refine J_iconst (v := 1) dX6_readSign_51 (by decide) ?_
  refine J_iadd dX6_readSign_52 ?_
  obtain ⟨fs, hh, hk, H⟩ := H
  refine J_put dX6_readSign_53 fX6_13 rfl rfl hh hk ?_
  generalize List.set h2 a0 (am_O 6 (List.set fs 1 (.int (v3 + 1)))) = h4 at H ⊢
  clear hh hk
  exact J_vret dX6_readSign_56 rfl ⟨Nat.le_of_ble_eq_true rfl, Nat.le_of_ble_eq_true rfl, fun _ => rfl⟩ H
def zX6_readSign_32 (l : Launch) (g : am_G) (d : Nat) (x : Bool) (a0 : Nat) (i1 : Int32) (s0 : Nat) (h : am_H) (Q : Option Value → am_H → Prop) : Prop := zX6_readSign_37 l g d x a0 i1 s0 3 h Q
set_option maxRecDepth 4000 in
theorem rX6_readSign_32 {l : Launch} {g : am_G} {d : Nat} {x : Bool} {a0 : Nat} {i1 : Int32} {s0 : Nat} {h : am_H} {Q : Option Value → am_H → Prop} (H : zX6_readSign_32 l g d x a0 i1 s0 h Q) : am_J l g mX6_readSign d (0, 0, x) 32 [(0, .ref a0), (1, .int i1)] [.ref s0] h Q := by
  unfold zX6_readSign_32 at H
  refine J_iconst (v := 3) dX6_readSign_32 (by decide) ?_
  refine J_goto (tgt := 37) dX6_readSign_33 (by decide) ?_
  exact J_pick [0, 1] rfl (rX6_readSign_37 H)
def zX6_readSign_0 (l : Launch) (g : am_G) (d : Nat) (x : Bool) (a0 : Nat) (h : am_H) (Q : Option Value → am_H → Prop) : Prop := gt_R h a0 6 0 (fun v1 => gt_R h v1 5 0 (fun v2 => gt_I h a0 6 3 (fun v3 => al_I 3 h v2 v3 (fun v4 => ((v4 = 43 → zX6_readSign_32 l g d x a0 v4 a0 h Q) ∧ (¬ v4 = 43 → ((v4 = 45 → zX6_readSign_32 l g d x a0 v4 a0 h Q) ∧ (¬ v4 = 45 → ((¬ v4 = 59 → zX6_readSign_37 l g d x a0 v4 a0 4 h Q) ∧ (v4 = 59 → zX6_readSign_32 l g d x a0 v4 a0 h Q))))))))))
set_option maxRecDepth 4000 in
theorem rX6_readSign_0 {l : Launch} {g : am_G} {d : Nat} {x : Bool} {a0 : Nat} {h : am_H} {Q : Option Value → am_H → Prop} (H : zX6_readSign_0 l g d x a0 h Q) : am_J l g mX6_readSign d (0, 0, x) 0 [(0, .ref a0)] [] h Q := by
  unfold zX6_readSign_0 at H
  refine J_aload_n dX6_readSign_0 0 rfl ?_
  obtain ⟨fs, v1, hh, hk, H⟩ := H
  refine J_get dX6_readSign_1 fX6_7 hh hk ?_
  clear hh hk
  obtain ⟨fs, v2, hh, hk, H⟩ := H
  refine J_get dX6_readSign_4 fX6_39 hh hk ?_
  clear hh hk
  refine J_aload_n dX6_readSign_7 0 rfl ?_
  obtain ⟨fs, v3, hh, hk, H⟩ := H
  refine J_get dX6_readSign_8 fX6_24 hh hk ?_
  clear hh hk
  obtain ⟨nn, ff, hh, hk, H⟩ := H
  refine J_cald dX6_readSign_11 hh hk ?_
  generalize ff (Int32.toNatClampNeg v3) = v4 at H ⊢
  clear hh hk ff
  refine J_istore_n (L' := [(1, .int v4), (0, .ref a0)]) dX6_readSign_12 (by decide) rfl ?_
  refine J_aload_n dX6_readSign_13 1 rfl ?_
  refine J_iload_n dX6_readSign_14 0 rfl ?_
  refine J_bipush (v := 43) dX6_readSign_15 (by decide) ?_
  obtain ⟨H1, H2⟩ := H
  refine J_icmp_eq (tgt := 32) dX6_readSign_17 (by decide) (fun hc => ?_) (fun hc => ?_)
  · replace H := H1 hc
    clear H1 H2
    exact J_pick [1, 0] rfl (rX6_readSign_32 H)
  · replace H := H2 hc
    clear H1 H2
    refine J_iload_n dX6_readSign_20 0 rfl ?_
    refine J_bipush (v := 45) dX6_readSign_21 (by decide) ?_
    obtain ⟨H1, H2⟩ := H
    refine J_icmp_eq (tgt := 32) dX6_readSign_23 (by decide) (fun hc => ?_) (fun hc => ?_)
    · replace H := H1 hc
      clear H1 H2
      exact J_pick [1, 0] rfl (rX6_readSign_32 H)
    · replace H := H2 hc
      clear H1 H2
      refine J_iload_n dX6_readSign_26 0 rfl ?_
      refine J_bipush (v := 59) dX6_readSign_27 (by decide) ?_
      obtain ⟨H1, H2⟩ := H
      refine J_icmp_ne (tgt := 36) dX6_readSign_29 (by decide) (fun hc => ?_) (fun hc => ?_)
      · replace H := H1 hc
        clear H1 H2
        refine J_iconst (v := 4) dX6_readSign_36 (by decide) ?_
        exact J_pick [1, 0] rfl (rX6_readSign_37 H)
      · replace H := H2 hc
        clear H1 H2
        exact J_pick [1, 0] rfl (rX6_readSign_32 H)
theorem eX6_readSign {l : Launch} {g : am_G} {d : Nat} {x : Bool} {a0 : Nat} {h : am_H} {K : am_H → Prop} (H : zX6_readSign_0 l g d x a0 h (fun r h' => r = none ∧ K h')) : cl_N l g mX6_readSign d x [.ref a0] h K := rX6_readSign_0 H
def zX6_isLetter_0 (l : Launch) (g : am_G) (d : Nat) (x : Bool) (i0 : Int32) (h : am_H) (Q : Option Value → am_H → Prop) : Prop := ((i0 < 97 → Q (some (.int 0)) h) ∧ (¬ i0 < 97 → ((122 < i0 → Q (some (.int 0)) h) ∧ (¬ 122 < i0 → Q (some (.int 1)) h))))
set_option maxRecDepth 4000 in
theorem rX6_isLetter_0 {l : Launch} {g : am_G} {d : Nat} {x : Bool} {i0 : Int32} {h : am_H} {Q : Option Value → am_H → Prop} (H : zX6_isLetter_0 l g d x i0 h Q) : am_J l g mX6_isLetter d (0, 0, x) 0 [(0, .int i0)] [] h Q := by
  unfold zX6_isLetter_0 at H
  refine J_iload_n dX6_isLetter_0 0 rfl ?_
  refine J_bipush (v := 97) dX6_isLetter_1 (by decide) ?_
  obtain ⟨H1, H2⟩ := H
  refine J_icmp_lt (tgt := 16) dX6_isLetter_3 (by decide) (fun hc => ?_) (fun hc => ?_)
  · replace H := H1 hc
    clear H1 H2
    refine J_iconst (v := 0) dX6_isLetter_16 (by decide) ?_
    exact J_iret dX6_isLetter_17 ⟨_, rfl, rfl⟩ ⟨Nat.le_of_ble_eq_true rfl, Nat.le_of_ble_eq_true rfl, fun _ => rfl⟩ H
  · replace H := H2 hc
    clear H1 H2
    refine J_iload_n dX6_isLetter_6 0 rfl ?_
    refine J_bipush (v := 122) dX6_isLetter_7 (by decide) ?_
    obtain ⟨H1, H2⟩ := H
    refine J_icmp_gt (tgt := 16) dX6_isLetter_9 (by decide) (fun hc => ?_) (fun hc => ?_)
    · replace H := H1 hc
      clear H1 H2
      refine J_iconst (v := 0) dX6_isLetter_16 (by decide) ?_
      exact J_iret dX6_isLetter_17 ⟨_, rfl, rfl⟩ ⟨Nat.le_of_ble_eq_true rfl, Nat.le_of_ble_eq_true rfl, fun _ => rfl⟩ H
    · replace H := H2 hc
      clear H1 H2
      refine J_iconst (v := 1) dX6_isLetter_12 (by decide) ?_
      refine J_goto (tgt := 17) dX6_isLetter_13 (by decide) ?_
      exact J_iret dX6_isLetter_17 ⟨_, rfl, rfl⟩ ⟨Nat.le_of_ble_eq_true rfl, Nat.le_of_ble_eq_true rfl, fun _ => rfl⟩ H
theorem eX6_isLetter {l : Launch} {g : am_G} {d : Nat} {x : Bool} {i0 : Int32} {h : am_H} {K : Int32 → am_H → Prop} (H : zX6_isLetter_0 l g d x i0 h (fun r h' => ∃ v, r = some (.int v) ∧ K v h')) : cl_I l g mX6_isLetter d x [.int i0] h K := rX6_isLetter_0 H
def zX6_isDigit_0 (l : Launch) (g : am_G) (d : Nat) (x : Bool) (i0 : Int32) (h : am_H) (Q : Option Value → am_H → Prop) : Prop := ((i0 < 48 → Q (some (.int 0)) h) ∧ (¬ i0 < 48 → ((57 < i0 → Q (some (.int 0)) h) ∧ (¬ 57 < i0 → Q (some (.int 1)) h))))
set_option maxRecDepth 4000 in
theorem rX6_isDigit_0 {l : Launch} {g : am_G} {d : Nat} {x : Bool} {i0 : Int32} {h : am_H} {Q : Option Value → am_H → Prop} (H : zX6_isDigit_0 l g d x i0 h Q) : am_J l g mX6_isDigit d (0, 0, x) 0 [(0, .int i0)] [] h Q := by
  unfold zX6_isDigit_0 at H
  refine J_iload_n dX6_isDigit_0 0 rfl ?_
  refine J_bipush (v := 48) dX6_isDigit_1 (by decide) ?_
  obtain ⟨H1, H2⟩ := H
  refine J_icmp_lt (tgt := 16) dX6_isDigit_3 (by decide) (fun hc => ?_) (fun hc => ?_)
  · replace H := H1 hc
    clear H1 H2
    refine J_iconst (v := 0) dX6_isDigit_16 (by decide) ?_
    exact J_iret dX6_isDigit_17 ⟨_, rfl, rfl⟩ ⟨Nat.le_of_ble_eq_true rfl, Nat.le_of_ble_eq_true rfl, fun _ => rfl⟩ H
  · replace H := H2 hc
    clear H1 H2
    refine J_iload_n dX6_isDigit_6 0 rfl ?_
    refine J_bipush (v := 57) dX6_isDigit_7 (by decide) ?_
    obtain ⟨H1, H2⟩ := H
    refine J_icmp_gt (tgt := 16) dX6_isDigit_9 (by decide) (fun hc => ?_) (fun hc => ?_)
    · replace H := H1 hc
      clear H1 H2
      refine J_iconst (v := 0) dX6_isDigit_16 (by decide) ?_
      exact J_iret dX6_isDigit_17 ⟨_, rfl, rfl⟩ ⟨Nat.le_of_ble_eq_true rfl, Nat.le_of_ble_eq_true rfl, fun _ => rfl⟩ H
    · replace H := H2 hc
      clear H1 H2
      refine J_iconst (v := 1) dX6_isDigit_12 (by decide) ?_
      refine J_goto (tgt := 17) dX6_isDigit_13 (by decide) ?_
      exact J_iret dX6_isDigit_17 ⟨_, rfl, rfl⟩ ⟨Nat.le_of_ble_eq_true rfl, Nat.le_of_ble_eq_true rfl, fun _ => rfl⟩ H
theorem eX6_isDigit {l : Launch} {g : am_G} {d : Nat} {x : Bool} {i0 : Int32} {h : am_H} {K : Int32 → am_H → Prop} (H : zX6_isDigit_0 l g d x i0 h (fun r h' => ∃ v, r = some (.int v) ∧ K v h')) : cl_I l g mX6_isDigit d x [.int i0] h K := rX6_isDigit_0 H
