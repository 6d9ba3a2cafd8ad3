def zX4_init_0 (l : Launch) (g : am_G) (d : Nat) (a0 : Nat) (a1 : Nat) (h : am_H) (Q : Option Value → am_H → Prop) : Prop := pt_V h a0 4 0 (.ref a1) (fun h1 => pt_V (h1 ++ [am_L 4 (fun _ => 0)]) a0 4 1 (.ref ((h1).length)) (fun h2 => Q none h2))
set_option maxRecDepth 4000 in
theorem rX4_init_0 {l : Launch} {g : am_G} {d : Nat} {a0 : Nat} {a1 : Nat} {h : am_H} {Q : Option Value → am_H → Prop} (H : zX4_init_0 l g d a0 a1 h Q) : am_J l g mX4_init (d + 1) (0, 0, true) 0 [(0, .ref a0), (1, .ref a1)] [] h Q := by
  unfold zX4_init_0 at H
  refine J_aload_n dX4_init_0 0 rfl ?_
  refine J_objInit dX4_init_1 kX4_3 (Nat.le_of_ble_eq_true rfl) ?_
  refine J_aload_n dX4_init_4 0 rfl ?_
  refine J_aload_n dX4_init_5 1 rfl ?_
  obtain ⟨fs, hh, hk, H⟩ := H
  refine J_putF dX4_init_6 fX4_9 rfl rfl rfl rfl hh hk ?_
  generalize List.set h a0 (am_O 4 (List.set fs 0 (.ref a1))) = h1 at H ⊢
  clear hh hk
  refine J_aload_n dX4_init_9 0 rfl ?_
  refine J_iconst (v := 4) dX4_init_10 (by decide) ?_
  refine J_newaL (N' := 4) dX4_init_11 rfl aw_long (by decide +kernel) (by decide +kernel) (by decide +kernel) ⟨by decide +kernel, by decide +kernel⟩ ?_
  show am_J l g mX4_init (d + 1) (1, 4, true) 13 [(0, .ref a0), (1, .ref a1)] [.ref ((h1).length), .ref a0] (h1 ++ [am_L 4 (fun _ => 0)]) Q
  obtain ⟨fs, hh, hk, H⟩ := H
  refine J_putF dX4_init_13 fX4_15 rfl rfl rfl rfl hh hk ?_
  generalize List.set (h1 ++ [am_L 4 (fun _ => 0)]) a0 (am_O 4 (List.set fs 1 (.ref ((h1).length)))) = h2 at H ⊢
  clear hh hk
  exact J_vret dX4_init_16 rfl ⟨by decide +kernel, by decide +kernel, fun _ => by decide +kernel⟩ H
theorem eX4_init {l : Launch} {g : am_G} {d : Nat} {a0 : Nat} {a1 : Nat} {h : am_H} {K : am_H → Prop} (H : zX4_init_0 l g d a0 a1 h (fun r h' => r = none ∧ K h')) : cl_N l g mX4_init (d + 1) true [.ref a0, .ref a1] h K := rX4_init_0 H
def zX4_read_129 (l : Launch) (g : am_G) (d : Nat) (x : Bool) (a0 : Nat) (h : am_H) (Q : Option Value → am_H → Prop) : Prop := gt_I h a0 4 2 (fun v1 => Q (some (.int v1)) h)
set_option maxRecDepth 4000 in
theorem rX4_read_129 {l : Launch} {g : am_G} {d : Nat} {x : Bool} {a0 : Nat} {h : am_H} {Q : Option Value → am_H → Prop} (H : zX4_read_129 l g d x a0 h Q) : am_J l g mX4_read (d + 1) (0, 0, x) 129 [(0, .ref a0)] [] h Q := by
  unfold zX4_read_129 at H
  refine J_aload_n dX4_read_129 0 rfl ?_
  obtain ⟨fs, v1, hh, hk, H⟩ := H
  refine J_get dX4_read_130 fX4_24 hh hk ?_
  clear hh hk
  exact J_iret dX4_read_133 ⟨_, rfl, rfl⟩ ⟨Nat.le_of_ble_eq_true rfl, Nat.le_of_ble_eq_true rfl, fun _ => rfl⟩ H
def zX4_read_107 (l : Launch) (g : am_G) (d : Nat) (x : Bool) (a0 : Nat) (h : am_H) (Q : Option Value → am_H → Prop) : Prop := gt_I h a0 4 2 (fun v1 => ((¬ v1 = 0 → zX4_read_129 l g d x a0  h Q) ∧ (v1 = 0 → gt_R h a0 4 0 (fun v2 => gt_I h v2 6 2 (fun v3 => ((v3 = 0 → zX4_read_129 l g d x a0  h Q) ∧ (¬ v3 = 0 → cv_N l g mX4_failWith d x 4 a0 [.int 1] h (fun h4 => zX4_read_129 l g d x a0  h4 Q))))))))
set_option maxRecDepth 4000 in
theorem rX4_read_107 {l : Launch} {g : am_G} {d : Nat} {x : Bool} {a0 : Nat} {h : am_H} {Q : Option Value → am_H → Prop} (H : zX4_read_107 l g d x a0 h Q) : am_J l g mX4_read (d + 1) (0, 0, x) 107 [(0, .ref a0)] [] h Q := by
  unfold zX4_read_107 at H
  refine J_aload_n dX4_read_107 0 rfl ?_
  obtain ⟨fs, v1, hh, hk, H⟩ := H
  refine J_get dX4_read_108 fX4_24 hh hk ?_
  clear hh hk
  obtain ⟨H1, H2⟩ := H
  refine J_if_ne (tgt := 129) dX4_read_111 (by decide) (fun hc => ?_) (fun hc => ?_)
  · replace H := H1 hc
    clear H1 H2
    exact J_pick [0] rfl (rX4_read_129 H)
  · replace H := H2 hc
    clear H1 H2
    refine J_aload_n dX4_read_114 0 rfl ?_
    obtain ⟨fs, v2, hh, hk, H⟩ := H
    refine J_get dX4_read_115 fX4_9 hh hk ?_
    clear hh hk
    obtain ⟨fs, v3, hh, hk, H⟩ := H
    refine J_get dX4_read_118 fX4_52 hh hk ?_
    clear hh hk
    obtain ⟨H1, H2⟩ := H
    refine J_if_eq (tgt := 129) dX4_read_121 (by decide) (fun hc => ?_) (fun hc => ?_)
    · replace H := H1 hc
      clear H1 H2
      exact J_pick [0] rfl (rX4_read_129 H)
    · replace H := H2 hc
      clear H1 H2
      refine J_aload_n dX4_read_124 0 rfl ?_
      refine J_iconst (v := 1) dX4_read_125 (by decide) ?_
      obtain ⟨⟨fs, hh⟩, H⟩ := H
      refine J_callV (As := [.int 1]) (S := []) (b := a0) dX4_read_126 mX4_failWith_ok kX4_39 rfl (by decide) (Nat.le_of_ble_eq_true rfl) hh rfl rfl (Nat.le_of_ble_eq_true rfl) ⟨Nat.le_of_ble_eq_true rfl, Nat.le_of_ble_eq_true rfl⟩ (fun k h' hp => ?_) H (fun r h4 hp => ?_)
      · obtain ⟨hv, -⟩ := hp; cases hv
      obtain ⟨rfl, H⟩ := hp
      show am_J l g mX4_read (d + 1) (0, 0, x) 129 [(0, .ref a0)] [] h4 Q
      exact J_pick [0] rfl (rX4_read_129 H)
def zX4_read_73 (l : Launch) (g : am_G) (d : Nat) (x : Bool) (a0 : Nat) (a1 : Nat) (i2 : Int32) (h : am_H) (Q : Option Value → am_H → Prop) : Prop := ((24 < i2 → zX4_read_107 l g d x a0  h Q) ∧ (¬ 24 < i2 → gt_I h a0 4 2 (fun v1 => ((¬ v1 = 0 → zX4_read_107 l g d x a0  h Q) ∧ (v1 = 0 → cv_I l g mX4_isWord d x 4 a0 [.long 1818848875] h (fun v3 h2 => ((v3 = 0 → zX4_read_107 l g d x a0  h2 Q) ∧ (¬ v3 = 0 → cv_N l g mX4_readLink d x 4 a0 [.ref a1] h2 (fun h4 => am_J l g mX4_read (d + 1) (0, 0, x) 73 [(0, .ref a0), (1, .ref a1), (2, .int (i2 + 1))] [] h4 Q)))))))))
set_option maxRecDepth 4000 in
theorem rX4_read_73 {l : Launch} {g : am_G} {d : Nat} {x : Bool} {a0 : Nat} {a1 : Nat} {i2 : Int32} {h : am_H} {Q : Option Value → am_H → Prop} (H : zX4_read_73 l g d x a0 a1 i2 h Q) : am_J l g mX4_read (d + 1) (0, 0, x) 73 [(0, .ref a0), (1, .ref a1), (2, .int i2)] [] h Q := by
  unfold zX4_read_73 at H
  refine J_iload_n dX4_read_73 2 rfl ?_
  refine J_bipush (v := 24) dX4_read_74 (by decide) ?_
  obtain ⟨H1, H2⟩ := H
  refine J_icmp_gt (tgt := 107) dX4_read_76 (by decide) (fun hc => ?_) (fun hc => ?_)
  · replace H := H1 hc
    clear H1 H2
    exact J_pick [0] rfl (rX4_read_107 H)
  · replace H := H2 hc
    clear H1 H2
    refine J_aload_n dX4_read_79 0 rfl ?_
    obtain ⟨fs, v1, hh, hk, H⟩ := H
    refine J_get dX4_read_80 fX4_24 hh hk ?_
    clear hh hk
    obtain ⟨H1, H2⟩ := H
    refine J_if_ne (tgt := 107) dX4_read_83 (by decide) (fun hc => ?_) (fun hc => ?_)
    · replace H := H1 hc
      clear H1 H2
      exact J_pick [0] rfl (rX4_read_107 H)
    · replace H := H2 hc
      clear H1 H2
      refine J_aload_n dX4_read_86 0 rfl ?_
      refine J_ldc2 (v := 1818848875) dX4_read_87 qX4_47 ?_
      obtain ⟨⟨fs, hh⟩, H⟩ := H
      refine J_callV (As := [.long 1818848875]) (S := []) (b := a0) dX4_read_90 mX4_isWord_ok kX4_35 rfl (by decide) (Nat.le_of_ble_eq_true rfl) hh rfl rfl (Nat.le_of_ble_eq_true rfl) ⟨Nat.le_of_ble_eq_true rfl, Nat.le_of_ble_eq_true rfl⟩ (fun k h' hp => ?_) H (fun r h2 hp => ?_)
      · obtain ⟨_, hv, -⟩ := hp; cases hv
      obtain ⟨v3, rfl, H⟩ := hp
      show am_J l g mX4_read (d + 1) (0, 0, x) 93 [(0, .ref a0), (1, .ref a1), (2, .int i2)] [.int v3] h2 Q
      obtain ⟨H1, H2⟩ := H
      refine J_if_eq (tgt := 107) dX4_read_93 (by decide) (fun hc => ?_) (fun hc => ?_)
      · replace H := H1 hc
        clear H1 H2
        exact J_pick [0] rfl (rX4_read_107 H)
      · replace H := H2 hc
        clear H1 H2
        refine J_aload_n dX4_read_96 0 rfl ?_
        refine J_aload_n dX4_read_97 1 rfl ?_
        obtain ⟨⟨fs, hh⟩, H⟩ := H
        refine J_callV (As := [.ref a1]) (S := []) (b := a0) dX4_read_98 mX4_readLink_ok kX4_49 rfl (by decide) (Nat.le_of_ble_eq_true rfl) hh rfl rfl (Nat.le_of_ble_eq_true rfl) ⟨Nat.le_of_ble_eq_true rfl, Nat.le_of_ble_eq_true rfl⟩ (fun k h' hp => ?_) H (fun r h4 hp => ?_)
        · obtain ⟨hv, -⟩ := hp; cases hv
        obtain ⟨rfl, H⟩ := hp
        show am_J l g mX4_read (d + 1) (0, 0, x) 101 [(0, .ref a0), (1, .ref a1), (2, .int i2)] [] h4 Q
        refine J_iinc (v := (i2 + 1)) (L' := [(2, .int (i2 + 1)), (0, .ref a0), (1, .ref a1)]) dX4_read_101 2 rfl rfl (by decide) rfl ?_
        refine J_goto (tgt := 73) dX4_read_104 (by decide) ?_
        exact J_pick [1, 2, 0] rfl H
def zX4_read_71 (l : Launch) (g : am_G) (d : Nat) (x : Bool) (a0 : Nat) (a1 : Nat) (h : am_H) (Q : Option Value → am_H → Prop) : Prop := am_J l g mX4_read (d + 1) (0, 0, x) 73 [(0, .ref a0), (1, .ref a1), (2, .int 0)] [] h Q
set_option maxRecDepth 4000 in
theorem rX4_read_71 {l : Launch} {g : am_G} {d : Nat} {x : Bool} {a0 : Nat} {a1 : Nat} {h : am_H} {Q : Option Value → am_H → Prop} (H : zX4_read_71 l g d x a0 a1 h Q) : am_J l g mX4_read (d + 1) (0, 0, x) 71 [(0, .ref a0), (1, .ref a1)] [] h Q := by
  unfold zX4_read_71 at H
  refine J_iconst (v := 0) dX4_read_71 (by decide) ?_
  refine J_istore_n (L' := [(2, .int 0), (0, .ref a0), (1, .ref a1)]) dX4_read_72 (by decide) rfl ?_
  exact J_pick [1, 2, 0] rfl H
def zX4_read_38 (l : Launch) (g : am_G) (d : Nat) (x : Bool) (a0 : Nat) (a1 : Nat) (i2 : Int32) (h : am_H) (Q : Option Value → am_H → Prop) : Prop := ((4 < i2 → zX4_read_71 l g d x a0 a1  h Q) ∧ (¬ 4 < i2 → gt_I h a0 4 2 (fun v1 => ((¬ v1 = 0 → zX4_read_71 l g d x a0 a1  h Q) ∧ (v1 = 0 → cv_I l g mX4_isWord d x 4 a0 [.long 1919512167] h (fun v3 h2 => ((v3 = 0 → zX4_read_71 l g d x a0 a1  h2 Q) ∧ (¬ v3 = 0 → cv_N l g mX4_readRing d x 4 a0 [.ref a1] h2 (fun h4 => am_J l g mX4_read (d + 1) (0, 0, x) 38 [(0, .ref a0), (1, .ref a1), (2, .int (i2 + 1))] [] h4 Q)))))))))
set_option maxRecDepth 4000 in
theorem rX4_read_38 {l : Launch} {g : am_G} {d : Nat} {x : Bool} {a0 : Nat} {a1 : Nat} {i2 : Int32} {h : am_H} {Q : Option Value → am_H → Prop} (H : zX4_read_38 l g d x a0 a1 i2 h Q) : am_J l g mX4_read (d + 1) (0, 0, x) 38 [(0, .ref a0), (1, .ref a1), (2, .int i2)] [] h Q := by
  unfold zX4_read_38 at H
  refine J_iload_n dX4_read_38 2 rfl ?_
  refine J_iconst (v := 4) dX4_read_39 (by decide) ?_
  obtain ⟨H1, H2⟩ := H
  refine J_icmp_gt (tgt := 71) dX4_read_40 (by decide) (fun hc => ?_) (fun hc => ?_)
  · replace H := H1 hc
    clear H1 H2
    exact J_pick [0, 1] rfl (rX4_read_71 H)
  · replace H := H2 hc
    clear H1 H2
    refine J_aload_n dX4_read_43 0 rfl ?_
    obtain ⟨fs, v1, hh, hk, H⟩ := H
    refine J_get dX4_read_44 fX4_24 hh hk ?_
    clear hh hk
    obtain ⟨H1, H2⟩ := H
    refine J_if_ne (tgt := 71) dX4_read_47 (by decide) (fun hc => ?_) (fun hc => ?_)
    · replace H := H1 hc
      clear H1 H2
      exact J_pick [0, 1] rfl (rX4_read_71 H)
    · replace H := H2 hc
      clear H1 H2
      refine J_aload_n dX4_read_50 0 rfl ?_
      refine J_ldc2 (v := 1919512167) dX4_read_51 qX4_33 ?_
      obtain ⟨⟨fs, hh⟩, H⟩ := H
      refine J_callV (As := [.long 1919512167]) (S := []) (b := a0) dX4_read_54 mX4_isWord_ok kX4_35 rfl (by decide) (Nat.le_of_ble_eq_true rfl) hh rfl rfl (Nat.le_of_ble_eq_true rfl) ⟨Nat.le_of_ble_eq_true rfl, Nat.le_of_ble_eq_true rfl⟩ (fun k h' hp => ?_) H (fun r h2 hp => ?_)
      · obtain ⟨_, hv, -⟩ := hp; cases hv
      obtain ⟨v3, rfl, H⟩ := hp
      show am_J l g mX4_read (d + 1) (0, 0, x) 57 [(0, .ref a0), (1, .ref a1), (2, .int i2)] [.int v3] h2 Q
      obtain ⟨H1, H2⟩ := H
      refine J_if_eq (tgt := 71) dX4_read_57 (by decide) (fun hc => ?_) (fun hc => ?_)
      · replace H := H1 hc
        clear H1 H2
        exact J_pick [0, 1] rfl (rX4_read_71 H)
      · replace H := H2 hc
        clear H1 H2
        refine J_aload_n dX4_read_60 0 rfl ?_
        refine J_aload_n dX4_read_61 1 rfl ?_
        obtain ⟨⟨fs, hh⟩, H⟩ := H
        refine J_callV (As := [.ref a1]) (S := []) (b := a0) dX4_read_62 mX4_readRing_ok kX4_43 rfl (by decide) (Nat.le_of_ble_eq_true rfl) hh rfl rfl (Nat.le_of_ble_eq_true rfl) ⟨Nat.le_of_ble_eq_true rfl, Nat.le_of_ble_eq_true rfl⟩ (fun k h' hp => ?_) H (fun r h4 hp => ?_)
        · obtain ⟨hv, -⟩ := hp; cases hv
        obtain ⟨rfl, H⟩ := hp
        show am_J l g mX4_read (d + 1) (0, 0, x) 65 [(0, .ref a0), (1, .ref a1), (2, .int i2)] [] h4 Q
        refine J_iinc (v := (i2 + 1)) (L' := [(2, .int (i2 + 1)), (0, .ref a0), (1, .ref a1)]) dX4_read_65 2 rfl rfl (by decide) rfl ?_
        refine J_goto (tgt := 38) dX4_read_68 (by decide) ?_
        exact J_pick [1, 2, 0] rfl H
def zX4_read_0 (l : Launch) (g : am_G) (d : Nat) (x : Bool) (a0 : Nat) (a1 : Nat) (h : am_H) (Q : Option Value → am_H → Prop) : Prop := cv_N l g mX7_empty d x 7 a1 [] h (fun h1 => pt_V h1 a0 4 2 (.int 0) (fun h3 => gt_R h3 a0 4 0 (fun v4 => cv_N l g mX6_start d x 6 v4 [] h3 (fun h5 => cv_I l g mX4_isWord d x 4 a0 [.long 1919512167] h5 (fun v8 h7 => ((¬ v8 = 0 → am_J l g mX4_read (d + 1) (0, 0, x) 38 [(0, .ref a0), (1, .ref a1), (2, .int 0)] [] h7 Q) ∧ (v8 = 0 → cv_N l g mX4_failWith d x 4 a0 [.int 1] h7 (fun h9 => gt_I h9 a0 4 2 (fun v11 => Q (some (.int v11)) h9)))))))))
set_option maxRecDepth 4000 in
theorem rX4_read_0 {l : Launch} {g : am_G} {d : Nat} {x : Bool} {a0 : Nat} {a1 : Nat} {h : am_H} {Q : Option Value → am_H → Prop} (H : zX4_read_0 l g d x a0 a1 h Q) : am_J l g mX4_read (d + 1) (0, 0, x) 0 [(0, .ref a0), (1, .ref a1)] [] h Q := by
  unfold zX4_read_0 at H
  refine J_aload_n dX4_read_0 1 rfl ?_
  obtain ⟨⟨fs, hh⟩, H⟩ := H
  refine J_callV (As := []) (S := []) (b := a1) dX4_read_1 mX7_empty_ok kX4_19 rfl (by decide) (Nat.le_of_ble_eq_true rfl) hh rfl rfl (Nat.le_of_ble_eq_true rfl) ⟨Nat.le_of_ble_eq_true rfl, Nat.le_of_ble_eq_true rfl⟩ (fun k h' hp => ?_) H (fun r h1 hp => ?_)
  · obtain ⟨hv, -⟩ := hp; cases hv
  obtain ⟨rfl, H⟩ := hp
  show am_J l g mX4_read (d + 1) (0, 0, x) 4 [(0, .ref a0), (1, .ref a1)] [] h1 Q
  refine J_aload_n dX4_read_4 0 rfl ?_
  refine J_iconst (v := 0) dX4_read_5 (by decide) ?_
  obtain ⟨fs, hh, hk, H⟩ := H
  refine J_put dX4_read_6 fX4_24 rfl rfl hh hk ?_
  generalize List.set h1 a0 (am_O 4 (List.set fs 2 (.int 0))) = h3 at H ⊢
  clear hh hk
  refine J_aload_n dX4_read_9 0 rfl ?_
  obtain ⟨fs, v4, hh, hk, H⟩ := H
  refine J_get dX4_read_10 fX4_9 hh hk ?_
  clear hh hk
  obtain ⟨⟨fs, hh⟩, H⟩ := H
  refine J_callV (As := []) (S := []) (b := v4) dX4_read_13 mX6_start_ok kX4_28 rfl (by decide) (Nat.le_of_ble_eq_true rfl) hh rfl rfl (Nat.le_of_ble_eq_true rfl) ⟨Nat.le_of_ble_eq_true rfl, Nat.le_of_ble_eq_true rfl⟩ (fun k h' hp => ?_) H (fun r h5 hp => ?_)
  · obtain ⟨hv, -⟩ := hp; cases hv
  obtain ⟨rfl, H⟩ := hp
  show am_J l g mX4_read (d + 1) (0, 0, x) 16 [(0, .ref a0), (1, .ref a1)] [] h5 Q
  refine J_aload_n dX4_read_16 0 rfl ?_
  refine J_ldc2 (v := 1919512167) dX4_read_17 qX4_33 ?_
  obtain ⟨⟨fs, hh⟩, H⟩ := H
  refine J_callV (As := [.long 1919512167]) (S := []) (b := a0) dX4_read_20 mX4_isWord_ok kX4_35 rfl (by decide) (Nat.le_of_ble_eq_true rfl) hh rfl rfl (Nat.le_of_ble_eq_true rfl) ⟨Nat.le_of_ble_eq_true rfl, Nat.le_of_ble_eq_true rfl⟩ (fun k h' hp => ?_) H (fun r h7 hp => ?_)
  · obtain ⟨_, hv, -⟩ := hp; cases hv
  obtain ⟨v8, rfl, H⟩ := hp
  show am_J l g mX4_read (d + 1) (0, 0, x) 23 [(0, .ref a0), (1, .ref a1)] [.int v8] h7 Q
  obtain ⟨H1, H2⟩ := H
  refine J_if_ne (tgt := 36) dX4_read_23 (by decide) (fun hc => ?_) (fun hc => ?_)
  · replace H := H1 hc
    clear H1 H2
    refine J_iconst (v := 0) dX4_read_36 (by decide) ?_
    refine J_istore_n (L' := [(2, .int 0), (0, .ref a0), (1, .ref a1)]) dX4_read_37 (by decide) rfl ?_
    exact J_pick [1, 2, 0] rfl H
  · replace H := H2 hc
    clear H1 H2
    refine J_aload_n dX4_read_26 0 rfl ?_
    refine J_iconst (v := 1) dX4_read_27 (by decide) ?_
    obtain ⟨⟨fs, hh⟩, H⟩ := H
    refine J_callV (As := [.int 1]) (S := []) (b := a0) dX4_read_28 mX4_failWith_ok kX4_39 rfl (by decide) (Nat.le_of_ble_eq_true rfl) hh rfl rfl (Nat.le_of_ble_eq_true rfl) ⟨Nat.le_of_ble_eq_true rfl, Nat.le_of_ble_eq_true rfl⟩ (fun k h' hp => ?_) H (fun r h9 hp => ?_)
    · obtain ⟨hv, -⟩ := hp; cases hv
    obtain ⟨rfl, H⟩ := hp
    show am_J l g mX4_read (d + 1) (0, 0, x) 31 [(0, .ref a0), (1, .ref a1)] [] h9 Q
    refine J_aload_n dX4_read_31 0 rfl ?_
    obtain ⟨fs, v11, hh, hk, H⟩ := H
    refine J_get dX4_read_32 fX4_24 hh hk ?_
    clear hh hk
    exact J_iret dX4_read_35 ⟨_, rfl, rfl⟩ ⟨Nat.le_of_ble_eq_true rfl, Nat.le_of_ble_eq_true rfl, fun _ => rfl⟩ H
theorem eX4_read {l : Launch} {g : am_G} {d : Nat} {x : Bool} {a0 : Nat} {a1 : Nat} {h : am_H} {K : Int32 → am_H → Prop} (H : zX4_read_0 l g d x a0 a1 h (fun r h' => ∃ v, r = some (.int v) ∧ K v h')) : cl_I l g mX4_read (d + 1) x [.ref a0, .ref a1] h K := rX4_read_0 H
def zX4_readRing_0 (l : Launch) (g : am_G) (d : Nat) (x : Bool) (a0 : Nat) (a1 : Nat) (h : am_H) (Q : Option Value → am_H → Prop) : Prop := gt_I h a1 7 5 (fun v1 => ((v1 < 4 → gt_R h a0 4 0 (fun v2 => cv_N l g mX6_step d x 6 v2 [] h (fun h3 => cv_I l g mX4_isName d x 4 a0 [] h3 (fun v6 h5 => ((¬ v6 = 0 → cv_I l g mX4_ringOfName d x 4 a0 [.ref a1] h5 (fun v8 h7 => ((v8 = (-1) → gt_R h7 a0 4 1 (fun v9 => gt_I h7 a1 7 5 (fun v10 => gt_R h7 a0 4 0 (fun v11 => gt_L h7 v11 6 4 (fun v12 => as_L h7 v9 v10 v12 (fun h13 => gt_I h13 a1 7 5 (fun v14 => pt_V h13 a1 7 5 (.int (v14 + 1)) (fun h15 => gt_R h15 a0 4 0 (fun v16 => cv_N l g mX6_step d x 6 v16 [] h15 (fun h17 => cv_N l g mX4_passSemicolon d x 4 a0 [] h17 (fun h19 => Q none h19))))))))))) ∧ (¬ v8 = (-1) → cv_N l g mX4_failWith d x 4 a0 [.int 3] h7 (fun h21 => Q none h21))))) ∧ (v6 = 0 → cv_N l g mX4_failWith d x 4 a0 [.int 1] h5 (fun h23 => Q none h23))))))) ∧ (¬ v1 < 4 → cv_N l g mX4_failWith d x 4 a0 [.int 5] h (fun h25 => Q none h25))))
set_option maxRecDepth 4000 in
theorem rX4_readRing_0 {l : Launch} {g : am_G} {d : Nat} {x : Bool} {a0 : Nat} {a1 : Nat} {h : am_H} {Q : Option Value → am_H → Prop} (H : zX4_readRing_0 l g d x a0 a1 h Q) : am_J l g mX4_readRing (d + 1) (0, 0, x) 0 [(0, .ref a0), (1, .ref a1)] [] h Q := by
  unfold zX4_readRing_0 at H
  refine J_aload_n dX4_readRing_0 1 rfl ?_
  obtain ⟨fs, v1, hh, hk, H⟩ := H
  refine J_get dX4_readRing_1 fX4_55 hh hk ?_
  clear hh hk
  refine J_iconst (v := 4) dX4_readRing_4 (by decide) ?_
  obtain ⟨H1, H2⟩ := H
  refine J_icmp_lt (tgt := 14) dX4_readRing_5 (by decide) (fun hc => ?_) (fun hc => ?_)
  · replace H := H1 hc
    clear H1 H2
    refine J_aload_n dX4_readRing_14 0 rfl ?_
    obtain ⟨fs, v2, hh, hk, H⟩ := H
    refine J_get dX4_readRing_15 fX4_9 hh hk ?_
    clear hh hk
    obtain ⟨⟨fs, hh⟩, H⟩ := H
    refine J_callV (As := []) (S := []) (b := v2) dX4_readRing_18 mX6_step_ok kX4_58 rfl (by decide) (Nat.le_of_ble_eq_true rfl) hh rfl rfl (Nat.le_of_ble_eq_true rfl) ⟨Nat.le_of_ble_eq_true rfl, Nat.le_of_ble_eq_true rfl⟩ (fun k h' hp => ?_) H (fun r h3 hp => ?_)
    · obtain ⟨hv, -⟩ := hp; cases hv
    obtain ⟨rfl, H⟩ := hp
    show am_J l g mX4_readRing (d + 1) (0, 0, x) 21 [(0, .ref a0), (1, .ref a1)] [] h3 Q
    refine J_aload_n dX4_readRing_21 0 rfl ?_
    obtain ⟨⟨fs, hh⟩, H⟩ := H
    refine J_callV (As := []) (S := []) (b := a0) dX4_readRing_22 mX4_isName_ok kX4_61 rfl (by decide) (Nat.le_of_ble_eq_true rfl) hh rfl rfl (Nat.le_of_ble_eq_true rfl) ⟨Nat.le_of_ble_eq_true rfl, Nat.le_of_ble_eq_true rfl⟩ (fun k h' hp => ?_) H (fun r h5 hp => ?_)
    · obtain ⟨_, hv, -⟩ := hp; cases hv
    obtain ⟨v6, rfl, H⟩ := hp
    show am_J l g mX4_readRing (d + 1) (0, 0, x) 25 [(0, .ref a0), (1, .ref a1)] [.int v6] h5 Q
    obtain ⟨H1, H2⟩ := H
    refine J_if_ne (tgt := 36) dX4_readRing_25 (by decide) (fun hc => ?_) (fun hc => ?_)
    · replace H := H1 hc
      clear H1 H2
      refine J_aload_n dX4_readRing_36 0 rfl ?_
      refine J_aload_n dX4_readRing_37 1 rfl ?_
      obtain ⟨⟨fs, hh⟩, H⟩ := H
      refine J_callV (As := [.ref a1]) (S := []) (b := a0) dX4_readRing_38 mX4_ringOfName_ok kX4_65 rfl (by decide) (Nat.le_of_ble_eq_true rfl) hh rfl rfl (Nat.le_of_ble_eq_true rfl) ⟨Nat.le_of_ble_eq_true rfl, Nat.le_of_ble_eq_true rfl⟩ (fun k h' hp => ?_) H (fun r h7 hp => ?_)
      · obtain ⟨_, hv, -⟩ := hp; cases hv
      obtain ⟨v8, rfl, H⟩ := hp
      show am_J l g mX4_readRing (d + 1) (0, 0, x) 41 [(0, .ref a0), (1, .ref a1)] [.int v8] h7 Q
      refine J_iconst (v := (-1)) dX4_readRing_41 (by decide) ?_
      obtain ⟨H1, H2⟩ := H
      refine J_icmp_eq (tgt := 53) dX4_readRing_42 (by decide) (fun hc => ?_) (fun hc => ?_)
      · replace H := H1 hc
        clear H1 H2
        refine J_aload_n dX4_readRing_53 0 rfl ?_
        obtain ⟨fs, v9, hh, hk, H⟩ := H
        refine J_get dX4_readRing_54 fX4_15 hh hk ?_
        clear hh hk
        refine J_aload_n dX4_readRing_57 1 rfl ?_
        obtain ⟨fs, v10, hh, hk, H⟩ := H
        refine J_get dX4_readRing_58 fX4_55 hh hk ?_
        clear hh hk
        refine J_aload_n dX4_readRing_61 0 rfl ?_
        obtain ⟨fs, v11, hh, hk, H⟩ := H
        refine J_get dX4_readRing_62 fX4_9 hh hk ?_
        clear hh hk
        obtain ⟨fs, v12, hh, hk, H⟩ := H
        refine J_get dX4_readRing_65 fX4_69 hh hk ?_
        clear hh hk
        obtain ⟨nn, ff, hh, hk, H⟩ := H
        refine J_last dX4_readRing_68 hh hk ?_
        generalize List.set h7 v9 (am_L nn (vp_updL ff (Int32.toNatClampNeg v10) v12)) = h13 at H ⊢
        clear hh hk
        refine J_aload_n dX4_readRing_69 1 rfl ?_
        refine J_dup dX4_readRing_70 rfl ?_
        obtain ⟨fs, v14, hh, hk, H⟩ := H
        refine J_get dX4_readRing_71 fX4_55 hh hk ?_
        clear hh hk
        refine J_iconst (v := 1) dX4_readRing_74 (by decide) ?_
        refine J_iadd dX4_readRing_75 ?_
        obtain ⟨fs, hh, hk, H⟩ := H
        refine J_put dX4_readRing_76 fX4_55 rfl rfl hh hk ?_
        generalize List.set h13 a1 (am_O 7 (List.set fs 5 (.int (v14 + 1)))) = h15 at H ⊢
        clear hh hk
        refine J_aload_n dX4_readRing_79 0 rfl ?_
        obtain ⟨fs, v16, hh, hk, H⟩ := H
        refine J_get dX4_readRing_80 fX4_9 hh hk ?_
        clear hh hk
        obtain ⟨⟨fs, hh⟩, H⟩ := H
        refine J_callV (As := []) (S := []) (b := v16) dX4_readRing_83 mX6_step_ok kX4_58 rfl (by decide) (Nat.le_of_ble_eq_true rfl) hh rfl rfl (Nat.le_of_ble_eq_true rfl) ⟨Nat.le_of_ble_eq_true rfl, Nat.le_of_ble_eq_true rfl⟩ (fun k h' hp => ?_) H (fun r h17 hp => ?_)
        · obtain ⟨hv, -⟩ := hp; cases hv
        obtain ⟨rfl, H⟩ := hp
        show am_J l g mX4_readRing (d + 1) (0, 0, x) 86 [(0, .ref a0), (1, .ref a1)] [] h17 Q
        refine J_aload_n dX4_readRing_86 0 rfl ?_
        obtain ⟨⟨fs, hh⟩, H⟩ := H
        refine J_callV (As := []) (S := []) (b := a0) dX4_readRing_87 mX4_passSemicolon_ok kX4_73 rfl (by decide) (Nat.le_of_ble_eq_true rfl) hh rfl rfl (Nat.le_of_ble_eq_true rfl) ⟨Nat.le_of_ble_eq_true rfl, Nat.le_of_ble_eq_true rfl⟩ (fun k h' hp => ?_) H (fun r h19 hp => ?_)
        · obtain ⟨hv, -⟩ := hp; cases hv
        obtain ⟨rfl, H⟩ := hp
        show am_J l g mX4_readRing (d + 1) (0, 0, x) 90 [(0, .ref a0), (1, .ref a1)] [] h19 Q
        exact J_vret dX4_readRing_90 rfl ⟨Nat.le_of_ble_eq_true rfl, Nat.le_of_ble_eq_true rfl, fun _ => rfl⟩ H
      · replace H := H2 hc
        clear H1 H2
        refine J_aload_n dX4_readRing_45 0 rfl ?_
        refine J_iconst (v := 3) dX4_readRing_46 (by decide) ?_
        obtain ⟨⟨fs, hh⟩, H⟩ := H
        refine J_callV (As := [.int 3]) (S := []) (b := a0) dX4_readRing_47 mX4_failWith_ok kX4_39 rfl (by decide) (Nat.le_of_ble_eq_true rfl) hh rfl rfl (Nat.le_of_ble_eq_true rfl) ⟨Nat.le_of_ble_eq_true rfl, Nat.le_of_ble_eq_true rfl⟩ (fun k h' hp => ?_) H (fun r h21 hp => ?_)
        · obtain ⟨hv, -⟩ := hp; cases hv
        obtain ⟨rfl, H⟩ := hp
        show am_J l g mX4_readRing (d + 1) (0, 0, x) 50 [(0, .ref a0), (1, .ref a1)] [] h21 Q
        refine J_goto (tgt := 90) dX4_readRing_50 (by decide) ?_
        exact J_vret dX4_readRing_90 rfl ⟨Nat.le_of_ble_eq_true rfl, Nat.le_of_ble_eq_true rfl, fun _ => rfl⟩ H
    · replace H := H2 hc
      clear H1 H2
      refine J_aload_n dX4_readRing_28 0 rfl ?_
      refine J_iconst (v := 1) dX4_readRing_29 (by decide) ?_
      obtain ⟨⟨fs, hh⟩, H⟩ := H
      refine J_callV (As := [.int 1]) (S := []) (b := a0) dX4_readRing_30 mX4_failWith_ok kX4_39 rfl (by decide) (Nat.le_of_ble_eq_true rfl) hh rfl rfl (Nat.le_of_ble_eq_true rfl) ⟨Nat.le_of_ble_eq_true rfl, Nat.le_of_ble_eq_true rfl⟩ (fun k h' hp => ?_) H (fun r h23 hp => ?_)
      · obtain ⟨hv, -⟩ := hp; cases hv
      obtain ⟨rfl, H⟩ := hp
      show am_J l g mX4_readRing (d + 1) (0, 0, x) 33 [(0, .ref a0), (1, .ref a1)] [] h23 Q
      refine J_goto (tgt := 90) dX4_readRing_33 (by decide) ?_
      exact J_vret dX4_readRing_90 rfl ⟨Nat.le_of_ble_eq_true rfl, Nat.le_of_ble_eq_true rfl, fun _ => rfl⟩ H
  · replace H := H2 hc
    clear H1 H2
    refine J_aload_n dX4_readRing_8 0 rfl ?_
    refine J_iconst (v := 5) dX4_readRing_9 (by decide) ?_
    obtain ⟨⟨fs, hh⟩, H⟩ := H
    refine J_callV (As := [.int 5]) (S := []) (b := a0) dX4_readRing_10 mX4_failWith_ok kX4_39 rfl (by decide) (Nat.le_of_ble_eq_true rfl) hh rfl rfl (Nat.le_of_ble_eq_true rfl) ⟨Nat.le_of_ble_eq_true rfl, Nat.le_of_ble_eq_true rfl⟩ (fun k h' hp => ?_) H (fun r h25 hp => ?_)
    · obtain ⟨hv, -⟩ := hp; cases hv
    obtain ⟨rfl, H⟩ := hp
    show am_J l g mX4_readRing (d + 1) (0, 0, x) 13 [(0, .ref a0), (1, .ref a1)] [] h25 Q
    exact J_vret dX4_readRing_13 rfl ⟨Nat.le_of_ble_eq_true rfl, Nat.le_of_ble_eq_true rfl, fun _ => rfl⟩ H
theorem eX4_readRing {l : Launch} {g : am_G} {d : Nat} {x : Bool} {a0 : Nat} {a1 : Nat} {h : am_H} {K : am_H → Prop} (H : zX4_readRing_0 l g d x a0 a1 h (fun r h' => r = none ∧ K h')) : cl_N l g mX4_readRing (d + 1) x [.ref a0, .ref a1] h K := rX4_readRing_0 H
def zX4_readLink_0 (l : Launch) (g : am_G) (d : Nat) (x : Bool) (a0 : Nat) (a1 : Nat) (h : am_H) (Q : Option Value → am_H → Prop) : Prop := gt_I h a1 7 6 (fun v1 => ((v1 < 24 → gt_R h a0 4 0 (fun v2 => cv_N l g mX6_step d x 6 v2 [] h (fun h3 => gt_R h3 a1 7 0 (fun v5 => cv_I l g mX4_readToldName d x 4 a0 [.ref a1] h3 (fun v7 h6 => as_I 0 h6 v5 v1 v7 (fun h8 => gt_R h8 a1 7 1 (fun v9 => cv_I l g mX4_readToldName d x 4 a0 [.ref a1] h8 (fun v11 h10 => as_I 0 h10 v9 v1 v11 (fun h12 => gt_R h12 a1 7 2 (fun v13 => cv_I l g mX4_readAway d x 4 a0 [] h12 (fun v15 h14 => as_I 0 h14 v13 v1 v15 (fun h16 => gt_R h16 a1 7 3 (fun v17 => cv_I l g mX4_readAway d x 4 a0 [] h16 (fun v19 h18 => as_I 0 h18 v17 v1 v19 (fun h20 => gt_R h20 a1 7 4 (fun v21 => cv_I l g mX4_readOver d x 4 a0 [.ref a1] h20 (fun v23 h22 => ((v23 = 0 ∨ v23 = 1) ∧ as_I 2 h22 v21 v1 v23 (fun h24 => cv_N l g mX4_passSemicolon d x 4 a0 [] h24 (fun h25 => gt_I h25 a0 4 2 (fun v27 => ((¬ v27 = 0 → Q none h25) ∧ (v27 = 0 → gt_I h25 a1 7 6 (fun v28 => pt_V h25 a1 7 6 (.int (v28 + 1)) (fun h29 => Q none h29))))))))))))))))))))))))) ∧ (¬ v1 < 24 → cv_N l g mX4_failWith d x 4 a0 [.int 5] h (fun h30 => Q none h30))))
set_option maxRecDepth 4000 in
theorem rX4_readLink_0 {l : Launch} {g : am_G} {d : Nat} {x : Bool} {a0 : Nat} {a1 : Nat} {h : am_H} {Q : Option Value → am_H → Prop} (H : zX4_readLink_0 l g d x a0 a1 h Q) : am_J l g mX4_readLink (d + 1) (0, 0, x) 0 [(0, .ref a0), (1, .ref a1)] [] h Q := by
  unfold zX4_readLink_0 at H
  refine J_aload_n dX4_readLink_0 1 rfl ?_
  obtain ⟨fs, v1, hh, hk, H⟩ := H
  refine J_get dX4_readLink_1 fX4_76 hh hk ?_
  clear hh hk
  refine J_istore_n (L' := [(2, .int v1), (0, .ref a0), (1, .ref a1)]) dX4_readLink_4 (by decide) rfl ?_
  refine J_iload_n dX4_readLink_5 0 rfl ?_
  refine J_bipush (v := 24) dX4_readLink_6 (by decide) ?_
  obtain ⟨H1, H2⟩ := H
  refine J_icmp_lt (tgt := 17) dX4_readLink_8 (by decide) (fun hc => ?_) (fun hc => ?_)
  · replace H := H1 hc
    clear H1 H2
    refine J_aload_n dX4_readLink_17 1 rfl ?_
    obtain ⟨fs, v2, hh, hk, H⟩ := H
    refine J_get dX4_readLink_18 fX4_9 hh hk ?_
    clear hh hk
    obtain ⟨⟨fs, hh⟩, H⟩ := H
    refine J_callV (As := []) (S := []) (b := v2) dX4_readLink_21 mX6_step_ok kX4_58 rfl (by decide) (Nat.le_of_ble_eq_true rfl) hh rfl rfl (Nat.le_of_ble_eq_true rfl) ⟨Nat.le_of_ble_eq_true rfl, Nat.le_of_ble_eq_true rfl⟩ (fun k h' hp => ?_) H (fun r h3 hp => ?_)
    · obtain ⟨hv, -⟩ := hp; cases hv
    obtain ⟨rfl, H⟩ := hp
    show am_J l g mX4_readLink (d + 1) (0, 0, x) 24 [(2, .int v1), (0, .ref a0), (1, .ref a1)] [] h3 Q
    refine J_aload_n dX4_readLink_24 2 rfl ?_
    obtain ⟨fs, v5, hh, hk, H⟩ := H
    refine J_get dX4_readLink_25 fX4_79 hh hk ?_
    clear hh hk
    refine J_iload_n dX4_readLink_28 0 rfl ?_
    refine J_aload_n dX4_readLink_29 1 rfl ?_
    refine J_aload_n dX4_readLink_30 2 rfl ?_
    obtain ⟨⟨fs, hh⟩, H⟩ := H
    refine J_callV (As := [.ref a1]) (S := [.int v1, .ref v5]) (b := a0) dX4_readLink_31 mX4_readToldName_ok kX4_83 rfl (by decide) (Nat.le_of_ble_eq_true rfl) hh rfl rfl (Nat.le_of_ble_eq_true rfl) ⟨Nat.le_of_ble_eq_true rfl, Nat.le_of_ble_eq_true rfl⟩ (fun k h' hp => ?_) H (fun r h6 hp => ?_)
    · obtain ⟨_, hv, -⟩ := hp; cases hv
    obtain ⟨v7, rfl, H⟩ := hp
    show am_J l g mX4_readLink (d + 1) (0, 0, x) 34 [(2, .int v1), (0, .ref a0), (1, .ref a1)] [.int v7, .int v1, .ref v5] h6 Q
    obtain ⟨nn, ff, hh, hk, H⟩ := H
    refine J_iast dX4_readLink_34 hh hk ?_
    generalize List.set h6 v5 (am_I 0 nn (upd ff (Int32.toNatClampNeg v1) v7)) = h8 at H ⊢
    clear hh hk
    refine J_aload_n dX4_readLink_35 2 rfl ?_
    obtain ⟨fs, v9, hh, hk, H⟩ := H
    refine J_get dX4_readLink_36 fX4_86 hh hk ?_
    clear hh hk
    refine J_iload_n dX4_readLink_39 0 rfl ?_
    refine J_aload_n dX4_readLink_40 1 rfl ?_
    refine J_aload_n dX4_readLink_41 2 rfl ?_
    obtain ⟨⟨fs, hh⟩, H⟩ := H
    refine J_callV (As := [.ref a1]) (S := [.int v1, .ref v9]) (b := a0) dX4_readLink_42 mX4_readToldName_ok kX4_83 rfl (by decide) (Nat.le_of_ble_eq_true rfl) hh rfl rfl (Nat.le_of_ble_eq_true rfl) ⟨Nat.le_of_ble_eq_true rfl, Nat.le_of_ble_eq_true rfl⟩ (fun k h' hp => ?_) H (fun r h10 hp => ?_)
    · obtain ⟨_, hv, -⟩ := hp; cases hv
    obtain ⟨v11, rfl, H⟩ := hp
    show am_J l g mX4_readLink (d + 1) (0, 0, x) 45 [(2, .int v1), (0, .ref a0), (1, .ref a1)] [.int v11, .int v1, .ref v9] h10 Q
    obtain ⟨nn, ff, hh, hk, H⟩ := H
    refine J_iast dX4_readLink_45 hh hk ?_
    generalize List.set h10 v9 (am_I 0 nn (upd ff (Int32.toNatClampNeg v1) v11)) = h12 at H ⊢
    clear hh hk
    refine J_aload_n dX4_readLink_46 2 rfl ?_
    obtain ⟨fs, v13, hh, hk, H⟩ := H
    refine J_get dX4_readLink_47 fX4_89 hh hk ?_
    clear hh hk
    refine J_iload_n dX4_readLink_50 0 rfl ?_
    refine J_aload_n dX4_readLink_51 1 rfl ?_
    obtain ⟨⟨fs, hh⟩, H⟩ := H
    refine J_callV (As := []) (S := [.int v1, .ref v13]) (b := a0) dX4_readLink_52 mX4_readAway_ok kX4_92 rfl (by decide) (Nat.le_of_ble_eq_true rfl) hh rfl rfl (Nat.le_of_ble_eq_true rfl) ⟨Nat.le_of_ble_eq_true rfl, Nat.le_of_ble_eq_true rfl⟩ (fun k h' hp => ?_) H (fun r h14 hp => ?_)
    · obtain ⟨_, hv, -⟩ := hp; cases hv
    obtain ⟨v15, rfl, H⟩ := hp
    show am_J l g mX4_readLink (d + 1) (0, 0, x) 55 [(2, .int v1), (0, .ref a0), (1, .ref a1)] [.int v15, .int v1, .ref v13] h14 Q
    obtain ⟨nn, ff, hh, hk, H⟩ := H
    refine J_iast dX4_readLink_55 hh hk ?_
    generalize List.set h14 v13 (am_I 0 nn (upd ff (Int32.toNatClampNeg v1) v15)) = h16 at H ⊢
    clear hh hk
    refine J_aload_n dX4_readLink_56 2 rfl ?_
    obtain ⟨fs, v17, hh, hk, H⟩ := H
    refine J_get dX4_readLink_57 fX4_96 hh hk ?_
    clear hh hk
    refine J_iload_n dX4_readLink_60 0 rfl ?_
    refine J_aload_n dX4_readLink_61 1 rfl ?_
    obtain ⟨⟨fs, hh⟩, H⟩ := H
    refine J_callV (As := []) (S := [.int v1, .ref v17]) (b := a0) dX4_readLink_62 mX4_readAway_ok kX4_92 rfl (by decide) (Nat.le_of_ble_eq_true rfl) hh rfl rfl (Nat.le_of_ble_eq_true rfl) ⟨Nat.le_of_ble_eq_true rfl, Nat.le_of_ble_eq_true rfl⟩ (fun k h' hp => ?_) H (fun r h18 hp => ?_)
    · obtain ⟨_, hv, -⟩ := hp; cases hv
    obtain ⟨v19, rfl, H⟩ := hp
    show am_J l g mX4_readLink (d + 1) (0, 0, x) 65 [(2, .int v1), (0, .ref a0), (1, .ref a1)] [.int v19, .int v1, .ref v17] h18 Q
    obtain ⟨nn, ff, hh, hk, H⟩ := H
    refine J_iast dX4_readLink_65 hh hk ?_
    generalize List.set h18 v17 (am_I 0 nn (upd ff (Int32.toNatClampNeg v1) v19)) = h20 at H ⊢
    clear hh hk
    refine J_aload_n dX4_readLink_66 2 rfl ?_
    obtain ⟨fs, v21, hh, hk, H⟩ := H
    refine J_get dX4_readLink_67 fX4_99 hh hk ?_
    clear hh hk
    refine J_iload_n dX4_readLink_70 0 rfl ?_
    refine J_aload_n dX4_readLink_71 1 rfl ?_
    refine J_aload_n dX4_readLink_72 2 rfl ?_
    obtain ⟨⟨fs, hh⟩, H⟩ := H
    refine J_callV (As := [.ref a1]) (S := [.int v1, .ref v21]) (b := a0) dX4_readLink_73 mX4_readOver_ok kX4_103 rfl (by decide) (Nat.le_of_ble_eq_true rfl) hh rfl rfl (Nat.le_of_ble_eq_true rfl) ⟨Nat.le_of_ble_eq_true rfl, Nat.le_of_ble_eq_true rfl⟩ (fun k h' hp => ?_) H (fun r h22 hp => ?_)
    · obtain ⟨_, hv, -⟩ := hp; cases hv
    obtain ⟨v23, rfl, H⟩ := hp
    show am_J l g mX4_readLink (d + 1) (0, 0, x) 76 [(2, .int v1), (0, .ref a0), (1, .ref a1)] [.int v23, .int v1, .ref v21] h22 Q
    obtain ⟨hb, H⟩ := H
    obtain ⟨nn, ff, hh, hk, H⟩ := H
    refine J_zast dX4_readLink_76 hh hk (by rcases hb with e | e <;> rw [e] <;> rfl) ?_
    generalize List.set h22 v21 (am_I 2 nn (upd ff (Int32.toNatClampNeg v1) v23)) = h24 at H ⊢
    clear hh hk
    refine J_aload_n dX4_readLink_77 1 rfl ?_
    obtain ⟨⟨fs, hh⟩, H⟩ := H
    refine J_callV (As := []) (S := []) (b := a0) dX4_readLink_78 mX4_passSemicolon_ok kX4_73 rfl (by decide) (Nat.le_of_ble_eq_true rfl) hh rfl rfl (Nat.le_of_ble_eq_true rfl) ⟨Nat.le_of_ble_eq_true rfl, Nat.le_of_ble_eq_true rfl⟩ (fun k h' hp => ?_) H (fun r h25 hp => ?_)
    · obtain ⟨hv, -⟩ := hp; cases hv
    obtain ⟨rfl, H⟩ := hp
    show am_J l g mX4_readLink (d + 1) (0, 0, x) 81 [(2, .int v1), (0, .ref a0), (1, .ref a1)] [] h25 Q
    refine J_aload_n dX4_readLink_81 1 rfl ?_
    obtain ⟨fs, v27, hh, hk, H⟩ := H
    refine J_get dX4_readLink_82 fX4_24 hh hk ?_
    clear hh hk
    obtain ⟨H1, H2⟩ := H
    refine J_if_ne (tgt := 98) dX4_readLink_85 (by decide) (fun hc => ?_) (fun hc => ?_)
    · replace H := H1 hc
      clear H1 H2
      exact J_vret dX4_readLink_98 rfl ⟨Nat.le_of_ble_eq_true rfl, Nat.le_of_ble_eq_true rfl, fun _ => rfl⟩ H
    · replace H := H2 hc
      clear H1 H2
      refine J_aload_n dX4_readLink_88 2 rfl ?_
      refine J_dup dX4_readLink_89 rfl ?_
      obtain ⟨fs, v28, hh, hk, H⟩ := H
      refine J_get dX4_readLink_90 fX4_76 hh hk ?_
      clear hh hk
      refine J_iconst (v := 1) dX4_readLink_93 (by decide) ?_
      refine J_iadd dX4_readLink_94 ?_
      obtain ⟨fs, hh, hk, H⟩ := H
      refine J_put dX4_readLink_95 fX4_76 rfl rfl hh hk ?_
      generalize List.set h25 a1 (am_O 7 (List.set fs 6 (.int (v28 + 1)))) = h29 at H ⊢
      clear hh hk
      exact J_vret dX4_readLink_98 rfl ⟨Nat.le_of_ble_eq_true rfl, Nat.le_of_ble_eq_true rfl, fun _ => rfl⟩ H
  · replace H := H2 hc
    clear H1 H2
    refine J_aload_n dX4_readLink_11 1 rfl ?_
    refine J_iconst (v := 5) dX4_readLink_12 (by decide) ?_
    obtain ⟨⟨fs, hh⟩, H⟩ := H
    refine J_callV (As := [.int 5]) (S := []) (b := a0) dX4_readLink_13 mX4_failWith_ok kX4_39 rfl (by decide) (Nat.le_of_ble_eq_true rfl) hh rfl rfl (Nat.le_of_ble_eq_true rfl) ⟨Nat.le_of_ble_eq_true rfl, Nat.le_of_ble_eq_true rfl⟩ (fun k h' hp => ?_) H (fun r h30 hp => ?_)
    · obtain ⟨hv, -⟩ := hp; cases hv
    obtain ⟨rfl, H⟩ := hp
    show am_J l g mX4_readLink (d + 1) (0, 0, x) 16 [(2, .int v1), (0, .ref a0), (1, .ref a1)] [] h30 Q
    exact J_vret dX4_readLink_16 rfl ⟨Nat.le_of_ble_eq_true rfl, Nat.le_of_ble_eq_true rfl, fun _ => rfl⟩ H
theorem eX4_readLink {l : Launch} {g : am_G} {d : Nat} {x : Bool} {a0 : Nat} {a1 : Nat} {h : am_H} {K : am_H → Prop} (H : zX4_readLink_0 l g d x a0 a1 h (fun r h' => r = none ∧ K h')) : cl_N l g mX4_readLink (d + 1) x [.ref a0, .ref a1] h K := rX4_readLink_0 H
def zX4_readToldName_42 (l : Launch) (g : am_G) (d : Nat) (x : Bool) (a0 : Nat) (i2 : Int32) (h : am_H) (Q : Option Value → am_H → Prop) : Prop := gt_R h a0 4 0 (fun v1 => cv_N l g mX6_step d x 6 v1 [] h (fun h2 => Q (some (.int i2)) h2))
set_option maxRecDepth 4000 in
theorem rX4_readToldName_42 {l : Launch} {g : am_G} {d : Nat} {x : Bool} {a0 : Nat} {i2 : Int32} {h : am_H} {Q : Option Value → am_H → Prop} (H : zX4_readToldName_42 l g d x a0 i2 h Q) : am_J l g mX4_readToldName (d + 1) (0, 0, x) 42 [(0, .ref a0), (2, .int i2)] [] h Q := by
  unfold zX4_readToldName_42 at H
  refine J_aload_n dX4_readToldName_42 0 rfl ?_
  obtain ⟨fs, v1, hh, hk, H⟩ := H
  refine J_get dX4_readToldName_43 fX4_9 hh hk ?_
  clear hh hk
  obtain ⟨⟨fs, hh⟩, H⟩ := H
  refine J_callV (As := []) (S := []) (b := v1) dX4_readToldName_46 mX6_step_ok kX4_58 rfl (by decide) (Nat.le_of_ble_eq_true rfl) hh rfl rfl (Nat.le_of_ble_eq_true rfl) ⟨Nat.le_of_ble_eq_true rfl, Nat.le_of_ble_eq_true rfl⟩ (fun k h' hp => ?_) H (fun r h2 hp => ?_)
  · obtain ⟨hv, -⟩ := hp; cases hv
  obtain ⟨rfl, H⟩ := hp
  show am_J l g mX4_readToldName (d + 1) (0, 0, x) 49 [(0, .ref a0), (2, .int i2)] [] h2 Q
  refine J_iload_n dX4_readToldName_49 1 rfl ?_
  exact J_iret dX4_readToldName_50 ⟨_, rfl, rfl⟩ ⟨Nat.le_of_ble_eq_true rfl, Nat.le_of_ble_eq_true rfl, fun _ => rfl⟩ H
def zX4_readToldName_0 (l : Launch) (g : am_G) (d : Nat) (x : Bool) (a0 : Nat) (a1 : Nat) (h : am_H) (Q : Option Value → am_H → Prop) : Prop := gt_I h a0 4 2 (fun v1 => ((v1 = 0 → cv_I l g mX4_isName d x 4 a0 [] h (fun v3 h2 => ((¬ v3 = 0 → cv_I l g mX4_ringOfName d x 4 a0 [.ref a1] h2 (fun v5 h4 => ((¬ v5 = (-1) → zX4_readToldName_42 l g d x a0 v5  h4 Q) ∧ (v5 = (-1) → cv_N l g mX4_failWith d x 4 a0 [.int 2] h4 (fun h6 => zX4_readToldName_42 l g d x a0 v5  h6 Q))))) ∧ (v3 = 0 → cv_N l g mX4_failWith d x 4 a0 [.int 1] h2 (fun h8 => zX4_readToldName_42 l g d x a0 (-1)  h8 Q))))) ∧ (¬ v1 = 0 → Q (some (.int (-1))) h)))
set_option maxRecDepth 4000 in
theorem rX4_readToldName_0 {l : Launch} {g : am_G} {d : Nat} {x : Bool} {a0 : Nat} {a1 : Nat} {h : am_H} {Q : Option Value → am_H → Prop} (H : zX4_readToldName_0 l g d x a0 a1 h Q) : am_J l g mX4_readToldName (d + 1) (0, 0, x) 0 [(0, .ref a0), (1, .ref a1)] [] h Q := by
  unfold zX4_readToldName_0 at H
  refine J_aload_n dX4_readToldName_0 0 rfl ?_
  obtain ⟨fs, v1, hh, hk, H⟩ := H
  refine J_get dX4_readToldName_1 fX4_24 hh hk ?_
  clear hh hk
  obtain ⟨H1, H2⟩ := H
  refine J_if_eq (tgt := 9) dX4_readToldName_4 (by decide) (fun hc => ?_) (fun hc => ?_)
  · replace H := H1 hc
    clear H1 H2
    refine J_iconst (v := (-1)) dX4_readToldName_9 (by decide) ?_
    refine J_istore_n (L' := [(2, .int (-1)), (0, .ref a0), (1, .ref a1)]) dX4_readToldName_10 (by decide) rfl ?_
    refine J_aload_n dX4_readToldName_11 1 rfl ?_
    obtain ⟨⟨fs, hh⟩, H⟩ := H
    refine J_callV (As := []) (S := []) (b := a0) dX4_readToldName_12 mX4_isName_ok kX4_61 rfl (by decide) (Nat.le_of_ble_eq_true rfl) hh rfl rfl (Nat.le_of_ble_eq_true rfl) ⟨Nat.le_of_ble_eq_true rfl, Nat.le_of_ble_eq_true rfl⟩ (fun k h' hp => ?_) H (fun r h2 hp => ?_)
    · obtain ⟨_, hv, -⟩ := hp; cases hv
    obtain ⟨v3, rfl, H⟩ := hp
    show am_J l g mX4_readToldName (d + 1) (0, 0, x) 15 [(2, .int (-1)), (0, .ref a0), (1, .ref a1)] [.int v3] h2 Q
    obtain ⟨H1, H2⟩ := H
    refine J_if_ne (tgt := 26) dX4_readToldName_15 (by decide) (fun hc => ?_) (fun hc => ?_)
    · replace H := H1 hc
      clear H1 H2
      refine J_aload_n dX4_readToldName_26 1 rfl ?_
      refine J_aload_n dX4_readToldName_27 2 rfl ?_
      obtain ⟨⟨fs, hh⟩, H⟩ := H
      refine J_callV (As := [.ref a1]) (S := []) (b := a0) dX4_readToldName_28 mX4_ringOfName_ok kX4_65 rfl (by decide) (Nat.le_of_ble_eq_true rfl) hh rfl rfl (Nat.le_of_ble_eq_true rfl) ⟨Nat.le_of_ble_eq_true rfl, Nat.le_of_ble_eq_true rfl⟩ (fun k h' hp => ?_) H (fun r h4 hp => ?_)
      · obtain ⟨_, hv, -⟩ := hp; cases hv
      obtain ⟨v5, rfl, H⟩ := hp
      show am_J l g mX4_readToldName (d + 1) (0, 0, x) 31 [(2, .int (-1)), (0, .ref a0), (1, .ref a1)] [.int v5] h4 Q
      refine J_istore_n (L' := [(2, .int v5), (0, .ref a0), (1, .ref a1)]) dX4_readToldName_31 (by decide) rfl ?_
      refine J_iload_n dX4_readToldName_32 0 rfl ?_
      refine J_iconst (v := (-1)) dX4_readToldName_33 (by decide) ?_
      obtain ⟨H1, H2⟩ := H
      refine J_icmp_ne (tgt := 42) dX4_readToldName_34 (by decide) (fun hc => ?_) (fun hc => ?_)
      · replace H := H1 hc
        clear H1 H2
        exact J_pick [1, 0] rfl (rX4_readToldName_42 H)
      · replace H := H2 hc
        clear H1 H2
        refine J_aload_n dX4_readToldName_37 1 rfl ?_
        refine J_iconst (v := 2) dX4_readToldName_38 (by decide) ?_
        obtain ⟨⟨fs, hh⟩, H⟩ := H
        refine J_callV (As := [.int 2]) (S := []) (b := a0) dX4_readToldName_39 mX4_failWith_ok kX4_39 rfl (by decide) (Nat.le_of_ble_eq_true rfl) hh rfl rfl (Nat.le_of_ble_eq_true rfl) ⟨Nat.le_of_ble_eq_true rfl, Nat.le_of_ble_eq_true rfl⟩ (fun k h' hp => ?_) H (fun r h6 hp => ?_)
        · obtain ⟨hv, -⟩ := hp; cases hv
        obtain ⟨rfl, H⟩ := hp
        show am_J l g mX4_readToldName (d + 1) (0, 0, x) 42 [(2, .int v5), (0, .ref a0), (1, .ref a1)] [] h6 Q
        exact J_pick [1, 0] rfl (rX4_readToldName_42 H)
    · replace H := H2 hc
      clear H1 H2
      refine J_aload_n dX4_readToldName_18 1 rfl ?_
      refine J_iconst (v := 1) dX4_readToldName_19 (by decide) ?_
      obtain ⟨⟨fs, hh⟩, H⟩ := H
      refine J_callV (As := [.int 1]) (S := []) (b := a0) dX4_readToldName_20 mX4_failWith_ok kX4_39 rfl (by decide) (Nat.le_of_ble_eq_true rfl) hh rfl rfl (Nat.le_of_ble_eq_true rfl) ⟨Nat.le_of_ble_eq_true rfl, Nat.le_of_ble_eq_true rfl⟩ (fun k h' hp => ?_) H (fun r h8 hp => ?_)
      · obtain ⟨hv, -⟩ := hp; cases hv
      obtain ⟨rfl, H⟩ := hp
      show am_J l g mX4_readToldName (d + 1) (0, 0, x) 23 [(2, .int (-1)), (0, .ref a0), (1, .ref a1)] [] h8 Q
      refine J_goto (tgt := 42) dX4_readToldName_23 (by decide) ?_
      exact J_pick [1, 0] rfl (rX4_readToldName_42 H)
  · replace H := H2 hc
    clear H1 H2
    refine J_iconst (v := (-1)) dX4_readToldName_7 (by decide) ?_
    exact J_iret dX4_readToldName_8 ⟨_, rfl, rfl⟩ ⟨Nat.le_of_ble_eq_true rfl, Nat.le_of_ble_eq_true rfl, fun _ => rfl⟩ H
theorem eX4_readToldName {l : Launch} {g : am_G} {d : Nat} {x : Bool} {a0 : Nat} {a1 : Nat} {h : am_H} {K : Int32 → am_H → Prop} (H : zX4_readToldName_0 l g d x a0 a1 h (fun r h' => ∃ v, r = some (.int v) ∧ K v h')) : cl_I l g mX4_readToldName (d + 1) x [.ref a0, .ref a1] h K := rX4_readToldName_0 H
def zX4_readAway_84 (l : Launch) (g : am_G) (d : Nat) (x : Bool) (a0 : Nat) (i1 : Int32) (h : am_H) (Q : Option Value → am_H → Prop) : Prop := gt_R h a0 4 0 (fun v1 => gt_L h v1 6 4 (fun v2 => gt_R h a0 4 0 (fun v3 => cv_N l g mX6_step d x 6 v3 [] h (fun h4 => ((i1 = 0 → Q (some (.int (Int64.toInt32 v2))) h4) ∧ (¬ i1 = 0 → Q (some (.int (-(Int64.toInt32 v2)))) h4))))))
set_option maxRecDepth 4000 in
theorem rX4_readAway_84 {l : Launch} {g : am_G} {d : Nat} {x : Bool} {a0 : Nat} {i1 : Int32} {h : am_H} {Q : Option Value → am_H → Prop} (H : zX4_readAway_84 l g d x a0 i1 h Q) : am_J l g mX4_readAway (d + 1) (0, 0, x) 84 [(0, .ref a0), (1, .int i1)] [] h Q := by
  unfold zX4_readAway_84 at H
  refine J_aload_n dX4_readAway_84 0 rfl ?_
  obtain ⟨fs, v1, hh, hk, H⟩ := H
  refine J_get dX4_readAway_85 fX4_9 hh hk ?_
  clear hh hk
  obtain ⟨fs, v2, hh, hk, H⟩ := H
  refine J_get dX4_readAway_88 fX4_69 hh hk ?_
  clear hh hk
  refine J_l2i dX4_readAway_91 ?_
  refine J_istore_n (L' := [(2, .int (Int64.toInt32 v2)), (0, .ref a0), (1, .int i1)]) dX4_readAway_92 (by decide) rfl ?_
  refine J_aload_n dX4_readAway_93 1 rfl ?_
  obtain ⟨fs, v3, hh, hk, H⟩ := H
  refine J_get dX4_readAway_94 fX4_9 hh hk ?_
  clear hh hk
  obtain ⟨⟨fs, hh⟩, H⟩ := H
  refine J_callV (As := []) (S := []) (b := v3) dX4_readAway_97 mX6_step_ok kX4_58 rfl (by decide) (Nat.le_of_ble_eq_true rfl) hh rfl rfl (Nat.le_of_ble_eq_true rfl) ⟨Nat.le_of_ble_eq_true rfl, Nat.le_of_ble_eq_true rfl⟩ (fun k h' hp => ?_) H (fun r h4 hp => ?_)
  · obtain ⟨hv, -⟩ := hp; cases hv
  obtain ⟨rfl, H⟩ := hp
  show am_J l g mX4_readAway (d + 1) (0, 0, x) 100 [(2, .int (Int64.toInt32 v2)), (0, .ref a0), (1, .int i1)] [] h4 Q
  refine J_iload_n dX4_readAway_100 2 rfl ?_
  obtain ⟨H1, H2⟩ := H
  refine J_if_eq (tgt := 109) dX4_readAway_101 (by decide) (fun hc => ?_) (fun hc => ?_)
  · replace H := H1 hc
    clear H1 H2
    refine J_iload_n dX4_readAway_109 0 rfl ?_
    exact J_iret dX4_readAway_110 ⟨_, rfl, rfl⟩ ⟨Nat.le_of_ble_eq_true rfl, Nat.le_of_ble_eq_true rfl, fun _ => rfl⟩ H
  · replace H := H2 hc
    clear H1 H2
    refine J_iload_n dX4_readAway_104 0 rfl ?_
    refine J_ineg dX4_readAway_105 ?_
    refine J_goto (tgt := 110) dX4_readAway_106 (by decide) ?_
    exact J_iret dX4_readAway_110 ⟨_, rfl, rfl⟩ ⟨Nat.le_of_ble_eq_true rfl, Nat.le_of_ble_eq_true rfl, fun _ => rfl⟩ H
def zX4_readAway_46 (l : Launch) (g : am_G) (d : Nat) (x : Bool) (a0 : Nat) (i1 : Int32) (h : am_H) (Q : Option Value → am_H → Prop) : Prop := gt_R h a0 4 0 (fun v1 => gt_I h v1 6 2 (fun v2 => ((v2 = 2 → gt_R h a0 4 0 (fun v3 => gt_L h v3 6 4 (fun v4 => (((lg_cmp v4 9) ≤ 0 → zX4_readAway_84 l g d x a0 i1  h Q) ∧ (¬ (lg_cmp v4 9) ≤ 0 → cv_N l g mX4_failWith d x 4 a0 [.int 4] h (fun h5 => zX4_readAway_84 l g d x a0 i1  h5 Q)))))) ∧ (¬ v2 = 2 → cv_N l g mX4_failWith d x 4 a0 [.int 1] h (fun h7 => zX4_readAway_84 l g d x a0 i1  h7 Q)))))
set_option maxRecDepth 4000 in
theorem rX4_readAway_46 {l : Launch} {g : am_G} {d : Nat} {x : Bool} {a0 : Nat} {i1 : Int32} {h : am_H} {Q : Option Value → am_H → Prop} (H : zX4_readAway_46 l g d x a0 i1 h Q) : am_J l g mX4_readAway (d + 1) (0, 0, x) 46 [(0, .ref a0), (1, .int i1)] [] h Q := by
  unfold zX4_readAway_46 at H
  refine J_aload_n dX4_readAway_46 0 rfl ?_
  obtain ⟨fs, v1, hh, hk, H⟩ := H
  refine J_get dX4_readAway_47 fX4_9 hh hk ?_
  clear hh hk
  obtain ⟨fs, v2, hh, hk, H⟩ := H
  refine J_get dX4_readAway_50 fX4_52 hh hk ?_
  clear hh hk
  refine J_iconst (v := 2) dX4_readAway_53 (by decide) ?_
  obtain ⟨H1, H2⟩ := H
  refine J_icmp_eq (tgt := 65) dX4_readAway_54 (by decide) (fun hc => ?_) (fun hc => ?_)
  · replace H := H1 hc
    clear H1 H2
    refine J_aload_n dX4_readAway_65 0 rfl ?_
    obtain ⟨fs, v3, hh, hk, H⟩ := H
    refine J_get dX4_readAway_66 fX4_9 hh hk ?_
    clear hh hk
    obtain ⟨fs, v4, hh, hk, H⟩ := H
    refine J_get dX4_readAway_69 fX4_69 hh hk ?_
    clear hh hk
    refine J_ldc2 (v := 9) dX4_readAway_72 qX4_115 ?_
    refine J_lcmp dX4_readAway_75 ?_
    obtain ⟨H1, H2⟩ := H
    refine J_if_le (tgt := 84) dX4_readAway_76 (by decide) (fun hc => ?_) (fun hc => ?_)
    · replace H := H1 hc
      clear H1 H2
      exact J_pick [0, 1] rfl (rX4_readAway_84 H)
    · replace H := H2 hc
      clear H1 H2
      refine J_aload_n dX4_readAway_79 0 rfl ?_
      refine J_iconst (v := 4) dX4_readAway_80 (by decide) ?_
      obtain ⟨⟨fs, hh⟩, H⟩ := H
      refine J_callV (As := [.int 4]) (S := []) (b := a0) dX4_readAway_81 mX4_failWith_ok kX4_39 rfl (by decide) (Nat.le_of_ble_eq_true rfl) hh rfl rfl (Nat.le_of_ble_eq_true rfl) ⟨Nat.le_of_ble_eq_true rfl, Nat.le_of_ble_eq_true rfl⟩ (fun k h' hp => ?_) H (fun r h5 hp => ?_)
      · obtain ⟨hv, -⟩ := hp; cases hv
      obtain ⟨rfl, H⟩ := hp
      show am_J l g mX4_readAway (d + 1) (0, 0, x) 84 [(0, .ref a0), (1, .int i1)] [] h5 Q
      exact J_pick [0, 1] rfl (rX4_readAway_84 H)
  · replace H := H2 hc
    clear H1 H2
    refine J_aload_n dX4_readAway_57 0 rfl ?_
    refine J_iconst (v := 1) dX4_readAway_58 (by decide) ?_
    obtain ⟨⟨fs, hh⟩, H⟩ := H
    refine J_callV (As := [.int 1]) (S := []) (b := a0) dX4_readAway_59 mX4_failWith_ok kX4_39 rfl (by decide) (Nat.le_of_ble_eq_true rfl) hh rfl rfl (Nat.le_of_ble_eq_true rfl) ⟨Nat.le_of_ble_eq_true rfl, Nat.le_of_ble_eq_true rfl⟩ (fun k h' hp => ?_) H (fun r h7 hp => ?_)
    · obtain ⟨hv, -⟩ := hp; cases hv
    obtain ⟨rfl, H⟩ := hp
    show am_J l g mX4_readAway (d + 1) (0, 0, x) 62 [(0, .ref a0), (1, .int i1)] [] h7 Q
    refine J_goto (tgt := 84) dX4_readAway_62 (by decide) ?_
    exact J_pick [0, 1] rfl (rX4_readAway_84 H)
def zX4_readAway_39 (l : Launch) (g : am_G) (d : Nat) (x : Bool) (a0 : Nat) (i1 : Int32) (h : am_H) (Q : Option Value → am_H → Prop) : Prop := gt_R h a0 4 0 (fun v1 => cv_N l g mX6_step d x 6 v1 [] h (fun h2 => zX4_readAway_46 l g d x a0 i1  h2 Q))
set_option maxRecDepth 4000 in
theorem rX4_readAway_39 {l : Launch} {g : am_G} {d : Nat} {x : Bool} {a0 : Nat} {i1 : Int32} {h : am_H} {Q : Option Value → am_H → Prop} (H : zX4_readAway_39 l g d x a0 i1 h Q) : am_J l g mX4_readAway (d + 1) (0, 0, x) 39 [(0, .ref a0), (1, .int i1)] [] h Q := by
  unfold zX4_readAway_39 at H
  refine J_aload_n dX4_readAway_39 0 rfl ?_
  obtain ⟨fs, v1, hh, hk, H⟩ := H
  refine J_get dX4_readAway_40 fX4_9 hh hk ?_
  clear hh hk
  obtain ⟨⟨fs, hh⟩, H⟩ := H
  refine J_callV (As := []) (S := []) (b := v1) dX4_readAway_43 mX6_step_ok kX4_58 rfl (by decide) (Nat.le_of_ble_eq_true rfl) hh rfl rfl (Nat.le_of_ble_eq_true rfl) ⟨Nat.le_of_ble_eq_true rfl, Nat.le_of_ble_eq_true rfl⟩ (fun k h' hp => ?_) H (fun r h2 hp => ?_)
  · obtain ⟨hv, -⟩ := hp; cases hv
  obtain ⟨rfl, H⟩ := hp
  show am_J l g mX4_readAway (d + 1) (0, 0, x) 46 [(0, .ref a0), (1, .int i1)] [] h2 Q
  exact J_pick [0, 1] rfl (rX4_readAway_46 H)
def zX4_readAway_0 (l : Launch) (g : am_G) (d : Nat) (x : Bool) (a0 : Nat) (h : am_H) (Q : Option Value → am_H → Prop) : Prop := gt_I h a0 4 2 (fun v1 => ((v1 = 0 → gt_R h a0 4 0 (fun v2 => cv_I l g mX6_is d x 6 v2 [.int 3, .long 45] h (fun v4 h3 => ((¬ v4 = 0 → zX4_readAway_39 l g d x a0 v4  h3 Q) ∧ (v4 = 0 → gt_R h3 a0 4 0 (fun v5 => cv_I l g mX6_is d x 6 v5 [.int 3, .long 43] h3 (fun v7 h6 => ((v7 = 0 → zX4_readAway_46 l g d x a0 v4  h6 Q) ∧ (¬ v7 = 0 → zX4_readAway_39 l g d x a0 v4  h6 Q))))))))) ∧ (¬ v1 = 0 → Q (some (.int 0)) h)))
set_option maxRecDepth 4000 in
theorem rX4_readAway_0 {l : Launch} {g : am_G} {d : Nat} {x : Bool} {a0 : Nat} {h : am_H} {Q : Option Value → am_H → Prop} (H : zX4_readAway_0 l g d x a0 h Q) : am_J l g mX4_readAway (d + 1) (0, 0, x) 0 [(0, .ref a0)] [] h Q := by
  unfold zX4_readAway_0 at H
  refine J_aload_n dX4_readAway_0 0 rfl ?_
  obtain ⟨fs, v1, hh, hk, H⟩ := H
  refine J_get dX4_readAway_1 fX4_24 hh hk ?_
  clear hh hk
  obtain ⟨H1, H2⟩ := H
  refine J_if_eq (tgt := 9) dX4_readAway_4 (by decide) (fun hc => ?_) (fun hc => ?_)
  · replace H := H1 hc
    clear H1 H2
    refine J_aload_n dX4_readAway_9 0 rfl ?_
    obtain ⟨fs, v2, hh, hk, H⟩ := H
    refine J_get dX4_readAway_10 fX4_9 hh hk ?_
    clear hh hk
    refine J_iconst (v := 3) dX4_readAway_13 (by decide) ?_
    refine J_ldc2 (v := 45) dX4_readAway_14 qX4_107 ?_
    obtain ⟨⟨fs, hh⟩, H⟩ := H
    refine J_callV (As := [.int 3, .long 45]) (S := []) (b := v2) dX4_readAway_17 mX6_is_ok kX4_109 rfl (by decide) (Nat.le_of_ble_eq_true rfl) hh rfl rfl (Nat.le_of_ble_eq_true rfl) ⟨Nat.le_of_ble_eq_true rfl, Nat.le_of_ble_eq_true rfl⟩ (fun k h' hp => ?_) H (fun r h3 hp => ?_)
    · obtain ⟨_, hv, -⟩ := hp; cases hv
    obtain ⟨v4, rfl, H⟩ := hp
    show am_J l g mX4_readAway (d + 1) (0, 0, x) 20 [(0, .ref a0)] [.int v4] h3 Q
    refine J_istore_n (L' := [(1, .int v4), (0, .ref a0)]) dX4_readAway_20 (by decide) rfl ?_
    refine J_iload_n dX4_readAway_21 0 rfl ?_
    obtain ⟨H1, H2⟩ := H
    refine J_if_ne (tgt := 39) dX4_readAway_22 (by decide) (fun hc => ?_) (fun hc => ?_)
    · replace H := H1 hc
      clear H1 H2
      exact J_pick [1, 0] rfl (rX4_readAway_39 H)
    · replace H := H2 hc
      clear H1 H2
      refine J_aload_n dX4_readAway_25 1 rfl ?_
      obtain ⟨fs, v5, hh, hk, H⟩ := H
      refine J_get dX4_readAway_26 fX4_9 hh hk ?_
      clear hh hk
      refine J_iconst (v := 3) dX4_readAway_29 (by decide) ?_
      refine J_ldc2 (v := 43) dX4_readAway_30 qX4_113 ?_
      obtain ⟨⟨fs, hh⟩, H⟩ := H
      refine J_callV (As := [.int 3, .long 43]) (S := []) (b := v5) dX4_readAway_33 mX6_is_ok kX4_109 rfl (by decide) (Nat.le_of_ble_eq_true rfl) hh rfl rfl (Nat.le_of_ble_eq_true rfl) ⟨Nat.le_of_ble_eq_true rfl, Nat.le_of_ble_eq_true rfl⟩ (fun k h' hp => ?_) H (fun r h6 hp => ?_)
      · obtain ⟨_, hv, -⟩ := hp; cases hv
      obtain ⟨v7, rfl, H⟩ := hp
      show am_J l g mX4_readAway (d + 1) (0, 0, x) 36 [(1, .int v4), (0, .ref a0)] [.int v7] h6 Q
      obtain ⟨H1, H2⟩ := H
      refine J_if_eq (tgt := 46) dX4_readAway_36 (by decide) (fun hc => ?_) (fun hc => ?_)
      · replace H := H1 hc
        clear H1 H2
        exact J_pick [1, 0] rfl (rX4_readAway_46 H)
      · replace H := H2 hc
        clear H1 H2
        exact J_pick [1, 0] rfl (rX4_readAway_39 H)
  · replace H := H2 hc
    clear H1 H2
    refine J_iconst (v := 0) dX4_readAway_7 (by decide) ?_
    exact J_iret dX4_readAway_8 ⟨_, rfl, rfl⟩ ⟨Nat.le_of_ble_eq_true rfl, Nat.le_of_ble_eq_true rfl, fun _ => rfl⟩ H
theorem eX4_readAway {l : Launch} {g : am_G} {d : Nat} {x : Bool} {a0 : Nat} {h : am_H} {K : Int32 → am_H → Prop} (H : zX4_readAway_0 l g d x a0 h (fun r h' => ∃ v, r = some (.int v) ∧ K v h')) : cl_I l g mX4_readAway (d + 1) x [.ref a0] h K := rX4_readAway_0 H
def zX4_readOver_52 (l : Launch) (g : am_G) (d : Nat) (x : Bool) (a0 : Nat) (i2 : Int32) (h : am_H) (Q : Option Value → am_H → Prop) : Prop := gt_R h a0 4 0 (fun v1 => cv_N l g mX6_step d x 6 v1 [] h (fun h2 => ((i2 = 0 ∨ i2 = 1) ∧ Q (some (.int i2)) h2)))
set_option maxRecDepth 4000 in
theorem rX4_readOver_52 {l : Launch} {g : am_G} {d : Nat} {x : Bool} {a0 : Nat} {i2 : Int32} {h : am_H} {Q : Option Value → am_H → Prop} (H : zX4_readOver_52 l g d x a0 i2 h Q) : am_J l g mX4_readOver (d + 1) (0, 0, x) 52 [(0, .ref a0), (2, .int i2)] [] h Q := by
  unfold zX4_readOver_52 at H
  refine J_aload_n dX4_readOver_52 0 rfl ?_
  obtain ⟨fs, v1, hh, hk, H⟩ := H
  refine J_get dX4_readOver_53 fX4_9 hh hk ?_
  clear hh hk
  obtain ⟨⟨fs, hh⟩, H⟩ := H
  refine J_callV (As := []) (S := []) (b := v1) dX4_readOver_56 mX6_step_ok kX4_58 rfl (by decide) (Nat.le_of_ble_eq_true rfl) hh rfl rfl (Nat.le_of_ble_eq_true rfl) ⟨Nat.le_of_ble_eq_true rfl, Nat.le_of_ble_eq_true rfl⟩ (fun k h' hp => ?_) H (fun r h2 hp => ?_)
  · obtain ⟨hv, -⟩ := hp; cases hv
  obtain ⟨rfl, H⟩ := hp
  show am_J l g mX4_readOver (d + 1) (0, 0, x) 59 [(0, .ref a0), (2, .int i2)] [] h2 Q
  refine J_iload_n dX4_readOver_59 1 rfl ?_
  obtain ⟨hb, H⟩ := H
  exact J_iret dX4_readOver_60 (am_nar01 rfl hb) ⟨Nat.le_of_ble_eq_true rfl, Nat.le_of_ble_eq_true rfl, fun _ => rfl⟩ H
def zX4_readOver_39 (l : Launch) (g : am_G) (d : Nat) (x : Bool) (a0 : Nat) (a1 : Nat) (i2 : Int32) (h : am_H) (Q : Option Value → am_H → Prop) : Prop := cv_I l g mX7_takesNewLink d x 7 a1 [] h (fun v2 h1 => ((¬ v2 = 0 → zX4_readOver_52 l g d x a0 i2  h1 Q) ∧ (v2 = 0 → cv_N l g mX4_failWith d x 4 a0 [.int 6] h1 (fun h3 => zX4_readOver_52 l g d x a0 i2  h3 Q))))
set_option maxRecDepth 4000 in
theorem rX4_readOver_39 {l : Launch} {g : am_G} {d : Nat} {x : Bool} {a0 : Nat} {a1 : Nat} {i2 : Int32} {h : am_H} {Q : Option Value → am_H → Prop} (H : zX4_readOver_39 l g d x a0 a1 i2 h Q) : am_J l g mX4_readOver (d + 1) (0, 0, x) 39 [(0, .ref a0), (1, .ref a1), (2, .int i2)] [] h Q := by
  unfold zX4_readOver_39 at H
  refine J_aload_n dX4_readOver_39 1 rfl ?_
  obtain ⟨⟨fs, hh⟩, H⟩ := H
  refine J_callV (As := []) (S := []) (b := a1) dX4_readOver_40 mX7_takesNewLink_ok kX4_121 rfl (by decide) (Nat.le_of_ble_eq_true rfl) hh rfl rfl (Nat.le_of_ble_eq_true rfl) ⟨Nat.le_of_ble_eq_true rfl, Nat.le_of_ble_eq_true rfl⟩ (fun k h' hp => ?_) H (fun r h1 hp => ?_)
  · obtain ⟨_, hv, -⟩ := hp; cases hv
  obtain ⟨v2, rfl, H⟩ := hp
  show am_J l g mX4_readOver (d + 1) (0, 0, x) 43 [(0, .ref a0), (1, .ref a1), (2, .int i2)] [.int v2] h1 Q
  obtain ⟨H1, H2⟩ := H
  refine J_if_ne (tgt := 52) dX4_readOver_43 (by decide) (fun hc => ?_) (fun hc => ?_)
  · replace H := H1 hc
    clear H1 H2
    exact J_pick [0, 2] rfl (rX4_readOver_52 H)
  · replace H := H2 hc
    clear H1 H2
    refine J_aload_n dX4_readOver_46 0 rfl ?_
    refine J_bipush (v := 6) dX4_readOver_47 (by decide) ?_
    obtain ⟨⟨fs, hh⟩, H⟩ := H
    refine J_callV (As := [.int 6]) (S := []) (b := a0) dX4_readOver_49 mX4_failWith_ok kX4_39 rfl (by decide) (Nat.le_of_ble_eq_true rfl) hh rfl rfl (Nat.le_of_ble_eq_true rfl) ⟨Nat.le_of_ble_eq_true rfl, Nat.le_of_ble_eq_true rfl⟩ (fun k h' hp => ?_) H (fun r h3 hp => ?_)
    · obtain ⟨hv, -⟩ := hp; cases hv
    obtain ⟨rfl, H⟩ := hp
    show am_J l g mX4_readOver (d + 1) (0, 0, x) 52 [(0, .ref a0), (1, .ref a1), (2, .int i2)] [] h3 Q
    exact J_pick [0, 2] rfl (rX4_readOver_52 H)
def zX4_readOver_0 (l : Launch) (g : am_G) (d : Nat) (x : Bool) (a0 : Nat) (a1 : Nat) (h : am_H) (Q : Option Value → am_H → Prop) : Prop := gt_I h a0 4 2 (fun v1 => ((v1 = 0 → cv_I l g mX4_isWord d x 4 a0 [.long 1870030194] h (fun v3 h2 => ((¬ v3 = 0 → zX4_readOver_39 l g d x a0 a1 v3  h2 Q) ∧ (v3 = 0 → cv_I l g mX4_isWord d x 4 a0 [.long 504363246962] h2 (fun v5 h4 => ((¬ v5 = 0 → zX4_readOver_39 l g d x a0 a1 v3  h4 Q) ∧ (v5 = 0 → cv_N l g mX4_failWith d x 4 a0 [.int 1] h4 (fun h6 => zX4_readOver_52 l g d x a0 v3  h6 Q)))))))) ∧ (¬ v1 = 0 → Q (some (.int 0)) h)))
set_option maxRecDepth 4000 in
theorem rX4_readOver_0 {l : Launch} {g : am_G} {d : Nat} {x : Bool} {a0 : Nat} {a1 : Nat} {h : am_H} {Q : Option Value → am_H → Prop} (H : zX4_readOver_0 l g d x a0 a1 h Q) : am_J l g mX4_readOver (d + 1) (0, 0, x) 0 [(0, .ref a0), (1, .ref a1)] [] h Q := by
  unfold zX4_readOver_0 at H
  refine J_aload_n dX4_readOver_0 0 rfl ?_
  obtain ⟨fs, v1, hh, hk, H⟩ := H
  refine J_get dX4_readOver_1 fX4_24 hh hk ?_
  clear hh hk
  obtain ⟨H1, H2⟩ := H
  refine J_if_eq (tgt := 9) dX4_readOver_4 (by decide) (fun hc => ?_) (fun hc => ?_)
  · replace H := H1 hc
    clear H1 H2
    refine J_aload_n dX4_readOver_9 0 rfl ?_
    refine J_ldc2 (v := 1870030194) dX4_readOver_10 qX4_117 ?_
    obtain ⟨⟨fs, hh⟩, H⟩ := H
    refine J_callV (As := [.long 1870030194]) (S := []) (b := a0) dX4_readOver_13 mX4_isWord_ok kX4_35 rfl (by decide) (Nat.le_of_ble_eq_true rfl) hh rfl rfl (Nat.le_of_ble_eq_true rfl) ⟨Nat.le_of_ble_eq_true rfl, Nat.le_of_ble_eq_true rfl⟩ (fun k h' hp => ?_) H (fun r h2 hp => ?_)
    · obtain ⟨_, hv, -⟩ := hp; cases hv
    obtain ⟨v3, rfl, H⟩ := hp
    show am_J l g mX4_readOver (d + 1) (0, 0, x) 16 [(0, .ref a0), (1, .ref a1)] [.int v3] h2 Q
    refine J_istore_n (L' := [(2, .int v3), (0, .ref a0), (1, .ref a1)]) dX4_readOver_16 (by decide) rfl ?_
    refine J_iload_n dX4_readOver_17 0 rfl ?_
    obtain ⟨H1, H2⟩ := H
    refine J_if_ne (tgt := 39) dX4_readOver_18 (by decide) (fun hc => ?_) (fun hc => ?_)
    · replace H := H1 hc
      clear H1 H2
      exact J_pick [1, 2, 0] rfl (rX4_readOver_39 H)
    · replace H := H2 hc
      clear H1 H2
      refine J_aload_n dX4_readOver_21 1 rfl ?_
      refine J_ldc2 (v := 504363246962) dX4_readOver_22 qX4_119 ?_
      obtain ⟨⟨fs, hh⟩, H⟩ := H
      refine J_callV (As := [.long 504363246962]) (S := []) (b := a0) dX4_readOver_25 mX4_isWord_ok kX4_35 rfl (by decide) (Nat.le_of_ble_eq_true rfl) hh rfl rfl (Nat.le_of_ble_eq_true rfl) ⟨Nat.le_of_ble_eq_true rfl, Nat.le_of_ble_eq_true rfl⟩ (fun k h' hp => ?_) H (fun r h4 hp => ?_)
      · obtain ⟨_, hv, -⟩ := hp; cases hv
      obtain ⟨v5, rfl, H⟩ := hp
      show am_J l g mX4_readOver (d + 1) (0, 0, x) 28 [(2, .int v3), (0, .ref a0), (1, .ref a1)] [.int v5] h4 Q
      obtain ⟨H1, H2⟩ := H
      refine J_if_ne (tgt := 39) dX4_readOver_28 (by decide) (fun hc => ?_) (fun hc => ?_)
      · replace H := H1 hc
        clear H1 H2
        exact J_pick [1, 2, 0] rfl (rX4_readOver_39 H)
      · replace H := H2 hc
        clear H1 H2
        refine J_aload_n dX4_readOver_31 1 rfl ?_
        refine J_iconst (v := 1) dX4_readOver_32 (by decide) ?_
        obtain ⟨⟨fs, hh⟩, H⟩ := H
        refine J_callV (As := [.int 1]) (S := []) (b := a0) dX4_readOver_33 mX4_failWith_ok kX4_39 rfl (by decide) (Nat.le_of_ble_eq_true rfl) hh rfl rfl (Nat.le_of_ble_eq_true rfl) ⟨Nat.le_of_ble_eq_true rfl, Nat.le_of_ble_eq_true rfl⟩ (fun k h' hp => ?_) H (fun r h6 hp => ?_)
        · obtain ⟨hv, -⟩ := hp; cases hv
        obtain ⟨rfl, H⟩ := hp
        show am_J l g mX4_readOver (d + 1) (0, 0, x) 36 [(2, .int v3), (0, .ref a0), (1, .ref a1)] [] h6 Q
        refine J_goto (tgt := 52) dX4_readOver_36 (by decide) ?_
        exact J_pick [1, 0] rfl (rX4_readOver_52 H)
  · replace H := H2 hc
    clear H1 H2
    refine J_iconst (v := 0) dX4_readOver_7 (by decide) ?_
    exact J_iret dX4_readOver_8 ⟨_, rfl, rfl⟩ ⟨Nat.le_of_ble_eq_true rfl, Nat.le_of_ble_eq_true rfl, fun _ => rfl⟩ H
theorem eX4_readOver {l : Launch} {g : am_G} {d : Nat} {x : Bool} {a0 : Nat} {a1 : Nat} {h : am_H} {K : Int32 → am_H → Prop} (H : zX4_readOver_0 l g d x a0 a1 h (fun r h' => ∃ v, r = some (.int v) ∧ K v h')) : cl_I l g mX4_readOver (d + 1) x [.ref a0, .ref a1] h K := rX4_readOver_0 H
def zX4_passSemicolon_27 (l : Launch) (g : am_G) (d : Nat) (x : Bool) (a0 : Nat) (h : am_H) (Q : Option Value → am_H → Prop) : Prop := gt_R h a0 4 0 (fun v1 => cv_N l g mX6_step d x 6 v1 [] h (fun h2 => Q none h2))
set_option maxRecDepth 4000 in
theorem rX4_passSemicolon_27 {l : Launch} {g : am_G} {d : Nat} {x : Bool} {a0 : Nat} {h : am_H} {Q : Option Value → am_H → Prop} (H : zX4_passSemicolon_27 l g d x a0 h Q) : am_J l g mX4_passSemicolon (d + 1) (0, 0, x) 27 [(0, .ref a0)] [] h Q := by
  unfold zX4_passSemicolon_27 at H
  refine J_aload_n dX4_passSemicolon_27 0 rfl ?_
  obtain ⟨fs, v1, hh, hk, H⟩ := H
  refine J_get dX4_passSemicolon_28 fX4_9 hh hk ?_
  clear hh hk
  obtain ⟨⟨fs, hh⟩, H⟩ := H
  refine J_callV (As := []) (S := []) (b := v1) dX4_passSemicolon_31 mX6_step_ok kX4_58 rfl (by decide) (Nat.le_of_ble_eq_true rfl) hh rfl rfl (Nat.le_of_ble_eq_true rfl) ⟨Nat.le_of_ble_eq_true rfl, Nat.le_of_ble_eq_true rfl⟩ (fun k h' hp => ?_) H (fun r h2 hp => ?_)
  · obtain ⟨hv, -⟩ := hp; cases hv
  obtain ⟨rfl, H⟩ := hp
  show am_J l g mX4_passSemicolon (d + 1) (0, 0, x) 34 [(0, .ref a0)] [] h2 Q
  exact J_vret dX4_passSemicolon_34 rfl ⟨Nat.le_of_ble_eq_true rfl, Nat.le_of_ble_eq_true rfl, fun _ => rfl⟩ H
def zX4_passSemicolon_0 (l : Launch) (g : am_G) (d : Nat) (x : Bool) (a0 : Nat) (h : am_H) (Q : Option Value → am_H → Prop) : Prop := gt_I h a0 4 2 (fun v1 => ((v1 = 0 → gt_R h a0 4 0 (fun v2 => cv_I l g mX6_is d x 6 v2 [.int 3, .long 59] h (fun v4 h3 => ((¬ v4 = 0 → zX4_passSemicolon_27 l g d x a0  h3 Q) ∧ (v4 = 0 → cv_N l g mX4_failWith d x 4 a0 [.int 1] h3 (fun h5 => zX4_passSemicolon_27 l g d x a0  h5 Q)))))) ∧ (¬ v1 = 0 → Q none h)))
set_option maxRecDepth 4000 in
theorem rX4_passSemicolon_0 {l : Launch} {g : am_G} {d : Nat} {x : Bool} {a0 : Nat} {h : am_H} {Q : Option Value → am_H → Prop} (H : zX4_passSemicolon_0 l g d x a0 h Q) : am_J l g mX4_passSemicolon (d + 1) (0, 0, x) 0 [(0, .ref a0)] [] h Q := by
  unfold zX4_passSemicolon_0 at H
  refine J_aload_n dX4_passSemicolon_0 0 rfl ?_
  obtain ⟨fs, v1, hh, hk, H⟩ := H
  refine J_get dX4_passSemicolon_1 fX4_24 hh hk ?_
  clear hh hk
  obtain ⟨H1, H2⟩ := H
  refine J_if_eq (tgt := 8) dX4_passSemicolon_4 (by decide) (fun hc => ?_) (fun hc => ?_)
  · replace H := H1 hc
    clear H1 H2
    refine J_aload_n dX4_passSemicolon_8 0 rfl ?_
    obtain ⟨fs, v2, hh, hk, H⟩ := H
    refine J_get dX4_passSemicolon_9 fX4_9 hh hk ?_
    clear hh hk
    refine J_iconst (v := 3) dX4_passSemicolon_12 (by decide) ?_
    refine J_ldc2 (v := 59) dX4_passSemicolon_13 qX4_124 ?_
    obtain ⟨⟨fs, hh⟩, H⟩ := H
    refine J_callV (As := [.int 3, .long 59]) (S := []) (b := v2) dX4_passSemicolon_16 mX6_is_ok kX4_109 rfl (by decide) (Nat.le_of_ble_eq_true rfl) hh rfl rfl (Nat.le_of_ble_eq_true rfl) ⟨Nat.le_of_ble_eq_true rfl, Nat.le_of_ble_eq_true rfl⟩ (fun k h' hp => ?_) H (fun r h3 hp => ?_)
    · obtain ⟨_, hv, -⟩ := hp; cases hv
    obtain ⟨v4, rfl, H⟩ := hp
    show am_J l g mX4_passSemicolon (d + 1) (0, 0, x) 19 [(0, .ref a0)] [.int v4] h3 Q
    obtain ⟨H1, H2⟩ := H
    refine J_if_ne (tgt := 27) dX4_passSemicolon_19 (by decide) (fun hc => ?_) (fun hc => ?_)
    · replace H := H1 hc
      clear H1 H2
      exact J_pick [0] rfl (rX4_passSemicolon_27 H)
    · replace H := H2 hc
      clear H1 H2
      refine J_aload_n dX4_passSemicolon_22 0 rfl ?_
      refine J_iconst (v := 1) dX4_passSemicolon_23 (by decide) ?_
      obtain ⟨⟨fs, hh⟩, H⟩ := H
      refine J_callV (As := [.int 1]) (S := []) (b := a0) dX4_passSemicolon_24 mX4_failWith_ok kX4_39 rfl (by decide) (Nat.le_of_ble_eq_true rfl) hh rfl rfl (Nat.le_of_ble_eq_true rfl) ⟨Nat.le_of_ble_eq_true rfl, Nat.le_of_ble_eq_true rfl⟩ (fun k h' hp => ?_) H (fun r h5 hp => ?_)
      · obtain ⟨hv, -⟩ := hp; cases hv
      obtain ⟨rfl, H⟩ := hp
      show am_J l g mX4_passSemicolon (d + 1) (0, 0, x) 27 [(0, .ref a0)] [] h5 Q
      exact J_pick [0] rfl (rX4_passSemicolon_27 H)
  · replace H := H2 hc
    clear H1 H2
    exact J_vret dX4_passSemicolon_7 rfl ⟨Nat.le_of_ble_eq_true rfl, Nat.le_of_ble_eq_true rfl, fun _ => rfl⟩ H
theorem eX4_passSemicolon {l : Launch} {g : am_G} {d : Nat} {x : Bool} {a0 : Nat} {h : am_H} {K : am_H → Prop} (H : zX4_passSemicolon_0 l g d x a0 h (fun r h' => r = none ∧ K h')) : cl_N l g mX4_passSemicolon (d + 1) x [.ref a0] h K := rX4_passSemicolon_0 H
def zX4_isWord_0 (l : Launch) (g : am_G) (d : Nat) (x : Bool) (a0 : Nat) (l1 : Int64) (h : am_H) (Q : Option Value → am_H → Prop) : Prop := gt_R h a0 4 0 (fun v1 => cv_I l g mX6_is d x 6 v1 [.int 1, .long l1] h (fun v3 h2 => ((v3 = 0 ∨ v3 = 1) ∧ Q (some (.int v3)) h2)))
set_option maxRecDepth 4000 in
theorem rX4_isWord_0 {l : Launch} {g : am_G} {d : Nat} {x : Bool} {a0 : Nat} {l1 : Int64} {h : am_H} {Q : Option Value → am_H → Prop} (H : zX4_isWord_0 l g d x a0 l1 h Q) : am_J l g mX4_isWord (d + 1) (0, 0, x) 0 [(0, .ref a0), (1, .long l1)] [] h Q := by
  unfold zX4_isWord_0 at H
  refine J_aload_n dX4_isWord_0 0 rfl ?_
  obtain ⟨fs, v1, hh, hk, H⟩ := H
  refine J_get dX4_isWord_1 fX4_9 hh hk ?_
  clear hh hk
  refine J_iconst (v := 1) dX4_isWord_4 (by decide) ?_
  refine J_lload_n dX4_isWord_5 1 rfl ?_
  obtain ⟨⟨fs, hh⟩, H⟩ := H
  refine J_callV (As := [.int 1, .long l1]) (S := []) (b := v1) dX4_isWord_6 mX6_is_ok kX4_109 rfl (by decide) (Nat.le_of_ble_eq_true rfl) hh rfl rfl (Nat.le_of_ble_eq_true rfl) ⟨Nat.le_of_ble_eq_true rfl, Nat.le_of_ble_eq_true rfl⟩ (fun k h' hp => ?_) H (fun r h2 hp => ?_)
  · obtain ⟨_, hv, -⟩ := hp; cases hv
  obtain ⟨v3, rfl, H⟩ := hp
  show am_J l g mX4_isWord (d + 1) (0, 0, x) 9 [(0, .ref a0), (1, .long l1)] [.int v3] h2 Q
  obtain ⟨hb, H⟩ := H
  exact J_iret dX4_isWord_9 (am_nar01 rfl hb) ⟨Nat.le_of_ble_eq_true rfl, Nat.le_of_ble_eq_true rfl, fun _ => rfl⟩ H
theorem eX4_isWord {l : Launch} {g : am_G} {d : Nat} {x : Bool} {a0 : Nat} {l1 : Int64} {h : am_H} {K : Int32 → am_H → Prop} (H : zX4_isWord_0 l g d x a0 l1 h (fun r h' => ∃ v, r = some (.int v) ∧ K v h')) : cl_I l g mX4_isWord (d + 1) x [.ref a0, .long l1] h K := rX4_isWord_0 H
def zX4_isName_0 (l : Launch) (g : am_G) (d : Nat) (x : Bool) (a0 : Nat) (h : am_H) (Q : Option Value → am_H → Prop) : Prop := gt_R h a0 4 0 (fun v1 => gt_I h v1 6 2 (fun v2 => ((¬ v2 = 1 → Q (some (.int 0)) h) ∧ (v2 = 1 → cv_I l g mX4_isWord d x 4 a0 [.long 1919512167] h (fun v4 h3 => ((¬ v4 = 0 → Q (some (.int 0)) h3) ∧ (v4 = 0 → cv_I l g mX4_isWord d x 4 a0 [.long 1818848875] h3 (fun v6 h5 => ((¬ v6 = 0 → Q (some (.int 0)) h5) ∧ (v6 = 0 → cv_I l g mX4_isWord d x 4 a0 [.long 1870030194] h5 (fun v8 h7 => ((¬ v8 = 0 → Q (some (.int 0)) h7) ∧ (v8 = 0 → cv_I l g mX4_isWord d x 4 a0 [.long 504363246962] h7 (fun v10 h9 => ((¬ v10 = 0 → Q (some (.int 0)) h9) ∧ (v10 = 0 → Q (some (.int 1)) h9))))))))))))))))
set_option maxRecDepth 4000 in
theorem rX4_isName_0 {l : Launch} {g : am_G} {d : Nat} {x : Bool} {a0 : Nat} {h : am_H} {Q : Option Value → am_H → Prop} (H : zX4_isName_0 l g d x a0 h Q) : am_J l g mX4_isName (d + 1) (0, 0, x) 0 [(0, .ref a0)] [] h Q := by
  unfold zX4_isName_0 at H
  refine J_aload_n dX4_isName_0 0 rfl ?_
  obtain ⟨fs, v1, hh, hk, H⟩ := H
  refine J_get dX4_isName_1 fX4_9 hh hk ?_
  clear hh hk
  obtain ⟨fs, v2, hh, hk, H⟩ := H
  refine J_get dX4_isName_4 fX4_52 hh hk ?_
  clear hh hk
  refine J_iconst (v := 1) dX4_isName_7 (by decide) ?_
  obtain ⟨H1, H2⟩ := H
  refine J_icmp_ne (tgt := 55) dX4_isName_8 (by decide) (fun hc => ?_) (fun hc => ?_)
  · replace H := H1 hc
    clear H1 H2
    refine J_iconst (v := 0) dX4_isName_55 (by decide) ?_
    exact J_iret dX4_isName_56 ⟨_, rfl, rfl⟩ ⟨Nat.le_of_ble_eq_true rfl, Nat.le_of_ble_eq_true rfl, fun _ => rfl⟩ H
  · replace H := H2 hc
    clear H1 H2
    refine J_aload_n dX4_isName_11 0 rfl ?_
    refine J_ldc2 (v := 1919512167) dX4_isName_12 qX4_33 ?_
    obtain ⟨⟨fs, hh⟩, H⟩ := H
    refine J_callV (As := [.long 1919512167]) (S := []) (b := a0) dX4_isName_15 mX4_isWord_ok kX4_35 rfl (by decide) (Nat.le_of_ble_eq_true rfl) hh rfl rfl (Nat.le_of_ble_eq_true rfl) ⟨Nat.le_of_ble_eq_true rfl, Nat.le_of_ble_eq_true rfl⟩ (fun k h' hp => ?_) H (fun r h3 hp => ?_)
    · obtain ⟨_, hv, -⟩ := hp; cases hv
    obtain ⟨v4, rfl, H⟩ := hp
    show am_J l g mX4_isName (d + 1) (0, 0, x) 18 [(0, .ref a0)] [.int v4] h3 Q
    obtain ⟨H1, H2⟩ := H
    refine J_if_ne (tgt := 55) dX4_isName_18 (by decide) (fun hc => ?_) (fun hc => ?_)
    · replace H := H1 hc
      clear H1 H2
      refine J_iconst (v := 0) dX4_isName_55 (by decide) ?_
      exact J_iret dX4_isName_56 ⟨_, rfl, rfl⟩ ⟨Nat.le_of_ble_eq_true rfl, Nat.le_of_ble_eq_true rfl, fun _ => rfl⟩ H
    · replace H := H2 hc
      clear H1 H2
      refine J_aload_n dX4_isName_21 0 rfl ?_
      refine J_ldc2 (v := 1818848875) dX4_isName_22 qX4_47 ?_
      obtain ⟨⟨fs, hh⟩, H⟩ := H
      refine J_callV (As := [.long 1818848875]) (S := []) (b := a0) dX4_isName_25 mX4_isWord_ok kX4_35 rfl (by decide) (Nat.le_of_ble_eq_true rfl) hh rfl rfl (Nat.le_of_ble_eq_true rfl) ⟨Nat.le_of_ble_eq_true rfl, Nat.le_of_ble_eq_true rfl⟩ (fun k h' hp => ?_) H (fun r h5 hp => ?_)
      · obtain ⟨_, hv, -⟩ := hp; cases hv
      obtain ⟨v6, rfl, H⟩ := hp
      show am_J l g mX4_isName (d + 1) (0, 0, x) 28 [(0, .ref a0)] [.int v6] h5 Q
      obtain ⟨H1, H2⟩ := H
      refine J_if_ne (tgt := 55) dX4_isName_28 (by decide) (fun hc => ?_) (fun hc => ?_)
      · replace H := H1 hc
        clear H1 H2
        refine J_iconst (v := 0) dX4_isName_55 (by decide) ?_
        exact J_iret dX4_isName_56 ⟨_, rfl, rfl⟩ ⟨Nat.le_of_ble_eq_true rfl, Nat.le_of_ble_eq_true rfl, fun _ => rfl⟩ H
      · replace H := H2 hc
        clear H1 H2
        refine J_aload_n dX4_isName_31 0 rfl ?_
        refine J_ldc2 (v := 1870030194) dX4_isName_32 qX4_117 ?_
        obtain ⟨⟨fs, hh⟩, H⟩ := H
        refine J_callV (As := [.long 1870030194]) (S := []) (b := a0) dX4_isName_35 mX4_isWord_ok kX4_35 rfl (by decide) (Nat.le_of_ble_eq_true rfl) hh rfl rfl (Nat.le_of_ble_eq_true rfl) ⟨Nat.le_of_ble_eq_true rfl, Nat.le_of_ble_eq_true rfl⟩ (fun k h' hp => ?_) H (fun r h7 hp => ?_)
        · obtain ⟨_, hv, -⟩ := hp; cases hv
        obtain ⟨v8, rfl, H⟩ := hp
        show am_J l g mX4_isName (d + 1) (0, 0, x) 38 [(0, .ref a0)] [.int v8] h7 Q
        obtain ⟨H1, H2⟩ := H
        refine J_if_ne (tgt := 55) dX4_isName_38 (by decide) (fun hc => ?_) (fun hc => ?_)
        · replace H := H1 hc
          clear H1 H2
          refine J_iconst (v := 0) dX4_isName_55 (by decide) ?_
          exact J_iret dX4_isName_56 ⟨_, rfl, rfl⟩ ⟨Nat.le_of_ble_eq_true rfl, Nat.le_of_ble_eq_true rfl, fun _ => rfl⟩ H
        · replace H := H2 hc
          clear H1 H2
          refine J_aload_n dX4_isName_41 0 rfl ?_
          refine J_ldc2 (v := 504363246962) dX4_isName_42 qX4_119 ?_
          obtain ⟨⟨fs, hh⟩, H⟩ := H
          refine J_callV (As := [.long 504363246962]) (S := []) (b := a0) dX4_isName_45 mX4_isWord_ok kX4_35 rfl (by decide) (Nat.le_of_ble_eq_true rfl) hh rfl rfl (Nat.le_of_ble_eq_true rfl) ⟨Nat.le_of_ble_eq_true rfl, Nat.le_of_ble_eq_true rfl⟩ (fun k h' hp => ?_) H (fun r h9 hp => ?_)
          · obtain ⟨_, hv, -⟩ := hp; cases hv
          obtain ⟨v10, rfl, H⟩ := hp
          show am_J l g mX4_isName (d + 1) (0, 0, x) 48 [(0, .ref a0)] [.int v10] h9 Q
          obtain ⟨H1, H2⟩ := H
          refine J_if_ne (tgt := 55) dX4_isName_48 (by decide) (fun hc => ?_) (fun hc => ?_)
          · replace H := H1 hc
            clear H1 H2
            refine J_iconst (v := 0) dX4_isName_55 (by decide) ?_
            exact J_iret dX4_isName_56 ⟨_, rfl, rfl⟩ ⟨Nat.le_of_ble_eq_true rfl, Nat.le_of_ble_eq_true rfl, fun _ => rfl⟩ H
          · replace H := H2 hc
            clear H1 H2
            refine J_iconst (v := 1) dX4_isName_51 (by decide) ?_
            refine J_goto (tgt := 56) dX4_isName_52 (by decide) ?_
            exact J_iret dX4_isName_56 ⟨_, rfl, rfl⟩ ⟨Nat.le_of_ble_eq_true rfl, Nat.le_of_ble_eq_true rfl, fun _ => rfl⟩ H
theorem eX4_isName {l : Launch} {g : am_G} {d : Nat} {x : Bool} {a0 : Nat} {h : am_H} {K : Int32 → am_H → Prop} (H : zX4_isName_0 l g d x a0 h (fun r h' => ∃ v, r = some (.int v) ∧ K v h')) : cl_I l g mX4_isName (d + 1) x [.ref a0] h K := rX4_isName_0 H
def zX4_ringOfName_2 (l : Launch) (g : am_G) (d : Nat) (x : Bool) (a0 : Nat) (a1 : Nat) (i2 : Int32) (h : am_H) (Q : Option Value → am_H → Prop) : Prop := gt_I h a1 7 5 (fun v1 => ((v1 ≤ i2 → Q (some (.int (-1))) h) ∧ (¬ v1 ≤ i2 → gt_R h a0 4 1 (fun v2 => al_L h v2 i2 (fun v3 => gt_R h a0 4 0 (fun v4 => gt_L h v4 6 4 (fun v5 => ((¬ (lg_cmp v3 v5) = 0 → am_J l g mX4_ringOfName d (0, 0, x) 2 [(0, .ref a0), (1, .ref a1), (2, .int (i2 + 1))] [] h Q) ∧ ((lg_cmp v3 v5) = 0 → Q (some (.int i2)) h)))))))))
set_option maxRecDepth 4000 in
theorem rX4_ringOfName_2 {l : Launch} {g : am_G} {d : Nat} {x : Bool} {a0 : Nat} {a1 : Nat} {i2 : Int32} {h : am_H} {Q : Option Value → am_H → Prop} (H : zX4_ringOfName_2 l g d x a0 a1 i2 h Q) : am_J l g mX4_ringOfName d (0, 0, x) 2 [(0, .ref a0), (1, .ref a1), (2, .int i2)] [] h Q := by
  unfold zX4_ringOfName_2 at H
  refine J_iload_n dX4_ringOfName_2 2 rfl ?_
  refine J_aload_n dX4_ringOfName_3 1 rfl ?_
  obtain ⟨fs, v1, hh, hk, H⟩ := H
  refine J_get dX4_ringOfName_4 fX4_55 hh hk ?_
  clear hh hk
  obtain ⟨H1, H2⟩ := H
  refine J_icmp_ge (tgt := 35) dX4_ringOfName_7 (by decide) (fun hc => ?_) (fun hc => ?_)
  · replace H := H1 hc
    clear H1 H2
    refine J_iconst (v := (-1)) dX4_ringOfName_35 (by decide) ?_
    exact J_iret dX4_ringOfName_36 ⟨_, rfl, rfl⟩ ⟨Nat.le_of_ble_eq_true rfl, Nat.le_of_ble_eq_true rfl, fun _ => rfl⟩ H
  · replace H := H2 hc
    clear H1 H2
    refine J_aload_n dX4_ringOfName_10 0 rfl ?_
    obtain ⟨fs, v2, hh, hk, H⟩ := H
    refine J_get dX4_ringOfName_11 fX4_15 hh hk ?_
    clear hh hk
    refine J_iload_n dX4_ringOfName_14 2 rfl ?_
    obtain ⟨nn, ff, hh, hk, H⟩ := H
    refine J_lald dX4_ringOfName_15 hh hk ?_
    generalize ff (Int32.toNatClampNeg i2) = v3 at H ⊢
    clear hh hk ff
    refine J_aload_n dX4_ringOfName_16 0 rfl ?_
    obtain ⟨fs, v4, hh, hk, H⟩ := H
    refine J_get dX4_ringOfName_17 fX4_9 hh hk ?_
    clear hh hk
    obtain ⟨fs, v5, hh, hk, H⟩ := H
    refine J_get dX4_ringOfName_20 fX4_69 hh hk ?_
    clear hh hk
    refine J_lcmp dX4_ringOfName_23 ?_
    obtain ⟨H1, H2⟩ := H
    refine J_if_ne (tgt := 29) dX4_ringOfName_24 (by decide) (fun hc => ?_) (fun hc => ?_)
    · replace H := H1 hc
      clear H1 H2
      refine J_iinc (v := (i2 + 1)) (L' := [(2, .int (i2 + 1)), (0, .ref a0), (1, .ref a1)]) dX4_ringOfName_29 2 rfl rfl (by decide) rfl ?_
      refine J_goto (tgt := 2) dX4_ringOfName_32 (by decide) ?_
      exact J_pick [1, 2, 0] rfl H
    · replace H := H2 hc
      clear H1 H2
      refine J_iload_n dX4_ringOfName_27 2 rfl ?_
      exact J_iret dX4_ringOfName_28 ⟨_, rfl, rfl⟩ ⟨Nat.le_of_ble_eq_true rfl, Nat.le_of_ble_eq_true rfl, fun _ => rfl⟩ H
def zX4_ringOfName_0 (l : Launch) (g : am_G) (d : Nat) (x : Bool) (a0 : Nat) (a1 : Nat) (h : am_H) (Q : Option Value → am_H → Prop) : Prop := am_J l g mX4_ringOfName d (0, 0, x) 2 [(0, .ref a0), (1, .ref a1), (2, .int 0)] [] h Q
set_option maxRecDepth 4000 in
theorem rX4_ringOfName_0 {l : Launch} {g : am_G} {d : Nat} {x : Bool} {a0 : Nat} {a1 : Nat} {h : am_H} {Q : Option Value → am_H → Prop} (H : zX4_ringOfName_0 l g d x a0 a1 h Q) : am_J l g mX4_ringOfName d (0, 0, x) 0 [(0, .ref a0), (1, .ref a1)] [] h Q := by
  unfold zX4_ringOfName_0 at H
  refine J_iconst (v := 0) dX4_ringOfName_0 (by decide) ?_
  refine J_istore_n (L' := [(2, .int 0), (0, .ref a0), (1, .ref a1)]) dX4_ringOfName_1 (by decide) rfl ?_
  exact J_pick [1, 2, 0] rfl H
theorem eX4_ringOfName {l : Launch} {g : am_G} {d : Nat} {x : Bool} {a0 : Nat} {a1 : Nat} {h : am_H} {K : Int32 → am_H → Prop} (H : zX4_ringOfName_0 l g d x a0 a1 h (fun r h' => ∃ v, r = some (.int v) ∧ K v h')) : cl_I l g mX4_ringOfName d x [.ref a0, .ref a1] h K := rX4_ringOfName_0 H
def zX4_failWith_0 (l : Launch) (g : am_G) (d : Nat) (x : Bool) (a0 : Nat) (i1 : Int32) (h : am_H) (Q : Option Value → am_H → Prop) : Prop := gt_R h a0 4 0 (fun v1 => gt_I h v1 6 3 (fun v2 => pt_V h a0 4 2 (.int (i1 + (16 * v2))) (fun h3 => Q none h3)))
set_option maxRecDepth 4000 in
theorem rX4_failWith_0 {l : Launch} {g : am_G} {d : Nat} {x : Bool} {a0 : Nat} {i1 : Int32} {h : am_H} {Q : Option Value → am_H → Prop} (H : zX4_failWith_0 l g d x a0 i1 h Q) : am_J l g mX4_failWith d (0, 0, x) 0 [(0, .ref a0), (1, .int i1)] [] h Q := by
  unfold zX4_failWith_0 at H
  refine J_aload_n dX4_failWith_0 0 rfl ?_
  refine J_iload_n dX4_failWith_1 1 rfl ?_
  refine J_bipush (v := 16) dX4_failWith_2 (by decide) ?_
  refine J_aload_n dX4_failWith_4 0 rfl ?_
  obtain ⟨fs, v1, hh, hk, H⟩ := H
  refine J_get dX4_failWith_5 fX4_9 hh hk ?_
  clear hh hk
  obtain ⟨fs, v2, hh, hk, H⟩ := H
  refine J_get dX4_failWith_8 fX4_126 hh hk ?_
  clear hh hk
  refine J_imul dX4_failWith_11 ?_
  refine J_iadd dX4_failWith_12 ?_
  obtain ⟨fs, hh, hk, H⟩ := H
  refine J_put dX4_failWith_13 fX4_24 rfl rfl hh hk ?_
  generalize List.set h a0 (am_O 4 (List.set fs 2 (.int (i1 + (16 * v2))))) = h3 at H ⊢
  clear hh hk
  exact J_vret dX4_failWith_16 rfl ⟨Nat.le_of_ble_eq_true rfl, Nat.le_of_ble_eq_true rfl, fun _ => rfl⟩ H
theorem eX4_failWith {l : Launch} {g : am_G} {d : Nat} {x : Bool} {a0 : Nat} {i1 : Int32} {h : am_H} {K : am_H → Prop} (H : zX4_failWith_0 l g d x a0 i1 h (fun r h' => r = none ∧ K h')) : cl_N l g mX4_failWith d x [.ref a0, .int i1] h K := rX4_failWith_0 H
