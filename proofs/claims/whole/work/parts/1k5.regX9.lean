def zX9_mend_107 (l : Launch) (g : am_G) (d : Nat) (x : Bool) (a0 : Nat) (i1 : Int32) (i2 : Int32) (h : am_H) (Q : Option Value → am_H → Prop) : Prop := am_J l g mX9_mend (d + 1) (0, 0, x) 85 [(0, .ref a0), (1, .int i1), (2, .int (i2 + 1))] [] h Q
set_option maxRecDepth 4000 in
theorem rX9_mend_107 {l : Launch} {g : am_G} {d : Nat} {x : Bool} {a0 : Nat} {i1 : Int32} {i2 : Int32} {h : am_H} {Q : Option Value → am_H → Prop} (H : zX9_mend_107 l g d x a0 i1 i2 h Q) : am_J l g mX9_mend (d + 1) (0, 0, x) 107 [(0, .ref a0), (1, .int i1), (2, .int i2)] [] h Q := by
  unfold zX9_mend_107 at H
  refine J_iinc (v := (i2 + 1)) (L' := [(2, .int (i2 + 1)), (0, .ref a0), (1, .int i1)]) dX9_mend_107 2 rfl rfl (by decide) rfl ?_
  refine J_goto (tgt := 85) dX9_mend_110 (by decide) ?_
  exact J_pick [1, 2, 0] rfl H
def zX9_mend_85 (l : Launch) (g : am_G) (d : Nat) (x : Bool) (a0 : Nat) (i1 : Int32) (i2 : Int32) (h : am_H) (Q : Option Value → am_H → Prop) : Prop := gt_I h a0 9 20 (fun v1 => ((v1 ≤ i2 → Q (some (.int i1)) h) ∧ (¬ v1 ≤ i2 → gt_R h a0 9 24 (fun v2 => al_I 2 h v2 i2 (fun v3 => ((v3 = 0 → zX9_mend_107 l g d x a0 i1 i2  h Q) ∧ (¬ v3 = 0 → cv_N l g mX9_links d x 9 a0 [.int i2] h (fun h4 => zX9_mend_107 l g d x a0 i1 i2  h4 Q))))))))
set_option maxRecDepth 4000 in
theorem rX9_mend_85 {l : Launch} {g : am_G} {d : Nat} {x : Bool} {a0 : Nat} {i1 : Int32} {i2 : Int32} {h : am_H} {Q : Option Value → am_H → Prop} (H : zX9_mend_85 l g d x a0 i1 i2 h Q) : am_J l g mX9_mend (d + 1) (0, 0, x) 85 [(0, .ref a0), (1, .int i1), (2, .int i2)] [] h Q := by
  unfold zX9_mend_85 at H
  refine J_iload_n dX9_mend_85 2 rfl ?_
  refine J_aload_n dX9_mend_86 0 rfl ?_
  obtain ⟨fs, v1, hh, hk, H⟩ := H
  refine J_get dX9_mend_87 fX9_218 hh hk ?_
  clear hh hk
  obtain ⟨H1, H2⟩ := H
  refine J_icmp_ge (tgt := 113) dX9_mend_90 (by decide) (fun hc => ?_) (fun hc => ?_)
  · replace H := H1 hc
    clear H1 H2
    refine J_iload_n dX9_mend_113 1 rfl ?_
    exact J_iret dX9_mend_114 ⟨_, rfl, rfl⟩ ⟨Nat.le_of_ble_eq_true rfl, Nat.le_of_ble_eq_true rfl, fun _ => rfl⟩ H
  · replace H := H2 hc
    clear H1 H2
    refine J_aload_n dX9_mend_93 0 rfl ?_
    obtain ⟨fs, v2, hh, hk, H⟩ := H
    refine J_get dX9_mend_94 fX9_77 hh hk ?_
    clear hh hk
    refine J_iload_n dX9_mend_97 2 rfl ?_
    obtain ⟨nn, ff, hh, hk, H⟩ := H
    refine J_zald dX9_mend_98 hh hk ?_
    generalize ff (Int32.toNatClampNeg i2) = v3 at H ⊢
    clear hh hk ff
    obtain ⟨H1, H2⟩ := H
    refine J_if_eq (tgt := 107) dX9_mend_99 (by decide) (fun hc => ?_) (fun hc => ?_)
    · replace H := H1 hc
      clear H1 H2
      exact J_pick [0, 1, 2] rfl (rX9_mend_107 H)
    · replace H := H2 hc
      clear H1 H2
      refine J_aload_n dX9_mend_102 0 rfl ?_
      refine J_iload_n dX9_mend_103 2 rfl ?_
      obtain ⟨⟨fs, hh⟩, H⟩ := H
      refine J_callV (As := [.int i2]) (S := []) (b := a0) dX9_mend_104 mX9_links_ok kX9_221 rfl (by decide) (Nat.le_of_ble_eq_true rfl) hh rfl rfl (Nat.le_of_ble_eq_true rfl) ⟨Nat.le_of_ble_eq_true rfl, Nat.le_of_ble_eq_true rfl⟩ (fun k h' hp => ?_) H (fun r h4 hp => ?_)
      · obtain ⟨hv, -⟩ := hp; cases hv
      obtain ⟨rfl, H⟩ := hp
      show am_J l g mX9_mend (d + 1) (0, 0, x) 107 [(0, .ref a0), (1, .int i1), (2, .int i2)] [] h4 Q
      exact J_pick [0, 1, 2] rfl (rX9_mend_107 H)
def zX9_mend_62 (l : Launch) (g : am_G) (d : Nat) (x : Bool) (a0 : Nat) (i1 : Int32) (i2 : Int32) (h : am_H) (Q : Option Value → am_H → Prop) : Prop := gt_I h a0 9 20 (fun v1 => ((v1 ≤ i2 → am_J l g mX9_mend (d + 1) (0, 0, x) 85 [(0, .ref a0), (1, .int i1), (2, .int 0)] [] h Q) ∧ (¬ v1 ≤ i2 → gt_R h a0 9 22 (fun v2 => as_I 2 h v2 i2 1 (fun h3 => am_J l g mX9_mend (d + 1) (0, 0, x) 62 [(0, .ref a0), (1, .int i1), (2, .int (i2 + 1))] [] h3 Q)))))
set_option maxRecDepth 4000 in
theorem rX9_mend_62 {l : Launch} {g : am_G} {d : Nat} {x : Bool} {a0 : Nat} {i1 : Int32} {i2 : Int32} {h : am_H} {Q : Option Value → am_H → Prop} (H : zX9_mend_62 l g d x a0 i1 i2 h Q) : am_J l g mX9_mend (d + 1) (0, 0, x) 62 [(0, .ref a0), (1, .int i1), (2, .int i2)] [] h Q := by
  unfold zX9_mend_62 at H
  refine J_iload_n dX9_mend_62 2 rfl ?_
  refine J_aload_n dX9_mend_63 0 rfl ?_
  obtain ⟨fs, v1, hh, hk, H⟩ := H
  refine J_get dX9_mend_64 fX9_218 hh hk ?_
  clear hh hk
  obtain ⟨H1, H2⟩ := H
  refine J_icmp_ge (tgt := 83) dX9_mend_67 (by decide) (fun hc => ?_) (fun hc => ?_)
  · replace H := H1 hc
    clear H1 H2
    refine J_iconst (v := 0) dX9_mend_83 (by decide) ?_
    refine J_istore_n (L' := [(2, .int 0), (0, .ref a0), (1, .int i1)]) dX9_mend_84 (by decide) rfl ?_
    exact J_pick [1, 2, 0] rfl H
  · replace H := H2 hc
    clear H1 H2
    refine J_aload_n dX9_mend_70 0 rfl ?_
    obtain ⟨fs, v2, hh, hk, H⟩ := H
    refine J_get dX9_mend_71 fX9_70 hh hk ?_
    clear hh hk
    refine J_iload_n dX9_mend_74 2 rfl ?_
    refine J_iconst (v := 1) dX9_mend_75 (by decide) ?_
    obtain ⟨nn, ff, hh, hk, H⟩ := H
    refine J_zast dX9_mend_76 hh hk rfl ?_
    generalize List.set h v2 (am_I 2 nn (upd ff (Int32.toNatClampNeg i2) 1)) = h3 at H ⊢
    clear hh hk
    refine J_iinc (v := (i2 + 1)) (L' := [(2, .int (i2 + 1)), (0, .ref a0), (1, .int i1)]) dX9_mend_77 2 rfl rfl (by decide) rfl ?_
    refine J_goto (tgt := 62) dX9_mend_80 (by decide) ?_
    exact J_pick [1, 2, 0] rfl H
def zX9_mend_52 (l : Launch) (g : am_G) (d : Nat) (x : Bool) (a0 : Nat) (i2 : Int32) (s0 : Int32) (s1 : Int32) (h : am_H) (Q : Option Value → am_H → Prop) : Prop := am_J l g mX9_mend (d + 1) (0, 0, x) 9 [(0, .ref a0), (1, .int (s0 + s1)), (2, .int (i2 + 1))] [] h Q
set_option maxRecDepth 4000 in
theorem rX9_mend_52 {l : Launch} {g : am_G} {d : Nat} {x : Bool} {a0 : Nat} {i2 : Int32} {s0 : Int32} {s1 : Int32} {h : am_H} {Q : Option Value → am_H → Prop} (H : zX9_mend_52 l g d x a0 i2 s0 s1 h Q) : am_J l g mX9_mend (d + 1) (0, 0, x) 52 [(0, .ref a0), (2, .int i2)] [.int s1, .int s0] h Q := by
  unfold zX9_mend_52 at H
  refine J_iadd dX9_mend_52 ?_
  refine J_istore_n (L' := [(1, .int (s0 + s1)), (0, .ref a0), (2, .int i2)]) dX9_mend_53 (by decide) rfl ?_
  refine J_iinc (v := (i2 + 1)) (L' := [(2, .int (i2 + 1)), (1, .int (s0 + s1)), (0, .ref a0)]) dX9_mend_54 2 rfl rfl (by decide) rfl ?_
  refine J_goto (tgt := 9) dX9_mend_57 (by decide) ?_
  exact J_pick [2, 1, 0] rfl H
def zX9_mend_36 (l : Launch) (g : am_G) (d : Nat) (x : Bool) (a0 : Nat) (i1 : Int32) (i2 : Int32) (s0 : Nat) (s1 : Int32) (s2 : Int32) (h : am_H) (Q : Option Value → am_H → Prop) : Prop := ((s2 = 0 ∨ s2 = 1) ∧ as_I 2 h s0 s1 s2 (fun h1 => gt_R h1 a0 9 24 (fun v2 => al_I 2 h1 v2 i2 (fun v3 => ((v3 = 0 → zX9_mend_52 l g d x a0 i2 i1 0 h1 Q) ∧ (¬ v3 = 0 → zX9_mend_52 l g d x a0 i2 i1 1 h1 Q))))))
set_option maxRecDepth 4000 in
theorem rX9_mend_36 {l : Launch} {g : am_G} {d : Nat} {x : Bool} {a0 : Nat} {i1 : Int32} {i2 : Int32} {s0 : Nat} {s1 : Int32} {s2 : Int32} {h : am_H} {Q : Option Value → am_H → Prop} (H : zX9_mend_36 l g d x a0 i1 i2 s0 s1 s2 h Q) : am_J l g mX9_mend (d + 1) (0, 0, x) 36 [(0, .ref a0), (1, .int i1), (2, .int i2)] [.int s2, .int s1, .ref s0] h Q := by
  unfold zX9_mend_36 at H
  obtain ⟨hb, H⟩ := H
  obtain ⟨nn, ff, hh, hk, H⟩ := H
  refine J_zast dX9_mend_36 hh hk (by rcases hb with e | e <;> rw [e] <;> rfl) ?_
  generalize List.set h s0 (am_I 2 nn (upd ff (Int32.toNatClampNeg s1) s2)) = h1 at H ⊢
  clear hh hk
  refine J_iload_n dX9_mend_37 1 rfl ?_
  refine J_aload_n dX9_mend_38 0 rfl ?_
  obtain ⟨fs, v2, hh, hk, H⟩ := H
  refine J_get dX9_mend_39 fX9_77 hh hk ?_
  clear hh hk
  refine J_iload_n dX9_mend_42 2 rfl ?_
  obtain ⟨nn, ff, hh, hk, H⟩ := H
  refine J_zald dX9_mend_43 hh hk ?_
  generalize ff (Int32.toNatClampNeg i2) = v3 at H ⊢
  clear hh hk ff
  obtain ⟨H1, H2⟩ := H
  refine J_if_eq (tgt := 51) dX9_mend_44 (by decide) (fun hc => ?_) (fun hc => ?_)
  · replace H := H1 hc
    clear H1 H2
    refine J_iconst (v := 0) dX9_mend_51 (by decide) ?_
    exact J_pick [0, 2] rfl (rX9_mend_52 H)
  · replace H := H2 hc
    clear H1 H2
    refine J_iconst (v := 1) dX9_mend_47 (by decide) ?_
    refine J_goto (tgt := 52) dX9_mend_48 (by decide) ?_
    exact J_pick [0, 2] rfl (rX9_mend_52 H)
def zX9_mend_9 (l : Launch) (g : am_G) (d : Nat) (x : Bool) (a0 : Nat) (i1 : Int32) (i2 : Int32) (h : am_H) (Q : Option Value → am_H → Prop) : Prop := gt_I h a0 9 20 (fun v1 => ((v1 ≤ i2 → am_J l g mX9_mend (d + 1) (0, 0, x) 62 [(0, .ref a0), (1, .int i1), (2, .int 0)] [] h Q) ∧ (¬ v1 ≤ i2 → gt_R h a0 9 24 (fun v2 => gt_R h a0 9 22 (fun v3 => al_I 2 h v3 i2 (fun v4 => ((¬ v4 = 0 → zX9_mend_36 l g d x a0 i1 i2 v2 i2 0 h Q) ∧ (v4 = 0 → zX9_mend_36 l g d x a0 i1 i2 v2 i2 1 h Q))))))))
set_option maxRecDepth 4000 in
theorem rX9_mend_9 {l : Launch} {g : am_G} {d : Nat} {x : Bool} {a0 : Nat} {i1 : Int32} {i2 : Int32} {h : am_H} {Q : Option Value → am_H → Prop} (H : zX9_mend_9 l g d x a0 i1 i2 h Q) : am_J l g mX9_mend (d + 1) (0, 0, x) 9 [(0, .ref a0), (1, .int i1), (2, .int i2)] [] h Q := by
  unfold zX9_mend_9 at H
  refine J_iload_n dX9_mend_9 2 rfl ?_
  refine J_aload_n dX9_mend_10 0 rfl ?_
  obtain ⟨fs, v1, hh, hk, H⟩ := H
  refine J_get dX9_mend_11 fX9_218 hh hk ?_
  clear hh hk
  obtain ⟨H1, H2⟩ := H
  refine J_icmp_ge (tgt := 60) dX9_mend_14 (by decide) (fun hc => ?_) (fun hc => ?_)
  · replace H := H1 hc
    clear H1 H2
    refine J_iconst (v := 0) dX9_mend_60 (by decide) ?_
    refine J_istore_n (L' := [(2, .int 0), (0, .ref a0), (1, .int i1)]) dX9_mend_61 (by decide) rfl ?_
    exact J_pick [1, 2, 0] rfl H
  · replace H := H2 hc
    clear H1 H2
    refine J_aload_n dX9_mend_17 0 rfl ?_
    obtain ⟨fs, v2, hh, hk, H⟩ := H
    refine J_get dX9_mend_18 fX9_77 hh hk ?_
    clear hh hk
    refine J_iload_n dX9_mend_21 2 rfl ?_
    refine J_aload_n dX9_mend_22 0 rfl ?_
    obtain ⟨fs, v3, hh, hk, H⟩ := H
    refine J_get dX9_mend_23 fX9_70 hh hk ?_
    clear hh hk
    refine J_iload_n dX9_mend_26 2 rfl ?_
    obtain ⟨nn, ff, hh, hk, H⟩ := H
    refine J_zald dX9_mend_27 hh hk ?_
    generalize ff (Int32.toNatClampNeg i2) = v4 at H ⊢
    clear hh hk ff
    obtain ⟨H1, H2⟩ := H
    refine J_if_ne (tgt := 35) dX9_mend_28 (by decide) (fun hc => ?_) (fun hc => ?_)
    · replace H := H1 hc
      clear H1 H2
      refine J_iconst (v := 0) dX9_mend_35 (by decide) ?_
      exact J_pick [0, 1, 2] rfl (rX9_mend_36 H)
    · replace H := H2 hc
      clear H1 H2
      refine J_iconst (v := 1) dX9_mend_31 (by decide) ?_
      refine J_goto (tgt := 36) dX9_mend_32 (by decide) ?_
      exact J_pick [0, 1, 2] rfl (rX9_mend_36 H)
def zX9_mend_0 (l : Launch) (g : am_G) (d : Nat) (x : Bool) (a0 : Nat) (h : am_H) (Q : Option Value → am_H → Prop) : Prop := pt_V h a0 9 0 (.int 0) (fun h1 => am_J l g mX9_mend (d + 1) (0, 0, x) 9 [(0, .ref a0), (1, .int 0), (2, .int 0)] [] h1 Q)
set_option maxRecDepth 4000 in
theorem rX9_mend_0 {l : Launch} {g : am_G} {d : Nat} {x : Bool} {a0 : Nat} {h : am_H} {Q : Option Value → am_H → Prop} (H : zX9_mend_0 l g d x a0 h Q) : am_J l g mX9_mend (d + 1) (0, 0, x) 0 [(0, .ref a0)] [] h Q := by
  unfold zX9_mend_0 at H
  refine J_aload_n dX9_mend_0 0 rfl ?_
  refine J_iconst (v := 0) dX9_mend_1 (by decide) ?_
  obtain ⟨fs, hh, hk, H⟩ := H
  refine J_put dX9_mend_2 fX9_1 rfl rfl hh hk ?_
  generalize List.set h a0 (am_O 9 (List.set fs 0 (.int 0))) = h1 at H ⊢
  clear hh hk
  refine J_iconst (v := 0) dX9_mend_5 (by decide) ?_
  refine J_istore_n (L' := [(1, .int 0), (0, .ref a0)]) dX9_mend_6 (by decide) rfl ?_
  refine J_iconst (v := 0) dX9_mend_7 (by decide) ?_
  refine J_istore_n (L' := [(2, .int 0), (1, .int 0), (0, .ref a0)]) dX9_mend_8 (by decide) rfl ?_
  exact J_pick [2, 1, 0] rfl H
theorem eX9_mend {l : Launch} {g : am_G} {d : Nat} {x : Bool} {a0 : Nat} {h : am_H} {K : Int32 → am_H → Prop} (H : zX9_mend_0 l g d x a0 h (fun r h' => ∃ v, r = some (.int v) ∧ K v h')) : cl_I l g mX9_mend (d + 1) x [.ref a0] h K := rX9_mend_0 H
def zX9_isFull_159 (l : Launch) (g : am_G) (d : Nat) (x : Bool) (a0 : Nat) (i1 : Int32) (i3 : Int32) (s0 : Int32) (h : am_H) (Q : Option Value → am_H → Prop) : Prop := am_J l g mX9_isFull (d + 1) (0, 0, x) 16 [(0, .ref a0), (1, .int i1), (2, .int s0), (3, .int (i3 + 1))] [] h Q
set_option maxRecDepth 4000 in
theorem rX9_isFull_159 {l : Launch} {g : am_G} {d : Nat} {x : Bool} {a0 : Nat} {i1 : Int32} {i3 : Int32} {s0 : Int32} {h : am_H} {Q : Option Value → am_H → Prop} (H : zX9_isFull_159 l g d x a0 i1 i3 s0 h Q) : am_J l g mX9_isFull (d + 1) (0, 0, x) 159 [(0, .ref a0), (1, .int i1), (3, .int i3)] [.int s0] h Q := by
  unfold zX9_isFull_159 at H
  refine J_istore_n (L' := [(2, .int s0), (0, .ref a0), (1, .int i1), (3, .int i3)]) dX9_isFull_159 (by decide) rfl ?_
  refine J_iinc (v := (i3 + 1)) (L' := [(3, .int (i3 + 1)), (2, .int s0), (0, .ref a0), (1, .int i1)]) dX9_isFull_160 3 rfl rfl (by decide) rfl ?_
  refine J_goto (tgt := 16) dX9_isFull_163 (by decide) ?_
  exact J_pick [2, 3, 1, 0] rfl H
def zX9_isFull_158 (l : Launch) (g : am_G) (d : Nat) (x : Bool) (a0 : Nat) (i1 : Int32) (i3 : Int32) (h : am_H) (Q : Option Value → am_H → Prop) : Prop := zX9_isFull_159 l g d x a0 i1 i3 0 h Q
set_option maxRecDepth 4000 in
theorem rX9_isFull_158 {l : Launch} {g : am_G} {d : Nat} {x : Bool} {a0 : Nat} {i1 : Int32} {i3 : Int32} {h : am_H} {Q : Option Value → am_H → Prop} (H : zX9_isFull_158 l g d x a0 i1 i3 h Q) : am_J l g mX9_isFull (d + 1) (0, 0, x) 158 [(0, .ref a0), (1, .int i1), (3, .int i3)] [] h Q := by
  unfold zX9_isFull_158 at H
  refine J_iconst (v := 0) dX9_isFull_158 (by decide) ?_
  exact J_pick [0, 1, 2] rfl (rX9_isFull_159 H)
def zX9_isFull_154 (l : Launch) (g : am_G) (d : Nat) (x : Bool) (a0 : Nat) (i1 : Int32) (i3 : Int32) (h : am_H) (Q : Option Value → am_H → Prop) : Prop := zX9_isFull_159 l g d x a0 i1 i3 1 h Q
set_option maxRecDepth 4000 in
theorem rX9_isFull_154 {l : Launch} {g : am_G} {d : Nat} {x : Bool} {a0 : Nat} {i1 : Int32} {i3 : Int32} {h : am_H} {Q : Option Value → am_H → Prop} (H : zX9_isFull_154 l g d x a0 i1 i3 h Q) : am_J l g mX9_isFull (d + 1) (0, 0, x) 154 [(0, .ref a0), (1, .int i1), (3, .int i3)] [] h Q := by
  unfold zX9_isFull_154 at H
  refine J_iconst (v := 1) dX9_isFull_154 (by decide) ?_
  refine J_goto (tgt := 159) dX9_isFull_155 (by decide) ?_
  exact J_pick [0, 1, 2] rfl (rX9_isFull_159 H)
def zX9_isFull_112 (l : Launch) (g : am_G) (d : Nat) (x : Bool) (a0 : Nat) (i1 : Int32) (i3 : Int32) (i4 : Int32) (i5 : Int32) (i7 : Int32) (h : am_H) (Q : Option Value → am_H → Prop) : Prop := gt_R h a0 9 10 (fun v1 => al_I 0 h v1 2 (fun v2 => (¬ v2 = 0 ∧ gt_R h a0 9 14 (fun v3 => al_I 0 h v3 i4 (fun v4 => ((¬ (i1 - i1 / v2 * v2) = v4 → zX9_isFull_154 l g d x a0 i1 i3  h Q) ∧ ((i1 - i1 / v2 * v2) = v4 → ((i7 < 0 → zX9_isFull_158 l g d x a0 i1 i3  h Q) ∧ (¬ i7 < 0 → gt_R h a0 9 23 (fun v5 => al_I 0 h v5 ((300 * i1) + i7) (fun v6 => ((¬ v6 = (-i5) → zX9_isFull_158 l g d x a0 i1 i3  h Q) ∧ (v6 = (-i5) → zX9_isFull_154 l g d x a0 i1 i3  h Q)))))))))))))
set_option maxRecDepth 4000 in
theorem rX9_isFull_112 {l : Launch} {g : am_G} {d : Nat} {x : Bool} {a0 : Nat} {i1 : Int32} {i3 : Int32} {i4 : Int32} {i5 : Int32} {i7 : Int32} {h : am_H} {Q : Option Value → am_H → Prop} (H : zX9_isFull_112 l g d x a0 i1 i3 i4 i5 i7 h Q) : am_J l g mX9_isFull (d + 1) (0, 0, x) 112 [(0, .ref a0), (1, .int i1), (3, .int i3), (4, .int i4), (5, .int i5), (7, .int i7)] [] h Q := by
  unfold zX9_isFull_112 at H
  refine J_iload_n dX9_isFull_112 1 rfl ?_
  refine J_aload_n dX9_isFull_113 0 rfl ?_
  obtain ⟨fs, v1, hh, hk, H⟩ := H
  refine J_get dX9_isFull_114 fX9_45 hh hk ?_
  clear hh hk
  refine J_iconst (v := 2) dX9_isFull_117 (by decide) ?_
  obtain ⟨nn, ff, hh, hk, H⟩ := H
  refine J_iald dX9_isFull_118 hh hk ?_
  generalize ff (Int32.toNatClampNeg 2) = v2 at H ⊢
  clear hh hk ff
  obtain ⟨hn, H⟩ := H
  refine J_irem dX9_isFull_119 hn ?_
  refine J_aload_n dX9_isFull_120 0 rfl ?_
  obtain ⟨fs, v3, hh, hk, H⟩ := H
  refine J_get dX9_isFull_121 fX9_57 hh hk ?_
  clear hh hk
  refine J_iload dX9_isFull_124 3 rfl ?_
  obtain ⟨nn, ff, hh, hk, H⟩ := H
  refine J_iald dX9_isFull_126 hh hk ?_
  generalize ff (Int32.toNatClampNeg i4) = v4 at H ⊢
  clear hh hk ff
  obtain ⟨H1, H2⟩ := H
  refine J_icmp_ne (tgt := 154) dX9_isFull_127 (by decide) (fun hc => ?_) (fun hc => ?_)
  · replace H := H1 hc
    clear H1 H2
    exact J_pick [0, 1, 2] rfl (rX9_isFull_154 H)
  · replace H := H2 hc
    clear H1 H2
    refine J_iload dX9_isFull_130 5 rfl ?_
    obtain ⟨H1, H2⟩ := H
    refine J_if_lt (tgt := 158) dX9_isFull_132 (by decide) (fun hc => ?_) (fun hc => ?_)
    · replace H := H1 hc
      clear H1 H2
      exact J_pick [0, 1, 2] rfl (rX9_isFull_158 H)
    · replace H := H2 hc
      clear H1 H2
      refine J_aload_n dX9_isFull_135 0 rfl ?_
      obtain ⟨fs, v5, hh, hk, H⟩ := H
      refine J_get dX9_isFull_136 fX9_74 hh hk ?_
      clear hh hk
      refine J_sipush (v := 300) dX9_isFull_139 (by decide) ?_
      refine J_iload_n dX9_isFull_142 1 rfl ?_
      refine J_imul dX9_isFull_143 ?_
      refine J_iload dX9_isFull_144 5 rfl ?_
      refine J_iadd dX9_isFull_146 ?_
      obtain ⟨nn, ff, hh, hk, H⟩ := H
      refine J_iald dX9_isFull_147 hh hk ?_
      generalize ff (Int32.toNatClampNeg ((300 * i1) + i7)) = v6 at H ⊢
      clear hh hk ff
      refine J_iload dX9_isFull_148 4 rfl ?_
      refine J_ineg dX9_isFull_150 ?_
      obtain ⟨H1, H2⟩ := H
      refine J_icmp_ne (tgt := 158) dX9_isFull_151 (by decide) (fun hc => ?_) (fun hc => ?_)
      · replace H := H1 hc
        clear H1 H2
        exact J_pick [0, 1, 2] rfl (rX9_isFull_158 H)
      · replace H := H2 hc
        clear H1 H2
        exact J_pick [0, 1, 2] rfl (rX9_isFull_154 H)
def zX9_isFull_51 (l : Launch) (g : am_G) (d : Nat) (x : Bool) (a0 : Nat) (i1 : Int32) (i3 : Int32) (i4 : Int32) (s0 : Int32) (h : am_H) (Q : Option Value → am_H → Prop) : Prop := cv_I l g mX9_partner d x 9 a0 [.int i1, .int i3, .int 1] h (fun v2 h1 => cv_I l g mX9_partner d x 9 a0 [.int i1, .int i3, .int 0] h1 (fun v4 h3 => gt_R h3 a0 9 10 (fun v5 => al_I 0 h3 v5 2 (fun v6 => (¬ v6 = 0 ∧ gt_R h3 a0 9 13 (fun v7 => al_I 0 h3 v7 i4 (fun v8 => ((¬ (i1 - i1 / v6 * v6) = v8 → zX9_isFull_112 l g d x a0 i1 i3 i4 s0 v4  h3 Q) ∧ ((i1 - i1 / v6 * v6) = v8 → ((v2 < 0 → zX9_isFull_158 l g d x a0 i1 i3  h3 Q) ∧ (¬ v2 < 0 → gt_R h3 a0 9 23 (fun v9 => al_I 0 h3 v9 ((300 * i1) + v2) (fun v10 => ((¬ v10 = s0 → zX9_isFull_158 l g d x a0 i1 i3  h3 Q) ∧ (v10 = s0 → zX9_isFull_112 l g d x a0 i1 i3 i4 s0 v4  h3 Q)))))))))))))))
set_option maxRecDepth 4000 in
theorem rX9_isFull_51 {l : Launch} {g : am_G} {d : Nat} {x : Bool} {a0 : Nat} {i1 : Int32} {i3 : Int32} {i4 : Int32} {s0 : Int32} {h : am_H} {Q : Option Value → am_H → Prop} (H : zX9_isFull_51 l g d x a0 i1 i3 i4 s0 h Q) : am_J l g mX9_isFull (d + 1) (0, 0, x) 51 [(0, .ref a0), (1, .int i1), (3, .int i3), (4, .int i4)] [.int s0] h Q := by
  unfold zX9_isFull_51 at H
  refine J_istore (L' := [(5, .int s0), (0, .ref a0), (1, .int i1), (3, .int i3), (4, .int i4)]) dX9_isFull_51 (by decide) rfl ?_
  refine J_aload_n dX9_isFull_53 1 rfl ?_
  refine J_iload_n dX9_isFull_54 2 rfl ?_
  refine J_iload_n dX9_isFull_55 3 rfl ?_
  refine J_iconst (v := 1) dX9_isFull_56 (by decide) ?_
  obtain ⟨⟨fs, hh⟩, H⟩ := H
  refine J_callV (As := [.int i1, .int i3, .int 1]) (S := []) (b := a0) dX9_isFull_57 mX9_partner_ok kX9_210 rfl (by decide) (Nat.le_of_ble_eq_true rfl) hh rfl rfl (Nat.le_of_ble_eq_true rfl) ⟨Nat.le_of_ble_eq_true rfl, Nat.le_of_ble_eq_true rfl⟩ (fun k h' hp => ?_) H (fun r h1 hp => ?_)
  · obtain ⟨_, hv, -⟩ := hp; cases hv
  obtain ⟨v2, rfl, H⟩ := hp
  show am_J l g mX9_isFull (d + 1) (0, 0, x) 60 [(5, .int s0), (0, .ref a0), (1, .int i1), (3, .int i3), (4, .int i4)] [.int v2] h1 Q
  refine J_istore (L' := [(6, .int v2), (5, .int s0), (0, .ref a0), (1, .int i1), (3, .int i3), (4, .int i4)]) dX9_isFull_60 (by decide) rfl ?_
  refine J_aload_n dX9_isFull_62 2 rfl ?_
  refine J_iload_n dX9_isFull_63 3 rfl ?_
  refine J_iload_n dX9_isFull_64 4 rfl ?_
  refine J_iconst (v := 0) dX9_isFull_65 (by decide) ?_
  obtain ⟨⟨fs, hh⟩, H⟩ := H
  refine J_callV (As := [.int i1, .int i3, .int 0]) (S := []) (b := a0) dX9_isFull_66 mX9_partner_ok kX9_210 rfl (by decide) (Nat.le_of_ble_eq_true rfl) hh rfl rfl (Nat.le_of_ble_eq_true rfl) ⟨Nat.le_of_ble_eq_true rfl, Nat.le_of_ble_eq_true rfl⟩ (fun k h' hp => ?_) H (fun r h3 hp => ?_)
  · obtain ⟨_, hv, -⟩ := hp; cases hv
  obtain ⟨v4, rfl, H⟩ := hp
  show am_J l g mX9_isFull (d + 1) (0, 0, x) 69 [(6, .int v2), (5, .int s0), (0, .ref a0), (1, .int i1), (3, .int i3), (4, .int i4)] [.int v4] h3 Q
  refine J_istore (L' := [(7, .int v4), (6, .int v2), (5, .int s0), (0, .ref a0), (1, .int i1), (3, .int i3), (4, .int i4)]) dX9_isFull_69 (by decide) rfl ?_
  refine J_iload_n dX9_isFull_71 4 rfl ?_
  refine J_aload_n dX9_isFull_72 3 rfl ?_
  obtain ⟨fs, v5, hh, hk, H⟩ := H
  refine J_get dX9_isFull_73 fX9_45 hh hk ?_
  clear hh hk
  refine J_iconst (v := 2) dX9_isFull_76 (by decide) ?_
  obtain ⟨nn, ff, hh, hk, H⟩ := H
  refine J_iald dX9_isFull_77 hh hk ?_
  generalize ff (Int32.toNatClampNeg 2) = v6 at H ⊢
  clear hh hk ff
  obtain ⟨hn, H⟩ := H
  refine J_irem dX9_isFull_78 hn ?_
  refine J_aload_n dX9_isFull_79 3 rfl ?_
  obtain ⟨fs, v7, hh, hk, H⟩ := H
  refine J_get dX9_isFull_80 fX9_54 hh hk ?_
  clear hh hk
  refine J_iload dX9_isFull_83 6 rfl ?_
  obtain ⟨nn, ff, hh, hk, H⟩ := H
  refine J_iald dX9_isFull_85 hh hk ?_
  generalize ff (Int32.toNatClampNeg i4) = v8 at H ⊢
  clear hh hk ff
  obtain ⟨H1, H2⟩ := H
  refine J_icmp_ne (tgt := 112) dX9_isFull_86 (by decide) (fun hc => ?_) (fun hc => ?_)
  · replace H := H1 hc
    clear H1 H2
    exact J_pick [3, 4, 5, 6, 2, 0] rfl (rX9_isFull_112 H)
  · replace H := H2 hc
    clear H1 H2
    refine J_iload dX9_isFull_89 1 rfl ?_
    obtain ⟨H1, H2⟩ := H
    refine J_if_lt (tgt := 158) dX9_isFull_91 (by decide) (fun hc => ?_) (fun hc => ?_)
    · replace H := H1 hc
      clear H1 H2
      exact J_pick [3, 4, 5] rfl (rX9_isFull_158 H)
    · replace H := H2 hc
      clear H1 H2
      refine J_aload_n dX9_isFull_94 3 rfl ?_
      obtain ⟨fs, v9, hh, hk, H⟩ := H
      refine J_get dX9_isFull_95 fX9_74 hh hk ?_
      clear hh hk
      refine J_sipush (v := 300) dX9_isFull_98 (by decide) ?_
      refine J_iload_n dX9_isFull_101 4 rfl ?_
      refine J_imul dX9_isFull_102 ?_
      refine J_iload dX9_isFull_103 1 rfl ?_
      refine J_iadd dX9_isFull_105 ?_
      obtain ⟨nn, ff, hh, hk, H⟩ := H
      refine J_iald dX9_isFull_106 hh hk ?_
      generalize ff (Int32.toNatClampNeg ((300 * i1) + v2)) = v10 at H ⊢
      clear hh hk ff
      refine J_iload dX9_isFull_107 2 rfl ?_
      obtain ⟨H1, H2⟩ := H
      refine J_icmp_ne (tgt := 158) dX9_isFull_109 (by decide) (fun hc => ?_) (fun hc => ?_)
      · replace H := H1 hc
        clear H1 H2
        exact J_pick [3, 4, 5] rfl (rX9_isFull_158 H)
      · replace H := H2 hc
        clear H1 H2
        exact J_pick [3, 4, 5, 6, 2, 0] rfl (rX9_isFull_112 H)
def zX9_isFull_16 (l : Launch) (g : am_G) (d : Nat) (x : Bool) (a0 : Nat) (i1 : Int32) (i2 : Int32) (i3 : Int32) (h : am_H) (Q : Option Value → am_H → Prop) : Prop := gt_R h a0 9 12 (fun v1 => al_I 0 h v1 2 (fun v2 => ((v2 ≤ i3 → ((i2 = 0 ∨ i2 = 1) ∧ Q (some (.int i2)) h)) ∧ (¬ v2 ≤ i3 → ((i2 = 0 → ((i2 = 0 ∨ i2 = 1) ∧ Q (some (.int i2)) h)) ∧ (¬ i2 = 0 → gt_R h a0 9 17 (fun v3 => al_I 2 h v3 (48 + i3) (fun v4 => ((v4 = 0 → zX9_isFull_51 l g d x a0 i1 i3 (48 + i3) (-1) h Q) ∧ (¬ v4 = 0 → zX9_isFull_51 l g d x a0 i1 i3 (48 + i3) 1 h Q))))))))))
set_option maxRecDepth 4000 in
theorem rX9_isFull_16 {l : Launch} {g : am_G} {d : Nat} {x : Bool} {a0 : Nat} {i1 : Int32} {i2 : Int32} {i3 : Int32} {h : am_H} {Q : Option Value → am_H → Prop} (H : zX9_isFull_16 l g d x a0 i1 i2 i3 h Q) : am_J l g mX9_isFull (d + 1) (0, 0, x) 16 [(0, .ref a0), (1, .int i1), (2, .int i2), (3, .int i3)] [] h Q := by
  unfold zX9_isFull_16 at H
  refine J_iload_n dX9_isFull_16 3 rfl ?_
  refine J_aload_n dX9_isFull_17 0 rfl ?_
  obtain ⟨fs, v1, hh, hk, H⟩ := H
  refine J_get dX9_isFull_18 fX9_51 hh hk ?_
  clear hh hk
  refine J_iconst (v := 2) dX9_isFull_21 (by decide) ?_
  obtain ⟨nn, ff, hh, hk, H⟩ := H
  refine J_iald dX9_isFull_22 hh hk ?_
  generalize ff (Int32.toNatClampNeg 2) = v2 at H ⊢
  clear hh hk ff
  obtain ⟨H1, H2⟩ := H
  refine J_icmp_ge (tgt := 166) dX9_isFull_23 (by decide) (fun hc => ?_) (fun hc => ?_)
  · replace H := H1 hc
    clear H1 H2
    refine J_iload_n dX9_isFull_166 2 rfl ?_
    obtain ⟨hb, H⟩ := H
    exact J_iret dX9_isFull_167 (am_nar01 rfl hb) ⟨Nat.le_of_ble_eq_true rfl, Nat.le_of_ble_eq_true rfl, fun _ => rfl⟩ H
  · replace H := H2 hc
    clear H1 H2
    refine J_iload_n dX9_isFull_26 2 rfl ?_
    obtain ⟨H1, H2⟩ := H
    refine J_if_eq (tgt := 166) dX9_isFull_27 (by decide) (fun hc => ?_) (fun hc => ?_)
    · replace H := H1 hc
      clear H1 H2
      refine J_iload_n dX9_isFull_166 2 rfl ?_
      obtain ⟨hb, H⟩ := H
      exact J_iret dX9_isFull_167 (am_nar01 rfl hb) ⟨Nat.le_of_ble_eq_true rfl, Nat.le_of_ble_eq_true rfl, fun _ => rfl⟩ H
    · replace H := H2 hc
      clear H1 H2
      refine J_bipush (v := 48) dX9_isFull_30 (by decide) ?_
      refine J_iload_n dX9_isFull_32 3 rfl ?_
      refine J_iadd dX9_isFull_33 ?_
      refine J_istore (L' := [(4, .int (48 + i3)), (0, .ref a0), (1, .int i1), (2, .int i2), (3, .int i3)]) dX9_isFull_34 (by decide) rfl ?_
      refine J_aload_n dX9_isFull_36 1 rfl ?_
      obtain ⟨fs, v3, hh, hk, H⟩ := H
      refine J_get dX9_isFull_37 fX9_66 hh hk ?_
      clear hh hk
      refine J_iload dX9_isFull_40 0 rfl ?_
      obtain ⟨nn, ff, hh, hk, H⟩ := H
      refine J_zald dX9_isFull_42 hh hk ?_
      generalize ff (Int32.toNatClampNeg (48 + i3)) = v4 at H ⊢
      clear hh hk ff
      obtain ⟨H1, H2⟩ := H
      refine J_if_eq (tgt := 50) dX9_isFull_43 (by decide) (fun hc => ?_) (fun hc => ?_)
      · replace H := H1 hc
        clear H1 H2
        refine J_iconst (v := (-1)) dX9_isFull_50 (by decide) ?_
        exact J_pick [1, 2, 4, 0] rfl (rX9_isFull_51 H)
      · replace H := H2 hc
        clear H1 H2
        refine J_iconst (v := 1) dX9_isFull_46 (by decide) ?_
        refine J_goto (tgt := 51) dX9_isFull_47 (by decide) ?_
        exact J_pick [1, 2, 4, 0] rfl (rX9_isFull_51 H)
def zX9_isFull_13 (l : Launch) (g : am_G) (d : Nat) (x : Bool) (a0 : Nat) (i1 : Int32) (s0 : Int32) (h : am_H) (Q : Option Value → am_H → Prop) : Prop := am_J l g mX9_isFull (d + 1) (0, 0, x) 16 [(0, .ref a0), (1, .int i1), (2, .int s0), (3, .int 0)] [] h Q
set_option maxRecDepth 4000 in
theorem rX9_isFull_13 {l : Launch} {g : am_G} {d : Nat} {x : Bool} {a0 : Nat} {i1 : Int32} {s0 : Int32} {h : am_H} {Q : Option Value → am_H → Prop} (H : zX9_isFull_13 l g d x a0 i1 s0 h Q) : am_J l g mX9_isFull (d + 1) (0, 0, x) 13 [(0, .ref a0), (1, .int i1)] [.int s0] h Q := by
  unfold zX9_isFull_13 at H
  refine J_istore_n (L' := [(2, .int s0), (0, .ref a0), (1, .int i1)]) dX9_isFull_13 (by decide) rfl ?_
  refine J_iconst (v := 0) dX9_isFull_14 (by decide) ?_
  refine J_istore_n (L' := [(3, .int 0), (2, .int s0), (0, .ref a0), (1, .int i1)]) dX9_isFull_15 (by decide) rfl ?_
  exact J_pick [2, 3, 1, 0] rfl H
def zX9_isFull_0 (l : Launch) (g : am_G) (d : Nat) (x : Bool) (a0 : Nat) (i1 : Int32) (h : am_H) (Q : Option Value → am_H → Prop) : Prop := gt_I h a0 9 20 (fun v1 => ((v1 ≤ i1 → zX9_isFull_13 l g d x a0 i1 0 h Q) ∧ (¬ v1 ≤ i1 → zX9_isFull_13 l g d x a0 i1 1 h Q)))
set_option maxRecDepth 4000 in
theorem rX9_isFull_0 {l : Launch} {g : am_G} {d : Nat} {x : Bool} {a0 : Nat} {i1 : Int32} {h : am_H} {Q : Option Value → am_H → Prop} (H : zX9_isFull_0 l g d x a0 i1 h Q) : am_J l g mX9_isFull (d + 1) (0, 0, x) 0 [(0, .ref a0), (1, .int i1)] [] h Q := by
  unfold zX9_isFull_0 at H
  refine J_iload_n dX9_isFull_0 1 rfl ?_
  refine J_aload_n dX9_isFull_1 0 rfl ?_
  obtain ⟨fs, v1, hh, hk, H⟩ := H
  refine J_get dX9_isFull_2 fX9_218 hh hk ?_
  clear hh hk
  obtain ⟨H1, H2⟩ := H
  refine J_icmp_ge (tgt := 12) dX9_isFull_5 (by decide) (fun hc => ?_) (fun hc => ?_)
  · replace H := H1 hc
    clear H1 H2
    refine J_iconst (v := 0) dX9_isFull_12 (by decide) ?_
    exact J_pick [0, 1] rfl (rX9_isFull_13 H)
  · replace H := H2 hc
    clear H1 H2
    refine J_iconst (v := 1) dX9_isFull_8 (by decide) ?_
    refine J_goto (tgt := 13) dX9_isFull_9 (by decide) ?_
    exact J_pick [0, 1] rfl (rX9_isFull_13 H)
theorem eX9_isFull {l : Launch} {g : am_G} {d : Nat} {x : Bool} {a0 : Nat} {i1 : Int32} {h : am_H} {K : Int32 → am_H → Prop} (H : zX9_isFull_0 l g d x a0 i1 h (fun r h' => ∃ v, r = some (.int v) ∧ K v h')) : cl_I l g mX9_isFull (d + 1) x [.ref a0, .int i1] h K := rX9_isFull_0 H
def zX9_findNear_64 (l : Launch) (g : am_G) (d : Nat) (x : Bool) (a0 : Nat) (i1 : Int32) (i2 : Int32) (h : am_H) (Q : Option Value → am_H → Prop) : Prop := am_J l g mX9_findNear (d + 1) (0, 0, x) 19 [(0, .ref a0), (1, .int i1), (2, .int (i2 + 1))] [] h Q
set_option maxRecDepth 4000 in
theorem rX9_findNear_64 {l : Launch} {g : am_G} {d : Nat} {x : Bool} {a0 : Nat} {i1 : Int32} {i2 : Int32} {h : am_H} {Q : Option Value → am_H → Prop} (H : zX9_findNear_64 l g d x a0 i1 i2 h Q) : am_J l g mX9_findNear (d + 1) (0, 0, x) 64 [(0, .ref a0), (1, .int i1), (2, .int i2)] [] h Q := by
  unfold zX9_findNear_64 at H
  refine J_iinc (v := (i2 + 1)) (L' := [(2, .int (i2 + 1)), (0, .ref a0), (1, .int i1)]) dX9_findNear_64 2 rfl rfl (by decide) rfl ?_
  refine J_goto (tgt := 19) dX9_findNear_67 (by decide) ?_
  exact J_pick [1, 2, 0] rfl H
def zX9_findNear_19 (l : Launch) (g : am_G) (d : Nat) (x : Bool) (a0 : Nat) (i1 : Int32) (i2 : Int32) (h : am_H) (Q : Option Value → am_H → Prop) : Prop := gt_I h a0 9 21 (fun v1 => ((v1 ≤ i2 → am_J l g mX9_findNear (d + 1) (0, 0, x) 2 [(0, .ref a0), (1, .int (i1 + 1))] [] h Q) ∧ (¬ v1 ≤ i2 → cv_I l g mX9_areLinked d x 9 a0 [.int i1, .int i2] h (fun v3 h2 => ((v3 = 0 → zX9_findNear_64 l g d x a0 i1 i2  h2 Q) ∧ (¬ v3 = 0 → gt_R h2 a0 9 26 (fun v4 => gt_R h2 a0 9 25 (fun v5 => al_I 0 h2 v5 i1 (fun v6 => as_I 0 h2 v4 ((300 * i1) + v6) i2 (fun h7 => gt_R h7 a0 9 25 (fun v8 => al_I 0 h7 v8 i1 (fun v9 => as_I 0 h7 v8 i1 (v9 + 1) (fun h10 => zX9_findNear_64 l g d x a0 i1 i2  h10 Q)))))))))))))
set_option maxRecDepth 4000 in
theorem rX9_findNear_19 {l : Launch} {g : am_G} {d : Nat} {x : Bool} {a0 : Nat} {i1 : Int32} {i2 : Int32} {h : am_H} {Q : Option Value → am_H → Prop} (H : zX9_findNear_19 l g d x a0 i1 i2 h Q) : am_J l g mX9_findNear (d + 1) (0, 0, x) 19 [(0, .ref a0), (1, .int i1), (2, .int i2)] [] h Q := by
  unfold zX9_findNear_19 at H
  refine J_iload_n dX9_findNear_19 2 rfl ?_
  refine J_aload_n dX9_findNear_20 0 rfl ?_
  obtain ⟨fs, v1, hh, hk, H⟩ := H
  refine J_get dX9_findNear_21 fX9_201 hh hk ?_
  clear hh hk
  obtain ⟨H1, H2⟩ := H
  refine J_icmp_ge (tgt := 70) dX9_findNear_24 (by decide) (fun hc => ?_) (fun hc => ?_)
  · replace H := H1 hc
    clear H1 H2
    refine J_iinc (v := (i1 + 1)) (L' := [(1, .int (i1 + 1)), (0, .ref a0), (2, .int i2)]) dX9_findNear_70 1 rfl rfl (by decide) rfl ?_
    refine J_goto (tgt := 2) dX9_findNear_73 (by decide) ?_
    exact J_pick [1, 0] rfl H
  · replace H := H2 hc
    clear H1 H2
    refine J_aload_n dX9_findNear_27 0 rfl ?_
    refine J_iload_n dX9_findNear_28 1 rfl ?_
    refine J_iload_n dX9_findNear_29 2 rfl ?_
    obtain ⟨⟨fs, hh⟩, H⟩ := H
    refine J_callV (As := [.int i1, .int i2]) (S := []) (b := a0) dX9_findNear_30 mX9_areLinked_ok kX9_229 rfl (by decide) (Nat.le_of_ble_eq_true rfl) hh rfl rfl (Nat.le_of_ble_eq_true rfl) ⟨Nat.le_of_ble_eq_true rfl, Nat.le_of_ble_eq_true rfl⟩ (fun k h' hp => ?_) H (fun r h2 hp => ?_)
    · obtain ⟨_, hv, -⟩ := hp; cases hv
    obtain ⟨v3, rfl, H⟩ := hp
    show am_J l g mX9_findNear (d + 1) (0, 0, x) 33 [(0, .ref a0), (1, .int i1), (2, .int i2)] [.int v3] h2 Q
    obtain ⟨H1, H2⟩ := H
    refine J_if_eq (tgt := 64) dX9_findNear_33 (by decide) (fun hc => ?_) (fun hc => ?_)
    · replace H := H1 hc
      clear H1 H2
      exact J_pick [0, 1, 2] rfl (rX9_findNear_64 H)
    · replace H := H2 hc
      clear H1 H2
      refine J_aload_n dX9_findNear_36 0 rfl ?_
      obtain ⟨fs, v4, hh, hk, H⟩ := H
      refine J_get dX9_findNear_37 fX9_83 hh hk ?_
      clear hh hk
      refine J_sipush (v := 300) dX9_findNear_40 (by decide) ?_
      refine J_iload_n dX9_findNear_43 1 rfl ?_
      refine J_imul dX9_findNear_44 ?_
      refine J_aload_n dX9_findNear_45 0 rfl ?_
      obtain ⟨fs, v5, hh, hk, H⟩ := H
      refine J_get dX9_findNear_46 fX9_80 hh hk ?_
      clear hh hk
      refine J_iload_n dX9_findNear_49 1 rfl ?_
      obtain ⟨nn, ff, hh, hk, H⟩ := H
      refine J_iald dX9_findNear_50 hh hk ?_
      generalize ff (Int32.toNatClampNeg i1) = v6 at H ⊢
      clear hh hk ff
      refine J_iadd dX9_findNear_51 ?_
      refine J_iload_n dX9_findNear_52 2 rfl ?_
      obtain ⟨nn, ff, hh, hk, H⟩ := H
      refine J_iast dX9_findNear_53 hh hk ?_
      generalize List.set h2 v4 (am_I 0 nn (upd ff (Int32.toNatClampNeg ((300 * i1) + v6)) i2)) = h7 at H ⊢
      clear hh hk
      refine J_aload_n dX9_findNear_54 0 rfl ?_
      obtain ⟨fs, v8, hh, hk, H⟩ := H
      refine J_get dX9_findNear_55 fX9_80 hh hk ?_
      clear hh hk
      refine J_iload_n dX9_findNear_58 1 rfl ?_
      refine J_dup2 dX9_findNear_59 rfl rfl ?_
      obtain ⟨nn, ff, hh, hk, H⟩ := H
      refine J_iald dX9_findNear_60 hh hk ?_
      generalize ff (Int32.toNatClampNeg i1) = v9 at H ⊢
      clear hh hk ff
      refine J_iconst (v := 1) dX9_findNear_61 (by decide) ?_
      refine J_iadd dX9_findNear_62 ?_
      obtain ⟨nn, ff, hh, hk, H⟩ := H
      refine J_iast dX9_findNear_63 hh hk ?_
      generalize List.set h7 v8 (am_I 0 nn (upd ff (Int32.toNatClampNeg i1) (v9 + 1))) = h10 at H ⊢
      clear hh hk
      exact J_pick [0, 1, 2] rfl (rX9_findNear_64 H)
def zX9_findNear_2 (l : Launch) (g : am_G) (d : Nat) (x : Bool) (a0 : Nat) (i1 : Int32) (h : am_H) (Q : Option Value → am_H → Prop) : Prop := gt_I h a0 9 21 (fun v1 => ((v1 ≤ i1 → Q none h) ∧ (¬ v1 ≤ i1 → gt_R h a0 9 25 (fun v2 => as_I 0 h v2 i1 0 (fun h3 => am_J l g mX9_findNear (d + 1) (0, 0, x) 19 [(0, .ref a0), (1, .int i1), (2, .int 0)] [] h3 Q)))))
set_option maxRecDepth 4000 in
theorem rX9_findNear_2 {l : Launch} {g : am_G} {d : Nat} {x : Bool} {a0 : Nat} {i1 : Int32} {h : am_H} {Q : Option Value → am_H → Prop} (H : zX9_findNear_2 l g d x a0 i1 h Q) : am_J l g mX9_findNear (d + 1) (0, 0, x) 2 [(0, .ref a0), (1, .int i1)] [] h Q := by
  unfold zX9_findNear_2 at H
  refine J_iload_n dX9_findNear_2 1 rfl ?_
  refine J_aload_n dX9_findNear_3 0 rfl ?_
  obtain ⟨fs, v1, hh, hk, H⟩ := H
  refine J_get dX9_findNear_4 fX9_201 hh hk ?_
  clear hh hk
  obtain ⟨H1, H2⟩ := H
  refine J_icmp_ge (tgt := 76) dX9_findNear_7 (by decide) (fun hc => ?_) (fun hc => ?_)
  · replace H := H1 hc
    clear H1 H2
    exact J_vret dX9_findNear_76 rfl ⟨Nat.le_of_ble_eq_true rfl, Nat.le_of_ble_eq_true rfl, fun _ => rfl⟩ H
  · replace H := H2 hc
    clear H1 H2
    refine J_aload_n dX9_findNear_10 0 rfl ?_
    obtain ⟨fs, v2, hh, hk, H⟩ := H
    refine J_get dX9_findNear_11 fX9_80 hh hk ?_
    clear hh hk
    refine J_iload_n dX9_findNear_14 1 rfl ?_
    refine J_iconst (v := 0) dX9_findNear_15 (by decide) ?_
    obtain ⟨nn, ff, hh, hk, H⟩ := H
    refine J_iast dX9_findNear_16 hh hk ?_
    generalize List.set h v2 (am_I 0 nn (upd ff (Int32.toNatClampNeg i1) 0)) = h3 at H ⊢
    clear hh hk
    refine J_iconst (v := 0) dX9_findNear_17 (by decide) ?_
    refine J_istore_n (L' := [(2, .int 0), (0, .ref a0), (1, .int i1)]) dX9_findNear_18 (by decide) rfl ?_
    exact J_pick [1, 2, 0] rfl H
def zX9_findNear_0 (l : Launch) (g : am_G) (d : Nat) (x : Bool) (a0 : Nat) (h : am_H) (Q : Option Value → am_H → Prop) : Prop := am_J l g mX9_findNear (d + 1) (0, 0, x) 2 [(0, .ref a0), (1, .int 0)] [] h Q
set_option maxRecDepth 4000 in
theorem rX9_findNear_0 {l : Launch} {g : am_G} {d : Nat} {x : Bool} {a0 : Nat} {h : am_H} {Q : Option Value → am_H → Prop} (H : zX9_findNear_0 l g d x a0 h Q) : am_J l g mX9_findNear (d + 1) (0, 0, x) 0 [(0, .ref a0)] [] h Q := by
  unfold zX9_findNear_0 at H
  refine J_iconst (v := 0) dX9_findNear_0 (by decide) ?_
  refine J_istore_n (L' := [(1, .int 0), (0, .ref a0)]) dX9_findNear_1 (by decide) rfl ?_
  exact J_pick [1, 0] rfl H
theorem eX9_findNear {l : Launch} {g : am_G} {d : Nat} {x : Bool} {a0 : Nat} {h : am_H} {K : am_H → Prop} (H : zX9_findNear_0 l g d x a0 h (fun r h' => r = none ∧ K h')) : cl_N l g mX9_findNear (d + 1) x [.ref a0] h K := rX9_findNear_0 H
def zX9_findPieces_67 (l : Launch) (g : am_G) (d : Nat) (x : Bool) (a0 : Nat) (i1 : Int32) (i2 : Int32) (i3 : Int32) (h : am_H) (Q : Option Value → am_H → Prop) : Prop := am_J l g mX9_findPieces (d + 1) (0, 0, x) 27 [(0, .ref a0), (1, .int i1), (2, .int i2), (3, .int (i3 + 1))] [] h Q
set_option maxRecDepth 4000 in
theorem rX9_findPieces_67 {l : Launch} {g : am_G} {d : Nat} {x : Bool} {a0 : Nat} {i1 : Int32} {i2 : Int32} {i3 : Int32} {h : am_H} {Q : Option Value → am_H → Prop} (H : zX9_findPieces_67 l g d x a0 i1 i2 i3 h Q) : am_J l g mX9_findPieces (d + 1) (0, 0, x) 67 [(0, .ref a0), (1, .int i1), (2, .int i2), (3, .int i3)] [] h Q := by
  unfold zX9_findPieces_67 at H
  refine J_iinc (v := (i3 + 1)) (L' := [(3, .int (i3 + 1)), (0, .ref a0), (1, .int i1), (2, .int i2)]) dX9_findPieces_67 3 rfl rfl (by decide) rfl ?_
  refine J_goto (tgt := 27) dX9_findPieces_70 (by decide) ?_
  exact J_pick [1, 2, 3, 0] rfl H
def zX9_findPieces_27 (l : Launch) (g : am_G) (d : Nat) (x : Bool) (a0 : Nat) (i1 : Int32) (i2 : Int32) (i3 : Int32) (h : am_H) (Q : Option Value → am_H → Prop) : Prop := gt_I h a0 9 21 (fun v1 => ((v1 ≤ i3 → Q (some (.int i2)) h) ∧ (¬ v1 ≤ i3 → gt_R h a0 9 22 (fun v2 => al_I 2 h v2 i3 (fun v3 => ((v3 = 0 → zX9_findPieces_67 l g d x a0 i1 i2 i3  h Q) ∧ (¬ v3 = 0 → ((i3 = i1 → zX9_findPieces_67 l g d x a0 i1 i2 i3  h Q) ∧ (¬ i3 = i1 → gt_R h a0 9 27 (fun v4 => al_I 0 h v4 i3 (fun v5 => ((0 ≤ v5 → zX9_findPieces_67 l g d x a0 i1 i2 i3  h Q) ∧ (¬ 0 ≤ v5 → cv_N l g mX9_spreads d x 9 a0 [.int i3, .int i1] h (fun h6 => zX9_findPieces_67 l g d x a0 i1 (i2 + 1) i3  h6 Q))))))))))))))
set_option maxRecDepth 4000 in
theorem rX9_findPieces_27 {l : Launch} {g : am_G} {d : Nat} {x : Bool} {a0 : Nat} {i1 : Int32} {i2 : Int32} {i3 : Int32} {h : am_H} {Q : Option Value → am_H → Prop} (H : zX9_findPieces_27 l g d x a0 i1 i2 i3 h Q) : am_J l g mX9_findPieces (d + 1) (0, 0, x) 27 [(0, .ref a0), (1, .int i1), (2, .int i2), (3, .int i3)] [] h Q := by
  unfold zX9_findPieces_27 at H
  refine J_iload_n dX9_findPieces_27 3 rfl ?_
  refine J_aload_n dX9_findPieces_28 0 rfl ?_
  obtain ⟨fs, v1, hh, hk, H⟩ := H
  refine J_get dX9_findPieces_29 fX9_201 hh hk ?_
  clear hh hk
  obtain ⟨H1, H2⟩ := H
  refine J_icmp_ge (tgt := 73) dX9_findPieces_32 (by decide) (fun hc => ?_) (fun hc => ?_)
  · replace H := H1 hc
    clear H1 H2
    refine J_iload_n dX9_findPieces_73 2 rfl ?_
    exact J_iret dX9_findPieces_74 ⟨_, rfl, rfl⟩ ⟨Nat.le_of_ble_eq_true rfl, Nat.le_of_ble_eq_true rfl, fun _ => rfl⟩ H
  · replace H := H2 hc
    clear H1 H2
    refine J_aload_n dX9_findPieces_35 0 rfl ?_
    obtain ⟨fs, v2, hh, hk, H⟩ := H
    refine J_get dX9_findPieces_36 fX9_70 hh hk ?_
    clear hh hk
    refine J_iload_n dX9_findPieces_39 3 rfl ?_
    obtain ⟨nn, ff, hh, hk, H⟩ := H
    refine J_zald dX9_findPieces_40 hh hk ?_
    generalize ff (Int32.toNatClampNeg i3) = v3 at H ⊢
    clear hh hk ff
    obtain ⟨H1, H2⟩ := H
    refine J_if_eq (tgt := 67) dX9_findPieces_41 (by decide) (fun hc => ?_) (fun hc => ?_)
    · replace H := H1 hc
      clear H1 H2
      exact J_pick [0, 1, 2, 3] rfl (rX9_findPieces_67 H)
    · replace H := H2 hc
      clear H1 H2
      refine J_iload_n dX9_findPieces_44 3 rfl ?_
      refine J_iload_n dX9_findPieces_45 1 rfl ?_
      obtain ⟨H1, H2⟩ := H
      refine J_icmp_eq (tgt := 67) dX9_findPieces_46 (by decide) (fun hc => ?_) (fun hc => ?_)
      · replace H := H1 hc
        clear H1 H2
        exact J_pick [0, 1, 2, 3] rfl (rX9_findPieces_67 H)
      · replace H := H2 hc
        clear H1 H2
        refine J_aload_n dX9_findPieces_49 0 rfl ?_
        obtain ⟨fs, v4, hh, hk, H⟩ := H
        refine J_get dX9_findPieces_50 fX9_86 hh hk ?_
        clear hh hk
        refine J_iload_n dX9_findPieces_53 3 rfl ?_
        obtain ⟨nn, ff, hh, hk, H⟩ := H
        refine J_iald dX9_findPieces_54 hh hk ?_
        generalize ff (Int32.toNatClampNeg i3) = v5 at H ⊢
        clear hh hk ff
        obtain ⟨H1, H2⟩ := H
        refine J_if_ge (tgt := 67) dX9_findPieces_55 (by decide) (fun hc => ?_) (fun hc => ?_)
        · replace H := H1 hc
          clear H1 H2
          exact J_pick [0, 1, 2, 3] rfl (rX9_findPieces_67 H)
        · replace H := H2 hc
          clear H1 H2
          refine J_aload_n dX9_findPieces_58 0 rfl ?_
          refine J_iload_n dX9_findPieces_59 3 rfl ?_
          refine J_iload_n dX9_findPieces_60 1 rfl ?_
          obtain ⟨⟨fs, hh⟩, H⟩ := H
          refine J_callV (As := [.int i3, .int i1]) (S := []) (b := a0) dX9_findPieces_61 mX9_spreads_ok kX9_233 rfl (by decide) (Nat.le_of_ble_eq_true rfl) hh rfl rfl (Nat.le_of_ble_eq_true rfl) ⟨Nat.le_of_ble_eq_true rfl, Nat.le_of_ble_eq_true rfl⟩ (fun k h' hp => ?_) H (fun r h6 hp => ?_)
          · obtain ⟨hv, -⟩ := hp; cases hv
          obtain ⟨rfl, H⟩ := hp
          show am_J l g mX9_findPieces (d + 1) (0, 0, x) 64 [(0, .ref a0), (1, .int i1), (2, .int i2), (3, .int i3)] [] h6 Q
          refine J_iinc (v := (i2 + 1)) (L' := [(2, .int (i2 + 1)), (0, .ref a0), (1, .int i1), (3, .int i3)]) dX9_findPieces_64 2 rfl rfl (by decide) rfl ?_
          exact J_pick [1, 2, 0, 3] rfl (rX9_findPieces_67 H)
def zX9_findPieces_2 (l : Launch) (g : am_G) (d : Nat) (x : Bool) (a0 : Nat) (i1 : Int32) (i2 : Int32) (h : am_H) (Q : Option Value → am_H → Prop) : Prop := gt_I h a0 9 21 (fun v1 => ((v1 ≤ i2 → am_J l g mX9_findPieces (d + 1) (0, 0, x) 27 [(0, .ref a0), (1, .int i1), (2, .int 0), (3, .int 0)] [] h Q) ∧ (¬ v1 ≤ i2 → gt_R h a0 9 27 (fun v2 => as_I 0 h v2 i2 (-1) (fun h3 => am_J l g mX9_findPieces (d + 1) (0, 0, x) 2 [(0, .ref a0), (1, .int i1), (2, .int (i2 + 1))] [] h3 Q)))))
set_option maxRecDepth 4000 in
theorem rX9_findPieces_2 {l : Launch} {g : am_G} {d : Nat} {x : Bool} {a0 : Nat} {i1 : Int32} {i2 : Int32} {h : am_H} {Q : Option Value → am_H → Prop} (H : zX9_findPieces_2 l g d x a0 i1 i2 h Q) : am_J l g mX9_findPieces (d + 1) (0, 0, x) 2 [(0, .ref a0), (1, .int i1), (2, .int i2)] [] h Q := by
  unfold zX9_findPieces_2 at H
  refine J_iload_n dX9_findPieces_2 2 rfl ?_
  refine J_aload_n dX9_findPieces_3 0 rfl ?_
  obtain ⟨fs, v1, hh, hk, H⟩ := H
  refine J_get dX9_findPieces_4 fX9_201 hh hk ?_
  clear hh hk
  obtain ⟨H1, H2⟩ := H
  refine J_icmp_ge (tgt := 23) dX9_findPieces_7 (by decide) (fun hc => ?_) (fun hc => ?_)
  · replace H := H1 hc
    clear H1 H2
    refine J_iconst (v := 0) dX9_findPieces_23 (by decide) ?_
    refine J_istore_n (L' := [(2, .int 0), (0, .ref a0), (1, .int i1)]) dX9_findPieces_24 (by decide) rfl ?_
    refine J_iconst (v := 0) dX9_findPieces_25 (by decide) ?_
    refine J_istore_n (L' := [(3, .int 0), (2, .int 0), (0, .ref a0), (1, .int i1)]) dX9_findPieces_26 (by decide) rfl ?_
    exact J_pick [2, 3, 1, 0] rfl H
  · replace H := H2 hc
    clear H1 H2
    refine J_aload_n dX9_findPieces_10 0 rfl ?_
    obtain ⟨fs, v2, hh, hk, H⟩ := H
    refine J_get dX9_findPieces_11 fX9_86 hh hk ?_
    clear hh hk
    refine J_iload_n dX9_findPieces_14 2 rfl ?_
    refine J_iconst (v := (-1)) dX9_findPieces_15 (by decide) ?_
    obtain ⟨nn, ff, hh, hk, H⟩ := H
    refine J_iast dX9_findPieces_16 hh hk ?_
    generalize List.set h v2 (am_I 0 nn (upd ff (Int32.toNatClampNeg i2) (-1))) = h3 at H ⊢
    clear hh hk
    refine J_iinc (v := (i2 + 1)) (L' := [(2, .int (i2 + 1)), (0, .ref a0), (1, .int i1)]) dX9_findPieces_17 2 rfl rfl (by decide) rfl ?_
    refine J_goto (tgt := 2) dX9_findPieces_20 (by decide) ?_
    exact J_pick [1, 2, 0] rfl H
def zX9_findPieces_0 (l : Launch) (g : am_G) (d : Nat) (x : Bool) (a0 : Nat) (i1 : Int32) (h : am_H) (Q : Option Value → am_H → Prop) : Prop := am_J l g mX9_findPieces (d + 1) (0, 0, x) 2 [(0, .ref a0), (1, .int i1), (2, .int 0)] [] h Q
set_option maxRecDepth 4000 in
theorem rX9_findPieces_0 {l : Launch} {g : am_G} {d : Nat} {x : Bool} {a0 : Nat} {i1 : Int32} {h : am_H} {Q : Option Value → am_H → Prop} (H : zX9_findPieces_0 l g d x a0 i1 h Q) : am_J l g mX9_findPieces (d + 1) (0, 0, x) 0 [(0, .ref a0), (1, .int i1)] [] h Q := by
  unfold zX9_findPieces_0 at H
  refine J_iconst (v := 0) dX9_findPieces_0 (by decide) ?_
  refine J_istore_n (L' := [(2, .int 0), (0, .ref a0), (1, .int i1)]) dX9_findPieces_1 (by decide) rfl ?_
  exact J_pick [1, 2, 0] rfl H
theorem eX9_findPieces {l : Launch} {g : am_G} {d : Nat} {x : Bool} {a0 : Nat} {i1 : Int32} {h : am_H} {K : Int32 → am_H → Prop} (H : zX9_findPieces_0 l g d x a0 i1 h (fun r h' => ∃ v, r = some (.int v) ∧ K v h')) : cl_I l g mX9_findPieces (d + 1) x [.ref a0, .int i1] h K := rX9_findPieces_0 H
def zX9_spreads_106 (l : Launch) (g : am_G) (d : Nat) (x : Bool) (a0 : Nat) (i1 : Int32) (i2 : Int32) (i3 : Int32) (i4 : Int32) (i5 : Int32) (i6 : Int32) (h : am_H) (Q : Option Value → am_H → Prop) : Prop := am_J l g mX9_spreads d (0, 0, x) 42 [(0, .ref a0), (1, .int i1), (2, .int i2), (3, .int i3), (4, .int i4), (5, .int i5), (6, .int (i6 + 1))] [] h Q
set_option maxRecDepth 4000 in
theorem rX9_spreads_106 {l : Launch} {g : am_G} {d : Nat} {x : Bool} {a0 : Nat} {i1 : Int32} {i2 : Int32} {i3 : Int32} {i4 : Int32} {i5 : Int32} {i6 : Int32} {h : am_H} {Q : Option Value → am_H → Prop} (H : zX9_spreads_106 l g d x a0 i1 i2 i3 i4 i5 i6 h Q) : am_J l g mX9_spreads d (0, 0, x) 106 [(0, .ref a0), (1, .int i1), (2, .int i2), (3, .int i3), (4, .int i4), (5, .int i5), (6, .int i6)] [] h Q := by
  unfold zX9_spreads_106 at H
  refine J_iinc (v := (i6 + 1)) (L' := [(6, .int (i6 + 1)), (0, .ref a0), (1, .int i1), (2, .int i2), (3, .int i3), (4, .int i4), (5, .int i5)]) dX9_spreads_106 6 rfl rfl (by decide) rfl ?_
  refine J_goto (tgt := 42) dX9_spreads_109 (by decide) ?_
  exact J_pick [1, 2, 3, 4, 5, 6, 0] rfl H
def zX9_spreads_42 (l : Launch) (g : am_G) (d : Nat) (x : Bool) (a0 : Nat) (i1 : Int32) (i2 : Int32) (i3 : Int32) (i4 : Int32) (i5 : Int32) (i6 : Int32) (h : am_H) (Q : Option Value → am_H → Prop) : Prop := gt_R h a0 9 25 (fun v1 => gt_R h a0 9 28 (fun v2 => al_I 0 h v2 i4 (fun v3 => al_I 0 h v1 v3 (fun v4 => (((i5 + v4) ≤ i6 → am_J l g mX9_spreads d (0, 0, x) 19 [(0, .ref a0), (1, .int i1), (2, .int i2), (3, .int i3), (4, .int (i4 + 1))] [] h Q) ∧ (¬ (i5 + v4) ≤ i6 → gt_R h a0 9 26 (fun v5 => al_I 0 h v5 i6 (fun v6 => ((v6 = i2 → zX9_spreads_106 l g d x a0 i1 i2 i3 i4 i5 i6  h Q) ∧ (¬ v6 = i2 → gt_R h a0 9 27 (fun v7 => al_I 0 h v7 v6 (fun v8 => ((0 ≤ v8 → zX9_spreads_106 l g d x a0 i1 i2 i3 i4 i5 i6  h Q) ∧ (¬ 0 ≤ v8 → gt_R h a0 9 27 (fun v9 => as_I 0 h v9 v6 i1 (fun h10 => gt_R h10 a0 9 28 (fun v11 => as_I 0 h10 v11 i3 v6 (fun h12 => zX9_spreads_106 l g d x a0 i1 i2 (i3 + 1) i4 i5 i6  h12 Q))))))))))))))))))
set_option maxRecDepth 4000 in
theorem rX9_spreads_42 {l : Launch} {g : am_G} {d : Nat} {x : Bool} {a0 : Nat} {i1 : Int32} {i2 : Int32} {i3 : Int32} {i4 : Int32} {i5 : Int32} {i6 : Int32} {h : am_H} {Q : Option Value → am_H → Prop} (H : zX9_spreads_42 l g d x a0 i1 i2 i3 i4 i5 i6 h Q) : am_J l g mX9_spreads d (0, 0, x) 42 [(0, .ref a0), (1, .int i1), (2, .int i2), (3, .int i3), (4, .int i4), (5, .int i5), (6, .int i6)] [] h Q := by
  unfold zX9_spreads_42 at H
  refine J_iload dX9_spreads_42 6 rfl ?_
  refine J_iload dX9_spreads_44 5 rfl ?_
  refine J_aload_n dX9_spreads_46 0 rfl ?_
  obtain ⟨fs, v1, hh, hk, H⟩ := H
  refine J_get dX9_spreads_47 fX9_80 hh hk ?_
  clear hh hk
  refine J_aload_n dX9_spreads_50 0 rfl ?_
  obtain ⟨fs, v2, hh, hk, H⟩ := H
  refine J_get dX9_spreads_51 fX9_89 hh hk ?_
  clear hh hk
  refine J_iload dX9_spreads_54 4 rfl ?_
  obtain ⟨nn, ff, hh, hk, H⟩ := H
  refine J_iald dX9_spreads_56 hh hk ?_
  generalize ff (Int32.toNatClampNeg i4) = v3 at H ⊢
  clear hh hk ff
  obtain ⟨nn, ff, hh, hk, H⟩ := H
  refine J_iald dX9_spreads_57 hh hk ?_
  generalize ff (Int32.toNatClampNeg v3) = v4 at H ⊢
  clear hh hk ff
  refine J_iadd dX9_spreads_58 ?_
  obtain ⟨H1, H2⟩ := H
  refine J_icmp_ge (tgt := 112) dX9_spreads_59 (by decide) (fun hc => ?_) (fun hc => ?_)
  · replace H := H1 hc
    clear H1 H2
    refine J_iinc (v := (i4 + 1)) (L' := [(4, .int (i4 + 1)), (0, .ref a0), (1, .int i1), (2, .int i2), (3, .int i3), (5, .int i5), (6, .int i6)]) dX9_spreads_112 4 rfl rfl (by decide) rfl ?_
    refine J_goto (tgt := 19) dX9_spreads_115 (by decide) ?_
    exact J_pick [1, 2, 3, 4, 0] rfl H
  · replace H := H2 hc
    clear H1 H2
    refine J_aload_n dX9_spreads_62 0 rfl ?_
    obtain ⟨fs, v5, hh, hk, H⟩ := H
    refine J_get dX9_spreads_63 fX9_83 hh hk ?_
    clear hh hk
    refine J_iload dX9_spreads_66 6 rfl ?_
    obtain ⟨nn, ff, hh, hk, H⟩ := H
    refine J_iald dX9_spreads_68 hh hk ?_
    generalize ff (Int32.toNatClampNeg i6) = v6 at H ⊢
    clear hh hk ff
    refine J_istore (L' := [(7, .int v6), (0, .ref a0), (1, .int i1), (2, .int i2), (3, .int i3), (4, .int i4), (5, .int i5), (6, .int i6)]) dX9_spreads_69 (by decide) rfl ?_
    refine J_iload dX9_spreads_71 0 rfl ?_
    refine J_iload_n dX9_spreads_73 3 rfl ?_
    obtain ⟨H1, H2⟩ := H
    refine J_icmp_eq (tgt := 106) dX9_spreads_74 (by decide) (fun hc => ?_) (fun hc => ?_)
    · replace H := H1 hc
      clear H1 H2
      exact J_pick [1, 2, 3, 4, 5, 6, 7] rfl (rX9_spreads_106 H)
    · replace H := H2 hc
      clear H1 H2
      refine J_aload_n dX9_spreads_77 1 rfl ?_
      obtain ⟨fs, v7, hh, hk, H⟩ := H
      refine J_get dX9_spreads_78 fX9_86 hh hk ?_
      clear hh hk
      refine J_iload dX9_spreads_81 0 rfl ?_
      obtain ⟨nn, ff, hh, hk, H⟩ := H
      refine J_iald dX9_spreads_83 hh hk ?_
      generalize ff (Int32.toNatClampNeg v6) = v8 at H ⊢
      clear hh hk ff
      obtain ⟨H1, H2⟩ := H
      refine J_if_ge (tgt := 106) dX9_spreads_84 (by decide) (fun hc => ?_) (fun hc => ?_)
      · replace H := H1 hc
        clear H1 H2
        exact J_pick [1, 2, 3, 4, 5, 6, 7] rfl (rX9_spreads_106 H)
      · replace H := H2 hc
        clear H1 H2
        refine J_aload_n dX9_spreads_87 1 rfl ?_
        obtain ⟨fs, v9, hh, hk, H⟩ := H
        refine J_get dX9_spreads_88 fX9_86 hh hk ?_
        clear hh hk
        refine J_iload dX9_spreads_91 0 rfl ?_
        refine J_iload_n dX9_spreads_93 2 rfl ?_
        obtain ⟨nn, ff, hh, hk, H⟩ := H
        refine J_iast dX9_spreads_94 hh hk ?_
        generalize List.set h v9 (am_I 0 nn (upd ff (Int32.toNatClampNeg v6) i1)) = h10 at H ⊢
        clear hh hk
        refine J_aload_n dX9_spreads_95 1 rfl ?_
        obtain ⟨fs, v11, hh, hk, H⟩ := H
        refine J_get dX9_spreads_96 fX9_89 hh hk ?_
        clear hh hk
        refine J_iload_n dX9_spreads_99 4 rfl ?_
        refine J_iload dX9_spreads_100 0 rfl ?_
        obtain ⟨nn, ff, hh, hk, H⟩ := H
        refine J_iast dX9_spreads_102 hh hk ?_
        generalize List.set h10 v11 (am_I 0 nn (upd ff (Int32.toNatClampNeg i3) v6)) = h12 at H ⊢
        clear hh hk
        refine J_iinc (v := (i3 + 1)) (L' := [(3, .int (i3 + 1)), (7, .int v6), (0, .ref a0), (1, .int i1), (2, .int i2), (4, .int i4), (5, .int i5), (6, .int i6)]) dX9_spreads_103 4 rfl rfl (by decide) rfl ?_
        exact J_pick [2, 3, 4, 0, 5, 6, 7] rfl (rX9_spreads_106 H)
def zX9_spreads_19 (l : Launch) (g : am_G) (d : Nat) (x : Bool) (a0 : Nat) (i1 : Int32) (i2 : Int32) (i3 : Int32) (i4 : Int32) (h : am_H) (Q : Option Value → am_H → Prop) : Prop := ((i3 ≤ i4 → Q none h) ∧ (¬ i3 ≤ i4 → gt_R h a0 9 28 (fun v1 => al_I 0 h v1 i4 (fun v2 => am_J l g mX9_spreads d (0, 0, x) 42 [(0, .ref a0), (1, .int i1), (2, .int i2), (3, .int i3), (4, .int i4), (5, .int (300 * v2)), (6, .int (300 * v2))] [] h Q))))
set_option maxRecDepth 4000 in
theorem rX9_spreads_19 {l : Launch} {g : am_G} {d : Nat} {x : Bool} {a0 : Nat} {i1 : Int32} {i2 : Int32} {i3 : Int32} {i4 : Int32} {h : am_H} {Q : Option Value → am_H → Prop} (H : zX9_spreads_19 l g d x a0 i1 i2 i3 i4 h Q) : am_J l g mX9_spreads d (0, 0, x) 19 [(0, .ref a0), (1, .int i1), (2, .int i2), (3, .int i3), (4, .int i4)] [] h Q := by
  unfold zX9_spreads_19 at H
  refine J_iload dX9_spreads_19 4 rfl ?_
  refine J_iload_n dX9_spreads_21 3 rfl ?_
  obtain ⟨H1, H2⟩ := H
  refine J_icmp_ge (tgt := 118) dX9_spreads_22 (by decide) (fun hc => ?_) (fun hc => ?_)
  · replace H := H1 hc
    clear H1 H2
    exact J_vret dX9_spreads_118 rfl ⟨Nat.le_of_ble_eq_true rfl, Nat.le_of_ble_eq_true rfl, fun _ => rfl⟩ H
  · replace H := H2 hc
    clear H1 H2
    refine J_sipush (v := 300) dX9_spreads_25 (by decide) ?_
    refine J_aload_n dX9_spreads_28 0 rfl ?_
    obtain ⟨fs, v1, hh, hk, H⟩ := H
    refine J_get dX9_spreads_29 fX9_89 hh hk ?_
    clear hh hk
    refine J_iload dX9_spreads_32 4 rfl ?_
    obtain ⟨nn, ff, hh, hk, H⟩ := H
    refine J_iald dX9_spreads_34 hh hk ?_
    generalize ff (Int32.toNatClampNeg i4) = v2 at H ⊢
    clear hh hk ff
    refine J_imul dX9_spreads_35 ?_
    refine J_istore (L' := [(5, .int (300 * v2)), (0, .ref a0), (1, .int i1), (2, .int i2), (3, .int i3), (4, .int i4)]) dX9_spreads_36 (by decide) rfl ?_
    refine J_iload dX9_spreads_38 0 rfl ?_
    refine J_istore (L' := [(6, .int (300 * v2)), (5, .int (300 * v2)), (0, .ref a0), (1, .int i1), (2, .int i2), (3, .int i3), (4, .int i4)]) dX9_spreads_40 (by decide) rfl ?_
    exact J_pick [2, 3, 4, 5, 6, 1, 0] rfl H
def zX9_spreads_0 (l : Launch) (g : am_G) (d : Nat) (x : Bool) (a0 : Nat) (i1 : Int32) (i2 : Int32) (h : am_H) (Q : Option Value → am_H → Prop) : Prop := gt_R h a0 9 28 (fun v1 => as_I 0 h v1 0 i1 (fun h2 => gt_R h2 a0 9 27 (fun v3 => as_I 0 h2 v3 i1 i1 (fun h4 => am_J l g mX9_spreads d (0, 0, x) 19 [(0, .ref a0), (1, .int i1), (2, .int i2), (3, .int 1), (4, .int 0)] [] h4 Q))))
set_option maxRecDepth 4000 in
theorem rX9_spreads_0 {l : Launch} {g : am_G} {d : Nat} {x : Bool} {a0 : Nat} {i1 : Int32} {i2 : Int32} {h : am_H} {Q : Option Value → am_H → Prop} (H : zX9_spreads_0 l g d x a0 i1 i2 h Q) : am_J l g mX9_spreads d (0, 0, x) 0 [(0, .ref a0), (1, .int i1), (2, .int i2)] [] h Q := by
  unfold zX9_spreads_0 at H
  refine J_iconst (v := 1) dX9_spreads_0 (by decide) ?_
  refine J_istore_n (L' := [(3, .int 1), (0, .ref a0), (1, .int i1), (2, .int i2)]) dX9_spreads_1 (by decide) rfl ?_
  refine J_aload_n dX9_spreads_2 1 rfl ?_
  obtain ⟨fs, v1, hh, hk, H⟩ := H
  refine J_get dX9_spreads_3 fX9_89 hh hk ?_
  clear hh hk
  refine J_iconst (v := 0) dX9_spreads_6 (by decide) ?_
  refine J_iload_n dX9_spreads_7 2 rfl ?_
  obtain ⟨nn, ff, hh, hk, H⟩ := H
  refine J_iast dX9_spreads_8 hh hk ?_
  generalize List.set h v1 (am_I 0 nn (upd ff (Int32.toNatClampNeg 0) i1)) = h2 at H ⊢
  clear hh hk
  refine J_aload_n dX9_spreads_9 1 rfl ?_
  obtain ⟨fs, v3, hh, hk, H⟩ := H
  refine J_get dX9_spreads_10 fX9_86 hh hk ?_
  clear hh hk
  refine J_iload_n dX9_spreads_13 2 rfl ?_
  refine J_iload_n dX9_spreads_14 2 rfl ?_
  obtain ⟨nn, ff, hh, hk, H⟩ := H
  refine J_iast dX9_spreads_15 hh hk ?_
  generalize List.set h2 v3 (am_I 0 nn (upd ff (Int32.toNatClampNeg i1) i1)) = h4 at H ⊢
  clear hh hk
  refine J_iconst (v := 0) dX9_spreads_16 (by decide) ?_
  refine J_istore (L' := [(4, .int 0), (3, .int 1), (0, .ref a0), (1, .int i1), (2, .int i2)]) dX9_spreads_17 (by decide) rfl ?_
  exact J_pick [2, 3, 4, 1, 0] rfl H
theorem eX9_spreads {l : Launch} {g : am_G} {d : Nat} {x : Bool} {a0 : Nat} {i1 : Int32} {i2 : Int32} {h : am_H} {K : am_H → Prop} (H : zX9_spreads_0 l g d x a0 i1 i2 h (fun r h' => r = none ∧ K h')) : cl_N l g mX9_spreads d x [.ref a0, .int i1, .int i2] h K := rX9_spreads_0 H
def zX9_isCut_0 (l : Launch) (g : am_G) (d : Nat) (x : Bool) (a0 : Nat) (i1 : Int32) (i2 : Int32) (h : am_H) (Q : Option Value → am_H → Prop) : Prop := cv_I l g mX9_findPieces d x 9 a0 [.int i1] h (fun v2 h1 => ((v2 ≤ i2 → Q (some (.int 0)) h1) ∧ (¬ v2 ≤ i2 → Q (some (.int 1)) h1)))
set_option maxRecDepth 4000 in
theorem rX9_isCut_0 {l : Launch} {g : am_G} {d : Nat} {x : Bool} {a0 : Nat} {i1 : Int32} {i2 : Int32} {h : am_H} {Q : Option Value → am_H → Prop} (H : zX9_isCut_0 l g d x a0 i1 i2 h Q) : am_J l g mX9_isCut (d + 1) (0, 0, x) 0 [(0, .ref a0), (1, .int i1), (2, .int i2)] [] h Q := by
  unfold zX9_isCut_0 at H
  refine J_aload_n dX9_isCut_0 0 rfl ?_
  refine J_iload_n dX9_isCut_1 1 rfl ?_
  obtain ⟨⟨fs, hh⟩, H⟩ := H
  refine J_callV (As := [.int i1]) (S := []) (b := a0) dX9_isCut_2 mX9_findPieces_ok kX9_236 rfl (by decide) (Nat.le_of_ble_eq_true rfl) hh rfl rfl (Nat.le_of_ble_eq_true rfl) ⟨Nat.le_of_ble_eq_true rfl, Nat.le_of_ble_eq_true rfl⟩ (fun k h' hp => ?_) H (fun r h1 hp => ?_)
  · obtain ⟨_, hv, -⟩ := hp; cases hv
  obtain ⟨v2, rfl, H⟩ := hp
  show am_J l g mX9_isCut (d + 1) (0, 0, x) 5 [(0, .ref a0), (1, .int i1), (2, .int i2)] [.int v2] h1 Q
  refine J_iload_n dX9_isCut_5 2 rfl ?_
  obtain ⟨H1, H2⟩ := H
  refine J_icmp_le (tgt := 13) dX9_isCut_6 (by decide) (fun hc => ?_) (fun hc => ?_)
  · replace H := H1 hc
    clear H1 H2
    refine J_iconst (v := 0) dX9_isCut_13 (by decide) ?_
    exact J_iret dX9_isCut_14 ⟨_, rfl, rfl⟩ ⟨Nat.le_of_ble_eq_true rfl, Nat.le_of_ble_eq_true rfl, fun _ => rfl⟩ H
  · replace H := H2 hc
    clear H1 H2
    refine J_iconst (v := 1) dX9_isCut_9 (by decide) ?_
    refine J_goto (tgt := 14) dX9_isCut_10 (by decide) ?_
    exact J_iret dX9_isCut_14 ⟨_, rfl, rfl⟩ ⟨Nat.le_of_ble_eq_true rfl, Nat.le_of_ble_eq_true rfl, fun _ => rfl⟩ H
theorem eX9_isCut {l : Launch} {g : am_G} {d : Nat} {x : Bool} {a0 : Nat} {i1 : Int32} {i2 : Int32} {h : am_H} {K : Int32 → am_H → Prop} (H : zX9_isCut_0 l g d x a0 i1 i2 h (fun r h' => ∃ v, r = some (.int v) ∧ K v h')) : cl_I l g mX9_isCut (d + 1) x [.ref a0, .int i1, .int i2] h K := rX9_isCut_0 H
def zX9_parts_210 (l : Launch) (g : am_G) (d : Nat) (x : Bool) (a0 : Nat) (i1 : Int32) (i2 : Int32) (h : am_H) (Q : Option Value → am_H → Prop) : Prop := am_J l g mX9_parts d (0, 0, x) 27 [(0, .ref a0), (1, .int i1), (2, .int (i2 + 1))] [] h Q
set_option maxRecDepth 4000 in
theorem rX9_parts_210 {l : Launch} {g : am_G} {d : Nat} {x : Bool} {a0 : Nat} {i1 : Int32} {i2 : Int32} {h : am_H} {Q : Option Value → am_H → Prop} (H : zX9_parts_210 l g d x a0 i1 i2 h Q) : am_J l g mX9_parts d (0, 0, x) 210 [(0, .ref a0), (1, .int i1), (2, .int i2)] [] h Q := by
  unfold zX9_parts_210 at H
  refine J_iinc (v := (i2 + 1)) (L' := [(2, .int (i2 + 1)), (0, .ref a0), (1, .int i1)]) dX9_parts_210 2 rfl rfl (by decide) rfl ?_
  refine J_goto (tgt := 27) dX9_parts_213 (by decide) ?_
  exact J_pick [1, 2, 0] rfl H
def zX9_parts_198 (l : Launch) (g : am_G) (d : Nat) (x : Bool) (a0 : Nat) (i1 : Int32) (i2 : Int32) (i3 : Int32) (i4 : Int32) (i5 : Int32) (i6 : Int32) (h : am_H) (Q : Option Value → am_H → Prop) : Prop := am_J l g mX9_parts d (0, 0, x) 95 [(0, .ref a0), (1, .int i1), (2, .int i2), (3, .int i3), (4, .int i4), (5, .int i5), (6, .int (i6 + 1))] [] h Q
set_option maxRecDepth 4000 in
theorem rX9_parts_198 {l : Launch} {g : am_G} {d : Nat} {x : Bool} {a0 : Nat} {i1 : Int32} {i2 : Int32} {i3 : Int32} {i4 : Int32} {i5 : Int32} {i6 : Int32} {h : am_H} {Q : Option Value → am_H → Prop} (H : zX9_parts_198 l g d x a0 i1 i2 i3 i4 i5 i6 h Q) : am_J l g mX9_parts d (0, 0, x) 198 [(0, .ref a0), (1, .int i1), (2, .int i2), (3, .int i3), (4, .int i4), (5, .int i5), (6, .int i6)] [] h Q := by
  unfold zX9_parts_198 at H
  refine J_iinc (v := (i6 + 1)) (L' := [(6, .int (i6 + 1)), (0, .ref a0), (1, .int i1), (2, .int i2), (3, .int i3), (4, .int i4), (5, .int i5)]) dX9_parts_198 6 rfl rfl (by decide) rfl ?_
  refine J_goto (tgt := 95) dX9_parts_201 (by decide) ?_
  exact J_pick [1, 2, 3, 4, 5, 6, 0] rfl H
def zX9_parts_155 (l : Launch) (g : am_G) (d : Nat) (x : Bool) (a0 : Nat) (i2 : Int32) (i3 : Int32) (i4 : Int32) (i5 : Int32) (i6 : Int32) (i7 : Int32) (s0 : Int32) (h : am_H) (Q : Option Value → am_H → Prop) : Prop := gt_R h a0 9 29 (fun v1 => al_I 0 h v1 i7 (fun v2 => ((0 ≤ v2 → zX9_parts_198 l g d x a0 s0 i2 i3 i4 i5 i6  h Q) ∧ (¬ 0 ≤ v2 → gt_R h a0 9 29 (fun v3 => gt_R h a0 9 29 (fun v4 => gt_R h a0 9 28 (fun v5 => al_I 0 h v5 i4 (fun v6 => al_I 0 h v4 v6 (fun v7 => as_I 0 h v3 i7 (1 - v7) (fun h8 => gt_R h8 a0 9 28 (fun v9 => as_I 0 h8 v9 i3 i7 (fun h10 => zX9_parts_198 l g d x a0 s0 i2 (i3 + 1) i4 i5 i6  h10 Q))))))))))))
set_option maxRecDepth 4000 in
theorem rX9_parts_155 {l : Launch} {g : am_G} {d : Nat} {x : Bool} {a0 : Nat} {i2 : Int32} {i3 : Int32} {i4 : Int32} {i5 : Int32} {i6 : Int32} {i7 : Int32} {s0 : Int32} {h : am_H} {Q : Option Value → am_H → Prop} (H : zX9_parts_155 l g d x a0 i2 i3 i4 i5 i6 i7 s0 h Q) : am_J l g mX9_parts d (0, 0, x) 155 [(0, .ref a0), (2, .int i2), (3, .int i3), (4, .int i4), (5, .int i5), (6, .int i6), (7, .int i7)] [.int s0] h Q := by
  unfold zX9_parts_155 at H
  refine J_istore_n (L' := [(1, .int s0), (0, .ref a0), (2, .int i2), (3, .int i3), (4, .int i4), (5, .int i5), (6, .int i6), (7, .int i7)]) dX9_parts_155 (by decide) rfl ?_
  refine J_aload_n dX9_parts_156 1 rfl ?_
  obtain ⟨fs, v1, hh, hk, H⟩ := H
  refine J_get dX9_parts_157 fX9_92 hh hk ?_
  clear hh hk
  refine J_iload dX9_parts_160 7 rfl ?_
  obtain ⟨nn, ff, hh, hk, H⟩ := H
  refine J_iald dX9_parts_162 hh hk ?_
  generalize ff (Int32.toNatClampNeg i7) = v2 at H ⊢
  clear hh hk ff
  obtain ⟨H1, H2⟩ := H
  refine J_if_ge (tgt := 198) dX9_parts_163 (by decide) (fun hc => ?_) (fun hc => ?_)
  · replace H := H1 hc
    clear H1 H2
    exact J_pick [1, 0, 2, 3, 4, 5, 6] rfl (rX9_parts_198 H)
  · replace H := H2 hc
    clear H1 H2
    refine J_aload_n dX9_parts_166 1 rfl ?_
    obtain ⟨fs, v3, hh, hk, H⟩ := H
    refine J_get dX9_parts_167 fX9_92 hh hk ?_
    clear hh hk
    refine J_iload dX9_parts_170 7 rfl ?_
    refine J_iconst (v := 1) dX9_parts_172 (by decide) ?_
    refine J_aload_n dX9_parts_173 1 rfl ?_
    obtain ⟨fs, v4, hh, hk, H⟩ := H
    refine J_get dX9_parts_174 fX9_92 hh hk ?_
    clear hh hk
    refine J_aload_n dX9_parts_177 1 rfl ?_
    obtain ⟨fs, v5, hh, hk, H⟩ := H
    refine J_get dX9_parts_178 fX9_89 hh hk ?_
    clear hh hk
    refine J_iload dX9_parts_181 4 rfl ?_
    obtain ⟨nn, ff, hh, hk, H⟩ := H
    refine J_iald dX9_parts_183 hh hk ?_
    generalize ff (Int32.toNatClampNeg i4) = v6 at H ⊢
    clear hh hk ff
    obtain ⟨nn, ff, hh, hk, H⟩ := H
    refine J_iald dX9_parts_184 hh hk ?_
    generalize ff (Int32.toNatClampNeg v6) = v7 at H ⊢
    clear hh hk ff
    refine J_isub dX9_parts_185 ?_
    obtain ⟨nn, ff, hh, hk, H⟩ := H
    refine J_iast dX9_parts_186 hh hk ?_
    generalize List.set h v3 (am_I 0 nn (upd ff (Int32.toNatClampNeg i7) (1 - v7))) = h8 at H ⊢
    clear hh hk
    refine J_aload_n dX9_parts_187 1 rfl ?_
    obtain ⟨fs, v9, hh, hk, H⟩ := H
    refine J_get dX9_parts_188 fX9_89 hh hk ?_
    clear hh hk
    refine J_iload_n dX9_parts_191 3 rfl ?_
    refine J_iload dX9_parts_192 7 rfl ?_
    obtain ⟨nn, ff, hh, hk, H⟩ := H
    refine J_iast dX9_parts_194 hh hk ?_
    generalize List.set h8 v9 (am_I 0 nn (upd ff (Int32.toNatClampNeg i3) i7)) = h10 at H ⊢
    clear hh hk
    refine J_iinc (v := (i3 + 1)) (L' := [(3, .int (i3 + 1)), (1, .int s0), (0, .ref a0), (2, .int i2), (4, .int i4), (5, .int i5), (6, .int i6), (7, .int i7)]) dX9_parts_195 3 rfl rfl (by decide) rfl ?_
    exact J_pick [2, 1, 3, 0, 4, 5, 6] rfl (rX9_parts_198 H)
def zX9_parts_154 (l : Launch) (g : am_G) (d : Nat) (x : Bool) (a0 : Nat) (i2 : Int32) (i3 : Int32) (i4 : Int32) (i5 : Int32) (i6 : Int32) (i7 : Int32) (h : am_H) (Q : Option Value → am_H → Prop) : Prop := zX9_parts_155 l g d x a0 i2 i3 i4 i5 i6 i7 0 h Q
set_option maxRecDepth 4000 in
theorem rX9_parts_154 {l : Launch} {g : am_G} {d : Nat} {x : Bool} {a0 : Nat} {i2 : Int32} {i3 : Int32} {i4 : Int32} {i5 : Int32} {i6 : Int32} {i7 : Int32} {h : am_H} {Q : Option Value → am_H → Prop} (H : zX9_parts_154 l g d x a0 i2 i3 i4 i5 i6 i7 h Q) : am_J l g mX9_parts d (0, 0, x) 154 [(0, .ref a0), (2, .int i2), (3, .int i3), (4, .int i4), (5, .int i5), (6, .int i6), (7, .int i7)] [] h Q := by
  unfold zX9_parts_154 at H
  refine J_iconst (v := 0) dX9_parts_154 (by decide) ?_
  exact J_pick [0, 1, 2, 3, 4, 5, 6] rfl (rX9_parts_155 H)
def zX9_parts_95 (l : Launch) (g : am_G) (d : Nat) (x : Bool) (a0 : Nat) (i1 : Int32) (i2 : Int32) (i3 : Int32) (i4 : Int32) (i5 : Int32) (i6 : Int32) (h : am_H) (Q : Option Value → am_H → Prop) : Prop := gt_R h a0 9 25 (fun v1 => gt_R h a0 9 28 (fun v2 => al_I 0 h v2 i4 (fun v3 => al_I 0 h v1 v3 (fun v4 => (((i5 + v4) ≤ i6 → am_J l g mX9_parts d (0, 0, x) 72 [(0, .ref a0), (1, .int i1), (2, .int i2), (3, .int i3), (4, .int (i4 + 1))] [] h Q) ∧ (¬ (i5 + v4) ≤ i6 → gt_R h a0 9 26 (fun v5 => al_I 0 h v5 i6 (fun v6 => ((i1 = 0 → zX9_parts_154 l g d x a0 i2 i3 i4 i5 i6 v6  h Q) ∧ (¬ i1 = 0 → gt_R h a0 9 29 (fun v7 => al_I 0 h v7 v6 (fun v8 => gt_R h a0 9 29 (fun v9 => gt_R h a0 9 28 (fun v10 => al_I 0 h v10 i4 (fun v11 => al_I 0 h v9 v11 (fun v12 => ((v8 = v12 → zX9_parts_154 l g d x a0 i2 i3 i4 i5 i6 v6  h Q) ∧ (¬ v8 = v12 → zX9_parts_155 l g d x a0 i2 i3 i4 i5 i6 v6 1 h Q))))))))))))))))))
set_option maxRecDepth 4000 in
theorem rX9_parts_95 {l : Launch} {g : am_G} {d : Nat} {x : Bool} {a0 : Nat} {i1 : Int32} {i2 : Int32} {i3 : Int32} {i4 : Int32} {i5 : Int32} {i6 : Int32} {h : am_H} {Q : Option Value → am_H → Prop} (H : zX9_parts_95 l g d x a0 i1 i2 i3 i4 i5 i6 h Q) : am_J l g mX9_parts d (0, 0, x) 95 [(0, .ref a0), (1, .int i1), (2, .int i2), (3, .int i3), (4, .int i4), (5, .int i5), (6, .int i6)] [] h Q := by
  unfold zX9_parts_95 at H
  refine J_iload dX9_parts_95 6 rfl ?_
  refine J_iload dX9_parts_97 5 rfl ?_
  refine J_aload_n dX9_parts_99 0 rfl ?_
  obtain ⟨fs, v1, hh, hk, H⟩ := H
  refine J_get dX9_parts_100 fX9_80 hh hk ?_
  clear hh hk
  refine J_aload_n dX9_parts_103 0 rfl ?_
  obtain ⟨fs, v2, hh, hk, H⟩ := H
  refine J_get dX9_parts_104 fX9_89 hh hk ?_
  clear hh hk
  refine J_iload dX9_parts_107 4 rfl ?_
  obtain ⟨nn, ff, hh, hk, H⟩ := H
  refine J_iald dX9_parts_109 hh hk ?_
  generalize ff (Int32.toNatClampNeg i4) = v3 at H ⊢
  clear hh hk ff
  obtain ⟨nn, ff, hh, hk, H⟩ := H
  refine J_iald dX9_parts_110 hh hk ?_
  generalize ff (Int32.toNatClampNeg v3) = v4 at H ⊢
  clear hh hk ff
  refine J_iadd dX9_parts_111 ?_
  obtain ⟨H1, H2⟩ := H
  refine J_icmp_ge (tgt := 204) dX9_parts_112 (by decide) (fun hc => ?_) (fun hc => ?_)
  · replace H := H1 hc
    clear H1 H2
    refine J_iinc (v := (i4 + 1)) (L' := [(4, .int (i4 + 1)), (0, .ref a0), (1, .int i1), (2, .int i2), (3, .int i3), (5, .int i5), (6, .int i6)]) dX9_parts_204 4 rfl rfl (by decide) rfl ?_
    refine J_goto (tgt := 72) dX9_parts_207 (by decide) ?_
    exact J_pick [1, 2, 3, 4, 0] rfl H
  · replace H := H2 hc
    clear H1 H2
    refine J_aload_n dX9_parts_115 0 rfl ?_
    obtain ⟨fs, v5, hh, hk, H⟩ := H
    refine J_get dX9_parts_116 fX9_83 hh hk ?_
    clear hh hk
    refine J_iload dX9_parts_119 6 rfl ?_
    obtain ⟨nn, ff, hh, hk, H⟩ := H
    refine J_iald dX9_parts_121 hh hk ?_
    generalize ff (Int32.toNatClampNeg i6) = v6 at H ⊢
    clear hh hk ff
    refine J_istore (L' := [(7, .int v6), (0, .ref a0), (1, .int i1), (2, .int i2), (3, .int i3), (4, .int i4), (5, .int i5), (6, .int i6)]) dX9_parts_122 (by decide) rfl ?_
    refine J_iload_n dX9_parts_124 2 rfl ?_
    obtain ⟨H1, H2⟩ := H
    refine J_if_eq (tgt := 154) dX9_parts_125 (by decide) (fun hc => ?_) (fun hc => ?_)
    · replace H := H1 hc
      clear H1 H2
      exact J_pick [1, 3, 4, 5, 6, 7, 0] rfl (rX9_parts_154 H)
    · replace H := H2 hc
      clear H1 H2
      refine J_aload_n dX9_parts_128 1 rfl ?_
      obtain ⟨fs, v7, hh, hk, H⟩ := H
      refine J_get dX9_parts_129 fX9_92 hh hk ?_
      clear hh hk
      refine J_iload dX9_parts_132 0 rfl ?_
      obtain ⟨nn, ff, hh, hk, H⟩ := H
      refine J_iald dX9_parts_134 hh hk ?_
      generalize ff (Int32.toNatClampNeg v6) = v8 at H ⊢
      clear hh hk ff
      refine J_aload_n dX9_parts_135 1 rfl ?_
      obtain ⟨fs, v9, hh, hk, H⟩ := H
      refine J_get dX9_parts_136 fX9_92 hh hk ?_
      clear hh hk
      refine J_aload_n dX9_parts_139 1 rfl ?_
      obtain ⟨fs, v10, hh, hk, H⟩ := H
      refine J_get dX9_parts_140 fX9_89 hh hk ?_
      clear hh hk
      refine J_iload dX9_parts_143 5 rfl ?_
      obtain ⟨nn, ff, hh, hk, H⟩ := H
      refine J_iald dX9_parts_145 hh hk ?_
      generalize ff (Int32.toNatClampNeg i4) = v11 at H ⊢
      clear hh hk ff
      obtain ⟨nn, ff, hh, hk, H⟩ := H
      refine J_iald dX9_parts_146 hh hk ?_
      generalize ff (Int32.toNatClampNeg v11) = v12 at H ⊢
      clear hh hk ff
      obtain ⟨H1, H2⟩ := H
      refine J_icmp_eq (tgt := 154) dX9_parts_147 (by decide) (fun hc => ?_) (fun hc => ?_)
      · replace H := H1 hc
        clear H1 H2
        exact J_pick [1, 3, 4, 5, 6, 7, 0] rfl (rX9_parts_154 H)
      · replace H := H2 hc
        clear H1 H2
        refine J_iconst (v := 1) dX9_parts_150 (by decide) ?_
        refine J_goto (tgt := 155) dX9_parts_151 (by decide) ?_
        exact J_pick [1, 3, 4, 5, 6, 7, 0] rfl (rX9_parts_155 H)
def zX9_parts_72 (l : Launch) (g : am_G) (d : Nat) (x : Bool) (a0 : Nat) (i1 : Int32) (i2 : Int32) (i3 : Int32) (i4 : Int32) (h : am_H) (Q : Option Value → am_H → Prop) : Prop := ((i3 ≤ i4 → zX9_parts_210 l g d x a0 i1 i2  h Q) ∧ (¬ i3 ≤ i4 → gt_R h a0 9 28 (fun v1 => al_I 0 h v1 i4 (fun v2 => am_J l g mX9_parts d (0, 0, x) 95 [(0, .ref a0), (1, .int i1), (2, .int i2), (3, .int i3), (4, .int i4), (5, .int (300 * v2)), (6, .int (300 * v2))] [] h Q))))
set_option maxRecDepth 4000 in
theorem rX9_parts_72 {l : Launch} {g : am_G} {d : Nat} {x : Bool} {a0 : Nat} {i1 : Int32} {i2 : Int32} {i3 : Int32} {i4 : Int32} {h : am_H} {Q : Option Value → am_H → Prop} (H : zX9_parts_72 l g d x a0 i1 i2 i3 i4 h Q) : am_J l g mX9_parts d (0, 0, x) 72 [(0, .ref a0), (1, .int i1), (2, .int i2), (3, .int i3), (4, .int i4)] [] h Q := by
  unfold zX9_parts_72 at H
  refine J_iload dX9_parts_72 4 rfl ?_
  refine J_iload_n dX9_parts_74 3 rfl ?_
  obtain ⟨H1, H2⟩ := H
  refine J_icmp_ge (tgt := 210) dX9_parts_75 (by decide) (fun hc => ?_) (fun hc => ?_)
  · replace H := H1 hc
    clear H1 H2
    exact J_pick [0, 1, 2] rfl (rX9_parts_210 H)
  · replace H := H2 hc
    clear H1 H2
    refine J_sipush (v := 300) dX9_parts_78 (by decide) ?_
    refine J_aload_n dX9_parts_81 0 rfl ?_
    obtain ⟨fs, v1, hh, hk, H⟩ := H
    refine J_get dX9_parts_82 fX9_89 hh hk ?_
    clear hh hk
    refine J_iload dX9_parts_85 4 rfl ?_
    obtain ⟨nn, ff, hh, hk, H⟩ := H
    refine J_iald dX9_parts_87 hh hk ?_
    generalize ff (Int32.toNatClampNeg i4) = v2 at H ⊢
    clear hh hk ff
    refine J_imul dX9_parts_88 ?_
    refine J_istore (L' := [(5, .int (300 * v2)), (0, .ref a0), (1, .int i1), (2, .int i2), (3, .int i3), (4, .int i4)]) dX9_parts_89 (by decide) rfl ?_
    refine J_iload dX9_parts_91 0 rfl ?_
    refine J_istore (L' := [(6, .int (300 * v2)), (5, .int (300 * v2)), (0, .ref a0), (1, .int i1), (2, .int i2), (3, .int i3), (4, .int i4)]) dX9_parts_93 (by decide) rfl ?_
    exact J_pick [2, 3, 4, 5, 6, 1, 0] rfl H
def zX9_parts_27 (l : Launch) (g : am_G) (d : Nat) (x : Bool) (a0 : Nat) (i1 : Int32) (i2 : Int32) (h : am_H) (Q : Option Value → am_H → Prop) : Prop := gt_I h a0 9 21 (fun v1 => ((v1 ≤ i2 → ((i1 = 0 ∨ i1 = 1) ∧ Q (some (.int i1)) h)) ∧ (¬ v1 ≤ i2 → gt_R h a0 9 22 (fun v2 => al_I 2 h v2 i2 (fun v3 => ((v3 = 0 → zX9_parts_210 l g d x a0 i1 i2  h Q) ∧ (¬ v3 = 0 → gt_R h a0 9 29 (fun v4 => al_I 0 h v4 i2 (fun v5 => ((0 ≤ v5 → zX9_parts_210 l g d x a0 i1 i2  h Q) ∧ (¬ 0 ≤ v5 → gt_R h a0 9 28 (fun v6 => as_I 0 h v6 0 i2 (fun h7 => gt_R h7 a0 9 29 (fun v8 => as_I 0 h7 v8 i2 0 (fun h9 => am_J l g mX9_parts d (0, 0, x) 72 [(0, .ref a0), (1, .int i1), (2, .int i2), (3, .int 1), (4, .int 0)] [] h9 Q)))))))))))))))
set_option maxRecDepth 4000 in
theorem rX9_parts_27 {l : Launch} {g : am_G} {d : Nat} {x : Bool} {a0 : Nat} {i1 : Int32} {i2 : Int32} {h : am_H} {Q : Option Value → am_H → Prop} (H : zX9_parts_27 l g d x a0 i1 i2 h Q) : am_J l g mX9_parts d (0, 0, x) 27 [(0, .ref a0), (1, .int i1), (2, .int i2)] [] h Q := by
  unfold zX9_parts_27 at H
  refine J_iload_n dX9_parts_27 2 rfl ?_
  refine J_aload_n dX9_parts_28 0 rfl ?_
  obtain ⟨fs, v1, hh, hk, H⟩ := H
  refine J_get dX9_parts_29 fX9_201 hh hk ?_
  clear hh hk
  obtain ⟨H1, H2⟩ := H
  refine J_icmp_ge (tgt := 216) dX9_parts_32 (by decide) (fun hc => ?_) (fun hc => ?_)
  · replace H := H1 hc
    clear H1 H2
    refine J_iload_n dX9_parts_216 1 rfl ?_
    obtain ⟨hb, H⟩ := H
    exact J_iret dX9_parts_217 (am_nar01 rfl hb) ⟨Nat.le_of_ble_eq_true rfl, Nat.le_of_ble_eq_true rfl, fun _ => rfl⟩ H
  · replace H := H2 hc
    clear H1 H2
    refine J_aload_n dX9_parts_35 0 rfl ?_
    obtain ⟨fs, v2, hh, hk, H⟩ := H
    refine J_get dX9_parts_36 fX9_70 hh hk ?_
    clear hh hk
    refine J_iload_n dX9_parts_39 2 rfl ?_
    obtain ⟨nn, ff, hh, hk, H⟩ := H
    refine J_zald dX9_parts_40 hh hk ?_
    generalize ff (Int32.toNatClampNeg i2) = v3 at H ⊢
    clear hh hk ff
    obtain ⟨H1, H2⟩ := H
    refine J_if_eq (tgt := 210) dX9_parts_41 (by decide) (fun hc => ?_) (fun hc => ?_)
    · replace H := H1 hc
      clear H1 H2
      exact J_pick [0, 1, 2] rfl (rX9_parts_210 H)
    · replace H := H2 hc
      clear H1 H2
      refine J_aload_n dX9_parts_44 0 rfl ?_
      obtain ⟨fs, v4, hh, hk, H⟩ := H
      refine J_get dX9_parts_45 fX9_92 hh hk ?_
      clear hh hk
      refine J_iload_n dX9_parts_48 2 rfl ?_
      obtain ⟨nn, ff, hh, hk, H⟩ := H
      refine J_iald dX9_parts_49 hh hk ?_
      generalize ff (Int32.toNatClampNeg i2) = v5 at H ⊢
      clear hh hk ff
      obtain ⟨H1, H2⟩ := H
      refine J_if_ge (tgt := 210) dX9_parts_50 (by decide) (fun hc => ?_) (fun hc => ?_)
      · replace H := H1 hc
        clear H1 H2
        exact J_pick [0, 1, 2] rfl (rX9_parts_210 H)
      · replace H := H2 hc
        clear H1 H2
        refine J_iconst (v := 1) dX9_parts_53 (by decide) ?_
        refine J_istore_n (L' := [(3, .int 1), (0, .ref a0), (1, .int i1), (2, .int i2)]) dX9_parts_54 (by decide) rfl ?_
        refine J_aload_n dX9_parts_55 1 rfl ?_
        obtain ⟨fs, v6, hh, hk, H⟩ := H
        refine J_get dX9_parts_56 fX9_89 hh hk ?_
        clear hh hk
        refine J_iconst (v := 0) dX9_parts_59 (by decide) ?_
        refine J_iload_n dX9_parts_60 3 rfl ?_
        obtain ⟨nn, ff, hh, hk, H⟩ := H
        refine J_iast dX9_parts_61 hh hk ?_
        generalize List.set h v6 (am_I 0 nn (upd ff (Int32.toNatClampNeg 0) i2)) = h7 at H ⊢
        clear hh hk
        refine J_aload_n dX9_parts_62 1 rfl ?_
        obtain ⟨fs, v8, hh, hk, H⟩ := H
        refine J_get dX9_parts_63 fX9_92 hh hk ?_
        clear hh hk
        refine J_iload_n dX9_parts_66 3 rfl ?_
        refine J_iconst (v := 0) dX9_parts_67 (by decide) ?_
        obtain ⟨nn, ff, hh, hk, H⟩ := H
        refine J_iast dX9_parts_68 hh hk ?_
        generalize List.set h7 v8 (am_I 0 nn (upd ff (Int32.toNatClampNeg i2) 0)) = h9 at H ⊢
        clear hh hk
        refine J_iconst (v := 0) dX9_parts_69 (by decide) ?_
        refine J_istore (L' := [(4, .int 0), (3, .int 1), (0, .ref a0), (1, .int i1), (2, .int i2)]) dX9_parts_70 (by decide) rfl ?_
        exact J_pick [2, 3, 4, 1, 0] rfl H
def zX9_parts_2 (l : Launch) (g : am_G) (d : Nat) (x : Bool) (a0 : Nat) (i1 : Int32) (h : am_H) (Q : Option Value → am_H → Prop) : Prop := gt_I h a0 9 21 (fun v1 => ((v1 ≤ i1 → am_J l g mX9_parts d (0, 0, x) 27 [(0, .ref a0), (1, .int 1), (2, .int 0)] [] h Q) ∧ (¬ v1 ≤ i1 → gt_R h a0 9 29 (fun v2 => as_I 0 h v2 i1 (-1) (fun h3 => am_J l g mX9_parts d (0, 0, x) 2 [(0, .ref a0), (1, .int (i1 + 1))] [] h3 Q)))))
set_option maxRecDepth 4000 in
theorem rX9_parts_2 {l : Launch} {g : am_G} {d : Nat} {x : Bool} {a0 : Nat} {i1 : Int32} {h : am_H} {Q : Option Value → am_H → Prop} (H : zX9_parts_2 l g d x a0 i1 h Q) : am_J l g mX9_parts d (0, 0, x) 2 [(0, .ref a0), (1, .int i1)] [] h Q := by
  unfold zX9_parts_2 at H
  refine J_iload_n dX9_parts_2 1 rfl ?_
  refine J_aload_n dX9_parts_3 0 rfl ?_
  obtain ⟨fs, v1, hh, hk, H⟩ := H
  refine J_get dX9_parts_4 fX9_201 hh hk ?_
  clear hh hk
  obtain ⟨H1, H2⟩ := H
  refine J_icmp_ge (tgt := 23) dX9_parts_7 (by decide) (fun hc => ?_) (fun hc => ?_)
  · replace H := H1 hc
    clear H1 H2
    refine J_iconst (v := 1) dX9_parts_23 (by decide) ?_
    refine J_istore_n (L' := [(1, .int 1), (0, .ref a0)]) dX9_parts_24 (by decide) rfl ?_
    refine J_iconst (v := 0) dX9_parts_25 (by decide) ?_
    refine J_istore_n (L' := [(2, .int 0), (1, .int 1), (0, .ref a0)]) dX9_parts_26 (by decide) rfl ?_
    exact J_pick [2, 1, 0] rfl H
  · replace H := H2 hc
    clear H1 H2
    refine J_aload_n dX9_parts_10 0 rfl ?_
    obtain ⟨fs, v2, hh, hk, H⟩ := H
    refine J_get dX9_parts_11 fX9_92 hh hk ?_
    clear hh hk
    refine J_iload_n dX9_parts_14 1 rfl ?_
    refine J_iconst (v := (-1)) dX9_parts_15 (by decide) ?_
    obtain ⟨nn, ff, hh, hk, H⟩ := H
    refine J_iast dX9_parts_16 hh hk ?_
    generalize List.set h v2 (am_I 0 nn (upd ff (Int32.toNatClampNeg i1) (-1))) = h3 at H ⊢
    clear hh hk
    refine J_iinc (v := (i1 + 1)) (L' := [(1, .int (i1 + 1)), (0, .ref a0)]) dX9_parts_17 1 rfl rfl (by decide) rfl ?_
    refine J_goto (tgt := 2) dX9_parts_20 (by decide) ?_
    exact J_pick [1, 0] rfl H
def zX9_parts_0 (l : Launch) (g : am_G) (d : Nat) (x : Bool) (a0 : Nat) (h : am_H) (Q : Option Value → am_H → Prop) : Prop := am_J l g mX9_parts d (0, 0, x) 2 [(0, .ref a0), (1, .int 0)] [] h Q
set_option maxRecDepth 4000 in
theorem rX9_parts_0 {l : Launch} {g : am_G} {d : Nat} {x : Bool} {a0 : Nat} {h : am_H} {Q : Option Value → am_H → Prop} (H : zX9_parts_0 l g d x a0 h Q) : am_J l g mX9_parts d (0, 0, x) 0 [(0, .ref a0)] [] h Q := by
  unfold zX9_parts_0 at H
  refine J_iconst (v := 0) dX9_parts_0 (by decide) ?_
  refine J_istore_n (L' := [(1, .int 0), (0, .ref a0)]) dX9_parts_1 (by decide) rfl ?_
  exact J_pick [1, 0] rfl H
theorem eX9_parts {l : Launch} {g : am_G} {d : Nat} {x : Bool} {a0 : Nat} {h : am_H} {K : Int32 → am_H → Prop} (H : zX9_parts_0 l g d x a0 h (fun r h' => ∃ v, r = some (.int v) ∧ K v h')) : cl_I l g mX9_parts d x [.ref a0] h K := rX9_parts_0 H
def zX9_finds_83 (l : Launch) (g : am_G) (d : Nat) (x : Bool) (a0 : Nat) (i1 : Int32) (i2 : Int32) (h : am_H) (Q : Option Value → am_H → Prop) : Prop := am_J l g mX9_finds (d + 1) (0, 0, x) 6 [(0, .ref a0), (1, .int i1), (2, .int (i2 + 1))] [] h Q
set_option maxRecDepth 4000 in
theorem rX9_finds_83 {l : Launch} {g : am_G} {d : Nat} {x : Bool} {a0 : Nat} {i1 : Int32} {i2 : Int32} {h : am_H} {Q : Option Value → am_H → Prop} (H : zX9_finds_83 l g d x a0 i1 i2 h Q) : am_J l g mX9_finds (d + 1) (0, 0, x) 83 [(0, .ref a0), (1, .int i1), (2, .int i2)] [] h Q := by
  unfold zX9_finds_83 at H
  refine J_iinc (v := (i2 + 1)) (L' := [(2, .int (i2 + 1)), (0, .ref a0), (1, .int i1)]) dX9_finds_83 2 rfl rfl (by decide) rfl ?_
  refine J_goto (tgt := 6) dX9_finds_86 (by decide) ?_
  exact J_pick [1, 2, 0] rfl H
def zX9_finds_67 (l : Launch) (g : am_G) (d : Nat) (x : Bool) (a0 : Nat) (i1 : Int32) (i3 : Int32) (h : am_H) (Q : Option Value → am_H → Prop) : Prop := gt_R h a0 9 30 (fun v1 => as_I 0 h v1 i3 i1 (fun h2 => gt_R h2 a0 9 30 (fun v3 => as_I 0 h2 v3 i1 i3 (fun h4 => Q (some (.int 1)) h4))))
set_option maxRecDepth 4000 in
theorem rX9_finds_67 {l : Launch} {g : am_G} {d : Nat} {x : Bool} {a0 : Nat} {i1 : Int32} {i3 : Int32} {h : am_H} {Q : Option Value → am_H → Prop} (H : zX9_finds_67 l g d x a0 i1 i3 h Q) : am_J l g mX9_finds (d + 1) (0, 0, x) 67 [(0, .ref a0), (1, .int i1), (3, .int i3)] [] h Q := by
  unfold zX9_finds_67 at H
  refine J_aload_n dX9_finds_67 0 rfl ?_
  obtain ⟨fs, v1, hh, hk, H⟩ := H
  refine J_get dX9_finds_68 fX9_95 hh hk ?_
  clear hh hk
  refine J_iload_n dX9_finds_71 2 rfl ?_
  refine J_iload_n dX9_finds_72 1 rfl ?_
  obtain ⟨nn, ff, hh, hk, H⟩ := H
  refine J_iast dX9_finds_73 hh hk ?_
  generalize List.set h v1 (am_I 0 nn (upd ff (Int32.toNatClampNeg i3) i1)) = h2 at H ⊢
  clear hh hk
  refine J_aload_n dX9_finds_74 0 rfl ?_
  obtain ⟨fs, v3, hh, hk, H⟩ := H
  refine J_get dX9_finds_75 fX9_95 hh hk ?_
  clear hh hk
  refine J_iload_n dX9_finds_78 1 rfl ?_
  refine J_iload_n dX9_finds_79 2 rfl ?_
  obtain ⟨nn, ff, hh, hk, H⟩ := H
  refine J_iast dX9_finds_80 hh hk ?_
  generalize List.set h2 v3 (am_I 0 nn (upd ff (Int32.toNatClampNeg i1) i3)) = h4 at H ⊢
  clear hh hk
  refine J_iconst (v := 1) dX9_finds_81 (by decide) ?_
  exact J_iret dX9_finds_82 ⟨_, rfl, rfl⟩ ⟨Nat.le_of_ble_eq_true rfl, Nat.le_of_ble_eq_true rfl, fun _ => rfl⟩ H
def zX9_finds_6 (l : Launch) (g : am_G) (d : Nat) (x : Bool) (a0 : Nat) (i1 : Int32) (i2 : Int32) (h : am_H) (Q : Option Value → am_H → Prop) : Prop := gt_R h a0 9 25 (fun v1 => al_I 0 h v1 i1 (fun v2 => ((((300 * i1) + v2) ≤ i2 → Q (some (.int 0)) h) ∧ (¬ ((300 * i1) + v2) ≤ i2 → gt_R h a0 9 26 (fun v3 => al_I 0 h v3 i2 (fun v4 => gt_R h a0 9 31 (fun v5 => al_I 2 h v5 v4 (fun v6 => ((¬ v6 = 0 → zX9_finds_83 l g d x a0 i1 i2  h Q) ∧ (v6 = 0 → gt_R h a0 9 31 (fun v7 => as_I 2 h v7 v4 1 (fun h8 => gt_R h8 a0 9 30 (fun v9 => al_I 0 h8 v9 v4 (fun v10 => ((v10 < 0 → zX9_finds_67 l g d x a0 i1 v4  h8 Q) ∧ (¬ v10 < 0 → gt_R h8 a0 9 30 (fun v11 => al_I 0 h8 v11 v4 (fun v12 => cv_I l g mX9_finds d x 9 a0 [.int v12] h8 (fun v14 h13 => ((v14 = 0 → zX9_finds_83 l g d x a0 i1 i2  h13 Q) ∧ (¬ v14 = 0 → zX9_finds_67 l g d x a0 i1 v4  h13 Q)))))))))))))))))))))
set_option maxRecDepth 4000 in
theorem rX9_finds_6 {l : Launch} {g : am_G} {d : Nat} {x : Bool} {a0 : Nat} {i1 : Int32} {i2 : Int32} {h : am_H} {Q : Option Value → am_H → Prop} (H : zX9_finds_6 l g d x a0 i1 i2 h Q) : am_J l g mX9_finds (d + 1) (0, 0, x) 6 [(0, .ref a0), (1, .int i1), (2, .int i2)] [] h Q := by
  unfold zX9_finds_6 at H
  refine J_iload_n dX9_finds_6 2 rfl ?_
  refine J_sipush (v := 300) dX9_finds_7 (by decide) ?_
  refine J_iload_n dX9_finds_10 1 rfl ?_
  refine J_imul dX9_finds_11 ?_
  refine J_aload_n dX9_finds_12 0 rfl ?_
  obtain ⟨fs, v1, hh, hk, H⟩ := H
  refine J_get dX9_finds_13 fX9_80 hh hk ?_
  clear hh hk
  refine J_iload_n dX9_finds_16 1 rfl ?_
  obtain ⟨nn, ff, hh, hk, H⟩ := H
  refine J_iald dX9_finds_17 hh hk ?_
  generalize ff (Int32.toNatClampNeg i1) = v2 at H ⊢
  clear hh hk ff
  refine J_iadd dX9_finds_18 ?_
  obtain ⟨H1, H2⟩ := H
  refine J_icmp_ge (tgt := 89) dX9_finds_19 (by decide) (fun hc => ?_) (fun hc => ?_)
  · replace H := H1 hc
    clear H1 H2
    refine J_iconst (v := 0) dX9_finds_89 (by decide) ?_
    exact J_iret dX9_finds_90 ⟨_, rfl, rfl⟩ ⟨Nat.le_of_ble_eq_true rfl, Nat.le_of_ble_eq_true rfl, fun _ => rfl⟩ H
  · replace H := H2 hc
    clear H1 H2
    refine J_aload_n dX9_finds_22 0 rfl ?_
    obtain ⟨fs, v3, hh, hk, H⟩ := H
    refine J_get dX9_finds_23 fX9_83 hh hk ?_
    clear hh hk
    refine J_iload_n dX9_finds_26 2 rfl ?_
    obtain ⟨nn, ff, hh, hk, H⟩ := H
    refine J_iald dX9_finds_27 hh hk ?_
    generalize ff (Int32.toNatClampNeg i2) = v4 at H ⊢
    clear hh hk ff
    refine J_istore_n (L' := [(3, .int v4), (0, .ref a0), (1, .int i1), (2, .int i2)]) dX9_finds_28 (by decide) rfl ?_
    refine J_aload_n dX9_finds_29 1 rfl ?_
    obtain ⟨fs, v5, hh, hk, H⟩ := H
    refine J_get dX9_finds_30 fX9_98 hh hk ?_
    clear hh hk
    refine J_iload_n dX9_finds_33 0 rfl ?_
    obtain ⟨nn, ff, hh, hk, H⟩ := H
    refine J_zald dX9_finds_34 hh hk ?_
    generalize ff (Int32.toNatClampNeg v4) = v6 at H ⊢
    clear hh hk ff
    obtain ⟨H1, H2⟩ := H
    refine J_if_ne (tgt := 83) dX9_finds_35 (by decide) (fun hc => ?_) (fun hc => ?_)
    · replace H := H1 hc
      clear H1 H2
      exact J_pick [1, 2, 3] rfl (rX9_finds_83 H)
    · replace H := H2 hc
      clear H1 H2
      refine J_aload_n dX9_finds_38 1 rfl ?_
      obtain ⟨fs, v7, hh, hk, H⟩ := H
      refine J_get dX9_finds_39 fX9_98 hh hk ?_
      clear hh hk
      refine J_iload_n dX9_finds_42 0 rfl ?_
      refine J_iconst (v := 1) dX9_finds_43 (by decide) ?_
      obtain ⟨nn, ff, hh, hk, H⟩ := H
      refine J_zast dX9_finds_44 hh hk rfl ?_
      generalize List.set h v7 (am_I 2 nn (upd ff (Int32.toNatClampNeg v4) 1)) = h8 at H ⊢
      clear hh hk
      refine J_aload_n dX9_finds_45 1 rfl ?_
      obtain ⟨fs, v9, hh, hk, H⟩ := H
      refine J_get dX9_finds_46 fX9_95 hh hk ?_
      clear hh hk
      refine J_iload_n dX9_finds_49 0 rfl ?_
      obtain ⟨nn, ff, hh, hk, H⟩ := H
      refine J_iald dX9_finds_50 hh hk ?_
      generalize ff (Int32.toNatClampNeg v4) = v10 at H ⊢
      clear hh hk ff
      obtain ⟨H1, H2⟩ := H
      refine J_if_lt (tgt := 67) dX9_finds_51 (by decide) (fun hc => ?_) (fun hc => ?_)
      · replace H := H1 hc
        clear H1 H2
        exact J_pick [1, 2, 0] rfl (rX9_finds_67 H)
      · replace H := H2 hc
        clear H1 H2
        refine J_aload_n dX9_finds_54 1 rfl ?_
        refine J_aload_n dX9_finds_55 1 rfl ?_
        obtain ⟨fs, v11, hh, hk, H⟩ := H
        refine J_get dX9_finds_56 fX9_95 hh hk ?_
        clear hh hk
        refine J_iload_n dX9_finds_59 0 rfl ?_
        obtain ⟨nn, ff, hh, hk, H⟩ := H
        refine J_iald dX9_finds_60 hh hk ?_
        generalize ff (Int32.toNatClampNeg v4) = v12 at H ⊢
        clear hh hk ff
        obtain ⟨⟨fs, hh⟩, H⟩ := H
        refine J_callV (As := [.int v12]) (S := []) (b := a0) dX9_finds_61 mX9_finds_ok kX9_239 rfl (by decide) (Nat.le_of_ble_eq_true rfl) hh rfl rfl (Nat.le_of_ble_eq_true rfl) ⟨Nat.le_of_ble_eq_true rfl, Nat.le_of_ble_eq_true rfl⟩ (fun k h' hp => ?_) H (fun r h13 hp => ?_)
        · obtain ⟨_, hv, -⟩ := hp; cases hv
        obtain ⟨v14, rfl, H⟩ := hp
        show am_J l g mX9_finds (d + 1) (0, 0, x) 64 [(3, .int v4), (0, .ref a0), (1, .int i1), (2, .int i2)] [.int v14] h13 Q
        obtain ⟨H1, H2⟩ := H
        refine J_if_eq (tgt := 83) dX9_finds_64 (by decide) (fun hc => ?_) (fun hc => ?_)
        · replace H := H1 hc
          clear H1 H2
          exact J_pick [1, 2, 3] rfl (rX9_finds_83 H)
        · replace H := H2 hc
          clear H1 H2
          exact J_pick [1, 2, 0] rfl (rX9_finds_67 H)
def zX9_finds_0 (l : Launch) (g : am_G) (d : Nat) (x : Bool) (a0 : Nat) (i1 : Int32) (h : am_H) (Q : Option Value → am_H → Prop) : Prop := am_J l g mX9_finds (d + 1) (0, 0, x) 6 [(0, .ref a0), (1, .int i1), (2, .int (300 * i1))] [] h Q
set_option maxRecDepth 4000 in
theorem rX9_finds_0 {l : Launch} {g : am_G} {d : Nat} {x : Bool} {a0 : Nat} {i1 : Int32} {h : am_H} {Q : Option Value → am_H → Prop} (H : zX9_finds_0 l g d x a0 i1 h Q) : am_J l g mX9_finds (d + 1) (0, 0, x) 0 [(0, .ref a0), (1, .int i1)] [] h Q := by
  unfold zX9_finds_0 at H
  refine J_sipush (v := 300) dX9_finds_0 (by decide) ?_
  refine J_iload_n dX9_finds_3 1 rfl ?_
  refine J_imul dX9_finds_4 ?_
  refine J_istore_n (L' := [(2, .int (300 * i1)), (0, .ref a0), (1, .int i1)]) dX9_finds_5 (by decide) rfl ?_
  exact J_pick [1, 2, 0] rfl H
theorem eX9_finds {l : Launch} {g : am_G} {d : Nat} {x : Bool} {a0 : Nat} {i1 : Int32} {h : am_H} {K : Int32 → am_H → Prop} (H : zX9_finds_0 l g d x a0 i1 h (fun r h' => ∃ v, r = some (.int v) ∧ K v h')) : cl_I l g mX9_finds (d + 1) x [.ref a0, .int i1] h K := rX9_finds_0 H
