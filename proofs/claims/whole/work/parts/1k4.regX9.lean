def zX9_partner_178 (l : Launch) (g : am_G) (d : Nat) (x : Bool) (s0 : Int32) (s1 : Int32) (h : am_H) (Q : Option Value → am_H → Prop) : Prop := Q (some (.int (s0 + s1))) h
set_option maxRecDepth 4000 in
theorem rX9_partner_178 {l : Launch} {g : am_G} {d : Nat} {x : Bool} {s0 : Int32} {s1 : Int32} {h : am_H} {Q : Option Value → am_H → Prop} (H : zX9_partner_178 l g d x s0 s1 h Q) : am_J l g mX9_partner d (0, 0, x) 178 [] [.int s1, .int s0] h Q := by
  unfold zX9_partner_178 at H
  refine J_iadd dX9_partner_178 ?_
  exact J_iret dX9_partner_179 ⟨_, rfl, rfl⟩ ⟨Nat.le_of_ble_eq_true rfl, Nat.le_of_ble_eq_true rfl, fun _ => rfl⟩ H
def zX9_partner_109 (l : Launch) (g : am_G) (d : Nat) (x : Bool) (a0 : Nat) (i3 : Int32) (i4 : Int32) (i5 : Int32) (i6 : Int32) (s0 : Int32) (s1 : Int32) (h : am_H) (Q : Option Value → am_H → Prop) : Prop := ((i6 < 0 → Q (some (.int (-1))) h) ∧ (¬ i6 < 0 → (((s0 + s1) < 0 → Q (some (.int (-1))) h) ∧ (¬ (s0 + s1) < 0 → gt_I h a0 9 18 (fun v1 => ((v1 ≤ i6 → Q (some (.int (-1))) h) ∧ (¬ v1 ≤ i6 → gt_I h a0 9 19 (fun v2 => (((s0 + s1) < v2 → gt_I h a0 9 18 (fun v3 => ((i3 = 0 → gt_R h a0 9 13 (fun v4 => al_I 0 h v4 i4 (fun v5 => zX9_partner_178 l g d x  ((((s0 + s1) * v3) + i6) * i5) v5 h Q))) ∧ (¬ i3 = 0 → gt_R h a0 9 14 (fun v6 => al_I 0 h v6 i4 (fun v7 => zX9_partner_178 l g d x  ((((s0 + s1) * v3) + i6) * i5) v7 h Q)))))) ∧ (¬ (s0 + s1) < v2 → Q (some (.int (-1))) h))))))))))
set_option maxRecDepth 4000 in
theorem rX9_partner_109 {l : Launch} {g : am_G} {d : Nat} {x : Bool} {a0 : Nat} {i3 : Int32} {i4 : Int32} {i5 : Int32} {i6 : Int32} {s0 : Int32} {s1 : Int32} {h : am_H} {Q : Option Value → am_H → Prop} (H : zX9_partner_109 l g d x a0 i3 i4 i5 i6 s0 s1 h Q) : am_J l g mX9_partner d (0, 0, x) 109 [(0, .ref a0), (3, .int i3), (4, .int i4), (5, .int i5), (6, .int i6)] [.int s1, .int s0] h Q := by
  unfold zX9_partner_109 at H
  refine J_iadd dX9_partner_109 ?_
  refine J_istore (L' := [(7, .int (s0 + s1)), (0, .ref a0), (3, .int i3), (4, .int i4), (5, .int i5), (6, .int i6)]) dX9_partner_110 (by decide) rfl ?_
  refine J_iload dX9_partner_112 5 rfl ?_
  obtain ⟨H1, H2⟩ := H
  refine J_if_lt (tgt := 140) dX9_partner_114 (by decide) (fun hc => ?_) (fun hc => ?_)
  · replace H := H1 hc
    clear H1 H2
    refine J_iconst (v := (-1)) dX9_partner_140 (by decide) ?_
    refine J_goto (tgt := 179) dX9_partner_141 (by decide) ?_
    exact J_iret dX9_partner_179 ⟨_, rfl, rfl⟩ ⟨Nat.le_of_ble_eq_true rfl, Nat.le_of_ble_eq_true rfl, fun _ => rfl⟩ H
  · replace H := H2 hc
    clear H1 H2
    refine J_iload dX9_partner_117 0 rfl ?_
    obtain ⟨H1, H2⟩ := H
    refine J_if_lt (tgt := 140) dX9_partner_119 (by decide) (fun hc => ?_) (fun hc => ?_)
    · replace H := H1 hc
      clear H1 H2
      refine J_iconst (v := (-1)) dX9_partner_140 (by decide) ?_
      refine J_goto (tgt := 179) dX9_partner_141 (by decide) ?_
      exact J_iret dX9_partner_179 ⟨_, rfl, rfl⟩ ⟨Nat.le_of_ble_eq_true rfl, Nat.le_of_ble_eq_true rfl, fun _ => rfl⟩ H
    · replace H := H2 hc
      clear H1 H2
      refine J_iload dX9_partner_122 5 rfl ?_
      refine J_aload_n dX9_partner_124 1 rfl ?_
      obtain ⟨fs, v1, hh, hk, H⟩ := H
      refine J_get dX9_partner_125 fX9_204 hh hk ?_
      clear hh hk
      obtain ⟨H1, H2⟩ := H
      refine J_icmp_ge (tgt := 140) dX9_partner_128 (by decide) (fun hc => ?_) (fun hc => ?_)
      · replace H := H1 hc
        clear H1 H2
        refine J_iconst (v := (-1)) dX9_partner_140 (by decide) ?_
        refine J_goto (tgt := 179) dX9_partner_141 (by decide) ?_
        exact J_iret dX9_partner_179 ⟨_, rfl, rfl⟩ ⟨Nat.le_of_ble_eq_true rfl, Nat.le_of_ble_eq_true rfl, fun _ => rfl⟩ H
      · replace H := H2 hc
        clear H1 H2
        refine J_iload dX9_partner_131 0 rfl ?_
        refine J_aload_n dX9_partner_133 1 rfl ?_
        obtain ⟨fs, v2, hh, hk, H⟩ := H
        refine J_get dX9_partner_134 fX9_207 hh hk ?_
        clear hh hk
        obtain ⟨H1, H2⟩ := H
        refine J_icmp_lt (tgt := 144) dX9_partner_137 (by decide) (fun hc => ?_) (fun hc => ?_)
        · replace H := H1 hc
          clear H1 H2
          refine J_iload dX9_partner_144 0 rfl ?_
          refine J_aload_n dX9_partner_146 1 rfl ?_
          obtain ⟨fs, v3, hh, hk, H⟩ := H
          refine J_get dX9_partner_147 fX9_204 hh hk ?_
          clear hh hk
          refine J_imul dX9_partner_150 ?_
          refine J_iload dX9_partner_151 5 rfl ?_
          refine J_iadd dX9_partner_153 ?_
          refine J_iload dX9_partner_154 4 rfl ?_
          refine J_imul dX9_partner_156 ?_
          refine J_iload_n dX9_partner_157 2 rfl ?_
          obtain ⟨H1, H2⟩ := H
          refine J_if_eq (tgt := 171) dX9_partner_158 (by decide) (fun hc => ?_) (fun hc => ?_)
          · replace H := H1 hc
            clear H1 H2
            refine J_aload_n dX9_partner_171 1 rfl ?_
            obtain ⟨fs, v4, hh, hk, H⟩ := H
            refine J_get dX9_partner_172 fX9_54 hh hk ?_
            clear hh hk
            refine J_iload dX9_partner_175 3 rfl ?_
            obtain ⟨nn, ff, hh, hk, H⟩ := H
            refine J_iald dX9_partner_177 hh hk ?_
            generalize ff (Int32.toNatClampNeg i4) = v5 at H ⊢
            clear hh hk ff
            exact J_pick [] rfl (rX9_partner_178 H)
          · replace H := H2 hc
            clear H1 H2
            refine J_aload_n dX9_partner_161 1 rfl ?_
            obtain ⟨fs, v6, hh, hk, H⟩ := H
            refine J_get dX9_partner_162 fX9_57 hh hk ?_
            clear hh hk
            refine J_iload dX9_partner_165 3 rfl ?_
            obtain ⟨nn, ff, hh, hk, H⟩ := H
            refine J_iald dX9_partner_167 hh hk ?_
            generalize ff (Int32.toNatClampNeg i4) = v7 at H ⊢
            clear hh hk ff
            refine J_goto (tgt := 178) dX9_partner_168 (by decide) ?_
            exact J_pick [] rfl (rX9_partner_178 H)
        · replace H := H2 hc
          clear H1 H2
          refine J_iconst (v := (-1)) dX9_partner_140 (by decide) ?_
          refine J_goto (tgt := 179) dX9_partner_141 (by decide) ?_
          exact J_iret dX9_partner_179 ⟨_, rfl, rfl⟩ ⟨Nat.le_of_ble_eq_true rfl, Nat.le_of_ble_eq_true rfl, fun _ => rfl⟩ H
def zX9_partner_75 (l : Launch) (g : am_G) (d : Nat) (x : Bool) (a0 : Nat) (i1 : Int32) (i3 : Int32) (i4 : Int32) (i5 : Int32) (s0 : Int32) (s1 : Int32) (h : am_H) (Q : Option Value → am_H → Prop) : Prop := (¬ i5 = 0 ∧ gt_I h a0 9 18 (fun v1 => (¬ v1 = 0 ∧ ((i3 = 0 → gt_R h a0 9 16 (fun v2 => al_I 0 h v2 i4 (fun v3 => zX9_partner_109 l g d x a0 i3 i4 i5 (s0 + s1) ((i1 / i5) / v1) (-v3) h Q))) ∧ (¬ i3 = 0 → gt_R h a0 9 16 (fun v4 => al_I 0 h v4 i4 (fun v5 => zX9_partner_109 l g d x a0 i3 i4 i5 (s0 + s1) ((i1 / i5) / v1) v5 h Q)))))))
set_option maxRecDepth 4000 in
theorem rX9_partner_75 {l : Launch} {g : am_G} {d : Nat} {x : Bool} {a0 : Nat} {i1 : Int32} {i3 : Int32} {i4 : Int32} {i5 : Int32} {s0 : Int32} {s1 : Int32} {h : am_H} {Q : Option Value → am_H → Prop} (H : zX9_partner_75 l g d x a0 i1 i3 i4 i5 s0 s1 h Q) : am_J l g mX9_partner d (0, 0, x) 75 [(0, .ref a0), (1, .int i1), (3, .int i3), (4, .int i4), (5, .int i5)] [.int s1, .int s0] h Q := by
  unfold zX9_partner_75 at H
  refine J_iadd dX9_partner_75 ?_
  refine J_istore (L' := [(6, .int (s0 + s1)), (0, .ref a0), (1, .int i1), (3, .int i3), (4, .int i4), (5, .int i5)]) dX9_partner_76 (by decide) rfl ?_
  refine J_iload_n dX9_partner_78 2 rfl ?_
  refine J_iload dX9_partner_79 5 rfl ?_
  obtain ⟨hn, H⟩ := H
  refine J_idiv dX9_partner_81 hn ?_
  refine J_aload_n dX9_partner_82 1 rfl ?_
  obtain ⟨fs, v1, hh, hk, H⟩ := H
  refine J_get dX9_partner_83 fX9_204 hh hk ?_
  clear hh hk
  obtain ⟨hn, H⟩ := H
  refine J_idiv dX9_partner_86 hn ?_
  refine J_iload_n dX9_partner_87 3 rfl ?_
  obtain ⟨H1, H2⟩ := H
  refine J_if_eq (tgt := 101) dX9_partner_88 (by decide) (fun hc => ?_) (fun hc => ?_)
  · replace H := H1 hc
    clear H1 H2
    refine J_aload_n dX9_partner_101 1 rfl ?_
    obtain ⟨fs, v2, hh, hk, H⟩ := H
    refine J_get dX9_partner_102 fX9_63 hh hk ?_
    clear hh hk
    refine J_iload dX9_partner_105 4 rfl ?_
    obtain ⟨nn, ff, hh, hk, H⟩ := H
    refine J_iald dX9_partner_107 hh hk ?_
    generalize ff (Int32.toNatClampNeg i4) = v3 at H ⊢
    clear hh hk ff
    refine J_ineg dX9_partner_108 ?_
    exact J_pick [1, 3, 4, 5, 0] rfl (rX9_partner_109 H)
  · replace H := H2 hc
    clear H1 H2
    refine J_aload_n dX9_partner_91 1 rfl ?_
    obtain ⟨fs, v4, hh, hk, H⟩ := H
    refine J_get dX9_partner_92 fX9_63 hh hk ?_
    clear hh hk
    refine J_iload dX9_partner_95 4 rfl ?_
    obtain ⟨nn, ff, hh, hk, H⟩ := H
    refine J_iald dX9_partner_97 hh hk ?_
    generalize ff (Int32.toNatClampNeg i4) = v5 at H ⊢
    clear hh hk ff
    refine J_goto (tgt := 109) dX9_partner_98 (by decide) ?_
    exact J_pick [1, 3, 4, 5, 0] rfl (rX9_partner_109 H)
def zX9_partner_39 (l : Launch) (g : am_G) (d : Nat) (x : Bool) (a0 : Nat) (i1 : Int32) (i3 : Int32) (i4 : Int32) (i5 : Int32) (s0 : Int32) (s1 : Int32) (h : am_H) (Q : Option Value → am_H → Prop) : Prop := ((s0 = s1 → (¬ i5 = 0 ∧ gt_I h a0 9 18 (fun v1 => (¬ v1 = 0 ∧ ((i3 = 0 → gt_R h a0 9 15 (fun v2 => al_I 0 h v2 i4 (fun v3 => zX9_partner_75 l g d x a0 i1 i3 i4 i5 ((i1 / i5) - (i1 / i5) / v1 * v1) (-v3) h Q))) ∧ (¬ i3 = 0 → gt_R h a0 9 15 (fun v4 => al_I 0 h v4 i4 (fun v5 => zX9_partner_75 l g d x a0 i1 i3 i4 i5 ((i1 / i5) - (i1 / i5) / v1 * v1) v5 h Q)))))))) ∧ (¬ s0 = s1 → Q (some (.int (-1))) h))
set_option maxRecDepth 4000 in
theorem rX9_partner_39 {l : Launch} {g : am_G} {d : Nat} {x : Bool} {a0 : Nat} {i1 : Int32} {i3 : Int32} {i4 : Int32} {i5 : Int32} {s0 : Int32} {s1 : Int32} {h : am_H} {Q : Option Value → am_H → Prop} (H : zX9_partner_39 l g d x a0 i1 i3 i4 i5 s0 s1 h Q) : am_J l g mX9_partner d (0, 0, x) 39 [(0, .ref a0), (1, .int i1), (3, .int i3), (4, .int i4), (5, .int i5)] [.int s1, .int s0] h Q := by
  unfold zX9_partner_39 at H
  obtain ⟨H1, H2⟩ := H
  refine J_icmp_eq (tgt := 44) dX9_partner_39 (by decide) (fun hc => ?_) (fun hc => ?_)
  · replace H := H1 hc
    clear H1 H2
    refine J_iload_n dX9_partner_44 1 rfl ?_
    refine J_iload dX9_partner_45 4 rfl ?_
    obtain ⟨hn, H⟩ := H
    refine J_idiv dX9_partner_47 hn ?_
    refine J_aload_n dX9_partner_48 0 rfl ?_
    obtain ⟨fs, v1, hh, hk, H⟩ := H
    refine J_get dX9_partner_49 fX9_204 hh hk ?_
    clear hh hk
    obtain ⟨hn, H⟩ := H
    refine J_irem dX9_partner_52 hn ?_
    refine J_iload_n dX9_partner_53 2 rfl ?_
    obtain ⟨H1, H2⟩ := H
    refine J_if_eq (tgt := 67) dX9_partner_54 (by decide) (fun hc => ?_) (fun hc => ?_)
    · replace H := H1 hc
      clear H1 H2
      refine J_aload_n dX9_partner_67 0 rfl ?_
      obtain ⟨fs, v2, hh, hk, H⟩ := H
      refine J_get dX9_partner_68 fX9_60 hh hk ?_
      clear hh hk
      refine J_iload dX9_partner_71 3 rfl ?_
      obtain ⟨nn, ff, hh, hk, H⟩ := H
      refine J_iald dX9_partner_73 hh hk ?_
      generalize ff (Int32.toNatClampNeg i4) = v3 at H ⊢
      clear hh hk ff
      refine J_ineg dX9_partner_74 ?_
      exact J_pick [0, 1, 2, 3, 4] rfl (rX9_partner_75 H)
    · replace H := H2 hc
      clear H1 H2
      refine J_aload_n dX9_partner_57 0 rfl ?_
      obtain ⟨fs, v4, hh, hk, H⟩ := H
      refine J_get dX9_partner_58 fX9_60 hh hk ?_
      clear hh hk
      refine J_iload dX9_partner_61 3 rfl ?_
      obtain ⟨nn, ff, hh, hk, H⟩ := H
      refine J_iald dX9_partner_63 hh hk ?_
      generalize ff (Int32.toNatClampNeg i4) = v5 at H ⊢
      clear hh hk ff
      refine J_goto (tgt := 75) dX9_partner_64 (by decide) ?_
      exact J_pick [0, 1, 2, 3, 4] rfl (rX9_partner_75 H)
  · replace H := H2 hc
    clear H1 H2
    refine J_iconst (v := (-1)) dX9_partner_42 (by decide) ?_
    exact J_iret dX9_partner_43 ⟨_, rfl, rfl⟩ ⟨Nat.le_of_ble_eq_true rfl, Nat.le_of_ble_eq_true rfl, fun _ => rfl⟩ H
def zX9_partner_0 (l : Launch) (g : am_G) (d : Nat) (x : Bool) (a0 : Nat) (i1 : Int32) (i2 : Int32) (i3 : Int32) (h : am_H) (Q : Option Value → am_H → Prop) : Prop := gt_R h a0 9 10 (fun v1 => al_I 0 h v1 2 (fun v2 => (¬ v2 = 0 ∧ ((i3 = 0 → gt_R h a0 9 14 (fun v3 => al_I 0 h v3 (48 + i2) (fun v4 => zX9_partner_39 l g d x a0 i1 i3 (48 + i2) v2 (i1 - i1 / v2 * v2) v4 h Q))) ∧ (¬ i3 = 0 → gt_R h a0 9 13 (fun v5 => al_I 0 h v5 (48 + i2) (fun v6 => zX9_partner_39 l g d x a0 i1 i3 (48 + i2) v2 (i1 - i1 / v2 * v2) v6 h Q)))))))
set_option maxRecDepth 4000 in
theorem rX9_partner_0 {l : Launch} {g : am_G} {d : Nat} {x : Bool} {a0 : Nat} {i1 : Int32} {i2 : Int32} {i3 : Int32} {h : am_H} {Q : Option Value → am_H → Prop} (H : zX9_partner_0 l g d x a0 i1 i2 i3 h Q) : am_J l g mX9_partner d (0, 0, x) 0 [(0, .ref a0), (1, .int i1), (2, .int i2), (3, .int i3)] [] h Q := by
  unfold zX9_partner_0 at H
  refine J_bipush (v := 48) dX9_partner_0 (by decide) ?_
  refine J_iload_n dX9_partner_2 2 rfl ?_
  refine J_iadd dX9_partner_3 ?_
  refine J_istore (L' := [(4, .int (48 + i2)), (0, .ref a0), (1, .int i1), (2, .int i2), (3, .int i3)]) dX9_partner_4 (by decide) rfl ?_
  refine J_aload_n dX9_partner_6 1 rfl ?_
  obtain ⟨fs, v1, hh, hk, H⟩ := H
  refine J_get dX9_partner_7 fX9_45 hh hk ?_
  clear hh hk
  refine J_iconst (v := 2) dX9_partner_10 (by decide) ?_
  obtain ⟨nn, ff, hh, hk, H⟩ := H
  refine J_iald dX9_partner_11 hh hk ?_
  generalize ff (Int32.toNatClampNeg 2) = v2 at H ⊢
  clear hh hk ff
  refine J_istore (L' := [(5, .int v2), (4, .int (48 + i2)), (0, .ref a0), (1, .int i1), (2, .int i2), (3, .int i3)]) dX9_partner_12 (by decide) rfl ?_
  refine J_iload_n dX9_partner_14 3 rfl ?_
  refine J_iload dX9_partner_15 0 rfl ?_
  obtain ⟨hn, H⟩ := H
  refine J_irem dX9_partner_17 hn ?_
  refine J_iload_n dX9_partner_18 5 rfl ?_
  obtain ⟨H1, H2⟩ := H
  refine J_if_eq (tgt := 32) dX9_partner_19 (by decide) (fun hc => ?_) (fun hc => ?_)
  · replace H := H1 hc
    clear H1 H2
    refine J_aload_n dX9_partner_32 2 rfl ?_
    obtain ⟨fs, v3, hh, hk, H⟩ := H
    refine J_get dX9_partner_33 fX9_57 hh hk ?_
    clear hh hk
    refine J_iload dX9_partner_36 1 rfl ?_
    obtain ⟨nn, ff, hh, hk, H⟩ := H
    refine J_iald dX9_partner_38 hh hk ?_
    generalize ff (Int32.toNatClampNeg (48 + i2)) = v4 at H ⊢
    clear hh hk ff
    exact J_pick [2, 3, 5, 1, 0] rfl (rX9_partner_39 H)
  · replace H := H2 hc
    clear H1 H2
    refine J_aload_n dX9_partner_22 2 rfl ?_
    obtain ⟨fs, v5, hh, hk, H⟩ := H
    refine J_get dX9_partner_23 fX9_54 hh hk ?_
    clear hh hk
    refine J_iload dX9_partner_26 1 rfl ?_
    obtain ⟨nn, ff, hh, hk, H⟩ := H
    refine J_iald dX9_partner_28 hh hk ?_
    generalize ff (Int32.toNatClampNeg (48 + i2)) = v6 at H ⊢
    clear hh hk ff
    refine J_goto (tgt := 39) dX9_partner_29 (by decide) ?_
    exact J_pick [2, 3, 5, 1, 0] rfl (rX9_partner_39 H)
theorem eX9_partner {l : Launch} {g : am_G} {d : Nat} {x : Bool} {a0 : Nat} {i1 : Int32} {i2 : Int32} {i3 : Int32} {h : am_H} {K : Int32 → am_H → Prop} (H : zX9_partner_0 l g d x a0 i1 i2 i3 h (fun r h' => ∃ v, r = some (.int v) ∧ K v h')) : cl_I l g mX9_partner d x [.ref a0, .int i1, .int i2, .int i3] h K := rX9_partner_0 H
def zX9_links_95 (l : Launch) (g : am_G) (d : Nat) (x : Bool) (a0 : Nat) (i1 : Int32) (i2 : Int32) (h : am_H) (Q : Option Value → am_H → Prop) : Prop := am_J l g mX9_links (d + 1) (0, 0, x) 2 [(0, .ref a0), (1, .int i1), (2, .int (i2 + 1))] [] h Q
set_option maxRecDepth 4000 in
theorem rX9_links_95 {l : Launch} {g : am_G} {d : Nat} {x : Bool} {a0 : Nat} {i1 : Int32} {i2 : Int32} {h : am_H} {Q : Option Value → am_H → Prop} (H : zX9_links_95 l g d x a0 i1 i2 h Q) : am_J l g mX9_links (d + 1) (0, 0, x) 95 [(0, .ref a0), (1, .int i1), (2, .int i2)] [] h Q := by
  unfold zX9_links_95 at H
  refine J_iinc (v := (i2 + 1)) (L' := [(2, .int (i2 + 1)), (0, .ref a0), (1, .int i1)]) dX9_links_95 2 rfl rfl (by decide) rfl ?_
  refine J_goto (tgt := 2) dX9_links_98 (by decide) ?_
  exact J_pick [1, 2, 0] rfl H
def zX9_links_71 (l : Launch) (g : am_G) (d : Nat) (x : Bool) (a0 : Nat) (i1 : Int32) (i2 : Int32) (i3 : Int32) (i5 : Int32) (h : am_H) (Q : Option Value → am_H → Prop) : Prop := ((i5 < 0 → zX9_links_95 l g d x a0 i1 i2  h Q) ∧ (¬ i5 < 0 → gt_R h a0 9 22 (fun v1 => al_I 2 h v1 i5 (fun v2 => ((v2 = 0 → zX9_links_95 l g d x a0 i1 i2  h Q) ∧ (¬ v2 = 0 → cv_N l g mX9_sets d x 9 a0 [.int i1, .int i5, .int (-i3)] h (fun h3 => zX9_links_95 l g d x a0 i1 i2  h3 Q)))))))
set_option maxRecDepth 4000 in
theorem rX9_links_71 {l : Launch} {g : am_G} {d : Nat} {x : Bool} {a0 : Nat} {i1 : Int32} {i2 : Int32} {i3 : Int32} {i5 : Int32} {h : am_H} {Q : Option Value → am_H → Prop} (H : zX9_links_71 l g d x a0 i1 i2 i3 i5 h Q) : am_J l g mX9_links (d + 1) (0, 0, x) 71 [(0, .ref a0), (1, .int i1), (2, .int i2), (3, .int i3), (5, .int i5)] [] h Q := by
  unfold zX9_links_71 at H
  refine J_iload dX9_links_71 4 rfl ?_
  obtain ⟨H1, H2⟩ := H
  refine J_if_lt (tgt := 95) dX9_links_73 (by decide) (fun hc => ?_) (fun hc => ?_)
  · replace H := H1 hc
    clear H1 H2
    exact J_pick [0, 1, 2] rfl (rX9_links_95 H)
  · replace H := H2 hc
    clear H1 H2
    refine J_aload_n dX9_links_76 0 rfl ?_
    obtain ⟨fs, v1, hh, hk, H⟩ := H
    refine J_get dX9_links_77 fX9_70 hh hk ?_
    clear hh hk
    refine J_iload dX9_links_80 4 rfl ?_
    obtain ⟨nn, ff, hh, hk, H⟩ := H
    refine J_zald dX9_links_82 hh hk ?_
    generalize ff (Int32.toNatClampNeg i5) = v2 at H ⊢
    clear hh hk ff
    obtain ⟨H1, H2⟩ := H
    refine J_if_eq (tgt := 95) dX9_links_83 (by decide) (fun hc => ?_) (fun hc => ?_)
    · replace H := H1 hc
      clear H1 H2
      exact J_pick [0, 1, 2] rfl (rX9_links_95 H)
    · replace H := H2 hc
      clear H1 H2
      refine J_aload_n dX9_links_86 0 rfl ?_
      refine J_iload_n dX9_links_87 1 rfl ?_
      refine J_iload dX9_links_88 4 rfl ?_
      refine J_iload_n dX9_links_90 3 rfl ?_
      refine J_ineg dX9_links_91 ?_
      obtain ⟨⟨fs, hh⟩, H⟩ := H
      refine J_callV (As := [.int i1, .int i5, .int (-i3)]) (S := []) (b := a0) dX9_links_92 mX9_sets_ok kX9_214 rfl (by decide) (Nat.le_of_ble_eq_true rfl) hh rfl rfl (Nat.le_of_ble_eq_true rfl) ⟨Nat.le_of_ble_eq_true rfl, Nat.le_of_ble_eq_true rfl⟩ (fun k h' hp => ?_) H (fun r h3 hp => ?_)
      · obtain ⟨hv, -⟩ := hp; cases hv
      obtain ⟨rfl, H⟩ := hp
      show am_J l g mX9_links (d + 1) (0, 0, x) 95 [(0, .ref a0), (1, .int i1), (2, .int i2), (3, .int i3), (5, .int i5)] [] h3 Q
      exact J_pick [0, 1, 2] rfl (rX9_links_95 H)
def zX9_links_29 (l : Launch) (g : am_G) (d : Nat) (x : Bool) (a0 : Nat) (i1 : Int32) (i2 : Int32) (s0 : Int32) (h : am_H) (Q : Option Value → am_H → Prop) : Prop := cv_I l g mX9_partner d x 9 a0 [.int i1, .int i2, .int 1] h (fun v2 h1 => cv_I l g mX9_partner d x 9 a0 [.int i1, .int i2, .int 0] h1 (fun v4 h3 => ((v2 < 0 → zX9_links_71 l g d x a0 i1 i2 s0 v4  h3 Q) ∧ (¬ v2 < 0 → gt_R h3 a0 9 22 (fun v5 => al_I 2 h3 v5 v2 (fun v6 => ((v6 = 0 → zX9_links_71 l g d x a0 i1 i2 s0 v4  h3 Q) ∧ (¬ v6 = 0 → cv_N l g mX9_sets d x 9 a0 [.int i1, .int v2, .int s0] h3 (fun h7 => zX9_links_71 l g d x a0 i1 i2 s0 v4  h7 Q)))))))))
set_option maxRecDepth 4000 in
theorem rX9_links_29 {l : Launch} {g : am_G} {d : Nat} {x : Bool} {a0 : Nat} {i1 : Int32} {i2 : Int32} {s0 : Int32} {h : am_H} {Q : Option Value → am_H → Prop} (H : zX9_links_29 l g d x a0 i1 i2 s0 h Q) : am_J l g mX9_links (d + 1) (0, 0, x) 29 [(0, .ref a0), (1, .int i1), (2, .int i2)] [.int s0] h Q := by
  unfold zX9_links_29 at H
  refine J_istore_n (L' := [(3, .int s0), (0, .ref a0), (1, .int i1), (2, .int i2)]) dX9_links_29 (by decide) rfl ?_
  refine J_aload_n dX9_links_30 1 rfl ?_
  refine J_iload_n dX9_links_31 2 rfl ?_
  refine J_iload_n dX9_links_32 3 rfl ?_
  refine J_iconst (v := 1) dX9_links_33 (by decide) ?_
  obtain ⟨⟨fs, hh⟩, H⟩ := H
  refine J_callV (As := [.int i1, .int i2, .int 1]) (S := []) (b := a0) dX9_links_34 mX9_partner_ok kX9_210 rfl (by decide) (Nat.le_of_ble_eq_true rfl) hh rfl rfl (Nat.le_of_ble_eq_true rfl) ⟨Nat.le_of_ble_eq_true rfl, Nat.le_of_ble_eq_true rfl⟩ (fun k h' hp => ?_) H (fun r h1 hp => ?_)
  · obtain ⟨_, hv, -⟩ := hp; cases hv
  obtain ⟨v2, rfl, H⟩ := hp
  show am_J l g mX9_links (d + 1) (0, 0, x) 37 [(3, .int s0), (0, .ref a0), (1, .int i1), (2, .int i2)] [.int v2] h1 Q
  refine J_istore (L' := [(4, .int v2), (3, .int s0), (0, .ref a0), (1, .int i1), (2, .int i2)]) dX9_links_37 (by decide) rfl ?_
  refine J_aload_n dX9_links_39 2 rfl ?_
  refine J_iload_n dX9_links_40 3 rfl ?_
  refine J_iload_n dX9_links_41 4 rfl ?_
  refine J_iconst (v := 0) dX9_links_42 (by decide) ?_
  obtain ⟨⟨fs, hh⟩, H⟩ := H
  refine J_callV (As := [.int i1, .int i2, .int 0]) (S := []) (b := a0) dX9_links_43 mX9_partner_ok kX9_210 rfl (by decide) (Nat.le_of_ble_eq_true rfl) hh rfl rfl (Nat.le_of_ble_eq_true rfl) ⟨Nat.le_of_ble_eq_true rfl, Nat.le_of_ble_eq_true rfl⟩ (fun k h' hp => ?_) H (fun r h3 hp => ?_)
  · obtain ⟨_, hv, -⟩ := hp; cases hv
  obtain ⟨v4, rfl, H⟩ := hp
  show am_J l g mX9_links (d + 1) (0, 0, x) 46 [(4, .int v2), (3, .int s0), (0, .ref a0), (1, .int i1), (2, .int i2)] [.int v4] h3 Q
  refine J_istore (L' := [(5, .int v4), (4, .int v2), (3, .int s0), (0, .ref a0), (1, .int i1), (2, .int i2)]) dX9_links_46 (by decide) rfl ?_
  refine J_iload dX9_links_48 1 rfl ?_
  obtain ⟨H1, H2⟩ := H
  refine J_if_lt (tgt := 71) dX9_links_50 (by decide) (fun hc => ?_) (fun hc => ?_)
  · replace H := H1 hc
    clear H1 H2
    exact J_pick [3, 4, 5, 2, 0] rfl (rX9_links_71 H)
  · replace H := H2 hc
    clear H1 H2
    refine J_aload_n dX9_links_53 3 rfl ?_
    obtain ⟨fs, v5, hh, hk, H⟩ := H
    refine J_get dX9_links_54 fX9_70 hh hk ?_
    clear hh hk
    refine J_iload dX9_links_57 1 rfl ?_
    obtain ⟨nn, ff, hh, hk, H⟩ := H
    refine J_zald dX9_links_59 hh hk ?_
    generalize ff (Int32.toNatClampNeg v2) = v6 at H ⊢
    clear hh hk ff
    obtain ⟨H1, H2⟩ := H
    refine J_if_eq (tgt := 71) dX9_links_60 (by decide) (fun hc => ?_) (fun hc => ?_)
    · replace H := H1 hc
      clear H1 H2
      exact J_pick [3, 4, 5, 2, 0] rfl (rX9_links_71 H)
    · replace H := H2 hc
      clear H1 H2
      refine J_aload_n dX9_links_63 3 rfl ?_
      refine J_iload_n dX9_links_64 4 rfl ?_
      refine J_iload dX9_links_65 1 rfl ?_
      refine J_iload_n dX9_links_67 2 rfl ?_
      obtain ⟨⟨fs, hh⟩, H⟩ := H
      refine J_callV (As := [.int i1, .int v2, .int s0]) (S := []) (b := a0) dX9_links_68 mX9_sets_ok kX9_214 rfl (by decide) (Nat.le_of_ble_eq_true rfl) hh rfl rfl (Nat.le_of_ble_eq_true rfl) ⟨Nat.le_of_ble_eq_true rfl, Nat.le_of_ble_eq_true rfl⟩ (fun k h' hp => ?_) H (fun r h7 hp => ?_)
      · obtain ⟨hv, -⟩ := hp; cases hv
      obtain ⟨rfl, H⟩ := hp
      show am_J l g mX9_links (d + 1) (0, 0, x) 71 [(5, .int v4), (4, .int v2), (3, .int s0), (0, .ref a0), (1, .int i1), (2, .int i2)] [] h7 Q
      exact J_pick [3, 4, 5, 2, 0] rfl (rX9_links_71 H)
def zX9_links_2 (l : Launch) (g : am_G) (d : Nat) (x : Bool) (a0 : Nat) (i1 : Int32) (i2 : Int32) (h : am_H) (Q : Option Value → am_H → Prop) : Prop := gt_R h a0 9 12 (fun v1 => al_I 0 h v1 2 (fun v2 => ((v2 ≤ i2 → Q none h) ∧ (¬ v2 ≤ i2 → gt_R h a0 9 17 (fun v3 => al_I 2 h v3 (48 + i2) (fun v4 => ((v4 = 0 → zX9_links_29 l g d x a0 i1 i2 (-1) h Q) ∧ (¬ v4 = 0 → zX9_links_29 l g d x a0 i1 i2 1 h Q))))))))
set_option maxRecDepth 4000 in
theorem rX9_links_2 {l : Launch} {g : am_G} {d : Nat} {x : Bool} {a0 : Nat} {i1 : Int32} {i2 : Int32} {h : am_H} {Q : Option Value → am_H → Prop} (H : zX9_links_2 l g d x a0 i1 i2 h Q) : am_J l g mX9_links (d + 1) (0, 0, x) 2 [(0, .ref a0), (1, .int i1), (2, .int i2)] [] h Q := by
  unfold zX9_links_2 at H
  refine J_iload_n dX9_links_2 2 rfl ?_
  refine J_aload_n dX9_links_3 0 rfl ?_
  obtain ⟨fs, v1, hh, hk, H⟩ := H
  refine J_get dX9_links_4 fX9_51 hh hk ?_
  clear hh hk
  refine J_iconst (v := 2) dX9_links_7 (by decide) ?_
  obtain ⟨nn, ff, hh, hk, H⟩ := H
  refine J_iald dX9_links_8 hh hk ?_
  generalize ff (Int32.toNatClampNeg 2) = v2 at H ⊢
  clear hh hk ff
  obtain ⟨H1, H2⟩ := H
  refine J_icmp_ge (tgt := 101) dX9_links_9 (by decide) (fun hc => ?_) (fun hc => ?_)
  · replace H := H1 hc
    clear H1 H2
    exact J_vret dX9_links_101 rfl ⟨Nat.le_of_ble_eq_true rfl, Nat.le_of_ble_eq_true rfl, fun _ => rfl⟩ H
  · replace H := H2 hc
    clear H1 H2
    refine J_aload_n dX9_links_12 0 rfl ?_
    obtain ⟨fs, v3, hh, hk, H⟩ := H
    refine J_get dX9_links_13 fX9_66 hh hk ?_
    clear hh hk
    refine J_bipush (v := 48) dX9_links_16 (by decide) ?_
    refine J_iload_n dX9_links_18 2 rfl ?_
    refine J_iadd dX9_links_19 ?_
    obtain ⟨nn, ff, hh, hk, H⟩ := H
    refine J_zald dX9_links_20 hh hk ?_
    generalize ff (Int32.toNatClampNeg (48 + i2)) = v4 at H ⊢
    clear hh hk ff
    obtain ⟨H1, H2⟩ := H
    refine J_if_eq (tgt := 28) dX9_links_21 (by decide) (fun hc => ?_) (fun hc => ?_)
    · replace H := H1 hc
      clear H1 H2
      refine J_iconst (v := (-1)) dX9_links_28 (by decide) ?_
      exact J_pick [0, 1, 2] rfl (rX9_links_29 H)
    · replace H := H2 hc
      clear H1 H2
      refine J_iconst (v := 1) dX9_links_24 (by decide) ?_
      refine J_goto (tgt := 29) dX9_links_25 (by decide) ?_
      exact J_pick [0, 1, 2] rfl (rX9_links_29 H)
def zX9_links_0 (l : Launch) (g : am_G) (d : Nat) (x : Bool) (a0 : Nat) (i1 : Int32) (h : am_H) (Q : Option Value → am_H → Prop) : Prop := am_J l g mX9_links (d + 1) (0, 0, x) 2 [(0, .ref a0), (1, .int i1), (2, .int 0)] [] h Q
set_option maxRecDepth 4000 in
theorem rX9_links_0 {l : Launch} {g : am_G} {d : Nat} {x : Bool} {a0 : Nat} {i1 : Int32} {h : am_H} {Q : Option Value → am_H → Prop} (H : zX9_links_0 l g d x a0 i1 h Q) : am_J l g mX9_links (d + 1) (0, 0, x) 0 [(0, .ref a0), (1, .int i1)] [] h Q := by
  unfold zX9_links_0 at H
  refine J_iconst (v := 0) dX9_links_0 (by decide) ?_
  refine J_istore_n (L' := [(2, .int 0), (0, .ref a0), (1, .int i1)]) dX9_links_1 (by decide) rfl ?_
  exact J_pick [1, 2, 0] rfl H
theorem eX9_links {l : Launch} {g : am_G} {d : Nat} {x : Bool} {a0 : Nat} {i1 : Int32} {h : am_H} {K : am_H → Prop} (H : zX9_links_0 l g d x a0 i1 h (fun r h' => r = none ∧ K h')) : cl_N l g mX9_links (d + 1) x [.ref a0, .int i1] h K := rX9_links_0 H
def zX9_lay__149 (l : Launch) (g : am_G) (d : Nat) (x : Bool) (a0 : Nat) (i3 : Int32) (h : am_H) (Q : Option Value → am_H → Prop) : Prop := gt_I h a0 9 21 (fun v1 => ((v1 ≤ i3 → gt_I h a0 9 21 (fun v2 => Q (some (.int v2)) h)) ∧ (¬ v1 ≤ i3 → cv_N l g mX9_links d x 9 a0 [.int i3] h (fun h3 => am_J l g mX9_lay_ (d + 1) (0, 0, x) 149 [(0, .ref a0), (3, .int (i3 + 1))] [] h3 Q))))
set_option maxRecDepth 4000 in
theorem rX9_lay__149 {l : Launch} {g : am_G} {d : Nat} {x : Bool} {a0 : Nat} {i3 : Int32} {h : am_H} {Q : Option Value → am_H → Prop} (H : zX9_lay__149 l g d x a0 i3 h Q) : am_J l g mX9_lay_ (d + 1) (0, 0, x) 149 [(0, .ref a0), (3, .int i3)] [] h Q := by
  unfold zX9_lay__149 at H
  refine J_iload_n dX9_lay__149 1 rfl ?_
  refine J_aload_n dX9_lay__150 0 rfl ?_
  obtain ⟨fs, v1, hh, hk, H⟩ := H
  refine J_get dX9_lay__151 fX9_201 hh hk ?_
  clear hh hk
  obtain ⟨H1, H2⟩ := H
  refine J_icmp_ge (tgt := 168) dX9_lay__154 (by decide) (fun hc => ?_) (fun hc => ?_)
  · replace H := H1 hc
    clear H1 H2
    refine J_aload_n dX9_lay__168 0 rfl ?_
    obtain ⟨fs, v2, hh, hk, H⟩ := H
    refine J_get dX9_lay__169 fX9_201 hh hk ?_
    clear hh hk
    exact J_iret dX9_lay__172 ⟨_, rfl, rfl⟩ ⟨Nat.le_of_ble_eq_true rfl, Nat.le_of_ble_eq_true rfl, fun _ => rfl⟩ H
  · replace H := H2 hc
    clear H1 H2
    refine J_aload_n dX9_lay__157 0 rfl ?_
    refine J_iload_n dX9_lay__158 1 rfl ?_
    obtain ⟨⟨fs, hh⟩, H⟩ := H
    refine J_callV (As := [.int i3]) (S := []) (b := a0) dX9_lay__159 mX9_links_ok kX9_221 rfl (by decide) (Nat.le_of_ble_eq_true rfl) hh rfl rfl (Nat.le_of_ble_eq_true rfl) ⟨Nat.le_of_ble_eq_true rfl, Nat.le_of_ble_eq_true rfl⟩ (fun k h' hp => ?_) H (fun r h3 hp => ?_)
    · obtain ⟨hv, -⟩ := hp; cases hv
    obtain ⟨rfl, H⟩ := hp
    show am_J l g mX9_lay_ (d + 1) (0, 0, x) 162 [(0, .ref a0), (3, .int i3)] [] h3 Q
    refine J_iinc (v := (i3 + 1)) (L' := [(3, .int (i3 + 1)), (0, .ref a0)]) dX9_lay__162 1 rfl rfl (by decide) rfl ?_
    refine J_goto (tgt := 149) dX9_lay__165 (by decide) ?_
    exact J_pick [1, 0] rfl H
def zX9_lay__140 (l : Launch) (g : am_G) (d : Nat) (x : Bool) (a0 : Nat) (i3 : Int32) (s0 : Nat) (s1 : Int32) (s2 : Int32) (h : am_H) (Q : Option Value → am_H → Prop) : Prop := ((s2 = 0 ∨ s2 = 1) ∧ as_I 2 h s0 s1 s2 (fun h1 => am_J l g mX9_lay_ (d + 1) (0, 0, x) 115 [(0, .ref a0), (3, .int (i3 + 1))] [] h1 Q))
set_option maxRecDepth 4000 in
theorem rX9_lay__140 {l : Launch} {g : am_G} {d : Nat} {x : Bool} {a0 : Nat} {i3 : Int32} {s0 : Nat} {s1 : Int32} {s2 : Int32} {h : am_H} {Q : Option Value → am_H → Prop} (H : zX9_lay__140 l g d x a0 i3 s0 s1 s2 h Q) : am_J l g mX9_lay_ (d + 1) (0, 0, x) 140 [(0, .ref a0), (3, .int i3)] [.int s2, .int s1, .ref s0] h Q := by
  unfold zX9_lay__140 at H
  obtain ⟨hb, H⟩ := H
  obtain ⟨nn, ff, hh, hk, H⟩ := H
  refine J_zast dX9_lay__140 hh hk (by rcases hb with e | e <;> rw [e] <;> rfl) ?_
  generalize List.set h s0 (am_I 2 nn (upd ff (Int32.toNatClampNeg s1) s2)) = h1 at H ⊢
  clear hh hk
  refine J_iinc (v := (i3 + 1)) (L' := [(3, .int (i3 + 1)), (0, .ref a0)]) dX9_lay__141 1 rfl rfl (by decide) rfl ?_
  refine J_goto (tgt := 115) dX9_lay__144 (by decide) ?_
  exact J_pick [1, 0] rfl H
def zX9_lay__115 (l : Launch) (g : am_G) (d : Nat) (x : Bool) (a0 : Nat) (i3 : Int32) (h : am_H) (Q : Option Value → am_H → Prop) : Prop := ((300 ≤ i3 → am_J l g mX9_lay_ (d + 1) (0, 0, x) 149 [(0, .ref a0), (3, .int 0)] [] h Q) ∧ (¬ 300 ≤ i3 → gt_R h a0 9 22 (fun v1 => gt_I h a0 9 21 (fun v2 => ((v2 ≤ i3 → zX9_lay__140 l g d x a0 i3 v1 i3 0 h Q) ∧ (¬ v2 ≤ i3 → zX9_lay__140 l g d x a0 i3 v1 i3 1 h Q))))))
set_option maxRecDepth 4000 in
theorem rX9_lay__115 {l : Launch} {g : am_G} {d : Nat} {x : Bool} {a0 : Nat} {i3 : Int32} {h : am_H} {Q : Option Value → am_H → Prop} (H : zX9_lay__115 l g d x a0 i3 h Q) : am_J l g mX9_lay_ (d + 1) (0, 0, x) 115 [(0, .ref a0), (3, .int i3)] [] h Q := by
  unfold zX9_lay__115 at H
  refine J_iload_n dX9_lay__115 1 rfl ?_
  refine J_sipush (v := 300) dX9_lay__116 (by decide) ?_
  obtain ⟨H1, H2⟩ := H
  refine J_icmp_ge (tgt := 147) dX9_lay__119 (by decide) (fun hc => ?_) (fun hc => ?_)
  · replace H := H1 hc
    clear H1 H2
    refine J_iconst (v := 0) dX9_lay__147 (by decide) ?_
    refine J_istore_n (L' := [(3, .int 0), (0, .ref a0)]) dX9_lay__148 (by decide) rfl ?_
    exact J_pick [1, 0] rfl H
  · replace H := H2 hc
    clear H1 H2
    refine J_aload_n dX9_lay__122 0 rfl ?_
    obtain ⟨fs, v1, hh, hk, H⟩ := H
    refine J_get dX9_lay__123 fX9_70 hh hk ?_
    clear hh hk
    refine J_iload_n dX9_lay__126 1 rfl ?_
    refine J_iload_n dX9_lay__127 1 rfl ?_
    refine J_aload_n dX9_lay__128 0 rfl ?_
    obtain ⟨fs, v2, hh, hk, H⟩ := H
    refine J_get dX9_lay__129 fX9_201 hh hk ?_
    clear hh hk
    obtain ⟨H1, H2⟩ := H
    refine J_icmp_ge (tgt := 139) dX9_lay__132 (by decide) (fun hc => ?_) (fun hc => ?_)
    · replace H := H1 hc
      clear H1 H2
      refine J_iconst (v := 0) dX9_lay__139 (by decide) ?_
      exact J_pick [0, 1] rfl (rX9_lay__140 H)
    · replace H := H2 hc
      clear H1 H2
      refine J_iconst (v := 1) dX9_lay__135 (by decide) ?_
      refine J_goto (tgt := 140) dX9_lay__136 (by decide) ?_
      exact J_pick [0, 1] rfl (rX9_lay__140 H)
def zX9_lay__94 (l : Launch) (g : am_G) (d : Nat) (x : Bool) (a0 : Nat) (i3 : Int32) (h : am_H) (Q : Option Value → am_H → Prop) : Prop := ((90000 ≤ i3 → am_J l g mX9_lay_ (d + 1) (0, 0, x) 115 [(0, .ref a0), (3, .int 0)] [] h Q) ∧ (¬ 90000 ≤ i3 → gt_R h a0 9 23 (fun v1 => as_I 0 h v1 i3 0 (fun h2 => am_J l g mX9_lay_ (d + 1) (0, 0, x) 94 [(0, .ref a0), (3, .int (i3 + 1))] [] h2 Q))))
set_option maxRecDepth 4000 in
theorem rX9_lay__94 {l : Launch} {g : am_G} {d : Nat} {x : Bool} {a0 : Nat} {i3 : Int32} {h : am_H} {Q : Option Value → am_H → Prop} (H : zX9_lay__94 l g d x a0 i3 h Q) : am_J l g mX9_lay_ (d + 1) (0, 0, x) 94 [(0, .ref a0), (3, .int i3)] [] h Q := by
  unfold zX9_lay__94 at H
  refine J_iload_n dX9_lay__94 1 rfl ?_
  refine J_ldc (v := 90000) dX9_lay__95 qX9_73 ?_
  obtain ⟨H1, H2⟩ := H
  refine J_icmp_ge (tgt := 113) dX9_lay__97 (by decide) (fun hc => ?_) (fun hc => ?_)
  · replace H := H1 hc
    clear H1 H2
    refine J_iconst (v := 0) dX9_lay__113 (by decide) ?_
    refine J_istore_n (L' := [(3, .int 0), (0, .ref a0)]) dX9_lay__114 (by decide) rfl ?_
    exact J_pick [1, 0] rfl H
  · replace H := H2 hc
    clear H1 H2
    refine J_aload_n dX9_lay__100 0 rfl ?_
    obtain ⟨fs, v1, hh, hk, H⟩ := H
    refine J_get dX9_lay__101 fX9_74 hh hk ?_
    clear hh hk
    refine J_iload_n dX9_lay__104 1 rfl ?_
    refine J_iconst (v := 0) dX9_lay__105 (by decide) ?_
    obtain ⟨nn, ff, hh, hk, H⟩ := H
    refine J_iast dX9_lay__106 hh hk ?_
    generalize List.set h v1 (am_I 0 nn (upd ff (Int32.toNatClampNeg i3) 0)) = h2 at H ⊢
    clear hh hk
    refine J_iinc (v := (i3 + 1)) (L' := [(3, .int (i3 + 1)), (0, .ref a0)]) dX9_lay__107 1 rfl rfl (by decide) rfl ?_
    refine J_goto (tgt := 94) dX9_lay__110 (by decide) ?_
    exact J_pick [1, 0] rfl H
def zX9_lay__0 (l : Launch) (g : am_G) (d : Nat) (x : Bool) (a0 : Nat) (i1 : Int32) (i2 : Int32) (h : am_H) (Q : Option Value → am_H → Prop) : Prop := pt_V h a0 9 0 (.int 0) (fun h1 => gt_R h1 a0 9 10 (fun v2 => al_I 0 h1 v2 0 (fun v3 => ((v3 = 0 → Q (some (.int (-1))) h1) ∧ (¬ v3 = 0 → ((i1 < 1 → Q (some (.int (-1))) h1) ∧ (¬ i1 < 1 → ((12 < i1 → Q (some (.int (-1))) h1) ∧ (¬ 12 < i1 → ((i2 < 1 → Q (some (.int (-1))) h1) ∧ (¬ i2 < 1 → ((12 < i2 → Q (some (.int (-1))) h1) ∧ (¬ 12 < i2 → gt_R h1 a0 9 10 (fun v4 => al_I 0 h1 v4 0 (fun v5 => ((((i1 * i2) * v5) ≤ 240 → cv_N l g mX9_copies d x 9 a0 [.int 0, .int 2] h1 (fun h6 => pt_V h6 a0 9 18 (.int i1) (fun h8 => pt_V h8 a0 9 19 (.int i2) (fun h9 => gt_R h9 a0 9 10 (fun v10 => al_I 0 h9 v10 2 (fun v11 => pt_V h9 a0 9 20 (.int ((i1 * i2) * v11)) (fun h12 => gt_I h12 a0 9 20 (fun v13 => pt_V h12 a0 9 21 (.int v13) (fun h14 => am_J l g mX9_lay_ (d + 1) (0, 0, x) 94 [(0, .ref a0), (3, .int 0)] [] h14 Q))))))))) ∧ (¬ ((i1 * i2) * v5) ≤ 240 → Q (some (.int (-1))) h1)))))))))))))))))
set_option maxRecDepth 4000 in
theorem rX9_lay__0 {l : Launch} {g : am_G} {d : Nat} {x : Bool} {a0 : Nat} {i1 : Int32} {i2 : Int32} {h : am_H} {Q : Option Value → am_H → Prop} (H : zX9_lay__0 l g d x a0 i1 i2 h Q) : am_J l g mX9_lay_ (d + 1) (0, 0, x) 0 [(0, .ref a0), (1, .int i1), (2, .int i2)] [] h Q := by
  unfold zX9_lay__0 at H
  refine J_aload_n dX9_lay__0 0 rfl ?_
  refine J_iconst (v := 0) dX9_lay__1 (by decide) ?_
  obtain ⟨fs, hh, hk, H⟩ := H
  refine J_put dX9_lay__2 fX9_1 rfl rfl hh hk ?_
  generalize List.set h a0 (am_O 9 (List.set fs 0 (.int 0))) = h1 at H ⊢
  clear hh hk
  refine J_aload_n dX9_lay__5 0 rfl ?_
  obtain ⟨fs, v2, hh, hk, H⟩ := H
  refine J_get dX9_lay__6 fX9_45 hh hk ?_
  clear hh hk
  refine J_iconst (v := 0) dX9_lay__9 (by decide) ?_
  obtain ⟨nn, ff, hh, hk, H⟩ := H
  refine J_iald dX9_lay__10 hh hk ?_
  generalize ff (Int32.toNatClampNeg 0) = v3 at H ⊢
  clear hh hk ff
  obtain ⟨H1, H2⟩ := H
  refine J_if_eq (tgt := 52) dX9_lay__11 (by decide) (fun hc => ?_) (fun hc => ?_)
  · replace H := H1 hc
    clear H1 H2
    refine J_iconst (v := (-1)) dX9_lay__52 (by decide) ?_
    exact J_iret dX9_lay__53 ⟨_, rfl, rfl⟩ ⟨Nat.le_of_ble_eq_true rfl, Nat.le_of_ble_eq_true rfl, fun _ => rfl⟩ H
  · replace H := H2 hc
    clear H1 H2
    refine J_iload_n dX9_lay__14 1 rfl ?_
    refine J_iconst (v := 1) dX9_lay__15 (by decide) ?_
    obtain ⟨H1, H2⟩ := H
    refine J_icmp_lt (tgt := 52) dX9_lay__16 (by decide) (fun hc => ?_) (fun hc => ?_)
    · replace H := H1 hc
      clear H1 H2
      refine J_iconst (v := (-1)) dX9_lay__52 (by decide) ?_
      exact J_iret dX9_lay__53 ⟨_, rfl, rfl⟩ ⟨Nat.le_of_ble_eq_true rfl, Nat.le_of_ble_eq_true rfl, fun _ => rfl⟩ H
    · replace H := H2 hc
      clear H1 H2
      refine J_iload_n dX9_lay__19 1 rfl ?_
      refine J_bipush (v := 12) dX9_lay__20 (by decide) ?_
      obtain ⟨H1, H2⟩ := H
      refine J_icmp_gt (tgt := 52) dX9_lay__22 (by decide) (fun hc => ?_) (fun hc => ?_)
      · replace H := H1 hc
        clear H1 H2
        refine J_iconst (v := (-1)) dX9_lay__52 (by decide) ?_
        exact J_iret dX9_lay__53 ⟨_, rfl, rfl⟩ ⟨Nat.le_of_ble_eq_true rfl, Nat.le_of_ble_eq_true rfl, fun _ => rfl⟩ H
      · replace H := H2 hc
        clear H1 H2
        refine J_iload_n dX9_lay__25 2 rfl ?_
        refine J_iconst (v := 1) dX9_lay__26 (by decide) ?_
        obtain ⟨H1, H2⟩ := H
        refine J_icmp_lt (tgt := 52) dX9_lay__27 (by decide) (fun hc => ?_) (fun hc => ?_)
        · replace H := H1 hc
          clear H1 H2
          refine J_iconst (v := (-1)) dX9_lay__52 (by decide) ?_
          exact J_iret dX9_lay__53 ⟨_, rfl, rfl⟩ ⟨Nat.le_of_ble_eq_true rfl, Nat.le_of_ble_eq_true rfl, fun _ => rfl⟩ H
        · replace H := H2 hc
          clear H1 H2
          refine J_iload_n dX9_lay__30 2 rfl ?_
          refine J_bipush (v := 12) dX9_lay__31 (by decide) ?_
          obtain ⟨H1, H2⟩ := H
          refine J_icmp_gt (tgt := 52) dX9_lay__33 (by decide) (fun hc => ?_) (fun hc => ?_)
          · replace H := H1 hc
            clear H1 H2
            refine J_iconst (v := (-1)) dX9_lay__52 (by decide) ?_
            exact J_iret dX9_lay__53 ⟨_, rfl, rfl⟩ ⟨Nat.le_of_ble_eq_true rfl, Nat.le_of_ble_eq_true rfl, fun _ => rfl⟩ H
          · replace H := H2 hc
            clear H1 H2
            refine J_iload_n dX9_lay__36 1 rfl ?_
            refine J_iload_n dX9_lay__37 2 rfl ?_
            refine J_imul dX9_lay__38 ?_
            refine J_aload_n dX9_lay__39 0 rfl ?_
            obtain ⟨fs, v4, hh, hk, H⟩ := H
            refine J_get dX9_lay__40 fX9_45 hh hk ?_
            clear hh hk
            refine J_iconst (v := 0) dX9_lay__43 (by decide) ?_
            obtain ⟨nn, ff, hh, hk, H⟩ := H
            refine J_iald dX9_lay__44 hh hk ?_
            generalize ff (Int32.toNatClampNeg 0) = v5 at H ⊢
            clear hh hk ff
            refine J_imul dX9_lay__45 ?_
            refine J_sipush (v := 240) dX9_lay__46 (by decide) ?_
            obtain ⟨H1, H2⟩ := H
            refine J_icmp_le (tgt := 54) dX9_lay__49 (by decide) (fun hc => ?_) (fun hc => ?_)
            · replace H := H1 hc
              clear H1 H2
              refine J_aload_n dX9_lay__54 0 rfl ?_
              refine J_iconst (v := 0) dX9_lay__55 (by decide) ?_
              refine J_iconst (v := 2) dX9_lay__56 (by decide) ?_
              obtain ⟨⟨fs, hh⟩, H⟩ := H
              refine J_callV (As := [.int 0, .int 2]) (S := []) (b := a0) dX9_lay__57 mX9_copies_ok kX9_170 rfl (by decide) (Nat.le_of_ble_eq_true rfl) hh rfl rfl (Nat.le_of_ble_eq_true rfl) ⟨Nat.le_of_ble_eq_true rfl, Nat.le_of_ble_eq_true rfl⟩ (fun k h' hp => ?_) H (fun r h6 hp => ?_)
              · obtain ⟨hv, -⟩ := hp; cases hv
              obtain ⟨rfl, H⟩ := hp
              show am_J l g mX9_lay_ (d + 1) (0, 0, x) 60 [(0, .ref a0), (1, .int i1), (2, .int i2)] [] h6 Q
              refine J_aload_n dX9_lay__60 0 rfl ?_
              refine J_iload_n dX9_lay__61 1 rfl ?_
              obtain ⟨fs, hh, hk, H⟩ := H
              refine J_put dX9_lay__62 fX9_204 rfl rfl hh hk ?_
              generalize List.set h6 a0 (am_O 9 (List.set fs 18 (.int i1))) = h8 at H ⊢
              clear hh hk
              refine J_aload_n dX9_lay__65 0 rfl ?_
              refine J_iload_n dX9_lay__66 2 rfl ?_
              obtain ⟨fs, hh, hk, H⟩ := H
              refine J_put dX9_lay__67 fX9_207 rfl rfl hh hk ?_
              generalize List.set h8 a0 (am_O 9 (List.set fs 19 (.int i2))) = h9 at H ⊢
              clear hh hk
              refine J_aload_n dX9_lay__70 0 rfl ?_
              refine J_iload_n dX9_lay__71 1 rfl ?_
              refine J_iload_n dX9_lay__72 2 rfl ?_
              refine J_imul dX9_lay__73 ?_
              refine J_aload_n dX9_lay__74 0 rfl ?_
              obtain ⟨fs, v10, hh, hk, H⟩ := H
              refine J_get dX9_lay__75 fX9_45 hh hk ?_
              clear hh hk
              refine J_iconst (v := 2) dX9_lay__78 (by decide) ?_
              obtain ⟨nn, ff, hh, hk, H⟩ := H
              refine J_iald dX9_lay__79 hh hk ?_
              generalize ff (Int32.toNatClampNeg 2) = v11 at H ⊢
              clear hh hk ff
              refine J_imul dX9_lay__80 ?_
              obtain ⟨fs, hh, hk, H⟩ := H
              refine J_put dX9_lay__81 fX9_218 rfl rfl hh hk ?_
              generalize List.set h9 a0 (am_O 9 (List.set fs 20 (.int ((i1 * i2) * v11)))) = h12 at H ⊢
              clear hh hk
              refine J_aload_n dX9_lay__84 0 rfl ?_
              refine J_aload_n dX9_lay__85 0 rfl ?_
              obtain ⟨fs, v13, hh, hk, H⟩ := H
              refine J_get dX9_lay__86 fX9_218 hh hk ?_
              clear hh hk
              obtain ⟨fs, hh, hk, H⟩ := H
              refine J_put dX9_lay__89 fX9_201 rfl rfl hh hk ?_
              generalize List.set h12 a0 (am_O 9 (List.set fs 21 (.int v13))) = h14 at H ⊢
              clear hh hk
              refine J_iconst (v := 0) dX9_lay__92 (by decide) ?_
              refine J_istore_n (L' := [(3, .int 0), (0, .ref a0), (1, .int i1), (2, .int i2)]) dX9_lay__93 (by decide) rfl ?_
              exact J_pick [1, 0] rfl H
            · replace H := H2 hc
              clear H1 H2
              refine J_iconst (v := (-1)) dX9_lay__52 (by decide) ?_
              exact J_iret dX9_lay__53 ⟨_, rfl, rfl⟩ ⟨Nat.le_of_ble_eq_true rfl, Nat.le_of_ble_eq_true rfl, fun _ => rfl⟩ H
theorem eX9_lay_ {l : Launch} {g : am_G} {d : Nat} {x : Bool} {a0 : Nat} {i1 : Int32} {i2 : Int32} {h : am_H} {K : Int32 → am_H → Prop} (H : zX9_lay__0 l g d x a0 i1 i2 h (fun r h' => ∃ v, r = some (.int v) ∧ K v h')) : cl_I l g mX9_lay_ (d + 1) x [.ref a0, .int i1, .int i2] h K := rX9_lay__0 H
def zX9_at_48 (l : Launch) (g : am_G) (d : Nat) (x : Bool) (a0 : Nat) (i1 : Int32) (i2 : Int32) (i3 : Int32) (s0 : Int32) (h : am_H) (Q : Option Value → am_H → Prop) : Prop := ((s0 = 0 → Q (some (.int (-1))) h) ∧ (¬ s0 = 0 → gt_I h a0 9 18 (fun v1 => gt_R h a0 9 10 (fun v2 => al_I 0 h v2 2 (fun v3 => Q (some (.int ((((i2 * v1) + i1) * v3) + i3))) h)))))
set_option maxRecDepth 4000 in
theorem rX9_at_48 {l : Launch} {g : am_G} {d : Nat} {x : Bool} {a0 : Nat} {i1 : Int32} {i2 : Int32} {i3 : Int32} {s0 : Int32} {h : am_H} {Q : Option Value → am_H → Prop} (H : zX9_at_48 l g d x a0 i1 i2 i3 s0 h Q) : am_J l g mX9_at d (0, 0, x) 48 [(0, .ref a0), (1, .int i1), (2, .int i2), (3, .int i3)] [.int s0] h Q := by
  unfold zX9_at_48 at H
  refine J_istore (L' := [(4, .int s0), (0, .ref a0), (1, .int i1), (2, .int i2), (3, .int i3)]) dX9_at_48 (by decide) rfl ?_
  refine J_iload dX9_at_50 0 rfl ?_
  obtain ⟨H1, H2⟩ := H
  refine J_if_eq (tgt := 75) dX9_at_52 (by decide) (fun hc => ?_) (fun hc => ?_)
  · replace H := H1 hc
    clear H1 H2
    refine J_iconst (v := (-1)) dX9_at_75 (by decide) ?_
    exact J_iret dX9_at_76 ⟨_, rfl, rfl⟩ ⟨Nat.le_of_ble_eq_true rfl, Nat.le_of_ble_eq_true rfl, fun _ => rfl⟩ H
  · replace H := H2 hc
    clear H1 H2
    refine J_iload_n dX9_at_55 3 rfl ?_
    refine J_aload_n dX9_at_56 1 rfl ?_
    obtain ⟨fs, v1, hh, hk, H⟩ := H
    refine J_get dX9_at_57 fX9_204 hh hk ?_
    clear hh hk
    refine J_imul dX9_at_60 ?_
    refine J_iload_n dX9_at_61 2 rfl ?_
    refine J_iadd dX9_at_62 ?_
    refine J_aload_n dX9_at_63 1 rfl ?_
    obtain ⟨fs, v2, hh, hk, H⟩ := H
    refine J_get dX9_at_64 fX9_45 hh hk ?_
    clear hh hk
    refine J_iconst (v := 2) dX9_at_67 (by decide) ?_
    obtain ⟨nn, ff, hh, hk, H⟩ := H
    refine J_iald dX9_at_68 hh hk ?_
    generalize ff (Int32.toNatClampNeg 2) = v3 at H ⊢
    clear hh hk ff
    refine J_imul dX9_at_69 ?_
    refine J_iload_n dX9_at_70 4 rfl ?_
    refine J_iadd dX9_at_71 ?_
    refine J_goto (tgt := 76) dX9_at_72 (by decide) ?_
    exact J_iret dX9_at_76 ⟨_, rfl, rfl⟩ ⟨Nat.le_of_ble_eq_true rfl, Nat.le_of_ble_eq_true rfl, fun _ => rfl⟩ H
def zX9_at_47 (l : Launch) (g : am_G) (d : Nat) (x : Bool) (a0 : Nat) (i1 : Int32) (i2 : Int32) (i3 : Int32) (h : am_H) (Q : Option Value → am_H → Prop) : Prop := zX9_at_48 l g d x a0 i1 i2 i3 0 h Q
set_option maxRecDepth 4000 in
theorem rX9_at_47 {l : Launch} {g : am_G} {d : Nat} {x : Bool} {a0 : Nat} {i1 : Int32} {i2 : Int32} {i3 : Int32} {h : am_H} {Q : Option Value → am_H → Prop} (H : zX9_at_47 l g d x a0 i1 i2 i3 h Q) : am_J l g mX9_at d (0, 0, x) 47 [(0, .ref a0), (1, .int i1), (2, .int i2), (3, .int i3)] [] h Q := by
  unfold zX9_at_47 at H
  refine J_iconst (v := 0) dX9_at_47 (by decide) ?_
  exact J_pick [0, 1, 2, 3] rfl (rX9_at_48 H)
def zX9_at_0 (l : Launch) (g : am_G) (d : Nat) (x : Bool) (a0 : Nat) (i1 : Int32) (i2 : Int32) (i3 : Int32) (h : am_H) (Q : Option Value → am_H → Prop) : Prop := pt_V h a0 9 0 (.int 0) (fun h1 => ((i1 < 0 → zX9_at_47 l g d x a0 i1 i2 i3  h1 Q) ∧ (¬ i1 < 0 → gt_I h1 a0 9 18 (fun v2 => ((v2 ≤ i1 → zX9_at_47 l g d x a0 i1 i2 i3  h1 Q) ∧ (¬ v2 ≤ i1 → ((i2 < 0 → zX9_at_47 l g d x a0 i1 i2 i3  h1 Q) ∧ (¬ i2 < 0 → gt_I h1 a0 9 19 (fun v3 => ((v3 ≤ i2 → zX9_at_47 l g d x a0 i1 i2 i3  h1 Q) ∧ (¬ v3 ≤ i2 → ((i3 < 0 → zX9_at_47 l g d x a0 i1 i2 i3  h1 Q) ∧ (¬ i3 < 0 → gt_R h1 a0 9 10 (fun v4 => al_I 0 h1 v4 2 (fun v5 => ((v5 ≤ i3 → zX9_at_47 l g d x a0 i1 i2 i3  h1 Q) ∧ (¬ v5 ≤ i3 → zX9_at_48 l g d x a0 i1 i2 i3 1 h1 Q)))))))))))))))))
set_option maxRecDepth 4000 in
theorem rX9_at_0 {l : Launch} {g : am_G} {d : Nat} {x : Bool} {a0 : Nat} {i1 : Int32} {i2 : Int32} {i3 : Int32} {h : am_H} {Q : Option Value → am_H → Prop} (H : zX9_at_0 l g d x a0 i1 i2 i3 h Q) : am_J l g mX9_at d (0, 0, x) 0 [(0, .ref a0), (1, .int i1), (2, .int i2), (3, .int i3)] [] h Q := by
  unfold zX9_at_0 at H
  refine J_aload_n dX9_at_0 0 rfl ?_
  refine J_iconst (v := 0) dX9_at_1 (by decide) ?_
  obtain ⟨fs, hh, hk, H⟩ := H
  refine J_put dX9_at_2 fX9_1 rfl rfl hh hk ?_
  generalize List.set h a0 (am_O 9 (List.set fs 0 (.int 0))) = h1 at H ⊢
  clear hh hk
  refine J_iload_n dX9_at_5 1 rfl ?_
  obtain ⟨H1, H2⟩ := H
  refine J_if_lt (tgt := 47) dX9_at_6 (by decide) (fun hc => ?_) (fun hc => ?_)
  · replace H := H1 hc
    clear H1 H2
    exact J_pick [0, 1, 2, 3] rfl (rX9_at_47 H)
  · replace H := H2 hc
    clear H1 H2
    refine J_iload_n dX9_at_9 1 rfl ?_
    refine J_aload_n dX9_at_10 0 rfl ?_
    obtain ⟨fs, v2, hh, hk, H⟩ := H
    refine J_get dX9_at_11 fX9_204 hh hk ?_
    clear hh hk
    obtain ⟨H1, H2⟩ := H
    refine J_icmp_ge (tgt := 47) dX9_at_14 (by decide) (fun hc => ?_) (fun hc => ?_)
    · replace H := H1 hc
      clear H1 H2
      exact J_pick [0, 1, 2, 3] rfl (rX9_at_47 H)
    · replace H := H2 hc
      clear H1 H2
      refine J_iload_n dX9_at_17 2 rfl ?_
      obtain ⟨H1, H2⟩ := H
      refine J_if_lt (tgt := 47) dX9_at_18 (by decide) (fun hc => ?_) (fun hc => ?_)
      · replace H := H1 hc
        clear H1 H2
        exact J_pick [0, 1, 2, 3] rfl (rX9_at_47 H)
      · replace H := H2 hc
        clear H1 H2
        refine J_iload_n dX9_at_21 2 rfl ?_
        refine J_aload_n dX9_at_22 0 rfl ?_
        obtain ⟨fs, v3, hh, hk, H⟩ := H
        refine J_get dX9_at_23 fX9_207 hh hk ?_
        clear hh hk
        obtain ⟨H1, H2⟩ := H
        refine J_icmp_ge (tgt := 47) dX9_at_26 (by decide) (fun hc => ?_) (fun hc => ?_)
        · replace H := H1 hc
          clear H1 H2
          exact J_pick [0, 1, 2, 3] rfl (rX9_at_47 H)
        · replace H := H2 hc
          clear H1 H2
          refine J_iload_n dX9_at_29 3 rfl ?_
          obtain ⟨H1, H2⟩ := H
          refine J_if_lt (tgt := 47) dX9_at_30 (by decide) (fun hc => ?_) (fun hc => ?_)
          · replace H := H1 hc
            clear H1 H2
            exact J_pick [0, 1, 2, 3] rfl (rX9_at_47 H)
          · replace H := H2 hc
            clear H1 H2
            refine J_iload_n dX9_at_33 3 rfl ?_
            refine J_aload_n dX9_at_34 0 rfl ?_
            obtain ⟨fs, v4, hh, hk, H⟩ := H
            refine J_get dX9_at_35 fX9_45 hh hk ?_
            clear hh hk
            refine J_iconst (v := 2) dX9_at_38 (by decide) ?_
            obtain ⟨nn, ff, hh, hk, H⟩ := H
            refine J_iald dX9_at_39 hh hk ?_
            generalize ff (Int32.toNatClampNeg 2) = v5 at H ⊢
            clear hh hk ff
            obtain ⟨H1, H2⟩ := H
            refine J_icmp_ge (tgt := 47) dX9_at_40 (by decide) (fun hc => ?_) (fun hc => ?_)
            · replace H := H1 hc
              clear H1 H2
              exact J_pick [0, 1, 2, 3] rfl (rX9_at_47 H)
            · replace H := H2 hc
              clear H1 H2
              refine J_iconst (v := 1) dX9_at_43 (by decide) ?_
              refine J_goto (tgt := 48) dX9_at_44 (by decide) ?_
              exact J_pick [0, 1, 2, 3] rfl (rX9_at_48 H)
theorem eX9_at {l : Launch} {g : am_G} {d : Nat} {x : Bool} {a0 : Nat} {i1 : Int32} {i2 : Int32} {i3 : Int32} {h : am_H} {K : Int32 → am_H → Prop} (H : zX9_at_0 l g d x a0 i1 i2 i3 h (fun r h' => ∃ v, r = some (.int v) ∧ K v h')) : cl_I l g mX9_at d x [.ref a0, .int i1, .int i2, .int i3] h K := rX9_at_0 H
def zX9_add_0 (l : Launch) (g : am_G) (d : Nat) (x : Bool) (a0 : Nat) (h : am_H) (Q : Option Value → am_H → Prop) : Prop := pt_V h a0 9 0 (.int 0) (fun h1 => gt_I h1 a0 9 21 (fun v2 => ((¬ v2 = 300 → gt_R h1 a0 9 22 (fun v3 => gt_I h1 a0 9 21 (fun v4 => as_I 2 h1 v3 v4 1 (fun h5 => gt_I h5 a0 9 21 (fun v6 => pt_V h5 a0 9 21 (.int (v6 + 1)) (fun h7 => gt_I h7 a0 9 21 (fun v8 => Q (some (.int (v8 - 1))) h7))))))) ∧ (v2 = 300 → Q (some (.int (-1))) h1))))
set_option maxRecDepth 4000 in
theorem rX9_add_0 {l : Launch} {g : am_G} {d : Nat} {x : Bool} {a0 : Nat} {h : am_H} {Q : Option Value → am_H → Prop} (H : zX9_add_0 l g d x a0 h Q) : am_J l g mX9_add d (0, 0, x) 0 [(0, .ref a0)] [] h Q := by
  unfold zX9_add_0 at H
  refine J_aload_n dX9_add_0 0 rfl ?_
  refine J_iconst (v := 0) dX9_add_1 (by decide) ?_
  obtain ⟨fs, hh, hk, H⟩ := H
  refine J_put dX9_add_2 fX9_1 rfl rfl hh hk ?_
  generalize List.set h a0 (am_O 9 (List.set fs 0 (.int 0))) = h1 at H ⊢
  clear hh hk
  refine J_aload_n dX9_add_5 0 rfl ?_
  obtain ⟨fs, v2, hh, hk, H⟩ := H
  refine J_get dX9_add_6 fX9_201 hh hk ?_
  clear hh hk
  refine J_sipush (v := 300) dX9_add_9 (by decide) ?_
  obtain ⟨H1, H2⟩ := H
  refine J_icmp_ne (tgt := 17) dX9_add_12 (by decide) (fun hc => ?_) (fun hc => ?_)
  · replace H := H1 hc
    clear H1 H2
    refine J_aload_n dX9_add_17 0 rfl ?_
    obtain ⟨fs, v3, hh, hk, H⟩ := H
    refine J_get dX9_add_18 fX9_70 hh hk ?_
    clear hh hk
    refine J_aload_n dX9_add_21 0 rfl ?_
    obtain ⟨fs, v4, hh, hk, H⟩ := H
    refine J_get dX9_add_22 fX9_201 hh hk ?_
    clear hh hk
    refine J_iconst (v := 1) dX9_add_25 (by decide) ?_
    obtain ⟨nn, ff, hh, hk, H⟩ := H
    refine J_zast dX9_add_26 hh hk rfl ?_
    generalize List.set h1 v3 (am_I 2 nn (upd ff (Int32.toNatClampNeg v4) 1)) = h5 at H ⊢
    clear hh hk
    refine J_aload_n dX9_add_27 0 rfl ?_
    refine J_dup dX9_add_28 rfl ?_
    obtain ⟨fs, v6, hh, hk, H⟩ := H
    refine J_get dX9_add_29 fX9_201 hh hk ?_
    clear hh hk
    refine J_iconst (v := 1) dX9_add_32 (by decide) ?_
    refine J_iadd dX9_add_33 ?_
    obtain ⟨fs, hh, hk, H⟩ := H
    refine J_put dX9_add_34 fX9_201 rfl rfl hh hk ?_
    generalize List.set h5 a0 (am_O 9 (List.set fs 21 (.int (v6 + 1)))) = h7 at H ⊢
    clear hh hk
    refine J_aload_n dX9_add_37 0 rfl ?_
    obtain ⟨fs, v8, hh, hk, H⟩ := H
    refine J_get dX9_add_38 fX9_201 hh hk ?_
    clear hh hk
    refine J_iconst (v := 1) dX9_add_41 (by decide) ?_
    refine J_isub dX9_add_42 ?_
    exact J_iret dX9_add_43 ⟨_, rfl, rfl⟩ ⟨Nat.le_of_ble_eq_true rfl, Nat.le_of_ble_eq_true rfl, fun _ => rfl⟩ H
  · replace H := H2 hc
    clear H1 H2
    refine J_iconst (v := (-1)) dX9_add_15 (by decide) ?_
    exact J_iret dX9_add_16 ⟨_, rfl, rfl⟩ ⟨Nat.le_of_ble_eq_true rfl, Nat.le_of_ble_eq_true rfl, fun _ => rfl⟩ H
theorem eX9_add {l : Launch} {g : am_G} {d : Nat} {x : Bool} {a0 : Nat} {h : am_H} {K : Int32 → am_H → Prop} (H : zX9_add_0 l g d x a0 h (fun r h' => ∃ v, r = some (.int v) ∧ K v h')) : cl_I l g mX9_add d x [.ref a0] h K := rX9_add_0 H
def zX9_linksOf_33 (l : Launch) (g : am_G) (d : Nat) (x : Bool) (a0 : Nat) (i1 : Int32) (i3 : Int32) (s0 : Int32) (s1 : Int32) (h : am_H) (Q : Option Value → am_H → Prop) : Prop := am_J l g mX9_linksOf d (0, 0, x) 4 [(0, .ref a0), (1, .int i1), (2, .int (s0 + s1)), (3, .int (i3 + 1))] [] h Q
set_option maxRecDepth 4000 in
theorem rX9_linksOf_33 {l : Launch} {g : am_G} {d : Nat} {x : Bool} {a0 : Nat} {i1 : Int32} {i3 : Int32} {s0 : Int32} {s1 : Int32} {h : am_H} {Q : Option Value → am_H → Prop} (H : zX9_linksOf_33 l g d x a0 i1 i3 s0 s1 h Q) : am_J l g mX9_linksOf d (0, 0, x) 33 [(0, .ref a0), (1, .int i1), (3, .int i3)] [.int s1, .int s0] h Q := by
  unfold zX9_linksOf_33 at H
  refine J_iadd dX9_linksOf_33 ?_
  refine J_istore_n (L' := [(2, .int (s0 + s1)), (0, .ref a0), (1, .int i1), (3, .int i3)]) dX9_linksOf_34 (by decide) rfl ?_
  refine J_iinc (v := (i3 + 1)) (L' := [(3, .int (i3 + 1)), (2, .int (s0 + s1)), (0, .ref a0), (1, .int i1)]) dX9_linksOf_35 3 rfl rfl (by decide) rfl ?_
  refine J_goto (tgt := 4) dX9_linksOf_38 (by decide) ?_
  exact J_pick [2, 3, 1, 0] rfl H
def zX9_linksOf_4 (l : Launch) (g : am_G) (d : Nat) (x : Bool) (a0 : Nat) (i1 : Int32) (i2 : Int32) (i3 : Int32) (h : am_H) (Q : Option Value → am_H → Prop) : Prop := gt_I h a0 9 21 (fun v1 => ((v1 ≤ i3 → Q (some (.int i2)) h) ∧ (¬ v1 ≤ i3 → gt_R h a0 9 23 (fun v2 => al_I 0 h v2 ((300 * i1) + i3) (fun v3 => ((v3 = 0 → zX9_linksOf_33 l g d x a0 i1 i3 i2 0 h Q) ∧ (¬ v3 = 0 → zX9_linksOf_33 l g d x a0 i1 i3 i2 1 h Q)))))))
set_option maxRecDepth 4000 in
theorem rX9_linksOf_4 {l : Launch} {g : am_G} {d : Nat} {x : Bool} {a0 : Nat} {i1 : Int32} {i2 : Int32} {i3 : Int32} {h : am_H} {Q : Option Value → am_H → Prop} (H : zX9_linksOf_4 l g d x a0 i1 i2 i3 h Q) : am_J l g mX9_linksOf d (0, 0, x) 4 [(0, .ref a0), (1, .int i1), (2, .int i2), (3, .int i3)] [] h Q := by
  unfold zX9_linksOf_4 at H
  refine J_iload_n dX9_linksOf_4 3 rfl ?_
  refine J_aload_n dX9_linksOf_5 0 rfl ?_
  obtain ⟨fs, v1, hh, hk, H⟩ := H
  refine J_get dX9_linksOf_6 fX9_201 hh hk ?_
  clear hh hk
  obtain ⟨H1, H2⟩ := H
  refine J_icmp_ge (tgt := 41) dX9_linksOf_9 (by decide) (fun hc => ?_) (fun hc => ?_)
  · replace H := H1 hc
    clear H1 H2
    refine J_iload_n dX9_linksOf_41 2 rfl ?_
    exact J_iret dX9_linksOf_42 ⟨_, rfl, rfl⟩ ⟨Nat.le_of_ble_eq_true rfl, Nat.le_of_ble_eq_true rfl, fun _ => rfl⟩ H
  · replace H := H2 hc
    clear H1 H2
    refine J_iload_n dX9_linksOf_12 2 rfl ?_
    refine J_aload_n dX9_linksOf_13 0 rfl ?_
    obtain ⟨fs, v2, hh, hk, H⟩ := H
    refine J_get dX9_linksOf_14 fX9_74 hh hk ?_
    clear hh hk
    refine J_sipush (v := 300) dX9_linksOf_17 (by decide) ?_
    refine J_iload_n dX9_linksOf_20 1 rfl ?_
    refine J_imul dX9_linksOf_21 ?_
    refine J_iload_n dX9_linksOf_22 3 rfl ?_
    refine J_iadd dX9_linksOf_23 ?_
    obtain ⟨nn, ff, hh, hk, H⟩ := H
    refine J_iald dX9_linksOf_24 hh hk ?_
    generalize ff (Int32.toNatClampNeg ((300 * i1) + i3)) = v3 at H ⊢
    clear hh hk ff
    obtain ⟨H1, H2⟩ := H
    refine J_if_eq (tgt := 32) dX9_linksOf_25 (by decide) (fun hc => ?_) (fun hc => ?_)
    · replace H := H1 hc
      clear H1 H2
      refine J_iconst (v := 0) dX9_linksOf_32 (by decide) ?_
      exact J_pick [0, 1, 3] rfl (rX9_linksOf_33 H)
    · replace H := H2 hc
      clear H1 H2
      refine J_iconst (v := 1) dX9_linksOf_28 (by decide) ?_
      refine J_goto (tgt := 33) dX9_linksOf_29 (by decide) ?_
      exact J_pick [0, 1, 3] rfl (rX9_linksOf_33 H)
def zX9_linksOf_0 (l : Launch) (g : am_G) (d : Nat) (x : Bool) (a0 : Nat) (i1 : Int32) (h : am_H) (Q : Option Value → am_H → Prop) : Prop := am_J l g mX9_linksOf d (0, 0, x) 4 [(0, .ref a0), (1, .int i1), (2, .int 0), (3, .int 0)] [] h Q
set_option maxRecDepth 4000 in
theorem rX9_linksOf_0 {l : Launch} {g : am_G} {d : Nat} {x : Bool} {a0 : Nat} {i1 : Int32} {h : am_H} {Q : Option Value → am_H → Prop} (H : zX9_linksOf_0 l g d x a0 i1 h Q) : am_J l g mX9_linksOf d (0, 0, x) 0 [(0, .ref a0), (1, .int i1)] [] h Q := by
  unfold zX9_linksOf_0 at H
  refine J_iconst (v := 0) dX9_linksOf_0 (by decide) ?_
  refine J_istore_n (L' := [(2, .int 0), (0, .ref a0), (1, .int i1)]) dX9_linksOf_1 (by decide) rfl ?_
  refine J_iconst (v := 0) dX9_linksOf_2 (by decide) ?_
  refine J_istore_n (L' := [(3, .int 0), (2, .int 0), (0, .ref a0), (1, .int i1)]) dX9_linksOf_3 (by decide) rfl ?_
  exact J_pick [2, 3, 1, 0] rfl H
theorem eX9_linksOf {l : Launch} {g : am_G} {d : Nat} {x : Bool} {a0 : Nat} {i1 : Int32} {h : am_H} {K : Int32 → am_H → Prop} (H : zX9_linksOf_0 l g d x a0 i1 h (fun r h' => ∃ v, r = some (.int v) ∧ K v h')) : cl_I l g mX9_linksOf d x [.ref a0, .int i1] h K := rX9_linksOf_0 H
def zX9_take_23 (l : Launch) (g : am_G) (d : Nat) (x : Bool) (a0 : Nat) (i1 : Int32) (i2 : Int32) (i3 : Int32) (h : am_H) (Q : Option Value → am_H → Prop) : Prop := gt_I h a0 9 21 (fun v1 => ((v1 ≤ i3 → gt_R h a0 9 22 (fun v2 => as_I 2 h v2 i1 0 (fun h3 => Q (some (.int i2)) h3))) ∧ (¬ v1 ≤ i3 → cv_N l g mX9_sets d x 9 a0 [.int i1, .int i3, .int 0] h (fun h4 => am_J l g mX9_take (d + 1) (0, 0, x) 23 [(0, .ref a0), (1, .int i1), (2, .int i2), (3, .int (i3 + 1))] [] h4 Q))))
set_option maxRecDepth 4000 in
theorem rX9_take_23 {l : Launch} {g : am_G} {d : Nat} {x : Bool} {a0 : Nat} {i1 : Int32} {i2 : Int32} {i3 : Int32} {h : am_H} {Q : Option Value → am_H → Prop} (H : zX9_take_23 l g d x a0 i1 i2 i3 h Q) : am_J l g mX9_take (d + 1) (0, 0, x) 23 [(0, .ref a0), (1, .int i1), (2, .int i2), (3, .int i3)] [] h Q := by
  unfold zX9_take_23 at H
  refine J_iload_n dX9_take_23 3 rfl ?_
  refine J_aload_n dX9_take_24 0 rfl ?_
  obtain ⟨fs, v1, hh, hk, H⟩ := H
  refine J_get dX9_take_25 fX9_201 hh hk ?_
  clear hh hk
  obtain ⟨H1, H2⟩ := H
  refine J_icmp_ge (tgt := 44) dX9_take_28 (by decide) (fun hc => ?_) (fun hc => ?_)
  · replace H := H1 hc
    clear H1 H2
    refine J_aload_n dX9_take_44 0 rfl ?_
    obtain ⟨fs, v2, hh, hk, H⟩ := H
    refine J_get dX9_take_45 fX9_70 hh hk ?_
    clear hh hk
    refine J_iload_n dX9_take_48 1 rfl ?_
    refine J_iconst (v := 0) dX9_take_49 (by decide) ?_
    obtain ⟨nn, ff, hh, hk, H⟩ := H
    refine J_zast dX9_take_50 hh hk rfl ?_
    generalize List.set h v2 (am_I 2 nn (upd ff (Int32.toNatClampNeg i1) 0)) = h3 at H ⊢
    clear hh hk
    refine J_iload_n dX9_take_51 2 rfl ?_
    exact J_iret dX9_take_52 ⟨_, rfl, rfl⟩ ⟨Nat.le_of_ble_eq_true rfl, Nat.le_of_ble_eq_true rfl, fun _ => rfl⟩ H
  · replace H := H2 hc
    clear H1 H2
    refine J_aload_n dX9_take_31 0 rfl ?_
    refine J_iload_n dX9_take_32 1 rfl ?_
    refine J_iload_n dX9_take_33 3 rfl ?_
    refine J_iconst (v := 0) dX9_take_34 (by decide) ?_
    obtain ⟨⟨fs, hh⟩, H⟩ := H
    refine J_callV (As := [.int i1, .int i3, .int 0]) (S := []) (b := a0) dX9_take_35 mX9_sets_ok kX9_214 rfl (by decide) (Nat.le_of_ble_eq_true rfl) hh rfl rfl (Nat.le_of_ble_eq_true rfl) ⟨Nat.le_of_ble_eq_true rfl, Nat.le_of_ble_eq_true rfl⟩ (fun k h' hp => ?_) H (fun r h4 hp => ?_)
    · obtain ⟨hv, -⟩ := hp; cases hv
    obtain ⟨rfl, H⟩ := hp
    show am_J l g mX9_take (d + 1) (0, 0, x) 38 [(0, .ref a0), (1, .int i1), (2, .int i2), (3, .int i3)] [] h4 Q
    refine J_iinc (v := (i3 + 1)) (L' := [(3, .int (i3 + 1)), (0, .ref a0), (1, .int i1), (2, .int i2)]) dX9_take_38 3 rfl rfl (by decide) rfl ?_
    refine J_goto (tgt := 23) dX9_take_41 (by decide) ?_
    exact J_pick [1, 2, 3, 0] rfl H
def zX9_take_0 (l : Launch) (g : am_G) (d : Nat) (x : Bool) (a0 : Nat) (i1 : Int32) (h : am_H) (Q : Option Value → am_H → Prop) : Prop := pt_V h a0 9 0 (.int 0) (fun h1 => cv_I l g mX9_isRing d x 9 a0 [.int i1] h1 (fun v3 h2 => ((¬ v3 = 0 → cv_I l g mX9_linksOf d x 9 a0 [.int i1] h2 (fun v5 h4 => am_J l g mX9_take (d + 1) (0, 0, x) 23 [(0, .ref a0), (1, .int i1), (2, .int v5), (3, .int 0)] [] h4 Q)) ∧ (v3 = 0 → Q (some (.int (-1))) h2))))
set_option maxRecDepth 4000 in
theorem rX9_take_0 {l : Launch} {g : am_G} {d : Nat} {x : Bool} {a0 : Nat} {i1 : Int32} {h : am_H} {Q : Option Value → am_H → Prop} (H : zX9_take_0 l g d x a0 i1 h Q) : am_J l g mX9_take (d + 1) (0, 0, x) 0 [(0, .ref a0), (1, .int i1)] [] h Q := by
  unfold zX9_take_0 at H
  refine J_aload_n dX9_take_0 0 rfl ?_
  refine J_iconst (v := 0) dX9_take_1 (by decide) ?_
  obtain ⟨fs, hh, hk, H⟩ := H
  refine J_put dX9_take_2 fX9_1 rfl rfl hh hk ?_
  generalize List.set h a0 (am_O 9 (List.set fs 0 (.int 0))) = h1 at H ⊢
  clear hh hk
  refine J_aload_n dX9_take_5 0 rfl ?_
  refine J_iload_n dX9_take_6 1 rfl ?_
  obtain ⟨⟨fs, hh⟩, H⟩ := H
  refine J_callV (As := [.int i1]) (S := []) (b := a0) dX9_take_7 mX9_isRing_ok kX9_223 rfl (by decide) (Nat.le_of_ble_eq_true rfl) hh rfl rfl (Nat.le_of_ble_eq_true rfl) ⟨Nat.le_of_ble_eq_true rfl, Nat.le_of_ble_eq_true rfl⟩ (fun k h' hp => ?_) H (fun r h2 hp => ?_)
  · obtain ⟨_, hv, -⟩ := hp; cases hv
  obtain ⟨v3, rfl, H⟩ := hp
  show am_J l g mX9_take (d + 1) (0, 0, x) 10 [(0, .ref a0), (1, .int i1)] [.int v3] h2 Q
  obtain ⟨H1, H2⟩ := H
  refine J_if_ne (tgt := 15) dX9_take_10 (by decide) (fun hc => ?_) (fun hc => ?_)
  · replace H := H1 hc
    clear H1 H2
    refine J_aload_n dX9_take_15 0 rfl ?_
    refine J_iload_n dX9_take_16 1 rfl ?_
    obtain ⟨⟨fs, hh⟩, H⟩ := H
    refine J_callV (As := [.int i1]) (S := []) (b := a0) dX9_take_17 mX9_linksOf_ok kX9_226 rfl (by decide) (Nat.le_of_ble_eq_true rfl) hh rfl rfl (Nat.le_of_ble_eq_true rfl) ⟨Nat.le_of_ble_eq_true rfl, Nat.le_of_ble_eq_true rfl⟩ (fun k h' hp => ?_) H (fun r h4 hp => ?_)
    · obtain ⟨_, hv, -⟩ := hp; cases hv
    obtain ⟨v5, rfl, H⟩ := hp
    show am_J l g mX9_take (d + 1) (0, 0, x) 20 [(0, .ref a0), (1, .int i1)] [.int v5] h4 Q
    refine J_istore_n (L' := [(2, .int v5), (0, .ref a0), (1, .int i1)]) dX9_take_20 (by decide) rfl ?_
    refine J_iconst (v := 0) dX9_take_21 (by decide) ?_
    refine J_istore_n (L' := [(3, .int 0), (2, .int v5), (0, .ref a0), (1, .int i1)]) dX9_take_22 (by decide) rfl ?_
    exact J_pick [2, 3, 1, 0] rfl H
  · replace H := H2 hc
    clear H1 H2
    refine J_iconst (v := (-1)) dX9_take_13 (by decide) ?_
    exact J_iret dX9_take_14 ⟨_, rfl, rfl⟩ ⟨Nat.le_of_ble_eq_true rfl, Nat.le_of_ble_eq_true rfl, fun _ => rfl⟩ H
theorem eX9_take {l : Launch} {g : am_G} {d : Nat} {x : Bool} {a0 : Nat} {i1 : Int32} {h : am_H} {K : Int32 → am_H → Prop} (H : zX9_take_0 l g d x a0 i1 h (fun r h' => ∃ v, r = some (.int v) ∧ K v h')) : cl_I l g mX9_take (d + 1) x [.ref a0, .int i1] h K := rX9_take_0 H
def zX9_areLinked_0 (l : Launch) (g : am_G) (d : Nat) (x : Bool) (a0 : Nat) (i1 : Int32) (i2 : Int32) (h : am_H) (Q : Option Value → am_H → Prop) : Prop := gt_R h a0 9 23 (fun v1 => al_I 0 h v1 ((300 * i1) + i2) (fun v2 => ((v2 = 0 → Q (some (.int 0)) h) ∧ (¬ v2 = 0 → Q (some (.int 1)) h))))
set_option maxRecDepth 4000 in
theorem rX9_areLinked_0 {l : Launch} {g : am_G} {d : Nat} {x : Bool} {a0 : Nat} {i1 : Int32} {i2 : Int32} {h : am_H} {Q : Option Value → am_H → Prop} (H : zX9_areLinked_0 l g d x a0 i1 i2 h Q) : am_J l g mX9_areLinked d (0, 0, x) 0 [(0, .ref a0), (1, .int i1), (2, .int i2)] [] h Q := by
  unfold zX9_areLinked_0 at H
  refine J_aload_n dX9_areLinked_0 0 rfl ?_
  obtain ⟨fs, v1, hh, hk, H⟩ := H
  refine J_get dX9_areLinked_1 fX9_74 hh hk ?_
  clear hh hk
  refine J_sipush (v := 300) dX9_areLinked_4 (by decide) ?_
  refine J_iload_n dX9_areLinked_7 1 rfl ?_
  refine J_imul dX9_areLinked_8 ?_
  refine J_iload_n dX9_areLinked_9 2 rfl ?_
  refine J_iadd dX9_areLinked_10 ?_
  obtain ⟨nn, ff, hh, hk, H⟩ := H
  refine J_iald dX9_areLinked_11 hh hk ?_
  generalize ff (Int32.toNatClampNeg ((300 * i1) + i2)) = v2 at H ⊢
  clear hh hk ff
  obtain ⟨H1, H2⟩ := H
  refine J_if_eq (tgt := 19) dX9_areLinked_12 (by decide) (fun hc => ?_) (fun hc => ?_)
  · replace H := H1 hc
    clear H1 H2
    refine J_iconst (v := 0) dX9_areLinked_19 (by decide) ?_
    exact J_iret dX9_areLinked_20 ⟨_, rfl, rfl⟩ ⟨Nat.le_of_ble_eq_true rfl, Nat.le_of_ble_eq_true rfl, fun _ => rfl⟩ H
  · replace H := H2 hc
    clear H1 H2
    refine J_iconst (v := 1) dX9_areLinked_15 (by decide) ?_
    refine J_goto (tgt := 20) dX9_areLinked_16 (by decide) ?_
    exact J_iret dX9_areLinked_20 ⟨_, rfl, rfl⟩ ⟨Nat.le_of_ble_eq_true rfl, Nat.le_of_ble_eq_true rfl, fun _ => rfl⟩ H
theorem eX9_areLinked {l : Launch} {g : am_G} {d : Nat} {x : Bool} {a0 : Nat} {i1 : Int32} {i2 : Int32} {h : am_H} {K : Int32 → am_H → Prop} (H : zX9_areLinked_0 l g d x a0 i1 i2 h (fun r h' => ∃ v, r = some (.int v) ∧ K v h')) : cl_I l g mX9_areLinked d x [.ref a0, .int i1, .int i2] h K := rX9_areLinked_0 H
def zX9_link_0 (l : Launch) (g : am_G) (d : Nat) (x : Bool) (a0 : Nat) (i1 : Int32) (i2 : Int32) (h : am_H) (Q : Option Value → am_H → Prop) : Prop := pt_V h a0 9 0 (.int 0) (fun h1 => cv_I l g mX9_isRing d x 9 a0 [.int i1] h1 (fun v3 h2 => ((v3 = 0 → Q (some (.int 0)) h2) ∧ (¬ v3 = 0 → cv_I l g mX9_isRing d x 9 a0 [.int i2] h2 (fun v5 h4 => ((v5 = 0 → Q (some (.int 0)) h4) ∧ (¬ v5 = 0 → ((i1 = i2 → Q (some (.int 0)) h4) ∧ (¬ i1 = i2 → cv_I l g mX9_areLinked d x 9 a0 [.int i1, .int i2] h4 (fun v7 h6 => ((v7 = 0 → cv_N l g mX9_sets d x 9 a0 [.int i1, .int i2, .int 1] h6 (fun h8 => Q (some (.int 1)) h8)) ∧ (¬ v7 = 0 → Q (some (.int 0)) h6))))))))))))
set_option maxRecDepth 4000 in
theorem rX9_link_0 {l : Launch} {g : am_G} {d : Nat} {x : Bool} {a0 : Nat} {i1 : Int32} {i2 : Int32} {h : am_H} {Q : Option Value → am_H → Prop} (H : zX9_link_0 l g d x a0 i1 i2 h Q) : am_J l g mX9_link (d + 1) (0, 0, x) 0 [(0, .ref a0), (1, .int i1), (2, .int i2)] [] h Q := by
  unfold zX9_link_0 at H
  refine J_aload_n dX9_link_0 0 rfl ?_
  refine J_iconst (v := 0) dX9_link_1 (by decide) ?_
  obtain ⟨fs, hh, hk, H⟩ := H
  refine J_put dX9_link_2 fX9_1 rfl rfl hh hk ?_
  generalize List.set h a0 (am_O 9 (List.set fs 0 (.int 0))) = h1 at H ⊢
  clear hh hk
  refine J_aload_n dX9_link_5 0 rfl ?_
  refine J_iload_n dX9_link_6 1 rfl ?_
  obtain ⟨⟨fs, hh⟩, H⟩ := H
  refine J_callV (As := [.int i1]) (S := []) (b := a0) dX9_link_7 mX9_isRing_ok kX9_223 rfl (by decide) (Nat.le_of_ble_eq_true rfl) hh rfl rfl (Nat.le_of_ble_eq_true rfl) ⟨Nat.le_of_ble_eq_true rfl, Nat.le_of_ble_eq_true rfl⟩ (fun k h' hp => ?_) H (fun r h2 hp => ?_)
  · obtain ⟨_, hv, -⟩ := hp; cases hv
  obtain ⟨v3, rfl, H⟩ := hp
  show am_J l g mX9_link (d + 1) (0, 0, x) 10 [(0, .ref a0), (1, .int i1), (2, .int i2)] [.int v3] h2 Q
  obtain ⟨H1, H2⟩ := H
  refine J_if_eq (tgt := 35) dX9_link_10 (by decide) (fun hc => ?_) (fun hc => ?_)
  · replace H := H1 hc
    clear H1 H2
    refine J_iconst (v := 0) dX9_link_35 (by decide) ?_
    exact J_iret dX9_link_36 ⟨_, rfl, rfl⟩ ⟨Nat.le_of_ble_eq_true rfl, Nat.le_of_ble_eq_true rfl, fun _ => rfl⟩ H
  · replace H := H2 hc
    clear H1 H2
    refine J_aload_n dX9_link_13 0 rfl ?_
    refine J_iload_n dX9_link_14 2 rfl ?_
    obtain ⟨⟨fs, hh⟩, H⟩ := H
    refine J_callV (As := [.int i2]) (S := []) (b := a0) dX9_link_15 mX9_isRing_ok kX9_223 rfl (by decide) (Nat.le_of_ble_eq_true rfl) hh rfl rfl (Nat.le_of_ble_eq_true rfl) ⟨Nat.le_of_ble_eq_true rfl, Nat.le_of_ble_eq_true rfl⟩ (fun k h' hp => ?_) H (fun r h4 hp => ?_)
    · obtain ⟨_, hv, -⟩ := hp; cases hv
    obtain ⟨v5, rfl, H⟩ := hp
    show am_J l g mX9_link (d + 1) (0, 0, x) 18 [(0, .ref a0), (1, .int i1), (2, .int i2)] [.int v5] h4 Q
    obtain ⟨H1, H2⟩ := H
    refine J_if_eq (tgt := 35) dX9_link_18 (by decide) (fun hc => ?_) (fun hc => ?_)
    · replace H := H1 hc
      clear H1 H2
      refine J_iconst (v := 0) dX9_link_35 (by decide) ?_
      exact J_iret dX9_link_36 ⟨_, rfl, rfl⟩ ⟨Nat.le_of_ble_eq_true rfl, Nat.le_of_ble_eq_true rfl, fun _ => rfl⟩ H
    · replace H := H2 hc
      clear H1 H2
      refine J_iload_n dX9_link_21 1 rfl ?_
      refine J_iload_n dX9_link_22 2 rfl ?_
      obtain ⟨H1, H2⟩ := H
      refine J_icmp_eq (tgt := 35) dX9_link_23 (by decide) (fun hc => ?_) (fun hc => ?_)
      · replace H := H1 hc
        clear H1 H2
        refine J_iconst (v := 0) dX9_link_35 (by decide) ?_
        exact J_iret dX9_link_36 ⟨_, rfl, rfl⟩ ⟨Nat.le_of_ble_eq_true rfl, Nat.le_of_ble_eq_true rfl, fun _ => rfl⟩ H
      · replace H := H2 hc
        clear H1 H2
        refine J_aload_n dX9_link_26 0 rfl ?_
        refine J_iload_n dX9_link_27 1 rfl ?_
        refine J_iload_n dX9_link_28 2 rfl ?_
        obtain ⟨⟨fs, hh⟩, H⟩ := H
        refine J_callV (As := [.int i1, .int i2]) (S := []) (b := a0) dX9_link_29 mX9_areLinked_ok kX9_229 rfl (by decide) (Nat.le_of_ble_eq_true rfl) hh rfl rfl (Nat.le_of_ble_eq_true rfl) ⟨Nat.le_of_ble_eq_true rfl, Nat.le_of_ble_eq_true rfl⟩ (fun k h' hp => ?_) H (fun r h6 hp => ?_)
        · obtain ⟨_, hv, -⟩ := hp; cases hv
        obtain ⟨v7, rfl, H⟩ := hp
        show am_J l g mX9_link (d + 1) (0, 0, x) 32 [(0, .ref a0), (1, .int i1), (2, .int i2)] [.int v7] h6 Q
        obtain ⟨H1, H2⟩ := H
        refine J_if_eq (tgt := 37) dX9_link_32 (by decide) (fun hc => ?_) (fun hc => ?_)
        · replace H := H1 hc
          clear H1 H2
          refine J_aload_n dX9_link_37 0 rfl ?_
          refine J_iload_n dX9_link_38 1 rfl ?_
          refine J_iload_n dX9_link_39 2 rfl ?_
          refine J_iconst (v := 1) dX9_link_40 (by decide) ?_
          obtain ⟨⟨fs, hh⟩, H⟩ := H
          refine J_callV (As := [.int i1, .int i2, .int 1]) (S := []) (b := a0) dX9_link_41 mX9_sets_ok kX9_214 rfl (by decide) (Nat.le_of_ble_eq_true rfl) hh rfl rfl (Nat.le_of_ble_eq_true rfl) ⟨Nat.le_of_ble_eq_true rfl, Nat.le_of_ble_eq_true rfl⟩ (fun k h' hp => ?_) H (fun r h8 hp => ?_)
          · obtain ⟨hv, -⟩ := hp; cases hv
          obtain ⟨rfl, H⟩ := hp
          show am_J l g mX9_link (d + 1) (0, 0, x) 44 [(0, .ref a0), (1, .int i1), (2, .int i2)] [] h8 Q
          refine J_iconst (v := 1) dX9_link_44 (by decide) ?_
          exact J_iret dX9_link_45 ⟨_, rfl, rfl⟩ ⟨Nat.le_of_ble_eq_true rfl, Nat.le_of_ble_eq_true rfl, fun _ => rfl⟩ H
        · replace H := H2 hc
          clear H1 H2
          refine J_iconst (v := 0) dX9_link_35 (by decide) ?_
          exact J_iret dX9_link_36 ⟨_, rfl, rfl⟩ ⟨Nat.le_of_ble_eq_true rfl, Nat.le_of_ble_eq_true rfl, fun _ => rfl⟩ H
theorem eX9_link {l : Launch} {g : am_G} {d : Nat} {x : Bool} {a0 : Nat} {i1 : Int32} {i2 : Int32} {h : am_H} {K : Int32 → am_H → Prop} (H : zX9_link_0 l g d x a0 i1 i2 h (fun r h' => ∃ v, r = some (.int v) ∧ K v h')) : cl_I l g mX9_link (d + 1) x [.ref a0, .int i1, .int i2] h K := rX9_link_0 H
def zX9_unlink_0 (l : Launch) (g : am_G) (d : Nat) (x : Bool) (a0 : Nat) (i1 : Int32) (i2 : Int32) (h : am_H) (Q : Option Value → am_H → Prop) : Prop := pt_V h a0 9 0 (.int 0) (fun h1 => cv_I l g mX9_isRing d x 9 a0 [.int i1] h1 (fun v3 h2 => ((v3 = 0 → Q (some (.int 0)) h2) ∧ (¬ v3 = 0 → cv_I l g mX9_isRing d x 9 a0 [.int i2] h2 (fun v5 h4 => ((v5 = 0 → Q (some (.int 0)) h4) ∧ (¬ v5 = 0 → cv_I l g mX9_areLinked d x 9 a0 [.int i1, .int i2] h4 (fun v7 h6 => ((¬ v7 = 0 → cv_N l g mX9_sets d x 9 a0 [.int i1, .int i2, .int 0] h6 (fun h8 => Q (some (.int 1)) h8)) ∧ (v7 = 0 → Q (some (.int 0)) h6))))))))))
set_option maxRecDepth 4000 in
theorem rX9_unlink_0 {l : Launch} {g : am_G} {d : Nat} {x : Bool} {a0 : Nat} {i1 : Int32} {i2 : Int32} {h : am_H} {Q : Option Value → am_H → Prop} (H : zX9_unlink_0 l g d x a0 i1 i2 h Q) : am_J l g mX9_unlink (d + 1) (0, 0, x) 0 [(0, .ref a0), (1, .int i1), (2, .int i2)] [] h Q := by
  unfold zX9_unlink_0 at H
  refine J_aload_n dX9_unlink_0 0 rfl ?_
  refine J_iconst (v := 0) dX9_unlink_1 (by decide) ?_
  obtain ⟨fs, hh, hk, H⟩ := H
  refine J_put dX9_unlink_2 fX9_1 rfl rfl hh hk ?_
  generalize List.set h a0 (am_O 9 (List.set fs 0 (.int 0))) = h1 at H ⊢
  clear hh hk
  refine J_aload_n dX9_unlink_5 0 rfl ?_
  refine J_iload_n dX9_unlink_6 1 rfl ?_
  obtain ⟨⟨fs, hh⟩, H⟩ := H
  refine J_callV (As := [.int i1]) (S := []) (b := a0) dX9_unlink_7 mX9_isRing_ok kX9_223 rfl (by decide) (Nat.le_of_ble_eq_true rfl) hh rfl rfl (Nat.le_of_ble_eq_true rfl) ⟨Nat.le_of_ble_eq_true rfl, Nat.le_of_ble_eq_true rfl⟩ (fun k h' hp => ?_) H (fun r h2 hp => ?_)
  · obtain ⟨_, hv, -⟩ := hp; cases hv
  obtain ⟨v3, rfl, H⟩ := hp
  show am_J l g mX9_unlink (d + 1) (0, 0, x) 10 [(0, .ref a0), (1, .int i1), (2, .int i2)] [.int v3] h2 Q
  obtain ⟨H1, H2⟩ := H
  refine J_if_eq (tgt := 30) dX9_unlink_10 (by decide) (fun hc => ?_) (fun hc => ?_)
  · replace H := H1 hc
    clear H1 H2
    refine J_iconst (v := 0) dX9_unlink_30 (by decide) ?_
    exact J_iret dX9_unlink_31 ⟨_, rfl, rfl⟩ ⟨Nat.le_of_ble_eq_true rfl, Nat.le_of_ble_eq_true rfl, fun _ => rfl⟩ H
  · replace H := H2 hc
    clear H1 H2
    refine J_aload_n dX9_unlink_13 0 rfl ?_
    refine J_iload_n dX9_unlink_14 2 rfl ?_
    obtain ⟨⟨fs, hh⟩, H⟩ := H
    refine J_callV (As := [.int i2]) (S := []) (b := a0) dX9_unlink_15 mX9_isRing_ok kX9_223 rfl (by decide) (Nat.le_of_ble_eq_true rfl) hh rfl rfl (Nat.le_of_ble_eq_true rfl) ⟨Nat.le_of_ble_eq_true rfl, Nat.le_of_ble_eq_true rfl⟩ (fun k h' hp => ?_) H (fun r h4 hp => ?_)
    · obtain ⟨_, hv, -⟩ := hp; cases hv
    obtain ⟨v5, rfl, H⟩ := hp
    show am_J l g mX9_unlink (d + 1) (0, 0, x) 18 [(0, .ref a0), (1, .int i1), (2, .int i2)] [.int v5] h4 Q
    obtain ⟨H1, H2⟩ := H
    refine J_if_eq (tgt := 30) dX9_unlink_18 (by decide) (fun hc => ?_) (fun hc => ?_)
    · replace H := H1 hc
      clear H1 H2
      refine J_iconst (v := 0) dX9_unlink_30 (by decide) ?_
      exact J_iret dX9_unlink_31 ⟨_, rfl, rfl⟩ ⟨Nat.le_of_ble_eq_true rfl, Nat.le_of_ble_eq_true rfl, fun _ => rfl⟩ H
    · replace H := H2 hc
      clear H1 H2
      refine J_aload_n dX9_unlink_21 0 rfl ?_
      refine J_iload_n dX9_unlink_22 1 rfl ?_
      refine J_iload_n dX9_unlink_23 2 rfl ?_
      obtain ⟨⟨fs, hh⟩, H⟩ := H
      refine J_callV (As := [.int i1, .int i2]) (S := []) (b := a0) dX9_unlink_24 mX9_areLinked_ok kX9_229 rfl (by decide) (Nat.le_of_ble_eq_true rfl) hh rfl rfl (Nat.le_of_ble_eq_true rfl) ⟨Nat.le_of_ble_eq_true rfl, Nat.le_of_ble_eq_true rfl⟩ (fun k h' hp => ?_) H (fun r h6 hp => ?_)
      · obtain ⟨_, hv, -⟩ := hp; cases hv
      obtain ⟨v7, rfl, H⟩ := hp
      show am_J l g mX9_unlink (d + 1) (0, 0, x) 27 [(0, .ref a0), (1, .int i1), (2, .int i2)] [.int v7] h6 Q
      obtain ⟨H1, H2⟩ := H
      refine J_if_ne (tgt := 32) dX9_unlink_27 (by decide) (fun hc => ?_) (fun hc => ?_)
      · replace H := H1 hc
        clear H1 H2
        refine J_aload_n dX9_unlink_32 0 rfl ?_
        refine J_iload_n dX9_unlink_33 1 rfl ?_
        refine J_iload_n dX9_unlink_34 2 rfl ?_
        refine J_iconst (v := 0) dX9_unlink_35 (by decide) ?_
        obtain ⟨⟨fs, hh⟩, H⟩ := H
        refine J_callV (As := [.int i1, .int i2, .int 0]) (S := []) (b := a0) dX9_unlink_36 mX9_sets_ok kX9_214 rfl (by decide) (Nat.le_of_ble_eq_true rfl) hh rfl rfl (Nat.le_of_ble_eq_true rfl) ⟨Nat.le_of_ble_eq_true rfl, Nat.le_of_ble_eq_true rfl⟩ (fun k h' hp => ?_) H (fun r h8 hp => ?_)
        · obtain ⟨hv, -⟩ := hp; cases hv
        obtain ⟨rfl, H⟩ := hp
        show am_J l g mX9_unlink (d + 1) (0, 0, x) 39 [(0, .ref a0), (1, .int i1), (2, .int i2)] [] h8 Q
        refine J_iconst (v := 1) dX9_unlink_39 (by decide) ?_
        exact J_iret dX9_unlink_40 ⟨_, rfl, rfl⟩ ⟨Nat.le_of_ble_eq_true rfl, Nat.le_of_ble_eq_true rfl, fun _ => rfl⟩ H
      · replace H := H2 hc
        clear H1 H2
        refine J_iconst (v := 0) dX9_unlink_30 (by decide) ?_
        exact J_iret dX9_unlink_31 ⟨_, rfl, rfl⟩ ⟨Nat.le_of_ble_eq_true rfl, Nat.le_of_ble_eq_true rfl, fun _ => rfl⟩ H
theorem eX9_unlink {l : Launch} {g : am_G} {d : Nat} {x : Bool} {a0 : Nat} {i1 : Int32} {i2 : Int32} {h : am_H} {K : Int32 → am_H → Prop} (H : zX9_unlink_0 l g d x a0 i1 i2 h (fun r h' => ∃ v, r = some (.int v) ∧ K v h')) : cl_I l g mX9_unlink (d + 1) x [.ref a0, .int i1, .int i2] h K := rX9_unlink_0 H
