def zX9_copies_26 (l : Launch) (g : am_G) (d : Nat) (x : Bool) (a0 : Nat) (i1 : Int32) (i2 : Int32) (i3 : Int32) (h : am_H) (Q : Option Value → am_H → Prop) : Prop := gt_R h a0 9 12 (fun v1 => al_I 0 h v1 i1 (fun v2 => ((v2 ≤ i3 → Q none h) ∧ (¬ v2 ≤ i3 → gt_R h a0 9 13 (fun v3 => gt_R h a0 9 13 (fun v4 => al_I 0 h v4 ((24 * i1) + i3) (fun v5 => as_I 0 h v3 ((24 * i2) + i3) v5 (fun h6 => gt_R h6 a0 9 14 (fun v7 => gt_R h6 a0 9 14 (fun v8 => al_I 0 h6 v8 ((24 * i1) + i3) (fun v9 => as_I 0 h6 v7 ((24 * i2) + i3) v9 (fun h10 => gt_R h10 a0 9 15 (fun v11 => gt_R h10 a0 9 15 (fun v12 => al_I 0 h10 v12 ((24 * i1) + i3) (fun v13 => as_I 0 h10 v11 ((24 * i2) + i3) v13 (fun h14 => gt_R h14 a0 9 16 (fun v15 => gt_R h14 a0 9 16 (fun v16 => al_I 0 h14 v16 ((24 * i1) + i3) (fun v17 => as_I 0 h14 v15 ((24 * i2) + i3) v17 (fun h18 => gt_R h18 a0 9 17 (fun v19 => gt_R h18 a0 9 17 (fun v20 => al_I 2 h18 v20 ((24 * i1) + i3) (fun v21 => ((v21 = 0 ∨ v21 = 1) ∧ as_I 2 h18 v19 ((24 * i2) + i3) v21 (fun h22 => am_J l g mX9_copies d (0, 0, x) 26 [(0, .ref a0), (1, .int i1), (2, .int i2), (3, .int (i3 + 1))] [] h22 Q)))))))))))))))))))))))))
set_option maxRecDepth 4000 in
theorem rX9_copies_26 {l : Launch} {g : am_G} {d : Nat} {x : Bool} {a0 : Nat} {i1 : Int32} {i2 : Int32} {i3 : Int32} {h : am_H} {Q : Option Value → am_H → Prop} (H : zX9_copies_26 l g d x a0 i1 i2 i3 h Q) : am_J l g mX9_copies d (0, 0, x) 26 [(0, .ref a0), (1, .int i1), (2, .int i2), (3, .int i3)] [] h Q := by
  unfold zX9_copies_26 at H
  refine J_iload_n dX9_copies_26 3 rfl ?_
  refine J_aload_n dX9_copies_27 0 rfl ?_
  obtain ⟨fs, v1, hh, hk, H⟩ := H
  refine J_get dX9_copies_28 fX9_51 hh hk ?_
  clear hh hk
  refine J_iload_n dX9_copies_31 1 rfl ?_
  obtain ⟨nn, ff, hh, hk, H⟩ := H
  refine J_iald dX9_copies_32 hh hk ?_
  generalize ff (Int32.toNatClampNeg i1) = v2 at H ⊢
  clear hh hk ff
  obtain ⟨H1, H2⟩ := H
  refine J_icmp_ge (tgt := 152) dX9_copies_33 (by decide) (fun hc => ?_) (fun hc => ?_)
  · replace H := H1 hc
    clear H1 H2
    exact J_vret dX9_copies_152 rfl ⟨Nat.le_of_ble_eq_true rfl, Nat.le_of_ble_eq_true rfl, fun _ => rfl⟩ H
  · replace H := H2 hc
    clear H1 H2
    refine J_aload_n dX9_copies_36 0 rfl ?_
    obtain ⟨fs, v3, hh, hk, H⟩ := H
    refine J_get dX9_copies_37 fX9_54 hh hk ?_
    clear hh hk
    refine J_bipush (v := 24) dX9_copies_40 (by decide) ?_
    refine J_iload_n dX9_copies_42 2 rfl ?_
    refine J_imul dX9_copies_43 ?_
    refine J_iload_n dX9_copies_44 3 rfl ?_
    refine J_iadd dX9_copies_45 ?_
    refine J_aload_n dX9_copies_46 0 rfl ?_
    obtain ⟨fs, v4, hh, hk, H⟩ := H
    refine J_get dX9_copies_47 fX9_54 hh hk ?_
    clear hh hk
    refine J_bipush (v := 24) dX9_copies_50 (by decide) ?_
    refine J_iload_n dX9_copies_52 1 rfl ?_
    refine J_imul dX9_copies_53 ?_
    refine J_iload_n dX9_copies_54 3 rfl ?_
    refine J_iadd dX9_copies_55 ?_
    obtain ⟨nn, ff, hh, hk, H⟩ := H
    refine J_iald dX9_copies_56 hh hk ?_
    generalize ff (Int32.toNatClampNeg ((24 * i1) + i3)) = v5 at H ⊢
    clear hh hk ff
    obtain ⟨nn, ff, hh, hk, H⟩ := H
    refine J_iast dX9_copies_57 hh hk ?_
    generalize List.set h v3 (am_I 0 nn (upd ff (Int32.toNatClampNeg ((24 * i2) + i3)) v5)) = h6 at H ⊢
    clear hh hk
    refine J_aload_n dX9_copies_58 0 rfl ?_
    obtain ⟨fs, v7, hh, hk, H⟩ := H
    refine J_get dX9_copies_59 fX9_57 hh hk ?_
    clear hh hk
    refine J_bipush (v := 24) dX9_copies_62 (by decide) ?_
    refine J_iload_n dX9_copies_64 2 rfl ?_
    refine J_imul dX9_copies_65 ?_
    refine J_iload_n dX9_copies_66 3 rfl ?_
    refine J_iadd dX9_copies_67 ?_
    refine J_aload_n dX9_copies_68 0 rfl ?_
    obtain ⟨fs, v8, hh, hk, H⟩ := H
    refine J_get dX9_copies_69 fX9_57 hh hk ?_
    clear hh hk
    refine J_bipush (v := 24) dX9_copies_72 (by decide) ?_
    refine J_iload_n dX9_copies_74 1 rfl ?_
    refine J_imul dX9_copies_75 ?_
    refine J_iload_n dX9_copies_76 3 rfl ?_
    refine J_iadd dX9_copies_77 ?_
    obtain ⟨nn, ff, hh, hk, H⟩ := H
    refine J_iald dX9_copies_78 hh hk ?_
    generalize ff (Int32.toNatClampNeg ((24 * i1) + i3)) = v9 at H ⊢
    clear hh hk ff
    obtain ⟨nn, ff, hh, hk, H⟩ := H
    refine J_iast dX9_copies_79 hh hk ?_
    generalize List.set h6 v7 (am_I 0 nn (upd ff (Int32.toNatClampNeg ((24 * i2) + i3)) v9)) = h10 at H ⊢
    clear hh hk
    refine J_aload_n dX9_copies_80 0 rfl ?_
    obtain ⟨fs, v11, hh, hk, H⟩ := H
    refine J_get dX9_copies_81 fX9_60 hh hk ?_
    clear hh hk
    refine J_bipush (v := 24) dX9_copies_84 (by decide) ?_
    refine J_iload_n dX9_copies_86 2 rfl ?_
    refine J_imul dX9_copies_87 ?_
    refine J_iload_n dX9_copies_88 3 rfl ?_
    refine J_iadd dX9_copies_89 ?_
    refine J_aload_n dX9_copies_90 0 rfl ?_
    obtain ⟨fs, v12, hh, hk, H⟩ := H
    refine J_get dX9_copies_91 fX9_60 hh hk ?_
    clear hh hk
    refine J_bipush (v := 24) dX9_copies_94 (by decide) ?_
    refine J_iload_n dX9_copies_96 1 rfl ?_
    refine J_imul dX9_copies_97 ?_
    refine J_iload_n dX9_copies_98 3 rfl ?_
    refine J_iadd dX9_copies_99 ?_
    obtain ⟨nn, ff, hh, hk, H⟩ := H
    refine J_iald dX9_copies_100 hh hk ?_
    generalize ff (Int32.toNatClampNeg ((24 * i1) + i3)) = v13 at H ⊢
    clear hh hk ff
    obtain ⟨nn, ff, hh, hk, H⟩ := H
    refine J_iast dX9_copies_101 hh hk ?_
    generalize List.set h10 v11 (am_I 0 nn (upd ff (Int32.toNatClampNeg ((24 * i2) + i3)) v13)) = h14 at H ⊢
    clear hh hk
    refine J_aload_n dX9_copies_102 0 rfl ?_
    obtain ⟨fs, v15, hh, hk, H⟩ := H
    refine J_get dX9_copies_103 fX9_63 hh hk ?_
    clear hh hk
    refine J_bipush (v := 24) dX9_copies_106 (by decide) ?_
    refine J_iload_n dX9_copies_108 2 rfl ?_
    refine J_imul dX9_copies_109 ?_
    refine J_iload_n dX9_copies_110 3 rfl ?_
    refine J_iadd dX9_copies_111 ?_
    refine J_aload_n dX9_copies_112 0 rfl ?_
    obtain ⟨fs, v16, hh, hk, H⟩ := H
    refine J_get dX9_copies_113 fX9_63 hh hk ?_
    clear hh hk
    refine J_bipush (v := 24) dX9_copies_116 (by decide) ?_
    refine J_iload_n dX9_copies_118 1 rfl ?_
    refine J_imul dX9_copies_119 ?_
    refine J_iload_n dX9_copies_120 3 rfl ?_
    refine J_iadd dX9_copies_121 ?_
    obtain ⟨nn, ff, hh, hk, H⟩ := H
    refine J_iald dX9_copies_122 hh hk ?_
    generalize ff (Int32.toNatClampNeg ((24 * i1) + i3)) = v17 at H ⊢
    clear hh hk ff
    obtain ⟨nn, ff, hh, hk, H⟩ := H
    refine J_iast dX9_copies_123 hh hk ?_
    generalize List.set h14 v15 (am_I 0 nn (upd ff (Int32.toNatClampNeg ((24 * i2) + i3)) v17)) = h18 at H ⊢
    clear hh hk
    refine J_aload_n dX9_copies_124 0 rfl ?_
    obtain ⟨fs, v19, hh, hk, H⟩ := H
    refine J_get dX9_copies_125 fX9_66 hh hk ?_
    clear hh hk
    refine J_bipush (v := 24) dX9_copies_128 (by decide) ?_
    refine J_iload_n dX9_copies_130 2 rfl ?_
    refine J_imul dX9_copies_131 ?_
    refine J_iload_n dX9_copies_132 3 rfl ?_
    refine J_iadd dX9_copies_133 ?_
    refine J_aload_n dX9_copies_134 0 rfl ?_
    obtain ⟨fs, v20, hh, hk, H⟩ := H
    refine J_get dX9_copies_135 fX9_66 hh hk ?_
    clear hh hk
    refine J_bipush (v := 24) dX9_copies_138 (by decide) ?_
    refine J_iload_n dX9_copies_140 1 rfl ?_
    refine J_imul dX9_copies_141 ?_
    refine J_iload_n dX9_copies_142 3 rfl ?_
    refine J_iadd dX9_copies_143 ?_
    obtain ⟨nn, ff, hh, hk, H⟩ := H
    refine J_zald dX9_copies_144 hh hk ?_
    generalize ff (Int32.toNatClampNeg ((24 * i1) + i3)) = v21 at H ⊢
    clear hh hk ff
    obtain ⟨hb, H⟩ := H
    obtain ⟨nn, ff, hh, hk, H⟩ := H
    refine J_zast dX9_copies_145 hh hk (by rcases hb with e | e <;> rw [e] <;> rfl) ?_
    generalize List.set h18 v19 (am_I 2 nn (upd ff (Int32.toNatClampNeg ((24 * i2) + i3)) v21)) = h22 at H ⊢
    clear hh hk
    refine J_iinc (v := (i3 + 1)) (L' := [(3, .int (i3 + 1)), (0, .ref a0), (1, .int i1), (2, .int i2)]) dX9_copies_146 3 rfl rfl (by decide) rfl ?_
    refine J_goto (tgt := 26) dX9_copies_149 (by decide) ?_
    exact J_pick [1, 2, 3, 0] rfl H
def zX9_copies_0 (l : Launch) (g : am_G) (d : Nat) (x : Bool) (a0 : Nat) (i1 : Int32) (i2 : Int32) (h : am_H) (Q : Option Value → am_H → Prop) : Prop := gt_R h a0 9 10 (fun v1 => gt_R h a0 9 10 (fun v2 => al_I 0 h v2 i1 (fun v3 => as_I 0 h v1 i2 v3 (fun h4 => gt_R h4 a0 9 12 (fun v5 => gt_R h4 a0 9 12 (fun v6 => al_I 0 h4 v6 i1 (fun v7 => as_I 0 h4 v5 i2 v7 (fun h8 => am_J l g mX9_copies d (0, 0, x) 26 [(0, .ref a0), (1, .int i1), (2, .int i2), (3, .int 0)] [] h8 Q))))))))
set_option maxRecDepth 4000 in
theorem rX9_copies_0 {l : Launch} {g : am_G} {d : Nat} {x : Bool} {a0 : Nat} {i1 : Int32} {i2 : Int32} {h : am_H} {Q : Option Value → am_H → Prop} (H : zX9_copies_0 l g d x a0 i1 i2 h Q) : am_J l g mX9_copies d (0, 0, x) 0 [(0, .ref a0), (1, .int i1), (2, .int i2)] [] h Q := by
  unfold zX9_copies_0 at H
  refine J_aload_n dX9_copies_0 0 rfl ?_
  obtain ⟨fs, v1, hh, hk, H⟩ := H
  refine J_get dX9_copies_1 fX9_45 hh hk ?_
  clear hh hk
  refine J_iload_n dX9_copies_4 2 rfl ?_
  refine J_aload_n dX9_copies_5 0 rfl ?_
  obtain ⟨fs, v2, hh, hk, H⟩ := H
  refine J_get dX9_copies_6 fX9_45 hh hk ?_
  clear hh hk
  refine J_iload_n dX9_copies_9 1 rfl ?_
  obtain ⟨nn, ff, hh, hk, H⟩ := H
  refine J_iald dX9_copies_10 hh hk ?_
  generalize ff (Int32.toNatClampNeg i1) = v3 at H ⊢
  clear hh hk ff
  obtain ⟨nn, ff, hh, hk, H⟩ := H
  refine J_iast dX9_copies_11 hh hk ?_
  generalize List.set h v1 (am_I 0 nn (upd ff (Int32.toNatClampNeg i2) v3)) = h4 at H ⊢
  clear hh hk
  refine J_aload_n dX9_copies_12 0 rfl ?_
  obtain ⟨fs, v5, hh, hk, H⟩ := H
  refine J_get dX9_copies_13 fX9_51 hh hk ?_
  clear hh hk
  refine J_iload_n dX9_copies_16 2 rfl ?_
  refine J_aload_n dX9_copies_17 0 rfl ?_
  obtain ⟨fs, v6, hh, hk, H⟩ := H
  refine J_get dX9_copies_18 fX9_51 hh hk ?_
  clear hh hk
  refine J_iload_n dX9_copies_21 1 rfl ?_
  obtain ⟨nn, ff, hh, hk, H⟩ := H
  refine J_iald dX9_copies_22 hh hk ?_
  generalize ff (Int32.toNatClampNeg i1) = v7 at H ⊢
  clear hh hk ff
  obtain ⟨nn, ff, hh, hk, H⟩ := H
  refine J_iast dX9_copies_23 hh hk ?_
  generalize List.set h4 v5 (am_I 0 nn (upd ff (Int32.toNatClampNeg i2) v7)) = h8 at H ⊢
  clear hh hk
  refine J_iconst (v := 0) dX9_copies_24 (by decide) ?_
  refine J_istore_n (L' := [(3, .int 0), (0, .ref a0), (1, .int i1), (2, .int i2)]) dX9_copies_25 (by decide) rfl ?_
  exact J_pick [1, 2, 3, 0] rfl H
theorem eX9_copies {l : Launch} {g : am_G} {d : Nat} {x : Bool} {a0 : Nat} {i1 : Int32} {i2 : Int32} {h : am_H} {K : am_H → Prop} (H : zX9_copies_0 l g d x a0 i1 i2 h (fun r h' => r = none ∧ K h')) : cl_N l g mX9_copies d x [.ref a0, .int i1, .int i2] h K := rX9_copies_0 H
def zX9_readRing_62 (l : Launch) (g : am_G) (d : Nat) (x : Bool) (a0 : Nat) (h : am_H) (Q : Option Value → am_H → Prop) : Prop := gt_I h a0 9 8 (fun v1 => ((v1 ≤ 0 → gt_R h a0 9 11 (fun v2 => gt_R h a0 9 10 (fun v3 => al_I 0 h v3 1 (fun v4 => gt_R h a0 9 6 (fun v5 => gt_I h a0 9 7 (fun v6 => al_L h v5 v6 (fun v7 => as_L h v2 (4 + v4) v7 (fun h8 => gt_I h8 a0 9 7 (fun v9 => pt_V h8 a0 9 7 (.int (v9 + 1)) (fun h10 => cv_N l g mX9_takeSign d x 9 a0 [.int 59] h10 (fun h11 => gt_R h11 a0 9 10 (fun v13 => al_I 0 h11 v13 1 (fun v14 => as_I 0 h11 v13 1 (v14 + 1) (fun h15 => Q none h15)))))))))))))) ∧ (¬ v1 ≤ 0 → Q none h)))
set_option maxRecDepth 4000 in
theorem rX9_readRing_62 {l : Launch} {g : am_G} {d : Nat} {x : Bool} {a0 : Nat} {h : am_H} {Q : Option Value → am_H → Prop} (H : zX9_readRing_62 l g d x a0 h Q) : am_J l g mX9_readRing (d + 1) (0, 0, x) 62 [(0, .ref a0)] [] h Q := by
  unfold zX9_readRing_62 at H
  refine J_aload_n dX9_readRing_62 0 rfl ?_
  obtain ⟨fs, v1, hh, hk, H⟩ := H
  refine J_get dX9_readRing_63 fX9_145 hh hk ?_
  clear hh hk
  obtain ⟨H1, H2⟩ := H
  refine J_if_le (tgt := 70) dX9_readRing_66 (by decide) (fun hc => ?_) (fun hc => ?_)
  · replace H := H1 hc
    clear H1 H2
    refine J_aload_n dX9_readRing_70 0 rfl ?_
    obtain ⟨fs, v2, hh, hk, H⟩ := H
    refine J_get dX9_readRing_71 fX9_48 hh hk ?_
    clear hh hk
    refine J_iconst (v := 4) dX9_readRing_74 (by decide) ?_
    refine J_aload_n dX9_readRing_75 0 rfl ?_
    obtain ⟨fs, v3, hh, hk, H⟩ := H
    refine J_get dX9_readRing_76 fX9_45 hh hk ?_
    clear hh hk
    refine J_iconst (v := 1) dX9_readRing_79 (by decide) ?_
    obtain ⟨nn, ff, hh, hk, H⟩ := H
    refine J_iald dX9_readRing_80 hh hk ?_
    generalize ff (Int32.toNatClampNeg 1) = v4 at H ⊢
    clear hh hk ff
    refine J_iadd dX9_readRing_81 ?_
    refine J_aload_n dX9_readRing_82 0 rfl ?_
    obtain ⟨fs, v5, hh, hk, H⟩ := H
    refine J_get dX9_readRing_83 fX9_30 hh hk ?_
    clear hh hk
    refine J_aload_n dX9_readRing_86 0 rfl ?_
    obtain ⟨fs, v6, hh, hk, H⟩ := H
    refine J_get dX9_readRing_87 fX9_142 hh hk ?_
    clear hh hk
    obtain ⟨nn, ff, hh, hk, H⟩ := H
    refine J_lald dX9_readRing_90 hh hk ?_
    generalize ff (Int32.toNatClampNeg v6) = v7 at H ⊢
    clear hh hk ff
    obtain ⟨nn, ff, hh, hk, H⟩ := H
    refine J_last dX9_readRing_91 hh hk ?_
    generalize List.set h v2 (am_L nn (vp_updL ff (Int32.toNatClampNeg (4 + v4)) v7)) = h8 at H ⊢
    clear hh hk
    refine J_aload_n dX9_readRing_92 0 rfl ?_
    refine J_dup dX9_readRing_93 rfl ?_
    obtain ⟨fs, v9, hh, hk, H⟩ := H
    refine J_get dX9_readRing_94 fX9_142 hh hk ?_
    clear hh hk
    refine J_iconst (v := 1) dX9_readRing_97 (by decide) ?_
    refine J_iadd dX9_readRing_98 ?_
    obtain ⟨fs, hh, hk, H⟩ := H
    refine J_put dX9_readRing_99 fX9_142 rfl rfl hh hk ?_
    generalize List.set h8 a0 (am_O 9 (List.set fs 7 (.int (v9 + 1)))) = h10 at H ⊢
    clear hh hk
    refine J_aload_n dX9_readRing_102 0 rfl ?_
    refine J_bipush (v := 59) dX9_readRing_103 (by decide) ?_
    obtain ⟨⟨fs, hh⟩, H⟩ := H
    refine J_callV (As := [.int 59]) (S := []) (b := a0) dX9_readRing_105 mX9_takeSign_ok kX9_182 rfl (by decide) (Nat.le_of_ble_eq_true rfl) hh rfl rfl (Nat.le_of_ble_eq_true rfl) ⟨Nat.le_of_ble_eq_true rfl, Nat.le_of_ble_eq_true rfl⟩ (fun k h' hp => ?_) H (fun r h11 hp => ?_)
    · obtain ⟨hv, -⟩ := hp; cases hv
    obtain ⟨rfl, H⟩ := hp
    show am_J l g mX9_readRing (d + 1) (0, 0, x) 108 [(0, .ref a0)] [] h11 Q
    refine J_aload_n dX9_readRing_108 0 rfl ?_
    obtain ⟨fs, v13, hh, hk, H⟩ := H
    refine J_get dX9_readRing_109 fX9_45 hh hk ?_
    clear hh hk
    refine J_iconst (v := 1) dX9_readRing_112 (by decide) ?_
    refine J_dup2 dX9_readRing_113 rfl rfl ?_
    obtain ⟨nn, ff, hh, hk, H⟩ := H
    refine J_iald dX9_readRing_114 hh hk ?_
    generalize ff (Int32.toNatClampNeg 1) = v14 at H ⊢
    clear hh hk ff
    refine J_iconst (v := 1) dX9_readRing_115 (by decide) ?_
    refine J_iadd dX9_readRing_116 ?_
    obtain ⟨nn, ff, hh, hk, H⟩ := H
    refine J_iast dX9_readRing_117 hh hk ?_
    generalize List.set h11 v13 (am_I 0 nn (upd ff (Int32.toNatClampNeg 1) (v14 + 1))) = h15 at H ⊢
    clear hh hk
    exact J_vret dX9_readRing_118 rfl ⟨Nat.le_of_ble_eq_true rfl, Nat.le_of_ble_eq_true rfl, fun _ => rfl⟩ H
  · replace H := H2 hc
    clear H1 H2
    exact J_vret dX9_readRing_69 rfl ⟨Nat.le_of_ble_eq_true rfl, Nat.le_of_ble_eq_true rfl, fun _ => rfl⟩ H
def zX9_readRing_0 (l : Launch) (g : am_G) (d : Nat) (x : Bool) (a0 : Nat) (h : am_H) (Q : Option Value → am_H → Prop) : Prop := gt_R h a0 9 10 (fun v1 => al_I 0 h v1 1 (fun v2 => ((¬ v2 = 4 → gt_I h a0 9 7 (fun v3 => pt_V h a0 9 7 (.int (v3 + 1)) (fun h4 => cv_I l g mX9_isName d x 9 a0 [] h4 (fun v6 h5 => ((¬ v6 = 0 → gt_R h5 a0 9 6 (fun v7 => gt_I h5 a0 9 7 (fun v8 => al_L h5 v7 v8 (fun v9 => cv_I l g mX9_findRing d x 9 a0 [.long v9] h5 (fun v11 h10 => ((v11 < 0 → zX9_readRing_62 l g d x a0  h10 Q) ∧ (¬ v11 < 0 → cv_N l g mX9_wrong d x 9 a0 [.int 3] h10 (fun h12 => zX9_readRing_62 l g d x a0  h12 Q)))))))) ∧ (v6 = 0 → cv_N l g mX9_wrong d x 9 a0 [.int 1] h5 (fun h14 => zX9_readRing_62 l g d x a0  h14 Q))))))) ∧ (v2 = 4 → cv_N l g mX9_wrong d x 9 a0 [.int 5] h (fun h16 => Q none h16)))))
set_option maxRecDepth 4000 in
theorem rX9_readRing_0 {l : Launch} {g : am_G} {d : Nat} {x : Bool} {a0 : Nat} {h : am_H} {Q : Option Value → am_H → Prop} (H : zX9_readRing_0 l g d x a0 h Q) : am_J l g mX9_readRing (d + 1) (0, 0, x) 0 [(0, .ref a0)] [] h Q := by
  unfold zX9_readRing_0 at H
  refine J_aload_n dX9_readRing_0 0 rfl ?_
  obtain ⟨fs, v1, hh, hk, H⟩ := H
  refine J_get dX9_readRing_1 fX9_45 hh hk ?_
  clear hh hk
  refine J_iconst (v := 1) dX9_readRing_4 (by decide) ?_
  obtain ⟨nn, ff, hh, hk, H⟩ := H
  refine J_iald dX9_readRing_5 hh hk ?_
  generalize ff (Int32.toNatClampNeg 1) = v2 at H ⊢
  clear hh hk ff
  refine J_iconst (v := 4) dX9_readRing_6 (by decide) ?_
  obtain ⟨H1, H2⟩ := H
  refine J_icmp_ne (tgt := 16) dX9_readRing_7 (by decide) (fun hc => ?_) (fun hc => ?_)
  · replace H := H1 hc
    clear H1 H2
    refine J_aload_n dX9_readRing_16 0 rfl ?_
    refine J_dup dX9_readRing_17 rfl ?_
    obtain ⟨fs, v3, hh, hk, H⟩ := H
    refine J_get dX9_readRing_18 fX9_142 hh hk ?_
    clear hh hk
    refine J_iconst (v := 1) dX9_readRing_21 (by decide) ?_
    refine J_iadd dX9_readRing_22 ?_
    obtain ⟨fs, hh, hk, H⟩ := H
    refine J_put dX9_readRing_23 fX9_142 rfl rfl hh hk ?_
    generalize List.set h a0 (am_O 9 (List.set fs 7 (.int (v3 + 1)))) = h4 at H ⊢
    clear hh hk
    refine J_aload_n dX9_readRing_26 0 rfl ?_
    obtain ⟨⟨fs, hh⟩, H⟩ := H
    refine J_callV (As := []) (S := []) (b := a0) dX9_readRing_27 mX9_isName_ok kX9_174 rfl (by decide) (Nat.le_of_ble_eq_true rfl) hh rfl rfl (Nat.le_of_ble_eq_true rfl) ⟨Nat.le_of_ble_eq_true rfl, Nat.le_of_ble_eq_true rfl⟩ (fun k h' hp => ?_) H (fun r h5 hp => ?_)
    · obtain ⟨_, hv, -⟩ := hp; cases hv
    obtain ⟨v6, rfl, H⟩ := hp
    show am_J l g mX9_readRing (d + 1) (0, 0, x) 30 [(0, .ref a0)] [.int v6] h5 Q
    obtain ⟨H1, H2⟩ := H
    refine J_if_ne (tgt := 41) dX9_readRing_30 (by decide) (fun hc => ?_) (fun hc => ?_)
    · replace H := H1 hc
      clear H1 H2
      refine J_aload_n dX9_readRing_41 0 rfl ?_
      refine J_aload_n dX9_readRing_42 0 rfl ?_
      obtain ⟨fs, v7, hh, hk, H⟩ := H
      refine J_get dX9_readRing_43 fX9_30 hh hk ?_
      clear hh hk
      refine J_aload_n dX9_readRing_46 0 rfl ?_
      obtain ⟨fs, v8, hh, hk, H⟩ := H
      refine J_get dX9_readRing_47 fX9_142 hh hk ?_
      clear hh hk
      obtain ⟨nn, ff, hh, hk, H⟩ := H
      refine J_lald dX9_readRing_50 hh hk ?_
      generalize ff (Int32.toNatClampNeg v8) = v9 at H ⊢
      clear hh hk ff
      obtain ⟨⟨fs, hh⟩, H⟩ := H
      refine J_callV (As := [.long v9]) (S := []) (b := a0) dX9_readRing_51 mX9_findRing_ok kX9_178 rfl (by decide) (Nat.le_of_ble_eq_true rfl) hh rfl rfl (Nat.le_of_ble_eq_true rfl) ⟨Nat.le_of_ble_eq_true rfl, Nat.le_of_ble_eq_true rfl⟩ (fun k h' hp => ?_) H (fun r h10 hp => ?_)
      · obtain ⟨_, hv, -⟩ := hp; cases hv
      obtain ⟨v11, rfl, H⟩ := hp
      show am_J l g mX9_readRing (d + 1) (0, 0, x) 54 [(0, .ref a0)] [.int v11] h10 Q
      obtain ⟨H1, H2⟩ := H
      refine J_if_lt (tgt := 62) dX9_readRing_54 (by decide) (fun hc => ?_) (fun hc => ?_)
      · replace H := H1 hc
        clear H1 H2
        exact J_pick [0] rfl (rX9_readRing_62 H)
      · replace H := H2 hc
        clear H1 H2
        refine J_aload_n dX9_readRing_57 0 rfl ?_
        refine J_iconst (v := 3) dX9_readRing_58 (by decide) ?_
        obtain ⟨⟨fs, hh⟩, H⟩ := H
        refine J_callV (As := [.int 3]) (S := []) (b := a0) dX9_readRing_59 mX9_wrong_ok kX9_151 rfl (by decide) (Nat.le_of_ble_eq_true rfl) hh rfl rfl (Nat.le_of_ble_eq_true rfl) ⟨Nat.le_of_ble_eq_true rfl, Nat.le_of_ble_eq_true rfl⟩ (fun k h' hp => ?_) H (fun r h12 hp => ?_)
        · obtain ⟨hv, -⟩ := hp; cases hv
        obtain ⟨rfl, H⟩ := hp
        show am_J l g mX9_readRing (d + 1) (0, 0, x) 62 [(0, .ref a0)] [] h12 Q
        exact J_pick [0] rfl (rX9_readRing_62 H)
    · replace H := H2 hc
      clear H1 H2
      refine J_aload_n dX9_readRing_33 0 rfl ?_
      refine J_iconst (v := 1) dX9_readRing_34 (by decide) ?_
      obtain ⟨⟨fs, hh⟩, H⟩ := H
      refine J_callV (As := [.int 1]) (S := []) (b := a0) dX9_readRing_35 mX9_wrong_ok kX9_151 rfl (by decide) (Nat.le_of_ble_eq_true rfl) hh rfl rfl (Nat.le_of_ble_eq_true rfl) ⟨Nat.le_of_ble_eq_true rfl, Nat.le_of_ble_eq_true rfl⟩ (fun k h' hp => ?_) H (fun r h14 hp => ?_)
      · obtain ⟨hv, -⟩ := hp; cases hv
      obtain ⟨rfl, H⟩ := hp
      show am_J l g mX9_readRing (d + 1) (0, 0, x) 38 [(0, .ref a0)] [] h14 Q
      refine J_goto (tgt := 62) dX9_readRing_38 (by decide) ?_
      exact J_pick [0] rfl (rX9_readRing_62 H)
  · replace H := H2 hc
    clear H1 H2
    refine J_aload_n dX9_readRing_10 0 rfl ?_
    refine J_iconst (v := 5) dX9_readRing_11 (by decide) ?_
    obtain ⟨⟨fs, hh⟩, H⟩ := H
    refine J_callV (As := [.int 5]) (S := []) (b := a0) dX9_readRing_12 mX9_wrong_ok kX9_151 rfl (by decide) (Nat.le_of_ble_eq_true rfl) hh rfl rfl (Nat.le_of_ble_eq_true rfl) ⟨Nat.le_of_ble_eq_true rfl, Nat.le_of_ble_eq_true rfl⟩ (fun k h' hp => ?_) H (fun r h16 hp => ?_)
    · obtain ⟨hv, -⟩ := hp; cases hv
    obtain ⟨rfl, H⟩ := hp
    show am_J l g mX9_readRing (d + 1) (0, 0, x) 15 [(0, .ref a0)] [] h16 Q
    exact J_vret dX9_readRing_15 rfl ⟨Nat.le_of_ble_eq_true rfl, Nat.le_of_ble_eq_true rfl, fun _ => rfl⟩ H
theorem eX9_readRing {l : Launch} {g : am_G} {d : Nat} {x : Bool} {a0 : Nat} {h : am_H} {K : am_H → Prop} (H : zX9_readRing_0 l g d x a0 h (fun r h' => r = none ∧ K h')) : cl_N l g mX9_readRing (d + 1) x [.ref a0] h K := rX9_readRing_0 H
def zX9_takeRing_66 (l : Launch) (g : am_G) (d : Nat) (x : Bool) (a0 : Nat) (i1 : Int32) (s0 : Nat) (s1 : Int32) (s2 : Int32) (h : am_H) (Q : Option Value → am_H → Prop) : Prop := pt_V h s0 9 7 (.int (s1 + s2)) (fun h1 => gt_I h1 a0 9 8 (fun v2 => ((v2 ≤ 0 → Q (some (.int i1)) h1) ∧ (¬ v2 ≤ 0 → Q (some (.int 0)) h1))))
set_option maxRecDepth 4000 in
theorem rX9_takeRing_66 {l : Launch} {g : am_G} {d : Nat} {x : Bool} {a0 : Nat} {i1 : Int32} {s0 : Nat} {s1 : Int32} {s2 : Int32} {h : am_H} {Q : Option Value → am_H → Prop} (H : zX9_takeRing_66 l g d x a0 i1 s0 s1 s2 h Q) : am_J l g mX9_takeRing (d + 1) (0, 0, x) 66 [(0, .ref a0), (1, .int i1)] [.int s2, .int s1, .ref s0] h Q := by
  unfold zX9_takeRing_66 at H
  refine J_iadd dX9_takeRing_66 ?_
  obtain ⟨fs, hh, hk, H⟩ := H
  refine J_put dX9_takeRing_67 fX9_142 rfl rfl hh hk ?_
  generalize List.set h s0 (am_O 9 (List.set fs 7 (.int (s1 + s2)))) = h1 at H ⊢
  clear hh hk
  refine J_aload_n dX9_takeRing_70 0 rfl ?_
  obtain ⟨fs, v2, hh, hk, H⟩ := H
  refine J_get dX9_takeRing_71 fX9_145 hh hk ?_
  clear hh hk
  obtain ⟨H1, H2⟩ := H
  refine J_if_le (tgt := 81) dX9_takeRing_74 (by decide) (fun hc => ?_) (fun hc => ?_)
  · replace H := H1 hc
    clear H1 H2
    refine J_iload_n dX9_takeRing_81 1 rfl ?_
    exact J_iret dX9_takeRing_82 ⟨_, rfl, rfl⟩ ⟨Nat.le_of_ble_eq_true rfl, Nat.le_of_ble_eq_true rfl, fun _ => rfl⟩ H
  · replace H := H2 hc
    clear H1 H2
    refine J_iconst (v := 0) dX9_takeRing_77 (by decide) ?_
    refine J_goto (tgt := 82) dX9_takeRing_78 (by decide) ?_
    exact J_iret dX9_takeRing_82 ⟨_, rfl, rfl⟩ ⟨Nat.le_of_ble_eq_true rfl, Nat.le_of_ble_eq_true rfl, fun _ => rfl⟩ H
def zX9_takeRing_49 (l : Launch) (g : am_G) (d : Nat) (x : Bool) (a0 : Nat) (i1 : Int32) (h : am_H) (Q : Option Value → am_H → Prop) : Prop := gt_I h a0 9 7 (fun v1 => gt_I h a0 9 8 (fun v2 => ((¬ v2 = 0 → zX9_takeRing_66 l g d x a0 i1 a0 v1 0 h Q) ∧ (v2 = 0 → zX9_takeRing_66 l g d x a0 i1 a0 v1 1 h Q))))
set_option maxRecDepth 4000 in
theorem rX9_takeRing_49 {l : Launch} {g : am_G} {d : Nat} {x : Bool} {a0 : Nat} {i1 : Int32} {h : am_H} {Q : Option Value → am_H → Prop} (H : zX9_takeRing_49 l g d x a0 i1 h Q) : am_J l g mX9_takeRing (d + 1) (0, 0, x) 49 [(0, .ref a0), (1, .int i1)] [] h Q := by
  unfold zX9_takeRing_49 at H
  refine J_aload_n dX9_takeRing_49 0 rfl ?_
  refine J_dup dX9_takeRing_50 rfl ?_
  obtain ⟨fs, v1, hh, hk, H⟩ := H
  refine J_get dX9_takeRing_51 fX9_142 hh hk ?_
  clear hh hk
  refine J_aload_n dX9_takeRing_54 0 rfl ?_
  obtain ⟨fs, v2, hh, hk, H⟩ := H
  refine J_get dX9_takeRing_55 fX9_145 hh hk ?_
  clear hh hk
  obtain ⟨H1, H2⟩ := H
  refine J_if_ne (tgt := 65) dX9_takeRing_58 (by decide) (fun hc => ?_) (fun hc => ?_)
  · replace H := H1 hc
    clear H1 H2
    refine J_iconst (v := 0) dX9_takeRing_65 (by decide) ?_
    exact J_pick [0, 1] rfl (rX9_takeRing_66 H)
  · replace H := H2 hc
    clear H1 H2
    refine J_iconst (v := 1) dX9_takeRing_61 (by decide) ?_
    refine J_goto (tgt := 66) dX9_takeRing_62 (by decide) ?_
    exact J_pick [0, 1] rfl (rX9_takeRing_66 H)
def zX9_takeRing_24 (l : Launch) (g : am_G) (d : Nat) (x : Bool) (a0 : Nat) (s0 : Int32) (h : am_H) (Q : Option Value → am_H → Prop) : Prop := cv_I l g mX9_isName d x 9 a0 [] h (fun v2 h1 => ((¬ v2 = 0 → ((0 ≤ s0 → zX9_takeRing_49 l g d x a0 s0  h1 Q) ∧ (¬ 0 ≤ s0 → cv_N l g mX9_wrong d x 9 a0 [.int 2] h1 (fun h3 => zX9_takeRing_49 l g d x a0 s0  h3 Q)))) ∧ (v2 = 0 → cv_N l g mX9_wrong d x 9 a0 [.int 1] h1 (fun h5 => zX9_takeRing_49 l g d x a0 s0  h5 Q))))
set_option maxRecDepth 4000 in
theorem rX9_takeRing_24 {l : Launch} {g : am_G} {d : Nat} {x : Bool} {a0 : Nat} {s0 : Int32} {h : am_H} {Q : Option Value → am_H → Prop} (H : zX9_takeRing_24 l g d x a0 s0 h Q) : am_J l g mX9_takeRing (d + 1) (0, 0, x) 24 [(0, .ref a0)] [.int s0] h Q := by
  unfold zX9_takeRing_24 at H
  refine J_istore_n (L' := [(1, .int s0), (0, .ref a0)]) dX9_takeRing_24 (by decide) rfl ?_
  refine J_aload_n dX9_takeRing_25 1 rfl ?_
  obtain ⟨⟨fs, hh⟩, H⟩ := H
  refine J_callV (As := []) (S := []) (b := a0) dX9_takeRing_26 mX9_isName_ok kX9_174 rfl (by decide) (Nat.le_of_ble_eq_true rfl) hh rfl rfl (Nat.le_of_ble_eq_true rfl) ⟨Nat.le_of_ble_eq_true rfl, Nat.le_of_ble_eq_true rfl⟩ (fun k h' hp => ?_) H (fun r h1 hp => ?_)
  · obtain ⟨_, hv, -⟩ := hp; cases hv
  obtain ⟨v2, rfl, H⟩ := hp
  show am_J l g mX9_takeRing (d + 1) (0, 0, x) 29 [(1, .int s0), (0, .ref a0)] [.int v2] h1 Q
  obtain ⟨H1, H2⟩ := H
  refine J_if_ne (tgt := 40) dX9_takeRing_29 (by decide) (fun hc => ?_) (fun hc => ?_)
  · replace H := H1 hc
    clear H1 H2
    refine J_iload_n dX9_takeRing_40 0 rfl ?_
    obtain ⟨H1, H2⟩ := H
    refine J_if_ge (tgt := 49) dX9_takeRing_41 (by decide) (fun hc => ?_) (fun hc => ?_)
    · replace H := H1 hc
      clear H1 H2
      exact J_pick [1, 0] rfl (rX9_takeRing_49 H)
    · replace H := H2 hc
      clear H1 H2
      refine J_aload_n dX9_takeRing_44 1 rfl ?_
      refine J_iconst (v := 2) dX9_takeRing_45 (by decide) ?_
      obtain ⟨⟨fs, hh⟩, H⟩ := H
      refine J_callV (As := [.int 2]) (S := []) (b := a0) dX9_takeRing_46 mX9_wrong_ok kX9_151 rfl (by decide) (Nat.le_of_ble_eq_true rfl) hh rfl rfl (Nat.le_of_ble_eq_true rfl) ⟨Nat.le_of_ble_eq_true rfl, Nat.le_of_ble_eq_true rfl⟩ (fun k h' hp => ?_) H (fun r h3 hp => ?_)
      · obtain ⟨hv, -⟩ := hp; cases hv
      obtain ⟨rfl, H⟩ := hp
      show am_J l g mX9_takeRing (d + 1) (0, 0, x) 49 [(1, .int s0), (0, .ref a0)] [] h3 Q
      exact J_pick [1, 0] rfl (rX9_takeRing_49 H)
  · replace H := H2 hc
    clear H1 H2
    refine J_aload_n dX9_takeRing_32 1 rfl ?_
    refine J_iconst (v := 1) dX9_takeRing_33 (by decide) ?_
    obtain ⟨⟨fs, hh⟩, H⟩ := H
    refine J_callV (As := [.int 1]) (S := []) (b := a0) dX9_takeRing_34 mX9_wrong_ok kX9_151 rfl (by decide) (Nat.le_of_ble_eq_true rfl) hh rfl rfl (Nat.le_of_ble_eq_true rfl) ⟨Nat.le_of_ble_eq_true rfl, Nat.le_of_ble_eq_true rfl⟩ (fun k h' hp => ?_) H (fun r h5 hp => ?_)
    · obtain ⟨hv, -⟩ := hp; cases hv
    obtain ⟨rfl, H⟩ := hp
    show am_J l g mX9_takeRing (d + 1) (0, 0, x) 37 [(1, .int s0), (0, .ref a0)] [] h5 Q
    refine J_goto (tgt := 49) dX9_takeRing_37 (by decide) ?_
    exact J_pick [1, 0] rfl (rX9_takeRing_49 H)
def zX9_takeRing_0 (l : Launch) (g : am_G) (d : Nat) (x : Bool) (a0 : Nat) (h : am_H) (Q : Option Value → am_H → Prop) : Prop := cv_I l g mX9_isName d x 9 a0 [] h (fun v2 h1 => ((v2 = 0 → zX9_takeRing_24 l g d x a0 (-1) h1 Q) ∧ (¬ v2 = 0 → gt_R h1 a0 9 6 (fun v3 => gt_I h1 a0 9 7 (fun v4 => al_L h1 v3 v4 (fun v5 => cv_I l g mX9_findRing d x 9 a0 [.long v5] h1 (fun v7 h6 => zX9_takeRing_24 l g d x a0 v7 h6 Q)))))))
set_option maxRecDepth 4000 in
theorem rX9_takeRing_0 {l : Launch} {g : am_G} {d : Nat} {x : Bool} {a0 : Nat} {h : am_H} {Q : Option Value → am_H → Prop} (H : zX9_takeRing_0 l g d x a0 h Q) : am_J l g mX9_takeRing (d + 1) (0, 0, x) 0 [(0, .ref a0)] [] h Q := by
  unfold zX9_takeRing_0 at H
  refine J_aload_n dX9_takeRing_0 0 rfl ?_
  obtain ⟨⟨fs, hh⟩, H⟩ := H
  refine J_callV (As := []) (S := []) (b := a0) dX9_takeRing_1 mX9_isName_ok kX9_174 rfl (by decide) (Nat.le_of_ble_eq_true rfl) hh rfl rfl (Nat.le_of_ble_eq_true rfl) ⟨Nat.le_of_ble_eq_true rfl, Nat.le_of_ble_eq_true rfl⟩ (fun k h' hp => ?_) H (fun r h1 hp => ?_)
  · obtain ⟨_, hv, -⟩ := hp; cases hv
  obtain ⟨v2, rfl, H⟩ := hp
  show am_J l g mX9_takeRing (d + 1) (0, 0, x) 4 [(0, .ref a0)] [.int v2] h1 Q
  obtain ⟨H1, H2⟩ := H
  refine J_if_eq (tgt := 23) dX9_takeRing_4 (by decide) (fun hc => ?_) (fun hc => ?_)
  · replace H := H1 hc
    clear H1 H2
    refine J_iconst (v := (-1)) dX9_takeRing_23 (by decide) ?_
    exact J_pick [0] rfl (rX9_takeRing_24 H)
  · replace H := H2 hc
    clear H1 H2
    refine J_aload_n dX9_takeRing_7 0 rfl ?_
    refine J_aload_n dX9_takeRing_8 0 rfl ?_
    obtain ⟨fs, v3, hh, hk, H⟩ := H
    refine J_get dX9_takeRing_9 fX9_30 hh hk ?_
    clear hh hk
    refine J_aload_n dX9_takeRing_12 0 rfl ?_
    obtain ⟨fs, v4, hh, hk, H⟩ := H
    refine J_get dX9_takeRing_13 fX9_142 hh hk ?_
    clear hh hk
    obtain ⟨nn, ff, hh, hk, H⟩ := H
    refine J_lald dX9_takeRing_16 hh hk ?_
    generalize ff (Int32.toNatClampNeg v4) = v5 at H ⊢
    clear hh hk ff
    obtain ⟨⟨fs, hh⟩, H⟩ := H
    refine J_callV (As := [.long v5]) (S := []) (b := a0) dX9_takeRing_17 mX9_findRing_ok kX9_178 rfl (by decide) (Nat.le_of_ble_eq_true rfl) hh rfl rfl (Nat.le_of_ble_eq_true rfl) ⟨Nat.le_of_ble_eq_true rfl, Nat.le_of_ble_eq_true rfl⟩ (fun k h' hp => ?_) H (fun r h6 hp => ?_)
    · obtain ⟨_, hv, -⟩ := hp; cases hv
    obtain ⟨v7, rfl, H⟩ := hp
    show am_J l g mX9_takeRing (d + 1) (0, 0, x) 20 [(0, .ref a0)] [.int v7] h6 Q
    refine J_goto (tgt := 24) dX9_takeRing_20 (by decide) ?_
    exact J_pick [0] rfl (rX9_takeRing_24 H)
theorem eX9_takeRing {l : Launch} {g : am_G} {d : Nat} {x : Bool} {a0 : Nat} {h : am_H} {K : Int32 → am_H → Prop} (H : zX9_takeRing_0 l g d x a0 h (fun r h' => ∃ v, r = some (.int v) ∧ K v h')) : cl_I l g mX9_takeRing (d + 1) x [.ref a0] h K := rX9_takeRing_0 H
def zX9_takeAway_128 (l : Launch) (g : am_G) (d : Nat) (x : Bool) (s0 : Int64) (h : am_H) (Q : Option Value → am_H → Prop) : Prop := Q (some (.int (Int64.toInt32 s0))) h
set_option maxRecDepth 4000 in
theorem rX9_takeAway_128 {l : Launch} {g : am_G} {d : Nat} {x : Bool} {s0 : Int64} {h : am_H} {Q : Option Value → am_H → Prop} (H : zX9_takeAway_128 l g d x s0 h Q) : am_J l g mX9_takeAway (d + 1) (0, 0, x) 128 [] [.long s0] h Q := by
  unfold zX9_takeAway_128 at H
  refine J_l2i dX9_takeAway_128 ?_
  exact J_iret dX9_takeAway_129 ⟨_, rfl, rfl⟩ ⟨Nat.le_of_ble_eq_true rfl, Nat.le_of_ble_eq_true rfl, fun _ => rfl⟩ H
def zX9_takeAway_79 (l : Launch) (g : am_G) (d : Nat) (x : Bool) (a0 : Nat) (i1 : Int32) (h : am_H) (Q : Option Value → am_H → Prop) : Prop := gt_I h a0 9 8 (fun v1 => ((v1 ≤ 0 → gt_I h a0 9 7 (fun v2 => pt_V h a0 9 7 (.int (v2 + 1)) (fun h3 => ((i1 = 0 → gt_R h3 a0 9 6 (fun v4 => gt_I h3 a0 9 7 (fun v5 => al_L h3 v4 (v5 - 1) (fun v6 => zX9_takeAway_128 l g d x  v6 h3 Q)))) ∧ (¬ i1 = 0 → gt_R h3 a0 9 6 (fun v7 => gt_I h3 a0 9 7 (fun v8 => al_L h3 v7 (v8 - 1) (fun v9 => zX9_takeAway_128 l g d x  (-v9) h3 Q)))))))) ∧ (¬ v1 ≤ 0 → Q (some (.int 0)) h)))
set_option maxRecDepth 4000 in
theorem rX9_takeAway_79 {l : Launch} {g : am_G} {d : Nat} {x : Bool} {a0 : Nat} {i1 : Int32} {h : am_H} {Q : Option Value → am_H → Prop} (H : zX9_takeAway_79 l g d x a0 i1 h Q) : am_J l g mX9_takeAway (d + 1) (0, 0, x) 79 [(0, .ref a0), (1, .int i1)] [] h Q := by
  unfold zX9_takeAway_79 at H
  refine J_aload_n dX9_takeAway_79 0 rfl ?_
  obtain ⟨fs, v1, hh, hk, H⟩ := H
  refine J_get dX9_takeAway_80 fX9_145 hh hk ?_
  clear hh hk
  obtain ⟨H1, H2⟩ := H
  refine J_if_le (tgt := 88) dX9_takeAway_83 (by decide) (fun hc => ?_) (fun hc => ?_)
  · replace H := H1 hc
    clear H1 H2
    refine J_aload_n dX9_takeAway_88 0 rfl ?_
    refine J_dup dX9_takeAway_89 rfl ?_
    obtain ⟨fs, v2, hh, hk, H⟩ := H
    refine J_get dX9_takeAway_90 fX9_142 hh hk ?_
    clear hh hk
    refine J_iconst (v := 1) dX9_takeAway_93 (by decide) ?_
    refine J_iadd dX9_takeAway_94 ?_
    obtain ⟨fs, hh, hk, H⟩ := H
    refine J_put dX9_takeAway_95 fX9_142 rfl rfl hh hk ?_
    generalize List.set h a0 (am_O 9 (List.set fs 7 (.int (v2 + 1)))) = h3 at H ⊢
    clear hh hk
    refine J_iload_n dX9_takeAway_98 1 rfl ?_
    obtain ⟨H1, H2⟩ := H
    refine J_if_eq (tgt := 117) dX9_takeAway_99 (by decide) (fun hc => ?_) (fun hc => ?_)
    · replace H := H1 hc
      clear H1 H2
      refine J_aload_n dX9_takeAway_117 0 rfl ?_
      obtain ⟨fs, v4, hh, hk, H⟩ := H
      refine J_get dX9_takeAway_118 fX9_30 hh hk ?_
      clear hh hk
      refine J_aload_n dX9_takeAway_121 0 rfl ?_
      obtain ⟨fs, v5, hh, hk, H⟩ := H
      refine J_get dX9_takeAway_122 fX9_142 hh hk ?_
      clear hh hk
      refine J_iconst (v := 1) dX9_takeAway_125 (by decide) ?_
      refine J_isub dX9_takeAway_126 ?_
      obtain ⟨nn, ff, hh, hk, H⟩ := H
      refine J_lald dX9_takeAway_127 hh hk ?_
      generalize ff (Int32.toNatClampNeg (v5 - 1)) = v6 at H ⊢
      clear hh hk ff
      exact J_pick [] rfl (rX9_takeAway_128 H)
    · replace H := H2 hc
      clear H1 H2
      refine J_aload_n dX9_takeAway_102 0 rfl ?_
      obtain ⟨fs, v7, hh, hk, H⟩ := H
      refine J_get dX9_takeAway_103 fX9_30 hh hk ?_
      clear hh hk
      refine J_aload_n dX9_takeAway_106 0 rfl ?_
      obtain ⟨fs, v8, hh, hk, H⟩ := H
      refine J_get dX9_takeAway_107 fX9_142 hh hk ?_
      clear hh hk
      refine J_iconst (v := 1) dX9_takeAway_110 (by decide) ?_
      refine J_isub dX9_takeAway_111 ?_
      obtain ⟨nn, ff, hh, hk, H⟩ := H
      refine J_lald dX9_takeAway_112 hh hk ?_
      generalize ff (Int32.toNatClampNeg (v8 - 1)) = v9 at H ⊢
      clear hh hk ff
      refine J_lneg dX9_takeAway_113 ?_
      refine J_goto (tgt := 128) dX9_takeAway_114 (by decide) ?_
      exact J_pick [] rfl (rX9_takeAway_128 H)
  · replace H := H2 hc
    clear H1 H2
    refine J_iconst (v := 0) dX9_takeAway_86 (by decide) ?_
    exact J_iret dX9_takeAway_87 ⟨_, rfl, rfl⟩ ⟨Nat.le_of_ble_eq_true rfl, Nat.le_of_ble_eq_true rfl, fun _ => rfl⟩ H
def zX9_takeAway_51 (l : Launch) (g : am_G) (d : Nat) (x : Bool) (a0 : Nat) (i1 : Int32) (h : am_H) (Q : Option Value → am_H → Prop) : Prop := gt_I h a0 9 8 (fun v1 => ((¬ v1 = 0 → zX9_takeAway_79 l g d x a0 i1  h Q) ∧ (v1 = 0 → gt_R h a0 9 6 (fun v2 => gt_I h a0 9 7 (fun v3 => al_L h v2 v3 (fun v4 => (((lg_cmp v4 9) ≤ 0 → zX9_takeAway_79 l g d x a0 i1  h Q) ∧ (¬ (lg_cmp v4 9) ≤ 0 → cv_N l g mX9_wrong d x 9 a0 [.int 4] h (fun h5 => zX9_takeAway_79 l g d x a0 i1  h5 Q)))))))))
set_option maxRecDepth 4000 in
theorem rX9_takeAway_51 {l : Launch} {g : am_G} {d : Nat} {x : Bool} {a0 : Nat} {i1 : Int32} {h : am_H} {Q : Option Value → am_H → Prop} (H : zX9_takeAway_51 l g d x a0 i1 h Q) : am_J l g mX9_takeAway (d + 1) (0, 0, x) 51 [(0, .ref a0), (1, .int i1)] [] h Q := by
  unfold zX9_takeAway_51 at H
  refine J_aload_n dX9_takeAway_51 0 rfl ?_
  obtain ⟨fs, v1, hh, hk, H⟩ := H
  refine J_get dX9_takeAway_52 fX9_145 hh hk ?_
  clear hh hk
  obtain ⟨H1, H2⟩ := H
  refine J_if_ne (tgt := 79) dX9_takeAway_55 (by decide) (fun hc => ?_) (fun hc => ?_)
  · replace H := H1 hc
    clear H1 H2
    exact J_pick [0, 1] rfl (rX9_takeAway_79 H)
  · replace H := H2 hc
    clear H1 H2
    refine J_aload_n dX9_takeAway_58 0 rfl ?_
    obtain ⟨fs, v2, hh, hk, H⟩ := H
    refine J_get dX9_takeAway_59 fX9_30 hh hk ?_
    clear hh hk
    refine J_aload_n dX9_takeAway_62 0 rfl ?_
    obtain ⟨fs, v3, hh, hk, H⟩ := H
    refine J_get dX9_takeAway_63 fX9_142 hh hk ?_
    clear hh hk
    obtain ⟨nn, ff, hh, hk, H⟩ := H
    refine J_lald dX9_takeAway_66 hh hk ?_
    generalize ff (Int32.toNatClampNeg v3) = v4 at H ⊢
    clear hh hk ff
    refine J_ldc2 (v := 9) dX9_takeAway_67 qX9_188 ?_
    refine J_lcmp dX9_takeAway_70 ?_
    obtain ⟨H1, H2⟩ := H
    refine J_if_le (tgt := 79) dX9_takeAway_71 (by decide) (fun hc => ?_) (fun hc => ?_)
    · replace H := H1 hc
      clear H1 H2
      exact J_pick [0, 1] rfl (rX9_takeAway_79 H)
    · replace H := H2 hc
      clear H1 H2
      refine J_aload_n dX9_takeAway_74 0 rfl ?_
      refine J_iconst (v := 4) dX9_takeAway_75 (by decide) ?_
      obtain ⟨⟨fs, hh⟩, H⟩ := H
      refine J_callV (As := [.int 4]) (S := []) (b := a0) dX9_takeAway_76 mX9_wrong_ok kX9_151 rfl (by decide) (Nat.le_of_ble_eq_true rfl) hh rfl rfl (Nat.le_of_ble_eq_true rfl) ⟨Nat.le_of_ble_eq_true rfl, Nat.le_of_ble_eq_true rfl⟩ (fun k h' hp => ?_) H (fun r h5 hp => ?_)
      · obtain ⟨hv, -⟩ := hp; cases hv
      obtain ⟨rfl, H⟩ := hp
      show am_J l g mX9_takeAway (d + 1) (0, 0, x) 79 [(0, .ref a0), (1, .int i1)] [] h5 Q
      exact J_pick [0, 1] rfl (rX9_takeAway_79 H)
def zX9_takeAway_23 (l : Launch) (g : am_G) (d : Nat) (x : Bool) (a0 : Nat) (i1 : Int32) (h : am_H) (Q : Option Value → am_H → Prop) : Prop := gt_I h a0 9 8 (fun v1 => ((¬ v1 = 0 → zX9_takeAway_51 l g d x a0 i1  h Q) ∧ (v1 = 0 → gt_R h a0 9 4 (fun v2 => gt_I h a0 9 7 (fun v3 => al_I 0 h v2 v3 (fun v4 => ((v4 = 2 → zX9_takeAway_51 l g d x a0 i1  h Q) ∧ (¬ v4 = 2 → cv_N l g mX9_wrong d x 9 a0 [.int 1] h (fun h5 => zX9_takeAway_79 l g d x a0 i1  h5 Q)))))))))
set_option maxRecDepth 4000 in
theorem rX9_takeAway_23 {l : Launch} {g : am_G} {d : Nat} {x : Bool} {a0 : Nat} {i1 : Int32} {h : am_H} {Q : Option Value → am_H → Prop} (H : zX9_takeAway_23 l g d x a0 i1 h Q) : am_J l g mX9_takeAway (d + 1) (0, 0, x) 23 [(0, .ref a0), (1, .int i1)] [] h Q := by
  unfold zX9_takeAway_23 at H
  refine J_aload_n dX9_takeAway_23 0 rfl ?_
  obtain ⟨fs, v1, hh, hk, H⟩ := H
  refine J_get dX9_takeAway_24 fX9_145 hh hk ?_
  clear hh hk
  obtain ⟨H1, H2⟩ := H
  refine J_if_ne (tgt := 51) dX9_takeAway_27 (by decide) (fun hc => ?_) (fun hc => ?_)
  · replace H := H1 hc
    clear H1 H2
    exact J_pick [0, 1] rfl (rX9_takeAway_51 H)
  · replace H := H2 hc
    clear H1 H2
    refine J_aload_n dX9_takeAway_30 0 rfl ?_
    obtain ⟨fs, v2, hh, hk, H⟩ := H
    refine J_get dX9_takeAway_31 fX9_24 hh hk ?_
    clear hh hk
    refine J_aload_n dX9_takeAway_34 0 rfl ?_
    obtain ⟨fs, v3, hh, hk, H⟩ := H
    refine J_get dX9_takeAway_35 fX9_142 hh hk ?_
    clear hh hk
    obtain ⟨nn, ff, hh, hk, H⟩ := H
    refine J_iald dX9_takeAway_38 hh hk ?_
    generalize ff (Int32.toNatClampNeg v3) = v4 at H ⊢
    clear hh hk ff
    refine J_iconst (v := 2) dX9_takeAway_39 (by decide) ?_
    obtain ⟨H1, H2⟩ := H
    refine J_icmp_eq (tgt := 51) dX9_takeAway_40 (by decide) (fun hc => ?_) (fun hc => ?_)
    · replace H := H1 hc
      clear H1 H2
      exact J_pick [0, 1] rfl (rX9_takeAway_51 H)
    · replace H := H2 hc
      clear H1 H2
      refine J_aload_n dX9_takeAway_43 0 rfl ?_
      refine J_iconst (v := 1) dX9_takeAway_44 (by decide) ?_
      obtain ⟨⟨fs, hh⟩, H⟩ := H
      refine J_callV (As := [.int 1]) (S := []) (b := a0) dX9_takeAway_45 mX9_wrong_ok kX9_151 rfl (by decide) (Nat.le_of_ble_eq_true rfl) hh rfl rfl (Nat.le_of_ble_eq_true rfl) ⟨Nat.le_of_ble_eq_true rfl, Nat.le_of_ble_eq_true rfl⟩ (fun k h' hp => ?_) H (fun r h5 hp => ?_)
      · obtain ⟨hv, -⟩ := hp; cases hv
      obtain ⟨rfl, H⟩ := hp
      show am_J l g mX9_takeAway (d + 1) (0, 0, x) 48 [(0, .ref a0), (1, .int i1)] [] h5 Q
      refine J_goto (tgt := 79) dX9_takeAway_48 (by decide) ?_
      exact J_pick [0, 1] rfl (rX9_takeAway_79 H)
def zX9_takeAway_0 (l : Launch) (g : am_G) (d : Nat) (x : Bool) (a0 : Nat) (h : am_H) (Q : Option Value → am_H → Prop) : Prop := cv_I l g mX9_isSign d x 9 a0 [.int 45] h (fun v2 h1 => cv_I l g mX9_hasSign d x 9 a0 [.int 45] h1 (fun v4 h3 => ((¬ v4 = 0 → zX9_takeAway_23 l g d x a0 v2  h3 Q) ∧ (v4 = 0 → cv_I l g mX9_hasSign d x 9 a0 [.int 43] h3 (fun v6 h5 => zX9_takeAway_23 l g d x a0 v2  h5 Q)))))
set_option maxRecDepth 4000 in
theorem rX9_takeAway_0 {l : Launch} {g : am_G} {d : Nat} {x : Bool} {a0 : Nat} {h : am_H} {Q : Option Value → am_H → Prop} (H : zX9_takeAway_0 l g d x a0 h Q) : am_J l g mX9_takeAway (d + 1) (0, 0, x) 0 [(0, .ref a0)] [] h Q := by
  unfold zX9_takeAway_0 at H
  refine J_aload_n dX9_takeAway_0 0 rfl ?_
  refine J_bipush (v := 45) dX9_takeAway_1 (by decide) ?_
  obtain ⟨⟨fs, hh⟩, H⟩ := H
  refine J_callV (As := [.int 45]) (S := []) (b := a0) dX9_takeAway_3 mX9_isSign_ok kX9_148 rfl (by decide) (Nat.le_of_ble_eq_true rfl) hh rfl rfl (Nat.le_of_ble_eq_true rfl) ⟨Nat.le_of_ble_eq_true rfl, Nat.le_of_ble_eq_true rfl⟩ (fun k h' hp => ?_) H (fun r h1 hp => ?_)
  · obtain ⟨_, hv, -⟩ := hp; cases hv
  obtain ⟨v2, rfl, H⟩ := hp
  show am_J l g mX9_takeAway (d + 1) (0, 0, x) 6 [(0, .ref a0)] [.int v2] h1 Q
  refine J_istore_n (L' := [(1, .int v2), (0, .ref a0)]) dX9_takeAway_6 (by decide) rfl ?_
  refine J_aload_n dX9_takeAway_7 1 rfl ?_
  refine J_bipush (v := 45) dX9_takeAway_8 (by decide) ?_
  obtain ⟨⟨fs, hh⟩, H⟩ := H
  refine J_callV (As := [.int 45]) (S := []) (b := a0) dX9_takeAway_10 mX9_hasSign_ok kX9_185 rfl (by decide) (Nat.le_of_ble_eq_true rfl) hh rfl rfl (Nat.le_of_ble_eq_true rfl) ⟨Nat.le_of_ble_eq_true rfl, Nat.le_of_ble_eq_true rfl⟩ (fun k h' hp => ?_) H (fun r h3 hp => ?_)
  · obtain ⟨_, hv, -⟩ := hp; cases hv
  obtain ⟨v4, rfl, H⟩ := hp
  show am_J l g mX9_takeAway (d + 1) (0, 0, x) 13 [(1, .int v2), (0, .ref a0)] [.int v4] h3 Q
  obtain ⟨H1, H2⟩ := H
  refine J_if_ne (tgt := 23) dX9_takeAway_13 (by decide) (fun hc => ?_) (fun hc => ?_)
  · replace H := H1 hc
    clear H1 H2
    exact J_pick [1, 0] rfl (rX9_takeAway_23 H)
  · replace H := H2 hc
    clear H1 H2
    refine J_aload_n dX9_takeAway_16 1 rfl ?_
    refine J_bipush (v := 43) dX9_takeAway_17 (by decide) ?_
    obtain ⟨⟨fs, hh⟩, H⟩ := H
    refine J_callV (As := [.int 43]) (S := []) (b := a0) dX9_takeAway_19 mX9_hasSign_ok kX9_185 rfl (by decide) (Nat.le_of_ble_eq_true rfl) hh rfl rfl (Nat.le_of_ble_eq_true rfl) ⟨Nat.le_of_ble_eq_true rfl, Nat.le_of_ble_eq_true rfl⟩ (fun k h' hp => ?_) H (fun r h5 hp => ?_)
    · obtain ⟨_, hv, -⟩ := hp; cases hv
    obtain ⟨v6, rfl, H⟩ := hp
    show am_J l g mX9_takeAway (d + 1) (0, 0, x) 22 [(1, .int v2), (0, .ref a0)] [.int v6] h5 Q
    refine J_istore_n (L' := [(2, .int v6), (1, .int v2), (0, .ref a0)]) dX9_takeAway_22 (by decide) rfl ?_
    exact J_pick [2, 1] rfl (rX9_takeAway_23 H)
theorem eX9_takeAway {l : Launch} {g : am_G} {d : Nat} {x : Bool} {a0 : Nat} {h : am_H} {K : Int32 → am_H → Prop} (H : zX9_takeAway_0 l g d x a0 h (fun r h' => ∃ v, r = some (.int v) ∧ K v h')) : cl_I l g mX9_takeAway (d + 1) x [.ref a0] h K := rX9_takeAway_0 H
def zX9_isLinkTold_123 (l : Launch) (g : am_G) (d : Nat) (x : Bool) (a0 : Nat) (i1 : Int32) (i2 : Int32) (i3 : Int32) (i4 : Int32) (i6 : Int32) (s0 : Int32) (h : am_H) (Q : Option Value → am_H → Prop) : Prop := am_J l g mX9_isLinkTold d (0, 0, x) 7 [(0, .ref a0), (1, .int i1), (2, .int i2), (3, .int i3), (4, .int i4), (5, .int s0), (6, .int (i6 + 1))] [] h Q
set_option maxRecDepth 4000 in
theorem rX9_isLinkTold_123 {l : Launch} {g : am_G} {d : Nat} {x : Bool} {a0 : Nat} {i1 : Int32} {i2 : Int32} {i3 : Int32} {i4 : Int32} {i6 : Int32} {s0 : Int32} {h : am_H} {Q : Option Value → am_H → Prop} (H : zX9_isLinkTold_123 l g d x a0 i1 i2 i3 i4 i6 s0 h Q) : am_J l g mX9_isLinkTold d (0, 0, x) 123 [(0, .ref a0), (1, .int i1), (2, .int i2), (3, .int i3), (4, .int i4), (6, .int i6)] [.int s0] h Q := by
  unfold zX9_isLinkTold_123 at H
  refine J_istore (L' := [(5, .int s0), (0, .ref a0), (1, .int i1), (2, .int i2), (3, .int i3), (4, .int i4), (6, .int i6)]) dX9_isLinkTold_123 (by decide) rfl ?_
  refine J_iinc (v := (i6 + 1)) (L' := [(6, .int (i6 + 1)), (5, .int s0), (0, .ref a0), (1, .int i1), (2, .int i2), (3, .int i3), (4, .int i4)]) dX9_isLinkTold_125 6 rfl rfl (by decide) rfl ?_
  refine J_goto (tgt := 7) dX9_isLinkTold_128 (by decide) ?_
  exact J_pick [2, 3, 4, 5, 6, 1, 0] rfl H
def zX9_isLinkTold_122 (l : Launch) (g : am_G) (d : Nat) (x : Bool) (a0 : Nat) (i1 : Int32) (i2 : Int32) (i3 : Int32) (i4 : Int32) (i6 : Int32) (h : am_H) (Q : Option Value → am_H → Prop) : Prop := zX9_isLinkTold_123 l g d x a0 i1 i2 i3 i4 i6 0 h Q
set_option maxRecDepth 4000 in
theorem rX9_isLinkTold_122 {l : Launch} {g : am_G} {d : Nat} {x : Bool} {a0 : Nat} {i1 : Int32} {i2 : Int32} {i3 : Int32} {i4 : Int32} {i6 : Int32} {h : am_H} {Q : Option Value → am_H → Prop} (H : zX9_isLinkTold_122 l g d x a0 i1 i2 i3 i4 i6 h Q) : am_J l g mX9_isLinkTold d (0, 0, x) 122 [(0, .ref a0), (1, .int i1), (2, .int i2), (3, .int i3), (4, .int i4), (6, .int i6)] [] h Q := by
  unfold zX9_isLinkTold_122 at H
  refine J_iconst (v := 0) dX9_isLinkTold_122 (by decide) ?_
  exact J_pick [0, 1, 2, 3, 4, 5] rfl (rX9_isLinkTold_123 H)
def zX9_isLinkTold_118 (l : Launch) (g : am_G) (d : Nat) (x : Bool) (a0 : Nat) (i1 : Int32) (i2 : Int32) (i3 : Int32) (i4 : Int32) (i6 : Int32) (h : am_H) (Q : Option Value → am_H → Prop) : Prop := zX9_isLinkTold_123 l g d x a0 i1 i2 i3 i4 i6 1 h Q
set_option maxRecDepth 4000 in
theorem rX9_isLinkTold_118 {l : Launch} {g : am_G} {d : Nat} {x : Bool} {a0 : Nat} {i1 : Int32} {i2 : Int32} {i3 : Int32} {i4 : Int32} {i6 : Int32} {h : am_H} {Q : Option Value → am_H → Prop} (H : zX9_isLinkTold_118 l g d x a0 i1 i2 i3 i4 i6 h Q) : am_J l g mX9_isLinkTold d (0, 0, x) 118 [(0, .ref a0), (1, .int i1), (2, .int i2), (3, .int i3), (4, .int i4), (6, .int i6)] [] h Q := by
  unfold zX9_isLinkTold_118 at H
  refine J_iconst (v := 1) dX9_isLinkTold_118 (by decide) ?_
  refine J_goto (tgt := 123) dX9_isLinkTold_119 (by decide) ?_
  exact J_pick [0, 1, 2, 3, 4, 5] rfl (rX9_isLinkTold_123 H)
def zX9_isLinkTold_71 (l : Launch) (g : am_G) (d : Nat) (x : Bool) (a0 : Nat) (i1 : Int32) (i2 : Int32) (i3 : Int32) (i4 : Int32) (i6 : Int32) (h : am_H) (Q : Option Value → am_H → Prop) : Prop := gt_R h a0 9 13 (fun v1 => al_I 0 h v1 i6 (fun v2 => ((¬ v2 = i2 → zX9_isLinkTold_122 l g d x a0 i1 i2 i3 i4 i6  h Q) ∧ (v2 = i2 → gt_R h a0 9 14 (fun v3 => al_I 0 h v3 i6 (fun v4 => ((¬ v4 = i1 → zX9_isLinkTold_122 l g d x a0 i1 i2 i3 i4 i6  h Q) ∧ (v4 = i1 → gt_R h a0 9 15 (fun v5 => al_I 0 h v5 i6 (fun v6 => ((¬ v6 = (-i3) → zX9_isLinkTold_122 l g d x a0 i1 i2 i3 i4 i6  h Q) ∧ (v6 = (-i3) → gt_R h a0 9 16 (fun v7 => al_I 0 h v7 i6 (fun v8 => ((¬ v8 = (-i4) → zX9_isLinkTold_122 l g d x a0 i1 i2 i3 i4 i6  h Q) ∧ (v8 = (-i4) → zX9_isLinkTold_118 l g d x a0 i1 i2 i3 i4 i6  h Q))))))))))))))))
set_option maxRecDepth 4000 in
theorem rX9_isLinkTold_71 {l : Launch} {g : am_G} {d : Nat} {x : Bool} {a0 : Nat} {i1 : Int32} {i2 : Int32} {i3 : Int32} {i4 : Int32} {i6 : Int32} {h : am_H} {Q : Option Value → am_H → Prop} (H : zX9_isLinkTold_71 l g d x a0 i1 i2 i3 i4 i6 h Q) : am_J l g mX9_isLinkTold d (0, 0, x) 71 [(0, .ref a0), (1, .int i1), (2, .int i2), (3, .int i3), (4, .int i4), (6, .int i6)] [] h Q := by
  unfold zX9_isLinkTold_71 at H
  refine J_aload_n dX9_isLinkTold_71 0 rfl ?_
  obtain ⟨fs, v1, hh, hk, H⟩ := H
  refine J_get dX9_isLinkTold_72 fX9_54 hh hk ?_
  clear hh hk
  refine J_iload dX9_isLinkTold_75 5 rfl ?_
  obtain ⟨nn, ff, hh, hk, H⟩ := H
  refine J_iald dX9_isLinkTold_77 hh hk ?_
  generalize ff (Int32.toNatClampNeg i6) = v2 at H ⊢
  clear hh hk ff
  refine J_iload_n dX9_isLinkTold_78 2 rfl ?_
  obtain ⟨H1, H2⟩ := H
  refine J_icmp_ne (tgt := 122) dX9_isLinkTold_79 (by decide) (fun hc => ?_) (fun hc => ?_)
  · replace H := H1 hc
    clear H1 H2
    exact J_pick [0, 1, 2, 3, 4, 5] rfl (rX9_isLinkTold_122 H)
  · replace H := H2 hc
    clear H1 H2
    refine J_aload_n dX9_isLinkTold_82 0 rfl ?_
    obtain ⟨fs, v3, hh, hk, H⟩ := H
    refine J_get dX9_isLinkTold_83 fX9_57 hh hk ?_
    clear hh hk
    refine J_iload dX9_isLinkTold_86 5 rfl ?_
    obtain ⟨nn, ff, hh, hk, H⟩ := H
    refine J_iald dX9_isLinkTold_88 hh hk ?_
    generalize ff (Int32.toNatClampNeg i6) = v4 at H ⊢
    clear hh hk ff
    refine J_iload_n dX9_isLinkTold_89 1 rfl ?_
    obtain ⟨H1, H2⟩ := H
    refine J_icmp_ne (tgt := 122) dX9_isLinkTold_90 (by decide) (fun hc => ?_) (fun hc => ?_)
    · replace H := H1 hc
      clear H1 H2
      exact J_pick [0, 1, 2, 3, 4, 5] rfl (rX9_isLinkTold_122 H)
    · replace H := H2 hc
      clear H1 H2
      refine J_aload_n dX9_isLinkTold_93 0 rfl ?_
      obtain ⟨fs, v5, hh, hk, H⟩ := H
      refine J_get dX9_isLinkTold_94 fX9_60 hh hk ?_
      clear hh hk
      refine J_iload dX9_isLinkTold_97 5 rfl ?_
      obtain ⟨nn, ff, hh, hk, H⟩ := H
      refine J_iald dX9_isLinkTold_99 hh hk ?_
      generalize ff (Int32.toNatClampNeg i6) = v6 at H ⊢
      clear hh hk ff
      refine J_iload_n dX9_isLinkTold_100 3 rfl ?_
      refine J_ineg dX9_isLinkTold_101 ?_
      obtain ⟨H1, H2⟩ := H
      refine J_icmp_ne (tgt := 122) dX9_isLinkTold_102 (by decide) (fun hc => ?_) (fun hc => ?_)
      · replace H := H1 hc
        clear H1 H2
        exact J_pick [0, 1, 2, 3, 4, 5] rfl (rX9_isLinkTold_122 H)
      · replace H := H2 hc
        clear H1 H2
        refine J_aload_n dX9_isLinkTold_105 0 rfl ?_
        obtain ⟨fs, v7, hh, hk, H⟩ := H
        refine J_get dX9_isLinkTold_106 fX9_63 hh hk ?_
        clear hh hk
        refine J_iload dX9_isLinkTold_109 5 rfl ?_
        obtain ⟨nn, ff, hh, hk, H⟩ := H
        refine J_iald dX9_isLinkTold_111 hh hk ?_
        generalize ff (Int32.toNatClampNeg i6) = v8 at H ⊢
        clear hh hk ff
        refine J_iload dX9_isLinkTold_112 4 rfl ?_
        refine J_ineg dX9_isLinkTold_114 ?_
        obtain ⟨H1, H2⟩ := H
        refine J_icmp_ne (tgt := 122) dX9_isLinkTold_115 (by decide) (fun hc => ?_) (fun hc => ?_)
        · replace H := H1 hc
          clear H1 H2
          exact J_pick [0, 1, 2, 3, 4, 5] rfl (rX9_isLinkTold_122 H)
        · replace H := H2 hc
          clear H1 H2
          exact J_pick [0, 1, 2, 3, 4, 5] rfl (rX9_isLinkTold_118 H)
def zX9_isLinkTold_7 (l : Launch) (g : am_G) (d : Nat) (x : Bool) (a0 : Nat) (i1 : Int32) (i2 : Int32) (i3 : Int32) (i4 : Int32) (i5 : Int32) (i6 : Int32) (h : am_H) (Q : Option Value → am_H → Prop) : Prop := gt_R h a0 9 12 (fun v1 => al_I 0 h v1 1 (fun v2 => (((24 + v2) ≤ i6 → ((i5 = 0 ∨ i5 = 1) ∧ Q (some (.int i5)) h)) ∧ (¬ (24 + v2) ≤ i6 → ((¬ i5 = 0 → zX9_isLinkTold_118 l g d x a0 i1 i2 i3 i4 i6  h Q) ∧ (i5 = 0 → gt_R h a0 9 13 (fun v3 => al_I 0 h v3 i6 (fun v4 => ((¬ v4 = i1 → zX9_isLinkTold_71 l g d x a0 i1 i2 i3 i4 i6  h Q) ∧ (v4 = i1 → gt_R h a0 9 14 (fun v5 => al_I 0 h v5 i6 (fun v6 => ((¬ v6 = i2 → zX9_isLinkTold_71 l g d x a0 i1 i2 i3 i4 i6  h Q) ∧ (v6 = i2 → gt_R h a0 9 15 (fun v7 => al_I 0 h v7 i6 (fun v8 => ((¬ v8 = i3 → zX9_isLinkTold_71 l g d x a0 i1 i2 i3 i4 i6  h Q) ∧ (v8 = i3 → gt_R h a0 9 16 (fun v9 => al_I 0 h v9 i6 (fun v10 => ((v10 = i4 → zX9_isLinkTold_118 l g d x a0 i1 i2 i3 i4 i6  h Q) ∧ (¬ v10 = i4 → zX9_isLinkTold_71 l g d x a0 i1 i2 i3 i4 i6  h Q))))))))))))))))))))))
set_option maxRecDepth 4000 in
theorem rX9_isLinkTold_7 {l : Launch} {g : am_G} {d : Nat} {x : Bool} {a0 : Nat} {i1 : Int32} {i2 : Int32} {i3 : Int32} {i4 : Int32} {i5 : Int32} {i6 : Int32} {h : am_H} {Q : Option Value → am_H → Prop} (H : zX9_isLinkTold_7 l g d x a0 i1 i2 i3 i4 i5 i6 h Q) : am_J l g mX9_isLinkTold d (0, 0, x) 7 [(0, .ref a0), (1, .int i1), (2, .int i2), (3, .int i3), (4, .int i4), (5, .int i5), (6, .int i6)] [] h Q := by
  unfold zX9_isLinkTold_7 at H
  refine J_iload dX9_isLinkTold_7 6 rfl ?_
  refine J_bipush (v := 24) dX9_isLinkTold_9 (by decide) ?_
  refine J_aload_n dX9_isLinkTold_11 0 rfl ?_
  obtain ⟨fs, v1, hh, hk, H⟩ := H
  refine J_get dX9_isLinkTold_12 fX9_51 hh hk ?_
  clear hh hk
  refine J_iconst (v := 1) dX9_isLinkTold_15 (by decide) ?_
  obtain ⟨nn, ff, hh, hk, H⟩ := H
  refine J_iald dX9_isLinkTold_16 hh hk ?_
  generalize ff (Int32.toNatClampNeg 1) = v2 at H ⊢
  clear hh hk ff
  refine J_iadd dX9_isLinkTold_17 ?_
  obtain ⟨H1, H2⟩ := H
  refine J_icmp_ge (tgt := 131) dX9_isLinkTold_18 (by decide) (fun hc => ?_) (fun hc => ?_)
  · replace H := H1 hc
    clear H1 H2
    refine J_iload dX9_isLinkTold_131 5 rfl ?_
    obtain ⟨hb, H⟩ := H
    exact J_iret dX9_isLinkTold_133 (am_nar01 rfl hb) ⟨Nat.le_of_ble_eq_true rfl, Nat.le_of_ble_eq_true rfl, fun _ => rfl⟩ H
  · replace H := H2 hc
    clear H1 H2
    refine J_iload dX9_isLinkTold_21 5 rfl ?_
    obtain ⟨H1, H2⟩ := H
    refine J_if_ne (tgt := 118) dX9_isLinkTold_23 (by decide) (fun hc => ?_) (fun hc => ?_)
    · replace H := H1 hc
      clear H1 H2
      exact J_pick [0, 1, 2, 3, 4, 6] rfl (rX9_isLinkTold_118 H)
    · replace H := H2 hc
      clear H1 H2
      refine J_aload_n dX9_isLinkTold_26 0 rfl ?_
      obtain ⟨fs, v3, hh, hk, H⟩ := H
      refine J_get dX9_isLinkTold_27 fX9_54 hh hk ?_
      clear hh hk
      refine J_iload dX9_isLinkTold_30 6 rfl ?_
      obtain ⟨nn, ff, hh, hk, H⟩ := H
      refine J_iald dX9_isLinkTold_32 hh hk ?_
      generalize ff (Int32.toNatClampNeg i6) = v4 at H ⊢
      clear hh hk ff
      refine J_iload_n dX9_isLinkTold_33 1 rfl ?_
      obtain ⟨H1, H2⟩ := H
      refine J_icmp_ne (tgt := 71) dX9_isLinkTold_34 (by decide) (fun hc => ?_) (fun hc => ?_)
      · replace H := H1 hc
        clear H1 H2
        exact J_pick [0, 1, 2, 3, 4, 6] rfl (rX9_isLinkTold_71 H)
      · replace H := H2 hc
        clear H1 H2
        refine J_aload_n dX9_isLinkTold_37 0 rfl ?_
        obtain ⟨fs, v5, hh, hk, H⟩ := H
        refine J_get dX9_isLinkTold_38 fX9_57 hh hk ?_
        clear hh hk
        refine J_iload dX9_isLinkTold_41 6 rfl ?_
        obtain ⟨nn, ff, hh, hk, H⟩ := H
        refine J_iald dX9_isLinkTold_43 hh hk ?_
        generalize ff (Int32.toNatClampNeg i6) = v6 at H ⊢
        clear hh hk ff
        refine J_iload_n dX9_isLinkTold_44 2 rfl ?_
        obtain ⟨H1, H2⟩ := H
        refine J_icmp_ne (tgt := 71) dX9_isLinkTold_45 (by decide) (fun hc => ?_) (fun hc => ?_)
        · replace H := H1 hc
          clear H1 H2
          exact J_pick [0, 1, 2, 3, 4, 6] rfl (rX9_isLinkTold_71 H)
        · replace H := H2 hc
          clear H1 H2
          refine J_aload_n dX9_isLinkTold_48 0 rfl ?_
          obtain ⟨fs, v7, hh, hk, H⟩ := H
          refine J_get dX9_isLinkTold_49 fX9_60 hh hk ?_
          clear hh hk
          refine J_iload dX9_isLinkTold_52 6 rfl ?_
          obtain ⟨nn, ff, hh, hk, H⟩ := H
          refine J_iald dX9_isLinkTold_54 hh hk ?_
          generalize ff (Int32.toNatClampNeg i6) = v8 at H ⊢
          clear hh hk ff
          refine J_iload_n dX9_isLinkTold_55 3 rfl ?_
          obtain ⟨H1, H2⟩ := H
          refine J_icmp_ne (tgt := 71) dX9_isLinkTold_56 (by decide) (fun hc => ?_) (fun hc => ?_)
          · replace H := H1 hc
            clear H1 H2
            exact J_pick [0, 1, 2, 3, 4, 6] rfl (rX9_isLinkTold_71 H)
          · replace H := H2 hc
            clear H1 H2
            refine J_aload_n dX9_isLinkTold_59 0 rfl ?_
            obtain ⟨fs, v9, hh, hk, H⟩ := H
            refine J_get dX9_isLinkTold_60 fX9_63 hh hk ?_
            clear hh hk
            refine J_iload dX9_isLinkTold_63 6 rfl ?_
            obtain ⟨nn, ff, hh, hk, H⟩ := H
            refine J_iald dX9_isLinkTold_65 hh hk ?_
            generalize ff (Int32.toNatClampNeg i6) = v10 at H ⊢
            clear hh hk ff
            refine J_iload dX9_isLinkTold_66 4 rfl ?_
            obtain ⟨H1, H2⟩ := H
            refine J_icmp_eq (tgt := 118) dX9_isLinkTold_68 (by decide) (fun hc => ?_) (fun hc => ?_)
            · replace H := H1 hc
              clear H1 H2
              exact J_pick [0, 1, 2, 3, 4, 6] rfl (rX9_isLinkTold_118 H)
            · replace H := H2 hc
              clear H1 H2
              exact J_pick [0, 1, 2, 3, 4, 6] rfl (rX9_isLinkTold_71 H)
def zX9_isLinkTold_0 (l : Launch) (g : am_G) (d : Nat) (x : Bool) (a0 : Nat) (i1 : Int32) (i2 : Int32) (i3 : Int32) (i4 : Int32) (h : am_H) (Q : Option Value → am_H → Prop) : Prop := am_J l g mX9_isLinkTold d (0, 0, x) 7 [(0, .ref a0), (1, .int i1), (2, .int i2), (3, .int i3), (4, .int i4), (5, .int 0), (6, .int 24)] [] h Q
set_option maxRecDepth 4000 in
theorem rX9_isLinkTold_0 {l : Launch} {g : am_G} {d : Nat} {x : Bool} {a0 : Nat} {i1 : Int32} {i2 : Int32} {i3 : Int32} {i4 : Int32} {h : am_H} {Q : Option Value → am_H → Prop} (H : zX9_isLinkTold_0 l g d x a0 i1 i2 i3 i4 h Q) : am_J l g mX9_isLinkTold d (0, 0, x) 0 [(0, .ref a0), (1, .int i1), (2, .int i2), (3, .int i3), (4, .int i4)] [] h Q := by
  unfold zX9_isLinkTold_0 at H
  refine J_iconst (v := 0) dX9_isLinkTold_0 (by decide) ?_
  refine J_istore (L' := [(5, .int 0), (0, .ref a0), (1, .int i1), (2, .int i2), (3, .int i3), (4, .int i4)]) dX9_isLinkTold_1 (by decide) rfl ?_
  refine J_bipush (v := 24) dX9_isLinkTold_3 (by decide) ?_
  refine J_istore (L' := [(6, .int 24), (5, .int 0), (0, .ref a0), (1, .int i1), (2, .int i2), (3, .int i3), (4, .int i4)]) dX9_isLinkTold_5 (by decide) rfl ?_
  exact J_pick [2, 3, 4, 5, 6, 1, 0] rfl H
theorem eX9_isLinkTold {l : Launch} {g : am_G} {d : Nat} {x : Bool} {a0 : Nat} {i1 : Int32} {i2 : Int32} {i3 : Int32} {i4 : Int32} {h : am_H} {K : Int32 → am_H → Prop} (H : zX9_isLinkTold_0 l g d x a0 i1 i2 i3 i4 h (fun r h' => ∃ v, r = some (.int v) ∧ K v h')) : cl_I l g mX9_isLinkTold d x [.ref a0, .int i1, .int i2, .int i3, .int i4] h K := rX9_isLinkTold_0 H
def zX9_readLink_108 (l : Launch) (g : am_G) (d : Nat) (x : Bool) (a0 : Nat) (i1 : Int32) (i2 : Int32) (i3 : Int32) (i4 : Int32) (i5 : Int32) (h : am_H) (Q : Option Value → am_H → Prop) : Prop := gt_I h a0 9 8 (fun v1 => ((v1 ≤ 0 → gt_I h a0 9 7 (fun v2 => pt_V h a0 9 7 (.int (v2 + 1)) (fun h3 => cv_N l g mX9_takeSign d x 9 a0 [.int 59] h3 (fun h4 => gt_R h4 a0 9 12 (fun v6 => al_I 0 h4 v6 1 (fun v7 => gt_R h4 a0 9 13 (fun v8 => as_I 0 h4 v8 (24 + v7) i1 (fun h9 => gt_R h9 a0 9 14 (fun v10 => as_I 0 h9 v10 (24 + v7) i2 (fun h11 => gt_R h11 a0 9 15 (fun v12 => as_I 0 h11 v12 (24 + v7) i3 (fun h13 => gt_R h13 a0 9 16 (fun v14 => as_I 0 h13 v14 (24 + v7) i4 (fun h15 => gt_R h15 a0 9 17 (fun v16 => ((i5 = 0 ∨ i5 = 1) ∧ as_I 2 h15 v16 (24 + v7) i5 (fun h17 => gt_R h17 a0 9 12 (fun v18 => al_I 0 h17 v18 1 (fun v19 => as_I 0 h17 v18 1 (v19 + 1) (fun h20 => Q none h20)))))))))))))))))))) ∧ (¬ v1 ≤ 0 → Q none h)))
set_option maxRecDepth 4000 in
theorem rX9_readLink_108 {l : Launch} {g : am_G} {d : Nat} {x : Bool} {a0 : Nat} {i1 : Int32} {i2 : Int32} {i3 : Int32} {i4 : Int32} {i5 : Int32} {h : am_H} {Q : Option Value → am_H → Prop} (H : zX9_readLink_108 l g d x a0 i1 i2 i3 i4 i5 h Q) : am_J l g mX9_readLink (d + 1) (0, 0, x) 108 [(0, .ref a0), (1, .int i1), (2, .int i2), (3, .int i3), (4, .int i4), (5, .int i5)] [] h Q := by
  unfold zX9_readLink_108 at H
  refine J_aload_n dX9_readLink_108 0 rfl ?_
  obtain ⟨fs, v1, hh, hk, H⟩ := H
  refine J_get dX9_readLink_109 fX9_145 hh hk ?_
  clear hh hk
  obtain ⟨H1, H2⟩ := H
  refine J_if_le (tgt := 116) dX9_readLink_112 (by decide) (fun hc => ?_) (fun hc => ?_)
  · replace H := H1 hc
    clear H1 H2
    refine J_aload_n dX9_readLink_116 0 rfl ?_
    refine J_dup dX9_readLink_117 rfl ?_
    obtain ⟨fs, v2, hh, hk, H⟩ := H
    refine J_get dX9_readLink_118 fX9_142 hh hk ?_
    clear hh hk
    refine J_iconst (v := 1) dX9_readLink_121 (by decide) ?_
    refine J_iadd dX9_readLink_122 ?_
    obtain ⟨fs, hh, hk, H⟩ := H
    refine J_put dX9_readLink_123 fX9_142 rfl rfl hh hk ?_
    generalize List.set h a0 (am_O 9 (List.set fs 7 (.int (v2 + 1)))) = h3 at H ⊢
    clear hh hk
    refine J_aload_n dX9_readLink_126 0 rfl ?_
    refine J_bipush (v := 59) dX9_readLink_127 (by decide) ?_
    obtain ⟨⟨fs, hh⟩, H⟩ := H
    refine J_callV (As := [.int 59]) (S := []) (b := a0) dX9_readLink_129 mX9_takeSign_ok kX9_182 rfl (by decide) (Nat.le_of_ble_eq_true rfl) hh rfl rfl (Nat.le_of_ble_eq_true rfl) ⟨Nat.le_of_ble_eq_true rfl, Nat.le_of_ble_eq_true rfl⟩ (fun k h' hp => ?_) H (fun r h4 hp => ?_)
    · obtain ⟨hv, -⟩ := hp; cases hv
    obtain ⟨rfl, H⟩ := hp
    show am_J l g mX9_readLink (d + 1) (0, 0, x) 132 [(0, .ref a0), (1, .int i1), (2, .int i2), (3, .int i3), (4, .int i4), (5, .int i5)] [] h4 Q
    refine J_bipush (v := 24) dX9_readLink_132 (by decide) ?_
    refine J_aload_n dX9_readLink_134 0 rfl ?_
    obtain ⟨fs, v6, hh, hk, H⟩ := H
    refine J_get dX9_readLink_135 fX9_51 hh hk ?_
    clear hh hk
    refine J_iconst (v := 1) dX9_readLink_138 (by decide) ?_
    obtain ⟨nn, ff, hh, hk, H⟩ := H
    refine J_iald dX9_readLink_139 hh hk ?_
    generalize ff (Int32.toNatClampNeg 1) = v7 at H ⊢
    clear hh hk ff
    refine J_iadd dX9_readLink_140 ?_
    refine J_istore (L' := [(6, .int (24 + v7)), (0, .ref a0), (1, .int i1), (2, .int i2), (3, .int i3), (4, .int i4), (5, .int i5)]) dX9_readLink_141 (by decide) rfl ?_
    refine J_aload_n dX9_readLink_143 1 rfl ?_
    obtain ⟨fs, v8, hh, hk, H⟩ := H
    refine J_get dX9_readLink_144 fX9_54 hh hk ?_
    clear hh hk
    refine J_iload dX9_readLink_147 0 rfl ?_
    refine J_iload_n dX9_readLink_149 2 rfl ?_
    obtain ⟨nn, ff, hh, hk, H⟩ := H
    refine J_iast dX9_readLink_150 hh hk ?_
    generalize List.set h4 v8 (am_I 0 nn (upd ff (Int32.toNatClampNeg (24 + v7)) i1)) = h9 at H ⊢
    clear hh hk
    refine J_aload_n dX9_readLink_151 1 rfl ?_
    obtain ⟨fs, v10, hh, hk, H⟩ := H
    refine J_get dX9_readLink_152 fX9_57 hh hk ?_
    clear hh hk
    refine J_iload dX9_readLink_155 0 rfl ?_
    refine J_iload_n dX9_readLink_157 3 rfl ?_
    obtain ⟨nn, ff, hh, hk, H⟩ := H
    refine J_iast dX9_readLink_158 hh hk ?_
    generalize List.set h9 v10 (am_I 0 nn (upd ff (Int32.toNatClampNeg (24 + v7)) i2)) = h11 at H ⊢
    clear hh hk
    refine J_aload_n dX9_readLink_159 1 rfl ?_
    obtain ⟨fs, v12, hh, hk, H⟩ := H
    refine J_get dX9_readLink_160 fX9_60 hh hk ?_
    clear hh hk
    refine J_iload dX9_readLink_163 0 rfl ?_
    refine J_iload_n dX9_readLink_165 4 rfl ?_
    obtain ⟨nn, ff, hh, hk, H⟩ := H
    refine J_iast dX9_readLink_166 hh hk ?_
    generalize List.set h11 v12 (am_I 0 nn (upd ff (Int32.toNatClampNeg (24 + v7)) i3)) = h13 at H ⊢
    clear hh hk
    refine J_aload_n dX9_readLink_167 1 rfl ?_
    obtain ⟨fs, v14, hh, hk, H⟩ := H
    refine J_get dX9_readLink_168 fX9_63 hh hk ?_
    clear hh hk
    refine J_iload dX9_readLink_171 0 rfl ?_
    refine J_iload dX9_readLink_173 5 rfl ?_
    obtain ⟨nn, ff, hh, hk, H⟩ := H
    refine J_iast dX9_readLink_175 hh hk ?_
    generalize List.set h13 v14 (am_I 0 nn (upd ff (Int32.toNatClampNeg (24 + v7)) i4)) = h15 at H ⊢
    clear hh hk
    refine J_aload_n dX9_readLink_176 1 rfl ?_
    obtain ⟨fs, v16, hh, hk, H⟩ := H
    refine J_get dX9_readLink_177 fX9_66 hh hk ?_
    clear hh hk
    refine J_iload dX9_readLink_180 0 rfl ?_
    refine J_iload dX9_readLink_182 6 rfl ?_
    obtain ⟨hb, H⟩ := H
    obtain ⟨nn, ff, hh, hk, H⟩ := H
    refine J_zast dX9_readLink_184 hh hk (by rcases hb with e | e <;> rw [e] <;> rfl) ?_
    generalize List.set h15 v16 (am_I 2 nn (upd ff (Int32.toNatClampNeg (24 + v7)) i5)) = h17 at H ⊢
    clear hh hk
    refine J_aload_n dX9_readLink_185 1 rfl ?_
    obtain ⟨fs, v18, hh, hk, H⟩ := H
    refine J_get dX9_readLink_186 fX9_51 hh hk ?_
    clear hh hk
    refine J_iconst (v := 1) dX9_readLink_189 (by decide) ?_
    refine J_dup2 dX9_readLink_190 rfl rfl ?_
    obtain ⟨nn, ff, hh, hk, H⟩ := H
    refine J_iald dX9_readLink_191 hh hk ?_
    generalize ff (Int32.toNatClampNeg 1) = v19 at H ⊢
    clear hh hk ff
    refine J_iconst (v := 1) dX9_readLink_192 (by decide) ?_
    refine J_iadd dX9_readLink_193 ?_
    obtain ⟨nn, ff, hh, hk, H⟩ := H
    refine J_iast dX9_readLink_194 hh hk ?_
    generalize List.set h17 v18 (am_I 0 nn (upd ff (Int32.toNatClampNeg 1) (v19 + 1))) = h20 at H ⊢
    clear hh hk
    exact J_vret dX9_readLink_195 rfl ⟨Nat.le_of_ble_eq_true rfl, Nat.le_of_ble_eq_true rfl, fun _ => rfl⟩ H
  · replace H := H2 hc
    clear H1 H2
    exact J_vret dX9_readLink_115 rfl ⟨Nat.le_of_ble_eq_true rfl, Nat.le_of_ble_eq_true rfl, fun _ => rfl⟩ H
def zX9_readLink_102 (l : Launch) (g : am_G) (d : Nat) (x : Bool) (a0 : Nat) (i1 : Int32) (i2 : Int32) (i3 : Int32) (i4 : Int32) (i5 : Int32) (h : am_H) (Q : Option Value → am_H → Prop) : Prop := cv_N l g mX9_wrong d x 9 a0 [.int 6] h (fun h1 => zX9_readLink_108 l g d x a0 i1 i2 i3 i4 i5  h1 Q)
set_option maxRecDepth 4000 in
theorem rX9_readLink_102 {l : Launch} {g : am_G} {d : Nat} {x : Bool} {a0 : Nat} {i1 : Int32} {i2 : Int32} {i3 : Int32} {i4 : Int32} {i5 : Int32} {h : am_H} {Q : Option Value → am_H → Prop} (H : zX9_readLink_102 l g d x a0 i1 i2 i3 i4 i5 h Q) : am_J l g mX9_readLink (d + 1) (0, 0, x) 102 [(0, .ref a0), (1, .int i1), (2, .int i2), (3, .int i3), (4, .int i4), (5, .int i5)] [] h Q := by
  unfold zX9_readLink_102 at H
  refine J_aload_n dX9_readLink_102 0 rfl ?_
  refine J_bipush (v := 6) dX9_readLink_103 (by decide) ?_
  obtain ⟨⟨fs, hh⟩, H⟩ := H
  refine J_callV (As := [.int 6]) (S := []) (b := a0) dX9_readLink_105 mX9_wrong_ok kX9_151 rfl (by decide) (Nat.le_of_ble_eq_true rfl) hh rfl rfl (Nat.le_of_ble_eq_true rfl) ⟨Nat.le_of_ble_eq_true rfl, Nat.le_of_ble_eq_true rfl⟩ (fun k h' hp => ?_) H (fun r h1 hp => ?_)
  · obtain ⟨hv, -⟩ := hp; cases hv
  obtain ⟨rfl, H⟩ := hp
  show am_J l g mX9_readLink (d + 1) (0, 0, x) 108 [(0, .ref a0), (1, .int i1), (2, .int i2), (3, .int i3), (4, .int i4), (5, .int i5)] [] h1 Q
  exact J_pick [0, 1, 2, 3, 4, 5] rfl (rX9_readLink_108 H)
def zX9_readLink_90 (l : Launch) (g : am_G) (d : Nat) (x : Bool) (a0 : Nat) (i1 : Int32) (i2 : Int32) (i3 : Int32) (i4 : Int32) (i5 : Int32) (h : am_H) (Q : Option Value → am_H → Prop) : Prop := cv_I l g mX9_isLinkTold d x 9 a0 [.int i1, .int i2, .int i3, .int i4] h (fun v2 h1 => ((v2 = 0 → zX9_readLink_108 l g d x a0 i1 i2 i3 i4 i5  h1 Q) ∧ (¬ v2 = 0 → zX9_readLink_102 l g d x a0 i1 i2 i3 i4 i5  h1 Q)))
set_option maxRecDepth 4000 in
theorem rX9_readLink_90 {l : Launch} {g : am_G} {d : Nat} {x : Bool} {a0 : Nat} {i1 : Int32} {i2 : Int32} {i3 : Int32} {i4 : Int32} {i5 : Int32} {h : am_H} {Q : Option Value → am_H → Prop} (H : zX9_readLink_90 l g d x a0 i1 i2 i3 i4 i5 h Q) : am_J l g mX9_readLink (d + 1) (0, 0, x) 90 [(0, .ref a0), (1, .int i1), (2, .int i2), (3, .int i3), (4, .int i4), (5, .int i5)] [] h Q := by
  unfold zX9_readLink_90 at H
  refine J_aload_n dX9_readLink_90 0 rfl ?_
  refine J_iload_n dX9_readLink_91 1 rfl ?_
  refine J_iload_n dX9_readLink_92 2 rfl ?_
  refine J_iload_n dX9_readLink_93 3 rfl ?_
  refine J_iload dX9_readLink_94 4 rfl ?_
  obtain ⟨⟨fs, hh⟩, H⟩ := H
  refine J_callV (As := [.int i1, .int i2, .int i3, .int i4]) (S := []) (b := a0) dX9_readLink_96 mX9_isLinkTold_ok kX9_197 rfl (by decide) (Nat.le_of_ble_eq_true rfl) hh rfl rfl (Nat.le_of_ble_eq_true rfl) ⟨Nat.le_of_ble_eq_true rfl, Nat.le_of_ble_eq_true rfl⟩ (fun k h' hp => ?_) H (fun r h1 hp => ?_)
  · obtain ⟨_, hv, -⟩ := hp; cases hv
  obtain ⟨v2, rfl, H⟩ := hp
  show am_J l g mX9_readLink (d + 1) (0, 0, x) 99 [(0, .ref a0), (1, .int i1), (2, .int i2), (3, .int i3), (4, .int i4), (5, .int i5)] [.int v2] h1 Q
  obtain ⟨H1, H2⟩ := H
  refine J_if_eq (tgt := 108) dX9_readLink_99 (by decide) (fun hc => ?_) (fun hc => ?_)
  · replace H := H1 hc
    clear H1 H2
    exact J_pick [0, 1, 2, 3, 4, 5] rfl (rX9_readLink_108 H)
  · replace H := H2 hc
    clear H1 H2
    exact J_pick [0, 1, 2, 3, 4, 5] rfl (rX9_readLink_102 H)
def zX9_readLink_76 (l : Launch) (g : am_G) (d : Nat) (x : Bool) (a0 : Nat) (i1 : Int32) (i2 : Int32) (i3 : Int32) (i4 : Int32) (i5 : Int32) (h : am_H) (Q : Option Value → am_H → Prop) : Prop := ((¬ i1 = i2 → zX9_readLink_90 l g d x a0 i1 i2 i3 i4 i5  h Q) ∧ (i1 = i2 → ((¬ i3 = 0 → zX9_readLink_90 l g d x a0 i1 i2 i3 i4 i5  h Q) ∧ (i3 = 0 → ((i4 = 0 → zX9_readLink_102 l g d x a0 i1 i2 i3 i4 i5  h Q) ∧ (¬ i4 = 0 → zX9_readLink_90 l g d x a0 i1 i2 i3 i4 i5  h Q))))))
set_option maxRecDepth 4000 in
theorem rX9_readLink_76 {l : Launch} {g : am_G} {d : Nat} {x : Bool} {a0 : Nat} {i1 : Int32} {i2 : Int32} {i3 : Int32} {i4 : Int32} {i5 : Int32} {h : am_H} {Q : Option Value → am_H → Prop} (H : zX9_readLink_76 l g d x a0 i1 i2 i3 i4 i5 h Q) : am_J l g mX9_readLink (d + 1) (0, 0, x) 76 [(0, .ref a0), (1, .int i1), (2, .int i2), (3, .int i3), (4, .int i4), (5, .int i5)] [] h Q := by
  unfold zX9_readLink_76 at H
  refine J_iload_n dX9_readLink_76 1 rfl ?_
  refine J_iload_n dX9_readLink_77 2 rfl ?_
  obtain ⟨H1, H2⟩ := H
  refine J_icmp_ne (tgt := 90) dX9_readLink_78 (by decide) (fun hc => ?_) (fun hc => ?_)
  · replace H := H1 hc
    clear H1 H2
    exact J_pick [0, 1, 2, 3, 4, 5] rfl (rX9_readLink_90 H)
  · replace H := H2 hc
    clear H1 H2
    refine J_iload_n dX9_readLink_81 3 rfl ?_
    obtain ⟨H1, H2⟩ := H
    refine J_if_ne (tgt := 90) dX9_readLink_82 (by decide) (fun hc => ?_) (fun hc => ?_)
    · replace H := H1 hc
      clear H1 H2
      exact J_pick [0, 1, 2, 3, 4, 5] rfl (rX9_readLink_90 H)
    · replace H := H2 hc
      clear H1 H2
      refine J_iload dX9_readLink_85 4 rfl ?_
      obtain ⟨H1, H2⟩ := H
      refine J_if_eq (tgt := 102) dX9_readLink_87 (by decide) (fun hc => ?_) (fun hc => ?_)
      · replace H := H1 hc
        clear H1 H2
        exact J_pick [0, 1, 2, 3, 4, 5] rfl (rX9_readLink_102 H)
      · replace H := H2 hc
        clear H1 H2
        exact J_pick [0, 1, 2, 3, 4, 5] rfl (rX9_readLink_90 H)
def zX9_readLink_0 (l : Launch) (g : am_G) (d : Nat) (x : Bool) (a0 : Nat) (h : am_H) (Q : Option Value → am_H → Prop) : Prop := gt_R h a0 9 12 (fun v1 => al_I 0 h v1 1 (fun v2 => ((¬ v2 = 24 → gt_I h a0 9 7 (fun v3 => pt_V h a0 9 7 (.int (v3 + 1)) (fun h4 => cv_I l g mX9_takeRing d x 9 a0 [] h4 (fun v6 h5 => cv_I l g mX9_takeRing d x 9 a0 [] h5 (fun v8 h7 => cv_I l g mX9_takeAway d x 9 a0 [] h7 (fun v10 h9 => cv_I l g mX9_takeAway d x 9 a0 [] h9 (fun v12 h11 => cv_I l g mX9_isWord d x 9 a0 [.int 2] h11 (fun v14 h13 => ((¬ v14 = 0 → zX9_readLink_76 l g d x a0 v6 v8 v10 v12 v14  h13 Q) ∧ (v14 = 0 → cv_I l g mX9_isWord d x 9 a0 [.int 3] h13 (fun v16 h15 => ((¬ v16 = 0 → zX9_readLink_76 l g d x a0 v6 v8 v10 v12 v14  h15 Q) ∧ (v16 = 0 → cv_N l g mX9_wrong d x 9 a0 [.int 1] h15 (fun h17 => zX9_readLink_108 l g d x a0 v6 v8 v10 v12 v14  h17 Q)))))))))))))) ∧ (v2 = 24 → cv_N l g mX9_wrong d x 9 a0 [.int 5] h (fun h19 => Q none h19)))))
set_option maxRecDepth 4000 in
theorem rX9_readLink_0 {l : Launch} {g : am_G} {d : Nat} {x : Bool} {a0 : Nat} {h : am_H} {Q : Option Value → am_H → Prop} (H : zX9_readLink_0 l g d x a0 h Q) : am_J l g mX9_readLink (d + 1) (0, 0, x) 0 [(0, .ref a0)] [] h Q := by
  unfold zX9_readLink_0 at H
  refine J_aload_n dX9_readLink_0 0 rfl ?_
  obtain ⟨fs, v1, hh, hk, H⟩ := H
  refine J_get dX9_readLink_1 fX9_51 hh hk ?_
  clear hh hk
  refine J_iconst (v := 1) dX9_readLink_4 (by decide) ?_
  obtain ⟨nn, ff, hh, hk, H⟩ := H
  refine J_iald dX9_readLink_5 hh hk ?_
  generalize ff (Int32.toNatClampNeg 1) = v2 at H ⊢
  clear hh hk ff
  refine J_bipush (v := 24) dX9_readLink_6 (by decide) ?_
  obtain ⟨H1, H2⟩ := H
  refine J_icmp_ne (tgt := 17) dX9_readLink_8 (by decide) (fun hc => ?_) (fun hc => ?_)
  · replace H := H1 hc
    clear H1 H2
    refine J_aload_n dX9_readLink_17 0 rfl ?_
    refine J_dup dX9_readLink_18 rfl ?_
    obtain ⟨fs, v3, hh, hk, H⟩ := H
    refine J_get dX9_readLink_19 fX9_142 hh hk ?_
    clear hh hk
    refine J_iconst (v := 1) dX9_readLink_22 (by decide) ?_
    refine J_iadd dX9_readLink_23 ?_
    obtain ⟨fs, hh, hk, H⟩ := H
    refine J_put dX9_readLink_24 fX9_142 rfl rfl hh hk ?_
    generalize List.set h a0 (am_O 9 (List.set fs 7 (.int (v3 + 1)))) = h4 at H ⊢
    clear hh hk
    refine J_aload_n dX9_readLink_27 0 rfl ?_
    obtain ⟨⟨fs, hh⟩, H⟩ := H
    refine J_callV (As := []) (S := []) (b := a0) dX9_readLink_28 mX9_takeRing_ok kX9_190 rfl (by decide) (Nat.le_of_ble_eq_true rfl) hh rfl rfl (Nat.le_of_ble_eq_true rfl) ⟨Nat.le_of_ble_eq_true rfl, Nat.le_of_ble_eq_true rfl⟩ (fun k h' hp => ?_) H (fun r h5 hp => ?_)
    · obtain ⟨_, hv, -⟩ := hp; cases hv
    obtain ⟨v6, rfl, H⟩ := hp
    show am_J l g mX9_readLink (d + 1) (0, 0, x) 31 [(0, .ref a0)] [.int v6] h5 Q
    refine J_istore_n (L' := [(1, .int v6), (0, .ref a0)]) dX9_readLink_31 (by decide) rfl ?_
    refine J_aload_n dX9_readLink_32 1 rfl ?_
    obtain ⟨⟨fs, hh⟩, H⟩ := H
    refine J_callV (As := []) (S := []) (b := a0) dX9_readLink_33 mX9_takeRing_ok kX9_190 rfl (by decide) (Nat.le_of_ble_eq_true rfl) hh rfl rfl (Nat.le_of_ble_eq_true rfl) ⟨Nat.le_of_ble_eq_true rfl, Nat.le_of_ble_eq_true rfl⟩ (fun k h' hp => ?_) H (fun r h7 hp => ?_)
    · obtain ⟨_, hv, -⟩ := hp; cases hv
    obtain ⟨v8, rfl, H⟩ := hp
    show am_J l g mX9_readLink (d + 1) (0, 0, x) 36 [(1, .int v6), (0, .ref a0)] [.int v8] h7 Q
    refine J_istore_n (L' := [(2, .int v8), (1, .int v6), (0, .ref a0)]) dX9_readLink_36 (by decide) rfl ?_
    refine J_aload_n dX9_readLink_37 2 rfl ?_
    obtain ⟨⟨fs, hh⟩, H⟩ := H
    refine J_callV (As := []) (S := []) (b := a0) dX9_readLink_38 mX9_takeAway_ok kX9_194 rfl (by decide) (Nat.le_of_ble_eq_true rfl) hh rfl rfl (Nat.le_of_ble_eq_true rfl) ⟨Nat.le_of_ble_eq_true rfl, Nat.le_of_ble_eq_true rfl⟩ (fun k h' hp => ?_) H (fun r h9 hp => ?_)
    · obtain ⟨_, hv, -⟩ := hp; cases hv
    obtain ⟨v10, rfl, H⟩ := hp
    show am_J l g mX9_readLink (d + 1) (0, 0, x) 41 [(2, .int v8), (1, .int v6), (0, .ref a0)] [.int v10] h9 Q
    refine J_istore_n (L' := [(3, .int v10), (2, .int v8), (1, .int v6), (0, .ref a0)]) dX9_readLink_41 (by decide) rfl ?_
    refine J_aload_n dX9_readLink_42 3 rfl ?_
    obtain ⟨⟨fs, hh⟩, H⟩ := H
    refine J_callV (As := []) (S := []) (b := a0) dX9_readLink_43 mX9_takeAway_ok kX9_194 rfl (by decide) (Nat.le_of_ble_eq_true rfl) hh rfl rfl (Nat.le_of_ble_eq_true rfl) ⟨Nat.le_of_ble_eq_true rfl, Nat.le_of_ble_eq_true rfl⟩ (fun k h' hp => ?_) H (fun r h11 hp => ?_)
    · obtain ⟨_, hv, -⟩ := hp; cases hv
    obtain ⟨v12, rfl, H⟩ := hp
    show am_J l g mX9_readLink (d + 1) (0, 0, x) 46 [(3, .int v10), (2, .int v8), (1, .int v6), (0, .ref a0)] [.int v12] h11 Q
    refine J_istore (L' := [(4, .int v12), (3, .int v10), (2, .int v8), (1, .int v6), (0, .ref a0)]) dX9_readLink_46 (by decide) rfl ?_
    refine J_aload_n dX9_readLink_48 4 rfl ?_
    refine J_iconst (v := 2) dX9_readLink_49 (by decide) ?_
    obtain ⟨⟨fs, hh⟩, H⟩ := H
    refine J_callV (As := [.int 2]) (S := []) (b := a0) dX9_readLink_50 mX9_isWord_ok kX9_155 rfl (by decide) (Nat.le_of_ble_eq_true rfl) hh rfl rfl (Nat.le_of_ble_eq_true rfl) ⟨Nat.le_of_ble_eq_true rfl, Nat.le_of_ble_eq_true rfl⟩ (fun k h' hp => ?_) H (fun r h13 hp => ?_)
    · obtain ⟨_, hv, -⟩ := hp; cases hv
    obtain ⟨v14, rfl, H⟩ := hp
    show am_J l g mX9_readLink (d + 1) (0, 0, x) 53 [(4, .int v12), (3, .int v10), (2, .int v8), (1, .int v6), (0, .ref a0)] [.int v14] h13 Q
    refine J_istore (L' := [(5, .int v14), (4, .int v12), (3, .int v10), (2, .int v8), (1, .int v6), (0, .ref a0)]) dX9_readLink_53 (by decide) rfl ?_
    refine J_iload dX9_readLink_55 0 rfl ?_
    obtain ⟨H1, H2⟩ := H
    refine J_if_ne (tgt := 76) dX9_readLink_57 (by decide) (fun hc => ?_) (fun hc => ?_)
    · replace H := H1 hc
      clear H1 H2
      exact J_pick [5, 4, 3, 2, 1, 0] rfl (rX9_readLink_76 H)
    · replace H := H2 hc
      clear H1 H2
      refine J_aload_n dX9_readLink_60 5 rfl ?_
      refine J_iconst (v := 3) dX9_readLink_61 (by decide) ?_
      obtain ⟨⟨fs, hh⟩, H⟩ := H
      refine J_callV (As := [.int 3]) (S := []) (b := a0) dX9_readLink_62 mX9_isWord_ok kX9_155 rfl (by decide) (Nat.le_of_ble_eq_true rfl) hh rfl rfl (Nat.le_of_ble_eq_true rfl) ⟨Nat.le_of_ble_eq_true rfl, Nat.le_of_ble_eq_true rfl⟩ (fun k h' hp => ?_) H (fun r h15 hp => ?_)
      · obtain ⟨_, hv, -⟩ := hp; cases hv
      obtain ⟨v16, rfl, H⟩ := hp
      show am_J l g mX9_readLink (d + 1) (0, 0, x) 65 [(5, .int v14), (4, .int v12), (3, .int v10), (2, .int v8), (1, .int v6), (0, .ref a0)] [.int v16] h15 Q
      obtain ⟨H1, H2⟩ := H
      refine J_if_ne (tgt := 76) dX9_readLink_65 (by decide) (fun hc => ?_) (fun hc => ?_)
      · replace H := H1 hc
        clear H1 H2
        exact J_pick [5, 4, 3, 2, 1, 0] rfl (rX9_readLink_76 H)
      · replace H := H2 hc
        clear H1 H2
        refine J_aload_n dX9_readLink_68 5 rfl ?_
        refine J_iconst (v := 1) dX9_readLink_69 (by decide) ?_
        obtain ⟨⟨fs, hh⟩, H⟩ := H
        refine J_callV (As := [.int 1]) (S := []) (b := a0) dX9_readLink_70 mX9_wrong_ok kX9_151 rfl (by decide) (Nat.le_of_ble_eq_true rfl) hh rfl rfl (Nat.le_of_ble_eq_true rfl) ⟨Nat.le_of_ble_eq_true rfl, Nat.le_of_ble_eq_true rfl⟩ (fun k h' hp => ?_) H (fun r h17 hp => ?_)
        · obtain ⟨hv, -⟩ := hp; cases hv
        obtain ⟨rfl, H⟩ := hp
        show am_J l g mX9_readLink (d + 1) (0, 0, x) 73 [(5, .int v14), (4, .int v12), (3, .int v10), (2, .int v8), (1, .int v6), (0, .ref a0)] [] h17 Q
        refine J_goto (tgt := 108) dX9_readLink_73 (by decide) ?_
        exact J_pick [5, 4, 3, 2, 1, 0] rfl (rX9_readLink_108 H)
  · replace H := H2 hc
    clear H1 H2
    refine J_aload_n dX9_readLink_11 0 rfl ?_
    refine J_iconst (v := 5) dX9_readLink_12 (by decide) ?_
    obtain ⟨⟨fs, hh⟩, H⟩ := H
    refine J_callV (As := [.int 5]) (S := []) (b := a0) dX9_readLink_13 mX9_wrong_ok kX9_151 rfl (by decide) (Nat.le_of_ble_eq_true rfl) hh rfl rfl (Nat.le_of_ble_eq_true rfl) ⟨Nat.le_of_ble_eq_true rfl, Nat.le_of_ble_eq_true rfl⟩ (fun k h' hp => ?_) H (fun r h19 hp => ?_)
    · obtain ⟨hv, -⟩ := hp; cases hv
    obtain ⟨rfl, H⟩ := hp
    show am_J l g mX9_readLink (d + 1) (0, 0, x) 16 [(0, .ref a0)] [] h19 Q
    exact J_vret dX9_readLink_16 rfl ⟨Nat.le_of_ble_eq_true rfl, Nat.le_of_ble_eq_true rfl, fun _ => rfl⟩ H
theorem eX9_readLink {l : Launch} {g : am_G} {d : Nat} {x : Bool} {a0 : Nat} {h : am_H} {K : am_H → Prop} (H : zX9_readLink_0 l g d x a0 h (fun r h' => r = none ∧ K h')) : cl_N l g mX9_readLink (d + 1) x [.ref a0] h K := rX9_readLink_0 H
def zX9_isRing_0 (l : Launch) (g : am_G) (d : Nat) (x : Bool) (a0 : Nat) (i1 : Int32) (h : am_H) (Q : Option Value → am_H → Prop) : Prop := ((i1 < 0 → Q (some (.int 0)) h) ∧ (¬ i1 < 0 → gt_I h a0 9 21 (fun v1 => ((v1 ≤ i1 → Q (some (.int 0)) h) ∧ (¬ v1 ≤ i1 → gt_R h a0 9 22 (fun v2 => al_I 2 h v2 i1 (fun v3 => ((v3 = 0 → Q (some (.int 0)) h) ∧ (¬ v3 = 0 → Q (some (.int 1)) h)))))))))
set_option maxRecDepth 4000 in
theorem rX9_isRing_0 {l : Launch} {g : am_G} {d : Nat} {x : Bool} {a0 : Nat} {i1 : Int32} {h : am_H} {Q : Option Value → am_H → Prop} (H : zX9_isRing_0 l g d x a0 i1 h Q) : am_J l g mX9_isRing d (0, 0, x) 0 [(0, .ref a0), (1, .int i1)] [] h Q := by
  unfold zX9_isRing_0 at H
  refine J_iload_n dX9_isRing_0 1 rfl ?_
  obtain ⟨H1, H2⟩ := H
  refine J_if_lt (tgt := 25) dX9_isRing_1 (by decide) (fun hc => ?_) (fun hc => ?_)
  · replace H := H1 hc
    clear H1 H2
    refine J_iconst (v := 0) dX9_isRing_25 (by decide) ?_
    exact J_iret dX9_isRing_26 ⟨_, rfl, rfl⟩ ⟨Nat.le_of_ble_eq_true rfl, Nat.le_of_ble_eq_true rfl, fun _ => rfl⟩ H
  · replace H := H2 hc
    clear H1 H2
    refine J_iload_n dX9_isRing_4 1 rfl ?_
    refine J_aload_n dX9_isRing_5 0 rfl ?_
    obtain ⟨fs, v1, hh, hk, H⟩ := H
    refine J_get dX9_isRing_6 fX9_201 hh hk ?_
    clear hh hk
    obtain ⟨H1, H2⟩ := H
    refine J_icmp_ge (tgt := 25) dX9_isRing_9 (by decide) (fun hc => ?_) (fun hc => ?_)
    · replace H := H1 hc
      clear H1 H2
      refine J_iconst (v := 0) dX9_isRing_25 (by decide) ?_
      exact J_iret dX9_isRing_26 ⟨_, rfl, rfl⟩ ⟨Nat.le_of_ble_eq_true rfl, Nat.le_of_ble_eq_true rfl, fun _ => rfl⟩ H
    · replace H := H2 hc
      clear H1 H2
      refine J_aload_n dX9_isRing_12 0 rfl ?_
      obtain ⟨fs, v2, hh, hk, H⟩ := H
      refine J_get dX9_isRing_13 fX9_70 hh hk ?_
      clear hh hk
      refine J_iload_n dX9_isRing_16 1 rfl ?_
      obtain ⟨nn, ff, hh, hk, H⟩ := H
      refine J_zald dX9_isRing_17 hh hk ?_
      generalize ff (Int32.toNatClampNeg i1) = v3 at H ⊢
      clear hh hk ff
      obtain ⟨H1, H2⟩ := H
      refine J_if_eq (tgt := 25) dX9_isRing_18 (by decide) (fun hc => ?_) (fun hc => ?_)
      · replace H := H1 hc
        clear H1 H2
        refine J_iconst (v := 0) dX9_isRing_25 (by decide) ?_
        exact J_iret dX9_isRing_26 ⟨_, rfl, rfl⟩ ⟨Nat.le_of_ble_eq_true rfl, Nat.le_of_ble_eq_true rfl, fun _ => rfl⟩ H
      · replace H := H2 hc
        clear H1 H2
        refine J_iconst (v := 1) dX9_isRing_21 (by decide) ?_
        refine J_goto (tgt := 26) dX9_isRing_22 (by decide) ?_
        exact J_iret dX9_isRing_26 ⟨_, rfl, rfl⟩ ⟨Nat.le_of_ble_eq_true rfl, Nat.le_of_ble_eq_true rfl, fun _ => rfl⟩ H
theorem eX9_isRing {l : Launch} {g : am_G} {d : Nat} {x : Bool} {a0 : Nat} {i1 : Int32} {h : am_H} {K : Int32 → am_H → Prop} (H : zX9_isRing_0 l g d x a0 i1 h (fun r h' => ∃ v, r = some (.int v) ∧ K v h')) : cl_I l g mX9_isRing d x [.ref a0, .int i1] h K := rX9_isRing_0 H
def zX9_sets_0 (l : Launch) (g : am_G) (d : Nat) (x : Bool) (a0 : Nat) (i1 : Int32) (i2 : Int32) (i3 : Int32) (h : am_H) (Q : Option Value → am_H → Prop) : Prop := gt_R h a0 9 23 (fun v1 => as_I 0 h v1 ((300 * i1) + i2) i3 (fun h2 => gt_R h2 a0 9 23 (fun v3 => as_I 0 h2 v3 ((300 * i2) + i1) (-i3) (fun h4 => Q none h4))))
set_option maxRecDepth 4000 in
theorem rX9_sets_0 {l : Launch} {g : am_G} {d : Nat} {x : Bool} {a0 : Nat} {i1 : Int32} {i2 : Int32} {i3 : Int32} {h : am_H} {Q : Option Value → am_H → Prop} (H : zX9_sets_0 l g d x a0 i1 i2 i3 h Q) : am_J l g mX9_sets d (0, 0, x) 0 [(0, .ref a0), (1, .int i1), (2, .int i2), (3, .int i3)] [] h Q := by
  unfold zX9_sets_0 at H
  refine J_aload_n dX9_sets_0 0 rfl ?_
  obtain ⟨fs, v1, hh, hk, H⟩ := H
  refine J_get dX9_sets_1 fX9_74 hh hk ?_
  clear hh hk
  refine J_sipush (v := 300) dX9_sets_4 (by decide) ?_
  refine J_iload_n dX9_sets_7 1 rfl ?_
  refine J_imul dX9_sets_8 ?_
  refine J_iload_n dX9_sets_9 2 rfl ?_
  refine J_iadd dX9_sets_10 ?_
  refine J_iload_n dX9_sets_11 3 rfl ?_
  obtain ⟨nn, ff, hh, hk, H⟩ := H
  refine J_iast dX9_sets_12 hh hk ?_
  generalize List.set h v1 (am_I 0 nn (upd ff (Int32.toNatClampNeg ((300 * i1) + i2)) i3)) = h2 at H ⊢
  clear hh hk
  refine J_aload_n dX9_sets_13 0 rfl ?_
  obtain ⟨fs, v3, hh, hk, H⟩ := H
  refine J_get dX9_sets_14 fX9_74 hh hk ?_
  clear hh hk
  refine J_sipush (v := 300) dX9_sets_17 (by decide) ?_
  refine J_iload_n dX9_sets_20 2 rfl ?_
  refine J_imul dX9_sets_21 ?_
  refine J_iload_n dX9_sets_22 1 rfl ?_
  refine J_iadd dX9_sets_23 ?_
  refine J_iload_n dX9_sets_24 3 rfl ?_
  refine J_ineg dX9_sets_25 ?_
  obtain ⟨nn, ff, hh, hk, H⟩ := H
  refine J_iast dX9_sets_26 hh hk ?_
  generalize List.set h2 v3 (am_I 0 nn (upd ff (Int32.toNatClampNeg ((300 * i2) + i1)) (-i3))) = h4 at H ⊢
  clear hh hk
  exact J_vret dX9_sets_27 rfl ⟨Nat.le_of_ble_eq_true rfl, Nat.le_of_ble_eq_true rfl, fun _ => rfl⟩ H
theorem eX9_sets {l : Launch} {g : am_G} {d : Nat} {x : Bool} {a0 : Nat} {i1 : Int32} {i2 : Int32} {i3 : Int32} {h : am_H} {K : am_H → Prop} (H : zX9_sets_0 l g d x a0 i1 i2 i3 h (fun r h' => r = none ∧ K h')) : cl_N l g mX9_sets d x [.ref a0, .int i1, .int i2, .int i3] h K := rX9_sets_0 H
