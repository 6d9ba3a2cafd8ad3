def zX9_look_41 (l : Launch) (g : am_G) (d : Nat) (x : Bool) (a0 : Nat) (i1 : Int32) (i2 : Int32) (s0 : Nat) (s1 : Int32) (h : am_H) (Q : Option Value → am_H → Prop) : Prop := pt_V h s0 9 0 (.int s1) (fun h1 => gt_I h1 a0 9 0 (fun v2 => ((v2 ≤ 0 → ((Int32.toInt i2 < 0 ∨ 5 < Int32.toInt i2 → cv_N l g mX9_findNear d x 9 a0 [] h1 (fun h3 => cv_I l g mX9_findPieces d x 9 a0 [.int (-1)] h3 (fun v6 h5 => gt_R h5 a0 9 27 (fun v7 => al_I 0 h5 v7 i1 (fun v8 => Q (some (.int v8)) h5))))) ∧ (i2 = 0 → gt_R h1 a0 9 22 (fun v9 => al_I 2 h1 v9 i1 (fun v10 => ((v10 = 0 → Q (some (.int 0)) h1) ∧ (¬ v10 = 0 → Q (some (.int 1)) h1))))) ∧ (i2 = 1 → cv_I l g mX9_linksOf d x 9 a0 [.int i1] h1 (fun v12 h11 => Q (some (.int v12)) h11)) ∧ (i2 = 2 → cv_I l g mX9_isFull d x 9 a0 [.int i1] h1 (fun v14 h13 => ((v14 = 0 → Q (some (.int 0)) h13) ∧ (¬ v14 = 0 → Q (some (.int 1)) h13)))) ∧ (i2 = 3 → cv_I l g mX9_binds d x 9 a0 [.int i1] h1 (fun v16 h15 => ((v16 = 0 → Q (some (.int 0)) h15) ∧ (¬ v16 = 0 → Q (some (.int 1)) h15)))) ∧ (i2 = 4 → cv_N l g mX9_findNear d x 9 a0 [] h1 (fun h17 => cv_I l g mX9_findPieces d x 9 a0 [.int (-1)] h17 (fun v20 h19 => cv_I l g mX9_isCut d x 9 a0 [.int i1, .int v20] h19 (fun v22 h21 => ((v22 = 0 → Q (some (.int 0)) h21) ∧ (¬ v22 = 0 → Q (some (.int 1)) h21)))))) ∧ (i2 = 5 → cv_I l g mX9_opens d x 9 a0 [] h1 (fun v24 h23 => ((v24 < 0 → Q (some (.int 0)) h23) ∧ (¬ v24 < 0 → gt_R h23 a0 9 32 (fun v25 => al_I 2 h23 v25 i1 (fun v26 => ((v26 = 0 → Q (some (.int 0)) h23) ∧ (¬ v26 = 0 → Q (some (.int 1)) h23)))))))))) ∧ (¬ v2 ≤ 0 → Q (some (.int 0)) h1))))
set_option maxRecDepth 4000 in
theorem rX9_look_41 {l : Launch} {g : am_G} {d : Nat} {x : Bool} {a0 : Nat} {i1 : Int32} {i2 : Int32} {s0 : Nat} {s1 : Int32} {h : am_H} {Q : Option Value → am_H → Prop} (H : zX9_look_41 l g d x a0 i1 i2 s0 s1 h Q) : am_J l g mX9_look (d + 1) (0, 0, x) 41 [(0, .ref a0), (1, .int i1), (2, .int i2)] [.int s1, .ref s0] h Q := by
  unfold zX9_look_41 at H
  obtain ⟨fs, hh, hk, H⟩ := H
  refine J_put dX9_look_41 fX9_1 rfl rfl hh hk ?_
  generalize List.set h s0 (am_O 9 (List.set fs 0 (.int s1))) = h1 at H ⊢
  clear hh hk
  refine J_aload_n dX9_look_44 0 rfl ?_
  obtain ⟨fs, v2, hh, hk, H⟩ := H
  refine J_get dX9_look_45 fX9_1 hh hk ?_
  clear hh hk
  obtain ⟨H1, H2⟩ := H
  refine J_if_le (tgt := 53) dX9_look_48 (by decide) (fun hc => ?_) (fun hc => ?_)
  · replace H := H1 hc
    clear H1 H2
    refine J_iload_n dX9_look_53 2 rfl ?_
    obtain ⟨H0, H⟩ := H
    by_cases hsw : Int32.toInt i2 < 0 ∨ 5 < Int32.toInt i2
    · replace H := H0 hsw
      refine J_tableOut (tgt := 186) dX9_look_54 hsw (by decide) ?_
      refine J_aload_n dX9_look_186 0 rfl ?_
      obtain ⟨⟨fs, hh⟩, H⟩ := H
      refine J_callV (As := []) (S := []) (b := a0) dX9_look_187 mX9_findNear_ok kX9_242 rfl (by decide) (Nat.le_of_ble_eq_true rfl) hh rfl rfl (Nat.le_of_ble_eq_true rfl) ⟨Nat.le_of_ble_eq_true rfl, Nat.le_of_ble_eq_true rfl⟩ (fun k h' hp => ?_) H (fun r h3 hp => ?_)
      · obtain ⟨hv, -⟩ := hp; cases hv
      obtain ⟨rfl, H⟩ := hp
      show am_J l g mX9_look (d + 1) (0, 0, x) 190 [(0, .ref a0), (1, .int i1), (2, .int i2)] [] h3 Q
      refine J_aload_n dX9_look_190 0 rfl ?_
      refine J_iconst (v := (-1)) dX9_look_191 (by decide) ?_
      obtain ⟨⟨fs, hh⟩, H⟩ := H
      refine J_callV (As := [.int (-1)]) (S := []) (b := a0) dX9_look_192 mX9_findPieces_ok kX9_236 rfl (by decide) (Nat.le_of_ble_eq_true rfl) hh rfl rfl (Nat.le_of_ble_eq_true rfl) ⟨Nat.le_of_ble_eq_true rfl, Nat.le_of_ble_eq_true rfl⟩ (fun k h' hp => ?_) H (fun r h5 hp => ?_)
      · obtain ⟨_, hv, -⟩ := hp; cases hv
      obtain ⟨v6, rfl, H⟩ := hp
      show am_J l g mX9_look (d + 1) (0, 0, x) 195 [(0, .ref a0), (1, .int i1), (2, .int i2)] [.int v6] h5 Q
      refine J_istore_n (L' := [(3, .int v6), (0, .ref a0), (1, .int i1), (2, .int i2)]) dX9_look_195 (by decide) rfl ?_
      refine J_aload_n dX9_look_196 1 rfl ?_
      obtain ⟨fs, v7, hh, hk, H⟩ := H
      refine J_get dX9_look_197 fX9_86 hh hk ?_
      clear hh hk
      refine J_iload_n dX9_look_200 2 rfl ?_
      obtain ⟨nn, ff, hh, hk, H⟩ := H
      refine J_iald dX9_look_201 hh hk ?_
      generalize ff (Int32.toNatClampNeg i1) = v8 at H ⊢
      clear hh hk ff
      exact J_iret dX9_look_202 ⟨_, rfl, rfl⟩ ⟨Nat.le_of_ble_eq_true rfl, Nat.le_of_ble_eq_true rfl, fun _ => rfl⟩ H
    · rcases am_sw_0_5 hsw with he | he | he | he | he | he
      · replace H := H.1 he
        refine J_tableIn (off := 38) (tgt := 92) dX9_look_54 (by rw [he]; decide) (by rw [he]; decide) (by rw [he]; decide) (by decide) ?_
        refine J_aload_n dX9_look_92 0 rfl ?_
        obtain ⟨fs, v9, hh, hk, H⟩ := H
        refine J_get dX9_look_93 fX9_70 hh hk ?_
        clear hh hk
        refine J_iload_n dX9_look_96 1 rfl ?_
        obtain ⟨nn, ff, hh, hk, H⟩ := H
        refine J_zald dX9_look_97 hh hk ?_
        generalize ff (Int32.toNatClampNeg i1) = v10 at H ⊢
        clear hh hk ff
        obtain ⟨H1, H2⟩ := H
        refine J_if_eq (tgt := 105) dX9_look_98 (by decide) (fun hc => ?_) (fun hc => ?_)
        · replace H := H1 hc
          clear H1 H2
          refine J_iconst (v := 0) dX9_look_105 (by decide) ?_
          exact J_iret dX9_look_106 ⟨_, rfl, rfl⟩ ⟨Nat.le_of_ble_eq_true rfl, Nat.le_of_ble_eq_true rfl, fun _ => rfl⟩ H
        · replace H := H2 hc
          clear H1 H2
          refine J_iconst (v := 1) dX9_look_101 (by decide) ?_
          refine J_goto (tgt := 106) dX9_look_102 (by decide) ?_
          exact J_iret dX9_look_106 ⟨_, rfl, rfl⟩ ⟨Nat.le_of_ble_eq_true rfl, Nat.le_of_ble_eq_true rfl, fun _ => rfl⟩ H
      · replace H := H.2.1 he
        refine J_tableIn (off := 53) (tgt := 107) dX9_look_54 (by rw [he]; decide) (by rw [he]; decide) (by rw [he]; decide) (by decide) ?_
        refine J_aload_n dX9_look_107 0 rfl ?_
        refine J_iload_n dX9_look_108 1 rfl ?_
        obtain ⟨⟨fs, hh⟩, H⟩ := H
        refine J_callV (As := [.int i1]) (S := []) (b := a0) dX9_look_109 mX9_linksOf_ok kX9_226 rfl (by decide) (Nat.le_of_ble_eq_true rfl) hh rfl rfl (Nat.le_of_ble_eq_true rfl) ⟨Nat.le_of_ble_eq_true rfl, Nat.le_of_ble_eq_true rfl⟩ (fun k h' hp => ?_) H (fun r h11 hp => ?_)
        · obtain ⟨_, hv, -⟩ := hp; cases hv
        obtain ⟨v12, rfl, H⟩ := hp
        show am_J l g mX9_look (d + 1) (0, 0, x) 112 [(0, .ref a0), (1, .int i1), (2, .int i2)] [.int v12] h11 Q
        exact J_iret dX9_look_112 ⟨_, rfl, rfl⟩ ⟨Nat.le_of_ble_eq_true rfl, Nat.le_of_ble_eq_true rfl, fun _ => rfl⟩ H
      · replace H := H.2.2.1 he
        refine J_tableIn (off := 59) (tgt := 113) dX9_look_54 (by rw [he]; decide) (by rw [he]; decide) (by rw [he]; decide) (by decide) ?_
        refine J_aload_n dX9_look_113 0 rfl ?_
        refine J_iload_n dX9_look_114 1 rfl ?_
        obtain ⟨⟨fs, hh⟩, H⟩ := H
        refine J_callV (As := [.int i1]) (S := []) (b := a0) dX9_look_115 mX9_isFull_ok kX9_263 rfl (by decide) (Nat.le_of_ble_eq_true rfl) hh rfl rfl (Nat.le_of_ble_eq_true rfl) ⟨Nat.le_of_ble_eq_true rfl, Nat.le_of_ble_eq_true rfl⟩ (fun k h' hp => ?_) H (fun r h13 hp => ?_)
        · obtain ⟨_, hv, -⟩ := hp; cases hv
        obtain ⟨v14, rfl, H⟩ := hp
        show am_J l g mX9_look (d + 1) (0, 0, x) 118 [(0, .ref a0), (1, .int i1), (2, .int i2)] [.int v14] h13 Q
        obtain ⟨H1, H2⟩ := H
        refine J_if_eq (tgt := 125) dX9_look_118 (by decide) (fun hc => ?_) (fun hc => ?_)
        · replace H := H1 hc
          clear H1 H2
          refine J_iconst (v := 0) dX9_look_125 (by decide) ?_
          exact J_iret dX9_look_126 ⟨_, rfl, rfl⟩ ⟨Nat.le_of_ble_eq_true rfl, Nat.le_of_ble_eq_true rfl, fun _ => rfl⟩ H
        · replace H := H2 hc
          clear H1 H2
          refine J_iconst (v := 1) dX9_look_121 (by decide) ?_
          refine J_goto (tgt := 126) dX9_look_122 (by decide) ?_
          exact J_iret dX9_look_126 ⟨_, rfl, rfl⟩ ⟨Nat.le_of_ble_eq_true rfl, Nat.le_of_ble_eq_true rfl, fun _ => rfl⟩ H
      · replace H := H.2.2.2.1 he
        refine J_tableIn (off := 73) (tgt := 127) dX9_look_54 (by rw [he]; decide) (by rw [he]; decide) (by rw [he]; decide) (by decide) ?_
        refine J_aload_n dX9_look_127 0 rfl ?_
        refine J_iload_n dX9_look_128 1 rfl ?_
        obtain ⟨⟨fs, hh⟩, H⟩ := H
        refine J_callV (As := [.int i1]) (S := []) (b := a0) dX9_look_129 mX9_binds_ok kX9_266 rfl (by decide) (Nat.le_of_ble_eq_true rfl) hh rfl rfl (Nat.le_of_ble_eq_true rfl) ⟨Nat.le_of_ble_eq_true rfl, Nat.le_of_ble_eq_true rfl⟩ (fun k h' hp => ?_) H (fun r h15 hp => ?_)
        · obtain ⟨_, hv, -⟩ := hp; cases hv
        obtain ⟨v16, rfl, H⟩ := hp
        show am_J l g mX9_look (d + 1) (0, 0, x) 132 [(0, .ref a0), (1, .int i1), (2, .int i2)] [.int v16] h15 Q
        obtain ⟨H1, H2⟩ := H
        refine J_if_eq (tgt := 139) dX9_look_132 (by decide) (fun hc => ?_) (fun hc => ?_)
        · replace H := H1 hc
          clear H1 H2
          refine J_iconst (v := 0) dX9_look_139 (by decide) ?_
          exact J_iret dX9_look_140 ⟨_, rfl, rfl⟩ ⟨Nat.le_of_ble_eq_true rfl, Nat.le_of_ble_eq_true rfl, fun _ => rfl⟩ H
        · replace H := H2 hc
          clear H1 H2
          refine J_iconst (v := 1) dX9_look_135 (by decide) ?_
          refine J_goto (tgt := 140) dX9_look_136 (by decide) ?_
          exact J_iret dX9_look_140 ⟨_, rfl, rfl⟩ ⟨Nat.le_of_ble_eq_true rfl, Nat.le_of_ble_eq_true rfl, fun _ => rfl⟩ H
      · replace H := H.2.2.2.2.1 he
        refine J_tableIn (off := 87) (tgt := 141) dX9_look_54 (by rw [he]; decide) (by rw [he]; decide) (by rw [he]; decide) (by decide) ?_
        refine J_aload_n dX9_look_141 0 rfl ?_
        obtain ⟨⟨fs, hh⟩, H⟩ := H
        refine J_callV (As := []) (S := []) (b := a0) dX9_look_142 mX9_findNear_ok kX9_242 rfl (by decide) (Nat.le_of_ble_eq_true rfl) hh rfl rfl (Nat.le_of_ble_eq_true rfl) ⟨Nat.le_of_ble_eq_true rfl, Nat.le_of_ble_eq_true rfl⟩ (fun k h' hp => ?_) H (fun r h17 hp => ?_)
        · obtain ⟨hv, -⟩ := hp; cases hv
        obtain ⟨rfl, H⟩ := hp
        show am_J l g mX9_look (d + 1) (0, 0, x) 145 [(0, .ref a0), (1, .int i1), (2, .int i2)] [] h17 Q
        refine J_aload_n dX9_look_145 0 rfl ?_
        refine J_iload_n dX9_look_146 1 rfl ?_
        refine J_aload_n dX9_look_147 0 rfl ?_
        refine J_iconst (v := (-1)) dX9_look_148 (by decide) ?_
        obtain ⟨⟨fs, hh⟩, H⟩ := H
        refine J_callV (As := [.int (-1)]) (S := [.int i1, .ref a0]) (b := a0) dX9_look_149 mX9_findPieces_ok kX9_236 rfl (by decide) (Nat.le_of_ble_eq_true rfl) hh rfl rfl (Nat.le_of_ble_eq_true rfl) ⟨Nat.le_of_ble_eq_true rfl, Nat.le_of_ble_eq_true rfl⟩ (fun k h' hp => ?_) H (fun r h19 hp => ?_)
        · obtain ⟨_, hv, -⟩ := hp; cases hv
        obtain ⟨v20, rfl, H⟩ := hp
        show am_J l g mX9_look (d + 1) (0, 0, x) 152 [(0, .ref a0), (1, .int i1), (2, .int i2)] [.int v20, .int i1, .ref a0] h19 Q
        obtain ⟨⟨fs, hh⟩, H⟩ := H
        refine J_callV (As := [.int i1, .int v20]) (S := []) (b := a0) dX9_look_152 mX9_isCut_ok kX9_269 rfl (by decide) (Nat.le_of_ble_eq_true rfl) hh rfl rfl (Nat.le_of_ble_eq_true rfl) ⟨Nat.le_of_ble_eq_true rfl, Nat.le_of_ble_eq_true rfl⟩ (fun k h' hp => ?_) H (fun r h21 hp => ?_)
        · obtain ⟨_, hv, -⟩ := hp; cases hv
        obtain ⟨v22, rfl, H⟩ := hp
        show am_J l g mX9_look (d + 1) (0, 0, x) 155 [(0, .ref a0), (1, .int i1), (2, .int i2)] [.int v22] h21 Q
        obtain ⟨H1, H2⟩ := H
        refine J_if_eq (tgt := 162) dX9_look_155 (by decide) (fun hc => ?_) (fun hc => ?_)
        · replace H := H1 hc
          clear H1 H2
          refine J_iconst (v := 0) dX9_look_162 (by decide) ?_
          exact J_iret dX9_look_163 ⟨_, rfl, rfl⟩ ⟨Nat.le_of_ble_eq_true rfl, Nat.le_of_ble_eq_true rfl, fun _ => rfl⟩ H
        · replace H := H2 hc
          clear H1 H2
          refine J_iconst (v := 1) dX9_look_158 (by decide) ?_
          refine J_goto (tgt := 163) dX9_look_159 (by decide) ?_
          exact J_iret dX9_look_163 ⟨_, rfl, rfl⟩ ⟨Nat.le_of_ble_eq_true rfl, Nat.le_of_ble_eq_true rfl, fun _ => rfl⟩ H
      · replace H := H.2.2.2.2.2 he
        refine J_tableIn (off := 110) (tgt := 164) dX9_look_54 (by rw [he]; decide) (by rw [he]; decide) (by rw [he]; decide) (by decide) ?_
        refine J_aload_n dX9_look_164 0 rfl ?_
        obtain ⟨⟨fs, hh⟩, H⟩ := H
        refine J_callV (As := []) (S := []) (b := a0) dX9_look_165 mX9_opens_ok kX9_251 rfl (by decide) (Nat.le_of_ble_eq_true rfl) hh rfl rfl (Nat.le_of_ble_eq_true rfl) ⟨Nat.le_of_ble_eq_true rfl, Nat.le_of_ble_eq_true rfl⟩ (fun k h' hp => ?_) H (fun r h23 hp => ?_)
        · obtain ⟨_, hv, -⟩ := hp; cases hv
        obtain ⟨v24, rfl, H⟩ := hp
        show am_J l g mX9_look (d + 1) (0, 0, x) 168 [(0, .ref a0), (1, .int i1), (2, .int i2)] [.int v24] h23 Q
        obtain ⟨H1, H2⟩ := H
        refine J_if_lt (tgt := 184) dX9_look_168 (by decide) (fun hc => ?_) (fun hc => ?_)
        · replace H := H1 hc
          clear H1 H2
          refine J_iconst (v := 0) dX9_look_184 (by decide) ?_
          exact J_iret dX9_look_185 ⟨_, rfl, rfl⟩ ⟨Nat.le_of_ble_eq_true rfl, Nat.le_of_ble_eq_true rfl, fun _ => rfl⟩ H
        · replace H := H2 hc
          clear H1 H2
          refine J_aload_n dX9_look_171 0 rfl ?_
          obtain ⟨fs, v25, hh, hk, H⟩ := H
          refine J_get dX9_look_172 fX9_101 hh hk ?_
          clear hh hk
          refine J_iload_n dX9_look_175 1 rfl ?_
          obtain ⟨nn, ff, hh, hk, H⟩ := H
          refine J_zald dX9_look_176 hh hk ?_
          generalize ff (Int32.toNatClampNeg i1) = v26 at H ⊢
          clear hh hk ff
          obtain ⟨H1, H2⟩ := H
          refine J_if_eq (tgt := 184) dX9_look_177 (by decide) (fun hc => ?_) (fun hc => ?_)
          · replace H := H1 hc
            clear H1 H2
            refine J_iconst (v := 0) dX9_look_184 (by decide) ?_
            exact J_iret dX9_look_185 ⟨_, rfl, rfl⟩ ⟨Nat.le_of_ble_eq_true rfl, Nat.le_of_ble_eq_true rfl, fun _ => rfl⟩ H
          · replace H := H2 hc
            clear H1 H2
            refine J_iconst (v := 1) dX9_look_180 (by decide) ?_
            refine J_goto (tgt := 185) dX9_look_181 (by decide) ?_
            exact J_iret dX9_look_185 ⟨_, rfl, rfl⟩ ⟨Nat.le_of_ble_eq_true rfl, Nat.le_of_ble_eq_true rfl, fun _ => rfl⟩ H
  · replace H := H2 hc
    clear H1 H2
    refine J_iconst (v := 0) dX9_look_51 (by decide) ?_
    exact J_iret dX9_look_52 ⟨_, rfl, rfl⟩ ⟨Nat.le_of_ble_eq_true rfl, Nat.le_of_ble_eq_true rfl, fun _ => rfl⟩ H
def zX9_look_40 (l : Launch) (g : am_G) (d : Nat) (x : Bool) (a0 : Nat) (i1 : Int32) (i2 : Int32) (s0 : Nat) (h : am_H) (Q : Option Value → am_H → Prop) : Prop := zX9_look_41 l g d x a0 i1 i2 s0 1 h Q
set_option maxRecDepth 4000 in
theorem rX9_look_40 {l : Launch} {g : am_G} {d : Nat} {x : Bool} {a0 : Nat} {i1 : Int32} {i2 : Int32} {s0 : Nat} {h : am_H} {Q : Option Value → am_H → Prop} (H : zX9_look_40 l g d x a0 i1 i2 s0 h Q) : am_J l g mX9_look (d + 1) (0, 0, x) 40 [(0, .ref a0), (1, .int i1), (2, .int i2)] [.ref s0] h Q := by
  unfold zX9_look_40 at H
  refine J_iconst (v := 1) dX9_look_40 (by decide) ?_
  exact J_pick [0, 1, 2] rfl (rX9_look_41 H)
def zX9_look_36 (l : Launch) (g : am_G) (d : Nat) (x : Bool) (a0 : Nat) (i1 : Int32) (i2 : Int32) (s0 : Nat) (h : am_H) (Q : Option Value → am_H → Prop) : Prop := zX9_look_41 l g d x a0 i1 i2 s0 0 h Q
set_option maxRecDepth 4000 in
theorem rX9_look_36 {l : Launch} {g : am_G} {d : Nat} {x : Bool} {a0 : Nat} {i1 : Int32} {i2 : Int32} {s0 : Nat} {h : am_H} {Q : Option Value → am_H → Prop} (H : zX9_look_36 l g d x a0 i1 i2 s0 h Q) : am_J l g mX9_look (d + 1) (0, 0, x) 36 [(0, .ref a0), (1, .int i1), (2, .int i2)] [.ref s0] h Q := by
  unfold zX9_look_36 at H
  refine J_iconst (v := 0) dX9_look_36 (by decide) ?_
  refine J_goto (tgt := 41) dX9_look_37 (by decide) ?_
  exact J_pick [0, 1, 2] rfl (rX9_look_41 H)
def zX9_look_0 (l : Launch) (g : am_G) (d : Nat) (x : Bool) (a0 : Nat) (i1 : Int32) (i2 : Int32) (h : am_H) (Q : Option Value → am_H → Prop) : Prop := ((i1 < 0 → zX9_look_40 l g d x a0 i1 i2 a0 h Q) ∧ (¬ i1 < 0 → gt_I h a0 9 21 (fun v1 => ((v1 ≤ i1 → zX9_look_40 l g d x a0 i1 i2 a0 h Q) ∧ (¬ v1 ≤ i1 → ((i2 < 0 → zX9_look_40 l g d x a0 i1 i2 a0 h Q) ∧ (¬ i2 < 0 → ((6 < i2 → zX9_look_40 l g d x a0 i1 i2 a0 h Q) ∧ (¬ 6 < i2 → ((i2 = 0 → zX9_look_36 l g d x a0 i1 i2 a0 h Q) ∧ (¬ i2 = 0 → gt_R h a0 9 22 (fun v2 => al_I 2 h v2 i1 (fun v3 => ((v3 = 0 → zX9_look_40 l g d x a0 i1 i2 a0 h Q) ∧ (¬ v3 = 0 → zX9_look_36 l g d x a0 i1 i2 a0 h Q)))))))))))))))
set_option maxRecDepth 4000 in
theorem rX9_look_0 {l : Launch} {g : am_G} {d : Nat} {x : Bool} {a0 : Nat} {i1 : Int32} {i2 : Int32} {h : am_H} {Q : Option Value → am_H → Prop} (H : zX9_look_0 l g d x a0 i1 i2 h Q) : am_J l g mX9_look (d + 1) (0, 0, x) 0 [(0, .ref a0), (1, .int i1), (2, .int i2)] [] h Q := by
  unfold zX9_look_0 at H
  refine J_aload_n dX9_look_0 0 rfl ?_
  refine J_iload_n dX9_look_1 1 rfl ?_
  obtain ⟨H1, H2⟩ := H
  refine J_if_lt (tgt := 40) dX9_look_2 (by decide) (fun hc => ?_) (fun hc => ?_)
  · replace H := H1 hc
    clear H1 H2
    exact J_pick [0, 1, 2] rfl (rX9_look_40 H)
  · replace H := H2 hc
    clear H1 H2
    refine J_iload_n dX9_look_5 1 rfl ?_
    refine J_aload_n dX9_look_6 0 rfl ?_
    obtain ⟨fs, v1, hh, hk, H⟩ := H
    refine J_get dX9_look_7 fX9_201 hh hk ?_
    clear hh hk
    obtain ⟨H1, H2⟩ := H
    refine J_icmp_ge (tgt := 40) dX9_look_10 (by decide) (fun hc => ?_) (fun hc => ?_)
    · replace H := H1 hc
      clear H1 H2
      exact J_pick [0, 1, 2] rfl (rX9_look_40 H)
    · replace H := H2 hc
      clear H1 H2
      refine J_iload_n dX9_look_13 2 rfl ?_
      obtain ⟨H1, H2⟩ := H
      refine J_if_lt (tgt := 40) dX9_look_14 (by decide) (fun hc => ?_) (fun hc => ?_)
      · replace H := H1 hc
        clear H1 H2
        exact J_pick [0, 1, 2] rfl (rX9_look_40 H)
      · replace H := H2 hc
        clear H1 H2
        refine J_iload_n dX9_look_17 2 rfl ?_
        refine J_bipush (v := 6) dX9_look_18 (by decide) ?_
        obtain ⟨H1, H2⟩ := H
        refine J_icmp_gt (tgt := 40) dX9_look_20 (by decide) (fun hc => ?_) (fun hc => ?_)
        · replace H := H1 hc
          clear H1 H2
          exact J_pick [0, 1, 2] rfl (rX9_look_40 H)
        · replace H := H2 hc
          clear H1 H2
          refine J_iload_n dX9_look_23 2 rfl ?_
          obtain ⟨H1, H2⟩ := H
          refine J_if_eq (tgt := 36) dX9_look_24 (by decide) (fun hc => ?_) (fun hc => ?_)
          · replace H := H1 hc
            clear H1 H2
            exact J_pick [0, 1, 2] rfl (rX9_look_36 H)
          · replace H := H2 hc
            clear H1 H2
            refine J_aload_n dX9_look_27 0 rfl ?_
            obtain ⟨fs, v2, hh, hk, H⟩ := H
            refine J_get dX9_look_28 fX9_70 hh hk ?_
            clear hh hk
            refine J_iload_n dX9_look_31 1 rfl ?_
            obtain ⟨nn, ff, hh, hk, H⟩ := H
            refine J_zald dX9_look_32 hh hk ?_
            generalize ff (Int32.toNatClampNeg i1) = v3 at H ⊢
            clear hh hk ff
            obtain ⟨H1, H2⟩ := H
            refine J_if_eq (tgt := 40) dX9_look_33 (by decide) (fun hc => ?_) (fun hc => ?_)
            · replace H := H1 hc
              clear H1 H2
              exact J_pick [0, 1, 2] rfl (rX9_look_40 H)
            · replace H := H2 hc
              clear H1 H2
              exact J_pick [0, 1, 2] rfl (rX9_look_36 H)
theorem eX9_look {l : Launch} {g : am_G} {d : Nat} {x : Bool} {a0 : Nat} {i1 : Int32} {i2 : Int32} {h : am_H} {K : Int32 → am_H → Prop} (H : zX9_look_0 l g d x a0 i1 i2 h (fun r h' => ∃ v, r = some (.int v) ∧ K v h')) : cl_I l g mX9_look (d + 1) x [.ref a0, .int i1, .int i2] h K := rX9_look_0 H
def zX9_over_0 (l : Launch) (g : am_G) (d : Nat) (x : Bool) (a0 : Nat) (i1 : Int32) (i2 : Int32) (h : am_H) (Q : Option Value → am_H → Prop) : Prop := pt_V h a0 9 0 (.int 0) (fun h1 => cv_I l g mX9_isRing d x 9 a0 [.int i1] h1 (fun v3 h2 => ((v3 = 0 → Q (some (.int (-2))) h2) ∧ (¬ v3 = 0 → cv_I l g mX9_isRing d x 9 a0 [.int i2] h2 (fun v5 h4 => ((v5 = 0 → Q (some (.int (-2))) h4) ∧ (¬ v5 = 0 → gt_R h4 a0 9 23 (fun v6 => al_I 0 h4 v6 ((300 * i1) + i2) (fun v7 => Q (some (.int v7)) h4)))))))))
set_option maxRecDepth 4000 in
theorem rX9_over_0 {l : Launch} {g : am_G} {d : Nat} {x : Bool} {a0 : Nat} {i1 : Int32} {i2 : Int32} {h : am_H} {Q : Option Value → am_H → Prop} (H : zX9_over_0 l g d x a0 i1 i2 h Q) : am_J l g mX9_over (d + 1) (0, 0, x) 0 [(0, .ref a0), (1, .int i1), (2, .int i2)] [] h Q := by
  unfold zX9_over_0 at H
  refine J_aload_n dX9_over_0 0 rfl ?_
  refine J_iconst (v := 0) dX9_over_1 (by decide) ?_
  obtain ⟨fs, hh, hk, H⟩ := H
  refine J_put dX9_over_2 fX9_1 rfl rfl hh hk ?_
  generalize List.set h a0 (am_O 9 (List.set fs 0 (.int 0))) = h1 at H ⊢
  clear hh hk
  refine J_aload_n dX9_over_5 0 rfl ?_
  refine J_iload_n dX9_over_6 1 rfl ?_
  obtain ⟨⟨fs, hh⟩, H⟩ := H
  refine J_callV (As := [.int i1]) (S := []) (b := a0) dX9_over_7 mX9_isRing_ok kX9_223 rfl (by decide) (Nat.le_of_ble_eq_true rfl) hh rfl rfl (Nat.le_of_ble_eq_true rfl) ⟨Nat.le_of_ble_eq_true rfl, Nat.le_of_ble_eq_true rfl⟩ (fun k h' hp => ?_) H (fun r h2 hp => ?_)
  · obtain ⟨_, hv, -⟩ := hp; cases hv
  obtain ⟨v3, rfl, H⟩ := hp
  show am_J l g mX9_over (d + 1) (0, 0, x) 10 [(0, .ref a0), (1, .int i1), (2, .int i2)] [.int v3] h2 Q
  obtain ⟨H1, H2⟩ := H
  refine J_if_eq (tgt := 36) dX9_over_10 (by decide) (fun hc => ?_) (fun hc => ?_)
  · replace H := H1 hc
    clear H1 H2
    refine J_bipush (v := (-2)) dX9_over_36 (by decide) ?_
    exact J_iret dX9_over_38 ⟨_, rfl, rfl⟩ ⟨Nat.le_of_ble_eq_true rfl, Nat.le_of_ble_eq_true rfl, fun _ => rfl⟩ H
  · replace H := H2 hc
    clear H1 H2
    refine J_aload_n dX9_over_13 0 rfl ?_
    refine J_iload_n dX9_over_14 2 rfl ?_
    obtain ⟨⟨fs, hh⟩, H⟩ := H
    refine J_callV (As := [.int i2]) (S := []) (b := a0) dX9_over_15 mX9_isRing_ok kX9_223 rfl (by decide) (Nat.le_of_ble_eq_true rfl) hh rfl rfl (Nat.le_of_ble_eq_true rfl) ⟨Nat.le_of_ble_eq_true rfl, Nat.le_of_ble_eq_true rfl⟩ (fun k h' hp => ?_) H (fun r h4 hp => ?_)
    · obtain ⟨_, hv, -⟩ := hp; cases hv
    obtain ⟨v5, rfl, H⟩ := hp
    show am_J l g mX9_over (d + 1) (0, 0, x) 18 [(0, .ref a0), (1, .int i1), (2, .int i2)] [.int v5] h4 Q
    obtain ⟨H1, H2⟩ := H
    refine J_if_eq (tgt := 36) dX9_over_18 (by decide) (fun hc => ?_) (fun hc => ?_)
    · replace H := H1 hc
      clear H1 H2
      refine J_bipush (v := (-2)) dX9_over_36 (by decide) ?_
      exact J_iret dX9_over_38 ⟨_, rfl, rfl⟩ ⟨Nat.le_of_ble_eq_true rfl, Nat.le_of_ble_eq_true rfl, fun _ => rfl⟩ H
    · replace H := H2 hc
      clear H1 H2
      refine J_aload_n dX9_over_21 0 rfl ?_
      obtain ⟨fs, v6, hh, hk, H⟩ := H
      refine J_get dX9_over_22 fX9_74 hh hk ?_
      clear hh hk
      refine J_sipush (v := 300) dX9_over_25 (by decide) ?_
      refine J_iload_n dX9_over_28 1 rfl ?_
      refine J_imul dX9_over_29 ?_
      refine J_iload_n dX9_over_30 2 rfl ?_
      refine J_iadd dX9_over_31 ?_
      obtain ⟨nn, ff, hh, hk, H⟩ := H
      refine J_iald dX9_over_32 hh hk ?_
      generalize ff (Int32.toNatClampNeg ((300 * i1) + i2)) = v7 at H ⊢
      clear hh hk ff
      refine J_goto (tgt := 38) dX9_over_33 (by decide) ?_
      exact J_iret dX9_over_38 ⟨_, rfl, rfl⟩ ⟨Nat.le_of_ble_eq_true rfl, Nat.le_of_ble_eq_true rfl, fun _ => rfl⟩ H
theorem eX9_over {l : Launch} {g : am_G} {d : Nat} {x : Bool} {a0 : Nat} {i1 : Int32} {i2 : Int32} {h : am_H} {K : Int32 → am_H → Prop} (H : zX9_over_0 l g d x a0 i1 i2 h (fun r h' => ∃ v, r = some (.int v) ∧ K v h')) : cl_I l g mX9_over (d + 1) x [.ref a0, .int i1, .int i2] h K := rX9_over_0 H
def zX9_linked_51 (l : Launch) (g : am_G) (d : Nat) (x : Bool) (a0 : Nat) (i1 : Int32) (i2 : Int32) (i3 : Int32) (i4 : Int32) (h : am_H) (Q : Option Value → am_H → Prop) : Prop := am_J l g mX9_linked (d + 1) (0, 0, x) 10 [(0, .ref a0), (1, .int i1), (2, .int i2), (3, .int i3), (4, .int (i4 + 1))] [] h Q
set_option maxRecDepth 4000 in
theorem rX9_linked_51 {l : Launch} {g : am_G} {d : Nat} {x : Bool} {a0 : Nat} {i1 : Int32} {i2 : Int32} {i3 : Int32} {i4 : Int32} {h : am_H} {Q : Option Value → am_H → Prop} (H : zX9_linked_51 l g d x a0 i1 i2 i3 i4 h Q) : am_J l g mX9_linked (d + 1) (0, 0, x) 51 [(0, .ref a0), (1, .int i1), (2, .int i2), (3, .int i3), (4, .int i4)] [] h Q := by
  unfold zX9_linked_51 at H
  refine J_iinc (v := (i4 + 1)) (L' := [(4, .int (i4 + 1)), (0, .ref a0), (1, .int i1), (2, .int i2), (3, .int i3)]) dX9_linked_51 4 rfl rfl (by decide) rfl ?_
  refine J_goto (tgt := 10) dX9_linked_54 (by decide) ?_
  exact J_pick [1, 2, 3, 4, 0] rfl H
def zX9_linked_10 (l : Launch) (g : am_G) (d : Nat) (x : Bool) (a0 : Nat) (i1 : Int32) (i2 : Int32) (i3 : Int32) (i4 : Int32) (h : am_H) (Q : Option Value → am_H → Prop) : Prop := gt_I h a0 9 21 (fun v1 => ((v1 ≤ i4 → Q (some (.int (-1))) h) ∧ (¬ v1 ≤ i4 → cv_I l g mX9_isRing d x 9 a0 [.int i1] h (fun v3 h2 => ((v3 = 0 → Q (some (.int (-1))) h2) ∧ (¬ v3 = 0 → ((i2 < 0 → Q (some (.int (-1))) h2) ∧ (¬ i2 < 0 → cv_I l g mX9_areLinked d x 9 a0 [.int i1, .int i4] h2 (fun v5 h4 => ((v5 = 0 → zX9_linked_51 l g d x a0 i1 i2 i3 i4  h4 Q) ∧ (¬ v5 = 0 → ((¬ i3 = 0 → zX9_linked_51 l g d x a0 i1 i2 (i3 + (-1)) i4  h4 Q) ∧ (i3 = 0 → Q (some (.int i4)) h4)))))))))))))
set_option maxRecDepth 4000 in
theorem rX9_linked_10 {l : Launch} {g : am_G} {d : Nat} {x : Bool} {a0 : Nat} {i1 : Int32} {i2 : Int32} {i3 : Int32} {i4 : Int32} {h : am_H} {Q : Option Value → am_H → Prop} (H : zX9_linked_10 l g d x a0 i1 i2 i3 i4 h Q) : am_J l g mX9_linked (d + 1) (0, 0, x) 10 [(0, .ref a0), (1, .int i1), (2, .int i2), (3, .int i3), (4, .int i4)] [] h Q := by
  unfold zX9_linked_10 at H
  refine J_iload dX9_linked_10 4 rfl ?_
  refine J_aload_n dX9_linked_12 0 rfl ?_
  obtain ⟨fs, v1, hh, hk, H⟩ := H
  refine J_get dX9_linked_13 fX9_201 hh hk ?_
  clear hh hk
  obtain ⟨H1, H2⟩ := H
  refine J_icmp_ge (tgt := 57) dX9_linked_16 (by decide) (fun hc => ?_) (fun hc => ?_)
  · replace H := H1 hc
    clear H1 H2
    refine J_iconst (v := (-1)) dX9_linked_57 (by decide) ?_
    exact J_iret dX9_linked_58 ⟨_, rfl, rfl⟩ ⟨Nat.le_of_ble_eq_true rfl, Nat.le_of_ble_eq_true rfl, fun _ => rfl⟩ H
  · replace H := H2 hc
    clear H1 H2
    refine J_aload_n dX9_linked_19 0 rfl ?_
    refine J_iload_n dX9_linked_20 1 rfl ?_
    obtain ⟨⟨fs, hh⟩, H⟩ := H
    refine J_callV (As := [.int i1]) (S := []) (b := a0) dX9_linked_21 mX9_isRing_ok kX9_223 rfl (by decide) (Nat.le_of_ble_eq_true rfl) hh rfl rfl (Nat.le_of_ble_eq_true rfl) ⟨Nat.le_of_ble_eq_true rfl, Nat.le_of_ble_eq_true rfl⟩ (fun k h' hp => ?_) H (fun r h2 hp => ?_)
    · obtain ⟨_, hv, -⟩ := hp; cases hv
    obtain ⟨v3, rfl, H⟩ := hp
    show am_J l g mX9_linked (d + 1) (0, 0, x) 24 [(0, .ref a0), (1, .int i1), (2, .int i2), (3, .int i3), (4, .int i4)] [.int v3] h2 Q
    obtain ⟨H1, H2⟩ := H
    refine J_if_eq (tgt := 57) dX9_linked_24 (by decide) (fun hc => ?_) (fun hc => ?_)
    · replace H := H1 hc
      clear H1 H2
      refine J_iconst (v := (-1)) dX9_linked_57 (by decide) ?_
      exact J_iret dX9_linked_58 ⟨_, rfl, rfl⟩ ⟨Nat.le_of_ble_eq_true rfl, Nat.le_of_ble_eq_true rfl, fun _ => rfl⟩ H
    · replace H := H2 hc
      clear H1 H2
      refine J_iload_n dX9_linked_27 2 rfl ?_
      obtain ⟨H1, H2⟩ := H
      refine J_if_lt (tgt := 57) dX9_linked_28 (by decide) (fun hc => ?_) (fun hc => ?_)
      · replace H := H1 hc
        clear H1 H2
        refine J_iconst (v := (-1)) dX9_linked_57 (by decide) ?_
        exact J_iret dX9_linked_58 ⟨_, rfl, rfl⟩ ⟨Nat.le_of_ble_eq_true rfl, Nat.le_of_ble_eq_true rfl, fun _ => rfl⟩ H
      · replace H := H2 hc
        clear H1 H2
        refine J_aload_n dX9_linked_31 0 rfl ?_
        refine J_iload_n dX9_linked_32 1 rfl ?_
        refine J_iload dX9_linked_33 4 rfl ?_
        obtain ⟨⟨fs, hh⟩, H⟩ := H
        refine J_callV (As := [.int i1, .int i4]) (S := []) (b := a0) dX9_linked_35 mX9_areLinked_ok kX9_229 rfl (by decide) (Nat.le_of_ble_eq_true rfl) hh rfl rfl (Nat.le_of_ble_eq_true rfl) ⟨Nat.le_of_ble_eq_true rfl, Nat.le_of_ble_eq_true rfl⟩ (fun k h' hp => ?_) H (fun r h4 hp => ?_)
        · obtain ⟨_, hv, -⟩ := hp; cases hv
        obtain ⟨v5, rfl, H⟩ := hp
        show am_J l g mX9_linked (d + 1) (0, 0, x) 38 [(0, .ref a0), (1, .int i1), (2, .int i2), (3, .int i3), (4, .int i4)] [.int v5] h4 Q
        obtain ⟨H1, H2⟩ := H
        refine J_if_eq (tgt := 51) dX9_linked_38 (by decide) (fun hc => ?_) (fun hc => ?_)
        · replace H := H1 hc
          clear H1 H2
          exact J_pick [0, 1, 2, 3, 4] rfl (rX9_linked_51 H)
        · replace H := H2 hc
          clear H1 H2
          refine J_iload_n dX9_linked_41 3 rfl ?_
          obtain ⟨H1, H2⟩ := H
          refine J_if_ne (tgt := 48) dX9_linked_42 (by decide) (fun hc => ?_) (fun hc => ?_)
          · replace H := H1 hc
            clear H1 H2
            refine J_iinc (v := (i3 + (-1))) (L' := [(3, .int (i3 + (-1))), (0, .ref a0), (1, .int i1), (2, .int i2), (4, .int i4)]) dX9_linked_48 3 rfl rfl (by decide) rfl ?_
            exact J_pick [1, 2, 3, 0, 4] rfl (rX9_linked_51 H)
          · replace H := H2 hc
            clear H1 H2
            refine J_iload dX9_linked_45 4 rfl ?_
            exact J_iret dX9_linked_47 ⟨_, rfl, rfl⟩ ⟨Nat.le_of_ble_eq_true rfl, Nat.le_of_ble_eq_true rfl, fun _ => rfl⟩ H
def zX9_linked_0 (l : Launch) (g : am_G) (d : Nat) (x : Bool) (a0 : Nat) (i1 : Int32) (i2 : Int32) (h : am_H) (Q : Option Value → am_H → Prop) : Prop := pt_V h a0 9 0 (.int 0) (fun h1 => am_J l g mX9_linked (d + 1) (0, 0, x) 10 [(0, .ref a0), (1, .int i1), (2, .int i2), (3, .int i2), (4, .int 0)] [] h1 Q)
set_option maxRecDepth 4000 in
theorem rX9_linked_0 {l : Launch} {g : am_G} {d : Nat} {x : Bool} {a0 : Nat} {i1 : Int32} {i2 : Int32} {h : am_H} {Q : Option Value → am_H → Prop} (H : zX9_linked_0 l g d x a0 i1 i2 h Q) : am_J l g mX9_linked (d + 1) (0, 0, x) 0 [(0, .ref a0), (1, .int i1), (2, .int i2)] [] h Q := by
  unfold zX9_linked_0 at H
  refine J_aload_n dX9_linked_0 0 rfl ?_
  refine J_iconst (v := 0) dX9_linked_1 (by decide) ?_
  obtain ⟨fs, hh, hk, H⟩ := H
  refine J_put dX9_linked_2 fX9_1 rfl rfl hh hk ?_
  generalize List.set h a0 (am_O 9 (List.set fs 0 (.int 0))) = h1 at H ⊢
  clear hh hk
  refine J_iload_n dX9_linked_5 2 rfl ?_
  refine J_istore_n (L' := [(3, .int i2), (0, .ref a0), (1, .int i1), (2, .int i2)]) dX9_linked_6 (by decide) rfl ?_
  refine J_iconst (v := 0) dX9_linked_7 (by decide) ?_
  refine J_istore (L' := [(4, .int 0), (3, .int i2), (0, .ref a0), (1, .int i1), (2, .int i2)]) dX9_linked_8 (by decide) rfl ?_
  exact J_pick [2, 3, 4, 1, 0] rfl H
theorem eX9_linked {l : Launch} {g : am_G} {d : Nat} {x : Bool} {a0 : Nat} {i1 : Int32} {i2 : Int32} {h : am_H} {K : Int32 → am_H → Prop} (H : zX9_linked_0 l g d x a0 i1 i2 h (fun r h' => ∃ v, r = some (.int v) ∧ K v h')) : cl_I l g mX9_linked (d + 1) x [.ref a0, .int i1, .int i2] h K := rX9_linked_0 H
def zX9_there_27 (l : Launch) (g : am_G) (d : Nat) (x : Bool) (a0 : Nat) (i2 : Int32) (s0 : Int32) (s1 : Int32) (h : am_H) (Q : Option Value → am_H → Prop) : Prop := am_J l g mX9_there d (0, 0, x) 4 [(0, .ref a0), (1, .int (s0 + s1)), (2, .int (i2 + 1))] [] h Q
set_option maxRecDepth 4000 in
theorem rX9_there_27 {l : Launch} {g : am_G} {d : Nat} {x : Bool} {a0 : Nat} {i2 : Int32} {s0 : Int32} {s1 : Int32} {h : am_H} {Q : Option Value → am_H → Prop} (H : zX9_there_27 l g d x a0 i2 s0 s1 h Q) : am_J l g mX9_there d (0, 0, x) 27 [(0, .ref a0), (2, .int i2)] [.int s1, .int s0] h Q := by
  unfold zX9_there_27 at H
  refine J_iadd dX9_there_27 ?_
  refine J_istore_n (L' := [(1, .int (s0 + s1)), (0, .ref a0), (2, .int i2)]) dX9_there_28 (by decide) rfl ?_
  refine J_iinc (v := (i2 + 1)) (L' := [(2, .int (i2 + 1)), (1, .int (s0 + s1)), (0, .ref a0)]) dX9_there_29 2 rfl rfl (by decide) rfl ?_
  refine J_goto (tgt := 4) dX9_there_32 (by decide) ?_
  exact J_pick [2, 1, 0] rfl H
def zX9_there_4 (l : Launch) (g : am_G) (d : Nat) (x : Bool) (a0 : Nat) (i1 : Int32) (i2 : Int32) (h : am_H) (Q : Option Value → am_H → Prop) : Prop := gt_I h a0 9 21 (fun v1 => ((v1 ≤ i2 → Q (some (.int i1)) h) ∧ (¬ v1 ≤ i2 → gt_R h a0 9 22 (fun v2 => al_I 2 h v2 i2 (fun v3 => ((v3 = 0 → zX9_there_27 l g d x a0 i2 i1 0 h Q) ∧ (¬ v3 = 0 → zX9_there_27 l g d x a0 i2 i1 1 h Q)))))))
set_option maxRecDepth 4000 in
theorem rX9_there_4 {l : Launch} {g : am_G} {d : Nat} {x : Bool} {a0 : Nat} {i1 : Int32} {i2 : Int32} {h : am_H} {Q : Option Value → am_H → Prop} (H : zX9_there_4 l g d x a0 i1 i2 h Q) : am_J l g mX9_there d (0, 0, x) 4 [(0, .ref a0), (1, .int i1), (2, .int i2)] [] h Q := by
  unfold zX9_there_4 at H
  refine J_iload_n dX9_there_4 2 rfl ?_
  refine J_aload_n dX9_there_5 0 rfl ?_
  obtain ⟨fs, v1, hh, hk, H⟩ := H
  refine J_get dX9_there_6 fX9_201 hh hk ?_
  clear hh hk
  obtain ⟨H1, H2⟩ := H
  refine J_icmp_ge (tgt := 35) dX9_there_9 (by decide) (fun hc => ?_) (fun hc => ?_)
  · replace H := H1 hc
    clear H1 H2
    refine J_iload_n dX9_there_35 1 rfl ?_
    exact J_iret dX9_there_36 ⟨_, rfl, rfl⟩ ⟨Nat.le_of_ble_eq_true rfl, Nat.le_of_ble_eq_true rfl, fun _ => rfl⟩ H
  · replace H := H2 hc
    clear H1 H2
    refine J_iload_n dX9_there_12 1 rfl ?_
    refine J_aload_n dX9_there_13 0 rfl ?_
    obtain ⟨fs, v2, hh, hk, H⟩ := H
    refine J_get dX9_there_14 fX9_70 hh hk ?_
    clear hh hk
    refine J_iload_n dX9_there_17 2 rfl ?_
    obtain ⟨nn, ff, hh, hk, H⟩ := H
    refine J_zald dX9_there_18 hh hk ?_
    generalize ff (Int32.toNatClampNeg i2) = v3 at H ⊢
    clear hh hk ff
    obtain ⟨H1, H2⟩ := H
    refine J_if_eq (tgt := 26) dX9_there_19 (by decide) (fun hc => ?_) (fun hc => ?_)
    · replace H := H1 hc
      clear H1 H2
      refine J_iconst (v := 0) dX9_there_26 (by decide) ?_
      exact J_pick [0, 2] rfl (rX9_there_27 H)
    · replace H := H2 hc
      clear H1 H2
      refine J_iconst (v := 1) dX9_there_22 (by decide) ?_
      refine J_goto (tgt := 27) dX9_there_23 (by decide) ?_
      exact J_pick [0, 2] rfl (rX9_there_27 H)
def zX9_there_0 (l : Launch) (g : am_G) (d : Nat) (x : Bool) (a0 : Nat) (h : am_H) (Q : Option Value → am_H → Prop) : Prop := am_J l g mX9_there d (0, 0, x) 4 [(0, .ref a0), (1, .int 0), (2, .int 0)] [] h Q
set_option maxRecDepth 4000 in
theorem rX9_there_0 {l : Launch} {g : am_G} {d : Nat} {x : Bool} {a0 : Nat} {h : am_H} {Q : Option Value → am_H → Prop} (H : zX9_there_0 l g d x a0 h Q) : am_J l g mX9_there d (0, 0, x) 0 [(0, .ref a0)] [] h Q := by
  unfold zX9_there_0 at H
  refine J_iconst (v := 0) dX9_there_0 (by decide) ?_
  refine J_istore_n (L' := [(1, .int 0), (0, .ref a0)]) dX9_there_1 (by decide) rfl ?_
  refine J_iconst (v := 0) dX9_there_2 (by decide) ?_
  refine J_istore_n (L' := [(2, .int 0), (1, .int 0), (0, .ref a0)]) dX9_there_3 (by decide) rfl ?_
  exact J_pick [2, 1, 0] rfl H
theorem eX9_there {l : Launch} {g : am_G} {d : Nat} {x : Bool} {a0 : Nat} {h : am_H} {K : Int32 → am_H → Prop} (H : zX9_there_0 l g d x a0 h (fun r h' => ∃ v, r = some (.int v) ∧ K v h')) : cl_I l g mX9_there d x [.ref a0] h K := rX9_there_0 H
def zX9_sum_119 (l : Launch) (g : am_G) (d : Nat) (x : Bool) (a0 : Nat) (i1 : Int32) (i2 : Int32) (i3 : Int32) (i4 : Int32) (h : am_H) (Q : Option Value → am_H → Prop) : Prop := am_J l g mX9_sum (d + 1) (0, 0, x) 24 [(0, .ref a0), (1, .int i1), (2, .int i2), (3, .int i3), (4, .int (i4 + 1))] [] h Q
set_option maxRecDepth 4000 in
theorem rX9_sum_119 {l : Launch} {g : am_G} {d : Nat} {x : Bool} {a0 : Nat} {i1 : Int32} {i2 : Int32} {i3 : Int32} {i4 : Int32} {h : am_H} {Q : Option Value → am_H → Prop} (H : zX9_sum_119 l g d x a0 i1 i2 i3 i4 h Q) : am_J l g mX9_sum (d + 1) (0, 0, x) 119 [(0, .ref a0), (1, .int i1), (2, .int i2), (3, .int i3), (4, .int i4)] [] h Q := by
  unfold zX9_sum_119 at H
  refine J_iinc (v := (i4 + 1)) (L' := [(4, .int (i4 + 1)), (0, .ref a0), (1, .int i1), (2, .int i2), (3, .int i3)]) dX9_sum_119 4 rfl rfl (by decide) rfl ?_
  refine J_goto (tgt := 24) dX9_sum_122 (by decide) ?_
  exact J_pick [1, 2, 3, 4, 0] rfl H
def zX9_sum_117 (l : Launch) (g : am_G) (d : Nat) (x : Bool) (a0 : Nat) (i1 : Int32) (i3 : Int32) (i4 : Int32) (s0 : Int32) (s1 : Int32) (h : am_H) (Q : Option Value → am_H → Prop) : Prop := zX9_sum_119 l g d x a0 i1 (s0 + s1) i3 i4  h Q
set_option maxRecDepth 4000 in
theorem rX9_sum_117 {l : Launch} {g : am_G} {d : Nat} {x : Bool} {a0 : Nat} {i1 : Int32} {i3 : Int32} {i4 : Int32} {s0 : Int32} {s1 : Int32} {h : am_H} {Q : Option Value → am_H → Prop} (H : zX9_sum_117 l g d x a0 i1 i3 i4 s0 s1 h Q) : am_J l g mX9_sum (d + 1) (0, 0, x) 117 [(0, .ref a0), (1, .int i1), (3, .int i3), (4, .int i4)] [.int s1, .int s0] h Q := by
  unfold zX9_sum_117 at H
  refine J_iadd dX9_sum_117 ?_
  refine J_istore_n (L' := [(2, .int (s0 + s1)), (0, .ref a0), (1, .int i1), (3, .int i3), (4, .int i4)]) dX9_sum_118 (by decide) rfl ?_
  exact J_pick [1, 2, 0, 3, 4] rfl (rX9_sum_119 H)
def zX9_sum_24 (l : Launch) (g : am_G) (d : Nat) (x : Bool) (a0 : Nat) (i1 : Int32) (i2 : Int32) (i3 : Int32) (i4 : Int32) (h : am_H) (Q : Option Value → am_H → Prop) : Prop := gt_I h a0 9 21 (fun v1 => ((v1 ≤ i4 → Q (some (.int i2)) h) ∧ (¬ v1 ≤ i4 → gt_R h a0 9 22 (fun v2 => al_I 2 h v2 i4 (fun v3 => ((v3 = 0 → zX9_sum_119 l g d x a0 i1 i2 i3 i4  h Q) ∧ (¬ v3 = 0 → ((¬ i1 = 1 → ((¬ i1 = 3 → ((¬ i1 = 4 → cv_I l g mX9_isCut d x 9 a0 [.int i4, .int i3] h (fun v5 h4 => ((v5 = 0 → zX9_sum_117 l g d x a0 i1 i3 i4 i2 0 h4 Q) ∧ (¬ v5 = 0 → zX9_sum_117 l g d x a0 i1 i3 i4 i2 1 h4 Q)))) ∧ (i1 = 4 → cv_I l g mX9_binds d x 9 a0 [.int i4] h (fun v7 h6 => ((v7 = 0 → zX9_sum_117 l g d x a0 i1 i3 i4 i2 0 h6 Q) ∧ (¬ v7 = 0 → zX9_sum_117 l g d x a0 i1 i3 i4 i2 1 h6 Q)))))) ∧ (i1 = 3 → cv_I l g mX9_isFull d x 9 a0 [.int i4] h (fun v9 h8 => ((v9 = 0 → zX9_sum_117 l g d x a0 i1 i3 i4 i2 0 h8 Q) ∧ (¬ v9 = 0 → zX9_sum_117 l g d x a0 i1 i3 i4 i2 1 h8 Q)))))) ∧ (i1 = 1 → cv_I l g mX9_linksOf d x 9 a0 [.int i4] h (fun v11 h10 => zX9_sum_117 l g d x a0 i1 i3 i4 i2 v11 h10 Q))))))))))
set_option maxRecDepth 4000 in
theorem rX9_sum_24 {l : Launch} {g : am_G} {d : Nat} {x : Bool} {a0 : Nat} {i1 : Int32} {i2 : Int32} {i3 : Int32} {i4 : Int32} {h : am_H} {Q : Option Value → am_H → Prop} (H : zX9_sum_24 l g d x a0 i1 i2 i3 i4 h Q) : am_J l g mX9_sum (d + 1) (0, 0, x) 24 [(0, .ref a0), (1, .int i1), (2, .int i2), (3, .int i3), (4, .int i4)] [] h Q := by
  unfold zX9_sum_24 at H
  refine J_iload dX9_sum_24 4 rfl ?_
  refine J_aload_n dX9_sum_26 0 rfl ?_
  obtain ⟨fs, v1, hh, hk, H⟩ := H
  refine J_get dX9_sum_27 fX9_201 hh hk ?_
  clear hh hk
  obtain ⟨H1, H2⟩ := H
  refine J_icmp_ge (tgt := 125) dX9_sum_30 (by decide) (fun hc => ?_) (fun hc => ?_)
  · replace H := H1 hc
    clear H1 H2
    refine J_iload_n dX9_sum_125 2 rfl ?_
    exact J_iret dX9_sum_126 ⟨_, rfl, rfl⟩ ⟨Nat.le_of_ble_eq_true rfl, Nat.le_of_ble_eq_true rfl, fun _ => rfl⟩ H
  · replace H := H2 hc
    clear H1 H2
    refine J_aload_n dX9_sum_33 0 rfl ?_
    obtain ⟨fs, v2, hh, hk, H⟩ := H
    refine J_get dX9_sum_34 fX9_70 hh hk ?_
    clear hh hk
    refine J_iload dX9_sum_37 4 rfl ?_
    obtain ⟨nn, ff, hh, hk, H⟩ := H
    refine J_zald dX9_sum_39 hh hk ?_
    generalize ff (Int32.toNatClampNeg i4) = v3 at H ⊢
    clear hh hk ff
    obtain ⟨H1, H2⟩ := H
    refine J_if_eq (tgt := 119) dX9_sum_40 (by decide) (fun hc => ?_) (fun hc => ?_)
    · replace H := H1 hc
      clear H1 H2
      exact J_pick [0, 1, 2, 3, 4] rfl (rX9_sum_119 H)
    · replace H := H2 hc
      clear H1 H2
      refine J_iload_n dX9_sum_43 2 rfl ?_
      refine J_iload_n dX9_sum_44 1 rfl ?_
      refine J_iconst (v := 1) dX9_sum_45 (by decide) ?_
      obtain ⟨H1, H2⟩ := H
      refine J_icmp_ne (tgt := 58) dX9_sum_46 (by decide) (fun hc => ?_) (fun hc => ?_)
      · replace H := H1 hc
        clear H1 H2
        refine J_iload_n dX9_sum_58 1 rfl ?_
        refine J_iconst (v := 3) dX9_sum_59 (by decide) ?_
        obtain ⟨H1, H2⟩ := H
        refine J_icmp_ne (tgt := 80) dX9_sum_60 (by decide) (fun hc => ?_) (fun hc => ?_)
        · replace H := H1 hc
          clear H1 H2
          refine J_iload_n dX9_sum_80 1 rfl ?_
          refine J_iconst (v := 4) dX9_sum_81 (by decide) ?_
          obtain ⟨H1, H2⟩ := H
          refine J_icmp_ne (tgt := 102) dX9_sum_82 (by decide) (fun hc => ?_) (fun hc => ?_)
          · replace H := H1 hc
            clear H1 H2
            refine J_aload_n dX9_sum_102 0 rfl ?_
            refine J_iload dX9_sum_103 4 rfl ?_
            refine J_iload_n dX9_sum_105 3 rfl ?_
            obtain ⟨⟨fs, hh⟩, H⟩ := H
            refine J_callV (As := [.int i4, .int i3]) (S := [.int i2]) (b := a0) dX9_sum_106 mX9_isCut_ok kX9_269 rfl (by decide) (Nat.le_of_ble_eq_true rfl) hh rfl rfl (Nat.le_of_ble_eq_true rfl) ⟨Nat.le_of_ble_eq_true rfl, Nat.le_of_ble_eq_true rfl⟩ (fun k h' hp => ?_) H (fun r h4 hp => ?_)
            · obtain ⟨_, hv, -⟩ := hp; cases hv
            obtain ⟨v5, rfl, H⟩ := hp
            show am_J l g mX9_sum (d + 1) (0, 0, x) 109 [(0, .ref a0), (1, .int i1), (2, .int i2), (3, .int i3), (4, .int i4)] [.int v5, .int i2] h4 Q
            obtain ⟨H1, H2⟩ := H
            refine J_if_eq (tgt := 116) dX9_sum_109 (by decide) (fun hc => ?_) (fun hc => ?_)
            · replace H := H1 hc
              clear H1 H2
              refine J_iconst (v := 0) dX9_sum_116 (by decide) ?_
              exact J_pick [0, 1, 3, 4] rfl (rX9_sum_117 H)
            · replace H := H2 hc
              clear H1 H2
              refine J_iconst (v := 1) dX9_sum_112 (by decide) ?_
              refine J_goto (tgt := 117) dX9_sum_113 (by decide) ?_
              exact J_pick [0, 1, 3, 4] rfl (rX9_sum_117 H)
          · replace H := H2 hc
            clear H1 H2
            refine J_aload_n dX9_sum_85 0 rfl ?_
            refine J_iload dX9_sum_86 4 rfl ?_
            obtain ⟨⟨fs, hh⟩, H⟩ := H
            refine J_callV (As := [.int i4]) (S := [.int i2]) (b := a0) dX9_sum_88 mX9_binds_ok kX9_266 rfl (by decide) (Nat.le_of_ble_eq_true rfl) hh rfl rfl (Nat.le_of_ble_eq_true rfl) ⟨Nat.le_of_ble_eq_true rfl, Nat.le_of_ble_eq_true rfl⟩ (fun k h' hp => ?_) H (fun r h6 hp => ?_)
            · obtain ⟨_, hv, -⟩ := hp; cases hv
            obtain ⟨v7, rfl, H⟩ := hp
            show am_J l g mX9_sum (d + 1) (0, 0, x) 91 [(0, .ref a0), (1, .int i1), (2, .int i2), (3, .int i3), (4, .int i4)] [.int v7, .int i2] h6 Q
            obtain ⟨H1, H2⟩ := H
            refine J_if_eq (tgt := 98) dX9_sum_91 (by decide) (fun hc => ?_) (fun hc => ?_)
            · replace H := H1 hc
              clear H1 H2
              refine J_iconst (v := 0) dX9_sum_98 (by decide) ?_
              refine J_goto (tgt := 117) dX9_sum_99 (by decide) ?_
              exact J_pick [0, 1, 3, 4] rfl (rX9_sum_117 H)
            · replace H := H2 hc
              clear H1 H2
              refine J_iconst (v := 1) dX9_sum_94 (by decide) ?_
              refine J_goto (tgt := 117) dX9_sum_95 (by decide) ?_
              exact J_pick [0, 1, 3, 4] rfl (rX9_sum_117 H)
        · replace H := H2 hc
          clear H1 H2
          refine J_aload_n dX9_sum_63 0 rfl ?_
          refine J_iload dX9_sum_64 4 rfl ?_
          obtain ⟨⟨fs, hh⟩, H⟩ := H
          refine J_callV (As := [.int i4]) (S := [.int i2]) (b := a0) dX9_sum_66 mX9_isFull_ok kX9_263 rfl (by decide) (Nat.le_of_ble_eq_true rfl) hh rfl rfl (Nat.le_of_ble_eq_true rfl) ⟨Nat.le_of_ble_eq_true rfl, Nat.le_of_ble_eq_true rfl⟩ (fun k h' hp => ?_) H (fun r h8 hp => ?_)
          · obtain ⟨_, hv, -⟩ := hp; cases hv
          obtain ⟨v9, rfl, H⟩ := hp
          show am_J l g mX9_sum (d + 1) (0, 0, x) 69 [(0, .ref a0), (1, .int i1), (2, .int i2), (3, .int i3), (4, .int i4)] [.int v9, .int i2] h8 Q
          obtain ⟨H1, H2⟩ := H
          refine J_if_eq (tgt := 76) dX9_sum_69 (by decide) (fun hc => ?_) (fun hc => ?_)
          · replace H := H1 hc
            clear H1 H2
            refine J_iconst (v := 0) dX9_sum_76 (by decide) ?_
            refine J_goto (tgt := 117) dX9_sum_77 (by decide) ?_
            exact J_pick [0, 1, 3, 4] rfl (rX9_sum_117 H)
          · replace H := H2 hc
            clear H1 H2
            refine J_iconst (v := 1) dX9_sum_72 (by decide) ?_
            refine J_goto (tgt := 117) dX9_sum_73 (by decide) ?_
            exact J_pick [0, 1, 3, 4] rfl (rX9_sum_117 H)
      · replace H := H2 hc
        clear H1 H2
        refine J_aload_n dX9_sum_49 0 rfl ?_
        refine J_iload dX9_sum_50 4 rfl ?_
        obtain ⟨⟨fs, hh⟩, H⟩ := H
        refine J_callV (As := [.int i4]) (S := [.int i2]) (b := a0) dX9_sum_52 mX9_linksOf_ok kX9_226 rfl (by decide) (Nat.le_of_ble_eq_true rfl) hh rfl rfl (Nat.le_of_ble_eq_true rfl) ⟨Nat.le_of_ble_eq_true rfl, Nat.le_of_ble_eq_true rfl⟩ (fun k h' hp => ?_) H (fun r h10 hp => ?_)
        · obtain ⟨_, hv, -⟩ := hp; cases hv
        obtain ⟨v11, rfl, H⟩ := hp
        show am_J l g mX9_sum (d + 1) (0, 0, x) 55 [(0, .ref a0), (1, .int i1), (2, .int i2), (3, .int i3), (4, .int i4)] [.int v11, .int i2] h10 Q
        refine J_goto (tgt := 117) dX9_sum_55 (by decide) ?_
        exact J_pick [0, 1, 3, 4] rfl (rX9_sum_117 H)
def zX9_sum_20 (l : Launch) (g : am_G) (d : Nat) (x : Bool) (a0 : Nat) (i1 : Int32) (i2 : Int32) (s0 : Int32) (h : am_H) (Q : Option Value → am_H → Prop) : Prop := am_J l g mX9_sum (d + 1) (0, 0, x) 24 [(0, .ref a0), (1, .int i1), (2, .int i2), (3, .int s0), (4, .int 0)] [] h Q
set_option maxRecDepth 4000 in
theorem rX9_sum_20 {l : Launch} {g : am_G} {d : Nat} {x : Bool} {a0 : Nat} {i1 : Int32} {i2 : Int32} {s0 : Int32} {h : am_H} {Q : Option Value → am_H → Prop} (H : zX9_sum_20 l g d x a0 i1 i2 s0 h Q) : am_J l g mX9_sum (d + 1) (0, 0, x) 20 [(0, .ref a0), (1, .int i1), (2, .int i2)] [.int s0] h Q := by
  unfold zX9_sum_20 at H
  refine J_istore_n (L' := [(3, .int s0), (0, .ref a0), (1, .int i1), (2, .int i2)]) dX9_sum_20 (by decide) rfl ?_
  refine J_iconst (v := 0) dX9_sum_21 (by decide) ?_
  refine J_istore (L' := [(4, .int 0), (3, .int s0), (0, .ref a0), (1, .int i1), (2, .int i2)]) dX9_sum_22 (by decide) rfl ?_
  exact J_pick [2, 3, 4, 1, 0] rfl H
def zX9_sum_0 (l : Launch) (g : am_G) (d : Nat) (x : Bool) (a0 : Nat) (i1 : Int32) (h : am_H) (Q : Option Value → am_H → Prop) : Prop := cv_N l g mX9_findNear d x 9 a0 [] h (fun h1 => ((¬ i1 = 5 → zX9_sum_20 l g d x a0 i1 0 0 h1 Q) ∧ (i1 = 5 → cv_I l g mX9_findPieces d x 9 a0 [.int (-1)] h1 (fun v4 h3 => zX9_sum_20 l g d x a0 i1 0 v4 h3 Q))))
set_option maxRecDepth 4000 in
theorem rX9_sum_0 {l : Launch} {g : am_G} {d : Nat} {x : Bool} {a0 : Nat} {i1 : Int32} {h : am_H} {Q : Option Value → am_H → Prop} (H : zX9_sum_0 l g d x a0 i1 h Q) : am_J l g mX9_sum (d + 1) (0, 0, x) 0 [(0, .ref a0), (1, .int i1)] [] h Q := by
  unfold zX9_sum_0 at H
  refine J_iconst (v := 0) dX9_sum_0 (by decide) ?_
  refine J_istore_n (L' := [(2, .int 0), (0, .ref a0), (1, .int i1)]) dX9_sum_1 (by decide) rfl ?_
  refine J_aload_n dX9_sum_2 1 rfl ?_
  obtain ⟨⟨fs, hh⟩, H⟩ := H
  refine J_callV (As := []) (S := []) (b := a0) dX9_sum_3 mX9_findNear_ok kX9_242 rfl (by decide) (Nat.le_of_ble_eq_true rfl) hh rfl rfl (Nat.le_of_ble_eq_true rfl) ⟨Nat.le_of_ble_eq_true rfl, Nat.le_of_ble_eq_true rfl⟩ (fun k h' hp => ?_) H (fun r h1 hp => ?_)
  · obtain ⟨hv, -⟩ := hp; cases hv
  obtain ⟨rfl, H⟩ := hp
  show am_J l g mX9_sum (d + 1) (0, 0, x) 6 [(2, .int 0), (0, .ref a0), (1, .int i1)] [] h1 Q
  refine J_iload_n dX9_sum_6 2 rfl ?_
  refine J_iconst (v := 5) dX9_sum_7 (by decide) ?_
  obtain ⟨H1, H2⟩ := H
  refine J_icmp_ne (tgt := 19) dX9_sum_8 (by decide) (fun hc => ?_) (fun hc => ?_)
  · replace H := H1 hc
    clear H1 H2
    refine J_iconst (v := 0) dX9_sum_19 (by decide) ?_
    exact J_pick [1, 2, 0] rfl (rX9_sum_20 H)
  · replace H := H2 hc
    clear H1 H2
    refine J_aload_n dX9_sum_11 1 rfl ?_
    refine J_iconst (v := (-1)) dX9_sum_12 (by decide) ?_
    obtain ⟨⟨fs, hh⟩, H⟩ := H
    refine J_callV (As := [.int (-1)]) (S := []) (b := a0) dX9_sum_13 mX9_findPieces_ok kX9_236 rfl (by decide) (Nat.le_of_ble_eq_true rfl) hh rfl rfl (Nat.le_of_ble_eq_true rfl) ⟨Nat.le_of_ble_eq_true rfl, Nat.le_of_ble_eq_true rfl⟩ (fun k h' hp => ?_) H (fun r h3 hp => ?_)
    · obtain ⟨_, hv, -⟩ := hp; cases hv
    obtain ⟨v4, rfl, H⟩ := hp
    show am_J l g mX9_sum (d + 1) (0, 0, x) 16 [(2, .int 0), (0, .ref a0), (1, .int i1)] [.int v4] h3 Q
    refine J_goto (tgt := 20) dX9_sum_16 (by decide) ?_
    exact J_pick [1, 2, 0] rfl (rX9_sum_20 H)
theorem eX9_sum {l : Launch} {g : am_G} {d : Nat} {x : Bool} {a0 : Nat} {i1 : Int32} {h : am_H} {K : Int32 → am_H → Prop} (H : zX9_sum_0 l g d x a0 i1 h (fun r h' => ∃ v, r = some (.int v) ∧ K v h')) : cl_I l g mX9_sum (d + 1) x [.ref a0, .int i1] h K := rX9_sum_0 H
def zX9_count_0 (l : Launch) (g : am_G) (d : Nat) (x : Bool) (a0 : Nat) (i1 : Int32) (h : am_H) (Q : Option Value → am_H → Prop) : Prop := pt_V h a0 9 0 (.int 0) (fun h1 => cv_I l g mX9_there d x 9 a0 [] h1 (fun v3 h2 => gt_I h2 a0 9 36 (fun v4 => gt_I h2 a0 9 35 (fun v5 => ((Int32.toInt i1 < 0 ∨ 12 < Int32.toInt i1 → Q (some (.int (-1))) h2) ∧ (i1 = 0 → cv_I l g mX9_there d x 9 a0 [] h2 (fun v7 h6 => Q (some (.int v7)) h6)) ∧ (i1 = 1 → cv_I l g mX9_sum d x 9 a0 [.int 1] h2 (fun v9 h8 => Q (some (.int (v9 / 2))) h8)) ∧ (i1 = 2 → cv_N l g mX9_findNear d x 9 a0 [] h2 (fun h10 => cv_I l g mX9_findPieces d x 9 a0 [.int (-1)] h10 (fun v13 h12 => Q (some (.int v13)) h12))) ∧ (i1 = 3 → cv_I l g mX9_sum d x 9 a0 [.int 3] h2 (fun v15 h14 => Q (some (.int v15)) h14)) ∧ (i1 = 4 → cv_I l g mX9_sum d x 9 a0 [.int 4] h2 (fun v17 h16 => Q (some (.int v17)) h16)) ∧ (i1 = 5 → cv_I l g mX9_sum d x 9 a0 [.int 5] h2 (fun v19 h18 => Q (some (.int v19)) h18)) ∧ (i1 = 6 → Q (some (.int (v3 * (((v4 + v5) * 355) / 113)))) h2) ∧ (i1 = 7 → gt_I h2 a0 9 35 (fun v20 => gt_I h2 a0 9 35 (fun v21 => gt_I h2 a0 9 37 (fun v22 => Q (some (.int (Int64.toInt32 (((((Int32.toInt64 (v3 * (((v4 + v5) * 355) / 113))) * (Int32.toInt64 v20)) * (Int32.toInt64 v21)) * (Int32.toInt64 v22)) / 1000000)))) h2)))) ∧ (i1 = 8 → gt_I h2 a0 9 21 (fun v23 => Q (some (.int v23)) h2)) ∧ (i1 = 9 → gt_R h2 a0 9 10 (fun v24 => al_I 0 h2 v24 0 (fun v25 => Q (some (.int v25)) h2))) ∧ (i1 = 10 → gt_R h2 a0 9 12 (fun v26 => al_I 0 h2 v26 0 (fun v27 => Q (some (.int v27)) h2))) ∧ (i1 = 11 → gt_I h2 a0 9 2 (fun v28 => Q (some (.int v28)) h2)) ∧ (i1 = 12 → cv_I l g mX9_worn d x 9 a0 [] h2 (fun v30 h29 => Q (some (.int v30)) h29)))))))
set_option maxRecDepth 4000 in
theorem rX9_count_0 {l : Launch} {g : am_G} {d : Nat} {x : Bool} {a0 : Nat} {i1 : Int32} {h : am_H} {Q : Option Value → am_H → Prop} (H : zX9_count_0 l g d x a0 i1 h Q) : am_J l g mX9_count (d + 1) (0, 0, x) 0 [(0, .ref a0), (1, .int i1)] [] h Q := by
  unfold zX9_count_0 at H
  refine J_aload_n dX9_count_0 0 rfl ?_
  refine J_iconst (v := 0) dX9_count_1 (by decide) ?_
  obtain ⟨fs, hh, hk, H⟩ := H
  refine J_put dX9_count_2 fX9_1 rfl rfl hh hk ?_
  generalize List.set h a0 (am_O 9 (List.set fs 0 (.int 0))) = h1 at H ⊢
  clear hh hk
  refine J_aload_n dX9_count_5 0 rfl ?_
  obtain ⟨⟨fs, hh⟩, H⟩ := H
  refine J_callV (As := []) (S := []) (b := a0) dX9_count_6 mX9_there_ok kX9_272 rfl (by decide) (Nat.le_of_ble_eq_true rfl) hh rfl rfl (Nat.le_of_ble_eq_true rfl) ⟨Nat.le_of_ble_eq_true rfl, Nat.le_of_ble_eq_true rfl⟩ (fun k h' hp => ?_) H (fun r h2 hp => ?_)
  · obtain ⟨_, hv, -⟩ := hp; cases hv
  obtain ⟨v3, rfl, H⟩ := hp
  show am_J l g mX9_count (d + 1) (0, 0, x) 9 [(0, .ref a0), (1, .int i1)] [.int v3] h2 Q
  refine J_aload_n dX9_count_9 0 rfl ?_
  obtain ⟨fs, v4, hh, hk, H⟩ := H
  refine J_get dX9_count_10 fX9_113 hh hk ?_
  clear hh hk
  refine J_aload_n dX9_count_13 0 rfl ?_
  obtain ⟨fs, v5, hh, hk, H⟩ := H
  refine J_get dX9_count_14 fX9_110 hh hk ?_
  clear hh hk
  refine J_iadd dX9_count_17 ?_
  refine J_sipush (v := 355) dX9_count_18 (by decide) ?_
  refine J_imul dX9_count_21 ?_
  refine J_bipush (v := 113) dX9_count_22 (by decide) ?_
  refine J_idiv dX9_count_24 (by decide) ?_
  refine J_imul dX9_count_25 ?_
  refine J_istore_n (L' := [(2, .int (v3 * (((v4 + v5) * 355) / 113))), (0, .ref a0), (1, .int i1)]) dX9_count_26 (by decide) rfl ?_
  refine J_iload_n dX9_count_27 2 rfl ?_
  obtain ⟨H0, H⟩ := H
  by_cases hsw : Int32.toInt i1 < 0 ∨ 12 < Int32.toInt i1
  · replace H := H0 hsw
    refine J_tableOut (tgt := 194) dX9_count_28 hsw (by decide) ?_
    refine J_iconst (v := (-1)) dX9_count_194 (by decide) ?_
    exact J_iret dX9_count_195 ⟨_, rfl, rfl⟩ ⟨Nat.le_of_ble_eq_true rfl, Nat.le_of_ble_eq_true rfl, fun _ => rfl⟩ H
  · rcases am_sw_0_12 hsw with he | he | he | he | he | he | he | he | he | he | he | he | he
    · replace H := H.1 he
      refine J_tableIn (off := 68) (tgt := 96) dX9_count_28 (by rw [he]; decide) (by rw [he]; decide) (by rw [he]; decide) (by decide) ?_
      refine J_aload_n dX9_count_96 1 rfl ?_
      obtain ⟨⟨fs, hh⟩, H⟩ := H
      refine J_callV (As := []) (S := []) (b := a0) dX9_count_97 mX9_there_ok kX9_272 rfl (by decide) (Nat.le_of_ble_eq_true rfl) hh rfl rfl (Nat.le_of_ble_eq_true rfl) ⟨Nat.le_of_ble_eq_true rfl, Nat.le_of_ble_eq_true rfl⟩ (fun k h' hp => ?_) H (fun r h6 hp => ?_)
      · obtain ⟨_, hv, -⟩ := hp; cases hv
      obtain ⟨v7, rfl, H⟩ := hp
      show am_J l g mX9_count (d + 1) (0, 0, x) 100 [(2, .int (v3 * (((v4 + v5) * 355) / 113))), (0, .ref a0), (1, .int i1)] [.int v7] h6 Q
      exact J_iret dX9_count_100 ⟨_, rfl, rfl⟩ ⟨Nat.le_of_ble_eq_true rfl, Nat.le_of_ble_eq_true rfl, fun _ => rfl⟩ H
    · replace H := H.2.1 he
      refine J_tableIn (off := 73) (tgt := 101) dX9_count_28 (by rw [he]; decide) (by rw [he]; decide) (by rw [he]; decide) (by decide) ?_
      refine J_aload_n dX9_count_101 1 rfl ?_
      refine J_iconst (v := 1) dX9_count_102 (by decide) ?_
      obtain ⟨⟨fs, hh⟩, H⟩ := H
      refine J_callV (As := [.int 1]) (S := []) (b := a0) dX9_count_103 mX9_sum_ok kX9_275 rfl (by decide) (Nat.le_of_ble_eq_true rfl) hh rfl rfl (Nat.le_of_ble_eq_true rfl) ⟨Nat.le_of_ble_eq_true rfl, Nat.le_of_ble_eq_true rfl⟩ (fun k h' hp => ?_) H (fun r h8 hp => ?_)
      · obtain ⟨_, hv, -⟩ := hp; cases hv
      obtain ⟨v9, rfl, H⟩ := hp
      show am_J l g mX9_count (d + 1) (0, 0, x) 106 [(2, .int (v3 * (((v4 + v5) * 355) / 113))), (0, .ref a0), (1, .int i1)] [.int v9] h8 Q
      refine J_iconst (v := 2) dX9_count_106 (by decide) ?_
      refine J_idiv dX9_count_107 (by decide) ?_
      exact J_iret dX9_count_108 ⟨_, rfl, rfl⟩ ⟨Nat.le_of_ble_eq_true rfl, Nat.le_of_ble_eq_true rfl, fun _ => rfl⟩ H
    · replace H := H.2.2.1 he
      refine J_tableIn (off := 81) (tgt := 109) dX9_count_28 (by rw [he]; decide) (by rw [he]; decide) (by rw [he]; decide) (by decide) ?_
      refine J_aload_n dX9_count_109 1 rfl ?_
      obtain ⟨⟨fs, hh⟩, H⟩ := H
      refine J_callV (As := []) (S := []) (b := a0) dX9_count_110 mX9_findNear_ok kX9_242 rfl (by decide) (Nat.le_of_ble_eq_true rfl) hh rfl rfl (Nat.le_of_ble_eq_true rfl) ⟨Nat.le_of_ble_eq_true rfl, Nat.le_of_ble_eq_true rfl⟩ (fun k h' hp => ?_) H (fun r h10 hp => ?_)
      · obtain ⟨hv, -⟩ := hp; cases hv
      obtain ⟨rfl, H⟩ := hp
      show am_J l g mX9_count (d + 1) (0, 0, x) 113 [(2, .int (v3 * (((v4 + v5) * 355) / 113))), (0, .ref a0), (1, .int i1)] [] h10 Q
      refine J_aload_n dX9_count_113 1 rfl ?_
      refine J_iconst (v := (-1)) dX9_count_114 (by decide) ?_
      obtain ⟨⟨fs, hh⟩, H⟩ := H
      refine J_callV (As := [.int (-1)]) (S := []) (b := a0) dX9_count_115 mX9_findPieces_ok kX9_236 rfl (by decide) (Nat.le_of_ble_eq_true rfl) hh rfl rfl (Nat.le_of_ble_eq_true rfl) ⟨Nat.le_of_ble_eq_true rfl, Nat.le_of_ble_eq_true rfl⟩ (fun k h' hp => ?_) H (fun r h12 hp => ?_)
      · obtain ⟨_, hv, -⟩ := hp; cases hv
      obtain ⟨v13, rfl, H⟩ := hp
      show am_J l g mX9_count (d + 1) (0, 0, x) 118 [(2, .int (v3 * (((v4 + v5) * 355) / 113))), (0, .ref a0), (1, .int i1)] [.int v13] h12 Q
      exact J_iret dX9_count_118 ⟨_, rfl, rfl⟩ ⟨Nat.le_of_ble_eq_true rfl, Nat.le_of_ble_eq_true rfl, fun _ => rfl⟩ H
    · replace H := H.2.2.2.1 he
      refine J_tableIn (off := 91) (tgt := 119) dX9_count_28 (by rw [he]; decide) (by rw [he]; decide) (by rw [he]; decide) (by decide) ?_
      refine J_aload_n dX9_count_119 1 rfl ?_
      refine J_iconst (v := 3) dX9_count_120 (by decide) ?_
      obtain ⟨⟨fs, hh⟩, H⟩ := H
      refine J_callV (As := [.int 3]) (S := []) (b := a0) dX9_count_121 mX9_sum_ok kX9_275 rfl (by decide) (Nat.le_of_ble_eq_true rfl) hh rfl rfl (Nat.le_of_ble_eq_true rfl) ⟨Nat.le_of_ble_eq_true rfl, Nat.le_of_ble_eq_true rfl⟩ (fun k h' hp => ?_) H (fun r h14 hp => ?_)
      · obtain ⟨_, hv, -⟩ := hp; cases hv
      obtain ⟨v15, rfl, H⟩ := hp
      show am_J l g mX9_count (d + 1) (0, 0, x) 124 [(2, .int (v3 * (((v4 + v5) * 355) / 113))), (0, .ref a0), (1, .int i1)] [.int v15] h14 Q
      exact J_iret dX9_count_124 ⟨_, rfl, rfl⟩ ⟨Nat.le_of_ble_eq_true rfl, Nat.le_of_ble_eq_true rfl, fun _ => rfl⟩ H
    · replace H := H.2.2.2.2.1 he
      refine J_tableIn (off := 97) (tgt := 125) dX9_count_28 (by rw [he]; decide) (by rw [he]; decide) (by rw [he]; decide) (by decide) ?_
      refine J_aload_n dX9_count_125 1 rfl ?_
      refine J_iconst (v := 4) dX9_count_126 (by decide) ?_
      obtain ⟨⟨fs, hh⟩, H⟩ := H
      refine J_callV (As := [.int 4]) (S := []) (b := a0) dX9_count_127 mX9_sum_ok kX9_275 rfl (by decide) (Nat.le_of_ble_eq_true rfl) hh rfl rfl (Nat.le_of_ble_eq_true rfl) ⟨Nat.le_of_ble_eq_true rfl, Nat.le_of_ble_eq_true rfl⟩ (fun k h' hp => ?_) H (fun r h16 hp => ?_)
      · obtain ⟨_, hv, -⟩ := hp; cases hv
      obtain ⟨v17, rfl, H⟩ := hp
      show am_J l g mX9_count (d + 1) (0, 0, x) 130 [(2, .int (v3 * (((v4 + v5) * 355) / 113))), (0, .ref a0), (1, .int i1)] [.int v17] h16 Q
      exact J_iret dX9_count_130 ⟨_, rfl, rfl⟩ ⟨Nat.le_of_ble_eq_true rfl, Nat.le_of_ble_eq_true rfl, fun _ => rfl⟩ H
    · replace H := H.2.2.2.2.2.1 he
      refine J_tableIn (off := 103) (tgt := 131) dX9_count_28 (by rw [he]; decide) (by rw [he]; decide) (by rw [he]; decide) (by decide) ?_
      refine J_aload_n dX9_count_131 1 rfl ?_
      refine J_iconst (v := 5) dX9_count_132 (by decide) ?_
      obtain ⟨⟨fs, hh⟩, H⟩ := H
      refine J_callV (As := [.int 5]) (S := []) (b := a0) dX9_count_133 mX9_sum_ok kX9_275 rfl (by decide) (Nat.le_of_ble_eq_true rfl) hh rfl rfl (Nat.le_of_ble_eq_true rfl) ⟨Nat.le_of_ble_eq_true rfl, Nat.le_of_ble_eq_true rfl⟩ (fun k h' hp => ?_) H (fun r h18 hp => ?_)
      · obtain ⟨_, hv, -⟩ := hp; cases hv
      obtain ⟨v19, rfl, H⟩ := hp
      show am_J l g mX9_count (d + 1) (0, 0, x) 136 [(2, .int (v3 * (((v4 + v5) * 355) / 113))), (0, .ref a0), (1, .int i1)] [.int v19] h18 Q
      exact J_iret dX9_count_136 ⟨_, rfl, rfl⟩ ⟨Nat.le_of_ble_eq_true rfl, Nat.le_of_ble_eq_true rfl, fun _ => rfl⟩ H
    · replace H := H.2.2.2.2.2.2.1 he
      refine J_tableIn (off := 109) (tgt := 137) dX9_count_28 (by rw [he]; decide) (by rw [he]; decide) (by rw [he]; decide) (by decide) ?_
      refine J_iload_n dX9_count_137 0 rfl ?_
      exact J_iret dX9_count_138 ⟨_, rfl, rfl⟩ ⟨Nat.le_of_ble_eq_true rfl, Nat.le_of_ble_eq_true rfl, fun _ => rfl⟩ H
    · replace H := H.2.2.2.2.2.2.2.1 he
      refine J_tableIn (off := 111) (tgt := 139) dX9_count_28 (by rw [he]; decide) (by rw [he]; decide) (by rw [he]; decide) (by decide) ?_
      refine J_iload_n dX9_count_139 0 rfl ?_
      refine J_i2l dX9_count_140 ?_
      refine J_aload_n dX9_count_141 1 rfl ?_
      obtain ⟨fs, v20, hh, hk, H⟩ := H
      refine J_get dX9_count_142 fX9_110 hh hk ?_
      clear hh hk
      refine J_i2l dX9_count_145 ?_
      refine J_lmul dX9_count_146 ?_
      refine J_aload_n dX9_count_147 1 rfl ?_
      obtain ⟨fs, v21, hh, hk, H⟩ := H
      refine J_get dX9_count_148 fX9_110 hh hk ?_
      clear hh hk
      refine J_i2l dX9_count_151 ?_
      refine J_lmul dX9_count_152 ?_
      refine J_aload_n dX9_count_153 1 rfl ?_
      obtain ⟨fs, v22, hh, hk, H⟩ := H
      refine J_get dX9_count_154 fX9_116 hh hk ?_
      clear hh hk
      refine J_i2l dX9_count_157 ?_
      refine J_lmul dX9_count_158 ?_
      refine J_ldc2 (v := 1000000) dX9_count_159 qX9_278 ?_
      refine J_ldiv dX9_count_162 (by decide) ?_
      refine J_l2i dX9_count_163 ?_
      exact J_iret dX9_count_164 ⟨_, rfl, rfl⟩ ⟨Nat.le_of_ble_eq_true rfl, Nat.le_of_ble_eq_true rfl, fun _ => rfl⟩ H
    · replace H := H.2.2.2.2.2.2.2.2.1 he
      refine J_tableIn (off := 137) (tgt := 165) dX9_count_28 (by rw [he]; decide) (by rw [he]; decide) (by rw [he]; decide) (by decide) ?_
      refine J_aload_n dX9_count_165 1 rfl ?_
      obtain ⟨fs, v23, hh, hk, H⟩ := H
      refine J_get dX9_count_166 fX9_201 hh hk ?_
      clear hh hk
      exact J_iret dX9_count_169 ⟨_, rfl, rfl⟩ ⟨Nat.le_of_ble_eq_true rfl, Nat.le_of_ble_eq_true rfl, fun _ => rfl⟩ H
    · replace H := H.2.2.2.2.2.2.2.2.2.1 he
      refine J_tableIn (off := 142) (tgt := 170) dX9_count_28 (by rw [he]; decide) (by rw [he]; decide) (by rw [he]; decide) (by decide) ?_
      refine J_aload_n dX9_count_170 1 rfl ?_
      obtain ⟨fs, v24, hh, hk, H⟩ := H
      refine J_get dX9_count_171 fX9_45 hh hk ?_
      clear hh hk
      refine J_iconst (v := 0) dX9_count_174 (by decide) ?_
      obtain ⟨nn, ff, hh, hk, H⟩ := H
      refine J_iald dX9_count_175 hh hk ?_
      generalize ff (Int32.toNatClampNeg 0) = v25 at H ⊢
      clear hh hk ff
      exact J_iret dX9_count_176 ⟨_, rfl, rfl⟩ ⟨Nat.le_of_ble_eq_true rfl, Nat.le_of_ble_eq_true rfl, fun _ => rfl⟩ H
    · replace H := H.2.2.2.2.2.2.2.2.2.2.1 he
      refine J_tableIn (off := 149) (tgt := 177) dX9_count_28 (by rw [he]; decide) (by rw [he]; decide) (by rw [he]; decide) (by decide) ?_
      refine J_aload_n dX9_count_177 1 rfl ?_
      obtain ⟨fs, v26, hh, hk, H⟩ := H
      refine J_get dX9_count_178 fX9_51 hh hk ?_
      clear hh hk
      refine J_iconst (v := 0) dX9_count_181 (by decide) ?_
      obtain ⟨nn, ff, hh, hk, H⟩ := H
      refine J_iald dX9_count_182 hh hk ?_
      generalize ff (Int32.toNatClampNeg 0) = v27 at H ⊢
      clear hh hk ff
      exact J_iret dX9_count_183 ⟨_, rfl, rfl⟩ ⟨Nat.le_of_ble_eq_true rfl, Nat.le_of_ble_eq_true rfl, fun _ => rfl⟩ H
    · replace H := H.2.2.2.2.2.2.2.2.2.2.2.1 he
      refine J_tableIn (off := 156) (tgt := 184) dX9_count_28 (by rw [he]; decide) (by rw [he]; decide) (by rw [he]; decide) (by decide) ?_
      refine J_aload_n dX9_count_184 1 rfl ?_
      obtain ⟨fs, v28, hh, hk, H⟩ := H
      refine J_get dX9_count_185 fX9_11 hh hk ?_
      clear hh hk
      exact J_iret dX9_count_188 ⟨_, rfl, rfl⟩ ⟨Nat.le_of_ble_eq_true rfl, Nat.le_of_ble_eq_true rfl, fun _ => rfl⟩ H
    · replace H := H.2.2.2.2.2.2.2.2.2.2.2.2 he
      refine J_tableIn (off := 161) (tgt := 189) dX9_count_28 (by rw [he]; decide) (by rw [he]; decide) (by rw [he]; decide) (by decide) ?_
      refine J_aload_n dX9_count_189 1 rfl ?_
      obtain ⟨⟨fs, hh⟩, H⟩ := H
      refine J_callV (As := []) (S := []) (b := a0) dX9_count_190 mX9_worn_ok kX9_280 rfl (by decide) (Nat.le_of_ble_eq_true rfl) hh rfl rfl (Nat.le_of_ble_eq_true rfl) ⟨Nat.le_of_ble_eq_true rfl, Nat.le_of_ble_eq_true rfl⟩ (fun k h' hp => ?_) H (fun r h29 hp => ?_)
      · obtain ⟨_, hv, -⟩ := hp; cases hv
      obtain ⟨v30, rfl, H⟩ := hp
      show am_J l g mX9_count (d + 1) (0, 0, x) 193 [(2, .int (v3 * (((v4 + v5) * 355) / 113))), (0, .ref a0), (1, .int i1)] [.int v30] h29 Q
      exact J_iret dX9_count_193 ⟨_, rfl, rfl⟩ ⟨Nat.le_of_ble_eq_true rfl, Nat.le_of_ble_eq_true rfl, fun _ => rfl⟩ H
theorem eX9_count {l : Launch} {g : am_G} {d : Nat} {x : Bool} {a0 : Nat} {i1 : Int32} {h : am_H} {K : Int32 → am_H → Prop} (H : zX9_count_0 l g d x a0 i1 h (fun r h' => ∃ v, r = some (.int v) ∧ K v h')) : cl_I l g mX9_count (d + 1) x [.ref a0, .int i1] h K := rX9_count_0 H
def zX9_worn_27 (l : Launch) (g : am_G) (d : Nat) (x : Bool) (a0 : Nat) (i2 : Int32) (s0 : Int32) (s1 : Int32) (h : am_H) (Q : Option Value → am_H → Prop) : Prop := am_J l g mX9_worn d (0, 0, x) 4 [(0, .ref a0), (1, .int (s0 + s1)), (2, .int (i2 + 1))] [] h Q
set_option maxRecDepth 4000 in
theorem rX9_worn_27 {l : Launch} {g : am_G} {d : Nat} {x : Bool} {a0 : Nat} {i2 : Int32} {s0 : Int32} {s1 : Int32} {h : am_H} {Q : Option Value → am_H → Prop} (H : zX9_worn_27 l g d x a0 i2 s0 s1 h Q) : am_J l g mX9_worn d (0, 0, x) 27 [(0, .ref a0), (2, .int i2)] [.int s1, .int s0] h Q := by
  unfold zX9_worn_27 at H
  refine J_iadd dX9_worn_27 ?_
  refine J_istore_n (L' := [(1, .int (s0 + s1)), (0, .ref a0), (2, .int i2)]) dX9_worn_28 (by decide) rfl ?_
  refine J_iinc (v := (i2 + 1)) (L' := [(2, .int (i2 + 1)), (1, .int (s0 + s1)), (0, .ref a0)]) dX9_worn_29 2 rfl rfl (by decide) rfl ?_
  refine J_goto (tgt := 4) dX9_worn_32 (by decide) ?_
  exact J_pick [2, 1, 0] rfl H
def zX9_worn_4 (l : Launch) (g : am_G) (d : Nat) (x : Bool) (a0 : Nat) (i1 : Int32) (i2 : Int32) (h : am_H) (Q : Option Value → am_H → Prop) : Prop := gt_I h a0 9 20 (fun v1 => ((v1 ≤ i2 → Q (some (.int i1)) h) ∧ (¬ v1 ≤ i2 → gt_R h a0 9 22 (fun v2 => al_I 2 h v2 i2 (fun v3 => ((v3 = 0 → zX9_worn_27 l g d x a0 i2 i1 1 h Q) ∧ (¬ v3 = 0 → zX9_worn_27 l g d x a0 i2 i1 0 h Q)))))))
set_option maxRecDepth 4000 in
theorem rX9_worn_4 {l : Launch} {g : am_G} {d : Nat} {x : Bool} {a0 : Nat} {i1 : Int32} {i2 : Int32} {h : am_H} {Q : Option Value → am_H → Prop} (H : zX9_worn_4 l g d x a0 i1 i2 h Q) : am_J l g mX9_worn d (0, 0, x) 4 [(0, .ref a0), (1, .int i1), (2, .int i2)] [] h Q := by
  unfold zX9_worn_4 at H
  refine J_iload_n dX9_worn_4 2 rfl ?_
  refine J_aload_n dX9_worn_5 0 rfl ?_
  obtain ⟨fs, v1, hh, hk, H⟩ := H
  refine J_get dX9_worn_6 fX9_218 hh hk ?_
  clear hh hk
  obtain ⟨H1, H2⟩ := H
  refine J_icmp_ge (tgt := 35) dX9_worn_9 (by decide) (fun hc => ?_) (fun hc => ?_)
  · replace H := H1 hc
    clear H1 H2
    refine J_iload_n dX9_worn_35 1 rfl ?_
    exact J_iret dX9_worn_36 ⟨_, rfl, rfl⟩ ⟨Nat.le_of_ble_eq_true rfl, Nat.le_of_ble_eq_true rfl, fun _ => rfl⟩ H
  · replace H := H2 hc
    clear H1 H2
    refine J_iload_n dX9_worn_12 1 rfl ?_
    refine J_aload_n dX9_worn_13 0 rfl ?_
    obtain ⟨fs, v2, hh, hk, H⟩ := H
    refine J_get dX9_worn_14 fX9_70 hh hk ?_
    clear hh hk
    refine J_iload_n dX9_worn_17 2 rfl ?_
    obtain ⟨nn, ff, hh, hk, H⟩ := H
    refine J_zald dX9_worn_18 hh hk ?_
    generalize ff (Int32.toNatClampNeg i2) = v3 at H ⊢
    clear hh hk ff
    obtain ⟨H1, H2⟩ := H
    refine J_if_eq (tgt := 26) dX9_worn_19 (by decide) (fun hc => ?_) (fun hc => ?_)
    · replace H := H1 hc
      clear H1 H2
      refine J_iconst (v := 1) dX9_worn_26 (by decide) ?_
      exact J_pick [0, 2] rfl (rX9_worn_27 H)
    · replace H := H2 hc
      clear H1 H2
      refine J_iconst (v := 0) dX9_worn_22 (by decide) ?_
      refine J_goto (tgt := 27) dX9_worn_23 (by decide) ?_
      exact J_pick [0, 2] rfl (rX9_worn_27 H)
def zX9_worn_0 (l : Launch) (g : am_G) (d : Nat) (x : Bool) (a0 : Nat) (h : am_H) (Q : Option Value → am_H → Prop) : Prop := am_J l g mX9_worn d (0, 0, x) 4 [(0, .ref a0), (1, .int 0), (2, .int 0)] [] h Q
set_option maxRecDepth 4000 in
theorem rX9_worn_0 {l : Launch} {g : am_G} {d : Nat} {x : Bool} {a0 : Nat} {h : am_H} {Q : Option Value → am_H → Prop} (H : zX9_worn_0 l g d x a0 h Q) : am_J l g mX9_worn d (0, 0, x) 0 [(0, .ref a0)] [] h Q := by
  unfold zX9_worn_0 at H
  refine J_iconst (v := 0) dX9_worn_0 (by decide) ?_
  refine J_istore_n (L' := [(1, .int 0), (0, .ref a0)]) dX9_worn_1 (by decide) rfl ?_
  refine J_iconst (v := 0) dX9_worn_2 (by decide) ?_
  refine J_istore_n (L' := [(2, .int 0), (1, .int 0), (0, .ref a0)]) dX9_worn_3 (by decide) rfl ?_
  exact J_pick [2, 1, 0] rfl H
theorem eX9_worn {l : Launch} {g : am_G} {d : Nat} {x : Bool} {a0 : Nat} {h : am_H} {K : Int32 → am_H → Prop} (H : zX9_worn_0 l g d x a0 h (fun r h' => ∃ v, r = some (.int v) ∧ K v h')) : cl_I l g mX9_worn d x [.ref a0] h K := rX9_worn_0 H
