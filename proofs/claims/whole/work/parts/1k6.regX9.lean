def zX9_opens_235 (l : Launch) (g : am_G) (d : Nat) (x : Bool) (a0 : Nat) (i1 : Int32) (i2 : Int32) (s0 : Nat) (s1 : Int32) (s2 : Int32) (h : am_H) (Q : Option Value → am_H → Prop) : Prop := ((s2 = 0 ∨ s2 = 1) ∧ as_I 2 h s0 s1 s2 (fun h1 => am_J l g mX9_opens (d + 1) (0, 0, x) 172 [(0, .ref a0), (1, .int i1), (2, .int (i2 + 1))] [] h1 Q))
set_option maxRecDepth 4000 in
theorem rX9_opens_235 {l : Launch} {g : am_G} {d : Nat} {x : Bool} {a0 : Nat} {i1 : Int32} {i2 : Int32} {s0 : Nat} {s1 : Int32} {s2 : Int32} {h : am_H} {Q : Option Value → am_H → Prop} (H : zX9_opens_235 l g d x a0 i1 i2 s0 s1 s2 h Q) : am_J l g mX9_opens (d + 1) (0, 0, x) 235 [(0, .ref a0), (1, .int i1), (2, .int i2)] [.int s2, .int s1, .ref s0] h Q := by
  unfold zX9_opens_235 at H
  obtain ⟨hb, H⟩ := H
  obtain ⟨nn, ff, hh, hk, H⟩ := H
  refine J_zast dX9_opens_235 hh hk (by rcases hb with e | e <;> rw [e] <;> rfl) ?_
  generalize List.set h s0 (am_I 2 nn (upd ff (Int32.toNatClampNeg s1) s2)) = h1 at H ⊢
  clear hh hk
  refine J_iinc (v := (i2 + 1)) (L' := [(2, .int (i2 + 1)), (0, .ref a0), (1, .int i1)]) dX9_opens_236 2 rfl rfl (by decide) rfl ?_
  refine J_goto (tgt := 172) dX9_opens_239 (by decide) ?_
  exact J_pick [1, 2, 0] rfl H
def zX9_opens_234 (l : Launch) (g : am_G) (d : Nat) (x : Bool) (a0 : Nat) (i1 : Int32) (i2 : Int32) (s0 : Nat) (s1 : Int32) (h : am_H) (Q : Option Value → am_H → Prop) : Prop := zX9_opens_235 l g d x a0 i1 i2 s0 s1 0 h Q
set_option maxRecDepth 4000 in
theorem rX9_opens_234 {l : Launch} {g : am_G} {d : Nat} {x : Bool} {a0 : Nat} {i1 : Int32} {i2 : Int32} {s0 : Nat} {s1 : Int32} {h : am_H} {Q : Option Value → am_H → Prop} (H : zX9_opens_234 l g d x a0 i1 i2 s0 s1 h Q) : am_J l g mX9_opens (d + 1) (0, 0, x) 234 [(0, .ref a0), (1, .int i1), (2, .int i2)] [.int s1, .ref s0] h Q := by
  unfold zX9_opens_234 at H
  refine J_iconst (v := 0) dX9_opens_234 (by decide) ?_
  exact J_pick [0, 1, 2] rfl (rX9_opens_235 H)
def zX9_opens_230 (l : Launch) (g : am_G) (d : Nat) (x : Bool) (a0 : Nat) (i1 : Int32) (i2 : Int32) (s0 : Nat) (s1 : Int32) (h : am_H) (Q : Option Value → am_H → Prop) : Prop := zX9_opens_235 l g d x a0 i1 i2 s0 s1 1 h Q
set_option maxRecDepth 4000 in
theorem rX9_opens_230 {l : Launch} {g : am_G} {d : Nat} {x : Bool} {a0 : Nat} {i1 : Int32} {i2 : Int32} {s0 : Nat} {s1 : Int32} {h : am_H} {Q : Option Value → am_H → Prop} (H : zX9_opens_230 l g d x a0 i1 i2 s0 s1 h Q) : am_J l g mX9_opens (d + 1) (0, 0, x) 230 [(0, .ref a0), (1, .int i1), (2, .int i2)] [.int s1, .ref s0] h Q := by
  unfold zX9_opens_230 at H
  refine J_iconst (v := 1) dX9_opens_230 (by decide) ?_
  refine J_goto (tgt := 235) dX9_opens_231 (by decide) ?_
  exact J_pick [0, 1, 2] rfl (rX9_opens_235 H)
def zX9_opens_211 (l : Launch) (g : am_G) (d : Nat) (x : Bool) (a0 : Nat) (i1 : Int32) (i2 : Int32) (s0 : Nat) (s1 : Int32) (h : am_H) (Q : Option Value → am_H → Prop) : Prop := gt_R h a0 9 29 (fun v1 => al_I 0 h v1 i2 (fun v2 => ((¬ v2 = 1 → zX9_opens_234 l g d x a0 i1 i2 s0 s1 h Q) ∧ (v2 = 1 → gt_R h a0 9 31 (fun v3 => al_I 2 h v3 i2 (fun v4 => ((v4 = 0 → zX9_opens_234 l g d x a0 i1 i2 s0 s1 h Q) ∧ (¬ v4 = 0 → zX9_opens_230 l g d x a0 i1 i2 s0 s1 h Q))))))))
set_option maxRecDepth 4000 in
theorem rX9_opens_211 {l : Launch} {g : am_G} {d : Nat} {x : Bool} {a0 : Nat} {i1 : Int32} {i2 : Int32} {s0 : Nat} {s1 : Int32} {h : am_H} {Q : Option Value → am_H → Prop} (H : zX9_opens_211 l g d x a0 i1 i2 s0 s1 h Q) : am_J l g mX9_opens (d + 1) (0, 0, x) 211 [(0, .ref a0), (1, .int i1), (2, .int i2)] [.int s1, .ref s0] h Q := by
  unfold zX9_opens_211 at H
  refine J_aload_n dX9_opens_211 0 rfl ?_
  obtain ⟨fs, v1, hh, hk, H⟩ := H
  refine J_get dX9_opens_212 fX9_92 hh hk ?_
  clear hh hk
  refine J_iload_n dX9_opens_215 2 rfl ?_
  obtain ⟨nn, ff, hh, hk, H⟩ := H
  refine J_iald dX9_opens_216 hh hk ?_
  generalize ff (Int32.toNatClampNeg i2) = v2 at H ⊢
  clear hh hk ff
  refine J_iconst (v := 1) dX9_opens_217 (by decide) ?_
  obtain ⟨H1, H2⟩ := H
  refine J_icmp_ne (tgt := 234) dX9_opens_218 (by decide) (fun hc => ?_) (fun hc => ?_)
  · replace H := H1 hc
    clear H1 H2
    exact J_pick [0, 1, 2] rfl (rX9_opens_234 H)
  · replace H := H2 hc
    clear H1 H2
    refine J_aload_n dX9_opens_221 0 rfl ?_
    obtain ⟨fs, v3, hh, hk, H⟩ := H
    refine J_get dX9_opens_222 fX9_98 hh hk ?_
    clear hh hk
    refine J_iload_n dX9_opens_225 2 rfl ?_
    obtain ⟨nn, ff, hh, hk, H⟩ := H
    refine J_zald dX9_opens_226 hh hk ?_
    generalize ff (Int32.toNatClampNeg i2) = v4 at H ⊢
    clear hh hk ff
    obtain ⟨H1, H2⟩ := H
    refine J_if_eq (tgt := 234) dX9_opens_227 (by decide) (fun hc => ?_) (fun hc => ?_)
    · replace H := H1 hc
      clear H1 H2
      exact J_pick [0, 1, 2] rfl (rX9_opens_234 H)
    · replace H := H2 hc
      clear H1 H2
      exact J_pick [0, 1, 2] rfl (rX9_opens_230 H)
def zX9_opens_172 (l : Launch) (g : am_G) (d : Nat) (x : Bool) (a0 : Nat) (i1 : Int32) (i2 : Int32) (h : am_H) (Q : Option Value → am_H → Prop) : Prop := gt_I h a0 9 21 (fun v1 => ((v1 ≤ i2 → Q (some (.int i1)) h) ∧ (¬ v1 ≤ i2 → gt_R h a0 9 32 (fun v2 => gt_R h a0 9 29 (fun v3 => al_I 0 h v3 i2 (fun v4 => ((¬ v4 = 0 → zX9_opens_211 l g d x a0 i1 i2 v2 i2 h Q) ∧ (v4 = 0 → gt_R h a0 9 31 (fun v5 => al_I 2 h v5 i2 (fun v6 => ((¬ v6 = 0 → zX9_opens_211 l g d x a0 i1 i2 v2 i2 h Q) ∧ (v6 = 0 → cv_I l g mX9_linksOf d x 9 a0 [.int i2] h (fun v8 h7 => ((0 < v8 → zX9_opens_230 l g d x a0 i1 i2 v2 i2 h7 Q) ∧ (¬ 0 < v8 → zX9_opens_211 l g d x a0 i1 i2 v2 i2 h7 Q)))))))))))))))
set_option maxRecDepth 4000 in
theorem rX9_opens_172 {l : Launch} {g : am_G} {d : Nat} {x : Bool} {a0 : Nat} {i1 : Int32} {i2 : Int32} {h : am_H} {Q : Option Value → am_H → Prop} (H : zX9_opens_172 l g d x a0 i1 i2 h Q) : am_J l g mX9_opens (d + 1) (0, 0, x) 172 [(0, .ref a0), (1, .int i1), (2, .int i2)] [] h Q := by
  unfold zX9_opens_172 at H
  refine J_iload_n dX9_opens_172 2 rfl ?_
  refine J_aload_n dX9_opens_173 0 rfl ?_
  obtain ⟨fs, v1, hh, hk, H⟩ := H
  refine J_get dX9_opens_174 fX9_201 hh hk ?_
  clear hh hk
  obtain ⟨H1, H2⟩ := H
  refine J_icmp_ge (tgt := 242) dX9_opens_177 (by decide) (fun hc => ?_) (fun hc => ?_)
  · replace H := H1 hc
    clear H1 H2
    refine J_iload_n dX9_opens_242 1 rfl ?_
    exact J_iret dX9_opens_243 ⟨_, rfl, rfl⟩ ⟨Nat.le_of_ble_eq_true rfl, Nat.le_of_ble_eq_true rfl, fun _ => rfl⟩ H
  · replace H := H2 hc
    clear H1 H2
    refine J_aload_n dX9_opens_180 0 rfl ?_
    obtain ⟨fs, v2, hh, hk, H⟩ := H
    refine J_get dX9_opens_181 fX9_101 hh hk ?_
    clear hh hk
    refine J_iload_n dX9_opens_184 2 rfl ?_
    refine J_aload_n dX9_opens_185 0 rfl ?_
    obtain ⟨fs, v3, hh, hk, H⟩ := H
    refine J_get dX9_opens_186 fX9_92 hh hk ?_
    clear hh hk
    refine J_iload_n dX9_opens_189 2 rfl ?_
    obtain ⟨nn, ff, hh, hk, H⟩ := H
    refine J_iald dX9_opens_190 hh hk ?_
    generalize ff (Int32.toNatClampNeg i2) = v4 at H ⊢
    clear hh hk ff
    obtain ⟨H1, H2⟩ := H
    refine J_if_ne (tgt := 211) dX9_opens_191 (by decide) (fun hc => ?_) (fun hc => ?_)
    · replace H := H1 hc
      clear H1 H2
      exact J_pick [0, 1, 2] rfl (rX9_opens_211 H)
    · replace H := H2 hc
      clear H1 H2
      refine J_aload_n dX9_opens_194 0 rfl ?_
      obtain ⟨fs, v5, hh, hk, H⟩ := H
      refine J_get dX9_opens_195 fX9_98 hh hk ?_
      clear hh hk
      refine J_iload_n dX9_opens_198 2 rfl ?_
      obtain ⟨nn, ff, hh, hk, H⟩ := H
      refine J_zald dX9_opens_199 hh hk ?_
      generalize ff (Int32.toNatClampNeg i2) = v6 at H ⊢
      clear hh hk ff
      obtain ⟨H1, H2⟩ := H
      refine J_if_ne (tgt := 211) dX9_opens_200 (by decide) (fun hc => ?_) (fun hc => ?_)
      · replace H := H1 hc
        clear H1 H2
        exact J_pick [0, 1, 2] rfl (rX9_opens_211 H)
      · replace H := H2 hc
        clear H1 H2
        refine J_aload_n dX9_opens_203 0 rfl ?_
        refine J_iload_n dX9_opens_204 2 rfl ?_
        obtain ⟨⟨fs, hh⟩, H⟩ := H
        refine J_callV (As := [.int i2]) (S := [.int i2, .ref v2]) (b := a0) dX9_opens_205 mX9_linksOf_ok kX9_226 rfl (by decide) (Nat.le_of_ble_eq_true rfl) hh rfl rfl (Nat.le_of_ble_eq_true rfl) ⟨Nat.le_of_ble_eq_true rfl, Nat.le_of_ble_eq_true rfl⟩ (fun k h' hp => ?_) H (fun r h7 hp => ?_)
        · obtain ⟨_, hv, -⟩ := hp; cases hv
        obtain ⟨v8, rfl, H⟩ := hp
        show am_J l g mX9_opens (d + 1) (0, 0, x) 208 [(0, .ref a0), (1, .int i1), (2, .int i2)] [.int v8, .int i2, .ref v2] h7 Q
        obtain ⟨H1, H2⟩ := H
        refine J_if_gt (tgt := 230) dX9_opens_208 (by decide) (fun hc => ?_) (fun hc => ?_)
        · replace H := H1 hc
          clear H1 H2
          exact J_pick [0, 1, 2] rfl (rX9_opens_230 H)
        · replace H := H2 hc
          clear H1 H2
          exact J_pick [0, 1, 2] rfl (rX9_opens_211 H)
def zX9_opens_164 (l : Launch) (g : am_G) (d : Nat) (x : Bool) (a0 : Nat) (i1 : Int32) (i2 : Int32) (h : am_H) (Q : Option Value → am_H → Prop) : Prop := am_J l g mX9_opens (d + 1) (0, 0, x) 133 [(0, .ref a0), (1, .int i1), (2, .int (i2 + 1))] [] h Q
set_option maxRecDepth 4000 in
theorem rX9_opens_164 {l : Launch} {g : am_G} {d : Nat} {x : Bool} {a0 : Nat} {i1 : Int32} {i2 : Int32} {h : am_H} {Q : Option Value → am_H → Prop} (H : zX9_opens_164 l g d x a0 i1 i2 h Q) : am_J l g mX9_opens (d + 1) (0, 0, x) 164 [(0, .ref a0), (1, .int i1), (2, .int i2)] [] h Q := by
  unfold zX9_opens_164 at H
  refine J_iinc (v := (i2 + 1)) (L' := [(2, .int (i2 + 1)), (0, .ref a0), (1, .int i1)]) dX9_opens_164 2 rfl rfl (by decide) rfl ?_
  refine J_goto (tgt := 133) dX9_opens_167 (by decide) ?_
  exact J_pick [1, 2, 0] rfl H
def zX9_opens_133 (l : Launch) (g : am_G) (d : Nat) (x : Bool) (a0 : Nat) (i1 : Int32) (i2 : Int32) (h : am_H) (Q : Option Value → am_H → Prop) : Prop := gt_I h a0 9 21 (fun v1 => ((v1 ≤ i2 → am_J l g mX9_opens (d + 1) (0, 0, x) 172 [(0, .ref a0), (1, .int i1), (2, .int 0)] [] h Q) ∧ (¬ v1 ≤ i2 → gt_R h a0 9 29 (fun v2 => al_I 0 h v2 i2 (fun v3 => ((¬ v3 = 0 → zX9_opens_164 l g d x a0 i1 i2  h Q) ∧ (v3 = 0 → gt_R h a0 9 30 (fun v4 => al_I 0 h v4 i2 (fun v5 => ((0 ≤ v5 → zX9_opens_164 l g d x a0 i1 i2  h Q) ∧ (¬ 0 ≤ v5 → cv_N l g mX9_reaches d x 9 a0 [.int i2] h (fun h6 => zX9_opens_164 l g d x a0 i1 i2  h6 Q))))))))))))
set_option maxRecDepth 4000 in
theorem rX9_opens_133 {l : Launch} {g : am_G} {d : Nat} {x : Bool} {a0 : Nat} {i1 : Int32} {i2 : Int32} {h : am_H} {Q : Option Value → am_H → Prop} (H : zX9_opens_133 l g d x a0 i1 i2 h Q) : am_J l g mX9_opens (d + 1) (0, 0, x) 133 [(0, .ref a0), (1, .int i1), (2, .int i2)] [] h Q := by
  unfold zX9_opens_133 at H
  refine J_iload_n dX9_opens_133 2 rfl ?_
  refine J_aload_n dX9_opens_134 0 rfl ?_
  obtain ⟨fs, v1, hh, hk, H⟩ := H
  refine J_get dX9_opens_135 fX9_201 hh hk ?_
  clear hh hk
  obtain ⟨H1, H2⟩ := H
  refine J_icmp_ge (tgt := 170) dX9_opens_138 (by decide) (fun hc => ?_) (fun hc => ?_)
  · replace H := H1 hc
    clear H1 H2
    refine J_iconst (v := 0) dX9_opens_170 (by decide) ?_
    refine J_istore_n (L' := [(2, .int 0), (0, .ref a0), (1, .int i1)]) dX9_opens_171 (by decide) rfl ?_
    exact J_pick [1, 2, 0] rfl H
  · replace H := H2 hc
    clear H1 H2
    refine J_aload_n dX9_opens_141 0 rfl ?_
    obtain ⟨fs, v2, hh, hk, H⟩ := H
    refine J_get dX9_opens_142 fX9_92 hh hk ?_
    clear hh hk
    refine J_iload_n dX9_opens_145 2 rfl ?_
    obtain ⟨nn, ff, hh, hk, H⟩ := H
    refine J_iald dX9_opens_146 hh hk ?_
    generalize ff (Int32.toNatClampNeg i2) = v3 at H ⊢
    clear hh hk ff
    obtain ⟨H1, H2⟩ := H
    refine J_if_ne (tgt := 164) dX9_opens_147 (by decide) (fun hc => ?_) (fun hc => ?_)
    · replace H := H1 hc
      clear H1 H2
      exact J_pick [0, 1, 2] rfl (rX9_opens_164 H)
    · replace H := H2 hc
      clear H1 H2
      refine J_aload_n dX9_opens_150 0 rfl ?_
      obtain ⟨fs, v4, hh, hk, H⟩ := H
      refine J_get dX9_opens_151 fX9_95 hh hk ?_
      clear hh hk
      refine J_iload_n dX9_opens_154 2 rfl ?_
      obtain ⟨nn, ff, hh, hk, H⟩ := H
      refine J_iald dX9_opens_155 hh hk ?_
      generalize ff (Int32.toNatClampNeg i2) = v5 at H ⊢
      clear hh hk ff
      obtain ⟨H1, H2⟩ := H
      refine J_if_ge (tgt := 164) dX9_opens_156 (by decide) (fun hc => ?_) (fun hc => ?_)
      · replace H := H1 hc
        clear H1 H2
        exact J_pick [0, 1, 2] rfl (rX9_opens_164 H)
      · replace H := H2 hc
        clear H1 H2
        refine J_aload_n dX9_opens_159 0 rfl ?_
        refine J_iload_n dX9_opens_160 2 rfl ?_
        obtain ⟨⟨fs, hh⟩, H⟩ := H
        refine J_callV (As := [.int i2]) (S := []) (b := a0) dX9_opens_161 mX9_reaches_ok kX9_248 rfl (by decide) (Nat.le_of_ble_eq_true rfl) hh rfl rfl (Nat.le_of_ble_eq_true rfl) ⟨Nat.le_of_ble_eq_true rfl, Nat.le_of_ble_eq_true rfl⟩ (fun k h' hp => ?_) H (fun r h6 hp => ?_)
        · obtain ⟨hv, -⟩ := hp; cases hv
        obtain ⟨rfl, H⟩ := hp
        show am_J l g mX9_opens (d + 1) (0, 0, x) 164 [(0, .ref a0), (1, .int i1), (2, .int i2)] [] h6 Q
        exact J_pick [0, 1, 2] rfl (rX9_opens_164 H)
def zX9_opens_110 (l : Launch) (g : am_G) (d : Nat) (x : Bool) (a0 : Nat) (i1 : Int32) (i2 : Int32) (h : am_H) (Q : Option Value → am_H → Prop) : Prop := gt_I h a0 9 21 (fun v1 => ((v1 ≤ i2 → am_J l g mX9_opens (d + 1) (0, 0, x) 133 [(0, .ref a0), (1, .int i1), (2, .int 0)] [] h Q) ∧ (¬ v1 ≤ i2 → gt_R h a0 9 31 (fun v2 => as_I 2 h v2 i2 0 (fun h3 => am_J l g mX9_opens (d + 1) (0, 0, x) 110 [(0, .ref a0), (1, .int i1), (2, .int (i2 + 1))] [] h3 Q)))))
set_option maxRecDepth 4000 in
theorem rX9_opens_110 {l : Launch} {g : am_G} {d : Nat} {x : Bool} {a0 : Nat} {i1 : Int32} {i2 : Int32} {h : am_H} {Q : Option Value → am_H → Prop} (H : zX9_opens_110 l g d x a0 i1 i2 h Q) : am_J l g mX9_opens (d + 1) (0, 0, x) 110 [(0, .ref a0), (1, .int i1), (2, .int i2)] [] h Q := by
  unfold zX9_opens_110 at H
  refine J_iload_n dX9_opens_110 2 rfl ?_
  refine J_aload_n dX9_opens_111 0 rfl ?_
  obtain ⟨fs, v1, hh, hk, H⟩ := H
  refine J_get dX9_opens_112 fX9_201 hh hk ?_
  clear hh hk
  obtain ⟨H1, H2⟩ := H
  refine J_icmp_ge (tgt := 131) dX9_opens_115 (by decide) (fun hc => ?_) (fun hc => ?_)
  · replace H := H1 hc
    clear H1 H2
    refine J_iconst (v := 0) dX9_opens_131 (by decide) ?_
    refine J_istore_n (L' := [(2, .int 0), (0, .ref a0), (1, .int i1)]) dX9_opens_132 (by decide) rfl ?_
    exact J_pick [1, 2, 0] rfl H
  · replace H := H2 hc
    clear H1 H2
    refine J_aload_n dX9_opens_118 0 rfl ?_
    obtain ⟨fs, v2, hh, hk, H⟩ := H
    refine J_get dX9_opens_119 fX9_98 hh hk ?_
    clear hh hk
    refine J_iload_n dX9_opens_122 2 rfl ?_
    refine J_iconst (v := 0) dX9_opens_123 (by decide) ?_
    obtain ⟨nn, ff, hh, hk, H⟩ := H
    refine J_zast dX9_opens_124 hh hk rfl ?_
    generalize List.set h v2 (am_I 2 nn (upd ff (Int32.toNatClampNeg i2) 0)) = h3 at H ⊢
    clear hh hk
    refine J_iinc (v := (i2 + 1)) (L' := [(2, .int (i2 + 1)), (0, .ref a0), (1, .int i1)]) dX9_opens_125 2 rfl rfl (by decide) rfl ?_
    refine J_goto (tgt := 110) dX9_opens_128 (by decide) ?_
    exact J_pick [1, 2, 0] rfl H
def zX9_opens_102 (l : Launch) (g : am_G) (d : Nat) (x : Bool) (a0 : Nat) (i1 : Int32) (i2 : Int32) (h : am_H) (Q : Option Value → am_H → Prop) : Prop := am_J l g mX9_opens (d + 1) (0, 0, x) 46 [(0, .ref a0), (1, .int i1), (2, .int (i2 + 1))] [] h Q
set_option maxRecDepth 4000 in
theorem rX9_opens_102 {l : Launch} {g : am_G} {d : Nat} {x : Bool} {a0 : Nat} {i1 : Int32} {i2 : Int32} {h : am_H} {Q : Option Value → am_H → Prop} (H : zX9_opens_102 l g d x a0 i1 i2 h Q) : am_J l g mX9_opens (d + 1) (0, 0, x) 102 [(0, .ref a0), (1, .int i1), (2, .int i2)] [] h Q := by
  unfold zX9_opens_102 at H
  refine J_iinc (v := (i2 + 1)) (L' := [(2, .int (i2 + 1)), (0, .ref a0), (1, .int i1)]) dX9_opens_102 2 rfl rfl (by decide) rfl ?_
  refine J_goto (tgt := 46) dX9_opens_105 (by decide) ?_
  exact J_pick [1, 2, 0] rfl H
def zX9_opens_100 (l : Launch) (g : am_G) (d : Nat) (x : Bool) (a0 : Nat) (i2 : Int32) (s0 : Int32) (s1 : Int32) (h : am_H) (Q : Option Value → am_H → Prop) : Prop := zX9_opens_102 l g d x a0 (s0 + s1) i2  h Q
set_option maxRecDepth 4000 in
theorem rX9_opens_100 {l : Launch} {g : am_G} {d : Nat} {x : Bool} {a0 : Nat} {i2 : Int32} {s0 : Int32} {s1 : Int32} {h : am_H} {Q : Option Value → am_H → Prop} (H : zX9_opens_100 l g d x a0 i2 s0 s1 h Q) : am_J l g mX9_opens (d + 1) (0, 0, x) 100 [(0, .ref a0), (2, .int i2)] [.int s1, .int s0] h Q := by
  unfold zX9_opens_100 at H
  refine J_iadd dX9_opens_100 ?_
  refine J_istore_n (L' := [(1, .int (s0 + s1)), (0, .ref a0), (2, .int i2)]) dX9_opens_101 (by decide) rfl ?_
  exact J_pick [1, 0, 2] rfl (rX9_opens_102 H)
def zX9_opens_65 (l : Launch) (g : am_G) (d : Nat) (x : Bool) (a0 : Nat) (i1 : Int32) (i2 : Int32) (i3 : Int32) (h : am_H) (Q : Option Value → am_H → Prop) : Prop := gt_I h a0 9 21 (fun v1 => ((v1 ≤ i3 → cv_I l g mX9_finds d x 9 a0 [.int i2] h (fun v3 h2 => ((v3 = 0 → zX9_opens_100 l g d x a0 i2 i1 0 h2 Q) ∧ (¬ v3 = 0 → zX9_opens_100 l g d x a0 i2 i1 1 h2 Q)))) ∧ (¬ v1 ≤ i3 → gt_R h a0 9 31 (fun v4 => as_I 2 h v4 i3 0 (fun h5 => am_J l g mX9_opens (d + 1) (0, 0, x) 65 [(0, .ref a0), (1, .int i1), (2, .int i2), (3, .int (i3 + 1))] [] h5 Q)))))
set_option maxRecDepth 4000 in
theorem rX9_opens_65 {l : Launch} {g : am_G} {d : Nat} {x : Bool} {a0 : Nat} {i1 : Int32} {i2 : Int32} {i3 : Int32} {h : am_H} {Q : Option Value → am_H → Prop} (H : zX9_opens_65 l g d x a0 i1 i2 i3 h Q) : am_J l g mX9_opens (d + 1) (0, 0, x) 65 [(0, .ref a0), (1, .int i1), (2, .int i2), (3, .int i3)] [] h Q := by
  unfold zX9_opens_65 at H
  refine J_iload_n dX9_opens_65 3 rfl ?_
  refine J_aload_n dX9_opens_66 0 rfl ?_
  obtain ⟨fs, v1, hh, hk, H⟩ := H
  refine J_get dX9_opens_67 fX9_201 hh hk ?_
  clear hh hk
  obtain ⟨H1, H2⟩ := H
  refine J_icmp_ge (tgt := 86) dX9_opens_70 (by decide) (fun hc => ?_) (fun hc => ?_)
  · replace H := H1 hc
    clear H1 H2
    refine J_iload_n dX9_opens_86 1 rfl ?_
    refine J_aload_n dX9_opens_87 0 rfl ?_
    refine J_iload_n dX9_opens_88 2 rfl ?_
    obtain ⟨⟨fs, hh⟩, H⟩ := H
    refine J_callV (As := [.int i2]) (S := [.int i1]) (b := a0) dX9_opens_89 mX9_finds_ok kX9_239 rfl (by decide) (Nat.le_of_ble_eq_true rfl) hh rfl rfl (Nat.le_of_ble_eq_true rfl) ⟨Nat.le_of_ble_eq_true rfl, Nat.le_of_ble_eq_true rfl⟩ (fun k h' hp => ?_) H (fun r h2 hp => ?_)
    · obtain ⟨_, hv, -⟩ := hp; cases hv
    obtain ⟨v3, rfl, H⟩ := hp
    show am_J l g mX9_opens (d + 1) (0, 0, x) 92 [(0, .ref a0), (1, .int i1), (2, .int i2), (3, .int i3)] [.int v3, .int i1] h2 Q
    obtain ⟨H1, H2⟩ := H
    refine J_if_eq (tgt := 99) dX9_opens_92 (by decide) (fun hc => ?_) (fun hc => ?_)
    · replace H := H1 hc
      clear H1 H2
      refine J_iconst (v := 0) dX9_opens_99 (by decide) ?_
      exact J_pick [0, 2] rfl (rX9_opens_100 H)
    · replace H := H2 hc
      clear H1 H2
      refine J_iconst (v := 1) dX9_opens_95 (by decide) ?_
      refine J_goto (tgt := 100) dX9_opens_96 (by decide) ?_
      exact J_pick [0, 2] rfl (rX9_opens_100 H)
  · replace H := H2 hc
    clear H1 H2
    refine J_aload_n dX9_opens_73 0 rfl ?_
    obtain ⟨fs, v4, hh, hk, H⟩ := H
    refine J_get dX9_opens_74 fX9_98 hh hk ?_
    clear hh hk
    refine J_iload_n dX9_opens_77 3 rfl ?_
    refine J_iconst (v := 0) dX9_opens_78 (by decide) ?_
    obtain ⟨nn, ff, hh, hk, H⟩ := H
    refine J_zast dX9_opens_79 hh hk rfl ?_
    generalize List.set h v4 (am_I 2 nn (upd ff (Int32.toNatClampNeg i3) 0)) = h5 at H ⊢
    clear hh hk
    refine J_iinc (v := (i3 + 1)) (L' := [(3, .int (i3 + 1)), (0, .ref a0), (1, .int i1), (2, .int i2)]) dX9_opens_80 3 rfl rfl (by decide) rfl ?_
    refine J_goto (tgt := 65) dX9_opens_83 (by decide) ?_
    exact J_pick [1, 2, 3, 0] rfl H
def zX9_opens_46 (l : Launch) (g : am_G) (d : Nat) (x : Bool) (a0 : Nat) (i1 : Int32) (i2 : Int32) (h : am_H) (Q : Option Value → am_H → Prop) : Prop := gt_I h a0 9 21 (fun v1 => ((v1 ≤ i2 → am_J l g mX9_opens (d + 1) (0, 0, x) 110 [(0, .ref a0), (1, .int i1), (2, .int 0)] [] h Q) ∧ (¬ v1 ≤ i2 → gt_R h a0 9 29 (fun v2 => al_I 0 h v2 i2 (fun v3 => ((¬ v3 = 0 → zX9_opens_102 l g d x a0 i1 i2  h Q) ∧ (v3 = 0 → am_J l g mX9_opens (d + 1) (0, 0, x) 65 [(0, .ref a0), (1, .int i1), (2, .int i2), (3, .int 0)] [] h Q)))))))
set_option maxRecDepth 4000 in
theorem rX9_opens_46 {l : Launch} {g : am_G} {d : Nat} {x : Bool} {a0 : Nat} {i1 : Int32} {i2 : Int32} {h : am_H} {Q : Option Value → am_H → Prop} (H : zX9_opens_46 l g d x a0 i1 i2 h Q) : am_J l g mX9_opens (d + 1) (0, 0, x) 46 [(0, .ref a0), (1, .int i1), (2, .int i2)] [] h Q := by
  unfold zX9_opens_46 at H
  refine J_iload_n dX9_opens_46 2 rfl ?_
  refine J_aload_n dX9_opens_47 0 rfl ?_
  obtain ⟨fs, v1, hh, hk, H⟩ := H
  refine J_get dX9_opens_48 fX9_201 hh hk ?_
  clear hh hk
  obtain ⟨H1, H2⟩ := H
  refine J_icmp_ge (tgt := 108) dX9_opens_51 (by decide) (fun hc => ?_) (fun hc => ?_)
  · replace H := H1 hc
    clear H1 H2
    refine J_iconst (v := 0) dX9_opens_108 (by decide) ?_
    refine J_istore_n (L' := [(2, .int 0), (0, .ref a0), (1, .int i1)]) dX9_opens_109 (by decide) rfl ?_
    exact J_pick [1, 2, 0] rfl H
  · replace H := H2 hc
    clear H1 H2
    refine J_aload_n dX9_opens_54 0 rfl ?_
    obtain ⟨fs, v2, hh, hk, H⟩ := H
    refine J_get dX9_opens_55 fX9_92 hh hk ?_
    clear hh hk
    refine J_iload_n dX9_opens_58 2 rfl ?_
    obtain ⟨nn, ff, hh, hk, H⟩ := H
    refine J_iald dX9_opens_59 hh hk ?_
    generalize ff (Int32.toNatClampNeg i2) = v3 at H ⊢
    clear hh hk ff
    obtain ⟨H1, H2⟩ := H
    refine J_if_ne (tgt := 102) dX9_opens_60 (by decide) (fun hc => ?_) (fun hc => ?_)
    · replace H := H1 hc
      clear H1 H2
      exact J_pick [0, 1, 2] rfl (rX9_opens_102 H)
    · replace H := H2 hc
      clear H1 H2
      refine J_iconst (v := 0) dX9_opens_63 (by decide) ?_
      refine J_istore_n (L' := [(3, .int 0), (0, .ref a0), (1, .int i1), (2, .int i2)]) dX9_opens_64 (by decide) rfl ?_
      exact J_pick [1, 2, 3, 0] rfl H
def zX9_opens_2 (l : Launch) (g : am_G) (d : Nat) (x : Bool) (a0 : Nat) (i1 : Int32) (h : am_H) (Q : Option Value → am_H → Prop) : Prop := ((300 ≤ i1 → cv_N l g mX9_findNear d x 9 a0 [] h (fun h1 => cv_I l g mX9_parts d x 9 a0 [] h1 (fun v4 h3 => ((¬ v4 = 0 → am_J l g mX9_opens (d + 1) (0, 0, x) 46 [(0, .ref a0), (1, .int 0), (2, .int 0)] [] h3 Q) ∧ (v4 = 0 → Q (some (.int (-1))) h3))))) ∧ (¬ 300 ≤ i1 → gt_R h a0 9 30 (fun v5 => as_I 0 h v5 i1 (-1) (fun h6 => gt_R h6 a0 9 32 (fun v7 => as_I 2 h6 v7 i1 0 (fun h8 => am_J l g mX9_opens (d + 1) (0, 0, x) 2 [(0, .ref a0), (1, .int (i1 + 1))] [] h8 Q))))))
set_option maxRecDepth 4000 in
theorem rX9_opens_2 {l : Launch} {g : am_G} {d : Nat} {x : Bool} {a0 : Nat} {i1 : Int32} {h : am_H} {Q : Option Value → am_H → Prop} (H : zX9_opens_2 l g d x a0 i1 h Q) : am_J l g mX9_opens (d + 1) (0, 0, x) 2 [(0, .ref a0), (1, .int i1)] [] h Q := by
  unfold zX9_opens_2 at H
  refine J_iload_n dX9_opens_2 1 rfl ?_
  refine J_sipush (v := 300) dX9_opens_3 (by decide) ?_
  obtain ⟨H1, H2⟩ := H
  refine J_icmp_ge (tgt := 29) dX9_opens_6 (by decide) (fun hc => ?_) (fun hc => ?_)
  · replace H := H1 hc
    clear H1 H2
    refine J_aload_n dX9_opens_29 0 rfl ?_
    obtain ⟨⟨fs, hh⟩, H⟩ := H
    refine J_callV (As := []) (S := []) (b := a0) dX9_opens_30 mX9_findNear_ok kX9_242 rfl (by decide) (Nat.le_of_ble_eq_true rfl) hh rfl rfl (Nat.le_of_ble_eq_true rfl) ⟨Nat.le_of_ble_eq_true rfl, Nat.le_of_ble_eq_true rfl⟩ (fun k h' hp => ?_) H (fun r h1 hp => ?_)
    · obtain ⟨hv, -⟩ := hp; cases hv
    obtain ⟨rfl, H⟩ := hp
    show am_J l g mX9_opens (d + 1) (0, 0, x) 33 [(0, .ref a0), (1, .int i1)] [] h1 Q
    refine J_aload_n dX9_opens_33 0 rfl ?_
    obtain ⟨⟨fs, hh⟩, H⟩ := H
    refine J_callV (As := []) (S := []) (b := a0) dX9_opens_34 mX9_parts_ok kX9_245 rfl (by decide) (Nat.le_of_ble_eq_true rfl) hh rfl rfl (Nat.le_of_ble_eq_true rfl) ⟨Nat.le_of_ble_eq_true rfl, Nat.le_of_ble_eq_true rfl⟩ (fun k h' hp => ?_) H (fun r h3 hp => ?_)
    · obtain ⟨_, hv, -⟩ := hp; cases hv
    obtain ⟨v4, rfl, H⟩ := hp
    show am_J l g mX9_opens (d + 1) (0, 0, x) 37 [(0, .ref a0), (1, .int i1)] [.int v4] h3 Q
    obtain ⟨H1, H2⟩ := H
    refine J_if_ne (tgt := 42) dX9_opens_37 (by decide) (fun hc => ?_) (fun hc => ?_)
    · replace H := H1 hc
      clear H1 H2
      refine J_iconst (v := 0) dX9_opens_42 (by decide) ?_
      refine J_istore_n (L' := [(1, .int 0), (0, .ref a0)]) dX9_opens_43 (by decide) rfl ?_
      refine J_iconst (v := 0) dX9_opens_44 (by decide) ?_
      refine J_istore_n (L' := [(2, .int 0), (1, .int 0), (0, .ref a0)]) dX9_opens_45 (by decide) rfl ?_
      exact J_pick [2, 1, 0] rfl H
    · replace H := H2 hc
      clear H1 H2
      refine J_iconst (v := (-1)) dX9_opens_40 (by decide) ?_
      exact J_iret dX9_opens_41 ⟨_, rfl, rfl⟩ ⟨Nat.le_of_ble_eq_true rfl, Nat.le_of_ble_eq_true rfl, fun _ => rfl⟩ H
  · replace H := H2 hc
    clear H1 H2
    refine J_aload_n dX9_opens_9 0 rfl ?_
    obtain ⟨fs, v5, hh, hk, H⟩ := H
    refine J_get dX9_opens_10 fX9_95 hh hk ?_
    clear hh hk
    refine J_iload_n dX9_opens_13 1 rfl ?_
    refine J_iconst (v := (-1)) dX9_opens_14 (by decide) ?_
    obtain ⟨nn, ff, hh, hk, H⟩ := H
    refine J_iast dX9_opens_15 hh hk ?_
    generalize List.set h v5 (am_I 0 nn (upd ff (Int32.toNatClampNeg i1) (-1))) = h6 at H ⊢
    clear hh hk
    refine J_aload_n dX9_opens_16 0 rfl ?_
    obtain ⟨fs, v7, hh, hk, H⟩ := H
    refine J_get dX9_opens_17 fX9_101 hh hk ?_
    clear hh hk
    refine J_iload_n dX9_opens_20 1 rfl ?_
    refine J_iconst (v := 0) dX9_opens_21 (by decide) ?_
    obtain ⟨nn, ff, hh, hk, H⟩ := H
    refine J_zast dX9_opens_22 hh hk rfl ?_
    generalize List.set h6 v7 (am_I 2 nn (upd ff (Int32.toNatClampNeg i1) 0)) = h8 at H ⊢
    clear hh hk
    refine J_iinc (v := (i1 + 1)) (L' := [(1, .int (i1 + 1)), (0, .ref a0)]) dX9_opens_23 1 rfl rfl (by decide) rfl ?_
    refine J_goto (tgt := 2) dX9_opens_26 (by decide) ?_
    exact J_pick [1, 0] rfl H
def zX9_opens_0 (l : Launch) (g : am_G) (d : Nat) (x : Bool) (a0 : Nat) (h : am_H) (Q : Option Value → am_H → Prop) : Prop := am_J l g mX9_opens (d + 1) (0, 0, x) 2 [(0, .ref a0), (1, .int 0)] [] h Q
set_option maxRecDepth 4000 in
theorem rX9_opens_0 {l : Launch} {g : am_G} {d : Nat} {x : Bool} {a0 : Nat} {h : am_H} {Q : Option Value → am_H → Prop} (H : zX9_opens_0 l g d x a0 h Q) : am_J l g mX9_opens (d + 1) (0, 0, x) 0 [(0, .ref a0)] [] h Q := by
  unfold zX9_opens_0 at H
  refine J_iconst (v := 0) dX9_opens_0 (by decide) ?_
  refine J_istore_n (L' := [(1, .int 0), (0, .ref a0)]) dX9_opens_1 (by decide) rfl ?_
  exact J_pick [1, 0] rfl H
theorem eX9_opens {l : Launch} {g : am_G} {d : Nat} {x : Bool} {a0 : Nat} {h : am_H} {K : Int32 → am_H → Prop} (H : zX9_opens_0 l g d x a0 h (fun r h' => ∃ v, r = some (.int v) ∧ K v h')) : cl_I l g mX9_opens (d + 1) x [.ref a0] h K := rX9_opens_0 H
def zX9_reaches_85 (l : Launch) (g : am_G) (d : Nat) (x : Bool) (a0 : Nat) (i1 : Int32) (i2 : Int32) (h : am_H) (Q : Option Value → am_H → Prop) : Prop := am_J l g mX9_reaches (d + 1) (0, 0, x) 13 [(0, .ref a0), (1, .int i1), (2, .int (i2 + 1))] [] h Q
set_option maxRecDepth 4000 in
theorem rX9_reaches_85 {l : Launch} {g : am_G} {d : Nat} {x : Bool} {a0 : Nat} {i1 : Int32} {i2 : Int32} {h : am_H} {Q : Option Value → am_H → Prop} (H : zX9_reaches_85 l g d x a0 i1 i2 h Q) : am_J l g mX9_reaches (d + 1) (0, 0, x) 85 [(0, .ref a0), (1, .int i1), (2, .int i2)] [] h Q := by
  unfold zX9_reaches_85 at H
  refine J_iinc (v := (i2 + 1)) (L' := [(2, .int (i2 + 1)), (0, .ref a0), (1, .int i1)]) dX9_reaches_85 2 rfl rfl (by decide) rfl ?_
  refine J_goto (tgt := 13) dX9_reaches_88 (by decide) ?_
  exact J_pick [1, 2, 0] rfl H
def zX9_reaches_13 (l : Launch) (g : am_G) (d : Nat) (x : Bool) (a0 : Nat) (i1 : Int32) (i2 : Int32) (h : am_H) (Q : Option Value → am_H → Prop) : Prop := gt_R h a0 9 25 (fun v1 => al_I 0 h v1 i1 (fun v2 => ((((300 * i1) + v2) ≤ i2 → Q none h) ∧ (¬ ((300 * i1) + v2) ≤ i2 → gt_R h a0 9 26 (fun v3 => al_I 0 h v3 i2 (fun v4 => gt_R h a0 9 31 (fun v5 => al_I 2 h v5 v4 (fun v6 => ((¬ v6 = 0 → zX9_reaches_85 l g d x a0 i1 i2  h Q) ∧ (v6 = 0 → gt_R h a0 9 31 (fun v7 => as_I 2 h v7 v4 1 (fun h8 => gt_R h8 a0 9 30 (fun v9 => al_I 0 h8 v9 v4 (fun v10 => ((v10 < 0 → zX9_reaches_85 l g d x a0 i1 i2  h8 Q) ∧ (¬ v10 < 0 → gt_R h8 a0 9 31 (fun v11 => gt_R h8 a0 9 30 (fun v12 => al_I 0 h8 v12 v4 (fun v13 => al_I 2 h8 v11 v13 (fun v14 => ((¬ v14 = 0 → zX9_reaches_85 l g d x a0 i1 i2  h8 Q) ∧ (v14 = 0 → gt_R h8 a0 9 30 (fun v15 => al_I 0 h8 v15 v4 (fun v16 => cv_N l g mX9_reaches d x 9 a0 [.int v16] h8 (fun h17 => zX9_reaches_85 l g d x a0 i1 i2  h17 Q)))))))))))))))))))))))))
set_option maxRecDepth 4000 in
theorem rX9_reaches_13 {l : Launch} {g : am_G} {d : Nat} {x : Bool} {a0 : Nat} {i1 : Int32} {i2 : Int32} {h : am_H} {Q : Option Value → am_H → Prop} (H : zX9_reaches_13 l g d x a0 i1 i2 h Q) : am_J l g mX9_reaches (d + 1) (0, 0, x) 13 [(0, .ref a0), (1, .int i1), (2, .int i2)] [] h Q := by
  unfold zX9_reaches_13 at H
  refine J_iload_n dX9_reaches_13 2 rfl ?_
  refine J_sipush (v := 300) dX9_reaches_14 (by decide) ?_
  refine J_iload_n dX9_reaches_17 1 rfl ?_
  refine J_imul dX9_reaches_18 ?_
  refine J_aload_n dX9_reaches_19 0 rfl ?_
  obtain ⟨fs, v1, hh, hk, H⟩ := H
  refine J_get dX9_reaches_20 fX9_80 hh hk ?_
  clear hh hk
  refine J_iload_n dX9_reaches_23 1 rfl ?_
  obtain ⟨nn, ff, hh, hk, H⟩ := H
  refine J_iald dX9_reaches_24 hh hk ?_
  generalize ff (Int32.toNatClampNeg i1) = v2 at H ⊢
  clear hh hk ff
  refine J_iadd dX9_reaches_25 ?_
  obtain ⟨H1, H2⟩ := H
  refine J_icmp_ge (tgt := 91) dX9_reaches_26 (by decide) (fun hc => ?_) (fun hc => ?_)
  · replace H := H1 hc
    clear H1 H2
    exact J_vret dX9_reaches_91 rfl ⟨Nat.le_of_ble_eq_true rfl, Nat.le_of_ble_eq_true rfl, fun _ => rfl⟩ H
  · replace H := H2 hc
    clear H1 H2
    refine J_aload_n dX9_reaches_29 0 rfl ?_
    obtain ⟨fs, v3, hh, hk, H⟩ := H
    refine J_get dX9_reaches_30 fX9_83 hh hk ?_
    clear hh hk
    refine J_iload_n dX9_reaches_33 2 rfl ?_
    obtain ⟨nn, ff, hh, hk, H⟩ := H
    refine J_iald dX9_reaches_34 hh hk ?_
    generalize ff (Int32.toNatClampNeg i2) = v4 at H ⊢
    clear hh hk ff
    refine J_istore_n (L' := [(3, .int v4), (0, .ref a0), (1, .int i1), (2, .int i2)]) dX9_reaches_35 (by decide) rfl ?_
    refine J_aload_n dX9_reaches_36 1 rfl ?_
    obtain ⟨fs, v5, hh, hk, H⟩ := H
    refine J_get dX9_reaches_37 fX9_98 hh hk ?_
    clear hh hk
    refine J_iload_n dX9_reaches_40 0 rfl ?_
    obtain ⟨nn, ff, hh, hk, H⟩ := H
    refine J_zald dX9_reaches_41 hh hk ?_
    generalize ff (Int32.toNatClampNeg v4) = v6 at H ⊢
    clear hh hk ff
    obtain ⟨H1, H2⟩ := H
    refine J_if_ne (tgt := 85) dX9_reaches_42 (by decide) (fun hc => ?_) (fun hc => ?_)
    · replace H := H1 hc
      clear H1 H2
      exact J_pick [1, 2, 3] rfl (rX9_reaches_85 H)
    · replace H := H2 hc
      clear H1 H2
      refine J_aload_n dX9_reaches_45 1 rfl ?_
      obtain ⟨fs, v7, hh, hk, H⟩ := H
      refine J_get dX9_reaches_46 fX9_98 hh hk ?_
      clear hh hk
      refine J_iload_n dX9_reaches_49 0 rfl ?_
      refine J_iconst (v := 1) dX9_reaches_50 (by decide) ?_
      obtain ⟨nn, ff, hh, hk, H⟩ := H
      refine J_zast dX9_reaches_51 hh hk rfl ?_
      generalize List.set h v7 (am_I 2 nn (upd ff (Int32.toNatClampNeg v4) 1)) = h8 at H ⊢
      clear hh hk
      refine J_aload_n dX9_reaches_52 1 rfl ?_
      obtain ⟨fs, v9, hh, hk, H⟩ := H
      refine J_get dX9_reaches_53 fX9_95 hh hk ?_
      clear hh hk
      refine J_iload_n dX9_reaches_56 0 rfl ?_
      obtain ⟨nn, ff, hh, hk, H⟩ := H
      refine J_iald dX9_reaches_57 hh hk ?_
      generalize ff (Int32.toNatClampNeg v4) = v10 at H ⊢
      clear hh hk ff
      obtain ⟨H1, H2⟩ := H
      refine J_if_lt (tgt := 85) dX9_reaches_58 (by decide) (fun hc => ?_) (fun hc => ?_)
      · replace H := H1 hc
        clear H1 H2
        exact J_pick [1, 2, 3] rfl (rX9_reaches_85 H)
      · replace H := H2 hc
        clear H1 H2
        refine J_aload_n dX9_reaches_61 1 rfl ?_
        obtain ⟨fs, v11, hh, hk, H⟩ := H
        refine J_get dX9_reaches_62 fX9_98 hh hk ?_
        clear hh hk
        refine J_aload_n dX9_reaches_65 1 rfl ?_
        obtain ⟨fs, v12, hh, hk, H⟩ := H
        refine J_get dX9_reaches_66 fX9_95 hh hk ?_
        clear hh hk
        refine J_iload_n dX9_reaches_69 0 rfl ?_
        obtain ⟨nn, ff, hh, hk, H⟩ := H
        refine J_iald dX9_reaches_70 hh hk ?_
        generalize ff (Int32.toNatClampNeg v4) = v13 at H ⊢
        clear hh hk ff
        obtain ⟨nn, ff, hh, hk, H⟩ := H
        refine J_zald dX9_reaches_71 hh hk ?_
        generalize ff (Int32.toNatClampNeg v13) = v14 at H ⊢
        clear hh hk ff
        obtain ⟨H1, H2⟩ := H
        refine J_if_ne (tgt := 85) dX9_reaches_72 (by decide) (fun hc => ?_) (fun hc => ?_)
        · replace H := H1 hc
          clear H1 H2
          exact J_pick [1, 2, 3] rfl (rX9_reaches_85 H)
        · replace H := H2 hc
          clear H1 H2
          refine J_aload_n dX9_reaches_75 1 rfl ?_
          refine J_aload_n dX9_reaches_76 1 rfl ?_
          obtain ⟨fs, v15, hh, hk, H⟩ := H
          refine J_get dX9_reaches_77 fX9_95 hh hk ?_
          clear hh hk
          refine J_iload_n dX9_reaches_80 0 rfl ?_
          obtain ⟨nn, ff, hh, hk, H⟩ := H
          refine J_iald dX9_reaches_81 hh hk ?_
          generalize ff (Int32.toNatClampNeg v4) = v16 at H ⊢
          clear hh hk ff
          obtain ⟨⟨fs, hh⟩, H⟩ := H
          refine J_callV (As := [.int v16]) (S := []) (b := a0) dX9_reaches_82 mX9_reaches_ok kX9_248 rfl (by decide) (Nat.le_of_ble_eq_true rfl) hh rfl rfl (Nat.le_of_ble_eq_true rfl) ⟨Nat.le_of_ble_eq_true rfl, Nat.le_of_ble_eq_true rfl⟩ (fun k h' hp => ?_) H (fun r h17 hp => ?_)
          · obtain ⟨hv, -⟩ := hp; cases hv
          obtain ⟨rfl, H⟩ := hp
          show am_J l g mX9_reaches (d + 1) (0, 0, x) 85 [(3, .int v4), (0, .ref a0), (1, .int i1), (2, .int i2)] [] h17 Q
          exact J_pick [1, 2, 3] rfl (rX9_reaches_85 H)
def zX9_reaches_0 (l : Launch) (g : am_G) (d : Nat) (x : Bool) (a0 : Nat) (i1 : Int32) (h : am_H) (Q : Option Value → am_H → Prop) : Prop := gt_R h a0 9 31 (fun v1 => as_I 2 h v1 i1 1 (fun h2 => am_J l g mX9_reaches (d + 1) (0, 0, x) 13 [(0, .ref a0), (1, .int i1), (2, .int (300 * i1))] [] h2 Q))
set_option maxRecDepth 4000 in
theorem rX9_reaches_0 {l : Launch} {g : am_G} {d : Nat} {x : Bool} {a0 : Nat} {i1 : Int32} {h : am_H} {Q : Option Value → am_H → Prop} (H : zX9_reaches_0 l g d x a0 i1 h Q) : am_J l g mX9_reaches (d + 1) (0, 0, x) 0 [(0, .ref a0), (1, .int i1)] [] h Q := by
  unfold zX9_reaches_0 at H
  refine J_aload_n dX9_reaches_0 0 rfl ?_
  obtain ⟨fs, v1, hh, hk, H⟩ := H
  refine J_get dX9_reaches_1 fX9_98 hh hk ?_
  clear hh hk
  refine J_iload_n dX9_reaches_4 1 rfl ?_
  refine J_iconst (v := 1) dX9_reaches_5 (by decide) ?_
  obtain ⟨nn, ff, hh, hk, H⟩ := H
  refine J_zast dX9_reaches_6 hh hk rfl ?_
  generalize List.set h v1 (am_I 2 nn (upd ff (Int32.toNatClampNeg i1) 1)) = h2 at H ⊢
  clear hh hk
  refine J_sipush (v := 300) dX9_reaches_7 (by decide) ?_
  refine J_iload_n dX9_reaches_10 1 rfl ?_
  refine J_imul dX9_reaches_11 ?_
  refine J_istore_n (L' := [(2, .int (300 * i1)), (0, .ref a0), (1, .int i1)]) dX9_reaches_12 (by decide) rfl ?_
  exact J_pick [1, 2, 0] rfl H
theorem eX9_reaches {l : Launch} {g : am_G} {d : Nat} {x : Bool} {a0 : Nat} {i1 : Int32} {h : am_H} {K : am_H → Prop} (H : zX9_reaches_0 l g d x a0 i1 h (fun r h' => r = none ∧ K h')) : cl_N l g mX9_reaches (d + 1) x [.ref a0, .int i1] h K := rX9_reaches_0 H
def zX9_fewest_0 (l : Launch) (g : am_G) (d : Nat) (x : Bool) (a0 : Nat) (h : am_H) (Q : Option Value → am_H → Prop) : Prop := pt_V h a0 9 0 (.int 0) (fun h1 => cv_I l g mX9_opens d x 9 a0 [] h1 (fun v3 h2 => Q (some (.int v3)) h2))
set_option maxRecDepth 4000 in
theorem rX9_fewest_0 {l : Launch} {g : am_G} {d : Nat} {x : Bool} {a0 : Nat} {h : am_H} {Q : Option Value → am_H → Prop} (H : zX9_fewest_0 l g d x a0 h Q) : am_J l g mX9_fewest (d + 1) (0, 0, x) 0 [(0, .ref a0)] [] h Q := by
  unfold zX9_fewest_0 at H
  refine J_aload_n dX9_fewest_0 0 rfl ?_
  refine J_iconst (v := 0) dX9_fewest_1 (by decide) ?_
  obtain ⟨fs, hh, hk, H⟩ := H
  refine J_put dX9_fewest_2 fX9_1 rfl rfl hh hk ?_
  generalize List.set h a0 (am_O 9 (List.set fs 0 (.int 0))) = h1 at H ⊢
  clear hh hk
  refine J_aload_n dX9_fewest_5 0 rfl ?_
  obtain ⟨⟨fs, hh⟩, H⟩ := H
  refine J_callV (As := []) (S := []) (b := a0) dX9_fewest_6 mX9_opens_ok kX9_251 rfl (by decide) (Nat.le_of_ble_eq_true rfl) hh rfl rfl (Nat.le_of_ble_eq_true rfl) ⟨Nat.le_of_ble_eq_true rfl, Nat.le_of_ble_eq_true rfl⟩ (fun k h' hp => ?_) H (fun r h2 hp => ?_)
  · obtain ⟨_, hv, -⟩ := hp; cases hv
  obtain ⟨v3, rfl, H⟩ := hp
  show am_J l g mX9_fewest (d + 1) (0, 0, x) 9 [(0, .ref a0)] [.int v3] h2 Q
  exact J_iret dX9_fewest_9 ⟨_, rfl, rfl⟩ ⟨Nat.le_of_ble_eq_true rfl, Nat.le_of_ble_eq_true rfl, fun _ => rfl⟩ H
theorem eX9_fewest {l : Launch} {g : am_G} {d : Nat} {x : Bool} {a0 : Nat} {h : am_H} {K : Int32 → am_H → Prop} (H : zX9_fewest_0 l g d x a0 h (fun r h' => ∃ v, r = some (.int v) ∧ K v h')) : cl_I l g mX9_fewest (d + 1) x [.ref a0] h K := rX9_fewest_0 H
def zX9_isNearHand_47 (l : Launch) (g : am_G) (d : Nat) (x : Bool) (a0 : Nat) (i1 : Int32) (i3 : Int32) (s0 : Int32) (h : am_H) (Q : Option Value → am_H → Prop) : Prop := am_J l g mX9_isNearHand d (0, 0, x) 8 [(0, .ref a0), (1, .int i1), (2, .int s0), (3, .int (i3 + 1))] [] h Q
set_option maxRecDepth 4000 in
theorem rX9_isNearHand_47 {l : Launch} {g : am_G} {d : Nat} {x : Bool} {a0 : Nat} {i1 : Int32} {i3 : Int32} {s0 : Int32} {h : am_H} {Q : Option Value → am_H → Prop} (H : zX9_isNearHand_47 l g d x a0 i1 i3 s0 h Q) : am_J l g mX9_isNearHand d (0, 0, x) 47 [(0, .ref a0), (1, .int i1), (3, .int i3)] [.int s0] h Q := by
  unfold zX9_isNearHand_47 at H
  refine J_istore_n (L' := [(2, .int s0), (0, .ref a0), (1, .int i1), (3, .int i3)]) dX9_isNearHand_47 (by decide) rfl ?_
  refine J_iinc (v := (i3 + 1)) (L' := [(3, .int (i3 + 1)), (2, .int s0), (0, .ref a0), (1, .int i1)]) dX9_isNearHand_48 3 rfl rfl (by decide) rfl ?_
  refine J_goto (tgt := 8) dX9_isNearHand_51 (by decide) ?_
  exact J_pick [2, 3, 1, 0] rfl H
def zX9_isNearHand_42 (l : Launch) (g : am_G) (d : Nat) (x : Bool) (a0 : Nat) (i1 : Int32) (i3 : Int32) (h : am_H) (Q : Option Value → am_H → Prop) : Prop := zX9_isNearHand_47 l g d x a0 i1 i3 1 h Q
set_option maxRecDepth 4000 in
theorem rX9_isNearHand_42 {l : Launch} {g : am_G} {d : Nat} {x : Bool} {a0 : Nat} {i1 : Int32} {i3 : Int32} {h : am_H} {Q : Option Value → am_H → Prop} (H : zX9_isNearHand_42 l g d x a0 i1 i3 h Q) : am_J l g mX9_isNearHand d (0, 0, x) 42 [(0, .ref a0), (1, .int i1), (3, .int i3)] [] h Q := by
  unfold zX9_isNearHand_42 at H
  refine J_iconst (v := 1) dX9_isNearHand_42 (by decide) ?_
  refine J_goto (tgt := 47) dX9_isNearHand_43 (by decide) ?_
  exact J_pick [0, 1, 2] rfl (rX9_isNearHand_47 H)
def zX9_isNearHand_8 (l : Launch) (g : am_G) (d : Nat) (x : Bool) (a0 : Nat) (i1 : Int32) (i2 : Int32) (i3 : Int32) (h : am_H) (Q : Option Value → am_H → Prop) : Prop := gt_R h a0 9 25 (fun v1 => al_I 0 h v1 i1 (fun v2 => ((((300 * i1) + v2) ≤ i3 → ((i2 = 0 ∨ i2 = 1) ∧ Q (some (.int i2)) h)) ∧ (¬ ((300 * i1) + v2) ≤ i3 → ((¬ i2 = 0 → zX9_isNearHand_42 l g d x a0 i1 i3  h Q) ∧ (i2 = 0 → gt_R h a0 9 33 (fun v3 => gt_R h a0 9 26 (fun v4 => al_I 0 h v4 i3 (fun v5 => al_I 2 h v3 v5 (fun v6 => ((v6 = 0 → zX9_isNearHand_47 l g d x a0 i1 i3 0 h Q) ∧ (¬ v6 = 0 → zX9_isNearHand_42 l g d x a0 i1 i3  h Q))))))))))))
set_option maxRecDepth 4000 in
theorem rX9_isNearHand_8 {l : Launch} {g : am_G} {d : Nat} {x : Bool} {a0 : Nat} {i1 : Int32} {i2 : Int32} {i3 : Int32} {h : am_H} {Q : Option Value → am_H → Prop} (H : zX9_isNearHand_8 l g d x a0 i1 i2 i3 h Q) : am_J l g mX9_isNearHand d (0, 0, x) 8 [(0, .ref a0), (1, .int i1), (2, .int i2), (3, .int i3)] [] h Q := by
  unfold zX9_isNearHand_8 at H
  refine J_iload_n dX9_isNearHand_8 3 rfl ?_
  refine J_sipush (v := 300) dX9_isNearHand_9 (by decide) ?_
  refine J_iload_n dX9_isNearHand_12 1 rfl ?_
  refine J_imul dX9_isNearHand_13 ?_
  refine J_aload_n dX9_isNearHand_14 0 rfl ?_
  obtain ⟨fs, v1, hh, hk, H⟩ := H
  refine J_get dX9_isNearHand_15 fX9_80 hh hk ?_
  clear hh hk
  refine J_iload_n dX9_isNearHand_18 1 rfl ?_
  obtain ⟨nn, ff, hh, hk, H⟩ := H
  refine J_iald dX9_isNearHand_19 hh hk ?_
  generalize ff (Int32.toNatClampNeg i1) = v2 at H ⊢
  clear hh hk ff
  refine J_iadd dX9_isNearHand_20 ?_
  obtain ⟨H1, H2⟩ := H
  refine J_icmp_ge (tgt := 54) dX9_isNearHand_21 (by decide) (fun hc => ?_) (fun hc => ?_)
  · replace H := H1 hc
    clear H1 H2
    refine J_iload_n dX9_isNearHand_54 2 rfl ?_
    obtain ⟨hb, H⟩ := H
    exact J_iret dX9_isNearHand_55 (am_nar01 rfl hb) ⟨Nat.le_of_ble_eq_true rfl, Nat.le_of_ble_eq_true rfl, fun _ => rfl⟩ H
  · replace H := H2 hc
    clear H1 H2
    refine J_iload_n dX9_isNearHand_24 2 rfl ?_
    obtain ⟨H1, H2⟩ := H
    refine J_if_ne (tgt := 42) dX9_isNearHand_25 (by decide) (fun hc => ?_) (fun hc => ?_)
    · replace H := H1 hc
      clear H1 H2
      exact J_pick [0, 1, 3] rfl (rX9_isNearHand_42 H)
    · replace H := H2 hc
      clear H1 H2
      refine J_aload_n dX9_isNearHand_28 0 rfl ?_
      obtain ⟨fs, v3, hh, hk, H⟩ := H
      refine J_get dX9_isNearHand_29 fX9_104 hh hk ?_
      clear hh hk
      refine J_aload_n dX9_isNearHand_32 0 rfl ?_
      obtain ⟨fs, v4, hh, hk, H⟩ := H
      refine J_get dX9_isNearHand_33 fX9_83 hh hk ?_
      clear hh hk
      refine J_iload_n dX9_isNearHand_36 3 rfl ?_
      obtain ⟨nn, ff, hh, hk, H⟩ := H
      refine J_iald dX9_isNearHand_37 hh hk ?_
      generalize ff (Int32.toNatClampNeg i3) = v5 at H ⊢
      clear hh hk ff
      obtain ⟨nn, ff, hh, hk, H⟩ := H
      refine J_zald dX9_isNearHand_38 hh hk ?_
      generalize ff (Int32.toNatClampNeg v5) = v6 at H ⊢
      clear hh hk ff
      obtain ⟨H1, H2⟩ := H
      refine J_if_eq (tgt := 46) dX9_isNearHand_39 (by decide) (fun hc => ?_) (fun hc => ?_)
      · replace H := H1 hc
        clear H1 H2
        refine J_iconst (v := 0) dX9_isNearHand_46 (by decide) ?_
        exact J_pick [0, 1, 3] rfl (rX9_isNearHand_47 H)
      · replace H := H2 hc
        clear H1 H2
        exact J_pick [0, 1, 3] rfl (rX9_isNearHand_42 H)
def zX9_isNearHand_0 (l : Launch) (g : am_G) (d : Nat) (x : Bool) (a0 : Nat) (i1 : Int32) (h : am_H) (Q : Option Value → am_H → Prop) : Prop := am_J l g mX9_isNearHand d (0, 0, x) 8 [(0, .ref a0), (1, .int i1), (2, .int 0), (3, .int (300 * i1))] [] h Q
set_option maxRecDepth 4000 in
theorem rX9_isNearHand_0 {l : Launch} {g : am_G} {d : Nat} {x : Bool} {a0 : Nat} {i1 : Int32} {h : am_H} {Q : Option Value → am_H → Prop} (H : zX9_isNearHand_0 l g d x a0 i1 h Q) : am_J l g mX9_isNearHand d (0, 0, x) 0 [(0, .ref a0), (1, .int i1)] [] h Q := by
  unfold zX9_isNearHand_0 at H
  refine J_iconst (v := 0) dX9_isNearHand_0 (by decide) ?_
  refine J_istore_n (L' := [(2, .int 0), (0, .ref a0), (1, .int i1)]) dX9_isNearHand_1 (by decide) rfl ?_
  refine J_sipush (v := 300) dX9_isNearHand_2 (by decide) ?_
  refine J_iload_n dX9_isNearHand_5 2 rfl ?_
  refine J_imul dX9_isNearHand_6 ?_
  refine J_istore_n (L' := [(3, .int (300 * i1)), (2, .int 0), (0, .ref a0), (1, .int i1)]) dX9_isNearHand_7 (by decide) rfl ?_
  exact J_pick [2, 3, 1, 0] rfl H
theorem eX9_isNearHand {l : Launch} {g : am_G} {d : Nat} {x : Bool} {a0 : Nat} {i1 : Int32} {h : am_H} {K : Int32 → am_H → Prop} (H : zX9_isNearHand_0 l g d x a0 i1 h (fun r h' => ∃ v, r = some (.int v) ∧ K v h')) : cl_I l g mX9_isNearHand d x [.ref a0, .int i1] h K := rX9_isNearHand_0 H
def zX9_nextOpened_50 (l : Launch) (g : am_G) (d : Nat) (x : Bool) (a0 : Nat) (i1 : Int32) (i2 : Int32) (h : am_H) (Q : Option Value → am_H → Prop) : Prop := am_J l g mX9_nextOpened (d + 1) (0, 0, x) 4 [(0, .ref a0), (1, .int i1), (2, .int (i2 + 1))] [] h Q
set_option maxRecDepth 4000 in
theorem rX9_nextOpened_50 {l : Launch} {g : am_G} {d : Nat} {x : Bool} {a0 : Nat} {i1 : Int32} {i2 : Int32} {h : am_H} {Q : Option Value → am_H → Prop} (H : zX9_nextOpened_50 l g d x a0 i1 i2 h Q) : am_J l g mX9_nextOpened (d + 1) (0, 0, x) 50 [(0, .ref a0), (1, .int i1), (2, .int i2)] [] h Q := by
  unfold zX9_nextOpened_50 at H
  refine J_iinc (v := (i2 + 1)) (L' := [(2, .int (i2 + 1)), (0, .ref a0), (1, .int i1)]) dX9_nextOpened_50 2 rfl rfl (by decide) rfl ?_
  refine J_goto (tgt := 4) dX9_nextOpened_53 (by decide) ?_
  exact J_pick [1, 2, 0] rfl H
def zX9_nextOpened_49 (l : Launch) (g : am_G) (d : Nat) (x : Bool) (a0 : Nat) (i2 : Int32) (s0 : Int32) (h : am_H) (Q : Option Value → am_H → Prop) : Prop := zX9_nextOpened_50 l g d x a0 s0 i2  h Q
set_option maxRecDepth 4000 in
theorem rX9_nextOpened_49 {l : Launch} {g : am_G} {d : Nat} {x : Bool} {a0 : Nat} {i2 : Int32} {s0 : Int32} {h : am_H} {Q : Option Value → am_H → Prop} (H : zX9_nextOpened_49 l g d x a0 i2 s0 h Q) : am_J l g mX9_nextOpened (d + 1) (0, 0, x) 49 [(0, .ref a0), (2, .int i2)] [.int s0] h Q := by
  unfold zX9_nextOpened_49 at H
  refine J_istore_n (L' := [(1, .int s0), (0, .ref a0), (2, .int i2)]) dX9_nextOpened_49 (by decide) rfl ?_
  exact J_pick [1, 0, 2] rfl (rX9_nextOpened_50 H)
def zX9_nextOpened_4 (l : Launch) (g : am_G) (d : Nat) (x : Bool) (a0 : Nat) (i1 : Int32) (i2 : Int32) (h : am_H) (Q : Option Value → am_H → Prop) : Prop := gt_I h a0 9 21 (fun v1 => ((v1 ≤ i2 → Q (some (.int i1)) h) ∧ (¬ v1 ≤ i2 → gt_R h a0 9 32 (fun v2 => al_I 2 h v2 i2 (fun v3 => ((v3 = 0 → zX9_nextOpened_50 l g d x a0 i1 i2  h Q) ∧ (¬ v3 = 0 → gt_R h a0 9 34 (fun v4 => al_I 2 h v4 i2 (fun v5 => ((¬ v5 = 0 → zX9_nextOpened_50 l g d x a0 i1 i2  h Q) ∧ (v5 = 0 → cv_I l g mX9_isNearHand d x 9 a0 [.int i2] h (fun v7 h6 => ((v7 = 0 → ((0 ≤ i1 → zX9_nextOpened_49 l g d x a0 i2 i1 h6 Q) ∧ (¬ 0 ≤ i1 → zX9_nextOpened_49 l g d x a0 i2 i2 h6 Q))) ∧ (¬ v7 = 0 → Q (some (.int i2)) h6))))))))))))))
set_option maxRecDepth 4000 in
theorem rX9_nextOpened_4 {l : Launch} {g : am_G} {d : Nat} {x : Bool} {a0 : Nat} {i1 : Int32} {i2 : Int32} {h : am_H} {Q : Option Value → am_H → Prop} (H : zX9_nextOpened_4 l g d x a0 i1 i2 h Q) : am_J l g mX9_nextOpened (d + 1) (0, 0, x) 4 [(0, .ref a0), (1, .int i1), (2, .int i2)] [] h Q := by
  unfold zX9_nextOpened_4 at H
  refine J_iload_n dX9_nextOpened_4 2 rfl ?_
  refine J_aload_n dX9_nextOpened_5 0 rfl ?_
  obtain ⟨fs, v1, hh, hk, H⟩ := H
  refine J_get dX9_nextOpened_6 fX9_201 hh hk ?_
  clear hh hk
  obtain ⟨H1, H2⟩ := H
  refine J_icmp_ge (tgt := 56) dX9_nextOpened_9 (by decide) (fun hc => ?_) (fun hc => ?_)
  · replace H := H1 hc
    clear H1 H2
    refine J_iload_n dX9_nextOpened_56 1 rfl ?_
    exact J_iret dX9_nextOpened_57 ⟨_, rfl, rfl⟩ ⟨Nat.le_of_ble_eq_true rfl, Nat.le_of_ble_eq_true rfl, fun _ => rfl⟩ H
  · replace H := H2 hc
    clear H1 H2
    refine J_aload_n dX9_nextOpened_12 0 rfl ?_
    obtain ⟨fs, v2, hh, hk, H⟩ := H
    refine J_get dX9_nextOpened_13 fX9_101 hh hk ?_
    clear hh hk
    refine J_iload_n dX9_nextOpened_16 2 rfl ?_
    obtain ⟨nn, ff, hh, hk, H⟩ := H
    refine J_zald dX9_nextOpened_17 hh hk ?_
    generalize ff (Int32.toNatClampNeg i2) = v3 at H ⊢
    clear hh hk ff
    obtain ⟨H1, H2⟩ := H
    refine J_if_eq (tgt := 50) dX9_nextOpened_18 (by decide) (fun hc => ?_) (fun hc => ?_)
    · replace H := H1 hc
      clear H1 H2
      exact J_pick [0, 1, 2] rfl (rX9_nextOpened_50 H)
    · replace H := H2 hc
      clear H1 H2
      refine J_aload_n dX9_nextOpened_21 0 rfl ?_
      obtain ⟨fs, v4, hh, hk, H⟩ := H
      refine J_get dX9_nextOpened_22 fX9_107 hh hk ?_
      clear hh hk
      refine J_iload_n dX9_nextOpened_25 2 rfl ?_
      obtain ⟨nn, ff, hh, hk, H⟩ := H
      refine J_zald dX9_nextOpened_26 hh hk ?_
      generalize ff (Int32.toNatClampNeg i2) = v5 at H ⊢
      clear hh hk ff
      obtain ⟨H1, H2⟩ := H
      refine J_if_ne (tgt := 50) dX9_nextOpened_27 (by decide) (fun hc => ?_) (fun hc => ?_)
      · replace H := H1 hc
        clear H1 H2
        exact J_pick [0, 1, 2] rfl (rX9_nextOpened_50 H)
      · replace H := H2 hc
        clear H1 H2
        refine J_aload_n dX9_nextOpened_30 0 rfl ?_
        refine J_iload_n dX9_nextOpened_31 2 rfl ?_
        obtain ⟨⟨fs, hh⟩, H⟩ := H
        refine J_callV (As := [.int i2]) (S := []) (b := a0) dX9_nextOpened_32 mX9_isNearHand_ok kX9_254 rfl (by decide) (Nat.le_of_ble_eq_true rfl) hh rfl rfl (Nat.le_of_ble_eq_true rfl) ⟨Nat.le_of_ble_eq_true rfl, Nat.le_of_ble_eq_true rfl⟩ (fun k h' hp => ?_) H (fun r h6 hp => ?_)
        · obtain ⟨_, hv, -⟩ := hp; cases hv
        obtain ⟨v7, rfl, H⟩ := hp
        show am_J l g mX9_nextOpened (d + 1) (0, 0, x) 35 [(0, .ref a0), (1, .int i1), (2, .int i2)] [.int v7] h6 Q
        obtain ⟨H1, H2⟩ := H
        refine J_if_eq (tgt := 40) dX9_nextOpened_35 (by decide) (fun hc => ?_) (fun hc => ?_)
        · replace H := H1 hc
          clear H1 H2
          refine J_iload_n dX9_nextOpened_40 1 rfl ?_
          obtain ⟨H1, H2⟩ := H
          refine J_if_ge (tgt := 48) dX9_nextOpened_41 (by decide) (fun hc => ?_) (fun hc => ?_)
          · replace H := H1 hc
            clear H1 H2
            refine J_iload_n dX9_nextOpened_48 1 rfl ?_
            exact J_pick [0, 2] rfl (rX9_nextOpened_49 H)
          · replace H := H2 hc
            clear H1 H2
            refine J_iload_n dX9_nextOpened_44 2 rfl ?_
            refine J_goto (tgt := 49) dX9_nextOpened_45 (by decide) ?_
            exact J_pick [0, 2] rfl (rX9_nextOpened_49 H)
        · replace H := H2 hc
          clear H1 H2
          refine J_iload_n dX9_nextOpened_38 2 rfl ?_
          exact J_iret dX9_nextOpened_39 ⟨_, rfl, rfl⟩ ⟨Nat.le_of_ble_eq_true rfl, Nat.le_of_ble_eq_true rfl, fun _ => rfl⟩ H
def zX9_nextOpened_0 (l : Launch) (g : am_G) (d : Nat) (x : Bool) (a0 : Nat) (h : am_H) (Q : Option Value → am_H → Prop) : Prop := am_J l g mX9_nextOpened (d + 1) (0, 0, x) 4 [(0, .ref a0), (1, .int (-1)), (2, .int 0)] [] h Q
set_option maxRecDepth 4000 in
theorem rX9_nextOpened_0 {l : Launch} {g : am_G} {d : Nat} {x : Bool} {a0 : Nat} {h : am_H} {Q : Option Value → am_H → Prop} (H : zX9_nextOpened_0 l g d x a0 h Q) : am_J l g mX9_nextOpened (d + 1) (0, 0, x) 0 [(0, .ref a0)] [] h Q := by
  unfold zX9_nextOpened_0 at H
  refine J_iconst (v := (-1)) dX9_nextOpened_0 (by decide) ?_
  refine J_istore_n (L' := [(1, .int (-1)), (0, .ref a0)]) dX9_nextOpened_1 (by decide) rfl ?_
  refine J_iconst (v := 0) dX9_nextOpened_2 (by decide) ?_
  refine J_istore_n (L' := [(2, .int 0), (1, .int (-1)), (0, .ref a0)]) dX9_nextOpened_3 (by decide) rfl ?_
  exact J_pick [2, 1, 0] rfl H
theorem eX9_nextOpened {l : Launch} {g : am_G} {d : Nat} {x : Bool} {a0 : Nat} {h : am_H} {K : Int32 → am_H → Prop} (H : zX9_nextOpened_0 l g d x a0 h (fun r h' => ∃ v, r = some (.int v) ∧ K v h')) : cl_I l g mX9_nextOpened (d + 1) x [.ref a0] h K := rX9_nextOpened_0 H
def zX9_order_121 (l : Launch) (g : am_G) (d : Nat) (x : Bool) (a0 : Nat) (i1 : Int32) (i2 : Int32) (i3 : Int32) (i4 : Int32) (s0 : Nat) (s1 : Int32) (s2 : Int32) (h : am_H) (Q : Option Value → am_H → Prop) : Prop := ((s2 = 0 ∨ s2 = 1) ∧ as_I 2 h s0 s1 s2 (fun h1 => am_J l g mX9_order (d + 1) (0, 0, x) 81 [(0, .ref a0), (1, .int i1), (2, .int i2), (3, .int i3), (4, .int (i4 + 1))] [] h1 Q))
set_option maxRecDepth 4000 in
theorem rX9_order_121 {l : Launch} {g : am_G} {d : Nat} {x : Bool} {a0 : Nat} {i1 : Int32} {i2 : Int32} {i3 : Int32} {i4 : Int32} {s0 : Nat} {s1 : Int32} {s2 : Int32} {h : am_H} {Q : Option Value → am_H → Prop} (H : zX9_order_121 l g d x a0 i1 i2 i3 i4 s0 s1 s2 h Q) : am_J l g mX9_order (d + 1) (0, 0, x) 121 [(0, .ref a0), (1, .int i1), (2, .int i2), (3, .int i3), (4, .int i4)] [.int s2, .int s1, .ref s0] h Q := by
  unfold zX9_order_121 at H
  obtain ⟨hb, H⟩ := H
  obtain ⟨nn, ff, hh, hk, H⟩ := H
  refine J_zast dX9_order_121 hh hk (by rcases hb with e | e <;> rw [e] <;> rfl) ?_
  generalize List.set h s0 (am_I 2 nn (upd ff (Int32.toNatClampNeg s1) s2)) = h1 at H ⊢
  clear hh hk
  refine J_iinc (v := (i4 + 1)) (L' := [(4, .int (i4 + 1)), (0, .ref a0), (1, .int i1), (2, .int i2), (3, .int i3)]) dX9_order_122 4 rfl rfl (by decide) rfl ?_
  refine J_goto (tgt := 81) dX9_order_125 (by decide) ?_
  exact J_pick [1, 2, 3, 4, 0] rfl H
def zX9_order_116 (l : Launch) (g : am_G) (d : Nat) (x : Bool) (a0 : Nat) (i1 : Int32) (i2 : Int32) (i3 : Int32) (i4 : Int32) (s0 : Nat) (s1 : Int32) (h : am_H) (Q : Option Value → am_H → Prop) : Prop := zX9_order_121 l g d x a0 i1 i2 i3 i4 s0 s1 1 h Q
set_option maxRecDepth 4000 in
theorem rX9_order_116 {l : Launch} {g : am_G} {d : Nat} {x : Bool} {a0 : Nat} {i1 : Int32} {i2 : Int32} {i3 : Int32} {i4 : Int32} {s0 : Nat} {s1 : Int32} {h : am_H} {Q : Option Value → am_H → Prop} (H : zX9_order_116 l g d x a0 i1 i2 i3 i4 s0 s1 h Q) : am_J l g mX9_order (d + 1) (0, 0, x) 116 [(0, .ref a0), (1, .int i1), (2, .int i2), (3, .int i3), (4, .int i4)] [.int s1, .ref s0] h Q := by
  unfold zX9_order_116 at H
  refine J_iconst (v := 1) dX9_order_116 (by decide) ?_
  refine J_goto (tgt := 121) dX9_order_117 (by decide) ?_
  exact J_pick [0, 1, 2, 3, 4] rfl (rX9_order_121 H)
def zX9_order_81 (l : Launch) (g : am_G) (d : Nat) (x : Bool) (a0 : Nat) (i1 : Int32) (i2 : Int32) (i3 : Int32) (i4 : Int32) (h : am_H) (Q : Option Value → am_H → Prop) : Prop := gt_I h a0 9 21 (fun v1 => ((v1 ≤ i4 → cv_I l g mX9_nextOpened d x 9 a0 [] h (fun v3 h2 => am_J l g mX9_order (d + 1) (0, 0, x) 55 [(0, .ref a0), (1, .int i1), (2, .int v3), (3, .int (i3 + 1))] [] h2 Q)) ∧ (¬ v1 ≤ i4 → gt_R h a0 9 33 (fun v4 => gt_R h a0 9 33 (fun v5 => al_I 2 h v5 i4 (fun v6 => ((¬ v6 = 0 → zX9_order_116 l g d x a0 i1 i2 i3 i4 v4 i4 h Q) ∧ (v6 = 0 → cv_I l g mX9_areLinked d x 9 a0 [.int i2, .int i4] h (fun v8 h7 => ((v8 = 0 → zX9_order_121 l g d x a0 i1 i2 i3 i4 v4 i4 0 h7 Q) ∧ (¬ v8 = 0 → zX9_order_116 l g d x a0 i1 i2 i3 i4 v4 i4 h7 Q)))))))))))
set_option maxRecDepth 4000 in
theorem rX9_order_81 {l : Launch} {g : am_G} {d : Nat} {x : Bool} {a0 : Nat} {i1 : Int32} {i2 : Int32} {i3 : Int32} {i4 : Int32} {h : am_H} {Q : Option Value → am_H → Prop} (H : zX9_order_81 l g d x a0 i1 i2 i3 i4 h Q) : am_J l g mX9_order (d + 1) (0, 0, x) 81 [(0, .ref a0), (1, .int i1), (2, .int i2), (3, .int i3), (4, .int i4)] [] h Q := by
  unfold zX9_order_81 at H
  refine J_iload dX9_order_81 4 rfl ?_
  refine J_aload_n dX9_order_83 0 rfl ?_
  obtain ⟨fs, v1, hh, hk, H⟩ := H
  refine J_get dX9_order_84 fX9_201 hh hk ?_
  clear hh hk
  obtain ⟨H1, H2⟩ := H
  refine J_icmp_ge (tgt := 128) dX9_order_87 (by decide) (fun hc => ?_) (fun hc => ?_)
  · replace H := H1 hc
    clear H1 H2
    refine J_aload_n dX9_order_128 0 rfl ?_
    obtain ⟨⟨fs, hh⟩, H⟩ := H
    refine J_callV (As := []) (S := []) (b := a0) dX9_order_129 mX9_nextOpened_ok kX9_257 rfl (by decide) (Nat.le_of_ble_eq_true rfl) hh rfl rfl (Nat.le_of_ble_eq_true rfl) ⟨Nat.le_of_ble_eq_true rfl, Nat.le_of_ble_eq_true rfl⟩ (fun k h' hp => ?_) H (fun r h2 hp => ?_)
    · obtain ⟨_, hv, -⟩ := hp; cases hv
    obtain ⟨v3, rfl, H⟩ := hp
    show am_J l g mX9_order (d + 1) (0, 0, x) 132 [(0, .ref a0), (1, .int i1), (2, .int i2), (3, .int i3), (4, .int i4)] [.int v3] h2 Q
    refine J_istore_n (L' := [(2, .int v3), (0, .ref a0), (1, .int i1), (3, .int i3), (4, .int i4)]) dX9_order_132 (by decide) rfl ?_
    refine J_iinc (v := (i3 + 1)) (L' := [(3, .int (i3 + 1)), (2, .int v3), (0, .ref a0), (1, .int i1), (4, .int i4)]) dX9_order_133 3 rfl rfl (by decide) rfl ?_
    refine J_goto (tgt := 55) dX9_order_136 (by decide) ?_
    exact J_pick [2, 3, 1, 0] rfl H
  · replace H := H2 hc
    clear H1 H2
    refine J_aload_n dX9_order_90 0 rfl ?_
    obtain ⟨fs, v4, hh, hk, H⟩ := H
    refine J_get dX9_order_91 fX9_104 hh hk ?_
    clear hh hk
    refine J_iload dX9_order_94 4 rfl ?_
    refine J_aload_n dX9_order_96 0 rfl ?_
    obtain ⟨fs, v5, hh, hk, H⟩ := H
    refine J_get dX9_order_97 fX9_104 hh hk ?_
    clear hh hk
    refine J_iload dX9_order_100 4 rfl ?_
    obtain ⟨nn, ff, hh, hk, H⟩ := H
    refine J_zald dX9_order_102 hh hk ?_
    generalize ff (Int32.toNatClampNeg i4) = v6 at H ⊢
    clear hh hk ff
    obtain ⟨H1, H2⟩ := H
    refine J_if_ne (tgt := 116) dX9_order_103 (by decide) (fun hc => ?_) (fun hc => ?_)
    · replace H := H1 hc
      clear H1 H2
      exact J_pick [0, 1, 2, 3, 4] rfl (rX9_order_116 H)
    · replace H := H2 hc
      clear H1 H2
      refine J_aload_n dX9_order_106 0 rfl ?_
      refine J_iload_n dX9_order_107 2 rfl ?_
      refine J_iload dX9_order_108 4 rfl ?_
      obtain ⟨⟨fs, hh⟩, H⟩ := H
      refine J_callV (As := [.int i2, .int i4]) (S := [.int i4, .ref v4]) (b := a0) dX9_order_110 mX9_areLinked_ok kX9_229 rfl (by decide) (Nat.le_of_ble_eq_true rfl) hh rfl rfl (Nat.le_of_ble_eq_true rfl) ⟨Nat.le_of_ble_eq_true rfl, Nat.le_of_ble_eq_true rfl⟩ (fun k h' hp => ?_) H (fun r h7 hp => ?_)
      · obtain ⟨_, hv, -⟩ := hp; cases hv
      obtain ⟨v8, rfl, H⟩ := hp
      show am_J l g mX9_order (d + 1) (0, 0, x) 113 [(0, .ref a0), (1, .int i1), (2, .int i2), (3, .int i3), (4, .int i4)] [.int v8, .int i4, .ref v4] h7 Q
      obtain ⟨H1, H2⟩ := H
      refine J_if_eq (tgt := 120) dX9_order_113 (by decide) (fun hc => ?_) (fun hc => ?_)
      · replace H := H1 hc
        clear H1 H2
        refine J_iconst (v := 0) dX9_order_120 (by decide) ?_
        exact J_pick [0, 1, 2, 3, 4] rfl (rX9_order_121 H)
      · replace H := H2 hc
        clear H1 H2
        exact J_pick [0, 1, 2, 3, 4] rfl (rX9_order_116 H)
def zX9_order_55 (l : Launch) (g : am_G) (d : Nat) (x : Bool) (a0 : Nat) (i1 : Int32) (i2 : Int32) (i3 : Int32) (h : am_H) (Q : Option Value → am_H → Prop) : Prop := ((i1 ≤ i3 → Q (some (.int i2)) h) ∧ (¬ i1 ≤ i3 → ((i2 < 0 → Q (some (.int i2)) h) ∧ (¬ i2 < 0 → gt_R h a0 9 34 (fun v1 => as_I 2 h v1 i2 1 (fun h2 => gt_R h2 a0 9 33 (fun v3 => as_I 2 h2 v3 i2 1 (fun h4 => am_J l g mX9_order (d + 1) (0, 0, x) 81 [(0, .ref a0), (1, .int i1), (2, .int i2), (3, .int i3), (4, .int 0)] [] h4 Q))))))))
set_option maxRecDepth 4000 in
theorem rX9_order_55 {l : Launch} {g : am_G} {d : Nat} {x : Bool} {a0 : Nat} {i1 : Int32} {i2 : Int32} {i3 : Int32} {h : am_H} {Q : Option Value → am_H → Prop} (H : zX9_order_55 l g d x a0 i1 i2 i3 h Q) : am_J l g mX9_order (d + 1) (0, 0, x) 55 [(0, .ref a0), (1, .int i1), (2, .int i2), (3, .int i3)] [] h Q := by
  unfold zX9_order_55 at H
  refine J_iload_n dX9_order_55 3 rfl ?_
  refine J_iload_n dX9_order_56 1 rfl ?_
  obtain ⟨H1, H2⟩ := H
  refine J_icmp_ge (tgt := 139) dX9_order_57 (by decide) (fun hc => ?_) (fun hc => ?_)
  · replace H := H1 hc
    clear H1 H2
    refine J_iload_n dX9_order_139 2 rfl ?_
    exact J_iret dX9_order_140 ⟨_, rfl, rfl⟩ ⟨Nat.le_of_ble_eq_true rfl, Nat.le_of_ble_eq_true rfl, fun _ => rfl⟩ H
  · replace H := H2 hc
    clear H1 H2
    refine J_iload_n dX9_order_60 2 rfl ?_
    obtain ⟨H1, H2⟩ := H
    refine J_if_lt (tgt := 139) dX9_order_61 (by decide) (fun hc => ?_) (fun hc => ?_)
    · replace H := H1 hc
      clear H1 H2
      refine J_iload_n dX9_order_139 2 rfl ?_
      exact J_iret dX9_order_140 ⟨_, rfl, rfl⟩ ⟨Nat.le_of_ble_eq_true rfl, Nat.le_of_ble_eq_true rfl, fun _ => rfl⟩ H
    · replace H := H2 hc
      clear H1 H2
      refine J_aload_n dX9_order_64 0 rfl ?_
      obtain ⟨fs, v1, hh, hk, H⟩ := H
      refine J_get dX9_order_65 fX9_107 hh hk ?_
      clear hh hk
      refine J_iload_n dX9_order_68 2 rfl ?_
      refine J_iconst (v := 1) dX9_order_69 (by decide) ?_
      obtain ⟨nn, ff, hh, hk, H⟩ := H
      refine J_zast dX9_order_70 hh hk rfl ?_
      generalize List.set h v1 (am_I 2 nn (upd ff (Int32.toNatClampNeg i2) 1)) = h2 at H ⊢
      clear hh hk
      refine J_aload_n dX9_order_71 0 rfl ?_
      obtain ⟨fs, v3, hh, hk, H⟩ := H
      refine J_get dX9_order_72 fX9_104 hh hk ?_
      clear hh hk
      refine J_iload_n dX9_order_75 2 rfl ?_
      refine J_iconst (v := 1) dX9_order_76 (by decide) ?_
      obtain ⟨nn, ff, hh, hk, H⟩ := H
      refine J_zast dX9_order_77 hh hk rfl ?_
      generalize List.set h2 v3 (am_I 2 nn (upd ff (Int32.toNatClampNeg i2) 1)) = h4 at H ⊢
      clear hh hk
      refine J_iconst (v := 0) dX9_order_78 (by decide) ?_
      refine J_istore (L' := [(4, .int 0), (0, .ref a0), (1, .int i1), (2, .int i2), (3, .int i3)]) dX9_order_79 (by decide) rfl ?_
      exact J_pick [1, 2, 3, 4, 0] rfl H
def zX9_order_20 (l : Launch) (g : am_G) (d : Nat) (x : Bool) (a0 : Nat) (i1 : Int32) (i2 : Int32) (h : am_H) (Q : Option Value → am_H → Prop) : Prop := gt_I h a0 9 21 (fun v1 => ((v1 ≤ i2 → cv_I l g mX9_nextOpened d x 9 a0 [] h (fun v3 h2 => am_J l g mX9_order (d + 1) (0, 0, x) 55 [(0, .ref a0), (1, .int i1), (2, .int v3), (3, .int 0)] [] h2 Q)) ∧ (¬ v1 ≤ i2 → gt_R h a0 9 33 (fun v4 => as_I 2 h v4 i2 0 (fun h5 => gt_R h5 a0 9 34 (fun v6 => as_I 2 h5 v6 i2 0 (fun h7 => am_J l g mX9_order (d + 1) (0, 0, x) 20 [(0, .ref a0), (1, .int i1), (2, .int (i2 + 1))] [] h7 Q)))))))
set_option maxRecDepth 4000 in
theorem rX9_order_20 {l : Launch} {g : am_G} {d : Nat} {x : Bool} {a0 : Nat} {i1 : Int32} {i2 : Int32} {h : am_H} {Q : Option Value → am_H → Prop} (H : zX9_order_20 l g d x a0 i1 i2 h Q) : am_J l g mX9_order (d + 1) (0, 0, x) 20 [(0, .ref a0), (1, .int i1), (2, .int i2)] [] h Q := by
  unfold zX9_order_20 at H
  refine J_iload_n dX9_order_20 2 rfl ?_
  refine J_aload_n dX9_order_21 0 rfl ?_
  obtain ⟨fs, v1, hh, hk, H⟩ := H
  refine J_get dX9_order_22 fX9_201 hh hk ?_
  clear hh hk
  obtain ⟨H1, H2⟩ := H
  refine J_icmp_ge (tgt := 48) dX9_order_25 (by decide) (fun hc => ?_) (fun hc => ?_)
  · replace H := H1 hc
    clear H1 H2
    refine J_aload_n dX9_order_48 0 rfl ?_
    obtain ⟨⟨fs, hh⟩, H⟩ := H
    refine J_callV (As := []) (S := []) (b := a0) dX9_order_49 mX9_nextOpened_ok kX9_257 rfl (by decide) (Nat.le_of_ble_eq_true rfl) hh rfl rfl (Nat.le_of_ble_eq_true rfl) ⟨Nat.le_of_ble_eq_true rfl, Nat.le_of_ble_eq_true rfl⟩ (fun k h' hp => ?_) H (fun r h2 hp => ?_)
    · obtain ⟨_, hv, -⟩ := hp; cases hv
    obtain ⟨v3, rfl, H⟩ := hp
    show am_J l g mX9_order (d + 1) (0, 0, x) 52 [(0, .ref a0), (1, .int i1), (2, .int i2)] [.int v3] h2 Q
    refine J_istore_n (L' := [(2, .int v3), (0, .ref a0), (1, .int i1)]) dX9_order_52 (by decide) rfl ?_
    refine J_iconst (v := 0) dX9_order_53 (by decide) ?_
    refine J_istore_n (L' := [(3, .int 0), (2, .int v3), (0, .ref a0), (1, .int i1)]) dX9_order_54 (by decide) rfl ?_
    exact J_pick [2, 3, 1, 0] rfl H
  · replace H := H2 hc
    clear H1 H2
    refine J_aload_n dX9_order_28 0 rfl ?_
    obtain ⟨fs, v4, hh, hk, H⟩ := H
    refine J_get dX9_order_29 fX9_104 hh hk ?_
    clear hh hk
    refine J_iload_n dX9_order_32 2 rfl ?_
    refine J_iconst (v := 0) dX9_order_33 (by decide) ?_
    obtain ⟨nn, ff, hh, hk, H⟩ := H
    refine J_zast dX9_order_34 hh hk rfl ?_
    generalize List.set h v4 (am_I 2 nn (upd ff (Int32.toNatClampNeg i2) 0)) = h5 at H ⊢
    clear hh hk
    refine J_aload_n dX9_order_35 0 rfl ?_
    obtain ⟨fs, v6, hh, hk, H⟩ := H
    refine J_get dX9_order_36 fX9_107 hh hk ?_
    clear hh hk
    refine J_iload_n dX9_order_39 2 rfl ?_
    refine J_iconst (v := 0) dX9_order_40 (by decide) ?_
    obtain ⟨nn, ff, hh, hk, H⟩ := H
    refine J_zast dX9_order_41 hh hk rfl ?_
    generalize List.set h5 v6 (am_I 2 nn (upd ff (Int32.toNatClampNeg i2) 0)) = h7 at H ⊢
    clear hh hk
    refine J_iinc (v := (i2 + 1)) (L' := [(2, .int (i2 + 1)), (0, .ref a0), (1, .int i1)]) dX9_order_42 2 rfl rfl (by decide) rfl ?_
    refine J_goto (tgt := 20) dX9_order_45 (by decide) ?_
    exact J_pick [1, 2, 0] rfl H
def zX9_order_0 (l : Launch) (g : am_G) (d : Nat) (x : Bool) (a0 : Nat) (i1 : Int32) (h : am_H) (Q : Option Value → am_H → Prop) : Prop := pt_V h a0 9 0 (.int 0) (fun h1 => ((i1 < 0 → Q (some (.int (-1))) h1) ∧ (¬ i1 < 0 → cv_I l g mX9_opens d x 9 a0 [] h1 (fun v3 h2 => ((0 ≤ v3 → am_J l g mX9_order (d + 1) (0, 0, x) 20 [(0, .ref a0), (1, .int i1), (2, .int 0)] [] h2 Q) ∧ (¬ 0 ≤ v3 → Q (some (.int (-1))) h2))))))
set_option maxRecDepth 4000 in
theorem rX9_order_0 {l : Launch} {g : am_G} {d : Nat} {x : Bool} {a0 : Nat} {i1 : Int32} {h : am_H} {Q : Option Value → am_H → Prop} (H : zX9_order_0 l g d x a0 i1 h Q) : am_J l g mX9_order (d + 1) (0, 0, x) 0 [(0, .ref a0), (1, .int i1)] [] h Q := by
  unfold zX9_order_0 at H
  refine J_aload_n dX9_order_0 0 rfl ?_
  refine J_iconst (v := 0) dX9_order_1 (by decide) ?_
  obtain ⟨fs, hh, hk, H⟩ := H
  refine J_put dX9_order_2 fX9_1 rfl rfl hh hk ?_
  generalize List.set h a0 (am_O 9 (List.set fs 0 (.int 0))) = h1 at H ⊢
  clear hh hk
  refine J_iload_n dX9_order_5 1 rfl ?_
  obtain ⟨H1, H2⟩ := H
  refine J_if_lt (tgt := 16) dX9_order_6 (by decide) (fun hc => ?_) (fun hc => ?_)
  · replace H := H1 hc
    clear H1 H2
    refine J_iconst (v := (-1)) dX9_order_16 (by decide) ?_
    exact J_iret dX9_order_17 ⟨_, rfl, rfl⟩ ⟨Nat.le_of_ble_eq_true rfl, Nat.le_of_ble_eq_true rfl, fun _ => rfl⟩ H
  · replace H := H2 hc
    clear H1 H2
    refine J_aload_n dX9_order_9 0 rfl ?_
    obtain ⟨⟨fs, hh⟩, H⟩ := H
    refine J_callV (As := []) (S := []) (b := a0) dX9_order_10 mX9_opens_ok kX9_251 rfl (by decide) (Nat.le_of_ble_eq_true rfl) hh rfl rfl (Nat.le_of_ble_eq_true rfl) ⟨Nat.le_of_ble_eq_true rfl, Nat.le_of_ble_eq_true rfl⟩ (fun k h' hp => ?_) H (fun r h2 hp => ?_)
    · obtain ⟨_, hv, -⟩ := hp; cases hv
    obtain ⟨v3, rfl, H⟩ := hp
    show am_J l g mX9_order (d + 1) (0, 0, x) 13 [(0, .ref a0), (1, .int i1)] [.int v3] h2 Q
    obtain ⟨H1, H2⟩ := H
    refine J_if_ge (tgt := 18) dX9_order_13 (by decide) (fun hc => ?_) (fun hc => ?_)
    · replace H := H1 hc
      clear H1 H2
      refine J_iconst (v := 0) dX9_order_18 (by decide) ?_
      refine J_istore_n (L' := [(2, .int 0), (0, .ref a0), (1, .int i1)]) dX9_order_19 (by decide) rfl ?_
      exact J_pick [1, 2, 0] rfl H
    · replace H := H2 hc
      clear H1 H2
      refine J_iconst (v := (-1)) dX9_order_16 (by decide) ?_
      exact J_iret dX9_order_17 ⟨_, rfl, rfl⟩ ⟨Nat.le_of_ble_eq_true rfl, Nat.le_of_ble_eq_true rfl, fun _ => rfl⟩ H
theorem eX9_order {l : Launch} {g : am_G} {d : Nat} {x : Bool} {a0 : Nat} {i1 : Int32} {h : am_H} {K : Int32 → am_H → Prop} (H : zX9_order_0 l g d x a0 i1 h (fun r h' => ∃ v, r = some (.int v) ∧ K v h')) : cl_I l g mX9_order (d + 1) x [.ref a0, .int i1] h K := rX9_order_0 H
def zX9_sizes_0 (l : Launch) (g : am_G) (d : Nat) (x : Bool) (a0 : Nat) (i1 : Int32) (i2 : Int32) (i3 : Int32) (h : am_H) (Q : Option Value → am_H → Prop) : Prop := pt_V h a0 9 0 (.int 0) (fun h1 => ((i1 < 1 → Q (some (.int 0)) h1) ∧ (¬ i1 < 1 → ((999 < i1 → Q (some (.int 0)) h1) ∧ (¬ 999 < i1 → ((i2 < 1 → Q (some (.int 0)) h1) ∧ (¬ i2 < 1 → ((9999 < i2 → Q (some (.int 0)) h1) ∧ (¬ 9999 < i2 → ((i3 < 1 → Q (some (.int 0)) h1) ∧ (¬ i3 < 1 → ((i3 ≤ 99 → pt_V h1 a0 9 35 (.int i1) (fun h2 => pt_V h2 a0 9 36 (.int i2) (fun h3 => pt_V h3 a0 9 37 (.int i3) (fun h4 => Q (some (.int 1)) h4)))) ∧ (¬ i3 ≤ 99 → Q (some (.int 0)) h1)))))))))))))
set_option maxRecDepth 4000 in
theorem rX9_sizes_0 {l : Launch} {g : am_G} {d : Nat} {x : Bool} {a0 : Nat} {i1 : Int32} {i2 : Int32} {i3 : Int32} {h : am_H} {Q : Option Value → am_H → Prop} (H : zX9_sizes_0 l g d x a0 i1 i2 i3 h Q) : am_J l g mX9_sizes d (0, 0, x) 0 [(0, .ref a0), (1, .int i1), (2, .int i2), (3, .int i3)] [] h Q := by
  unfold zX9_sizes_0 at H
  refine J_aload_n dX9_sizes_0 0 rfl ?_
  refine J_iconst (v := 0) dX9_sizes_1 (by decide) ?_
  obtain ⟨fs, hh, hk, H⟩ := H
  refine J_put dX9_sizes_2 fX9_1 rfl rfl hh hk ?_
  generalize List.set h a0 (am_O 9 (List.set fs 0 (.int 0))) = h1 at H ⊢
  clear hh hk
  refine J_iload_n dX9_sizes_5 1 rfl ?_
  refine J_iconst (v := 1) dX9_sizes_6 (by decide) ?_
  obtain ⟨H1, H2⟩ := H
  refine J_icmp_lt (tgt := 40) dX9_sizes_7 (by decide) (fun hc => ?_) (fun hc => ?_)
  · replace H := H1 hc
    clear H1 H2
    refine J_iconst (v := 0) dX9_sizes_40 (by decide) ?_
    exact J_iret dX9_sizes_41 ⟨_, rfl, rfl⟩ ⟨Nat.le_of_ble_eq_true rfl, Nat.le_of_ble_eq_true rfl, fun _ => rfl⟩ H
  · replace H := H2 hc
    clear H1 H2
    refine J_iload_n dX9_sizes_10 1 rfl ?_
    refine J_sipush (v := 999) dX9_sizes_11 (by decide) ?_
    obtain ⟨H1, H2⟩ := H
    refine J_icmp_gt (tgt := 40) dX9_sizes_14 (by decide) (fun hc => ?_) (fun hc => ?_)
    · replace H := H1 hc
      clear H1 H2
      refine J_iconst (v := 0) dX9_sizes_40 (by decide) ?_
      exact J_iret dX9_sizes_41 ⟨_, rfl, rfl⟩ ⟨Nat.le_of_ble_eq_true rfl, Nat.le_of_ble_eq_true rfl, fun _ => rfl⟩ H
    · replace H := H2 hc
      clear H1 H2
      refine J_iload_n dX9_sizes_17 2 rfl ?_
      refine J_iconst (v := 1) dX9_sizes_18 (by decide) ?_
      obtain ⟨H1, H2⟩ := H
      refine J_icmp_lt (tgt := 40) dX9_sizes_19 (by decide) (fun hc => ?_) (fun hc => ?_)
      · replace H := H1 hc
        clear H1 H2
        refine J_iconst (v := 0) dX9_sizes_40 (by decide) ?_
        exact J_iret dX9_sizes_41 ⟨_, rfl, rfl⟩ ⟨Nat.le_of_ble_eq_true rfl, Nat.le_of_ble_eq_true rfl, fun _ => rfl⟩ H
      · replace H := H2 hc
        clear H1 H2
        refine J_iload_n dX9_sizes_22 2 rfl ?_
        refine J_sipush (v := 9999) dX9_sizes_23 (by decide) ?_
        obtain ⟨H1, H2⟩ := H
        refine J_icmp_gt (tgt := 40) dX9_sizes_26 (by decide) (fun hc => ?_) (fun hc => ?_)
        · replace H := H1 hc
          clear H1 H2
          refine J_iconst (v := 0) dX9_sizes_40 (by decide) ?_
          exact J_iret dX9_sizes_41 ⟨_, rfl, rfl⟩ ⟨Nat.le_of_ble_eq_true rfl, Nat.le_of_ble_eq_true rfl, fun _ => rfl⟩ H
        · replace H := H2 hc
          clear H1 H2
          refine J_iload_n dX9_sizes_29 3 rfl ?_
          refine J_iconst (v := 1) dX9_sizes_30 (by decide) ?_
          obtain ⟨H1, H2⟩ := H
          refine J_icmp_lt (tgt := 40) dX9_sizes_31 (by decide) (fun hc => ?_) (fun hc => ?_)
          · replace H := H1 hc
            clear H1 H2
            refine J_iconst (v := 0) dX9_sizes_40 (by decide) ?_
            exact J_iret dX9_sizes_41 ⟨_, rfl, rfl⟩ ⟨Nat.le_of_ble_eq_true rfl, Nat.le_of_ble_eq_true rfl, fun _ => rfl⟩ H
          · replace H := H2 hc
            clear H1 H2
            refine J_iload_n dX9_sizes_34 3 rfl ?_
            refine J_bipush (v := 99) dX9_sizes_35 (by decide) ?_
            obtain ⟨H1, H2⟩ := H
            refine J_icmp_le (tgt := 42) dX9_sizes_37 (by decide) (fun hc => ?_) (fun hc => ?_)
            · replace H := H1 hc
              clear H1 H2
              refine J_aload_n dX9_sizes_42 0 rfl ?_
              refine J_iload_n dX9_sizes_43 1 rfl ?_
              obtain ⟨fs, hh, hk, H⟩ := H
              refine J_put dX9_sizes_44 fX9_110 rfl rfl hh hk ?_
              generalize List.set h1 a0 (am_O 9 (List.set fs 35 (.int i1))) = h2 at H ⊢
              clear hh hk
              refine J_aload_n dX9_sizes_47 0 rfl ?_
              refine J_iload_n dX9_sizes_48 2 rfl ?_
              obtain ⟨fs, hh, hk, H⟩ := H
              refine J_put dX9_sizes_49 fX9_113 rfl rfl hh hk ?_
              generalize List.set h2 a0 (am_O 9 (List.set fs 36 (.int i2))) = h3 at H ⊢
              clear hh hk
              refine J_aload_n dX9_sizes_52 0 rfl ?_
              refine J_iload_n dX9_sizes_53 3 rfl ?_
              obtain ⟨fs, hh, hk, H⟩ := H
              refine J_put dX9_sizes_54 fX9_116 rfl rfl hh hk ?_
              generalize List.set h3 a0 (am_O 9 (List.set fs 37 (.int i3))) = h4 at H ⊢
              clear hh hk
              refine J_iconst (v := 1) dX9_sizes_57 (by decide) ?_
              exact J_iret dX9_sizes_58 ⟨_, rfl, rfl⟩ ⟨Nat.le_of_ble_eq_true rfl, Nat.le_of_ble_eq_true rfl, fun _ => rfl⟩ H
            · replace H := H2 hc
              clear H1 H2
              refine J_iconst (v := 0) dX9_sizes_40 (by decide) ?_
              exact J_iret dX9_sizes_41 ⟨_, rfl, rfl⟩ ⟨Nat.le_of_ble_eq_true rfl, Nat.le_of_ble_eq_true rfl, fun _ => rfl⟩ H
theorem eX9_sizes {l : Launch} {g : am_G} {d : Nat} {x : Bool} {a0 : Nat} {i1 : Int32} {i2 : Int32} {i3 : Int32} {h : am_H} {K : Int32 → am_H → Prop} (H : zX9_sizes_0 l g d x a0 i1 i2 i3 h (fun r h' => ∃ v, r = some (.int v) ∧ K v h')) : cl_I l g mX9_sizes d x [.ref a0, .int i1, .int i2, .int i3] h K := rX9_sizes_0 H
def zX9_times_0 (l : Launch) (g : am_G) (d : Nat) (x : Bool) (i0 : Int32) (h : am_H) (Q : Option Value → am_H → Prop) : Prop := ((Int32.toInt i0 < 0 ∨ 7 < Int32.toInt i0 → Q (some (.int (3304 + (400 * (i0 - 8))))) h) ∧ (i0 = 0 → Q (some (.int 0)) h) ∧ (i0 = 1 → Q (some (.int 1000)) h) ∧ (i0 = 2 → Q (some (.int 2000)) h) ∧ (i0 = 3 → Q (some (.int 2155)) h) ∧ (i0 = 4 → Q (some (.int 2414)) h) ∧ (i0 = 5 → Q (some (.int 2701)) h) ∧ (i0 = 6 → Q (some (.int 3000)) h) ∧ (i0 = 7 → Q (some (.int 3000)) h))
set_option maxRecDepth 4000 in
theorem rX9_times_0 {l : Launch} {g : am_G} {d : Nat} {x : Bool} {i0 : Int32} {h : am_H} {Q : Option Value → am_H → Prop} (H : zX9_times_0 l g d x i0 h Q) : am_J l g mX9_times d (0, 0, x) 0 [(0, .int i0)] [] h Q := by
  unfold zX9_times_0 at H
  refine J_iload_n dX9_times_0 0 rfl ?_
  obtain ⟨H0, H⟩ := H
  by_cases hsw : Int32.toInt i0 < 0 ∨ 7 < Int32.toInt i0
  · replace H := H0 hsw
    refine J_tableOut (tgt := 74) dX9_times_1 hsw (by decide) ?_
    refine J_sipush (v := 3304) dX9_times_74 (by decide) ?_
    refine J_sipush (v := 400) dX9_times_77 (by decide) ?_
    refine J_iload_n dX9_times_80 0 rfl ?_
    refine J_bipush (v := 8) dX9_times_81 (by decide) ?_
    refine J_isub dX9_times_83 ?_
    refine J_imul dX9_times_84 ?_
    refine J_iadd dX9_times_85 ?_
    exact J_iret dX9_times_86 ⟨_, rfl, rfl⟩ ⟨Nat.le_of_ble_eq_true rfl, Nat.le_of_ble_eq_true rfl, fun _ => rfl⟩ H
  · rcases am_sw_0_7 hsw with he | he | he | he | he | he | he | he
    · replace H := H.1 he
      refine J_tableIn (off := 47) (tgt := 48) dX9_times_1 (by rw [he]; decide) (by rw [he]; decide) (by rw [he]; decide) (by decide) ?_
      refine J_iconst (v := 0) dX9_times_48 (by decide) ?_
      exact J_iret dX9_times_49 ⟨_, rfl, rfl⟩ ⟨Nat.le_of_ble_eq_true rfl, Nat.le_of_ble_eq_true rfl, fun _ => rfl⟩ H
    · replace H := H.2.1 he
      refine J_tableIn (off := 49) (tgt := 50) dX9_times_1 (by rw [he]; decide) (by rw [he]; decide) (by rw [he]; decide) (by decide) ?_
      refine J_sipush (v := 1000) dX9_times_50 (by decide) ?_
      exact J_iret dX9_times_53 ⟨_, rfl, rfl⟩ ⟨Nat.le_of_ble_eq_true rfl, Nat.le_of_ble_eq_true rfl, fun _ => rfl⟩ H
    · replace H := H.2.2.1 he
      refine J_tableIn (off := 53) (tgt := 54) dX9_times_1 (by rw [he]; decide) (by rw [he]; decide) (by rw [he]; decide) (by decide) ?_
      refine J_sipush (v := 2000) dX9_times_54 (by decide) ?_
      exact J_iret dX9_times_57 ⟨_, rfl, rfl⟩ ⟨Nat.le_of_ble_eq_true rfl, Nat.le_of_ble_eq_true rfl, fun _ => rfl⟩ H
    · replace H := H.2.2.2.1 he
      refine J_tableIn (off := 57) (tgt := 58) dX9_times_1 (by rw [he]; decide) (by rw [he]; decide) (by rw [he]; decide) (by decide) ?_
      refine J_sipush (v := 2155) dX9_times_58 (by decide) ?_
      exact J_iret dX9_times_61 ⟨_, rfl, rfl⟩ ⟨Nat.le_of_ble_eq_true rfl, Nat.le_of_ble_eq_true rfl, fun _ => rfl⟩ H
    · replace H := H.2.2.2.2.1 he
      refine J_tableIn (off := 61) (tgt := 62) dX9_times_1 (by rw [he]; decide) (by rw [he]; decide) (by rw [he]; decide) (by decide) ?_
      refine J_sipush (v := 2414) dX9_times_62 (by decide) ?_
      exact J_iret dX9_times_65 ⟨_, rfl, rfl⟩ ⟨Nat.le_of_ble_eq_true rfl, Nat.le_of_ble_eq_true rfl, fun _ => rfl⟩ H
    · replace H := H.2.2.2.2.2.1 he
      refine J_tableIn (off := 65) (tgt := 66) dX9_times_1 (by rw [he]; decide) (by rw [he]; decide) (by rw [he]; decide) (by decide) ?_
      refine J_sipush (v := 2701) dX9_times_66 (by decide) ?_
      exact J_iret dX9_times_69 ⟨_, rfl, rfl⟩ ⟨Nat.le_of_ble_eq_true rfl, Nat.le_of_ble_eq_true rfl, fun _ => rfl⟩ H
    · replace H := H.2.2.2.2.2.2.1 he
      refine J_tableIn (off := 69) (tgt := 70) dX9_times_1 (by rw [he]; decide) (by rw [he]; decide) (by rw [he]; decide) (by decide) ?_
      refine J_sipush (v := 3000) dX9_times_70 (by decide) ?_
      exact J_iret dX9_times_73 ⟨_, rfl, rfl⟩ ⟨Nat.le_of_ble_eq_true rfl, Nat.le_of_ble_eq_true rfl, fun _ => rfl⟩ H
    · replace H := H.2.2.2.2.2.2.2 he
      refine J_tableIn (off := 69) (tgt := 70) dX9_times_1 (by rw [he]; decide) (by rw [he]; decide) (by rw [he]; decide) (by decide) ?_
      refine J_sipush (v := 3000) dX9_times_70 (by decide) ?_
      exact J_iret dX9_times_73 ⟨_, rfl, rfl⟩ ⟨Nat.le_of_ble_eq_true rfl, Nat.le_of_ble_eq_true rfl, fun _ => rfl⟩ H
theorem eX9_times {l : Launch} {g : am_G} {d : Nat} {x : Bool} {i0 : Int32} {h : am_H} {K : Int32 → am_H → Prop} (H : zX9_times_0 l g d x i0 h (fun r h' => ∃ v, r = some (.int v) ∧ K v h')) : cl_I l g mX9_times d x [.int i0] h K := rX9_times_0 H
def zX9_binds_0 (l : Launch) (g : am_G) (d : Nat) (x : Bool) (a0 : Nat) (i1 : Int32) (h : am_H) (Q : Option Value → am_H → Prop) : Prop := gt_I h a0 9 36 (fun v1 => gt_I h a0 9 35 (fun v2 => cv_I l g mX9_linksOf d x 9 a0 [.int i1] h (fun v4 h3 => cs_I l g mX9_times d x [.int v4] h3 (fun v6 h5 => (((v2 * v6) ≤ (1000 * v1) → Q (some (.int 0)) h5) ∧ (¬ (v2 * v6) ≤ (1000 * v1) → Q (some (.int 1)) h5))))))
set_option maxRecDepth 4000 in
theorem rX9_binds_0 {l : Launch} {g : am_G} {d : Nat} {x : Bool} {a0 : Nat} {i1 : Int32} {h : am_H} {Q : Option Value → am_H → Prop} (H : zX9_binds_0 l g d x a0 i1 h Q) : am_J l g mX9_binds (d + 1) (0, 0, x) 0 [(0, .ref a0), (1, .int i1)] [] h Q := by
  unfold zX9_binds_0 at H
  refine J_sipush (v := 1000) dX9_binds_0 (by decide) ?_
  refine J_aload_n dX9_binds_3 0 rfl ?_
  obtain ⟨fs, v1, hh, hk, H⟩ := H
  refine J_get dX9_binds_4 fX9_113 hh hk ?_
  clear hh hk
  refine J_imul dX9_binds_7 ?_
  refine J_aload_n dX9_binds_8 0 rfl ?_
  obtain ⟨fs, v2, hh, hk, H⟩ := H
  refine J_get dX9_binds_9 fX9_110 hh hk ?_
  clear hh hk
  refine J_aload_n dX9_binds_12 0 rfl ?_
  refine J_iload_n dX9_binds_13 1 rfl ?_
  obtain ⟨⟨fs, hh⟩, H⟩ := H
  refine J_callV (As := [.int i1]) (S := [.int v2, .int (1000 * v1)]) (b := a0) dX9_binds_14 mX9_linksOf_ok kX9_226 rfl (by decide) (Nat.le_of_ble_eq_true rfl) hh rfl rfl (Nat.le_of_ble_eq_true rfl) ⟨Nat.le_of_ble_eq_true rfl, Nat.le_of_ble_eq_true rfl⟩ (fun k h' hp => ?_) H (fun r h3 hp => ?_)
  · obtain ⟨_, hv, -⟩ := hp; cases hv
  obtain ⟨v4, rfl, H⟩ := hp
  show am_J l g mX9_binds (d + 1) (0, 0, x) 17 [(0, .ref a0), (1, .int i1)] [.int v4, .int v2, .int (1000 * v1)] h3 Q
  refine J_callS (As := [.int v4]) (S := [.int v2, .int (1000 * v1)]) dX9_binds_17 mX9_times_ok kX9_260 rfl (by decide) (Nat.le_of_ble_eq_true rfl) rfl (Nat.le_of_ble_eq_true rfl) ⟨Nat.le_of_ble_eq_true rfl, Nat.le_of_ble_eq_true rfl⟩ (fun k h' hp => ?_) H (fun r h5 hp => ?_)
  · obtain ⟨_, hv, -⟩ := hp; cases hv
  obtain ⟨v6, rfl, H⟩ := hp
  show am_J l g mX9_binds (d + 1) (0, 0, x) 20 [(0, .ref a0), (1, .int i1)] [.int v6, .int v2, .int (1000 * v1)] h5 Q
  refine J_imul dX9_binds_20 ?_
  obtain ⟨H1, H2⟩ := H
  refine J_icmp_ge (tgt := 28) dX9_binds_21 (by decide) (fun hc => ?_) (fun hc => ?_)
  · replace H := H1 hc
    clear H1 H2
    refine J_iconst (v := 0) dX9_binds_28 (by decide) ?_
    exact J_iret dX9_binds_29 ⟨_, rfl, rfl⟩ ⟨Nat.le_of_ble_eq_true rfl, Nat.le_of_ble_eq_true rfl, fun _ => rfl⟩ H
  · replace H := H2 hc
    clear H1 H2
    refine J_iconst (v := 1) dX9_binds_24 (by decide) ?_
    refine J_goto (tgt := 29) dX9_binds_25 (by decide) ?_
    exact J_iret dX9_binds_29 ⟨_, rfl, rfl⟩ ⟨Nat.le_of_ble_eq_true rfl, Nat.le_of_ble_eq_true rfl, fun _ => rfl⟩ H
theorem eX9_binds {l : Launch} {g : am_G} {d : Nat} {x : Bool} {a0 : Nat} {i1 : Int32} {h : am_H} {K : Int32 → am_H → Prop} (H : zX9_binds_0 l g d x a0 i1 h (fun r h' => ∃ v, r = some (.int v) ∧ K v h')) : cl_I l g mX9_binds (d + 1) x [.ref a0, .int i1] h K := rX9_binds_0 H
