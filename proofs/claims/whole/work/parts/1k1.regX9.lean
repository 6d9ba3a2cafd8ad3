def zX9_init_230 (l : Launch) (g : am_G) (d : Nat) (a0 : Nat) (h : am_H) (Q : Option Value → am_H → Prop) : Prop := pt_V (h ++ [am_I 2 300 (fun _ => 0)]) a0 9 33 (.ref ((h).length)) (fun h1 => pt_V (h1 ++ [am_I 2 300 (fun _ => 0)]) a0 9 34 (.ref ((h1).length)) (fun h2 => pt_V h2 a0 9 35 (.int 100) (fun h3 => pt_V h3 a0 9 36 (.int 400) (fun h4 => pt_V h4 a0 9 37 (.int 8) (fun h5 => Q none h5)))))
set_option maxRecDepth 4000 in
theorem rX9_init_230 {l : Launch} {g : am_G} {d : Nat} {a0 : Nat} {h : am_H} {Q : Option Value → am_H → Prop} (H : zX9_init_230 l g d a0 h Q) : am_J l g mX9_init (d + 1) (24, 187088, true) 230 [(0, .ref a0)] [] h Q := by
  unfold zX9_init_230 at H
  refine J_aload_n dX9_init_230 0 rfl ?_
  refine J_sipush (v := 300) dX9_init_231 (by decide) ?_
  refine J_newaI (t := 2) (N' := 300) (ty := .boolean) dX9_init_234 rfl aw_boolean (by decide) (by decide +kernel) (by decide +kernel) (by decide +kernel) ⟨by decide +kernel, by decide +kernel⟩ ?_
  show am_J l g mX9_init (d + 1) (25, 187388, true) 236 [(0, .ref a0)] [.ref ((h).length), .ref a0] (h ++ [am_I 2 300 (fun _ => 0)]) Q
  obtain ⟨fs, hh, hk, H⟩ := H
  refine J_putF dX9_init_236 fX9_104 rfl rfl rfl rfl hh hk ?_
  generalize List.set (h ++ [am_I 2 300 (fun _ => 0)]) a0 (am_O 9 (List.set fs 33 (.ref ((h).length)))) = h1 at H ⊢
  clear hh hk
  refine J_aload_n dX9_init_239 0 rfl ?_
  refine J_sipush (v := 300) dX9_init_240 (by decide) ?_
  refine J_newaI (t := 2) (N' := 300) (ty := .boolean) dX9_init_243 rfl aw_boolean (by decide) (by decide +kernel) (by decide +kernel) (by decide +kernel) ⟨by decide +kernel, by decide +kernel⟩ ?_
  show am_J l g mX9_init (d + 1) (26, 187688, true) 245 [(0, .ref a0)] [.ref ((h1).length), .ref a0] (h1 ++ [am_I 2 300 (fun _ => 0)]) Q
  obtain ⟨fs, hh, hk, H⟩ := H
  refine J_putF dX9_init_245 fX9_107 rfl rfl rfl rfl hh hk ?_
  generalize List.set (h1 ++ [am_I 2 300 (fun _ => 0)]) a0 (am_O 9 (List.set fs 34 (.ref ((h1).length)))) = h2 at H ⊢
  clear hh hk
  refine J_aload_n dX9_init_248 0 rfl ?_
  refine J_bipush (v := 100) dX9_init_249 (by decide) ?_
  obtain ⟨fs, hh, hk, H⟩ := H
  refine J_put dX9_init_251 fX9_110 rfl rfl hh hk ?_
  generalize List.set h2 a0 (am_O 9 (List.set fs 35 (.int 100))) = h3 at H ⊢
  clear hh hk
  refine J_aload_n dX9_init_254 0 rfl ?_
  refine J_sipush (v := 400) dX9_init_255 (by decide) ?_
  obtain ⟨fs, hh, hk, H⟩ := H
  refine J_put dX9_init_258 fX9_113 rfl rfl hh hk ?_
  generalize List.set h3 a0 (am_O 9 (List.set fs 36 (.int 400))) = h4 at H ⊢
  clear hh hk
  refine J_aload_n dX9_init_261 0 rfl ?_
  refine J_bipush (v := 8) dX9_init_262 (by decide) ?_
  obtain ⟨fs, hh, hk, H⟩ := H
  refine J_put dX9_init_264 fX9_116 rfl rfl hh hk ?_
  generalize List.set h4 a0 (am_O 9 (List.set fs 37 (.int 8))) = h5 at H ⊢
  clear hh hk
  exact J_vret dX9_init_267 rfl ⟨by decide +kernel, by decide +kernel, fun _ => by decide +kernel⟩ H
def zX9_init_194 (l : Launch) (g : am_G) (d : Nat) (a0 : Nat) (h : am_H) (Q : Option Value → am_H → Prop) : Prop := pt_V (h ++ [am_I 0 300 (fun _ => 0)]) a0 9 29 (.ref ((h).length)) (fun h1 => pt_V (h1 ++ [am_I 0 300 (fun _ => 0)]) a0 9 30 (.ref ((h1).length)) (fun h2 => pt_V (h2 ++ [am_I 2 300 (fun _ => 0)]) a0 9 31 (.ref ((h2).length)) (fun h3 => pt_V (h3 ++ [am_I 2 300 (fun _ => 0)]) a0 9 32 (.ref ((h3).length)) (fun h4 => zX9_init_230 l g d a0  h4 Q))))
set_option maxRecDepth 4000 in
theorem rX9_init_194 {l : Launch} {g : am_G} {d : Nat} {a0 : Nat} {h : am_H} {Q : Option Value → am_H → Prop} (H : zX9_init_194 l g d a0 h Q) : am_J l g mX9_init (d + 1) (20, 185888, true) 194 [(0, .ref a0)] [] h Q := by
  unfold zX9_init_194 at H
  refine J_aload_n dX9_init_194 0 rfl ?_
  refine J_sipush (v := 300) dX9_init_195 (by decide) ?_
  refine J_newaI (t := 0) (N' := 300) (ty := .int) dX9_init_198 rfl aw_int (by decide) (by decide +kernel) (by decide +kernel) (by decide +kernel) ⟨by decide +kernel, by decide +kernel⟩ ?_
  show am_J l g mX9_init (d + 1) (21, 186188, true) 200 [(0, .ref a0)] [.ref ((h).length), .ref a0] (h ++ [am_I 0 300 (fun _ => 0)]) Q
  obtain ⟨fs, hh, hk, H⟩ := H
  refine J_putF dX9_init_200 fX9_92 rfl rfl rfl rfl hh hk ?_
  generalize List.set (h ++ [am_I 0 300 (fun _ => 0)]) a0 (am_O 9 (List.set fs 29 (.ref ((h).length)))) = h1 at H ⊢
  clear hh hk
  refine J_aload_n dX9_init_203 0 rfl ?_
  refine J_sipush (v := 300) dX9_init_204 (by decide) ?_
  refine J_newaI (t := 0) (N' := 300) (ty := .int) dX9_init_207 rfl aw_int (by decide) (by decide +kernel) (by decide +kernel) (by decide +kernel) ⟨by decide +kernel, by decide +kernel⟩ ?_
  show am_J l g mX9_init (d + 1) (22, 186488, true) 209 [(0, .ref a0)] [.ref ((h1).length), .ref a0] (h1 ++ [am_I 0 300 (fun _ => 0)]) Q
  obtain ⟨fs, hh, hk, H⟩ := H
  refine J_putF dX9_init_209 fX9_95 rfl rfl rfl rfl hh hk ?_
  generalize List.set (h1 ++ [am_I 0 300 (fun _ => 0)]) a0 (am_O 9 (List.set fs 30 (.ref ((h1).length)))) = h2 at H ⊢
  clear hh hk
  refine J_aload_n dX9_init_212 0 rfl ?_
  refine J_sipush (v := 300) dX9_init_213 (by decide) ?_
  refine J_newaI (t := 2) (N' := 300) (ty := .boolean) dX9_init_216 rfl aw_boolean (by decide) (by decide +kernel) (by decide +kernel) (by decide +kernel) ⟨by decide +kernel, by decide +kernel⟩ ?_
  show am_J l g mX9_init (d + 1) (23, 186788, true) 218 [(0, .ref a0)] [.ref ((h2).length), .ref a0] (h2 ++ [am_I 2 300 (fun _ => 0)]) Q
  obtain ⟨fs, hh, hk, H⟩ := H
  refine J_putF dX9_init_218 fX9_98 rfl rfl rfl rfl hh hk ?_
  generalize List.set (h2 ++ [am_I 2 300 (fun _ => 0)]) a0 (am_O 9 (List.set fs 31 (.ref ((h2).length)))) = h3 at H ⊢
  clear hh hk
  refine J_aload_n dX9_init_221 0 rfl ?_
  refine J_sipush (v := 300) dX9_init_222 (by decide) ?_
  refine J_newaI (t := 2) (N' := 300) (ty := .boolean) dX9_init_225 rfl aw_boolean (by decide) (by decide +kernel) (by decide +kernel) (by decide +kernel) ⟨by decide +kernel, by decide +kernel⟩ ?_
  show am_J l g mX9_init (d + 1) (24, 187088, true) 227 [(0, .ref a0)] [.ref ((h3).length), .ref a0] (h3 ++ [am_I 2 300 (fun _ => 0)]) Q
  obtain ⟨fs, hh, hk, H⟩ := H
  refine J_putF dX9_init_227 fX9_101 rfl rfl rfl rfl hh hk ?_
  generalize List.set (h3 ++ [am_I 2 300 (fun _ => 0)]) a0 (am_O 9 (List.set fs 32 (.ref ((h3).length)))) = h4 at H ⊢
  clear hh hk
  exact J_pick [0] rfl (rX9_init_230 H)
def zX9_init_159 (l : Launch) (g : am_G) (d : Nat) (a0 : Nat) (h : am_H) (Q : Option Value → am_H → Prop) : Prop := pt_V (h ++ [am_I 0 300 (fun _ => 0)]) a0 9 25 (.ref ((h).length)) (fun h1 => pt_V (h1 ++ [am_I 0 90000 (fun _ => 0)]) a0 9 26 (.ref ((h1).length)) (fun h2 => pt_V (h2 ++ [am_I 0 300 (fun _ => 0)]) a0 9 27 (.ref ((h2).length)) (fun h3 => pt_V (h3 ++ [am_I 0 300 (fun _ => 0)]) a0 9 28 (.ref ((h3).length)) (fun h4 => zX9_init_194 l g d a0  h4 Q))))
set_option maxRecDepth 4000 in
theorem rX9_init_159 {l : Launch} {g : am_G} {d : Nat} {a0 : Nat} {h : am_H} {Q : Option Value → am_H → Prop} (H : zX9_init_159 l g d a0 h Q) : am_J l g mX9_init (d + 1) (16, 94988, true) 159 [(0, .ref a0)] [] h Q := by
  unfold zX9_init_159 at H
  refine J_aload_n dX9_init_159 0 rfl ?_
  refine J_sipush (v := 300) dX9_init_160 (by decide) ?_
  refine J_newaI (t := 0) (N' := 300) (ty := .int) dX9_init_163 rfl aw_int (by decide) (by decide +kernel) (by decide +kernel) (by decide +kernel) ⟨by decide +kernel, by decide +kernel⟩ ?_
  show am_J l g mX9_init (d + 1) (17, 95288, true) 165 [(0, .ref a0)] [.ref ((h).length), .ref a0] (h ++ [am_I 0 300 (fun _ => 0)]) Q
  obtain ⟨fs, hh, hk, H⟩ := H
  refine J_putF dX9_init_165 fX9_80 rfl rfl rfl rfl hh hk ?_
  generalize List.set (h ++ [am_I 0 300 (fun _ => 0)]) a0 (am_O 9 (List.set fs 25 (.ref ((h).length)))) = h1 at H ⊢
  clear hh hk
  refine J_aload_n dX9_init_168 0 rfl ?_
  refine J_ldc (v := 90000) dX9_init_169 qX9_73 ?_
  refine J_newaI (t := 0) (N' := 90000) (ty := .int) dX9_init_171 rfl aw_int (by decide) (by decide +kernel) (by decide +kernel) (by decide +kernel) ⟨by decide +kernel, by decide +kernel⟩ ?_
  show am_J l g mX9_init (d + 1) (18, 185288, true) 173 [(0, .ref a0)] [.ref ((h1).length), .ref a0] (h1 ++ [am_I 0 90000 (fun _ => 0)]) Q
  obtain ⟨fs, hh, hk, H⟩ := H
  refine J_putF dX9_init_173 fX9_83 rfl rfl rfl rfl hh hk ?_
  generalize List.set (h1 ++ [am_I 0 90000 (fun _ => 0)]) a0 (am_O 9 (List.set fs 26 (.ref ((h1).length)))) = h2 at H ⊢
  clear hh hk
  refine J_aload_n dX9_init_176 0 rfl ?_
  refine J_sipush (v := 300) dX9_init_177 (by decide) ?_
  refine J_newaI (t := 0) (N' := 300) (ty := .int) dX9_init_180 rfl aw_int (by decide) (by decide +kernel) (by decide +kernel) (by decide +kernel) ⟨by decide +kernel, by decide +kernel⟩ ?_
  show am_J l g mX9_init (d + 1) (19, 185588, true) 182 [(0, .ref a0)] [.ref ((h2).length), .ref a0] (h2 ++ [am_I 0 300 (fun _ => 0)]) Q
  obtain ⟨fs, hh, hk, H⟩ := H
  refine J_putF dX9_init_182 fX9_86 rfl rfl rfl rfl hh hk ?_
  generalize List.set (h2 ++ [am_I 0 300 (fun _ => 0)]) a0 (am_O 9 (List.set fs 27 (.ref ((h2).length)))) = h3 at H ⊢
  clear hh hk
  refine J_aload_n dX9_init_185 0 rfl ?_
  refine J_sipush (v := 300) dX9_init_186 (by decide) ?_
  refine J_newaI (t := 0) (N' := 300) (ty := .int) dX9_init_189 rfl aw_int (by decide) (by decide +kernel) (by decide +kernel) (by decide +kernel) ⟨by decide +kernel, by decide +kernel⟩ ?_
  show am_J l g mX9_init (d + 1) (20, 185888, true) 191 [(0, .ref a0)] [.ref ((h3).length), .ref a0] (h3 ++ [am_I 0 300 (fun _ => 0)]) Q
  obtain ⟨fs, hh, hk, H⟩ := H
  refine J_putF dX9_init_191 fX9_89 rfl rfl rfl rfl hh hk ?_
  generalize List.set (h3 ++ [am_I 0 300 (fun _ => 0)]) a0 (am_O 9 (List.set fs 28 (.ref ((h3).length)))) = h4 at H ⊢
  clear hh hk
  exact J_pick [0] rfl (rX9_init_194 H)
def zX9_init_125 (l : Launch) (g : am_G) (d : Nat) (a0 : Nat) (h : am_H) (Q : Option Value → am_H → Prop) : Prop := pt_V (h ++ [am_I 2 72 (fun _ => 0)]) a0 9 17 (.ref ((h).length)) (fun h1 => pt_V (h1 ++ [am_I 2 300 (fun _ => 0)]) a0 9 22 (.ref ((h1).length)) (fun h2 => pt_V (h2 ++ [am_I 0 90000 (fun _ => 0)]) a0 9 23 (.ref ((h2).length)) (fun h3 => pt_V (h3 ++ [am_I 2 300 (fun _ => 0)]) a0 9 24 (.ref ((h3).length)) (fun h4 => zX9_init_159 l g d a0  h4 Q))))
set_option maxRecDepth 4000 in
theorem rX9_init_125 {l : Launch} {g : am_G} {d : Nat} {a0 : Nat} {h : am_H} {Q : Option Value → am_H → Prop} (H : zX9_init_125 l g d a0 h Q) : am_J l g mX9_init (d + 1) (12, 4316, true) 125 [(0, .ref a0)] [] h Q := by
  unfold zX9_init_125 at H
  refine J_aload_n dX9_init_125 0 rfl ?_
  refine J_bipush (v := 72) dX9_init_126 (by decide) ?_
  refine J_newaI (t := 2) (N' := 72) (ty := .boolean) dX9_init_128 rfl aw_boolean (by decide) (by decide +kernel) (by decide +kernel) (by decide +kernel) ⟨by decide +kernel, by decide +kernel⟩ ?_
  show am_J l g mX9_init (d + 1) (13, 4388, true) 130 [(0, .ref a0)] [.ref ((h).length), .ref a0] (h ++ [am_I 2 72 (fun _ => 0)]) Q
  obtain ⟨fs, hh, hk, H⟩ := H
  refine J_putF dX9_init_130 fX9_66 rfl rfl rfl rfl hh hk ?_
  generalize List.set (h ++ [am_I 2 72 (fun _ => 0)]) a0 (am_O 9 (List.set fs 17 (.ref ((h).length)))) = h1 at H ⊢
  clear hh hk
  refine J_aload_n dX9_init_133 0 rfl ?_
  refine J_sipush (v := 300) dX9_init_134 (by decide) ?_
  refine J_newaI (t := 2) (N' := 300) (ty := .boolean) dX9_init_137 rfl aw_boolean (by decide) (by decide +kernel) (by decide +kernel) (by decide +kernel) ⟨by decide +kernel, by decide +kernel⟩ ?_
  show am_J l g mX9_init (d + 1) (14, 4688, true) 139 [(0, .ref a0)] [.ref ((h1).length), .ref a0] (h1 ++ [am_I 2 300 (fun _ => 0)]) Q
  obtain ⟨fs, hh, hk, H⟩ := H
  refine J_putF dX9_init_139 fX9_70 rfl rfl rfl rfl hh hk ?_
  generalize List.set (h1 ++ [am_I 2 300 (fun _ => 0)]) a0 (am_O 9 (List.set fs 22 (.ref ((h1).length)))) = h2 at H ⊢
  clear hh hk
  refine J_aload_n dX9_init_142 0 rfl ?_
  refine J_ldc (v := 90000) dX9_init_143 qX9_73 ?_
  refine J_newaI (t := 0) (N' := 90000) (ty := .int) dX9_init_145 rfl aw_int (by decide) (by decide +kernel) (by decide +kernel) (by decide +kernel) ⟨by decide +kernel, by decide +kernel⟩ ?_
  show am_J l g mX9_init (d + 1) (15, 94688, true) 147 [(0, .ref a0)] [.ref ((h2).length), .ref a0] (h2 ++ [am_I 0 90000 (fun _ => 0)]) Q
  obtain ⟨fs, hh, hk, H⟩ := H
  refine J_putF dX9_init_147 fX9_74 rfl rfl rfl rfl hh hk ?_
  generalize List.set (h2 ++ [am_I 0 90000 (fun _ => 0)]) a0 (am_O 9 (List.set fs 23 (.ref ((h2).length)))) = h3 at H ⊢
  clear hh hk
  refine J_aload_n dX9_init_150 0 rfl ?_
  refine J_sipush (v := 300) dX9_init_151 (by decide) ?_
  refine J_newaI (t := 2) (N' := 300) (ty := .boolean) dX9_init_154 rfl aw_boolean (by decide) (by decide +kernel) (by decide +kernel) (by decide +kernel) ⟨by decide +kernel, by decide +kernel⟩ ?_
  show am_J l g mX9_init (d + 1) (16, 94988, true) 156 [(0, .ref a0)] [.ref ((h3).length), .ref a0] (h3 ++ [am_I 2 300 (fun _ => 0)]) Q
  obtain ⟨fs, hh, hk, H⟩ := H
  refine J_putF dX9_init_156 fX9_77 rfl rfl rfl rfl hh hk ?_
  generalize List.set (h3 ++ [am_I 2 300 (fun _ => 0)]) a0 (am_O 9 (List.set fs 24 (.ref ((h3).length)))) = h4 at H ⊢
  clear hh hk
  exact J_pick [0] rfl (rX9_init_159 H)
def zX9_init_93 (l : Launch) (g : am_G) (d : Nat) (a0 : Nat) (h : am_H) (Q : Option Value → am_H → Prop) : Prop := pt_V (h ++ [am_I 0 72 (fun _ => 0)]) a0 9 13 (.ref ((h).length)) (fun h1 => pt_V (h1 ++ [am_I 0 72 (fun _ => 0)]) a0 9 14 (.ref ((h1).length)) (fun h2 => pt_V (h2 ++ [am_I 0 72 (fun _ => 0)]) a0 9 15 (.ref ((h2).length)) (fun h3 => pt_V (h3 ++ [am_I 0 72 (fun _ => 0)]) a0 9 16 (.ref ((h3).length)) (fun h4 => zX9_init_125 l g d a0  h4 Q))))
set_option maxRecDepth 4000 in
theorem rX9_init_93 {l : Launch} {g : am_G} {d : Nat} {a0 : Nat} {h : am_H} {Q : Option Value → am_H → Prop} (H : zX9_init_93 l g d a0 h Q) : am_J l g mX9_init (d + 1) (8, 4028, true) 93 [(0, .ref a0)] [] h Q := by
  unfold zX9_init_93 at H
  refine J_aload_n dX9_init_93 0 rfl ?_
  refine J_bipush (v := 72) dX9_init_94 (by decide) ?_
  refine J_newaI (t := 0) (N' := 72) (ty := .int) dX9_init_96 rfl aw_int (by decide) (by decide +kernel) (by decide +kernel) (by decide +kernel) ⟨by decide +kernel, by decide +kernel⟩ ?_
  show am_J l g mX9_init (d + 1) (9, 4100, true) 98 [(0, .ref a0)] [.ref ((h).length), .ref a0] (h ++ [am_I 0 72 (fun _ => 0)]) Q
  obtain ⟨fs, hh, hk, H⟩ := H
  refine J_putF dX9_init_98 fX9_54 rfl rfl rfl rfl hh hk ?_
  generalize List.set (h ++ [am_I 0 72 (fun _ => 0)]) a0 (am_O 9 (List.set fs 13 (.ref ((h).length)))) = h1 at H ⊢
  clear hh hk
  refine J_aload_n dX9_init_101 0 rfl ?_
  refine J_bipush (v := 72) dX9_init_102 (by decide) ?_
  refine J_newaI (t := 0) (N' := 72) (ty := .int) dX9_init_104 rfl aw_int (by decide) (by decide +kernel) (by decide +kernel) (by decide +kernel) ⟨by decide +kernel, by decide +kernel⟩ ?_
  show am_J l g mX9_init (d + 1) (10, 4172, true) 106 [(0, .ref a0)] [.ref ((h1).length), .ref a0] (h1 ++ [am_I 0 72 (fun _ => 0)]) Q
  obtain ⟨fs, hh, hk, H⟩ := H
  refine J_putF dX9_init_106 fX9_57 rfl rfl rfl rfl hh hk ?_
  generalize List.set (h1 ++ [am_I 0 72 (fun _ => 0)]) a0 (am_O 9 (List.set fs 14 (.ref ((h1).length)))) = h2 at H ⊢
  clear hh hk
  refine J_aload_n dX9_init_109 0 rfl ?_
  refine J_bipush (v := 72) dX9_init_110 (by decide) ?_
  refine J_newaI (t := 0) (N' := 72) (ty := .int) dX9_init_112 rfl aw_int (by decide) (by decide +kernel) (by decide +kernel) (by decide +kernel) ⟨by decide +kernel, by decide +kernel⟩ ?_
  show am_J l g mX9_init (d + 1) (11, 4244, true) 114 [(0, .ref a0)] [.ref ((h2).length), .ref a0] (h2 ++ [am_I 0 72 (fun _ => 0)]) Q
  obtain ⟨fs, hh, hk, H⟩ := H
  refine J_putF dX9_init_114 fX9_60 rfl rfl rfl rfl hh hk ?_
  generalize List.set (h2 ++ [am_I 0 72 (fun _ => 0)]) a0 (am_O 9 (List.set fs 15 (.ref ((h2).length)))) = h3 at H ⊢
  clear hh hk
  refine J_aload_n dX9_init_117 0 rfl ?_
  refine J_bipush (v := 72) dX9_init_118 (by decide) ?_
  refine J_newaI (t := 0) (N' := 72) (ty := .int) dX9_init_120 rfl aw_int (by decide) (by decide +kernel) (by decide +kernel) (by decide +kernel) ⟨by decide +kernel, by decide +kernel⟩ ?_
  show am_J l g mX9_init (d + 1) (12, 4316, true) 122 [(0, .ref a0)] [.ref ((h3).length), .ref a0] (h3 ++ [am_I 0 72 (fun _ => 0)]) Q
  obtain ⟨fs, hh, hk, H⟩ := H
  refine J_putF dX9_init_122 fX9_63 rfl rfl rfl rfl hh hk ?_
  generalize List.set (h3 ++ [am_I 0 72 (fun _ => 0)]) a0 (am_O 9 (List.set fs 16 (.ref ((h3).length)))) = h4 at H ⊢
  clear hh hk
  exact J_pick [0] rfl (rX9_init_125 H)
def zX9_init_40 (l : Launch) (g : am_G) (d : Nat) (a0 : Nat) (h : am_H) (Q : Option Value → am_H → Prop) : Prop := as_L (h ++ [am_L 4 (fun _ => 0)]) ((h).length) 0 924600 (fun h1 => as_L h1 ((h).length) 1 620686 (fun h2 => as_L h2 ((h).length) 2 790116 (fun h3 => as_L h3 ((h).length) 3 40072202 (fun h4 => pt_V h4 a0 9 9 (.ref ((h).length)) (fun h5 => pt_V (h5 ++ [am_I 0 3 (fun _ => 0)]) a0 9 10 (.ref ((h5).length)) (fun h6 => pt_V (h6 ++ [am_L 12 (fun _ => 0)]) a0 9 11 (.ref ((h6).length)) (fun h7 => pt_V (h7 ++ [am_I 0 3 (fun _ => 0)]) a0 9 12 (.ref ((h7).length)) (fun h8 => zX9_init_93 l g d a0  h8 Q))))))))
set_option maxRecDepth 4000 in
theorem rX9_init_40 {l : Launch} {g : am_G} {d : Nat} {a0 : Nat} {h : am_H} {Q : Option Value → am_H → Prop} (H : zX9_init_40 l g d a0 h Q) : am_J l g mX9_init (d + 1) (4, 4006, true) 40 [(0, .ref a0)] [] h Q := by
  unfold zX9_init_40 at H
  refine J_aload_n dX9_init_40 0 rfl ?_
  refine J_iconst (v := 4) dX9_init_41 (by decide) ?_
  refine J_newaL (N' := 4) dX9_init_42 rfl aw_long (by decide +kernel) (by decide +kernel) (by decide +kernel) ⟨by decide +kernel, by decide +kernel⟩ ?_
  show am_J l g mX9_init (d + 1) (5, 4010, true) 44 [(0, .ref a0)] [.ref ((h).length), .ref a0] (h ++ [am_L 4 (fun _ => 0)]) Q
  refine J_dup dX9_init_44 rfl ?_
  refine J_iconst (v := 0) dX9_init_45 (by decide) ?_
  refine J_ldc2 (v := 924600) dX9_init_46 qX9_34 ?_
  obtain ⟨nn, ff, hh, hk, H⟩ := H
  refine J_last dX9_init_49 hh hk ?_
  generalize List.set (h ++ [am_L 4 (fun _ => 0)]) ((h).length) (am_L nn (vp_updL ff (Int32.toNatClampNeg 0) 924600)) = h1 at H ⊢
  clear hh hk
  refine J_dup dX9_init_50 rfl ?_
  refine J_iconst (v := 1) dX9_init_51 (by decide) ?_
  refine J_ldc2 (v := 620686) dX9_init_52 qX9_36 ?_
  obtain ⟨nn, ff, hh, hk, H⟩ := H
  refine J_last dX9_init_55 hh hk ?_
  generalize List.set h1 ((h).length) (am_L nn (vp_updL ff (Int32.toNatClampNeg 1) 620686)) = h2 at H ⊢
  clear hh hk
  refine J_dup dX9_init_56 rfl ?_
  refine J_iconst (v := 2) dX9_init_57 (by decide) ?_
  refine J_ldc2 (v := 790116) dX9_init_58 qX9_38 ?_
  obtain ⟨nn, ff, hh, hk, H⟩ := H
  refine J_last dX9_init_61 hh hk ?_
  generalize List.set h2 ((h).length) (am_L nn (vp_updL ff (Int32.toNatClampNeg 2) 790116)) = h3 at H ⊢
  clear hh hk
  refine J_dup dX9_init_62 rfl ?_
  refine J_iconst (v := 3) dX9_init_63 (by decide) ?_
  refine J_ldc2 (v := 40072202) dX9_init_64 qX9_40 ?_
  obtain ⟨nn, ff, hh, hk, H⟩ := H
  refine J_last dX9_init_67 hh hk ?_
  generalize List.set h3 ((h).length) (am_L nn (vp_updL ff (Int32.toNatClampNeg 3) 40072202)) = h4 at H ⊢
  clear hh hk
  obtain ⟨fs, hh, hk, H⟩ := H
  refine J_putF dX9_init_68 fX9_42 rfl rfl rfl rfl hh hk ?_
  generalize List.set h4 a0 (am_O 9 (List.set fs 9 (.ref ((h).length)))) = h5 at H ⊢
  clear hh hk
  refine J_aload_n dX9_init_71 0 rfl ?_
  refine J_iconst (v := 3) dX9_init_72 (by decide) ?_
  refine J_newaI (t := 0) (N' := 3) (ty := .int) dX9_init_73 rfl aw_int (by decide) (by decide +kernel) (by decide +kernel) (by decide +kernel) ⟨by decide +kernel, by decide +kernel⟩ ?_
  show am_J l g mX9_init (d + 1) (6, 4013, true) 75 [(0, .ref a0)] [.ref ((h5).length), .ref a0] (h5 ++ [am_I 0 3 (fun _ => 0)]) Q
  obtain ⟨fs, hh, hk, H⟩ := H
  refine J_putF dX9_init_75 fX9_45 rfl rfl rfl rfl hh hk ?_
  generalize List.set (h5 ++ [am_I 0 3 (fun _ => 0)]) a0 (am_O 9 (List.set fs 10 (.ref ((h5).length)))) = h6 at H ⊢
  clear hh hk
  refine J_aload_n dX9_init_78 0 rfl ?_
  refine J_bipush (v := 12) dX9_init_79 (by decide) ?_
  refine J_newaL (N' := 12) dX9_init_81 rfl aw_long (by decide +kernel) (by decide +kernel) (by decide +kernel) ⟨by decide +kernel, by decide +kernel⟩ ?_
  show am_J l g mX9_init (d + 1) (7, 4025, true) 83 [(0, .ref a0)] [.ref ((h6).length), .ref a0] (h6 ++ [am_L 12 (fun _ => 0)]) Q
  obtain ⟨fs, hh, hk, H⟩ := H
  refine J_putF dX9_init_83 fX9_48 rfl rfl rfl rfl hh hk ?_
  generalize List.set (h6 ++ [am_L 12 (fun _ => 0)]) a0 (am_O 9 (List.set fs 11 (.ref ((h6).length)))) = h7 at H ⊢
  clear hh hk
  refine J_aload_n dX9_init_86 0 rfl ?_
  refine J_iconst (v := 3) dX9_init_87 (by decide) ?_
  refine J_newaI (t := 0) (N' := 3) (ty := .int) dX9_init_88 rfl aw_int (by decide) (by decide +kernel) (by decide +kernel) (by decide +kernel) ⟨by decide +kernel, by decide +kernel⟩ ?_
  show am_J l g mX9_init (d + 1) (8, 4028, true) 90 [(0, .ref a0)] [.ref ((h7).length), .ref a0] (h7 ++ [am_I 0 3 (fun _ => 0)]) Q
  obtain ⟨fs, hh, hk, H⟩ := H
  refine J_putF dX9_init_90 fX9_51 rfl rfl rfl rfl hh hk ?_
  generalize List.set (h7 ++ [am_I 0 3 (fun _ => 0)]) a0 (am_O 9 (List.set fs 12 (.ref ((h7).length)))) = h8 at H ⊢
  clear hh hk
  exact J_pick [0] rfl (rX9_init_93 H)
def zX9_init_0 (l : Launch) (g : am_G) (d : Nat) (a0 : Nat) (h : am_H) (Q : Option Value → am_H → Prop) : Prop := pt_V (h ++ [am_I 0 1000 (fun _ => 0)]) a0 9 1 (.ref ((h).length)) (fun h1 => pt_V (h1 ++ [am_I 0 1002 (fun _ => 0)]) a0 9 4 (.ref ((h1).length)) (fun h2 => pt_V (h2 ++ [am_I 0 1002 (fun _ => 0)]) a0 9 5 (.ref ((h2).length)) (fun h3 => pt_V (h3 ++ [am_L 1002 (fun _ => 0)]) a0 9 6 (.ref ((h3).length)) (fun h4 => zX9_init_40 l g d a0  h4 Q))))
set_option maxRecDepth 4000 in
theorem rX9_init_0 {l : Launch} {g : am_G} {d : Nat} {a0 : Nat} {h : am_H} {Q : Option Value → am_H → Prop} (H : zX9_init_0 l g d a0 h Q) : am_J l g mX9_init (d + 1) (0, 0, true) 0 [(0, .ref a0)] [] h Q := by
  unfold zX9_init_0 at H
  refine J_aload_n dX9_init_0 0 rfl ?_
  refine J_objInit dX9_init_1 kX9_18 (Nat.le_of_ble_eq_true rfl) ?_
  refine J_aload_n dX9_init_4 0 rfl ?_
  refine J_sipush (v := 1000) dX9_init_5 (by decide) ?_
  refine J_newaI (t := 0) (N' := 1000) (ty := .int) dX9_init_8 rfl aw_int (by decide) (by decide +kernel) (by decide +kernel) (by decide +kernel) ⟨by decide +kernel, by decide +kernel⟩ ?_
  show am_J l g mX9_init (d + 1) (1, 1000, true) 10 [(0, .ref a0)] [.ref ((h).length), .ref a0] (h ++ [am_I 0 1000 (fun _ => 0)]) Q
  obtain ⟨fs, hh, hk, H⟩ := H
  refine J_putF dX9_init_10 fX9_14 rfl rfl rfl rfl hh hk ?_
  generalize List.set (h ++ [am_I 0 1000 (fun _ => 0)]) a0 (am_O 9 (List.set fs 1 (.ref ((h).length)))) = h1 at H ⊢
  clear hh hk
  refine J_aload_n dX9_init_13 0 rfl ?_
  refine J_sipush (v := 1002) dX9_init_14 (by decide) ?_
  refine J_newaI (t := 0) (N' := 1002) (ty := .int) dX9_init_17 rfl aw_int (by decide) (by decide +kernel) (by decide +kernel) (by decide +kernel) ⟨by decide +kernel, by decide +kernel⟩ ?_
  show am_J l g mX9_init (d + 1) (2, 2002, true) 19 [(0, .ref a0)] [.ref ((h1).length), .ref a0] (h1 ++ [am_I 0 1002 (fun _ => 0)]) Q
  obtain ⟨fs, hh, hk, H⟩ := H
  refine J_putF dX9_init_19 fX9_24 rfl rfl rfl rfl hh hk ?_
  generalize List.set (h1 ++ [am_I 0 1002 (fun _ => 0)]) a0 (am_O 9 (List.set fs 4 (.ref ((h1).length)))) = h2 at H ⊢
  clear hh hk
  refine J_aload_n dX9_init_22 0 rfl ?_
  refine J_sipush (v := 1002) dX9_init_23 (by decide) ?_
  refine J_newaI (t := 0) (N' := 1002) (ty := .int) dX9_init_26 rfl aw_int (by decide) (by decide +kernel) (by decide +kernel) (by decide +kernel) ⟨by decide +kernel, by decide +kernel⟩ ?_
  show am_J l g mX9_init (d + 1) (3, 3004, true) 28 [(0, .ref a0)] [.ref ((h2).length), .ref a0] (h2 ++ [am_I 0 1002 (fun _ => 0)]) Q
  obtain ⟨fs, hh, hk, H⟩ := H
  refine J_putF dX9_init_28 fX9_27 rfl rfl rfl rfl hh hk ?_
  generalize List.set (h2 ++ [am_I 0 1002 (fun _ => 0)]) a0 (am_O 9 (List.set fs 5 (.ref ((h2).length)))) = h3 at H ⊢
  clear hh hk
  refine J_aload_n dX9_init_31 0 rfl ?_
  refine J_sipush (v := 1002) dX9_init_32 (by decide) ?_
  refine J_newaL (N' := 1002) dX9_init_35 rfl aw_long (by decide +kernel) (by decide +kernel) (by decide +kernel) ⟨by decide +kernel, by decide +kernel⟩ ?_
  show am_J l g mX9_init (d + 1) (4, 4006, true) 37 [(0, .ref a0)] [.ref ((h3).length), .ref a0] (h3 ++ [am_L 1002 (fun _ => 0)]) Q
  obtain ⟨fs, hh, hk, H⟩ := H
  refine J_putF dX9_init_37 fX9_30 rfl rfl rfl rfl hh hk ?_
  generalize List.set (h3 ++ [am_L 1002 (fun _ => 0)]) a0 (am_O 9 (List.set fs 6 (.ref ((h3).length)))) = h4 at H ⊢
  clear hh hk
  exact J_pick [0] rfl (rX9_init_40 H)
theorem eX9_init {l : Launch} {g : am_G} {d : Nat} {a0 : Nat} {h : am_H} {K : am_H → Prop} (H : zX9_init_0 l g d a0 h (fun r h' => r = none ∧ K h')) : cl_N l g mX9_init (d + 1) true [.ref a0] h K := rX9_init_0 H
