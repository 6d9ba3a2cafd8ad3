def zX9_isLetter_0 (l : Launch) (g : am_G) (d : Nat) (x : Bool) (i0 : Int32) (h : am_H) (Q : Option Value → am_H → Prop) : Prop := ((i0 < 97 → Q (some (.int 0)) h) ∧ (¬ i0 < 97 → ((122 < i0 → Q (some (.int 0)) h) ∧ (¬ 122 < i0 → Q (some (.int 1)) h))))
set_option maxRecDepth 4000 in
theorem rX9_isLetter_0 {l : Launch} {g : am_G} {d : Nat} {x : Bool} {i0 : Int32} {h : am_H} {Q : Option Value → am_H → Prop} (H : zX9_isLetter_0 l g d x i0 h Q) : am_J l g mX9_isLetter d (0, 0, x) 0 [(0, .int i0)] [] h Q := by
  unfold zX9_isLetter_0 at H
  refine J_iload_n dX9_isLetter_0 0 rfl ?_
  refine J_bipush (v := 97) dX9_isLetter_1 (by decide) ?_
  obtain ⟨H1, H2⟩ := H
  refine J_icmp_lt (tgt := 16) dX9_isLetter_3 (by decide) (fun hc => ?_) (fun hc => ?_)
  · replace H := H1 hc
    clear H1 H2
    refine J_iconst (v := 0) dX9_isLetter_16 (by decide) ?_
    exact J_iret dX9_isLetter_17 ⟨_, rfl, rfl⟩ ⟨Nat.le_of_ble_eq_true rfl, Nat.le_of_ble_eq_true rfl, fun _ => rfl⟩ H
  · replace H := H2 hc
    clear H1 H2
    refine J_iload_n dX9_isLetter_6 0 rfl ?_
    refine J_bipush (v := 122) dX9_isLetter_7 (by decide) ?_
    obtain ⟨H1, H2⟩ := H
    refine J_icmp_gt (tgt := 16) dX9_isLetter_9 (by decide) (fun hc => ?_) (fun hc => ?_)
    · replace H := H1 hc
      clear H1 H2
      refine J_iconst (v := 0) dX9_isLetter_16 (by decide) ?_
      exact J_iret dX9_isLetter_17 ⟨_, rfl, rfl⟩ ⟨Nat.le_of_ble_eq_true rfl, Nat.le_of_ble_eq_true rfl, fun _ => rfl⟩ H
    · replace H := H2 hc
      clear H1 H2
      refine J_iconst (v := 1) dX9_isLetter_12 (by decide) ?_
      refine J_goto (tgt := 17) dX9_isLetter_13 (by decide) ?_
      exact J_iret dX9_isLetter_17 ⟨_, rfl, rfl⟩ ⟨Nat.le_of_ble_eq_true rfl, Nat.le_of_ble_eq_true rfl, fun _ => rfl⟩ H
theorem eX9_isLetter {l : Launch} {g : am_G} {d : Nat} {x : Bool} {i0 : Int32} {h : am_H} {K : Int32 → am_H → Prop} (H : zX9_isLetter_0 l g d x i0 h (fun r h' => ∃ v, r = some (.int v) ∧ K v h')) : cl_I l g mX9_isLetter d x [.int i0] h K := rX9_isLetter_0 H
def zX9_isDigit_0 (l : Launch) (g : am_G) (d : Nat) (x : Bool) (i0 : Int32) (h : am_H) (Q : Option Value → am_H → Prop) : Prop := ((i0 < 48 → Q (some (.int 0)) h) ∧ (¬ i0 < 48 → ((57 < i0 → Q (some (.int 0)) h) ∧ (¬ 57 < i0 → Q (some (.int 1)) h))))
set_option maxRecDepth 4000 in
theorem rX9_isDigit_0 {l : Launch} {g : am_G} {d : Nat} {x : Bool} {i0 : Int32} {h : am_H} {Q : Option Value → am_H → Prop} (H : zX9_isDigit_0 l g d x i0 h Q) : am_J l g mX9_isDigit d (0, 0, x) 0 [(0, .int i0)] [] h Q := by
  unfold zX9_isDigit_0 at H
  refine J_iload_n dX9_isDigit_0 0 rfl ?_
  refine J_bipush (v := 48) dX9_isDigit_1 (by decide) ?_
  obtain ⟨H1, H2⟩ := H
  refine J_icmp_lt (tgt := 16) dX9_isDigit_3 (by decide) (fun hc => ?_) (fun hc => ?_)
  · replace H := H1 hc
    clear H1 H2
    refine J_iconst (v := 0) dX9_isDigit_16 (by decide) ?_
    exact J_iret dX9_isDigit_17 ⟨_, rfl, rfl⟩ ⟨Nat.le_of_ble_eq_true rfl, Nat.le_of_ble_eq_true rfl, fun _ => rfl⟩ H
  · replace H := H2 hc
    clear H1 H2
    refine J_iload_n dX9_isDigit_6 0 rfl ?_
    refine J_bipush (v := 57) dX9_isDigit_7 (by decide) ?_
    obtain ⟨H1, H2⟩ := H
    refine J_icmp_gt (tgt := 16) dX9_isDigit_9 (by decide) (fun hc => ?_) (fun hc => ?_)
    · replace H := H1 hc
      clear H1 H2
      refine J_iconst (v := 0) dX9_isDigit_16 (by decide) ?_
      exact J_iret dX9_isDigit_17 ⟨_, rfl, rfl⟩ ⟨Nat.le_of_ble_eq_true rfl, Nat.le_of_ble_eq_true rfl, fun _ => rfl⟩ H
    · replace H := H2 hc
      clear H1 H2
      refine J_iconst (v := 1) dX9_isDigit_12 (by decide) ?_
      refine J_goto (tgt := 17) dX9_isDigit_13 (by decide) ?_
      exact J_iret dX9_isDigit_17 ⟨_, rfl, rfl⟩ ⟨Nat.le_of_ble_eq_true rfl, Nat.le_of_ble_eq_true rfl, fun _ => rfl⟩ H
theorem eX9_isDigit {l : Launch} {g : am_G} {d : Nat} {x : Bool} {i0 : Int32} {h : am_H} {K : Int32 → am_H → Prop} (H : zX9_isDigit_0 l g d x i0 h (fun r h' => ∃ v, r = some (.int v) ∧ K v h')) : cl_I l g mX9_isDigit d x [.int i0] h K := rX9_isDigit_0 H
def zX9_rank_0 (l : Launch) (g : am_G) (d : Nat) (x : Bool) (i0 : Int32) (h : am_H) (Q : Option Value → am_H → Prop) : Prop := cs_I l g mX9_isLetter d x [.int i0] h (fun v2 h1 => ((v2 = 0 → Q (some (.int (i0 - 21))) h1) ∧ (¬ v2 = 0 → Q (some (.int (i0 - 96))) h1)))
set_option maxRecDepth 4000 in
theorem rX9_rank_0 {l : Launch} {g : am_G} {d : Nat} {x : Bool} {i0 : Int32} {h : am_H} {Q : Option Value → am_H → Prop} (H : zX9_rank_0 l g d x i0 h Q) : am_J l g mX9_rank (d + 1) (0, 0, x) 0 [(0, .int i0)] [] h Q := by
  unfold zX9_rank_0 at H
  refine J_iload_n dX9_rank_0 0 rfl ?_
  refine J_callS (As := [.int i0]) (S := []) dX9_rank_1 mX9_isLetter_ok kX9_119 rfl (by decide) (Nat.le_of_ble_eq_true rfl) rfl (Nat.le_of_ble_eq_true rfl) ⟨Nat.le_of_ble_eq_true rfl, Nat.le_of_ble_eq_true rfl⟩ (fun k h' hp => ?_) H (fun r h1 hp => ?_)
  · obtain ⟨_, hv, -⟩ := hp; cases hv
  obtain ⟨v2, rfl, H⟩ := hp
  show am_J l g mX9_rank (d + 1) (0, 0, x) 4 [(0, .int i0)] [.int v2] h1 Q
  obtain ⟨H1, H2⟩ := H
  refine J_if_eq (tgt := 14) dX9_rank_4 (by decide) (fun hc => ?_) (fun hc => ?_)
  · replace H := H1 hc
    clear H1 H2
    refine J_iload_n dX9_rank_14 0 rfl ?_
    refine J_bipush (v := 21) dX9_rank_15 (by decide) ?_
    refine J_isub dX9_rank_17 ?_
    exact J_iret dX9_rank_18 ⟨_, rfl, rfl⟩ ⟨Nat.le_of_ble_eq_true rfl, Nat.le_of_ble_eq_true rfl, fun _ => rfl⟩ H
  · replace H := H2 hc
    clear H1 H2
    refine J_iload_n dX9_rank_7 0 rfl ?_
    refine J_bipush (v := 96) dX9_rank_8 (by decide) ?_
    refine J_isub dX9_rank_10 ?_
    refine J_goto (tgt := 18) dX9_rank_11 (by decide) ?_
    exact J_iret dX9_rank_18 ⟨_, rfl, rfl⟩ ⟨Nat.le_of_ble_eq_true rfl, Nat.le_of_ble_eq_true rfl, fun _ => rfl⟩ H
theorem eX9_rank {l : Launch} {g : am_G} {d : Nat} {x : Bool} {i0 : Int32} {h : am_H} {K : Int32 → am_H → Prop} (H : zX9_rank_0 l g d x i0 h (fun r h' => ∃ v, r = some (.int v) ∧ K v h')) : cl_I l g mX9_rank (d + 1) x [.int i0] h K := rX9_rank_0 H
def zX9_isSignOf_0 (l : Launch) (g : am_G) (d : Nat) (x : Bool) (i0 : Int32) (h : am_H) (Q : Option Value → am_H → Prop) : Prop := ((i0 = 59 → Q (some (.int 1)) h) ∧ (¬ i0 = 59 → ((i0 = 43 → Q (some (.int 1)) h) ∧ (¬ i0 = 43 → ((¬ i0 = 45 → Q (some (.int 0)) h) ∧ (i0 = 45 → Q (some (.int 1)) h))))))
set_option maxRecDepth 4000 in
theorem rX9_isSignOf_0 {l : Launch} {g : am_G} {d : Nat} {x : Bool} {i0 : Int32} {h : am_H} {Q : Option Value → am_H → Prop} (H : zX9_isSignOf_0 l g d x i0 h Q) : am_J l g mX9_isSignOf d (0, 0, x) 0 [(0, .int i0)] [] h Q := by
  unfold zX9_isSignOf_0 at H
  refine J_iload_n dX9_isSignOf_0 0 rfl ?_
  refine J_bipush (v := 59) dX9_isSignOf_1 (by decide) ?_
  obtain ⟨H1, H2⟩ := H
  refine J_icmp_eq (tgt := 18) dX9_isSignOf_3 (by decide) (fun hc => ?_) (fun hc => ?_)
  · replace H := H1 hc
    clear H1 H2
    refine J_iconst (v := 1) dX9_isSignOf_18 (by decide) ?_
    refine J_goto (tgt := 23) dX9_isSignOf_19 (by decide) ?_
    exact J_iret dX9_isSignOf_23 ⟨_, rfl, rfl⟩ ⟨Nat.le_of_ble_eq_true rfl, Nat.le_of_ble_eq_true rfl, fun _ => rfl⟩ H
  · replace H := H2 hc
    clear H1 H2
    refine J_iload_n dX9_isSignOf_6 0 rfl ?_
    refine J_bipush (v := 43) dX9_isSignOf_7 (by decide) ?_
    obtain ⟨H1, H2⟩ := H
    refine J_icmp_eq (tgt := 18) dX9_isSignOf_9 (by decide) (fun hc => ?_) (fun hc => ?_)
    · replace H := H1 hc
      clear H1 H2
      refine J_iconst (v := 1) dX9_isSignOf_18 (by decide) ?_
      refine J_goto (tgt := 23) dX9_isSignOf_19 (by decide) ?_
      exact J_iret dX9_isSignOf_23 ⟨_, rfl, rfl⟩ ⟨Nat.le_of_ble_eq_true rfl, Nat.le_of_ble_eq_true rfl, fun _ => rfl⟩ H
    · replace H := H2 hc
      clear H1 H2
      refine J_iload_n dX9_isSignOf_12 0 rfl ?_
      refine J_bipush (v := 45) dX9_isSignOf_13 (by decide) ?_
      obtain ⟨H1, H2⟩ := H
      refine J_icmp_ne (tgt := 22) dX9_isSignOf_15 (by decide) (fun hc => ?_) (fun hc => ?_)
      · replace H := H1 hc
        clear H1 H2
        refine J_iconst (v := 0) dX9_isSignOf_22 (by decide) ?_
        exact J_iret dX9_isSignOf_23 ⟨_, rfl, rfl⟩ ⟨Nat.le_of_ble_eq_true rfl, Nat.le_of_ble_eq_true rfl, fun _ => rfl⟩ H
      · replace H := H2 hc
        clear H1 H2
        refine J_iconst (v := 1) dX9_isSignOf_18 (by decide) ?_
        refine J_goto (tgt := 23) dX9_isSignOf_19 (by decide) ?_
        exact J_iret dX9_isSignOf_23 ⟨_, rfl, rfl⟩ ⟨Nat.le_of_ble_eq_true rfl, Nat.le_of_ble_eq_true rfl, fun _ => rfl⟩ H
theorem eX9_isSignOf {l : Launch} {g : am_G} {d : Nat} {x : Bool} {i0 : Int32} {h : am_H} {K : Int32 → am_H → Prop} (H : zX9_isSignOf_0 l g d x i0 h (fun r h' => ∃ v, r = some (.int v) ∧ K v h')) : cl_I l g mX9_isSignOf d x [.int i0] h K := rX9_isSignOf_0 H
def zX9_cutAll_265 (l : Launch) (g : am_G) (d : Nat) (x : Bool) (a0 : Nat) (i1 : Int32) (i2 : Int32) (l5 : Int64) (h : am_H) (Q : Option Value → am_H → Prop) : Prop := gt_R h a0 9 6 (fun v1 => as_L h v1 i1 l5 (fun h2 => am_J l g mX9_cutAll (d + 1) (0, 0, x) 17 [(0, .ref a0), (1, .int (i1 + 1)), (2, .int i2)] [] h2 Q))
set_option maxRecDepth 4000 in
theorem rX9_cutAll_265 {l : Launch} {g : am_G} {d : Nat} {x : Bool} {a0 : Nat} {i1 : Int32} {i2 : Int32} {l5 : Int64} {h : am_H} {Q : Option Value → am_H → Prop} (H : zX9_cutAll_265 l g d x a0 i1 i2 l5 h Q) : am_J l g mX9_cutAll (d + 1) (0, 0, x) 265 [(0, .ref a0), (1, .int i1), (2, .int i2), (5, .long l5)] [] h Q := by
  unfold zX9_cutAll_265 at H
  refine J_aload_n dX9_cutAll_265 0 rfl ?_
  obtain ⟨fs, v1, hh, hk, H⟩ := H
  refine J_get dX9_cutAll_266 fX9_30 hh hk ?_
  clear hh hk
  refine J_iload_n dX9_cutAll_269 1 rfl ?_
  refine J_lload dX9_cutAll_270 3 rfl ?_
  obtain ⟨nn, ff, hh, hk, H⟩ := H
  refine J_last dX9_cutAll_272 hh hk ?_
  generalize List.set h v1 (am_L nn (vp_updL ff (Int32.toNatClampNeg i1) l5)) = h2 at H ⊢
  clear hh hk
  refine J_iinc (v := (i1 + 1)) (L' := [(1, .int (i1 + 1)), (0, .ref a0), (2, .int i2), (5, .long l5)]) dX9_cutAll_273 1 rfl rfl (by decide) rfl ?_
  refine J_goto (tgt := 17) dX9_cutAll_276 (by decide) ?_
  exact J_pick [1, 0, 2] rfl H
def zX9_cutAll_261 (l : Launch) (g : am_G) (d : Nat) (x : Bool) (a0 : Nat) (i1 : Int32) (i2 : Int32) (l5 : Int64) (s0 : Nat) (s1 : Int32) (s2 : Int32) (h : am_H) (Q : Option Value → am_H → Prop) : Prop := as_I 0 h s0 s1 s2 (fun h1 => zX9_cutAll_265 l g d x a0 i1 (i2 + 1) l5  h1 Q)
set_option maxRecDepth 4000 in
theorem rX9_cutAll_261 {l : Launch} {g : am_G} {d : Nat} {x : Bool} {a0 : Nat} {i1 : Int32} {i2 : Int32} {l5 : Int64} {s0 : Nat} {s1 : Int32} {s2 : Int32} {h : am_H} {Q : Option Value → am_H → Prop} (H : zX9_cutAll_261 l g d x a0 i1 i2 l5 s0 s1 s2 h Q) : am_J l g mX9_cutAll (d + 1) (0, 0, x) 261 [(0, .ref a0), (1, .int i1), (2, .int i2), (5, .long l5)] [.int s2, .int s1, .ref s0] h Q := by
  unfold zX9_cutAll_261 at H
  obtain ⟨nn, ff, hh, hk, H⟩ := H
  refine J_iast dX9_cutAll_261 hh hk ?_
  generalize List.set h s0 (am_I 0 nn (upd ff (Int32.toNatClampNeg s1) s2)) = h1 at H ⊢
  clear hh hk
  refine J_iinc (v := (i2 + 1)) (L' := [(2, .int (i2 + 1)), (0, .ref a0), (1, .int i1), (5, .long l5)]) dX9_cutAll_262 2 rfl rfl (by decide) rfl ?_
  exact J_pick [1, 2, 0, 3] rfl (rX9_cutAll_265 H)
def zX9_cutAll_236 (l : Launch) (g : am_G) (d : Nat) (x : Bool) (a0 : Nat) (i1 : Int32) (i2 : Int32) (l5 : Int64) (s0 : Nat) (s1 : Int32) (s2 : Int32) (h : am_H) (Q : Option Value → am_H → Prop) : Prop := as_I 0 h s0 s1 s2 (fun h1 => zX9_cutAll_265 l g d x a0 i1 i2 l5  h1 Q)
set_option maxRecDepth 4000 in
theorem rX9_cutAll_236 {l : Launch} {g : am_G} {d : Nat} {x : Bool} {a0 : Nat} {i1 : Int32} {i2 : Int32} {l5 : Int64} {s0 : Nat} {s1 : Int32} {s2 : Int32} {h : am_H} {Q : Option Value → am_H → Prop} (H : zX9_cutAll_236 l g d x a0 i1 i2 l5 s0 s1 s2 h Q) : am_J l g mX9_cutAll (d + 1) (0, 0, x) 236 [(0, .ref a0), (1, .int i1), (2, .int i2), (5, .long l5)] [.int s2, .int s1, .ref s0] h Q := by
  unfold zX9_cutAll_236 at H
  obtain ⟨nn, ff, hh, hk, H⟩ := H
  refine J_iast dX9_cutAll_236 hh hk ?_
  generalize List.set h s0 (am_I 0 nn (upd ff (Int32.toNatClampNeg s1) s2)) = h1 at H ⊢
  clear hh hk
  refine J_goto (tgt := 265) dX9_cutAll_237 (by decide) ?_
  exact J_pick [0, 1, 2, 3] rfl (rX9_cutAll_265 H)
def zX9_cutAll_218 (l : Launch) (g : am_G) (d : Nat) (x : Bool) (a0 : Nat) (i1 : Int32) (i2 : Int32) (i4 : Int32) (l5 : Int64) (h : am_H) (Q : Option Value → am_H → Prop) : Prop := gt_R h a0 9 4 (fun v1 => (((i2 - i4) ≤ 4 → zX9_cutAll_236 l g d x a0 i1 i2 l5 v1 i1 2 h Q) ∧ (¬ (i2 - i4) ≤ 4 → zX9_cutAll_236 l g d x a0 i1 i2 l5 v1 i1 4 h Q)))
set_option maxRecDepth 4000 in
theorem rX9_cutAll_218 {l : Launch} {g : am_G} {d : Nat} {x : Bool} {a0 : Nat} {i1 : Int32} {i2 : Int32} {i4 : Int32} {l5 : Int64} {h : am_H} {Q : Option Value → am_H → Prop} (H : zX9_cutAll_218 l g d x a0 i1 i2 i4 l5 h Q) : am_J l g mX9_cutAll (d + 1) (0, 0, x) 218 [(0, .ref a0), (1, .int i1), (2, .int i2), (4, .int i4), (5, .long l5)] [] h Q := by
  unfold zX9_cutAll_218 at H
  refine J_aload_n dX9_cutAll_218 0 rfl ?_
  obtain ⟨fs, v1, hh, hk, H⟩ := H
  refine J_get dX9_cutAll_219 fX9_24 hh hk ?_
  clear hh hk
  refine J_iload_n dX9_cutAll_222 1 rfl ?_
  refine J_iload_n dX9_cutAll_223 2 rfl ?_
  refine J_iload dX9_cutAll_224 3 rfl ?_
  refine J_isub dX9_cutAll_226 ?_
  refine J_iconst (v := 4) dX9_cutAll_227 (by decide) ?_
  obtain ⟨H1, H2⟩ := H
  refine J_icmp_le (tgt := 235) dX9_cutAll_228 (by decide) (fun hc => ?_) (fun hc => ?_)
  · replace H := H1 hc
    clear H1 H2
    refine J_iconst (v := 2) dX9_cutAll_235 (by decide) ?_
    exact J_pick [0, 1, 2, 4] rfl (rX9_cutAll_236 H)
  · replace H := H2 hc
    clear H1 H2
    refine J_iconst (v := 4) dX9_cutAll_231 (by decide) ?_
    refine J_goto (tgt := 236) dX9_cutAll_232 (by decide) ?_
    exact J_pick [0, 1, 2, 4] rfl (rX9_cutAll_236 H)
def zX9_cutAll_210 (l : Launch) (g : am_G) (d : Nat) (x : Bool) (a0 : Nat) (i1 : Int32) (i2 : Int32) (i4 : Int32) (s0 : Int64) (h : am_H) (Q : Option Value → am_H → Prop) : Prop := am_J l g mX9_cutAll (d + 1) (0, 0, x) 159 [(0, .ref a0), (1, .int i1), (2, .int (i2 + 1)), (4, .int i4), (5, .long s0)] [] h Q
set_option maxRecDepth 4000 in
theorem rX9_cutAll_210 {l : Launch} {g : am_G} {d : Nat} {x : Bool} {a0 : Nat} {i1 : Int32} {i2 : Int32} {i4 : Int32} {s0 : Int64} {h : am_H} {Q : Option Value → am_H → Prop} (H : zX9_cutAll_210 l g d x a0 i1 i2 i4 s0 h Q) : am_J l g mX9_cutAll (d + 1) (0, 0, x) 210 [(0, .ref a0), (1, .int i1), (2, .int i2), (4, .int i4)] [.long s0] h Q := by
  unfold zX9_cutAll_210 at H
  refine J_lstore (L' := [(5, .long s0), (0, .ref a0), (1, .int i1), (2, .int i2), (4, .int i4)]) dX9_cutAll_210 (by decide) rfl ?_
  refine J_iinc (v := (i2 + 1)) (L' := [(2, .int (i2 + 1)), (5, .long s0), (0, .ref a0), (1, .int i1), (4, .int i4)]) dX9_cutAll_212 3 rfl rfl (by decide) rfl ?_
  refine J_goto (tgt := 159) dX9_cutAll_215 (by decide) ?_
  exact J_pick [2, 3, 0, 4, 1] rfl H
def zX9_cutAll_159 (l : Launch) (g : am_G) (d : Nat) (x : Bool) (a0 : Nat) (i1 : Int32) (i2 : Int32) (i4 : Int32) (l5 : Int64) (h : am_H) (Q : Option Value → am_H → Prop) : Prop := gt_I h a0 9 3 (fun v1 => ((v1 ≤ i2 → zX9_cutAll_218 l g d x a0 i1 i2 i4 l5  h Q) ∧ (¬ v1 ≤ i2 → gt_R h a0 9 1 (fun v2 => al_I 0 h v2 i2 (fun v3 => cs_I l g mX9_isDigit d x [.int v3] h (fun v5 h4 => ((v5 = 0 → zX9_cutAll_218 l g d x a0 i1 i2 i4 l5  h4 Q) ∧ (¬ v5 = 0 → ((4 ≤ (i2 - i4) → zX9_cutAll_210 l g d x a0 i1 i2 i4 l5 h4 Q) ∧ (¬ 4 ≤ (i2 - i4) → gt_R h4 a0 9 1 (fun v6 => al_I 0 h4 v6 i2 (fun v7 => zX9_cutAll_210 l g d x a0 i1 i2 i4 (((10 * l5) + (Int32.toInt64 v7)) - 48) h4 Q))))))))))))
set_option maxRecDepth 4000 in
theorem rX9_cutAll_159 {l : Launch} {g : am_G} {d : Nat} {x : Bool} {a0 : Nat} {i1 : Int32} {i2 : Int32} {i4 : Int32} {l5 : Int64} {h : am_H} {Q : Option Value → am_H → Prop} (H : zX9_cutAll_159 l g d x a0 i1 i2 i4 l5 h Q) : am_J l g mX9_cutAll (d + 1) (0, 0, x) 159 [(0, .ref a0), (1, .int i1), (2, .int i2), (4, .int i4), (5, .long l5)] [] h Q := by
  unfold zX9_cutAll_159 at H
  refine J_iload_n dX9_cutAll_159 2 rfl ?_
  refine J_aload_n dX9_cutAll_160 0 rfl ?_
  obtain ⟨fs, v1, hh, hk, H⟩ := H
  refine J_get dX9_cutAll_161 fX9_123 hh hk ?_
  clear hh hk
  obtain ⟨H1, H2⟩ := H
  refine J_icmp_ge (tgt := 218) dX9_cutAll_164 (by decide) (fun hc => ?_) (fun hc => ?_)
  · replace H := H1 hc
    clear H1 H2
    exact J_pick [0, 1, 2, 3, 4] rfl (rX9_cutAll_218 H)
  · replace H := H2 hc
    clear H1 H2
    refine J_aload_n dX9_cutAll_167 0 rfl ?_
    obtain ⟨fs, v2, hh, hk, H⟩ := H
    refine J_get dX9_cutAll_168 fX9_14 hh hk ?_
    clear hh hk
    refine J_iload_n dX9_cutAll_171 2 rfl ?_
    obtain ⟨nn, ff, hh, hk, H⟩ := H
    refine J_iald dX9_cutAll_172 hh hk ?_
    generalize ff (Int32.toNatClampNeg i2) = v3 at H ⊢
    clear hh hk ff
    refine J_callS (As := [.int v3]) (S := []) dX9_cutAll_173 mX9_isDigit_ok kX9_132 rfl (by decide) (Nat.le_of_ble_eq_true rfl) rfl (Nat.le_of_ble_eq_true rfl) ⟨Nat.le_of_ble_eq_true rfl, Nat.le_of_ble_eq_true rfl⟩ (fun k h' hp => ?_) H (fun r h4 hp => ?_)
    · obtain ⟨_, hv, -⟩ := hp; cases hv
    obtain ⟨v5, rfl, H⟩ := hp
    show am_J l g mX9_cutAll (d + 1) (0, 0, x) 176 [(0, .ref a0), (1, .int i1), (2, .int i2), (4, .int i4), (5, .long l5)] [.int v5] h4 Q
    obtain ⟨H1, H2⟩ := H
    refine J_if_eq (tgt := 218) dX9_cutAll_176 (by decide) (fun hc => ?_) (fun hc => ?_)
    · replace H := H1 hc
      clear H1 H2
      exact J_pick [0, 1, 2, 3, 4] rfl (rX9_cutAll_218 H)
    · replace H := H2 hc
      clear H1 H2
      refine J_iload_n dX9_cutAll_179 2 rfl ?_
      refine J_iload dX9_cutAll_180 3 rfl ?_
      refine J_isub dX9_cutAll_182 ?_
      refine J_iconst (v := 4) dX9_cutAll_183 (by decide) ?_
      obtain ⟨H1, H2⟩ := H
      refine J_icmp_ge (tgt := 208) dX9_cutAll_184 (by decide) (fun hc => ?_) (fun hc => ?_)
      · replace H := H1 hc
        clear H1 H2
        refine J_lload dX9_cutAll_208 4 rfl ?_
        exact J_pick [0, 1, 2, 3] rfl (rX9_cutAll_210 H)
      · replace H := H2 hc
        clear H1 H2
        refine J_ldc2 (v := 10) dX9_cutAll_187 qX9_135 ?_
        refine J_lload dX9_cutAll_190 4 rfl ?_
        refine J_lmul dX9_cutAll_192 ?_
        refine J_aload_n dX9_cutAll_193 0 rfl ?_
        obtain ⟨fs, v6, hh, hk, H⟩ := H
        refine J_get dX9_cutAll_194 fX9_14 hh hk ?_
        clear hh hk
        refine J_iload_n dX9_cutAll_197 2 rfl ?_
        obtain ⟨nn, ff, hh, hk, H⟩ := H
        refine J_iald dX9_cutAll_198 hh hk ?_
        generalize ff (Int32.toNatClampNeg i2) = v7 at H ⊢
        clear hh hk ff
        refine J_i2l dX9_cutAll_199 ?_
        refine J_ladd dX9_cutAll_200 ?_
        refine J_ldc2 (v := 48) dX9_cutAll_201 qX9_137 ?_
        refine J_lsub dX9_cutAll_204 ?_
        refine J_goto (tgt := 210) dX9_cutAll_205 (by decide) ?_
        exact J_pick [0, 1, 2, 3] rfl (rX9_cutAll_210 H)
def zX9_cutAll_148 (l : Launch) (g : am_G) (d : Nat) (x : Bool) (a0 : Nat) (i1 : Int32) (i2 : Int32) (l5 : Int64) (s0 : Nat) (s1 : Int32) (s2 : Int32) (h : am_H) (Q : Option Value → am_H → Prop) : Prop := as_I 0 h s0 s1 s2 (fun h1 => zX9_cutAll_265 l g d x a0 i1 i2 l5  h1 Q)
set_option maxRecDepth 4000 in
theorem rX9_cutAll_148 {l : Launch} {g : am_G} {d : Nat} {x : Bool} {a0 : Nat} {i1 : Int32} {i2 : Int32} {l5 : Int64} {s0 : Nat} {s1 : Int32} {s2 : Int32} {h : am_H} {Q : Option Value → am_H → Prop} (H : zX9_cutAll_148 l g d x a0 i1 i2 l5 s0 s1 s2 h Q) : am_J l g mX9_cutAll (d + 1) (0, 0, x) 148 [(0, .ref a0), (1, .int i1), (2, .int i2), (5, .long l5)] [.int s2, .int s1, .ref s0] h Q := by
  unfold zX9_cutAll_148 at H
  obtain ⟨nn, ff, hh, hk, H⟩ := H
  refine J_iast dX9_cutAll_148 hh hk ?_
  generalize List.set h s0 (am_I 0 nn (upd ff (Int32.toNatClampNeg s1) s2)) = h1 at H ⊢
  clear hh hk
  refine J_goto (tgt := 265) dX9_cutAll_149 (by decide) ?_
  exact J_pick [0, 1, 2, 3] rfl (rX9_cutAll_265 H)
def zX9_cutAll_129 (l : Launch) (g : am_G) (d : Nat) (x : Bool) (a0 : Nat) (i1 : Int32) (i2 : Int32) (i4 : Int32) (l5 : Int64) (h : am_H) (Q : Option Value → am_H → Prop) : Prop := gt_R h a0 9 4 (fun v1 => (((i2 - i4) ≤ 8 → zX9_cutAll_148 l g d x a0 i1 i2 l5 v1 i1 1 h Q) ∧ (¬ (i2 - i4) ≤ 8 → zX9_cutAll_148 l g d x a0 i1 i2 l5 v1 i1 4 h Q)))
set_option maxRecDepth 4000 in
theorem rX9_cutAll_129 {l : Launch} {g : am_G} {d : Nat} {x : Bool} {a0 : Nat} {i1 : Int32} {i2 : Int32} {i4 : Int32} {l5 : Int64} {h : am_H} {Q : Option Value → am_H → Prop} (H : zX9_cutAll_129 l g d x a0 i1 i2 i4 l5 h Q) : am_J l g mX9_cutAll (d + 1) (0, 0, x) 129 [(0, .ref a0), (1, .int i1), (2, .int i2), (4, .int i4), (5, .long l5)] [] h Q := by
  unfold zX9_cutAll_129 at H
  refine J_aload_n dX9_cutAll_129 0 rfl ?_
  obtain ⟨fs, v1, hh, hk, H⟩ := H
  refine J_get dX9_cutAll_130 fX9_24 hh hk ?_
  clear hh hk
  refine J_iload_n dX9_cutAll_133 1 rfl ?_
  refine J_iload_n dX9_cutAll_134 2 rfl ?_
  refine J_iload dX9_cutAll_135 3 rfl ?_
  refine J_isub dX9_cutAll_137 ?_
  refine J_bipush (v := 8) dX9_cutAll_138 (by decide) ?_
  obtain ⟨H1, H2⟩ := H
  refine J_icmp_le (tgt := 147) dX9_cutAll_140 (by decide) (fun hc => ?_) (fun hc => ?_)
  · replace H := H1 hc
    clear H1 H2
    refine J_iconst (v := 1) dX9_cutAll_147 (by decide) ?_
    exact J_pick [0, 1, 2, 4] rfl (rX9_cutAll_148 H)
  · replace H := H2 hc
    clear H1 H2
    refine J_iconst (v := 4) dX9_cutAll_143 (by decide) ?_
    refine J_goto (tgt := 148) dX9_cutAll_144 (by decide) ?_
    exact J_pick [0, 1, 2, 4] rfl (rX9_cutAll_148 H)
def zX9_cutAll_121 (l : Launch) (g : am_G) (d : Nat) (x : Bool) (a0 : Nat) (i1 : Int32) (i2 : Int32) (i4 : Int32) (s0 : Int64) (h : am_H) (Q : Option Value → am_H → Prop) : Prop := am_J l g mX9_cutAll (d + 1) (0, 0, x) 70 [(0, .ref a0), (1, .int i1), (2, .int (i2 + 1)), (4, .int i4), (5, .long s0)] [] h Q
set_option maxRecDepth 4000 in
theorem rX9_cutAll_121 {l : Launch} {g : am_G} {d : Nat} {x : Bool} {a0 : Nat} {i1 : Int32} {i2 : Int32} {i4 : Int32} {s0 : Int64} {h : am_H} {Q : Option Value → am_H → Prop} (H : zX9_cutAll_121 l g d x a0 i1 i2 i4 s0 h Q) : am_J l g mX9_cutAll (d + 1) (0, 0, x) 121 [(0, .ref a0), (1, .int i1), (2, .int i2), (4, .int i4)] [.long s0] h Q := by
  unfold zX9_cutAll_121 at H
  refine J_lstore (L' := [(5, .long s0), (0, .ref a0), (1, .int i1), (2, .int i2), (4, .int i4)]) dX9_cutAll_121 (by decide) rfl ?_
  refine J_iinc (v := (i2 + 1)) (L' := [(2, .int (i2 + 1)), (5, .long s0), (0, .ref a0), (1, .int i1), (4, .int i4)]) dX9_cutAll_123 3 rfl rfl (by decide) rfl ?_
  refine J_goto (tgt := 70) dX9_cutAll_126 (by decide) ?_
  exact J_pick [2, 3, 0, 4, 1] rfl H
def zX9_cutAll_70 (l : Launch) (g : am_G) (d : Nat) (x : Bool) (a0 : Nat) (i1 : Int32) (i2 : Int32) (i4 : Int32) (l5 : Int64) (h : am_H) (Q : Option Value → am_H → Prop) : Prop := gt_I h a0 9 3 (fun v1 => ((v1 ≤ i2 → zX9_cutAll_129 l g d x a0 i1 i2 i4 l5  h Q) ∧ (¬ v1 ≤ i2 → gt_R h a0 9 1 (fun v2 => al_I 0 h v2 i2 (fun v3 => cs_I l g mX9_isLetter d x [.int v3] h (fun v5 h4 => ((v5 = 0 → zX9_cutAll_129 l g d x a0 i1 i2 i4 l5  h4 Q) ∧ (¬ v5 = 0 → ((8 ≤ (i2 - i4) → zX9_cutAll_121 l g d x a0 i1 i2 i4 l5 h4 Q) ∧ (¬ 8 ≤ (i2 - i4) → gt_R h4 a0 9 1 (fun v6 => al_I 0 h4 v6 i2 (fun v7 => cs_I l g mX9_rank d x [.int v7] h4 (fun v9 h8 => zX9_cutAll_121 l g d x a0 i1 i2 i4 ((37 * l5) + (Int32.toInt64 v9)) h8 Q)))))))))))))
set_option maxRecDepth 4000 in
theorem rX9_cutAll_70 {l : Launch} {g : am_G} {d : Nat} {x : Bool} {a0 : Nat} {i1 : Int32} {i2 : Int32} {i4 : Int32} {l5 : Int64} {h : am_H} {Q : Option Value → am_H → Prop} (H : zX9_cutAll_70 l g d x a0 i1 i2 i4 l5 h Q) : am_J l g mX9_cutAll (d + 1) (0, 0, x) 70 [(0, .ref a0), (1, .int i1), (2, .int i2), (4, .int i4), (5, .long l5)] [] h Q := by
  unfold zX9_cutAll_70 at H
  refine J_iload_n dX9_cutAll_70 2 rfl ?_
  refine J_aload_n dX9_cutAll_71 0 rfl ?_
  obtain ⟨fs, v1, hh, hk, H⟩ := H
  refine J_get dX9_cutAll_72 fX9_123 hh hk ?_
  clear hh hk
  obtain ⟨H1, H2⟩ := H
  refine J_icmp_ge (tgt := 129) dX9_cutAll_75 (by decide) (fun hc => ?_) (fun hc => ?_)
  · replace H := H1 hc
    clear H1 H2
    exact J_pick [0, 1, 2, 3, 4] rfl (rX9_cutAll_129 H)
  · replace H := H2 hc
    clear H1 H2
    refine J_aload_n dX9_cutAll_78 0 rfl ?_
    obtain ⟨fs, v2, hh, hk, H⟩ := H
    refine J_get dX9_cutAll_79 fX9_14 hh hk ?_
    clear hh hk
    refine J_iload_n dX9_cutAll_82 2 rfl ?_
    obtain ⟨nn, ff, hh, hk, H⟩ := H
    refine J_iald dX9_cutAll_83 hh hk ?_
    generalize ff (Int32.toNatClampNeg i2) = v3 at H ⊢
    clear hh hk ff
    refine J_callS (As := [.int v3]) (S := []) dX9_cutAll_84 mX9_isLetter_ok kX9_119 rfl (by decide) (Nat.le_of_ble_eq_true rfl) rfl (Nat.le_of_ble_eq_true rfl) ⟨Nat.le_of_ble_eq_true rfl, Nat.le_of_ble_eq_true rfl⟩ (fun k h' hp => ?_) H (fun r h4 hp => ?_)
    · obtain ⟨_, hv, -⟩ := hp; cases hv
    obtain ⟨v5, rfl, H⟩ := hp
    show am_J l g mX9_cutAll (d + 1) (0, 0, x) 87 [(0, .ref a0), (1, .int i1), (2, .int i2), (4, .int i4), (5, .long l5)] [.int v5] h4 Q
    obtain ⟨H1, H2⟩ := H
    refine J_if_eq (tgt := 129) dX9_cutAll_87 (by decide) (fun hc => ?_) (fun hc => ?_)
    · replace H := H1 hc
      clear H1 H2
      exact J_pick [0, 1, 2, 3, 4] rfl (rX9_cutAll_129 H)
    · replace H := H2 hc
      clear H1 H2
      refine J_iload_n dX9_cutAll_90 2 rfl ?_
      refine J_iload dX9_cutAll_91 3 rfl ?_
      refine J_isub dX9_cutAll_93 ?_
      refine J_bipush (v := 8) dX9_cutAll_94 (by decide) ?_
      obtain ⟨H1, H2⟩ := H
      refine J_icmp_ge (tgt := 119) dX9_cutAll_96 (by decide) (fun hc => ?_) (fun hc => ?_)
      · replace H := H1 hc
        clear H1 H2
        refine J_lload dX9_cutAll_119 4 rfl ?_
        exact J_pick [0, 1, 2, 3] rfl (rX9_cutAll_121 H)
      · replace H := H2 hc
        clear H1 H2
        refine J_ldc2 (v := 37) dX9_cutAll_99 qX9_126 ?_
        refine J_lload dX9_cutAll_102 4 rfl ?_
        refine J_lmul dX9_cutAll_104 ?_
        refine J_aload_n dX9_cutAll_105 0 rfl ?_
        obtain ⟨fs, v6, hh, hk, H⟩ := H
        refine J_get dX9_cutAll_106 fX9_14 hh hk ?_
        clear hh hk
        refine J_iload_n dX9_cutAll_109 2 rfl ?_
        obtain ⟨nn, ff, hh, hk, H⟩ := H
        refine J_iald dX9_cutAll_110 hh hk ?_
        generalize ff (Int32.toNatClampNeg i2) = v7 at H ⊢
        clear hh hk ff
        refine J_callS (As := [.int v7]) (S := [.long (37 * l5)]) dX9_cutAll_111 mX9_rank_ok kX9_128 rfl (by decide) (Nat.le_of_ble_eq_true rfl) rfl (Nat.le_of_ble_eq_true rfl) ⟨Nat.le_of_ble_eq_true rfl, Nat.le_of_ble_eq_true rfl⟩ (fun k h' hp => ?_) H (fun r h8 hp => ?_)
        · obtain ⟨_, hv, -⟩ := hp; cases hv
        obtain ⟨v9, rfl, H⟩ := hp
        show am_J l g mX9_cutAll (d + 1) (0, 0, x) 114 [(0, .ref a0), (1, .int i1), (2, .int i2), (4, .int i4), (5, .long l5)] [.int v9, .long (37 * l5)] h8 Q
        refine J_i2l dX9_cutAll_114 ?_
        refine J_ladd dX9_cutAll_115 ?_
        refine J_goto (tgt := 121) dX9_cutAll_116 (by decide) ?_
        exact J_pick [0, 1, 2, 3] rfl (rX9_cutAll_121 H)
def zX9_cutAll_44 (l : Launch) (g : am_G) (d : Nat) (x : Bool) (a0 : Nat) (i1 : Int32) (i2 : Int32) (h : am_H) (Q : Option Value → am_H → Prop) : Prop := am_J l g mX9_cutAll (d + 1) (0, 0, x) 17 [(0, .ref a0), (1, .int i1), (2, .int (i2 + 1))] [] h Q
set_option maxRecDepth 4000 in
theorem rX9_cutAll_44 {l : Launch} {g : am_G} {d : Nat} {x : Bool} {a0 : Nat} {i1 : Int32} {i2 : Int32} {h : am_H} {Q : Option Value → am_H → Prop} (H : zX9_cutAll_44 l g d x a0 i1 i2 h Q) : am_J l g mX9_cutAll (d + 1) (0, 0, x) 44 [(0, .ref a0), (1, .int i1), (2, .int i2)] [] h Q := by
  unfold zX9_cutAll_44 at H
  refine J_iinc (v := (i2 + 1)) (L' := [(2, .int (i2 + 1)), (0, .ref a0), (1, .int i1)]) dX9_cutAll_44 2 rfl rfl (by decide) rfl ?_
  refine J_goto (tgt := 17) dX9_cutAll_47 (by decide) ?_
  exact J_pick [1, 2, 0] rfl H
def zX9_cutAll_17 (l : Launch) (g : am_G) (d : Nat) (x : Bool) (a0 : Nat) (i1 : Int32) (i2 : Int32) (h : am_H) (Q : Option Value → am_H → Prop) : Prop := gt_I h a0 9 3 (fun v1 => ((v1 ≤ i2 → gt_R h a0 9 4 (fun v2 => as_I 0 h v2 i1 0 (fun h3 => gt_R h3 a0 9 5 (fun v4 => gt_I h3 a0 9 3 (fun v5 => as_I 0 h3 v4 i1 v5 (fun h6 => pt_V h6 a0 9 7 (.int 0) (fun h7 => pt_V h7 a0 9 8 (.int 0) (fun h8 => Q none h8)))))))) ∧ (¬ v1 ≤ i2 → gt_R h a0 9 1 (fun v9 => al_I 0 h v9 i2 (fun v10 => ((v10 = 10 → zX9_cutAll_44 l g d x a0 i1 i2  h Q) ∧ (¬ v10 = 10 → ((¬ v10 = 32 → gt_R h a0 9 5 (fun v11 => as_I 0 h v11 i1 i2 (fun h12 => cs_I l g mX9_isLetter d x [.int v10] h12 (fun v14 h13 => ((v14 = 0 → cs_I l g mX9_isDigit d x [.int v10] h13 (fun v16 h15 => ((v16 = 0 → gt_R h15 a0 9 4 (fun v17 => cs_I l g mX9_isSignOf d x [.int v10] h15 (fun v19 h18 => ((v19 = 0 → zX9_cutAll_261 l g d x a0 i1 i2 (Int32.toInt64 v10) v17 i1 4 h18 Q) ∧ (¬ v19 = 0 → zX9_cutAll_261 l g d x a0 i1 i2 (Int32.toInt64 v10) v17 i1 3 h18 Q))))) ∧ (¬ v16 = 0 → am_J l g mX9_cutAll (d + 1) (0, 0, x) 159 [(0, .ref a0), (1, .int i1), (2, .int i2), (4, .int i2), (5, .long 0)] [] h15 Q)))) ∧ (¬ v14 = 0 → am_J l g mX9_cutAll (d + 1) (0, 0, x) 70 [(0, .ref a0), (1, .int i1), (2, .int i2), (4, .int i2), (5, .long 0)] [] h13 Q)))))) ∧ (v10 = 32 → zX9_cutAll_44 l g d x a0 i1 i2  h Q)))))))))
set_option maxRecDepth 4000 in
theorem rX9_cutAll_17 {l : Launch} {g : am_G} {d : Nat} {x : Bool} {a0 : Nat} {i1 : Int32} {i2 : Int32} {h : am_H} {Q : Option Value → am_H → Prop} (H : zX9_cutAll_17 l g d x a0 i1 i2 h Q) : am_J l g mX9_cutAll (d + 1) (0, 0, x) 17 [(0, .ref a0), (1, .int i1), (2, .int i2)] [] h Q := by
  unfold zX9_cutAll_17 at H
  refine J_iload_n dX9_cutAll_17 2 rfl ?_
  refine J_aload_n dX9_cutAll_18 0 rfl ?_
  obtain ⟨fs, v1, hh, hk, H⟩ := H
  refine J_get dX9_cutAll_19 fX9_123 hh hk ?_
  clear hh hk
  obtain ⟨H1, H2⟩ := H
  refine J_icmp_ge (tgt := 279) dX9_cutAll_22 (by decide) (fun hc => ?_) (fun hc => ?_)
  · replace H := H1 hc
    clear H1 H2
    refine J_aload_n dX9_cutAll_279 0 rfl ?_
    obtain ⟨fs, v2, hh, hk, H⟩ := H
    refine J_get dX9_cutAll_280 fX9_24 hh hk ?_
    clear hh hk
    refine J_iload_n dX9_cutAll_283 1 rfl ?_
    refine J_iconst (v := 0) dX9_cutAll_284 (by decide) ?_
    obtain ⟨nn, ff, hh, hk, H⟩ := H
    refine J_iast dX9_cutAll_285 hh hk ?_
    generalize List.set h v2 (am_I 0 nn (upd ff (Int32.toNatClampNeg i1) 0)) = h3 at H ⊢
    clear hh hk
    refine J_aload_n dX9_cutAll_286 0 rfl ?_
    obtain ⟨fs, v4, hh, hk, H⟩ := H
    refine J_get dX9_cutAll_287 fX9_27 hh hk ?_
    clear hh hk
    refine J_iload_n dX9_cutAll_290 1 rfl ?_
    refine J_aload_n dX9_cutAll_291 0 rfl ?_
    obtain ⟨fs, v5, hh, hk, H⟩ := H
    refine J_get dX9_cutAll_292 fX9_123 hh hk ?_
    clear hh hk
    obtain ⟨nn, ff, hh, hk, H⟩ := H
    refine J_iast dX9_cutAll_295 hh hk ?_
    generalize List.set h3 v4 (am_I 0 nn (upd ff (Int32.toNatClampNeg i1) v5)) = h6 at H ⊢
    clear hh hk
    refine J_aload_n dX9_cutAll_296 0 rfl ?_
    refine J_iconst (v := 0) dX9_cutAll_297 (by decide) ?_
    obtain ⟨fs, hh, hk, H⟩ := H
    refine J_put dX9_cutAll_298 fX9_142 rfl rfl hh hk ?_
    generalize List.set h6 a0 (am_O 9 (List.set fs 7 (.int 0))) = h7 at H ⊢
    clear hh hk
    refine J_aload_n dX9_cutAll_301 0 rfl ?_
    refine J_iconst (v := 0) dX9_cutAll_302 (by decide) ?_
    obtain ⟨fs, hh, hk, H⟩ := H
    refine J_put dX9_cutAll_303 fX9_145 rfl rfl hh hk ?_
    generalize List.set h7 a0 (am_O 9 (List.set fs 8 (.int 0))) = h8 at H ⊢
    clear hh hk
    exact J_vret dX9_cutAll_306 rfl ⟨Nat.le_of_ble_eq_true rfl, Nat.le_of_ble_eq_true rfl, fun _ => rfl⟩ H
  · replace H := H2 hc
    clear H1 H2
    refine J_aload_n dX9_cutAll_25 0 rfl ?_
    obtain ⟨fs, v9, hh, hk, H⟩ := H
    refine J_get dX9_cutAll_26 fX9_14 hh hk ?_
    clear hh hk
    refine J_iload_n dX9_cutAll_29 2 rfl ?_
    obtain ⟨nn, ff, hh, hk, H⟩ := H
    refine J_iald dX9_cutAll_30 hh hk ?_
    generalize ff (Int32.toNatClampNeg i2) = v10 at H ⊢
    clear hh hk ff
    refine J_istore_n (L' := [(3, .int v10), (0, .ref a0), (1, .int i1), (2, .int i2)]) dX9_cutAll_31 (by decide) rfl ?_
    refine J_iload_n dX9_cutAll_32 0 rfl ?_
    refine J_bipush (v := 10) dX9_cutAll_33 (by decide) ?_
    obtain ⟨H1, H2⟩ := H
    refine J_icmp_eq (tgt := 44) dX9_cutAll_35 (by decide) (fun hc => ?_) (fun hc => ?_)
    · replace H := H1 hc
      clear H1 H2
      exact J_pick [1, 2, 3] rfl (rX9_cutAll_44 H)
    · replace H := H2 hc
      clear H1 H2
      refine J_iload_n dX9_cutAll_38 0 rfl ?_
      refine J_bipush (v := 32) dX9_cutAll_39 (by decide) ?_
      obtain ⟨H1, H2⟩ := H
      refine J_icmp_ne (tgt := 50) dX9_cutAll_41 (by decide) (fun hc => ?_) (fun hc => ?_)
      · replace H := H1 hc
        clear H1 H2
        refine J_iload_n dX9_cutAll_50 3 rfl ?_
        refine J_istore (L' := [(4, .int i2), (3, .int v10), (0, .ref a0), (1, .int i1), (2, .int i2)]) dX9_cutAll_51 (by decide) rfl ?_
        refine J_lconst (v := 0) dX9_cutAll_53 (by decide) ?_
        refine J_lstore (L' := [(5, .long 0), (4, .int i2), (3, .int v10), (0, .ref a0), (1, .int i1), (2, .int i2)]) dX9_cutAll_54 (by decide) rfl ?_
        refine J_aload_n dX9_cutAll_56 3 rfl ?_
        obtain ⟨fs, v11, hh, hk, H⟩ := H
        refine J_get dX9_cutAll_57 fX9_27 hh hk ?_
        clear hh hk
        refine J_iload_n dX9_cutAll_60 4 rfl ?_
        refine J_iload_n dX9_cutAll_61 5 rfl ?_
        obtain ⟨nn, ff, hh, hk, H⟩ := H
        refine J_iast dX9_cutAll_62 hh hk ?_
        generalize List.set h v11 (am_I 0 nn (upd ff (Int32.toNatClampNeg i1) i2)) = h12 at H ⊢
        clear hh hk
        refine J_iload_n dX9_cutAll_63 2 rfl ?_
        refine J_callS (As := [.int v10]) (S := []) dX9_cutAll_64 mX9_isLetter_ok kX9_119 rfl (by decide) (Nat.le_of_ble_eq_true rfl) rfl (Nat.le_of_ble_eq_true rfl) ⟨Nat.le_of_ble_eq_true rfl, Nat.le_of_ble_eq_true rfl⟩ (fun k h' hp => ?_) H (fun r h13 hp => ?_)
        · obtain ⟨_, hv, -⟩ := hp; cases hv
        obtain ⟨v14, rfl, H⟩ := hp
        show am_J l g mX9_cutAll (d + 1) (0, 0, x) 67 [(5, .long 0), (4, .int i2), (3, .int v10), (0, .ref a0), (1, .int i1), (2, .int i2)] [.int v14] h13 Q
        obtain ⟨H1, H2⟩ := H
        refine J_if_eq (tgt := 152) dX9_cutAll_67 (by decide) (fun hc => ?_) (fun hc => ?_)
        · replace H := H1 hc
          clear H1 H2
          refine J_iload_n dX9_cutAll_152 2 rfl ?_
          refine J_callS (As := [.int v10]) (S := []) dX9_cutAll_153 mX9_isDigit_ok kX9_132 rfl (by decide) (Nat.le_of_ble_eq_true rfl) rfl (Nat.le_of_ble_eq_true rfl) ⟨Nat.le_of_ble_eq_true rfl, Nat.le_of_ble_eq_true rfl⟩ (fun k h' hp => ?_) H (fun r h15 hp => ?_)
          · obtain ⟨_, hv, -⟩ := hp; cases hv
          obtain ⟨v16, rfl, H⟩ := hp
          show am_J l g mX9_cutAll (d + 1) (0, 0, x) 156 [(5, .long 0), (4, .int i2), (3, .int v10), (0, .ref a0), (1, .int i1), (2, .int i2)] [.int v16] h15 Q
          obtain ⟨H1, H2⟩ := H
          refine J_if_eq (tgt := 240) dX9_cutAll_156 (by decide) (fun hc => ?_) (fun hc => ?_)
          · replace H := H1 hc
            clear H1 H2
            refine J_iload_n dX9_cutAll_240 2 rfl ?_
            refine J_i2l dX9_cutAll_241 ?_
            refine J_lstore (L' := [(5, .long (Int32.toInt64 v10)), (4, .int i2), (3, .int v10), (0, .ref a0), (1, .int i1), (2, .int i2)]) dX9_cutAll_242 (by decide) rfl ?_
            refine J_aload_n dX9_cutAll_244 3 rfl ?_
            obtain ⟨fs, v17, hh, hk, H⟩ := H
            refine J_get dX9_cutAll_245 fX9_24 hh hk ?_
            clear hh hk
            refine J_iload_n dX9_cutAll_248 4 rfl ?_
            refine J_iload_n dX9_cutAll_249 2 rfl ?_
            refine J_callS (As := [.int v10]) (S := [.int i1, .ref v17]) dX9_cutAll_250 mX9_isSignOf_ok kX9_139 rfl (by decide) (Nat.le_of_ble_eq_true rfl) rfl (Nat.le_of_ble_eq_true rfl) ⟨Nat.le_of_ble_eq_true rfl, Nat.le_of_ble_eq_true rfl⟩ (fun k h' hp => ?_) H (fun r h18 hp => ?_)
            · obtain ⟨_, hv, -⟩ := hp; cases hv
            obtain ⟨v19, rfl, H⟩ := hp
            show am_J l g mX9_cutAll (d + 1) (0, 0, x) 253 [(5, .long (Int32.toInt64 v10)), (4, .int i2), (3, .int v10), (0, .ref a0), (1, .int i1), (2, .int i2)] [.int v19, .int i1, .ref v17] h18 Q
            obtain ⟨H1, H2⟩ := H
            refine J_if_eq (tgt := 260) dX9_cutAll_253 (by decide) (fun hc => ?_) (fun hc => ?_)
            · replace H := H1 hc
              clear H1 H2
              refine J_iconst (v := 4) dX9_cutAll_260 (by decide) ?_
              exact J_pick [3, 4, 5, 0] rfl (rX9_cutAll_261 H)
            · replace H := H2 hc
              clear H1 H2
              refine J_iconst (v := 3) dX9_cutAll_256 (by decide) ?_
              refine J_goto (tgt := 261) dX9_cutAll_257 (by decide) ?_
              exact J_pick [3, 4, 5, 0] rfl (rX9_cutAll_261 H)
          · replace H := H2 hc
            clear H1 H2
            exact J_pick [3, 4, 5, 1, 0] rfl H
        · replace H := H2 hc
          clear H1 H2
          exact J_pick [3, 4, 5, 1, 0] rfl H
      · replace H := H2 hc
        clear H1 H2
        exact J_pick [1, 2, 3] rfl (rX9_cutAll_44 H)
def zX9_cutAll_0 (l : Launch) (g : am_G) (d : Nat) (x : Bool) (a0 : Nat) (h : am_H) (Q : Option Value → am_H → Prop) : Prop := gt_I h a0 9 2 (fun v1 => pt_V h a0 9 3 (.int v1) (fun h2 => pt_V h2 a0 9 2 (.int 0) (fun h3 => am_J l g mX9_cutAll (d + 1) (0, 0, x) 17 [(0, .ref a0), (1, .int 0), (2, .int 0)] [] h3 Q)))
set_option maxRecDepth 4000 in
theorem rX9_cutAll_0 {l : Launch} {g : am_G} {d : Nat} {x : Bool} {a0 : Nat} {h : am_H} {Q : Option Value → am_H → Prop} (H : zX9_cutAll_0 l g d x a0 h Q) : am_J l g mX9_cutAll (d + 1) (0, 0, x) 0 [(0, .ref a0)] [] h Q := by
  unfold zX9_cutAll_0 at H
  refine J_aload_n dX9_cutAll_0 0 rfl ?_
  refine J_aload_n dX9_cutAll_1 0 rfl ?_
  obtain ⟨fs, v1, hh, hk, H⟩ := H
  refine J_get dX9_cutAll_2 fX9_11 hh hk ?_
  clear hh hk
  obtain ⟨fs, hh, hk, H⟩ := H
  refine J_put dX9_cutAll_5 fX9_123 rfl rfl hh hk ?_
  generalize List.set h a0 (am_O 9 (List.set fs 3 (.int v1))) = h2 at H ⊢
  clear hh hk
  refine J_aload_n dX9_cutAll_8 0 rfl ?_
  refine J_iconst (v := 0) dX9_cutAll_9 (by decide) ?_
  obtain ⟨fs, hh, hk, H⟩ := H
  refine J_put dX9_cutAll_10 fX9_11 rfl rfl hh hk ?_
  generalize List.set h2 a0 (am_O 9 (List.set fs 2 (.int 0))) = h3 at H ⊢
  clear hh hk
  refine J_iconst (v := 0) dX9_cutAll_13 (by decide) ?_
  refine J_istore_n (L' := [(1, .int 0), (0, .ref a0)]) dX9_cutAll_14 (by decide) rfl ?_
  refine J_iconst (v := 0) dX9_cutAll_15 (by decide) ?_
  refine J_istore_n (L' := [(2, .int 0), (1, .int 0), (0, .ref a0)]) dX9_cutAll_16 (by decide) rfl ?_
  exact J_pick [2, 1, 0] rfl H
theorem eX9_cutAll {l : Launch} {g : am_G} {d : Nat} {x : Bool} {a0 : Nat} {h : am_H} {K : am_H → Prop} (H : zX9_cutAll_0 l g d x a0 h (fun r h' => r = none ∧ K h')) : cl_N l g mX9_cutAll (d + 1) x [.ref a0] h K := rX9_cutAll_0 H
def zX9_wrong_0 (l : Launch) (g : am_G) (d : Nat) (x : Bool) (a0 : Nat) (i1 : Int32) (h : am_H) (Q : Option Value → am_H → Prop) : Prop := gt_I h a0 9 8 (fun v1 => ((¬ v1 = 0 → Q none h) ∧ (v1 = 0 → gt_R h a0 9 5 (fun v2 => gt_I h a0 9 7 (fun v3 => al_I 0 h v2 v3 (fun v4 => pt_V h a0 9 8 (.int (i1 + (16 * v4))) (fun h5 => Q none h5)))))))
set_option maxRecDepth 4000 in
theorem rX9_wrong_0 {l : Launch} {g : am_G} {d : Nat} {x : Bool} {a0 : Nat} {i1 : Int32} {h : am_H} {Q : Option Value → am_H → Prop} (H : zX9_wrong_0 l g d x a0 i1 h Q) : am_J l g mX9_wrong d (0, 0, x) 0 [(0, .ref a0), (1, .int i1)] [] h Q := by
  unfold zX9_wrong_0 at H
  refine J_aload_n dX9_wrong_0 0 rfl ?_
  obtain ⟨fs, v1, hh, hk, H⟩ := H
  refine J_get dX9_wrong_1 fX9_145 hh hk ?_
  clear hh hk
  obtain ⟨H1, H2⟩ := H
  refine J_if_ne (tgt := 25) dX9_wrong_4 (by decide) (fun hc => ?_) (fun hc => ?_)
  · replace H := H1 hc
    clear H1 H2
    exact J_vret dX9_wrong_25 rfl ⟨Nat.le_of_ble_eq_true rfl, Nat.le_of_ble_eq_true rfl, fun _ => rfl⟩ H
  · replace H := H2 hc
    clear H1 H2
    refine J_aload_n dX9_wrong_7 0 rfl ?_
    refine J_iload_n dX9_wrong_8 1 rfl ?_
    refine J_bipush (v := 16) dX9_wrong_9 (by decide) ?_
    refine J_aload_n dX9_wrong_11 0 rfl ?_
    obtain ⟨fs, v2, hh, hk, H⟩ := H
    refine J_get dX9_wrong_12 fX9_27 hh hk ?_
    clear hh hk
    refine J_aload_n dX9_wrong_15 0 rfl ?_
    obtain ⟨fs, v3, hh, hk, H⟩ := H
    refine J_get dX9_wrong_16 fX9_142 hh hk ?_
    clear hh hk
    obtain ⟨nn, ff, hh, hk, H⟩ := H
    refine J_iald dX9_wrong_19 hh hk ?_
    generalize ff (Int32.toNatClampNeg v3) = v4 at H ⊢
    clear hh hk ff
    refine J_imul dX9_wrong_20 ?_
    refine J_iadd dX9_wrong_21 ?_
    obtain ⟨fs, hh, hk, H⟩ := H
    refine J_put dX9_wrong_22 fX9_145 rfl rfl hh hk ?_
    generalize List.set h a0 (am_O 9 (List.set fs 8 (.int (i1 + (16 * v4))))) = h5 at H ⊢
    clear hh hk
    exact J_vret dX9_wrong_25 rfl ⟨Nat.le_of_ble_eq_true rfl, Nat.le_of_ble_eq_true rfl, fun _ => rfl⟩ H
theorem eX9_wrong {l : Launch} {g : am_G} {d : Nat} {x : Bool} {a0 : Nat} {i1 : Int32} {h : am_H} {K : am_H → Prop} (H : zX9_wrong_0 l g d x a0 i1 h (fun r h' => r = none ∧ K h')) : cl_N l g mX9_wrong d x [.ref a0, .int i1] h K := rX9_wrong_0 H
def zX9_isSign_0 (l : Launch) (g : am_G) (d : Nat) (x : Bool) (a0 : Nat) (i1 : Int32) (h : am_H) (Q : Option Value → am_H → Prop) : Prop := gt_I h a0 9 8 (fun v1 => ((¬ v1 = 0 → Q (some (.int 0)) h) ∧ (v1 = 0 → gt_R h a0 9 4 (fun v2 => gt_I h a0 9 7 (fun v3 => al_I 0 h v2 v3 (fun v4 => ((¬ v4 = 3 → Q (some (.int 0)) h) ∧ (v4 = 3 → gt_R h a0 9 6 (fun v5 => gt_I h a0 9 7 (fun v6 => al_L h v5 v6 (fun v7 => ((¬ (lg_cmp v7 (Int32.toInt64 i1)) = 0 → Q (some (.int 0)) h) ∧ ((lg_cmp v7 (Int32.toInt64 i1)) = 0 → Q (some (.int 1)) h)))))))))))))
set_option maxRecDepth 4000 in
theorem rX9_isSign_0 {l : Launch} {g : am_G} {d : Nat} {x : Bool} {a0 : Nat} {i1 : Int32} {h : am_H} {Q : Option Value → am_H → Prop} (H : zX9_isSign_0 l g d x a0 i1 h Q) : am_J l g mX9_isSign d (0, 0, x) 0 [(0, .ref a0), (1, .int i1)] [] h Q := by
  unfold zX9_isSign_0 at H
  refine J_aload_n dX9_isSign_0 0 rfl ?_
  obtain ⟨fs, v1, hh, hk, H⟩ := H
  refine J_get dX9_isSign_1 fX9_145 hh hk ?_
  clear hh hk
  obtain ⟨H1, H2⟩ := H
  refine J_if_ne (tgt := 39) dX9_isSign_4 (by decide) (fun hc => ?_) (fun hc => ?_)
  · replace H := H1 hc
    clear H1 H2
    refine J_iconst (v := 0) dX9_isSign_39 (by decide) ?_
    exact J_iret dX9_isSign_40 ⟨_, rfl, rfl⟩ ⟨Nat.le_of_ble_eq_true rfl, Nat.le_of_ble_eq_true rfl, fun _ => rfl⟩ H
  · replace H := H2 hc
    clear H1 H2
    refine J_aload_n dX9_isSign_7 0 rfl ?_
    obtain ⟨fs, v2, hh, hk, H⟩ := H
    refine J_get dX9_isSign_8 fX9_24 hh hk ?_
    clear hh hk
    refine J_aload_n dX9_isSign_11 0 rfl ?_
    obtain ⟨fs, v3, hh, hk, H⟩ := H
    refine J_get dX9_isSign_12 fX9_142 hh hk ?_
    clear hh hk
    obtain ⟨nn, ff, hh, hk, H⟩ := H
    refine J_iald dX9_isSign_15 hh hk ?_
    generalize ff (Int32.toNatClampNeg v3) = v4 at H ⊢
    clear hh hk ff
    refine J_iconst (v := 3) dX9_isSign_16 (by decide) ?_
    obtain ⟨H1, H2⟩ := H
    refine J_icmp_ne (tgt := 39) dX9_isSign_17 (by decide) (fun hc => ?_) (fun hc => ?_)
    · replace H := H1 hc
      clear H1 H2
      refine J_iconst (v := 0) dX9_isSign_39 (by decide) ?_
      exact J_iret dX9_isSign_40 ⟨_, rfl, rfl⟩ ⟨Nat.le_of_ble_eq_true rfl, Nat.le_of_ble_eq_true rfl, fun _ => rfl⟩ H
    · replace H := H2 hc
      clear H1 H2
      refine J_aload_n dX9_isSign_20 0 rfl ?_
      obtain ⟨fs, v5, hh, hk, H⟩ := H
      refine J_get dX9_isSign_21 fX9_30 hh hk ?_
      clear hh hk
      refine J_aload_n dX9_isSign_24 0 rfl ?_
      obtain ⟨fs, v6, hh, hk, H⟩ := H
      refine J_get dX9_isSign_25 fX9_142 hh hk ?_
      clear hh hk
      obtain ⟨nn, ff, hh, hk, H⟩ := H
      refine J_lald dX9_isSign_28 hh hk ?_
      generalize ff (Int32.toNatClampNeg v6) = v7 at H ⊢
      clear hh hk ff
      refine J_iload_n dX9_isSign_29 1 rfl ?_
      refine J_i2l dX9_isSign_30 ?_
      refine J_lcmp dX9_isSign_31 ?_
      obtain ⟨H1, H2⟩ := H
      refine J_if_ne (tgt := 39) dX9_isSign_32 (by decide) (fun hc => ?_) (fun hc => ?_)
      · replace H := H1 hc
        clear H1 H2
        refine J_iconst (v := 0) dX9_isSign_39 (by decide) ?_
        exact J_iret dX9_isSign_40 ⟨_, rfl, rfl⟩ ⟨Nat.le_of_ble_eq_true rfl, Nat.le_of_ble_eq_true rfl, fun _ => rfl⟩ H
      · replace H := H2 hc
        clear H1 H2
        refine J_iconst (v := 1) dX9_isSign_35 (by decide) ?_
        refine J_goto (tgt := 40) dX9_isSign_36 (by decide) ?_
        exact J_iret dX9_isSign_40 ⟨_, rfl, rfl⟩ ⟨Nat.le_of_ble_eq_true rfl, Nat.le_of_ble_eq_true rfl, fun _ => rfl⟩ H
theorem eX9_isSign {l : Launch} {g : am_G} {d : Nat} {x : Bool} {a0 : Nat} {i1 : Int32} {h : am_H} {K : Int32 → am_H → Prop} (H : zX9_isSign_0 l g d x a0 i1 h (fun r h' => ∃ v, r = some (.int v) ∧ K v h')) : cl_I l g mX9_isSign d x [.ref a0, .int i1] h K := rX9_isSign_0 H
def zX9_isWord_0 (l : Launch) (g : am_G) (d : Nat) (x : Bool) (a0 : Nat) (i1 : Int32) (h : am_H) (Q : Option Value → am_H → Prop) : Prop := gt_I h a0 9 8 (fun v1 => ((¬ v1 = 0 → Q (some (.int 0)) h) ∧ (v1 = 0 → gt_R h a0 9 4 (fun v2 => gt_I h a0 9 7 (fun v3 => al_I 0 h v2 v3 (fun v4 => ((¬ v4 = 1 → Q (some (.int 0)) h) ∧ (v4 = 1 → gt_R h a0 9 6 (fun v5 => gt_I h a0 9 7 (fun v6 => al_L h v5 v6 (fun v7 => gt_R h a0 9 9 (fun v8 => al_L h v8 i1 (fun v9 => ((¬ (lg_cmp v7 v9) = 0 → Q (some (.int 0)) h) ∧ ((lg_cmp v7 v9) = 0 → Q (some (.int 1)) h)))))))))))))))
set_option maxRecDepth 4000 in
theorem rX9_isWord_0 {l : Launch} {g : am_G} {d : Nat} {x : Bool} {a0 : Nat} {i1 : Int32} {h : am_H} {Q : Option Value → am_H → Prop} (H : zX9_isWord_0 l g d x a0 i1 h Q) : am_J l g mX9_isWord d (0, 0, x) 0 [(0, .ref a0), (1, .int i1)] [] h Q := by
  unfold zX9_isWord_0 at H
  refine J_aload_n dX9_isWord_0 0 rfl ?_
  obtain ⟨fs, v1, hh, hk, H⟩ := H
  refine J_get dX9_isWord_1 fX9_145 hh hk ?_
  clear hh hk
  obtain ⟨H1, H2⟩ := H
  refine J_if_ne (tgt := 43) dX9_isWord_4 (by decide) (fun hc => ?_) (fun hc => ?_)
  · replace H := H1 hc
    clear H1 H2
    refine J_iconst (v := 0) dX9_isWord_43 (by decide) ?_
    exact J_iret dX9_isWord_44 ⟨_, rfl, rfl⟩ ⟨Nat.le_of_ble_eq_true rfl, Nat.le_of_ble_eq_true rfl, fun _ => rfl⟩ H
  · replace H := H2 hc
    clear H1 H2
    refine J_aload_n dX9_isWord_7 0 rfl ?_
    obtain ⟨fs, v2, hh, hk, H⟩ := H
    refine J_get dX9_isWord_8 fX9_24 hh hk ?_
    clear hh hk
    refine J_aload_n dX9_isWord_11 0 rfl ?_
    obtain ⟨fs, v3, hh, hk, H⟩ := H
    refine J_get dX9_isWord_12 fX9_142 hh hk ?_
    clear hh hk
    obtain ⟨nn, ff, hh, hk, H⟩ := H
    refine J_iald dX9_isWord_15 hh hk ?_
    generalize ff (Int32.toNatClampNeg v3) = v4 at H ⊢
    clear hh hk ff
    refine J_iconst (v := 1) dX9_isWord_16 (by decide) ?_
    obtain ⟨H1, H2⟩ := H
    refine J_icmp_ne (tgt := 43) dX9_isWord_17 (by decide) (fun hc => ?_) (fun hc => ?_)
    · replace H := H1 hc
      clear H1 H2
      refine J_iconst (v := 0) dX9_isWord_43 (by decide) ?_
      exact J_iret dX9_isWord_44 ⟨_, rfl, rfl⟩ ⟨Nat.le_of_ble_eq_true rfl, Nat.le_of_ble_eq_true rfl, fun _ => rfl⟩ H
    · replace H := H2 hc
      clear H1 H2
      refine J_aload_n dX9_isWord_20 0 rfl ?_
      obtain ⟨fs, v5, hh, hk, H⟩ := H
      refine J_get dX9_isWord_21 fX9_30 hh hk ?_
      clear hh hk
      refine J_aload_n dX9_isWord_24 0 rfl ?_
      obtain ⟨fs, v6, hh, hk, H⟩ := H
      refine J_get dX9_isWord_25 fX9_142 hh hk ?_
      clear hh hk
      obtain ⟨nn, ff, hh, hk, H⟩ := H
      refine J_lald dX9_isWord_28 hh hk ?_
      generalize ff (Int32.toNatClampNeg v6) = v7 at H ⊢
      clear hh hk ff
      refine J_aload_n dX9_isWord_29 0 rfl ?_
      obtain ⟨fs, v8, hh, hk, H⟩ := H
      refine J_get dX9_isWord_30 fX9_42 hh hk ?_
      clear hh hk
      refine J_iload_n dX9_isWord_33 1 rfl ?_
      obtain ⟨nn, ff, hh, hk, H⟩ := H
      refine J_lald dX9_isWord_34 hh hk ?_
      generalize ff (Int32.toNatClampNeg i1) = v9 at H ⊢
      clear hh hk ff
      refine J_lcmp dX9_isWord_35 ?_
      obtain ⟨H1, H2⟩ := H
      refine J_if_ne (tgt := 43) dX9_isWord_36 (by decide) (fun hc => ?_) (fun hc => ?_)
      · replace H := H1 hc
        clear H1 H2
        refine J_iconst (v := 0) dX9_isWord_43 (by decide) ?_
        exact J_iret dX9_isWord_44 ⟨_, rfl, rfl⟩ ⟨Nat.le_of_ble_eq_true rfl, Nat.le_of_ble_eq_true rfl, fun _ => rfl⟩ H
      · replace H := H2 hc
        clear H1 H2
        refine J_iconst (v := 1) dX9_isWord_39 (by decide) ?_
        refine J_goto (tgt := 44) dX9_isWord_40 (by decide) ?_
        exact J_iret dX9_isWord_44 ⟨_, rfl, rfl⟩ ⟨Nat.le_of_ble_eq_true rfl, Nat.le_of_ble_eq_true rfl, fun _ => rfl⟩ H
theorem eX9_isWord {l : Launch} {g : am_G} {d : Nat} {x : Bool} {a0 : Nat} {i1 : Int32} {h : am_H} {K : Int32 → am_H → Prop} (H : zX9_isWord_0 l g d x a0 i1 h (fun r h' => ∃ v, r = some (.int v) ∧ K v h')) : cl_I l g mX9_isWord d x [.ref a0, .int i1] h K := rX9_isWord_0 H
def zX9_takeSign_0 (l : Launch) (g : am_G) (d : Nat) (x : Bool) (a0 : Nat) (i1 : Int32) (h : am_H) (Q : Option Value → am_H → Prop) : Prop := cv_I l g mX9_isSign d x 9 a0 [.int i1] h (fun v2 h1 => ((v2 = 0 → cv_N l g mX9_wrong d x 9 a0 [.int 1] h1 (fun h3 => Q none h3)) ∧ (¬ v2 = 0 → gt_I h1 a0 9 7 (fun v5 => pt_V h1 a0 9 7 (.int (v5 + 1)) (fun h6 => Q none h6)))))
set_option maxRecDepth 4000 in
theorem rX9_takeSign_0 {l : Launch} {g : am_G} {d : Nat} {x : Bool} {a0 : Nat} {i1 : Int32} {h : am_H} {Q : Option Value → am_H → Prop} (H : zX9_takeSign_0 l g d x a0 i1 h Q) : am_J l g mX9_takeSign (d + 1) (0, 0, x) 0 [(0, .ref a0), (1, .int i1)] [] h Q := by
  unfold zX9_takeSign_0 at H
  refine J_aload_n dX9_takeSign_0 0 rfl ?_
  refine J_iload_n dX9_takeSign_1 1 rfl ?_
  obtain ⟨⟨fs, hh⟩, H⟩ := H
  refine J_callV (As := [.int i1]) (S := []) (b := a0) dX9_takeSign_2 mX9_isSign_ok kX9_148 rfl (by decide) (Nat.le_of_ble_eq_true rfl) hh rfl rfl (Nat.le_of_ble_eq_true rfl) ⟨Nat.le_of_ble_eq_true rfl, Nat.le_of_ble_eq_true rfl⟩ (fun k h' hp => ?_) H (fun r h1 hp => ?_)
  · obtain ⟨_, hv, -⟩ := hp; cases hv
  obtain ⟨v2, rfl, H⟩ := hp
  show am_J l g mX9_takeSign (d + 1) (0, 0, x) 5 [(0, .ref a0), (1, .int i1)] [.int v2] h1 Q
  obtain ⟨H1, H2⟩ := H
  refine J_if_eq (tgt := 21) dX9_takeSign_5 (by decide) (fun hc => ?_) (fun hc => ?_)
  · replace H := H1 hc
    clear H1 H2
    refine J_aload_n dX9_takeSign_21 0 rfl ?_
    refine J_iconst (v := 1) dX9_takeSign_22 (by decide) ?_
    obtain ⟨⟨fs, hh⟩, H⟩ := H
    refine J_callV (As := [.int 1]) (S := []) (b := a0) dX9_takeSign_23 mX9_wrong_ok kX9_151 rfl (by decide) (Nat.le_of_ble_eq_true rfl) hh rfl rfl (Nat.le_of_ble_eq_true rfl) ⟨Nat.le_of_ble_eq_true rfl, Nat.le_of_ble_eq_true rfl⟩ (fun k h' hp => ?_) H (fun r h3 hp => ?_)
    · obtain ⟨hv, -⟩ := hp; cases hv
    obtain ⟨rfl, H⟩ := hp
    show am_J l g mX9_takeSign (d + 1) (0, 0, x) 26 [(0, .ref a0), (1, .int i1)] [] h3 Q
    exact J_vret dX9_takeSign_26 rfl ⟨Nat.le_of_ble_eq_true rfl, Nat.le_of_ble_eq_true rfl, fun _ => rfl⟩ H
  · replace H := H2 hc
    clear H1 H2
    refine J_aload_n dX9_takeSign_8 0 rfl ?_
    refine J_dup dX9_takeSign_9 rfl ?_
    obtain ⟨fs, v5, hh, hk, H⟩ := H
    refine J_get dX9_takeSign_10 fX9_142 hh hk ?_
    clear hh hk
    refine J_iconst (v := 1) dX9_takeSign_13 (by decide) ?_
    refine J_iadd dX9_takeSign_14 ?_
    obtain ⟨fs, hh, hk, H⟩ := H
    refine J_put dX9_takeSign_15 fX9_142 rfl rfl hh hk ?_
    generalize List.set h1 a0 (am_O 9 (List.set fs 7 (.int (v5 + 1)))) = h6 at H ⊢
    clear hh hk
    refine J_goto (tgt := 26) dX9_takeSign_18 (by decide) ?_
    exact J_vret dX9_takeSign_26 rfl ⟨Nat.le_of_ble_eq_true rfl, Nat.le_of_ble_eq_true rfl, fun _ => rfl⟩ H
theorem eX9_takeSign {l : Launch} {g : am_G} {d : Nat} {x : Bool} {a0 : Nat} {i1 : Int32} {h : am_H} {K : am_H → Prop} (H : zX9_takeSign_0 l g d x a0 i1 h (fun r h' => r = none ∧ K h')) : cl_N l g mX9_takeSign (d + 1) x [.ref a0, .int i1] h K := rX9_takeSign_0 H
def zX9_hasSign_20 (l : Launch) (g : am_G) (d : Nat) (x : Bool) (i2 : Int32) (s0 : Nat) (s1 : Int32) (s2 : Int32) (h : am_H) (Q : Option Value → am_H → Prop) : Prop := pt_V h s0 9 7 (.int (s1 + s2)) (fun h1 => ((i2 = 0 ∨ i2 = 1) ∧ Q (some (.int i2)) h1))
set_option maxRecDepth 4000 in
theorem rX9_hasSign_20 {l : Launch} {g : am_G} {d : Nat} {x : Bool} {i2 : Int32} {s0 : Nat} {s1 : Int32} {s2 : Int32} {h : am_H} {Q : Option Value → am_H → Prop} (H : zX9_hasSign_20 l g d x i2 s0 s1 s2 h Q) : am_J l g mX9_hasSign (d + 1) (0, 0, x) 20 [(2, .int i2)] [.int s2, .int s1, .ref s0] h Q := by
  unfold zX9_hasSign_20 at H
  refine J_iadd dX9_hasSign_20 ?_
  obtain ⟨fs, hh, hk, H⟩ := H
  refine J_put dX9_hasSign_21 fX9_142 rfl rfl hh hk ?_
  generalize List.set h s0 (am_O 9 (List.set fs 7 (.int (s1 + s2)))) = h1 at H ⊢
  clear hh hk
  refine J_iload_n dX9_hasSign_24 0 rfl ?_
  obtain ⟨hb, H⟩ := H
  exact J_iret dX9_hasSign_25 (am_nar01 rfl hb) ⟨Nat.le_of_ble_eq_true rfl, Nat.le_of_ble_eq_true rfl, fun _ => rfl⟩ H
def zX9_hasSign_0 (l : Launch) (g : am_G) (d : Nat) (x : Bool) (a0 : Nat) (i1 : Int32) (h : am_H) (Q : Option Value → am_H → Prop) : Prop := cv_I l g mX9_isSign d x 9 a0 [.int i1] h (fun v2 h1 => gt_I h1 a0 9 7 (fun v3 => ((v2 = 0 → zX9_hasSign_20 l g d x v2 a0 v3 0 h1 Q) ∧ (¬ v2 = 0 → zX9_hasSign_20 l g d x v2 a0 v3 1 h1 Q))))
set_option maxRecDepth 4000 in
theorem rX9_hasSign_0 {l : Launch} {g : am_G} {d : Nat} {x : Bool} {a0 : Nat} {i1 : Int32} {h : am_H} {Q : Option Value → am_H → Prop} (H : zX9_hasSign_0 l g d x a0 i1 h Q) : am_J l g mX9_hasSign (d + 1) (0, 0, x) 0 [(0, .ref a0), (1, .int i1)] [] h Q := by
  unfold zX9_hasSign_0 at H
  refine J_aload_n dX9_hasSign_0 0 rfl ?_
  refine J_iload_n dX9_hasSign_1 1 rfl ?_
  obtain ⟨⟨fs, hh⟩, H⟩ := H
  refine J_callV (As := [.int i1]) (S := []) (b := a0) dX9_hasSign_2 mX9_isSign_ok kX9_148 rfl (by decide) (Nat.le_of_ble_eq_true rfl) hh rfl rfl (Nat.le_of_ble_eq_true rfl) ⟨Nat.le_of_ble_eq_true rfl, Nat.le_of_ble_eq_true rfl⟩ (fun k h' hp => ?_) H (fun r h1 hp => ?_)
  · obtain ⟨_, hv, -⟩ := hp; cases hv
  obtain ⟨v2, rfl, H⟩ := hp
  show am_J l g mX9_hasSign (d + 1) (0, 0, x) 5 [(0, .ref a0), (1, .int i1)] [.int v2] h1 Q
  refine J_istore_n (L' := [(2, .int v2), (0, .ref a0), (1, .int i1)]) dX9_hasSign_5 (by decide) rfl ?_
  refine J_aload_n dX9_hasSign_6 1 rfl ?_
  refine J_dup dX9_hasSign_7 rfl ?_
  obtain ⟨fs, v3, hh, hk, H⟩ := H
  refine J_get dX9_hasSign_8 fX9_142 hh hk ?_
  clear hh hk
  refine J_iload_n dX9_hasSign_11 0 rfl ?_
  obtain ⟨H1, H2⟩ := H
  refine J_if_eq (tgt := 19) dX9_hasSign_12 (by decide) (fun hc => ?_) (fun hc => ?_)
  · replace H := H1 hc
    clear H1 H2
    refine J_iconst (v := 0) dX9_hasSign_19 (by decide) ?_
    exact J_pick [0] rfl (rX9_hasSign_20 H)
  · replace H := H2 hc
    clear H1 H2
    refine J_iconst (v := 1) dX9_hasSign_15 (by decide) ?_
    refine J_goto (tgt := 20) dX9_hasSign_16 (by decide) ?_
    exact J_pick [0] rfl (rX9_hasSign_20 H)
theorem eX9_hasSign {l : Launch} {g : am_G} {d : Nat} {x : Bool} {a0 : Nat} {i1 : Int32} {h : am_H} {K : Int32 → am_H → Prop} (H : zX9_hasSign_0 l g d x a0 i1 h (fun r h' => ∃ v, r = some (.int v) ∧ K v h')) : cl_I l g mX9_hasSign (d + 1) x [.ref a0, .int i1] h K := rX9_hasSign_0 H
def zX9_isName_61 (l : Launch) (g : am_G) (d : Nat) (x : Bool) (a0 : Nat) (i2 : Int32) (s0 : Int32) (h : am_H) (Q : Option Value → am_H → Prop) : Prop := am_J l g mX9_isName d (0, 0, x) 28 [(0, .ref a0), (1, .int s0), (2, .int (i2 + 1))] [] h Q
set_option maxRecDepth 4000 in
theorem rX9_isName_61 {l : Launch} {g : am_G} {d : Nat} {x : Bool} {a0 : Nat} {i2 : Int32} {s0 : Int32} {h : am_H} {Q : Option Value → am_H → Prop} (H : zX9_isName_61 l g d x a0 i2 s0 h Q) : am_J l g mX9_isName d (0, 0, x) 61 [(0, .ref a0), (2, .int i2)] [.int s0] h Q := by
  unfold zX9_isName_61 at H
  refine J_istore_n (L' := [(1, .int s0), (0, .ref a0), (2, .int i2)]) dX9_isName_61 (by decide) rfl ?_
  refine J_iinc (v := (i2 + 1)) (L' := [(2, .int (i2 + 1)), (1, .int s0), (0, .ref a0)]) dX9_isName_62 2 rfl rfl (by decide) rfl ?_
  refine J_goto (tgt := 28) dX9_isName_65 (by decide) ?_
  exact J_pick [2, 1, 0] rfl H
def zX9_isName_60 (l : Launch) (g : am_G) (d : Nat) (x : Bool) (a0 : Nat) (i2 : Int32) (h : am_H) (Q : Option Value → am_H → Prop) : Prop := zX9_isName_61 l g d x a0 i2 0 h Q
set_option maxRecDepth 4000 in
theorem rX9_isName_60 {l : Launch} {g : am_G} {d : Nat} {x : Bool} {a0 : Nat} {i2 : Int32} {h : am_H} {Q : Option Value → am_H → Prop} (H : zX9_isName_60 l g d x a0 i2 h Q) : am_J l g mX9_isName d (0, 0, x) 60 [(0, .ref a0), (2, .int i2)] [] h Q := by
  unfold zX9_isName_60 at H
  refine J_iconst (v := 0) dX9_isName_60 (by decide) ?_
  exact J_pick [0, 1] rfl (rX9_isName_61 H)
def zX9_isName_28 (l : Launch) (g : am_G) (d : Nat) (x : Bool) (a0 : Nat) (i1 : Int32) (i2 : Int32) (h : am_H) (Q : Option Value → am_H → Prop) : Prop := ((4 ≤ i2 → ((i1 = 0 ∨ i1 = 1) ∧ Q (some (.int i1)) h)) ∧ (¬ 4 ≤ i2 → ((i1 = 0 → zX9_isName_60 l g d x a0 i2  h Q) ∧ (¬ i1 = 0 → gt_R h a0 9 6 (fun v1 => gt_I h a0 9 7 (fun v2 => al_L h v1 v2 (fun v3 => gt_R h a0 9 9 (fun v4 => al_L h v4 i2 (fun v5 => (((lg_cmp v3 v5) = 0 → zX9_isName_60 l g d x a0 i2  h Q) ∧ (¬ (lg_cmp v3 v5) = 0 → zX9_isName_61 l g d x a0 i2 1 h Q)))))))))))
set_option maxRecDepth 4000 in
theorem rX9_isName_28 {l : Launch} {g : am_G} {d : Nat} {x : Bool} {a0 : Nat} {i1 : Int32} {i2 : Int32} {h : am_H} {Q : Option Value → am_H → Prop} (H : zX9_isName_28 l g d x a0 i1 i2 h Q) : am_J l g mX9_isName d (0, 0, x) 28 [(0, .ref a0), (1, .int i1), (2, .int i2)] [] h Q := by
  unfold zX9_isName_28 at H
  refine J_iload_n dX9_isName_28 2 rfl ?_
  refine J_iconst (v := 4) dX9_isName_29 (by decide) ?_
  obtain ⟨H1, H2⟩ := H
  refine J_icmp_ge (tgt := 68) dX9_isName_30 (by decide) (fun hc => ?_) (fun hc => ?_)
  · replace H := H1 hc
    clear H1 H2
    refine J_iload_n dX9_isName_68 1 rfl ?_
    obtain ⟨hb, H⟩ := H
    exact J_iret dX9_isName_69 (am_nar01 rfl hb) ⟨Nat.le_of_ble_eq_true rfl, Nat.le_of_ble_eq_true rfl, fun _ => rfl⟩ H
  · replace H := H2 hc
    clear H1 H2
    refine J_iload_n dX9_isName_33 1 rfl ?_
    obtain ⟨H1, H2⟩ := H
    refine J_if_eq (tgt := 60) dX9_isName_34 (by decide) (fun hc => ?_) (fun hc => ?_)
    · replace H := H1 hc
      clear H1 H2
      exact J_pick [0, 2] rfl (rX9_isName_60 H)
    · replace H := H2 hc
      clear H1 H2
      refine J_aload_n dX9_isName_37 0 rfl ?_
      obtain ⟨fs, v1, hh, hk, H⟩ := H
      refine J_get dX9_isName_38 fX9_30 hh hk ?_
      clear hh hk
      refine J_aload_n dX9_isName_41 0 rfl ?_
      obtain ⟨fs, v2, hh, hk, H⟩ := H
      refine J_get dX9_isName_42 fX9_142 hh hk ?_
      clear hh hk
      obtain ⟨nn, ff, hh, hk, H⟩ := H
      refine J_lald dX9_isName_45 hh hk ?_
      generalize ff (Int32.toNatClampNeg v2) = v3 at H ⊢
      clear hh hk ff
      refine J_aload_n dX9_isName_46 0 rfl ?_
      obtain ⟨fs, v4, hh, hk, H⟩ := H
      refine J_get dX9_isName_47 fX9_42 hh hk ?_
      clear hh hk
      refine J_iload_n dX9_isName_50 2 rfl ?_
      obtain ⟨nn, ff, hh, hk, H⟩ := H
      refine J_lald dX9_isName_51 hh hk ?_
      generalize ff (Int32.toNatClampNeg i2) = v5 at H ⊢
      clear hh hk ff
      refine J_lcmp dX9_isName_52 ?_
      obtain ⟨H1, H2⟩ := H
      refine J_if_eq (tgt := 60) dX9_isName_53 (by decide) (fun hc => ?_) (fun hc => ?_)
      · replace H := H1 hc
        clear H1 H2
        exact J_pick [0, 2] rfl (rX9_isName_60 H)
      · replace H := H2 hc
        clear H1 H2
        refine J_iconst (v := 1) dX9_isName_56 (by decide) ?_
        refine J_goto (tgt := 61) dX9_isName_57 (by decide) ?_
        exact J_pick [0, 2] rfl (rX9_isName_61 H)
def zX9_isName_25 (l : Launch) (g : am_G) (d : Nat) (x : Bool) (a0 : Nat) (s0 : Int32) (h : am_H) (Q : Option Value → am_H → Prop) : Prop := am_J l g mX9_isName d (0, 0, x) 28 [(0, .ref a0), (1, .int s0), (2, .int 0)] [] h Q
set_option maxRecDepth 4000 in
theorem rX9_isName_25 {l : Launch} {g : am_G} {d : Nat} {x : Bool} {a0 : Nat} {s0 : Int32} {h : am_H} {Q : Option Value → am_H → Prop} (H : zX9_isName_25 l g d x a0 s0 h Q) : am_J l g mX9_isName d (0, 0, x) 25 [(0, .ref a0)] [.int s0] h Q := by
  unfold zX9_isName_25 at H
  refine J_istore_n (L' := [(1, .int s0), (0, .ref a0)]) dX9_isName_25 (by decide) rfl ?_
  refine J_iconst (v := 0) dX9_isName_26 (by decide) ?_
  refine J_istore_n (L' := [(2, .int 0), (1, .int s0), (0, .ref a0)]) dX9_isName_27 (by decide) rfl ?_
  exact J_pick [2, 1, 0] rfl H
def zX9_isName_24 (l : Launch) (g : am_G) (d : Nat) (x : Bool) (a0 : Nat) (h : am_H) (Q : Option Value → am_H → Prop) : Prop := zX9_isName_25 l g d x a0 0 h Q
set_option maxRecDepth 4000 in
theorem rX9_isName_24 {l : Launch} {g : am_G} {d : Nat} {x : Bool} {a0 : Nat} {h : am_H} {Q : Option Value → am_H → Prop} (H : zX9_isName_24 l g d x a0 h Q) : am_J l g mX9_isName d (0, 0, x) 24 [(0, .ref a0)] [] h Q := by
  unfold zX9_isName_24 at H
  refine J_iconst (v := 0) dX9_isName_24 (by decide) ?_
  exact J_pick [0] rfl (rX9_isName_25 H)
def zX9_isName_0 (l : Launch) (g : am_G) (d : Nat) (x : Bool) (a0 : Nat) (h : am_H) (Q : Option Value → am_H → Prop) : Prop := gt_I h a0 9 8 (fun v1 => ((¬ v1 = 0 → zX9_isName_24 l g d x a0  h Q) ∧ (v1 = 0 → gt_R h a0 9 4 (fun v2 => gt_I h a0 9 7 (fun v3 => al_I 0 h v2 v3 (fun v4 => ((¬ v4 = 1 → zX9_isName_24 l g d x a0  h Q) ∧ (v4 = 1 → zX9_isName_25 l g d x a0 1 h Q))))))))
set_option maxRecDepth 4000 in
theorem rX9_isName_0 {l : Launch} {g : am_G} {d : Nat} {x : Bool} {a0 : Nat} {h : am_H} {Q : Option Value → am_H → Prop} (H : zX9_isName_0 l g d x a0 h Q) : am_J l g mX9_isName d (0, 0, x) 0 [(0, .ref a0)] [] h Q := by
  unfold zX9_isName_0 at H
  refine J_aload_n dX9_isName_0 0 rfl ?_
  obtain ⟨fs, v1, hh, hk, H⟩ := H
  refine J_get dX9_isName_1 fX9_145 hh hk ?_
  clear hh hk
  obtain ⟨H1, H2⟩ := H
  refine J_if_ne (tgt := 24) dX9_isName_4 (by decide) (fun hc => ?_) (fun hc => ?_)
  · replace H := H1 hc
    clear H1 H2
    exact J_pick [0] rfl (rX9_isName_24 H)
  · replace H := H2 hc
    clear H1 H2
    refine J_aload_n dX9_isName_7 0 rfl ?_
    obtain ⟨fs, v2, hh, hk, H⟩ := H
    refine J_get dX9_isName_8 fX9_24 hh hk ?_
    clear hh hk
    refine J_aload_n dX9_isName_11 0 rfl ?_
    obtain ⟨fs, v3, hh, hk, H⟩ := H
    refine J_get dX9_isName_12 fX9_142 hh hk ?_
    clear hh hk
    obtain ⟨nn, ff, hh, hk, H⟩ := H
    refine J_iald dX9_isName_15 hh hk ?_
    generalize ff (Int32.toNatClampNeg v3) = v4 at H ⊢
    clear hh hk ff
    refine J_iconst (v := 1) dX9_isName_16 (by decide) ?_
    obtain ⟨H1, H2⟩ := H
    refine J_icmp_ne (tgt := 24) dX9_isName_17 (by decide) (fun hc => ?_) (fun hc => ?_)
    · replace H := H1 hc
      clear H1 H2
      exact J_pick [0] rfl (rX9_isName_24 H)
    · replace H := H2 hc
      clear H1 H2
      refine J_iconst (v := 1) dX9_isName_20 (by decide) ?_
      refine J_goto (tgt := 25) dX9_isName_21 (by decide) ?_
      exact J_pick [0] rfl (rX9_isName_25 H)
theorem eX9_isName {l : Launch} {g : am_G} {d : Nat} {x : Bool} {a0 : Nat} {h : am_H} {K : Int32 → am_H → Prop} (H : zX9_isName_0 l g d x a0 h (fun r h' => ∃ v, r = some (.int v) ∧ K v h')) : cl_I l g mX9_isName d x [.ref a0] h K := rX9_isName_0 H
def zX9_findRing_36 (l : Launch) (g : am_G) (d : Nat) (x : Bool) (a0 : Nat) (l1 : Int64) (i4 : Int32) (s0 : Int32) (h : am_H) (Q : Option Value → am_H → Prop) : Prop := am_J l g mX9_findRing d (0, 0, x) 5 [(0, .ref a0), (1, .long l1), (3, .int s0), (4, .int (i4 + 1))] [] h Q
set_option maxRecDepth 4000 in
theorem rX9_findRing_36 {l : Launch} {g : am_G} {d : Nat} {x : Bool} {a0 : Nat} {l1 : Int64} {i4 : Int32} {s0 : Int32} {h : am_H} {Q : Option Value → am_H → Prop} (H : zX9_findRing_36 l g d x a0 l1 i4 s0 h Q) : am_J l g mX9_findRing d (0, 0, x) 36 [(0, .ref a0), (1, .long l1), (4, .int i4)] [.int s0] h Q := by
  unfold zX9_findRing_36 at H
  refine J_istore_n (L' := [(3, .int s0), (0, .ref a0), (1, .long l1), (4, .int i4)]) dX9_findRing_36 (by decide) rfl ?_
  refine J_iinc (v := (i4 + 1)) (L' := [(4, .int (i4 + 1)), (3, .int s0), (0, .ref a0), (1, .long l1)]) dX9_findRing_37 3 rfl rfl (by decide) rfl ?_
  refine J_goto (tgt := 5) dX9_findRing_40 (by decide) ?_
  exact J_pick [2, 3, 1, 0] rfl H
def zX9_findRing_5 (l : Launch) (g : am_G) (d : Nat) (x : Bool) (a0 : Nat) (l1 : Int64) (i3 : Int32) (i4 : Int32) (h : am_H) (Q : Option Value → am_H → Prop) : Prop := gt_R h a0 9 10 (fun v1 => al_I 0 h v1 1 (fun v2 => ((v2 ≤ i4 → Q (some (.int i3)) h) ∧ (¬ v2 ≤ i4 → gt_R h a0 9 11 (fun v3 => al_L h v3 (4 + i4) (fun v4 => ((¬ (lg_cmp v4 l1) = 0 → zX9_findRing_36 l g d x a0 l1 i4 i3 h Q) ∧ ((lg_cmp v4 l1) = 0 → zX9_findRing_36 l g d x a0 l1 i4 i4 h Q))))))))
set_option maxRecDepth 4000 in
theorem rX9_findRing_5 {l : Launch} {g : am_G} {d : Nat} {x : Bool} {a0 : Nat} {l1 : Int64} {i3 : Int32} {i4 : Int32} {h : am_H} {Q : Option Value → am_H → Prop} (H : zX9_findRing_5 l g d x a0 l1 i3 i4 h Q) : am_J l g mX9_findRing d (0, 0, x) 5 [(0, .ref a0), (1, .long l1), (3, .int i3), (4, .int i4)] [] h Q := by
  unfold zX9_findRing_5 at H
  refine J_iload dX9_findRing_5 3 rfl ?_
  refine J_aload_n dX9_findRing_7 0 rfl ?_
  obtain ⟨fs, v1, hh, hk, H⟩ := H
  refine J_get dX9_findRing_8 fX9_45 hh hk ?_
  clear hh hk
  refine J_iconst (v := 1) dX9_findRing_11 (by decide) ?_
  obtain ⟨nn, ff, hh, hk, H⟩ := H
  refine J_iald dX9_findRing_12 hh hk ?_
  generalize ff (Int32.toNatClampNeg 1) = v2 at H ⊢
  clear hh hk ff
  obtain ⟨H1, H2⟩ := H
  refine J_icmp_ge (tgt := 43) dX9_findRing_13 (by decide) (fun hc => ?_) (fun hc => ?_)
  · replace H := H1 hc
    clear H1 H2
    refine J_iload_n dX9_findRing_43 2 rfl ?_
    exact J_iret dX9_findRing_44 ⟨_, rfl, rfl⟩ ⟨Nat.le_of_ble_eq_true rfl, Nat.le_of_ble_eq_true rfl, fun _ => rfl⟩ H
  · replace H := H2 hc
    clear H1 H2
    refine J_aload_n dX9_findRing_16 0 rfl ?_
    obtain ⟨fs, v3, hh, hk, H⟩ := H
    refine J_get dX9_findRing_17 fX9_48 hh hk ?_
    clear hh hk
    refine J_iconst (v := 4) dX9_findRing_20 (by decide) ?_
    refine J_iload dX9_findRing_21 3 rfl ?_
    refine J_iadd dX9_findRing_23 ?_
    obtain ⟨nn, ff, hh, hk, H⟩ := H
    refine J_lald dX9_findRing_24 hh hk ?_
    generalize ff (Int32.toNatClampNeg (4 + i4)) = v4 at H ⊢
    clear hh hk ff
    refine J_lload_n dX9_findRing_25 1 rfl ?_
    refine J_lcmp dX9_findRing_26 ?_
    obtain ⟨H1, H2⟩ := H
    refine J_if_ne (tgt := 35) dX9_findRing_27 (by decide) (fun hc => ?_) (fun hc => ?_)
    · replace H := H1 hc
      clear H1 H2
      refine J_iload_n dX9_findRing_35 2 rfl ?_
      exact J_pick [0, 1, 3] rfl (rX9_findRing_36 H)
    · replace H := H2 hc
      clear H1 H2
      refine J_iload dX9_findRing_30 3 rfl ?_
      refine J_goto (tgt := 36) dX9_findRing_32 (by decide) ?_
      exact J_pick [0, 1, 3] rfl (rX9_findRing_36 H)
def zX9_findRing_0 (l : Launch) (g : am_G) (d : Nat) (x : Bool) (a0 : Nat) (l1 : Int64) (h : am_H) (Q : Option Value → am_H → Prop) : Prop := am_J l g mX9_findRing d (0, 0, x) 5 [(0, .ref a0), (1, .long l1), (3, .int (-1)), (4, .int 0)] [] h Q
set_option maxRecDepth 4000 in
theorem rX9_findRing_0 {l : Launch} {g : am_G} {d : Nat} {x : Bool} {a0 : Nat} {l1 : Int64} {h : am_H} {Q : Option Value → am_H → Prop} (H : zX9_findRing_0 l g d x a0 l1 h Q) : am_J l g mX9_findRing d (0, 0, x) 0 [(0, .ref a0), (1, .long l1)] [] h Q := by
  unfold zX9_findRing_0 at H
  refine J_iconst (v := (-1)) dX9_findRing_0 (by decide) ?_
  refine J_istore_n (L' := [(3, .int (-1)), (0, .ref a0), (1, .long l1)]) dX9_findRing_1 (by decide) rfl ?_
  refine J_iconst (v := 0) dX9_findRing_2 (by decide) ?_
  refine J_istore (L' := [(4, .int 0), (3, .int (-1)), (0, .ref a0), (1, .long l1)]) dX9_findRing_3 (by decide) rfl ?_
  exact J_pick [2, 3, 1, 0] rfl H
theorem eX9_findRing {l : Launch} {g : am_G} {d : Nat} {x : Bool} {a0 : Nat} {l1 : Int64} {h : am_H} {K : Int32 → am_H → Prop} (H : zX9_findRing_0 l g d x a0 l1 h (fun r h' => ∃ v, r = some (.int v) ∧ K v h')) : cl_I l g mX9_findRing d x [.ref a0, .long l1] h K := rX9_findRing_0 H
def zX9_weave_103 (l : Launch) (g : am_G) (d : Nat) (x : Bool) (a0 : Nat) (h : am_H) (Q : Option Value → am_H → Prop) : Prop := gt_I h a0 9 8 (fun v1 => Q (some (.int v1)) h)
set_option maxRecDepth 4000 in
theorem rX9_weave_103 {l : Launch} {g : am_G} {d : Nat} {x : Bool} {a0 : Nat} {h : am_H} {Q : Option Value → am_H → Prop} (H : zX9_weave_103 l g d x a0 h Q) : am_J l g mX9_weave (d + 1) (0, 0, x) 103 [(0, .ref a0)] [] h Q := by
  unfold zX9_weave_103 at H
  refine J_aload_n dX9_weave_103 0 rfl ?_
  obtain ⟨fs, v1, hh, hk, H⟩ := H
  refine J_get dX9_weave_104 fX9_145 hh hk ?_
  clear hh hk
  exact J_iret dX9_weave_107 ⟨_, rfl, rfl⟩ ⟨Nat.le_of_ble_eq_true rfl, Nat.le_of_ble_eq_true rfl, fun _ => rfl⟩ H
def zX9_weave_90 (l : Launch) (g : am_G) (d : Nat) (x : Bool) (a0 : Nat) (h : am_H) (Q : Option Value → am_H → Prop) : Prop := gt_I h a0 9 8 (fun v1 => ((¬ v1 = 0 → zX9_weave_103 l g d x a0  h Q) ∧ (v1 = 0 → cv_N l g mX9_copies d x 9 a0 [.int 1, .int 0] h (fun h2 => zX9_weave_103 l g d x a0  h2 Q))))
set_option maxRecDepth 4000 in
theorem rX9_weave_90 {l : Launch} {g : am_G} {d : Nat} {x : Bool} {a0 : Nat} {h : am_H} {Q : Option Value → am_H → Prop} (H : zX9_weave_90 l g d x a0 h Q) : am_J l g mX9_weave (d + 1) (0, 0, x) 90 [(0, .ref a0)] [] h Q := by
  unfold zX9_weave_90 at H
  refine J_aload_n dX9_weave_90 0 rfl ?_
  obtain ⟨fs, v1, hh, hk, H⟩ := H
  refine J_get dX9_weave_91 fX9_145 hh hk ?_
  clear hh hk
  obtain ⟨H1, H2⟩ := H
  refine J_if_ne (tgt := 103) dX9_weave_94 (by decide) (fun hc => ?_) (fun hc => ?_)
  · replace H := H1 hc
    clear H1 H2
    exact J_pick [0] rfl (rX9_weave_103 H)
  · replace H := H2 hc
    clear H1 H2
    refine J_aload_n dX9_weave_97 0 rfl ?_
    refine J_iconst (v := 1) dX9_weave_98 (by decide) ?_
    refine J_iconst (v := 0) dX9_weave_99 (by decide) ?_
    obtain ⟨⟨fs, hh⟩, H⟩ := H
    refine J_callV (As := [.int 1, .int 0]) (S := []) (b := a0) dX9_weave_100 mX9_copies_ok kX9_170 rfl (by decide) (Nat.le_of_ble_eq_true rfl) hh rfl rfl (Nat.le_of_ble_eq_true rfl) ⟨Nat.le_of_ble_eq_true rfl, Nat.le_of_ble_eq_true rfl⟩ (fun k h' hp => ?_) H (fun r h2 hp => ?_)
    · obtain ⟨hv, -⟩ := hp; cases hv
    obtain ⟨rfl, H⟩ := hp
    show am_J l g mX9_weave (d + 1) (0, 0, x) 103 [(0, .ref a0)] [] h2 Q
    exact J_pick [0] rfl (rX9_weave_103 H)
def zX9_weave_51 (l : Launch) (g : am_G) (d : Nat) (x : Bool) (a0 : Nat) (h : am_H) (Q : Option Value → am_H → Prop) : Prop := cv_I l g mX9_isWord d x 9 a0 [.int 1] h (fun v2 h1 => ((v2 = 0 → gt_I h1 a0 9 8 (fun v3 => ((¬ v3 = 0 → zX9_weave_90 l g d x a0  h1 Q) ∧ (v3 = 0 → gt_R h1 a0 9 4 (fun v4 => gt_I h1 a0 9 7 (fun v5 => al_I 0 h1 v4 v5 (fun v6 => ((v6 = 0 → zX9_weave_90 l g d x a0  h1 Q) ∧ (¬ v6 = 0 → cv_N l g mX9_wrong d x 9 a0 [.int 1] h1 (fun h7 => zX9_weave_90 l g d x a0  h7 Q)))))))))) ∧ (¬ v2 = 0 → cv_N l g mX9_readLink d x 9 a0 [] h1 (fun h9 => am_J l g mX9_weave (d + 1) (0, 0, x) 51 [(0, .ref a0)] [] h9 Q))))
set_option maxRecDepth 4000 in
theorem rX9_weave_51 {l : Launch} {g : am_G} {d : Nat} {x : Bool} {a0 : Nat} {h : am_H} {Q : Option Value → am_H → Prop} (H : zX9_weave_51 l g d x a0 h Q) : am_J l g mX9_weave (d + 1) (0, 0, x) 51 [(0, .ref a0)] [] h Q := by
  unfold zX9_weave_51 at H
  refine J_aload_n dX9_weave_51 0 rfl ?_
  refine J_iconst (v := 1) dX9_weave_52 (by decide) ?_
  obtain ⟨⟨fs, hh⟩, H⟩ := H
  refine J_callV (As := [.int 1]) (S := []) (b := a0) dX9_weave_53 mX9_isWord_ok kX9_155 rfl (by decide) (Nat.le_of_ble_eq_true rfl) hh rfl rfl (Nat.le_of_ble_eq_true rfl) ⟨Nat.le_of_ble_eq_true rfl, Nat.le_of_ble_eq_true rfl⟩ (fun k h' hp => ?_) H (fun r h1 hp => ?_)
  · obtain ⟨_, hv, -⟩ := hp; cases hv
  obtain ⟨v2, rfl, H⟩ := hp
  show am_J l g mX9_weave (d + 1) (0, 0, x) 56 [(0, .ref a0)] [.int v2] h1 Q
  obtain ⟨H1, H2⟩ := H
  refine J_if_eq (tgt := 66) dX9_weave_56 (by decide) (fun hc => ?_) (fun hc => ?_)
  · replace H := H1 hc
    clear H1 H2
    refine J_aload_n dX9_weave_66 0 rfl ?_
    obtain ⟨fs, v3, hh, hk, H⟩ := H
    refine J_get dX9_weave_67 fX9_145 hh hk ?_
    clear hh hk
    obtain ⟨H1, H2⟩ := H
    refine J_if_ne (tgt := 90) dX9_weave_70 (by decide) (fun hc => ?_) (fun hc => ?_)
    · replace H := H1 hc
      clear H1 H2
      exact J_pick [0] rfl (rX9_weave_90 H)
    · replace H := H2 hc
      clear H1 H2
      refine J_aload_n dX9_weave_73 0 rfl ?_
      obtain ⟨fs, v4, hh, hk, H⟩ := H
      refine J_get dX9_weave_74 fX9_24 hh hk ?_
      clear hh hk
      refine J_aload_n dX9_weave_77 0 rfl ?_
      obtain ⟨fs, v5, hh, hk, H⟩ := H
      refine J_get dX9_weave_78 fX9_142 hh hk ?_
      clear hh hk
      obtain ⟨nn, ff, hh, hk, H⟩ := H
      refine J_iald dX9_weave_81 hh hk ?_
      generalize ff (Int32.toNatClampNeg v5) = v6 at H ⊢
      clear hh hk ff
      obtain ⟨H1, H2⟩ := H
      refine J_if_eq (tgt := 90) dX9_weave_82 (by decide) (fun hc => ?_) (fun hc => ?_)
      · replace H := H1 hc
        clear H1 H2
        exact J_pick [0] rfl (rX9_weave_90 H)
      · replace H := H2 hc
        clear H1 H2
        refine J_aload_n dX9_weave_85 0 rfl ?_
        refine J_iconst (v := 1) dX9_weave_86 (by decide) ?_
        obtain ⟨⟨fs, hh⟩, H⟩ := H
        refine J_callV (As := [.int 1]) (S := []) (b := a0) dX9_weave_87 mX9_wrong_ok kX9_151 rfl (by decide) (Nat.le_of_ble_eq_true rfl) hh rfl rfl (Nat.le_of_ble_eq_true rfl) ⟨Nat.le_of_ble_eq_true rfl, Nat.le_of_ble_eq_true rfl⟩ (fun k h' hp => ?_) H (fun r h7 hp => ?_)
        · obtain ⟨hv, -⟩ := hp; cases hv
        obtain ⟨rfl, H⟩ := hp
        show am_J l g mX9_weave (d + 1) (0, 0, x) 90 [(0, .ref a0)] [] h7 Q
        exact J_pick [0] rfl (rX9_weave_90 H)
  · replace H := H2 hc
    clear H1 H2
    refine J_aload_n dX9_weave_59 0 rfl ?_
    obtain ⟨⟨fs, hh⟩, H⟩ := H
    refine J_callV (As := []) (S := []) (b := a0) dX9_weave_60 mX9_readLink_ok kX9_167 rfl (by decide) (Nat.le_of_ble_eq_true rfl) hh rfl rfl (Nat.le_of_ble_eq_true rfl) ⟨Nat.le_of_ble_eq_true rfl, Nat.le_of_ble_eq_true rfl⟩ (fun k h' hp => ?_) H (fun r h9 hp => ?_)
    · obtain ⟨hv, -⟩ := hp; cases hv
    obtain ⟨rfl, H⟩ := hp
    show am_J l g mX9_weave (d + 1) (0, 0, x) 63 [(0, .ref a0)] [] h9 Q
    refine J_goto (tgt := 51) dX9_weave_63 (by decide) ?_
    exact J_pick [0] rfl H
def zX9_weave_36 (l : Launch) (g : am_G) (d : Nat) (x : Bool) (a0 : Nat) (h : am_H) (Q : Option Value → am_H → Prop) : Prop := cv_I l g mX9_isWord d x 9 a0 [.int 0] h (fun v2 h1 => ((v2 = 0 → am_J l g mX9_weave (d + 1) (0, 0, x) 51 [(0, .ref a0)] [] h1 Q) ∧ (¬ v2 = 0 → cv_N l g mX9_readRing d x 9 a0 [] h1 (fun h3 => am_J l g mX9_weave (d + 1) (0, 0, x) 36 [(0, .ref a0)] [] h3 Q))))
set_option maxRecDepth 4000 in
theorem rX9_weave_36 {l : Launch} {g : am_G} {d : Nat} {x : Bool} {a0 : Nat} {h : am_H} {Q : Option Value → am_H → Prop} (H : zX9_weave_36 l g d x a0 h Q) : am_J l g mX9_weave (d + 1) (0, 0, x) 36 [(0, .ref a0)] [] h Q := by
  unfold zX9_weave_36 at H
  refine J_aload_n dX9_weave_36 0 rfl ?_
  refine J_iconst (v := 0) dX9_weave_37 (by decide) ?_
  obtain ⟨⟨fs, hh⟩, H⟩ := H
  refine J_callV (As := [.int 0]) (S := []) (b := a0) dX9_weave_38 mX9_isWord_ok kX9_155 rfl (by decide) (Nat.le_of_ble_eq_true rfl) hh rfl rfl (Nat.le_of_ble_eq_true rfl) ⟨Nat.le_of_ble_eq_true rfl, Nat.le_of_ble_eq_true rfl⟩ (fun k h' hp => ?_) H (fun r h1 hp => ?_)
  · obtain ⟨_, hv, -⟩ := hp; cases hv
  obtain ⟨v2, rfl, H⟩ := hp
  show am_J l g mX9_weave (d + 1) (0, 0, x) 41 [(0, .ref a0)] [.int v2] h1 Q
  obtain ⟨H1, H2⟩ := H
  refine J_if_eq (tgt := 51) dX9_weave_41 (by decide) (fun hc => ?_) (fun hc => ?_)
  · replace H := H1 hc
    clear H1 H2
    exact J_pick [0] rfl H
  · replace H := H2 hc
    clear H1 H2
    refine J_aload_n dX9_weave_44 0 rfl ?_
    obtain ⟨⟨fs, hh⟩, H⟩ := H
    refine J_callV (As := []) (S := []) (b := a0) dX9_weave_45 mX9_readRing_ok kX9_164 rfl (by decide) (Nat.le_of_ble_eq_true rfl) hh rfl rfl (Nat.le_of_ble_eq_true rfl) ⟨Nat.le_of_ble_eq_true rfl, Nat.le_of_ble_eq_true rfl⟩ (fun k h' hp => ?_) H (fun r h3 hp => ?_)
    · obtain ⟨hv, -⟩ := hp; cases hv
    obtain ⟨rfl, H⟩ := hp
    show am_J l g mX9_weave (d + 1) (0, 0, x) 48 [(0, .ref a0)] [] h3 Q
    refine J_goto (tgt := 36) dX9_weave_48 (by decide) ?_
    exact J_pick [0] rfl H
def zX9_weave_0 (l : Launch) (g : am_G) (d : Nat) (x : Bool) (a0 : Nat) (h : am_H) (Q : Option Value → am_H → Prop) : Prop := pt_V h a0 9 0 (.int 0) (fun h1 => cv_N l g mX9_cutAll d x 9 a0 [] h1 (fun h2 => gt_R h2 a0 9 10 (fun v4 => as_I 0 h2 v4 1 0 (fun h5 => gt_R h5 a0 9 12 (fun v6 => as_I 0 h5 v6 1 0 (fun h7 => cv_I l g mX9_isWord d x 9 a0 [.int 0] h7 (fun v9 h8 => ((¬ v9 = 0 → am_J l g mX9_weave (d + 1) (0, 0, x) 36 [(0, .ref a0)] [] h8 Q) ∧ (v9 = 0 → cv_N l g mX9_wrong d x 9 a0 [.int 1] h8 (fun h10 => am_J l g mX9_weave (d + 1) (0, 0, x) 36 [(0, .ref a0)] [] h10 Q))))))))))
set_option maxRecDepth 4000 in
theorem rX9_weave_0 {l : Launch} {g : am_G} {d : Nat} {x : Bool} {a0 : Nat} {h : am_H} {Q : Option Value → am_H → Prop} (H : zX9_weave_0 l g d x a0 h Q) : am_J l g mX9_weave (d + 1) (0, 0, x) 0 [(0, .ref a0)] [] h Q := by
  unfold zX9_weave_0 at H
  refine J_aload_n dX9_weave_0 0 rfl ?_
  refine J_iconst (v := 0) dX9_weave_1 (by decide) ?_
  obtain ⟨fs, hh, hk, H⟩ := H
  refine J_put dX9_weave_2 fX9_1 rfl rfl hh hk ?_
  generalize List.set h a0 (am_O 9 (List.set fs 0 (.int 0))) = h1 at H ⊢
  clear hh hk
  refine J_aload_n dX9_weave_5 0 rfl ?_
  obtain ⟨⟨fs, hh⟩, H⟩ := H
  refine J_callV (As := []) (S := []) (b := a0) dX9_weave_6 mX9_cutAll_ok kX9_161 rfl (by decide) (Nat.le_of_ble_eq_true rfl) hh rfl rfl (Nat.le_of_ble_eq_true rfl) ⟨Nat.le_of_ble_eq_true rfl, Nat.le_of_ble_eq_true rfl⟩ (fun k h' hp => ?_) H (fun r h2 hp => ?_)
  · obtain ⟨hv, -⟩ := hp; cases hv
  obtain ⟨rfl, H⟩ := hp
  show am_J l g mX9_weave (d + 1) (0, 0, x) 9 [(0, .ref a0)] [] h2 Q
  refine J_aload_n dX9_weave_9 0 rfl ?_
  obtain ⟨fs, v4, hh, hk, H⟩ := H
  refine J_get dX9_weave_10 fX9_45 hh hk ?_
  clear hh hk
  refine J_iconst (v := 1) dX9_weave_13 (by decide) ?_
  refine J_iconst (v := 0) dX9_weave_14 (by decide) ?_
  obtain ⟨nn, ff, hh, hk, H⟩ := H
  refine J_iast dX9_weave_15 hh hk ?_
  generalize List.set h2 v4 (am_I 0 nn (upd ff (Int32.toNatClampNeg 1) 0)) = h5 at H ⊢
  clear hh hk
  refine J_aload_n dX9_weave_16 0 rfl ?_
  obtain ⟨fs, v6, hh, hk, H⟩ := H
  refine J_get dX9_weave_17 fX9_51 hh hk ?_
  clear hh hk
  refine J_iconst (v := 1) dX9_weave_20 (by decide) ?_
  refine J_iconst (v := 0) dX9_weave_21 (by decide) ?_
  obtain ⟨nn, ff, hh, hk, H⟩ := H
  refine J_iast dX9_weave_22 hh hk ?_
  generalize List.set h5 v6 (am_I 0 nn (upd ff (Int32.toNatClampNeg 1) 0)) = h7 at H ⊢
  clear hh hk
  refine J_aload_n dX9_weave_23 0 rfl ?_
  refine J_iconst (v := 0) dX9_weave_24 (by decide) ?_
  obtain ⟨⟨fs, hh⟩, H⟩ := H
  refine J_callV (As := [.int 0]) (S := []) (b := a0) dX9_weave_25 mX9_isWord_ok kX9_155 rfl (by decide) (Nat.le_of_ble_eq_true rfl) hh rfl rfl (Nat.le_of_ble_eq_true rfl) ⟨Nat.le_of_ble_eq_true rfl, Nat.le_of_ble_eq_true rfl⟩ (fun k h' hp => ?_) H (fun r h8 hp => ?_)
  · obtain ⟨_, hv, -⟩ := hp; cases hv
  obtain ⟨v9, rfl, H⟩ := hp
  show am_J l g mX9_weave (d + 1) (0, 0, x) 28 [(0, .ref a0)] [.int v9] h8 Q
  obtain ⟨H1, H2⟩ := H
  refine J_if_ne (tgt := 36) dX9_weave_28 (by decide) (fun hc => ?_) (fun hc => ?_)
  · replace H := H1 hc
    clear H1 H2
    exact J_pick [0] rfl H
  · replace H := H2 hc
    clear H1 H2
    refine J_aload_n dX9_weave_31 0 rfl ?_
    refine J_iconst (v := 1) dX9_weave_32 (by decide) ?_
    obtain ⟨⟨fs, hh⟩, H⟩ := H
    refine J_callV (As := [.int 1]) (S := []) (b := a0) dX9_weave_33 mX9_wrong_ok kX9_151 rfl (by decide) (Nat.le_of_ble_eq_true rfl) hh rfl rfl (Nat.le_of_ble_eq_true rfl) ⟨Nat.le_of_ble_eq_true rfl, Nat.le_of_ble_eq_true rfl⟩ (fun k h' hp => ?_) H (fun r h10 hp => ?_)
    · obtain ⟨hv, -⟩ := hp; cases hv
    obtain ⟨rfl, H⟩ := hp
    show am_J l g mX9_weave (d + 1) (0, 0, x) 36 [(0, .ref a0)] [] h10 Q
    exact J_pick [0] rfl H
theorem eX9_weave {l : Launch} {g : am_G} {d : Nat} {x : Bool} {a0 : Nat} {h : am_H} {K : Int32 → am_H → Prop} (H : zX9_weave_0 l g d x a0 h (fun r h' => ∃ v, r = some (.int v) ∧ K v h')) : cl_I l g mX9_weave (d + 1) x [.ref a0] h K := rX9_weave_0 H
