theorem oI_inj {a b : Int} (ha : -1000 ≤ a) (ha' : a ≤ 1000) (hb : -1000 ≤ b) (hb' : b ≤ 1000) : Int32.ofInt a = Int32.ofInt b ↔ a = b := by
  constructor
  · intro h
    have := congrArg Int32.toInt h
    rw [oI_toInt (by omega) (by omega), oI_toInt (by omega) (by omega)] at this
    exact this
  · intro h; rw [h]
/-- the class's weave at q, with its arrays -/
def WQ (h : am_H) (q : Nat) (W : wv_T) (f1 f2 f3 f4 f5 : Nat → Int32) : Prop := h[q]? = some (c_wv q (nI W.1) (nI W.2.1)) ∧ h[q + 1]? = some (am_I 0 24 f1) ∧ h[q + 2]? = some (am_I 0 24 f2) ∧ h[q + 3]? = some (am_I 0 24 f3) ∧ h[q + 4]? = some (am_I 0 24 f4) ∧ h[q + 5]? = some (am_I 2 24 f5) ∧
  ∀ k, k < W.2.1 → f1 k = nI (W.2.2 k).1 ∧ f2 k = nI (W.2.2 k).2.1 ∧ f3 k = Int32.ofInt (W.2.2 k).2.2.1 ∧ f4 k = Int32.ofInt (W.2.2 k).2.2.2.1 ∧ f5 k = bi (W.2.2 k).2.2.2.2
theorem WC.q {h : am_H} {q : Nat} {W : wv_T} (hW : WC h q W) : ∃ f1 f2 f3 f4 f5, WQ h q W f1 f2 f3 f4 f5 := by
  obtain ⟨h0, f1, f2, f3, f4, f5, h1, h2, h3, h4, h5, h6⟩ := hW
  exact ⟨f1, f2, f3, f4, f5, h0, h1, h2, h3, h4, h5, h6⟩
theorem WQ.c {h : am_H} {q : Nat} {W : wv_T} {f1 f2 f3 f4 f5 : Nat → Int32} (hW : WQ h q W f1 f2 f3 f4 f5) : WC h q W := by
  obtain ⟨h0, h1, h2, h3, h4, h5, h6⟩ := hW
  exact ⟨h0, f1, f2, f3, f4, f5, h1, h2, h3, h4, h5, h6⟩
theorem WQ.fr {h h' : am_H} {q : Nat} {W : wv_T} {f1 f2 f3 f4 f5 : Nat → Int32} (hW : WQ h q W f1 f2 f3 f4 f5) (hf : ∀ i, q ≤ i → i ≤ q + 5 → h'[i]? = h[i]?) : WQ h' q W f1 f2 f3 f4 f5 := by
  obtain ⟨h0, h1, h2, h3, h4, h5, h6⟩ := hW
  exact ⟨(hf _ (by omega) (by omega)).trans h0, (hf _ (by omega) (by omega)).trans h1, (hf _ (by omega) (by omega)).trans h2, (hf _ (by omega) (by omega)).trans h3, (hf _ (by omega) (by omega)).trans h4, (hf _ (by omega) (by omega)).trans h5, h6⟩
section READER2
variable {l : Launch} {g : am_G} {d : Nat} {x : Bool} {h : am_H} {T : tp_T} {k F r : Nat} {nm : Nat → Nat}
theorem sp_away {K : Int32 → am_H → Prop} (hk : tp_ok T) (hR : RX h T k F nm r) (hK : ∀ v h', RX h' T (p_awj T k + 1) (fo F (p_awf T k)) nm r → (fo F (p_awf T k) = 0 → v = Int32.ofInt (p_awv T k)) → Fr 3 5 h h' → K v h') : cl_I l g mX4_readAway (d + 3) x [.ref 3] h K := by
  have hF := hR.2.2.1
  refine eX4_readAway (gtI hR.2.1 rfl ⟨fun z => ?_, fun z => ⟨_, rfl, ?_⟩⟩)
  · have hF0 : F = 0 := (nI_eq (b := 0) (by omega) (by decide)).mp z
    subst hF0
    rw [fo_z] at hK
    have step : ∀ b0 : Bool, isSg T k 45 = b0 → (isSg T k 45 || isSg T k 43) = true → zX4_readAway_39 l g (d + 2) x 3 (bi b0) h (fun r h' => ∃ v, r = some (.int v) ∧ K v h') := fun b0 hb hs => by
      have ej : p_awj T k = k + 1 := by unfold p_awj; rw [if_pos hs]
      refine gtR hR.2.1 rfl ⟨hR.c4, sp_on hk hR hR.tk fun h1 a1 f1 => sp_away46 hk a1 fun v h' a e b => ?_⟩
      refine hK v h' ?_ (fun h0 => ?_) (f1.tr b)
      · unfold p_awf; rw [ej]; exact a
      · obtain ⟨z1, z2⟩ := p_awf_0.mp h0
        rw [ej] at z1 z2
        rw [e z1 z2]
        unfold p_awv
        rw [hb, ej]
    refine gtR hR.2.1 rfl ⟨hR.c4, sp_is (kd := 3) (w := 45) hk (t_s_le T k) hR.tk (Or.inr rfl) (by decide) ⟨fun y => ?_, fun y => ?_⟩⟩
    · have e := bi_n0.mp y
      rw [e]
      exact step true e (by unfold isSg; rw [e]; rfl)
    · have e := bi_0.mp y
      rw [e]
      refine gtR hR.2.1 rfl ⟨hR.c4, sp_is (kd := 3) (w := 43) hk (t_s_le T k) hR.tk (Or.inr rfl) (by decide) ⟨fun w => ?_, fun w => ?_⟩⟩
      · have e2 := bi_0.mp w
        have ej : p_awj T k = k := by unfold p_awj isSg; rw [e, e2]; rfl
        refine sp_away46 hk hR fun v h' a ev b => ?_
        refine hK v h' ?_ (fun h0 => ?_) b
        · unfold p_awf; rw [ej]; exact a
        · obtain ⟨z1, z2⟩ := p_awf_0.mp h0
          rw [ej] at z1 z2
          rw [ev z1 z2]
          unfold p_awv isSg
          rw [e, ej]
      · have e2 := bi_n0.mp w
        exact step false e (by unfold isSg; rw [e2]; simp)
  · have hF0 : F ≠ 0 := fun e => z (by rw [e]; rfl)
    rw [fo_n hF0] at hK
    obtain ⟨a, b, c, ⟨k', e1, e2⟩, f, g1, g2⟩ := hR
    exact hK _ h ⟨a, b, c, ⟨k', e1, fun z => absurd z hF0⟩, f, g1, g2⟩ (fun z => absurd z hF0) Fr.rf
variable {q : Nat} {W : wv_T} {f1 f2 f3 f4 f5 : Nat → Int32}
theorem sp_alike {i a b : Nat} {u v : Int} {K : Int32 → am_H → Prop} (hW : WQ h q W f1 f2 f3 f4 f5) (hw : wv_ok W) (hn : W.2.1 < 24) (hi : i < W.2.1) (ha : a < 5) (hb : b < 5) (hu : -9 ≤ u ∧ u ≤ 9) (hv : -9 ≤ v ∧ v ≤ 9) (e1 : f1 W.2.1 = nI a) (e2 : f2 W.2.1 = nI b) (e3 : f3 W.2.1 = Int32.ofInt u) (e4 : f4 W.2.1 = Int32.ofInt v) (hK : K (bi (p_al (W.2.2 i) a b u v)) h) : cl_I l g mX7_isSameToldAlike d x [.ref q, .int (nI i), .int (nI W.2.1)] h K := by
  obtain ⟨h0, h1, h2, h3, h4, h5, h6⟩ := hW
  obtain ⟨w1, w2, w3, -⟩ := hw
  obtain ⟨b1, b2, b3, b4, b5, b6, -⟩ := w3 i hi
  obtain ⟨g1, g2, g3, g4, -⟩ := h6 i hi
  unfold p_al at hK
  have k1 : nI (W.2.2 i).1 = nI a ↔ (W.2.2 i).1 = a := nI_eq (by omega) (by omega)
  have k2 : nI (W.2.2 i).2.1 = nI b ↔ (W.2.2 i).2.1 = b := nI_eq (by omega) (by omega)
  have k3 : Int32.ofInt (W.2.2 i).2.2.1 = Int32.ofInt u ↔ (W.2.2 i).2.2.1 = u := oI_inj (by omega) (by omega) (by omega) (by omega)
  have k4 : Int32.ofInt (W.2.2 i).2.2.2.1 = Int32.ofInt v ↔ (W.2.2 i).2.2.2.1 = v := oI_inj (by omega) (by omega) (by omega) (by omega)
  refine eX7_isSameToldAlike (gtR h0 rfl (alI h1 (by omega) (by omega) (gtR h0 rfl (alI h1 (by omega) (by omega) ?_))))
  rw [g1, e1, k1]
  refine ⟨fun z => ?_, fun z => gtR h0 rfl (alI h2 (by omega) (by omega) (gtR h0 rfl (alI h2 (by omega) (by omega) ?_)))⟩
  · rw [decide_eq_false z] at hK; exact ⟨_, rfl, hK⟩
  rw [g2, e2, k2]
  rw [decide_eq_true z, Bool.true_and] at hK
  refine ⟨fun z => ?_, fun z => gtR h0 rfl (alI h3 (by omega) (by omega) (gtR h0 rfl (alI h3 (by omega) (by omega) ?_)))⟩
  · rw [decide_eq_false z] at hK; exact ⟨_, rfl, hK⟩
  rw [g3, e3, k3]
  rw [decide_eq_true z, Bool.true_and] at hK
  refine ⟨fun z => ?_, fun z => gtR h0 rfl (alI h4 (by omega) (by omega) (gtR h0 rfl (alI h4 (by omega) (by omega) ?_)))⟩
  · rw [decide_eq_false z] at hK; exact ⟨_, rfl, hK⟩
  rw [g4, e4, k4]
  rw [decide_eq_true z, Bool.true_and] at hK
  refine ⟨fun z => ?_, fun z => ?_⟩
  · rw [decide_eq_false z] at hK; exact ⟨_, rfl, hK⟩
  · rw [decide_eq_true z] at hK; exact ⟨_, rfl, hK⟩
theorem sp_back {i a b : Nat} {u v : Int} {K : Int32 → am_H → Prop} (hW : WQ h q W f1 f2 f3 f4 f5) (hw : wv_ok W) (hn : W.2.1 < 24) (hi : i < W.2.1) (ha : a < 5) (hb : b < 5) (hu : -9 ≤ u ∧ u ≤ 9) (hv : -9 ≤ v ∧ v ≤ 9) (e1 : f1 W.2.1 = nI a) (e2 : f2 W.2.1 = nI b) (e3 : f3 W.2.1 = Int32.ofInt u) (e4 : f4 W.2.1 = Int32.ofInt v) (hK : K (bi (p_al (W.2.2 i) b a (-u) (-v))) h) : cl_I l g mX7_isSameToldBack d x [.ref q, .int (nI i), .int (nI W.2.1)] h K := by
  obtain ⟨h0, h1, h2, h3, h4, h5, h6⟩ := hW
  obtain ⟨w1, w2, w3, -⟩ := hw
  obtain ⟨b1, b2, b3, b4, b5, b6, -⟩ := w3 i hi
  obtain ⟨g1, g2, g3, g4, -⟩ := h6 i hi
  unfold p_al at hK
  have k1 : nI (W.2.2 i).1 = nI b ↔ (W.2.2 i).1 = b := nI_eq (by omega) (by omega)
  have k2 : nI (W.2.2 i).2.1 = nI a ↔ (W.2.2 i).2.1 = a := nI_eq (by omega) (by omega)
  have k3 : Int32.ofInt (W.2.2 i).2.2.1 = Int32.ofInt (-u) ↔ (W.2.2 i).2.2.1 = -u := oI_inj (by omega) (by omega) (by omega) (by omega)
  have k4 : Int32.ofInt (W.2.2 i).2.2.2.1 = Int32.ofInt (-v) ↔ (W.2.2 i).2.2.2.1 = -v := oI_inj (by omega) (by omega) (by omega) (by omega)
  refine eX7_isSameToldBack (gtR h0 rfl (alI h1 (by omega) (by omega) (gtR h0 rfl (alI h2 (by omega) (by omega) ?_))))
  rw [g1, e2, k1]
  refine ⟨fun z => ?_, fun z => gtR h0 rfl (alI h2 (by omega) (by omega) (gtR h0 rfl (alI h1 (by omega) (by omega) ?_)))⟩
  · rw [decide_eq_false z] at hK; exact ⟨_, rfl, hK⟩
  rw [g2, e1, k2]
  rw [decide_eq_true z, Bool.true_and] at hK
  refine ⟨fun z => ?_, fun z => gtR h0 rfl (alI h3 (by omega) (by omega) (gtR h0 rfl (alI h3 (by omega) (by omega) ?_)))⟩
  · rw [decide_eq_false z] at hK; exact ⟨_, rfl, hK⟩
  rw [g3, e3, oI_neg, k3]
  rw [decide_eq_true z, Bool.true_and] at hK
  refine ⟨fun z => ?_, fun z => gtR h0 rfl (alI h4 (by omega) (by omega) (gtR h0 rfl (alI h4 (by omega) (by omega) ?_)))⟩
  · rw [decide_eq_false z] at hK; exact ⟨_, rfl, hK⟩
  rw [g4, e4, oI_neg, k4]
  rw [decide_eq_true z, Bool.true_and] at hK
  refine ⟨fun z => ?_, fun z => ?_⟩
  · rw [decide_eq_false z] at hK; exact ⟨_, rfl, hK⟩
  · rw [decide_eq_true z] at hK; exact ⟨_, rfl, hK⟩
theorem sp_takesNew {a b : Nat} {u v : Int} {K : Int32 → am_H → Prop} (hW : WQ h q W f1 f2 f3 f4 f5) (hw : wv_ok W) (hn : W.2.1 < 24) (ha : a < 5) (hb : b < 5) (hu : -9 ≤ u ∧ u ≤ 9) (hv : -9 ≤ v ∧ v ≤ 9) (e1 : f1 W.2.1 = nI a) (e2 : f2 W.2.1 = nI b) (e3 : f3 W.2.1 = Int32.ofInt u) (e4 : f4 W.2.1 = Int32.ofInt v) (hK : K (bi (!p_told W a b u v)) h) : cl_I l g mX7_takesNewLink (d + 1) x [.ref q] h K := by
  obtain ⟨h0, h1, h2, h3, h4, h5, h6⟩ := id hW
  have k1 : nI a = nI b ↔ a = b := nI_eq (by omega) (by omega)
  have k3 : Int32.ofInt u = 0 ↔ u = 0 := oI_inj (b := 0) (by omega) (by omega) (by omega) (by omega)
  have k4 : Int32.ofInt v = 0 ↔ v = 0 := oI_inj (b := 0) (by omega) (by omega) (by omega) (by omega)
  have main : ∀ n c, c + n = W.2.1 → K (bi (!p_any (fun i => p_sm (W.2.2 i) a b u v) W.2.1)) h → p_any (fun i => p_sm (W.2.2 i) a b u v) c = false → am_J l g mX7_takesNewLink (d + 1) (0, 0, x) 42 [(0, .ref q), (1, .int (nI W.2.1)), (2, .int (nI c))] [] h (fun r h' => ∃ v, r = some (.int v) ∧ K v h') := by
    intro n
    induction n with
    | zero =>
      intro c hc hK' hno
      have : c = W.2.1 := by omega
      subst this
      rw [hno] at hK'
      exact rX7_takesNewLink_42 ⟨fun _ => ⟨_, rfl, hK'⟩, fun z => absurd (nI_le (Nat.le_refl _) (by omega)) z⟩
    | succ n ih =>
      intro c hc hK' hno
      have yes : p_sm (W.2.2 c) a b u v = true → K 0 h := fun e => by
        have := (p_any_iff (p := fun i => p_sm (W.2.2 i) a b u v) W.2.1).mpr ⟨c, by omega, e⟩
        rw [this] at hK'
        exact hK'
      refine rX7_takesNewLink_42 ⟨fun z => absurd ((nI_leI (by omega) (by omega)).mp z) (by omega), fun _ => ⟨⟨_, h0⟩, sp_alike hW hw hn (by omega) ha hb hu hv e1 e2 e3 e4 ⟨fun z => ⟨_, rfl, yes ?_⟩, fun z => ⟨⟨_, h0⟩, sp_back hW hw hn (by omega) ha hb hu hv e1 e2 e3 e4 ⟨fun y => ?_, fun y => ⟨_, rfl, yes ?_⟩⟩⟩⟩⟩⟩
      · unfold p_sm; rw [bi_n0.mp z]; rfl
      · rw [nI_1]
        refine ih (c + 1) (by omega) hK' ?_
        simp only [p_any, hno, Bool.false_or]
        unfold p_sm
        rw [bi_0.mp z, bi_0.mp y]; rfl
      · unfold p_sm; rw [bi_n0.mp y]; simp
  have go : (decide (a = b) && decide (u = 0) && decide (v = 0)) = false → zX7_takesNewLink_40 l g d x q (nI W.2.1) h (fun r h' => ∃ v, r = some (.int v) ∧ K v h') := fun e => by
    unfold p_told at hK
    rw [e, Bool.false_or] at hK
    exact main W.2.1 0 (by omega) hK rfl
  refine eX7_takesNewLink (gtI h0 rfl (gtR h0 rfl (alI h1 (by omega) (by omega) (gtR h0 rfl (alI h2 (by omega) (by omega) ?_)))))
  rw [e1, e2, k1]
  refine ⟨fun z => go (by rw [decide_eq_false z]; rfl), fun z => gtR h0 rfl (alI h3 (by omega) (by omega) ?_)⟩
  rw [e3, k3]
  refine ⟨fun y => go (by rw [decide_eq_false y]; simp), fun y => gtR h0 rfl (alI h4 (by omega) (by omega) ?_)⟩
  rw [e4, k4]
  refine ⟨fun w => go (by rw [decide_eq_false w]; simp), fun w => ⟨_, rfl, ?_⟩⟩
  unfold p_told at hK
  rw [decide_eq_true z, decide_eq_true y, decide_eq_true w] at hK
  exact hK
theorem sp_over {a b : Nat} {u v : Int} {K : Int32 → am_H → Prop} (hk : tp_ok T) (hR : RX h T k F nm r) (hW : WQ h q W f1 f2 f3 f4 f5) (hw : wv_ok W) (hn : W.2.1 < 24) (hv : F = 0 → a < 5 ∧ b < 5 ∧ -9 ≤ u ∧ u ≤ 9 ∧ -9 ≤ v ∧ v ≤ 9 ∧ f1 W.2.1 = nI a ∧ f2 W.2.1 = nI b ∧ f3 W.2.1 = Int32.ofInt u ∧ f4 W.2.1 = Int32.ofInt v)
    (hK : ∀ bb h', RX h' T (k + 1) (fo F (p_ovf T W k a b u v)) nm r → (fo F (p_ovf T W k a b u v) = 0 → bb = isW T k 2) → Fr 3 5 h h' → K (bi bb) h') : cl_I l g mX4_readOver (d + 3) x [.ref 3, .ref q] h K := by
  have hF := hR.2.2.1
  refine eX4_readOver (gtI hR.2.1 rfl ⟨fun z => ⟨⟨_, hR.2.1⟩, ?_⟩, fun z => ⟨_, rfl, ?_⟩⟩)
  · have hF0 : F = 0 := (nI_eq (b := 0) (by omega) (by decide)).mp z
    subst hF0
    rw [fo_z] at hK
    obtain ⟨v1, v2, v3, v4, v5, v6, v7, v8, v9, v10⟩ := hv rfl
    have take : (isW T k 2 || isW T k 3) = true → zX4_readOver_39 l g (d + 2) x 3 q (bi (isW T k 2)) h (fun r h' => ∃ v, r = some (.int v) ∧ K v h') := fun hy => by
      refine ⟨⟨_, hW.1⟩, sp_takesNew hW hw hn v1 v2 ⟨v3, v4⟩ ⟨v5, v6⟩ v7 v8 v9 v10 ⟨fun y => ?_, fun y => ⟨⟨_, hR.2.1⟩, ?_⟩⟩⟩
      · have e : p_ovf T W k a b u v = 0 := p_ovf_0.mpr ⟨hy, by have := bi_n0.mp y; simpa using this⟩
        rw [e] at hK
        exact gtR hR.2.1 rfl ⟨hR.c4, sp_on hk hR hR.tk fun h' a1 b1 => ⟨bi_01 _, _, rfl, hK _ h' a1 (fun _ => rfl) b1⟩⟩
      · have e : p_ovf T W k a b u v = p_ft T 6 k := by
          unfold p_ovf
          rw [if_pos hy, if_pos (by have := bi_0.mp y; simpa using this)]
        rw [e] at hK
        refine sp_fail (w := 6) hk hR (by decide) (by decide) fun h1 a1 t1 f1 => ?_
        exact gtR a1.2.1 rfl ⟨a1.c4, sp_on hk a1 t1 fun h' a2 b2 => ⟨bi_01 _, _, rfl, hK _ h' a2 (fun _ => rfl) ((f1.mono (by omega) (by omega)).tr b2)⟩⟩
    refine sp_isWord (w := 2) hk hR (by decide) rfl ⟨fun y => take (by rw [bi_n0.mp y]; rfl), fun y => ⟨⟨_, hR.2.1⟩, sp_isWord (w := 3) hk hR (by decide) rfl ⟨fun w => take (by rw [bi_n0.mp w]; simp), fun w => ⟨⟨_, hR.2.1⟩, ?_⟩⟩⟩⟩
    have e : p_ovf T W k a b u v = p_ft T 1 k := by
      unfold p_ovf
      rw [if_neg (by rw [bi_0.mp y, bi_0.mp w]; decide)]
    rw [e] at hK
    refine sp_fail (w := 1) hk hR (by decide) (by decide) fun h1 a1 t1 f1 => ?_
    exact gtR a1.2.1 rfl ⟨a1.c4, sp_on hk a1 t1 fun h' a2 b2 => ⟨bi_01 _, _, rfl, hK _ h' a2 (fun _ => rfl) ((f1.mono (by omega) (by omega)).tr b2)⟩⟩
  · have hF0 : F ≠ 0 := fun e => z (by rw [e]; rfl)
    rw [fo_n hF0] at hK
    obtain ⟨a, b, c, ⟨k', e1, e2⟩, f, g1, g2⟩ := hR
    exact hK false h ⟨a, b, c, ⟨k', e1, fun z => absurd z hF0⟩, f, g1, g2⟩ (fun z => absurd z hF0) Fr.rf
/-- only the reader and the weave at q have changed -/
def RW (q : Nat) (h h' : am_H) : Prop := ∀ i, ¬ (3 ≤ i ∧ i ≤ 5) → ¬ (q ≤ i ∧ i ≤ q + 5) → h'[i]? = h[i]?
theorem RW.rf {q : Nat} {h : am_H} : RW q h h := fun _ _ _ => rfl
theorem RW.tr {q : Nat} {h h1 h2 : am_H} (a : RW q h h1) (b : RW q h1 h2) : RW q h h2 := fun i u v => (b i u v).trans (a i u v)
theorem RW.of {q : Nat} {h h1 : am_H} (a : Fr 3 5 h h1) : RW q h h1 := fun i u _ => a i u
theorem RW.st {q j : Nat} {c : am_C} {h h1 : am_H} (a : RW q h h1) (hj : (3 ≤ j ∧ j ≤ 5) ∨ (q ≤ j ∧ j ≤ q + 5)) : RW q h (h1.set j c) := fun i u v => by
  have hne : j ≠ i := fun e => by subst e; rcases hj with z | z; exact u z; exact v z
  rw [st_ne hne]; exact a i u v
theorem p_ring_4 {T : tp_T} {nm : Nat → Nat} {k r : Nat} (h : r = 4) : p_ring T nm k r = p_ft T 5 k := by unfold p_ring; rw [if_pos h]
theorem sp_readRing {K : am_H → Prop} (hk : tp_ok T) (hR : RX h T k 0 nm W.1) (hW : WC h q W) (hw : wv_ok W) (hq : 34 ≤ q)
    (hK0 : ∀ h', p_ring T nm k W.1 = 0 → RX h' T (k + 3) 0 (nm_put nm W.1 (t_s T (k + 1))) (W.1 + 1) → WC h' q (w_ring W) → RW q h h' → K h')
    (hK1 : ∀ h' W', p_ring T nm k W.1 ≠ 0 → RX h' T 0 (p_ring T nm k W.1) nm 0 → WC h' q W' → RW q h h' → K h') : cl_N l g mX4_readRing (d + 4) x [.ref 3, .ref q] h K := by
  have hw1 := hw.1
  obtain ⟨f1, f2, f3, f4, f5, hQ⟩ := hW.q
  refine eX4_readRing (gtI hQ.1 rfl ⟨fun z => ?_, fun z => ⟨⟨_, hR.2.1⟩, ?_⟩⟩)
  · have h4 : W.1 < 4 := (nI_ltI (b := 4) (by omega) (by decide)).mp z
    refine gtR hR.2.1 rfl ⟨hR.c4, sp_on hk hR hR.tk fun ha Ra fa => ⟨⟨_, Ra.2.1⟩, sp_isName hk Ra ⟨fun y => ⟨⟨_, Ra.2.1⟩, ?_⟩, fun y => ⟨⟨_, Ra.2.1⟩, ?_⟩⟩⟩⟩
    · have hn := bi_n0.mp y
      have Qa : WQ ha q W f1 f2 f3 f4 f5 := hQ.fr (fun i u v => fa i (by omega))
      refine sp_ringOfName hk Ra hn (by omega) Qa.1 ⟨fun w => ?_, fun w => ⟨⟨_, Ra.2.1⟩, ?_⟩⟩
      · have hlt : ¬ p_find T nm (k + 1) W.1 < W.1 := fun c => by
          unfold fi at w
          rw [if_pos c] at w
          exact n1_ne (by omega) w
        have e : p_ring T nm k W.1 = p_sc T (k + 2) := by
          unfold p_ring
          rw [if_neg (by omega), if_neg (by rw [hn]; decide), if_neg hlt]
        rw [e] at hK0 hK1
        have hkk := isnm_w hn
        obtain ⟨v4, q4, hv4⟩ := Ra.tk
        have hv' := hv4 (by omega) (by omega)
        obtain ⟨RA, RB, RC', -, f, g1, g2⟩ := id Ra
        refine gtR RB rfl (gtI Qa.1 rfl (gtR RB rfl (gtL q4 rfl (asL g1 (by omega) (by omega) ?_))))
        have s0 : (ha.set 5 (am_L 4 (vp_updL f W.1 v4)))[q]? = some (c_wv q (nI W.1) (nI W.2.1)) := (st_ne (by omega)).trans Qa.1
        refine gtI s0 rfl (ptV s0 (Nat.le_of_ble_eq_true rfl) ?_)
        have s3 : ((ha.set 5 (am_L 4 (vp_updL f W.1 v4))).set q (am_O 7 (([Value.ref (q + 1), .ref (q + 2), .ref (q + 3), .ref (q + 4), .ref (q + 5), .int (nI W.1), .int (nI W.2.1)] : List Value).set 5 (.int (nI W.1 + 1)))))[3]? = some (c_rd (nI 0)) := (st_ne (by omega)).trans ((st_ne (by omega)).trans RB)
        have sR : RX ((ha.set 5 (am_L 4 (vp_updL f W.1 v4))).set q (am_O 7 (([Value.ref (q + 1), .ref (q + 2), .ref (q + 3), .ref (q + 4), .ref (q + 5), .int (nI W.1), .int (nI W.2.1)] : List Value).set 5 (.int (nI W.1 + 1))))) T (k + 1) 0 (nm_put nm W.1 (t_s T (k + 1))) (W.1 + 1) := by
          refine ⟨RA.fr ?_ ?_, s3, by omega, ⟨k + 1, Ra.tk.fr ?_, fun _ => rfl⟩, vp_updL f W.1 v4, ?_, fun i hi => ?_⟩
          · rw [st_ne (by omega), st_ne (by omega)]
          · rw [st_ne (by omega), st_ne (by omega)]
          · rw [st_ne (by omega), st_ne (by omega)]
          · rw [st_ne (by omega)]; exact st_eq g1
          · by_cases ei : i = W.1
            · subst ei
              simp only [nm_put, if_true]
              refine ⟨?_, hkk, t_k_in (by omega)⟩
              rw [← hv']
              simp [vp_updL]
            · simp only [nm_put, if_neg ei]
              have := g2 i (by omega)
              refine ⟨?_, this.2⟩
              rw [← this.1]
              simp [vp_updL, ei]
        have sQ : WQ ((ha.set 5 (am_L 4 (vp_updL f W.1 v4))).set q (am_O 7 (([Value.ref (q + 1), .ref (q + 2), .ref (q + 3), .ref (q + 4), .ref (q + 5), .int (nI W.1), .int (nI W.2.1)] : List Value).set 5 (.int (nI W.1 + 1))))) q (w_ring W) f1 f2 f3 f4 f5 := by
          obtain ⟨z0, z1, z2, z3, z4, z5, z6⟩ := Qa
          refine ⟨?_, ?_, ?_, ?_, ?_, ?_, z6⟩
          · rw [st_eq s0, nI_1]; rfl
          · rw [st_ne (by omega), st_ne (by omega)]; exact z1
          · rw [st_ne (by omega), st_ne (by omega)]; exact z2
          · rw [st_ne (by omega), st_ne (by omega)]; exact z3
          · rw [st_ne (by omega), st_ne (by omega)]; exact z4
          · rw [st_ne (by omega), st_ne (by omega)]; exact z5
        have sF : RW q h ((ha.set 5 (am_L 4 (vp_updL f W.1 v4))).set q (am_O 7 (([Value.ref (q + 1), .ref (q + 2), .ref (q + 3), .ref (q + 4), .ref (q + 5), .int (nI W.1), .int (nI W.2.1)] : List Value).set 5 (.int (nI W.1 + 1))))) := ((RW.of fa).st (by omega)).st (by omega)
        refine gtR s3 rfl ⟨sR.c4, sp_on hk sR sR.tk fun hb Rb fb => ⟨⟨_, Rb.2.1⟩, sp_semi hk Rb fun hc Rc fc => ⟨rfl, ?_⟩⟩⟩
        have hfin : RW q h hc := (sF.tr (RW.of fb)).tr (RW.of fc)
        have hQc : WC hc q (w_ring W) := (sQ.fr (fun i u v => (fc i (by omega)).trans (fb i (by omega)))).c
        rw [fo_z] at Rc
        by_cases e0 : p_sc T (k + 2) = 0
        · rw [show k + 1 + 1 = k + 2 from rfl, e0] at Rc
          exact hK0 hc e0 Rc hQc hfin
        · exact hK1 hc _ e0 (Rc.bad e0) hQc hfin
      · have hlt : p_find T nm (k + 1) W.1 < W.1 := by
          unfold fi at w
          by_cases c : p_find T nm (k + 1) W.1 < W.1
          · exact c
          · rw [if_neg c] at w; exact absurd rfl w
        have e : p_ring T nm k W.1 = p_ft T 3 (k + 1) := by
          unfold p_ring
          rw [if_neg (by omega), if_neg (by rw [hn]; decide), if_pos hlt]
        rw [e] at hK1
        refine sp_fail (w := 3) hk Ra (by decide) (by decide) fun h1 a1 t1 f1 => ⟨rfl, ?_⟩
        exact hK1 h1 W (p_ft_ne (by decide)) (a1.bad (p_ft_ne (by decide))) (hW.fr (fun i u v => (f1 i (by omega)).trans (fa i (by omega)))) ((RW.of fa).tr (RW.of (f1.mono (by omega) (by omega))))
    · have hn := bi_0.mp y
      have e : p_ring T nm k W.1 = p_ft T 1 (k + 1) := by
        unfold p_ring
        rw [if_neg (by omega), if_pos hn]
      rw [e] at hK1
      refine sp_fail (w := 1) hk Ra (by decide) (by decide) fun h1 a1 t1 f1 => ⟨rfl, ?_⟩
      exact hK1 h1 W (p_ft_ne (by decide)) (a1.bad (p_ft_ne (by decide))) (hW.fr (fun i u v => (f1 i (by omega)).trans (fa i (by omega)))) ((RW.of fa).tr (RW.of (f1.mono (by omega) (by omega))))
  · have h4 : W.1 = 4 := by
      rcases Nat.lt_or_ge W.1 4 with c | c
      · exact absurd (nI_lt (b := 4) c (by decide)) z
      · omega
    rw [p_ring_4 h4] at hK1
    refine sp_fail (w := 5) hk hR (by decide) (by decide) fun h1 a1 t1 f1 => ⟨rfl, ?_⟩
    exact hK1 h1 W (p_ft_ne (by decide)) (a1.bad (p_ft_ne (by decide))) (hW.fr (fun i u v => f1 i (by omega))) (RW.of (f1.mono (by omega) (by omega)))
end READER2
