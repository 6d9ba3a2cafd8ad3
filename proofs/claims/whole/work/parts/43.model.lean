/-! ===== the model's mail ===== -/
theorem nI_eqI {a b : Nat} (ha : a < 2 ^ 31) (hb : b < 2 ^ 31) (h : nI a = nI b) : a = b := (nI_eq ha hb).mp h
abbrev c_mo (thr tp sz at' ft co ro ic nu wi inn gr : Int32) : am_C := am_O 9 [.int thr, .ref 47, .int tp, .int sz, .ref 48, .ref 49, .ref 50, .int at', .int ft, .ref 51, .ref 52, .ref 53, .ref 54, .ref 55, .ref 56, .ref 57, .ref 58, .ref 59, .int co, .int ro, .int ic, .int nu, .ref 60, .ref 61, .ref 62, .ref 63, .ref 64, .ref 65, .ref 66, .ref 67, .ref 68, .ref 69, .ref 70, .ref 71, .ref 72, .int wi, .int inn, .int gr]
/-- other ints of the model: thrown, taped, size, at, fault, wire, inner, grams -/
abbrev mo_T : Type := Int32 × Int32 × Int32 × Int32 × Int32 × Int32 × Int32 × Int32
abbrev c_mm (o : mo_T) (co ro ic nu : Int32) : am_C := c_mo o.1 o.2.1 o.2.2.1 o.2.2.2.1 o.2.2.2.2.1 co ro ic nu o.2.2.2.2.2.1 o.2.2.2.2.2.2.1 o.2.2.2.2.2.2.2
def ow (f1 f2 f3 f4 f5 : Nat → Int32) (s : Nat) (W : wv_T) : Prop := ∀ k, k < W.2.1 → f1 (24 * s + k) = nI (W.2.2 k).1 ∧ f2 (24 * s + k) = nI (W.2.2 k).2.1 ∧ f3 (24 * s + k) = Int32.ofInt (W.2.2 k).2.2.1 ∧ f4 (24 * s + k) = Int32.ofInt (W.2.2 k).2.2.2.1 ∧ f5 (24 * s + k) = bi (W.2.2 k).2.2.2.2
/-- the model's weaves: in hand (0) and laid (2) -/
def WM (h : am_H) (Wh Wl : wv_T) : Prop := ∃ fr fl f1 f2 f3 f4 f5 : Nat → Int32, h[52]? = some (am_I 0 3 fr) ∧ h[54]? = some (am_I 0 3 fl) ∧ h[55]? = some (am_I 0 72 f1) ∧ h[56]? = some (am_I 0 72 f2) ∧ h[57]? = some (am_I 0 72 f3) ∧ h[58]? = some (am_I 0 72 f4) ∧ h[59]? = some (am_I 2 72 f5) ∧ fr 0 = nI Wh.1 ∧ fl 0 = nI Wh.2.1 ∧ fr 2 = nI Wl.1 ∧ fl 2 = nI Wl.2.1 ∧ ow f1 f2 f3 f4 f5 0 Wh ∧ ow f1 f2 f3 f4 f5 2 Wl
def tv (ov : Nat → Nat → Bool) (a b : Nat) : Int32 := if ov a b then 1 else if ov b a then -1 else 0
def MM (h : am_H) (m : ml_T) (Wh : wv_T) (o : mo_T) : Prop :=
  h[46]? = some (c_mm o (nI m.2.1) (nI m.2.2.1) (nI (m_sh m)) (nI (m_nu m))) ∧ WM h Wh m.1 ∧ (∃ f, h[60]? = some (am_I 2 300 f) ∧ ∀ i, i < m_nu m → f i = bi (m_th m i)) ∧ (∃ f, h[61]? = some (am_I 0 90000 f) ∧ ∀ a b, a < 300 → b < 300 → f (300 * a + b) = tv (m_ov m) a b)
theorem WM.fr {h h' : am_H} {Wh Wl : wv_T} (hW : WM h Wh Wl) (hf : ∀ i, 52 ≤ i → i ≤ 59 → h'[i]? = h[i]?) : WM h' Wh Wl := by
  obtain ⟨fr, fl, f1, f2, f3, f4, f5, h1, h2, h3, h4, h5, h6, h7, h8⟩ := hW
  exact ⟨fr, fl, f1, f2, f3, f4, f5, by rw [hf _ (by omega) (by omega)]; exact h1, by rw [hf _ (by omega) (by omega)]; exact h2, by rw [hf _ (by omega) (by omega)]; exact h3, by rw [hf _ (by omega) (by omega)]; exact h4, by rw [hf _ (by omega) (by omega)]; exact h5, by rw [hf _ (by omega) (by omega)]; exact h6, by rw [hf _ (by omega) (by omega)]; exact h7, h8⟩
theorem MM.fr {h h' : am_H} {m : ml_T} {Wh : wv_T} {o : mo_T} (hM : MM h m Wh o) (h46 : h'[46]? = h[46]?) (hf : ∀ i, 52 ≤ i → i ≤ 61 → h'[i]? = h[i]?) : MM h' m Wh o := by
  obtain ⟨h0, h1, ⟨f, h2, h2'⟩, ⟨f6, h6, h6'⟩⟩ := hM
  exact ⟨by rw [h46]; exact h0, h1.fr (fun i a b => hf i a (by omega)), ⟨f, by rw [hf _ (by omega) (by omega)]; exact h2, h2'⟩, ⟨f6, by rw [hf _ (by omega) (by omega)]; exact h6, h6'⟩⟩
theorem tv_0 {ov : Nat → Nat → Bool} {a b : Nat} : tv ov a b = 0 ↔ (ov a b || ov b a) = false := by
  unfold tv
  cases ov a b <;> cases ov b a <;> simp
theorem ix_t {a b : Nat} : ((300 : Int32) * nI a) + nI b = nI (300 * a + b) := by
  rw [show (300 : Int32) = nI 300 from rfl, pk_mul, nI_add]
section MODEL
variable {l : Launch} {g : am_G} {d : Nat} {x : Bool} {h : am_H} {m : ml_T} {Wh : wv_T} {o : mo_T}
theorem ms_isRing {r : Int32} {K : Int32 → am_H → Prop} (hM : MM h m Wh o) (hv : ml_g m) (h0 : r < 0 ∨ nI (m_nu m) ≤ r → K 0 h) (h1 : ∀ j, j < m_nu m → r = nI j → K (bi (m_th m j)) h) : cl_I l g mX9_isRing d x [.ref 46, .int r] h K := by
  have hnu : m_nu m ≤ 300 := hv.2.2.2.2.2.1
  obtain ⟨q0, -, ⟨f, hf, hf'⟩, -⟩ := hM
  refine eX9_isRing ⟨fun hc => ⟨0, rfl, h0 (Or.inl hc)⟩, fun hc => gtI q0 rfl ⟨fun hd => ⟨0, rfl, h0 (Or.inr hd)⟩, fun hd => ?_⟩⟩
  rcases pk_ix r (show m_nu m < 2 ^ 31 by omega) with q | q | ⟨j, hj, rfl⟩
  · exact absurd q hc
  · exact absurd q hd
  · refine gtR q0 rfl (alI hf (by omega) (by omega) ?_)
    rw [hf' j hj]
    have hk := h1 j hj rfl
    exact ⟨fun z => by rw [bi_0.mp z] at hk; exact ⟨0, rfl, hk⟩, fun z => by rw [bi_n0.mp z] at hk; exact ⟨1, rfl, hk⟩⟩
theorem ms_areLinked {a b : Nat} {K : Int32 → am_H → Prop} (hM : MM h m Wh o) (ha : a < 300) (hb : b < 300) (hK : K (bi (m_aj m a b)) h) : cl_I l g mX9_areLinked d x [.ref 46, .int (nI a), .int (nI b)] h K := by
  obtain ⟨q0, -, -, ⟨f, hf, hf'⟩⟩ := hM
  refine eX9_areLinked (gtR q0 rfl ?_)
  rw [ix_t]
  refine alI hf (by omega) (by omega) ?_
  rw [hf' a b ha hb]
  refine ⟨fun hz => ⟨0, rfl, ?_⟩, fun hz => ⟨1, rfl, ?_⟩⟩
  · have : m_aj m a b = false := tv_0.mp hz
    rw [this] at hK; exact hK
  · have : m_aj m a b = true := by
      cases hq : m_aj m a b with
      | true => rfl
      | false => exact absurd (tv_0.mpr hq) hz
    rw [this] at hK; exact hK
/-- a entry of the table set, and the opposite one -/
def m_sets (m : ml_T) (u v : Nat) (w : Int) : ml_T := m_with m (fun a b => if a = u ∧ b = v then decide (w = 1) else if a = v ∧ b = u then decide (w = -1) else m_ov m a b)
theorem ms_sets {u v : Nat} {w : Int} {K : am_H → Prop} (hM : MM h m Wh o) (hu : u < 300) (hv : v < 300) (huv : u ≠ v ∨ w = 0) (hw : w = 1 ∨ w = -1 ∨ w = 0) (hK : ∀ h', MM h' (m_sets m u v w) Wh o → Fr 61 61 h h' → K h') : cl_N l g mX9_sets d x [.ref 46, .int (nI u), .int (nI v), .int (Int32.ofInt w)] h K := by
  obtain ⟨q0, hW, h60, ⟨f, hf, hf'⟩⟩ := hM
  refine eX9_sets (gtR q0 rfl ?_)
  rw [ix_t]
  refine asI hf (by omega) (by omega) (gtR ((st_ne (by decide)).trans q0) rfl ?_)
  rw [ix_t]
  refine asI (st_eq hf) (by omega) (by omega) ⟨rfl, ?_⟩
  rw [List.set_set]
  refine hK _ ⟨(st_ne (by decide)).trans q0, hW.fr (fun i a b => st_ne (by omega)), ?_, ⟨_, st_eq hf, fun a b ha hb => ?_⟩⟩ (Fr.rf.st (by decide))
  · obtain ⟨f2, h2, h2'⟩ := h60
    exact ⟨f2, (st_ne (by decide)).trans h2, h2'⟩
  · unfold upd
    have i1 : (300 * a + b = 300 * v + u) ↔ (a = v ∧ b = u) := by omega
    have i2 : (300 * a + b = 300 * u + v) ↔ (a = u ∧ b = v) := by omega
    simp only [i1, i2]
    show _ = tv (fun a b => if a = u ∧ b = v then decide (w = 1) else if a = v ∧ b = u then decide (w = -1) else m_ov m a b) a b
    unfold tv
    by_cases c1 : a = v ∧ b = u
    · rw [if_pos c1]
      obtain ⟨rfl, rfl⟩ := c1
      by_cases e : a = b
      · have w0 : w = 0 := huv.resolve_left (fun z => z e.symm)
        subst w0
        subst e
        simp

      · have e' : ¬ b = a := fun z => e z.symm
        rcases hw with rfl | rfl | rfl
        · simp [e, e']
        · simp [e, e']
        · simp [e, e']
    · rw [if_neg c1]
      by_cases c2 : a = u ∧ b = v
      · rw [if_pos c2]
        obtain ⟨rfl, rfl⟩ := c2
        have e : ¬ (a = b ∧ b = a) := c1
        rcases hw with rfl | rfl | rfl
        · simp
        · simp [c1]; exact fun z y => c1 ⟨y, z⟩
        · simp [c1]
      · rw [if_neg c2, hf' a b ha hb]
        have c3 : ¬ (b = u ∧ a = v) := fun z => c1 ⟨z.2, z.1⟩
        have c4 : ¬ (b = v ∧ a = u) := fun z => c2 ⟨z.2, z.1⟩
        unfold tv
        simp [c1, c2, c3, c4]
theorem lm_linksOf {r : Nat} {Q : Option Value → am_H → Prop} (hM : MM h m Wh o) (hv : ml_g m) (hr : r < 300) (hK : Q (some (.int (nI (fb_ct (m_aj m r) (m_nu m))))) h) : ∀ k c, c + k = m_nu m → am_J l g mX9_linksOf d (0, 0, x) 4 [(0, .ref 46), (1, .int (nI r)), (2, .int (nI (fb_ct (m_aj m r) c))), (3, .int (nI c))] [] h Q := by
  have b6 := hv.2.2.2.2.2.1
  obtain ⟨q0, -, -, ⟨f, hf, hf'⟩⟩ := hM
  intro k
  induction k with
  | zero =>
    intro c hc
    have : c = m_nu m := by omega
    subst this
    exact rX9_linksOf_4 (gtI q0 rfl ⟨fun _ => hK, fun hq => absurd (nI_le (Nat.le_refl _) (by omega)) hq⟩)
  | succ k ih =>
    intro c hc
    refine rX9_linksOf_4 (gtI q0 rfl ⟨fun hq => absurd ((nI_leI (by omega) (by omega)).mp hq) (by omega), fun _ => gtR q0 rfl ?_⟩)
    rw [ix_t]
    refine alI hf (by omega) (by omega) ?_
    rw [hf' r c hr (by omega)]
    refine ⟨fun hz => ?_, fun hz => ?_⟩
    · unfold zX9_linksOf_33
      have e : fb_ct (m_aj m r) (c + 1) = fb_ct (m_aj m r) c := by
        have : m_aj m r c = false := tv_0.mp hz
        rw [fb_ct_succ, this]; rfl
      rw [nI_1, show nI (fb_ct (m_aj m r) c) + 0 = nI (fb_ct (m_aj m r) c) from nI_add _ 0, ← e]
      exact ih (c + 1) (by omega)
    · unfold zX9_linksOf_33
      have e : fb_ct (m_aj m r) (c + 1) = fb_ct (m_aj m r) c + 1 := by
        have : m_aj m r c = true := by
          cases hq : m_aj m r c with
          | true => rfl
          | false => exact absurd (tv_0.mpr hq) hz
        rw [fb_ct_succ, this]; rfl
      rw [nI_1, nI_1, ← e]
      exact ih (c + 1) (by omega)
theorem ms_linksOf {r : Nat} {K : Int32 → am_H → Prop} (hM : MM h m Wh o) (hv : ml_g m) (hr : r < 300) (hK : K (nI (fb_ct (m_aj m r) (m_nu m))) h) : cl_I l g mX9_linksOf d x [.ref 46, .int (nI r)] h K :=
  eX9_linksOf (lm_linksOf hM hv hr ⟨_, rfl, hK⟩ (m_nu m) 0 (by omega))
theorem lm_there {Q : Option Value → am_H → Prop} (hM : MM h m Wh o) (hv : ml_g m) (hK : Q (some (.int (nI (fb_ct (m_th m) (m_nu m))))) h) : ∀ k c, c + k = m_nu m → am_J l g mX9_there d (0, 0, x) 4 [(0, .ref 46), (1, .int (nI (fb_ct (m_th m) c))), (2, .int (nI c))] [] h Q := by
  have b6 := hv.2.2.2.2.2.1
  obtain ⟨q0, -, ⟨f, hf, hf'⟩, -⟩ := hM
  intro k
  induction k with
  | zero =>
    intro c hc
    have : c = m_nu m := by omega
    subst this
    exact rX9_there_4 (gtI q0 rfl ⟨fun _ => hK, fun hq => absurd (nI_le (Nat.le_refl _) (by omega)) hq⟩)
  | succ k ih =>
    intro c hc
    refine rX9_there_4 (gtI q0 rfl ⟨fun hq => absurd ((nI_leI (by omega) (by omega)).mp hq) (by omega), fun _ => gtR q0 rfl (alI hf (by omega) (by omega) ?_)⟩)
    rw [hf' c (by omega)]
    refine ⟨fun hz => ?_, fun hz => ?_⟩
    · unfold zX9_there_27
      have e : fb_ct (m_th m) (c + 1) = fb_ct (m_th m) c := by rw [fb_ct_succ, bi_0.mp hz]; rfl
      rw [nI_1, show nI (fb_ct (m_th m) c) + 0 = nI (fb_ct (m_th m) c) from nI_add _ 0, ← e]
      exact ih (c + 1) (by omega)
    · unfold zX9_there_27
      have e : fb_ct (m_th m) (c + 1) = fb_ct (m_th m) c + 1 := by rw [fb_ct_succ, bi_n0.mp hz]; rfl
      rw [nI_1, nI_1, ← e]
      exact ih (c + 1) (by omega)
theorem ms_there {K : Int32 → am_H → Prop} (hM : MM h m Wh o) (hv : ml_g m) (hK : K (nI (fb_ct (m_th m) (m_nu m))) h) : cl_I l g mX9_there d x [.ref 46] h K :=
  eX9_there (lm_there hM hv ⟨_, rfl, hK⟩ (m_nu m) 0 (by omega))
theorem lm_worn {Q : Option Value → am_H → Prop} (hM : MM h m Wh o) (hv : ml_g m) (hK : Q (some (.int (nI (fb_ct (fun i => !m_th m i) (m_sh m))))) h) : ∀ k c, c + k = m_sh m → am_J l g mX9_worn d (0, 0, x) 4 [(0, .ref 46), (1, .int (nI (fb_ct (fun i => !m_th m i) c))), (2, .int (nI c))] [] h Q := by
  have b6 := hv.2.2.2.2.2.1
  have b7 := hv.2.2.2.2.1
  obtain ⟨q0, -, ⟨f, hf, hf'⟩, -⟩ := hM
  intro k
  induction k with
  | zero =>
    intro c hc
    have : c = m_sh m := by omega
    subst this
    exact rX9_worn_4 (gtI q0 rfl ⟨fun _ => hK, fun hq => absurd (nI_le (Nat.le_refl _) (by omega)) hq⟩)
  | succ k ih =>
    intro c hc
    refine rX9_worn_4 (gtI q0 rfl ⟨fun hq => absurd ((nI_leI (by omega) (by omega)).mp hq) (by omega), fun _ => gtR q0 rfl (alI hf (by omega) (by omega) ?_)⟩)
    rw [hf' c (by omega)]
    refine ⟨fun hz => ?_, fun hz => ?_⟩
    · unfold zX9_worn_27
      have e : fb_ct (fun i => !m_th m i) (c + 1) = fb_ct (fun i => !m_th m i) c + 1 := by rw [fb_ct_succ]; simp [bi_0.mp hz]
      rw [nI_1, nI_1, ← e]
      exact ih (c + 1) (by omega)
    · unfold zX9_worn_27
      have e : fb_ct (fun i => !m_th m i) (c + 1) = fb_ct (fun i => !m_th m i) c := by rw [fb_ct_succ]; simp [bi_n0.mp hz]
      rw [nI_1, show nI (fb_ct (fun i => !m_th m i) c) + 0 = nI (fb_ct (fun i => !m_th m i) c) from nI_add _ 0, ← e]
      exact ih (c + 1) (by omega)
theorem ms_worn {K : Int32 → am_H → Prop} (hM : MM h m Wh o) (hv : ml_g m) (hK : K (nI (fb_ct (fun i => !m_th m i) (m_sh m))) h) : cl_I l g mX9_worn d x [.ref 46] h K :=
  eX9_worn (lm_worn hM hv ⟨_, rfl, hK⟩ (m_sh m) 0 (by omega))
end MODEL
