/-! ===== reading, purely ===== -/
def isW (T : tp_T) (k w : Nat) : Bool := decide (t_k T (t_s T k) = 1) && decide (t_v T (t_s T k) = t_k256 w)
def isSg (T : tp_T) (k c : Nat) : Bool := decide (t_k T (t_s T k) = 3) && decide (t_v T (t_s T k) = c)
def isnm (T : tp_T) (k : Nat) : Bool := decide (t_k T (t_s T k) = 1) && !isW T k 0 && !isW T k 1 && !isW T k 2 && !isW T k 3
def p_find (T : tp_T) (nm : Nat → Nat) (k r : Nat) : Nat := fa_first (fun i => decide (t_v T (nm i) = t_v T (t_s T k))) r
def p_ft (T : tp_T) (w k : Nat) : Nat := w + 16 * t_s T k
def fo (a b : Nat) : Nat := if a = 0 then b else a
def p_sc (T : tp_T) (k : Nat) : Nat := if isSg T k 59 then 0 else p_ft T 1 k
def p_ring (T : tp_T) (nm : Nat → Nat) (k r : Nat) : Nat :=
  if r = 4 then p_ft T 5 k else if isnm T (k + 1) = false then p_ft T 1 (k + 1) else if p_find T nm (k + 1) r < r then p_ft T 3 (k + 1) else p_sc T (k + 2)
def p_nmf (T : tp_T) (nm : Nat → Nat) (k r : Nat) : Nat := if isnm T k = false then p_ft T 1 k else if p_find T nm k r < r then 0 else p_ft T 2 k
def p_awj (T : tp_T) (k : Nat) : Nat := if (isSg T k 45 || isSg T k 43) = true then k + 1 else k
def p_awf (T : tp_T) (k : Nat) : Nat := if t_k T (t_s T (p_awj T k)) = 2 then (if t_v T (t_s T (p_awj T k)) ≤ 9 then 0 else p_ft T 4 (p_awj T k)) else p_ft T 1 (p_awj T k)
def p_awv (T : tp_T) (k : Nat) : Int := if isSg T k 45 then -(t_v T (t_s T (p_awj T k)) : Int) else (t_v T (t_s T (p_awj T k)) : Int)
def p_any (p : Nat → Bool) : Nat → Bool
  | 0 => false
  | n + 1 => p_any p n || p n
theorem p_any_iff {p : Nat → Bool} : ∀ n, p_any p n = true ↔ ∃ i, i < n ∧ p i = true := by
  intro n
  induction n with
  | zero => exact ⟨fun h => (by cases h), fun ⟨i, hi, _⟩ => (by omega)⟩
  | succ n ih =>
    simp only [p_any, Bool.or_eq_true, ih]
    constructor
    · rintro (⟨i, hi, hp⟩ | hp)
      · exact ⟨i, by omega, hp⟩
      · exact ⟨n, by omega, hp⟩
    · rintro ⟨i, hi, hp⟩
      by_cases e : i = n
      · subst e; exact Or.inr hp
      · exact Or.inl ⟨i, by omega, hp⟩
def p_al (L : Nat × Nat × Int × Int × Bool) (a b : Nat) (x y : Int) : Bool := decide (L.1 = a) && decide (L.2.1 = b) && decide (L.2.2.1 = x) && decide (L.2.2.2.1 = y)
def p_sm (L : Nat × Nat × Int × Int × Bool) (a b : Nat) (x y : Int) : Bool := p_al L a b x y || p_al L b a (-x) (-y)
def p_told (W : wv_T) (a b : Nat) (x y : Int) : Bool := (decide (a = b) && decide (x = 0) && decide (y = 0)) || p_any (fun i => p_sm (W.2.2 i) a b x y) W.2.1
def p_ovf (T : tp_T) (W : wv_T) (k a b : Nat) (x y : Int) : Nat := if (isW T k 2 || isW T k 3) = true then (if p_told W a b x y then p_ft T 6 k else 0) else p_ft T 1 k
/-- places of a link's parts -/
def p_k4 (T : tp_T) (k : Nat) : Nat := p_awj T (k + 3) + 1
def p_k5 (T : tp_T) (k : Nat) : Nat := p_awj T (p_k4 T k) + 1
def p_lk (T : tp_T) (nm : Nat → Nat) (k r : Nat) : Nat × Nat × Int × Int × Bool := (p_find T nm (k + 1) r, p_find T nm (k + 2) r, p_awv T (k + 3), p_awv T (p_k4 T k), isW T (p_k5 T k) 2)
def p_l5 (T : tp_T) (nm : Nat → Nat) (W : wv_T) (k : Nat) : Nat :=
  fo (fo (fo (fo (p_nmf T nm (k + 1) W.1) (p_nmf T nm (k + 2) W.1)) (p_awf T (k + 3))) (p_awf T (p_k4 T k))) (p_ovf T W (p_k5 T k) (p_find T nm (k + 1) W.1) (p_find T nm (k + 2) W.1) (p_awv T (k + 3)) (p_awv T (p_k4 T k)))
def p_link (T : tp_T) (nm : Nat → Nat) (W : wv_T) (k : Nat) : Nat := if W.2.1 = 24 then p_ft T 5 k else fo (p_l5 T nm W k) (p_sc T (p_k5 T k + 1))
def w_put (W : wv_T) (L : Nat × Nat × Int × Int × Bool) : wv_T := (W.1, W.2.1 + 1, fun i => if i = W.2.1 then L else W.2.2 i)
def w_ring (W : wv_T) : wv_T := (W.1 + 1, W.2.1, W.2.2)
def nm_put (nm : Nat → Nat) (r s : Nat) : Nat → Nat := fun i => if i = r then s else nm i
/-- all rings, all links: fault, token, names, weave -/
def p_R (T : tp_T) : Nat → Nat → (Nat → Nat) → wv_T → Nat × Nat × (Nat → Nat) × wv_T
  | 0, k, nm, W => (0, k, nm, W)
  | f + 1, k, nm, W => if isW T k 0 = true then (if p_ring T nm k W.1 = 0 then p_R T f (k + 3) (nm_put nm W.1 (t_s T (k + 1))) (w_ring W) else (p_ring T nm k W.1, k, nm, W)) else (0, k, nm, W)
def p_L (T : tp_T) (nm : Nat → Nat) : Nat → Nat → wv_T → Nat × Nat × wv_T
  | 0, k, W => (0, k, W)
  | f + 1, k, W => if isW T k 1 = true then (if p_link T nm W k = 0 then p_L T nm f (p_k5 T k + 2) (w_put W (p_lk T nm k W.1)) else (p_link T nm W k, k, W)) else (0, k, W)
def w_0 : wv_T := (0, 0, fun _ => (0, 0, 0, 0, false))
/-- what weave answers, and the weave told -/
def p_all (T : tp_T) : Nat × wv_T :=
  if isW T 0 0 = true then
    let R := p_R T 5 0 (fun _ => 0) w_0
    if R.1 = 0 then
      let L := p_L T R.2.2.1 25 R.2.1 R.2.2.2
      (fo L.1 (if t_k T (t_s T L.2.1) = 0 then 0 else p_ft T 1 L.2.1), L.2.2)
    else (R.1, w_0)
  else (p_ft T 1 0, w_0)
theorem fo_0 {a b : Nat} : fo a b = 0 ↔ a = 0 ∧ b = 0 := by
  unfold fo
  split <;> omega
theorem fo_lt {a b n : Nat} (ha : a < n) (hb : b < n) : fo a b < n := by
  unfold fo
  split <;> omega
theorem p_ft_lt {T : tp_T} {w k : Nat} (hT : tp_ok T) (hw : w < 7) : p_ft T w k < 20000 := by
  unfold p_ft
  have := t_s_le T k
  have := hT.1
  omega
theorem p_ft_ne {T : tp_T} {w k : Nat} (hw : 0 < w) : p_ft T w k ≠ 0 := by
  unfold p_ft
  omega
theorem p_find_le (T : tp_T) (nm : Nat → Nat) (k r : Nat) : p_find T nm k r ≤ r := fa_first_le _ _
theorem p_nmf_0 {T : tp_T} {nm : Nat → Nat} {k r : Nat} : p_nmf T nm k r = 0 ↔ isnm T k = true ∧ p_find T nm k r < r := by
  unfold p_nmf
  cases isnm T k with
  | false => simp [p_ft_ne]
  | true =>
    by_cases h : p_find T nm k r < r
    · simp [h]
    · simp [h, p_ft_ne]
theorem p_awf_0 {T : tp_T} {k : Nat} : p_awf T k = 0 ↔ t_k T (t_s T (p_awj T k)) = 2 ∧ t_v T (t_s T (p_awj T k)) ≤ 9 := by
  unfold p_awf
  by_cases h : t_k T (t_s T (p_awj T k)) = 2
  · by_cases h2 : t_v T (t_s T (p_awj T k)) ≤ 9
    · simp [h, h2]
    · simp [h, h2, p_ft_ne]
  · simp [h, p_ft_ne]
theorem p_awv_b {T : tp_T} {k : Nat} (h : p_awf T k = 0) : -9 ≤ p_awv T k ∧ p_awv T k ≤ 9 := by
  have := (p_awf_0.mp h).2
  unfold p_awv
  split <;> omega
theorem p_ovf_0 {T : tp_T} {W : wv_T} {k a b : Nat} {x y : Int} : p_ovf T W k a b x y = 0 ↔ (isW T k 2 || isW T k 3) = true ∧ p_told W a b x y = false := by
  unfold p_ovf
  by_cases h : (isW T k 2 || isW T k 3) = true
  · rw [if_pos h]
    cases p_told W a b x y with
    | false => simp [h]
    | true => simp [p_ft_ne]
  · rw [if_neg h]
    simp only [p_ft_ne (w := 1) (by decide), false_iff]
    exact fun q => h q.1
theorem p_told_0 {W : wv_T} {a b : Nat} {x y : Int} (h : p_told W a b x y = false) : ¬ (a = b ∧ x = 0 ∧ y = 0) ∧ ∀ i, i < W.2.1 → p_sm (W.2.2 i) a b x y = false := by
  unfold p_told at h
  rw [Bool.or_eq_false_iff] at h
  refine ⟨fun q => ?_, fun i hi => ?_⟩
  · rw [q.1, q.2.1, q.2.2] at h; simp at h
  · cases e : p_sm (W.2.2 i) a b x y with
    | false => rfl
    | true =>
      have := (p_any_iff (p := fun i => p_sm (W.2.2 i) a b x y) W.2.1).mpr ⟨i, hi, e⟩
      rw [this] at h
      cases h.2
theorem p_sm_0 {L : Nat × Nat × Int × Int × Bool} {a b : Nat} {x y : Int} (h : p_sm L a b x y = false) : ¬ (L.1 = a ∧ L.2.1 = b ∧ L.2.2.1 = x ∧ L.2.2.2.1 = y) ∧ ¬ (L.1 = b ∧ L.2.1 = a ∧ L.2.2.1 = -x ∧ L.2.2.2.1 = -y) := by
  unfold p_sm p_al at h
  rw [Bool.or_eq_false_iff] at h
  refine ⟨fun q => ?_, fun q => ?_⟩
  · rw [q.1, q.2.1, q.2.2.1, q.2.2.2] at h; simp at h
  · rw [q.1, q.2.1, q.2.2.1, q.2.2.2] at h; simp at h
theorem w_put_ok {T : tp_T} {nm : Nat → Nat} {W : wv_T} {k : Nat} (hW : wv_ok W) (h : p_link T nm W k = 0) : wv_ok (w_put W (p_lk T nm k W.1)) := by
  unfold p_link at h
  split at h
  · exact absurd h (p_ft_ne (by decide))
  · rename_i h24
    obtain ⟨h5, -⟩ := fo_0.mp h
    unfold p_l5 at h5
    simp only [fo_0] at h5
    obtain ⟨⟨⟨⟨f1, f2⟩, f3⟩, f4⟩, f5⟩ := h5
    obtain ⟨w1, w2, w3, w4⟩ := hW
    obtain ⟨t1, t2⟩ := p_told_0 (p_ovf_0.mp f5).2
    have b1 := (p_nmf_0.mp f1).2
    have b2 := (p_nmf_0.mp f2).2
    obtain ⟨b3, b3'⟩ := p_awv_b f3
    obtain ⟨b4, b4'⟩ := p_awv_b f4
    refine ⟨w1, by show W.2.1 + 1 ≤ 24; omega, fun i hi => ?_, fun i j hij hj => ?_⟩
    · have hi' : i < W.2.1 + 1 := hi
      by_cases e : i = W.2.1
      · simp only [w_put, if_pos e, p_lk]
        exact ⟨b1, b2, b3, b3', b4, b4', t1⟩
      · simp only [w_put, if_neg e]
        exact w3 i (by omega)
    · have hj' : j < W.2.1 + 1 := hj
      have e1 : i ≠ W.2.1 := by omega
      simp only [w_put, if_neg e1]
      by_cases e : j = W.2.1
      · simp only [if_pos e, p_lk]
        exact p_sm_0 (t2 i (by omega))
      · simp only [if_neg e]
        exact w4 i j hij (by omega)
theorem p_R_ok {T : tp_T} : ∀ f k nm W, wv_ok W → W.2.1 = 0 → wv_ok (p_R T f k nm W).2.2.2 ∧ (p_R T f k nm W).2.2.2.2.1 = 0 := by
  intro f
  induction f with
  | zero => intro k nm W h h0; exact ⟨h, h0⟩
  | succ f ih =>
    intro k nm W h h0
    unfold p_R
    split
    · split
      · rename_i hr
        refine ih _ _ _ ?_ h0
        obtain ⟨w1, w2, w3, w4⟩ := h
        have : W.1 ≠ 4 := fun e => by unfold p_ring at hr; rw [if_pos e] at hr; exact p_ft_ne (by decide) hr
        refine ⟨by show W.1 + 1 ≤ 4; omega, w2, fun i hi => ?_, fun i j hij hj => ?_⟩
        · have : i < W.2.1 := hi; omega
        · have : j < W.2.1 := hj; omega
      · exact ⟨h, h0⟩
    · exact ⟨h, h0⟩
theorem p_L_ok {T : tp_T} {nm : Nat → Nat} : ∀ f k W, wv_ok W → wv_ok (p_L T nm f k W).2.2 := by
  intro f
  induction f with
  | zero => intro k W h; exact h
  | succ f ih =>
    intro k W h
    unfold p_L
    split
    · split
      · rename_i hr
        exact ih _ _ (w_put_ok h hr)
      · exact h
    · exact h
theorem w_0_ok : wv_ok w_0 := ⟨by decide, by decide, fun i hi => absurd hi (Nat.not_lt_zero i), fun i j _ hj => absurd hj (Nat.not_lt_zero j)⟩
theorem p_all_ok (T : tp_T) : wv_ok (p_all T).2 := by
  unfold p_all
  split
  · simp only
    split
    · exact p_L_ok _ _ _ (p_R_ok _ _ _ _ w_0_ok rfl).1
    · exact w_0_ok
  · exact w_0_ok
/-! ===== the class's reader ===== -/
section READER
variable {l : Launch} {g : am_G} {d : Nat} {x : Bool} {h : am_H} {T : tp_T}
abbrev c_rd (v : Int32) : am_C := am_O 4 [.ref 4, .ref 5, .int v]
/-- the reader at token k, with this fault (if any), these names -/
def RX (h : am_H) (T : tp_T) (k F : Nat) (nm : Nat → Nat) (r : Nat) : Prop := TC h T ∧ h[3]? = some (c_rd (nI F)) ∧ F < 20000 ∧ (∃ k', TK h T (t_s T k') ∧ (F = 0 → k' = k)) ∧ ∃ f, h[5]? = some (am_L 4 f) ∧ ∀ i, i < r → f i = lN (t_v T (nm i)) ∧ t_k T (nm i) = 1 ∧ nm i < T.1
theorem RX.fr {k F : Nat} {nm : Nat → Nat} {r : Nat} {h' : am_H} (hR : RX h T k F nm r) (hf : ∀ i, 1 ≤ i → i ≤ 5 → h'[i]? = h[i]?) : RX h' T k F nm r := by
  obtain ⟨a, b, c, ⟨k', e1, e2⟩, f, g1, g2⟩ := hR
  exact ⟨a.fr (hf 1 (by decide) (by decide)) (hf 2 (by decide) (by decide)), (hf 3 (by decide) (by decide)).trans b, c, ⟨k', e1.fr (hf 4 (by decide) (by decide)), e2⟩, f, (hf 5 (by decide) (by decide)).trans g1, g2⟩
theorem RX.lt {k F : Nat} {nm : Nat → Nat} {r r' : Nat} (hR : RX h T k F nm r) (hr : r' ≤ r) : RX h T k F nm r' := by
  obtain ⟨a, b, c, e, f, g1, g2⟩ := hR
  exact ⟨a, b, c, e, f, g1, fun i hi => g2 i (by omega)⟩
theorem RX.bad {k F k2 : Nat} {nm nm' : Nat → Nat} {r : Nat} (hR : RX h T k F nm r) (hF : F ≠ 0) : RX h T k2 F nm' 0 := by
  obtain ⟨a, b, c, ⟨k', e1, e2⟩, f, g1, g2⟩ := hR
  exact ⟨a, b, c, ⟨k', e1, fun z => absurd z hF⟩, f, g1, fun i hi => absurd hi (Nat.not_lt_zero i)⟩
theorem RX.tk {k : Nat} {nm : Nat → Nat} {r : Nat} (hR : RX h T k 0 nm r) : TK h T (t_s T k) := by
  obtain ⟨a, b, c, ⟨k', e1, e2⟩, f, g1, g2⟩ := hR
  rw [← e2 rfl]; exact e1
theorem RX.any {k F : Nat} {nm : Nat → Nat} {r : Nat} (hR : RX h T k F nm r) : ∃ k', TK h T (t_s T k') := by
  obtain ⟨a, b, c, ⟨k', e1, e2⟩, f, g1, g2⟩ := hR
  exact ⟨k', e1⟩
theorem RX.c4 {k F : Nat} {nm : Nat → Nat} {r : Nat} (hR : RX h T k F nm r) : ∃ fs, h[4]? = some (am_O 6 fs) := by
  obtain ⟨k', v, a, -⟩ := hR.any
  exact ⟨_, a⟩
variable {k F r : Nat} {nm : Nat → Nat}
theorem sp_isWord {w : Nat} {v : Int64} {K : Int32 → am_H → Prop} (hk : tp_ok T) (hR : RX h T k 0 nm r) (hw : w < 4) (hv : v = lN (t_k256 w)) (hK : K (bi (isW T k w)) h) : cl_I l g mX4_isWord (d + 1) x [.ref 3, .long v] h K := by
  subst hv
  refine eX4_isWord (gtR hR.2.1 rfl ⟨hR.c4, ?_⟩)
  have hb : t_k256 w < 2 ^ 63 := by
    have : ∀ w, w < 4 → t_k256 w < 2 ^ 63 := by decide
    exact this w hw
  exact sp_is (kd := 1) hk (t_s_le T k) hR.tk (Or.inl rfl) hb ⟨bi_01 _, _, rfl, hK⟩
theorem sp_isName {K : Int32 → am_H → Prop} (hk : tp_ok T) (hR : RX h T k 0 nm r) (hK : K (bi (isnm T k)) h) : cl_I l g mX4_isName (d + 2) x [.ref 3] h K := by
  obtain ⟨v, q4, -⟩ := hR.tk
  have hle := t_k_le T (t_s T k)
  have e1 : nI (t_k T (t_s T k)) = 1 ↔ t_k T (t_s T k) = 1 := nI_eq (b := 1) (by omega) (by decide)
  unfold isnm at hK
  refine eX4_isName (gtR hR.2.1 rfl (gtI q4 rfl ⟨fun z => ?_, fun z => ⟨⟨_, hR.2.1⟩, ?_⟩⟩))
  · rw [e1] at z
    rw [show decide (t_k T (t_s T k) = 1) = false by simpa using z] at hK
    exact ⟨_, rfl, hK⟩
  · rw [e1] at z
    rw [show decide (t_k T (t_s T k) = 1) = true by simpa using z, Bool.true_and] at hK
    refine sp_isWord (w := 0) hk hR (by decide) rfl ⟨fun y => ?_, fun y => ⟨⟨_, hR.2.1⟩, ?_⟩⟩
    · rw [bi_n0.mp y] at hK; exact ⟨_, rfl, hK⟩
    · rw [bi_0.mp y] at hK
      refine sp_isWord (w := 1) hk hR (by decide) rfl ⟨fun y => ?_, fun y => ⟨⟨_, hR.2.1⟩, ?_⟩⟩
      · rw [bi_n0.mp y] at hK; exact ⟨_, rfl, hK⟩
      · rw [bi_0.mp y] at hK
        refine sp_isWord (w := 2) hk hR (by decide) rfl ⟨fun y => ?_, fun y => ⟨⟨_, hR.2.1⟩, ?_⟩⟩
        · rw [bi_n0.mp y] at hK; exact ⟨_, rfl, hK⟩
        · rw [bi_0.mp y] at hK
          refine sp_isWord (w := 3) hk hR (by decide) rfl ⟨fun y => ?_, fun y => ?_⟩
          · rw [bi_n0.mp y] at hK; exact ⟨_, rfl, hK⟩
          · rw [bi_0.mp y] at hK; exact ⟨_, rfl, hK⟩
theorem isnm_w (h : isnm T k = true) : t_k T (t_s T k) = 1 := by
  unfold isnm at h
  simp only [Bool.and_eq_true, decide_eq_true_eq] at h
  exact h.1.1.1.1
theorem t_k_in {s : Nat} (h : t_k T s ≠ 0) : s < T.1 := by
  rcases Nat.lt_or_ge s T.1 with q | q
  · exact q
  · exact absurd (t_k_0.mpr (by omega)) h
def fi (f r : Nat) : Int32 := if f < r then nI f else -1
theorem sp_ringOfName {q : Nat} {lk : Int32} {K : Int32 → am_H → Prop} (hk : tp_ok T) (hR : RX h T k 0 nm r) (hn : isnm T k = true) (hr : r ≤ 4) (hq : h[q]? = some (c_wv q (nI r) lk)) (hK : K (fi (p_find T nm k r) r) h) : cl_I l g mX4_ringOfName d x [.ref 3, .ref q] h K := by
  have hkk := isnm_w hn
  obtain ⟨v, q4, hv⟩ := hR.tk
  have hv' := hv (by omega) (by omega)
  subst hv'
  obtain ⟨f, q5, hf⟩ := hR.2.2.2.2
  have hb := (t_v_lt hk (t_k_in (T := T) (s := t_s T k) (by omega))).1
  refine eX4_ringOfName ?_
  have main : ∀ n c, c + n = r → (∀ i, i < c → t_v T (nm i) ≠ t_v T (t_s T k)) → am_J l g mX4_ringOfName d (0, 0, x) 2 [(0, .ref 3), (1, .ref q), (2, .int (nI c))] [] h (fun r h' => ∃ v, r = some (.int v) ∧ K v h') := by
    intro n
    induction n with
    | zero =>
      intro c hc hno
      have : c = r := by omega
      subst this
      refine rX4_ringOfName_2 (gtI hq rfl ⟨fun _ => ⟨_, rfl, ?_⟩, fun z => absurd (nI_le (Nat.le_refl _) (by omega)) z⟩)
      have : ¬ p_find T nm k c < c := fun z => by
        have := fa_first_yes (fun i => decide (t_v T (nm i) = t_v T (t_s T k))) c z
        exact hno _ z (of_decide_eq_true this)
      unfold fi at hK
      rw [if_neg this] at hK
      exact hK
    | succ n ih =>
      intro c hc hno
      obtain ⟨f1, f2, f3⟩ := hf c (by omega)
      have e2 := fb_lN_inj (t_v_lt hk f3).1 hb
      refine rX4_ringOfName_2 (gtI hq rfl ⟨fun z => absurd ((nI_leI (by omega) (by omega)).mp z) (by omega), fun _ => gtR hR.2.1 rfl (alL q5 (by omega) (by omega) (gtR hR.2.1 rfl (gtL q4 rfl ?_)))⟩)
      rw [f1]
      refine ⟨fun z => ?_, fun z => ⟨_, rfl, ?_⟩⟩
      · rw [lg_eq, e2] at z
        rw [nI_1]
        refine ih (c + 1) (by omega) (fun i hi => ?_)
        by_cases e : i = c
        · rw [e]; exact z
        · exact hno i (by omega)
      · rw [lg_eq, e2] at z
        have e3 : p_find T nm k r = c := by
          have h1 : ¬ c < p_find T nm k r := fun y => by
            have := fa_first_no (fun i => decide (t_v T (nm i) = t_v T (t_s T k))) r c y
            simp [z] at this
          rcases Nat.lt_or_ge (p_find T nm k r) c with y | y
          · have := fa_first_yes (fun i => decide (t_v T (nm i) = t_v T (t_s T k))) r (by show p_find T nm k r < r; omega)
            exact absurd (of_decide_eq_true this) (hno _ y)
          · omega
        unfold fi at hK
        rw [e3, if_pos (by omega)] at hK
        exact hK
  exact main r 0 (by omega) (fun i hi => by omega)
theorem sp_fail {w : Nat} {K : am_H → Prop} (hk : tp_ok T) (hR : RX h T k 0 nm r) (hw : 0 < w) (hw7 : w < 7) (hK : ∀ h', RX h' T k (p_ft T w k) nm r → TK h' T (t_s T k) → Fr 3 3 h h' → K h') : cl_N l g mX4_failWith d x [.ref 3, .int (nI w)] h K := by
  obtain ⟨v, q4, hv⟩ := hR.tk
  obtain ⟨a, b, c, -, f, g1, g2⟩ := id hR
  refine eX4_failWith (gtR b rfl (gtI q4 rfl (ptV b (Nat.le_of_ble_eq_true rfl) ⟨rfl, ?_⟩)))
  have e : nI w + (16 : Int32) * nI (t_s T k) = nI (p_ft T w k) := by
    unfold p_ft
    rw [show (16 : Int32) = nI 16 from rfl, pk_mul, nI_add]
  rw [e]
  have tk : TK (h.set 3 (c_rd (nI (p_ft T w k)))) T (t_s T k) := hR.tk.fr (st_ne (by decide))
  exact hK _ ⟨a.fr (st_ne (by decide)) (st_ne (by decide)), st_eq b, p_ft_lt hk hw7, ⟨k, tk, fun _ => rfl⟩, f, (st_ne (by decide)).trans g1, g2⟩ tk (Fr.rf.st (by decide))
/-- one token on -/
theorem sp_on {K : am_H → Prop} (hk : tp_ok T) (hR : RX h T k F nm r) (ht : TK h T (t_s T k)) (hK : ∀ h', RX h' T (k + 1) F nm r → Fr 3 5 h h' → K h') : cl_N l g mX6_step (d + 2) x [.ref 4] h K := by
  obtain ⟨a, b, c, -, f, g1, g2⟩ := id hR
  refine sp_next1 a hk ht fun h' t2 hf => hK h' ⟨a.fr (hf 1 (by decide)) (hf 2 (by decide)), (hf 3 (by decide)).trans b, c, ⟨k + 1, t2, fun _ => rfl⟩, f, (hf 5 (by decide)).trans g1, g2⟩ (hf.mono (by omega) (by omega))
theorem fo_z (b : Nat) : fo 0 b = b := if_pos rfl
theorem fo_n {a b : Nat} (h : a ≠ 0) : fo a b = a := if_neg h
theorem sp_semi {K : am_H → Prop} (hk : tp_ok T) (hR : RX h T k F nm r) (hK : ∀ h', RX h' T (k + 1) (fo F (p_sc T k)) nm r → Fr 3 5 h h' → K h') : cl_N l g mX4_passSemicolon (d + 3) x [.ref 3] h K := by
  have hF := hR.2.2.1
  refine eX4_passSemicolon (gtI hR.2.1 rfl ⟨fun z => ?_, fun z => ⟨rfl, ?_⟩⟩)
  · have hF0 : F = 0 := (nI_eq (b := 0) (by omega) (by decide)).mp z
    subst hF0
    rw [fo_z] at hK
    refine gtR hR.2.1 rfl ⟨hR.c4, sp_is (kd := 3) (w := 59) hk (t_s_le T k) hR.tk (Or.inr rfl) (by decide) ⟨fun y => ?_, fun y => ⟨⟨_, hR.2.1⟩, ?_⟩⟩⟩
    · have e : p_sc T k = 0 := by unfold p_sc isSg; rw [if_pos (bi_n0.mp y)]
      rw [e] at hK
      exact gtR hR.2.1 rfl ⟨hR.c4, sp_on hk hR hR.tk fun h' a b => ⟨rfl, hK h' a b⟩⟩
    · have e : p_sc T k = p_ft T 1 k := by unfold p_sc isSg; rw [bi_0.mp y]; rfl
      rw [e] at hK
      refine sp_fail (w := 1) hk hR (by decide) (by decide) fun h1 a1 t1 f1 => ?_
      exact gtR a1.2.1 rfl ⟨a1.c4, sp_on hk a1 t1 fun h' a b => ⟨rfl, hK h' a ((f1.mono (by omega) (by omega)).tr b)⟩⟩
  · have hF0 : F ≠ 0 := fun e => z (by rw [e]; rfl)
    rw [fo_n hF0] at hK
    obtain ⟨a, b, c, ⟨k', e1, e2⟩, f, g1, g2⟩ := hR
    exact hK h ⟨a, b, c, ⟨k', e1, fun z => absurd z hF0⟩, f, g1, g2⟩ Fr.rf
theorem sp_rdName {q : Nat} {lk : Int32} {K : Int32 → am_H → Prop} (hk : tp_ok T) (hR : RX h T k F nm r) (hr : r ≤ 4) (hq34 : 34 ≤ q) (hq : h[q]? = some (c_wv q (nI r) lk)) (hK : ∀ v h', RX h' T (k + 1) (fo F (p_nmf T nm k r)) nm r → (fo F (p_nmf T nm k r) = 0 → v = nI (p_find T nm k r)) → Fr 3 5 h h' → K v h') : cl_I l g mX4_readToldName (d + 3) x [.ref 3, .ref q] h K := by
  have hF := hR.2.2.1
  refine eX4_readToldName (gtI hR.2.1 rfl ⟨fun z => ⟨⟨_, hR.2.1⟩, ?_⟩, fun z => ⟨_, rfl, ?_⟩⟩)
  · have hF0 : F = 0 := (nI_eq (b := 0) (by omega) (by decide)).mp z
    subst hF0
    rw [fo_z] at hK
    refine sp_isName hk hR ⟨fun y => ⟨⟨_, hR.2.1⟩, ?_⟩, fun y => ⟨⟨_, hR.2.1⟩, ?_⟩⟩
    · have hn := bi_n0.mp y
      refine sp_ringOfName hk hR hn hr hq ⟨fun w => ?_, fun w => ⟨⟨_, hR.2.1⟩, ?_⟩⟩
      · have hlt : p_find T nm k r < r := by
          unfold fi at w
          by_cases c : p_find T nm k r < r
          · exact c
          · rw [if_neg c] at w; exact absurd rfl w
        have e : p_nmf T nm k r = 0 := p_nmf_0.mpr ⟨hn, hlt⟩
        rw [e] at hK
        refine gtR hR.2.1 rfl ⟨hR.c4, sp_on hk hR hR.tk fun h' a b => ⟨_, rfl, hK _ h' a (fun _ => ?_) b⟩⟩
        unfold fi
        rw [if_pos hlt]
      · have hlt : ¬ p_find T nm k r < r := fun c => by
          unfold fi at w
          rw [if_pos c] at w
          exact n1_ne (by omega) w
        have e : p_nmf T nm k r = p_ft T 2 k := by unfold p_nmf; rw [if_neg (by rw [hn]; decide), if_neg hlt]
        rw [e] at hK
        refine sp_fail (w := 2) hk hR (by decide) (by decide) fun h1 a1 t1 f1 => ?_
        exact gtR a1.2.1 rfl ⟨a1.c4, sp_on hk a1 t1 fun h' a b => ⟨_, rfl, hK _ h' a (fun c => absurd c (p_ft_ne (by decide))) ((f1.mono (by omega) (by omega)).tr b)⟩⟩
    · have hn := bi_0.mp y
      have e : p_nmf T nm k r = p_ft T 1 k := by unfold p_nmf; rw [if_pos hn]
      rw [e] at hK
      refine sp_fail (w := 1) hk hR (by decide) (by decide) fun h1 a1 t1 f1 => ?_
      exact gtR a1.2.1 rfl ⟨a1.c4, sp_on hk a1 t1 fun h' a b => ⟨_, rfl, hK _ h' a (fun c => absurd c (p_ft_ne (by decide))) ((f1.mono (by omega) (by omega)).tr b)⟩⟩
  · have hF0 : F ≠ 0 := fun e => z (by rw [e]; rfl)
    rw [fo_n hF0] at hK
    obtain ⟨a, b, c, ⟨k', e1, e2⟩, f, g1, g2⟩ := hR
    exact hK _ h ⟨a, b, c, ⟨k', e1, fun z => absurd z hF0⟩, f, g1, g2⟩ (fun z => absurd z hF0) Fr.rf
theorem sp_away46 {b0 : Bool} {K : Int32 → am_H → Prop} (hk : tp_ok T) (hR : RX h T k 0 nm r)
    (hK : ∀ v h', RX h' T (k + 1) (if t_k T (t_s T k) = 2 then (if t_v T (t_s T k) ≤ 9 then 0 else p_ft T 4 k) else p_ft T 1 k) nm r → (t_k T (t_s T k) = 2 → t_v T (t_s T k) ≤ 9 → v = Int32.ofInt (if b0 then -(t_v T (t_s T k) : Int) else (t_v T (t_s T k) : Int))) → Fr 3 5 h h' → K v h') :
    zX4_readAway_46 l g (d + 2) x 3 (bi b0) h (fun r h' => ∃ v, r = some (.int v) ∧ K v h') := by
  obtain ⟨v, q4, hv⟩ := hR.tk
  have hle := t_k_le T (t_s T k)
  have e1 : nI (t_k T (t_s T k)) = 2 ↔ t_k T (t_s T k) = 2 := nI_eq (b := 2) (by omega) (by decide)
  have fin : ∀ (h1 : am_H) (F : Nat), RX h1 T k F nm r → TK h1 T (t_s T k) → Fr 3 5 h h1 → h1[4]? = h[4]? → F = (if t_k T (t_s T k) = 2 then (if t_v T (t_s T k) ≤ 9 then 0 else p_ft T 4 k) else p_ft T 1 k) → zX4_readAway_84 l g (d + 2) x 3 (bi b0) h1 (fun r h' => ∃ v, r = some (.int v) ∧ K v h') := by
    intro h1 F a1 t1 f1 e4 eF
    have p4 := e4.trans q4
    refine gtR a1.2.1 rfl (gtL p4 rfl (gtR a1.2.1 rfl ⟨a1.c4, sp_on hk a1 t1 fun h' a b => ⟨fun z => ⟨_, rfl, ?_⟩, fun z => ⟨_, rfl, ?_⟩⟩⟩))
    · refine hK _ h' (by rw [← eF]; exact a) (fun k2 h9 => ?_) (f1.tr b)
      rw [hv (by omega) (by omega), lN_i, bi_0.mp z]
      rfl
    · refine hK _ h' (by rw [← eF]; exact a) (fun k2 h9 => ?_) (f1.tr b)
      rw [hv (by omega) (by omega), lN_i, bi_n0.mp z, if_pos rfl]
      exact oI_neg (t_v T (t_s T k) : Int)
  refine gtR hR.2.1 rfl (gtI q4 rfl ⟨fun z => gtR hR.2.1 rfl (gtL q4 rfl ?_), fun z => ⟨⟨_, hR.2.1⟩, ?_⟩⟩)
  · rw [e1] at z
    have hv' := hv (by omega) (by omega)
    have hb := (t_v_lt hk (t_k_in (T := T) (s := t_s T k) (by omega))).1
    have e9 := lg_leN (b := 9) hb (by decide)
    rw [hv']
    refine ⟨fun y => ?_, fun y => ⟨⟨_, hR.2.1⟩, ?_⟩⟩
    · exact fin h 0 hR hR.tk Fr.rf rfl (by rw [if_pos z, if_pos (e9.mp y)])
    · refine sp_fail (w := 4) hk hR (by decide) (by decide) fun h1 a1 t1 f1 => ?_
      exact fin h1 _ a1 t1 (f1.mono (by omega) (by omega)) (f1 4 (by decide)) (by rw [if_pos z, if_neg (fun c => y (e9.mpr c))])
  · rw [e1] at z
    refine sp_fail (w := 1) hk hR (by decide) (by decide) fun h1 a1 t1 f1 => ?_
    exact fin h1 _ a1 t1 (f1.mono (by omega) (by omega)) (f1 4 (by decide)) (by rw [if_neg z])
end READER
