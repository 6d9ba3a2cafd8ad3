/-! ===== what the weave tells, as a relation ===== -/
def tl1 (m : ml_T) (t : Nat) (f : Bool) (a b : Nat) : Bool := decide (a < m_sh m) && m_is m a t f && m_in m a t f && decide (m_oth m a t f = b) && decide (m_o m t = f)
theorem m_sx_n (m : ml_T) (t : Nat) (f : Bool) : m_sx m t (!f) = -m_sx m t f := by cases f <;> simp [m_sx]
theorem m_sy_n (m : ml_T) (t : Nat) (f : Bool) : m_sy m t (!f) = -m_sy m t f := by cases f <;> simp [m_sy]
theorem m_end_lt {m : ml_T} (hv : ml_g m) {t : Nat} (ht : t < m.1.2.1) (f : Bool) : m_end m t f < m.1.1 := by
  have := hv.1.2.2.1 t ht
  unfold m_end
  split
  · exact this.1
  · exact this.2.1
/-- the cell of a ring by the weave, and back -/
theorem m_back {m : ml_T} (hv : ml_g m) {t a : Nat} {f : Bool} (ht : t < m.1.2.1) (ha : a < m_sh m) (h1 : m_is m a t f = true) (h2 : m_in m a t f = true) : m_is m (m_oth m a t f) t (!f) = true ∧ m_in m (m_oth m a t f) t (!f) = true ∧ m_oth m (m_oth m a t f) t (!f) = a ∧ m_cx m a t f = ((m_oth m a t f / m.1.1 % m.2.1 : Nat) : Int) ∧ m_cy m a t f = ((m_oth m a t f / m.1.1 / m.2.1 : Nat) : Int) := by
  have he := m_end_lt hv ht (!f)
  have he2 := m_end_lt hv ht f
  simp only [m_is, decide_eq_true_eq] at h1
  simp only [m_in, Bool.and_eq_true, decide_eq_true_eq] at h2
  obtain ⟨⟨⟨i1, i2⟩, i3⟩, i4⟩ := h2
  have hR : 0 < m.1.1 := by omega
  have hC : 0 < m.2.1 := by
    rcases Nat.eq_zero_or_pos m.2.1 with z | z
    · unfold m_sh at ha; rw [z] at ha; simp at ha
    · exact z
  obtain ⟨cx, ex⟩ := Int.eq_ofNat_of_zero_le i1
  obtain ⟨cy, ey⟩ := Int.eq_ofNat_of_zero_le i3
  have eo : m_oth m a t f = (cy * m.2.1 + cx) * m.1.1 + m_end m t (!f) := by unfold m_oth; rw [ex, ey]; rfl
  have cxl : cx < m.2.1 := by rw [ex] at i2; omega
  have cyl : cy < m.2.2.1 := by rw [ey] at i4; omega
  have q1 : m_oth m a t f / m.1.1 = cy * m.2.1 + cx := by
    rw [eo, Nat.mul_comm, Nat.mul_add_div hR, Nat.div_eq_of_lt he]; omega
  have q2 : m_oth m a t f % m.1.1 = m_end m t (!f) := by
    rw [eo, Nat.mul_comm, Nat.mul_add_mod, Nat.mod_eq_of_lt he]
  have q3 : (cy * m.2.1 + cx) % m.2.1 = cx := by
    rw [Nat.mul_comm, Nat.mul_add_mod, Nat.mod_eq_of_lt cxl]
  have q4 : (cy * m.2.1 + cx) / m.2.1 = cy := by
    rw [Nat.mul_comm, Nat.mul_add_div hC, Nat.div_eq_of_lt cxl]; omega
  have c1 : m_cx m (m_oth m a t f) t (!f) = ((a / m.1.1 % m.2.1 : Nat) : Int) := by
    unfold m_cx at ex ⊢
    rw [q1, q3, m_sx_n]; omega
  have c2 : m_cy m (m_oth m a t f) t (!f) = ((a / m.1.1 / m.2.1 : Nat) : Int) := by
    unfold m_cy at ey ⊢
    rw [q1, q4, m_sy_n]; omega
  have l1 : a / m.1.1 % m.2.1 < m.2.1 := Nat.mod_lt _ hC
  have l2 : a / m.1.1 / m.2.1 < m.2.2.1 := by
    rw [Nat.div_div_eq_div_mul]
    apply (Nat.div_lt_iff_lt_mul (Nat.mul_pos hR hC)).mpr
    unfold m_sh at ha
    have : m.2.1 * m.2.2.1 * m.1.1 = m.2.2.1 * (m.1.1 * m.2.1) := by
      rw [Nat.mul_comm m.2.1 m.2.2.1, Nat.mul_assoc, Nat.mul_comm m.2.1 m.1.1]
    omega
  refine ⟨?_, ?_, ?_, ?_, ?_⟩
  · exact decide_eq_true q2
  · simp only [m_in, c1, c2, Bool.and_eq_true, decide_eq_true_eq]
    refine ⟨⟨⟨Int.natCast_nonneg _, ?_⟩, Int.natCast_nonneg _⟩, ?_⟩
    · exact Int.ofNat_lt.mpr l1
    · exact Int.ofNat_lt.mpr l2
  · have : m_oth m (m_oth m a t f) t (!f) = (a / m.1.1 / m.2.1 * m.2.1 + a / m.1.1 % m.2.1) * m.1.1 + m_end m t f := by
      show ((m_cy m (m_oth m a t f) t (!f)).toNat * m.2.1 + (m_cx m (m_oth m a t f) t (!f)).toNat) * m.1.1 + m_end m t (!!f) = _
      rw [c1, c2, Bool.not_not, Int.toNat_natCast, Int.toNat_natCast]
    rw [this, Nat.div_add_mod' (a / m.1.1) m.2.1, ← h1, Nat.div_add_mod' a m.1.1]
  · rw [q1, q3, ex]
  · rw [q1, q4, ey]
theorem tl1_spec {m : ml_T} {t : Nat} {f : Bool} {a b : Nat} (h : tl1 m t f a b = true) : a < m_sh m ∧ m_is m a t f = true ∧ m_in m a t f = true ∧ m_oth m a t f = b ∧ m_o m t = f := by
  simp only [tl1, Bool.and_eq_true, decide_eq_true_eq] at h
  exact ⟨h.1.1.1.1, h.1.1.1.2, h.1.1.2, h.1.2, h.2⟩
theorem tl1_intro {m : ml_T} {t : Nat} {f : Bool} {a b : Nat} (h1 : a < m_sh m) (h2 : m_is m a t f = true) (h3 : m_in m a t f = true) (h4 : m_oth m a t f = b) (h5 : m_o m t = f) : tl1 m t f a b = true := by
  simp only [tl1, Bool.and_eq_true, decide_eq_true_eq]
  exact ⟨⟨⟨⟨h1, h2⟩, h3⟩, h4⟩, h5⟩
/-- told by the first n links: a goes over b -/
def tl_n (m : ml_T) : Nat → Nat → Nat → Bool
  | 0, _, _ => false
  | n + 1, a, b => tl_n m n a b || (tl1 m n true a b || tl1 m n false a b)
theorem tl_n_iff {m : ml_T} {a b : Nat} : ∀ n, tl_n m n a b = true ↔ ∃ t f, t < n ∧ tl1 m t f a b = true := by
  intro n
  induction n with
  | zero => simp [tl_n]
  | succ n ih =>
    simp only [tl_n, Bool.or_eq_true, ih]
    constructor
    · rintro (⟨t, f, h1, h2⟩ | h | h)
      · exact ⟨t, f, by omega, h2⟩
      · exact ⟨n, true, by omega, h⟩
      · exact ⟨n, false, by omega, h⟩
    · rintro ⟨t, f, h1, h2⟩
      by_cases e : t = n
      · subst e
        cases f
        · exact Or.inr (Or.inr h2)
        · exact Or.inr (Or.inl h2)
      · exact Or.inl ⟨t, f, by omega, h2⟩
def tl (m : ml_T) (a b : Nat) : Bool := tl_n m m.1.2.1 a b
theorem tl_lt {m : ml_T} (hv : ml_g m) {a b : Nat} (h : tl m a b = true) : a < m_sh m ∧ b < m_sh m := by
  obtain ⟨t, f, ht, h⟩ := (tl_n_iff _).mp h
  obtain ⟨h1, h2, h3, h4, h5⟩ := tl1_spec h
  exact ⟨h1, by rw [← h4]; exact m_oth_lt hv ht h3⟩
/-- a ring isn't linked with itself; no two go over each other -/
theorem tl_anti {m : ml_T} (hv : ml_g m) {a b : Nat} (h : tl m a b = true) : a ≠ b ∧ tl m b a = false := by
  have key : ∀ t f t' f', t < m.1.2.1 → t' < m.1.2.1 → tl1 m t f a b = true → tl1 m t' f' b a = true → False := by
    intro t f t' f' ht ht' h1 h2
    obtain ⟨a1, a2, a3, a4, a5⟩ := tl1_spec h1
    obtain ⟨b1, b2, b3, b4, b5⟩ := tl1_spec h2
    obtain ⟨-, -, -, c1, c2⟩ := m_back hv ht a1 a2 a3
    obtain ⟨p1, p2, -, d1, d2⟩ := m_back hv ht' b1 b2 b3
    obtain ⟨o1, o2, -⟩ := m_back hv ht a1 a2 a3
    rw [a4] at c1 c2 o1
    rw [b4] at d1 d2 p1
    simp only [m_is, decide_eq_true_eq] at a2 b2 o1 p1
    unfold m_cx at c1 d1
    unfold m_cy at c2 d2
    have s1 : m_sx m t' f' = -m_sx m t f := by omega
    have s2 : m_sy m t' f' = -m_sy m t f := by omega
    have e1 : m_end m t f = m_end m t' (!f') := by rw [← a2, ← p1]
    have e2 : m_end m t (!f) = m_end m t' f' := by rw [← b2, ← o1]
    have w1 := hv.1.2.2.1 t ht
    by_cases ett : t = t'
    · subst ett
      have : f = f' := a5.symm.trans b5
      subst this
      cases f
      · simp only [m_sx, m_sy, m_end, Bool.not_false, if_true] at *
        simp at *
        omega
      · simp only [m_sx, m_sy, m_end, Bool.not_true] at *
        simp at *
        omega
    · have hu : ∀ j k, j < k → k < m.1.2.1 → _ := hv.1.2.2.2
      rcases Nat.lt_or_gt_of_ne ett with hlt | hlt
      · obtain ⟨u1, u2⟩ := hu t t' hlt ht'
        cases f <;> cases f' <;> simp [m_sx, m_sy, m_end] at s1 s2 e1 e2
        · exact u2 ⟨by omega, by omega, by omega, by omega⟩
        · exact u1 ⟨by omega, by omega, by omega, by omega⟩
        · exact u1 ⟨by omega, by omega, by omega, by omega⟩
        · exact u2 ⟨by omega, by omega, by omega, by omega⟩
      · obtain ⟨u1, u2⟩ := hu t' t hlt ht
        cases f <;> cases f' <;> simp [m_sx, m_sy, m_end] at s1 s2 e1 e2
        · exact u2 ⟨by omega, by omega, by omega, by omega⟩
        · exact u1 ⟨by omega, by omega, by omega, by omega⟩
        · exact u1 ⟨by omega, by omega, by omega, by omega⟩
        · exact u2 ⟨by omega, by omega, by omega, by omega⟩
  obtain ⟨t, f, ht, h1⟩ := (tl_n_iff _).mp h
  refine ⟨?_, ?_⟩
  · intro e
    subst e
    exact key t f t f ht ht h1 h1
  · cases hb : tl m b a with
    | false => rfl
    | true =>
      obtain ⟨t', f', ht', h2⟩ := (tl_n_iff _).mp hb
      exact (key t f t' f' ht ht' h1 h2).elim
