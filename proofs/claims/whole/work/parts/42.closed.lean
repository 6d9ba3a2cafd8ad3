theorem j1_ov {m : ml_T} {r t : Nat} {f : Bool} (a b : Nat) : m_ov (m_j1 m r t f) a b = true ↔ m_ov m a b = true ∨ (m_is m r t f = true ∧ m_in m r t f = true ∧ m_th m (m_oth m r t f) = true ∧ ((m_o m t = f ∧ a = r ∧ b = m_oth m r t f) ∨ (¬ m_o m t = f ∧ a = m_oth m r t f ∧ b = r))) := by
  unfold m_j1
  by_cases hc : (m_is m r t f && m_in m r t f && m_th m (m_oth m r t f)) = true
  · rw [if_pos hc]
    simp only [Bool.and_eq_true] at hc
    by_cases ho : m_o m t = f
    · rw [if_pos ho]
      show (if a = r ∧ b = m_oth m r t f then true else m_ov m a b) = true ↔ _
      by_cases e : a = r ∧ b = m_oth m r t f
      · rw [if_pos e]; exact ⟨fun _ => Or.inr ⟨hc.1.1, hc.1.2, hc.2, Or.inl ⟨ho, e⟩⟩, fun _ => rfl⟩
      · rw [if_neg e]
        refine ⟨fun h => Or.inl h, fun h => ?_⟩
        rcases h with h | ⟨-, -, -, h | h⟩
        · exact h
        · exact absurd h.2 e
        · exact absurd ho h.1
    · rw [if_neg ho]
      show (if a = m_oth m r t f ∧ b = r then true else m_ov m a b) = true ↔ _
      by_cases e : a = m_oth m r t f ∧ b = r
      · rw [if_pos e]; exact ⟨fun _ => Or.inr ⟨hc.1.1, hc.1.2, hc.2, Or.inr ⟨ho, e⟩⟩, fun _ => rfl⟩
      · rw [if_neg e]
        refine ⟨fun h => Or.inl h, fun h => ?_⟩
        rcases h with h | ⟨-, -, -, h | h⟩
        · exact h
        · exact absurd h.1 ho
        · exact absurd h.2 e
  · rw [if_neg hc]
    refine ⟨fun h => Or.inl h, fun h => ?_⟩
    rcases h with h | ⟨h1, h2, h3, -⟩
    · exact h
    · exact absurd (by rw [h1, h2, h3]; rfl) hc
theorem m_eq.tlq {m m' : ml_T} (h : m_eq m m') (t : Nat) (f : Bool) (a b : Nat) : tl1 m' t f a b = tl1 m t f a b := by
  obtain ⟨h1, h2, h3, h4, h5⟩ := h.is a t f
  unfold tl1
  rw [h.sh, h1, h2, h3, h4]
/-- both ends of one link -/
theorem jj_ov {m : ml_T} (hv : ml_g m) {r t : Nat} (ht : t < m.1.2.1) (hr : r < m_sh m) (a b : Nat) : m_ov (m_j1 (m_j1 m r t true) r t false) a b = (m_ov m a b || ((tl1 m t true a b || tl1 m t false a b) && ((decide (a = r) && m_th m b) || (decide (b = r) && m_th m a)))) := by
  apply Bool.eq_iff_iff.mpr
  rw [j1_ov, j1_ov]
  obtain ⟨e1, e2, e3, e4, e5⟩ := (m_j1_eq m r t true).is r t false
  rw [e1, e2, e3, e4, e5]
  simp only [Bool.or_eq_true, Bool.and_eq_true, decide_eq_true_eq]
  have fwd : ∀ f, m_is m r t f = true → m_in m r t f = true → m_th m (m_oth m r t f) = true → ((m_o m t = f ∧ a = r ∧ b = m_oth m r t f) ∨ (¬ m_o m t = f ∧ a = m_oth m r t f ∧ b = r)) → (tl1 m t true a b = true ∨ tl1 m t false a b = true) ∧ ((a = r ∧ m_th m b = true) ∨ (b = r ∧ m_th m a = true)) := by
    intro f h1 h2 h3 h4
    rcases h4 with ⟨g1, rfl, rfl⟩ | ⟨g1, rfl, rfl⟩
    · have := tl1_intro hr h1 h2 rfl g1
      refine ⟨?_, Or.inl ⟨rfl, h3⟩⟩
      cases f
      · exact Or.inr this
      · exact Or.inl this
    · obtain ⟨k1, k2, k3, -⟩ := m_back hv ht hr h1 h2
      have := tl1_intro (m_oth_lt hv ht h2) k1 k2 k3 (show m_o m t = !f by revert g1; cases m_o m t <;> cases f <;> simp)
      refine ⟨?_, Or.inr ⟨rfl, h3⟩⟩
      cases f
      · exact Or.inl this
      · exact Or.inr this
  have bwd : ∀ f, tl1 m t f a b = true → ((a = r ∧ m_th m b = true) ∨ (b = r ∧ m_th m a = true)) → ∃ f', m_is m r t f' = true ∧ m_in m r t f' = true ∧ m_th m (m_oth m r t f') = true ∧ ((m_o m t = f' ∧ a = r ∧ b = m_oth m r t f') ∨ (¬ m_o m t = f' ∧ a = m_oth m r t f' ∧ b = r)) := by
    intro f h1 h2
    obtain ⟨a1, a2, a3, a4, a5⟩ := tl1_spec h1
    rcases h2 with ⟨rfl, h2⟩ | ⟨rfl, h2⟩
    · exact ⟨f, a2, a3, by rw [a4]; exact h2, Or.inl ⟨a5, rfl, a4.symm⟩⟩
    · obtain ⟨k1, k2, k3, -⟩ := m_back hv ht a1 a2 a3
      rw [a4] at k1 k2 k3
      exact ⟨!f, k1, k2, by rw [k3]; exact h2, Or.inr ⟨by rw [a5]; cases f <;> simp, k3.symm, rfl⟩⟩
  constructor
  · rintro ((h | ⟨h1, h2, h3, h4⟩) | ⟨h1, h2, h3, h4⟩)
    · exact Or.inl h
    · exact Or.inr (fwd true h1 h2 h3 h4)
    · exact Or.inr (fwd false h1 h2 h3 h4)
  · rintro (h | ⟨h1, h2⟩)
    · exact Or.inl (Or.inl h)
    · have : ∃ f, tl1 m t f a b = true := h1.elim (fun q => ⟨true, q⟩) (fun q => ⟨false, q⟩)
      obtain ⟨f, hf⟩ := this
      obtain ⟨f', q⟩ := bwd f hf h2
      cases f'
      · exact Or.inr q
      · exact Or.inl (Or.inr q)
theorem jt_ov {m : ml_T} (hv : ml_g m) {r : Nat} (hr : r < m_sh m) : ∀ n, n ≤ m.1.2.1 → ∀ a b, m_ov (m_jt m r n) a b = (m_ov m a b || (tl_n m n a b && ((decide (a = r) && m_th m b) || (decide (b = r) && m_th m a)))) := by
  intro n
  induction n with
  | zero => intro _ a b; simp [m_jt, tl_n]
  | succ n ih =>
    intro hn a b
    have he := m_jt_eq m r n
    show m_ov (m_j1 (m_j1 (m_jt m r n) r n true) r n false) a b = _
    rw [jj_ov (he.g hv) (by rw [he.1]; omega) (by rw [he.sh]; exact hr), ih (by omega), he.tlq, he.tlq, (he.is 0 0 true).2.2.2.2 a, (he.is 0 0 true).2.2.2.2 b]
    simp only [tl_n]
    cases m_ov m a b <;> cases tl_n m n a b <;> cases (tl1 m n true a b || tl1 m n false a b) <;> simp
theorem tl_eq {m m' : ml_T} (h : m_eq m m') (a b : Nat) : tl m' a b = tl m a b := by
  have key : ∀ n, tl_n m' n a b = tl_n m n a b := by
    intro n
    induction n with
    | zero => rfl
    | succ n ih => simp only [tl_n, ih, h.tlq]
  unfold tl
  rw [key, h.1]
theorem ja_ov {m : ml_T} (hv : ml_g m) {r : Nat} (hr : r < m_sh m) (a b : Nat) : m_ov (m_jt m r m.1.2.1) a b = (m_ov m a b || (tl m a b && ((decide (a = r) && m_th m b) || (decide (b = r) && m_th m a)))) := jt_ov hv hr _ (Nat.le_refl _) a b
/-- laid out: just what is told -/
theorem ly_ov {m : ml_T} (hv : ml_g m) (h0 : ∀ a b, m_ov m a b = false) (ht : ∀ i, i < m_sh m → m_th m i = true) : ∀ n, n ≤ m_sh m → ∀ a b, m_ov (m_ly m n) a b = (tl m a b && (decide (a < n) || decide (b < n))) := by
  intro n
  induction n with
  | zero => intro _ a b; show m_ov m a b = _; rw [h0]; simp
  | succ n ih =>
    intro hn a b
    have he := m_ly_eq m n
    have e1 : m.1.2.1 = (m_ly m n).1.2.1 := by rw [he.1]
    show m_ov (m_jt (m_ly m n) n m.1.2.1) a b = _
    rw [e1, ja_ov (he.g hv) (by rw [he.sh]; omega), ih (by omega), tl_eq he, (he.is 0 0 true).2.2.2.2 a, (he.is 0 0 true).2.2.2.2 b]
    cases hq : tl m a b with
    | false => simp
    | true =>
      obtain ⟨l1, l2⟩ := tl_lt hv hq
      rw [ht a l1, ht b l2]
      simp only [Bool.true_and, Bool.and_true]
      apply Bool.eq_iff_iff.mpr
      simp only [Bool.or_eq_true, decide_eq_true_eq]
      omega
theorem lay_ov {W : wv_T} {co ro : Nat} (hv : ml_g (m_0 W co ro)) (a b : Nat) : m_ov (m_ly (m_0 W co ro) (co * ro * W.1)) a b = tl (m_0 W co ro) a b := by
  have := ly_ov hv (fun _ _ => rfl) (fun i hi => decide_eq_true hi) (co * ro * W.1) (Nat.le_refl _) a b
  rw [this]
  cases hq : tl (m_0 W co ro) a b with
  | false => rfl
  | true =>
    have : a < co * ro * W.1 := (tl_lt hv hq).1
    simp [this]
theorem md_ov {m : ml_T} (hv : ml_g m) : ∀ n, n ≤ m_sh m → ∀ a b, m_ov (m_md m n) a b = (m_ov m a b || (tl m a b && ((decide (a < n) || m_th m a) && (decide (b < n) || m_th m b) && ((decide (a < n) && !m_th m a) || (decide (b < n) && !m_th m b))))) := by
  intro n
  induction n with
  | zero => intro _ a b; show m_ov m a b = _; simp
  | succ n ih =>
    intro hn a b
    obtain ⟨e1, e2, e3, e4, e5⟩ := m_md_g m n
    obtain ⟨hg, es⟩ := m_md_gg (m := m) (n := n) hv
    simp only [m_md]
    by_cases ht : m_th m n = true
    · rw [if_pos ht, ih (by omega)]
      have hx : ∀ i, (decide (i < n + 1) || m_th m i) = (decide (i < n) || m_th m i) := fun i => by
        by_cases e : i = n
        · subst e; rw [ht]; simp
        · have : (i < n + 1) ↔ (i < n) := by omega
          simp [this]
      have hy : ∀ i, (decide (i < n + 1) && !m_th m i) = (decide (i < n) && !m_th m i) := fun i => by
        by_cases e : i = n
        · subst e; rw [ht]; simp
        · have : (i < n + 1) ↔ (i < n) := by omega
          simp [this]
      rw [hx, hx, hy, hy]
    · have ht' : m_th m n = false := by cases hq : m_th m n <;> simp_all
      rw [if_neg ht]
      have hw : m.1.2.1 = (m_on (m_md m n) n).1.2.1 := by show _ = (m_md m n).1.2.1; rw [e1]
      rw [hw, ja_ov (m := m_on (m_md m n) n) hg (by show n < m_sh (m_md m n); omega)]
      show (m_ov (m_md m n) a b || (tl (m_on (m_md m n) n) a b && ((decide (a = n) && (if b = n then true else m_th (m_md m n) b)) || (decide (b = n) && (if a = n then true else m_th (m_md m n) a))))) = _
      have etl : tl (m_on (m_md m n) n) a b = tl m a b := by
        have k1 : ∀ c t f u v, tl1 (m_on (m_md m c) n) t f u v = tl1 m t f u v := by
          intro c t f u v
          obtain ⟨q1, q2, q3, -, -⟩ := m_md_g m c
          unfold tl1 m_is m_in m_oth m_cx m_cy m_sx m_sy m_end m_o m_sh m_on
          rw [q1, q2, q3]
        have k2 : ∀ j, tl_n (m_on (m_md m n) n) j a b = tl_n m j a b := by
          intro j
          induction j with
          | zero => rfl
          | succ j jh => simp only [tl_n, jh, k1]
        unfold tl
        rw [k2, ← hw]
      rw [etl, ih (by omega), e5 a, e5 b]
      cases hq : tl m a b with
      | false => simp
      | true =>
        have hne := (tl_anti hv hq).1
        apply Bool.eq_iff_iff.mpr
        simp only [Bool.or_eq_true, Bool.and_eq_true, decide_eq_true_eq, Bool.true_and, Bool.not_eq_true']
        by_cases ea : a = n
        · subst ea
          by_cases hb : b < a
          · simp [ht', hb, hne, Ne.symm hne]; simp [show b < a + 1 by omega]
          · simp [ht', hb, hne, Ne.symm hne]
            have : ¬ b < a + 1 := by omega
            simp [this]
        · by_cases eb : b = n
          · subst eb
            by_cases hb : a < b
            · simp [ht', hb, hne, ea]; simp [show a < b + 1 by omega]
            · simp [ht', hb, hne, ea]
              have : ¬ a < b + 1 := by omega
              simp [this]
          · have h1 : (a < n + 1) ↔ (a < n) := by omega
            have h2 : (b < n + 1) ↔ (b < n) := by omega
            simp [ea, eb, h1, h2]
theorem mend_ov {m : ml_T} (hv : ml_g m) (a b : Nat) : m_ov (m_md m (m_sh m)) a b = (m_ov m a b || (tl m a b && (!m_th m a || !m_th m b))) := by
  rw [md_ov hv _ (Nat.le_refl _)]
  cases hq : tl m a b with
  | false => simp
  | true =>
    obtain ⟨l1, l2⟩ := tl_lt hv hq
    simp [l1, l2]
