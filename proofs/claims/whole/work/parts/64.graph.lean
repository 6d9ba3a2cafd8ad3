/-! ===== graphs ===== -/
noncomputable def cB (p : Prop) : Bool := @decide p (Classical.propDecidable p)
theorem cB_iff {p : Prop} : cB p = true ↔ p := by
  unfold cB
  exact @decide_eq_true_iff p (Classical.propDecidable p)
theorem cB_f {p : Prop} : cB p = false ↔ ¬ p := by
  unfold cB
  exact @decide_eq_false_iff_not p (Classical.propDecidable p)
/-- b is reached from a over links of A through P -/
def Cn (A : Nat → Nat → Bool) (P : Nat → Bool) (a b : Nat) : Prop := P a = true ∧ ∀ R : Nat → Prop, R a → (∀ u v, R u → A u v = true → P v = true → R v) → R b
section GRAPH
variable {A : Nat → Nat → Bool} {P P' : Nat → Bool} {a b c n r : Nat}
theorem Cn.rf (h : P a = true) : Cn A P a a := ⟨h, fun _ h0 _ => h0⟩
theorem Cn.st (h : Cn A P a b) (hA : A b c = true) (hP : P c = true) : Cn A P a c := ⟨h.1, fun R h0 h1 => h1 b c (h.2 R h0 h1) hA hP⟩
theorem Cn.p (h : Cn A P a b) : P b = true := h.2 (fun v => P v = true) h.1 (fun _ _ _ _ h => h)
theorem Cn.ind (h : Cn A P a b) {R : Nat → Prop} (h0 : R a) (h1 : ∀ u v, Cn A P a u → R u → A u v = true → P v = true → R v) : R b := by
  have := h.2 (fun v => Cn A P a v ∧ R v) ⟨Cn.rf h.1, h0⟩ (fun u v q hA hP => ⟨q.1.st hA hP, h1 u v q.1 q.2 hA hP⟩)
  exact this.2
theorem Cn.tr (h : Cn A P a b) (h' : Cn A P b c) : Cn A P a c := h'.2 (fun v => Cn A P a v) h (fun _ _ q hA hP => q.st hA hP)
theorem Cn.sy (hs : ∀ a b, A a b = A b a) (h : Cn A P a b) : Cn A P b a := by
  refine h.ind (R := fun v => Cn A P v a) (Cn.rf h.1) (fun u v hu q hA hP => ?_)
  exact ((Cn.rf hP).st (by rw [hs]; exact hA) hu.p).tr q
theorem Cn.mono (hPP : ∀ i, P i = true → P' i = true) (h : Cn A P a b) : Cn A P' a b := ⟨hPP _ h.1, fun R h0 h1 => h.2 R h0 (fun u v q hA hP => h1 u v q hA (hPP _ hP))⟩
/-- the least of its piece -/
def Lst (A : Nat → Nat → Bool) (P : Nat → Bool) (k : Nat) : Prop := P k = true ∧ ∀ j, Cn A P k j → k ≤ j
noncomputable def rt (A : Nat → Nat → Bool) (P : Nat → Bool) (k : Nat) : Bool := cB (Lst A P k)
noncomputable def npc (A : Nat → Nat → Bool) (P : Nat → Bool) (n : Nat) : Nat := fb_ct (rt A P) n
theorem Lst.one (hs : ∀ a b, A a b = A b a) (h : Lst A P a) (h' : Lst A P b) (hc : Cn A P a b) : a = b := Nat.le_antisymm (h.2 b hc) (h'.2 a (hc.sy hs))
theorem Lst.ex : ∀ k, P k = true → ∃ q, Lst A P q ∧ Cn A P k q ∧ q ≤ k := by
  intro k
  induction k using Nat.strongRecOn with
  | _ k ih =>
    intro hk
    by_cases h : Lst A P k
    · exact ⟨k, h, Cn.rf hk, Nat.le_refl _⟩
    · have : ∃ j, Cn A P k j ∧ j < k := by
        refine Classical.byContradiction fun hn => h ⟨hk, fun j hj => ?_⟩
        rcases Nat.lt_or_ge j k with q | q
        · exact absurd ⟨j, hj, q⟩ hn
        · exact q
      obtain ⟨j, hj, hlt⟩ := this
      obtain ⟨q, h1, h2, h3⟩ := ih j hlt hj.p
      exact ⟨q, h1, hj.tr h2, by omega⟩
theorem ct_two {p : Nat → Bool} : 2 ≤ fb_ct p n ↔ ∃ i j, i < j ∧ j < n ∧ p i = true ∧ p j = true := by
  constructor
  · intro h
    obtain ⟨i, h1, h2, h3⟩ := fb_ct_kth (p := p) (k := 0) (n := n) (by omega)
    obtain ⟨j, h4, h5, h6⟩ := fb_ct_kth (p := p) (k := 1) (n := n) (by omega)
    rcases Nat.lt_trichotomy i j with q | q | q
    · exact ⟨i, j, q, h4, h2, h5⟩
    · subst q; omega
    · exact ⟨j, i, q, h1, h5, h2⟩
  · rintro ⟨i, j, h1, h2, h3, h4⟩
    have a1 := ct_pos (p := p) j h1 h3
    have a2 : fb_ct p (j + 1) = fb_ct p j + 1 := by rw [fb_ct_succ, h4]; rfl
    have a3 := fb_ct_mono p (m := j + 1) (n := n) (by omega)
    omega
theorem ct_split2 (p c : Nat → Bool) (n : Nat) : fb_ct p n = fb_ct (fun k => p k && c k) n + fb_ct (fun k => p k && !c k) n := by
  rw [← fb_ct_or (fun k _ h => by cases hc : c k <;> simp [hc] at h)]
  exact ct_congr n (fun i _ => by cases p i <;> cases c i <;> rfl)
def Pm (P : Nat → Bool) (r : Nat) : Nat → Bool := fun i => P i && !decide (i = r)
theorem Pm_i {i : Nat} : Pm P r i = true ↔ P i = true ∧ i ≠ r := by
  unfold Pm
  simp
/-- two of r's piece that hang together only by r -/
def CutP (A : Nat → Nat → Bool) (P : Nat → Bool) (r : Nat) : Prop := ∃ u v, Cn A P r u ∧ Cn A P r v ∧ u ≠ r ∧ v ≠ r ∧ ¬ Cn A (Pm P r) u v
theorem cn_off (hs : ∀ a b, A a b = A b a) (hk : ¬ Cn A P r a) (h : Cn A P a b) : Cn A (Pm P r) a b := by
  have hne : a ≠ r := fun e => hk (by rw [← e]; exact Cn.rf h.1)
  refine h.ind (R := fun v => Cn A (Pm P r) a v) (Cn.rf (Pm_i.mpr ⟨h.1, hne⟩)) (fun u v hu q hA hP => ?_)
  refine q.st hA (Pm_i.mpr ⟨hP, fun e => hk ?_⟩)
  subst e
  exact (hu.st hA hP).sy hs
theorem Pm_sub : ∀ i, Pm P r i = true → P i = true := fun i h => (Pm_i.mp h).1
theorem cut_count (hs : ∀ a b, A a b = A b a) (hr : P r = true) (hn : ∀ i, P i = true → i < n) : npc A P n < npc A (Pm P r) n ↔ CutP A P r := by
  have e1 := ct_split2 (rt A P) (fun k => cB (Cn A P r k)) n
  have e2 := ct_split2 (rt A (Pm P r)) (fun k => cB (Cn A P r k)) n
  have e3 : fb_ct (fun k => rt A P k && !cB (Cn A P r k)) n = fb_ct (fun k => rt A (Pm P r) k && !cB (Cn A P r k)) n := by
    refine ct_congr n (fun k _ => ?_)
    cases hc : cB (Cn A P r k) with
    | true => simp
    | false =>
      have hk := cB_f.mp hc
      simp only [Bool.not_false, Bool.and_true]
      have : Lst A P k ↔ Lst A (Pm P r) k := by
        constructor
        · intro h
          have hne : k ≠ r := fun e => hk (by rw [e]; exact Cn.rf hr)
          exact ⟨Pm_i.mpr ⟨h.1, hne⟩, fun j hj => h.2 j (hj.mono Pm_sub)⟩
        · intro h
          exact ⟨(Pm_i.mp h.1).1, fun j hj => h.2 j (cn_off hs hk hj)⟩
      unfold rt
      rw [Bool.eq_iff_iff, cB_iff, cB_iff]
      exact this
  have e4 : fb_ct (fun k => rt A P k && cB (Cn A P r k)) n = 1 := by
    obtain ⟨q, h1, h2, h3⟩ := Lst.ex (A := A) (P := P) r hr
    have p1 : 0 < fb_ct (fun k => rt A P k && cB (Cn A P r k)) n := ct_pos (i := q) n (hn q h1.1) (by rw [Bool.and_eq_true]; exact ⟨cB_iff.mpr h1, cB_iff.mpr h2⟩)
    have p2 : ¬ 2 ≤ fb_ct (fun k => rt A P k && cB (Cn A P r k)) n := fun h => by
      obtain ⟨i, j, a1, a2, a3, a4⟩ := ct_two.mp h
      rw [Bool.and_eq_true] at a3 a4
      have := Lst.one hs (cB_iff.mp a3.1) (cB_iff.mp a4.1) (((cB_iff.mp a3.2).sy hs).tr (cB_iff.mp a4.2))
      omega
    omega
  have e5 : 2 ≤ fb_ct (fun k => rt A (Pm P r) k && cB (Cn A P r k)) n ↔ CutP A P r := by
    rw [ct_two]
    constructor
    · rintro ⟨i, j, a1, a2, a3, a4⟩
      rw [Bool.and_eq_true] at a3 a4
      have l1 := cB_iff.mp a3.1
      have l2 := cB_iff.mp a4.1
      refine ⟨i, j, cB_iff.mp a3.2, cB_iff.mp a4.2, (Pm_i.mp l1.1).2, (Pm_i.mp l2.1).2, fun hc => ?_⟩
      have := Lst.one hs l1 l2 hc
      omega
    · rintro ⟨u, v, h1, h2, h3, h4, h5⟩
      obtain ⟨q, l1, l2, -⟩ := Lst.ex (A := A) (P := Pm P r) u (Pm_i.mpr ⟨h1.p, h3⟩)
      obtain ⟨q', l1', l2', -⟩ := Lst.ex (A := A) (P := Pm P r) v (Pm_i.mpr ⟨h2.p, h4⟩)
      have hne : q ≠ q' := fun e => h5 (l2.tr (by rw [e]; exact l2'.sy hs))
      have m1 : (rt A (Pm P r) q && cB (Cn A P r q)) = true := by rw [Bool.and_eq_true]; exact ⟨cB_iff.mpr l1, cB_iff.mpr (h1.tr (l2.mono Pm_sub))⟩
      have m2 : (rt A (Pm P r) q' && cB (Cn A P r q')) = true := by rw [Bool.and_eq_true]; exact ⟨cB_iff.mpr l1', cB_iff.mpr (h2.tr (l2'.mono Pm_sub))⟩
      have n1 := hn q (Pm_i.mp l1.1).1
      have n2 := hn q' (Pm_i.mp l1'.1).1
      rcases Nat.lt_trichotomy q q' with z | z | z
      · exact ⟨q, q', z, n2, m1, m2⟩
      · exact absurd z hne
      · exact ⟨q', q, z, n1, m2, m1⟩
  unfold npc
  rw [e1, e2, e3, e4, ← e5]
  omega
/-- it can be parted in two sides -/
def Two (A : Nat → Nat → Bool) (c : Nat → Bool) : Prop := ∀ u v, A u v = true → c u ≠ c v
theorem Two.one {c c' : Nat → Bool} (h : Two A c) (h' : Two A c') (hr : c a = c' a) (hc : Cn A P a b) : c b = c' b := by
  refine hc.ind (R := fun v => c v = c' v) hr (fun u v _ q hA _ => ?_)
  have h1 := h u v hA
  have h2 := h' u v hA
  have q' : c u = c' u := q
  show c v = c' v
  cases e1 : c u <;> cases e2 : c v <;> cases e3 : c' v <;> simp_all
end GRAPH
