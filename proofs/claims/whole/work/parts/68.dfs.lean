/-! ===== walking a piece depth first, purely ===== -/
def fput {α : Type} (f : Nat → α) (v : Nat) (y : α) : Nat → α := fun i => if i = v then y else f i
theorem fput_s {α : Type} {f : Nat → α} {v : Nat} {y : α} : fput f v y v = y := if_pos rfl
theorem fput_n {α : Type} {f : Nat → α} {v i : Nat} {y : α} (h : i ≠ v) : fput f v y i = f i := if_neg h
def XP (fs : Nat → Bool) (d : Nat → Nat) (b : Nat) : Nat → Bool := fun w => fs w && decide (b ≤ d w)
theorem XP_i {fs : Nat → Bool} {d : Nat → Nat} {b w : Nat} : XP fs d b w = true ↔ fs w = true ∧ b ≤ d w := by
  unfold XP; simp
def WI (A : Nat → Nat → Bool) (th : Nat → Bool) (nu B : Nat) (fs : Nat → Bool) (d lo : Nat → Nat) (pa : Nat → Int32) (tt ls : Nat → Nat) (sd cu : Nat → Bool) (n rb : Nat) (pt : Bool) (fin : Nat → Bool) (s : Nat → Nat) (k : Nat) : Prop :=
  (∀ i, i ≤ k → fs (s i) = true ∧ B ≤ d (s i) ∧ fin (s i) = false) ∧
  (∀ i, i < k → pa (s (i + 1)) = nI (s i) ∧ A (s i) (s (i + 1)) = true ∧ d (s i) < d (s (i + 1))) ∧
  (pa (s 0) = -1 ∧ d (s 0) = B ∧ sd (s 0) = true) ∧
  (∀ v, fs v = true → B ≤ d v → fin v = false → ∃ i, i ≤ k ∧ v = s i) ∧
  (∀ v, fs v = true → d v < n ∧ v < nu ∧ th v = true) ∧
  (∀ v w, fs v = true → fs w = true → d v = d w → v = w) ∧
  (∀ v, fs v = true → d v < B → fin v = true ∧ ∀ u, A v u = true → fs u = true ∧ d u < B) ∧
  (∀ v u, fs v = true → B ≤ d v → A v u = true → (fin v = true ∨ u < tt v) → fs u = true) ∧
  (∀ i u w, i < k → fs u = true → d (s i) < d u → d u < d (s (i + 1)) → A u w = true → fin u = true ∧ d w < d (s (i + 1))) ∧
  (∀ i, i ≤ k → lo (s i) ≤ d (s i) ∧ (∀ u, A (s i) u = true → u < tt (s i) → lo (s i) ≤ d u) ∧ (∀ v u, fs v = true → d (s i) < d v → (i < k → d v < d (s (i + 1))) → A v u = true → lo (s i) ≤ d u)) ∧
  (∀ i, i ≤ k → lo (s i) = d (s i) ∨ ∃ v u, fs v = true ∧ d (s i) ≤ d v ∧ A v u = true ∧ fs u = true ∧ d u = lo (s i)) ∧
  (∀ i v, i ≤ k → fs v = true → d (s i) ≤ d v → Cn A (XP fs d (d (s i))) (s i) v) ∧
  (∀ f v, fs f = true → B ≤ d f → f ≠ s 0 → cu f = false → fs v = true → B ≤ d v → v ≠ f → (∀ i, i < k → f = s i → d v < d (s (i + 1))) → Cn A (Pm th f) (s 0) v) ∧
  (∀ f, cu f = true → fs f = true ∧ CutP A th f) ∧
  (rb = 0 → ∀ v, fs v = true → B ≤ d v → v ≠ s 0 → 0 < k ∧ d (s 1) ≤ d v) ∧
  (rb = 1 → ∃ z, ∀ v, fs v = true → B ≤ d v → v ≠ s 0 → (0 < k → d v < d (s 1)) → Cn A (Pm th (s 0)) z v) ∧
  (1 ≤ rb → ∃ w, fs w = true ∧ B ≤ d w ∧ w ≠ s 0 ∧ (0 < k → d w < d (s 1))) ∧
  (cu (s 0) = decide (2 ≤ rb)) ∧
  (∀ c, Two A c → ∀ v, fs v = true → B ≤ d v → c v = (c (s 0) ^^ !sd v)) ∧
  (pt = true → ∀ v u, fs v = true → A v u = true → (fin v = true ∨ u < tt v) → sd u ≠ sd v) ∧
  (pt = false → ¬ ∃ c, Two A c) ∧
  (∀ v, fs v = true → B ≤ d v → ls v = s 0) ∧
  (∀ v, fin v = true → fs v = true)
section DFS
variable {A : Nat → Nat → Bool} {th : Nat → Bool} {nu B : Nat} {fs : Nat → Bool} {d lo : Nat → Nat} {pa : Nat → Int32} {tt ls : Nat → Nat} {sd cu : Nat → Bool} {n rb : Nat} {pt : Bool} {fin : Nat → Bool} {s : Nat → Nat} {k o : Nat}
theorem WI.mo (h : WI A th nu B fs d lo pa tt ls sd cu n rb pt fin s k) : ∀ j i, i < j → j ≤ k → d (s i) < d (s j) := by
  intro j
  induction j with
  | zero => intro i hi; omega
  | succ j ih =>
    intro i hi hj
    have h1 := (h.2.1 j (by omega)).2.2
    by_cases e : i = j
    · subst e; exact h1
    · have := ih i (by omega) (by omega)
      omega
/-- what a link leads to is of this piece -/
theorem WI.in (hs : ∀ a b, A a b = A b a) (h : WI A th nu B fs d lo pa tt ls sd cu n rb pt fin s k) {v u : Nat} (hv : B ≤ d v) (hu : fs u = true) (hA : A v u = true) : B ≤ d u := by
  obtain ⟨a1, a2, a3, a4, a5, a6, a7, a8, a9, a10, a11, a12, a13, a14, a15, a16, a17, a18, a19, a20, a21, a22, a23⟩ := h
  rcases Nat.lt_or_ge (d u) B with c | c
  · have := ((a7 u hu c).2 v (by rw [hs]; exact hA)).2
    omega
  · exact c
theorem WI.found (hs : ∀ a b, A a b = A b a) (h : WI A th nu B fs d lo pa tt ls sd cu n rb pt fin s k) (hA : A (s k) o = true) (ho : fs o = true) (hgap : ∀ u, tt (s k) ≤ u → u < o → A (s k) u = false) :
    WI A th nu B fs d (fput lo (s k) (min (lo (s k)) (d o))) pa (fput tt (s k) (o + 1)) ls sd cu n rb (pt && !decide (sd o = sd (s k))) fin s k := by
  have hmo := h.mo
  have hin := h.in hs (v := s k) (u := o)
  obtain ⟨a1, a2, a3, a4, a5, a6, a7, a8, a9, a10, a11, a12, a13, a14, a15, a16, a17, a18, a19, a20, a21, a22, a23⟩ := h
  have hBo := hin (a1 k (Nat.le_refl _)).2.1 ho hA
  have ne : ∀ i, i < k → s i ≠ s k := fun i hi e => by have := hmo k i hi (Nat.le_refl _); rw [e] at this; omega
  have tr : ∀ u, A (s k) u = true → u < o + 1 → u = o ∨ u < tt (s k) := fun u hu hlt => by
    by_cases e : u = o
    · exact Or.inl e
    · right
      rcases Nat.lt_or_ge u (tt (s k)) with c | c
      · exact c
      · rw [hgap u c (by omega)] at hu; cases hu
  refine ⟨a1, a2, a3, a4, a5, a6, a7, ?_, a9, ?_, ?_, a12, a13, a14, a15, a16, a17, a18, a19, ?_, ?_, a22, a23⟩
  · intro v u hv hBv hvu hf
    by_cases e : v = s k
    · subst e
      rw [fput_s] at hf
      rcases hf with c | c
      · rw [(a1 k (Nat.le_refl _)).2.2] at c; cases c
      · rcases tr u hvu c with c' | c'
        · rw [c']; exact ho
        · exact a8 _ _ hv hBv hvu (Or.inr c')
    · rw [fput_n e] at hf; exact a8 v u hv hBv hvu hf
  · intro i hi
    by_cases e : i = k
    · subst e
      obtain ⟨b1, b2, b3⟩ := a10 i (Nat.le_refl _)
      rw [fput_s, fput_s]
      refine ⟨by omega, fun u hu hlt => ?_, fun v u c1 c2 c3 c4 => by have := b3 v u c1 c2 c3 c4; omega⟩
      rcases tr u hu hlt with c' | c'
      · rw [c']; omega
      · have := b2 u hu c'; omega
    · rw [fput_n (ne i (by omega)), fput_n (ne i (by omega))]
      exact a10 i hi
  · intro i hi
    by_cases e : i = k
    · subst e
      rw [fput_s]
      rcases Nat.lt_or_ge (d o) (lo (s i)) with c | c
      · right
        exact ⟨s i, o, (a1 i hi).1, Nat.le_refl _, hA, ho, by omega⟩
      · rw [Nat.min_eq_left c]; exact a11 i hi
    · rw [fput_n (ne i (by omega))]
      exact a11 i hi
  · intro hp v u hv hvu hf
    rw [Bool.and_eq_true] at hp
    by_cases e : v = s k
    · subst e
      rw [fput_s] at hf
      rcases hf with c | c
      · exact a20 hp.1 _ _ hv hvu (Or.inl c)
      · rcases tr u hvu c with c' | c'
        · rw [c']
          have := hp.2
          simpa using this
        · exact a20 hp.1 _ _ hv hvu (Or.inr c')
    · rw [fput_n e] at hf; exact a20 hp.1 v u hv hvu hf
  · intro hp
    cases hpt : pt with
    | false => exact a21 hpt
    | true =>
      rw [hpt] at hp
      have hsd : sd o = sd (s k) := by
        cases hh : decide (sd o = sd (s k)) with
        | true => exact of_decide_eq_true hh
        | false => rw [hh] at hp; exact absurd hp (by decide)
      rintro ⟨c, hc⟩
      have e1 := a19 c hc o ho hBo
      have e2 := a19 c hc (s k) (a1 k (Nat.le_refl _)).1 (a1 k (Nat.le_refl _)).2.1
      exact hc _ _ hA (by rw [e1, e2, hsd])
theorem WI.discover (hs : ∀ a b, A a b = A b a) (h : WI A th nu B fs d lo pa tt ls sd cu n rb pt fin s k) (hA : A (s k) o = true) (ho : fs o = false) (hon : o < nu) (hoth : th o = true) (hgap : ∀ u, tt (s k) ≤ u → u < o → A (s k) u = false) :
    WI A th nu B (fput fs o true) (fput d o n) (fput lo o n) (fput pa o (nI (s k))) (fput (fput tt (s k) (o + 1)) o 0) (fput ls o (ls (s k))) (fput sd o (!sd (s k))) cu (n + 1) rb pt fin (fput s (k + 1) o) (k + 1) := by
  have hmo := h.mo
  have hin := fun v u => h.in hs (v := v) (u := u)
  obtain ⟨a1, a2, a3, a4, a5, a6, a7, a8, a9, a10, a11, a12, a13, a14, a15, a16, a17, a18, a19, a20, a21, a22, a23⟩ := h
  have fo' : ∀ v, fs v = true → v ≠ o := fun v hv e => by rw [e, ho] at hv; cases hv
  have sk : ∀ i, i ≤ k → fput s (k + 1) o i = s i := fun i hi => fput_n (by omega)
  have so : fput s (k + 1) o (k + 1) = o := fput_s
  have ne : ∀ i, i < k → s i ≠ s k := fun i hi e => by have := hmo k i hi (Nat.le_refl _); rw [e] at this; omega
  have sne : ∀ i, i ≤ k → s i ≠ o := fun i hi => fo' _ (a1 i hi).1
  have fs' : ∀ v, fput fs o true v = true → v = o ∨ fs v = true := fun v hv => by
    by_cases e : v = o
    · exact Or.inl e
    · rw [fput_n e] at hv; exact Or.inr hv
  have fsu : ∀ v, fs v = true → fput fs o true v = true := fun v hv => by rw [fput_n (fo' v hv)]; exact hv
  have du : ∀ v, fs v = true → fput d o n v = d v := fun v hv => fput_n (fo' v hv)
  have dso : fput d o n o = n := fput_s
  have hBn : B < n := by have := (a5 _ (a1 0 (Nat.zero_le _)).1).1; rw [a3.2.1] at this; exact this
  have dk : ∀ i, i ≤ k → d (s i) ≤ d (s k) := fun i hi => by
    by_cases e : i = k
    · rw [e]; exact Nat.le_refl _
    · exact Nat.le_of_lt (hmo k i (by omega) (Nat.le_refl _))
  have dkn : d (s k) < n := (a5 _ (a1 k (Nat.le_refl _)).1).1
  have fino : fin o = false := by
    cases e : fin o with
    | false => rfl
    | true => have := a23 o e; rw [ho] at this; cases this
  have tr : ∀ u, A (s k) u = true → u < o + 1 → u = o ∨ u < tt (s k) := fun u hu hlt => by
    by_cases e : u = o
    · exact Or.inl e
    · right
      rcases Nat.lt_or_ge u (tt (s k)) with c | c
      · exact c
      · rw [hgap u c (by omega)] at hu; cases hu
  -- what lies behind the top is left
  have left : ∀ u, fs u = true → d (s k) < d u → fin u = true := fun u hu hlt => by
    cases e : fin u with
    | true => rfl
    | false =>
      obtain ⟨i, hi, ei⟩ := a4 u hu (by have := (a1 k (Nat.le_refl _)).2.1; omega) e
      have := dk i hi
      rw [← ei] at this; omega
  have xpm : ∀ b w, XP fs d b w = true → XP (fput fs o true) (fput d o n) b w = true := fun b w hw => by
    obtain ⟨h1, h2⟩ := XP_i.mp hw
    exact XP_i.mpr ⟨fsu w h1, by rw [du w h1]; exact h2⟩
  refine ⟨?_, ?_, ?_, ?_, ?_, ?_, ?_, ?_, ?_, ?_, ?_, ?_, ?_, ?_, ?_, ?_, ?_, ?_, ?_, ?_, a21, ?_, ?_⟩
  · intro i hi
    by_cases e : i = k + 1
    · subst e; rw [so, fput_s, fput_s]; exact ⟨rfl, by omega, fino⟩
    · rw [sk i (by omega)]
      obtain ⟨b1, b2, b3⟩ := a1 i (by omega)
      exact ⟨fsu _ b1, by rw [du _ b1]; exact b2, b3⟩
  · intro i hi
    by_cases e : i = k
    · subst e; rw [so, sk i (Nat.le_refl _), fput_s, dso, du _ (a1 i (Nat.le_refl _)).1]; exact ⟨rfl, hA, dkn⟩
    · rw [sk i (by omega), sk (i + 1) (by omega), fput_n (sne (i + 1) (by omega)), du _ (a1 i (by omega)).1, du _ (a1 (i + 1) (by omega)).1]
      exact a2 i (by omega)
  · rw [sk 0 (Nat.zero_le _), fput_n (sne 0 (Nat.zero_le _)), fput_n (sne 0 (Nat.zero_le _)), fput_n (sne 0 (Nat.zero_le _))]; exact a3
  · intro v hv hB hfin
    rcases fs' v hv with e | e
    · exact ⟨k + 1, Nat.le_refl _, by rw [so]; exact e⟩
    · rw [du v e] at hB
      obtain ⟨i, hi, ei⟩ := a4 v e hB hfin
      exact ⟨i, by omega, by rw [sk i hi]; exact ei⟩
  · intro v hv
    rcases fs' v hv with e | e
    · rw [e, dso]; exact ⟨by omega, hon, hoth⟩
    · rw [du v e]
      obtain ⟨b1, b2⟩ := a5 v e
      exact ⟨by omega, b2⟩
  · intro v w hv hw hd
    rcases fs' v hv with e | e
    · rcases fs' w hw with e' | e'
      · rw [e, e']
      · rw [e, dso, du w e'] at hd; have := (a5 w e').1; omega
    · rcases fs' w hw with e' | e'
      · rw [e', dso, du v e] at hd; have := (a5 v e).1; omega
      · rw [du v e, du w e'] at hd; exact a6 v w e e' hd
  · intro v hv hlt
    rcases fs' v hv with e | e
    · rw [e, dso] at hlt; omega
    · rw [du v e] at hlt
      obtain ⟨b1, b2⟩ := a7 v e hlt
      refine ⟨b1, fun u hu => ?_⟩
      obtain ⟨c1, c2⟩ := b2 u hu
      exact ⟨fsu u c1, by rw [du u c1]; exact c2⟩
  · intro v u hv hB hvu hf
    rcases fs' v hv with e | e
    · subst e
      rw [fput_s] at hf
      rcases hf with c | c
      · rw [fino] at c; cases c
      · omega
    · rw [du v e] at hB
      rw [fput_n (fo' v e)] at hf
      by_cases e2 : v = s k
      · subst e2
        rw [fput_s] at hf
        rcases hf with c | c
        · exact fsu u (a8 _ _ e hB hvu (Or.inl c))
        · rcases tr u hvu c with c' | c'
          · rw [c']; exact fput_s
          · exact fsu u (a8 _ _ e hB hvu (Or.inr c'))
      · rw [fput_n e2] at hf; exact fsu u (a8 v u e hB hvu hf)
  · intro i u w hi hu h1 h2 hA'
    by_cases e : i = k
    · subst e
      rw [so, dso] at h2 ⊢
      rw [sk i (Nat.le_refl _), du _ (a1 i (Nat.le_refl _)).1] at h1
      rcases fs' u hu with e | e
      · rw [e, dso] at h2; omega
      · rw [du u e] at h1
        have hl := left u e h1
        have hw := a8 u w e (by have := (a1 i (Nat.le_refl _)).2.1; omega) hA' (Or.inl hl)
        exact ⟨hl, by rw [du w hw]; exact (a5 w hw).1⟩
    · rw [sk i (by omega), du _ (a1 i (by omega)).1] at h1
      rw [sk (i + 1) (by omega), du _ (a1 (i + 1) (by omega)).1] at h2 ⊢
      rcases fs' u hu with e | e
      · rw [e, dso] at h2; have := (a5 _ (a1 (i + 1) (by omega)).1).1; omega
      · rw [du u e] at h1 h2
        obtain ⟨b1, b2⟩ := a9 i u w (by omega) e h1 h2 hA'
        have hw := a8 u w e (by have := (a1 i (by omega)).2.1; omega) hA' (Or.inl b1)
        exact ⟨b1, by rw [du w hw]; exact b2⟩
  · intro i hi
    by_cases e : i = k + 1
    · subst e
      rw [so, fput_s, fput_s, fput_s]
      refine ⟨Nat.le_refl _, fun u _ hlt => by omega, fun v u hv h1 => ?_⟩
      rcases fs' v hv with e | e
      · rw [e, dso] at h1; omega
      · rw [du v e] at h1; have := (a5 v e).1; omega
    · have hik : i ≤ k := by omega
      rw [sk i hik, fput_n (sne i hik), fput_n (sne i hik), fput_n (sne i hik)]
      obtain ⟨b1, b2, b3⟩ := a10 i hik
      refine ⟨b1, fun u hu hlt => ?_, fun v u hv h1 h2 hvu => ?_⟩
      · by_cases e2 : i = k
        · subst e2
          rw [fput_s] at hlt
          rcases tr u hu hlt with c' | c'
          · rw [c', dso]; omega
          · have hfu := a8 _ _ (a1 i (Nat.le_refl _)).1 (a1 i (Nat.le_refl _)).2.1 hu (Or.inr c')
            rw [du u hfu]; exact b2 u hu c'
        · rw [fput_n (ne i (by omega))] at hlt
          have hfu := a8 _ _ (a1 i hik).1 (a1 i hik).2.1 hu (Or.inr hlt)
          rw [du u hfu]; exact b2 u hu hlt
      · have h2' := h2 (by omega)
        have hvo : v ≠ o := fun evo => by
          by_cases e2 : i = k
          · subst e2; rw [so, evo] at h2'; omega
          · rw [sk (i + 1) (by omega), du _ (a1 (i + 1) (by omega)).1, evo, dso] at h2'
            have := (a5 _ (a1 (i + 1) (by omega)).1).1; omega
        have hfv : fs v = true := by
          rcases fs' v hv with c | c
          · exact absurd c hvo
          · exact c
        rw [du v hfv] at h1
        have hfin : fin v = true := by
          by_cases e2 : i = k
          · subst e2; exact left v hfv h1
          · rw [sk (i + 1) (by omega), du _ (a1 (i + 1) (by omega)).1, du v hfv] at h2'
            exact (a9 i v u (by omega) hfv h1 h2' hvu).1
        have hfu := a8 v u hfv (by have := (a1 i hik).2.1; omega) hvu (Or.inl hfin)
        rw [du u hfu]
        refine b3 v u hfv h1 (fun hlt => ?_) hvu
        rw [sk (i + 1) (by omega), du _ (a1 (i + 1) (by omega)).1, du v hfv] at h2'
        exact h2'
  · intro i hi
    by_cases e : i = k + 1
    · subst e; rw [so, fput_s, fput_s]; exact Or.inl rfl
    · have hik : i ≤ k := by omega
      rw [sk i hik, fput_n (sne i hik), du _ (a1 i hik).1]
      rcases a11 i hik with c | ⟨v, u, c1, c2, c3, c4, c5⟩
      · exact Or.inl c
      · exact Or.inr ⟨v, u, fsu v c1, by rw [du v c1]; exact c2, c3, fsu u c4, by rw [du u c4]; exact c5⟩
  · intro i v hi hv hd
    by_cases e : i = k + 1
    · subst e
      rw [so, dso] at hd ⊢
      rcases fs' v hv with e | e
      · rw [e]; exact Cn.rf (XP_i.mpr ⟨fput_s, by rw [dso]; exact Nat.le_refl _⟩)
      · rw [du v e] at hd; have := (a5 v e).1; omega
    · have hik : i ≤ k := by omega
      rw [sk i hik, du _ (a1 i hik).1] at hd ⊢
      rcases fs' v hv with e | e
      · rw [e]
        have h1 := (a12 i (s k) hik (a1 k (Nat.le_refl _)).1 (dk i hik)).mono (xpm _)
        exact h1.st hA (XP_i.mpr ⟨fput_s, by rw [dso]; have := dk i hik; omega⟩)
      · rw [du v e] at hd
        exact (a12 i v hik e hd).mono (xpm _)
  · intro f v hf hBf hf0 hcu hv hBv hvf hpen
    rw [sk 0 (Nat.zero_le _)] at hf0 ⊢
    rcases fs' f hf with e | e
    · rcases fs' v hv with e' | e'
      · exact absurd (e'.trans e.symm) hvf
      · rw [du v e'] at hBv
        have := a12 0 v (Nat.zero_le _) e' (by rw [a3.2.1]; exact hBv)
        refine this.mono (fun w hw => ?_)
        obtain ⟨w1, -⟩ := XP_i.mp hw
        exact Pm_i.mpr ⟨(a5 w w1).2.2, by rw [e]; exact fo' w w1⟩
    · rw [du f e] at hBf
      rcases fs' v hv with e' | e'
      · subst e'
        rw [dso] at hpen
        have hoff : ∀ i, i ≤ k → f ≠ s i := fun i hi ei => by
          have := hpen i (by omega) (by rw [sk i hi]; exact ei)
          by_cases e2 : i = k
          · subst e2; rw [so, dso] at this; omega
          · rw [sk (i + 1) (by omega), du _ (a1 (i + 1) (by omega)).1] at this
            have := (a5 _ (a1 (i + 1) (by omega)).1).1; omega
        have h1 := a13 f (s k) e hBf hf0 hcu (a1 k (Nat.le_refl _)).1 (a1 k (Nat.le_refl _)).2.1 (fun c => hoff k (Nat.le_refl _) c.symm) (fun i hi ei => absurd ei (hoff i (by omega)))
        exact h1.st hA (Pm_i.mpr ⟨hoth, fun c => fo' f e c.symm⟩)
      · rw [du v e'] at hBv
        refine a13 f v e hBf hf0 hcu e' hBv hvf (fun i hi ei => ?_)
        have := hpen i (by omega) (by rw [sk i (by omega)]; exact ei)
        rw [sk (i + 1) (by omega), du _ (a1 (i + 1) (by omega)).1, du v e'] at this
        exact this
  · intro f hf
    obtain ⟨b1, b2⟩ := a14 f hf
    exact ⟨fsu f b1, b2⟩
  · intro hrb v hv hBv hv0
    rw [sk 0 (Nat.zero_le _)] at hv0
    refine ⟨by omega, ?_⟩
    rcases fs' v hv with e | e
    · rw [e, dso]
      by_cases hk0 : k = 0
      · subst hk0; rw [so, dso]; exact Nat.le_refl _
      · rw [sk 1 (by omega), du _ (a1 1 (by omega)).1]; have := dk 1 (by omega); omega
    · rw [du v e] at hBv ⊢
      obtain ⟨c1, c2⟩ := a15 hrb v e hBv hv0
      rw [sk 1 (by omega), du _ (a1 1 (by omega)).1]; exact c2
  · intro hrb
    obtain ⟨z, hz⟩ := a16 hrb
    refine ⟨z, fun v hv hBv hv0 hlt => ?_⟩
    rw [sk 0 (Nat.zero_le _)] at hv0 ⊢
    have hlt' := hlt (by omega)
    rcases fs' v hv with e | e
    · exfalso
      rw [e, dso] at hlt'
      by_cases hk0 : k = 0
      · subst hk0; rw [so, dso] at hlt'; omega
      · rw [sk 1 (by omega), du _ (a1 1 (by omega)).1] at hlt'; have := dk 1 (by omega); omega
    · rw [du v e] at hBv hlt'
      refine hz v e hBv hv0 (fun hk0 => ?_)
      rw [sk 1 (by omega), du _ (a1 1 (by omega)).1] at hlt'; exact hlt'
  · intro hrb
    obtain ⟨w, c1, c2, c3, c4⟩ := a17 hrb
    refine ⟨w, fsu w c1, by rw [du w c1]; exact c2, by rw [sk 0 (Nat.zero_le _)]; exact c3, fun _ => ?_⟩
    rw [du w c1]
    by_cases hk0 : k = 0
    · subst hk0; rw [so, dso]; exact (a5 w c1).1
    · rw [sk 1 (by omega), du _ (a1 1 (by omega)).1]; exact c4 (by omega)
  · rw [sk 0 (Nat.zero_le _)]; exact a18
  · intro c hc v hv hBv
    rw [sk 0 (Nat.zero_le _)]
    rcases fs' v hv with e | e
    · rw [e, fput_s]
      have h1 := a19 c hc (s k) (a1 k (Nat.le_refl _)).1 (a1 k (Nat.le_refl _)).2.1
      have h2 := hc _ _ hA
      rw [h1] at h2
      cases z1 : c (s 0) <;> cases z2 : c o <;> cases z3 : sd (s k) <;> simp [z1, z2, z3] at h2 ⊢
    · rw [fput_n (fo' v e)]
      rw [du v e] at hBv
      exact a19 c hc v e hBv
  · intro hp v u hv hvu hf
    rcases fs' v hv with e | e
    · subst e
      rw [fput_s] at hf
      rcases hf with c | c
      · rw [fino] at c; cases c
      · omega
    · rw [fput_n (fo' v e)] at hf ⊢
      have key : ∀ (hf' : fin v = true ∨ u < tt v), fput sd o (!sd (s k)) u ≠ sd v := fun hf' => by
        have hfu : fs u = true := by
          rcases Nat.lt_or_ge (d v) B with c | c
          · exact ((a7 v e c).2 u hvu).1
          · exact a8 v u e c hvu hf'
        rw [fput_n (fo' u hfu)]
        exact a20 hp v u e hvu hf'
      by_cases e2 : v = s k
      · subst e2
        rw [fput_s] at hf
        rcases hf with c | c
        · exact key (Or.inl c)
        · rcases tr u hvu c with c' | c'
          · rw [c', fput_s]; cases sd (s k) <;> decide
          · exact key (Or.inr c')
      · rw [fput_n e2] at hf; exact key hf
  · intro v hv hBv
    rw [sk 0 (Nat.zero_le _)]
    rcases fs' v hv with e | e
    · rw [e, fput_s]; exact a22 _ (a1 k (Nat.le_refl _)).1 (a1 k (Nat.le_refl _)).2.1
    · rw [fput_n (fo' v e)]
      rw [du v e] at hBv
      exact a22 v e hBv
  · intro v hv; exact fsu v (a23 v hv)
end DFS
