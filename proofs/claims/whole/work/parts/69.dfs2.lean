section DFS2
variable {A : Nat → Nat → Bool} {th : Nat → Bool} {nu B : Nat} {fs : Nat → Bool} {d lo : Nat → Nat} {pa : Nat → Int32} {tt ls : Nat → Nat} {sd cu : Nat → Bool} {n rb : Nat} {pt : Bool} {fin : Nat → Bool} {s : Nat → Nat} {k o : Nat}
theorem WI.leave {cu' : Nat → Bool} {rb' : Nat} (hs : ∀ a b, A a b = A b a) (h : WI A th nu B fs d lo pa tt ls sd cu n rb pt fin s (k + 1)) (hall : ∀ u, A (s (k + 1)) u = true → u < tt (s (k + 1)))
    (hA : 0 < k → rb' = rb ∧ cu' = (if d (s k) ≤ lo (s (k + 1)) then fput cu (s k) true else cu)) (hB : k = 0 → rb' = rb + 1 ∧ cu' = (if 2 ≤ rb + 1 then fput cu (s k) true else cu)) :
    WI A th nu B fs d (fput lo (s k) (min (lo (s k)) (lo (s (k + 1))))) pa tt ls sd cu' n rb' pt (fput fin (s (k + 1)) true) s k := by
  have hmo := h.mo
  have hin := fun v u => h.in hs (v := v) (u := u)
  obtain ⟨a1, a2, a3, a4, a5, a6, a7, a8, a9, a10, a11, a12, a13, a14, a15, a16, a17, a18, a19, a20, a21, a22, a23⟩ := h
  have hf1 := a1 (k + 1) (Nat.le_refl _)
  have hf0 := a1 k (by omega)
  have hdk := hmo (k + 1) k (by omega) (Nat.le_refl _)
  have ne : ∀ i, i ≤ k → s i ≠ s (k + 1) := fun i hi e => by have := hmo (k + 1) i (by omega) (Nat.le_refl _); rw [e] at this; omega
  have nek : ∀ i, i < k → s i ≠ s k := fun i hi e => by have := hmo k i hi (by omega); rw [e] at this; omega
  have fm : ∀ v, fin v = true → fput fin (s (k + 1)) true v = true := fun v hv => by
    by_cases e : v = s (k + 1)
    · rw [e]; exact fput_s
    · rw [fput_n e]; exact hv
  have cun : ∀ g, g ≠ s k → cu' g = cu g := fun g hg => by
    rcases Nat.eq_zero_or_pos k with c | c
    · rw [(hB c).2]
      split
      · exact fput_n hg
      · rfl
    · rw [(hA c).2]
      split
      · exact fput_n hg
      · rfl
  -- what is behind the one left hangs together with the rest by the one below alone
  have clos : (∀ w, fs w = true → B ≤ d w → w ≠ s k → (∃ u, fs u = true ∧ d (s (k + 1)) ≤ d u ∧ A u w = true) → d (s k) < d w) → ∀ z, Cn A (Pm th (s k)) (s (k + 1)) z → fs z = true ∧ d (s (k + 1)) ≤ d z := by
    intro hlow z hz
    refine hz.ind (R := fun z => fs z = true ∧ d (s (k + 1)) ≤ d z) ⟨hf1.1, Nat.le_refl _⟩ (fun u w _ hu hA' hP => ?_)
    obtain ⟨hu1, hu2⟩ := hu
    have huB : B ≤ d u := by have := hf1.2.1; omega
    have hw : fs w = true := by
      by_cases e : u = s (k + 1)
      · subst e; exact a8 _ _ hu1 huB hA' (Or.inr (hall w hA'))
      · refine a8 u w hu1 huB hA' (Or.inl ?_)
        cases e2 : fin u with
        | true => rfl
        | false =>
          obtain ⟨i, hi, ei⟩ := a4 u hu1 huB e2
          have hik : i ≤ k := by
            rcases Nat.lt_or_ge i (k + 1) with c | c
            · omega
            · have : i = k + 1 := by omega
              rw [this] at ei; exact absurd ei e
          have := hmo (k + 1) i (by omega) (Nat.le_refl _)
          rw [← ei] at this; omega
    refine ⟨hw, ?_⟩
    have hwB := hin u w huB hw hA'
    have h1 := hlow w hw hwB (Pm_i.mp hP).2 ⟨u, hu1, hu2, hA'⟩
    rcases Nat.lt_or_ge (d w) (d (s (k + 1))) with c | c
    · have := (a9 k w u (by omega) hw h1 c (by rw [hs]; exact hA')).2
      omega
    · exact c
  refine ⟨?_, ?_, a3, ?_, a5, a6, ?_, ?_, ?_, ?_, ?_, ?_, ?_, ?_, ?_, ?_, ?_, ?_, a19, ?_, a21, a22, ?_⟩
  · intro i hi
    obtain ⟨b1, b2, b3⟩ := a1 i (by omega)
    exact ⟨b1, b2, by rw [fput_n (ne i hi)]; exact b3⟩
  · intro i hi; exact a2 i (by omega)
  · intro v hv hB' hfin
    by_cases e : v = s (k + 1)
    · rw [e, fput_s] at hfin; cases hfin
    · rw [fput_n e] at hfin
      obtain ⟨i, hi, ei⟩ := a4 v hv hB' hfin
      refine ⟨i, ?_, ei⟩
      rcases Nat.lt_or_ge i (k + 1) with c | c
      · omega
      · have : i = k + 1 := by omega
        rw [this] at ei; exact absurd ei e
  · intro v hv hlt
    obtain ⟨b1, b2⟩ := a7 v hv hlt
    exact ⟨fm v b1, b2⟩
  · intro v u hv hBv hvu hf
    by_cases e : v = s (k + 1)
    · subst e; exact a8 _ _ hv hBv hvu (Or.inr (hall u hvu))
    · rw [fput_n e] at hf; exact a8 v u hv hBv hvu hf
  · intro i u w hi hu h1 h2 hA'
    obtain ⟨b1, b2⟩ := a9 i u w (by omega) hu h1 h2 hA'
    exact ⟨fm u b1, b2⟩
  · intro i hi
    by_cases e : i = k
    · subst e
      rw [fput_s]
      obtain ⟨b1, b2, b3⟩ := a10 i (by omega)
      obtain ⟨c1, c2, c3⟩ := a10 (i + 1) (Nat.le_refl _)
      refine ⟨by omega, fun u hu hlt => by have := b2 u hu hlt; omega, fun v u hv h1 _ hvu => ?_⟩
      rcases Nat.lt_trichotomy (d v) (d (s (i + 1))) with z | z | z
      · have := b3 v u hv h1 (fun _ => z) hvu; omega
      · have := a6 v (s (i + 1)) hv hf1.1 z
        subst this
        have := c2 u hvu (hall u hvu); omega
      · have := c3 v u hv z (fun q => by omega) hvu; omega
    · rw [fput_n (nek i (by omega))]
      obtain ⟨b1, b2, b3⟩ := a10 i (by omega)
      exact ⟨b1, b2, fun v u hv h1 h2 hvu => b3 v u hv h1 (fun _ => h2 (by omega)) hvu⟩
  · intro i hi
    by_cases e : i = k
    · subst e
      rw [fput_s]
      have b1 := (a10 i (by omega)).1
      rcases Nat.lt_or_ge (lo (s (i + 1))) (lo (s i)) with c | c
      · rw [Nat.min_eq_right (Nat.le_of_lt c)]
        rcases a11 (i + 1) (Nat.le_refl _) with z | ⟨v, u, z1, z2, z3, z4, z5⟩
        · omega
        · exact Or.inr ⟨v, u, z1, by omega, z3, z4, z5⟩
      · rw [Nat.min_eq_left c]; exact a11 i (by omega)
    · rw [fput_n (nek i (by omega))]
      exact a11 i (by omega)
  · intro i v hi hv hd; exact a12 i v (by omega) hv hd
  · intro f v hf hBf hf0' hcu hv hBv hvf hpen
    by_cases e : f = s k
    · subst e
      have hk : 0 < k := by
        rcases Nat.eq_zero_or_pos k with c | c
        · subst c; exact absurd rfl hf0'
        · exact c
      have hcu2 := hcu
      rw [(hA hk).2] at hcu2
      have hlo : lo (s (k + 1)) < d (s k) := by
        rcases Nat.lt_or_ge (lo (s (k + 1))) (d (s k)) with c | c
        · exact c
        · rw [if_pos c, fput_s] at hcu2; cases hcu2
      rw [if_neg (by omega)] at hcu2
      have old : ∀ v, fs v = true → B ≤ d v → v ≠ s k → d v < d (s (k + 1)) → Cn A (Pm th (s k)) (s 0) v := fun v h1 h2 h3 h4 => by
        refine a13 (s k) v hf hBf hf0' hcu2 h1 h2 h3 (fun i hi ei => ?_)
        have : i = k := by
          rcases Nat.lt_or_ge i k with c | c
          · exact absurd ei.symm (nek i c)
          · omega
        subst this; exact h4
      rcases Nat.lt_or_ge (d v) (d (s (k + 1))) with c | c
      · exact old v hv hBv hvf c
      · have xp : ∀ w, XP fs d (d (s (k + 1))) w = true → Pm th (s k) w = true := fun w hw => by
          obtain ⟨w1, w2⟩ := XP_i.mp hw
          exact Pm_i.mpr ⟨(a5 w w1).2.2, fun e => by rw [e] at w2; omega⟩
        rcases a11 (k + 1) (Nat.le_refl _) with z | ⟨v0, u0, z1, z2, z3, z4, z5⟩
        · omega
        · have hBv0 : B ≤ d v0 := by have := hf1.2.1; omega
          have hu0 := old u0 z4 (hin v0 u0 hBv0 z4 z3) (fun e => by rw [e] at z5; omega) (by omega)
          have h1 := hu0.st (c := v0) (by rw [hs]; exact z3) (Pm_i.mpr ⟨(a5 v0 z1).2.2, fun e => by rw [e] at z2; omega⟩)
          have h2 := ((a12 (k + 1) v0 (Nat.le_refl _) z1 z2).mono xp).sy hs
          have h3 := (a12 (k + 1) v (Nat.le_refl _) hv c).mono xp
          exact (h1.tr h2).tr h3
    · rw [cun f e] at hcu
      refine a13 f v hf hBf hf0' hcu hv hBv hvf (fun i hi ei => ?_)
      rcases Nat.lt_or_ge i k with c | c
      · exact hpen i c ei
      · have : i = k := by omega
        subst this; exact absurd ei e
  · intro f hcu
    by_cases e : f = s k
    · subst e
      cases hc0 : cu (s k) with
      | true => exact a14 _ hc0
      | false =>
        refine ⟨hf0.1, ?_⟩
        have hAk := (a2 k (by omega)).2.1
        have thk := (a5 _ hf0.1).2.2
        have cn1 : Cn A th (s k) (s (k + 1)) := (Cn.rf thk).st hAk (a5 _ hf1.1).2.2
        have root : ∀ v, fs v = true → B ≤ d v → Cn A th (s 0) v := fun v h1 h2 => (a12 0 v (by omega) h1 (by rw [a3.2.1]; exact h2)).mono (fun w hw => (a5 w (XP_i.mp hw).1).2.2)
        have rk := root (s k) hf0.1 hf0.2.1
        rcases Nat.eq_zero_or_pos k with c | c
        · subst c
          have hrb : 2 ≤ rb + 1 := by
            rcases Nat.lt_or_ge (rb + 1) 2 with z | z
            · rw [(hB rfl).2, if_neg (by omega), hc0] at hcu; cases hcu
            · exact z
          obtain ⟨w, w1, w2, w3, w4⟩ := a17 (by omega)
          refine ⟨s (0 + 1), w, cn1, root w w1 w2, fun q => ne 0 (Nat.le_refl _) q.symm, w3, fun hc => ?_⟩
          have := (clos (fun w hw hwB hw0 _ => ?_) w hc).2
          · have q2 : d w < d (s (0 + 1)) := w4 (by omega)
            omega
          · have : d w ≠ d (s 0) := fun e => hw0 (a6 _ _ hw hf0.1 e)
            rw [a3.2.1] at this ⊢; omega
        · have hlo : d (s k) ≤ lo (s (k + 1)) := by
            rcases Nat.lt_or_ge (lo (s (k + 1))) (d (s k)) with z | z
            · rw [(hA c).2, if_neg (by omega), hc0] at hcu; cases hcu
            · exact z
          refine ⟨s (k + 1), s 0, cn1, rk.sy hs, fun q => ne k (Nat.le_refl _) q.symm, nek 0 c, fun hc => ?_⟩
          have := (clos (fun w hw hwB hw0 hex => ?_) (s 0) hc).2
          · have := hmo (k + 1) 0 (by omega) (Nat.le_refl _); omega
          · obtain ⟨u, hu1, hu2, hu3⟩ := hex
            have hdw : lo (s (k + 1)) ≤ d w := by
              obtain ⟨c1, c2, c3⟩ := a10 (k + 1) (Nat.le_refl _)
              by_cases e : u = s (k + 1)
              · subst e; exact c2 w hu3 (hall w hu3)
              · have : d u ≠ d (s (k + 1)) := fun z => e (a6 _ _ hu1 hf1.1 z)
                exact c3 u w hu1 (by omega) (fun q => by omega) hu3
            have : d w ≠ d (s k) := fun e => hw0 (a6 _ _ hw hf0.1 e)
            omega
    · rw [cun f e] at hcu; exact a14 f hcu
  · intro hrb v hv hBv hv0
    rcases Nat.eq_zero_or_pos k with c | c
    · rw [(hB c).1] at hrb; omega
    · rw [(hA c).1] at hrb
      exact ⟨c, (a15 hrb v hv hBv hv0).2⟩
  · intro hrb
    rcases Nat.eq_zero_or_pos k with c | c
    · rw [(hB c).1] at hrb
      subst c
      refine ⟨s (0 + 1), fun v hv hBv hv0 _ => ?_⟩
      have := (a15 (by omega) v hv hBv hv0).2
      refine (a12 (0 + 1) v (Nat.le_refl _) hv this).mono (fun w hw => ?_)
      obtain ⟨w1, w2⟩ := XP_i.mp hw
      exact Pm_i.mpr ⟨(a5 w w1).2.2, fun e => by rw [e] at w2; omega⟩
    · rw [(hA c).1] at hrb
      obtain ⟨z, hz⟩ := a16 hrb
      exact ⟨z, fun v hv hBv hv0 hlt => hz v hv hBv hv0 (fun _ => hlt c)⟩
  · intro hrb
    rcases Nat.eq_zero_or_pos k with c | c
    · subst c
      exact ⟨s (0 + 1), hf1.1, hf1.2.1, fun q => ne 0 (Nat.le_refl _) q.symm, fun q => by omega⟩
    · rw [(hA c).1] at hrb
      obtain ⟨w, w1, w2, w3, w4⟩ := a17 hrb
      exact ⟨w, w1, w2, w3, fun _ => w4 (by omega)⟩
  · rcases Nat.eq_zero_or_pos k with c | c
    · subst c
      rw [(hB rfl).1, (hB rfl).2]
      by_cases z : 2 ≤ rb + 1
      · rw [if_pos z, fput_s, decide_eq_true z]
      · rw [if_neg z, a18, decide_eq_false z, decide_eq_false (by omega)]
    · rw [cun _ (nek 0 c), (hA c).1]; exact a18
  · intro hp v u hv hvu hf
    by_cases e : v = s (k + 1)
    · subst e; exact a20 hp _ _ hv hvu (Or.inr (hall u hvu))
    · rw [fput_n e] at hf; exact a20 hp v u hv hvu hf
  · intro v hv
    by_cases e : v = s (k + 1)
    · rw [e]; exact hf1.1
    · rw [fput_n e] at hv; exact a23 v hv
/-- the walk at its end -/
theorem WI.stop (hs : ∀ a b, A a b = A b a) (h : WI A th nu B fs d lo pa tt ls sd cu n rb pt fin s 0) (hall : ∀ u, A (s 0) u = true → u < tt (s 0)) :
    (∀ v, fs v = true → B ≤ d v → ∀ u, A v u = true → fs u = true ∧ B ≤ d u) ∧ (∀ v, (fs v = true ∧ B ≤ d v) ↔ (B ≤ d v ∧ fs v = true ∧ Cn A th (s 0) v)) ∧ (∀ v, Cn A th (s 0) v → fs v = true ∧ B ≤ d v) ∧ (∀ v, fs v = true → B ≤ d v → Cn A th (s 0) v) ∧ (∀ f, fs f = true → B ≤ d f → (cu f = true ↔ CutP A th f)) := by
  have hin := fun v u => h.in hs (v := v) (u := u)
  obtain ⟨a1, a2, a3, a4, a5, a6, a7, a8, a9, a10, a11, a12, a13, a14, a15, a16, a17, a18, a19, a20, a21, a22, a23⟩ := h
  have cl : ∀ v, fs v = true → B ≤ d v → ∀ u, A v u = true → fs u = true ∧ B ≤ d u := fun v hv hB u hu => by
    have : fs u = true := by
      cases e : fin v with
      | true => exact a8 v u hv hB hu (Or.inl e)
      | false =>
        obtain ⟨i, hi, ei⟩ := a4 v hv hB e
        have : i = 0 := by omega
        subst this
        rw [ei] at hu
        exact a8 v u hv hB (by rw [ei]; exact hu) (Or.inr (by rw [ei]; exact hall u hu))
    exact ⟨this, hin v u hB this hu⟩
  have root : ∀ v, fs v = true → B ≤ d v → Cn A th (s 0) v := fun v h1 h2 => (a12 0 v (Nat.le_refl _) h1 (by rw [a3.2.1]; exact h2)).mono (fun w hw => (a5 w (XP_i.mp hw).1).2.2)
  have rev : ∀ v, Cn A th (s 0) v → fs v = true ∧ B ≤ d v := fun v hc => hc.ind (R := fun v => fs v = true ∧ B ≤ d v) ⟨(a1 0 (Nat.le_refl _)).1, (a1 0 (Nat.le_refl _)).2.1⟩ (fun u v _ hu hA _ => cl u hu.1 hu.2 v hA)
  refine ⟨cl, fun v => ⟨fun q => ⟨q.2, q.1, root v q.1 q.2⟩, fun q => ⟨q.2.1, q.1⟩⟩, rev, root, fun f hf hB => ⟨fun hc => (a14 f hc).2, fun hc => ?_⟩⟩
  cases hcu : cu f with
  | true => rfl
  | false =>
    exfalso
    obtain ⟨u, v, h1, h2, h3, h4, h5⟩ := hc
    have rf := root f hf hB
    obtain ⟨u1, u2⟩ := rev u (rf.tr h1)
    obtain ⟨v1, v2⟩ := rev v (rf.tr h2)
    by_cases e : f = s 0
    · subst e
      rw [a18] at hcu
      have hrb := of_decide_eq_false hcu
      rcases Nat.eq_zero_or_pos rb with c | c
      · have := (a15 c u u1 u2 h3).1; omega
      · obtain ⟨z, hz⟩ := a16 (by omega)
        have z1 := hz u u1 u2 h3 (fun q => by omega)
        have z2 := hz v v1 v2 h4 (fun q => by omega)
        exact h5 ((z1.sy hs).tr z2)
    · have z1 := a13 f u hf hB e hcu u1 u2 h3 (fun i hi => by omega)
      have z2 := a13 f v hf hB e hcu v1 v2 h4 (fun i hi => by omega)
      exact h5 ((z1.sy hs).tr z2)
/-- the walk's beginning: a root entered, all before it closed -/
theorem WI.start {r : Nat} (hr : fs r = false) (hrn : r < nu) (hrt : th r = true) (b5 : ∀ v, fs v = true → d v < n ∧ v < nu ∧ th v = true) (b6 : ∀ v w, fs v = true → fs w = true → d v = d w → v = w) (b7 : ∀ v, fs v = true → fin v = true ∧ ∀ u, A v u = true → fs u = true) (b14 : ∀ f, cu f = true → fs f = true ∧ CutP A th f) (b20 : pt = true → ∀ v u, fs v = true → A v u = true → sd u ≠ sd v) (b21 : pt = false → ¬ ∃ c, Two A c) (b23 : ∀ v, fin v = true → fs v = true) :
    WI A th nu n (fput fs r true) (fput d r n) (fput lo r n) (fput pa r (-1)) (fput tt r 0) (fput ls r r) (fput sd r true) cu (n + 1) 0 pt fin (fun _ => r) 0 := by
  have fo' : ∀ v, fs v = true → v ≠ r := fun v hv e => by rw [e, hr] at hv; cases hv
  have fs' : ∀ v, fput fs r true v = true → v = r ∨ fs v = true := fun v hv => by
    by_cases e : v = r
    · exact Or.inl e
    · rw [fput_n e] at hv; exact Or.inr hv
  have fsu : ∀ v, fs v = true → fput fs r true v = true := fun v hv => by rw [fput_n (fo' v hv)]; exact hv
  have finr : fin r = false := by
    cases e : fin r with
    | false => rfl
    | true => have := b23 r e; rw [hr] at this; cases this
  have cur : cu r = false := by
    cases e : cu r with
    | false => rfl
    | true => have := (b14 r e).1; rw [hr] at this; cases this
  have onl : ∀ v, fput fs r true v = true → n ≤ fput d r n v → v = r := fun v hv hd => by
    rcases fs' v hv with e | e
    · exact e
    · rw [fput_n (fo' v e)] at hd; have := (b5 v e).1; omega
  refine ⟨?_, ?_, ?_, ?_, ?_, ?_, ?_, ?_, ?_, ?_, ?_, ?_, ?_, ?_, ?_, ?_, ?_, ?_, ?_, ?_, b21, ?_, ?_⟩
  · intro i _; rw [fput_s, fput_s]; exact ⟨rfl, Nat.le_refl _, finr⟩
  · intro i hi; omega
  · rw [fput_s, fput_s, fput_s]; exact ⟨rfl, rfl, rfl⟩
  · intro v hv hd _; exact ⟨0, Nat.le_refl _, onl v hv hd⟩
  · intro v hv
    rcases fs' v hv with e | e
    · rw [e, fput_s]; exact ⟨by omega, hrn, hrt⟩
    · rw [fput_n (fo' v e)]; obtain ⟨c1, c2⟩ := b5 v e; exact ⟨by omega, c2⟩
  · intro v w hv hw hd
    rcases fs' v hv with e | e
    · rcases fs' w hw with e' | e'
      · rw [e, e']
      · rw [e, fput_s, fput_n (fo' w e')] at hd; have := (b5 w e').1; omega
    · rcases fs' w hw with e' | e'
      · rw [e', fput_s, fput_n (fo' v e)] at hd; have := (b5 v e).1; omega
      · rw [fput_n (fo' v e), fput_n (fo' w e')] at hd; exact b6 v w e e' hd
  · intro v hv hlt
    rcases fs' v hv with e | e
    · rw [e, fput_s] at hlt; omega
    · obtain ⟨c1, c2⟩ := b7 v e
      refine ⟨c1, fun u hu => ?_⟩
      have := c2 u hu
      exact ⟨fsu u this, by rw [fput_n (fo' u this)]; exact (b5 u this).1⟩
  · intro v u hv hd hvu hf
    have := onl v hv hd
    subst this
    rw [fput_s] at hf
    rcases hf with c | c
    · rw [finr] at c; cases c
    · omega
  · intro i u w hi; omega
  · intro i _
    rw [fput_s, fput_s, fput_s]
    refine ⟨Nat.le_refl _, fun u _ hlt => by omega, fun v u hv h1 => ?_⟩
    have := onl v hv (by omega)
    rw [this, fput_s] at h1; omega
  · intro i _; rw [fput_s, fput_s]; exact Or.inl rfl
  · intro i v _ hv hd
    rw [fput_s] at hd ⊢
    have := onl v hv hd
    rw [this]
    exact Cn.rf (XP_i.mpr ⟨fput_s, by rw [fput_s]; exact Nat.le_refl _⟩)
  · intro f v hf hd hf0; exact absurd (onl f hf hd) hf0
  · intro f hf; obtain ⟨c1, c2⟩ := b14 f hf; exact ⟨fsu f c1, c2⟩
  · intro _ v hv hd hv0; exact absurd (onl v hv hd) hv0
  · intro h; omega
  · intro h; omega
  · show cu r = _; rw [cur]; rfl
  · intro c _ v hv hd
    have := onl v hv hd
    rw [this, fput_s]; simp
  · intro hp v u hv hvu hf
    rcases fs' v hv with e | e
    · subst e
      rw [fput_s] at hf
      rcases hf with c | c
      · rw [finr] at c; cases c
      · omega
    · have hfu := (b7 v e).2 u hvu
      rw [fput_n (fo' v e), fput_n (fo' u hfu)]
      exact b20 hp v u e hvu
  · intro v hv hd
    have := onl v hv hd
    rw [this, fput_s]
  · intro v hv; exact fsu v (b23 v hv)
end DFS2
