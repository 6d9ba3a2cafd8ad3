/-! ===== pairs, purely ===== -/
theorem ct_inj {p q : Nat → Bool} {f : Nat → Nat} {n : Nat} (h1 : ∀ i, i < n → p i = true → f i < n ∧ q (f i) = true) (h2 : ∀ i j, i < n → j < n → p i = true → p j = true → f i = f j → i = j) : fb_ct p n ≤ fb_ct q n := by
  have hk : ∀ k, ∃ i, k < fb_ct p n → i < n ∧ p i = true ∧ fb_ct p i = k := fun k => by
    by_cases c : k < fb_ct p n
    · obtain ⟨i, a⟩ := fb_ct_kth c
      exact ⟨i, fun _ => a⟩
    · exact ⟨0, fun z => absurd z c⟩
  obtain ⟨e, he⟩ := Classical.axiomOfChoice hk
  refine fb_holes (fb_ct q n) (fb_ct p n) (fun k => fb_ct q (f (e k))) (fun k hk' => ?_) (fun i j hij hj z => ?_)
  · obtain ⟨a1, a2, a3⟩ := he k hk'
    obtain ⟨b1, b2⟩ := h1 _ a1 a2
    have := fb_ct_mono q (show f (e k) + 1 ≤ n from b1)
    rw [fb_ct_succ, if_pos b2] at this
    show fb_ct q (f (e k)) < fb_ct q n
    omega
  · obtain ⟨a1, a2, a3⟩ := he i (by omega)
    obtain ⟨b1, b2, b3⟩ := he j hj
    have e1 := fb_ct_kth_one (h1 _ a1 a2).2 (h1 _ b1 b2).2 z
    have e2 := h2 _ _ a1 b1 a2 b2 e1
    rw [e2] at a3
    omega
theorem ct_onto {p q : Nat → Bool} {f : Nat → Nat} {n : Nat} (h1 : ∀ i, i < n → p i = true → f i < n ∧ q (f i) = true) (h2 : ∀ i j, i < n → j < n → p i = true → p j = true → f i = f j → i = j) (hle : fb_ct q n ≤ fb_ct p n) : ∀ j, j < n → q j = true → ∃ i, i < n ∧ p i = true ∧ f i = j := by
  intro j hj hq
  apply Classical.byContradiction
  intro hno
  have h3 := ct_inj (q := fun k => if k = j then false else q k) (p := p) (f := f) (n := n) (fun i hi hp => by
    obtain ⟨a, b⟩ := h1 i hi hp
    refine ⟨a, ?_⟩
    have : f i ≠ j := fun e => hno ⟨i, hi, hp, e⟩
    show (if f i = j then false else q (f i)) = true
    rw [if_neg this]; exact b) h2
  have e := fb_ct_upd q false hj
  rw [if_pos hq] at e
  simp only [Bool.false_eq_true, if_false] at e
  omega
def VM (A : Nat → Nat → Bool) (pr : Nat → Option Nat) : Prop := ∀ u v, pr u = some v → A u v = true ∧ pr v = some u
def nh (pr : Nat → Option Nat) (ho : Option Nat) : Nat → Option Nat := fun v => if ho = some v then none else pr v
def tw (pr : Nat → Option Nat) (a b : Nat) : Nat → Option Nat := fput (fput pr b (some a)) a (some b)
theorem nh_0 {pr : Nat → Option Nat} : nh pr none = pr := by
  funext v; unfold nh; rw [if_neg (by simp)]
theorem tw_a {pr : Nat → Option Nat} {a b : Nat} : tw pr a b a = some b := fput_s
theorem tw_b {pr : Nat → Option Nat} {a b : Nat} (h : b ≠ a) : tw pr a b b = some a := (fput_n h).trans fput_s
theorem tw_n {pr : Nat → Option Nat} {a b v : Nat} (h : v ≠ a) (h' : v ≠ b) : tw pr a b v = pr v := (fput_n h).trans (fput_n h')
/-- links go from side to side, and among those there -/
def GB (A : Nat → Nat → Bool) (L th : Nat → Bool) (nu : Nat) : Prop := (∀ a b, A a b = A b a) ∧ Two A L ∧ (∀ a b, A a b = true → th a = true) ∧ (∀ v, th v = true → v < nu)
/-- closed under links from the first side and pairs from the second, all of the second in pairs -/
def CL (A : Nat → Nat → Bool) (L : Nat → Bool) (pr : Nat → Option Nat) (W : Nat → Prop) : Prop := (∀ a b, W a → L a = true → A a b = true → W b) ∧ (∀ b, W b → L b = false → ∃ a, pr b = some a ∧ W a)
def Zr (A : Nat → Nat → Bool) (L th : Nat → Bool) (pr : Nat → Option Nat) (v : Nat) : Prop := ∀ R : Nat → Prop, (∀ a, th a = true → L a = true → pr a = none → R a) → (∀ a b, R a → L a = true → A a b = true → R b) → (∀ b a, R b → L b = false → pr b = some a → R a) → R v
def Mx (A : Nat → Nat → Bool) (L th : Nat → Bool) (pr : Nat → Option Nat) : Prop := ∀ b, Zr A L th pr b → L b = false → pr b ≠ none
noncomputable def CV (A : Nat → Nat → Bool) (L th : Nat → Bool) (pr : Nat → Option Nat) : Nat → Bool := fun v => th v && (L v ^^ cB (Zr A L th pr v))
def PN (L : Nat → Bool) (pr : Nat → Option Nat) (n : Nat) : Nat := fb_ct (fun v => L v && (pr v).isSome) n
section MATCH
variable {A : Nat → Nat → Bool} {L th : Nat → Bool} {nu : Nat} {pr pr' : Nat → Option Nat} {a b : Nat}
theorem GB.ne (hG : GB A L th nu) (h : A a b = true) : a ≠ b := fun e => by
  have := hG.2.1 a b h
  rw [e] at this; exact this rfl
theorem GB.r (hG : GB A L th nu) (h : A a b = true) (ha : L a = true) : L b = false := by
  have := hG.2.1 a b h
  rw [ha] at this
  cases e : L b with
  | false => rfl
  | true => rw [e] at this; exact absurd rfl this
theorem GB.l (hG : GB A L th nu) (h : A a b = true) (ha : L a = false) : L b = true := by
  have := hG.2.1 a b h
  rw [ha] at this
  cases e : L b with
  | true => rfl
  | false => rw [e] at this; exact absurd rfl this
theorem GB.t (hG : GB A L th nu) (h : A a b = true) : th a = true ∧ th b = true ∧ a < nu ∧ b < nu := by
  have h1 := hG.2.2.1 a b h
  have h2 := hG.2.2.1 b a (by rw [hG.1]; exact h)
  exact ⟨h1, h2, hG.2.2.2 a h1, hG.2.2.2 b h2⟩
theorem VM.turn (hG : GB A L th nu) (h : VM A (nh pr (some b))) (hA : A a b = true) : VM A (nh (tw pr a b) (pr a)) := by
  have hab : a ≠ b := hG.ne hA
  have H : ∀ u v, u ≠ b → pr u = some v → A u v = true ∧ v ≠ b ∧ pr v = some u := fun u v hu e => by
    have e1 : nh pr (some b) u = some v := by unfold nh; rw [if_neg (fun z => hu (Option.some.inj z).symm)]; exact e
    obtain ⟨q1, q2⟩ := h u v e1
    unfold nh at q2
    by_cases c : some b = some v
    · rw [if_pos c] at q2; cases q2
    · rw [if_neg c] at q2; exact ⟨q1, fun z => c (by rw [z]), q2⟩
  intro u v hu
  unfold nh at hu
  by_cases c : pr a = some u
  · rw [if_pos c] at hu; cases hu
  · rw [if_neg c] at hu
    unfold nh
    by_cases ua : u = a
    · subst ua
      rw [tw_a] at hu
      have := Option.some.inj hu
      subst this
      refine ⟨hA, ?_⟩
      rw [if_neg (fun z => (H u b hab z).2.1 rfl), tw_b (Ne.symm hab)]
    · by_cases ub : u = b
      · subst ub
        rw [tw_b (Ne.symm hab)] at hu
        have := Option.some.inj hu
        subst this
        refine ⟨by rw [hG.1]; exact hA, ?_⟩
        rw [if_neg (fun z => hG.ne (H a a hab z).1 rfl), tw_a]
      · rw [tw_n ua ub] at hu
        obtain ⟨q1, q2, q3⟩ := H u v ub hu
        have va : v ≠ a := fun e => c (by rw [← e]; exact q3)
        refine ⟨q1, ?_⟩
        rw [if_neg (fun z => ua (by have := (H a v hab z).2.2; rw [q3] at this; exact Option.some.inj this)), tw_n va q2]
        exact q3
theorem Zr.free (h1 : th a = true) (h2 : L a = true) (h3 : pr a = none) : Zr A L th pr a := fun _ r1 _ _ => r1 a h1 h2 h3
theorem Zr.link (h : Zr A L th pr a) (h2 : L a = true) (h3 : A a b = true) : Zr A L th pr b := fun R r1 r2 r3 => r2 a b (h R r1 r2 r3) h2 h3
theorem Zr.pair (h : Zr A L th pr b) (h2 : L b = false) (h3 : pr b = some a) : Zr A L th pr a := fun R r1 r2 r3 => r3 b a (h R r1 r2 r3) h2 h3
theorem CV_i {v : Nat} : CV A L th pr v = true ↔ th v = true ∧ ((L v = true ∧ ¬ Zr A L th pr v) ∨ (L v = false ∧ Zr A L th pr v)) := by
  unfold CV
  rw [Bool.and_eq_true]
  cases e : L v with
  | true => simp [cB_f]
  | false => simp [cB_iff]
/-- each pair of any pairing holds a ring of the cover -/
theorem cov_map (hG : GB A L th nu) (hV : VM A pr') : (∀ i, i < nu → (fun v => L v && (pr' v).isSome) i = true → (fun v => if CV A L th pr v = true then v else (pr' v).getD 0) i < nu ∧ CV A L th pr ((fun v => if CV A L th pr v = true then v else (pr' v).getD 0) i) = true) ∧ (∀ i j, i < nu → j < nu → (fun v => L v && (pr' v).isSome) i = true → (fun v => L v && (pr' v).isSome) j = true → (fun v => if CV A L th pr v = true then v else (pr' v).getD 0) i = (fun v => if CV A L th pr v = true then v else (pr' v).getD 0) j → i = j) := by
  have key : ∀ i, (L i && (pr' i).isSome) = true → ∃ b, pr' i = some b ∧ L i = true ∧ L b = false ∧ A i b = true ∧ pr' b = some i := fun i hi => by
    rw [Bool.and_eq_true] at hi
    obtain ⟨b, hb⟩ := Option.isSome_iff_exists.mp hi.2
    obtain ⟨q1, q2⟩ := hV i b hb
    exact ⟨b, hb, hi.1, hG.r q1 hi.1, q1, q2⟩
  refine ⟨fun i hi hp => ?_, fun i j hi hj hp hq e => ?_⟩
  · obtain ⟨b, hb, l1, l2, q1, q2⟩ := key i hp
    show (if CV A L th pr i = true then i else (pr' i).getD 0) < nu ∧ CV A L th pr (if CV A L th pr i = true then i else (pr' i).getD 0) = true
    by_cases c : CV A L th pr i = true
    · rw [if_pos c]; exact ⟨hi, c⟩
    · rw [if_neg c, hb]
      refine ⟨(hG.t q1).2.2.2, ?_⟩
      have hz : Zr A L th pr i := Classical.byContradiction fun z => c (CV_i.mpr ⟨(hG.t q1).1, Or.inl ⟨l1, z⟩⟩)
      exact CV_i.mpr ⟨(hG.t q1).2.1, Or.inr ⟨l2, hz.link l1 q1⟩⟩
  · obtain ⟨b, hb, l1, l2, q1, q2⟩ := key i hp
    obtain ⟨b', hb', l1', l2', q1', q2'⟩ := key j hq
    have e' : (if CV A L th pr i = true then i else (pr' i).getD 0) = (if CV A L th pr j = true then j else (pr' j).getD 0) := e
    rw [hb, hb'] at e'
    by_cases c : CV A L th pr i = true
    · rw [if_pos c] at e'
      by_cases c' : CV A L th pr j = true
      · rw [if_pos c'] at e'; exact e'
      · rw [if_neg c'] at e'
        have : i = b' := e'
        rw [this, l2'] at l1; cases l1
    · rw [if_neg c] at e'
      by_cases c' : CV A L th pr j = true
      · rw [if_pos c'] at e'
        have : b = j := e'
        rw [this, l1'] at l2; cases l2
      · rw [if_neg c'] at e'
        have : b = b' := e'
        rw [this, q2'] at q2
        exact (Option.some.inj q2).symm
theorem cov_le (hG : GB A L th nu) (hV : VM A pr') : PN L pr' nu ≤ fb_ct (CV A L th pr) nu := ct_inj (cov_map hG hV).1 (cov_map hG hV).2
theorem cov_eq (hG : GB A L th nu) (hV : VM A pr) (hX : Mx A L th pr) : fb_ct (CV A L th pr) nu = PN L pr nu := by
  refine Nat.le_antisymm ?_ (cov_le hG hV)
  have kr : ∀ c, CV A L th pr c = true → L c = false → ∃ a, pr c = some a ∧ L a = true ∧ A c a = true ∧ pr a = some c ∧ Zr A L th pr a := fun c hc hl => by
    have hz : Zr A L th pr c := by
      rcases (CV_i.mp hc).2 with q | q
      · rw [hl] at q; cases q.1
      · exact q.2
    cases e : pr c with
    | none => exact absurd e (hX c hz hl)
    | some a =>
      obtain ⟨q1, q2⟩ := hV c a e
      exact ⟨a, rfl, hG.l q1 hl, q1, q2, hz.pair hl e⟩
  have kl : ∀ c, CV A L th pr c = true → L c = true → (pr c).isSome = true ∧ ¬ Zr A L th pr c := fun c hc hl => by
    rcases (CV_i.mp hc).2 with q | q
    · refine ⟨?_, q.2⟩
      cases e : pr c with
      | none => exact absurd (Zr.free (CV_i.mp hc).1 hl e) q.2
      | some a => rfl
    · rw [hl] at q; cases q.1
  refine ct_inj (f := fun c => if L c = true then c else (pr c).getD 0) (fun i hi hp => ?_) (fun i j hi hj hp hq e => ?_)
  · show (if L i = true then i else (pr i).getD 0) < nu ∧ (L (if L i = true then i else (pr i).getD 0) && (pr (if L i = true then i else (pr i).getD 0)).isSome) = true
    cases hl : L i with
    | true => rw [if_pos rfl, hl, (kl i hp hl).1]; exact ⟨hi, rfl⟩
    | false =>
      obtain ⟨a, q1, q2, q3, q4, -⟩ := kr i hp hl
      rw [if_neg (by decide), q1]
      show a < nu ∧ (L a && (pr a).isSome) = true
      rw [q2, q4]; exact ⟨(hG.t q3).2.2.2, rfl⟩
  · have e' : (if L i = true then i else (pr i).getD 0) = (if L j = true then j else (pr j).getD 0) := e
    cases hl : L i with
    | true =>
      rw [hl, if_pos rfl] at e'
      cases hl' : L j with
      | true => rw [hl', if_pos rfl] at e'; exact e'
      | false =>
        obtain ⟨a, q1, q2, q3, q4, q5⟩ := kr j hq hl'
        rw [hl', if_neg (by decide), q1] at e'
        have : i = a := e'
        rw [← this] at q5
        exact absurd q5 (kl i hp hl).2
    | false =>
      obtain ⟨a, q1, q2, q3, q4, q5⟩ := kr i hp hl
      rw [hl, if_neg (by decide), q1] at e'
      cases hl' : L j with
      | true =>
        rw [hl', if_pos rfl] at e'
        have : a = j := e'
        rw [this] at q5
        exact absurd q5 (kl j hq hl').2
      | false =>
        obtain ⟨a', q1', q2', q3', q4', q5'⟩ := kr j hq hl'
        rw [hl', if_neg (by decide), q1'] at e'
        have : a = a' := e'
        rw [this, q4'] at q4
        exact (Option.some.inj q4).symm
theorem pn_eq (hG : GB A L th nu) (hV : VM A pr) (hX : Mx A L th pr) (hV' : VM A pr') (hX' : Mx A L th pr') : PN L pr nu = PN L pr' nu := by
  have h1 := cov_le (pr := pr) hG hV'
  have h2 := cov_le (pr := pr') hG hV
  rw [cov_eq hG hV hX] at h1
  rw [cov_eq hG hV' hX'] at h2
  omega
theorem Zr.mono (hG : GB A L th nu) (hV : VM A pr) (hX : Mx A L th pr) (hV' : VM A pr') (hX' : Mx A L th pr') {v : Nat} (hz : Zr A L th pr' v) : Zr A L th pr v := by
  have on := ct_onto (cov_map (pr := pr) hG hV').1 (cov_map hG hV').2 (by rw [cov_eq hG hV hX, pn_eq hG hV hX hV' hX']; exact Nat.le_refl _)
  have key : ∀ i, (L i && (pr' i).isSome) = true → ∃ b, pr' i = some b ∧ L i = true ∧ L b = false ∧ A i b = true ∧ pr' b = some i := fun i hi => by
    rw [Bool.and_eq_true] at hi
    obtain ⟨b, hb⟩ := Option.isSome_iff_exists.mp hi.2
    obtain ⟨q1, q2⟩ := hV' i b hb
    exact ⟨b, hb, hi.1, hG.r q1 hi.1, q1, q2⟩
  refine hz (Zr A L th pr) (fun a ht hl hn => ?_) (fun a b h1 h2 h3 => h1.link h2 h3) (fun b a h1 h2 h3 => ?_)
  · apply Classical.byContradiction
    intro z
    obtain ⟨i, hi, hp, e⟩ := on a (hG.2.2.2 a ht) (CV_i.mpr ⟨ht, Or.inl ⟨hl, z⟩⟩)
    obtain ⟨b, hb, l1, l2, q1, q2⟩ := key i hp
    have e' : (if CV A L th pr i = true then i else (pr' i).getD 0) = a := e
    by_cases c : CV A L th pr i = true
    · rw [if_pos c] at e'; rw [e', hn] at hb; cases hb
    · rw [if_neg c, hb] at e'
      have : b = a := e'
      rw [this, hl] at l2; cases l2
  · obtain ⟨q1, q2⟩ := hV' b a h3
    obtain ⟨i, hi, hp, e⟩ := on b (hG.t q1).2.2.1 (CV_i.mpr ⟨(hG.t q1).1, Or.inr ⟨h2, h1⟩⟩)
    obtain ⟨b', hb, l1, l2, p1, p2⟩ := key i hp
    have e' : (if CV A L th pr i = true then i else (pr' i).getD 0) = b := e
    by_cases c : CV A L th pr i = true
    · rw [if_pos c] at e'; rw [e', h2] at l1; cases l1
    · rw [if_neg c, hb] at e'
      have hbb : b' = b := e'
      rw [hbb, h3] at p2
      have := Option.some.inj p2
      rw [this]
      exact Classical.byContradiction fun z => c (CV_i.mpr ⟨(hG.t p1).1, Or.inl ⟨l1, z⟩⟩)
theorem Zr.eq (hG : GB A L th nu) (hV : VM A pr) (hX : Mx A L th pr) (hV' : VM A pr') (hX' : Mx A L th pr') : CV A L th pr = CV A L th pr' := by
  funext v
  have : cB (Zr A L th pr v) = cB (Zr A L th pr' v) := by
    rw [Bool.eq_iff_iff, cB_iff, cB_iff]
    exact ⟨fun z => Zr.mono hG hV' hX' hV hX z, fun z => Zr.mono hG hV hX hV' hX' z⟩
  unfold CV
  rw [this]
/-- a closed set holds all that is reached, and then there are as many pairs as can be -/
theorem Mx.of {W : Nat → Prop} (hW : CL A L pr W) (h0 : ∀ a, th a = true → L a = true → pr a = none → W a) : Mx A L th pr := by
  have : ∀ v, Zr A L th pr v → W v := fun v hz => hz W h0 hW.1 (fun b a h1 h2 h3 => by
    obtain ⟨a', e, hw⟩ := hW.2 b h1 h2
    rw [h3] at e
    rw [Option.some.inj e]; exact hw)
  intro b hz hl e
  obtain ⟨a, e', -⟩ := hW.2 b (this b hz) hl
  rw [e] at e'; cases e'
/-! the reference's search -/
def FT (A : Nat → Nat → Bool) (L : Nat → Bool) (pr : Nat → Option Nat) (S : Nat → Bool) (a : Nat) (pr' : Nat → Option Nat) : Prop :=
  VM A (nh pr' (pr a)) ∧ pr' a ≠ none ∧ (∀ v, S v = true → L v = false → pr' v = pr v) ∧ (∀ v, L v = true → v ≠ a → ((pr' v = none ↔ pr v = none) ∧ (∀ w, pr v = some w → S w = true → pr' v = pr v))) ∧ (∀ W, CL A L pr W → ¬ W a ∧ ∀ v, W v → pr' v = pr v)
def FF (A : Nat → Nat → Bool) (L : Nat → Bool) (pr : Nat → Option Nat) (S : Nat → Bool) (a c : Nat) (S' : Nat → Bool) : Prop :=
  (∀ v, S v = true → S' v = true) ∧ (∀ b, b < c → A a b = true → S' b = true) ∧ (∀ b, S' b = true → S b = false → L b = false ∧ ∃ a', pr b = some a' ∧ ∀ u, A a' u = true → S' u = true)
theorem FT.base {S : Nat → Bool} (hG : GB A L th nu) (hV : VM A pr) (hl : L a = true) (hA : A a b = true) (hS : S b = false) (hb : pr b = none) (ho : ∀ w, pr a = some w → S w = true) : FT A L pr S a (tw pr a b) := by
  have hlb := hG.r hA hl
  have hab := hG.ne hA
  refine ⟨VM.turn hG (by
    intro u v e
    unfold nh at e ⊢
    by_cases c : some b = some u
    · rw [if_pos c] at e; cases e
    · rw [if_neg c] at e
      obtain ⟨q1, q2⟩ := hV u v e
      refine ⟨q1, ?_⟩
      rw [if_neg (fun z => by rw [← Option.some.inj z, hb] at q2; cases q2)]
      exact q2) hA, by rw [tw_a]; simp, fun v hv hlv => tw_n (fun e => by rw [e, hl] at hlv; cases hlv) (fun e => by rw [e, hS] at hv; cases hv), fun v hlv hva => ?_, fun W hW => ?_⟩
  · have : tw pr a b v = pr v := tw_n hva (fun e => by rw [e, hlb] at hlv; cases hlv)
    rw [this]; exact ⟨Iff.rfl, fun _ _ _ => rfl⟩
  · have nb : ¬ W b := fun z => by
      obtain ⟨a', e, -⟩ := hW.2 b z hlb
      rw [hb] at e; cases e
    have na : ¬ W a := fun z => nb (hW.1 a b z hl hA)
    exact ⟨na, fun v hv => tw_n (fun e => na (e ▸ hv)) (fun e => nb (e ▸ hv))⟩
theorem FT.step {S S2 : Nat → Bool} {a' : Nat} (hG : GB A L th nu) (hV : VM A pr) (hl : L a = true) (hA : A a b = true) (hS : S b = false) (hb : pr b = some a') (ho : ∀ w, pr a = some w → S w = true) (hsub : ∀ v, S v = true → S2 v = true) (h : FT A L pr S2 a' pr') : FT A L pr S a (tw pr' a b) := by
  obtain ⟨q1, q2, q3, q4, q5⟩ := h
  have hlb := hG.r hA hl
  have hab := hG.ne hA
  obtain ⟨v1, v2⟩ := hV b a' hb
  have hla' := hG.l v1 hlb
  have haa : a ≠ a' := fun e => by
    rw [← e] at v2
    have := ho b v2
    rw [hS] at this; cases this
  have pa : pr' a = pr a := by
    cases e : pr a with
    | none => exact (q4 a hl haa).1.mpr e
    | some w => exact ((q4 a hl haa).2 w e (hsub w (ho w e))).trans e
  have ne' : ∀ v, L v = true → v ≠ b := fun v hv e => by rw [e, hlb] at hv; cases hv
  refine ⟨by rw [← pa]; exact VM.turn hG (by rw [v2] at q1; exact q1) hA, by rw [tw_a]; simp, fun v hv hlv => ?_, fun v hlv hva => ?_, fun W hW => ?_⟩
  · rw [tw_n (fun e => by rw [e, hl] at hlv; cases hlv) (fun e => by rw [e, hS] at hv; cases hv)]
    exact q3 v (hsub v hv) hlv
  · rw [tw_n hva (ne' v hlv)]
    by_cases e : v = a'
    · subst e
      refine ⟨⟨fun z => absurd z q2, fun z => by rw [v2] at z; cases z⟩, fun w hw hSw => ?_⟩
      rw [v2] at hw
      rw [← Option.some.inj hw, hS] at hSw; cases hSw
    · exact ⟨(q4 v hlv e).1, fun w hw hSw => (q4 v hlv e).2 w hw (hsub w hSw)⟩
  · obtain ⟨na', same⟩ := q5 W hW
    have nb : ¬ W b := fun z => by
      obtain ⟨a2, e, hw⟩ := hW.2 b z hlb
      rw [hb] at e
      rw [← Option.some.inj e] at hw; exact na' hw
    have na : ¬ W a := fun z => nb (hW.1 a b z hl hA)
    exact ⟨na, fun v hv => (tw_n (fun (e : v = a) => na (e ▸ hv)) (fun (e : v = b) => nb (e ▸ hv))).trans (same v hv)⟩
/-- what failed is closed -/
theorem FF.cl {S' : Nat → Bool} (hG : GB A L th nu) (hV : VM A pr) (hl : L a = true) (h : FF A L pr (fun _ => false) a nu S') : CL A L pr (fun v => v = a ∨ S' v = true ∨ (L v = true ∧ ∃ b, S' b = true ∧ pr b = some v)) := by
  obtain ⟨h1, h2, h3⟩ := h
  refine ⟨fun u w hu hlu huw => ?_, fun w hw hlw => ?_⟩
  · rcases hu with e | e | ⟨-, b, e1, e2⟩
    · subst e; exact Or.inr (Or.inl (h2 w (hG.t huw).2.2.2 huw))
    · have := (h3 u e rfl).1; rw [hlu] at this; cases this
    · obtain ⟨-, a', e3, e4⟩ := h3 b e1 rfl
      rw [e2] at e3
      rw [Option.some.inj e3] at huw
      exact Or.inr (Or.inl (e4 w huw))
  · rcases hw with e | e | ⟨e, -⟩
    · rw [e, hl] at hlw; cases hlw
    · obtain ⟨-, a', e3, e4⟩ := h3 w e rfl
      have := (hV w a' e3).1
      exact ⟨a', e3, Or.inr (Or.inr ⟨hG.l this hlw, w, e, e3⟩)⟩
    · rw [hlw] at e; cases e
theorem CL.or {W W' : Nat → Prop} (h : CL A L pr W) (h' : CL A L pr W') : CL A L pr (fun v => W v ∨ W' v) := ⟨fun a b hw hl hA => hw.elim (fun c => Or.inl (h.1 a b c hl hA)) (fun c => Or.inr (h'.1 a b c hl hA)), fun b hw hl => hw.elim (fun c => by obtain ⟨a, e, q⟩ := h.2 b c hl; exact ⟨a, e, Or.inl q⟩) (fun c => by obtain ⟨a, e, q⟩ := h'.2 b c hl; exact ⟨a, e, Or.inr q⟩)⟩
theorem CL.keep {W : Nat → Prop} (h : CL A L pr W) (hs : ∀ v, W v → pr' v = pr v) : CL A L pr' W := ⟨h.1, fun b hw hl => by obtain ⟨a, e, q⟩ := h.2 b hw hl; exact ⟨a, by rw [hs b hw]; exact e, q⟩⟩
end MATCH
