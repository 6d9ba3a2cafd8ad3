/-! ===== the model's pieces ===== -/
section MNEAR
variable {l : Launch} {g : am_G} {d : Nat} {x : Bool} {h : am_H} {m : ml_T} {Wh : wv_T} {o : mo_T}
def dg (m : ml_T) (a : Nat) : Nat := fb_ct (m_aj m a) (m_nu m)
def NP (m : ml_T) (f ge : Nat → Int32) (a : Nat) : Prop := ∀ a', a' < a → f a' = nI (dg m a') ∧ ∀ b, b < m_nu m → m_aj m a' b = true → ge (300 * a' + fb_ct (m_aj m a') b) = nI b
def NR (h : am_H) (m : ml_T) : Prop := ∃ f ge, h[63]? = some (am_I 0 300 f) ∧ h[64]? = some (am_I 0 90000 ge) ∧ NP m f ge (m_nu m)
theorem NR.fr {h' : am_H} (hN : NR h m) (h3 : h'[63]? = h[63]?) (h4 : h'[64]? = h[64]?) : NR h' m := by
  obtain ⟨f, ge, a, b, c⟩ := hN
  exact ⟨f, ge, h3.trans a, h4.trans b, c⟩
theorem MM.out {h' : am_H} (hM : MM h m Wh o) (hf : ∀ i, i = 46 ∨ (52 ≤ i ∧ i ≤ 61) → h'[i]? = h[i]?) : MM h' m Wh o := hM.fr (hf 46 (Or.inl rfl)) (fun i a b => hf i (Or.inr ⟨a, b⟩))
theorem lm_near2 {Q : Option Value → am_H → Prop} {a : Nat} (hM : MM h m Wh o) (hv : ml_g m) (ha : a < m_nu m)
    (hK : ∀ h' f ge, h'[63]? = some (am_I 0 300 f) → h'[64]? = some (am_I 0 90000 ge) → NP m f ge (a + 1) → Fr 63 64 h h' → am_J l g mX9_findNear (d + 1) (0, 0, x) 2 [(0, .ref 46), (1, .int (nI (a + 1)))] [] h' Q) :
    ∀ k b h1 f ge, b + k = m_nu m → h1[63]? = some (am_I 0 300 f) → h1[64]? = some (am_I 0 90000 ge) → NP m f ge a → f a = nI (fb_ct (m_aj m a) b) → (∀ b', b' < b → m_aj m a b' = true → ge (300 * a + fb_ct (m_aj m a) b') = nI b') → Fr 63 64 h h1 → am_J l g mX9_findNear (d + 1) (0, 0, x) 19 [(0, .ref 46), (1, .int (nI a)), (2, .int (nI b))] [] h1 Q := by
  have hn : m_nu m ≤ 300 := hv.2.2.2.2.2.1
  intro k
  induction k with
  | zero =>
    intro b h1 f ge hb q3 q4 hN hfa hga hf
    have : b = m_nu m := by omega
    subst this
    have hM1 := hM.out (h' := h1) (fun i hi => hf i (by omega))
    refine rX9_findNear_19 (gtI hM1.1 rfl ⟨fun _ => ?_, fun z => absurd (nI_le (Nat.le_refl _) (by omega)) z⟩)
    rw [nI_1]
    refine hK h1 f ge q3 q4 (fun a' ha' => ?_) hf
    by_cases e : a' = a
    · subst e; exact ⟨hfa, hga⟩
    · exact hN a' (by omega)
  | succ k ih =>
    intro b h1 f ge hb q3 q4 hN hfa hga hf
    have hM1 := hM.out (h' := h1) (fun i hi => hf i (by omega))
    refine rX9_findNear_19 (gtI hM1.1 rfl ⟨fun z => absurd ((nI_leI (by omega) (by omega)).mp z) (by omega), fun _ => ⟨⟨_, hM1.1⟩, ms_areLinked hM1 (by omega) (by omega) ⟨fun z => ?_, fun z => ?_⟩⟩⟩)
    · have e := bi_0.mp z
      unfold zX9_findNear_64
      rw [nI_1]
      refine ih (b + 1) h1 f ge (by omega) q3 q4 hN (by rw [hfa, fb_ct_succ, e]; rfl) (fun b' hb' hj => hga b' ?_ hj) hf
      rcases Nat.lt_or_ge b' b with c | c
      · exact c
      · have : b' = b := by omega
        subst this; rw [e] at hj; cases hj
    · have e := bi_n0.mp z
      have hct := fb_ct_le (m_aj m a) b
      refine gtR hM1.1 rfl (gtR hM1.1 rfl (alI q3 (by omega) (by omega) ?_))
      rw [hfa, ix_t]
      refine asI q4 (by omega) (by decide) ?_
      have p3 : (h1.set 64 (am_I 0 90000 (upd ge (300 * a + fb_ct (m_aj m a) b) (nI b))))[63]? = some (am_I 0 300 f) := (st_ne (by decide)).trans q3
      have p0 : (h1.set 64 (am_I 0 90000 (upd ge (300 * a + fb_ct (m_aj m a) b) (nI b))))[46]? = some (c_mm o (nI m.2.1) (nI m.2.2.1) (nI (m_sh m)) (nI (m_nu m))) := (st_ne (by decide)).trans hM1.1
      refine gtR p0 rfl (alI p3 (by omega) (by omega) (asI p3 (by omega) (by omega) ?_))
      unfold zX9_findNear_64
      rw [hfa, nI_1, nI_1]
      refine ih (b + 1) _ (upd f a (nI (fb_ct (m_aj m a) b + 1))) (upd ge (300 * a + fb_ct (m_aj m a) b) (nI b)) (by omega) (st_eq p3) ((st_ne (by decide)).trans (st_eq q4)) (fun a' ha' => ?_) ?_ (fun b' hb' hj => ?_) ((hf.st (by decide)).st (by decide))
      · obtain ⟨n1, n2⟩ := hN a' ha'
        refine ⟨by rw [pk_un (by omega)]; exact n1, fun b2 hb2 hj => ?_⟩
        have := fb_ct_le (m_aj m a') b2
        rw [pk_un (by omega)]; exact n2 b2 hb2 hj
      · rw [pk_us, fb_ct_succ, e]; rfl
      · by_cases eb : b' = b
        · subst eb; rw [pk_us]
        · have h1' := fb_ct_mono (m_aj m a) (m := b' + 1) (n := b) (by omega)
          rw [fb_ct_succ, hj] at h1'
          simp only [if_true] at h1'
          rw [pk_un (by omega)]; exact hga b' (by omega) hj
theorem lm_near1 {Q : Option Value → am_H → Prop} (hM : MM h m Wh o) (hv : ml_g m) (hK : ∀ h', NR h' m → Fr 63 64 h h' → Q none h') :
    ∀ k a h1 f ge, a + k = m_nu m → h1[63]? = some (am_I 0 300 f) → h1[64]? = some (am_I 0 90000 ge) → NP m f ge a → Fr 63 64 h h1 → am_J l g mX9_findNear (d + 1) (0, 0, x) 2 [(0, .ref 46), (1, .int (nI a))] [] h1 Q := by
  have hn : m_nu m ≤ 300 := hv.2.2.2.2.2.1
  intro k
  induction k with
  | zero =>
    intro a h1 f ge ha q3 q4 hN hf
    have : a = m_nu m := by omega
    subst this
    have hM1 := hM.out (h' := h1) (fun i hi => hf i (by omega))
    exact rX9_findNear_2 (gtI hM1.1 rfl ⟨fun _ => hK h1 ⟨f, ge, q3, q4, hN⟩ hf, fun z => absurd (nI_le (Nat.le_refl _) (by omega)) z⟩)
  | succ k ih =>
    intro a h1 f ge ha q3 q4 hN hf
    have hM1 := hM.out (h' := h1) (fun i hi => hf i (by omega))
    refine rX9_findNear_2 (gtI hM1.1 rfl ⟨fun z => absurd ((nI_leI (by omega) (by omega)).mp z) (by omega), fun _ => gtR hM1.1 rfl (asI q3 (by omega) (by omega) ?_)⟩)
    refine lm_near2 (d := d) (a := a) hM hv (by omega) (fun h' f' ge' a1 a2 a3 a4 => ih (a + 1) h' f' ge' (by omega) a1 a2 a3 a4) (m_nu m) 0 _ (upd f a 0) ge (by omega) (st_eq q3) ((st_ne (by decide)).trans q4) (fun a' ha' => ?_) pk_us (fun b' hb' => by omega) (hf.st (by decide))
    obtain ⟨n1, n2⟩ := hN a' ha'
    exact ⟨by rw [pk_un (by omega)]; exact n1, n2⟩
theorem ms_findNear {K : am_H → Prop} {f ge : Nat → Int32} (hM : MM h m Wh o) (hv : ml_g m) (q3 : h[63]? = some (am_I 0 300 f)) (q4 : h[64]? = some (am_I 0 90000 ge)) (hK : ∀ h', NR h' m → Fr 63 64 h h' → K h') : cl_N l g mX9_findNear (d + 1) x [.ref 46] h K :=
  eX9_findNear (lm_near1 hM hv (fun h' a b => ⟨rfl, hK h' a b⟩) (m_nu m) 0 h f ge (by omega) q3 q4 (fun a' ha' => by omega) Fr.rf)
/-- the j-th ring near a -/
theorem NP.at {f ge : Nat → Int32} {a j : Nat} (hN : NP m f ge (m_nu m)) (ha : a < m_nu m) (hj : j < dg m a) : ∃ b, b < m_nu m ∧ m_aj m a b = true ∧ fb_ct (m_aj m a) b = j ∧ ge (300 * a + j) = nI b := by
  obtain ⟨b, h1, h2, h3⟩ := fb_ct_kth (p := m_aj m a) (k := j) (n := m_nu m) hj
  have := (hN a ha).2 b h1 h2
  rw [h3] at this
  exact ⟨b, h1, h2, h3, this⟩
theorem dg_lt {a b : Nat} (hb : b < m_nu m) (h : m_aj m a b = true) : fb_ct (m_aj m a) b < dg m a := by
  have := fb_ct_mono (m_aj m a) (m := b + 1) (n := m_nu m) (by omega)
  rw [fb_ct_succ, h] at this
  simp only [if_true] at this
  unfold dg
  omega
/-- the line: its rings, all of them reached from s -/
def LN (A : Nat → Nat → Bool) (P : Nat → Bool) (n s : Nat) (ln : Nat → Int32) (lv : Nat → Nat) (many : Nat) : Prop := 1 ≤ many ∧ lv 0 = s ∧ (∀ t, t < many → ln t = nI (lv t) ∧ lv t < n ∧ Cn A P s (lv t)) ∧ (∀ t t', t < t' → t' < many → lv t ≠ lv t')
theorem LN.le {A : Nat → Nat → Bool} {P : Nat → Bool} {n s many : Nat} {ln : Nat → Int32} {lv : Nat → Nat} (h : LN A P n s ln lv many) : many ≤ n := fb_holes n many lv (fun i hi => (h.2.2.1 i hi).2.1) h.2.2.2
theorem LN.put {A : Nat → Nat → Bool} {P : Nat → Bool} {n s many k : Nat} {ln : Nat → Int32} {lv : Nat → Nat} (h : LN A P n s ln lv many) (hk : k < n) (hc : Cn A P s k) (hno : ∀ t, t < many → lv t ≠ k) : LN A P n s (upd ln many (nI k)) (fun t => if t = many then k else lv t) (many + 1) := by
  obtain ⟨h1, h2, h3, h4⟩ := h
  refine ⟨by omega, by simp only [show ¬ 0 = many by omega, if_false]; exact h2, fun t ht => ?_, fun t t' htt ht' => ?_⟩
  · by_cases e : t = many
    · subst e; simp only [if_true]; exact ⟨pk_us, hk, hc⟩
    · simp only [if_neg e]; rw [pk_un e]; exact h3 t (by omega)
  · have e : t ≠ many := by omega
    simp only [if_neg e]
    by_cases e' : t' = many
    · simp only [if_pos e']; exact hno t (by omega)
    · simp only [if_neg e']; exact h4 t t' htt (by omega)
def inL (lv : Nat → Nat) (many v : Nat) : Bool := p_any (fun t => decide (lv t = v)) many
theorem inL_iff {lv : Nat → Nat} {many v : Nat} : inL lv many v = true ↔ ∃ t, t < many ∧ lv t = v := by
  unfold inL
  rw [p_any_iff]
  simp
theorem inL_put {lv : Nat → Nat} {many v k : Nat} : inL (fun t => if t = many then k else lv t) (many + 1) v = (inL lv many v || decide (k = v)) := by
  rw [Bool.eq_iff_iff, Bool.or_eq_true, inL_iff, inL_iff, decide_eq_true_eq]
  constructor
  · rintro ⟨t, ht, e⟩
    by_cases c : t = many
    · rw [if_pos c] at e; exact Or.inr e
    · rw [if_neg c] at e; exact Or.inl ⟨t, by omega, e⟩
  · rintro (⟨t, ht, e⟩ | e)
    · exact ⟨t, by omega, by rw [if_neg (by omega)]; exact e⟩
    · exact ⟨many, by omega, by rw [if_pos rfl]; exact e⟩
end MNEAR
section MSPREAD
variable {l : Launch} {g : am_G} {d : Nat} {x : Bool} {h : am_H} {m : ml_T} {Wh : wv_T} {o : mo_T} {P : Nat → Bool} {w : Int32} {s : Nat} {pc0 : Nat → Int32}
def PW (m : ml_T) (w : Int32) (P : Nat → Bool) : Prop := ∀ i, P i = true ↔ (i < m_nu m ∧ m_th m i = true ∧ ¬ nI i = w)
/-- what stands while the model spreads from s -/
def SP (h : am_H) (m : ml_T) (P : Nat → Bool) (s : Nat) (pc0 : Nat → Int32) (lv : Nat → Nat) (many : Nat) : Prop := ∃ pc ln, h[65]? = some (am_I 0 300 pc) ∧ h[66]? = some (am_I 0 300 ln) ∧ LN (m_aj m) P (m_nu m) s ln lv many ∧ ∀ v, v < m_nu m → pc v = if inL lv many v then nI s else pc0 v
/-- all near these are in the line -/
def SC (m : ml_T) (P : Nat → Bool) (lv : Nat → Nat) (many i j : Nat) : Prop := (∀ t, t < i → ∀ u, m_aj m (lv t) u = true → P u = true → inL lv many u = true) ∧ (∀ u, m_aj m (lv i) u = true → P u = true → fb_ct (m_aj m (lv i)) u < j → inL lv many u = true)
theorem lm_spread {Q : Option Value → am_H → Prop} (hM : MM h m Wh o) (hv : ml_ok m) (hN : NR h m) (hP : PW m w P) (hs : s < m_nu m) (h0 : ∀ v, Cn (m_aj m) P s v → pc0 v = -1)
    (hK : ∀ h' pc, h'[65]? = some (am_I 0 300 pc) → (∃ ln, h'[66]? = some (am_I 0 300 ln)) → (∀ v, v < m_nu m → (Cn (m_aj m) P s v → pc v = nI s) ∧ (¬ Cn (m_aj m) P s v → pc v = pc0 v)) → Fr 65 66 h h' → Q none h') :
    ∀ fu k i j many lv h1, fu + i = m_nu m → (i < many ∧ j + k = dg m (lv i)) → SP h1 m P s pc0 lv many → SC m P lv many i j → Fr 65 66 h h1 → am_J l g mX9_spreads d (0, 0, x) 42 [(0, .ref 46), (1, .int (nI s)), (2, .int w), (3, .int (nI many)), (4, .int (nI i)), (5, .int (nI (300 * lv i))), (6, .int (nI (300 * lv i + j)))] [] h1 Q := by
  have hn : m_nu m ≤ 300 := hv.1.2.2.2.2.2.1
  obtain ⟨f, ge, q3, q4, hNP⟩ := hN
  intro fu
  induction fu with
  | zero =>
    intro k i j many lv h1 hfu hij hS
    obtain ⟨pc, ln, p5, p6, hL, hpc⟩ := hS
    have := hL.le
    omega
  | succ fu ihf =>
    intro k
    induction k with
    | zero =>
      intro i j many lv h1 hfu hij hS hC hf
      obtain ⟨pc, ln, p5, p6, hL, hpc⟩ := id hS
      obtain ⟨him, hj⟩ := hij
      obtain ⟨el, elt, elc⟩ := hL.2.2.1 i him
      have hml := hL.le
      have hM1 := hM.out (h' := h1) (fun i hi => hf i (by omega))
      have p3 := (hf 63 (by decide)).trans q3
      have hdg := fb_ct_le (m_aj m (lv i)) (m_nu m)
      refine rX9_spreads_42 (gtR hM1.1 rfl (gtR hM1.1 rfl (alI p6 (by omega) (by omega) ?_)))
      rw [el]
      refine alI p3 (by omega) (by omega) ?_
      rw [(hNP (lv i) elt).1, nI_add]
      have hjd : j = dg m (lv i) := by omega
      have hdg' : dg m (lv i) ≤ 300 := by unfold dg; omega
      refine ⟨fun _ => ?_, fun z => absurd (nI_le (by omega) (by omega)) z⟩
      rw [nI_1]
      have hC' : ∀ t, t < i + 1 → ∀ u, m_aj m (lv t) u = true → P u = true → inL lv many u = true := fun t ht u hu hPu => by
        by_cases e : t = i
        · subst e
          refine hC.2 u hu hPu ?_
          rw [hjd]
          exact dg_lt ((hP u).mp hPu).1 hu
        · exact hC.1 t (by omega) u hu hPu
      by_cases e : i + 1 = many
      · refine rX9_spreads_19 ⟨fun _ => ?_, fun z => absurd (nI_le (by omega) (by omega)) z⟩
        have cl : ∀ v, Cn (m_aj m) P s v → inL lv many v = true := fun v hc => by
          refine hc.ind (R := fun v => inL lv many v = true) (inL_iff.mpr ⟨0, by omega, hL.2.1⟩) (fun u v _ hu hA hPv => ?_)
          obtain ⟨t, ht, et⟩ := inL_iff.mp hu
          exact hC' t (by omega) v (by rw [et]; exact hA) hPv
        refine hK h1 pc p5 ⟨ln, p6⟩ (fun v hvn => ⟨fun hc => ?_, fun hc => ?_⟩) hf
        · rw [hpc v hvn, if_pos (cl v hc)]
        · rw [hpc v hvn, if_neg (fun c => hc ?_)]
          obtain ⟨t, ht, et⟩ := inL_iff.mp c
          rw [← et]; exact (hL.2.2.1 t ht).2.2
      · refine rX9_spreads_19 ⟨fun z => absurd ((nI_leI (by omega) (by omega)).mp z) (by omega), fun _ => gtR hM1.1 rfl (alI p6 (by omega) (by omega) ?_)⟩
        obtain ⟨el', elt', -⟩ := hL.2.2.1 (i + 1) (by omega)
        rw [el', show (300 : Int32) * nI (lv (i + 1)) = nI (300 * lv (i + 1)) by rw [show (300 : Int32) = nI 300 from rfl, pk_mul]]
        have := ihf (dg m (lv (i + 1))) (i + 1) 0 many lv h1 (by omega) ⟨by omega, by omega⟩ hS ⟨hC', fun u _ _ hlt => by omega⟩ hf
        exact this
    | succ k ih =>
      intro i j many lv h1 hfu hij hS hC hf
      obtain ⟨pc, ln, p5, p6, hL, hpc⟩ := id hS
      obtain ⟨him, hj⟩ := hij
      obtain ⟨el, elt, elc⟩ := hL.2.2.1 i him
      have hml := hL.le
      have hM1 := hM.out (h' := h1) (fun i hi => hf i (by omega))
      have p3 := (hf 63 (by decide)).trans q3
      have p4 := (hf 64 (by decide)).trans q4
      have hdg := fb_ct_le (m_aj m (lv i)) (m_nu m)
      have hdg' : dg m (lv i) ≤ 300 := by unfold dg; omega
      obtain ⟨u, hu1, hu2, hu3, hu4⟩ := hNP.at (a := lv i) (j := j) elt (by omega)
      refine rX9_spreads_42 (gtR hM1.1 rfl (gtR hM1.1 rfl (alI p6 (by omega) (by omega) ?_)))
      rw [el]
      refine alI p3 (by omega) (by omega) ?_
      rw [(hNP (lv i) elt).1, nI_add]
      have hthu : m_th m u = true := by
        have := hu2
        unfold m_aj at this
        rw [Bool.or_eq_true] at this
        rcases this with c | c
        · exact (hv.2.2 _ _ c).2.1
        · exact (hv.2.2 _ _ c).1
      refine ⟨fun z => absurd ((nI_leI (by omega) (by omega)).mp z) (by omega), fun _ => gtR hM1.1 rfl (alI p4 (by omega) (by decide) ?_)⟩
      rw [hu4]
      have nxt : ∀ many' lv' h', lv' i = lv i → SP h' m P s pc0 lv' many' → SC m P lv' many' i (j + 1) → i < many' → Fr 65 66 h h' → zX9_spreads_106 l g d x 46 (nI s) w (nI many') (nI i) (nI (300 * lv i)) (nI (300 * lv i + j)) h' Q := by
        intro many' lv' h' e S' C' hi' f'
        unfold zX9_spreads_106
        rw [nI_1]
        have := ih i (j + 1) many' lv' h' hfu ⟨hi', by rw [e]; omega⟩ S' C' f'
        rw [e] at this
        exact this
      have same : (P u = true → inL lv many u = true) → SC m P lv many i (j + 1) := fun hh => ⟨hC.1, fun v hv1 hv2 hv3 => by
        rcases Nat.lt_or_ge (fb_ct (m_aj m (lv i)) v) j with c | c
        · exact hC.2 v hv1 hv2 c
        · have : v = u := fb_ct_kth_one hv1 hu2 (by omega)
          subst this
          exact hh hv2⟩
      refine ⟨fun z => nxt many lv h1 rfl hS (same (fun hPu => absurd z ((hP u).mp hPu).2.2)) him hf, fun z => gtR hM1.1 rfl (alI p5 (by omega) (by omega) ?_)⟩
      have hPu : P u = true := (hP u).mpr ⟨hu1, hthu, z⟩
      have hcu : Cn (m_aj m) P s u := elc.st hu2 hPu
      rw [hpc u hu1]
      cases hin : inL lv many u with
      | true =>
        rw [if_pos rfl]
        exact ⟨fun _ => nxt many lv h1 rfl hS (same (fun _ => hin)) him hf, fun y => absurd (nI_pos' (by omega)) y⟩
      | false =>
        rw [if_neg (by decide), h0 u hcu]
        refine ⟨fun y => absurd y (by decide), fun _ => gtR hM1.1 rfl (asI p5 (by omega) (by omega) ?_)⟩
        have hno : ∀ t, t < many → lv t ≠ u := fun t ht e => by
          have := inL_iff.mpr ⟨t, ht, e⟩
          rw [hin] at this; cases this
        have hL' := hL.put hu1 hcu hno
        have hml' := hL'.le
        have r0 : (h1.set 65 (am_I 0 300 (upd pc u (nI s))))[46]? = some (c_mm o (nI m.2.1) (nI m.2.2.1) (nI (m_sh m)) (nI (m_nu m))) := (st_ne (by decide)).trans hM1.1
        have r6 : (h1.set 65 (am_I 0 300 (upd pc u (nI s))))[66]? = some (am_I 0 300 ln) := (st_ne (by decide)).trans p6
        refine gtR r0 rfl (asI r6 (by omega) (by omega) ?_)
        rw [nI_1]
        refine nxt (many + 1) (fun t => if t = many then u else lv t) _ (by simp only [show ¬ i = many by omega, if_false]) ⟨upd pc u (nI s), upd ln many (nI u), (st_ne (by decide)).trans (st_eq p5), st_eq r6, hL', fun v hvn => ?_⟩ ⟨fun t ht v hv1 hv2 => ?_, fun v hv1 hv2 hv3 => ?_⟩ (by omega) ((hf.st (by decide)).st (by decide))
        · rw [inL_put]
          by_cases e : v = u
          · subst e; rw [pk_us, decide_eq_true rfl, Bool.or_true, if_pos rfl]
          · rw [pk_un e, decide_eq_false (fun c => e c.symm), Bool.or_false]; exact hpc v hvn
        · simp only [show ¬ t = many by omega, if_false] at hv1
          rw [inL_put, hC.1 t ht v hv1 hv2, Bool.true_or]
        · simp only [show ¬ i = many by omega, if_false] at hv1 hv3
          rw [inL_put]
          rcases Nat.lt_or_ge (fb_ct (m_aj m (lv i)) v) j with c | c
          · rw [hC.2 v hv1 hv2 c, Bool.true_or]
          · have : v = u := fb_ct_kth_one hv1 hu2 (by omega)
            rw [this, decide_eq_true rfl, Bool.or_true]
theorem ms_spread {K : am_H → Prop} {pc : Nat → Int32} {ln : Nat → Int32} (hM : MM h m Wh o) (hv : ml_ok m) (hN : NR h m) (hP : PW m w P) (hs : P s = true) (p5 : h[65]? = some (am_I 0 300 pc)) (p6 : h[66]? = some (am_I 0 300 ln)) (h0 : ∀ v, Cn (m_aj m) P s v → pc v = -1)
    (hK : ∀ h' pc', h'[65]? = some (am_I 0 300 pc') → (∃ ln, h'[66]? = some (am_I 0 300 ln)) → (∀ v, v < m_nu m → (Cn (m_aj m) P s v → pc' v = nI s) ∧ (¬ Cn (m_aj m) P s v → pc' v = pc v)) → Fr 65 66 h h' → K h') : cl_N l g mX9_spreads d x [.ref 46, .int (nI s), .int w] h K := by
  have hn : m_nu m ≤ 300 := hv.1.2.2.2.2.2.1
  have hsn := ((hP s).mp hs).1
  have q0 := hM.1
  refine eX9_spreads (gtR q0 rfl (asI (i := 0) p6 (by decide) (by decide) ?_))
  have r0 : (h.set 66 (am_I 0 300 (upd ln 0 (nI s))))[46]? = some (c_mm o (nI m.2.1) (nI m.2.2.1) (nI (m_sh m)) (nI (m_nu m))) := (st_ne (by decide)).trans q0
  have r5 : (h.set 66 (am_I 0 300 (upd ln 0 (nI s))))[65]? = some (am_I 0 300 pc) := (st_ne (by decide)).trans p5
  refine gtR r0 rfl (asI r5 (by omega) (by decide) ?_)
  have s0 := (st_ne (h := h.set 66 (am_I 0 300 (upd ln 0 (nI s)))) (c := am_I 0 300 (upd pc s (nI s))) (show 65 ≠ 46 by decide)).trans r0
  have s6 : ((h.set 66 (am_I 0 300 (upd ln 0 (nI s)))).set 65 (am_I 0 300 (upd pc s (nI s))))[66]? = some (am_I 0 300 (upd ln 0 (nI s))) := (st_ne (by decide)).trans (st_eq p6)
  refine rX9_spreads_19 ⟨fun z => absurd ((nI_leI (a := 1) (b := 0) (by decide) (by decide)).mp z) (by omega), fun _ => gtR s0 rfl (alI (i := 0) s6 (by decide) (by decide) ?_)⟩
  rw [pk_us, show (300 : Int32) * nI s = nI (300 * s) by rw [show (300 : Int32) = nI 300 from rfl, pk_mul]]
  have key := lm_spread (l := l) (g := g) (d := d) (x := x) (h := h) (pc0 := pc) (Q := fun r h' => r = none ∧ K h') hM hv hN hP hsn h0 (fun h' pc' a b c f => ⟨rfl, hK h' pc' a b c f⟩) (m_nu m) (dg m s) 0 0 1 (fun _ => s) ((h.set 66 (am_I 0 300 (upd ln 0 (nI s)))).set 65 (am_I 0 300 (upd pc s (nI s)))) (by omega) ⟨by omega, by omega⟩ ⟨upd pc s (nI s), upd ln 0 (nI s), st_eq r5, s6, ⟨by omega, rfl, fun t ht => ?_, fun t t' h1 h2 => by omega⟩, fun v hvn => ?_⟩ ⟨fun t ht => by omega, fun u _ _ hlt => by omega⟩ ((Fr.rf.st (by decide)).st (by decide))
  · exact key
  · have : t = 0 := by omega
    subst this
    exact ⟨pk_us, hsn, Cn.rf hs⟩
  · by_cases e : v = s
    · subst e; rw [pk_us, if_pos (inL_iff.mpr ⟨0, by omega, rfl⟩)]
    · rw [pk_un e, if_neg (fun c => ?_)]
      obtain ⟨t, ht, et⟩ := inL_iff.mp c
      exact e et.symm
end MSPREAD
