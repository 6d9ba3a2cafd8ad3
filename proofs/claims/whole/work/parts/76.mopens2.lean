/-! ===== what the model opens, all of it ===== -/
def OL (m : ml_T) (sd : Nat → Int32) : Nat → Bool := fun v => m_th m v && decide (sd v = 0)
def MK (m : ml_T) (res : Int32) (op : Nat → Bool) : Prop := (res = -1 ∧ ¬ ∃ c, Two (m_aj m) c) ∨ (∃ L pr, (∀ v, L v = true → m_th m v = true) ∧ (∀ q, Lst (m_aj m) (m_th m) q → L q = true) ∧ GB (m_aj m) L (m_th m) (m_nu m) ∧ VM (m_aj m) pr ∧ Mx (m_aj m) L (m_th m) pr ∧ res = nI (PN L pr (m_nu m)) ∧ ∀ v, op v = CV (m_aj m) L (m_th m) pr v)
/-- the model's arrays for these questions are there -/
def MA (h : am_H) : Prop := (∃ f, h[63]? = some (am_I 0 300 f)) ∧ (∃ f, h[64]? = some (am_I 0 90000 f)) ∧ (∃ f, h[65]? = some (am_I 0 300 f)) ∧ (∃ f, h[66]? = some (am_I 0 300 f)) ∧ (∃ f, h[67]? = some (am_I 0 300 f)) ∧ (∃ f, h[68]? = some (am_I 0 300 f)) ∧ (∃ f, h[69]? = some (am_I 2 300 f)) ∧ (∃ f, h[70]? = some (am_I 2 300 f)) ∧ (∃ f, h[71]? = some (am_I 2 300 f)) ∧ (∃ f, h[72]? = some (am_I 2 300 f))
section MOPENS
variable {l : Launch} {g : am_G} {d : Nat} {x : Bool} {h : am_H} {m : ml_T} {Wh : wv_T} {o : mo_T} {sd : Nat → Int32}
theorem OL_gb (hv : ml_ok m) (hP : PT m sd true) : GB (m_aj m) (OL m sd) (m_th m) (m_nu m) := by
  refine ⟨aj_sy m, fun u v huv => ?_, fun a b hab => (aj_th hv hab).1, hv.2.1⟩
  obtain ⟨t1, t2, t3, t4, -⟩ := aj_th hv huv
  have h1 := (hP.1 u t3).1 t1
  have h2 := (hP.1 v t4).1 t2
  have h3 := hP.2.2.1 rfl u v huv
  unfold OL
  rw [t1, t2]
  rcases h1 with e1 | e1 <;> rcases h2 with e2 | e2 <;> rw [e1, e2] at h3 ⊢
  · exact absurd rfl h3
  · decide
  · decide
  · exact absurd rfl h3
theorem OL_0 {v : Nat} {good : Bool} (hP : PT m sd good) (hvn : v < m_nu m) : sd v = 0 ↔ OL m sd v = true := by
  unfold OL
  rw [Bool.and_eq_true, decide_eq_true_eq]
  refine ⟨fun e => ⟨?_, e⟩, fun e => e.2⟩
  cases ht : m_th m v with
  | true => rfl
  | false => have := (hP.1 v hvn).2 ht; rw [this] at e; exact absurd e (by decide)
theorem OL_1 {v : Nat} {good : Bool} (hP : PT m sd good) (hvn : v < m_nu m) : sd v = 1 ↔ m_th m v = true ∧ OL m sd v = false := by
  unfold OL
  cases ht : m_th m v with
  | true =>
    rcases (hP.1 v hvn).1 ht with e | e
    · rw [e]; decide
    · rw [e]; decide
  | false => have := (hP.1 v hvn).2 ht; rw [this]; decide
/-- the counted pairs when one more is paired -/
theorem PN.up {L : Nat → Bool} {pr pr' : Nat → Option Nat} {a n : Nat} (ha : a < n) (hl : L a = true) (h0 : pr a = none) (h1 : pr' a ≠ none) (h2 : ∀ v, L v = true → v ≠ a → (pr' v = none ↔ pr v = none)) : PN L pr' n = PN L pr n + 1 := by
  have e := fb_ct_upd (fun v => L v && (pr v).isSome) true ha
  simp only [h0, Option.isSome_none, Bool.and_false, Bool.false_eq_true, if_false, if_true] at e
  unfold PN
  rw [show fb_ct (fun v => L v && (pr' v).isSome) n = fb_ct (fun k => if k = a then true else (fun v => L v && (pr v).isSome) k) n from fb_ct_cong (fun v hv => by
    show (L v && (pr' v).isSome) = if v = a then true else (L v && (pr v).isSome)
    by_cases c : v = a
    · rw [if_pos c, c, hl]
      cases e1 : pr' a with
      | none => exact absurd e1 h1
      | some w => rfl
    · rw [if_neg c]
      cases hlv : L v with
      | false => rfl
      | true =>
        have := h2 v hlv c
        cases e1 : pr' v <;> cases e2 : pr v <;> simp [e1, e2] at this ⊢)]
  omega
theorem lm_clr65 {Q : Option Value → am_H → Prop} {p a : Int32} (hM : MM h m Wh o) (hv : ml_ok m)
    (hK : ∀ h' sn, h'[69]? = some (am_I 2 300 sn) → (∀ v, v < m_nu m → sn v = 0) → Fr 69 69 h h' → cv_I l g mX9_finds d x 9 46 [.int a] h' (fun v3 h2 => ((v3 = 0 → zX9_opens_100 l g d x 46 a p 0 h2 Q) ∧ (¬ v3 = 0 → zX9_opens_100 l g d x 46 a p 1 h2 Q)))) :
    ∀ k i h1 sn, i + k = m_nu m → h1[69]? = some (am_I 2 300 sn) → (∀ v, v < i → sn v = 0) → Fr 69 69 h h1 → am_J l g mX9_opens (d + 1) (0, 0, x) 65 [(0, .ref 46), (1, .int p), (2, .int a), (3, .int (nI i))] [] h1 Q := by
  have hn : m_nu m ≤ 300 := hv.1.2.2.2.2.2.1
  intro k
  induction k with
  | zero =>
    intro i h1 sn hi p9 hz hf
    have hM1 := hM.out (h' := h1) (fun i hi => hf i (by omega))
    refine rX9_opens_65 (gtI hM1.1 rfl ⟨fun _ => hK h1 sn p9 (fun v hv => hz v (by omega)) hf, fun z => absurd (nI_le (by omega) (by omega)) z⟩)
  | succ k ih =>
    intro i h1 sn hi p9 hz hf
    have hM1 := hM.out (h' := h1) (fun i hi => hf i (by omega))
    refine rX9_opens_65 (gtI hM1.1 rfl ⟨fun z => absurd ((nI_leI (by omega) (by omega)).mp z) (by omega), fun _ => gtR hM1.1 rfl (asI p9 (by omega) (by omega) ?_)⟩)
    rw [nI_1]
    refine ih (i + 1) _ (upd sn i 0) (by omega) (st_eq p9) (fun v hv => ?_) (hf.st (by decide))
    by_cases e : v = i
    · rw [e, pk_us]
    · rw [pk_un e]; exact hz v (by omega)
theorem lm_clr110 {Q : Option Value → am_H → Prop} {p : Int32} (hM : MM h m Wh o) (hv : ml_ok m)
    (hK : ∀ h' sn, h'[69]? = some (am_I 2 300 sn) → (∀ v, v < m_nu m → sn v = 0) → Fr 69 69 h h' → am_J l g mX9_opens (d + 1) (0, 0, x) 133 [(0, .ref 46), (1, .int p), (2, .int 0)] [] h' Q) :
    ∀ k i h1 sn, i + k = m_nu m → h1[69]? = some (am_I 2 300 sn) → (∀ v, v < i → sn v = 0) → Fr 69 69 h h1 → am_J l g mX9_opens (d + 1) (0, 0, x) 110 [(0, .ref 46), (1, .int p), (2, .int (nI i))] [] h1 Q := by
  have hn : m_nu m ≤ 300 := hv.1.2.2.2.2.2.1
  intro k
  induction k with
  | zero =>
    intro i h1 sn hi p9 hz hf
    have hM1 := hM.out (h' := h1) (fun i hi => hf i (by omega))
    refine rX9_opens_110 (gtI hM1.1 rfl ⟨fun _ => hK h1 sn p9 (fun v hv => hz v (by omega)) hf, fun z => absurd (nI_le (by omega) (by omega)) z⟩)
  | succ k ih =>
    intro i h1 sn hi p9 hz hf
    have hM1 := hM.out (h' := h1) (fun i hi => hf i (by omega))
    refine rX9_opens_110 (gtI hM1.1 rfl ⟨fun z => absurd ((nI_leI (by omega) (by omega)).mp z) (by omega), fun _ => gtR hM1.1 rfl (asI p9 (by omega) (by omega) ?_)⟩)
    rw [nI_1]
    refine ih (i + 1) _ (upd sn i 0) (by omega) (st_eq p9) (fun v hv => ?_) (hf.st (by decide))
    by_cases e : v = i
    · rw [e, pk_us]
    · rw [pk_un e]; exact hz v (by omega)
/-- the pairs, one ring of the first side after the other -/
theorem lm_pairs {Q : Option Value → am_H → Prop} {d0 : Nat} (hM : MM h m Wh o) (hv : ml_ok m) (hN : NR h m) (hsd : h[67]? = some (am_I 0 300 sd)) (hP : PT m sd true)
    (hK : ∀ h' pr, (∃ pp, h'[68]? = some (am_I 0 300 pp) ∧ ∀ v, v < m_nu m → pp v = oi (pr v)) → (∃ sn, h'[69]? = some (am_I 2 300 sn)) → VM (m_aj m) pr → Mx (m_aj m) (OL m sd) (m_th m) pr → Fr 68 69 h h' → am_J l g mX9_opens (d0 + 302) (0, 0, x) 110 [(0, .ref 46), (1, .int (nI (PN (OL m sd) pr (m_nu m)))), (2, .int 0)] [] h' Q) :
    ∀ k a h1 pr, a + k = m_nu m → (∃ pp, h1[68]? = some (am_I 0 300 pp) ∧ ∀ v, v < m_nu m → pp v = oi (pr v)) → (∃ sn, h1[69]? = some (am_I 2 300 sn)) → VM (m_aj m) pr → (∃ W, CL (m_aj m) (OL m sd) pr W ∧ ∀ v, v < a → m_th m v = true → OL m sd v = true → pr v = none → W v) → (∀ v, a ≤ v → OL m sd v = true → pr v = none) → Fr 68 69 h h1 →
      am_J l g mX9_opens (d0 + 302) (0, 0, x) 46 [(0, .ref 46), (1, .int (nI (PN (OL m sd) pr (m_nu m)))), (2, .int (nI a))] [] h1 Q := by
  have hn : m_nu m ≤ 300 := hv.1.2.2.2.2.2.1
  have hG := OL_gb hv hP
  intro k
  induction k with
  | zero =>
    intro a h1 pr ha hp8 hp9 hV hW hun hf
    have hM1 := hM.out (h' := h1) (fun i hi => hf i (by omega))
    obtain ⟨W, w1, w2⟩ := hW
    exact rX9_opens_46 (gtI hM1.1 rfl ⟨fun _ => hK h1 pr hp8 hp9 hV (Mx.of w1 (fun v ht hl h0 => w2 v (by have := hv.2.1 v ht; omega) ht hl h0)) hf, fun z => absurd (nI_le (by omega) (by omega)) z⟩)
  | succ k ih =>
    intro a h1 pr ha hp8 hp9 hV hW hun hf
    have hM1 := hM.out (h' := h1) (fun i hi => hf i (by omega))
    have han : a < m_nu m := by omega
    refine rX9_opens_46 (gtI hM1.1 rfl ⟨fun z => absurd ((nI_leI (by omega) (by omega)).mp z) (by omega), fun _ => gtR hM1.1 rfl (alI ((hf 67 (by decide)).trans hsd) (by omega) (by omega) ⟨fun z => ?_, fun z => ?_⟩)⟩)
    · unfold zX9_opens_102
      rw [nI_1]
      obtain ⟨W, w1, w2⟩ := hW
      refine ih (a + 1) h1 pr (by omega) hp8 hp9 hV ⟨W, w1, fun v hva ht hl h0 => ?_⟩ (fun v hva hl => hun v (by omega) hl) hf
      by_cases e : v = a
      · rw [e] at hl; exact absurd ((OL_0 hP han).mpr hl) z
      · exact w2 v (by omega) ht hl h0
    · have hl := (OL_0 hP han).mp z
      have h0 := hun a (Nat.le_refl _) hl
      obtain ⟨pp, p8, hpp⟩ := hp8
      obtain ⟨sn, p9⟩ := hp9
      refine lm_clr65 (d := d0 + 301) hM1 hv (fun h2 sn2 p9' hz2 f2 => ?_) (m_nu m) 0 h1 sn (by omega) p9 (fun v hv => by omega) Fr.rf
      have hM2 := hM1.out (h' := h2) (fun i hi => f2 i (by omega))
      have fr2 : Fr 68 69 h h2 := hf.tr (f2.mono (by omega) (by omega))
      have K2 : KS h2 m pr (fun _ => false) := ⟨⟨pp, (f2 68 (by decide)).trans p8, hpp⟩, ⟨sn2, p9', fun v hv => hz2 v hv⟩⟩
      refine ⟨⟨_, hM2.1⟩, ms_finds (L := OL m sd) hv hG 300 d0 a pr (fun _ => false) h2 _ (Nat.le_trans (fb_ct_le _ _) hn) hV hM2 (hN.fr (fr2 63 (by decide)) (fr2 64 (by decide))) K2 hl han (fun w hw => by rw [h0] at hw; cases hw) (fun h' pr' S' k' t' f' => ⟨fun z => absurd z (by decide), fun _ => ?_⟩) (fun h' S' k' t' f' => ⟨fun _ => ?_, fun z => absurd rfl z⟩)⟩
      · unfold zX9_opens_100 zX9_opens_102
        rw [nI_1, nI_1]
        obtain ⟨t1, t2, t3, t4, t5⟩ := t'
        rw [h0, nh_0] at t1
        rw [← PN.up han hl h0 t2 (fun v hv hne => (t4 v hv hne).1)]
        obtain ⟨W, w1, w2⟩ := hW
        obtain ⟨u1, u2⟩ := t5 W w1
        refine ih (a + 1) h' pr' (by omega) k'.1 (by obtain ⟨-, sn', a, b⟩ := k'; exact ⟨sn', a⟩) t1 ⟨W, w1.keep u2, fun v hva ht hlv hn0 => ?_⟩ (fun v hva hlv => ?_) (fr2.tr f')
        · by_cases e : v = a
          · rw [e] at hn0; exact absurd hn0 t2
          · exact w2 v (by omega) ht hlv ((t4 v hlv e).1.mp hn0)
        · exact (t4 v hlv (by omega)).1.mpr (hun v (by omega) hlv)
      · unfold zX9_opens_100 zX9_opens_102
        rw [nI_1, show nI (PN (OL m sd) pr (m_nu m)) + 0 = nI (PN (OL m sd) pr (m_nu m)) from Int32.add_zero _]
        obtain ⟨W, w1, w2⟩ := hW
        refine ih (a + 1) h' pr (by omega) k'.1 (by obtain ⟨-, sn', a, b⟩ := k'; exact ⟨sn', a⟩) hV ⟨_, w1.or (t'.cl hG hV hl), fun v hva ht hlv hn0 => ?_⟩ (fun v hva hlv => hun v (by omega) hlv) (fr2.tr f')
        by_cases e : v = a
        · exact Or.inr (Or.inl e)
        · exact Or.inl (w2 v (by omega) ht hlv hn0)
/-- what is reached from the unpaired -/
theorem lm_reach {Q : Option Value → am_H → Prop} {d0 : Nat} {p : Int32} {pr : Nat → Option Nat} (hM : MM h m Wh o) (hv : ml_ok m) (hN : NR h m) (hsd : h[67]? = some (am_I 0 300 sd)) (hP : PT m sd true) (hV : VM (m_aj m) pr)
    (hK : ∀ h' S, KS h' m pr S → (∀ v, S v = true ↔ Zr (m_aj m) (OL m sd) (m_th m) pr v) → Fr 68 69 h h' → am_J l g mX9_opens (d0 + 302) (0, 0, x) 172 [(0, .ref 46), (1, .int p), (2, .int 0)] [] h' Q) :
    ∀ k a h1 S, a + k = m_nu m → KS h1 m pr S → (∀ v, S v = true → Zr (m_aj m) (OL m sd) (m_th m) pr v) → (∀ v, S v = true → RCl (m_aj m) (OL m sd) pr S v) → (∀ v, v < a → m_th m v = true → OL m sd v = true → pr v = none → S v = true) → Fr 68 69 h h1 →
      am_J l g mX9_opens (d0 + 302) (0, 0, x) 133 [(0, .ref 46), (1, .int p), (2, .int (nI a))] [] h1 Q := by
  have hn : m_nu m ≤ 300 := hv.1.2.2.2.2.2.1
  have hG := OL_gb hv hP
  intro k
  induction k with
  | zero =>
    intro a h1 S ha hK1 c1 c2 c3 hf
    have hM1 := hM.out (h' := h1) (fun i hi => hf i (by omega))
    refine rX9_opens_133 (gtI hM1.1 rfl ⟨fun _ => hK h1 S hK1 (fun v => ⟨c1 v, fun hz => ?_⟩) hf, fun z => absurd (nI_le (by omega) (by omega)) z⟩)
    exact hz (fun v => S v = true) (fun a' ht hl h0 => c3 a' (by have := hv.2.1 a' ht; omega) ht hl h0) (fun a' b hs hl hA => (c2 a' hs).1 hl b hA) (fun b a' hs hl hp => (c2 b hs).2 hl a' hp)
  | succ k ih =>
    intro a h1 S ha hK1 c1 c2 c3 hf
    have hM1 := hM.out (h' := h1) (fun i hi => hf i (by omega))
    have han : a < m_nu m := by omega
    have skip : (OL m sd a = true → pr a ≠ none) → zX9_opens_164 l g (d0 + 301) x 46 p (nI a) h1 Q := fun hno => by
      unfold zX9_opens_164
      rw [nI_1]
      refine ih (a + 1) h1 S (by omega) hK1 c1 c2 (fun v hva ht hl h0 => ?_) hf
      by_cases e : v = a
      · rw [e] at hl h0; exact absurd h0 (hno hl)
      · exact c3 v (by omega) ht hl h0
    obtain ⟨⟨pp, p8, hpp⟩, ⟨sn, p9, hsn⟩⟩ := id hK1
    refine rX9_opens_133 (gtI hM1.1 rfl ⟨fun z => absurd ((nI_leI (by omega) (by omega)).mp z) (by omega), fun _ => gtR hM1.1 rfl (alI ((hf 67 (by decide)).trans hsd) (by omega) (by omega) ⟨fun z => skip (fun hl => absurd ((OL_0 hP han).mpr hl) z), fun z => gtR hM1.1 rfl (alI p8 (by omega) (by omega) ?_)⟩)⟩)
    have hl := (OL_0 hP han).mp z
    rw [hpp a han]
    cases hpa : pr a with
    | some b =>
      obtain ⟨v1, v2⟩ := hV a b hpa
      exact ⟨fun _ => skip (fun _ => by rw [hpa]; simp), fun z => absurd (nI_pos' (by have := (hG.t v1).2.2.2; omega)) z⟩
    | none =>
      refine ⟨fun z => absurd z (show ¬ (0 : Int32) ≤ -1 by decide), fun _ => ⟨⟨_, hM1.1⟩, ?_⟩⟩
      have hta : m_th m a = true := by unfold OL at hl; rw [Bool.and_eq_true] at hl; exact hl.1
      refine ms_reaches (L := OL m sd) hv hG hV 300 d0 a S h1 _ (Nat.le_trans (fb_ct_le _ _) hn) hM1 (hN.fr (hf 63 (by decide)) (hf 64 (by decide))) hK1 hl han (Zr.free hta hl hpa) (fun h' S' k' t1 t2 t3 t4 f' => ?_)
      unfold zX9_opens_164
      rw [nI_1]
      refine ih (a + 1) h' S' (by omega) k' (fun v q => (t4 v q).elim (c1 v) id) (fun v q => ?_) (fun v hva ht hlv h0 => ?_) (hf.tr f')
      · cases e : S v with
        | true => exact (c2 v e).mono t1
        | false => exact t3 v q e
      · by_cases e : v = a
        · rw [e]; exact t2
        · exact t1 v (c3 v (by omega) ht hlv h0)
theorem lm_opened {Q : Option Value → am_H → Prop} {p : Int32} {pr : Nat → Option Nat} {S : Nat → Bool} (hM : MM h m Wh o) (hv : ml_ok m) (hsd : h[67]? = some (am_I 0 300 sd)) (hP : PT m sd true) (hV : VM (m_aj m) pr) (hK1 : KS h m pr S) (hS : ∀ v, S v = true ↔ Zr (m_aj m) (OL m sd) (m_th m) pr v)
    (hK : ∀ h' op, h'[70]? = some (am_I 2 300 op) → (∀ v, v < m_nu m → op v = bi (CV (m_aj m) (OL m sd) (m_th m) pr v)) → Fr 70 70 h h' → Q (some (.int p)) h') :
    ∀ k a h1 op, a + k = m_nu m → h1[70]? = some (am_I 2 300 op) → (∀ v, v < a → op v = bi (CV (m_aj m) (OL m sd) (m_th m) pr v)) → Fr 70 70 h h1 →
      am_J l g mX9_opens (d + 1) (0, 0, x) 172 [(0, .ref 46), (1, .int p), (2, .int (nI a))] [] h1 Q := by
  have hn : m_nu m ≤ 300 := hv.1.2.2.2.2.2.1
  have hG := OL_gb hv hP
  obtain ⟨-, ⟨sn, p9, hsn⟩⟩ := id hK1
  intro k
  induction k with
  | zero =>
    intro a h1 op ha p7 hop hf
    have hM1 := hM.out (h' := h1) (fun i hi => hf i (by omega))
    exact rX9_opens_172 (gtI hM1.1 rfl ⟨fun _ => hK h1 op p7 (fun v hv => hop v (by omega)) hf, fun z => absurd (nI_le (by omega) (by omega)) z⟩)
  | succ k ih =>
    intro a h1 op ha p7 hop hf
    have hM1 := hM.out (h' := h1) (fun i hi => hf i (by omega))
    have han : a < m_nu m := by omega
    have put : ∀ (b : Bool), b = CV (m_aj m) (OL m sd) (m_th m) pr a → zX9_opens_235 l g d x 46 p (nI a) 70 (nI a) (bi b) h1 Q := fun b hb => by
      refine ⟨bi_01 b, asI p7 (by omega) (by omega) ?_⟩
      rw [nI_1]
      refine ih (a + 1) _ _ (by omega) (st_eq p7) (fun v hva => ?_) (hf.st (by decide))
      by_cases e : v = a
      · rw [e, pk_us, hb]
      · rw [pk_un e]; exact hop v (by omega)
    have p9' := (hf 69 (by decide)).trans p9
    have psd := (hf 67 (by decide)).trans hsd
    have two : (CV (m_aj m) (OL m sd) (m_th m) pr a = (m_th m a && !OL m sd a && S a)) → zX9_opens_211 l g d x 46 p (nI a) 70 (nI a) h1 Q := fun hcv => by
      refine gtR hM1.1 rfl (alI psd (by omega) (by omega) ⟨fun z => ?_, fun z => gtR hM1.1 rfl (alI p9' (by omega) (by omega) ?_)⟩)
      · refine put false ?_
        rw [hcv]
        cases ht : m_th m a with
        | false => rfl
        | true =>
          cases hl : OL m sd a with
          | true => rfl
          | false => exact absurd ((OL_1 hP han).mpr ⟨ht, hl⟩) z
      · obtain ⟨ht, hl⟩ := (OL_1 hP han).mp z
        rw [ht, hl] at hcv
        rw [hsn a han]
        refine ⟨fun y => put false ?_, fun y => put true ?_⟩
        · rw [hcv, bi_0.mp y]; rfl
        · rw [hcv, bi_n0.mp y]; rfl
    refine rX9_opens_172 (gtI hM1.1 rfl ⟨fun z => absurd ((nI_leI (by omega) (by omega)).mp z) (by omega), fun _ => gtR hM1.1 rfl (gtR hM1.1 rfl (alI psd (by omega) (by omega) ⟨fun z => two ?_, fun z => gtR hM1.1 rfl (alI p9' (by omega) (by omega) ?_)⟩))⟩)
    · have hl : OL m sd a = false := by
        cases e : OL m sd a with
        | false => rfl
        | true => exact absurd ((OL_0 hP han).mpr e) z
      unfold CV
      rw [hl, show cB (Zr (m_aj m) (OL m sd) (m_th m) pr a) = S a from by rw [Bool.eq_iff_iff, cB_iff, hS a]]
      cases m_th m a <;> cases S a <;> rfl
    · have hl := (OL_0 hP han).mp z
      have ht : m_th m a = true := by unfold OL at hl; rw [Bool.and_eq_true] at hl; exact hl.1
      rw [hsn a han]
      refine ⟨fun y => two ?_, fun y => ⟨⟨_, hM1.1⟩, ms_linksOf hM1 hv.1 (by omega) ⟨fun _ => ?_, fun q => ?_⟩⟩⟩
      · have hz := (hS a).mp (bi_n0.mp y)
        rw [hl, bi_n0.mp y]
        have : ¬ CV (m_aj m) (OL m sd) (m_th m) pr a = true := fun c => by
          rcases (CV_i.mp c).2 with q | q
          · exact q.2 hz
          · rw [hl] at q; cases q.1
        rw [Bool.eq_false_iff.mpr this]; cases m_th m a <;> rfl
      · refine put true ?_
        have hz : ¬ Zr (m_aj m) (OL m sd) (m_th m) pr a := fun c => by have := (hS a).mpr c; rw [bi_0.mp y] at this; cases this
        exact (CV_i.mpr ⟨ht, Or.inl ⟨hl, hz⟩⟩).symm
      · exfalso
        have hz : ¬ Zr (m_aj m) (OL m sd) (m_th m) pr a := fun c => by have := (hS a).mpr c; rw [bi_0.mp y] at this; cases this
        cases hpa : pr a with
        | none => exact hz (Zr.free ht hl hpa)
        | some b =>
          obtain ⟨v1, v2⟩ := hV a b hpa
          have h1 := fb_ct_pos.mpr ⟨b, (hG.t v1).2.2.2, v1⟩
          have h2 := fb_ct_le (m_aj m a) (m_nu m)
          exact q (nI_lt h1 (by omega))
theorem lm_opens0 {Q : Option Value → am_H → Prop} (hM : MM h m Wh o)
    (hK : ∀ h' pp op, h'[68]? = some (am_I 0 300 pp) → h'[70]? = some (am_I 2 300 op) → (∀ v, v < 300 → pp v = -1 ∧ op v = 0) → h'[69]? = h[69]? → Fr 68 70 h h' → cv_N l g mX9_findNear d x 9 46 [] h' (fun h1 => cv_I l g mX9_parts d x 9 46 [] h1 (fun v4 h3 => ((¬ v4 = 0 → am_J l g mX9_opens (d + 1) (0, 0, x) 46 [(0, .ref 46), (1, .int 0), (2, .int 0)] [] h3 Q) ∧ (v4 = 0 → Q (some (.int (-1))) h3))))) :
    ∀ k i h1 pp op, i + k = 300 → h1[68]? = some (am_I 0 300 pp) → h1[70]? = some (am_I 2 300 op) → (∀ v, v < i → pp v = -1 ∧ op v = 0) → h1[69]? = h[69]? → Fr 68 70 h h1 → am_J l g mX9_opens (d + 1) (0, 0, x) 2 [(0, .ref 46), (1, .int (nI i))] [] h1 Q := by
  intro k
  induction k with
  | zero =>
    intro i h1 pp op hi p8 p7 hz q9 hf
    have : i = 300 := by omega
    subst this
    exact rX9_opens_2 ⟨fun _ => hK h1 pp op p8 p7 hz q9 hf, fun z => absurd (show (300 : Int32) ≤ nI 300 by decide) z⟩
  | succ k ih =>
    intro i h1 pp op hi p8 p7 hz q9 hf
    have hM1 := hM.out (h' := h1) (fun i hi => hf i (by omega))
    refine rX9_opens_2 ⟨fun z => absurd ((nI_leI (a := 300) (by decide) (by omega)).mp z) (by omega), fun _ => gtR hM1.1 rfl (asI p8 (by omega) (by omega) ?_)⟩
    have hM2 : MM (h1.set 68 (am_I 0 300 (upd pp i (-1)))) m Wh o := hM1.out (fun i hi => st_ne (by omega))
    have p7' : (h1.set 68 (am_I 0 300 (upd pp i (-1))))[70]? = some (am_I 2 300 op) := (st_ne (by decide)).trans p7
    refine gtR hM2.1 rfl (asI p7' (by omega) (by omega) ?_)
    rw [nI_1]
    refine ih (i + 1) _ (upd pp i (-1)) (upd op i 0) (by omega) ((st_ne (by decide)).trans (st_eq p8)) (st_eq p7') (fun v hv => ?_) ((st_ne (by decide)).trans ((st_ne (by decide)).trans q9)) ((hf.st (by decide)).st (by decide))
    by_cases e : v = i
    · rw [e, pk_us, pk_us]; exact ⟨rfl, rfl⟩
    · rw [pk_un e, pk_un e]; exact hz v (by omega)
theorem ms_opens {K : Int32 → am_H → Prop} {d0 : Nat} (hM : MM h m Wh o) (hv : ml_ok m) (hA : MA h)
    (hK : ∀ h' res op f, MK m res op → h'[70]? = some (am_I 2 300 f) → (¬ res = -1 → ∀ v, v < m_nu m → f v = bi (op v)) → NR h' m → MA h' → Fr 63 70 h h' → K res h') : cl_I l g mX9_opens (d0 + 302) x [.ref 46] h K := by
  have hn : m_nu m ≤ 300 := hv.1.2.2.2.2.2.1
  obtain ⟨⟨f3, a3⟩, ⟨f4, a4⟩, a5, ⟨f6, a6⟩, ⟨f7, a7⟩, ⟨f8, a8⟩, ⟨f9, a9⟩, ⟨f0, a0⟩, a1, a2⟩ := hA
  refine eX9_opens (lm_opens0 (d := d0 + 301) hM ?_ 300 0 h f8 f0 (by omega) a8 a0 (fun v hv => by omega) rfl Fr.rf)
  intro h1 pp op p8 p7 hz q9 fr1
  have hM1 := hM.out (h' := h1) (fun i hi => fr1 i (by omega))
  refine ⟨⟨_, hM1.1⟩, ms_findNear hM1 hv.1 ((fr1 63 (by decide)).trans a3) ((fr1 64 (by decide)).trans a4) (fun h2 N2 fr2 => ?_)⟩
  have hM2 := hM1.out (h' := h2) (fun i hi => fr2 i (by omega))
  refine ⟨⟨_, hM2.1⟩, ms_parts hM2 hv N2 ((fr2 67 (by decide)).trans ((fr1 67 (by decide)).trans a7)) ((fr2 66 (by decide)).trans ((fr1 66 (by decide)).trans a6)) (fun h3 sd good p67 p66 hP fr3 => ?_)⟩
  have hM3 := hM2.out (h' := h3) (fun i hi => fr3 i (by omega))
  have N3 := N2.fr (h' := h3) (fr3 63 (by decide)) (fr3 64 (by decide))
  have F3 : Fr 63 70 h h3 := ((fr1.mono (by omega) (by omega)).tr (fr2.mono (by omega) (by omega))).tr (fr3.mono (by omega) (by omega))
  have q8 : h3[68]? = some (am_I 0 300 pp) := (fr3 68 (by decide)).trans ((fr2 68 (by decide)).trans p8)
  have q0 : h3[70]? = some (am_I 2 300 op) := (fr3 70 (by decide)).trans ((fr2 70 (by decide)).trans p7)
  have q9' : h3[69]? = some (am_I 2 300 f9) := (fr3 69 (by decide)).trans ((fr2 69 (by decide)).trans (q9.trans a9))
  have ma : ∀ h', (∃ f, h'[68]? = some (am_I 0 300 f)) → (∃ f, h'[69]? = some (am_I 2 300 f)) → (∃ f, h'[70]? = some (am_I 2 300 f)) → Fr 68 70 h3 h' → MA h' := fun h' b8 b9 b0 f' => by
    obtain ⟨nf, ng, n3, n4, -⟩ := N3
    obtain ⟨lf, l6⟩ := p66
    obtain ⟨ff, a5⟩ := a5
    obtain ⟨fe, a1⟩ := a1
    obtain ⟨fg, a2⟩ := a2
    exact ⟨⟨nf, (f' 63 (by decide)).trans n3⟩, ⟨ng, (f' 64 (by decide)).trans n4⟩, ⟨ff, (f' 65 (by decide)).trans ((fr3 65 (by decide)).trans ((fr2 65 (by decide)).trans ((fr1 65 (by decide)).trans a5)))⟩, ⟨lf, (f' 66 (by decide)).trans l6⟩, ⟨sd, (f' 67 (by decide)).trans p67⟩, b8, b9, b0, ⟨fe, (f' 71 (by decide)).trans ((F3 71 (by decide)).trans a1)⟩, ⟨fg, (f' 72 (by decide)).trans ((F3 72 (by decide)).trans a2)⟩⟩
  refine ⟨fun z => ?_, fun z => ⟨_, rfl, ?_⟩⟩
  · have hg := bi_n0.mp z
    subst hg
    have e0 : PN (OL m sd) (fun _ => none) (m_nu m) = 0 := fb_ct_zero.mpr (fun v _ => by simp)
    have key := lm_pairs (l := l) (g := g) (x := x) (d0 := d0) (h := h3) (Q := fun r h' => ∃ v, r = some (.int v) ∧ K v h') hM3 hv N3 p67 hP ?_ (m_nu m) 0 h3 (fun _ => none) (by omega) ⟨pp, q8, fun v hv' => (hz v (by omega)).1⟩ ⟨f9, q9'⟩ (fun u v e => by cases e) ⟨fun _ => False, ⟨fun a b c => c.elim, fun b c => c.elim⟩, fun v c => by omega⟩ (fun v _ _ => rfl) Fr.rf
    · rw [e0] at key; exact key
    · intro h4 pr p8' p9' hV hX fr4
      have hM4 := hM3.out (h' := h4) (fun i hi => fr4 i (by omega))
      obtain ⟨sn4, p9'⟩ := p9'
      refine lm_clr110 (d := d0 + 301) hM4 hv (fun h5 sn5 p95 hz5 fr5 => ?_) (m_nu m) 0 h4 sn4 (by omega) p9' (fun v hv => by omega) Fr.rf
      have hM5 := hM4.out (h' := h5) (fun i hi => fr5 i (by omega))
      have F5 : Fr 68 69 h3 h5 := fr4.tr (fr5.mono (by omega) (by omega))
      obtain ⟨pp4, p84, hpp4⟩ := p8'
      refine lm_reach (d0 := d0) (pr := pr) hM5 hv (N3.fr (F5 63 (by decide)) (F5 64 (by decide))) ((F5 67 (by decide)).trans p67) hP hV (fun h6 S k6 hS fr6 => ?_) (m_nu m) 0 h5 (fun _ => false) (by omega) ⟨⟨pp4, (fr5 68 (by decide)).trans p84, hpp4⟩, ⟨sn5, p95, fun v hv' => hz5 v hv'⟩⟩ (fun v c => by cases c) (fun v c => by cases c) (fun v c => by omega) Fr.rf
      have hM6 := hM5.out (h' := h6) (fun i hi => fr6 i (by omega))
      have F6 := F5.tr fr6
      refine lm_opened (d := d0 + 301) hM6 hv ((F6 67 (by decide)).trans p67) hP hV k6 hS (fun h7 op7 p77 hop fr7 => ⟨_, rfl, ?_⟩) (m_nu m) 0 h6 op (by omega) ((F6 70 (by decide)).trans q0) (fun v c => by omega) Fr.rf
      have F7 : Fr 68 70 h3 h7 := (F6.mono (by omega) (by omega)).tr (fr7.mono (by omega) (by omega))
      obtain ⟨⟨pp6, p86, -⟩, ⟨sn6, p96, -⟩⟩ := k6
      refine hK h7 _ (CV (m_aj m) (OL m sd) (m_th m) pr) op7 (Or.inr ⟨OL m sd, pr, fun v hv' => ?_, fun q hq => ?_, OL_gb hv hP, hV, hX, rfl, fun v => rfl⟩) p77 (fun _ => hop) (N3.fr (F7 63 (by decide)) (F7 64 (by decide))) (ma h7 ⟨pp6, (fr7 68 (by decide)).trans p86⟩ ⟨sn6, (fr7 69 (by decide)).trans p96⟩ ⟨op7, p77⟩ F7) (F3.tr (F7.mono (by omega) (by omega)))
      · unfold OL at hv'; rw [Bool.and_eq_true] at hv'; exact hv'.1
      · exact (OL_0 hP (hv.2.1 q hq.1)).mp (hP.2.1 q hq)
  · have hg := bi_0.mp z
    subst hg
    exact hK h3 (-1) (fun _ => false) op (Or.inl ⟨rfl, hP.2.2.2 rfl⟩) q0 (fun c => absurd rfl c) N3 (ma h3 ⟨pp, q8⟩ ⟨f9, q9'⟩ ⟨op, q0⟩ Fr.rf) F3
end MOPENS
