/-! ===== the class makes pairs ===== -/
abbrev c_mk (ql cs orr : Int32) : am_C := am_O 1 [.ref 6, .ref 18, .ref 27, .ref 29, .ref 30, .ref 31, .ref 32, .int ql, .int cs, .ref 33, .int orr]
def QA (h : am_H) (c : am_C) (p r q e : Nat → Int32) : Prop := h[26]? = some c ∧ h[29]? = some (am_I 0 300 p) ∧ h[30]? = some (am_I 0 300 r) ∧ h[31]? = some (am_I 0 300 q) ∧ h[32]? = some (am_I 2 300 e)
theorem QA.fr {h h' : am_H} {c : am_C} {p r q e : Nat → Int32} (hQ : QA h c p r q e) (hf : ∀ i, 26 ≤ i → i ≤ 32 → i ≠ 27 → i ≠ 28 → h'[i]? = h[i]?) : QA h' c p r q e := by
  obtain ⟨a, b, c, d, e⟩ := hQ
  exact ⟨(hf _ (by decide) (by decide) (by decide) (by decide)).trans a, (hf _ (by decide) (by decide) (by decide) (by decide)).trans b, (hf _ (by decide) (by decide) (by decide) (by decide)).trans c, (hf _ (by decide) (by decide) (by decide) (by decide)).trans d, (hf _ (by decide) (by decide) (by decide) (by decide)).trans e⟩
section QASET
variable {h : am_H} {c c' : am_C} {p r q e f : Nat → Int32}
theorem QA.s0 (hQ : QA h c p r q e) : QA (h.set 26 c') c' p r q e := by
  obtain ⟨a1, a2, a3, a4, a5⟩ := hQ
  exact ⟨st_eq a1, (st_ne (by decide)).trans a2, (st_ne (by decide)).trans a3, (st_ne (by decide)).trans a4, (st_ne (by decide)).trans a5⟩
theorem QA.s1 (hQ : QA h c p r q e) : QA (h.set 29 (am_I 0 300 f)) c f r q e := by
  obtain ⟨a1, a2, a3, a4, a5⟩ := hQ
  exact ⟨(st_ne (by decide)).trans a1, st_eq a2, (st_ne (by decide)).trans a3, (st_ne (by decide)).trans a4, (st_ne (by decide)).trans a5⟩
theorem QA.s2 (hQ : QA h c p r q e) : QA (h.set 30 (am_I 0 300 f)) c p f q e := by
  obtain ⟨a1, a2, a3, a4, a5⟩ := hQ
  exact ⟨(st_ne (by decide)).trans a1, (st_ne (by decide)).trans a2, st_eq a3, (st_ne (by decide)).trans a4, (st_ne (by decide)).trans a5⟩
theorem QA.s3 (hQ : QA h c p r q e) : QA (h.set 31 (am_I 0 300 f)) c p r f e := by
  obtain ⟨a1, a2, a3, a4, a5⟩ := hQ
  exact ⟨(st_ne (by decide)).trans a1, (st_ne (by decide)).trans a2, (st_ne (by decide)).trans a3, st_eq a4, (st_ne (by decide)).trans a5⟩
theorem QA.s4 (hQ : QA h c p r q e) : QA (h.set 32 (am_I 2 300 f)) c p r q f := by
  obtain ⟨a1, a2, a3, a4, a5⟩ := hQ
  exact ⟨(st_ne (by decide)).trans a1, (st_ne (by decide)).trans a2, (st_ne (by decide)).trans a3, (st_ne (by decide)).trans a4, st_eq a5⟩
end QASET
/-- mail and sides, as the making reads them -/
def EC (h : am_H) (m : ml_T) (ch : Nat) (L : Nat → Bool) : Prop := MC h m ch ∧ (∃ n rb cs num cr pt, h[18]? = some (c_pc n rb cs num cr pt)) ∧ ∃ f6, h[24]? = some (am_I 2 300 f6) ∧ ∀ v, v < 300 → f6 v = bi (L v)
theorem EC.fr {h h' : am_H} {m : ml_T} {ch : Nat} {L : Nat → Bool} (hE : EC h m ch L) (hf : ∀ i, i ≤ 25 → h'[i]? = h[i]?) : EC h' m ch L := by
  obtain ⟨a, ⟨n, rb, cs, num, cr, pt, b⟩, f6, c, d⟩ := hE
  exact ⟨a.fr (fun i _ _ => hf i (by omega)), ⟨n, rb, cs, num, cr, pt, (hf 18 (by decide)).trans b⟩, f6, (hf 24 (by decide)).trans c, d⟩
def QL (w : Nat) (qv : Nat → Nat) (len : Nat) (q e : Nat → Int32) : Prop := (∀ t, t < len → q t = nI (qv t) ∧ qv t < w) ∧ (∀ t t', t < t' → t' < len → qv t ≠ qv t') ∧ (∀ v, v < w → e v = bi (inL qv len v))
theorem QL.le {w len : Nat} {qv : Nat → Nat} {q e : Nat → Int32} (h : QL w qv len q e) : len ≤ w := fb_holes w len qv (fun i hi => (h.1 i hi).2) h.2.1
def BI (A : Nat → Nat → Bool) (L th : Nat → Bool) (pr rf : Nat → Option Nat) (qv : Nat → Nat) (len : Nat) : Prop := (∀ t, t < len → L (qv t) = true ∧ Zr A L th pr (qv t) ∧ (pr (qv t) = none ∨ ∃ b t2, pr (qv t) = some b ∧ t2 < t ∧ rf b = some (qv t2))) ∧ (∀ b a, rf b = some a → A a b = true ∧ ∃ t, t < len ∧ qv t = a)
section CMAKE
variable {l : Launch} {g : am_G} {d : Nat} {x : Bool} {h : am_H} {m : ml_T} {ch : Nat} {L : Nat → Bool}
variable {cs orr ql : Int32} {p r q e : Nat → Int32} {pr rf : Nat → Option Nat} {qv : Nat → Nat} {len w : Nat}
theorem EC.side {v : Nat} {K : Int32 → Prop} (hE : EC h m ch L) (hQ : h[26]? = some (c_mk ql cs orr)) (hv : v < 300) (hK : K (bi (L v))) : gt_R h 26 1 1 (fun v3 => gt_R h v3 3 9 (fun v4 => al_I 2 h v4 (nI v) K)) := by
  obtain ⟨hM, ⟨n, rb, cs', num, cr, pt, hP⟩, f6, h6, hf6⟩ := hE
  refine gtR hQ rfl (gtR hP rfl (alI h6 hv (by decide) ?_))
  rw [hf6 v hv]; exact hK
theorem sp_putInQueue {a : Nat} {K : am_H → Prop} (hQ : QA h (c_mk (nI len) cs orr) p r q e) (hL : QL w qv len q e) (ha : a < w) (hw : w ≤ 300)
    (hK : ∀ h' q' e' qv' len', QA h' (c_mk (nI len') cs orr) p r q' e' → QL w qv' len' q' e' → (inL qv len a = true → qv' = qv ∧ len' = len) → (inL qv len a = false → qv' = (fun t => if t = len then a else qv t) ∧ len' = len + 1) → Fr 26 32 h h' → (∀ i, i = 27 ∨ i = 28 → h'[i]? = h[i]?) → K h') : cl_N l g mX1_putInQueue d x [.ref 26, .int (nI a)] h K := by
  refine eX1_putInQueue (gtR hQ.1 rfl (alI hQ.2.2.2.2 (by omega) (by decide) ?_))
  rw [hL.2.2 a ha]
  refine ⟨fun z => ⟨rfl, ?_⟩, fun z => gtI hQ.1 rfl ⟨fun y => ?_, fun _ => gtR hQ.1 rfl (asI hQ.2.2.2.2 (by omega) (by decide) ?_)⟩⟩
  · exact hK h q e qv len hQ hL (fun _ => ⟨rfl, rfl⟩) (fun c => by rw [bi_n0.mp z] at c; cases c) Fr.rf (fun _ _ => rfl)
  all_goals
    have hno : ∀ t, t < len → qv t ≠ a := fun t ht c => by
      have := inL_iff.mpr ⟨t, ht, c⟩
      rw [bi_0.mp z] at this; cases this
    have hlen : len < w := by
      have h1 := fb_holes w (len + 1) (fun t => if t = len then a else qv t) (fun i hi => by
        by_cases c : i = len
        · simp only [if_pos c]; exact ha
        · simp only [if_neg c]; exact (hL.1 i (by omega)).2) (fun i j hij hj => by
        have c : i ≠ len := by omega
        simp only [if_neg c]
        by_cases c' : j = len
        · simp only [if_pos c']; exact hno i (by omega)
        · simp only [if_neg c']; exact hL.2.1 i j hij (by omega))
      omega
  · exfalso
    have := (nI_leI (a := 300) (b := len) (by decide) (by omega)).mp y
    omega
  · have Q1 := hQ.s4 (f := upd e a 1)
    refine gtR Q1.1 rfl (gtI Q1.1 rfl (asI Q1.2.2.2.1 (by omega) (by decide) ?_))
    have Q2 := Q1.s3 (f := upd q len (nI a))
    refine gtI Q2.1 rfl (ptV Q2.1 (Nat.le_of_ble_eq_true rfl) ⟨rfl, ?_⟩)
    rw [nI_1]
    refine hK _ (upd q len (nI a)) (upd e a 1) (fun t => if t = len then a else qv t) (len + 1) (Q2.s0 (c' := c_mk (nI (len + 1)) cs orr)) ⟨fun t ht => ?_, fun t t' h1 h2 => ?_, fun v hv => ?_⟩ (fun c => by rw [bi_0.mp z] at c; cases c) (fun _ => ⟨rfl, rfl⟩) (((Fr.rf.st (by decide)).st (by decide)).st (by decide)) (fun i hi => by
      rcases hi with c | c <;> subst c <;> exact (st_ne (by decide)).trans ((st_ne (by decide)).trans (st_ne (by decide))))
    · by_cases c : t = len
      · rw [c, pk_us]; simp only [if_true]; exact ⟨trivial, ha⟩
      · rw [pk_un c]; simp only [if_neg c]; exact hL.1 t (by omega)
    · have c : t ≠ len := by omega
      simp only [if_neg c]
      by_cases c' : t' = len
      · simp only [if_pos c']; exact hno t (by omega)
      · simp only [if_neg c']; exact hL.2.1 t t' h1 (by omega)
    · rw [inL_put]
      by_cases c : v = a
      · rw [c, pk_us]; simp [bi]
      · rw [pk_un c, hL.2.2 v hv, show decide (a = v) = false from decide_eq_false (fun z => c z.symm), Bool.or_false]
/-! the greedy pairs -/
theorem lm_free {K : am_H → Prop} {a n0 : Nat} (hE : EC h m ch L) (hv : ml_ok m) (hG : GB (m_aj m) L (m_th m) (m_nu m)) (hQ : QA h (c_mk ql cs orr) p r q e) (hp : ∀ v, v < m_nu m → p v = oi (pr v)) (hV : VM (m_aj m) pr) (ha : a < m_nu m) (hl : L a = true) (h0 : pr a = none)
    (hK : ∀ h' p' pr', QA h' (c_mk ql cs orr) p' r q e → (∀ v, v < m_nu m → p' v = oi (pr' v)) → VM (m_aj m) pr' → (∀ v, L v = true → v ≠ a → pr' v = pr v) → Fr 29 29 h h' → K h') :
    ∀ k n v frm, n + k = 300 → n ≤ frm → nx_m m a frm v → am_J l g mX1_pairWithFree (d + 2) (0, 0, x) 15 [(0, .ref 26), (1, .int (nI a)), (2, .int v), (3, .int (nI n))] [] h (fun r h' => r = none ∧ K h') := by
  have hn : m_nu m ≤ 300 := hv.1.2.2.2.2.2.1
  intro k
  induction k with
  | zero =>
    intro n v frm hnk hle hnx
    exact rX1_pairWithFree_15 ⟨fun _ => ⟨rfl, hK h p pr hQ hp hV (fun _ _ _ => rfl) Fr.rf⟩, fun z => absurd (show (300 : Int32) ≤ nI n by rw [show n = 300 by omega]; decide) z⟩
  | succ k ih =>
    intro n v frm hnk hle hnx
    refine rX1_pairWithFree_15 ⟨fun z => absurd ((nI_leI (a := 300) (by decide) (by omega)).mp z) (by omega), fun _ => ⟨fun _ => ⟨rfl, hK h p pr hQ hp hV (fun _ _ _ => rfl) Fr.rf⟩, fun z => ?_⟩⟩
    rcases hnx with ⟨c, -⟩ | ⟨b, c, hb1, hb2, hab, -⟩
    · exact absurd c z
    · subst c
      have hbn := (hG.t hab).2.2.2
      refine gtR hQ.1 rfl (alI hQ.2.1 (by omega) (by decide) ?_)
      rw [hp b hbn]
      cases hpb : pr b with
      | some a' =>
        have := (hG.t (hV b a' hpb).1).2.2.2
        refine ⟨fun _ => gtR hQ.1 rfl (gtR hE.1.1 rfl ⟨⟨_, hE.1.2.2.2.2.1⟩, ?_⟩), fun c => absurd c (n1_ne (by omega))⟩
        rw [nI_1]
        refine sp_nextM hE.1 (by omega) (by omega) (fun v hnx' => ?_)
        rw [nI_1]
        exact ih (n + 1) v (b + 1) (by omega) (by omega) hnx'
      | none =>
        refine ⟨fun c => absurd rfl c, fun _ => gtR hQ.1 rfl (asI hQ.2.1 (by omega) (by decide) ?_)⟩
        have Q1 := hQ.s1 (f := upd p a (nI b))
        refine gtR Q1.1 rfl (asI Q1.2.1 (by omega) (by decide) ⟨rfl, ?_⟩)
        have hab' := hG.ne hab
        refine hK _ _ (tw pr a b) (Q1.s1 (f := upd (upd p a (nI b)) b (nI a))) (fun v hv => ?_) ?_ (fun v hlv hne => tw_n hne (fun c => by rw [c, hG.r hab hl] at hlv; cases hlv)) ((Fr.rf.st (by decide)).st (by decide))
        · by_cases c : v = b
          · rw [c, pk_us, tw_b (Ne.symm hab')]; rfl
          · rw [pk_un c]
            by_cases c' : v = a
            · rw [c', pk_us, tw_a]; rfl
            · rw [pk_un c', tw_n c' c]; exact hp v hv
        · have := (FT.base (S := fun _ => false) hG hV hl hab rfl hpb (fun w hw => by rw [h0] at hw; cases hw)).1
          rw [h0, nh_0] at this; exact this
theorem lm_pairFree {K : am_H → Prop} (hE : EC h m ch L) (hv : ml_ok m) (hG : GB (m_aj m) L (m_th m) (m_nu m)) (hL : ∀ v, L v = true → m_th m v = true)
    (hK : ∀ h' p' pr', QA h' (c_mk ql cs orr) p' r q e → (∀ v, v < m_nu m → p' v = oi (pr' v)) → VM (m_aj m) pr' → Fr 29 29 h h' → K h') :
    ∀ k a h1 p pr, a + k = m_nu m → QA h1 (c_mk ql cs orr) p r q e → (∀ v, v < m_nu m → p v = oi (pr v)) → VM (m_aj m) pr → (∀ v, a ≤ v → L v = true → pr v = none) → Fr 29 29 h h1 → am_J l g mX1_pairWhatIsFree (d + 4) (0, 0, x) 10 [(0, .ref 26), (1, .int (nI a))] [] h1 (fun r h' => r = none ∧ K h') := by
  have hn : m_nu m ≤ 300 := hv.1.2.2.2.2.2.1
  intro k
  induction k with
  | zero =>
    intro a h1 p pr ha hQ hp hV hun hf
    have hE1 : EC h1 m ch L := hE.fr (fun i hi => hf i (by omega))
    exact rX1_pairWhatIsFree_10 (gtR hQ.1 rfl (gtI hE1.1.1 rfl ⟨fun _ => ⟨rfl, hK h1 p pr hQ hp hV hf⟩, fun z => absurd (nI_le (by omega) (by omega)) z⟩))
  | succ k ih =>
    intro a h1 p pr ha hQ hp hV hun hf
    have hE1 : EC h1 m ch L := hE.fr (fun i hi => hf i (by omega))
    refine rX1_pairWhatIsFree_10 (gtR hQ.1 rfl (gtI hE1.1.1 rfl ⟨fun z => absurd ((nI_leI (by omega) (by omega)).mp z) (by omega), fun _ => hE1.side hQ.1 (by omega) ⟨fun z => ?_, fun z => ⟨⟨_, hQ.1⟩, ?_⟩⟩⟩))
    · unfold zX1_pairWhatIsFree_38
      rw [nI_1]
      exact ih (a + 1) h1 p pr (by omega) hQ hp hV (fun v hva hl => hun v (by omega) hl) hf
    · have hl := bi_n0.mp z
      refine eX1_pairWithFree (gtR hQ.1 rfl (gtR hE1.1.1 rfl ⟨⟨_, hE1.1.2.2.2.2.1⟩, sp_nextM (frm := 0) hE1.1 (by omega) (by omega) (fun v hnx => ?_)⟩))
      refine lm_free (d := d + 1) (n0 := 0) hE1 hv hG hQ hp hV (by omega) hl (hun a (Nat.le_refl _) hl) (fun h' p' pr' Q' hp' hV' same f' => ?_) 300 0 v 0 (by omega) (by omega) hnx
      unfold zX1_pairWhatIsFree_38
      rw [nI_1]
      exact ih (a + 1) h' p' pr' (by omega) Q' hp' hV' (fun v hva hlv => by rw [same v hlv (by omega)]; exact hun v (by omega) hlv) (hf.tr f')
theorem sp_pairWhatIsFree {K : am_H → Prop} (hE : EC h m ch L) (hv : ml_ok m) (hG : GB (m_aj m) L (m_th m) (m_nu m)) (hL : ∀ v, L v = true → m_th m v = true) (hQ : QA h (c_mk ql cs orr) p r q e)
    (hK : ∀ h' p' pr', QA h' (c_mk ql cs orr) p' r q e → (∀ v, v < m_nu m → p' v = oi (pr' v)) → VM (m_aj m) pr' → Fr 29 29 h h' → K h') : cl_N l g mX1_pairWhatIsFree (d + 4) x [.ref 26] h K := by
  have hn : m_nu m ≤ 300 := hv.1.2.2.2.2.2.1
  refine eX1_pairWhatIsFree (gtR hQ.1 rfl (sp_fillI hQ.2.1 (by decide) ?_))
  exact lm_pairFree (d := d) (h := h) hE hv hG hL hK (m_nu m) 0 _ _ (fun _ => none) (by omega) hQ.s1 (fun v hv' => by unfold fl_u; rw [if_pos (by omega)]; rfl) (fun u v c => by cases c) (fun _ _ _ => rfl) (Fr.rf.st (by decide))
end CMAKE
