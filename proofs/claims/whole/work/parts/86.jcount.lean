/-! ===== count, side by side ===== -/
theorem sm_swap (p : Nat → Nat → Bool) : ∀ n k : Nat, fb_sm (fun i => fb_ct (p i) k) n = fb_sm (fun j => fb_ct (fun i => p i j) n) k := by
  intro n
  induction n with
  | zero =>
    intro k
    show 0 = fb_sm (fun _ => 0) k
    rw [fb_sm_const]; omega
  | succ n ih =>
    intro k
    rw [fb_sm_succ, ih k]
    have e : (fun j => fb_ct (fun i => p i j) (n + 1)) = (fun j => fb_ct (fun i => p i j) n + (if p n j then 1 else 0)) := rfl
    rw [e, fb_sm_add]
    have e2 : ∀ k, fb_sm (fun j => if p n j then 1 else 0) k = fb_ct (p n) k := by
      intro k
      induction k with
      | zero => rfl
      | succ k ih => rw [fb_sm_succ, ih, fb_ct_succ]
    rw [e2]
theorem ct_out {p : Nat → Bool} {a b : Nat} (hab : a ≤ b) (h : ∀ j, a ≤ j → p j = false) : fb_ct p b = fb_ct p a := by
  have e1 : fb_ct p b = fb_ct p (a + (b - a)) := by rw [show a + (b - a) = b by omega]
  rw [e1, fb_ct_split, (fb_ct_zero (p := fun k => p (a + k)) (n := b - a)).mpr (fun j _ => h (a + j) (by omega)), Nat.add_zero]
/-- links are told twice when they are told by their rings -/
theorem links2 {m : ml_T} (hv : ml_ok m) : fb_sm (fun k => if m_th m k = true then fb_ct (m_aj m k) (m_nu m) else 0) (m_nu m) = 2 * fb_sm (fun r => fb_ct (m_ov m r) 320) (m_nu m) := by
  have hn : m_nu m ≤ 300 := hv.1.2.2.2.2.2.1
  have ovn : ∀ a b, m_ov m a b = true → a < m_nu m ∧ b < m_nu m := fun a b hab => ⟨hv.2.1 a (hv.2.2 a b hab).1, hv.2.1 b (hv.2.2 a b hab).2.1⟩
  have e1 : fb_sm (fun r => fb_ct (m_ov m r) 320) (m_nu m) = fb_sm (fun r => fb_ct (m_ov m r) (m_nu m)) (m_nu m) := fb_sm_cong (fun r _ => ct_out (by omega) (fun j hj => Bool.eq_false_iff.mpr (fun c => by have := (ovn r j c).2; omega)))
  have e2 : fb_sm (fun k => if m_th m k = true then fb_ct (m_aj m k) (m_nu m) else 0) (m_nu m) = fb_sm (fun k => fb_ct (m_ov m k) (m_nu m) + fb_ct (fun j => m_ov m j k) (m_nu m)) (m_nu m) := fb_sm_cong (fun k hk => by
    have e3 : fb_ct (m_aj m k) (m_nu m) = fb_ct (m_ov m k) (m_nu m) + fb_ct (fun j => m_ov m j k) (m_nu m) := fb_ct_or (p := m_ov m k) (q := fun j => m_ov m j k) (fun j _ c => by have := (hv.2.2 k j c.1).2.2.2; rw [c.2] at this; cases this)
    show (if m_th m k = true then fb_ct (m_aj m k) (m_nu m) else 0) = fb_ct (m_ov m k) (m_nu m) + fb_ct (fun j => m_ov m j k) (m_nu m)
    by_cases c : m_th m k = true
    · rw [if_pos c, e3]
    · rw [if_neg c, ← e3]
      exact (fb_ct_zero.mpr (fun j _ => Bool.eq_false_iff.mpr (fun z => c (aj_th hv z).1))).symm)
  rw [e1, e2, fb_sm_add, sm_swap (fun k j => m_ov m j k)]
  show fb_sm (fun r => fb_ct (m_ov m r) (m_nu m)) (m_nu m) + fb_sm (fun r => fb_ct (m_ov m r) (m_nu m)) (m_nu m) = 2 * fb_sm (fun r => fb_ct (m_ov m r) (m_nu m)) (m_nu m)
  omega
section JCOUNT
variable {l : Launch} {g : am_G} {d : Nat} {x : Bool} {h : am_H} {N : Nat} {m : ml_T} {Wh : wv_T} {o : mo_T}
/-- what one ring adds to the sum -/
def sumE (l : Launch) (g : am_G) (d : Nat) (x : Bool) (i1 i2 i3 i4 : Int32) (h : am_H) (Q : Option Value → am_H → Prop) : Prop := ((¬ i1 = 1 → ((¬ i1 = 3 → ((¬ i1 = 4 → cv_I l g mX9_isCut d x 9 46 [.int i4, .int i3] h (fun v5 h4 => ((v5 = 0 → zX9_sum_117 l g d x 46 i1 i3 i4 i2 0 h4 Q) ∧ (¬ v5 = 0 → zX9_sum_117 l g d x 46 i1 i3 i4 i2 1 h4 Q)))) ∧ (i1 = 4 → cv_I l g mX9_binds d x 9 46 [.int i4] h (fun v7 h6 => ((v7 = 0 → zX9_sum_117 l g d x 46 i1 i3 i4 i2 0 h6 Q) ∧ (¬ v7 = 0 → zX9_sum_117 l g d x 46 i1 i3 i4 i2 1 h6 Q)))))) ∧ (i1 = 3 → cv_I l g mX9_isFull d x 9 46 [.int i4] h (fun v9 h8 => ((v9 = 0 → zX9_sum_117 l g d x 46 i1 i3 i4 i2 0 h8 Q) ∧ (¬ v9 = 0 → zX9_sum_117 l g d x 46 i1 i3 i4 i2 1 h8 Q)))))) ∧ (i1 = 1 → cv_I l g mX9_linksOf d x 9 46 [.int i4] h (fun v11 h10 => zX9_sum_117 l g d x 46 i1 i3 i4 i2 v11 h10 Q)))
def SJ (h0 h : am_H) : Prop := (∃ f, h[65]? = some (am_I 0 300 f)) ∧ (∃ f, h[66]? = some (am_I 0 300 f)) ∧ Fr 65 66 h0 h
theorem lm_sum {K : Int32 → am_H → Prop} {w all : Int32} {c : Nat → Nat} (hM : MM h m Wh o) (hv : ml_ok m)
    (hin : ∀ a h1 n Q, a < m_nu m → m_th m a = true → SJ h h1 → (∀ h2, SJ h h2 → zX9_sum_117 l g d x 46 w all (nI a) n (nI (c a)) h2 Q) → sumE l g d x w n all (nI a) h1 Q)
    (hK : ∀ h', SJ h h' → K (nI (fb_sm (fun k => if m_th m k = true then c k else 0) (m_nu m))) h') :
    ∀ k a h1, a + k = m_nu m → SJ h h1 → am_J l g mX9_sum (d + 1) (0, 0, x) 24 [(0, .ref 46), (1, .int w), (2, .int (nI (fb_sm (fun k => if m_th m k = true then c k else 0) a))), (3, .int all), (4, .int (nI a))] [] h1 (fun r h' => ∃ v, r = some (.int v) ∧ K v h') := by
  have hn : m_nu m ≤ 300 := hv.1.2.2.2.2.2.1
  intro k
  induction k with
  | zero =>
    intro a h1 ha hJ
    have : a = m_nu m := by omega
    subst this
    have hM1 := hM.out (h' := h1) (fun i hi => hJ.2.2 i (by omega))
    exact rX9_sum_24 (gtI hM1.1 rfl ⟨fun _ => ⟨_, rfl, hK h1 hJ⟩, fun z => absurd (nI_le (by omega) (by omega)) z⟩)
  | succ k ih =>
    intro a h1 ha hJ
    have hM1 := hM.out (h' := h1) (fun i hi => hJ.2.2 i (by omega))
    obtain ⟨-, -, ⟨f6, h60, h60'⟩, -⟩ := id hM1
    refine rX9_sum_24 (gtI hM1.1 rfl ⟨fun z => absurd ((nI_leI (by omega) (by omega)).mp z) (by omega), fun _ => gtR hM1.1 rfl (alI h60 (by omega) (by decide) ?_)⟩)
    rw [h60' a (by omega)]
    refine ⟨fun z => ?_, fun z => ?_⟩
    · unfold zX9_sum_119
      have e : fb_sm (fun k => if m_th m k = true then c k else 0) (a + 1) = fb_sm (fun k => if m_th m k = true then c k else 0) a := by rw [fb_sm_succ]; simp [bi_0.mp z]
      rw [nI_1, ← e]
      exact ih (a + 1) h1 (by omega) hJ
    · refine hin a h1 _ _ (by omega) (bi_n0.mp z) hJ (fun h2 hJ2 => ?_)
      unfold zX9_sum_117 zX9_sum_119
      have e : fb_sm (fun k => if m_th m k = true then c k else 0) (a + 1) = fb_sm (fun k => if m_th m k = true then c k else 0) a + c a := by rw [fb_sm_succ]; simp [bi_n0.mp z]
      rw [nI_1, nI_add, ← e]
      exact ih (a + 1) h2 (by omega) hJ2
theorem sm_ct {p t : Nat → Bool} (n : Nat) : fb_sm (fun k => if t k = true then (if p k = true then 1 else 0) else 0) n = fb_ct (fun k => t k && p k) n := by
  induction n with
  | zero => rfl
  | succ n ih =>
    rw [fb_sm_succ, ih, fb_ct_succ]
    cases t n <;> cases p n <;> simp
theorem MA.near {h h' : am_H} (hA : MA h) (hN : NR h' m) (hf : Fr 63 64 h h') : MA h' := by
  obtain ⟨⟨f1, a1⟩, ⟨f2, a2⟩, ⟨f3, a3⟩, ⟨f4, a4⟩, ⟨f5, a5⟩, ⟨f6, a6⟩, ⟨f7, a7⟩, ⟨f8, a8⟩, ⟨f9, a9⟩, ⟨f10, a10⟩⟩ := hA
  obtain ⟨nf, ng, n3, n4, -⟩ := hN
  exact ⟨⟨nf, n3⟩, ⟨ng, n4⟩, ⟨f3, (hf 65 (by decide)).trans a3⟩, ⟨f4, (hf 66 (by decide)).trans a4⟩, ⟨f5, (hf 67 (by decide)).trans a5⟩, ⟨f6, (hf 68 (by decide)).trans a6⟩, ⟨f7, (hf 69 (by decide)).trans a7⟩, ⟨f8, (hf 70 (by decide)).trans a8⟩, ⟨f9, (hf 71 (by decide)).trans a9⟩, ⟨f10, (hf 72 (by decide)).trans a10⟩⟩
theorem MA.piece {h h' : am_H} (hA : MA h) (h5 : ∃ f, h'[65]? = some (am_I 0 300 f)) (h6 : ∃ f, h'[66]? = some (am_I 0 300 f)) (hf : Fr 65 66 h h') : MA h' := by
  obtain ⟨⟨f1, a1⟩, ⟨f2, a2⟩, -, -, ⟨f5, a5⟩, ⟨f6, a6⟩, ⟨f7, a7⟩, ⟨f8, a8⟩, ⟨f9, a9⟩, ⟨f10, a10⟩⟩ := hA
  exact ⟨⟨f1, (hf 63 (by decide)).trans a1⟩, ⟨f2, (hf 64 (by decide)).trans a2⟩, h5, h6, ⟨f5, (hf 67 (by decide)).trans a5⟩, ⟨f6, (hf 68 (by decide)).trans a6⟩, ⟨f7, (hf 69 (by decide)).trans a7⟩, ⟨f8, (hf 70 (by decide)).trans a8⟩, ⟨f9, (hf 71 (by decide)).trans a9⟩, ⟨f10, (hf 72 (by decide)).trans a10⟩⟩
/-- the sums, what 1, 3, 4, 5 -/
theorem ms_sum {K : Int32 → am_H → Prop} {w : Int32} {s : sz_T} (hM : MM h m Wh o) (hv : ml_ok m) (hA : MA h) (hs : o.2.2.2.2.2 = s) (hw : w = 1 ∨ w = 3 ∨ w = 4 ∨ w = 5)
    (h1 : ∀ h', w = 1 → MA h' → Fr 63 66 h h' → K (nI (2 * fb_sm (fun r => fb_ct (m_ov m r) 320) (m_nu m))) h') (h3 : ∀ h', w = 3 → MA h' → Fr 63 66 h h' → K (nI (fb_ct (fun k => m_th m k && (decide (k < m_sh m) && m_fla m k m.1.2.1)) (m_nu m))) h')
    (h4 : ∀ h', w = 4 → MA h' → Fr 63 66 h h' → K (nI (fb_ct (fun k => m_th m k && bd m s k) (m_nu m))) h') (h5 : ∀ h', w = 5 → MA h' → Fr 63 66 h h' → K (nI (fb_ct (m_ct m) (m_nu m))) h') : cl_I l g mX9_sum (d + 3) x [.ref 46, .int w] h K := by
  obtain ⟨⟨f3, a3⟩, ⟨f4, a4⟩, ⟨f5, a5⟩, ⟨f6, a6⟩, -⟩ := id hA
  refine eX9_sum ⟨⟨_, hM.1⟩, ms_findNear hM hv.1 a3 a4 (fun hx N1 fx => ?_)⟩
  have M1 := hM.out (h' := hx) (fun i hi => fx i (by omega))
  have A1 := hA.near N1 fx
  have p5 := (fx 65 (by decide)).trans a5
  have p6 := (fx 66 (by decide)).trans a6
  have J0 : SJ hx hx := ⟨⟨f5, p5⟩, ⟨f6, p6⟩, Fr.rf⟩
  have bits : ∀ (b : Bool) (h2 : am_H) (w all a n : Int32) (Q : Option Value → am_H → Prop), zX9_sum_117 l g (d + 2) x 46 w all a n (nI (if b = true then 1 else 0)) h2 Q → ((bi b = 0 → zX9_sum_117 l g (d + 2) x 46 w all a n 0 h2 Q) ∧ (¬ bi b = 0 → zX9_sum_117 l g (d + 2) x 46 w all a n 1 h2 Q)) := fun b h2 w all a n Q hz => by
    cases b with
    | true => exact ⟨fun c => absurd c (by decide), fun _ => hz⟩
    | false => exact ⟨fun _ => hz, fun c => absurd rfl c⟩
  have fin : ∀ h', SJ hx h' → MA h' ∧ Fr 63 66 h h' := fun h' J => ⟨A1.piece J.1 J.2.1 J.2.2, (fx.mono (by omega) (by omega)).tr (J.2.2.mono (by omega) (by omega))⟩
  refine ⟨fun z5 => ?_, fun z5 => ?_⟩
  · unfold zX9_sum_20
    rcases hw with e | e | e | e
    · subst e
      have := lm_sum (l := l) (g := g) (d := d + 2) (x := x) (K := K) (w := 1) (all := 0) (c := fun a => fb_ct (m_aj m a) (m_nu m)) M1 hv (fun a h1' n Q ha ht J hz => ⟨fun c => absurd rfl c, fun _ => ⟨⟨_, (M1.out (h' := h1') (fun i hi => J.2.2 i (by omega))).1⟩, ms_linksOf (M1.out (h' := h1') (fun i hi => J.2.2 i (by omega))) hv.1 (by have : m_nu m ≤ 300 := hv.1.2.2.2.2.2.1; omega) (hz h1' J)⟩⟩) (fun h' J => by rw [links2 hv]; exact h1 h' rfl (fin h' J).1 (fin h' J).2) (m_nu m) 0 hx (by omega) J0
      exact this
    · subst e
      have := lm_sum (l := l) (g := g) (d := d + 2) (x := x) (K := K) (w := 3) (all := 0) (c := fun a => if (decide (a < m_sh m) && m_fla m a m.1.2.1) = true then 1 else 0) M1 hv (fun a h1' n Q ha ht J hz => ⟨fun _ => ⟨fun c => absurd rfl c, fun _ => ⟨⟨_, (M1.out (h' := h1') (fun i hi => J.2.2 i (by omega))).1⟩, ms_isFull (M1.out (h' := h1') (fun i hi => J.2.2 i (by omega))) hv ha (bits _ h1' _ _ _ _ _ (hz h1' J))⟩⟩, fun c => absurd c (by decide)⟩) (fun h' J => by rw [sm_ct (p := fun k => decide (k < m_sh m) && m_fla m k m.1.2.1)]; exact h3 h' rfl (fin h' J).1 (fin h' J).2) (m_nu m) 0 hx (by omega) J0
      exact this
    · subst e
      have := lm_sum (l := l) (g := g) (d := d + 2) (x := x) (K := K) (w := 4) (all := 0) (c := fun a => if bd m s a = true then 1 else 0) M1 hv (fun a h1' n Q ha ht J hz => ⟨fun _ => ⟨fun _ => ⟨fun c => absurd rfl c, fun _ => ⟨⟨_, (M1.out (h' := h1') (fun i hi => J.2.2 i (by omega))).1⟩, ms_binds (M1.out (h' := h1') (fun i hi => J.2.2 i (by omega))) hv hs ha (bits _ h1' _ _ _ _ _ (hz h1' J))⟩⟩, fun c => absurd c (by decide)⟩, fun c => absurd c (by decide)⟩) (fun h' J => by rw [sm_ct (p := bd m s)]; exact h4 h' rfl (fin h' J).1 (fin h' J).2) (m_nu m) 0 hx (by omega) J0
      exact this
    · exact absurd e z5
  · subst z5
    refine ⟨⟨_, M1.1⟩, ms_findPieces M1 hv N1 (PW.none hv) p5 p6 (fun h2 pc2 q5 q6 _ f2 => ?_)⟩
    have M2 := M1.out (h' := h2) (fun i hi => f2 i (by omega))
    have N2 := N1.fr (h' := h2) (f2 63 (by decide)) (f2 64 (by decide))
    unfold zX9_sum_20
    have := lm_sum (l := l) (g := g) (d := d + 2) (x := x) (K := K) (w := 5) (all := nI (npc (m_aj m) (m_th m) (m_nu m))) (c := fun a => if cB (CutP (m_aj m) (m_th m) a) = true then 1 else 0) M2 hv (fun a h1' n Q ha ht J hz => ⟨fun _ => ⟨fun _ => ⟨fun _ => ?_, fun c => absurd c (by decide)⟩, fun c => absurd c (by decide)⟩, fun c => absurd c (by decide)⟩) (fun h' J => ?_) (m_nu m) 0 h2 (by omega) ⟨⟨pc2, q5⟩, q6, Fr.rf⟩
    · exact this
    · obtain ⟨⟨pa, ja⟩, ⟨pb, jb⟩, jf⟩ := J
      have Mx := M2.out (h' := h1') (fun i hi => jf i (by omega))
      exact ⟨⟨_, Mx.1⟩, ms_isCut (d := d) Mx hv (N2.fr (jf 63 (by decide)) (jf 64 (by decide))) ha ht ja jb (fun h3 k5 k6 f3 => bits _ h3 _ _ _ _ _ (hz h3 ⟨k5, k6, jf.tr f3⟩))⟩
    · rw [sm_ct (p := fun k => cB (CutP (m_aj m) (m_th m) k))]
      have J' : SJ hx h' := ⟨J.1, J.2.1, f2.tr J.2.2⟩
      exact h5 h' rfl (fin h' J').1 (fin h' J').2
end JCOUNT
