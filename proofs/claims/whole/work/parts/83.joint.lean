/-! ===== the mail stays as it should be ===== -/
section OKS
variable {m : ml_T}
theorem ok_put (hv : ml_ok m) (h : m_nu m < 300) : ml_ok (m_put m) := by
  obtain ⟨⟨a1, a2, a3, a4, a5, a6, a7⟩, b, c⟩ := hv
  refine ⟨⟨a1, a2, a3, a4, ?_, ?_, trivial⟩, fun i hi => ?_, fun a b' hab => ?_⟩
  · show m_sh m ≤ m_nu m + 1
    omega
  · show m_nu m + 1 ≤ 300
    omega
  · show i < m_nu m + 1
    have hi' : (if i = m_nu m then true else m_th m i) = true := hi
    by_cases e : i = m_nu m
    · omega
    · rw [if_neg e] at hi'; have := b i hi'; omega
  · obtain ⟨c1, c2, c3, c4⟩ := c a b' hab
    refine ⟨?_, ?_, c3, c4⟩
    · show (if a = m_nu m then true else m_th m a) = true
      by_cases e : a = m_nu m
      · rw [if_pos e]
      · rw [if_neg e]; exact c1
    · show (if b' = m_nu m then true else m_th m b') = true
      by_cases e : b' = m_nu m
      · rw [if_pos e]
      · rw [if_neg e]; exact c2
theorem ok_take {r : Nat} (hv : ml_ok m) : ml_ok (m_take m r) := by
  obtain ⟨hg, b, c⟩ := hv
  refine ⟨hg, fun i hi => ?_, fun u v huv => ?_⟩
  · have hi' : (if i = r then false else m_th m i) = true := hi
    by_cases e : i = r
    · rw [if_pos e] at hi'; cases hi'
    · rw [if_neg e] at hi'; exact b i hi'
  · have huv' : (if u = r ∨ v = r then false else m_ov m u v) = true := huv
    by_cases e : u = r ∨ v = r
    · rw [if_pos e] at huv'; cases huv'
    · rw [if_neg e] at huv'
      obtain ⟨c1, c2, c3, c4⟩ := c u v huv'
      refine ⟨?_, ?_, c3, ?_⟩
      · show (if u = r then false else m_th m u) = true
        rw [if_neg (fun z => e (Or.inl z))]; exact c1
      · show (if v = r then false else m_th m v) = true
        rw [if_neg (fun z => e (Or.inr z))]; exact c2
      · show (if v = r ∨ u = r then false else m_ov m v u) = false
        rw [if_neg (fun z => e z.symm)]; exact c4
theorem ok_link {i j : Nat} (hv : ml_ok m) (hi : m_th m i = true) (hj : m_th m j = true) (hij : i ≠ j) (ha : m_aj m i j = false) : ml_ok (m_link m i j) := by
  obtain ⟨hg, b, c⟩ := hv
  unfold m_aj at ha
  rw [Bool.or_eq_false_iff] at ha
  refine ⟨hg, b, fun u v huv => ?_⟩
  have huv' : (if u = i ∧ v = j then true else m_ov m u v) = true := huv
  by_cases e : u = i ∧ v = j
  · obtain ⟨e1, e2⟩ := e
    subst e1 e2
    refine ⟨hi, hj, hij, ?_⟩
    show (if v = u ∧ u = v then true else m_ov m v u) = false
    rw [if_neg (fun z => hij z.2)]; exact ha.2
  · rw [if_neg e] at huv'
    obtain ⟨c1, c2, c3, c4⟩ := c u v huv'
    refine ⟨c1, c2, c3, ?_⟩
    show (if v = i ∧ u = j then true else m_ov m v u) = false
    by_cases e' : v = i ∧ u = j
    · rw [e'.1, e'.2, ha.2] at huv'; cases huv'
    · rw [if_neg e']; exact c4
theorem ok_unlink {i j : Nat} (hv : ml_ok m) : ml_ok (m_unlink m i j) := by
  obtain ⟨hg, b, c⟩ := hv
  refine ⟨hg, b, fun u v huv => ?_⟩
  have huv' : (if (u = i ∧ v = j) ∨ (u = j ∧ v = i) then false else m_ov m u v) = true := huv
  by_cases e : (u = i ∧ v = j) ∨ (u = j ∧ v = i)
  · rw [if_pos e] at huv'; cases huv'
  · rw [if_neg e] at huv'
    obtain ⟨c1, c2, c3, c4⟩ := c u v huv'
    refine ⟨c1, c2, c3, ?_⟩
    show (if (v = i ∧ u = j) ∨ (v = j ∧ u = i) then false else m_ov m v u) = false
    split
    · rfl
    · exact c4
theorem ok_mend (hv : ml_ok m) : ml_ok (m_md m (m_sh m)) := by
  obtain ⟨hg, b, c⟩ := hv
  obtain ⟨e1, e2, e3, e4, e5⟩ := m_md_g m (m_sh m)
  have hsn : m_sh m ≤ m_nu m := hg.2.2.2.2.1
  refine ⟨(m_md_gg hg).1, fun i hi => ?_, fun u v huv => ?_⟩
  · show i < (m_md m (m_sh m)).2.2.2.1
    rw [e4]
    rw [e5 i] at hi
    by_cases q : i < m_sh m
    · show i < m_nu m
      omega
    · rw [if_neg q] at hi; exact b i hi
  · rw [mend_ov hg] at huv ⊢
    rw [e5 u, e5 v]
    rw [Bool.or_eq_true] at huv
    rcases huv with q | q
    · obtain ⟨c1, c2, c3, c4⟩ := c u v q
      refine ⟨?_, ?_, c3, ?_⟩
      · rw [c1]; split <;> rfl
      · rw [c2]; split <;> rfl
      · rw [c1, c2, c4]; simp
    · rw [Bool.and_eq_true] at q
      obtain ⟨l1, l2⟩ := tl_lt hg q.1
      obtain ⟨n1, n2⟩ := tl_anti hg q.1
      refine ⟨by rw [if_pos l1], by rw [if_pos l2], n1, ?_⟩
      rw [n2, Bool.false_and, Bool.or_false]
      refine Bool.eq_false_iff.mpr (fun z => ?_)
      obtain ⟨c1, c2, -⟩ := c v u z
      rw [c1, c2] at q; exact absurd q.2 (by decide)
theorem ok_lay {W : wv_T} {co ro : Nat} (hw : wv_ok W) (hco : co ≤ 12) (hro : ro ≤ 12) (hsh : co * ro * W.1 ≤ 240) : ml_ok (m_ly (m_0 W co ro) (co * ro * W.1)) := by
  have hg : ml_g (m_0 W co ro) := ⟨hw, hco, hro, hsh, Nat.le_refl _, Nat.le_trans hsh (by decide), trivial⟩
  have he := m_ly_eq (m_0 W co ro) (co * ro * W.1)
  have hth : ∀ i, m_th (m_ly (m_0 W co ro) (co * ro * W.1)) i = decide (i < co * ro * W.1) := fun i => by
    unfold m_th
    rw [he.2.2.2.2]; rfl
  refine ⟨he.g hg, fun i hi => ?_, fun u v huv => ?_⟩
  · rw [hth i] at hi
    show i < (m_ly (m_0 W co ro) (co * ro * W.1)).2.2.2.1
    rw [he.2.2.2.1]
    exact of_decide_eq_true hi
  · rw [lay_ov hg] at huv ⊢
    rw [hth u, hth v]
    obtain ⟨l1, l2⟩ := tl_lt hg huv
    obtain ⟨n1, n2⟩ := tl_anti hg huv
    exact ⟨decide_eq_true l1, decide_eq_true l2, n1, n2⟩
end OKS
/-! ===== class and model side by side ===== -/
abbrev sz_T : Type := Int32 × Int32 × Int32
def SZ (s : sz_T) : Prop := ∃ w i k : Nat, s = (nI w, nI i, nI k) ∧ 1 ≤ w ∧ w ≤ 999 ∧ 1 ≤ i ∧ i ≤ 9999 ∧ 1 ≤ k ∧ k ≤ 99
def JC (N : Nat) (h : am_H) (m : ml_T) (W : wv_T) (T : tp_T) (s : sz_T) : Prop := ∃ ch u v Wv, h[0]? = some (c_top u v s.1 s.2.1 s.2.2) ∧ ((u = 34 ∧ v = 40) ∨ (u = 40 ∧ v = 34)) ∧ TC h T ∧ RC h ∧ WC h u W ∧ WC h v Wv ∧ MC h m ch ∧ CS h m ch ∧ ch ≤ N * 12000
def JM (h : am_H) (m : ml_T) (W : wv_T) (T : tp_T) (s : sz_T) : Prop := ∃ o : mo_T, MM h m W o ∧ TM h o T ∧ AX h ∧ (∃ f, h[62]? = some (am_I 2 300 f)) ∧ MA h ∧ o.2.2.2.2.2 = s
def JP (m : ml_T) (W : wv_T) (T : tp_T) (s : sz_T) : Prop := tp_ok T ∧ wv_ok W ∧ ml_ok m ∧ SZ s
def RJ (N : Nat) (h : am_H) : Prop := ∃ m W T s, JC N h m W T s ∧ JM h m W T s ∧ JP m W T s ∧ ∃ f, h[73]? = some (am_L 1 f)
theorem n12 {a N : Nat} (h : a ≤ N * 12000) : a ≤ (N + 1) * 12000 := Nat.le_trans h (Nat.mul_le_mul_right _ (Nat.le_succ _))
theorem n12' {a b N : Nat} (h : a ≤ N * 12000) (h' : b ≤ a + 12000) : b ≤ (N + 1) * 12000 := by
  rw [Nat.succ_mul]; exact Nat.le_trans h' (Nat.add_le_add_right h _)
theorem n12b {a N : Nat} (h : a ≤ N * 12000) (hN : N ≤ 1000) : a ≤ 12000000 := Nat.le_trans h (Nat.le_trans (Nat.mul_le_mul_right _ hN) (Nat.le_of_ble_eq_true rfl))
section JOINT
variable {l : Launch} {g : am_G} {d : Nat} {x : Bool} {h h' : am_H} {N : Nat} {m : ml_T} {W : wv_T} {T : tp_T} {s : sz_T}
theorem TC.fr' (hT : TC h T) (h1 : h'[1]? = h[1]?) (h2 : h'[2]? = h[2]?) : TC h' T := by
  obtain ⟨a, b, f, c, e⟩ := hT
  exact ⟨h1.trans a, b, f, h2.trans c, e⟩
theorem RC.fr' (hR : RC h) (hf : ∀ i, 3 ≤ i → i ≤ 5 → h'[i]? = h[i]?) : RC h' := by
  obtain ⟨v, b, k, s, vv, f, a1, a2, a3⟩ := hR
  exact ⟨v, b, k, s, vv, f, (hf 3 (by decide) (by decide)).trans a1, (hf 4 (by decide) (by decide)).trans a2, (hf 5 (by decide) (by decide)).trans a3⟩
theorem JC.fr (hC : JC N h m W T s) (hf : ∀ i, i ≤ 45 → h'[i]? = h[i]?) : JC (N + 1) h' m W T s := by
  obtain ⟨ch, u, v, Wv, q0, huv, hT, hR, hu, hv, hM, hS, hch⟩ := hC
  refine ⟨ch, u, v, Wv, (hf 0 (by decide)).trans q0, huv, hT.fr' (hf 1 (by decide)) (hf 2 (by decide)), hR.fr' (fun i a b => hf i (by omega)), hu.fr (fun i a b => hf i (by omega)), hv.fr (fun i a b => hf i (by omega)), hM.fr (fun i a b => hf i (by omega)), hS.fr (fun i a b => hf i (by omega)), n12 hch⟩
theorem AX.fr' (hA : AX h) (hf : ∀ i, (48 ≤ i ∧ i ≤ 51) ∨ i = 53 → h'[i]? = h[i]?) : AX h' := by
  obtain ⟨⟨f1, a1⟩, ⟨f2, a2⟩, ⟨f3, a3⟩, ⟨f4, a4, a4'⟩, ⟨f5, a5⟩⟩ := hA
  exact ⟨⟨f1, (hf 48 (by decide)).trans a1⟩, ⟨f2, (hf 49 (by decide)).trans a2⟩, ⟨f3, (hf 50 (by decide)).trans a3⟩, ⟨f4, (hf 51 (by decide)).trans a4, a4'⟩, ⟨f5, (hf 53 (by decide)).trans a5⟩⟩
theorem MA.fr' (hA : MA h) (hf : ∀ i, 63 ≤ i → i ≤ 72 → h'[i]? = h[i]?) : MA h' := by
  obtain ⟨⟨f1, a1⟩, ⟨f2, a2⟩, ⟨f3, a3⟩, ⟨f4, a4⟩, ⟨f5, a5⟩, ⟨f6, a6⟩, ⟨f7, a7⟩, ⟨f8, a8⟩, ⟨f9, a9⟩, ⟨f10, a10⟩⟩ := hA
  exact ⟨⟨f1, (hf 63 (by decide) (by decide)).trans a1⟩, ⟨f2, (hf 64 (by decide) (by decide)).trans a2⟩, ⟨f3, (hf 65 (by decide) (by decide)).trans a3⟩, ⟨f4, (hf 66 (by decide) (by decide)).trans a4⟩, ⟨f5, (hf 67 (by decide) (by decide)).trans a5⟩, ⟨f6, (hf 68 (by decide) (by decide)).trans a6⟩, ⟨f7, (hf 69 (by decide) (by decide)).trans a7⟩, ⟨f8, (hf 70 (by decide) (by decide)).trans a8⟩, ⟨f9, (hf 71 (by decide) (by decide)).trans a9⟩, ⟨f10, (hf 72 (by decide) (by decide)).trans a10⟩⟩
theorem TM.fr' {o o' : mo_T} (hT : TM h o T) (e : o'.2.1 = o.2.1) (h1 : h'[47]? = h[47]?) : TM h' o' T := by
  obtain ⟨a, b, f, c, d⟩ := hT
  exact ⟨e.trans a, b, f, h1.trans c, d⟩
theorem JM.fr (hM : JM h m W T s) (hf : ∀ i, 46 ≤ i → i ≤ 72 → h'[i]? = h[i]?) : JM h' m W T s := by
  obtain ⟨o, a1, a2, a3, ⟨f, a4⟩, a5, a6⟩ := hM
  exact ⟨o, a1.out (fun i hi => hf i (by omega) (by omega)), a2.fr' rfl (hf 47 (by decide) (by decide)), a3.fr' (fun i hi => hf i (by omega) (by omega)), ⟨f, (hf 62 (by decide) (by decide)).trans a4⟩, a5.fr' (fun i p q => hf i (by omega) q), a6⟩
/-- after a call of the model that keeps to its own cells -/
theorem JM.keep {o : mo_T} {m' : ml_T} {W' : wv_T} (hT : TM h o T) (hA : AX h) (h62 : ∃ f, h[62]? = some (am_I 2 300 f)) (hMA : MA h) (hs : o.2.2.2.2.2 = s) (hM' : MM h' m' W' (o_0 o)) (hf : FrM h h') : JM h' m' W' T s := by
  obtain ⟨f, h62⟩ := h62
  exact ⟨o_0 o, hM', hT.fr' rfl (hf 47 (by decide)), hA.fr' (fun i hi => hf i (by omega)), ⟨f, (hf 62 (by decide)).trans h62⟩, hMA.fr' (fun i p q => hf i (by omega)), hs⟩
/-- the class's side when the mail has changed -/
theorem JC.mail {ch ch' u v : Nat} {m' : ml_T} {Wv : wv_T} (q0 : h[0]? = some (c_top u v s.1 s.2.1 s.2.2)) (huv : (u = 34 ∧ v = 40) ∨ (u = 40 ∧ v = 34)) (hT : TC h T) (hR : RC h) (hu : WC h u W) (hv : WC h v Wv) (hS : CS h m ch) (hch : ch ≤ N * 12000) (hN : N ≤ 1000) (hM' : MC h' m' ch') (h1 : ch < ch' ∨ (ch' = ch ∧ m' = m)) (h2 : ch' ≤ ch + 12000) (hf : Fr 6 17 h h') : JC (N + 1) h' m' W T s := by
  refine ⟨ch', u, v, Wv, (hf 0 (by decide)).trans q0, huv, hT.fr' (hf 1 (by decide)) (hf 2 (by decide)), hR.fr' (fun i a b => hf i (by omega)), hu.fr (fun i a b => hf i (by omega)), hv.fr (fun i a b => hf i (by omega)), hM', ?_, n12' hch h2⟩
  rcases h1 with q | ⟨q1, q2⟩
  · exact hS.next q (by have := n12b hch hN; omega) (fun i a b => hf i (by omega))
  · rw [q1, q2]; exact hS.fr (fun i a b => hf i (by omega))
/-- a call on each side -/
def JT (l : Launch) (g : am_G) (MC' MM' : am_M) (d : Nat) (x : Bool) (As : List Value) (h : am_H) (P : Int32 → Int32 → am_H → Prop) : Prop := cv_I l g MC' d x 8 0 As h (fun v h1 => cv_I l g MM' d x 9 46 As h1 (fun w h2 => P v w h2))
theorem jt_feed {a b c : Int64} {P : Int32 → Int32 → am_H → Prop} (hR : RJ N h) (hK : ∀ v h', RJ (N + 1) h' → P v v h') : JT l g mX8_feed mX9_feed (d + 2) x [.long a, .long b, .long c] h P := by
  obtain ⟨m, W, T, s, ⟨ch, u, v, Wv, q0, huv, hT, hRC, hu, hv', hM, hS, hch⟩, ⟨o, mM, mT, mA, m62, mMA, ms⟩, ⟨tk, wk, vk, sz⟩, ⟨f73, h73⟩⟩ := hR
  refine ⟨⟨_, q0⟩, sp_feed (c0 := c_top u v s.1 s.2.1 s.2.2) q0 hT (fun h1 T1 f1 => ?_)⟩
  have m1 : MM h1 m W o := mM.out (fun i hi => f1 i (by omega))
  refine ⟨⟨_, m1.1⟩, ms_feed m1 (mT.fr' rfl (f1 47 (by decide))) (fun h2 o2 m2 T2 e2 f2 => hK _ h2 ?_)⟩
  refine ⟨m, W, _, s, ⟨ch, u, v, Wv, ?_, huv, T1.fr' (f2 1 (by decide)) (f2 2 (by decide)), hRC.fr' (fun i a b => (f2 i (by omega)).trans (f1 i (by omega))), hu.fr (fun i a b => (f2 i (by omega)).trans (f1 i (by omega))), hv'.fr (fun i a b => (f2 i (by omega)).trans (f1 i (by omega))), hM.fr (fun i a b => (f2 i (by omega)).trans (f1 i (by omega))), hS.fr (fun i a b => (f2 i (by omega)).trans (f1 i (by omega))), n12 hch⟩, ⟨o2, m2, T2, mA.fr' (fun i hi => (f2 i (by omega)).trans (f1 i (by omega))), ?_, mMA.fr' (fun i p q => (f2 i (by omega)).trans (f1 i (by omega))), by rw [e2]; exact ms⟩, ⟨tp_8_ok (tp_8_ok (tp_8_ok tk)), wk, vk, sz⟩, f73, ((f2 73 (by decide)).trans (f1 73 (by decide))).trans h73⟩
  · exact ((f2 0 (by decide)).trans (f1 0 (by decide))).trans q0
  · obtain ⟨f, h62⟩ := m62
    exact ⟨f, ((f2 62 (by decide)).trans (f1 62 (by decide))).trans h62⟩
theorem jt_weave {P : Int32 → Int32 → am_H → Prop} (hR : RJ N h) (hK : ∀ v h', RJ (N + 1) h' → P v v h') : JT l g mX8_weave mX9_weave (d + 6) x [] h P := by
  obtain ⟨m, W, T, s, ⟨ch, u, v, Wv, q0, huv, hT, hRC, hu, hv', hM, hS, hch⟩, ⟨o, mM, mT, mA, m62, mMA, ms⟩, ⟨tk, wk, vk, sz⟩, ⟨f73, h73⟩⟩ := hR
  refine ⟨⟨_, q0⟩, sp_weave tk huv q0 hT hRC hu hv' (fun h1 u1 v1 Wu1 Wv1 T1 R1 uv1 q1 wu1 wv1 e0 e1 f1 => ?_)⟩
  have m1 : MM h1 m W o := mM.out (fun i hi => f1 i (by omega) (by omega))
  refine ⟨⟨_, m1.1⟩, ms_weave (d := d + 1) tk m1 (mT.fr' rfl (f1 47 (by decide) (by decide))) (mA.fr' (fun i hi => f1 i (by omega) (by omega))) wk (fun h2 o2 Wh2 m2 T2 A2 g0 g1 g2 f2 => hK _ h2 ?_)⟩
  have eW : Wh2 = Wu1 := by
    by_cases c : (p_all T).1 = 0
    · rw [e0 c, g0 c]
    · rw [e1 c, g1 c]
  have hok : wv_ok Wu1 := by
    by_cases c : (p_all T).1 = 0
    · rw [e0 c]; exact p_all_ok T
    · rw [e1 c]; exact wk
  subst eW
  refine ⟨m, Wh2, (0, T.2), s, ⟨ch, u1, v1, Wv1, (f2 0 (by decide)).trans q1, uv1, T1.fr' (f2 1 (by decide)) (f2 2 (by decide)), R1.fr' (fun i a b => f2 i (by omega)), wu1.fr (fun i a b => f2 i (by omega)), wv1.fr (fun i a b => f2 i (by omega)), hM.fr (fun i a b => (f2 i (by omega)).trans (f1 i (by omega) (by omega))), hS.fr (fun i a b => (f2 i (by omega)).trans (f1 i (by omega) (by omega))), n12 hch⟩, ⟨o2, m2, T2, A2, ?_, mMA.fr' (fun i p q => (f2 i (by omega)).trans (f1 i (by omega) (by omega))), by rw [g2.2]; exact ms⟩, ⟨⟨Nat.zero_le _, fun i hi => absurd hi (Nat.not_lt_zero _)⟩, hok, vk, sz⟩, f73, ((f2 73 (by decide)).trans (f1 73 (by decide) (by decide))).trans h73⟩
  obtain ⟨f, h62⟩ := m62
  exact ⟨f, ((f2 62 (by decide)).trans (f1 62 (by decide) (by decide))).trans h62⟩
/-- the end of a call whose class part kept to the mail's cells and whose model part to its own -/
theorem RJ.mail {ch ch' u v : Nat} {m' : ml_T} {Wv : wv_T} {o : mo_T} {h1 h2 : am_H} (hN : N ≤ 1000) (q0 : h[0]? = some (c_top u v s.1 s.2.1 s.2.2)) (huv : (u = 34 ∧ v = 40) ∨ (u = 40 ∧ v = 34)) (hT : TC h T) (hRC : RC h) (hu : WC h u W) (hv' : WC h v Wv) (hS : CS h m ch) (hch : ch ≤ N * 12000) (mT : TM h o T) (mA : AX h) (m62 : ∃ f, h[62]? = some (am_I 2 300 f)) (mMA : MA h) (ms : o.2.2.2.2.2 = s) (tk : tp_ok T) (wk : wv_ok W) (sz : SZ s) (h73 : ∃ f, h[73]? = some (am_L 1 f))
    (hM' : MC h1 m' ch') (hc1 : ch < ch' ∨ (ch' = ch ∧ m' = m)) (hc2 : ch' ≤ ch + 12000) (f1 : Fr 6 17 h h1) (m2 : MM h2 m' W (o_0 o)) (f2 : FrM h1 h2) (hok : ml_ok m') : RJ (N + 1) h2 := by
  obtain ⟨f73, h73⟩ := h73
  have c1 := JC.mail (h' := h1) q0 huv hT hRC hu hv' hS hch hN hM' hc1 hc2 f1
  obtain ⟨f62, h62⟩ := m62
  have c2 : JC (N + 1) h2 m' W T s := by
    obtain ⟨ch2, u2, v2, Wv2, z0, zuv, zT, zR, zu, zv, zM, zS, zch⟩ := c1
    exact ⟨ch2, u2, v2, Wv2, (f2 0 (by decide)).trans z0, zuv, zT.fr' (f2 1 (by decide)) (f2 2 (by decide)), zR.fr' (fun i a b => f2 i (by omega)), zu.fr (fun i a b => f2 i (by omega)), zv.fr (fun i a b => f2 i (by omega)), zM.fr (fun i a b => f2 i (by omega)), zS.fr (fun i a b => f2 i (by omega)), zch⟩
  exact ⟨m', W, T, s, c2, JM.keep (h := h1) (mT.fr' rfl (f1 47 (by decide))) (mA.fr' (fun i hi => f1 i (by omega))) ⟨f62, (f1 62 (by decide)).trans h62⟩ (mMA.fr' (fun i p q => f1 i (by omega))) ms m2 f2, ⟨tk, wk, hok, sz⟩, f73, ((f2 73 (by decide)).trans (f1 73 (by decide))).trans h73⟩
end JOINT
