/-! ===== sizes, binding ===== -/
def RG (i1 i2 i3 : Int32) : Prop := (∃ w, i1 = nI w ∧ 1 ≤ w ∧ w ≤ 999) ∧ (∃ w, i2 = nI w ∧ 1 ≤ w ∧ w ≤ 9999) ∧ (∃ w, i3 = nI w ∧ 1 ≤ w ∧ w ≤ 99)
section JNUMS
variable {l : Launch} {g : am_G} {d : Nat} {x : Bool} {h : am_H} {N : Nat} {m : ml_T} {Wh : wv_T} {o : mo_T}
theorem ms_sizes {i1 i2 i3 : Int32} {K : Int32 → am_H → Prop} (hM : MM h m Wh o) (h0 : ∀ h', MM h' m Wh (o_0 o) → Fr 46 46 h h' → ¬ RG i1 i2 i3 → K 0 h') (h1 : ∀ h', RG i1 i2 i3 → MM h' m Wh (0, o.2.1, o.2.2.1, o.2.2.2.1, o.2.2.2.2.1, i1, i2, i3) → Fr 46 46 h h' → K 1 h') : cl_I l g mX9_sizes d x [.ref 46, .int i1, .int i2, .int i3] h K := by
  refine eX9_sizes (mt_thr hM (fun h' m1 f1 => ?_))
  have no : ¬ RG i1 i2 i3 → ∃ v, some (Value.int 0) = some (.int v) ∧ K v h' := fun c => ⟨_, rfl, h0 h' m1 f1 c⟩
  refine ⟨fun a => no ?_, fun a => ⟨fun b => no ?_, fun b => ⟨fun c => no ?_, fun c => ⟨fun e => no ?_, fun e => ⟨fun f => no ?_, fun f => ⟨fun k => ?_, fun k => no ?_⟩⟩⟩⟩⟩⟩
  · rintro ⟨⟨w, rfl, c1, c2⟩, -⟩; exact (wi' (M := 999) (by omega) c1 c2).1 a
  · rintro ⟨⟨w, rfl, c1, c2⟩, -⟩; exact (wi' (M := 999) (by omega) c1 c2).2 b
  · rintro ⟨-, ⟨w, rfl, c1, c2⟩, -⟩; exact (wi' (M := 9999) (by omega) c1 c2).1 c
  · rintro ⟨-, ⟨w, rfl, c1, c2⟩, -⟩; exact (wi' (M := 9999) (by omega) c1 c2).2 e
  · rintro ⟨-, -, ⟨w, rfl, c1, c2⟩⟩; exact (wi' (M := 99) (by omega) c1 c2).1 f
  · have k' : ¬ nI 99 < i3 := fun z => by
      rw [fa_lt] at z
      rw [fa_le] at k
      have : (nI 99).toInt = (99 : Int32).toInt := rfl
      omega
    have hRG : RG i1 i2 i3 := ⟨wi (M := 999) (by omega) a b, wi (M := 9999) (by omega) c e, wi (M := 99) (by omega) f k'⟩
    obtain ⟨q0, hW, ⟨f6, h60, h60'⟩, ⟨ft, h61, h61'⟩⟩ := m1
    refine ptV q0 (Nat.le_of_ble_eq_true rfl) (ptV (st_eq q0) (Nat.le_of_ble_eq_true rfl) (ptV (st_eq (st_eq q0)) (Nat.le_of_ble_eq_true rfl) ⟨_, rfl, h1 _ hRG ⟨st_eq (st_eq (st_eq q0)), hW.fr (fun i a b => ?_), ⟨f6, ?_, h60'⟩, ⟨ft, ?_, h61'⟩⟩ (((f1.st (by decide)).st (by decide)).st (by decide))⟩))
    · rw [st_ne (by omega), st_ne (by omega), st_ne (by omega)]
    · rw [st_ne (by decide), st_ne (by decide), st_ne (by decide)]; exact h60
    · rw [st_ne (by decide), st_ne (by decide), st_ne (by decide)]; exact h61
  · rintro ⟨-, -, ⟨w, rfl, c1, c2⟩⟩
    exact k (nI_le (a := w) (b := 99) c2 (by decide))
theorem jt_sizes {i1 i2 i3 : Int32} {P : Int32 → Int32 → am_H → Prop} (hN : N ≤ 1000) (hR : RJ N h) (hK : ∀ v h', RJ (N + 1) h' → P v v h') : JT l g mX8_sizes mX9_sizes (d + 1) x [.int i1, .int i2, .int i3] h P := by
  obtain ⟨m, W, T, s, ⟨ch, u, v, Wv, q0, huv, hT, hRC, hu, hv', hM, hS, hch⟩, ⟨o, mM, mT, mA, m62, mMA, ms⟩, ⟨tk, wk, vk, sz⟩, h73⟩ := hR
  have no : ¬ RG i1 i2 i3 → cv_I l g mX9_sizes (d + 1) x 9 46 [.int i1, .int i2, .int i3] h (fun w h2 => P 0 w h2) := fun hno => by
    refine ⟨⟨_, mM.1⟩, ms_sizes mM (fun h2 m2 f2 _ => hK _ h2 ?_) (fun h2 c => absurd c hno)⟩
    exact RJ.mail (h1 := h) hN q0 huv hT hRC hu hv' hS hch mT mA m62 mMA ms tk wk sz h73 hM (Or.inr ⟨rfl, rfl⟩) (by omega) Fr.rf m2 (f2.m (by omega)) vk
  refine ⟨⟨_, q0⟩, eX8_sizes (sp_isWithin (M := 999) (by omega) (fun c => ⟨fun _ => ⟨_, rfl, no (fun z => c z.1)⟩, fun y => absurd rfl y⟩) (fun w1 e1 c1 c1' => ⟨fun y => absurd y (by decide), fun _ => sp_isWithin (M := 9999) (by omega) (fun c => ⟨fun _ => ⟨_, rfl, no (fun z => c z.2.1)⟩, fun y => absurd rfl y⟩) (fun w2 e2 c2 c2' => ⟨fun y => absurd y (by decide), fun _ => sp_isWithin (M := 99) (by omega) (fun c => ⟨fun y => absurd rfl y, fun _ => ⟨_, rfl, no (fun z => c z.2.2)⟩⟩) (fun w3 e3 c3 c3' => ⟨fun _ => ?_, fun y => absurd y (by decide)⟩)⟩)⟩))⟩
  have hRG : RG i1 i2 i3 := ⟨⟨w1, e1, c1, c1'⟩, ⟨w2, e2, c2, c2'⟩, ⟨w3, e3, c3, c3'⟩⟩
  refine ptV q0 (Nat.le_of_ble_eq_true rfl) (ptV (st_eq q0) (Nat.le_of_ble_eq_true rfl) (ptV (st_eq (st_eq q0)) (Nat.le_of_ble_eq_true rfl) ⟨_, rfl, ?_⟩))
  have f1 : Fr 0 0 h (((h.set 0 (c_top u v i1 s.2.1 s.2.2)).set 0 (c_top u v i1 i2 s.2.2)).set 0 (c_top u v i1 i2 i3)) := ((Fr.rf.st (by decide)).st (by decide)).st (by decide)
  have z0 : (((h.set 0 (c_top u v i1 s.2.1 s.2.2)).set 0 (c_top u v i1 i2 s.2.2)).set 0 (c_top u v i1 i2 i3))[0]? = some (c_top u v i1 i2 i3) := st_eq (st_eq (st_eq q0))
  have m1 : MM (((h.set 0 (c_top u v i1 s.2.1 s.2.2)).set 0 (c_top u v i1 i2 s.2.2)).set 0 (c_top u v i1 i2 i3)) m W o := mM.out (fun i hi => f1 i (by omega))
  refine ⟨⟨_, m1.1⟩, ms_sizes m1 (fun h2 m2 f2 c => absurd hRG c) (fun h2 _ m2 f2 => hK _ h2 ?_)⟩
  obtain ⟨f73, h73⟩ := h73
  obtain ⟨f62, m62⟩ := m62
  refine ⟨m, W, T, (i1, i2, i3), ⟨ch, u, v, Wv, (f2 0 (by decide)).trans z0, huv, hT.fr' ((f2 1 (by decide)).trans (f1 1 (by decide))) ((f2 2 (by decide)).trans (f1 2 (by decide))), hRC.fr' (fun i a b => (f2 i (by omega)).trans (f1 i (by omega))), hu.fr (fun i a b => (f2 i (by omega)).trans (f1 i (by omega))), hv'.fr (fun i a b => (f2 i (by omega)).trans (f1 i (by omega))), hM.fr (fun i a b => (f2 i (by omega)).trans (f1 i (by omega))), hS.fr (fun i a b => (f2 i (by omega)).trans (f1 i (by omega))), n12 hch⟩, ⟨_, m2, mT.fr' rfl ((f2 47 (by decide)).trans (f1 47 (by decide))), mA.fr' (fun i hi => (f2 i (by omega)).trans (f1 i (by omega))), ⟨f62, ((f2 62 (by decide)).trans (f1 62 (by decide))).trans m62⟩, mMA.fr' (fun i p q => (f2 i (by omega)).trans (f1 i (by omega))), rfl⟩, ⟨tk, wk, vk, ⟨w1, w2, w3, by rw [e1, e2, e3], c1, c1', c2, c2', c3, c3'⟩⟩, f73, ((f2 73 (by decide)).trans (f1 73 (by decide))).trans h73⟩
/-- how much room so many links want -/
def rm (n : Nat) : Nat := match n with
  | 0 => 0
  | 1 => 1000
  | 2 => 2000
  | 3 => 2155
  | 4 => 2414
  | 5 => 2701
  | 6 => 3000
  | 7 => 3000
  | n + 8 => 3304 + 400 * n
def bd (m : ml_T) (s : sz_T) (r : Nat) : Bool := ! decide (s.1 * nI (rm (fb_ct (m_aj m r) (m_nu m))) ≤ 1000 * s.2.1)
theorem sw8 {n : Nat} (h : 8 ≤ n) (hn : n < 1000) (z : Int32) (hz : z.toInt = 7 ∨ z.toInt < 8) (h0 : 0 ≤ z.toInt) : ¬ nI n = z := fun e => by
  have := nI_toInt (n := n) (by omega)
  rw [e] at this
  omega
theorem ms_times {n : Nat} {K : Int32 → am_H → Prop} (hn : n < 1000) (hK : K (nI (rm n)) h) : cl_I l g mX9_times d x [.int (nI n)] h K := by
  have ht := nI_toInt (n := n) (by omega)
  have ne : ∀ k : Nat, k < 8 → n ≠ k → ¬ nI n = nI k := fun k hk hne e => hne (nI_eqI (by omega) (by omega) e)
  refine eX9_times ⟨fun z => ⟨_, rfl, ?_⟩, fun z => ⟨_, rfl, ?_⟩, fun z => ⟨_, rfl, ?_⟩, fun z => ⟨_, rfl, ?_⟩, fun z => ⟨_, rfl, ?_⟩, fun z => ⟨_, rfl, ?_⟩, fun z => ⟨_, rfl, ?_⟩, fun z => ⟨_, rfl, ?_⟩, fun z => ⟨_, rfl, ?_⟩⟩
  · have h8 : 8 ≤ n := by
      rw [ht] at z
      omega
    obtain ⟨k, rfl⟩ : ∃ k, n = k + 8 := ⟨n - 8, by omega⟩
    have e : (3304 : Int32) + 400 * (nI (k + 8) - 8) = nI (3304 + 400 * k) := by
      rw [show (8 : Int32) = nI 8 from rfl, pk_sub (by omega), show k + 8 - 8 = k by omega, show (400 : Int32) = nI 400 from rfl, pk_mul, show (3304 : Int32) = nI 3304 from rfl, nI_add]
    rw [e]; exact hK
  all_goals
    have e := nI_eqI (a := n) (by omega) (by decide) (show nI n = nI _ from z)
    subst e
    exact hK
theorem ms_binds {r : Nat} {s : sz_T} {K : Int32 → am_H → Prop} (hM : MM h m Wh o) (hv : ml_ok m) (hs : o.2.2.2.2.2 = s) (hr : r < m_nu m) (hK : K (bi (bd m s r)) h) : cl_I l g mX9_binds (d + 1) x [.ref 46, .int (nI r)] h K := by
  have hn : m_nu m ≤ 300 := hv.1.2.2.2.2.2.1
  have hb := fb_ct_le (m_aj m r) (m_nu m)
  refine eX9_binds (gtI hM.1 rfl (gtI hM.1 rfl ⟨⟨_, hM.1⟩, ms_linksOf hM hv.1 (by omega) (ms_times (by omega) ?_)⟩))
  unfold bd at hK
  rw [← hs] at hK
  refine ⟨fun z => ⟨_, rfl, ?_⟩, fun z => ⟨_, rfl, ?_⟩⟩
  · rw [decide_eq_true (show o.2.2.2.2.2.1 * nI (rm (fb_ct (m_aj m r) (m_nu m))) ≤ 1000 * o.2.2.2.2.2.2.1 from z)] at hK; exact hK
  · rw [decide_eq_false (show ¬ o.2.2.2.2.2.1 * nI (rm (fb_ct (m_aj m r) (m_nu m))) ≤ 1000 * o.2.2.2.2.2.2.1 from z)] at hK; exact hK
theorem sp_roomFor {n : Nat} {K : Int32 → am_H → Prop} (hn : n < 1000) (h0 : 0 < n) (hK : K (nI (rm n)) h) : cl_I l g mX8_roomFor d x [.int (nI n)] h K := by
  have e8 : (9 : Int32) - 1 = nI 8 := by decide
  refine eX8_roomFor ?_
  unfold zX8_roomFor_0
  rw [e8]
  refine ⟨fun z => ⟨vp_in_nI (by omega) (by omega), _, rfl, ?_⟩, fun z => ⟨?_, _, rfl, ?_⟩⟩
  · have h8 := (nI_ltI (a := 8) (b := n) (by decide) (by omega)).mp z
    obtain ⟨k, rfl⟩ : ∃ k, n = k + 8 := ⟨n - 8, by omega⟩
    have e : am_room (Int32.toNatClampNeg (nI 8)) + 400 * (nI (k + 8) - nI 8) = nI (3304 + 400 * k) := by
      rw [pk_sub (by omega), show k + 8 - 8 = k by omega, show (400 : Int32) = nI 400 from rfl, pk_mul, show am_room (Int32.toNatClampNeg (nI 8)) = nI 3304 by decide, nI_add]
    rw [e]; exact hK
  · have h8 : n ≤ 8 := by
      rcases Nat.lt_or_ge 8 n with c | c
      · exact absurd ((nI_ltI (a := 8) (b := n) (by decide) (by omega)).mpr c) z
      · exact c
    exact vp_in_nI (by omega) (by omega)
  · have h8 : n ≤ 8 := by
      rcases Nat.lt_or_ge 8 n with c | c
      · exact absurd ((nI_ltI (a := 8) (b := n) (by decide) (by omega)).mpr c) z
      · exact c
    rw [nI_clamp (by omega)]
    have : am_room n = nI (rm n) := by
      rcases (by omega : n = 1 ∨ n = 2 ∨ n = 3 ∨ n = 4 ∨ n = 5 ∨ n = 6 ∨ n = 7 ∨ n = 8) with e | e | e | e | e | e | e | e <;> subst e <;> rfl
    rw [this]; exact hK
theorem sp_binds {u v ch r : Nat} {s : sz_T} {K : Int32 → am_H → Prop} (q0 : h[0]? = some (c_top u v s.1 s.2.1 s.2.2)) (hM : MC h m ch) (hv : ml_ok m) (sz : SZ s) (hr : r < m_nu m) (hK : K (bi (bd m s r)) h) : cl_I l g mX8_binds (d + 3) x [.ref 0, .int (nI r)] h K := by
  have hn : m_nu m ≤ 300 := hv.1.2.2.2.2.2.1
  have hb := fb_ct_le (m_aj m r) (m_nu m)
  refine eX8_binds (gtR q0 rfl ⟨⟨_, hM.1⟩, sp_linksOf hM (by omega) ?_⟩)
  rw [aj_out hv]
  refine ⟨fun z => ⟨_, rfl, ?_⟩, fun z => gtI q0 rfl (gtI q0 rfl (sp_roomFor (by omega) ?_ ⟨fun y => ⟨_, rfl, ?_⟩, fun y => ⟨_, rfl, ?_⟩⟩))⟩
  · have e : fb_ct (m_aj m r) (m_nu m) = 0 := by
      have := (nI_leI (a := fb_ct (m_aj m r) (m_nu m)) (b := 0) (by omega) (by decide)).mp z
      omega
    obtain ⟨w, i, k, es, c1, c2, c3, c4, c5, c6⟩ := sz
    subst es
    have : bd m (nI w, nI i, nI k) r = false := by
      unfold bd
      rw [e]
      show (!decide (nI w * nI 0 ≤ 1000 * nI i)) = false
      rw [pk_mul, show (1000 : Int32) = nI 1000 from rfl, pk_mul, decide_eq_true (nI_le (by omega) (by omega))]; rfl
    rw [this] at hK; exact hK
  · rcases Nat.eq_zero_or_pos (fb_ct (m_aj m r) (m_nu m)) with c | c
    · exact absurd (nI_le (a := fb_ct (m_aj m r) (m_nu m)) (b := 0) (by omega) (by decide)) z
    · exact c
  · unfold bd at hK
    rw [decide_eq_true (show s.1 * nI (rm (fb_ct (m_aj m r) (m_nu m))) ≤ 1000 * s.2.1 from y)] at hK; exact hK
  · unfold bd at hK
    rw [decide_eq_false (show ¬ s.1 * nI (rm (fb_ct (m_aj m r) (m_nu m))) ≤ 1000 * s.2.1 from y)] at hK; exact hK
theorem lm_bindings {u v ch : Nat} {s : sz_T} {K : Int32 → am_H → Prop} (q0 : h[0]? = some (c_top u v s.1 s.2.1 s.2.2)) (hM : MC h m ch) (hv : ml_ok m) (sz : SZ s) (hK : K (nI (fb_ct (fun r => m_th m r && bd m s r) (m_nu m))) h) :
    ∀ k a, a + k = m_nu m → am_J l g mX8_bindingRings (d + 4) (0, 0, x) 4 [(0, .ref 0), (1, .int (nI (fb_ct (fun r => m_th m r && bd m s r) a))), (2, .int (nI a))] [] h (fun r h' => ∃ v, r = some (.int v) ∧ K v h') := by
  have hn : m_nu m ≤ 300 := hv.1.2.2.2.2.2.1
  intro k
  induction k with
  | zero =>
    intro a ha
    have : a = m_nu m := by omega
    subst this
    exact rX8_bindingRings_4 (gtR q0 rfl (gtI hM.1 rfl ⟨fun _ => ⟨_, rfl, hK⟩, fun z => absurd (nI_le (by omega) (by omega)) z⟩))
  | succ k ih =>
    intro a ha
    have skip : (m_th m a && bd m s a) = false → zX8_bindingRings_37 l g (d + 3) x 0 (nI (fb_ct (fun r => m_th m r && bd m s r) a)) (nI a) h (fun r h' => ∃ v, r = some (.int v) ∧ K v h') := fun c => by
      unfold zX8_bindingRings_37
      have e : fb_ct (fun r => m_th m r && bd m s r) (a + 1) = fb_ct (fun r => m_th m r && bd m s r) a := by rw [fb_ct_succ]; simp [c]
      rw [nI_1, ← e]
      exact ih (a + 1) (by omega)
    refine rX8_bindingRings_4 (gtR q0 rfl (gtI hM.1 rfl ⟨fun z => absurd ((nI_leI (by omega) (by omega)).mp z) (by omega), fun _ => gtR q0 rfl ⟨⟨_, hM.1⟩, sp_isThere (d := d + 2) hM hv.1 (fun c => ?_) (fun j hj ej => ?_)⟩⟩))
    · exfalso
      rcases c with c | c
      · exact nI_pos (by omega) c
      · have := (nI_leI (by omega) (by omega)).mp c; omega
    · have := nI_eqI (by omega) (by omega) ej
      subst this
      refine ⟨fun z => skip (by rw [bi_0.mp z]; rfl), fun z => ⟨⟨_, q0⟩, sp_binds (d := d) q0 hM hv sz hj ⟨fun y => skip (by rw [bi_0.mp y, Bool.and_false]), fun y => ?_⟩⟩⟩
      unfold zX8_bindingRings_37
      have e : fb_ct (fun r => m_th m r && bd m s r) (a + 1) = fb_ct (fun r => m_th m r && bd m s r) a + 1 := by rw [fb_ct_succ]; simp [bi_n0.mp z, bi_n0.mp y]
      rw [nI_1, nI_1, ← e]
      exact ih (a + 1) (by omega)
end JNUMS
