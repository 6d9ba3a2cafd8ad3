/-! ===== count, fewest, order ===== -/
section JCOUNT2
variable {l : Launch} {g : am_G} {d : Nat} {x : Bool} {h : am_H} {N : Nat} {m : ml_T} {W : wv_T} {T : tp_T} {s : sz_T}
/-- the end of a call that changed but the class's caches and the model's arrays -/
theorem RJ.ask {ch u v : Nat} {Wv : wv_T} {o : mo_T} {h1 h2 : am_H} (q0 : h[0]? = some (c_top u v s.1 s.2.1 s.2.2)) (huv : (u = 34 ∧ v = 40) ∨ (u = 40 ∧ v = 34)) (hT : TC h T) (hRC : RC h) (hu : WC h u W) (hv' : WC h v Wv) (hM : MC h m ch) (hch : ch ≤ N * 12000) (mM : MM h m W o) (mT : TM h o T) (mA : AX h) (m62 : ∃ f, h[62]? = some (am_I 2 300 f)) (ms : o.2.2.2.2.2 = s) (tk : tp_ok T) (wk : wv_ok W) (vk : ml_ok m) (sz : SZ s) (h73 : ∃ f, h[73]? = some (am_L 1 f))
    (hS1 : CS h1 m ch) (f1 : Fr 18 33 h h1) (o2 : mo_T) (m2 : MM h2 m W o2) (e1 : o2.2.1 = o.2.1) (e2 : o2.2.2.2.2.2 = o.2.2.2.2.2) (A2 : MA h2) (f2 : ∀ i, ¬ (i = 46 ∨ (63 ≤ i ∧ i ≤ 72)) → h2[i]? = h1[i]?) : RJ (N + 1) h2 := by
  obtain ⟨f73, h73⟩ := h73
  obtain ⟨f62, m62⟩ := m62
  exact ⟨m, W, T, s, ⟨ch, u, v, Wv, ((f2 0 (by decide)).trans (f1 0 (by decide))).trans q0, huv, hT.fr' ((f2 1 (by decide)).trans (f1 1 (by decide))) ((f2 2 (by decide)).trans (f1 2 (by decide))), hRC.fr' (fun i a b => (f2 i (by omega)).trans (f1 i (by omega))), hu.fr (fun i a b => (f2 i (by omega)).trans (f1 i (by omega))), hv'.fr (fun i a b => (f2 i (by omega)).trans (f1 i (by omega))), hM.fr (fun i a b => (f2 i (by omega)).trans (f1 i (by omega))), hS1.fr (fun i a b => f2 i (by omega)), n12 hch⟩, ⟨o2, m2, mT.fr' e1 ((f2 47 (by decide)).trans (f1 47 (by decide))), mA.fr' (fun i hi => (f2 i (by omega)).trans (f1 i (by omega))), ⟨f62, ((f2 62 (by decide)).trans (f1 62 (by decide))).trans m62⟩, A2, e2.trans ms⟩, ⟨tk, wk, vk, sz⟩, f73, ((f2 73 (by decide)).trans (f1 73 (by decide))).trans h73⟩
theorem fr46 {h h1 h2 : am_H} {lo hi : Nat} (f1 : Fr 46 46 h h1) (f2 : Fr lo hi h1 h2) (hlo : 63 ≤ lo) (hhi : hi ≤ 72) : ∀ i, ¬ (i = 46 ∨ (63 ≤ i ∧ i ≤ 72)) → h2[i]? = h[i]? := fun i hi' => (f2 i (by omega)).trans (f1 i (by omega))
/-- what fewest answers -/
theorem sp_fewestV {ch u v : Nat} {a b c : Int32} {K : Int32 → am_H → Prop} (q0 : h[0]? = some (c_top u v a b c)) (hM : MC h m ch) (hv : ml_ok m) (hS : CS h m ch) (hK : ∀ h' res C, MK m res C → CS h' m ch → Fr 18 33 h h' → K res h') : cl_I l g mX8_fewest (d + 7) x [.ref 0] h K := by
  obtain ⟨csP, csM, hP, ⟨ql, orr, p, r, q, e, w, f, Q, -⟩, -⟩ := id hS
  refine eX8_fewest (gtR q0 rfl ⟨⟨_, Q.1⟩, sp_mkRefresh (d := d) hv hM hS (fun h1 R1 O1 S1 f1 => ?_)⟩)
  have q1 := (f1 0 (by decide)).trans q0
  obtain ⟨n, rb, pt, sd, g1, g2, g3, g4, g5, g6, g7, PA1, -, -, -, -, ctw, cno⟩ := R1
  obtain ⟨ql', cc, p', r', q', e', w', f', res, C, Q1, -, -, -, hMK, c0, c1⟩ := O1
  refine gtR q1 rfl (gtI PA1.1 rfl ⟨fun z => ⟨_, rfl, ?_⟩, fun z => gtR q1 rfl (gtI Q1.1 rfl ⟨_, rfl, ?_⟩)⟩)
  · have hno := cno (bi_0.mp z)
    have e : res = -1 := by
      rcases hMK with ⟨y, -⟩ | ⟨L, pr, -, -, y, -⟩
      · exact y
      · exact absurd ⟨L, y.2.1⟩ hno
    rw [← e]; exact hK h1 res C hMK S1 f1
  · have htw := ctw (bi_n0.mp z)
    have e : ¬ res = -1 := by
      rcases hMK with ⟨-, y⟩ | ⟨L, pr, -, -, y1, -, -, y2, -⟩
      · exact absurd ⟨sd, htw⟩ y
      · rw [y2]
        have : PN L pr (m_nu m) ≤ m_nu m := fb_ct_le _ _
        have : m_nu m ≤ 300 := hv.1.2.2.2.2.2.1
        exact n1_ne (by omega)
    rw [← (c1 e).2.1]; exact hK h1 res C hMK S1 f1
theorem jt_fewest {P : Int32 → Int32 → am_H → Prop} (hR : RJ N h) (hK : ∀ v h', RJ (N + 1) h' → P v v h') : JT l g mX8_fewest mX9_fewest (d + 310) x [] h P := by
  obtain ⟨m, W, T, s, ⟨ch, u, v, Wv, q0, huv, hT, hRC, hu, hv', hM, hS, hch⟩, ⟨o, mM, mT, mA, m62, mMA, ms⟩, ⟨tk, wk, vk, sz⟩, h73⟩ := hR
  refine ⟨⟨_, q0⟩, sp_fewestV (d := d + 303) q0 hM vk hS (fun h1 res C hMK S1 f1 => ?_)⟩
  have m1 : MM h1 m W o := mM.out (fun i hi => f1 i (by omega))
  refine ⟨⟨_, m1.1⟩, eX9_fewest (mt_thr m1 (fun h2 m2 f2 => ⟨⟨_, m2.1⟩, ms_opens (d0 := d + 7) m2 vk (mMA.fr' (fun i p q => (f2 i (by omega)).trans (f1 i (by omega)))) (fun h3 res' op ff hMK' _ _ _ A3 f3 => ⟨_, rfl, ?_⟩)⟩))⟩
  rw [(MK.one vk hMK hMK').1]
  refine hK _ h3 ?_
  exact RJ.ask q0 huv hT hRC hu hv' hM hch mM mT mA m62 ms tk wk vk sz h73 S1 f1 (o_0 o) (m2.out (fun i hi => f3 i (by omega))) rfl rfl A3 (fr46 f2 f3 (by omega) (by omega))
theorem jt_order {i1 : Int32} {P : Int32 → Int32 → am_H → Prop} (hR : RJ N h) (hK : ∀ v h', RJ (N + 1) h' → P v v h') : JT l g mX8_order mX9_order (d + 310) x [.int i1] h P := by
  obtain ⟨m, W, T, s, ⟨ch, u, v, Wv, q0, huv, hT, hRC, hu, hv', hM, hS, hch⟩, ⟨o, mM, mT, mA, m62, mMA, ms⟩, ⟨tk, wk, vk, sz⟩, h73⟩ := hR
  have hn : m_nu m ≤ 300 := vk.1.2.2.2.2.2.1
  obtain ⟨csP, csM, hP, ⟨ql, orr, p, r, q, e, w, f, Q, -⟩, -⟩ := id hS
  refine ⟨⟨_, q0⟩, eX8_order (gtR q0 rfl ⟨⟨_, Q.1⟩, sp_mkRefresh (d := d + 303) vk hM hS (fun h1 R1 O1 S1 f1 => ?_)⟩)⟩
  have q1 := (f1 0 (by decide)).trans q0
  obtain ⟨ql', cc, p', r', q', e', w', f', res, C, Q1, -, -, h33, hMK, c0, c1⟩ := O1
  have m1 : MM h1 m W o := mM.out (fun i hi => f1 i (by omega))
  have A1 : MA h1 := mMA.fr' (fun i p q => f1 i (by omega))
  have fin : ∀ h2 h3, MM h2 m W (o_0 o) → Fr 46 46 h1 h2 → (∀ i, ¬ (63 ≤ i ∧ i ≤ 72) → h3[i]? = h2[i]?) → MA h3 → RJ (N + 1) h3 := fun h2 h3 m2 f2 f3 A3 =>
    RJ.ask q0 huv hT hRC hu hv' hM hch mM mT mA m62 ms tk wk vk sz h73 S1 f1 (o_0 o) (m2.out (fun i hi => f3 i (by omega))) rfl rfl A3 (fun i hi => (f3 i (by omega)).trans (f2 i (by omega)))
  -- the model, when it answers v
  have model : ∀ v, (i1 < 0 → v = -1) → (¬ i1 < 0 → res = -1 → v = -1) → (∀ k : Nat, k < 2 ^ 31 → i1 = nI k → ¬ res = -1 → v = fi (o_r (m_aj m) (m_nu m) C k) (m_nu m)) → cv_I l g mX9_order (d + 310) x 9 46 [.int i1] h1 (fun w h2 => P v w h2) := fun v k1 k2 k3 => by
    refine ⟨⟨_, m1.1⟩, eX9_order (mt_thr m1 (fun h2 m2 f2 => ⟨fun z => ⟨_, rfl, ?_⟩, fun z => ⟨⟨_, m2.1⟩, ms_opens (d0 := d + 7) m2 vk (A1.fr' (fun i p q => f2 i (by omega))) (fun h3 res' op ff hMK' h70 hop N3 A3 f3 => ?_)⟩⟩))⟩
    · rw [k1 z]
      exact hK _ h2 (fin h2 h2 m2 f2 (fun _ _ => rfl) (A1.fr' (fun i p q => f2 i (by omega))))
    · obtain ⟨eR, eO⟩ := MK.one vk hMK hMK'
      have m3 : MM h3 m W (o_0 o) := m2.out (fun i hi => f3 i (by omega))
      have f3' : ∀ i, ¬ (63 ≤ i ∧ i ≤ 72) → h3[i]? = h2[i]? := fun i hi => f3 i (by omega)
      refine ⟨fun y => ?_, fun y => ⟨_, rfl, ?_⟩⟩
      · have hne : ¬ res = -1 := fun c => by rw [← eR, c] at y; exact absurd y (by decide)
        have eO' := eO hne
        subst eO'
        obtain ⟨k, hk, ek⟩ := nI_of z
        obtain ⟨-, -, -, -, -, -, -, -, ⟨f71, b71⟩, ⟨f72, b72⟩⟩ := id A3
        subst ek
        refine lm_order0 (d := d + 309) m3 vk (fun h4 g1 g2 b1 b2 hz f4 => ?_) (m_nu m) 0 h3 f71 f72 (by omega) b71 b72 (fun v hv => by omega) Fr.rf
        have m4 : MM h4 m W (o_0 o) := m3.out (fun i hi => f4 i (by omega))
        have N4 := N3.fr (h' := h4) (f4 63 (by decide)) (f4 64 (by decide))
        have O4 : OS h4 m C (o_st (m_aj m) (m_nu m) C 0).1 (o_st (m_aj m) (m_nu m) C 0).2 := ⟨⟨ff, (f4 70 (by decide)).trans h70, hop (by rw [← eR]; exact hne)⟩, ⟨g1, b1, fun v hv => (hz v hv).1⟩, ⟨g2, b2, fun v hv => (hz v hv).2⟩⟩
        refine ⟨⟨_, m4.1⟩, ms_nextOpened m4 vk N4 O4 ?_⟩
        refine lm_order (d := d + 308) hk m4 vk N4 (fun h5 g71 g72 f5 => ⟨_, rfl, ?_⟩) k 0 h4 (by omega) O4 Fr.rf
        rw [k3 k hk rfl hne]
        refine hK _ h5 (fin h2 h5 m2 f2 (fun i hi => (f5 i (by omega)).trans ((f4 i (by omega)).trans (f3' i hi))) ?_)
        obtain ⟨⟨y1, x1⟩, ⟨y2, x2⟩, ⟨y3, x3⟩, ⟨y4, x4⟩, ⟨y5, x5⟩, ⟨y6, x6⟩, ⟨y7, x7⟩, ⟨y8, x8⟩, -, -⟩ := A3
        have ff5 : ∀ i, i ≤ 70 → h5[i]? = h3[i]? := fun i hi => (f5 i (by omega)).trans (f4 i (by omega))
        exact ⟨⟨y1, (ff5 63 (by decide)).trans x1⟩, ⟨y2, (ff5 64 (by decide)).trans x2⟩, ⟨y3, (ff5 65 (by decide)).trans x3⟩, ⟨y4, (ff5 66 (by decide)).trans x4⟩, ⟨y5, (ff5 67 (by decide)).trans x5⟩, ⟨y6, (ff5 68 (by decide)).trans x6⟩, ⟨y7, (ff5 69 (by decide)).trans x7⟩, ⟨y8, (ff5 70 (by decide)).trans x8⟩, g71, g72⟩
      · have hr : res = -1 := by
          rcases hMK' with ⟨c, -⟩ | ⟨L, pr, -, -, -, -, -, c, -⟩
          · rw [eR]; exact c
          · exfalso
            rw [c] at y
            have : PN L pr (m_nu m) ≤ m_nu m := fb_ct_le _ _
            exact y (nI_pos' (by omega))
        rw [k2 z hr]
        exact hK _ h3 (fin h2 h3 m2 f2 f3' A3)
  refine ⟨fun z => ⟨_, rfl, model (-1) (fun _ => rfl) (fun _ _ => rfl) (fun k hk e => ?_)⟩, fun z => gtR q1 rfl (gtI Q1.1 rfl ⟨fun y => ⟨_, rfl, model (-1) (fun _ => rfl) (fun _ _ => rfl) (fun k hk e hne => ?_)⟩, fun y => gtR q1 rfl (gtR Q1.1 rfl ?_)⟩)⟩
  · rw [e] at z; exact absurd z (nI_pos hk)
  · obtain ⟨d1, d2, d3, d4⟩ := c1 hne
    subst e
    have hcc : cc ≤ m_nu m := by rw [d1]; exact fb_ct_le _ _
    have hle := (nI_leI (a := cc) (b := k) (by omega) hk).mp y
    have h0 := o_r_no (A := m_aj m) (nu := m_nu m) (C := C) d1
    have h1' := o_r_end h0 (k - cc)
    rw [show cc + (k - cc) = k by omega] at h1'
    rw [show fi (o_r (m_aj m) (m_nu m) C k) (m_nu m) = -1 from if_neg h1']
  · obtain ⟨k, hk, ek⟩ := nI_of z
    subst ek
    have hne : ¬ res = -1 := fun c => by
      obtain ⟨e1, -⟩ := c0 c
      rw [e1] at y
      exact y (nI_le (a := 0) (b := k) (by omega) hk)
    obtain ⟨d1, d2, d3, d4⟩ := c1 hne
    have hcc : cc ≤ m_nu m := by rw [d1]; exact fb_ct_le _ _
    have hlt : k < cc := by
      rcases Nat.lt_or_ge k cc with c | c
      · exact c
      · exact absurd (nI_le c hk) y
    refine alI h33 (by omega) (by decide) ⟨_, rfl, ?_⟩
    rw [d4 k hlt]
    have hrn := o_r_lt (A := m_aj m) (nu := m_nu m) (C := C) (n := k) (by omega)
    refine model _ (fun c => absurd c z) (fun _ c => absurd c hne) (fun k' hk' e' _ => ?_)
    have := nI_eqI hk hk' e'
    subst this
    exact (if_pos hrn).symm
end JCOUNT2
