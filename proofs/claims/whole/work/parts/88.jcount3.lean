/-! ===== count ===== -/
noncomputable def cv (m : ml_T) (W : wv_T) (T : tp_T) (s : sz_T) (i : Int32) : Int32 :=
  if i = 0 then nI (fb_ct (m_th m) (m_nu m)) else if i = 1 then nI (fb_sm (fun r => fb_ct (m_ov m r) 320) (m_nu m)) else if i = 2 then nI (npc (m_aj m) (m_th m) (m_nu m)) else if i = 3 then nI (fb_ct (m_full m) (m_sh m)) else if i = 4 then nI (fb_ct (fun k => m_th m k && bd m s k) (m_nu m)) else if i = 5 then nI (fb_ct (m_ct m) (m_nu m)) else
  if i = 6 then ((s.2.1 + s.1) * 355 / 113) * nI (fb_ct (m_th m) (m_nu m)) else if i = 7 then Int64.toInt32 (((((Int32.toInt64 (((s.2.1 + s.1) * 355 / 113) * nI (fb_ct (m_th m) (m_nu m)))) * (Int32.toInt64 s.1)) * (Int32.toInt64 s.1)) * (Int32.toInt64 s.2.2)) / 1000000) else if i = 8 then nI (m_nu m) else if i = 9 then nI W.1 else if i = 10 then nI W.2.1 else if i = 11 then nI T.1 else if i = 12 then nI (fb_ct (fun i => !m_th m i) (m_sh m)) else -1
section JCOUNT3
variable {l : Launch} {g : am_G} {d : Nat} {x : Bool} {h : am_H} {N : Nat} {m : ml_T} {W : wv_T} {T : tp_T} {s : sz_T}
theorem cv_no {i : Int32} (z : i.toInt < 0 ∨ 12 < i.toInt) : cv m W T s i = -1 := by
  have ne : ∀ k : Int32, ¬ (k.toInt < 0 ∨ 12 < k.toInt) → ¬ i = k := fun k hk e => hk (e ▸ z)
  unfold cv
  rw [if_neg (ne 0 (by decide)), if_neg (ne 1 (by decide)), if_neg (ne 2 (by decide)), if_neg (ne 3 (by decide)), if_neg (ne 4 (by decide)), if_neg (ne 5 (by decide)), if_neg (ne 6 (by decide)), if_neg (ne 7 (by decide)), if_neg (ne 8 (by decide)), if_neg (ne 9 (by decide)), if_neg (ne 10 (by decide)), if_neg (ne 11 (by decide)), if_neg (ne 12 (by decide))]
theorem cv_0 : cv m W T s 0 = nI (fb_ct (m_th m) (m_nu m)) := by unfold cv; rw [if_pos rfl]
theorem cv_1 : cv m W T s 1 = nI (fb_sm (fun r => fb_ct (m_ov m r) 320) (m_nu m)) := by unfold cv; rw [if_neg (by decide), if_pos rfl]
theorem cv_2 : cv m W T s 2 = nI (npc (m_aj m) (m_th m) (m_nu m)) := by unfold cv; rw [if_neg (by decide), if_neg (by decide), if_pos rfl]
theorem cv_3 : cv m W T s 3 = nI (fb_ct (m_full m) (m_sh m)) := by unfold cv; rw [if_neg (by decide), if_neg (by decide), if_neg (by decide), if_pos rfl]
theorem cv_4 : cv m W T s 4 = nI (fb_ct (fun k => m_th m k && bd m s k) (m_nu m)) := by unfold cv; rw [if_neg (by decide), if_neg (by decide), if_neg (by decide), if_neg (by decide), if_pos rfl]
theorem cv_5 : cv m W T s 5 = nI (fb_ct (m_ct m) (m_nu m)) := by unfold cv; rw [if_neg (by decide), if_neg (by decide), if_neg (by decide), if_neg (by decide), if_neg (by decide), if_pos rfl]
theorem cv_6 : cv m W T s 6 = ((s.2.1 + s.1) * 355 / 113) * nI (fb_ct (m_th m) (m_nu m)) := by unfold cv; rw [if_neg (by decide), if_neg (by decide), if_neg (by decide), if_neg (by decide), if_neg (by decide), if_neg (by decide), if_pos rfl]
theorem cv_7 : cv m W T s 7 = Int64.toInt32 (((((Int32.toInt64 (((s.2.1 + s.1) * 355 / 113) * nI (fb_ct (m_th m) (m_nu m)))) * (Int32.toInt64 s.1)) * (Int32.toInt64 s.1)) * (Int32.toInt64 s.2.2)) / 1000000) := by unfold cv; rw [if_neg (by decide), if_neg (by decide), if_neg (by decide), if_neg (by decide), if_neg (by decide), if_neg (by decide), if_neg (by decide), if_pos rfl]
theorem cv_8 : cv m W T s 8 = nI (m_nu m) := by unfold cv; rw [if_neg (by decide), if_neg (by decide), if_neg (by decide), if_neg (by decide), if_neg (by decide), if_neg (by decide), if_neg (by decide), if_neg (by decide), if_pos rfl]
theorem cv_9 : cv m W T s 9 = nI W.1 := by unfold cv; rw [if_neg (by decide), if_neg (by decide), if_neg (by decide), if_neg (by decide), if_neg (by decide), if_neg (by decide), if_neg (by decide), if_neg (by decide), if_neg (by decide), if_pos rfl]
theorem cv_10 : cv m W T s 10 = nI W.2.1 := by unfold cv; rw [if_neg (by decide), if_neg (by decide), if_neg (by decide), if_neg (by decide), if_neg (by decide), if_neg (by decide), if_neg (by decide), if_neg (by decide), if_neg (by decide), if_neg (by decide), if_pos rfl]
theorem cv_11 : cv m W T s 11 = nI T.1 := by unfold cv; rw [if_neg (by decide), if_neg (by decide), if_neg (by decide), if_neg (by decide), if_neg (by decide), if_neg (by decide), if_neg (by decide), if_neg (by decide), if_neg (by decide), if_neg (by decide), if_neg (by decide), if_pos rfl]
theorem cv_12 : cv m W T s 12 = nI (fb_ct (fun i => !m_th m i) (m_sh m)) := by unfold cv; rw [if_neg (by decide), if_neg (by decide), if_neg (by decide), if_neg (by decide), if_neg (by decide), if_neg (by decide), if_neg (by decide), if_neg (by decide), if_neg (by decide), if_neg (by decide), if_neg (by decide), if_neg (by decide), if_pos rfl]
theorem ms_count {i : Int32} {o : mo_T} {K : Int32 → am_H → Prop} (hM : MM h m W o) (hv : ml_ok m) (hT : TM h o T) (hA : MA h) (hs : o.2.2.2.2.2 = s) (hK : ∀ h', MM h' m W (o_0 o) → MA h' → (∀ i, ¬ (i = 46 ∨ (63 ≤ i ∧ i ≤ 72)) → h'[i]? = h[i]?) → K (cv m W T s i) h') : cl_I l g mX9_count (d + 4) x [.ref 46, .int i] h K := by
  have hn : m_nu m ≤ 300 := hv.1.2.2.2.2.2.1
  subst hs
  refine eX9_count (mt_thr hM (fun h1 M1 f1 => ⟨⟨_, M1.1⟩, ms_there M1 hv.1 (gtI M1.1 rfl (gtI M1.1 rfl ?_))⟩))
  have A1 : MA h1 := hA.fr' (fun i p q => f1 i (by omega))
  have now : K (cv m W T o.2.2.2.2.2 i) h1 := hK h1 M1 A1 (fun i hi => f1 i (by omega))
  have later : ∀ h', Fr 63 66 h1 h' → MA h' → K (cv m W T o.2.2.2.2.2 i) h' := fun h' f' A' => hK h' (M1.out (fun i hi => f' i (by omega))) A' (fr46 f1 f' (by omega) (by omega))
  have sums := fun (w : Int32) (KK : Int32 → am_H → Prop) a b c d' e => ms_sum (l := l) (g := g) (d := d) (x := x) (K := KK) (w := w) (s := o.2.2.2.2.2) M1 hv A1 rfl a b c d' e
  have comm : nI (fb_ct (m_th m) (m_nu m)) * ((o.2.2.2.2.2.2.1 + o.2.2.2.2.2.1) * 355 / 113) = ((o.2.2.2.2.2.2.1 + o.2.2.2.2.2.1) * 355 / 113) * nI (fb_ct (m_th m) (m_nu m)) := Int32.mul_comm _ _
  obtain ⟨⟨g3, b3⟩, ⟨g4, b4⟩, ⟨g5, b5⟩, ⟨g6, b6⟩, -⟩ := id A1
  obtain ⟨-, ⟨fr, fl, k1, k2, k3, k4, k5, w52, w54, w1, w2, w3, w4, w5, e50, e40, -⟩, -, -⟩ := id M1
  refine ⟨fun z => ⟨_, rfl, ?_⟩, fun z => ?_, fun z => ?_, fun z => ?_, fun z => ?_, fun z => ?_, fun z => ?_, fun z => ⟨_, rfl, ?_⟩, fun z => ?_, fun z => ?_, fun z => ?_, fun z => ?_, fun z => ?_, fun z => ?_⟩
  · rw [cv_no z] at now; exact now
  · subst z; rw [cv_0] at now
    exact ⟨⟨_, M1.1⟩, ms_there M1 hv.1 ⟨_, rfl, now⟩⟩
  · subst z
    refine ⟨⟨_, M1.1⟩, sums 1 _ (Or.inl rfl) (fun h' _ A' f' => ⟨_, rfl, ?_⟩) (fun h' c => absurd c (by decide)) (fun h' c => absurd c (by decide)) (fun h' c => absurd c (by decide))⟩
    have hb : fb_sm (fun r => fb_ct (m_ov m r) 320) (m_nu m) ≤ m_nu m * 320 := fb_sm_bound (fun r _ => fb_ct_le _ _)
    have hb2 : m_nu m * 320 ≤ 300 * 320 := Nat.mul_le_mul_right _ hn
    rw [show (2 : Int32) = nI 2 from rfl, pk_div (by omega) (by decide) (by decide), Nat.mul_div_cancel_left _ (by decide)]
    have := later h' f' A'
    rw [cv_1] at this; exact this
  · subst z
    refine ⟨⟨_, M1.1⟩, ms_findNear M1 hv.1 b3 b4 (fun h2 N2 f2 => ?_)⟩
    have M2 := M1.out (h' := h2) (fun i hi => f2 i (by omega))
    refine ⟨⟨_, M2.1⟩, ms_findPieces M2 hv N2 (PW.none hv) ((f2 65 (by decide)).trans b5) ((f2 66 (by decide)).trans b6) (fun h3 pc c5 c6 _ f3 => ⟨_, rfl, ?_⟩)⟩
    have := later h3 ((f2.mono (by omega) (by omega)).tr (f3.mono (by omega) (by omega))) ((A1.near N2 f2).piece ⟨pc, c5⟩ c6 f3)
    rw [cv_2] at this; exact this
  · subst z
    refine ⟨⟨_, M1.1⟩, sums 3 _ (Or.inr (Or.inl rfl)) (fun h' c => absurd c (by decide)) (fun h' _ A' f' => ⟨_, rfl, ?_⟩) (fun h' c => absurd c (by decide)) (fun h' c => absurd c (by decide))⟩
    have := later h' f' A'
    rw [cv_3] at this
    rw [show (fun k => m_th m k && (decide (k < m_sh m) && m_fla m k m.1.2.1)) = m_full m from rfl, ct_out (p := m_full m) hv.1.2.2.2.2.1 (fun j hj => by unfold m_full; rw [decide_eq_false (show ¬ j < m_sh m by omega)]; simp)]
    exact this
  · subst z
    refine ⟨⟨_, M1.1⟩, sums 4 _ (Or.inr (Or.inr (Or.inl rfl))) (fun h' c => absurd c (by decide)) (fun h' c => absurd c (by decide)) (fun h' _ A' f' => ⟨_, rfl, ?_⟩) (fun h' c => absurd c (by decide))⟩
    have := later h' f' A'
    rw [cv_4] at this; exact this
  · subst z
    refine ⟨⟨_, M1.1⟩, sums 5 _ (Or.inr (Or.inr (Or.inr rfl))) (fun h' c => absurd c (by decide)) (fun h' c => absurd c (by decide)) (fun h' c => absurd c (by decide)) (fun h' _ A' f' => ⟨_, rfl, ?_⟩)⟩
    have := later h' f' A'
    rw [cv_5] at this; exact this
  · subst z
    rw [cv_6, ← comm] at now; exact now
  · subst z
    rw [cv_7, ← comm] at now
    exact gtI M1.1 rfl (gtI M1.1 rfl (gtI M1.1 rfl ⟨_, rfl, now⟩))
  · subst z
    rw [cv_8] at now
    exact gtI M1.1 rfl ⟨_, rfl, now⟩
  · subst z
    rw [cv_9] at now
    refine gtR M1.1 rfl (alI (i := 0) w52 (by decide) (by decide) ⟨_, rfl, ?_⟩)
    rw [e50]; exact now
  · subst z
    rw [cv_10] at now
    refine gtR M1.1 rfl (alI (i := 0) w54 (by decide) (by decide) ⟨_, rfl, ?_⟩)
    rw [e40]; exact now
  · subst z
    rw [cv_11, ← hT.1] at now
    exact gtI M1.1 rfl ⟨_, rfl, now⟩
  · subst z
    rw [cv_12] at now
    exact ⟨⟨_, M1.1⟩, ms_worn M1 hv.1 ⟨_, rfl, now⟩⟩
theorem jt_count {i1 : Int32} {P : Int32 → Int32 → am_H → Prop} (hR : RJ N h) (hK : ∀ v h', RJ (N + 1) h' → P v v h') : JT l g mX8_count mX9_count (d + 9) x [.int i1] h P := by
  obtain ⟨m, W, T, s, ⟨ch, u, v, Wv, q0, huv, hT, hRC, hu, hv', hM, hS, hch⟩, ⟨o, mM, mT, mA, m62, mMA, ms⟩, ⟨tk, wk, vk, sz⟩, h73⟩ := hR
  have hn : m_nu m ≤ 300 := vk.1.2.2.2.2.2.1
  obtain ⟨csP, csM, ⟨⟨c, y1, y2, y3, y4, y5, y6, y7, ⟨n0, rb0, num0, cr0, pt0, hc⟩, PP⟩, -⟩, -⟩ := id hS
  subst hc
  have model : ∀ h1, CS h1 m ch → Fr 18 33 h h1 → cv_I l g mX9_count (d + 9) x 9 46 [.int i1] h1 (fun w h2 => P (cv m W T s i1) w h2) := fun h1 S1 f1 => by
    have m1 : MM h1 m W o := mM.out (fun i hi => f1 i (by omega))
    refine ⟨⟨_, m1.1⟩, ms_count (d := d + 5) m1 vk (mT.fr' rfl (f1 47 (by decide))) (mMA.fr' (fun i p q => f1 i (by omega))) ms (fun h2 m2 A2 f2 => hK _ h2 ?_)⟩
    exact RJ.ask q0 huv hT hRC hu hv' hM hch mM mT mA m62 ms tk wk vk sz h73 S1 f1 (o_0 o) m2 rfl rfl A2 f2
  have now : cv_I l g mX9_count (d + 9) x 9 46 [.int i1] h (fun w h2 => P (cv m W T s i1) w h2) := model h hS Fr.rf
  have wires : ∀ (K : Int32 → am_H → Prop), K (((s.2.1 + s.1) * 355 / 113) * nI (fb_ct (m_th m) (m_nu m))) h → ∀ d', cl_I l g mX8_wireOfAll (d' + 1) x [.ref 0] h K := fun K hk d' => eX8_wireOfAll (gtI q0 rfl (gtI q0 rfl (gtR q0 rfl ⟨⟨_, hM.1⟩, sp_ringsThere hM vk.1 ⟨_, rfl, hk⟩⟩)))
  refine ⟨⟨_, q0⟩, eX8_count ⟨fun z => ⟨_, rfl, ?_⟩, fun z => ?_, fun z => ?_, fun z => ?_, fun z => ?_, fun z => ?_, fun z => ?_, fun z => ?_, fun z => ?_, fun z => ?_, fun z => ?_, fun z => ?_, fun z => ?_, fun z => ?_⟩⟩
  · rw [cv_no z] at now; exact now
  · subst z; rw [cv_0] at now
    exact gtR q0 rfl ⟨⟨_, hM.1⟩, sp_ringsThere hM vk.1 ⟨_, rfl, now⟩⟩
  · subst z; rw [cv_1] at now
    exact gtR q0 rfl ⟨⟨_, hM.1⟩, sp_allLinks (d := d + 6) hM vk.1 ⟨_, rfl, now⟩⟩
  · subst z
    refine gtR q0 rfl ⟨⟨_, PP.1⟩, sp_pcRefresh (d := d + 5) vk hM hS (fun h1 R1 S1 f1 => ?_)⟩
    obtain ⟨n, rb, pt, sd, g1, g2, g3, g4, g5, g6, g7, PA1, -⟩ := R1
    have q1 := (f1 0 (by decide)).trans q0
    refine gtR q1 rfl (gtI PA1.1 rfl ⟨_, rfl, ?_⟩)
    have := model h1 S1 (f1.mono (by omega) (by omega))
    rw [cv_2] at this; exact this
  · subst z; rw [cv_3] at now
    exact gtR q0 rfl ⟨⟨_, hM.1⟩, sp_fullRings (d := d + 4) hM vk.1 ⟨_, rfl, now⟩⟩
  · subst z; rw [cv_4] at now
    exact ⟨⟨_, q0⟩, eX8_bindingRings (lm_bindings (d := d + 4) q0 hM vk sz ⟨_, rfl, now⟩ (m_nu m) 0 (by omega))⟩
  · subst z
    refine gtR q0 rfl ⟨⟨_, PP.1⟩, sp_pcRefresh (d := d + 5) vk hM hS (fun h1 R1 S1 f1 => ?_)⟩
    obtain ⟨n, rb, pt, sd, g1, g2, g3, g4, g5, g6, g7, PA1, -⟩ := R1
    have q1 := (f1 0 (by decide)).trans q0
    refine gtR q1 rfl (gtI PA1.1 rfl ⟨_, rfl, ?_⟩)
    have := model h1 S1 (f1.mono (by omega) (by omega))
    rw [cv_5] at this; exact this
  · subst z; rw [cv_6] at now
    exact ⟨⟨_, q0⟩, wires _ ⟨_, rfl, now⟩ (d + 7)⟩
  · subst z; rw [cv_7] at now
    exact ⟨⟨_, q0⟩, eX8_weightOfAll ⟨⟨_, q0⟩, wires _ (gtI q0 rfl (gtI q0 rfl (gtI q0 rfl ⟨_, rfl, ⟨_, rfl, now⟩⟩))) (d + 6)⟩⟩
  · subst z; rw [cv_8] at now
    exact gtR q0 rfl (gtI hM.1 rfl ⟨_, rfl, now⟩)
  · subst z; rw [cv_9] at now
    exact gtR q0 rfl (gtI hu.1 rfl ⟨_, rfl, now⟩)
  · subst z; rw [cv_10] at now
    exact gtR q0 rfl (gtI hu.1 rfl ⟨_, rfl, now⟩)
  · subst z; rw [cv_11] at now
    exact gtR q0 rfl (gtI hT.1 rfl ⟨_, rfl, now⟩)
  · subst z; rw [cv_12] at now
    exact gtR q0 rfl ⟨⟨_, hM.1⟩, sp_wornRings hM vk.1 ⟨_, rfl, now⟩⟩
end JCOUNT3
