section MWEAVE
variable {l : Launch} {g : am_G} {d : Nat} {x : Bool} {h : am_H} {T : tp_T} {N k F r : Nat} {nm : Nat → Nat} {a : mc_T} {Wh Wl W : wv_T}
theorem MX.nm0 (hM : MX h T N k F nm r a) (nm' : Nat → Nat) : MX h T N k F nm' 0 a := by
  obtain ⟨m1, m2, m3, m4, m5, ⟨fn, n1, n2⟩, m6, m7⟩ := hM
  exact ⟨m1, m2, m3, m4, m5, ⟨fn, n1, fun i hi => absurd hi (Nat.not_lt_zero i)⟩, m6, fun i j hi => absurd hi (Nat.not_lt_zero i)⟩
theorem MX.fr2 {h' : am_H} (hM : MX h T N k F nm r a) (hf : Fr 52 59 h h') (h53 : h'[53]? = h[53]?) : MX h' T N k F nm r a := by
  obtain ⟨m1, ⟨⟨ft, q47, g47⟩, ⟨f8, q48, g48⟩, ⟨f9, q49, g49⟩, ⟨f0, q50, g50⟩⟩, m3, ⟨k', e1, e2, e3⟩, ⟨fw, w1, w2⟩, ⟨fn, n1, n2⟩, m6, m7⟩ := hM
  exact ⟨m1, ⟨⟨ft, (hf _ (by decide)).trans q47, g47⟩, ⟨f8, (hf _ (by decide)).trans q48, g48⟩, ⟨f9, (hf _ (by decide)).trans q49, g49⟩, ⟨f0, (hf _ (by decide)).trans q50, g50⟩⟩, m3, ⟨k', (hf _ (by decide)).trans e1, e2, e3⟩, ⟨fw, (hf _ (by decide)).trans w1, w2⟩, ⟨fn, h53.trans n1, n2⟩, m6, m7⟩
theorem ms_w90 {K : Int32 → am_H → Prop} (hM : MX h T N k F nm r a) (hD : WD h Wh Wl W) (hw : F = 0 → wv_ok W)
    (hK : ∀ h' Wh', MX h' T N k F nm r a → WD h' Wh' Wl W → (F = 0 → Wh' = W) → (F ≠ 0 → Wh' = Wh) → Fr 46 59 h h' → K (nI F) h') : zX9_weave_90 l g d x 46 h (fun r h' => ∃ v, r = some (.int v) ∧ K v h') := by
  have hFl := hM.2.2.1
  obtain ⟨-, -, -, ⟨k', q0, -, -⟩, -⟩ := id hM
  by_cases h0 : F = 0
  · have hw := hw h0
    obtain ⟨fr, fl, f1, f2, f3, f4, f5, hA, e1, e2, e3, e4, e5, e6, e7, e8, e9⟩ := hD
    have hw2 := hw.2.1
    refine gtI q0 rfl ⟨fun z => absurd (by rw [h0]; rfl) z, fun _ => ⟨⟨_, q0⟩, ms_copies (s := 1) (t := 0) (n := W.2.1) q0 hA (by decide) (by decide) (by decide) hw2 e8 (fun i hi => ?_) fun h' q0' hA' hf h53 => ?_⟩⟩
    · rw [(e9 i hi).2.2.2.2]; exact bi_01 _
    · refine gtI q0' rfl ⟨_, rfl, ?_⟩
      refine hK h' W (hM.fr2 hf h53) ⟨_, _, _, _, _, _, _, hA', ?_, ?_, ?_, ?_, fun i hi => ?_, fun i hi => ?_, ?_, ?_, fun i hi => ?_⟩ (fun _ => rfl) (fun c => absurd h0 c) (hf.mono (by omega) (by omega))
      · rw [pk_us]; exact e7
      · rw [pk_us]; exact e8
      · rw [pk_un (by decide)]; exact e3
      · rw [pk_un (by decide)]; exact e4
      · have := e9 i hi
        rw [fb_put_id hi, fb_put_id hi, fb_put_id hi, fb_put_id hi, fb_put_id hi]
        exact this
      · have := e6 i hi
        rw [fb_put_out (by omega), fb_put_out (by omega), fb_put_out (by omega), fb_put_out (by omega), fb_put_out (by omega)]
        exact this
      · rw [pk_un (by decide)]; exact e7
      · rw [pk_un (by decide)]; exact e8
      · have := e9 i hi
        rw [fb_put_out (by omega), fb_put_out (by omega), fb_put_out (by omega), fb_put_out (by omega), fb_put_out (by omega)]
        exact this
  · refine gtI q0 rfl ⟨fun _ => gtI q0 rfl ⟨_, rfl, ?_⟩, fun z => absurd ((nI_f0 hFl).mp z) h0⟩
    exact hK h Wh hM hD (fun c => absurd c h0) (fun _ => rfl) Fr.rf
def FW (T : tp_T) (F : Nat) (R W Wh Wh' : wv_T) : Prop := (F = 0 → Wh' = R) ∧ (F ≠ 0 → Wh' = Wh)
theorem ms_w51F {K : Int32 → am_H → Prop} (hk : tp_ok T) (hM : MX h T N k F nm r a) (hF : F ≠ 0) (hD : WD h Wh Wl W)
    (hK : ∀ h', MX h' T N k F nm r a → WD h' Wh Wl W → Fr 46 59 h h' → K (nI F) h') : am_J l g mX9_weave (d + 5) (0, 0, x) 51 [(0, .ref 46)] [] h (fun r h' => ∃ v, r = some (.int v) ∧ K v h') := by
  have hFl := hM.2.2.1
  obtain ⟨-, -, -, ⟨k', q0, -, -⟩, -⟩ := id hM
  refine rX9_weave_51 ⟨hM.o, ms_isWord (w := 1) hk hM (by decide) ⟨fun z => gtI q0 rfl ⟨fun _ => ?_, fun y => absurd ((nI_f0 hFl).mp y) hF⟩, fun z => ?_⟩⟩
  · exact ms_w90 hM hD (fun c => absurd c hF) fun h' Wh' a b c e f => by
      rw [e hF] at b
      exact hK h' a b f
  · rw [decide_eq_false hF] at z; exact absurd rfl z
theorem lm_weaveL {K : Int32 → am_H → Prop} (hk : tp_ok T) (hh : Wh.2.1 ≤ 24) : ∀ f k W h, f + W.2.1 = 25 → wv_ok W → MX h T N k 0 nm W.1 a → WD h Wh Wl W →
    (∀ h' k' Wh' W', MX h' T N k' (fo (p_L T nm f k W).1 (if t_k T (t_s T (p_L T nm f k W).2.1) = 0 then 0 else p_ft T 1 (p_L T nm f k W).2.1)) nm 0 a → WD h' Wh' Wl W' → (fo (p_L T nm f k W).1 (if t_k T (t_s T (p_L T nm f k W).2.1) = 0 then 0 else p_ft T 1 (p_L T nm f k W).2.1) = 0 → Wh' = (p_L T nm f k W).2.2) → (fo (p_L T nm f k W).1 (if t_k T (t_s T (p_L T nm f k W).2.1) = 0 then 0 else p_ft T 1 (p_L T nm f k W).2.1) ≠ 0 → Wh' = Wh) → Fr 46 59 h h' → K (nI (fo (p_L T nm f k W).1 (if t_k T (t_s T (p_L T nm f k W).2.1) = 0 then 0 else p_ft T 1 (p_L T nm f k W).2.1))) h') →
    am_J l g mX9_weave (d + 5) (0, 0, x) 51 [(0, .ref 46)] [] h (fun r h' => ∃ v, r = some (.int v) ∧ K v h') := by
  intro f
  induction f with
  | zero => intro k W h hf hw; have := hw.2.1; omega
  | succ f ih =>
    intro k W h hf hw hM hD hK
    obtain ⟨q0, hkN⟩ := hM.k0
    refine rX9_weave_51 ⟨hM.o, ms_isWord (w := 1) hk hM (by decide) ⟨fun z => ?_, fun z => ⟨hM.o, ?_⟩⟩⟩
    · have ez : isW T k 1 = false := by have := bi_0.mp z; rw [decide_eq_true rfl, Bool.true_and] at this; exact this
      have e : p_L T nm (f + 1) k W = (0, k, W) := by unfold p_L; rw [if_neg (by rw [ez]; decide)]
      rw [e] at hK
      simp only [fo_z] at hK
      obtain ⟨-, ⟨-, ⟨f8, q48, g48⟩, -, -⟩, -, -, -, -, hN, -⟩ := id hM
      have hle := t_k_le T (t_s T k)
      have e0 : nI (t_k T (t_s T k)) = 0 ↔ t_k T (t_s T k) = 0 := nI_eq (b := 0) (by omega) (by decide)
      refine gtI q0 rfl ⟨fun y => absurd rfl y, fun _ => gtR q0 rfl (gtI q0 rfl (alI q48 (by omega) (by omega) ?_))⟩
      rw [g48 k (by omega), e0]
      refine ⟨fun y => ?_, fun y => ⟨hM.o, ms_wrong (w := 1) hk hM (by decide) fun h1 m1 f1 => ?_⟩⟩
      · rw [if_pos y] at hK
        exact ms_w90 hM hD (fun _ => hw) fun h' Wh' a b c e f2 => hK h' k Wh' W (a.nm0 _) b c e f2
      · rw [if_neg y] at hK
        rw [fo_z] at m1
        have hne : p_ft T 1 k ≠ 0 := p_ft_ne (by decide)
        exact ms_w90 m1 (hD.lf f1) (fun c => absurd c hne) fun h' Wh' a b c e f2 => hK h' k Wh' W (a.nm0 _) b (fun c => absurd c hne) e ((f1.mono (by omega) (by omega)).tr f2)
    · have ez : isW T k 1 = true := by have := bi_n0.mp z; rw [decide_eq_true rfl, Bool.true_and] at this; exact this
      refine ms_readLink hk hM hD hw hh ez ?_ ?_
      · intro h1 e0 m1 d1 f1
        have e : p_L T nm (f + 1) k W = p_L T nm f (p_k5 T k + 2) (w_put W (p_lk T nm k W.1)) := by
          rw [p_L, if_pos ez, if_pos e0]
        rw [e] at hK
        exact ih _ (w_put W (p_lk T nm k W.1)) h1 (by show f + (W.2.1 + 1) = 25; omega) (w_put_ok hw e0) m1 d1 (fun h' k' Wh' W' a b c e2 f2 => hK h' k' Wh' W' a b c e2 (f1.tr f2))
      · intro h1 W1 e0 m1 d1 f1
        have e : p_L T nm (f + 1) k W = (p_link T nm W k, k, W) := by
          rw [p_L, if_pos ez, if_neg e0]
        rw [e] at hK
        simp only [fo_n e0] at hK
        exact ms_w51F hk m1 e0 d1 fun h' a b f2 => hK h' 0 Wh W1 (a.nm0 _) b (fun c => absurd c e0) (fun _ => rfl) (f1.tr f2)
theorem lm_weaveR {K : Int32 → am_H → Prop} (hk : tp_ok T) (hh : Wh.2.1 ≤ 24) : ∀ f k (nm : Nat → Nat) W h, f + W.1 = 5 → wv_ok W → W.2.1 = 0 → MX h T N k 0 nm W.1 a → WD h Wh Wl W →
    (∀ h' k' Wh' W' nm', MX h' T N k' (p_fin T (p_R T f k nm W)).1 nm' 0 a → WD h' Wh' Wl W' → ((p_fin T (p_R T f k nm W)).1 = 0 → Wh' = (p_fin T (p_R T f k nm W)).2) → ((p_fin T (p_R T f k nm W)).1 ≠ 0 → Wh' = Wh) → Fr 46 59 h h' → K (nI (p_fin T (p_R T f k nm W)).1) h') →
    am_J l g mX9_weave (d + 5) (0, 0, x) 36 [(0, .ref 46)] [] h (fun r h' => ∃ v, r = some (.int v) ∧ K v h') := by
  intro f
  induction f with
  | zero => intro k nm W h hf hw; have := hw.1; omega
  | succ f ih =>
    intro k nm W h hf hw h0 hM hD hK
    refine rX9_weave_36 ⟨hM.o, ms_isWord (w := 0) hk hM (by decide) ⟨fun z => ?_, fun z => ⟨hM.o, ?_⟩⟩⟩
    · have ez : isW T k 0 = false := by have := bi_0.mp z; rw [decide_eq_true rfl, Bool.true_and] at this; exact this
      have e : p_R T (f + 1) k nm W = (0, k, nm, W) := by unfold p_R; rw [if_neg (by rw [ez]; decide)]
      rw [e] at hK
      unfold p_fin at hK
      simp only [if_true] at hK
      exact lm_weaveL hk hh 25 k W h (by omega) hw hM hD (fun h' k' Wh' W' a b c e2 f2 => hK h' k' Wh' W' nm a b c e2 f2)
    · have ez : isW T k 0 = true := by have := bi_n0.mp z; rw [decide_eq_true rfl, Bool.true_and] at this; exact this
      refine ms_readRing hk hM hD hw ez ?_ ?_
      · intro h1 e0 m1 d1 f1
        have e : p_R T (f + 1) k nm W = p_R T f (k + 3) (nm_put nm W.1 (t_s T (k + 1))) (w_ring W) := by
          rw [p_R, if_pos ez, if_pos e0]
        rw [e] at hK
        have hne : W.1 ≠ 4 := fun e => by rw [p_ring_4 e] at e0; exact p_ft_ne (by decide) e0
        have hw' : wv_ok (w_ring W) := by
          obtain ⟨w1, w2, w3, w4⟩ := hw
          refine ⟨by show W.1 + 1 ≤ 4; omega, w2, fun i hi => ?_, fun i j hij hj => ?_⟩
          · have : i < W.2.1 := hi; omega
          · have : j < W.2.1 := hj; omega
        exact ih _ _ (w_ring W) h1 (by show f + (W.1 + 1) = 5; omega) hw' h0 m1 d1 (fun h' k' Wh' W' nm' a b c e2 f2 => hK h' k' Wh' W' nm' a b c e2 (f1.tr f2))
      · intro h1 W1 e0 m1 d1 f1
        have e : p_R T (f + 1) k nm W = (p_ring T nm k W.1, k, nm, W) := by
          rw [p_R, if_pos ez, if_neg e0]
        rw [e] at hK
        unfold p_fin at hK
        simp only [if_neg e0] at hK
        refine rX9_weave_36 ⟨m1.o, ms_isWord (w := 0) hk m1 (by decide) ⟨fun _ => ?_, fun y => ?_⟩⟩
        · exact ms_w51F hk m1 e0 d1 fun h' a b f2 => hK h' 0 Wh W1 nm a b (fun c => absurd c e0) (fun _ => rfl) (f1.tr f2)
        · rw [decide_eq_false e0] at y; exact absurd rfl y
/-- other arrays that the model reads with -/
def AX (h : am_H) : Prop := (∃ f, h[48]? = some (am_I 0 1002 f)) ∧ (∃ f, h[49]? = some (am_I 0 1002 f)) ∧ (∃ f, h[50]? = some (am_L 1002 f)) ∧ (∃ fw, h[51]? = some (am_L 4 fw) ∧ ∀ w, w < 4 → fw w = lN (t_k37 w)) ∧ (∃ f, h[53]? = some (am_L 12 f))
theorem AX.fr {h' : am_H} (hA : AX h) (hf : ∀ i, 48 ≤ i → i ≤ 53 → i ≠ 52 → h'[i]? = h[i]?) : AX h' := by
  obtain ⟨⟨f8, a8⟩, ⟨f9, a9⟩, ⟨f0, a0⟩, ⟨f1, a1, b1⟩, ⟨f3, a3⟩⟩ := hA
  exact ⟨⟨f8, (hf _ (by decide) (by decide) (by decide)).trans a8⟩, ⟨f9, (hf _ (by decide) (by decide) (by decide)).trans a9⟩, ⟨f0, (hf _ (by decide) (by decide) (by decide)).trans a0⟩, ⟨f1, (hf _ (by decide) (by decide) (by decide)).trans a1, b1⟩, ⟨f3, (hf _ (by decide) (by decide) (by decide)).trans a3⟩⟩
theorem MX.ax (hM : MX h T N k F nm r a) : AX h := by
  obtain ⟨-, ⟨-, ⟨f8, q48, g48⟩, ⟨f9, q49, g49⟩, ⟨f0, q50, g50⟩⟩, -, -, m5, ⟨fn, n1, n2⟩, -, -⟩ := hM
  exact ⟨⟨f8, q48⟩, ⟨f9, q49⟩, ⟨f0, q50⟩, m5, ⟨fn, n1⟩⟩
variable {m : ml_T} {o : mo_T}
def o_a (m : ml_T) (o : mo_T) (n : Int32) : mc_T := (0, 0, n, nI m.2.1, nI m.2.2.1, nI (m_sh m), nI (m_nu m), o.2.2.2.2.2.1, o.2.2.2.2.2.2.1, o.2.2.2.2.2.2.2)
theorem ms_weave {K : Int32 → am_H → Prop} (hk : tp_ok T) (hM : MM h m Wh o) (hT : TM h o T) (hA : AX h) (hw : wv_ok Wh)
    (hK : ∀ h' o' Wh', MM h' m Wh' o' → TM h' o' (0, T.2) → AX h' → ((p_all T).1 = 0 → Wh' = (p_all T).2) → ((p_all T).1 ≠ 0 → Wh' = Wh) → (o'.1 = 0 ∧ o'.2.2.2.2.2 = o.2.2.2.2.2) → Fr 46 59 h h' → K (nI (p_all T).1) h') : cl_I l g mX9_weave (d + 5) x [.ref 46] h K := by
  obtain ⟨q0, ⟨fr, fl, f1, f2, f3, f4, f5, w52, w54, w1, w2, w3, w4, w5, e1, e2, e3, e4, e5, e6⟩, ⟨f60, h60, g60⟩, ⟨f61, h61, g61⟩⟩ := id hM
  obtain ⟨t1, t2, ft, q47, g47⟩ := hT
  obtain ⟨⟨f8, q48⟩, ⟨f9, q49⟩, ⟨f0, q50⟩, ⟨fw, q51, g51⟩, ⟨fn, q53⟩⟩ := hA
  have q0' : h[46]? = some (c_mo o.1 (nI T.1) o.2.2.1 o.2.2.2.1 o.2.2.2.2.1 (nI m.2.1) (nI m.2.2.1) (nI (m_sh m)) (nI (m_nu m)) o.2.2.2.2.2.1 o.2.2.2.2.2.2.1 o.2.2.2.2.2.2.2) := by rw [← t1]; exact q0
  refine eX9_weave (ptV q0' (Nat.le_of_ble_eq_true rfl) ?_)
  have p0 := st_eq (c := c_mo 0 (nI T.1) o.2.2.1 o.2.2.2.1 o.2.2.2.2.1 (nI m.2.1) (nI m.2.2.1) (nI (m_sh m)) (nI (m_nu m)) o.2.2.2.2.2.1 o.2.2.2.2.2.2.1 o.2.2.2.2.2.2.2) q0'
  refine ⟨⟨_, p0⟩, eX9_cutAll (gtI p0 rfl (ptV p0 (Nat.le_of_ble_eq_true rfl) ?_))⟩
  have p1 := st_eq (c := c_mo 0 (nI T.1) (nI T.1) o.2.2.2.1 o.2.2.2.2.1 (nI m.2.1) (nI m.2.2.1) (nI (m_sh m)) (nI (m_nu m)) o.2.2.2.2.2.1 o.2.2.2.2.2.2.1 o.2.2.2.2.2.2.2) p0
  refine ptV p1 (Nat.le_of_ble_eq_true rfl) ?_
  have p2 := st_eq (c := c_mo 0 0 (nI T.1) o.2.2.2.1 o.2.2.2.2.1 (nI m.2.1) (nI m.2.2.1) (nI (m_sh m)) (nI (m_nu m)) o.2.2.2.2.2.1 o.2.2.2.2.2.2.1 o.2.2.2.2.2.2.2) p1
  generalize hH : (((h.set 46 (c_mo 0 (nI T.1) o.2.2.1 o.2.2.2.1 o.2.2.2.2.1 (nI m.2.1) (nI m.2.2.1) (nI (m_sh m)) (nI (m_nu m)) o.2.2.2.2.2.1 o.2.2.2.2.2.2.1 o.2.2.2.2.2.2.2)).set 46 (c_mo 0 (nI T.1) (nI T.1) o.2.2.2.1 o.2.2.2.2.1 (nI m.2.1) (nI m.2.2.1) (nI (m_sh m)) (nI (m_nu m)) o.2.2.2.2.2.1 o.2.2.2.2.2.2.1 o.2.2.2.2.2.2.2)).set 46 (c_mo 0 0 (nI T.1) o.2.2.2.1 o.2.2.2.2.1 (nI m.2.1) (nI m.2.2.1) (nI (m_sh m)) (nI (m_nu m)) o.2.2.2.2.2.1 o.2.2.2.2.2.2.1 o.2.2.2.2.2.2.2)) = H at p2
  have hf : ∀ i, i ≠ 46 → H[i]? = h[i]? := fun i hi => by rw [← hH, st_ne (Ne.symm hi), st_ne (Ne.symm hi), st_ne (Ne.symm hi)]
  have main : ∀ K' : am_H → Prop, (∀ h' N, N ≤ 1000 → NT T N → CI h' T (N + 1) → h'[46]? = some (c_ma (o_a m o (nI T.1)) 0 0) → (∀ i, ¬ (i = 46 ∨ (48 ≤ i ∧ i ≤ 50)) → h'[i]? = h[i]?) → K' h') → am_J l g mX9_cutAll (d + 4) (0, 0, x) 17 [(0, .ref 46), (1, .int (nI 0)), (2, .int (nI 0))] [] H (fun r h' => r = none ∧ K' h') := fun K' hK' => by
    refine lm_cut (d := d + 2) (h := H) (a4 := o.2.2.2.1) (a5 := o.2.2.2.2.1) hk (fun h' N a b c e f => ⟨rfl, hK' h' N a b c e (fun i hi => ?_)⟩) T.1 0 0 H (by omega) (by omega) (by omega) rfl (fun k hk => absurd hk (Nat.not_lt_zero k)) ⟨⟨ft, (hf _ (by decide)).trans q47, g47⟩, ⟨f8, (hf _ (by decide)).trans q48, fun k hk => absurd hk (Nat.not_lt_zero k)⟩, ⟨f9, (hf _ (by decide)).trans q49, fun k hk => absurd hk (Nat.not_lt_zero k)⟩, ⟨f0, (hf _ (by decide)).trans q50, fun k hk => absurd hk (Nat.not_lt_zero k)⟩⟩ p2 (fun i _ => rfl)
    exact (f i hi).trans (hf i (fun e => hi (Or.inl e)))
  subst hH
  refine main _ fun h1 N hN hNT hC r0 rf => ?_
  have r52 : h1[52]? = some (am_I 0 3 fr) := (rf _ (by decide)).trans w52
  have r54 : h1[54]? = some (am_I 0 3 fl) := (rf _ (by decide)).trans w54
  refine gtR r0 rfl (asI (i := 1) r52 (by decide) (by decide) ?_)
  refine gtR ((st_ne (by decide)).trans r0) rfl (asI (i := 1) ((st_ne (by decide)).trans r54) (by decide) (by decide) ?_)
  generalize hG : ((h1.set 52 (am_I 0 3 (upd fr 1 0))).set 54 (am_I 0 3 (upd fl 1 0))) = G
  have gf : ∀ i, i ≠ 52 → i ≠ 54 → G[i]? = h1[i]? := fun i u v => by rw [← hG, st_ne (Ne.symm v), st_ne (Ne.symm u)]
  have g0 : G[46]? = some (c_ma (o_a m o (nI T.1)) (nI 0) (nI 0)) := (gf 46 (by decide) (by decide)).trans r0
  have GX : MX G T N 0 0 (fun _ => 0) w_0.1 (o_a m o (nI T.1)) := by
    obtain ⟨⟨ft', q47', g47'⟩, ⟨f8', q48', g48'⟩, ⟨f9', q49', g49'⟩, ⟨f0', q50', g50'⟩⟩ := hC
    refine ⟨hNT, ⟨⟨ft', (gf _ (by decide) (by decide)).trans q47', g47'⟩, ⟨f8', (gf _ (by decide) (by decide)).trans q48', g48'⟩, ⟨f9', (gf _ (by decide) (by decide)).trans q49', g49'⟩, ⟨f0', (gf _ (by decide) (by decide)).trans q50', g50'⟩⟩, by decide, ⟨0, g0, Nat.zero_le _, fun _ => rfl⟩, ⟨fw, (gf _ (by decide) (by decide)).trans ((rf _ (by decide)).trans q51), g51⟩, ⟨fn, (gf _ (by decide) (by decide)).trans ((rf _ (by decide)).trans q53), fun i hi => absurd hi (Nat.not_lt_zero i)⟩, hN, fun i j hi => absurd hi (Nat.not_lt_zero i)⟩
  have GD : WD G Wh m.1 w_0 := by
    refine ⟨upd fr 1 0, upd fl 1 0, f1, f2, f3, f4, f5, ⟨?_, ?_, ?_, ?_, ?_, ?_, ?_⟩, ?_, ?_, ?_, ?_, e5, e6, pk_us, pk_us, fun i hi => absurd hi (Nat.not_lt_zero i)⟩
    · rw [← hG, st_ne (by decide)]; exact st_eq r52
    · rw [← hG]; exact st_eq ((st_ne (by decide)).trans r54)
    · exact (gf _ (by decide) (by decide)).trans ((rf _ (by decide)).trans w1)
    · exact (gf _ (by decide) (by decide)).trans ((rf _ (by decide)).trans w2)
    · exact (gf _ (by decide) (by decide)).trans ((rf _ (by decide)).trans w3)
    · exact (gf _ (by decide) (by decide)).trans ((rf _ (by decide)).trans w4)
    · exact (gf _ (by decide) (by decide)).trans ((rf _ (by decide)).trans w5)
    · rw [pk_un (by decide)]; exact e1
    · rw [pk_un (by decide)]; exact e2
    · rw [pk_un (by decide)]; exact e3
    · rw [pk_un (by decide)]; exact e4
  have GF : Fr 46 59 h G := fun i hi => by rw [gf i (by omega) (by omega)]; exact rf i (by omega)
  have fin : ∀ (F : Nat) (R : wv_T), p_all T = (F, R) → ∀ h' k' Wh' W' (nm' : Nat → Nat), MX h' T N k' F nm' 0 (o_a m o (nI T.1)) → WD h' Wh' m.1 W' → (F = 0 → Wh' = R) → (F ≠ 0 → Wh' = Wh) → Fr 46 59 G h' → K (nI F) h' := by
    intro F R eF h' k' Wh' W' nm' a b c e f2
    have ff := GF.tr f2
    rw [eF] at hK
    have hax := a.ax
    obtain ⟨-, ⟨⟨ft', q47', g47'⟩, -⟩, -, ⟨k2, q2, -, -⟩, -⟩ := id a
    obtain ⟨fr', fl', f1', f2', f3', f4', f5', ⟨b52, b54, b1, b2, b3, b4, b5⟩, c1, c2, c3, c4, c5, c6, -, -, -⟩ := b
    refine hK h' (0, 0, nI T.1, nI k2, nI F, o.2.2.2.2.2.1, o.2.2.2.2.2.2.1, o.2.2.2.2.2.2.2) Wh' ⟨q2, ⟨fr', fl', f1', f2', f3', f4', f5', b52, b54, b1, b2, b3, b4, b5, c1, c2, c3, c4, c5, c6⟩, ⟨f60, (ff _ (by decide)).trans h60, g60⟩, ⟨f61, (ff _ (by decide)).trans h61, g61⟩⟩ ⟨rfl, Nat.zero_le _, ft', q47', fun i hi => absurd hi (Nat.not_lt_zero i)⟩ hax c e ⟨rfl, rfl⟩ ff
  refine ⟨⟨_, g0⟩, ms_isWord (w := 0) hk GX (by decide) ⟨fun z => ?_, fun z => ⟨⟨_, g0⟩, ms_wrong (w := 1) hk GX (by decide) fun h2 m2 f2 => ?_⟩⟩⟩
  · have ez : isW T 0 0 = true := by have := bi_n0.mp z; rw [decide_eq_true rfl, Bool.true_and] at this; exact this
    have ea : p_all T = p_fin T (p_R T 5 0 (fun _ => 0) w_0) := by rw [p_all_eq, if_pos ez]
    have f' := fin (p_fin T (p_R T 5 0 (fun _ => 0) w_0)).1 (p_fin T (p_R T 5 0 (fun _ => 0) w_0)).2 ea
    exact lm_weaveR (d := d) hk hw.2.1 5 0 (fun _ => 0) w_0 G rfl w_0_ok rfl GX GD (fun h' k' Wh' W' nm' a b c e f2 => f' h' k' Wh' W' nm' a b c e f2)
  · have ez : isW T 0 0 = false := by have := bi_0.mp z; rw [decide_eq_true rfl, Bool.true_and] at this; exact this
    have ea : p_all T = (p_ft T 1 0, w_0) := by rw [p_all_eq, if_neg (by rw [ez]; decide)]
    have f' := fin (p_ft T 1 0) w_0 ea
    rw [fo_z] at m2
    have hne : p_ft T 1 0 ≠ 0 := p_ft_ne (by decide)
    refine rX9_weave_36 ⟨m2.o, ms_isWord (w := 0) hk m2 (by decide) ⟨fun _ => ?_, fun y => ?_⟩⟩
    · exact ms_w51F (d := d) hk m2 hne (GD.lf f2) fun h' a b f3 => f' h' 0 Wh w_0 _ a b (fun c => absurd c hne) (fun _ => rfl) ((f2.mono (by omega) (by omega)).tr f3)
    · rw [decide_eq_false hne] at y; exact absurd rfl y
end MWEAVE
