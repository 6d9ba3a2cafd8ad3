section MREAD2
variable {l : Launch} {g : am_G} {d : Nat} {x : Bool} {h : am_H} {T : tp_T} {N k F r : Nat} {nm : Nat → Nat} {a : mc_T} {Wh Wl W : wv_T}
theorem WD.lf {h' : am_H} (hW : WD h Wh Wl W) (hf : Fr 46 46 h h') : WD h' Wh Wl W := hW.fr (fun i u v w => hf i (by omega))
theorem MX.v (hM : MX h T N k 0 nm r a) (hk4 : t_k T (t_s T k) ≠ 4) (hk0 : t_k T (t_s T k) ≠ 0) : ∃ f, h[50]? = some (am_L 1002 f) ∧ f k = lN (t_u T (t_s T k)) ∧ k < 1002 := by
  obtain ⟨q0, hkN⟩ := hM.k0
  obtain ⟨-, ⟨-, -, -, ⟨f50, q50, g50⟩⟩, -, -, -, -, hN, -⟩ := hM
  exact ⟨f50, q50, g50 k (by omega) hk4 hk0, by omega⟩
theorem n1_lt0 {n : Nat} (h : n < 2 ^ 31) : 0 ≤ nI n := nI_pos' h
theorem ms_takeRing {K : Int32 → am_H → Prop} (hk : tp_ok T) (hM : MX h T N k F nm r a) (hD : WD h Wh Wl W) (hr : W.1 = r) (hr4 : r ≤ 4) (hK : ∀ v h', MX h' T N (k + 1) (fo F (p_nmf T nm k r)) nm r a → (fo F (p_nmf T nm k r) = 0 → v = nI (p_find T nm k r)) → Fr 46 46 h h' → K v h') : cl_I l g mX9_takeRing (d + 1) x [.ref 46] h K := by
  have hFl := hM.2.2.1
  have fin : ∀ (h1 : am_H) (F1 : Nat) (v : Int32), MX h1 T N k F1 nm r a → F1 = fo F (p_nmf T nm k r) → (F1 = 0 → v = nI (p_find T nm k r) ∧ isnm T k = true) → Fr 46 46 h h1 → zX9_takeRing_49 l g d x 46 v h1 (fun r h' => ∃ v, r = some (.int v) ∧ K v h') := by
    intro h1 F1 v hM1 eF hv hf
    have hFl1 := hM1.2.2.1
    by_cases h0 : F1 = 0
    · obtain ⟨hv1, hn⟩ := hv h0
      subst h0
      obtain ⟨q0, hkN⟩ := hM1.k0
      have hlt := hM1.lt (by rw [isnm_w hn]; decide)
      refine gtI q0 rfl (gtI q0 rfl ⟨fun z => absurd rfl z, fun _ => ptV q0 (Nat.le_of_ble_eq_true rfl) (gtI (st_eq q0) rfl ⟨fun _ => ⟨_, rfl, ?_⟩, fun z => absurd (Int32.le_refl 0) z⟩)⟩)
      refine hK _ _ ?_ (fun _ => hv1) (hf.st (by decide))
      rw [← eF, nI_1]
      exact hM1.put (by omega) (by decide)
    · obtain ⟨-, -, -, ⟨k', q0, hk', -⟩, -⟩ := id hM1
      refine gtI q0 rfl (gtI q0 rfl ⟨fun _ => ptV q0 (Nat.le_of_ble_eq_true rfl) (gtI (st_eq q0) rfl ⟨fun z => absurd ((nI_fle hFl1).mp z) h0, fun z => ⟨_, rfl, ?_⟩⟩), fun z => absurd ((nI_f0 hFl1).mp z) h0⟩)
      refine hK _ _ ?_ (fun z => absurd z (by rw [← eF]; exact h0)) (hf.st (by decide))
      rw [← eF, show nI k' + 0 = nI k' from nI_add k' 0]
      exact (hM1.put hk' hFl1).bad2 h0
  refine eX9_takeRing ⟨hM.o, ms_isName hk hM ⟨fun z => ?_, fun z => ?_⟩⟩
  · have e := bi_0.mp z
    refine ⟨hM.o, ms_isName hk hM ⟨fun y => absurd (bi_n0.mp y) (by rw [e]; decide), fun y => ⟨hM.o, ms_wrong (w := 1) hk hM (by decide) fun h1 a1 f1 => ?_⟩⟩⟩
    refine fin h1 _ _ a1 ?_ (fun c => ?_) f1
    · by_cases hF0 : F = 0
      · subst hF0
        rw [decide_eq_true rfl, Bool.true_and] at e
        rw [fo_z, fo_z]
        unfold p_nmf; rw [if_pos e]
      · rw [fo_n hF0, fo_n hF0]
    · have := (fo_0.mp c).2
      exact absurd this (p_ft_ne (by decide))
  · have e := bi_n0.mp z
    rw [Bool.and_eq_true] at e
    have hF0 : F = 0 := of_decide_eq_true e.1
    subst hF0
    have hn := e.2
    obtain ⟨q0, hkN⟩ := hM.k0
    obtain ⟨f50, q50, g50, hk2⟩ := hM.v (by rw [isnm_w hn]; decide) (by rw [isnm_w hn]; decide)
    refine gtR q0 rfl (gtI q0 rfl (alL q50 hk2 (by decide) ⟨hM.o, ?_⟩))
    rw [g50]
    refine ms_findRing hk hM hn hD hr hr4 ⟨hM.o, ms_isName hk hM ⟨fun y => ⟨fun w => ?_, fun w => ⟨hM.o, ms_wrong (w := 2) hk hM (by decide) fun h1 a1 f1 => ?_⟩⟩, fun y => absurd (bi_0.mp y) (by rw [hn]; decide)⟩⟩
    · have hlt : p_find T nm k r < r := by
        unfold fi at w
        by_cases c : p_find T nm k r < r
        · exact c
        · rw [if_neg c] at w; exact absurd w (by decide)
      refine fin h 0 _ hM (by rw [fo_z]; exact (p_nmf_0.mpr ⟨hn, hlt⟩).symm) (fun _ => ⟨?_, hn⟩) Fr.rf
      unfold fi; rw [if_pos hlt]
    · have hlt : ¬ p_find T nm k r < r := fun c => by
        unfold fi at w
        rw [if_pos c] at w
        exact w (nI_pos' (by omega))
      refine fin h1 _ _ a1 ?_ (fun c => ?_) f1
      · rw [fo_z, fo_z]
        unfold p_nmf
        rw [if_neg (by rw [hn]; decide), if_neg hlt]
      · rw [fo_z] at c
        exact absurd c (p_ft_ne (by decide))
theorem p_awj_le (T : tp_T) (k : Nat) : p_awj T k = (if isSg T k 45 = true then k + 1 else if isSg T k 43 = true then k + 1 else k) := by
  unfold p_awj
  cases isSg T k 45 <;> cases isSg T k 43 <;> rfl
theorem ms_takeAway {K : Int32 → am_H → Prop} (hk : tp_ok T) (hM : MX h T N k F nm r a) (hK : ∀ v h', MX h' T N (p_awj T k + 1) (fo F (p_awf T k)) nm r a → (fo F (p_awf T k) = 0 → v = Int32.ofInt (p_awv T k)) → Fr 46 46 h h' → K v h') : cl_I l g mX9_takeAway (d + 2) x [.ref 46] h K := by
  have fin79 : ∀ (h1 : am_H) (F1 : Nat), MX h1 T N (p_awj T k) F1 nm r a → F1 = fo F (p_awf T k) → Fr 46 46 h h1 → zX9_takeAway_79 l g (d + 1) x 46 (bi (decide (F = 0) && isSg T k 45)) h1 (fun r h' => ∃ v, r = some (.int v) ∧ K v h') := by
    intro h1 F1 hM1 eF hf
    have hFl1 := hM1.2.2.1
    by_cases h0 : F1 = 0
    · have e0 : fo F (p_awf T k) = 0 := by rw [← eF]; exact h0
      obtain ⟨eF0, eA⟩ := fo_0.mp e0
      subst h0
      obtain ⟨z1, z2⟩ := p_awf_0.mp eA
      obtain ⟨q0, hkN⟩ := hM1.k0
      have hlt := hM1.lt (by rw [z1]; decide)
      obtain ⟨f50, q50, g50, hk2⟩ := hM1.v (by rw [z1]; decide) (by rw [z1]; decide)
      rw [t_uv (by rw [z1]; decide)] at g50
      have hM2 : MX (h1.set 46 (c_ma a (nI (p_awj T k + 1)) (nI 0))) T N (p_awj T k + 1) (fo F (p_awf T k)) nm r a := by rw [e0]; exact hM1.put (by omega) (by decide)
      have q50' : (h1.set 46 (c_ma a (nI (p_awj T k + 1)) (nI 0)))[50]? = some (am_L 1002 f50) := (st_ne (by decide)).trans q50
      have q0' : (h1.set 46 (c_ma a (nI (p_awj T k + 1)) (nI 0)))[46]? = some (c_ma a (nI (p_awj T k + 1)) (nI 0)) := st_eq q0
      refine gtI q0 rfl ⟨fun _ => gtI q0 rfl (ptV q0 (Nat.le_of_ble_eq_true rfl) ?_), fun z => absurd (Int32.le_refl 0) z⟩
      rw [nI_1]
      have e1 : nI (p_awj T k + 1) - 1 = nI (p_awj T k) := by rw [show (1 : Int32) = nI 1 from rfl, pk_sub (by omega)]; rfl
      refine ⟨fun z => gtR q0' rfl (gtI q0' rfl ?_), fun z => gtR q0' rfl (gtI q0' rfl ?_)⟩
      · rw [e1]
        refine alL q50' hk2 (by decide) ⟨_, rfl, ?_⟩
        refine hK _ _ hM2 (fun _ => ?_) (hf.st (by decide))
        rw [g50, lN_i]
        have := bi_0.mp z
        rw [decide_eq_true eF0, Bool.true_and] at this
        unfold p_awv
        rw [this]; rfl
      · rw [e1]
        refine alL q50' hk2 (by decide) ⟨_, rfl, ?_⟩
        refine hK _ _ hM2 (fun _ => ?_) (hf.st (by decide))
        rw [g50, Int64.toInt32_neg, lN_i]
        have := bi_n0.mp z
        rw [decide_eq_true eF0, Bool.true_and] at this
        unfold p_awv
        rw [this, if_pos rfl]
        exact oI_neg (t_v T (t_s T (p_awj T k)) : Int)
    · obtain ⟨-, -, -, ⟨k', q0, hk', -⟩, -⟩ := id hM1
      refine gtI q0 rfl ⟨fun z => absurd ((nI_fle hFl1).mp z) h0, fun _ => ⟨_, rfl, ?_⟩⟩
      exact hK _ _ (by rw [← eF]; exact hM1.bad2 h0) (fun c => absurd c (by rw [← eF]; exact h0)) hf
  have fin23 : ∀ h1, MX h1 T N (p_awj T k) F nm r a → Fr 46 46 h h1 → zX9_takeAway_23 l g (d + 1) x 46 (bi (decide (F = 0) && isSg T k 45)) h1 (fun r h' => ∃ v, r = some (.int v) ∧ K v h') := by
    intro h1 hM1 hf
    have hFl1 := hM1.2.2.1
    by_cases h0 : F = 0
    · subst h0
      obtain ⟨q0, hkN⟩ := hM1.k0
      obtain ⟨-, ⟨-, ⟨f8, q48, g48⟩, -, -⟩, -, -, -, -, hN, -⟩ := id hM1
      have hle := t_k_le T (t_s T (p_awj T k))
      have e2 : nI (t_k T (t_s T (p_awj T k))) = 2 ↔ t_k T (t_s T (p_awj T k)) = 2 := nI_eq (b := 2) (by omega) (by decide)
      refine gtI q0 rfl ⟨fun z => absurd rfl z, fun _ => gtR q0 rfl (gtI q0 rfl (alI q48 (by omega) (by omega) ?_))⟩
      rw [g48 _ (by omega)]
      refine ⟨fun z => gtI q0 rfl ⟨fun z => absurd rfl z, fun _ => ?_⟩, fun z => ⟨hM1.o, ms_wrong (w := 1) hk hM1 (by decide) fun h2 a2 f2 => fin79 h2 _ a2 ?_ (hf.tr f2)⟩⟩
      · rw [e2] at z
        obtain ⟨f50, q50, g50, hk2⟩ := hM1.v (by rw [z]; decide) (by rw [z]; decide)
        rw [t_uv (by rw [z]; decide)] at g50
        have hb := (t_v_lt hk (t_k_in (T := T) (s := t_s T (p_awj T k)) (by omega))).1
        refine gtR q0 rfl (gtI q0 rfl (alL q50 hk2 (by decide) ?_))
        rw [g50, show (9 : Int64) = lN 9 from rfl, lg_leN hb (by decide)]
        refine ⟨fun y => fin79 h1 0 hM1 ?_ hf, fun y => ⟨hM1.o, ms_wrong (w := 4) hk hM1 (by decide) fun h2 a2 f2 => fin79 h2 _ a2 ?_ (hf.tr f2)⟩⟩
        · rw [fo_z]; exact (p_awf_0.mpr ⟨z, y⟩).symm
        · rw [fo_z, fo_z]; unfold p_awf; rw [if_pos z, if_neg y]
      · rw [e2] at z
        rw [fo_z, fo_z]; unfold p_awf; rw [if_neg z]
    · obtain ⟨-, -, -, ⟨k', q0, hk', -⟩, -⟩ := id hM1
      refine gtI q0 rfl ⟨fun _ => gtI q0 rfl ⟨fun _ => fin79 h1 F hM1 (by rw [fo_n h0]) hf, fun z => absurd ((nI_f0 hFl1).mp z) h0⟩, fun z => absurd ((nI_f0 hFl1).mp z) h0⟩
  refine eX9_takeAway ⟨hM.o, ms_isSign (c := 45) hk hM (by decide) ⟨hM.o, ms_hasSign (c := 45) hk hM (by decide) fun h1 a1 f1 => ⟨fun z => ?_, fun z => ⟨a1.o, ms_hasSign (c := 43) hk a1 (by decide) fun h2 a2 f2 => ?_⟩⟩⟩⟩
  · have e := bi_n0.mp z
    rw [Bool.and_eq_true] at e
    refine fin23 h1 ?_ f1
    rw [p_awj_le, if_pos e.2]
    rw [if_pos e.2] at a1
    exact a1
  · have e := bi_0.mp z
    refine fin23 h2 ?_ (f1.tr f2)
    by_cases hF0 : F = 0
    · subst hF0
      rw [decide_eq_true rfl, Bool.true_and] at e
      rw [p_awj_le, if_neg (by rw [e]; decide)]
      rw [show (if isSg T k 45 = true then k + 1 else k) = k from if_neg (by rw [e]; decide)] at a2
      exact a2
    · exact a2.bad2 hF0
theorem ms_isLinkTold {p q : Nat} {u v : Int} {c0 : am_C} {b1 b2 b3 b4 b5 b6 b7 b8 b9 b10 b11 b12 : Int32} {K : Int32 → am_H → Prop} (q0 : h[46]? = some (c_mo b1 b2 b3 b4 b5 b6 b7 b8 b9 b10 b11 b12)) (hD : WD h Wh Wl W) (hw : wv_ok W) (hp : p < 5) (hq : q < 5) (hu : -9 ≤ u ∧ u ≤ 9) (hv : -9 ≤ v ∧ v ≤ 9) (hK : K (bi (p_any (fun i => p_sm (W.2.2 i) p q u v) W.2.1)) h) : cl_I l g mX9_isLinkTold d x [.ref 46, .int (nI p), .int (nI q), .int (Int32.ofInt u), .int (Int32.ofInt v)] h K := by
  obtain ⟨fr, fl, f1, f2, f3, f4, f5, ⟨q52, q54, q55, q56, q57, q58, q59⟩, -, -, -, -, -, -, -, e1, ho⟩ := hD
  obtain ⟨w1, w2, w3, -⟩ := hw
  refine eX9_isLinkTold ?_
  have main : ∀ n c, c + n = W.2.1 → am_J l g mX9_isLinkTold d (0, 0, x) 7 [(0, .ref 46), (1, .int (nI p)), (2, .int (nI q)), (3, .int (Int32.ofInt u)), (4, .int (Int32.ofInt v)), (5, .int (bi (p_any (fun i => p_sm (W.2.2 i) p q u v) c))), (6, .int (nI (24 + c)))] [] h (fun r h' => ∃ v, r = some (.int v) ∧ K v h') := by
    intro n
    induction n with
    | zero =>
      intro c hc
      have : c = W.2.1 := by omega
      subst this
      refine rX9_isLinkTold_7 (gtR q0 rfl (alI (i := 1) q54 (by decide) (by decide) ?_))
      rw [e1, show (24 : Int32) + nI W.2.1 = nI (24 + W.2.1) from nI_add 24 _]
      exact ⟨fun _ => ⟨bi_01 _, _, rfl, hK⟩, fun z => absurd (nI_le (Nat.le_refl _) (by omega)) z⟩
    | succ n ih =>
      intro c hc
      obtain ⟨g1, g2, g3, g4, -⟩ := ho c (by omega)
      obtain ⟨y1, y2, y3, y4, y5, y6, -⟩ := w3 c (by omega)
      have k1 : ∀ z, z < 5 → (nI (W.2.2 c).1 = nI z ↔ (W.2.2 c).1 = z) := fun z hz => nI_eq (by omega) (by omega)
      have k2 : ∀ z, z < 5 → (nI (W.2.2 c).2.1 = nI z ↔ (W.2.2 c).2.1 = z) := fun z hz => nI_eq (by omega) (by omega)
      have k3 : ∀ z : Int, -9 ≤ z → z ≤ 9 → (Int32.ofInt (W.2.2 c).2.2.1 = Int32.ofInt z ↔ (W.2.2 c).2.2.1 = z) := fun z h1 h2 => oI_inj (by omega) (by omega) (by omega) (by omega)
      have k4 : ∀ z : Int, -9 ≤ z → z ≤ 9 → (Int32.ofInt (W.2.2 c).2.2.2.1 = Int32.ofInt z ↔ (W.2.2 c).2.2.2.1 = z) := fun z h1 h2 => oI_inj (by omega) (by omega) (by omega) (by omega)
      have nxt : ∀ b, p_any (fun i => p_sm (W.2.2 i) p q u v) (c + 1) = b → zX9_isLinkTold_123 l g d x 46 (nI p) (nI q) (Int32.ofInt u) (Int32.ofInt v) (nI (24 + c)) (bi b) h (fun r h' => ∃ v, r = some (.int v) ∧ K v h') := fun b hb => by
        unfold zX9_isLinkTold_123
        rw [nI_1, ← hb]
        exact ih (c + 1) (by omega)
      refine rX9_isLinkTold_7 (gtR q0 rfl (alI (i := 1) q54 (by decide) (by decide) ?_))
      rw [e1, show (24 : Int32) + nI W.2.1 = nI (24 + W.2.1) from nI_add 24 _]
      refine ⟨fun z => absurd ((nI_leI (by omega) (by omega)).mp z) (by omega), fun _ => ⟨fun z => ?_, fun z => ?_⟩⟩
      · exact nxt true (by simp only [p_any, bi_n0.mp z, Bool.true_or])
      · have hno := bi_0.mp z
        have yes : p_sm (W.2.2 c) p q u v = true → zX9_isLinkTold_118 l g d x 46 (nI p) (nI q) (Int32.ofInt u) (Int32.ofInt v) (nI (24 + c)) h (fun r h' => ∃ v, r = some (.int v) ∧ K v h') := fun e => nxt true (by simp only [p_any, e, Bool.or_true])
        have snd : p_al (W.2.2 c) p q u v = false → zX9_isLinkTold_71 l g d x 46 (nI p) (nI q) (Int32.ofInt u) (Int32.ofInt v) (nI (24 + c)) h (fun r h' => ∃ v, r = some (.int v) ∧ K v h') := fun eal => by
          have no : p_al (W.2.2 c) q p (-u) (-v) = false → zX9_isLinkTold_122 l g d x 46 (nI p) (nI q) (Int32.ofInt u) (Int32.ofInt v) (nI (24 + c)) h (fun r h' => ∃ v, r = some (.int v) ∧ K v h') := fun e => nxt false (by show (p_any (fun i => p_sm (W.2.2 i) p q u v) c || p_sm (W.2.2 c) p q u v) = false; rw [hno]; unfold p_sm; rw [eal, e]; rfl)
          refine gtR q0 rfl (alI q55 (by omega) (by decide) ?_)
          rw [show 24 * 1 + c = 24 + c from rfl] at g1 g2 g3 g4
          rw [g1, k1 q hq]
          refine ⟨fun y => no (by unfold p_al; rw [decide_eq_false y]; rfl), fun s1 => gtR q0 rfl (alI q56 (by omega) (by decide) ?_)⟩
          rw [g2, k2 p hp]
          refine ⟨fun y => no (by unfold p_al; rw [decide_eq_false y]; simp), fun s2 => gtR q0 rfl (alI q57 (by omega) (by decide) ?_)⟩
          rw [g3, oI_neg, k3 (-u) (by omega) (by omega)]
          refine ⟨fun y => no (by unfold p_al; rw [decide_eq_false y]; simp), fun s3 => gtR q0 rfl (alI q58 (by omega) (by decide) ?_)⟩
          rw [g4, oI_neg, k4 (-v) (by omega) (by omega)]
          refine ⟨fun y => no (by unfold p_al; rw [decide_eq_false y]; simp), fun s4 => yes ?_⟩
          unfold p_sm p_al
          rw [decide_eq_true s1, decide_eq_true s2, decide_eq_true s3, decide_eq_true s4]; simp
        refine gtR q0 rfl (alI q55 (by omega) (by decide) ?_)
        rw [show 24 * 1 + c = 24 + c from rfl] at g1 g2 g3 g4
        rw [g1, k1 p hp]
        refine ⟨fun y => snd (by unfold p_al; rw [decide_eq_false y]; rfl), fun s1 => gtR q0 rfl (alI q56 (by omega) (by decide) ?_)⟩
        rw [g2, k2 q hq]
        refine ⟨fun y => snd (by unfold p_al; rw [decide_eq_false y]; simp), fun s2 => gtR q0 rfl (alI q57 (by omega) (by decide) ?_)⟩
        rw [g3, k3 u hu.1 hu.2]
        refine ⟨fun y => snd (by unfold p_al; rw [decide_eq_false y]; simp), fun s3 => gtR q0 rfl (alI q58 (by omega) (by decide) ?_)⟩
        rw [g4, k4 v hv.1 hv.2]
        refine ⟨fun s4 => yes ?_, fun y => snd (by unfold p_al; rw [decide_eq_false y]; simp)⟩
        unfold p_sm p_al
        rw [decide_eq_true s1, decide_eq_true s2, decide_eq_true s3, decide_eq_true s4]; simp
  exact main W.2.1 0 (by omega)
end MREAD2
