/-! ===== the model reads ===== -/
section MREAD
variable {l : Launch} {g : am_G} {d : Nat} {x : Bool} {h : am_H} {T : tp_T} {N k F r : Nat} {nm : Nat → Nat} {a1 a2 a3 a6 a7 a8 a9 a10 a11 a12 : Int32}
/-- what of the model stands still while it reads -/
abbrev mc_T : Type := Int32 × Int32 × Int32 × Int32 × Int32 × Int32 × Int32 × Int32 × Int32 × Int32
abbrev c_ma (a : mc_T) (at' ft : Int32) : am_C := c_mo a.1 a.2.1 a.2.2.1 at' ft a.2.2.2.1 a.2.2.2.2.1 a.2.2.2.2.2.1 a.2.2.2.2.2.2.1 a.2.2.2.2.2.2.2.1 a.2.2.2.2.2.2.2.2.1 a.2.2.2.2.2.2.2.2.2
def MX (h : am_H) (T : tp_T) (N k F : Nat) (nm : Nat → Nat) (r : Nat) (a : mc_T) : Prop :=
  NT T N ∧ CI h T (N + 1) ∧ F < 20000 ∧ (∃ k', h[46]? = some (c_ma a (nI k') (nI F)) ∧ k' ≤ N ∧ (F = 0 → k' = k)) ∧ (∃ fw, h[51]? = some (am_L 4 fw) ∧ ∀ w, w < 4 → fw w = lN (t_k37 w)) ∧
  (∃ fn, h[53]? = some (am_L 12 fn) ∧ ∀ i, i < r → fn (4 + i) = lN (t_u T (nm i)) ∧ t_k T (nm i) = 1 ∧ nm i < T.1) ∧ N ≤ 1000 ∧ (∀ i j, i < r → j < r → t_v T (nm i) = t_v T (nm j) → i = j)
variable {a : mc_T}
theorem MX.k0 (hM : MX h T N k 0 nm r a) : h[46]? = some (c_ma a (nI k) (nI 0)) ∧ k ≤ N := by
  obtain ⟨-, -, -, ⟨k', e1, e2, e3⟩, -⟩ := hM
  rw [← e3 rfl]; exact ⟨e1, e2⟩
theorem MX.lt (hM : MX h T N k 0 nm r a) (hk : t_k T (t_s T k) ≠ 0) : k < N := by
  have := hM.k0.2
  rcases Nat.lt_or_ge k N with q | q
  · exact q
  · have e : k = N := by omega
    rw [e] at hk; exact absurd hM.1.1 hk
theorem CI.set {n j : Nat} {c : am_C} (hC : CI h T n) (hj : j = 46 ∨ 51 ≤ j) : CI (h.set j c) T n := by
  obtain ⟨⟨ft, q47, g47⟩, ⟨f8, q48, g48⟩, ⟨f9, q49, g49⟩, ⟨f0, q50, g50⟩⟩ := hC
  exact ⟨⟨ft, (st_ne (by omega)).trans q47, g47⟩, ⟨f8, (st_ne (by omega)).trans q48, g48⟩, ⟨f9, (st_ne (by omega)).trans q49, g49⟩, ⟨f0, (st_ne (by omega)).trans q50, g50⟩⟩
theorem MX.w {j : Nat} {c : am_C} (hM : MX h T N k F nm r a) (hj : j = 52 ∨ 54 ≤ j) : MX (h.set j c) T N k F nm r a := by
  obtain ⟨m1, m2, m3, ⟨k', e1, e2, e3⟩, ⟨fw, w1, w2⟩, ⟨fn, n1, n2⟩, m4, m5⟩ := hM
  exact ⟨m1, m2.set (by omega), m3, ⟨k', (st_ne (by omega)).trans e1, e2, e3⟩, ⟨fw, (st_ne (by omega)).trans w1, w2⟩, ⟨fn, (st_ne (by omega)).trans n1, n2⟩, m4, m5⟩
/-- the object itself is set anew: at token k2, with fault F2 -/
theorem MX.put {k2 F2 : Nat} (hM : MX h T N k F nm r a) (h2 : k2 ≤ N) (hF : F2 < 20000) : MX (h.set 46 (c_ma a (nI k2) (nI F2))) T N k2 F2 nm r a := by
  obtain ⟨m1, m2, m3, ⟨k', e1, e2, e3⟩, ⟨fw, w1, w2⟩, ⟨fn, n1, n2⟩, m4, m5⟩ := hM
  exact ⟨m1, m2.set (by omega), hF, ⟨k2, st_eq e1, h2, fun _ => rfl⟩, ⟨fw, (st_ne (by omega)).trans w1, w2⟩, ⟨fn, (st_ne (by omega)).trans n1, n2⟩, m4, m5⟩
theorem MX.o (hM : MX h T N k F nm r a) : ∃ fs, h[46]? = some (am_O 9 fs) := by
  obtain ⟨-, -, -, ⟨k', e1, e2, e3⟩, -⟩ := hM
  exact ⟨_, e1⟩
theorem MX.bad {k2 : Nat} {nm' : Nat → Nat} (hM : MX h T N k F nm r a) (hF : F ≠ 0) : MX h T N k2 F nm' 0 a := by
  obtain ⟨m1, m2, m3, ⟨k', e1, e2, e3⟩, m4, ⟨fn, n1, n2⟩, m5, m6⟩ := hM
  exact ⟨m1, m2, m3, ⟨k', e1, e2, fun z => absurd z hF⟩, m4, ⟨fn, n1, fun i hi => absurd hi (Nat.not_lt_zero i)⟩, m5, fun i j hi => absurd hi (Nat.not_lt_zero i)⟩
theorem MX.bad2 {k2 : Nat} (hM : MX h T N k F nm r a) (hF : F ≠ 0) : MX h T N k2 F nm r a := by
  obtain ⟨m1, m2, m3, ⟨k', e1, e2, e3⟩, m4⟩ := hM
  exact ⟨m1, m2, m3, ⟨k', e1, e2, fun z => absurd z hF⟩, m4⟩
theorem nI_f0 {F : Nat} (hF : F < 20000) : nI F = 0 ↔ F = 0 := nI_eq (b := 0) (by omega) (by decide)
theorem nI_fle {F : Nat} (hF : F < 20000) : nI F ≤ 0 ↔ F = 0 := by
  have := nI_leI (a := F) (b := 0) (by omega) (by decide)
  constructor
  · intro h; have := this.mp h; omega
  · intro h; exact this.mpr (by omega)
theorem ms_wrong {w : Nat} {K : am_H → Prop} (hk : tp_ok T) (hM : MX h T N k F nm r a) (hw : w < 7) (hK : ∀ h', MX h' T N k (fo F (p_ft T w k)) nm r a → Fr 46 46 h h' → K h') : cl_N l g mX9_wrong d x [.ref 46, .int (nI w)] h K := by
  have hF := hM.2.2.1
  by_cases hF0 : F = 0
  · subst hF0
    obtain ⟨q0, hkN⟩ := hM.k0
    obtain ⟨-, ⟨-, -, ⟨f9, q49, g49⟩, -⟩, -, -, -, -, hN, -⟩ := id hM
    rw [fo_z] at hK
    refine eX9_wrong (gtI q0 rfl ⟨fun z => absurd rfl z, fun _ => gtR q0 rfl (gtI q0 rfl (alI q49 (by omega) (by omega) ?_))⟩)
    rw [g49 k (by omega), show (16 : Int32) = nI 16 from rfl, pk_mul, nI_add]
    exact ptV q0 (Nat.le_of_ble_eq_true rfl) ⟨rfl, hK _ (hM.put hkN (p_ft_lt hk hw)) (Fr.rf.st (by decide))⟩
  · obtain ⟨-, -, -, ⟨k', q0, -, -⟩, -⟩ := id hM
    rw [fo_n hF0] at hK
    exact eX9_wrong (gtI q0 rfl ⟨fun _ => ⟨rfl, hK h hM Fr.rf⟩, fun z => absurd ((nI_f0 hF).mp z) hF0⟩)
theorem t_u3 (h : t_k T (t_s T k) = 3) : t_u T (t_s T k) = t_v T (t_s T k) := t_uv (by omega)
theorem ms_isSign {c : Nat} {K : Int32 → am_H → Prop} (hk : tp_ok T) (hM : MX h T N k F nm r a) (hc : c < 1000) (hK : K (bi (decide (F = 0) && isSg T k c)) h) : cl_I l g mX9_isSign d x [.ref 46, .int (nI c)] h K := by
  have hF := hM.2.2.1
  by_cases hF0 : F = 0
  · subst hF0
    obtain ⟨q0, hkN⟩ := hM.k0
    obtain ⟨-, ⟨-, ⟨f8, q48, g48⟩, -, ⟨f50, q50, g50⟩⟩, -, -, -, -, hN, -⟩ := id hM
    rw [decide_eq_true rfl, Bool.true_and] at hK
    have hle := t_k_le T (t_s T k)
    have e3 : nI (t_k T (t_s T k)) = 3 ↔ t_k T (t_s T k) = 3 := nI_eq (b := 3) (by omega) (by decide)
    unfold isSg at hK
    refine eX9_isSign (gtI q0 rfl ⟨fun z => absurd rfl z, fun _ => gtR q0 rfl (gtI q0 rfl (alI q48 (by omega) (by omega) ?_))⟩)
    rw [g48 k (by omega)]
    refine ⟨fun z => ?_, fun z => gtR q0 rfl (gtI q0 rfl (alL q50 (by omega) (by omega) ?_))⟩
    · rw [e3] at z; rw [decide_eq_false z] at hK; exact ⟨_, rfl, hK⟩
    · rw [e3] at z
      rw [decide_eq_true z, Bool.true_and] at hK
      have hb := (t_v_lt hk (t_k_in (T := T) (s := t_s T k) (by omega))).1
      rw [g50 k (by omega) (by omega) (by omega), t_u3 z, nI_l (by omega)]
      refine ⟨fun y => ?_, fun y => ?_⟩
      · rw [lg_eq, fb_lN_inj hb (by omega)] at y; rw [decide_eq_false y] at hK; exact ⟨_, rfl, hK⟩
      · rw [lg_eq, fb_lN_inj hb (by omega)] at y; rw [decide_eq_true y] at hK; exact ⟨_, rfl, hK⟩
  · obtain ⟨-, -, -, ⟨k', q0, -, -⟩, -⟩ := id hM
    rw [decide_eq_false hF0, Bool.false_and] at hK
    exact eX9_isSign (gtI q0 rfl ⟨fun _ => ⟨_, rfl, hK⟩, fun z => absurd ((nI_f0 hF).mp z) hF0⟩)
theorem t_k37_lt {w : Nat} (hw : w < 4) : t_k37 w < 2 ^ 63 := by
  have : ∀ w, w < 4 → t_k37 w < 2 ^ 63 := by decide
  exact this w hw
theorem ms_isWord {w : Nat} {K : Int32 → am_H → Prop} (hk : tp_ok T) (hM : MX h T N k F nm r a) (hw : w < 4) (hK : K (bi (decide (F = 0) && isW T k w)) h) : cl_I l g mX9_isWord d x [.ref 46, .int (nI w)] h K := by
  have hF := hM.2.2.1
  by_cases hF0 : F = 0
  · subst hF0
    obtain ⟨q0, hkN⟩ := hM.k0
    obtain ⟨-, ⟨-, ⟨f8, q48, g48⟩, -, ⟨f50, q50, g50⟩⟩, -, -, ⟨fw, q51, g51⟩, -, hN, -⟩ := id hM
    rw [decide_eq_true rfl, Bool.true_and] at hK
    have hle := t_k_le T (t_s T k)
    have e1 : nI (t_k T (t_s T k)) = 1 ↔ t_k T (t_s T k) = 1 := nI_eq (b := 1) (by omega) (by decide)
    unfold isW at hK
    refine eX9_isWord (gtI q0 rfl ⟨fun z => absurd rfl z, fun _ => gtR q0 rfl (gtI q0 rfl (alI q48 (by omega) (by omega) ?_))⟩)
    rw [g48 k (by omega)]
    refine ⟨fun z => ?_, fun z => gtR q0 rfl (gtI q0 rfl (alL q50 (by omega) (by omega) (gtR q0 rfl (alL q51 (by omega) (by omega) ?_))))⟩
    · rw [e1] at z; rw [decide_eq_false z] at hK; exact ⟨_, rfl, hK⟩
    · rw [e1] at z
      rw [decide_eq_true z, Bool.true_and] at hK
      have hb := (t_v_lt hk (t_k_in (T := T) (s := t_s T k) (by omega))).2
      rw [g50 k (by omega) (by omega) (by omega), g51 w hw]
      refine ⟨fun y => ?_, fun y => ?_⟩
      · rw [lg_eq, fb_lN_inj hb (t_k37_lt hw), ← t_kwd z hw] at y; rw [decide_eq_false y] at hK; exact ⟨_, rfl, hK⟩
      · rw [lg_eq, fb_lN_inj hb (t_k37_lt hw), ← t_kwd z hw] at y; rw [decide_eq_true y] at hK; exact ⟨_, rfl, hK⟩
  · obtain ⟨-, -, -, ⟨k', q0, -, -⟩, -⟩ := id hM
    rw [decide_eq_false hF0, Bool.false_and] at hK
    exact eX9_isWord (gtI q0 rfl ⟨fun _ => ⟨_, rfl, hK⟩, fun z => absurd ((nI_f0 hF).mp z) hF0⟩)
def nm_to (T : tp_T) (k : Nat) : Nat → Bool
  | 0 => true
  | n + 1 => nm_to T k n && !isW T k n
theorem ms_isName {K : Int32 → am_H → Prop} (hk : tp_ok T) (hM : MX h T N k F nm r a) (hK : K (bi (decide (F = 0) && isnm T k)) h) : cl_I l g mX9_isName d x [.ref 46] h K := by
  have hF := hM.2.2.1
  obtain ⟨-, -, -, ⟨k', q0', -, -⟩, -⟩ := id hM
  have low : (decide (F = 0) && isnm T k) = false → ∀ n c, c + n = 4 → am_J l g mX9_isName d (0, 0, x) 28 [(0, .ref 46), (1, .int 0), (2, .int (nI c))] [] h (fun r h' => ∃ v, r = some (.int v) ∧ K v h') := by
    intro e n
    rw [e] at hK
    induction n with
    | zero =>
      intro c hc
      have : c = 4 := by omega
      subst this
      exact rX9_isName_28 ⟨fun _ => ⟨Or.inl rfl, _, rfl, hK⟩, fun z => absurd (by decide) z⟩
    | succ n ih =>
      intro c hc
      refine rX9_isName_28 ⟨fun z => absurd ((nI_leI (a := 4) (by decide) (by omega)).mp z) (by omega), fun _ => ⟨fun _ => ?_, fun z => absurd rfl z⟩⟩
      unfold zX9_isName_60 zX9_isName_61
      rw [nI_1]
      exact ih (c + 1) (by omega)
  by_cases hF0 : F = 0
  · subst hF0
    obtain ⟨q0, hkN⟩ := hM.k0
    obtain ⟨-, ⟨-, ⟨f8, q48, g48⟩, -, ⟨f50, q50, g50⟩⟩, -, -, ⟨fw, q51, g51⟩, -, hN, -⟩ := id hM
    rw [decide_eq_true rfl, Bool.true_and] at hK low
    have hle := t_k_le T (t_s T k)
    have e1 : nI (t_k T (t_s T k)) = 1 ↔ t_k T (t_s T k) = 1 := nI_eq (b := 1) (by omega) (by decide)
    refine eX9_isName (gtI q0 rfl ⟨fun z => absurd rfl z, fun _ => gtR q0 rfl (gtI q0 rfl (alI q48 (by omega) (by omega) ?_))⟩)
    rw [g48 k (by omega)]
    refine ⟨fun z => ?_, fun z => ?_⟩
    · rw [e1] at z
      exact low (by unfold isnm; rw [decide_eq_false z]; rfl) 4 0 rfl
    · rw [e1] at z
      have hb := (t_v_lt hk (t_k_in (T := T) (s := t_s T k) (by omega))).2
      have enm : isnm T k = nm_to T k 4 := by
        unfold isnm
        rw [decide_eq_true z]
        rfl
      have hi : ∀ n c, c + n = 4 → nm_to T k c = true → am_J l g mX9_isName d (0, 0, x) 28 [(0, .ref 46), (1, .int 1), (2, .int (nI c))] [] h (fun r h' => ∃ v, r = some (.int v) ∧ K v h') := by
        intro n
        induction n with
        | zero =>
          intro c hc hn
          have : c = 4 := by omega
          subst this
          rw [enm, hn] at hK
          exact rX9_isName_28 ⟨fun _ => ⟨Or.inr rfl, _, rfl, hK⟩, fun z => absurd (by decide) z⟩
        | succ n ih =>
          intro c hc hn
          refine rX9_isName_28 ⟨fun z => absurd ((nI_leI (a := 4) (by decide) (by omega)).mp z) (by omega), fun _ => ⟨fun z => absurd z (by decide), fun _ => gtR q0 rfl (gtI q0 rfl (alL q50 (by omega) (by omega) (gtR q0 rfl (alL q51 (by omega) (by omega) ?_))))⟩⟩
          rw [g50 k (by omega) (by omega) (by omega), g51 c (by omega), lg_eq, fb_lN_inj hb (t_k37_lt (by omega)), ← t_kwd z (by omega)]
          refine ⟨fun y => ?_, fun y => ?_⟩
          · unfold zX9_isName_60 zX9_isName_61
            rw [nI_1]
            refine low ?_ n (c + 1) (by omega)
            rw [enm]
            have : isW T k c = true := by unfold isW; rw [decide_eq_true z, decide_eq_true y]; rfl
            have h1 : ∀ m, c < m → nm_to T k m = false := by
              intro m
              induction m with
              | zero => intro q; omega
              | succ m ihm =>
                intro q
                by_cases e : c = m
                · subst e; simp [nm_to, this]
                · simp [nm_to, ihm (by omega)]
            exact h1 4 (by omega)
          · unfold zX9_isName_61
            rw [nI_1]
            refine ih (c + 1) (by omega) ?_
            simp only [nm_to, hn, Bool.true_and]
            unfold isW
            rw [decide_eq_false y, Bool.and_false]; rfl
      exact hi 4 0 rfl rfl
  · refine eX9_isName (gtI q0' rfl ⟨fun _ => ?_, fun z => absurd ((nI_f0 hF).mp z) hF0⟩)
    exact low (by rw [decide_eq_false hF0]; rfl) 4 0 rfl
theorem ms_takeSign {K : am_H → Prop} (hk : tp_ok T) (hM : MX h T N k F nm r a) (hK : ∀ h', MX h' T N (k + 1) (fo F (p_sc T k)) nm r a → Fr 46 46 h h' → K h') : cl_N l g mX9_takeSign (d + 1) x [.ref 46, .int 59] h K := by
  refine eX9_takeSign ⟨hM.o, ms_isSign (c := 59) hk hM (by decide) ⟨fun z => ⟨hM.o, ?_⟩, fun z => ?_⟩⟩
  · have e := bi_0.mp z
    refine ms_wrong (w := 1) hk hM (by decide) fun h' a b => ⟨rfl, ?_⟩
    by_cases hF0 : F = 0
    · subst hF0
      rw [decide_eq_true rfl, Bool.true_and] at e
      have es : p_sc T k = p_ft T 1 k := by unfold p_sc; rw [e]; rfl
      rw [es] at hK
      rw [fo_z] at a hK
      exact hK h' (a.bad2 (p_ft_ne (by decide))) b
    · rw [fo_n hF0] at a hK
      exact hK h' (a.bad2 hF0) b
  · have e := bi_n0.mp z
    rw [Bool.and_eq_true] at e
    have hF0 : F = 0 := of_decide_eq_true e.1
    subst hF0
    obtain ⟨q0, hkN⟩ := hM.k0
    have hlt := hM.lt (by have := e.2; unfold isSg at this; rw [Bool.and_eq_true] at this; have := of_decide_eq_true this.1; omega)
    have es : p_sc T k = 0 := by unfold p_sc; rw [e.2]; rfl
    rw [es] at hK
    refine gtI q0 rfl (ptV q0 (Nat.le_of_ble_eq_true rfl) ⟨rfl, ?_⟩)
    rw [nI_1]
    exact hK _ (hM.put (by omega) (by decide)) (Fr.rf.st (by decide))
theorem ms_hasSign {c : Nat} {K : Int32 → am_H → Prop} (hk : tp_ok T) (hM : MX h T N k F nm r a) (hc : c < 1000) (hK : ∀ h', MX h' T N (if isSg T k c = true then k + 1 else k) F nm r a → Fr 46 46 h h' → K (bi (decide (F = 0) && isSg T k c)) h') : cl_I l g mX9_hasSign (d + 1) x [.ref 46, .int (nI c)] h K := by
  refine eX9_hasSign ⟨hM.o, ms_isSign hk hM hc ?_⟩
  by_cases hF0 : F = 0
  · subst hF0
    obtain ⟨q0, hkN⟩ := hM.k0
    refine gtI q0 rfl ⟨fun z => ptV q0 (Nat.le_of_ble_eq_true rfl) ⟨bi_01 _, _, rfl, ?_⟩, fun z => ptV q0 (Nat.le_of_ble_eq_true rfl) ⟨bi_01 _, _, rfl, ?_⟩⟩
    · have e := bi_0.mp z
      rw [decide_eq_true rfl, Bool.true_and] at e
      refine hK _ ?_ (Fr.rf.st (by decide))
      rw [if_neg (by rw [e]; decide), show nI k + 0 = nI k from nI_add k 0]
      exact hM.put hkN (by decide)
    · have e := bi_n0.mp z
      rw [decide_eq_true rfl, Bool.true_and] at e
      have hlt := hM.lt (by have := e; unfold isSg at this; rw [Bool.and_eq_true] at this; have := of_decide_eq_true this.1; omega)
      refine hK _ ?_ (Fr.rf.st (by decide))
      rw [if_pos e, nI_1]
      exact hM.put (by omega) (by decide)
  · obtain ⟨-, -, hFl, ⟨k', q0, hk', -⟩, -⟩ := id hM
    refine gtI q0 rfl ⟨fun z => ptV q0 (Nat.le_of_ble_eq_true rfl) ⟨bi_01 _, _, rfl, hK _ ?_ (Fr.rf.st (by decide))⟩, fun z => ?_⟩
    · rw [show nI k' + 0 = nI k' from nI_add k' 0]
      exact (hM.put hk' hFl).bad2 hF0
    · rw [decide_eq_false hF0] at z; exact absurd rfl z
/-- the model's draft: rings, names; in hand, laid -/
def WD (h : am_H) (Wh Wl W : wv_T) : Prop := ∃ fr fl f1 f2 f3 f4 f5 : Nat → Int32, WA h fr fl f1 f2 f3 f4 f5 ∧ fr 0 = nI Wh.1 ∧ fl 0 = nI Wh.2.1 ∧ fr 2 = nI Wl.1 ∧ fl 2 = nI Wl.2.1 ∧ ow f1 f2 f3 f4 f5 0 Wh ∧ ow f1 f2 f3 f4 f5 2 Wl ∧ fr 1 = nI W.1 ∧ fl 1 = nI W.2.1 ∧ ow f1 f2 f3 f4 f5 1 W
theorem WD.fr {h' : am_H} {Wh Wl W : wv_T} (hW : WD h Wh Wl W) (hf : ∀ i, 52 ≤ i → i ≤ 59 → i ≠ 53 → h'[i]? = h[i]?) : WD h' Wh Wl W := by
  obtain ⟨fr, fl, f1, f2, f3, f4, f5, ⟨h1, h2, h3, h4, h5, h6, h7⟩, h8⟩ := hW
  exact ⟨fr, fl, f1, f2, f3, f4, f5, ⟨(hf _ (by decide) (by decide) (by decide)).trans h1, (hf _ (by decide) (by decide) (by decide)).trans h2, (hf _ (by decide) (by decide) (by decide)).trans h3, (hf _ (by decide) (by decide) (by decide)).trans h4, (hf _ (by decide) (by decide) (by decide)).trans h5, (hf _ (by decide) (by decide) (by decide)).trans h6, (hf _ (by decide) (by decide) (by decide)).trans h7⟩, h8⟩
variable {Wh Wl W : wv_T}
theorem ms_findRing {K : Int32 → am_H → Prop} (hk : tp_ok T) (hM : MX h T N k 0 nm r a) (hn : isnm T k = true) (hD : WD h Wh Wl W) (hr : W.1 = r) (hr4 : r ≤ 4) (hK : K (fi (p_find T nm k r) r) h) : cl_I l g mX9_findRing d x [.ref 46, .long (lN (t_u T (t_s T k)))] h K := by
  have hkk := isnm_w hn
  obtain ⟨q0, hkN⟩ := hM.k0
  obtain ⟨-, -, -, -, -, ⟨fn, q53, g53⟩, -, dist⟩ := id hM
  obtain ⟨fr, fl, f1, f2, f3, f4, f5, ⟨q52, -⟩, -, -, -, -, -, -, e1, -⟩ := hD
  rw [hr] at e1
  have hb := (t_v_lt hk (t_k_in (T := T) (s := t_s T k) (by omega))).2
  refine eX9_findRing ?_
  have main : ∀ n c v, c + n = r → (v = fi (p_find T nm k r) r ∨ (v = -1 ∧ c ≤ p_find T nm k r)) → (p_find T nm k r < c → v = fi (p_find T nm k r) r) → am_J l g mX9_findRing d (0, 0, x) 5 [(0, .ref 46), (1, .long (lN (t_u T (t_s T k)))), (3, .int v), (4, .int (nI c))] [] h (fun r h' => ∃ v, r = some (.int v) ∧ K v h') := by
    intro n
    induction n with
    | zero =>
      intro c v hc hv hv2
      have hcr : c = r := by omega
      have hvv : v = fi (p_find T nm k r) r := by
        rcases hv with e | ⟨e, e2⟩
        · exact e
        · have := p_find_le T nm k r
          unfold fi
          rw [if_neg (by omega)]; exact e
      rw [hvv, hcr]
      refine rX9_findRing_5 (gtR q0 rfl (alI (i := 1) q52 (by decide) (by decide) ?_))
      rw [e1]
      exact ⟨fun _ => ⟨_, rfl, hK⟩, fun z => absurd (nI_le (Nat.le_refl _) (by omega)) z⟩
    | succ n ih =>
      intro c v hc hv hv2
      obtain ⟨b1, b2, b3⟩ := g53 c (by omega)
      refine rX9_findRing_5 (gtR q0 rfl (alI (i := 1) q52 (by decide) (by decide) ?_))
      rw [e1]
      refine ⟨fun z => absurd ((nI_leI (by omega) (by omega)).mp z) (by omega), fun _ => gtR q0 rfl ?_⟩
      rw [show (4 : Int32) + nI c = nI (4 + c) from nI_add 4 c]
      refine alL q53 (by omega) (by omega) ?_
      have hbc := (t_v_lt hk b3).2
      rw [b1, lg_eq, fb_lN_inj hbc hb, ← t_vu b2 hkk]
      have pno : ∀ i, i < p_find T nm k r → t_v T (nm i) ≠ t_v T (t_s T k) := fun i hi e => by
        have := fa_first_no (fun i => decide (t_v T (nm i) = t_v T (t_s T k))) r i hi
        simp [e] at this
      have pyes : p_find T nm k r < r → t_v T (nm (p_find T nm k r)) = t_v T (t_s T k) := fun hi => of_decide_eq_true (fa_first_yes (fun i => decide (t_v T (nm i) = t_v T (t_s T k))) r hi)
      have hple := p_find_le T nm k r
      refine ⟨fun y => ?_, fun y => ?_⟩
      · unfold zX9_findRing_36
        rw [nI_1]
        have hne : p_find T nm k r ≠ c := fun e => y (by rw [← e]; exact pyes (by omega))
        refine ih (c + 1) v (by omega) ?_ (fun q => hv2 (by omega))
        rcases hv with e | ⟨e, e2⟩
        · exact Or.inl e
        · exact Or.inr ⟨e, by omega⟩
      · unfold zX9_findRing_36
        rw [nI_1]
        have hpc : p_find T nm k r = c := by
          have h1 : ¬ c < p_find T nm k r := fun q => pno c q y
          have h2 := pyes (by omega)
          exact dist _ _ (by omega) (by omega) (h2.trans y.symm)
        have hvv : nI c = fi (p_find T nm k r) r := by unfold fi; rw [if_pos (by omega), hpc]
        exact ih (c + 1) (nI c) (by omega) (Or.inl hvv) (fun _ => hvv)
  exact main r 0 (-1) (by omega) (Or.inr ⟨rfl, Nat.zero_le _⟩) (fun q => by omega)
end MREAD
