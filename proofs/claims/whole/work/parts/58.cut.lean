/-! ===== the model cuts the tape ===== -/
section CUT
variable {l : Launch} {g : am_G} {d : Nat} {x : Bool} {h : am_H} {T : tp_T}
theorem ms_isLetter {c : Nat} {K : Int32 → am_H → Prop} (hc : c < 1000) (hK : K (bi (isL c)) h) : cl_I l g mX9_isLetter d x [.int (nI c)] h K := by
  have h1 : nI c < 97 ↔ c < 97 := nI_ltI (b := 97) (by omega) (by decide)
  have h2 : (122 : Int32) < nI c ↔ 122 < c := nI_ltI (a := 122) (by decide) (by omega)
  unfold isL at hK
  refine eX9_isLetter ⟨fun z => ?_, fun z => ⟨fun y => ?_, fun y => ?_⟩⟩
  · rw [h1] at z; rw [show decide (97 ≤ c) = false by simp; omega] at hK; exact ⟨_, rfl, hK⟩
  · rw [h2] at y; rw [show decide (c ≤ 122) = false by simp; omega, Bool.and_false] at hK; exact ⟨_, rfl, hK⟩
  · rw [h1] at z; rw [h2] at y; rw [show decide (97 ≤ c) = true by simp; omega, show decide (c ≤ 122) = true by simp; omega] at hK; exact ⟨_, rfl, hK⟩
theorem ms_isDigit {c : Nat} {K : Int32 → am_H → Prop} (hc : c < 1000) (hK : K (bi (isD c)) h) : cl_I l g mX9_isDigit d x [.int (nI c)] h K := by
  have h1 : nI c < 48 ↔ c < 48 := nI_ltI (b := 48) (by omega) (by decide)
  have h2 : (57 : Int32) < nI c ↔ 57 < c := nI_ltI (a := 57) (by decide) (by omega)
  unfold isD at hK
  refine eX9_isDigit ⟨fun z => ?_, fun z => ⟨fun y => ?_, fun y => ?_⟩⟩
  · rw [h1] at z; rw [show decide (48 ≤ c) = false by simp; omega] at hK; exact ⟨_, rfl, hK⟩
  · rw [h2] at y; rw [show decide (c ≤ 57) = false by simp; omega, Bool.and_false] at hK; exact ⟨_, rfl, hK⟩
  · rw [h1] at z; rw [h2] at y; rw [show decide (48 ≤ c) = true by simp; omega, show decide (c ≤ 57) = true by simp; omega] at hK; exact ⟨_, rfl, hK⟩
theorem ms_isSignOf {c : Nat} {K : Int32 → am_H → Prop} (hc : c < 1000) (hK : K (bi (t_isS c)) h) : cl_I l g mX9_isSignOf d x [.int (nI c)] h K := by
  have e43 : nI c = 43 ↔ c = 43 := nI_eq (b := 43) (by omega) (by decide)
  have e45 : nI c = 45 ↔ c = 45 := nI_eq (b := 45) (by omega) (by decide)
  have e59 : nI c = 59 ↔ c = 59 := nI_eq (b := 59) (by omega) (by decide)
  unfold t_isS at hK
  refine eX9_isSignOf ⟨fun z => ?_, fun z => ⟨fun y => ?_, fun y => ⟨fun w => ?_, fun w => ?_⟩⟩⟩
  · rw [e59] at z; rw [show (decide (c = 43) || decide (c = 45) || decide (c = 59)) = true by simp [z]] at hK; exact ⟨_, rfl, hK⟩
  · rw [e43] at y; rw [show (decide (c = 43) || decide (c = 45) || decide (c = 59)) = true by simp [y]] at hK; exact ⟨_, rfl, hK⟩
  · rw [e59] at z; rw [e43] at y; rw [e45] at w; rw [show (decide (c = 43) || decide (c = 45) || decide (c = 59)) = false by simp [z, y, w]] at hK; exact ⟨_, rfl, hK⟩
  · rw [e45] at w; rw [show (decide (c = 43) || decide (c = 45) || decide (c = 59)) = true by simp [w]] at hK; exact ⟨_, rfl, hK⟩
theorem ms_rank {c : Nat} {K : Int32 → am_H → Prop} (hc : c < 127) (hl : isL c = true) (hK : K (nI (c - 96)) h) : cl_I l g mX9_rank (d + 1) x [.int (nI c)] h K := by
  refine eX9_rank (ms_isLetter (by omega) ⟨fun z => ?_, fun z => ⟨_, rfl, ?_⟩⟩)
  · rw [hl] at z; exact absurd z (by decide)
  · have : 96 ≤ c := by simp only [isL, Bool.and_eq_true, decide_eq_true_eq] at hl; omega
    rw [show (96 : Int32) = nI 96 from rfl, pk_sub this]; exact hK
abbrev c_m9 (a1 a2 a3 a4 a5 a6 a7 a8 a9 a10 a11 a12 : Int32) : am_C := c_mo a1 a2 a3 a4 a5 a6 a7 a8 a9 a10 a11 a12
/-- tokens cut, the first n -/
def CI (h : am_H) (T : tp_T) (n : Nat) : Prop := (∃ f, h[47]? = some (am_I 0 1000 f) ∧ ∀ i, i < T.1 → f i = T.2 i) ∧ (∃ f, h[48]? = some (am_I 0 1002 f) ∧ ∀ k, k < n → f k = nI (t_k T (t_s T k))) ∧ (∃ f, h[49]? = some (am_I 0 1002 f) ∧ ∀ k, k < n → f k = nI (t_s T k)) ∧ (∃ f, h[50]? = some (am_L 1002 f) ∧ ∀ k, k < n → t_k T (t_s T k) ≠ 4 → t_k T (t_s T k) ≠ 0 → f k = lN (t_u T (t_s T k)))
theorem RE_one {P : Nat → Bool} {p r r' : Nat} (h : RE P p r) (h' : RE P p r') : r = r' := by
  rcases Nat.lt_trichotomy r r' with q | q | q
  · have := h'.2.1 r h.1 q; rw [h.2.2] at this; cases this
  · exact q
  · have := h.2.1 r' h'.1 q; rw [h'.2.2] at this; cases this
theorem t_sk_blank {p : Nat} (h : t_P T isB p = true) : t_sk T p = t_sk T (p + 1) := by
  refine RE_one (t_r_ok T isB p) ?_
  obtain ⟨a, b, c⟩ := t_r_ok T isB (p + 1)
  refine ⟨by show p ≤ t_r T isB (p + 1); omega, fun i h1 h2 => ?_, c⟩
  by_cases e : i = p
  · rw [e]; exact h
  · exact b i (by omega) h2
theorem t_sk_here {p : Nat} (h : t_P T isB p = false) : t_sk T p = p := RE_one (t_r_ok T isB p) ⟨Nat.le_refl _, fun i a b => by omega, h⟩
variable {a1 a2 a3 a4 a5 a6 a7 a8 a9 a10 a11 a12 : Int32}
/-- tokens: N of them, then the end -/
def NT (T : tp_T) (N : Nat) : Prop := t_k T (t_s T N) = 0 ∧ ∀ k, k < N → t_k T (t_s T k) ≠ 0
theorem lm_cut {Q : Option Value → am_H → Prop} (hk : tp_ok T) (hK : ∀ h' N, N ≤ 1000 → NT T N → CI h' T (N + 1) → h'[46]? = some (c_m9 a1 a2 (nI T.1) 0 0 a6 a7 a8 a9 a10 a11 a12) → (∀ i, ¬ (i = 46 ∨ (48 ≤ i ∧ i ≤ 50)) → h'[i]? = h[i]?) → Q none h') :
    ∀ m p n h1, T.1 - p ≤ m → p ≤ T.1 → n ≤ p → t_sk T p = t_s T n → (∀ k, k < n → t_k T (t_s T k) ≠ 0) → CI h1 T n → h1[46]? = some (c_m9 a1 a2 (nI T.1) a4 a5 a6 a7 a8 a9 a10 a11 a12) → (∀ i, ¬ (i = 46 ∨ (48 ≤ i ∧ i ≤ 50)) → h1[i]? = h[i]?) →
    am_J l g mX9_cutAll (d + 2) (0, 0, x) 17 [(0, .ref 46), (1, .int (nI n)), (2, .int (nI p))] [] h1 Q := by
  have hn := hk.1
  intro m
  induction m with
  | zero =>
    intro p n h1 hm hp hnp hs hno hC q0 hf
    have hpT : p = T.1 := by omega
    subst hpT
    have hs0 : t_sk T T.1 = T.1 := t_sk_here (t_P_out (Nat.le_refl _))
    have hsn : t_s T n = T.1 := hs.symm.trans hs0
    have hk0 : t_k T (t_s T n) = 0 := t_k_0.mpr (by omega)
    obtain ⟨⟨ft, q47, g47⟩, ⟨f8, q48, g48⟩, ⟨f9, q49, g49⟩, ⟨f0, q50, g50⟩⟩ := hC
    refine rX9_cutAll_17 (gtI q0 rfl ⟨fun _ => gtR q0 rfl (asI q48 (by omega) (by omega) ?_), fun z => absurd (nI_le (Nat.le_refl _) (by omega)) z⟩)
    have p0 : (h1.set 48 (am_I 0 1002 (upd f8 n 0)))[46]? = some (c_m9 a1 a2 (nI T.1) a4 a5 a6 a7 a8 a9 a10 a11 a12) := (st_ne (by decide)).trans q0
    have p9 : (h1.set 48 (am_I 0 1002 (upd f8 n 0)))[49]? = some (am_I 0 1002 f9) := (st_ne (by decide)).trans q49
    refine gtR p0 rfl (gtI p0 rfl (asI p9 (by omega) (by omega) ?_))
    have r0 := (st_ne (h := h1.set 48 (am_I 0 1002 (upd f8 n 0))) (c := am_I 0 1002 (upd f9 n (nI T.1))) (show 49 ≠ 46 by decide)).trans p0
    refine ptV r0 (Nat.le_of_ble_eq_true rfl) ?_
    have r1 := st_eq (c := am_O 9 (([.int a1, .ref 47, .int a2, .int (nI T.1), .ref 48, .ref 49, .ref 50, .int a4, .int a5, .ref 51, .ref 52, .ref 53, .ref 54, .ref 55, .ref 56, .ref 57, .ref 58, .ref 59, .int a6, .int a7, .int a8, .int a9, .ref 60, .ref 61, .ref 62, .ref 63, .ref 64, .ref 65, .ref 66, .ref 67, .ref 68, .ref 69, .ref 70, .ref 71, .ref 72, .int a10, .int a11, .int a12] : List Value).set 7 (.int 0))) r0
    refine ptV r1 (Nat.le_of_ble_eq_true rfl) ?_
    refine hK _ n (by omega) ⟨hk0, hno⟩ ⟨⟨ft, ?_, g47⟩, ⟨upd f8 n 0, ?_, fun k hk' => ?_⟩, ⟨upd f9 n (nI T.1), ?_, fun k hk' => ?_⟩, ⟨f0, ?_, fun k hk' => ?_⟩⟩ (st_eq r1) (fun i hi => ?_)
    · rw [st_ne (by decide), st_ne (by decide), st_ne (by decide), st_ne (by decide)]; exact q47
    · rw [st_ne (by decide), st_ne (by decide), st_ne (by decide)]; exact st_eq q48
    · by_cases e : k = n
      · rw [e, pk_us, hk0]; rfl
      · rw [pk_un e]; exact g48 k (by omega)
    · rw [st_ne (by decide), st_ne (by decide)]; exact st_eq p9
    · by_cases e : k = n
      · rw [e, pk_us, hsn]
      · rw [pk_un e]; exact g49 k (by omega)
    · rw [st_ne (by decide), st_ne (by decide), st_ne (by decide), st_ne (by decide)]; exact q50
    · by_cases e : k = n
      · intro _ z; rw [e] at z; exact absurd hk0 z
      · exact g50 k (by omega)
    · rw [st_ne (by omega), st_ne (by omega), st_ne (by omega), st_ne (by omega)]; exact hf i hi
  | succ m ih =>
    intro p n h1 hm hp hnp hs hno hC q0 hf
    by_cases hpT : p = T.1
    · exact ih p n h1 (by omega) hp hnp hs hno hC q0 hf
    have hlt : p < T.1 := by omega
    obtain ⟨⟨ft, q47, g47⟩, ⟨f8, q48, g48⟩, ⟨f9, q49, g49⟩, ⟨f0, q50, g50⟩⟩ := id hC
    obtain ⟨hc, hc2⟩ := hk.2 p hlt
    have e10 : nI (t_c T p) = 10 ↔ t_c T p = 10 := nI_eq (b := 10) (by omega) (by decide)
    have e32 : nI (t_c T p) = 32 ↔ t_c T p = 32 := nI_eq (b := 32) (by omega) (by decide)
    have blank : isB (t_c T p) = true → zX9_cutAll_44 l g (d + 1) x 46 (nI n) (nI p) h1 Q := fun hb => by
      unfold zX9_cutAll_44
      rw [nI_1]
      refine ih (p + 1) n h1 (by omega) (by omega) (by omega) ?_ hno hC q0 hf
      rw [← t_sk_blank (by unfold t_P; rw [decide_eq_true hlt, hb]; rfl)]; exact hs
    refine rX9_cutAll_17 (gtI q0 rfl ⟨fun z => absurd ((nI_leI (by omega) (by omega)).mp z) (by omega), fun _ => gtR q0 rfl (alI q47 (by omega) (by omega) ?_)⟩)
    rw [g47 p hlt, hc2]
    refine ⟨fun z => blank (by rw [e10] at z; simp [isB, z]), fun z => ⟨fun y => ?_, fun y => blank (by rw [e32] at y; simp [isB, y])⟩⟩
    have hnb : isB (t_c T p) = false := by rw [e10] at z; rw [e32] at y; simp [isB, z, y]
    have hsp : t_s T n = p := by rw [← hs]; exact t_sk_here (by unfold t_P; rw [hnb, Bool.and_false])
    have hkn : t_k T p ≠ 0 := fun e => (t_k_0.mp e) hlt
    have hel := t_e_le hp
    have het := t_e_lt hlt
    refine gtR q0 rfl (asI q49 (by omega) (by omega) ?_)
    generalize hH : h1.set 49 (am_I 0 1002 (upd f9 n (nI p))) = H
    have r0 : H[46]? = some (c_m9 a1 a2 (nI T.1) a4 a5 a6 a7 a8 a9 a10 a11 a12) := by rw [← hH]; exact (st_ne (by decide)).trans q0
    have r47 : H[47]? = some (am_I 0 1000 ft) := by rw [← hH]; exact (st_ne (by decide)).trans q47
    have r48 : H[48]? = some (am_I 0 1002 f8) := by rw [← hH]; exact (st_ne (by decide)).trans q48
    have r49 : H[49]? = some (am_I 0 1002 (upd f9 n (nI p))) := by rw [← hH]; exact st_eq q49
    have r50 : H[50]? = some (am_L 1002 f0) := by rw [← hH]; exact (st_ne (by decide)).trans q50
    have rf : ∀ i, ¬ (i = 46 ∨ (48 ≤ i ∧ i ≤ 50)) → H[i]? = h[i]? := fun i hi => by rw [← hH, st_ne (by omega)]; exact hf i hi
    have fin : ∀ v : Int64, (t_k T p ≠ 4 → v = lN (t_u T p)) → zX9_cutAll_265 l g (d + 1) x 46 (nI n) (nI (t_e T p)) v (H.set 48 (am_I 0 1002 (upd f8 n (nI (t_k T p))))) Q := fun v hv => by
      have s0 : (H.set 48 (am_I 0 1002 (upd f8 n (nI (t_k T p)))))[46]? = some (c_m9 a1 a2 (nI T.1) a4 a5 a6 a7 a8 a9 a10 a11 a12) := (st_ne (by decide)).trans r0
      have s50 : (H.set 48 (am_I 0 1002 (upd f8 n (nI (t_k T p)))))[50]? = some (am_L 1002 f0) := (st_ne (by decide)).trans r50
      refine gtR s0 rfl (asL s50 (by omega) (by omega) ?_)
      rw [nI_1]
      refine ih (t_e T p) (n + 1) _ (by omega) hel.2 (by omega) (by show t_sk T (t_e T p) = t_sk T (t_e T (t_s T n)); rw [hsp]) (fun k hk' => ?_) ⟨⟨ft, ?_, g47⟩, ⟨upd f8 n (nI (t_k T p)), ?_, fun k hk' => ?_⟩, ⟨upd f9 n (nI p), ?_, fun k hk' => ?_⟩, ⟨vp_updL f0 n v, ?_, fun k hk' hk4 hk0 => ?_⟩⟩ ?_ (fun i hi => ?_)
      · by_cases e : k = n
        · rw [e, hsp]; exact hkn
        · exact hno k (by omega)
      · rw [st_ne (by decide), st_ne (by decide)]; exact r47
      · rw [st_ne (by decide)]; exact st_eq r48
      · by_cases e : k = n
        · rw [e, pk_us, hsp]
        · rw [pk_un e]; exact g48 k (by omega)
      · rw [st_ne (by decide), st_ne (by decide)]; exact r49
      · by_cases e : k = n
        · rw [e, pk_us, hsp]
        · rw [pk_un e]; exact g49 k (by omega)
      · exact st_eq s50
      · by_cases e : k = n
        · rw [e, hsp] at hk4
          rw [e, hsp, ← hv hk4]
          simp [vp_updL]
        · rw [← g50 k (by omega) hk4 hk0]
          simp [vp_updL, e]
      · rw [st_ne (by decide)]; exact s0
      · rw [st_ne (by omega), st_ne (by omega)]; exact rf i hi
    refine ms_isLetter (by omega) ⟨fun hL => ms_isDigit (by omega) ⟨fun hD => gtR r0 rfl (ms_isSignOf (by omega) ⟨fun hS => ?_, fun hS => ?_⟩), fun hD => ?_⟩, fun hL => ?_⟩
    · have hL' := bi_0.mp hL
      have hD' := bi_0.mp hD
      have hS' := bi_0.mp hS
      have ek : t_k T p = 4 := by unfold t_k; rw [if_pos hlt, hL', hD', hS']; rfl
      have ee : t_e T p = p + 1 := by unfold t_e; rw [if_pos hlt, hL', hD']; rfl
      refine asI r48 (by omega) (by omega) ?_
      have := fin (Int32.toInt64 (nI (t_c T p))) (fun z => absurd ek z)
      rw [ek, ee, ← nI_1] at this
      exact this
    · have hL' := bi_0.mp hL
      have hD' := bi_0.mp hD
      have hS' := bi_n0.mp hS
      have ek : t_k T p = 3 := by unfold t_k; rw [if_pos hlt, hL', hD', hS']; rfl
      have ee : t_e T p = p + 1 := by unfold t_e; rw [if_pos hlt, hL', hD']; rfl
      refine asI r48 (by omega) (by omega) ?_
      have := fin (Int32.toInt64 (nI (t_c T p))) (fun z => by unfold t_u; rw [ek, if_neg (by decide), if_neg (by decide)]; exact nI_l (by omega))
      rw [ek, ee, ← nI_1] at this
      exact this
    · have hL' := bi_0.mp hL
      have hD' := bi_n0.mp hD
      have ee : t_e T p = t_r T isD p := by unfold t_e; rw [if_pos hlt, hL', hD']; rfl
      have ek : t_k T p = if t_r T isD p - p ≤ 4 then 2 else 4 := by unfold t_k; rw [if_pos hlt, hL', hD']; rfl
      have hr := t_r_ok T isD p
      rw [ee] at hel het
      have fin2 : ∀ v : Int64, (t_r T isD p - p ≤ 4 → v = lN (t_en 10 48 T p (t_r T isD p - p))) → zX9_cutAll_218 l g (d + 1) x 46 (nI n) (nI (t_r T isD p)) (nI p) v H Q := fun v hv => by
        refine gtR r0 rfl ?_
        rw [pk_sub (by omega)]
        have h8 : nI (t_r T isD p - p) ≤ (4 : Int32) ↔ t_r T isD p - p ≤ 4 := nI_leI (b := 4) (by omega) (by decide)
        refine ⟨fun w => asI r48 (by omega) (by omega) ?_, fun w => asI r48 (by omega) (by omega) ?_⟩
        · rw [h8] at w
          have ek1 : t_k T p = 2 := by rw [ek, if_pos w]
          have := fin v (fun _ => by rw [hv w]; unfold t_u; rw [if_neg (by omega), if_pos ek1, ee])
          rw [ek1, ee] at this
          exact this
        · rw [h8] at w
          have ek1 : t_k T p = 4 := by rw [ek, if_neg w]
          have := fin v (fun z => absurd ek1 z)
          rw [ek1, ee] at this
          exact this
      have main : ∀ j i v, i + j = t_r T isD p → p ≤ i → (i - p ≤ 4 → v = lN (t_en 10 48 T p (i - p))) → am_J l g mX9_cutAll (d + 2) (0, 0, x) 159 [(0, .ref 46), (1, .int (nI n)), (2, .int (nI i)), (4, .int (nI p)), (5, .long v)] [] H Q := by
        intro j
        induction j with
        | zero =>
          intro i v hi hpi hv
          have : i = t_r T isD p := by omega
          subst this
          refine rX9_cutAll_159 (gtI r0 rfl ⟨fun _ => fin2 v hv, fun w => ?_⟩)
          have hlt2 : t_r T isD p < T.1 := by
            rcases Nat.lt_or_ge (t_r T isD p) T.1 with c | c
            · exact c
            · exact absurd (nI_le c (by omega)) w
          obtain ⟨hc', hc2'⟩ := hk.2 _ hlt2
          refine gtR r0 rfl (alI r47 (by omega) (by omega) ?_)
          rw [g47 _ hlt2, hc2']
          refine ms_isDigit (by omega) ⟨fun _ => fin2 v hv, fun w => ?_⟩
          have hb := hr.2.2
          simp only [t_P, hlt2, decide_true, Bool.true_and] at hb
          rw [hb] at w
          exact absurd rfl w
        | succ j ihj =>
          intro i v hi hpi hv
          have hlt2 : i < T.1 := by omega
          have hb := hr.2.1 i hpi (by omega)
          simp only [t_P, hlt2, decide_true, Bool.true_and] at hb
          obtain ⟨hc', hc2'⟩ := hk.2 i hlt2
          have h48 : 48 ≤ t_c T i := by
            simp only [isD, Bool.and_eq_true, decide_eq_true_eq] at hb
            exact hb.1
          refine rX9_cutAll_159 (gtI r0 rfl ⟨fun w => absurd ((nI_leI (by omega) (by omega)).mp w) (by omega), fun _ => gtR r0 rfl (alI r47 (by omega) (by omega) ?_)⟩)
          rw [g47 i hlt2, hc2']
          refine ms_isDigit (by omega) ⟨fun w => by rw [hb] at w; exact absurd w (by decide), fun _ => ?_⟩
          rw [pk_sub (by omega)]
          have h8 : (4 : Int32) ≤ nI (i - p) ↔ 4 ≤ i - p := nI_leI (a := 4) (by decide) (by omega)
          refine ⟨fun w => ?_, fun w => gtR r0 rfl (alI r47 (by omega) (by omega) ?_)⟩
          · rw [h8] at w
            unfold zX9_cutAll_210
            rw [nI_1]
            exact ihj (i + 1) v (by omega) (by omega) (fun c => by omega)
          · rw [h8] at w
            rw [g47 i hlt2, hc2', hv (by omega)]
            unfold zX9_cutAll_210
            rw [nI_1]
            refine ihj (i + 1) _ (by omega) (by omega) (fun c => ?_)
            rw [show (10 : Int64) = lN 10 from rfl, nI_l (by omega), lN_mul, lN_add, show (48 : Int64) = lN 48 from rfl, lN_sub (by omega), show i + 1 - p = (i - p) + 1 by omega]
            show _ = lN (t_en 10 48 T p (i - p) * 10 + (t_c T (p + (i - p)) - 48))
            rw [show p + (i - p) = i by omega]
            congr 1
            omega
      exact main (t_r T isD p - p) p 0 (by omega) (Nat.le_refl _) (fun _ => by rw [Nat.sub_self]; rfl)
    · have hL' := bi_n0.mp hL
      have ee : t_e T p = t_r T isL p := by unfold t_e; rw [if_pos hlt, hL']; rfl
      have ek : t_k T p = if t_r T isL p - p ≤ 8 then 1 else 4 := by unfold t_k; rw [if_pos hlt, hL']; rfl
      have hr := t_r_ok T isL p
      rw [ee] at hel het
      have fin2 : ∀ v : Int64, (t_r T isL p - p ≤ 8 → v = lN (t_en 37 96 T p (t_r T isL p - p))) → zX9_cutAll_129 l g (d + 1) x 46 (nI n) (nI (t_r T isL p)) (nI p) v H Q := fun v hv => by
        refine gtR r0 rfl ?_
        rw [pk_sub (by omega)]
        have h8 : nI (t_r T isL p - p) ≤ (8 : Int32) ↔ t_r T isL p - p ≤ 8 := nI_leI (b := 8) (by omega) (by decide)
        refine ⟨fun w => asI r48 (by omega) (by omega) ?_, fun w => asI r48 (by omega) (by omega) ?_⟩
        · rw [h8] at w
          have ek1 : t_k T p = 1 := by rw [ek, if_pos w]
          have := fin v (fun _ => by rw [hv w]; unfold t_u; rw [if_pos ek1, ee])
          rw [ek1, ee] at this
          exact this
        · rw [h8] at w
          have ek1 : t_k T p = 4 := by rw [ek, if_neg w]
          have := fin v (fun z => absurd ek1 z)
          rw [ek1, ee] at this
          exact this
      have main : ∀ j i v, i + j = t_r T isL p → p ≤ i → (i - p ≤ 8 → v = lN (t_en 37 96 T p (i - p))) → am_J l g mX9_cutAll (d + 2) (0, 0, x) 70 [(0, .ref 46), (1, .int (nI n)), (2, .int (nI i)), (4, .int (nI p)), (5, .long v)] [] H Q := by
        intro j
        induction j with
        | zero =>
          intro i v hi hpi hv
          have : i = t_r T isL p := by omega
          subst this
          refine rX9_cutAll_70 (gtI r0 rfl ⟨fun _ => fin2 v hv, fun w => ?_⟩)
          have hlt2 : t_r T isL p < T.1 := by
            rcases Nat.lt_or_ge (t_r T isL p) T.1 with c | c
            · exact c
            · exact absurd (nI_le c (by omega)) w
          obtain ⟨hc', hc2'⟩ := hk.2 _ hlt2
          refine gtR r0 rfl (alI r47 (by omega) (by omega) ?_)
          rw [g47 _ hlt2, hc2']
          refine ms_isLetter (by omega) ⟨fun _ => fin2 v hv, fun w => ?_⟩
          have hb := hr.2.2
          simp only [t_P, hlt2, decide_true, Bool.true_and] at hb
          rw [hb] at w
          exact absurd rfl w
        | succ j ihj =>
          intro i v hi hpi hv
          have hlt2 : i < T.1 := by omega
          have hb := hr.2.1 i hpi (by omega)
          simp only [t_P, hlt2, decide_true, Bool.true_and] at hb
          obtain ⟨hc', hc2'⟩ := hk.2 i hlt2
          refine rX9_cutAll_70 (gtI r0 rfl ⟨fun w => absurd ((nI_leI (by omega) (by omega)).mp w) (by omega), fun _ => gtR r0 rfl (alI r47 (by omega) (by omega) ?_)⟩)
          rw [g47 i hlt2, hc2']
          refine ms_isLetter (by omega) ⟨fun w => by rw [hb] at w; exact absurd w (by decide), fun _ => ?_⟩
          rw [pk_sub (by omega)]
          have h8 : (8 : Int32) ≤ nI (i - p) ↔ 8 ≤ i - p := nI_leI (a := 8) (by decide) (by omega)
          refine ⟨fun w => ?_, fun w => gtR r0 rfl (alI r47 (by omega) (by omega) ?_)⟩
          · rw [h8] at w
            unfold zX9_cutAll_121
            rw [nI_1]
            exact ihj (i + 1) v (by omega) (by omega) (fun c => by omega)
          · rw [h8] at w
            rw [g47 i hlt2, hc2', hv (by omega)]
            refine ms_rank hc' hb ?_
            unfold zX9_cutAll_121
            rw [nI_1]
            refine ihj (i + 1) _ (by omega) (by omega) (fun c => ?_)
            rw [show (37 : Int64) = lN 37 from rfl, nI_l (by omega), lN_mul, lN_add, show i + 1 - p = (i - p) + 1 by omega]
            show _ = lN (t_en 37 96 T p (i - p) * 37 + (t_c T (p + (i - p)) - 96))
            rw [show p + (i - p) = i by omega, Nat.mul_comm]
      exact main (t_r T isL p - p) p 0 (by omega) (Nat.le_refl _) (fun _ => by rw [Nat.sub_self]; rfl)
end CUT
