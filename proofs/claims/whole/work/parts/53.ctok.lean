/-! ===== the class's tokens ===== -/
theorem lg_eq {a b : Int64} : lg_cmp a b = 0 ↔ a = b := by
  unfold lg_cmp
  split
  · rename_i h
    refine ⟨fun z => absurd z (by decide), fun z => ?_⟩
    subst z
    exact absurd h (Int64.lt_irrefl)
  · split
    · rename_i h
      exact ⟨fun _ => h, fun _ => rfl⟩
    · rename_i h
      exact ⟨fun z => absurd z (by decide), fun z => absurd z h⟩
theorem lg_leN {a b : Nat} (ha : a < 2 ^ 63) (hb : b < 2 ^ 63) : lg_cmp (lN a) (lN b) ≤ 0 ↔ a ≤ b := by
  have e1 : (lN a).toInt = a := by exact Int64.toInt_ofNat_of_lt ha
  have e2 : (lN b).toInt = b := by exact Int64.toInt_ofNat_of_lt hb
  unfold lg_cmp
  split
  · rename_i h
    have h' : lN b < lN a := h
    rw [Int64.lt_iff_toInt_lt, e1, e2] at h'
    exact ⟨fun z => absurd z (by decide), fun _ => by omega⟩
  · rename_i h
    have h' : ¬ lN b < lN a := h
    rw [Int64.lt_iff_toInt_lt, e1, e2] at h'
    split
    · exact ⟨fun _ => by omega, fun _ => by decide⟩
    · exact ⟨fun _ => by omega, fun _ => by decide⟩
section TOKENS
variable {l : Launch} {g : am_G} {d : Nat} {x : Bool} {h : am_H} {T : tp_T}
theorem sp_isLetter {c : Nat} {K : Int32 → am_H → Prop} (hc : c < 1000) (hK : K (bi (isL c)) h) : cl_I l g mX6_isLetter d x [.int (nI c)] h K := by
  have h1 : nI c < 97 ↔ c < 97 := nI_ltI (b := 97) (by omega) (by decide)
  have h2 : (122 : Int32) < nI c ↔ 122 < c := nI_ltI (a := 122) (by decide) (by omega)
  unfold isL at hK
  refine eX6_isLetter ⟨fun z => ?_, fun z => ⟨fun y => ?_, fun y => ?_⟩⟩
  · rw [h1] at z; rw [show decide (97 ≤ c) = false by simp; omega] at hK; exact ⟨_, rfl, hK⟩
  · rw [h2] at y; rw [show decide (c ≤ 122) = false by simp; omega, Bool.and_false] at hK; exact ⟨_, rfl, hK⟩
  · rw [h1] at z; rw [h2] at y; rw [show decide (97 ≤ c) = true by simp; omega, show decide (c ≤ 122) = true by simp; omega] at hK; exact ⟨_, rfl, hK⟩
theorem sp_isDigit {c : Nat} {K : Int32 → am_H → Prop} (hc : c < 1000) (hK : K (bi (isD c)) h) : cl_I l g mX6_isDigit d x [.int (nI c)] h K := by
  have h1 : nI c < 48 ↔ c < 48 := nI_ltI (b := 48) (by omega) (by decide)
  have h2 : (57 : Int32) < nI c ↔ 57 < c := nI_ltI (a := 57) (by decide) (by omega)
  unfold isD at hK
  refine eX6_isDigit ⟨fun z => ?_, fun z => ⟨fun y => ?_, fun y => ?_⟩⟩
  · rw [h1] at z; rw [show decide (48 ≤ c) = false by simp; omega] at hK; exact ⟨_, rfl, hK⟩
  · rw [h2] at y; rw [show decide (c ≤ 57) = false by simp; omega, Bool.and_false] at hK; exact ⟨_, rfl, hK⟩
  · rw [h1] at z; rw [h2] at y; rw [show decide (48 ≤ c) = true by simp; omega, show decide (c ≤ 57) = true by simp; omega] at hK; exact ⟨_, rfl, hK⟩
abbrev c_tk (b k s : Int32) (v : Int64) : am_C := am_O 6 [.ref 1, .int b, .int k, .int s, .long v]
theorem sp_behindBlanks {a r : Nat} {b k s : Int32} {v : Int64} {K : Int32 → am_H → Prop} (hT : TC h T) (hk : tp_ok T) (q4 : h[4]? = some (c_tk b k s v)) (hr : RE (t_P T isB) a r) (ha : a ≤ T.1) (hK : K (nI r) h) : cl_I l g mX6_behindBlanks d x [.ref 4, .int (nI a)] h K := by
  have hrl := RE_le hr ha
  have hn := hk.1
  obtain ⟨q1, -, f, q2, hf⟩ := id hT
  refine eX6_behindBlanks ?_
  have main : ∀ n i, i + n = r → a ≤ i → am_J l g mX6_behindBlanks d (0, 0, x) 2 [(0, .ref 4), (2, .int (nI i))] [] h (fun r h' => ∃ v, r = some (.int v) ∧ K v h') := by
    intro n
    induction n with
    | zero =>
      intro i hi hai
      have : i = r := by omega
      subst this
      refine rX6_behindBlanks_2 (gtR q4 rfl (gtI q1 rfl ⟨fun _ => ⟨_, rfl, hK⟩, fun hz => ?_⟩))
      have hlt : i < T.1 := by
        rcases Nat.lt_or_ge i T.1 with z | z
        · exact z
        · exact absurd (nI_le z (by omega)) hz
      have hb := hr.2.2
      simp only [t_P, hlt, decide_true, Bool.true_and, isB, Bool.or_eq_false_iff, decide_eq_false_iff_not] at hb
      obtain ⟨hc, hc2⟩ := hk.2 i hlt
      refine gtR q4 rfl (gtR q1 rfl (alI q2 (by omega) (by omega) ?_))
      rw [hf i hlt, hc2]
      refine ⟨fun z => absurd ((nI_eq (b := 10) (by omega) (by decide)).mp z) hb.1, fun _ => gtR q4 rfl (gtR q1 rfl (alI q2 (by omega) (by omega) ?_))⟩
      rw [hf i hlt, hc2]
      exact ⟨fun _ => ⟨_, rfl, hK⟩, fun z => absurd ((nI_eq (b := 32) (by omega) (by decide)).mp z) hb.2⟩
    | succ n ih =>
      intro i hi hai
      have hb := hr.2.1 i hai (by omega)
      have hlt : i < T.1 := by omega
      simp only [t_P, hlt, decide_true, Bool.true_and, isB, Bool.or_eq_true, decide_eq_true_eq] at hb
      obtain ⟨hc, hc2⟩ := hk.2 i hlt
      have nxt : zX6_behindBlanks_41 l g d x 4 (nI i) h (fun r h' => ∃ v, r = some (.int v) ∧ K v h') := by
        unfold zX6_behindBlanks_41
        rw [nI_1]
        exact ih (i + 1) (by omega) (by omega)
      refine rX6_behindBlanks_2 (gtR q4 rfl (gtI q1 rfl ⟨fun hz => absurd ((nI_leI (by omega) (by omega)).mp hz) (by omega), fun hz => gtR q4 rfl (gtR q1 rfl (alI q2 (by omega) (by omega) ?_))⟩))
      rw [hf i hlt, hc2]
      refine ⟨fun _ => nxt, fun hz => gtR q4 rfl (gtR q1 rfl (alI q2 (by omega) (by omega) ?_))⟩
      rw [hf i hlt, hc2]
      refine ⟨fun hy => ?_, fun _ => nxt⟩
      rcases hb with e | e
      · exact absurd (by rw [e]; rfl) hz
      · exact absurd (by rw [e]; rfl) hy
  exact main (r - a) a (by have := hr.1; omega) (Nat.le_refl _)
/-- the token at hand is the one whose place is s -/
def TK (h : am_H) (T : tp_T) (s : Nat) : Prop := ∃ v, h[4]? = some (c_tk (nI (t_e T s)) (nI (t_k T s)) (nI s) v) ∧ (t_k T s ≠ 4 → t_k T s ≠ 0 → v = lN (t_v T s))
theorem TK.fr {h' : am_H} {s : Nat} (hk : TK h T s) (h4 : h'[4]? = h[4]?) : TK h' T s := by
  obtain ⟨v, a, b⟩ := hk
  exact ⟨v, h4.trans a, b⟩
theorem w_shl {v c : Nat} (hc : c < 127) : ((lN v : Int64) <<< (Int32.toInt64 8 &&& (63 : Int64))) ||| (Int32.toInt64 (nI c)) = lN (v * 256 + c) := by
  have e1 : (lN v : Int64) <<< (Int32.toInt64 8 &&& (63 : Int64)) = lN (v * 2 ^ 8) := wb_shl v (k := 8) (by decide)
  have e2 : Int32.toInt64 (nI c) = lN c := nI_l (by omega)
  rw [e1, e2, Nat.mul_comm, fb_or_sumL (k := 8) v (by omega), Nat.mul_comm]
theorem sp_readWord {s : Nat} {k : Int32} {K : am_H → Prop} (hT : TC h T) (hk : tp_ok T) (hs : s < T.1) (hL : isL (t_c T s) = true) (q4 : h[4]? = some (c_tk (nI s) k (nI s) 0)) (hK : ∀ h', TK h' T s → Fr 4 4 h h' → K h') : cl_N l g mX6_readWord (d + 1) x [.ref 4] h K := by
  have hn := hk.1
  have hr := t_r_ok T isL s
  have hrl := RE_le hr (by omega)
  have ee : t_e T s = t_r T isL s := by unfold t_e; rw [if_pos hs, hL, if_pos rfl]
  have ek : t_k T s = if t_r T isL s - s ≤ 8 then 1 else 4 := by unfold t_k; rw [if_pos hs, hL, if_pos rfl]
  refine show am_J l g mX6_readWord (d + 1) (0, 0, x) 0 [(0, .ref 4)] [] h (fun r h' => r = none ∧ K h') from ?_
  have main : ∀ n i h1, i + n = t_r T isL s → s ≤ i → TC h1 T → Fr 4 4 h h1 → h1[4]? = some (c_tk (nI i) k (nI s) (lN (t_en 256 0 T s (i - s)))) → am_J l g mX6_readWord (d + 1) (0, 0, x) 0 [(0, .ref 4)] [] h1 (fun r h' => r = none ∧ K h') := by
    intro n
    induction n with
    | zero =>
      intro i h1 hi hsi hT1 hf1 p4
      have : i = t_r T isL s := by omega
      subst this
      obtain ⟨q1, -, f, q2, hf⟩ := id hT1
      have fin : zX6_readWord_70 l g d x 4 h1 (fun r h' => r = none ∧ K h') := by
        refine gtI p4 rfl (gtI p4 rfl ?_)
        rw [pk_sub (by omega)]
        have h8 : (8 : Int32) < nI (t_r T isL s - s) ↔ 8 < t_r T isL s - s := nI_ltI (a := 8) (by decide) (by omega)
        refine ⟨fun z => ptV p4 (Nat.le_of_ble_eq_true rfl) ⟨rfl, hK _ ⟨lN (t_en 256 0 T s (t_r T isL s - s)), ?_, fun z4 => ?_⟩ (hf1.st (by decide))⟩, fun z => ptV p4 (Nat.le_of_ble_eq_true rfl) ⟨rfl, hK _ ⟨lN (t_en 256 0 T s (t_r T isL s - s)), ?_, fun _ _ => ?_⟩ (hf1.st (by decide))⟩⟩
        · rw [st_eq p4, ee, ek, if_neg (by rw [h8] at z; omega)]
          rfl
        · exfalso; rw [ek, if_neg (by rw [h8] at z; omega)] at z4; exact z4 rfl
        · rw [st_eq p4, ee, ek, if_pos (by rw [h8] at z; omega)]
          rfl
        · have ek1 : t_k T s = 1 := by rw [ek, if_pos (by rw [h8] at z; omega)]
          unfold t_v
          rw [if_pos ek1, ee]
      refine rX6_readWord_0 (gtI p4 rfl (gtR p4 rfl (gtI q1 rfl ⟨fun _ => fin, fun hz => ?_⟩)))
      have hlt : t_r T isL s < T.1 := by
        rcases Nat.lt_or_ge (t_r T isL s) T.1 with z | z
        · exact z
        · exact absurd (nI_le z (by omega)) hz
      obtain ⟨hc, hc2⟩ := hk.2 _ hlt
      refine gtR p4 rfl (gtR q1 rfl (gtI p4 rfl (alI q2 (by omega) (by omega) ?_)))
      rw [hf _ hlt, hc2]
      refine sp_isLetter (by omega) ⟨fun _ => fin, fun z => ?_⟩
      have hb := hr.2.2
      simp only [t_P, hlt, decide_true, Bool.true_and] at hb
      rw [hb] at z
      exact absurd rfl z
    | succ n ih =>
      intro i h1 hi hsi hT1 hf1 p4
      obtain ⟨q1, -, f, q2, hf⟩ := id hT1
      have hlt : i < T.1 := by omega
      have hb := hr.2.1 i hsi (by omega)
      simp only [t_P, hlt, decide_true, Bool.true_and] at hb
      obtain ⟨hc, hc2⟩ := hk.2 i hlt
      refine rX6_readWord_0 (gtI p4 rfl (gtR p4 rfl (gtI q1 rfl ⟨fun hz => absurd ((nI_leI (by omega) (by omega)).mp hz) (by omega), fun hz => gtR p4 rfl (gtR q1 rfl (gtI p4 rfl (alI q2 (by omega) (by omega) ?_)))⟩)))
      rw [hf i hlt, hc2]
      refine sp_isLetter (by omega) ⟨fun z => by rw [hb] at z; exact absurd z (by decide), fun _ => gtL p4 rfl (gtR p4 rfl (gtR q1 rfl (gtI p4 rfl (alI q2 (by omega) (by omega) ?_))))⟩
      rw [hf i hlt, hc2, w_shl hc]
      refine ptV p4 (Nat.le_of_ble_eq_true rfl) ?_
      have p5 := st_eq (c := am_O 6 ([Value.ref 1, .int (nI i), .int k, .int (nI s), .long (lN (t_en 256 0 T s (i - s)))].set 4 (.long (lN (t_en 256 0 T s (i - s) * 256 + t_c T i))))) p4
      refine gtI p5 rfl (ptV p5 (Nat.le_of_ble_eq_true rfl) ?_)
      refine ih (i + 1) _ (by omega) (by omega) (hT1.fr ?_ ?_) ((hf1.st (by decide)).st (by decide)) ?_
      · rw [st_ne (by decide), st_ne (by decide)]
      · rw [st_ne (by decide), st_ne (by decide)]
      · rw [st_eq p5, nI_1]
        have : t_en 256 0 T s (i + 1 - s) = t_en 256 0 T s (i - s) * 256 + t_c T i := by
          rw [show i + 1 - s = (i - s) + 1 by omega]
          show t_en 256 0 T s (i - s) * 256 + (t_c T (s + (i - s)) - 0) = _
          rw [show s + (i - s) = i by omega]; rfl
        rw [this]
        rfl
  refine main (t_r T isL s - s) s h (by have := hr.1; omega) (Nat.le_refl _) hT Fr.rf ?_
  rw [q4, Nat.sub_self]
  rfl
theorem w_dig {v c : Nat} (hc : c < 127) (h48 : 48 ≤ c) : (lN v : Int64) * 10 + Int32.toInt64 (nI c - 48) = lN (v * 10 + (c - 48)) := by
  rw [show (48 : Int32) = nI 48 from rfl, pk_sub h48, nI_l (by omega), show (10 : Int64) = lN 10 from rfl, lN_mul, lN_add]
theorem sp_readNumber {s : Nat} {k : Int32} {K : am_H → Prop} (hT : TC h T) (hk : tp_ok T) (hs : s < T.1) (hL : isL (t_c T s) = false) (hD : isD (t_c T s) = true) (q4 : h[4]? = some (c_tk (nI s) k (nI s) 0)) (hK : ∀ h', TK h' T s → Fr 4 4 h h' → K h') : cl_N l g mX6_readNumber (d + 1) x [.ref 4] h K := by
  have hn := hk.1
  have hr := t_r_ok T isD s
  have hrl := RE_le hr (by omega)
  have ee : t_e T s = t_r T isD s := by unfold t_e; rw [if_pos hs, hL, hD]; rfl
  have ek : t_k T s = if t_r T isD s - s ≤ 4 then 2 else 4 := by unfold t_k; rw [if_pos hs, hL, hD]; rfl
  refine show am_J l g mX6_readNumber (d + 1) (0, 0, x) 0 [(0, .ref 4)] [] h (fun r h' => r = none ∧ K h') from ?_
  have main : ∀ n i h1, i + n = t_r T isD s → s ≤ i → TC h1 T → Fr 4 4 h h1 → h1[4]? = some (c_tk (nI i) k (nI s) (lN (t_en 10 48 T s (i - s)))) → am_J l g mX6_readNumber (d + 1) (0, 0, x) 0 [(0, .ref 4)] [] h1 (fun r h' => r = none ∧ K h') := by
    intro n
    induction n with
    | zero =>
      intro i h1 hi hsi hT1 hf1 p4
      have : i = t_r T isD s := by omega
      subst this
      obtain ⟨q1, -, f, q2, hf⟩ := id hT1
      have fin : zX6_readNumber_74 l g d x 4 h1 (fun r h' => r = none ∧ K h') := by
        refine gtI p4 rfl (gtI p4 rfl ?_)
        rw [pk_sub (by omega)]
        have h8 : (4 : Int32) < nI (t_r T isD s - s) ↔ 4 < t_r T isD s - s := nI_ltI (a := 4) (by decide) (by omega)
        refine ⟨fun z => ptV p4 (Nat.le_of_ble_eq_true rfl) ⟨rfl, hK _ ⟨lN (t_en 10 48 T s (t_r T isD s - s)), ?_, fun z4 => ?_⟩ (hf1.st (by decide))⟩, fun z => ptV p4 (Nat.le_of_ble_eq_true rfl) ⟨rfl, hK _ ⟨lN (t_en 10 48 T s (t_r T isD s - s)), ?_, fun _ _ => ?_⟩ (hf1.st (by decide))⟩⟩
        · rw [st_eq p4, ee, ek, if_neg (by rw [h8] at z; omega)]
          rfl
        · exfalso; rw [ek, if_neg (by rw [h8] at z; omega)] at z4; exact z4 rfl
        · rw [st_eq p4, ee, ek, if_pos (by rw [h8] at z; omega)]
          rfl
        · have ek1 : t_k T s = 2 := by rw [ek, if_pos (by rw [h8] at z; omega)]
          unfold t_v
          rw [if_neg (by omega), if_pos ek1, ee]
      refine rX6_readNumber_0 (gtI p4 rfl (gtR p4 rfl (gtI q1 rfl ⟨fun _ => fin, fun hz => ?_⟩)))
      have hlt : t_r T isD s < T.1 := by
        rcases Nat.lt_or_ge (t_r T isD s) T.1 with z | z
        · exact z
        · exact absurd (nI_le z (by omega)) hz
      obtain ⟨hc, hc2⟩ := hk.2 _ hlt
      refine gtR p4 rfl (gtR q1 rfl (gtI p4 rfl (alI q2 (by omega) (by omega) ?_)))
      rw [hf _ hlt, hc2]
      refine sp_isDigit (by omega) ⟨fun _ => fin, fun z => ?_⟩
      have hb := hr.2.2
      simp only [t_P, hlt, decide_true, Bool.true_and] at hb
      rw [hb] at z
      exact absurd rfl z
    | succ n ih =>
      intro i h1 hi hsi hT1 hf1 p4
      obtain ⟨q1, -, f, q2, hf⟩ := id hT1
      have hlt : i < T.1 := by omega
      have hb := hr.2.1 i hsi (by omega)
      simp only [t_P, hlt, decide_true, Bool.true_and] at hb
      obtain ⟨hc, hc2⟩ := hk.2 i hlt
      have h48 : 48 ≤ t_c T i := by
        simp only [isD, Bool.and_eq_true, decide_eq_true_eq] at hb
        exact hb.1
      refine rX6_readNumber_0 (gtI p4 rfl (gtR p4 rfl (gtI q1 rfl ⟨fun hz => absurd ((nI_leI (by omega) (by omega)).mp hz) (by omega), fun hz => gtR p4 rfl (gtR q1 rfl (gtI p4 rfl (alI q2 (by omega) (by omega) ?_)))⟩)))
      rw [hf i hlt, hc2]
      refine sp_isDigit (by omega) ⟨fun z => by rw [hb] at z; exact absurd z (by decide), fun _ => gtL p4 rfl (gtR p4 rfl (gtR q1 rfl (gtI p4 rfl (alI q2 (by omega) (by omega) ?_))))⟩
      rw [hf i hlt, hc2, w_dig hc h48]
      refine ptV p4 (Nat.le_of_ble_eq_true rfl) ?_
      have p5 := st_eq (c := am_O 6 ([Value.ref 1, .int (nI i), .int k, .int (nI s), .long (lN (t_en 10 48 T s (i - s)))].set 4 (.long (lN (t_en 10 48 T s (i - s) * 10 + (t_c T i - 48)))))) p4
      refine gtI p5 rfl (ptV p5 (Nat.le_of_ble_eq_true rfl) ?_)
      refine ih (i + 1) _ (by omega) (by omega) (hT1.fr ?_ ?_) ((hf1.st (by decide)).st (by decide)) ?_
      · rw [st_ne (by decide), st_ne (by decide)]
      · rw [st_ne (by decide), st_ne (by decide)]
      · rw [st_eq p5, nI_1]
        have : t_en 10 48 T s (i + 1 - s) = t_en 10 48 T s (i - s) * 10 + (t_c T i - 48) := by
          rw [show i + 1 - s = (i - s) + 1 by omega]
          show t_en 10 48 T s (i - s) * 10 + (t_c T (s + (i - s)) - 48) = _
          rw [show s + (i - s) = i by omega]
        rw [this]
        rfl
  refine main (t_r T isD s - s) s h (by have := hr.1; omega) (Nat.le_refl _) hT Fr.rf ?_
  rw [q4, Nat.sub_self]
  rfl
theorem sp_readSign {s : Nat} {k : Int32} {K : am_H → Prop} (hT : TC h T) (hk : tp_ok T) (hs : s < T.1) (hL : isL (t_c T s) = false) (hD : isD (t_c T s) = false) (q4 : h[4]? = some (c_tk (nI s) k (nI s) 0)) (hK : ∀ h', TK h' T s → Fr 4 4 h h' → K h') : cl_N l g mX6_readSign d x [.ref 4] h K := by
  have hn := hk.1
  have ee : t_e T s = s + 1 := by unfold t_e; rw [if_pos hs, hL, hD]; rfl
  have ek : t_k T s = if t_isS (t_c T s) then 3 else 4 := by unfold t_k; rw [if_pos hs, hL, hD]; rfl
  obtain ⟨q1, -, f, q2, hf⟩ := id hT
  obtain ⟨hc, hc2⟩ := hk.2 s hs
  have fin : ∀ b : Bool, t_isS (t_c T s) = b → zX6_readSign_37 l g d x 4 (nI (t_c T s)) 4 (if b then 3 else 4) h (fun r h' => r = none ∧ K h') := fun b hb => by
    refine ptV q4 (Nat.le_of_ble_eq_true rfl) ?_
    have p5 := st_eq (c := am_O 6 ([Value.ref 1, .int (nI s), .int k, .int (nI s), .long 0].set 2 (.int (if b then 3 else 4)))) q4
    refine ptV p5 (Nat.le_of_ble_eq_true rfl) ?_
    have p6 := st_eq (c := am_O 6 (([Value.ref 1, .int (nI s), .int k, .int (nI s), .long 0].set 2 (.int (if b then 3 else 4))).set 4 (.long (Int32.toInt64 (nI (t_c T s)))))) p5
    refine gtI p6 rfl (ptV p6 (Nat.le_of_ble_eq_true rfl) ⟨rfl, hK _ ⟨Int32.toInt64 (nI (t_c T s)), ?_, fun h4 _ => ?_⟩ (((Fr.rf.st (by decide)).st (by decide)).st (by decide))⟩)
    · rw [st_eq p6, ee, ek, hb, nI_1]
      cases b <;> rfl
    · rw [nI_l (by omega)]
      unfold t_v
      have : t_k T s = 3 := by
        rw [ek] at h4 ⊢
        cases hS : t_isS (t_c T s) with
        | true => rfl
        | false => rw [hS] at h4; exact absurd rfl h4
      rw [this, if_neg (by decide), if_neg (by decide)]
  have e43 : nI (t_c T s) = 43 ↔ t_c T s = 43 := nI_eq (b := 43) (by omega) (by decide)
  have e45 : nI (t_c T s) = 45 ↔ t_c T s = 45 := nI_eq (b := 45) (by omega) (by decide)
  have e59 : nI (t_c T s) = 59 ↔ t_c T s = 59 := nI_eq (b := 59) (by omega) (by decide)
  have yes : t_isS (t_c T s) = true → zX6_readSign_32 l g d x 4 (nI (t_c T s)) 4 h (fun r h' => r = none ∧ K h') := fun hb => fin true hb
  refine eX6_readSign (gtR q4 rfl (gtR q1 rfl (gtI q4 rfl (alI q2 (by omega) (by omega) ?_))))
  rw [hf s hs, hc2]
  refine ⟨fun z => yes ?_, fun z => ⟨fun y => yes ?_, fun y => ⟨fun w => fin false ?_, fun w => yes ?_⟩⟩⟩
  · rw [e43] at z; simp [t_isS, z]
  · rw [e45] at y; simp [t_isS, y]
  · rw [e43] at z; rw [e45] at y; rw [e59] at w; simp [t_isS, z, y, w]
  · rw [e59] at w; simp [t_isS, w]
theorem sp_step {a : Nat} {k s : Int32} {v : Int64} {K : am_H → Prop} (hT : TC h T) (hk : tp_ok T) (ha : a ≤ T.1) (q4 : h[4]? = some (c_tk (nI a) k s v)) (hK : ∀ h', TK h' T (t_sk T a) → Fr 4 4 h h' → K h') : cl_N l g mX6_step (d + 2) x [.ref 4] h K := by
  have hn := hk.1
  have hsl := t_sk_le ha
  generalize hS : t_sk T a = S at hK hsl
  refine eX6_step (gtI q4 rfl ⟨⟨_, q4⟩, sp_behindBlanks hT hk q4 (by have := t_r_ok T isB a; rw [show t_r T isB a = S from hS] at this; exact this) ha ?_⟩)
  refine ptV q4 (Nat.le_of_ble_eq_true rfl) ?_
  have p5 := st_eq (c := am_O 6 ([Value.ref 1, .int (nI a), .int k, .int s, .long v].set 3 (.int (nI S)))) q4
  refine gtI p5 rfl (ptV p5 (Nat.le_of_ble_eq_true rfl) ?_)
  have p6 := st_eq (c := am_O 6 (([Value.ref 1, .int (nI a), .int k, .int s, .long v].set 3 (.int (nI S))).set 1 (.int (nI S)))) p5
  refine ptV p6 (Nat.le_of_ble_eq_true rfl) ?_
  have p7 := st_eq (c := am_O 6 ((([Value.ref 1, .int (nI a), .int k, .int s, .long v].set 3 (.int (nI S))).set 1 (.int (nI S))).set 4 (.long 0))) p6
  generalize hH : (((h.set 4 (am_O 6 ([Value.ref 1, .int (nI a), .int k, .int s, .long v].set 3 (.int (nI S))))).set 4 (am_O 6 (([Value.ref 1, .int (nI a), .int k, .int s, .long v].set 3 (.int (nI S))).set 1 (.int (nI S))))).set 4 (am_O 6 ((([Value.ref 1, .int (nI a), .int k, .int s, .long v].set 3 (.int (nI S))).set 1 (.int (nI S))).set 4 (.long 0)))) = H at p7 ⊢
  have hf : Fr 4 4 h H := by rw [← hH]; exact ((Fr.rf.st (by decide)).st (by decide)).st (by decide)
  have hT' : TC H T := hT.fr (hf 1 (by decide)) (hf 2 (by decide))
  obtain ⟨q1, -, f, q2, hff⟩ := id hT'
  refine gtI p7 rfl (gtR p7 rfl (gtI q1 rfl ⟨fun hz => ?_, fun hz => ?_⟩))
  · have hs : S < T.1 := (nI_ltI (by omega) (by omega)).mp hz
    obtain ⟨hc, hc2⟩ := hk.2 S hs
    refine gtR p7 rfl (gtR q1 rfl (gtI p7 rfl (alI q2 (by omega) (by omega) ?_)))
    rw [hff S hs, hc2]
    refine sp_isLetter (by omega) ⟨fun hl => gtR p7 rfl (gtR q1 rfl (gtI p7 rfl (alI q2 (by omega) (by omega) ?_))), fun hl => ?_⟩
    · rw [hff S hs, hc2]
      refine sp_isDigit (by omega) ⟨fun hd => ?_, fun hd => ?_⟩
      · exact ⟨⟨_, p7⟩, sp_readSign hT' hk hs (bi_0.mp hl) (bi_0.mp hd) p7 fun h' a b => ⟨rfl, hK h' a (hf.tr b)⟩⟩
      · exact ⟨⟨_, p7⟩, sp_readNumber hT' hk hs (bi_0.mp hl) (bi_n0.mp hd) p7 fun h' a b => ⟨rfl, hK h' a (hf.tr b)⟩⟩
    · exact ⟨⟨_, p7⟩, sp_readWord hT' hk hs (bi_n0.mp hl) p7 fun h' a b => ⟨rfl, hK h' a (hf.tr b)⟩⟩
  · have hs : ¬ S < T.1 := fun q => hz (nI_lt q (by omega))
    refine ptV p7 (Nat.le_of_ble_eq_true rfl) ⟨rfl, hK _ ⟨0, ?_, fun _ z => absurd (t_k_0.mpr hs) z⟩ (hf.st (by decide))⟩
    rw [st_eq p7, t_k_0.mpr hs]
    unfold t_e
    rw [if_neg hs]
    rfl
/-- from token k to token k + 1 -/
theorem sp_next1 {k : Nat} {K : am_H → Prop} (hT : TC h T) (hk : tp_ok T) (hK4 : TK h T (t_s T k)) (hK : ∀ h', TK h' T (t_s T (k + 1)) → Fr 4 4 h h' → K h') : cl_N l g mX6_step (d + 2) x [.ref 4] h K := by
  obtain ⟨v, q4, -⟩ := hK4
  exact sp_step hT hk (t_e_le (t_s_le T k)).2 q4 hK
theorem sp_start {b k s : Int32} {v : Int64} {K : am_H → Prop} (hT : TC h T) (hk : tp_ok T) (q4 : h[4]? = some (c_tk b k s v)) (hK : ∀ h', TK h' T (t_s T 0) → Fr 4 4 h h' → K h') : cl_N l g mX6_start (d + 3) x [.ref 4] h K := by
  refine eX6_start (ptV q4 (Nat.le_of_ble_eq_true rfl) ?_)
  have p5 := st_eq (c := am_O 6 ([Value.ref 1, .int b, .int k, .int s, .long v].set 1 (.int 0))) q4
  have hf : Fr 4 4 h (h.set 4 (am_O 6 ([Value.ref 1, .int b, .int k, .int s, .long v].set 1 (.int 0)))) := Fr.rf.st (by decide)
  refine ⟨⟨_, p5⟩, sp_step (a := 0) (hT.fr (hf 1 (by decide)) (hf 2 (by decide))) hk (Nat.zero_le _) p5 fun h' a b => ⟨rfl, hK h' a (hf.tr b)⟩⟩
theorem sp_is {s kd w : Nat} {K : Int32 → am_H → Prop} (hk : tp_ok T) (hs : s ≤ T.1) (hK4 : TK h T s) (hkd : kd = 1 ∨ kd = 3) (hw : w < 2 ^ 63) (hK : K (bi (decide (t_k T s = kd) && decide (t_v T s = w))) h) : cl_I l g mX6_is d x [.ref 4, .int (nI kd), .long (lN w)] h K := by
  obtain ⟨v, q4, hv⟩ := hK4
  have hle := t_k_le T s
  have e1 : nI (t_k T s) = nI kd ↔ t_k T s = kd := nI_eq (by omega) (by omega)
  refine eX6_is (gtI q4 rfl ⟨fun z => ?_, fun z => gtL q4 rfl ?_⟩)
  · rw [e1] at z
    rw [show decide (t_k T s = kd) = false by simpa using z] at hK
    exact ⟨_, rfl, hK⟩
  · rw [e1] at z
    have hlt : s < T.1 := by
      rcases Nat.lt_or_ge s T.1 with q | q
      · exact q
      · have := t_k_0 (T := T) (s := s) |>.mpr (by omega); omega
    rw [hv (by omega) (by omega), show decide (t_k T s = kd) = true by simpa using z, Bool.true_and] at *
    have e2 := fb_lN_inj (t_v_lt hk hlt).1 hw
    refine ⟨fun y => ?_, fun y => ?_⟩
    · rw [lg_eq, e2] at y
      rw [show decide (t_v T s = w) = false by simpa using y] at hK
      exact ⟨_, rfl, hK⟩
    · rw [lg_eq, e2] at y
      rw [show decide (t_v T s = w) = true by simpa using y] at hK
      exact ⟨_, rfl, hK⟩
end TOKENS
