/-! ===== tokens, purely ===== -/
def t_c (T : tp_T) (i : Nat) : Nat := (T.2 i).toInt.toNat
def tp_ok (T : tp_T) : Prop := T.1 ≤ 1000 ∧ ∀ i, i < T.1 → t_c T i < 127 ∧ T.2 i = nI (t_c T i)
theorem tp_put_ok {T : tp_T} {c : Nat} (h : tp_ok T) (hc : c < 256) : tp_ok (tp_put T c) := by
  unfold tp_put
  split
  · rename_i hq
    obtain ⟨q1, q2⟩ := hq
    refine ⟨by show T.1 + 1 ≤ 1000; omega, fun i hi => ?_⟩
    have hi' : i < T.1 + 1 := hi
    show ((upd T.2 T.1 (nI c)) i).toInt.toNat < 127 ∧ upd T.2 T.1 (nI c) i = nI ((upd T.2 T.1 (nI c)) i).toInt.toNat
    by_cases e : i = T.1
    · rw [e, pk_us]
      have e2 : (nI c).toInt.toNat = c := by
        have := nI_toInt (n := c) (by omega)
        rw [this]; rfl
      rw [e2]
      simp only [tp_in, Bool.or_eq_true, Bool.and_eq_true, decide_eq_true_eq] at q1
      exact ⟨by omega, rfl⟩
    · rw [pk_un e]
      exact h.2 i (by omega)
  · exact h
theorem tp_v_ok {v : Int64} : ∀ k T, tp_ok T → tp_ok (tp_v v k T) := by
  intro k
  induction k with
  | zero => intro T h; exact h
  | succ k ih => intro T h; exact ih _ (tp_put_ok h (by_lt _ _))
theorem tp_8_ok {T : tp_T} {v : Int64} (h : tp_ok T) : tp_ok (tp_8 T v) := tp_v_ok 8 T h
def isL (c : Nat) : Bool := decide (97 ≤ c) && decide (c ≤ 122)
def isD (c : Nat) : Bool := decide (48 ≤ c) && decide (c ≤ 57)
def isB (c : Nat) : Bool := decide (c = 10) || decide (c = 32)
def t_P (T : tp_T) (p : Nat → Bool) (i : Nat) : Bool := decide (i < T.1) && p (t_c T i)
def t_run (P : Nat → Bool) : Nat → Nat → Nat
  | 0, p => p
  | f + 1, p => if P p then t_run P f (p + 1) else p
def RE (P : Nat → Bool) (p r : Nat) : Prop := p ≤ r ∧ (∀ i, p ≤ i → i < r → P i = true) ∧ P r = false
theorem t_run_ok {P : Nat → Bool} {N : Nat} (hN : ∀ i, N ≤ i → P i = false) : ∀ f p, N ≤ p + f → RE P p (t_run P f p) := by
  intro f
  induction f with
  | zero => intro p h; exact ⟨Nat.le_refl _, fun i a b => by exfalso; simp only [t_run] at b; omega, hN p (by omega)⟩
  | succ f ih =>
    intro p h
    by_cases e : P p = true
    · obtain ⟨a, b, c⟩ := ih (p + 1) (by omega)
      rw [show t_run P (f + 1) p = t_run P f (p + 1) by simp [t_run, e]]
      refine ⟨by omega, fun i h1 h2 => ?_, c⟩
      by_cases e2 : i = p
      · rw [e2]; exact e
      · exact b i (by omega) h2
    · rw [show t_run P (f + 1) p = p by simp [t_run, e]]
      exact ⟨Nat.le_refl _, fun i a b => by omega, ts_nt e⟩
theorem t_P_out {T : tp_T} {p : Nat → Bool} {i : Nat} (h : T.1 ≤ i) : t_P T p i = false := by
  unfold t_P
  simp [Nat.not_lt.mpr h]
theorem RE_le {T : tp_T} {p : Nat → Bool} {a r : Nat} (h : RE (t_P T p) a r) (ha : a ≤ T.1) : r ≤ T.1 := by
  rcases Nat.lt_or_ge T.1 r with q | q
  · have := h.2.1 T.1 ha q
    rw [t_P_out (Nat.le_refl _)] at this
    cases this
  · exact q
/-- where the run of p from a on ends -/
def t_r (T : tp_T) (p : Nat → Bool) (a : Nat) : Nat := t_run (t_P T p) T.1 a
theorem t_r_ok (T : tp_T) (p : Nat → Bool) (a : Nat) : RE (t_P T p) a (t_r T p a) := t_run_ok (N := T.1) (fun i hi => t_P_out hi) _ _ (by omega)
def t_sk (T : tp_T) (a : Nat) : Nat := t_r T isB a
def t_isS (c : Nat) : Bool := decide (c = 43) || decide (c = 45) || decide (c = 59)
/-- the token whose place is s: its end, its kind -/
def t_e (T : tp_T) (s : Nat) : Nat := if s < T.1 then (if isL (t_c T s) then t_r T isL s else if isD (t_c T s) then t_r T isD s else s + 1) else s
def t_k (T : tp_T) (s : Nat) : Nat := if s < T.1 then (if isL (t_c T s) then (if t_r T isL s - s ≤ 8 then 1 else 4) else if isD (t_c T s) then (if t_r T isD s - s ≤ 4 then 2 else 4) else if t_isS (t_c T s) then 3 else 4) else 0
def t_en (b o : Nat) (T : tp_T) (s : Nat) : Nat → Nat
  | 0 => 0
  | n + 1 => t_en b o T s n * b + (t_c T (s + n) - o)
/-- the class's value, the model's value -/
def t_v (T : tp_T) (s : Nat) : Nat := if t_k T s = 1 then t_en 256 0 T s (t_e T s - s) else if t_k T s = 2 then t_en 10 48 T s (t_e T s - s) else t_c T s
def t_u (T : tp_T) (s : Nat) : Nat := if t_k T s = 1 then t_en 37 96 T s (t_e T s - s) else if t_k T s = 2 then t_en 10 48 T s (t_e T s - s) else t_c T s
/-- the place of token k -/
def t_s (T : tp_T) : Nat → Nat
  | 0 => t_sk T 0
  | k + 1 => t_sk T (t_e T (t_s T k))
theorem t_e_le {T : tp_T} {s : Nat} (hs : s ≤ T.1) : s ≤ t_e T s ∧ t_e T s ≤ T.1 := by
  unfold t_e
  split
  · split
    · exact ⟨(t_r_ok T isL s).1, RE_le (t_r_ok T isL s) hs⟩
    · split
      · exact ⟨(t_r_ok T isD s).1, RE_le (t_r_ok T isD s) hs⟩
      · omega
  · omega
theorem t_sk_le {T : tp_T} {s : Nat} (hs : s ≤ T.1) : s ≤ t_sk T s ∧ t_sk T s ≤ T.1 := ⟨(t_r_ok T isB s).1, RE_le (t_r_ok T isB s) hs⟩
theorem t_s_le (T : tp_T) : ∀ k, t_s T k ≤ T.1
  | 0 => (t_sk_le (Nat.zero_le _)).2
  | k + 1 => (t_sk_le (t_e_le (t_s_le T k)).2).2
theorem t_e_lt {T : tp_T} {s : Nat} (hs : s < T.1) : s < t_e T s := by
  have go : ∀ p : Nat → Bool, p (t_c T s) = true → s < t_r T p s := fun p hp => by
    have h := t_r_ok T p s
    rcases Nat.lt_or_ge s (t_r T p s) with q | q
    · exact q
    · exfalso
      have e : t_r T p s = s := Nat.le_antisymm q h.1
      have h2 := h.2.2
      rw [e] at h2
      simp [t_P, hs, hp] at h2
  unfold t_e
  rw [if_pos hs]
  split
  · rename_i q; exact go isL q
  · split
    · rename_i q; exact go isD q
    · omega
theorem t_k_le (T : tp_T) (s : Nat) : t_k T s ≤ 4 := by
  unfold t_k
  repeat' split
  all_goals omega
theorem t_k_0 {T : tp_T} {s : Nat} : t_k T s = 0 ↔ ¬ s < T.1 := by
  unfold t_k
  constructor
  · intro h
    split at h
    · repeat' split at h
      all_goals omega
    · assumption
  · intro h
    rw [if_neg h]
/-! values: two words have the same value in one base iff in the other -/
def t_dg (b o : Nat) (c : Nat → Nat) : Nat → Nat
  | 0 => 0
  | n + 1 => t_dg b o c n * b + (c n - o)
theorem t_en_dg (b o : Nat) (T : tp_T) (s : Nat) : ∀ n, t_en b o T s n = t_dg b o (fun i => t_c T (s + i)) n
  | 0 => rfl
  | n + 1 => by simp only [t_en, t_dg]; rw [t_en_dg b o T s n]
theorem t_dg_inj {b o : Nat} {c c' : Nat → Nat} : ∀ n n', (∀ i, i < n → 1 ≤ c i - o ∧ c i - o < b ∧ o ≤ c i) → (∀ i, i < n' → 1 ≤ c' i - o ∧ c' i - o < b ∧ o ≤ c' i) → (t_dg b o c n = t_dg b o c' n' ↔ n = n' ∧ ∀ i, i < n → c i = c' i) := by
  intro n
  induction n with
  | zero =>
    intro n' _ h'
    cases n' with
    | zero => exact ⟨fun _ => ⟨rfl, fun i hi => by omega⟩, fun _ => rfl⟩
    | succ n' =>
      obtain ⟨a, -, -⟩ := h' n' (by omega)
      refine ⟨fun h => ?_, fun h => by omega⟩
      simp only [t_dg] at h
      omega
  | succ n ih =>
    intro n' h h'
    cases n' with
    | zero =>
      obtain ⟨a, -, -⟩ := h n (by omega)
      refine ⟨fun h => ?_, fun h => by omega⟩
      simp only [t_dg] at h
      omega
    | succ n' =>
      obtain ⟨a1, a2, a3⟩ := h n (by omega)
      obtain ⟨b1, b2, b3⟩ := h' n' (by omega)
      simp only [t_dg]
      have ih' := ih n' (fun i hi => h i (by omega)) (fun i hi => h' i (by omega))
      constructor
      · intro e
        have e1 : (t_dg b o c n * b + (c n - o)) % b = (t_dg b o c' n' * b + (c' n' - o)) % b := by rw [e]
        rw [Nat.add_comm, Nat.add_mul_mod_self_right, Nat.mod_eq_of_lt a2, Nat.add_comm (t_dg b o c' n' * b), Nat.add_mul_mod_self_right, Nat.mod_eq_of_lt b2] at e1
        have e2 : t_dg b o c n = t_dg b o c' n' := by
          have : t_dg b o c n * b = t_dg b o c' n' * b := by omega
          exact Nat.eq_of_mul_eq_mul_right (by omega) this
        obtain ⟨e3, e4⟩ := ih'.mp e2
        refine ⟨by omega, fun i hi => ?_⟩
        by_cases q : i = n
        · subst q
          have : n' = i := by omega
          subst this
          omega
        · exact e4 i (by omega)
      · rintro ⟨e1, e2⟩
        have e3 : n = n' := by omega
        subst e3
        rw [ih'.mpr ⟨rfl, fun i hi => e2 i (by omega)⟩, e2 n (by omega)]
/-- letters all -/
def t_ls (c : Nat → Nat) (n : Nat) : Prop := ∀ i, i < n → 97 ≤ c i ∧ c i ≤ 122
theorem t_dg_iff {c c' : Nat → Nat} {n n' : Nat} (h : t_ls c n) (h' : t_ls c' n') : t_dg 256 0 c n = t_dg 256 0 c' n' ↔ t_dg 37 96 c n = t_dg 37 96 c' n' := by
  rw [t_dg_inj n n' (fun i hi => by have := h i hi; omega) (fun i hi => by have := h' i hi; omega), t_dg_inj n n' (fun i hi => by have := h i hi; omega) (fun i hi => by have := h' i hi; omega)]
theorem t_word {T : tp_T} {s : Nat} (hk : t_k T s = 1) : s < T.1 ∧ t_e T s = t_r T isL s ∧ t_e T s - s ≤ 8 ∧ t_ls (fun i => t_c T (s + i)) (t_e T s - s) := by
  have hs : s < T.1 := by
    rcases Nat.lt_or_ge s T.1 with q | q
    · exact q
    · rw [t_k_0.mpr (by omega)] at hk; omega
  unfold t_k at hk
  rw [if_pos hs] at hk
  have hL : isL (t_c T s) = true := by
    cases e : isL (t_c T s) with
    | true => rfl
    | false =>
      rw [e] at hk
      simp only [Bool.false_eq_true, if_false] at hk
      repeat' split at hk
      all_goals omega
  rw [hL, if_pos rfl] at hk
  have e1 : t_e T s = t_r T isL s := by unfold t_e; rw [if_pos hs, hL, if_pos rfl]
  have h8 : t_r T isL s - s ≤ 8 := by
    rcases Nat.lt_or_ge 8 (t_r T isL s - s) with q | q
    · rw [if_neg (by omega)] at hk; omega
    · exact q
  refine ⟨hs, e1, by rw [e1]; exact h8, fun i hi => ?_⟩
  rw [e1] at hi
  have := (t_r_ok T isL s).2.1 (s + i) (by omega) (by omega)
  simp only [t_P, isL, Bool.and_eq_true, decide_eq_true_eq] at this
  exact this.2
theorem t_number {T : tp_T} {s : Nat} (hk : t_k T s = 2) : s < T.1 ∧ isL (t_c T s) = false ∧ t_e T s = t_r T isD s ∧ t_e T s - s ≤ 4 ∧ (∀ i, i < t_e T s - s → 48 ≤ t_c T (s + i) ∧ t_c T (s + i) ≤ 57) := by
  have hs : s < T.1 := by
    rcases Nat.lt_or_ge s T.1 with q | q
    · exact q
    · rw [t_k_0.mpr (by omega)] at hk; omega
  unfold t_k at hk
  rw [if_pos hs] at hk
  have hL : isL (t_c T s) = false := by
    cases e : isL (t_c T s) with
    | false => rfl
    | true =>
      rw [e, if_pos rfl] at hk
      split at hk <;> omega
  have hD : isD (t_c T s) = true := by
    cases e : isD (t_c T s) with
    | true => rfl
    | false =>
      rw [e, hL] at hk
      simp only [Bool.false_eq_true, if_false] at hk
      repeat' split at hk
      all_goals omega
  rw [hL, hD] at hk
  simp only [Bool.false_eq_true, if_false, if_true] at hk
  have e1 : t_e T s = t_r T isD s := by unfold t_e; rw [if_pos hs, hL, hD]; rfl
  have h8 : t_r T isD s - s ≤ 4 := by
    rcases Nat.lt_or_ge 4 (t_r T isD s - s) with q | q
    · rw [if_neg (by omega)] at hk; omega
    · exact q
  refine ⟨hs, hL, e1, by rw [e1]; exact h8, fun i hi => ?_⟩
  rw [e1] at hi
  have := (t_r_ok T isD s).2.1 (s + i) (by omega) (by omega)
  simp only [t_P, isD, Bool.and_eq_true, decide_eq_true_eq] at this
  exact this.2
theorem t_dg_lt {b o : Nat} {c : Nat → Nat} : ∀ n, (∀ i, i < n → c i - o < b) → t_dg b o c n < b ^ n := by
  intro n
  induction n with
  | zero => intro _; simp [t_dg]
  | succ n ih =>
    intro h
    have h1 := ih (fun i hi => h i (by omega))
    have h2 := h n (by omega)
    simp only [t_dg, Nat.pow_succ]
    have : (t_dg b o c n + 1) * b ≤ b ^ n * b := Nat.mul_le_mul_right _ h1
    rw [Nat.add_mul, Nat.one_mul] at this
    omega
theorem t_pow {b n m : Nat} (hb : 0 < b) (h : n ≤ m) : b ^ n ≤ b ^ m := Nat.pow_le_pow_right hb h
/-- a word's value is below 2 ^ 63 -/
theorem t_dg_63 {c : Nat → Nat} {n : Nat} (h : t_ls c n) (hn : n ≤ 8) : t_dg 256 0 c n < 2 ^ 63 := by
  have go : ∀ n, t_ls c n → t_dg 256 0 c n + 1 ≤ 123 * 256 ^ (n - 1) ∨ n = 0 := by
    intro n
    induction n with
    | zero => intro _; exact Or.inr rfl
    | succ n ih =>
      intro h
      left
      have hl := h n (by omega)
      simp only [t_dg]
      rcases ih (fun i hi => h i (by omega)) with q | q
      · cases n with
        | zero => simp [t_dg]; omega
        | succ n =>
          simp only [Nat.add_sub_cancel] at q ⊢
          rw [Nat.pow_succ]
          have : (t_dg 256 0 c (n + 1) + 1) * 256 ≤ 123 * 256 ^ n * 256 := Nat.mul_le_mul_right _ q
          rw [Nat.add_mul] at this
          rw [← Nat.mul_assoc]
          omega
      · subst q
        simp [t_dg]; omega
  rcases go n h with q | q
  · have := t_pow (b := 256) (n := n - 1) (m := 7) (by decide) (by omega)
    have : 123 * 256 ^ (n - 1) ≤ 123 * 256 ^ 7 := Nat.mul_le_mul_left _ this
    omega
  · subst q; simp [t_dg]
theorem t_v_lt {T : tp_T} {s : Nat} (hT : tp_ok T) (hs : s < T.1) : t_v T s < 2 ^ 63 ∧ t_u T s < 2 ^ 63 := by
  unfold t_v t_u
  by_cases h1 : t_k T s = 1
  · rw [if_pos h1, if_pos h1]
    obtain ⟨-, -, h8, hl⟩ := t_word h1
    rw [t_en_dg, t_en_dg]
    refine ⟨t_dg_63 hl h8, ?_⟩
    have := t_dg_lt (b := 37) (o := 96) (c := fun i => t_c T (s + i)) (t_e T s - s) (fun i hi => by have := hl i hi; simp only at this ⊢; omega)
    have := t_pow (b := 37) (n := t_e T s - s) (m := 8) (by decide) h8
    have e : (37 : Nat) ^ 8 < 2 ^ 63 := by decide
    omega
  · rw [if_neg h1, if_neg h1]
    by_cases h2 : t_k T s = 2
    · rw [if_pos h2]
      obtain ⟨-, -, -, h4, hd⟩ := t_number h2
      rw [t_en_dg]
      have := t_dg_lt (b := 10) (o := 48) (c := fun i => t_c T (s + i)) (t_e T s - s) (fun i hi => by have := hd i hi; show t_c T (s + i) - 48 < 10; omega)
      have := t_pow (b := 10) (n := t_e T s - s) (m := 4) (by decide) h4
      have e : (10 : Nat) ^ 4 < 2 ^ 63 := by decide
      omega
    · rw [if_neg h2]
      have := (hT.2 s hs).1
      omega
/-- two words -/
theorem t_vu {T : tp_T} {s s' : Nat} (h : t_k T s = 1) (h' : t_k T s' = 1) : t_v T s = t_v T s' ↔ t_u T s = t_u T s' := by
  unfold t_v t_u
  rw [if_pos h, if_pos h, if_pos h', if_pos h']
  simp only [t_en_dg]
  exact t_dg_iff (t_word h).2.2.2 (t_word h').2.2.2
def t_kw (w : Nat) : List Nat := if w = 0 then [114, 105, 110, 103] else if w = 1 then [108, 105, 110, 107] else if w = 2 then [111, 118, 101, 114] else [117, 110, 100, 101, 114]
def t_k256 (w : Nat) : Nat := if w = 0 then 1919512167 else if w = 1 then 1818848875 else if w = 2 then 1870030194 else 504363246962
def t_k37 (w : Nat) : Nat := if w = 0 then 924600 else if w = 1 then 620686 else if w = 2 then 790116 else 40072202
theorem t_kw_ok : ∀ w, w < 4 → (∀ i, i < (t_kw w).length → 97 ≤ (t_kw w).getD i 0 ∧ (t_kw w).getD i 0 ≤ 122) ∧ t_dg 256 0 (fun i => (t_kw w).getD i 0) (t_kw w).length = t_k256 w ∧ t_dg 37 96 (fun i => (t_kw w).getD i 0) (t_kw w).length = t_k37 w := by decide
theorem t_kwd {T : tp_T} {s w : Nat} (h : t_k T s = 1) (hw : w < 4) : t_v T s = t_k256 w ↔ t_u T s = t_k37 w := by
  obtain ⟨a, b, c⟩ := t_kw_ok w hw
  unfold t_v t_u
  rw [if_pos h, if_pos h, ← b, ← c]
  simp only [t_en_dg]
  exact t_dg_iff (t_word h).2.2.2 a
theorem t_uv {T : tp_T} {s : Nat} (h : t_k T s ≠ 1) : t_u T s = t_v T s := by
  unfold t_v t_u
  rw [if_neg h, if_neg h]
