/-! ===== counting, and Long.bitCount ===== -/
theorem ct_congr {p q : Nat → Bool} : ∀ n, (∀ i, i < n → p i = q i) → fb_ct p n = fb_ct q n := by
  intro n
  induction n with
  | zero => intro _; rfl
  | succ n ih => intro h; simp only [fb_ct]; rw [ih (fun i hi => h i (by omega)), h n (by omega)]
theorem ct_add (p : Nat → Bool) (a : Nat) : ∀ b, fb_ct p (a + b) = fb_ct p a + fb_ct (fun i => p (a + i)) b := by
  intro b
  induction b with
  | zero => rfl
  | succ b ih => rw [← Nat.add_assoc]; simp only [fb_ct]; rw [ih]; omega
theorem ct_le (p : Nat → Bool) : ∀ n, fb_ct p n ≤ n := by
  intro n
  induction n with
  | zero => exact Nat.le_refl _
  | succ n ih => simp only [fb_ct]; split <;> omega
theorem ct_zero {p : Nat → Bool} : ∀ n, (∀ i, i < n → p i = false) → fb_ct p n = 0 := by
  intro n
  induction n with
  | zero => intro _; rfl
  | succ n ih => intro h; simp only [fb_ct]; rw [ih (fun i hi => h i (by omega)), h n (by omega)]; rfl
theorem ct_all {p : Nat → Bool} : ∀ n, (∀ i, i < n → p i = true) → fb_ct p n = n := by
  intro n
  induction n with
  | zero => intro _; rfl
  | succ n ih => intro h; simp only [fb_ct]; rw [ih (fun i hi => h i (by omega)), h n (by omega)]; rfl
theorem ct_pos {p : Nat → Bool} {i : Nat} : ∀ n, i < n → p i = true → 0 < fb_ct p n := by
  intro n
  induction n with
  | zero => intro h; omega
  | succ n ih =>
    intro h hp
    simp only [fb_ct]
    by_cases e : i = n
    · subst e; rw [hp]; simp
    · have := ih (by omega) hp; omega
theorem ct_more {p : Nat → Bool} (m : Nat) : ∀ n, m ≤ n → (∀ i, m ≤ i → i < n → p i = false) → fb_ct p n = fb_ct p m := by
  intro n
  induction n with
  | zero => intro h _; have : m = 0 := by omega
            subst this; rfl
  | succ n ih =>
    intro h hp
    by_cases e : m = n + 1
    · subst e; rfl
    · simp only [fb_ct]; rw [ih (by omega) (fun i a b => hp i a (by omega)), hp n (by omega) (by omega)]; rfl
/-! bytes -/
theorem bc_and (a m : Nat) : a &&& m = 256 * ((a / 256) &&& (m / 256)) + ((a % 256) &&& (m % 256)) := by
  have h1 := Nat.and_div_two_pow (a := a) (b := m) (n := 8)
  have h2 := Nat.and_mod_two_pow (a := a) (b := m) (n := 8)
  simp only [Nat.reducePow] at h1 h2
  rw [← h1, ← h2]
  omega
def bc_m (c : Nat) : Nat → Nat
  | 0 => 0
  | k + 1 => 256 * bc_m c k + c
theorem bc_m_div {c : Nat} (hc : c < 256) (k : Nat) : bc_m c (k + 1) / 256 = bc_m c k ∧ bc_m c (k + 1) % 256 = c := by
  simp only [bc_m]; omega
def bc_1 (k n : Nat) : Nat := n - (n / 2 &&& bc_m 0x55 k)
def bc_2 (k v : Nat) : Nat := (v &&& bc_m 0x33 k) + (v / 4 &&& bc_m 0x33 k)
def bc_3 (k v : Nat) : Nat := (v + v / 16) &&& bc_m 0x0f k
def bc_b1 (r : Nat) : Nat := r - (r / 2 &&& 0x55)
def bc_b2 (r : Nat) : Nat := (bc_b1 r &&& 0x33) + (bc_b1 r / 4 &&& 0x33)
def bc_b3 (r : Nat) : Nat := (bc_b2 r + bc_b2 r / 16) &&& 0x0f
theorem bc_k1 : ∀ r, r < 256 → ∀ t, t < 2 → (r / 2 + 128 * t) &&& 0x55 = r / 2 &&& 0x55 := by decide +kernel
theorem bc_k2 : ∀ r, r < 256 → ∀ t, t < 4 → (r / 4 + 64 * t) &&& 0x33 = r / 4 &&& 0x33 := by decide +kernel
theorem bc_k3 : ∀ r, r < 256 → ∀ t, t < 5 → (bc_b2 r + bc_b2 r / 16 + 16 * t) &&& 0x0f = bc_b3 r ∧ bc_b2 r + bc_b2 r / 16 + 16 * t < 256 ∧ bc_b2 r % 16 < 5 ∧ bc_b2 r < 256 ∧ bc_b1 r < 256 := by decide +kernel
theorem bc_k4 : ∀ r, r < 256 → bc_b3 r = fb_ct r.testBit 8 := by decide +kernel
theorem bc_s1 (k n : Nat) : bc_1 (k + 1) n = 256 * bc_1 k (n / 256) + bc_b1 (n % 256) := by
  unfold bc_1 bc_b1
  rw [bc_and (n / 2), (bc_m_div (by decide) k).1, (bc_m_div (by decide) k).2]
  have e1 : n / 2 / 256 = n / 256 / 2 := by omega
  have e2 : n / 2 % 256 = n % 256 / 2 + 128 * (n / 256 % 2) := by omega
  rw [e1, e2, bc_k1 _ (Nat.mod_lt _ (by decide)) _ (Nat.mod_lt _ (by decide))]
  have h1 : (n / 256 / 2 &&& bc_m 85 k) ≤ n / 256 / 2 := Nat.and_le_left
  have h2 : (n % 256 / 2 &&& 85) ≤ n % 256 / 2 := Nat.and_le_left
  omega
theorem bc_s2 (k Q R : Nat) (hR : R < 256) : bc_2 (k + 1) (256 * Q + R) = 256 * bc_2 k Q + ((R &&& 0x33) + (R / 4 &&& 0x33)) := by
  unfold bc_2
  rw [bc_and (256 * Q + R), bc_and ((256 * Q + R) / 4), (bc_m_div (by decide) k).1, (bc_m_div (by decide) k).2]
  have e1 : (256 * Q + R) / 4 / 256 = Q / 4 := by omega
  have e2 : (256 * Q + R) / 4 % 256 = R / 4 + 64 * (Q % 4) := by omega
  have e3 : (256 * Q + R) / 256 = Q := by omega
  have e4 : (256 * Q + R) % 256 = R := by omega
  rw [e1, e2, e3, e4, bc_k2 _ hR _ (Nat.mod_lt _ (by decide))]
  omega
theorem bc_12 (k n : Nat) : bc_2 (k + 1) (bc_1 (k + 1) n) = 256 * bc_2 k (bc_1 k (n / 256)) + bc_b2 (n % 256) := by
  rw [bc_s1, bc_s2 _ _ _ (bc_k3 _ (Nat.mod_lt _ (by decide)) 0 (by decide)).2.2.2.2]
  rfl
theorem bc_12_16 (k n : Nat) : bc_2 k (bc_1 k n) % 16 < 5 := by
  cases k with
  | zero => simp [bc_2, bc_m]
  | succ k =>
    rw [bc_12]
    have := (bc_k3 (n % 256) (Nat.mod_lt _ (by decide)) 0 (by decide)).2.2.1
    omega
theorem bc_123 (k n : Nat) : bc_3 (k + 1) (bc_2 (k + 1) (bc_1 (k + 1) n)) = 256 * bc_3 k (bc_2 k (bc_1 k (n / 256))) + fb_ct (n % 256).testBit 8 := by
  rw [bc_12]
  have ht := bc_12_16 k (n / 256)
  generalize bc_2 k (bc_1 k (n / 256)) = Q at ht ⊢
  have hr : n % 256 < 256 := Nat.mod_lt _ (by decide)
  generalize n % 256 = r at hr ⊢
  obtain ⟨k1, k2, -, k4, -⟩ := bc_k3 r hr _ ht
  unfold bc_3
  rw [bc_and, (bc_m_div (by decide) k).1, (bc_m_div (by decide) k).2]
  have e1 : (256 * Q + bc_b2 r + (256 * Q + bc_b2 r) / 16) / 256 = Q + Q / 16 := by omega
  have e2 : (256 * Q + bc_b2 r + (256 * Q + bc_b2 r) / 16) % 256 = bc_b2 r + bc_b2 r / 16 + 16 * (Q % 16) := by omega
  rw [e1, e2, k1, bc_k4 r hr]
def bc_n (n : Nat) : Nat :=
  let v3 := bc_3 8 (bc_2 8 (bc_1 8 n))
  let v4 := v3 + v3 / 256
  let v5 := v4 + v4 / 65536
  (v5 + v5 / 4294967296) % 128
theorem bc_byte (n j : Nat) : fb_ct (n / 256 ^ j % 256).testBit 8 = fb_ct (fun i => n.testBit (8 * j + i)) 8 := by
  apply ct_congr
  intro i hi
  have e : (256 : Nat) ^ j = 2 ^ (8 * j) := by rw [Nat.pow_mul]
  rw [e, show (256 : Nat) = 2 ^ 8 from rfl, Nat.testBit_mod_two_pow, Nat.testBit_div_two_pow]
  simp [hi, Nat.add_comm]
theorem ct_w (p : Nat → Bool) (w : Nat) : fb_ct p (w + w + w + w + w + w + w + w) = fb_ct p w + fb_ct (fun i => p (w + i)) w + fb_ct (fun i => p (w + w + i)) w + fb_ct (fun i => p (w + w + w + i)) w + fb_ct (fun i => p (w + w + w + w + i)) w + fb_ct (fun i => p (w + w + w + w + w + i)) w + fb_ct (fun i => p (w + w + w + w + w + w + i)) w + fb_ct (fun i => p (w + w + w + w + w + w + w + i)) w := by
  rw [ct_add p (w + w + w + w + w + w + w) w, ct_add p (w + w + w + w + w + w) w, ct_add p (w + w + w + w + w) w, ct_add p (w + w + w + w) w, ct_add p (w + w + w) w, ct_add p (w + w) w, ct_add p w w]
def bc_c (n j : Nat) : Nat := fb_ct (fun i => n.testBit (8 * j + i)) 8
theorem bc_c_le (n j : Nat) : bc_c n j ≤ 8 := ct_le _ _
theorem bc_c_eq (n j : Nat) : fb_ct (n / 256 ^ j % 256).testBit 8 = bc_c n j := bc_byte n j
theorem bc_hc (n : Nat) : fb_ct n.testBit 64 = bc_c n 0 + bc_c n 1 + bc_c n 2 + bc_c n 3 + bc_c n 4 + bc_c n 5 + bc_c n 6 + bc_c n 7 := by
  have h := ct_w n.testBit 8
  have e0 : bc_c n 0 = fb_ct n.testBit 8 := ct_congr 8 (fun i _ => by show n.testBit (8 * 0 + i) = _; rw [Nat.mul_zero, Nat.zero_add])
  rw [e0]
  exact h
theorem bc_hs (n : Nat) : bc_3 8 (bc_2 8 (bc_1 8 n)) = bc_c n 0 + 256 * (bc_c n 1 + 256 * (bc_c n 2 + 256 * (bc_c n 3 + 256 * (bc_c n 4 + 256 * (bc_c n 5 + 256 * (bc_c n 6 + 256 * bc_c n 7)))))) := by
  simp only [← bc_c_eq]
  rw [bc_123, bc_123, bc_123, bc_123, bc_123, bc_123, bc_123, bc_123]
  have z : ∀ v, bc_3 0 v = 0 := fun v => by simp [bc_3, bc_m]
  rw [z]
  simp only [Nat.div_div_eq_div_mul, Nat.pow_zero, Nat.div_one, Nat.reduceMul, Nat.reducePow]
  omega
theorem bc_sum (c0 c1 c2 c3 c4 c5 c6 c7 v3 v4 v5 : Nat) (b0 : c0 ≤ 8) (b1 : c1 ≤ 8) (b2 : c2 ≤ 8) (b3 : c3 ≤ 8) (b4 : c4 ≤ 8) (b5 : c5 ≤ 8) (b6 : c6 ≤ 8) (b7 : c7 ≤ 8) (h3 : v3 = c0 + 256 * (c1 + 256 * (c2 + 256 * (c3 + 256 * (c4 + 256 * (c5 + 256 * (c6 + 256 * c7))))))) (h4 : v4 = v3 + v3 / 256) (h5 : v5 = v4 + v4 / 65536) : (v5 + v5 / 4294967296) % 128 = c0 + c1 + c2 + c3 + c4 + c5 + c6 + c7 := by
  have e3 : v3 / 256 = c1 + 256 * (c2 + 256 * (c3 + 256 * (c4 + 256 * (c5 + 256 * (c6 + 256 * c7))))) := by omega
  have h4' : v4 = (c0 + c1) + 256 * ((c1 + c2) + 256 * ((c2 + c3) + 256 * ((c3 + c4) + 256 * ((c4 + c5) + 256 * ((c5 + c6) + 256 * ((c6 + c7) + 256 * c7)))))) := by omega
  clear h3 h4 e3
  have e4 : v4 / 65536 = (c2 + c3) + 256 * ((c3 + c4) + 256 * ((c4 + c5) + 256 * ((c5 + c6) + 256 * ((c6 + c7) + 256 * c7)))) := by omega
  have h5' : v5 = (c0 + c1 + c2 + c3) + 256 * ((c1 + c2 + c3 + c4) + 256 * ((c2 + c3 + c4 + c5) + 256 * ((c3 + c4 + c5 + c6) + 256 * ((c4 + c5 + c6 + c7) + 256 * ((c5 + c6 + c7) + 256 * ((c6 + c7) + 256 * c7)))))) := by omega
  clear h4' h5 e4
  have e5 : v5 / 4294967296 = (c4 + c5 + c6 + c7) + 256 * ((c5 + c6 + c7) + 256 * ((c6 + c7) + 256 * c7)) := by omega
  rw [e5, h5']
  omega
theorem bc_all (n : Nat) : bc_n n = fb_ct n.testBit 64 := by
  rw [bc_hc]
  exact bc_sum (bc_c n 0) (bc_c n 1) (bc_c n 2) (bc_c n 3) (bc_c n 4) (bc_c n 5) (bc_c n 6) (bc_c n 7) _ _ _ (bc_c_le n 0) (bc_c_le n 1) (bc_c_le n 2) (bc_c_le n 3) (bc_c_le n 4) (bc_c_le n 5) (bc_c_le n 6) (bc_c_le n 7) (bc_hs n) rfl rfl
