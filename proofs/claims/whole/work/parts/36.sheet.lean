/-! ===== the sheet: who is whose other ring by the weave ===== -/
def m_end (m : ml_T) (t : Nat) (f : Bool) : Nat := if f then (m.1.2.2 t).1 else (m.1.2.2 t).2.1
def m_sx (m : ml_T) (t : Nat) (f : Bool) : Int := if f then (m.1.2.2 t).2.2.1 else -(m.1.2.2 t).2.2.1
def m_sy (m : ml_T) (t : Nat) (f : Bool) : Int := if f then (m.1.2.2 t).2.2.2.1 else -(m.1.2.2 t).2.2.2.1
def m_cx (m : ml_T) (r t : Nat) (f : Bool) : Int := ((r / m.1.1 % m.2.1 : Nat) : Int) + m_sx m t f
def m_cy (m : ml_T) (r t : Nat) (f : Bool) : Int := ((r / m.1.1 / m.2.1 : Nat) : Int) + m_sy m t f
def m_in (m : ml_T) (r t : Nat) (f : Bool) : Bool := decide (0 ≤ m_cx m r t f) && decide (m_cx m r t f < m.2.1) && decide (0 ≤ m_cy m r t f) && decide (m_cy m r t f < m.2.2.1)
def m_oth (m : ml_T) (r t : Nat) (f : Bool) : Nat := ((m_cy m r t f).toNat * m.2.1 + (m_cx m r t f).toNat) * m.1.1 + m_end m t (!f)
def m_is (m : ml_T) (r t : Nat) (f : Bool) : Bool := decide (r % m.1.1 = m_end m t f)
theorem m_oth_lt {m : ml_T} (hv : ml_g m) {r t : Nat} {f : Bool} (ht : t < m.1.2.1) (hi : m_in m r t f = true) : m_oth m r t f < m_sh m := by
  simp only [m_in, Bool.and_eq_true, decide_eq_true_eq] at hi
  obtain ⟨⟨⟨h1, h2⟩, h3⟩, h4⟩ := hi
  have he : m_end m t (!f) < m.1.1 := by
    have := hv.1.2.2.1 t ht
    unfold m_end
    split
    · exact this.1
    · exact this.2.1
  unfold m_oth m_sh
  generalize m_cx m r t f = cx at *
  generalize m_cy m r t f = cy at *
  have a1 : cx.toNat < m.2.1 := by omega
  have a2 : cy.toNat < m.2.2.1 := by omega
  have b1 : cy.toNat * m.2.1 + cx.toNat + 1 ≤ m.2.1 * m.2.2.1 := by
    have : (cy.toNat + 1) * m.2.1 ≤ m.2.2.1 * m.2.1 := Nat.mul_le_mul_right _ a2
    rw [Nat.add_mul, Nat.one_mul] at this
    rw [Nat.mul_comm m.2.1 m.2.2.1]
    omega
  have b2 : (cy.toNat * m.2.1 + cx.toNat + 1) * m.1.1 ≤ m.2.1 * m.2.2.1 * m.1.1 := Nat.mul_le_mul_right _ b1
  rw [Nat.add_mul, Nat.one_mul] at b2
  omega
theorem nI_int {z : Int} (h0 : 0 ≤ z) : Int32.ofInt z = nI z.toNat := by
  obtain ⟨n, rfl⟩ := Int.eq_ofNat_of_zero_le h0
  rfl
theorem oI_add (n : Nat) (z : Int) : nI n + Int32.ofInt z = Int32.ofInt ((n : Int) + z) := by
  rw [Int32.ofInt_add]; rfl
theorem oI_sub (n : Nat) (z : Int) : nI n - Int32.ofInt z = Int32.ofInt ((n : Int) + -z) := by
  rw [← Int.sub_eq_add_neg, Int32.ofInt_sub]; rfl
theorem oI_toInt {z : Int} (h1 : -2147483648 ≤ z) (h2 : z < 2147483648) : (Int32.ofInt z).toInt = z := fb_ofI h1 h2
section SHEET
variable {l : Launch} {g : am_G} {d : Nat} {x : Bool} {h : am_H} {m : ml_T} {ch : Nat}
theorem sp_ringOfCell {c w q : Int32} {K : Int32 → am_H → Prop} (hM : MC h m ch) (hv : ml_g m) (h1 : ∀ a b k, a < m.2.1 → b < m.2.2.1 → k < m.1.1 → c = nI a → w = nI b → q = nI k → K (nI ((b * m.2.1 + a) * m.1.1 + k)) h) (h0 : (c < 0 ∨ nI m.2.1 ≤ c ∨ w < 0 ∨ nI m.2.2.1 ≤ w ∨ q < 0 ∨ nI m.1.1 ≤ q) → K (-1) h) : cl_I l g mX0_ringOfCell d x [.ref 6, .int c, .int w, .int q] h K := by
  have b1 := hv.2.1
  have b2 := hv.2.2.1
  have b3 := hv.1.1
  obtain ⟨q0, ⟨q7, -⟩, -⟩ := hM
  refine eX0_ringOfCell ?_
  have z0 : ∀ (hq : c < 0 ∨ nI m.2.1 ≤ c ∨ w < 0 ∨ nI m.2.2.1 ≤ w ∨ q < 0 ∨ nI m.1.1 ≤ q), zX0_ringOfCell_28 l g d x 6 c w q h (fun r h' => ∃ v, r = some (.int v) ∧ K v h') := fun hq => ⟨fun _ => ⟨_, rfl, h0 hq⟩, fun z => absurd rfl z⟩
  refine ⟨fun hc => z0 (Or.inl hc), fun hc => gtI q0 rfl ⟨fun hd => z0 (Or.inr (Or.inl hd)), fun hd => ⟨fun he => z0 (Or.inr (Or.inr (Or.inl he))), fun he => gtI q0 rfl ⟨fun hf => z0 (Or.inr (Or.inr (Or.inr (Or.inl hf)))), fun hf => ?_⟩⟩⟩⟩
  refine ⟨fun z => absurd z (by decide), fun _ => ⟨fun hg => ⟨_, rfl, h0 (Or.inr (Or.inr (Or.inr (Or.inr (Or.inl hg)))))⟩, fun hg => gtR q0 rfl (gtI q7 rfl ⟨fun hi => ?_, fun hi => ?_⟩)⟩⟩
  · refine gtI q0 rfl (gtR q0 rfl (gtI q7 rfl ⟨_, rfl, ?_⟩))
    rcases pk_ix c (show m.2.1 < 2 ^ 31 by omega) with z | z | ⟨a, ha, rfl⟩
    · exact absurd z hc
    · exact absurd z hd
    rcases pk_ix w (show m.2.2.1 < 2 ^ 31 by omega) with z | z | ⟨b, hb, rfl⟩
    · exact absurd z he
    · exact absurd z hf
    rcases pk_ix q (show m.1.1 < 2 ^ 31 by omega) with z | z | ⟨k, hk, rfl⟩
    · exact absurd z hg
    · exact absurd hi (fun y => absurd z (by rw [Int32.not_le]; exact y))
    rw [pk_mul, nI_add, pk_mul, nI_add]
    exact h1 a b k ha hb hk rfl rfl rfl
  · exact ⟨_, rfl, h0 (Or.inr (Or.inr (Or.inr (Or.inr (Or.inr (Int32.not_lt.mp hi))))))⟩
theorem nI_mod {a b : Nat} (ha : a < 2 ^ 31) (h0 : 0 < b) (hb : b < 2 ^ 31) : nI a - nI a / nI b * nI b = nI (a % b) := pk_rem ha h0 hb
theorem sp_isOfLink {r t : Nat} {f : Bool} {K : Int32 → am_H → Prop} (hM : MC h m ch) (hv : ml_g m) (hr : r < 1000) (ht : t < m.1.2.1) (hK : K (bi (m_is m r t f)) h) : cl_I l g mX0_isOfLink d x [.ref 6, .int (nI r), .int (nI t), .int (bi f)] h K := by
  have b3 := hv.1.1
  have b4 := hv.1.2.1
  have hkt := hv.1.2.2.1 t ht
  obtain ⟨q0, ⟨q7, f1, f2, f3, f4, f5, w1, w2, w3, w4, w5, w6⟩, -⟩ := hM
  refine eX0_isOfLink (gtR q0 rfl (gtI q7 rfl ⟨fun _ => ?_, fun hc => absurd (show (1 : Int32) ≤ nI m.1.1 from (nI_leI (a := 1) (by decide) (by omega)).mpr (by omega)) hc⟩))
  refine gtR q0 rfl (gtI q7 rfl ⟨nI_ne0 (by omega) (by omega), ⟨fun hz => ?_, fun hz => ?_⟩⟩)
  · have hf : f = false := bi_0.mp hz
    subst hf
    refine gtR q0 rfl (gtR q7 rfl (alI w2 (by omega) (by omega) ?_))
    rw [nI_mod (by omega) (by omega) (by omega), (w6 t ht).2.1]
    have hlt : r % m.1.1 < m.1.1 := Nat.mod_lt _ (by omega)
    refine ⟨fun hq => ⟨0, rfl, ?_⟩, fun hq => ⟨1, rfl, ?_⟩⟩
    · have : m_is m r t false = false := decide_eq_false (fun e => hq (by rw [e]; rfl))
      rw [this] at hK; exact hK
    · have he : m_end m t false < m.1.1 := hkt.2.1
      have : m_is m r t false = true := decide_eq_true ((nI_eq (b := m_end m t false) (by omega) (by omega)).mp hq)
      rw [this] at hK; exact hK
  · have hf : f = true := bi_n0.mp hz
    subst hf
    refine gtR q0 rfl (gtR q7 rfl (alI w1 (by omega) (by omega) ?_))
    rw [nI_mod (by omega) (by omega) (by omega), (w6 t ht).1]
    have hlt : r % m.1.1 < m.1.1 := Nat.mod_lt _ (by omega)
    refine ⟨fun hq => ⟨0, rfl, ?_⟩, fun hq => ⟨1, rfl, ?_⟩⟩
    · have : m_is m r t true = false := decide_eq_false (fun e => hq (by rw [e]; rfl))
      rw [this] at hK; exact hK
    · have he : m_end m t true < m.1.1 := hkt.1
      have : m_is m r t true = true := decide_eq_true ((nI_eq (b := m_end m t true) (by omega) (by omega)).mp hq)
      rw [this] at hK; exact hK
/-- columns and rows from a ring of the sheet -/
theorem oI_cell {n : Nat} {z : Int} (hn : n ≤ 12) (hz : -300 ≤ z) (hz2 : z < 300) : (∃ a, a < n ∧ Int32.ofInt z = nI a ∧ a = z.toNat ∧ 0 ≤ z ∧ z < n) ∨ ((Int32.ofInt z < 0 ∨ nI n ≤ Int32.ofInt z) ∧ ¬ (0 ≤ z ∧ z < n)) := by
  have e := oI_toInt (z := z) (by omega) (by omega)
  by_cases h : 0 ≤ z ∧ z < n
  · exact Or.inl ⟨z.toNat, by omega, nI_int h.1, rfl, h.1, h.2⟩
  · refine Or.inr ⟨?_, h⟩
    rw [fa_lt, fa_le, e, nI_toInt (by omega)]
    show z < 0 ∨ _
    omega
theorem sp_otherAsTold {r t : Nat} {f : Bool} {K : Int32 → am_H → Prop} (hM : MC h m ch) (hv : ml_g m) (hr : r < m_sh m) (ht : t < m.1.2.1) (h1 : m_in m r t f = true → K (nI (m_oth m r t f)) h) (h0 : m_in m r t f = false → K (-1) h) : cl_I l g mX0_otherAsTold (d + 1) x [.ref 6, .int (nI r), .int (nI t), .int (bi f)] h K := by
  have b1 := hv.2.1
  have b2 := hv.2.2.1
  have b3 := hv.1.1
  have b4 := hv.1.2.1
  have b5 := hv.2.2.2.1
  obtain ⟨k1, k2, k3, k4, k5, k6, -⟩ := hv.1.2.2.1 t ht
  have hM' := hM
  obtain ⟨q0, ⟨q7, f1, f2, f3, f4, f5, w1, w2, w3, w4, w5, w6⟩, -⟩ := hM
  have hc0 : 0 < m.2.1 := by
    rcases Nat.eq_zero_or_pos m.2.1 with z | z
    · unfold m_sh at hr; rw [z] at hr; simp at hr
    · exact z
  refine eX0_otherAsTold (gtR q0 rfl (gtI q7 rfl ⟨fun hc => absurd hc ?_, fun _ => gtI q0 rfl ⟨fun _ => ?_, fun hc => absurd ((nI_leI (a := 1) (by decide) (by omega)).mpr hc0) hc⟩⟩))
  · exact fun z => absurd ((nI_ltI (b := 1) (by omega) (by decide)).mp z) (by omega)
  refine gtR q0 rfl (gtI q7 rfl ⟨nI_ne0 (by omega) (by omega), gtI q0 rfl ⟨nI_ne0 hc0 (by omega), gtI q0 rfl ⟨nI_ne0 hc0 (by omega), ?_⟩⟩⟩)
  rw [pk_div (by omega) (by omega) (by omega)]
  have hdl : r / m.1.1 < 300 := Nat.lt_of_le_of_lt (Nat.div_le_self _ _) (by omega)
  rw [nI_mod (by omega) hc0 (by omega), pk_div (by omega) hc0 (by omega)]
  have hml : r / m.1.1 % m.2.1 < 12 := Nat.lt_of_lt_of_le (Nat.mod_lt _ hc0) b1
  have hdl2 : r / m.1.1 / m.2.1 < 300 := Nat.lt_of_le_of_lt (Nat.div_le_self _ _) hdl
  have key : ∀ (zx zy : Int) (e : Nat), e < m.1.1 → m_cx m r t f = zx → m_cy m r t f = zy → m_end m t (!f) = e → -9 ≤ m_sx m t f → m_sx m t f ≤ 9 → -9 ≤ m_sy m t f → m_sy m t f ≤ 9 → cl_I l g mX0_ringOfCell d x [.ref 6, .int (Int32.ofInt zx), .int (Int32.ofInt zy), .int (nI e)] h (fun v h' => ∃ v', some (Value.int v) = some (.int v') ∧ K v' h') := by
    intro zx zy e he ex ey ee g1 g2 g3 g4
    have bx : -300 ≤ zx ∧ zx < 300 := by rw [← ex]; unfold m_cx; have := hml; generalize r / m.1.1 % m.2.1 = zz at this ⊢; omega
    have bxy : -300 ≤ zy ∧ zy < 400 := by rw [← ey]; unfold m_cy; have := hdl2; generalize r / m.1.1 / m.2.1 = zz at this ⊢; omega
    refine sp_ringOfCell hM' hv ?_ ?_
    · intro a b k ha hb hk e1 e2 e3
      refine ⟨_, rfl, ?_⟩
      have i1 := congrArg Int32.toInt e1
      have i2 := congrArg Int32.toInt e2
      have i3 := (nI_eq (by omega) (by omega)).mp e3
      rw [oI_toInt (by omega) (by omega), nI_toInt (by omega)] at i1 i2
      have hin : m_in m r t f = true := by
        simp only [m_in, Bool.and_eq_true, decide_eq_true_eq, ex, ey]
        omega
      have := h1 hin
      unfold m_oth at this
      rw [ex, ey, ee, i1, i2] at this
      rw [← i3]
      simpa using this
    · intro hq
      refine ⟨_, rfl, h0 ?_⟩
      cases hin : m_in m r t f with
      | false => rfl
      | true =>
        exfalso
        simp only [m_in, Bool.and_eq_true, decide_eq_true_eq, ex, ey] at hin
        rw [fa_lt, fa_le, fa_lt, fa_le, oI_toInt (by omega) (by omega), oI_toInt (by omega) (by omega), nI_toInt (by omega), nI_toInt (by omega)] at hq
        rcases hq with q | q | q | q | q | q
        · have q' : zx < 0 := q
          omega
        · omega
        · have q' : zy < 0 := q
          omega
        · omega
        · exact nI_pos (by omega) q
        · exact absurd ((nI_leI (by omega) (by omega)).mp q) (by omega)
  refine ⟨fun hz => ?_, fun hz => ?_⟩
  · have hf : f = false := bi_0.mp hz
    subst hf
    refine gtR q0 rfl (gtR q7 rfl (alI w3 (by omega) (by omega) (gtR q0 rfl (gtR q7 rfl (alI w4 (by omega) (by omega) (gtR q0 rfl (gtR q7 rfl (alI w1 (by omega) (by omega) ⟨⟨_, q0⟩, ?_⟩))))))))
    rw [(w6 t ht).1, (w6 t ht).2.2.1, (w6 t ht).2.2.2.1, oI_sub, oI_sub]
    exact key _ _ _ k1 rfl rfl rfl (by unfold m_sx; simp; omega) (by unfold m_sx; simp; omega) (by unfold m_sy; simp; omega) (by unfold m_sy; simp; omega)
  · have hf : f = true := bi_n0.mp hz
    subst hf
    refine gtR q0 rfl (gtR q7 rfl (alI w3 (by omega) (by omega) (gtR q0 rfl (gtR q7 rfl (alI w4 (by omega) (by omega) (gtR q0 rfl (gtR q7 rfl (alI w2 (by omega) (by omega) ⟨⟨_, q0⟩, ?_⟩))))))))
    rw [(w6 t ht).2.1, (w6 t ht).2.2.1, (w6 t ht).2.2.2.1, oI_add, oI_add]
    exact key _ _ _ k2 rfl rfl rfl (by unfold m_sx; simp; omega) (by unfold m_sx; simp; omega) (by unfold m_sy; simp; omega) (by unfold m_sy; simp; omega)
end SHEET
