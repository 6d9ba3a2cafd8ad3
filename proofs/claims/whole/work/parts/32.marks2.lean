theorem bc_m55 : bc_m 0x55 8 = 6148914691236517205 := by decide +kernel
theorem bc_m33 : bc_m 0x33 8 = 3689348814741910323 := by decide +kernel
theorem bc_m0f : bc_m 0x0f 8 = 1085102592571150095 := by decide +kernel
theorem sh_k {v : Nat} (k : Nat) (hv : v < 2 ^ 64) (hk : k < 64) : ((Int64.toUInt64 (lN v) >>> (Int64.toUInt64 (Int32.toInt64 (nI k)) &&& Int64.toUInt64 63)).toInt64) = lN (v / 2 ^ k) := wb_shr hv hk
theorem bc_b2' (n : Nat) (hn : n < 2 ^ 64) : bc_1 8 n < 2 ^ 64 ∧ bc_2 8 (bc_1 8 n) < 2 ^ 63 ∧ bc_3 8 (bc_2 8 (bc_1 8 n)) < 2 ^ 60 := by
  refine ⟨?_, ?_, ?_⟩
  · unfold bc_1; omega
  · unfold bc_2
    have h1 : (bc_1 8 n &&& bc_m 51 8) ≤ bc_m 51 8 := Nat.and_le_right
    have h2 : (bc_1 8 n / 4 &&& bc_m 51 8) ≤ bc_m 51 8 := Nat.and_le_right
    rw [bc_m33] at h1 h2 ⊢
    omega
  · unfold bc_3
    have h1 : ((bc_2 8 (bc_1 8 n) + bc_2 8 (bc_1 8 n) / 16) &&& bc_m 15 8) ≤ bc_m 15 8 := Nat.and_le_right
    rw [bc_m0f] at h1 ⊢
    omega
theorem bc_low (v : Nat) : (Int64.toInt32 (lN v) &&& (127 : Int32)) = nI (v % 128) := by
  rw [lN_i, show (127 : Int32) = nI (2 ^ 7 - 1) from rfl, fa_mask]
theorem sp_bitCount {l : Launch} {g : am_G} {d : Nat} {x : Bool} {h : am_H} {v : Int64} {K : Int32 → am_H → Prop} (hK : K (nI (fb_ct (fun i => v.toBitVec.getLsbD i) 64)) h) : cl_I l g mJ13_bitCount_95d88 d x [.long v] h K := by
  refine eJ13_bitCount_95d88 ?_
  unfold zJ13_bitCount_95d88_0
  refine ⟨_, rfl, ?_⟩
  obtain ⟨n, hn, rfl⟩ := wb_of v
  have hc : fb_ct (fun i => (lN n).toBitVec.getLsbD i) 64 = bc_n n := by
    rw [bc_all]
    apply ct_congr
    intro i hi
    rw [wb_tb, BitVec.getLsbD_ofNat]
    simp [hi]
  rw [hc] at hK
  obtain ⟨q1, q2, q3⟩ := bc_b2' n hn
  have e1 := sh_k 1 hn (by decide)
  have e2 : lN (n / 2 ^ 1) &&& 6148914691236517205 = lN (n / 2 &&& bc_m 0x55 8) := by rw [bc_m55]; exact wb_and (by omega) (by decide)
  have e3 : lN n - lN (n / 2 &&& bc_m 0x55 8) = lN (bc_1 8 n) := lN_sub (Nat.le_trans Nat.and_le_left (Nat.div_le_self _ _))
  rw [show ((1 : Int32)) = nI 1 from rfl, e1, e2, e3]
  have e4 := sh_k 2 q1 (by decide)
  have e5 : lN (bc_1 8 n) &&& 3689348814741910323 = lN (bc_1 8 n &&& bc_m 0x33 8) := by rw [bc_m33]; exact wb_and q1 (by decide)
  have e6 : lN (bc_1 8 n / 2 ^ 2) &&& 3689348814741910323 = lN (bc_1 8 n / 4 &&& bc_m 0x33 8) := by rw [bc_m33]; exact wb_and (Nat.lt_of_le_of_lt (Nat.div_le_self _ _) q1) (by decide)
  have e7 : lN (bc_1 8 n &&& bc_m 0x33 8) + lN (bc_1 8 n / 4 &&& bc_m 0x33 8) = lN (bc_2 8 (bc_1 8 n)) := lN_add _ _
  rw [show ((2 : Int32)) = nI 2 from rfl, e4, e5, e6, e7]
  have e8 := sh_k 4 (show bc_2 8 (bc_1 8 n) < 2 ^ 64 by omega) (by decide)
  have e9 : lN (bc_2 8 (bc_1 8 n)) + lN (bc_2 8 (bc_1 8 n) / 2 ^ 4) = lN (bc_2 8 (bc_1 8 n) + bc_2 8 (bc_1 8 n) / 16) := lN_add _ _
  have e10 : lN (bc_2 8 (bc_1 8 n) + bc_2 8 (bc_1 8 n) / 16) &&& 1085102592571150095 = lN (bc_3 8 (bc_2 8 (bc_1 8 n))) := by unfold bc_3; rw [bc_m0f]; exact wb_and (by omega) (by decide)
  rw [show ((4 : Int32)) = nI 4 from rfl, e8, e9, e10]
  have ev : bc_n n = (let v3 := bc_3 8 (bc_2 8 (bc_1 8 n)); let v4 := v3 + v3 / 256; let v5 := v4 + v4 / 65536; (v5 + v5 / 4294967296) % 128) := rfl
  rw [ev] at hK
  generalize bc_3 8 (bc_2 8 (bc_1 8 n)) = v3 at q3 hK ⊢
  have f1 := sh_k 8 (show v3 < 2 ^ 64 by omega) (by decide)
  rw [show ((8 : Int32)) = nI 8 from rfl, f1, lN_add, show (2 : Nat) ^ 8 = 256 from rfl]
  have f2 := sh_k 16 (show v3 + v3 / 256 < 2 ^ 64 by omega) (by decide)
  rw [show ((16 : Int32)) = nI 16 from rfl, f2, lN_add, show (2 : Nat) ^ 16 = 65536 from rfl]
  have f3 := sh_k 32 (show v3 + v3 / 256 + (v3 + v3 / 256) / 65536 < 2 ^ 64 by omega) (by decide)
  rw [show ((32 : Int32)) = nI 32 from rfl, f3, lN_add, show (2 : Nat) ^ 32 = 4294967296 from rfl, bc_low]
  exact hK
/-! one mark set, dropped -/
theorem sh_1 {k : Nat} (hk : k < 64) : ((1 : Int64) <<< (Int32.toInt64 (nI k) &&& (63 : Int64))) = lN (2 ^ k) := by
  have := wb_shl 1 hk
  rw [Nat.one_mul] at this
  exact this
theorem gb_2 {k i : Nat} (hk : k < 64) : (lN (2 ^ k)).toBitVec.getLsbD i = decide (i = k) := by
  rw [wb_tb, BitVec.getLsbD_ofNat, Nat.testBit_two_pow]
  by_cases h : i = k
  · subst h; simp [hk]
  · simp [h, Ne.symm h]
theorem r5_inj {r i r' i' : Nat} (hi : i < 320) (hi' : i' < 320) (h : r * 5 + i / 64 = r' * 5 + i' / 64) : r = r' ∧ i / 64 = i' / 64 := by omega
/-- the marks behind a change of one word -/
theorem bt_upd {f : Nat → Int64} {r i row ring : Nat} {v : Int64} {b : Bool} (hi : i < 320) (hring : ring < 320) (hv : ∀ j, j < 64 → v.toBitVec.getLsbD j = (if j = ring % 64 then b else (f (row * 5 + ring / 64)).toBitVec.getLsbD j)) : bt_r (vp_updL f (row * 5 + ring / 64) v) r i = (if r = row ∧ i = ring then b else bt_r f r i) := by
  unfold bt_r
  by_cases hw : r * 5 + i / 64 = row * 5 + ring / 64
  · rw [hw, pk_uLs, hv _ (by omega)]
    obtain ⟨h1, h2⟩ := r5_inj hi hring hw
    by_cases hj : i % 64 = ring % 64
    · have : i = ring := by omega
      simp [hj, h1, this]
    · have : i ≠ ring := fun e => hj (by rw [e])
      simp [hj, this]
  · rw [pk_uLn hw]
    have : ¬ (r = row ∧ i = ring) := fun e => hw (by rw [e.1, e.2])
    simp [this]
theorem sp_put {l : Launch} {g : am_G} {d : Nat} {x : Bool} {h : am_H} {a w n row ring : Nat} {f : Nat → Int64} {K : am_H → Prop} (ha : h[a]? = some (am_O 2 [.ref w])) (hw : h[w]? = some (am_L n f)) (hr : row * 5 + 5 ≤ n) (hr2 : row < 1000) (hi : ring < 320) (hn : n < 10000) (hK : ∀ f', (∀ r i, i < 320 → bt_r f' r i = (if r = row ∧ i = ring then true else bt_r f r i)) → K (h.set w (am_L n f'))) : cl_N l g mX2_put d x [.ref a, .int (nI row), .int (nI ring)] h K := by
  refine eX2_put ?_
  unfold zX2_put_0
  rw [ix_r hr2 (by omega), am_63 (by omega), sh_1 (by omega)]
  refine ⟨_, w, ha, rfl, n, f, hw, vp_in_nI (by omega) (by omega), n, f, hw, vp_in_nI (by omega) (by omega), rfl, ?_⟩
  rw [nI_clamp (by omega)]
  refine hK _ (fun r i h1 => bt_upd h1 hi (fun j hj => ?_))
  rw [Int64.toBitVec_or, BitVec.getLsbD_or, gb_2 (by omega)]
  by_cases e : j = ring % 64
  · simp [e]
  · simp [e]
theorem sp_drop {l : Launch} {g : am_G} {d : Nat} {x : Bool} {h : am_H} {a w n row ring : Nat} {f : Nat → Int64} {K : am_H → Prop} (ha : h[a]? = some (am_O 2 [.ref w])) (hw : h[w]? = some (am_L n f)) (hr : row * 5 + 5 ≤ n) (hr2 : row < 1000) (hi : ring < 320) (hn : n < 10000) (hK : ∀ f', (∀ r i, i < 320 → bt_r f' r i = (if r = row ∧ i = ring then false else bt_r f r i)) → K (h.set w (am_L n f'))) : cl_N l g mX2_drop d x [.ref a, .int (nI row), .int (nI ring)] h K := by
  refine eX2_drop ?_
  unfold zX2_drop_0
  rw [ix_r hr2 (by omega), am_63 (by omega), sh_1 (by omega)]
  refine ⟨_, w, ha, rfl, n, f, hw, vp_in_nI (by omega) (by omega), n, f, hw, vp_in_nI (by omega) (by omega), rfl, ?_⟩
  rw [nI_clamp (by omega)]
  refine hK _ (fun r i h1 => bt_upd h1 hi (fun j hj => ?_))
  have hm : ((-1 : Int64)).toBitVec.getLsbD j = true := by
    have : ((-1 : Int64)).toBitVec = BitVec.allOnes 64 := by decide
    rw [this, BitVec.getLsbD_allOnes]; exact decide_eq_true hj
  rw [Int64.toBitVec_and, BitVec.getLsbD_and, Int64.toBitVec_xor, BitVec.getLsbD_xor, gb_2 (by omega), hm]
  by_cases e : j = ring % 64
  · simp [e]
  · simp [e]
