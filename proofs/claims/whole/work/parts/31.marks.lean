/-! ===== ints, lists of cells, rows of marks ===== -/
def bi (b : Bool) : Int32 := if b then 1 else 0
theorem bi_01 (b : Bool) : bi b = 0 ∨ bi b = 1 := by cases b <;> simp [bi]
theorem bi_0 {b : Bool} : bi b = 0 ↔ b = false := by cases b <;> decide
theorem bi_n0 {b : Bool} : ¬ bi b = 0 ↔ b = true := by cases b <;> decide
theorem st_eq {h : am_H} {i : Nat} {c0 c : am_C} (hh : h[i]? = some c0) : (h.set i c)[i]? = some c := List.getElem?_set_self ((List.getElem?_eq_some_iff.mp hh).1)
theorem st_ne {h : am_H} {i j : Nat} {c : am_C} (hij : i ≠ j) : (h.set i c)[j]? = h[j]? := List.getElem?_set_ne hij
theorem lg0 (x : Int64) : lg_cmp x 0 = 0 ↔ x = 0 := by
  unfold lg_cmp
  by_cases h : x > 0
  · simp only [h, if_true]
    constructor
    · intro q; exact absurd q (by decide)
    · intro q; rw [q] at h; exact absurd h (by decide)
  · simp only [h, if_false]
    by_cases h2 : x = 0
    · simp [h2]
    · simp only [h2, if_false]
      constructor
      · intro q; exact absurd q (by decide)
      · intro q; exact absurd q id
/-- the mark i of row r -/
def bt_r (f : Nat → Int64) (r i : Nat) : Bool := (f (r * 5 + i / 64)).toBitVec.getLsbD (i % 64)
theorem ix_r {r i : Nat} (hr : r < 1000) (hi : i < 400) : ((nI r * 5) + ((nI i : Int32) >>> ((6 : Int32) &&& (31 : Int32)))) = nI (r * 5 + i / 64) := by
  rw [show ((5 : Int32)) = nI 5 from rfl, pk_mul, pk_shrN (n := i) (by omega) _ 6 (by decide), nI_add]
theorem am_63 {i : Nat} (hi : i < 400) : (nI i &&& (63 : Int32)) = nI (i % 64) := by
  have := pk_andN (n := i) (by omega) (m := 63) 6 (by decide)
  exact this
theorem sp_has {l : Launch} {g : am_G} {d : Nat} {x : Bool} {h : am_H} {a w n row ring : Nat} {f : Nat → Int64} {K : Int32 → am_H → Prop} (ha : h[a]? = some (am_O 2 [.ref w])) (hw : h[w]? = some (am_L n f)) (hr : row * 5 + 5 ≤ n) (hr2 : row < 1000) (hi : ring < 320) (hn : n < 10000) (hK : K (bi (bt_r f row ring)) h) : cl_I l g mX2_has d x [.ref a, .int (nI row), .int (nI ring)] h K := by
  refine eX2_has ?_
  unfold zX2_has_0
  rw [ix_r hr2 (by omega), am_63 (by omega)]
  refine ⟨_, w, ha, rfl, n, f, hw, vp_in_nI (by omega) (by omega), ?_⟩
  rw [nI_clamp (by omega)]
  have hb := ts_bit (w := f (row * 5 + ring / 64)) (s := Int64.toUInt64 (Int32.toInt64 (nI (ring % 64))) &&& Int64.toUInt64 63) (j := ring % 64) (by omega) (by rw [wb_cu _ (by omega)]; exact u_tn (by omega))
  constructor
  · intro hc
    have hz := hb.mp ((lg0 _).mp hc)
    have e : bt_r f row ring = false := hz
    rw [e] at hK
    exact ⟨0, rfl, hK⟩
  · intro hc
    have e : bt_r f row ring = true := by
      cases hq : bt_r f row ring with
      | true => rfl
      | false => exact absurd ((lg0 _).mpr (hb.mpr hq)) hc
    rw [e] at hK
    exact ⟨1, rfl, hK⟩
