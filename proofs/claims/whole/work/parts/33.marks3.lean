/-! the lowest set bit -/
theorem lo_bit (x : BitVec 64) (hx : x ≠ 0) : ∃ k, k < 64 ∧ x.getLsbD k = true ∧ (∀ i, i < k → x.getLsbD i = false) ∧ fb_ct (fun i => ((x &&& -x) - 1).getLsbD i) 64 = k := by
  have hex : ∃ i, i < 64 ∧ x.getLsbD i = true := by
    apply Classical.byContradiction
    intro hno
    apply hx
    apply BitVec.eq_of_getLsbD_eq
    intro i hi
    cases hb : x.getLsbD i with
    | true => exact absurd ⟨i, hi, hb⟩ hno
    | false => simp
  obtain ⟨k, hk, hb, hl⟩ := fb_first (p := fun i => x.getLsbD i = true) hex
  have hl' : ∀ i, i < k → x.getLsbD i = false := fun i hi => ts_nt (hl i hi)
  refine ⟨k, hk, hb, hl', ?_⟩
  have e : x &&& -x = BitVec.twoPow 64 k := by
    apply BitVec.eq_of_getLsbD_eq
    intro i hi
    rw [BitVec.getLsbD_and, BitVec.getLsbD_neg, BitVec.getLsbD_twoPow]
    rcases Nat.lt_trichotomy i k with h | h | h
    · rw [hl' i h]; simp; omega
    · subst h
      have hn : ¬ ∃ j, j < i ∧ x.getLsbD j = true := fun ⟨j, hj, hjb⟩ => by rw [hl' j hj] at hjb; cases hjb
      simp [hb, hi, hn]
    · have hy : ∃ j, j < i ∧ x.getLsbD j = true := ⟨k, h, hb⟩
      have hne : ¬ (k = i) := by omega
      rw [decide_eq_true hy, decide_eq_true hi]
      simp [hne]
  rw [e]
  have e2 : BitVec.twoPow 64 k - 1 = BitVec.ofNat 64 (2 ^ k - 1) := by
    apply BitVec.eq_of_toNat_eq
    have h1 : 2 ^ k < 2 ^ 64 := wb_lt2 hk
    have h0 : 0 < 2 ^ k := Nat.two_pow_pos k
    rw [BitVec.toNat_sub, BitVec.toNat_twoPow, BitVec.toNat_ofNat, Nat.mod_eq_of_lt h1, Nat.mod_eq_of_lt (show 2 ^ k - 1 < 2 ^ 64 by omega)]
    show (2 ^ 64 - 1 + 2 ^ k) % 2 ^ 64 = _
    omega
  rw [e2]
  have e3 : ∀ i, i < 64 → (BitVec.ofNat 64 (2 ^ k - 1)).getLsbD i = decide (i < k) := fun i hi => by
    rw [BitVec.getLsbD_ofNat, Nat.testBit_two_pow_sub_one]; simp [hi]
  rw [ct_congr 64 e3, ct_more (p := fun i => decide (i < k)) k 64 (by omega) (fun i h1 _ => by simp; omega)]
  exact ct_all k (fun i hi => by simp [hi])
def nx_ok (f : Nat → Int64) (row frm : Nat) (v : Int32) : Prop := (v = -1 ∧ ∀ i, frm ≤ i → i < 320 → bt_r f row i = false) ∨ (∃ j, v = nI j ∧ frm ≤ j ∧ j < 320 ∧ bt_r f row j = true ∧ ∀ i, frm ≤ i → i < j → bt_r f row i = false)
theorem lp_next {l : Launch} {g : am_G} {d : Nat} {x : Bool} {h : am_H} {a w n row frm : Nat} {f : Nat → Int64} {Q : Option Value → am_H → Prop} (ha : h[a]? = some (am_O 2 [.ref w])) (hw : h[w]? = some (am_L n f)) (hr : row * 5 + 5 ≤ n) (hr2 : row < 1000) (hn : n < 10000) (hK : ∀ v, nx_ok f row frm v → Q (some (.int v)) h) :
    ∀ k c (m : Int64), c + k = 5 → frm ≤ c * 64 + 64 → (∀ i, i < 64 → m.toBitVec.getLsbD i = decide (frm ≤ c * 64 + i)) → (∀ i, frm ≤ i → i < c * 64 → bt_r f row i = false) → am_J l g mX2_next (d + 1) (0, 0, x) 15 [(0, .ref a), (1, .int (nI row)), (3, .long m), (5, .int (nI c))] [] h Q := by
  intro k
  induction k with
  | zero =>
    intro c m hc hfr hm hb
    have : c = 5 := by omega
    subst this
    refine rX2_next_15 ⟨fun _ => ?_, fun hq => absurd (show (5 : Int32) ≤ nI 5 from by decide) hq⟩
    exact hK _ (Or.inl ⟨rfl, fun i h1 h2 => hb i h1 (by omega)⟩)
  | succ k ih =>
    intro c m hc hfr hm hb
    refine rX2_next_15 ⟨fun hq => ?_, fun _ => ?_⟩
    · exact absurd ((nI_leI (a := 5) (b := c) (by decide) (by omega)).mp hq) (by omega)
    · rw [show ((5 : Int32)) = nI 5 from rfl, pk_mul, nI_add]
      refine ⟨_, w, ha, rfl, n, f, hw, vp_in_nI (by omega) (by omega), ?_⟩
      rw [nI_clamp (by omega)]
      have hbit : ∀ i, i < 64 → (f (row * 5 + c) &&& m).toBitVec.getLsbD i = (bt_r f row (c * 64 + i) && decide (frm ≤ c * 64 + i)) := fun i hi => by
        rw [Int64.toBitVec_and, BitVec.getLsbD_and, hm i hi]
        unfold bt_r
        rw [show (c * 64 + i) / 64 = c by omega, show (c * 64 + i) % 64 = i by omega]
      constructor
      · intro hz
        have hz0 := (lg0 _).mp hz
        rw [show ((nI c : Int32) + 1) = nI (c + 1) from nI_1 c]
        refine ih (c + 1) (-1) (by omega) (by omega) ?_ ?_
        · intro i hi
          have : ((-1 : Int64)).toBitVec = BitVec.allOnes 64 := by decide
          rw [this, BitVec.getLsbD_allOnes]
          have hf : frm ≤ (c + 1) * 64 + i := by omega
          simp [hi, hf]
        · intro i h1 h2
          by_cases h3 : i < c * 64
          · exact hb i h1 h3
          · have := hbit (i - c * 64) (by omega)
            rw [hz0, show c * 64 + (i - c * 64) = i by omega] at this
            simp [h1] at this
            exact this
      · intro hz
        have hz0 : ¬ (f (row * 5 + c) &&& m) = 0 := fun e => hz ((lg0 _).mpr e)
        obtain ⟨kk, hk1, hk2, hk3, hk4⟩ := lo_bit (f (row * 5 + c) &&& m).toBitVec (fun e => hz0 (wb_inj (by rw [e]; rfl)))
        refine sp_bitCount ?_
        rw [Int64.toBitVec_sub, Int64.toBitVec_and, Int64.toBitVec_neg]
        have hk4' : fb_ct (fun i => (((f (row * 5 + c) &&& m).toBitVec &&& -(f (row * 5 + c) &&& m).toBitVec) - (1 : Int64).toBitVec).getLsbD i) 64 = kk := hk4
        rw [hk4', show ((64 : Int32)) = nI 64 from rfl, pk_mul, nI_add]
        rw [hbit kk hk1] at hk2
        simp only [Bool.and_eq_true, decide_eq_true_eq] at hk2
        refine hK _ (Or.inr ⟨c * 64 + kk, rfl, hk2.2, by omega, hk2.1, fun i h1 h2 => ?_⟩)
        by_cases h3 : i < c * 64
        · exact hb i h1 h3
        · have := hk3 (i - c * 64) (by omega)
          rw [hbit _ (by omega), show c * 64 + (i - c * 64) = i by omega] at this
          simp [h1] at this
          exact this
theorem sp_next {l : Launch} {g : am_G} {d : Nat} {x : Bool} {h : am_H} {a w n row frm : Nat} {f : Nat → Int64} {K : Int32 → am_H → Prop} (ha : h[a]? = some (am_O 2 [.ref w])) (hw : h[w]? = some (am_L n f)) (hr : row * 5 + 5 ≤ n) (hr2 : row < 1000) (hn : n < 10000) (hf : frm ≤ 320) (hK : ∀ v, nx_ok f row frm v → K v h) : cl_I l g mX2_next (d + 1) x [.ref a, .int (nI row), .int (nI frm)] h K := by
  refine eX2_next ?_
  unfold zX2_next_0
  rw [pk_shrN (n := frm) (by omega) _ 6 (by decide), am_63 (by omega)]
  refine lp_next ha hw hr hr2 hn (frm := frm) (fun v hv => ⟨v, rfl, hK v hv⟩) (5 - frm / 64) (frm / 64) _ (by omega) (by omega) (fun i hi => ?_) (fun i h1 h2 => by omega)
  have hs : ((-1 : Int64) <<< (Int32.toInt64 (nI (frm % 64)) &&& (63 : Int64))) = lN ((2 ^ 64 - 1) * 2 ^ (frm % 64)) := wb_shl (2 ^ 64 - 1) (k := frm % 64) (by omega)
  rw [hs, wb_tb, BitVec.getLsbD_ofNat, Nat.testBit_mul_two_pow]
  simp only [hi, decide_true, Bool.true_and, Nat.testBit_two_pow_sub_one]
  have e : (frm % 64 ≤ i ∧ i - frm % 64 < 64) ↔ frm ≤ frm / 64 * 64 + i := by omega
  rw [← Bool.decide_and]
  exact decide_eq_decide.mpr e
/-! how many -/
theorem lp_size {l : Launch} {g : am_G} {d : Nat} {x : Bool} {h : am_H} {a w n row : Nat} {f : Nat → Int64} {Q : Option Value → am_H → Prop} (ha : h[a]? = some (am_O 2 [.ref w])) (hw : h[w]? = some (am_L n f)) (hr : row * 5 + 5 ≤ n) (hr2 : row < 1000) (hn : n < 10000) (hK : Q (some (.int (nI (fb_ct (bt_r f row) 320)))) h) :
    ∀ k c, c + k = 5 → am_J l g mX2_size (d + 1) (0, 0, x) 4 [(0, .ref a), (1, .int (nI row)), (2, .int (nI (fb_ct (bt_r f row) (c * 64)))), (3, .int (nI c))] [] h Q := by
  intro k
  induction k with
  | zero =>
    intro c hc
    have : c = 5 := by omega
    subst this
    exact rX2_size_4 ⟨fun _ => hK, fun hq => absurd (show (5 : Int32) ≤ nI 5 from by decide) hq⟩
  | succ k ih =>
    intro c hc
    refine rX2_size_4 ⟨fun hq => ?_, fun _ => ?_⟩
    · exact absurd ((nI_leI (a := 5) (b := c) (by decide) (by omega)).mp hq) (by omega)
    · rw [show ((5 : Int32)) = nI 5 from rfl, pk_mul, nI_add]
      refine ⟨_, w, ha, rfl, n, f, hw, vp_in_nI (by omega) (by omega), ?_⟩
      rw [nI_clamp (by omega)]
      refine sp_bitCount ?_
      have e : fb_ct (bt_r f row) (c * 64) + fb_ct (fun i => (f (row * 5 + c)).toBitVec.getLsbD i) 64 = fb_ct (bt_r f row) ((c + 1) * 64) := by
        rw [show (c + 1) * 64 = c * 64 + 64 by omega, ct_add]
        congr 1
        apply ct_congr
        intro i hi
        unfold bt_r
        rw [show (c * 64 + i) / 64 = c by omega, show (c * 64 + i) % 64 = i by omega]
      rw [nI_add, e, nI_1]
      exact ih (c + 1) (by omega)
theorem sp_size {l : Launch} {g : am_G} {d : Nat} {x : Bool} {h : am_H} {a w n row : Nat} {f : Nat → Int64} {K : Int32 → am_H → Prop} (ha : h[a]? = some (am_O 2 [.ref w])) (hw : h[w]? = some (am_L n f)) (hr : row * 5 + 5 ≤ n) (hr2 : row < 1000) (hn : n < 10000) (hK : K (nI (fb_ct (bt_r f row) 320)) h) : cl_I l g mX2_size (d + 1) x [.ref a, .int (nI row)] h K := by
  refine eX2_size ?_
  unfold zX2_size_0
  exact lp_size ha hw hr hr2 hn ⟨_, rfl, hK⟩ 5 0 rfl
/-! a row put into another -/
def up_L (f : Nat → Int64) (b c : Nat) (s : Nat → Int64) : Nat → Int64 := fun j => if b ≤ j ∧ j < b + c then f j ||| s (j - b) else f j
theorem up_L_0 (f : Nat → Int64) (b : Nat) (s : Nat → Int64) : up_L f b 0 s = f := by
  funext j; unfold up_L; rw [if_neg (by omega)]
theorem up_L_s (f : Nat → Int64) (b c : Nat) (s : Nat → Int64) : vp_updL (up_L f b c s) (b + c) (f (b + c) ||| s c) = up_L f b (c + 1) s := by
  funext j
  unfold vp_updL up_L
  by_cases h : j = b + c
  · subst h
    rw [if_pos rfl, if_pos (by omega), Nat.add_sub_cancel_left]
  · rw [if_neg h]
    by_cases h2 : b ≤ j ∧ j < b + c
    · rw [if_pos h2, if_pos (by omega)]
    · rw [if_neg h2, if_neg (by omega)]
theorem set_same {h : am_H} {w : Nat} {c : am_C} (hw : h[w]? = some c) : h.set w c = h := by
  apply List.ext_getElem?
  intro i
  by_cases e : w = i
  · subst e; rw [st_eq hw, hw]
  · rw [st_ne e]
theorem lp_putAll {l : Launch} {g : am_G} {d : Nat} {x : Bool} {h : am_H} {a w n row a2 w2 n2 row2 : Nat} {f f2 : Nat → Int64} {Q : Option Value → am_H → Prop} (ha : h[a]? = some (am_O 2 [.ref w])) (hw : h[w]? = some (am_L n f)) (ha2 : h[a2]? = some (am_O 2 [.ref w2])) (hw2 : h[w2]? = some (am_L n2 f2)) (hne : w2 ≠ w ∨ row2 ≠ row) (haw : a ≠ w) (haw2 : a2 ≠ w) (hr : row * 5 + 5 ≤ n) (hr1 : row2 * 5 + 5 ≤ n2) (hn : n < 10000) (hn2 : n2 < 10000)
    (hK : Q none (h.set w (am_L n (up_L f (row * 5) 5 (fun i => f2 (row2 * 5 + i)))))) :
    ∀ k c, c + k = 5 → am_J l g mX2_putAllOf d (0, 0, x) 3 [(0, .ref a), (1, .int (nI row)), (2, .ref a2), (3, .int (nI row2)), (4, .int (nI c))] [] (h.set w (am_L n (up_L f (row * 5) c (fun i => f2 (row2 * 5 + i))))) Q := by
  intro k
  induction k with
  | zero =>
    intro c hc
    have : c = 5 := by omega
    subst this
    exact rX2_putAllOf_3 ⟨fun _ => hK, fun hq => absurd (show (5 : Int32) ≤ nI 5 from by decide) hq⟩
  | succ k ih =>
    intro c hc
    refine rX2_putAllOf_3 ⟨fun hq => ?_, fun _ => ?_⟩
    · exact absurd ((nI_leI (a := 5) (b := c) (by decide) (by omega)).mp hq) (by omega)
    · rw [show ((5 : Int32)) = nI 5 from rfl, pk_mul, pk_mul, nI_add, nI_add]
      have hwc : (h.set w (am_L n (up_L f (row * 5) c (fun i => f2 (row2 * 5 + i)))))[w]? = some (am_L n (up_L f (row * 5) c (fun i => f2 (row2 * 5 + i)))) := st_eq hw
      have e1 : up_L f (row * 5) c (fun i => f2 (row2 * 5 + i)) (row * 5 + c) = f (row * 5 + c) := by unfold up_L; rw [if_neg (by omega)]
      have hac : (h.set w (am_L n (up_L f (row * 5) c (fun i => f2 (row2 * 5 + i)))))[a]? = some (am_O 2 [.ref w]) := by rw [st_ne (Ne.symm haw)]; exact ha
      have hac2 : (h.set w (am_L n (up_L f (row * 5) c (fun i => f2 (row2 * 5 + i)))))[a2]? = some (am_O 2 [.ref w2]) := by rw [st_ne (Ne.symm haw2)]; exact ha2
      refine ⟨_, w, hac, rfl, n, _, hwc, vp_in_nI (by omega) (by omega), ?_⟩
      rw [nI_clamp (by omega), e1]
      have key : ∃ ff, (h.set w (am_L n (up_L f (row * 5) c (fun i => f2 (row2 * 5 + i)))))[w2]? = some (am_L n2 ff) ∧ ff (row2 * 5 + c) = f2 (row2 * 5 + c) := by
        by_cases hq : w2 = w
        · subst hq
          have e2 : n2 = n ∧ f2 = f := by
            rw [hw] at hw2
            cases hw2
            exact ⟨rfl, rfl⟩
          obtain ⟨rfl, rfl⟩ := e2
          refine ⟨_, hwc, ?_⟩
          have hrow : row2 ≠ row := hne.resolve_left (fun z => z rfl)
          unfold up_L
          rw [if_neg (by omega)]
        · exact ⟨f2, by rw [st_ne (Ne.symm hq)]; exact hw2, rfl⟩
      obtain ⟨ff, hf1, hf2⟩ := key
      refine ⟨_, w2, hac2, rfl, n2, ff, hf1, vp_in_nI (by omega) (by omega), ?_⟩
      rw [nI_clamp (by omega), hf2]
      refine ⟨n, _, hwc, vp_in_nI (by omega) (by omega), ?_⟩
      rw [nI_clamp (by omega), List.set_set, up_L_s, nI_1]
      exact ih (c + 1) (by omega)
theorem bt_up {f s : Nat → Int64} {row r i : Nat} (hi : i < 320) : bt_r (up_L f (row * 5) 5 s) r i = (if r = row then (bt_r f r i || (s (i / 64)).toBitVec.getLsbD (i % 64)) else bt_r f r i) := by
  unfold bt_r up_L
  by_cases h : r = row
  · subst h
    rw [if_pos (by omega), if_pos rfl, Int64.toBitVec_or, BitVec.getLsbD_or, Nat.add_sub_cancel_left]
  · rw [if_neg (by omega), if_neg h]
theorem sp_putAll {l : Launch} {g : am_G} {d : Nat} {x : Bool} {h : am_H} {a w n row a2 w2 n2 row2 : Nat} {f f2 : Nat → Int64} {K : am_H → Prop} (ha : h[a]? = some (am_O 2 [.ref w])) (hw : h[w]? = some (am_L n f)) (ha2 : h[a2]? = some (am_O 2 [.ref w2])) (hw2 : h[w2]? = some (am_L n2 f2)) (hne : w2 ≠ w ∨ row2 ≠ row) (hr : row * 5 + 5 ≤ n) (hr1 : row2 * 5 + 5 ≤ n2) (hn : n < 10000) (hn2 : n2 < 10000)
    (hK : ∀ f', (∀ r i, i < 320 → bt_r f' r i = (if r = row then (bt_r f r i || bt_r f2 row2 i) else bt_r f r i)) → K (h.set w (am_L n f'))) : cl_N l g mX2_putAllOf d x [.ref a, .int (nI row), .ref a2, .int (nI row2)] h K := by
  refine eX2_putAllOf ?_
  unfold zX2_putAllOf_0
  have haw : a ≠ w := fun e => by rw [e, hw] at ha; cases ha
  have haw2 : a2 ≠ w := fun e => by rw [e, hw] at ha2; cases ha2
  have hl := lp_putAll (l := l) (g := g) (d := d) (x := x) (Q := fun r h' => r = none ∧ K h') ha hw ha2 hw2 hne haw haw2 hr hr1 hn hn2 ⟨rfl, hK _ (fun r i hi => bt_up hi)⟩ 5 0 rfl
  rw [up_L_0, set_same hw] at hl
  exact hl
/-! all marks dropped; Arrays.fill -/
def fl_u {α : Type} (f : Nat → α) (v : α) (c : Nat) : Nat → α := fun j => if j < c then v else f j
theorem fl_u0 {α : Type} (f : Nat → α) (v : α) : fl_u f v 0 = f := by funext j; simp [fl_u]
theorem fl_uL (f : Nat → Int64) (v : Int64) (c : Nat) : vp_updL (fl_u f v c) c v = fl_u f v (c + 1) := by
  funext j
  unfold vp_updL fl_u
  by_cases h : j = c
  · subst h; simp
  · rw [if_neg h]
    by_cases h2 : j < c
    · rw [if_pos h2, if_pos (by omega)]
    · rw [if_neg h2, if_neg (by omega)]
theorem fl_uI (f : Nat → Int32) (v : Int32) (c : Nat) : upd (fl_u f v c) c v = fl_u f v (c + 1) := by
  funext j
  unfold upd fl_u
  by_cases h : j = c
  · subst h; simp
  · rw [if_neg h]
    by_cases h2 : j < c
    · rw [if_pos h2, if_pos (by omega)]
    · rw [if_neg h2, if_neg (by omega)]
