/-! what code does, over pictures -/
def gt_I (h : am_H) (a ci k : Nat) (K : Int32 → Prop) : Prop := ∃ (fs : List Value) (x : Int32), h[a]? = some (am_O ci fs) ∧ fs[k]? = some (.int x) ∧ K x
def gt_L (h : am_H) (a ci k : Nat) (K : Int64 → Prop) : Prop := ∃ (fs : List Value) (x : Int64), h[a]? = some (am_O ci fs) ∧ fs[k]? = some (.long x) ∧ K x
def gt_R (h : am_H) (a ci k : Nat) (K : Nat → Prop) : Prop := ∃ (fs : List Value) (x : Nat), h[a]? = some (am_O ci fs) ∧ fs[k]? = some (.ref x) ∧ K x
def pt_V (h : am_H) (a ci k : Nat) (v : Value) (K : am_H → Prop) : Prop := ∃ (fs : List Value), h[a]? = some (am_O ci fs) ∧ k < fs.length ∧ K (h.set a (am_O ci (fs.set k v)))
def al_I (t : Nat) (h : am_H) (a : Nat) (i : Int32) (K : Int32 → Prop) : Prop := ∃ (n : Nat) (f : Nat → Int32), h[a]? = some (am_I t n f) ∧ vp_in i n ∧ K (f i.toNatClampNeg)
def al_L (h : am_H) (a : Nat) (i : Int32) (K : Int64 → Prop) : Prop := ∃ (n : Nat) (f : Nat → Int64), h[a]? = some (am_L n f) ∧ vp_in i n ∧ K (f i.toNatClampNeg)
def as_I (t : Nat) (h : am_H) (a : Nat) (i x : Int32) (K : am_H → Prop) : Prop := ∃ (n : Nat) (f : Nat → Int32), h[a]? = some (am_I t n f) ∧ vp_in i n ∧ K (h.set a (am_I t n (upd f i.toNatClampNeg x)))
def as_L (h : am_H) (a : Nat) (i : Int32) (x : Int64) (K : am_H → Prop) : Prop := ∃ (n : Nat) (f : Nat → Int64), h[a]? = some (am_L n f) ∧ vp_in i n ∧ K (h.set a (am_L n (vp_updL f i.toNatClampNeg x)))
def ln_I (h : am_H) (a : Nat) (K : Int32 → Prop) : Prop := ∃ (n : Nat) (f : Nat → Int32), h[a]? = some (am_I 0 n f) ∧ K (Int32.ofNat n)
def ln_L (h : am_H) (a : Nat) (K : Int32 → Prop) : Prop := ∃ (n : Nat) (f : Nat → Int64), h[a]? = some (am_L n f) ∧ K (Int32.ofNat n)
/-- a method called: it gives an int, or nothing -/
def cl_I (l : Launch) (g : am_G) (M : am_M) (d : Nat) (x : Bool) (vs : List Value) (h : am_H) (K : Int32 → am_H → Prop) : Prop := am_J l g M d (0, 0, x) 0 (lv_args 0 vs) [] h (fun r h' => ∃ v, r = some (.int v) ∧ K v h')
def cl_N (l : Launch) (g : am_G) (M : am_M) (d : Nat) (x : Bool) (vs : List Value) (h : am_H) (K : am_H → Prop) : Prop := am_J l g M d (0, 0, x) 0 (lv_args 0 vs) [] h (fun r h' => r = none ∧ K h')
def cv_I (l : Launch) (g : am_G) (M : am_M) (d : Nat) (x : Bool) (ci b : Nat) (As : List Value) (h : am_H) (K : Int32 → am_H → Prop) : Prop := (∃ fs, h[b]? = some (am_O ci fs)) ∧ cl_I l g M d x (.ref b :: As) h K
def cv_N (l : Launch) (g : am_G) (M : am_M) (d : Nat) (x : Bool) (ci b : Nat) (As : List Value) (h : am_H) (K : am_H → Prop) : Prop := (∃ fs, h[b]? = some (am_O ci fs)) ∧ cl_N l g M d x (.ref b :: As) h K
abbrev cs_I (l : Launch) (g : am_G) (M : am_M) (d : Nat) (x : Bool) (As : List Value) (h : am_H) (K : Int32 → am_H → Prop) : Prop := cl_I l g M d x As h K
abbrev cs_N (l : Launch) (g : am_G) (M : am_M) (d : Nat) (x : Bool) (As : List Value) (h : am_H) (K : am_H → Prop) : Prop := cl_N l g M d x As h K
abbrev ci_N (l : Launch) (g : am_G) (M : am_M) (d : Nat) (x : Bool) (b : Nat) (As : List Value) (h : am_H) (K : am_H → Prop) : Prop := cl_N l g M d x (.ref b :: As) h K
theorem am_nar01 {M : am_M} {v : Int32} (hM : M.2.2.2.1 = some .boolean) (h : v = 0 ∨ v = 1) : am_nar M v := ⟨.boolean, hM, by rcases h with rfl | rfl <;> rfl⟩
theorem am_sw_0_5 {x : Int32} (h : ¬ (x.toInt < 0 ∨ 5 < x.toInt)) : x = 0 ∨ x = 1 ∨ x = 2 ∨ x = 3 ∨ x = 4 ∨ x = 5 := by
  simp only [← Int32.toInt_inj]
  show x.toInt = 0 ∨ x.toInt = 1 ∨ x.toInt = 2 ∨ x.toInt = 3 ∨ x.toInt = 4 ∨ x.toInt = 5
  omega
theorem am_sw_1_5 {x : Int32} (h : ¬ (x.toInt < 1 ∨ 5 < x.toInt)) : x = 1 ∨ x = 2 ∨ x = 3 ∨ x = 4 ∨ x = 5 := by
  simp only [← Int32.toInt_inj]
  show x.toInt = 1 ∨ x.toInt = 2 ∨ x.toInt = 3 ∨ x.toInt = 4 ∨ x.toInt = 5
  omega
theorem am_sw_0_7 {x : Int32} (h : ¬ (x.toInt < 0 ∨ 7 < x.toInt)) : x = 0 ∨ x = 1 ∨ x = 2 ∨ x = 3 ∨ x = 4 ∨ x = 5 ∨ x = 6 ∨ x = 7 := by
  simp only [← Int32.toInt_inj]
  show x.toInt = 0 ∨ x.toInt = 1 ∨ x.toInt = 2 ∨ x.toInt = 3 ∨ x.toInt = 4 ∨ x.toInt = 5 ∨ x.toInt = 6 ∨ x.toInt = 7
  omega
theorem am_sw_0_12 {x : Int32} (h : ¬ (x.toInt < 0 ∨ 12 < x.toInt)) : x = 0 ∨ x = 1 ∨ x = 2 ∨ x = 3 ∨ x = 4 ∨ x = 5 ∨ x = 6 ∨ x = 7 ∨ x = 8 ∨ x = 9 ∨ x = 10 ∨ x = 11 ∨ x = 12 := by
  simp only [← Int32.toInt_inj]
  show x.toInt = 0 ∨ x.toInt = 1 ∨ x.toInt = 2 ∨ x.toInt = 3 ∨ x.toInt = 4 ∨ x.toInt = 5 ∨ x.toInt = 6 ∨ x.toInt = 7 ∨ x.toInt = 8 ∨ x.toInt = 9 ∨ x.toInt = 10 ∨ x.toInt = 11 ∨ x.toInt = 12
  omega
theorem am_sw_0_15 {x : Int32} (h : ¬ (x.toInt < 0 ∨ 15 < x.toInt)) : x = 0 ∨ x = 1 ∨ x = 2 ∨ x = 3 ∨ x = 4 ∨ x = 5 ∨ x = 6 ∨ x = 7 ∨ x = 8 ∨ x = 9 ∨ x = 10 ∨ x = 11 ∨ x = 12 ∨ x = 13 ∨ x = 14 ∨ x = 15 := by
  simp only [← Int32.toInt_inj]
  show x.toInt = 0 ∨ x.toInt = 1 ∨ x.toInt = 2 ∨ x.toInt = 3 ∨ x.toInt = 4 ∨ x.toInt = 5 ∨ x.toInt = 6 ∨ x.toInt = 7 ∨ x.toInt = 8 ∨ x.toInt = 9 ∨ x.toInt = 10 ∨ x.toInt = 11 ∨ x.toInt = 12 ∨ x.toInt = 13 ∨ x.toInt = 14 ∨ x.toInt = 15
  omega
theorem fROOM : Cond.fieldLink RX8 228 "RingWeaves" "ROOM" "[I" ∈ lw_gw := am_in 827 (by decide +kernel) rfl
theorem mn_st : Cond.static yJ9_min_7cf53 ∈ lw_gw := am_in 702 (by decide +kernel) rfl
theorem mn_in : Cond.initialized "java/lang/Math" ∈ lw_gw := am_in 100 (by decide +kernel) rfl
theorem mn_co : Cond.code Lib.Math.min.name Lib.Math.min.code 2 (some .int) ∈ lw_gw := am_in 703 (by decide +kernel) rfl
