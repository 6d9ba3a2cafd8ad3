/-! ===== THE PICTURE: the heap from n0 on as a list of cells, methods judged by am_J ===== -/
abbrev am_C : Type := (Nat × Nat × (Nat → Int32)) ⊕ ((Nat × (Nat → Int64)) ⊕ (Nat × List Value))
abbrev am_I (t n : Nat) (f : Nat → Int32) : am_C := .inl (t, n, f)
abbrev am_L (n : Nat) (f : Nat → Int64) : am_C := .inr (.inl (n, f))
abbrev am_O (c : Nat) (fs : List Value) : am_C := .inr (.inr (c, fs))
abbrev am_H : Type := List am_C
/-- where the picture begins, class numbers and slots, array classes, the script (cell, length, ints), ROOM's cell, the two texts' cells -/
abbrev am_G : Type := Nat × va_G × (Nat → ClassId) × (Nat × Nat × (Nat → Int32)) × Nat × Nat × Nat
def am_t (g : am_G) : Value → Value
  | .int v => .int v
  | .long v => .long v
  | .float v => .float v
  | .double v => .double v
  | .null => .null
  | .ref a => .ref (g.1 + a)
  | .retAddr k => .ref (if k = 0 then g.2.2.2.1.1 else g.2.2.2.2.1)
def am_e (g : am_G) : am_C → va_E
  | .inl q => .inl (g.2.2.1 q.1, q.2.1, .inl q.2.2)
  | .inr (.inl q) => .inl (g.2.2.1 1, q.1, .inr (.inl q.2))
  | .inr (.inr q) => .inr (q.1, q.2.map (am_t g))
def am_w (g : am_G) (h : am_H) : va_W := h.mapIdx (fun i c => (g.1 + i, am_e g c))
def am_tys (g : am_G) : List (ClassId × FieldType) := [(g.2.2.1 0, .int), (g.2.2.1 1, .long), (g.2.2.1 2, .boolean), (g.2.2.1 3, .char)]
def am_A (g : am_G) : Nat → Prop := fun q => g.1 ≤ q
def am_room : Nat → Int32 := fun j => match j with
  | 0 => 0
  | 1 => 1000
  | 2 => 2000
  | 3 => 2155
  | 4 => 2414
  | 5 => 2701
  | 6 => 3000
  | 7 => 3000
  | _ => 3304
abbrev am_NS : String := "java/util/NoSuchElementException"
/-- words of a throw that warming keeps, each by a law of its own -/
def am_odd : List Cond := [.castable am_NS am_NS, .declares (Bundle.initS "java/lang/RuntimeException"), .declares (Bundle.initS "java/lang/Exception"), .declares (Bundle.initS Bundle.tN)]
theorem am_odd_next {s U : State} (h : ∀ w ∈ am_odd, w.before #[] s = true) (hW : s.WarmedH U.vm) : ∀ w ∈ am_odd, w.before #[] U = true := by
  have d : ∀ y : MethodName, Cond.declares y ∈ am_odd → (Cond.declares y).before #[] U = true := fun y hy => by
    have h6 : (Cond.declares y).before #[] (s.setVm U.vm) = true := by rw [Cond.declares_setVm hW.alike]; exact h _ hy
    exact va_tabs (u := s.setVm U.vm) rfl rfl h6
  intro w hw
  simp only [am_odd, List.mem_cons, List.not_mem_nil, or_false] at hw
  rcases hw with e | e | e | e
  · rw [e]
    have h6 : (Cond.castable am_NS am_NS).before #[] (s.setVm U.vm) = true := by rw [Cond.castable_setVm hW.alike]; exact h _ (by simp [am_odd])
    exact va_tabs (u := s.setVm U.vm) rfl rfl h6
  · rw [e]; exact d _ (by simp [am_odd])
  · rw [e]; exact d _ (by simp [am_odd])
  · rw [e]; exact d _ (by simp [am_odd])
/-- what a throw wants: two statics of Throwable, the two texts, that the exception is caught by its own name -/
def am_Y (g : am_G) (U : State) (H : Heap) : Prop :=
  vx_Zq Bundle.tN "UNASSIGNED_STACK" Bundle.steD (am_A g) U H ∧ vx_Zq Bundle.tN "SUPPRESSED_SENTINEL" Bundle.listD (am_A g) U H ∧ vk_R "RingWeaves" 137 "no such ring, or no such thing to look for" g.2.2.2.2.2.1 U ∧ vk_R "RingWeaves" 146 "the ring is taken" g.2.2.2.2.2.2 U ∧ ∀ w ∈ am_odd, w.before #[] U = true
theorem am_Y_next {g : am_G} {s U : State} {H : Heap} {locs : List Loc} (h : am_Y g s s.heap) (hS : va_S (am_A g) s.heap H locs) (hU : U.heap = H) (hW : s.WarmedH U.vm) : am_Y g U U.heap := by
  obtain ⟨h1, h2, h3, h4, h5⟩ := h
  rw [hU]
  exact ⟨vx_Zq.moved hW.alike (h1.kept hS.2.1), vx_Zq.moved hW.alike (h2.kept hS.2.1), vk_R.warm hW h3, vk_R.warm hW h4, am_odd_next h5 hW⟩
/-- what the start gives, as it stands at a method's entry -/
def am_X (g : am_G) (U : State) (H : Heap) : Prop :=
  va_X g.2.2.2.1.1 g.2.2.2.1.2.1 g.2.2.2.1.2.2 U H ∧ g.2.2.2.1.1 < g.1 ∧ va_Z "RingWeaves" "ROOM" "[I" (.ref g.2.2.2.2.1) (am_A g) U H ∧ va_T .int g.2.2.2.2.1 9 (fun j => .int (am_room j)) (am_A g) U H ∧ g.1 ≤ H.size ∧ am_Y g U H
def am_r (g : am_G) (s : State) (H : Heap) (locs : List Loc) (k : Nat) (x : Bool) (h : am_H) : Prop :=
  va_K g.2.1 am_cls (am_tys g) s ∧ am_X g s s.heap ∧ va_P g.2.1 am_cls (am_w g h) H ∧ va_D (am_A g) (am_w g h) ∧ va_S (am_A g) s.heap H locs ∧ (x = true → H.size = g.1 + h.length ∧ H.size = s.heap.size + k)
def am_ctx (M : am_M) (d : Nat) (p : Program) (R : Room) (s : State) (m : MethodId) (args : Array Value) (meth : Method) (c : Code) : Prop :=
  p.tables.exec = Jvm.exec ∧ c.code = M.2.1 ∧ meth.sig.returnType = M.2.2.2.1 ∧ c.maxLocals = M.2.2.1 ∧ s.vm.findClass M.1.cls = some m.cls ∧ (∀ w ∈ lw_gw, w.before args s = true) ∧ meth.locks = false ∧ meth.name = M.1.name ∧ d ≤ R.frames ∧ d * 41 ≤ R.locals ∧ M.2.2.2.2.1 ≤ R.cells ∧ M.2.2.2.2.2 ≤ R.slots
/-- whether a method's end must tell the heap's size: all but the law -/
def am_x (M : am_M) (x : Bool) : Bool := decide (M.2.2.2.2.1 < 1000) && x
def am_nar (M : am_M) (v : Int32) : Prop := ∃ ty, M.2.2.2.1 = some ty ∧ narrow ty (.int v) = .int v
def am_lv (g : am_G) (L : List (Nat × Value)) : List (Nat × Value) := L.map (fun q => (q.1, am_t g q.2))
/-- a method at pc, with these locals, this stack, this picture, comes to an end (value, picture) with Q; kn: cells and slots made so far, and whether the picture is the whole heap from n0 on -/
def am_J (l : Launch) (g : am_G) (M : am_M) (d : Nat) (kn : Nat × Nat × Bool) (pc : Nat) (L : List (Nat × Value)) (S : List Value) (h : am_H) (Q : Option Value → am_H → Prop) : Prop :=
  ∀ (p : Program) (e : Env) (R : Room) (s : State) (m : MethodId) (args : Array Value) (below : List Frame) (meth : Method) (c : Code) (H : Heap) (locs : List Loc) (ls : Array Slot) (Qm : State → Prop),
    am_ctx M d p R s m args meth c → am_r g s H locs kn.1 kn.2.2 h → lv_has ls M.2.2.1 (am_lv g L) →
    (∀ (h' : am_H) (H' : Heap) (locs' : List Loc), Q none h' → M.2.2.2.1 = none → am_r g s H' locs' M.2.2.2.2.1 (am_x M kn.2.2) h' → ∀ (pc' : Nat) (ls' : Array Slot), decode M.2.1 pc' = .ok (.return_, 1) → W p l e R s m args below meth c H' locs' M.2.2.2.2.1 M.2.2.2.2.2 Qm (F0 m pc' ls' [])) →
    (∀ (v : Int32) (h' : am_H) (H' : Heap) (locs' : List Loc), Q (some (.int v)) h' → am_nar M v → am_r g s H' locs' M.2.2.2.2.1 (am_x M kn.2.2) h' → ∀ (pc' : Nat) (ls' : Array Slot), decode M.2.1 pc' = .ok (.ireturn, 1) → W p l e R s m args below meth c H' locs' M.2.2.2.2.1 M.2.2.2.2.2 Qm (F0 m pc' ls' [.int v])) →
    (∀ (k : Nat) (h' : am_H) (H' : Heap) (locs' : List Loc) (k' n' : Nat), Q (some (.retAddr k)) h' → k' ≤ M.2.2.2.2.1 → n' ≤ M.2.2.2.2.2 → am_r g s H' locs' k' false h' → ∀ (ls' : Array Slot), ls'.size = M.2.2.1 → W p l e R s m args below meth c H' locs' k' n' Qm (F0 m k ls' [])) →
    W p l e R s m args below meth c H locs kn.1 kn.2.1 Qm (F0 m pc ls (S.map (am_t g)))
theorem am_t_cat (g : am_G) (v : Value) : (am_t g v).category = v.category := by cases v <;> rfl
theorem am_w_get {g : am_G} {h : am_H} {a : Nat} {c : am_C} (hh : h[a]? = some c) : (am_w g h)[a]? = some (g.1 + a, am_e g c) := by
  simp [am_w, List.getElem?_mapIdx, hh]
theorem am_w_set {g : am_G} {h : am_H} {a : Nat} {c : am_C} : (am_w g h).set a (g.1 + a, am_e g c) = am_w g (h.set a c) := by
  apply List.ext_getElem?
  intro i
  simp only [am_w, List.getElem?_set, List.getElem?_mapIdx, List.length_mapIdx]
  by_cases hi : a = i
  · subst hi
    by_cases hl : a < h.length
    · simp [hl]
    · simp [hl]
  · simp [hi]
theorem am_w_push {g : am_G} {h : am_H} {c : am_C} : am_w g h ++ [(g.1 + h.length, am_e g c)] = am_w g (h ++ [c]) := by
  simp [am_w, List.mapIdx_append]
theorem am_w_len {g : am_G} {h : am_H} : (am_w g h).length = h.length := by simp [am_w]
theorem am_lv_get {g : am_G} {L : List (Nat × Value)} {j i : Nat} {v : Value} (h : L[j]? = some (i, v)) : (am_lv g L)[j]? = some (i, am_t g v) := by
  simp [am_lv, h]
def am_st1 (L : List (Nat × Value)) (i : Nat) (v : Value) : List (Nat × Value) := (i, v) :: L.filter (fun q => !(q.1 == i) && !(q.1 + 1 == i && q.2.category == 2))
def am_st2 (L : List (Nat × Value)) (i : Nat) (v : Value) : List (Nat × Value) := (i, v) :: L.filter (fun q => !(q.1 == i) && (!(q.1 == i + 1) && !(q.1 + 1 == i && q.2.category == 2)))
theorem am_lv_st1 {g : am_G} {L : List (Nat × Value)} {i : Nat} {v : Value} : (i, am_t g v) :: (am_lv g L).filter (fun q => !(q.1 == i) && !(q.1 + 1 == i && q.2.category == 2)) = am_lv g (am_st1 L i v) := by
  simp only [am_lv, am_st1, List.map_cons, List.filter_map]
  congr 2
  apply List.filter_congr
  intro q _
  simp [am_t_cat]
theorem am_lv_st2 {g : am_G} {L : List (Nat × Value)} {i : Nat} {v : Value} : (i, am_t g v) :: (am_lv g L).filter (fun q => !(q.1 == i) && (!(q.1 == i + 1) && !(q.1 + 1 == i && q.2.category == 2))) = am_lv g (am_st2 L i v) := by
  simp only [am_lv, am_st2, List.map_cons, List.filter_map]
  congr 2
  apply List.filter_congr
  intro q _
  simp [am_t_cat]
theorem am_lv_args (g : am_G) (vs : List Value) : ∀ i, lv_args i (vs.map (am_t g)) = am_lv g (lv_args i vs) := by
  induction vs with
  | nil => intro i; rfl
  | cons v vs ih => intro i; simp only [List.map_cons, lv_args, am_t_cat, am_lv]; rw [ih]; rfl
theorem am_lv_sub {g : am_G} {ls : Array Slot} {nL : Nat} {L L' : List (Nat × Value)} (h : lv_has ls nL (am_lv g L)) (hL : ∀ q ∈ L', q ∈ L) : lv_has ls nL (am_lv g L') := by
  refine ⟨h.1, h.2.1, fun q hq => h.2.2 q ?_⟩
  obtain ⟨z, hz, rfl⟩ := List.mem_map.mp hq
  exact List.mem_map.mpr ⟨z, hL z hz, rfl⟩
theorem am_up {p : Program} {l : Launch} {e : Env} {R : Room} {s : State} {m : MethodId} {args : Array Value} {below : List Frame} {meth : Method} {c : Code} {H : Heap} {locs : List Loc} {cells slots : Nat} {Q : State → Prop} {f : JFrame}
    (k : H.size ≤ s.heap.size + cells → W p l e R s m args below meth c H locs cells slots Q f) : W p l e R s m args below meth c H locs cells slots Q f := by
  intro T hT X
  exact k (by rw [← hT]; exact X.heapSize) T hT X
theorem am_S_tr {A : Nat → Prop} {H0 H H1 : Heap} {locs locs1 : List Loc} (h : va_S A H0 H locs) (h1 : va_S A H H1 locs1) : va_S A H0 H1 locs1 :=
  ⟨Nat.le_trans h.1 h1.1, fun q hq ha => by rw [h1.2.1 q (Nat.lt_of_lt_of_le hq h.1) ha]; exact h.2.1 q hq ha, h1.2.2⟩
theorem am_S_rf {A : Nat → Prop} {H0 H : Heap} {locs : List Loc} (h : va_S A H0 H locs) : va_S A H H locs := ⟨Nat.le_refl _, fun _ _ _ => rfl, h.2.2⟩
/-- the picture behind a write -/
theorem am_r_put {g : am_G} {s : State} {H H1 : Heap} {locs locs1 : List Loc} {k : Nat} {x : Bool} {h h' : am_H} (hr : am_r g s H locs k x h) (hlen : h'.length = h.length) (hP : va_P g.2.1 am_cls (am_w g h') H1) (hD : va_D (am_A g) (am_w g h')) (hS : va_S (am_A g) H H1 locs1) (hu : H1.size ≤ s.heap.size + k) : am_r g s H1 locs1 k x h' := by
  obtain ⟨h1, h2, h3, h4, h5, h6⟩ := hr
  refine ⟨h1, h2, hP, hD, am_S_tr h5 hS, fun hx => ?_⟩
  obtain ⟨a, b⟩ := h6 hx
  have := hS.1
  omega
theorem am_X_next {g : am_G} {s U : State} {H : Heap} {locs : List Loc} (h : am_X g s s.heap) (hS : va_S (am_A g) s.heap H locs) (hU : U.heap = H) (hW : s.WarmedH U.vm) : am_X g U U.heap := by
  have hv := hW.alike
  obtain ⟨h1, h2, h3, h4, h5, h6⟩ := h
  have hb : ¬ am_A g g.2.2.2.1.1 := Nat.not_le.mpr h2
  have hbl : g.2.2.2.1.1 < s.heap.size := Nat.lt_of_lt_of_le h2 h5
  refine ⟨?_, h2, ?_, ?_, ?_, am_Y_next h6 hS hU hW⟩
  · rw [hU]
    exact (h1.kept (hS.2.1 _ hbl hb)).moved hv
  · rw [hU]
    exact (h3.kept (fun a ha hA => hS.2.1 a ha hA)).moved hv
  · rw [hU]
    exact (h4.kept (fun a ha hA => hS.2.1 a ha hA)).moved hv
  · rw [hU]
    exact Nat.le_trans h5 hS.1
/-- at a callee's entry -/
theorem am_r_enter {g : am_G} {s U : State} {H : Heap} {locs : List Loc} {k : Nat} {x : Bool} {h : am_H} (hr : am_r g s H locs k x h) (hU : U.heap = H) (hW : s.WarmedH U.vm) : am_r g U U.heap [] 0 x h := by
  obtain ⟨h1, h2, h3, h4, h5, h6⟩ := hr
  exact ⟨va_K.moved hW.alike h1, am_X_next h2 h5 hU hW, by rw [hU]; exact h3, h4, va_S.rf, fun hx => ⟨by rw [hU]; exact (h6 hx).1, by omega⟩⟩
theorem am_r_x {g : am_G} {s : State} {H : Heap} {locs : List Loc} {k : Nat} {x y : Bool} {h : am_H} (hr : am_r g s H locs k x h) (hy : y = true → x = true) : am_r g s H locs k y h := by
  obtain ⟨h1, h2, h3, h4, h5, h6⟩ := hr
  exact ⟨h1, h2, h3, h4, h5, fun hx => h6 (hy hx)⟩
theorem am_x_of {M : am_M} {x : Bool} (h : am_x M x = true) : x = true := by
  simp only [am_x, Bool.and_eq_true] at h
  exact h.2
