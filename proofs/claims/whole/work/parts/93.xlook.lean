/-! ===== RingWeaves.look may throw; the law's look catches it ===== -/
set_option maxRecDepth 8000 in
theorem am_words1 : ∀ w ∈ (am_own "RingWeaves" 139).filter vx_no, ((goodWord w && lw_tbl.contains w) || am_odd.contains w) = true := by decide +kernel
theorem am_words2 : ∀ w ∈ Cond.classLink "RingWeaves" 135 am_NS :: Cond.initialized am_NS :: (am_own "RingWeaves" 139).filter vx_no, vx_ot w = true := by decide +kernel
theorem am_words3 : Cond.classLink "RingWeaves" 135 am_NS ∈ lw_tbl ∧ Cond.initialized am_NS ∈ lw_tbl ∧ Cond.classLink RL 13 am_NS ∈ lw_tbl ∧ Cond.codeWith yL_look cL_look 5 (some .int) [(0, 10, 13, 13)] ∈ lw_tbl ∧ Cond.static yL_look ∈ lw_tbl ∧ Cond.initialized RL ∈ lw_tbl ∧ Cond.methodLink RL 7 yX8_look ∈ lw_tbl ∧ Cond.methodLink RL 62 yL_look ∈ lw_tbl := by decide +kernel
theorem am_tbl {w : Cond} (h : w ∈ lw_tbl) (hg : goodWord w = true) : w ∈ lw_gw := List.mem_filter.mpr ⟨h, hg⟩
section THROW2
variable {p : Program} {l : Launch} {e : Env} {R : Room} {s : State} {m : MethodId} {args : Array Value} {below : List Frame} {meth : Method} {c : Code} {H : Heap} {locs : List Loc} {cells slots : Nat} {ls : Array Slot} {rest : List Value}
variable {Qc : Array Value → State → Outcome → State → Prop} {XC : String → State → State → Prop} {free : Addr → Prop}
theorem am_throw {cc : ByteArray} {pc : Nat} (hexec : p.tables.exec = Jvm.exec) (hb : c.code = cc) (hl : l.stackTraces = false) {own text : String} {ik is ic mc ms sa : Nat} {A : Nat → Prop}
    (hown : s.vm.findClass own = some m.cls)
    (hk : (Cond.classLink own ik am_NS).before args s = true) (hini : (Cond.initialized am_NS).before args s = true) (hstr : vk_R own is text sa s) (hat : ∀ w ∈ (am_own own ic).filter vx_no, w.before args s = true)
    (hgood : ∀ w ∈ Cond.classLink own ik am_NS :: Cond.initialized am_NS :: (am_own own ic).filter vx_no, vx_ot w = true)
    (hU : vx_Zq Bundle.tN "UNASSIGNED_STACK" Bundle.steD A s s.heap) (hN : vx_Zq Bundle.tN "SUPPRESSED_SENTINEL" Bundle.listD A s s.heap) (hS : va_S A s.heap H locs) (hsize : ls.size = c.maxLocals)
    (d0 : decode cc pc = .ok (.new ik, 3)) (d3 : decode cc (pc + 3) = .ok (.dup, 1)) (d4 : decode cc (pc + 4) = .ok (.ldc is, 2)) (d6 : decode cc (pc + 6) = .ok (.invokespecial ic, 3)) (d9 : decode cc (pc + 9) = .ok (.athrow, 1))
    (hout : ∀ x ∈ c.exceptionTable.toList, covers x (pc + 9) = false)
    (hRframes : 5 < R.frames) (hRlocals : (rest.map fun v => v.category).sum + (13 * 3 + 43) ≤ R.locals) (hRcells : cells + 1 ≤ R.cells) (hRslots : slots + 6 ≤ R.slots) (hlocks : meth.locks = false)
    (hx : ∀ t : State, s.vm.Alike t.vm → H.size ≤ t.heap.size → (∀ q : Nat, q < H.size → t.heap[q]? = H[q]?) → XC am_NS s t)
    (hf : ∀ z ∈ locs, free z.base) (hc : cells + 1 ≤ mc) (hs : slots + 6 ≤ ms) :
    W p l e R s m args below meth c H locs cells slots (vx_MQ below Qc XC args s mc ms free) (F0 m pc ls rest) := by
  intro T hT X
  have htr : e.platform.stackTraces = false := (show e.platform.stackTraces = l.stackTraces by rw [X.admits.platform]).trans hl
  have Y := vx_rebase X (R' := { frames := R.frames, locals := R.locals, cells := 1, slots := 6 }) (Nat.le_refl _) (Nat.le_refl _) hRcells hRslots
  obtain ⟨s', hA⟩ : ∃ z, z = (T.setVm s.vm).setFrames (.invoking m args :: below) := ⟨_, rfl⟩
  rw [← hA] at Y
  have hvm : s'.vm = s.vm := by rw [hA]; rfl
  have hhp : s'.heap = H := by rw [hA]; exact hT
  have hW0 : s.WarmedH s'.vm := by rw [hvm]; exact State.WarmedH.refl s
  have hat' : ∀ w ∈ (am_own own ic).filter vx_no, w.before args s' = true := fun w hw => vx_ot_at hW0 hvm.symm (hgood w (List.mem_cons_of_mem _ (List.mem_cons_of_mem _ hw))) (hat w hw)
  have hk' : (Cond.classLink own ik am_NS).before args s' = true := vx_ot_at hW0 hvm.symm (hgood _ List.mem_cons_self) hk
  have hini' : (Cond.initialized am_NS).before args s' = true := vx_ot_at hW0 hvm.symm (hgood _ (List.mem_cons_of_mem _ List.mem_cons_self)) hini
  have hU' : vx_Zq Bundle.tN "UNASSIGNED_STACK" Bundle.steD A s' s'.heap := by rw [hhp]; exact vx_Zq.moved hW0.alike (hU.kept hS.2.1)
  have hN' : vx_Zq Bundle.tN "SUPPRESSED_SENTINEL" Bundle.listD A s' s'.heap := by rw [hhp]; exact vx_Zq.moved hW0.alike (hN.kept hS.2.1)
  have h : ∀ w ∈ am_own own ic, w.before args s' = true := vx_own hat' (vx_isRefq hU'.1) (vx_isRefq hN'.1) hU'.2.word hN'.2.word
  have hown' : s'.vm.findClass own = some m.cls := by rw [hvm]; exact hown
  have hins : (Cond.instantiable am_NS 6).before args s' = true := h _ (by simp [am_own])
  obtain ⟨vm₁, cX, kX, hfX, hkX, -, -, X₁, st1⟩ := Y.newCold hexec (own := own) (C := am_NS) (index := ik) (n := 6) hown' hk' hins hini'
    (g := F0 m pc ls rest) rfl (by rw [hb]; exact d0) (Nat.le_refl _) (Nat.le_refl _)
  generalize hT1 : (T.setVm vm₁).pushCell { cls := cX, slots := kX.instanceTypes.map defaultValue, vm := .none } = T1 at X₁ st1
  have hcat : (Value.ref T.heap.size).category = 1 := rfl
  have hcellA : T1.heap[T.heap.size]? = some (freshCell cX kX) := by rw [← hT1]; exact State.heap_pushCell_size _ _
  have d3' : decode c.code (pc + 3) = .ok (.dup, 1) := by rw [hb]; exact d3
  have d4' : decode c.code (pc + 4) = .ok (.ldc is, 2) := by rw [hb]; exact d4
  have hstr' : vk_R own is text sa s' := vk_R.warm hW0 hstr
  obtain ⟨U, hsteps, hrun, hend, hW, hsame, ce, hce, hcv, hcl0⟩ := am_ctor X₁ hexec htr (own := own) (ic := ic) hown' h (fun x hx => nomatch hx) hfX hkX hcellA (by rw [hhp, hT]; exact Nat.le_refl _) (msg := .ref sa) rfl
    (g := { method := m, pc := pc + 6, locals := ls, stack := .ref sa :: .ref T.heap.size :: .ref T.heap.size :: rest, locked := none }) rfl hsize rfl rfl (rest := rest) rfl
    (by rw [hb]; exact d6) (by rw [hb]; exact d9) hout hRframes (by simp only [List.map_cons, List.sum_cons, hcat]; omega) hlocks
  obtain ⟨f1, f2⟩ := vx_frame hsame
  rw [hhp] at f1 f2
  have hWs : s.WarmedH U.vm := State.WarmedH.trans hW0 hW
  have hcl : s.vm.findClass am_NS = some ce.cls := by
    rw [hvm] at hcl0
    exact hcl0
  have hall : s.sameButNew ({ U with vm := s.vm } : State) locs mc ms := by
    subst hA
    obtain ⟨e1, e2⟩ := hsame
    rw [State.setFrames_setFrames] at e1
    have h2 : (T.setVm s.vm).sameButNew ({ U with vm := s.vm } : State) [] (0 + 1) (0 + 6) := ⟨e1, e2⟩
    have h3 := X.same.trans h2
    rw [List.append_nil] at h3
    exact h3.mono hc hs
  refine ⟨U, ?_, .threw T.heap.size, hrun, hend, Or.inr ⟨T.heap.size, rfl, am_NS, ce, locs, hx U hWs.alike f1 (fun q hq => f2 q hq (fun z hz => nomatch hz)), hce, hcv, hcl, hWs, hall, hf⟩⟩
  refine st1 _ ?_
  show Steps p.tables e below (T1.setTop { method := m, pc := pc + 3, locals := ls, stack := .ref T.heap.size :: rest, locked := none }) _
  jvm_step X₁.here [X₁.here.top, hexec, d3', Value.category]
  exact X₁.ldcString hexec (own := own) (text := text) (index := is) (a := sa) hown' hstr'.1 hstr'.2
    (g := { method := m, pc := pc + 4, locals := ls, stack := .ref T.heap.size :: .ref T.heap.size :: rest, locked := none }) rfl d4' _ hsteps
end THROW2
def am_XC (g : am_G) (P : Option Value → am_H → Prop) : String → State → State → Prop := fun E st t =>
  E = am_NS ∧ ∃ (k : Nat) (h' : am_H), P (some (.retAddr k)) h' ∧ va_P g.2.1 am_cls (am_w g h') t.heap ∧ va_D (am_A g) (am_w g h') ∧ va_F (am_A g) st t
abbrev am_rX (d : Nat) : Room := { frames := d, cells := 1, slots := 6, locals := d * 41 }
def mL_look : am_M := (yL_look, cL_look, 5, some .int, 1, 6)
abbrev am_wL : List Cond := Cond.codeWith yL_look cL_look 5 (some .int) [(0, 10, 13, 13)] :: lw_gw
section XLOOK
variable {l : Launch} {g : am_G} {d : Nat} {h : am_H} {P : Option Value → am_H → Prop}
theorem am_slen (vs : List Value) : (lg_sl (vs.map (am_t g))).length = (lg_sl vs).length := by
  simp only [lg_sl, List.length_flatMap, List.map_map]
  congr 1
  apply List.map_congr_left
  intro v _
  simp only [Function.comp, am_t_cat]
  split <;> rfl
theorem am_metX {vs : List Value} (hd : 6 ≤ d) (hl : l.stackTraces = false) (hv : (lg_sl vs).length ≤ 3) (hJ : am_J l g mX8_look d (0, 0, false) 0 (lv_args 0 vs) [] h P) (hpc : ∀ k h', P (some (.retAddr k)) h' → k = 21 ∨ k = 58) :
    vx_Met l yX8_look (am_ws mX8_look) (am_rX d) (am_Pc g false vs h) (am_Qc g false 0 (fun r h' => ∃ v, r = some (.int v) ∧ P r h')) (am_XC g P) 1 6 (am_A g) := by
  refine vx_ofW (cc := cX8_look) (maxL := 3) (ret := some .int) (by decide +kernel) rfl ?_
  intro p e s m args below meth c s₁ B hml htab hpre
  obtain ⟨rfl, hr⟩ := hpre
  have hts := atoms_spec (ws := am_ws mX8_look) B.pre
  have hgw : ∀ w ∈ lw_gw, w.before _ s = true := fun w hw => hts w (List.mem_cons_of_mem _ hw)
  have hen := lv_entry (vs.map (am_t g)) (n := 3) (by rw [am_slen]; exact hv)
  rw [am_lv_args] at hen
  rw [lg_entry_eq]
  refine hJ p e _ s m _ below meth c s.heap [] _ _ ⟨B.exec, B.bytes, B.returns, hml, findClass_of_methodNamed B.named, hgw, B.notSynchronized, (name_of_methodNamed B.named B.method).1, Nat.le_refl _, Nat.le_refl _, Nat.zero_le _, Nat.zero_le _⟩ hr hen ?_ ?_ ?_
  · intro h' H' locs' hq hm
    cases hm
  · intro v h' H' locs' hq hm hr' pc' ls' hdc
    obtain ⟨ty, hty, hn⟩ := hm
    refine W.widen (Nat.zero_le 1) (Nat.zero_le 6) (vx_ret (W.zret B.exec B.bytes (B.returns.trans hty) hn (fun t ht hW => ⟨some (.int v), h', rfl, ⟨v, rfl, hq⟩, by rw [ht]; exact hr'.2.2.1, hr'.2.2.2.1, hr'.2.2.2.2.1.F ht, fun hx => by cases hx⟩) hr'.2.2.2.2.1.2.2 hdc (hlocks := B.notSynchronized)))
  · intro k h' H' locs' k' n' hq hk' hn' hr' ls' hls
    have ek : k' = 0 := Nat.le_zero.mp hk'
    have en : n' = 0 := Nat.le_zero.mp hn'
    subst ek en
    have hY := hr.2.1.2.2.2.2.2
    have hat : ∀ w ∈ (am_own "RingWeaves" 139).filter vx_no, w.before ((vs.map (am_t g)).toArray) s = true := fun w hw => by
      have hw1 := am_words1 w hw
      have hw2 := am_words2 w (List.mem_cons_of_mem _ (List.mem_cons_of_mem _ hw))
      rw [Bool.or_eq_true, Bool.and_eq_true] at hw1
      rcases hw1 with ⟨c1, c2⟩ | c
      · exact hgw w (am_tbl (List.contains_iff_mem.mp c2) c1)
      · exact vx_ot_at (State.WarmedH.refl s) rfl hw2 (hY.2.2.2.2 w (List.contains_iff_mem.mp c))
    have hx : ∀ t : State, s.vm.Alike t.vm → H'.size ≤ t.heap.size → (∀ q : Nat, q < H'.size → t.heap[q]? = H'[q]?) → am_XC g P am_NS s t := fun t _ hz hk => by
      refine ⟨rfl, k, h', hq, hr'.2.2.1.kept (fun i q hi => hk q.1 (vx_lt hr'.2.2.1 hi)), hr'.2.2.2.1, Nat.le_trans hr'.2.2.2.2.1.1 hz, fun q hq1 hq2 => ?_⟩
      rw [hk q (Nat.lt_of_lt_of_le hq1 hr'.2.2.2.2.1.1)]
      exact hr'.2.2.2.2.1.2.1 q hq1 hq2
    have key := fun (is : Nat) (tx : String) (sa : Nat) (hs : vk_R "RingWeaves" is tx sa s) (d0 : decode cX8_look k = .ok (.new 135, 3)) (d3 : decode cX8_look (k + 3) = .ok (.dup, 1)) (d4 : decode cX8_look (k + 4) = .ok (.ldc is, 2)) (d6 : decode cX8_look (k + 6) = .ok (.invokespecial 139, 3)) (d9 : decode cX8_look (k + 9) = .ok (.athrow, 1)) =>
      am_throw (Qc := am_Qc g false 0 (fun r h' => ∃ v, r = some (.int v) ∧ P r h')) (XC := am_XC g P) (free := am_A g) (mc := 1) (ms := 6) (rest := []) (ls := ls') (locs := locs') (H := H') (cells := 0) (slots := 0) (below := below) (R := am_rX d) (e := e) (p := p) (l := l) (A := am_A g) (cc := cX8_look) (pc := k) (own := "RingWeaves") (text := tx) (ik := 135) (is := is) (ic := 139) (sa := sa) B.exec B.bytes hl (findClass_of_methodNamed B.named) (hgw _ (am_tbl am_words3.1 rfl)) (hgw _ (am_tbl am_words3.2.1 rfl)) hs hat am_words2 hY.1 hY.2.1 hr'.2.2.2.2.1 (hls.trans hml.symm) d0 d3 d4 d6 d9 (fun x hx => (htab x hx).elim) (by show 5 < d; omega) (by show 0 + (13 * 3 + 43) ≤ d * 41; omega) (Nat.le_refl _) (Nat.le_refl _) B.notSynchronized hx hr'.2.2.2.2.1.2.2 (Nat.le_refl _) (Nat.le_refl _)
    rcases hpc k h' hq with c | c
    · subst c
      exact key 137 _ _ hY.2.2.1 dX8_look_21 dX8_look_24 dX8_look_25 dX8_look_27 dX8_look_30
    · subst c
      exact key 146 _ _ hY.2.2.2.1 dX8_look_58 dX8_look_61 dX8_look_62 dX8_look_64 dX8_look_67
/-- the law's look, a contract -/
theorem am_look {i1 i2 : Int32} {K : Int32 → am_H → Prop} (hd : 6 ≤ d) (hl : l.stackTraces = false) (h0 : ∃ fs, h[0]? = some (am_O 8 fs)) (hJ : am_J l g mX8_look d (0, 0, false) 0 (lv_args 0 [.ref 0, .int i1, .int i2]) [] h P) (hpc : ∀ k h', P (some (.retAddr k)) h' → k = 21 ∨ k = 58)
    (hV : ∀ v h', P (some (.int v)) h' → ∃ f, h'[73]? = some (am_L 1 f) ∧ K 0 (h'.set 73 (am_L 1 (vp_updL f 0 v.toInt64)))) (hTh : ∀ k h', P (some (.retAddr k)) h' → K 1 h') :
    Met l yL_look am_wL (am_rX (d + 1)) (am_Pc g false [.ref 0, .int i1, .int i2, .ref 73] h) (am_Qc g false 1 (fun r h' => ∃ v, r = some (.int v) ∧ K v h')) 1 6 (am_A g) := by
  refine va_MetW (cc := cL_look) (maxL := 5) (ret := some .int) (hh := [(0, 10, 13, 13)]) (by decide +kernel) rfl ?_
  intro p e s m args below meth c s₁ B hml hpre
  obtain ⟨rfl, hr⟩ := hpre
  have hts := atoms_spec (ws := am_wL) B.pre
  have hgw : ∀ w ∈ lw_gw, w.before _ s = true := fun w hw => hts w (List.mem_cons_of_mem _ hw)
  have htab := vx_table (x := yL_look) B (hts _ List.mem_cons_self)
  have hown : s.vm.findClass RL = some m.cls := findClass_of_methodNamed B.named
  have hen := lv_entry (([.ref 0, .int i1, .int i2, .ref 73] : List Value).map (am_t g)) (n := 5) (by rw [am_slen]; exact Nat.le_of_ble_eq_true rfl)
  rw [am_lv_args] at hen
  rw [lg_entry_eq]
  obtain ⟨ls, hls⟩ : ∃ z : Array Slot, z = (lg_sl (([.ref 0, .int i1, .int i2, .ref 73] : List Value).map (am_t g)) ++ List.replicate (5 - (lg_sl (([.ref 0, .int i1, .int i2, .ref 73] : List Value).map (am_t g))).length) Slot.unset).toArray := ⟨_, rfl⟩
  rw [← hls] at hen ⊢
  have hMX := am_metX hd hl (Nat.le_of_ble_eq_true rfl) hJ hpc
  refine lv_aload_n (x := g.1 + 73) B.exec B.bytes dL_look_0 rfl (lv_at hen 3 rfl) (lv_iconst B.exec B.bytes dL_look_1 (v := 0) (by decide) (lv_aload_n (x := g.1 + 0) B.exec B.bytes dL_look_2 rfl (lv_at hen 0 rfl) (lv_iload_n B.exec B.bytes dL_look_3 rfl (lv_at hen 1 rfl) (lv_iload_n B.exec B.bytes dL_look_4 rfl (lv_at hen 2 rfl) ?_))))
  obtain ⟨fs0, h0⟩ := h0
  obtain ⟨hmk, hmi, hms⟩ := mX8_look_ok
  obtain ⟨-, -, hmh, hmz, hmx, hmp⟩ := id hmk
  have hrec : ∃ cell : Cell, s.heap[g.1 + 0]? = some cell ∧ cell.vm.isStatics = false ∧ s.vm.findClass yX8_look.cls = some cell.cls := va_recv hr.1 hr.2.2.1 (show am_cls[8]? = some _ from rfl) (am_w_get h0)
  have hrun := vx_runV (l := l) (p := p) (e := e) (below := below) (meth := meth) (locs := []) (cells := 0) (slots := 0) (R := am_rX (d + 1)) (As := [.int i1, .int i2]) (b := g.1 + 0) (C := yX8_look.cls) (Ts := lw_gw) (y := yX8_look) (bytes := cX8_look) (maxL := 3) (ret := some .int) (own := RL) (index := 7) (mc := 1) (ms := 6) (n := 2) (rest := [.int 0, .ref (g.1 + 73)])
    (g := F0 m 5 ls [.int i2, .int i1, .ref (g.1 + 0), .int 0, .ref (g.1 + 73)]) ⟨B.exec, B.bytes, hml, hown, hgw⟩ hMX (cwV 2 hgw (am_good (fun w hw => by
      simp only [wsV, List.mem_append, List.mem_cons, List.not_mem_nil, or_false] at hw
      rcases hw with (rfl | rfl | rfl | rfl) | hw
      · exact am_tbl am_words3.2.2.2.2.2.2.1 rfl
      · exact hmi
      · exact hms
      · exact hmz
      · exact am_ws_in hmk w (by simpa using hw))) rfl rfl rfl ⟨rfl, hmh.1, hmh.2, hmp⟩ ⟨by show d + 1 ≤ d + 1; omega, by show 8 + (3 + 11) + d * 41 ≤ (d + 1) * 41; omega⟩) ⟨am_blind, hrec, fun U hU hW => ⟨rfl, am_r_enter hr hU hW⟩⟩ rfl rfl hen.1 rfl (lv_room (Nat.le_of_ble_eq_true rfl)) dL_look_5 ⟨Nat.le_refl _, Nat.le_refl _⟩
  have ctx : am_ctx mL_look (d + 1) p (am_rX (d + 1)) s m _ meth c := ⟨B.exec, B.bytes, B.returns, hml, hown, hgw, B.notSynchronized, (name_of_methodNamed B.named B.method).1, Nat.le_refl _, Nat.le_refl _, Nat.le_refl _, Nat.le_refl _⟩
  have back : ∀ {st₀ t T' : State} {LL : List Loc} {h' : am_H}, st₀.heap = s.heap → T'.heap = t.heap → (∀ q ∈ LL, am_A g q.base) → va_P g.2.1 am_cls (am_w g h') t.heap → va_D (am_A g) (am_w g h') → va_F (am_A g) st₀ t → am_r g s T'.heap ([] ++ LL) 1 false h' := fun {st₀ t T' LL h'} b0 b1 b2 b3 b4 b5 => by
    refine ⟨hr.1, hr.2.1, by rw [b1]; exact b3, b4, ⟨by rw [b1, ← b0]; exact b5.1, fun q q1 q2 => by rw [b1, b5.2 q (by rw [b0]; exact q1) q2, b0], fun q hq => ?_⟩, fun c => by cases c⟩
    rcases List.mem_append.mp hq with c | c
    · cases c
    · exact b2 q c
  intro T hT X
  rcases hrun T hT X with ⟨v, st₀, t, T', LL, e0, X', hLL, e1, e2, ⟨r, h', hv, ⟨v', hr', hp⟩, hP, hD, hF, -⟩, st⟩ | ⟨q, st₀, t, T', LL, E, ce, e0, X', hLL, e1, e2, ⟨hE, k, h', hp, hP, hD, hF⟩, hce, hcv, hcl, st⟩
  · subst hr'
    cases hv
    obtain ⟨f, h73, hk⟩ := hV v' h' hp
    have J8 : am_J l g mL_look (d + 1) (1, 6, false) 8 (lv_args 0 [.ref 0, .int i1, .int i2, .ref 73]) [.int v', .int 0, .ref 73] h' (fun r h' => ∃ v, r = some (.int v) ∧ K v h') :=
      J_i2l dL_look_8 (J_last dL_look_9 h73 (show vp_in (nI 0) 1 from vp_in_nI (by omega) (by omega)) (J_goto (tgt := 17) dL_look_10 (by decide) (J_iconst (v := 0) dL_look_17 (by decide) (J_iret dL_look_18 ⟨_, rfl, rfl⟩ ⟨Nat.le_refl _, Nat.le_refl _, fun c => by cases c⟩ ⟨0, rfl, hk⟩))))
    obtain ⟨t2, a1, b1⟩ := J8 p e _ s m _ below meth c T'.heap ([] ++ LL) _ (MQ below (am_Qc g false 1 (fun r h' => ∃ v, r = some (.int v) ∧ K v h')) _ s 1 6 (am_A g)) ctx (back e0 e1 hLL hP hD hF) hen (fun _ _ _ ⟨_, c, _⟩ => by cases c) (fun v h2 H2 locs2 hq hm hr2 pc' ls' hdc => by
      obtain ⟨ty, hty, hn⟩ := hm
      exact W.zret B.exec B.bytes (B.returns.trans hty) hn (fun t ht hW => ⟨some (.int v), h2, rfl, hq, by rw [ht]; exact hr2.2.2.1, hr2.2.2.2.1, hr2.2.2.2.2.1.F ht, fun hx => by cases hx⟩) hr2.2.2.2.2.1.2.2 hdc (hlocks := B.notSynchronized)) (fun k h2 H2 locs2 k' n' ⟨_, c, _⟩ => by cases c) T' rfl X'
    exact ⟨t2, st t2 a1, b1⟩
  · have hr1 := back (T' := T') (LL := LL) e0 e1 hLL hP hD hF
    rw [hE] at hcl
    obtain ⟨vm', X2, st2⟩ := ca_caught (own := RL) (name := am_NS) (E := am_NS) X' (g := F0 m 5 ls [.int 0, .ref (g.1 + 73)]) rfl (by rw [e1]; exact hce) hcv hcl hown (x := ⟨0, 10, 13, 13⟩) (suf := []) htab (show covers ⟨0, 10, 13, 13⟩ 5 = true by decide) (show (13 : Nat) ≠ 0 by decide) (hgw _ (am_tbl am_words3.2.2.1 rfl)) (vx_ot_at (State.WarmedH.refl s) rfl (by decide) (hr.2.1.2.2.2.2.2.2.2.2.2 _ (by simp [am_odd])))
    have W13 : W p l e (am_rX (d + 1)) s m (([.ref 0, .int i1, .int i2, .ref 73] : List Value).map (am_t g)).toArray below meth c T'.heap ([] ++ LL) 1 6 (MQ below (am_Qc g false 1 (fun r h' => ∃ v, r = some (.int v) ∧ K v h')) (([.ref 0, .int i1, .int i2, .ref 73] : List Value).map (am_t g)).toArray s 1 6 (am_A g)) (F0 m 13 ls [.ref q]) :=
      lv_astore B.exec B.bytes dL_look_13 hen (by decide) rfl (fun ls' hl' => lv_iconst B.exec B.bytes dL_look_15 (v := 1) (by decide) (W.zret B.exec B.bytes B.returns rfl (fun t ht hW => ⟨some (.int 1), h', rfl, ⟨1, rfl, hTh k h' hp⟩, by rw [ht]; exact hr1.2.2.1, hr1.2.2.2.1, hr1.2.2.2.2.1.F ht, fun hx => by cases hx⟩) hr1.2.2.2.2.1.2.2 dL_look_16 (hlocks := B.notSynchronized)))
    obtain ⟨t2, a1, b1⟩ := W13 (T'.setVm vm') rfl X2
    exact ⟨t2, st.trans (st2.trans a1), b1⟩
end XLOOK
