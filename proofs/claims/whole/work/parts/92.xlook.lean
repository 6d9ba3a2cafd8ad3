/-! ===== RingWeaves.look may throw; the law's look catches it ===== -/
theorem am_words : ∀ w ∈ (vx_atS "RingWeaves" 139 am_NS ["java/lang/RuntimeException", "java/lang/Exception"]).filter goodWord, w ∈ lw_tbl := by decide +kernel
theorem am_words1 : ∀ w ∈ vx_atS "RingWeaves" 139 am_NS ["java/lang/RuntimeException", "java/lang/Exception"], goodWord w = true ∨ w = Cond.castable am_NS am_NS := by decide +kernel
theorem am_words2 : ∀ w ∈ Cond.classLink "RingWeaves" 135 am_NS :: Cond.initialized am_NS :: vx_atS "RingWeaves" 139 am_NS ["java/lang/RuntimeException", "java/lang/Exception"], vx_ot w = true := by decide +kernel
theorem am_words3 : Cond.classLink "RingWeaves" 135 am_NS ∈ lw_tbl ∧ Cond.initialized am_NS ∈ lw_tbl ∧ Cond.classLink RL 13 am_NS ∈ lw_tbl ∧ Cond.codeWith yL_look cL_look 5 (some .int) [(0, 10, 13, 13)] ∈ lw_tbl ∧ Cond.static yL_look ∈ lw_tbl ∧ Cond.initialized RL ∈ lw_tbl ∧ Cond.methodLink RL 7 yX8_look ∈ lw_tbl ∧ Cond.methodLink RL 62 yL_look ∈ lw_tbl := by decide +kernel
theorem am_tbl {w : Cond} (h : w ∈ lw_tbl) (hg : goodWord w = true) : w ∈ lw_gw := List.mem_filter.mpr ⟨h, hg⟩
def am_XC (g : am_G) (P : Option Value → am_H → Prop) : String → State → State → Prop := fun E st t =>
  E = am_NS ∧ ∃ (k : Nat) (h' : am_H), P (some (.retAddr k)) h' ∧ va_P g.2.1 am_cls (am_w g h') t.heap ∧ va_D (am_A g) (am_w g h') ∧ va_F (am_A g) st t
abbrev am_rX (d : Nat) : Room := { frames := d, cells := 1, slots := 6, locals := d * 41 }
def mL_look : am_M := (yL_look, cL_look, 5, some .int, 1, 6)
abbrev am_wL : List Cond := Cond.codeWith yL_look cL_look 5 (some .int) [(0, 10, 13, 13)] :: lw_gw
section XLOOK
variable {l : Launch} {g : am_G} {d : Nat} {h : am_H} {P : Option Value → am_H → Prop}
theorem am_slen (vs : List Value) : (lg_sl (vs.map (am_t g))).length = (lg_sl vs).length := by
  simp only [lg_sl, List.length_flatMap, List.map_map]
  congr 1
  apply List.map_congr_left
  intro v _
  simp only [Function.comp, am_t_cat]
  split <;> rfl
theorem am_metX {vs : List Value} (hd : 6 ≤ d) (hl : l.stackTraces = false) (hv : (lg_sl vs).length ≤ 3) (hJ : am_J l g mX8_look d (0, 0, false) 0 (lv_args 0 vs) [] h P) (hpc : ∀ k h', P (some (.retAddr k)) h' → k = 21 ∨ k = 58) :
    vx_Met l yX8_look (am_ws mX8_look) (am_rX d) (am_Pc g false vs h) (am_Qc g false 0 (fun r h' => ∃ v, r = some (.int v) ∧ P r h')) (am_XC g P) 1 6 (am_A g) := by
  refine vx_ofW (cc := cX8_look) (maxL := 3) (ret := some .int) (by decide +kernel) rfl ?_
  intro p e s m args below meth c s₁ B hml htab hpre
  obtain ⟨rfl, hr⟩ := hpre
  have hts := atoms_spec (ws := am_ws mX8_look) B.pre
  have hgw : ∀ w ∈ lw_gw, w.before _ s = true := fun w hw => hts w (List.mem_cons_of_mem _ hw)
  have hen := lv_entry (vs.map (am_t g)) (n := 3) (by rw [am_slen]; exact hv)
  rw [am_lv_args] at hen
  rw [lg_entry_eq]
  refine hJ p e _ s m _ below meth c s.heap [] _ _ ⟨B.exec, B.bytes, B.returns, hml, findClass_of_methodNamed B.named, hgw, B.notSynchronized, (name_of_methodNamed B.named B.method).1, Nat.le_refl _, Nat.le_refl _, Nat.zero_le _, Nat.zero_le _⟩ hr hen ?_ ?_ ?_
  · intro h' H' locs' hq hm
    cases hm
  · intro v h' H' locs' hq hm hr' pc' ls' hdc
    obtain ⟨ty, hty, hn⟩ := hm
    refine W.widen (Nat.zero_le 1) (Nat.zero_le 6) (vx_ret (W.zret B.exec B.bytes (B.returns.trans hty) hn (fun t ht hW => ⟨some (.int v), h', rfl, ⟨v, rfl, hq⟩, by rw [ht]; exact hr'.2.2.1, hr'.2.2.2.1, hr'.2.2.2.2.1.F ht, fun hx => by cases hx⟩) hr'.2.2.2.2.1.2.2 hdc (hlocks := B.notSynchronized)))
  · intro k h' H' locs' k' n' hq hk' hn' hr' ls' hls
    have ek : k' = 0 := Nat.le_zero.mp hk'
    have en : n' = 0 := Nat.le_zero.mp hn'
    subst ek en
    have hY := hr.2.1.2.2.2.2.2
    have hcast : (Cond.castable am_NS am_NS).before ((vs.map (am_t g)).toArray) s = true := va_tabs (u := s) rfl rfl hY.2.2.2.2
    have hat : ∀ w ∈ vx_atS "RingWeaves" 139 am_NS ["java/lang/RuntimeException", "java/lang/Exception"], w.before ((vs.map (am_t g)).toArray) s = true := fun w hw => by
      rcases am_words1 w hw with c | c
      · exact hgw w (am_tbl (am_words w (List.mem_filter.mpr ⟨hw, c⟩)) c)
      · rw [c]; exact hcast
    have hx : ∀ t : State, s.vm.Alike t.vm → H'.size ≤ t.heap.size → (∀ q : Nat, q < H'.size → t.heap[q]? = H'[q]?) → am_XC g P am_NS s t := fun t _ hz hk => by
      refine ⟨rfl, k, h', hq, hr'.2.2.1.kept (fun i q hi => hk q.1 (vx_lt hr'.2.2.1 hi)), hr'.2.2.2.1, Nat.le_trans hr'.2.2.2.2.1.1 hz, fun q hq1 hq2 => ?_⟩
      rw [hk q (Nat.lt_of_lt_of_le hq1 hr'.2.2.2.2.1.1)]
      exact hr'.2.2.2.2.1.2.1 q hq1 hq2
    have key := fun (is : Nat) (tx : String) (sa : Nat) (hs : vk_R "RingWeaves" is tx sa s) (d0 : decode cX8_look k = .ok (.new 135, 3)) (d3 : decode cX8_look (k + 3) = .ok (.dup, 1)) (d4 : decode cX8_look (k + 4) = .ok (.ldc is, 2)) (d6 : decode cX8_look (k + 6) = .ok (.invokespecial 139, 3)) (d9 : decode cX8_look (k + 9) = .ok (.athrow, 1)) =>
      vx_throwS (Qc := am_Qc g false 0 (fun r h' => ∃ v, r = some (.int v) ∧ P r h')) (XC := am_XC g P) (free := am_A g) (mc := 1) (ms := 6) (rest := []) (ls := ls') (locs := locs') (H := H') (cells := 0) (slots := 0) (below := below) (R := am_rX d) (e := e) (p := p) (l := l) (A := am_A g) (cc := cX8_look) (pc := k) (own := "RingWeaves") (cls := am_NS) (text := tx) (names := ["java/lang/RuntimeException", "java/lang/Exception"]) (ik := 135) (is := is) (ic := 139) (sa := sa) B.exec B.bytes hl (findClass_of_methodNamed B.named) (by decide +kernel) (by decide +kernel) (hgw _ (am_tbl am_words3.1 rfl)) (hgw _ (am_tbl am_words3.2.1 rfl)) hs hat am_words2 hY.1 hY.2.1 hr'.2.2.2.2.1 (hls.trans hml.symm) d0 d3 d4 d6 d9 (fun x hx => (htab x hx).elim) (by show 2 + 3 < d; omega) (by show 0 + (13 * (2 + 1) + 43) ≤ d * 41; omega) (Nat.le_refl _) (Nat.le_refl _) B.notSynchronized hx hr'.2.2.2.2.1.2.2 (Nat.le_refl _) (Nat.le_refl _)
    rcases hpc k h' hq with c | c
    · subst c
      exact key 137 _ _ hY.2.2.1 dX8_look_21 dX8_look_24 dX8_look_25 dX8_look_27 dX8_look_30
    · subst c
      exact key 146 _ _ hY.2.2.2.1 dX8_look_58 dX8_look_61 dX8_look_62 dX8_look_64 dX8_look_67
/-- the law's look, a contract -/
theorem am_look {i1 i2 : Int32} {K : Int32 → am_H → Prop} (hd : 6 ≤ d) (hl : l.stackTraces = false) (h0 : ∃ fs, h[0]? = some (am_O 8 fs)) (hJ : am_J l g mX8_look d (0, 0, false) 0 (lv_args 0 [.ref 0, .int i1, .int i2]) [] h P) (hpc : ∀ k h', P (some (.retAddr k)) h' → k = 21 ∨ k = 58)
    (hV : ∀ v h', P (some (.int v)) h' → ∃ f, h'[73]? = some (am_L 1 f) ∧ K 0 (h'.set 73 (am_L 1 (vp_updL f 0 v.toInt64)))) (hT : ∀ k h', P (some (.retAddr k)) h' → K 1 h') :
    Met l yL_look am_wL (am_rX (d + 1)) (am_Pc g false [.ref 0, .int i1, .int i2, .ref 73] h) (am_Qc g false 1 (fun r h' => ∃ v, r = some (.int v) ∧ K v h')) 1 6 (am_A g) := by
  refine va_MetW (cc := cL_look) (maxL := 5) (ret := some .int) (hh := [(0, 10, 13, 13)]) (by decide +kernel) rfl ?_
  intro p e s m args below meth c s₁ B hml hpre
  obtain ⟨rfl, hr⟩ := hpre
  have hts := atoms_spec (ws := am_wL) B.pre
  have hgw : ∀ w ∈ lw_gw, w.before _ s = true := fun w hw => hts w (List.mem_cons_of_mem _ hw)
  have htab := vx_table B (hts _ List.mem_cons_self)
  have hown : s.vm.findClass RL = some m.cls := findClass_of_methodNamed B.named
  have hen := lv_entry (([.ref 0, .int i1, .int i2, .ref 73] : List Value).map (am_t g)) (n := 5) (by rw [am_slen]; exact Nat.le_of_ble_eq_true rfl)
  rw [am_lv_args] at hen
  rw [lg_entry_eq]
  have hMX := am_metX hd hl (Nat.le_of_ble_eq_true rfl) hJ hpc
  refine lv_aload_n (x := g.1 + 73) B.exec B.bytes dL_look_0 rfl (lv_at hen 3 rfl) (lv_iconst B.exec B.bytes dL_look_1 (v := 0) (by decide) (lv_aload_n (x := g.1 + 0) B.exec B.bytes dL_look_2 rfl (lv_at hen 0 rfl) (lv_iload_n B.exec B.bytes dL_look_3 rfl (lv_at hen 1 rfl) (lv_iload_n B.exec B.bytes dL_look_4 rfl (lv_at hen 2 rfl) ?_))))
  sorry
end XLOOK
