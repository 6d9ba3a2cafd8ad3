section AMK
variable {l : Launch} {g : am_G} {M M' : am_M} {d : Nat} {kn : Nat × Nat × Bool} {pc : Nat} {L : List (Nat × Value)} {S : List Value} {h : am_H} {Q : Option Value → am_H → Prop}
theorem am_good {ws : List Cond} (h : ∀ w ∈ ws, w ∈ lw_gw) : GoodIn lw_gw ws := fun w hw => ⟨h w hw, good_of_word (am_gw (h w hw)).2⟩
abbrev am_ws (M : am_M) : List Cond := Cond.code M.1 M.2.1 M.2.2.1 M.2.2.2.1 :: lw_gw
abbrev am_rm (M : am_M) (d : Nat) : Room := { frames := d, cells := M.2.2.2.2.1, slots := M.2.2.2.2.2, locals := d * 41 }
def am_Pc (g : am_G) (x : Bool) (vs : List Value) (h : am_H) : Array Value → State → Prop := va_Pc (vs.map (am_t g)) (fun U => am_r g U U.heap [] 0 x h)
def am_Qc (g : am_G) (x : Bool) (mc : Nat) (P : Option Value → am_H → Prop) : Array Value → State → Outcome → State → Prop := fun _ st oc t =>
  ∃ (r : Option Value) (h' : am_H), oc = .returned (r.map (am_t g)) ∧ P r h' ∧ va_P g.2.1 am_cls (am_w g h') t.heap ∧ va_D (am_A g) (am_w g h') ∧ va_F (am_A g) st t ∧ (x = true → t.heap.size = g.1 + h'.length ∧ t.heap.size = st.heap.size + mc)
theorem am_ws_in {M : am_M} {n : Nat} (hM : am_mk M n) : ∀ w ∈ am_ws M, w ∈ lw_gw := fun w hw => by
  rcases List.mem_cons.mp hw with rfl | hw
  · exact hM.1
  · exact hw
/-- a method's contract out of its judgement at the entry -/
theorem am_met {n : Nat} {x : Bool} {vs : List Value} {P : Option Value → am_H → Prop} (hM : am_mk M n) (hmc : M.2.2.2.2.1 < 1000) (hv : (lg_sl vs).length ≤ M.2.2.1) (hJ : am_J l g M d (0, 0, x) 0 (lv_args 0 vs) [] h P) (hnt : ∀ k h', ¬ P (some (.retAddr k)) h') : Met l M.1 (am_ws M) (am_rm M d) (am_Pc g x vs h) (am_Qc g x M.2.2.2.2.1 P) M.2.2.2.2.1 M.2.2.2.2.2 (am_A g) := by
  refine Met.ofW (cc := M.2.1) (maxL := M.2.2.1) (ret := M.2.2.2.1) hM.2.1 rfl ?_
  intro p e s m args below meth c s₁ B hml hpre
  obtain ⟨rfl, hr⟩ := hpre
  have hts := atoms_spec (ws := am_ws M) B.pre
  have hsl : (lg_sl (vs.map (am_t g))).length = (lg_sl vs).length := by
    simp only [lg_sl, List.length_flatMap, List.map_map]
    congr 1
    apply List.map_congr_left
    intro v _
    simp only [Function.comp, am_t_cat]
    split <;> rfl
  have hl := lv_entry (vs.map (am_t g)) (n := M.2.2.1) (by rw [hsl]; exact hv)
  rw [am_lv_args] at hl
  rw [lg_entry_eq]
  refine hJ p e _ s m _ below meth c s.heap [] _ _ ⟨B.exec, B.bytes, B.returns, hml, findClass_of_methodNamed B.named, fun w hw => hts w (List.mem_cons_of_mem _ hw), B.notSynchronized, (name_of_methodNamed B.named B.method).1, Nat.le_refl _, Nat.le_refl _, Nat.le_refl _, Nat.le_refl _⟩ hr hl ?_ ?_ ?_
  · intro h' H' locs' hq hm hr' pc' ls' hd
    refine W.vret B.exec B.bytes (B.returns.trans hm) (fun t ht hW => ⟨none, h', rfl, hq, by rw [ht]; exact hr'.2.2.1, hr'.2.2.2.1, hr'.2.2.2.2.1.F ht, fun hx => by rw [ht]; exact hr'.2.2.2.2.2 (by rw [hx]; simp [am_x, hmc])⟩) hr'.2.2.2.2.1.2.2 hd (hlocks := B.notSynchronized)
  · intro v h' H' locs' hq hm hr' pc' ls' hd
    obtain ⟨ty, hty, hn⟩ := hm
    refine W.zret B.exec B.bytes (B.returns.trans hty) hn (fun t ht hW => ⟨some (.int v), h', rfl, hq, by rw [ht]; exact hr'.2.2.1, hr'.2.2.2.1, hr'.2.2.2.2.1.F ht, fun hx => by rw [ht]; exact hr'.2.2.2.2.2 (by rw [hx]; simp [am_x, hmc])⟩) hr'.2.2.2.2.1.2.2 hd (hlocks := B.notSynchronized)
  · intro k h' H' locs' k' n' hq
    exact absurd hq (hnt k h')
theorem am_blind {x : Bool} {vs : List Value} : FrameBlind (am_Pc g x vs h) := by
  intro a U f mk q
  obtain ⟨rfl, hr⟩ := q
  exact ⟨rfl, am_r_enter hr rfl (State.WarmedH.refl U)⟩
/-- behind a call -/
theorem am_go {p : Program} {e : Env} {R : Room} {s : State} {m : MethodId} {args : Array Value} {below : List Frame} {meth : Method} {c : Code} {H : Heap} {locs : List Loc} {k n mc ms : Nat} {x : Bool} {Qm : State → Prop} {ls : Array Slot} {st0 rest : List Value} {a : Array Value} {P : Option Value → am_H → Prop}
    (hr : am_r g s H locs k x h) (hrun : va_Run p l e R s m args below meth c H locs k n mc ms (F0 m pc ls st0) rest (am_Qc g x mc P a) (am_A g))
    (kk : ∀ (r : Option Value) (h' : am_H) (H1 : Heap) (locs1 : List Loc), P r h' → am_r g s H1 locs1 (k + mc) x h' → W p l e R s m args below meth c H1 locs1 (k + mc) (n + ms) Qm (F0 m (pc + 3) ls ((r.map (am_t g)).toList ++ rest))) : W p l e R s m args below meth c H locs k n Qm (F0 m pc ls st0) := by
  intro T hT X
  obtain ⟨v, st₀, t, T', LL, h0, X', hL, e1, e2, ⟨r, h', hv, hp, hP, hD, hF, hz⟩, st⟩ := hrun T hT X
  cases hv
  obtain ⟨hK, hX, -, -, hS, hz0⟩ := hr
  have hr1 : am_r g s T'.heap (locs ++ LL) (k + mc) x h' := by
    refine ⟨hK, hX, by rw [e1]; exact hP, hD, ⟨?_, ?_, ?_⟩, fun hx => ?_⟩
    · rw [e1]; exact Nat.le_trans hS.1 (by rw [← h0]; exact hF.1)
    · intro q h1 h2
      rw [e1, hF.2 q (by rw [h0]; exact Nat.lt_of_lt_of_le h1 hS.1) h2, h0]
      exact hS.2.1 q h1 h2
    · intro q hq
      rcases List.mem_append.mp hq with hh | hh
      · exact hS.2.2 q hh
      · exact hL q hh
    · obtain ⟨z1, z2⟩ := hz hx
      obtain ⟨y1, y2⟩ := hz0 hx
      rw [h0] at z2
      rw [e1]
      omega
  obtain ⟨t2, a1, b1⟩ := kk r h' T'.heap (locs ++ LL) hp hr1 T' rfl X'
  exact ⟨t2, st t2 a1, b1⟩
theorem am_cat_sum (S : List Value) : ((S.map (am_t g)).map fun v => v.category).sum = (S.map fun v => v.category).sum := by
  rw [List.map_map]; congr 1; apply List.map_congr_left; intro v _; exact am_t_cat g v
theorem am_toList (r : Option Value) : (r.map (am_t g)).toList = r.toList.map (am_t g) := by cases r <;> rfl
theorem J_callV {idx n b ci : Nat} {As S0 : List Value} {fs : List Value} {P : Option Value → am_H → Prop} (hd : decode M.2.1 pc = .ok (.invokevirtual idx, 3)) (hM : am_mi M' n) (hlk : Cond.methodLink M.1.cls idx M'.1 ∈ lw_gw) (hn : As.length = n) (hmc : M'.2.2.2.2.1 < 1000) (hv : (lg_sl (.ref b :: As)).length ≤ M'.2.2.1) (hh : h[b]? = some (am_O ci fs)) (hci : am_cls[ci]?.map (fun q => q.1) = some M'.1.cls) (hst : S0 = As.reverse ++ .ref b :: S) (hS : (S.map fun v => v.category).sum ≤ 8) (hk : kn.1 + M'.2.2.2.2.1 ≤ M.2.2.2.2.1 ∧ kn.2.1 + M'.2.2.2.2.2 ≤ M.2.2.2.2.2) (hnt : ∀ k h', ¬ P (some (.retAddr k)) h')
    (hJ : am_J l g M' d (0, 0, kn.2.2) 0 (lv_args 0 (.ref b :: As)) [] h P) (kk : ∀ r h', P r h' → am_J l g M (d + 1) (kn.1 + M'.2.2.2.2.1, kn.2.1 + M'.2.2.2.2.2, kn.2.2) (pc + 3) L (r.toList ++ S) h' Q) : am_J l g M (d + 1) kn pc L S0 h Q := by
  intro p e R s m args below meth c H locs ls Qm C hr hl f1 f2 f3
  subst hst
  obtain ⟨hx, hb, -, hml, hown, hts, -, -, hRf, hRl, hRc, hRs⟩ := id C
  obtain ⟨hmk, hmi, hms⟩ := hM
  obtain ⟨-, -, hmh, hmz, hmx, hmp⟩ := id hmk
  have hMet := am_met hmk hmc hv hJ hnt
  have hrec : ∃ cell : Cell, H[g.1 + b]? = some cell ∧ cell.vm.isStatics = false ∧ s.vm.findClass M'.1.cls = some cell.cls := by
    cases hc : am_cls[ci]? with
    | none => rw [hc] at hci; cases hci
    | some q =>
      rw [hc] at hci
      rw [← Option.some.inj hci]
      exact va_recv hr.1 hr.2.2.1 hc (am_w_get hh)
  refine am_go (P := P) (rest := S.map (am_t g)) hr (va_runV (As := As.map (am_t g)) (b := g.1 + b) (C := M'.1.cls) (Ts := lw_gw) (y := M'.1) (bytes := M'.2.1) (maxL := M'.2.2.1) (ret := M'.2.2.2.1) (own := M.1.cls) ⟨hx, hb, hml, hown, hts⟩ hMet (cwV n hts (am_good ?_) rfl rfl rfl ⟨rfl, hmh.1, hmh.2, hmp⟩ ⟨?_, ?_⟩) ⟨am_blind, hrec, fun U hU hW => ⟨rfl, am_r_enter hr hU hW⟩⟩ rfl (by simpa using hn) hl.1 (by simp [am_t]) (lv_room (by rw [am_cat_sum]; exact hS)) hd ⟨Nat.le_trans hk.1 hRc, Nat.le_trans hk.2 hRs⟩) ?_
  · intro w hw
    simp only [wsV, List.mem_append, List.mem_cons, List.not_mem_nil, or_false] at hw
    rcases hw with (rfl | rfl | rfl | rfl) | hw
    · exact hlk
    · exact hmi
    · exact hms
    · exact hmz
    · exact am_ws_in hmk w (by simpa using hw)
  · show d + 1 ≤ _; omega
  · show 8 + (M'.2.2.1 + 11) + d * 41 ≤ _; omega
  · intro r h' H1 locs1 hp hr1
    rw [am_toList, ← List.map_append]
    exact kk r h' hp p e R s m args below meth c H1 locs1 ls Qm C hr1 hl f1 f2 f3
theorem J_callS {idx n : Nat} {As S0 : List Value} {P : Option Value → am_H → Prop} (hd : decode M.2.1 pc = .ok (.invokestatic idx, 3)) (hM : am_ms M' n) (hlk : Cond.methodLink M.1.cls idx M'.1 ∈ lw_gw) (hn : As.length = n) (hmc : M'.2.2.2.2.1 < 1000) (hv : (lg_sl As).length ≤ M'.2.2.1) (hst : S0 = As.reverse ++ S) (hS : (S.map fun v => v.category).sum ≤ 8) (hk : kn.1 + M'.2.2.2.2.1 ≤ M.2.2.2.2.1 ∧ kn.2.1 + M'.2.2.2.2.2 ≤ M.2.2.2.2.2) (hnt : ∀ k h', ¬ P (some (.retAddr k)) h')
    (hJ : am_J l g M' d (0, 0, kn.2.2) 0 (lv_args 0 As) [] h P) (kk : ∀ r h', P r h' → am_J l g M (d + 1) (kn.1 + M'.2.2.2.2.1, kn.2.1 + M'.2.2.2.2.2, kn.2.2) (pc + 3) L (r.toList ++ S) h' Q) : am_J l g M (d + 1) kn pc L S0 h Q := by
  intro p e R s m args below meth c H locs ls Qm C hr hl f1 f2 f3
  subst hst
  obtain ⟨hx, hb, -, hml, hown, hts, -, -, hRf, hRl, hRc, hRs⟩ := id C
  obtain ⟨hmk, hms⟩ := hM
  obtain ⟨-, -, hmh, hmz, hmx, hmp⟩ := id hmk
  have hMet := am_met hmk hmc hv hJ hnt
  refine am_go (P := P) (rest := S.map (am_t g)) hr (va_runS (As := As.map (am_t g)) (Ts := lw_gw) (y := M'.1) (bytes := M'.2.1) (maxL := M'.2.2.1) (ret := M'.2.2.2.1) (own := M.1.cls) ⟨hx, hb, hml, hown, hts⟩ hMet (va_cwS n hts (am_good ?_) rfl rfl rfl ⟨hmh.1, hmh.2, hmp⟩ ⟨?_, ?_⟩) ⟨am_blind, fun U hU hW => ⟨rfl, am_r_enter hr hU hW⟩⟩ rfl (by simpa using hn) hl.1 (by simp) (lv_room (by rw [am_cat_sum]; exact hS)) hd ⟨Nat.le_trans hk.1 hRc, Nat.le_trans hk.2 hRs⟩) ?_
  · intro w hw
    simp only [va_wsS, List.mem_append, List.mem_cons, List.not_mem_nil, or_false] at hw
    rcases hw with (rfl | rfl | rfl) | hw
    · exact hlk
    · exact hms
    · exact hmz
    · exact am_ws_in hmk w (by simpa using hw)
  · show d + 1 ≤ _; omega
  · show 8 + (M'.2.2.1 + 11) + d * 41 ≤ _; omega
  · intro r h' H1 locs1 hp hr1
    rw [am_toList, ← List.map_append]
    exact kk r h' hp p e R s m args below meth c H1 locs1 ls Qm C hr1 hl f1 f2 f3
theorem J_callI {idx n b : Nat} {As S0 : List Value} {P : Option Value → am_H → Prop} (hd : decode M.2.1 pc = .ok (.invokespecial idx, 3)) (hM : am_mc M' n) (hret : M'.2.2.2.1 = none) (hlk : Cond.methodLink M.1.cls idx M'.1 ∈ lw_gw) (hn : As.length = n) (hmc : M'.2.2.2.2.1 < 1000) (hv : (lg_sl (.ref b :: As)).length ≤ M'.2.2.1) (hst : S0 = As.reverse ++ .ref b :: S) (hS : (S.map fun v => v.category).sum ≤ 8) (hk : kn.1 + M'.2.2.2.2.1 ≤ M.2.2.2.2.1 ∧ kn.2.1 + M'.2.2.2.2.2 ≤ M.2.2.2.2.2) (hnt : ∀ k h', ¬ P (some (.retAddr k)) h')
    (hJ : am_J l g M' d (0, 0, kn.2.2) 0 (lv_args 0 (.ref b :: As)) [] h P) (kk : ∀ r h', P r h' → am_J l g M (d + 1) (kn.1 + M'.2.2.2.2.1, kn.2.1 + M'.2.2.2.2.2, kn.2.2) (pc + 3) L (r.toList ++ S) h' Q) : am_J l g M (d + 1) kn pc L S0 h Q := by
  intro p e R s m args below meth c H locs ls Qm C hr hl f1 f2 f3
  subst hst
  obtain ⟨hx, hb, -, hml, hown, hts, -, -, hRf, hRl, hRc, hRs⟩ := id C
  obtain ⟨hmk, hmi, hname⟩ := hM
  obtain ⟨-, -, hmh, hmz, hmx, hmp⟩ := id hmk
  have hMet := am_met hmk hmc hv hJ hnt
  refine am_go (P := P) (rest := S.map (am_t g)) hr (va_runI (As := As.map (am_t g)) (b := g.1 + b) (Ts := lw_gw) (y := M'.1) (bytes := M'.2.1) (maxL := M'.2.2.1) (own := M.1.cls) ⟨hx, hb, hml, hown, hts⟩ hMet (cwI n hts (am_good (am_ws_in hmk)) (by rw [← hret]) rfl rfl (hts _ hmz) (hts _ hlk) (hts _ hmi) hname ⟨hmh.1, hmh.2, hmp⟩ ⟨?_, ?_⟩) ⟨am_blind, fun U hU hW => ⟨rfl, am_r_enter hr hU hW⟩⟩ rfl (by simpa using hn) hl.1 (by simp [am_t]) (lv_room (by rw [am_cat_sum]; exact hS)) hd ⟨Nat.le_trans hk.1 hRc, Nat.le_trans hk.2 hRs⟩) ?_
  · show d + 1 ≤ _; omega
  · show 8 + (M'.2.2.1 + 11) + d * 41 ≤ _; omega
  · intro r h' H1 locs1 hp hr1
    rw [am_toList, ← List.map_append]
    exact kk r h' hp p e R s m args below meth c H1 locs1 ls Qm C hr1 hl f1 f2 f3
end AMK
