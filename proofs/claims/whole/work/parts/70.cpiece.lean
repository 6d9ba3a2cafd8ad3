/-! ===== the class's pieces ===== -/
abbrev c_pc (n rb cs num cr pt : Int32) : am_C := am_O 3 [.ref 6, .ref 19, .ref 20, .ref 21, .ref 22, .int n, .int rb, .int cs, .ref 23, .ref 24, .ref 25, .int num, .int cr, .int pt]
def PA (h : am_H) (c : am_C) (f1 f2 f3 f4 f5 f6 f7 : Nat → Int32) : Prop := h[18]? = some c ∧ h[19]? = some (am_I 0 300 f1) ∧ h[20]? = some (am_I 0 300 f2) ∧ h[21]? = some (am_I 0 300 f3) ∧ h[22]? = some (am_I 0 300 f4) ∧ h[23]? = some (am_I 0 300 f5) ∧ h[24]? = some (am_I 2 300 f6) ∧ h[25]? = some (am_I 2 300 f7)
theorem PA.fr {h h' : am_H} {c : am_C} {f1 f2 f3 f4 f5 f6 f7 : Nat → Int32} (hP : PA h c f1 f2 f3 f4 f5 f6 f7) (hf : ∀ i, 18 ≤ i → i ≤ 25 → h'[i]? = h[i]?) : PA h' c f1 f2 f3 f4 f5 f6 f7 := by
  obtain ⟨p0, p1, p2, p3, p4, p5, p6, p7⟩ := hP
  exact ⟨(hf _ (by decide) (by decide)).trans p0, (hf _ (by decide) (by decide)).trans p1, (hf _ (by decide) (by decide)).trans p2, (hf _ (by decide) (by decide)).trans p3, (hf _ (by decide) (by decide)).trans p4, (hf _ (by decide) (by decide)).trans p5, (hf _ (by decide) (by decide)).trans p6, (hf _ (by decide) (by decide)).trans p7⟩
theorem PA.s0 {h : am_H} {c c' : am_C} {f1 f2 f3 f4 f5 f6 f7 : Nat → Int32} (hP : PA h c f1 f2 f3 f4 f5 f6 f7) : PA (h.set 18 c') c' f1 f2 f3 f4 f5 f6 f7 := by
  obtain ⟨p0, p1, p2, p3, p4, p5, p6, p7⟩ := hP
  exact ⟨st_eq p0, (st_ne (by decide)).trans p1, (st_ne (by decide)).trans p2, (st_ne (by decide)).trans p3, (st_ne (by decide)).trans p4, (st_ne (by decide)).trans p5, (st_ne (by decide)).trans p6, (st_ne (by decide)).trans p7⟩
theorem PA.s1 {h : am_H} {c : am_C} {f1 f2 f3 f4 f5 f6 f7 f : Nat → Int32} (hP : PA h c f1 f2 f3 f4 f5 f6 f7) : PA (h.set 19 (am_I 0 300 f)) c f f2 f3 f4 f5 f6 f7 := by
  obtain ⟨p0, p1, p2, p3, p4, p5, p6, p7⟩ := hP
  exact ⟨(st_ne (by decide)).trans p0, st_eq p1, (st_ne (by decide)).trans p2, (st_ne (by decide)).trans p3, (st_ne (by decide)).trans p4, (st_ne (by decide)).trans p5, (st_ne (by decide)).trans p6, (st_ne (by decide)).trans p7⟩
theorem PA.s2 {h : am_H} {c : am_C} {f1 f2 f3 f4 f5 f6 f7 f : Nat → Int32} (hP : PA h c f1 f2 f3 f4 f5 f6 f7) : PA (h.set 20 (am_I 0 300 f)) c f1 f f3 f4 f5 f6 f7 := by
  obtain ⟨p0, p1, p2, p3, p4, p5, p6, p7⟩ := hP
  exact ⟨(st_ne (by decide)).trans p0, (st_ne (by decide)).trans p1, st_eq p2, (st_ne (by decide)).trans p3, (st_ne (by decide)).trans p4, (st_ne (by decide)).trans p5, (st_ne (by decide)).trans p6, (st_ne (by decide)).trans p7⟩
theorem PA.s3 {h : am_H} {c : am_C} {f1 f2 f3 f4 f5 f6 f7 f : Nat → Int32} (hP : PA h c f1 f2 f3 f4 f5 f6 f7) : PA (h.set 21 (am_I 0 300 f)) c f1 f2 f f4 f5 f6 f7 := by
  obtain ⟨p0, p1, p2, p3, p4, p5, p6, p7⟩ := hP
  exact ⟨(st_ne (by decide)).trans p0, (st_ne (by decide)).trans p1, (st_ne (by decide)).trans p2, st_eq p3, (st_ne (by decide)).trans p4, (st_ne (by decide)).trans p5, (st_ne (by decide)).trans p6, (st_ne (by decide)).trans p7⟩
theorem PA.s4 {h : am_H} {c : am_C} {f1 f2 f3 f4 f5 f6 f7 f : Nat → Int32} (hP : PA h c f1 f2 f3 f4 f5 f6 f7) : PA (h.set 22 (am_I 0 300 f)) c f1 f2 f3 f f5 f6 f7 := by
  obtain ⟨p0, p1, p2, p3, p4, p5, p6, p7⟩ := hP
  exact ⟨(st_ne (by decide)).trans p0, (st_ne (by decide)).trans p1, (st_ne (by decide)).trans p2, (st_ne (by decide)).trans p3, st_eq p4, (st_ne (by decide)).trans p5, (st_ne (by decide)).trans p6, (st_ne (by decide)).trans p7⟩
theorem PA.s5 {h : am_H} {c : am_C} {f1 f2 f3 f4 f5 f6 f7 f : Nat → Int32} (hP : PA h c f1 f2 f3 f4 f5 f6 f7) : PA (h.set 23 (am_I 0 300 f)) c f1 f2 f3 f4 f f6 f7 := by
  obtain ⟨p0, p1, p2, p3, p4, p5, p6, p7⟩ := hP
  exact ⟨(st_ne (by decide)).trans p0, (st_ne (by decide)).trans p1, (st_ne (by decide)).trans p2, (st_ne (by decide)).trans p3, (st_ne (by decide)).trans p4, st_eq p5, (st_ne (by decide)).trans p6, (st_ne (by decide)).trans p7⟩
theorem PA.s6 {h : am_H} {c : am_C} {f1 f2 f3 f4 f5 f6 f7 f : Nat → Int32} (hP : PA h c f1 f2 f3 f4 f5 f6 f7) : PA (h.set 24 (am_I 2 300 f)) c f1 f2 f3 f4 f5 f f7 := by
  obtain ⟨p0, p1, p2, p3, p4, p5, p6, p7⟩ := hP
  exact ⟨(st_ne (by decide)).trans p0, (st_ne (by decide)).trans p1, (st_ne (by decide)).trans p2, (st_ne (by decide)).trans p3, (st_ne (by decide)).trans p4, (st_ne (by decide)).trans p5, st_eq p6, (st_ne (by decide)).trans p7⟩
theorem PA.s7 {h : am_H} {c : am_C} {f1 f2 f3 f4 f5 f6 f7 f : Nat → Int32} (hP : PA h c f1 f2 f3 f4 f5 f6 f7) : PA (h.set 25 (am_I 2 300 f)) c f1 f2 f3 f4 f5 f6 f := by
  obtain ⟨p0, p1, p2, p3, p4, p5, p6, p7⟩ := hP
  exact ⟨(st_ne (by decide)).trans p0, (st_ne (by decide)).trans p1, (st_ne (by decide)).trans p2, (st_ne (by decide)).trans p3, (st_ne (by decide)).trans p4, (st_ne (by decide)).trans p5, (st_ne (by decide)).trans p6, st_eq p7⟩
/-- the arrays as they are meant -/
def PF (f1 f2 f3 f4 f5 f6 f7 : Nat → Int32) (fs : Nat → Bool) (d lo : Nat → Nat) (pa : Nat → Int32) (tt ls : Nat → Nat) (sd cu : Nat → Bool) : Prop :=
  (∀ v, v < 300 → f1 v = if fs v then nI (d v) else -1) ∧ (∀ v, v < 300 → fs v = true → f2 v = nI (lo v) ∧ f3 v = pa v ∧ f4 v = nI (tt v) ∧ f5 v = nI (ls v) ∧ f6 v = bi (sd v)) ∧ (∀ v, v < 300 → f7 v = bi (cu v) ∧ (fs v = false → f6 v = 0))
section CPIECE
variable {l : Launch} {g : am_G} {d0 : Nat} {x : Bool} {h : am_H} {m : ml_T} {ch : Nat}
variable {n rb num cr : Nat} {cs : Int32} {pt : Bool} {f1 f2 f3 f4 f5 f6 f7 : Nat → Int32} {fs : Nat → Bool} {d lo : Nat → Nat} {pa : Nat → Int32} {tt ls : Nat → Nat} {sd cu : Nat → Bool}
theorem sp_enter {v : Nat} {fr : Int32} {K : am_H → Prop} (hP : PA h (c_pc (nI n) (nI rb) cs (nI num) (nI cr) (bi pt)) f1 f2 f3 f4 f5 f6 f7) (hv : v < 300) (hK : ∀ h', PA h' (c_pc (nI (n + 1)) (nI rb) cs (nI num) (nI cr) (bi pt)) (upd f1 v (nI n)) (upd f2 v (nI n)) (upd f3 v fr) (upd f4 v 0) f5 f6 f7 → Fr 18 25 h h' → K h') : cl_N l g mX3_enter d0 x [.ref 18, .int (nI v), .int fr] h K := by
  refine eX3_enter (gtR hP.1 rfl (gtI hP.1 rfl (asI hP.2.1 hv (by decide) ?_)))
  have P1 := hP.s1 (f := upd f1 v (nI n))
  refine gtR P1.1 rfl (gtI P1.1 rfl (asI P1.2.2.1 hv (by decide) ?_))
  have P2 := P1.s2 (f := upd f2 v (nI n))
  refine gtI P2.1 rfl (ptV P2.1 (Nat.le_of_ble_eq_true rfl) ?_)
  rw [nI_1]
  have P3 := P2.s0 (c' := c_pc (nI (n + 1)) (nI rb) cs (nI num) (nI cr) (bi pt))
  refine gtR P3.1 rfl (asI P3.2.2.2.1 hv (by decide) ?_)
  have P4 := P3.s3 (f := upd f3 v fr)
  refine gtR P4.1 rfl (asI P4.2.2.2.2.1 hv (by decide) ⟨rfl, ?_⟩)
  exact hK _ (P4.s4 (f := upd f4 v 0)) (((((Fr.rf.st (by decide)).st (by decide)).st (by decide)).st (by decide)).st (by decide))
theorem PF.enter {v : Nat} {fr : Int32} {ls' : Nat} {sd' : Bool} (hF : PF f1 f2 f3 f4 f5 f6 f7 fs d lo pa tt ls sd cu) : PF (upd f1 v (nI n)) (upd f2 v (nI n)) (upd f3 v fr) (upd f4 v 0) (upd f5 v (nI ls')) (upd f6 v (bi sd')) f7 (fput fs v true) (fput d v n) (fput lo v n) (fput pa v fr) (fput tt v 0) (fput ls v ls') (fput sd v sd') cu := by
  obtain ⟨a1, a2, a3⟩ := hF
  refine ⟨fun w hw => ?_, fun w hw hf => ?_, fun w hw => ⟨(a3 w hw).1, fun hf => ?_⟩⟩
  · by_cases e : w = v
    · rw [e, pk_us, fput_s, fput_s, if_pos rfl]
    · rw [pk_un e, fput_n e, fput_n e]; exact a1 w hw
  · by_cases e : w = v
    · rw [e, pk_us, pk_us, pk_us, pk_us, pk_us, fput_s, fput_s, fput_s, fput_s, fput_s]; exact ⟨rfl, rfl, rfl, rfl, rfl⟩
    · rw [fput_n e] at hf
      rw [pk_un e, pk_un e, pk_un e, pk_un e, pk_un e, fput_n e, fput_n e, fput_n e, fput_n e, fput_n e]; exact a2 w hw hf
  · have e : w ≠ v := fun e => by rw [e, fput_s] at hf; cases hf
    rw [fput_n e] at hf
    rw [pk_un e]; exact (a3 w hw).2 hf
def mk_cu (cu : Nat → Bool) (v : Nat) : Nat → Bool := fput cu v true
theorem mk_ct {v : Nat} (hv : v < 300) (h : cu v = false) : fb_ct (fput cu v true) 300 = fb_ct cu 300 + 1 := by
  have := fb_ct_upd cu true (i := v) (n := 300) hv
  rw [h] at this
  simp only [Bool.false_eq_true, if_false, if_true] at this
  have e : (fun k => if k = v then true else cu k) = fput cu v true := rfl
  rw [e] at this
  omega
theorem fput_id {v : Nat} (h : cu v = true) : fput cu v true = cu := by
  funext i
  by_cases e : i = v
  · rw [e, fput_s, h]
  · rw [fput_n e]
theorem sp_markCut {v : Nat} {K : am_H → Prop} (hP : PA h (c_pc (nI n) (nI rb) cs (nI num) (nI cr) (bi pt)) f1 f2 f3 f4 f5 f6 f7) (hF : PF f1 f2 f3 f4 f5 f6 f7 fs d lo pa tt ls sd cu) (hv : v < 300) (hcr : cr = fb_ct cu 300) (hK : ∀ h' f7' cr', PA h' (c_pc (nI n) (nI rb) cs (nI num) (nI cr') (bi pt)) f1 f2 f3 f4 f5 f6 f7' → PF f1 f2 f3 f4 f5 f6 f7' fs d lo pa tt ls sd (fput cu v true) → cr' = fb_ct (fput cu v true) 300 → Fr 18 25 h h' → K h') : cl_N l g mX3_markCut d0 x [.ref 18, .int (nI v)] h K := by
  refine eX3_markCut (gtR hP.1 rfl (alI hP.2.2.2.2.2.2.2 hv (by decide) ?_))
  rw [(hF.2.2 v hv).1]
  refine ⟨fun z => ⟨rfl, ?_⟩, fun z => gtR hP.1 rfl (asI hP.2.2.2.2.2.2.2 hv (by decide) ?_)⟩
  · have e := bi_n0.mp z
    exact hK h f7 cr hP (by rw [fput_id e]; exact hF) (by rw [fput_id e]; exact hcr) Fr.rf
  · have e := bi_0.mp z
    have P1 := hP.s7 (f := upd f7 v 1)
    refine gtI P1.1 rfl (ptV P1.1 (Nat.le_of_ble_eq_true rfl) ⟨rfl, ?_⟩)
    rw [nI_1]
    refine hK _ (upd f7 v 1) (cr + 1) (P1.s0 (c' := c_pc (nI n) (nI rb) cs (nI num) (nI (cr + 1)) (bi pt))) ⟨hF.1, hF.2.1, fun w hw => ⟨?_, (hF.2.2 w hw).2⟩⟩ (by rw [mk_ct hv e, hcr]) ((Fr.rf.st (by decide)).st (by decide))
    by_cases ew : w = v
    · rw [ew, pk_us, fput_s]; rfl
    · rw [pk_un ew, fput_n ew]; exact (hF.2.2 w hw).1
theorem nI_min {a b : Nat} (ha : a < 2 ^ 31) (hb : b < 2 ^ 31) : (if nI a < nI b then nI a else nI b) = nI (min b a) := by
  by_cases c : a < b
  · rw [if_pos (nI_lt c hb), Nat.min_eq_right (Nat.le_of_lt c)]
  · rw [if_neg (fun z => c ((nI_ltI ha hb).mp z)), Nat.min_eq_left (by omega)]
theorem sp_tryFound {r o : Nat} {K : Int32 → am_H → Prop} (hP : PA h (c_pc (nI n) (nI rb) cs (nI num) (nI cr) (bi pt)) f1 f2 f3 f4 f5 f6 f7) (hF : PF f1 f2 f3 f4 f5 f6 f7 fs d lo pa tt ls sd cu) (hr : r < 300) (ho : o < 300) (hfr : fs r = true) (hfo : fs o = true) (hd : d o < 300) (hlo : lo r < 300) (hK : ∀ h' f2', PA h' (c_pc (nI n) (nI rb) cs (nI num) (nI cr) (bi (pt && !decide (sd o = sd r)))) f1 f2' f3 f4 f5 f6 f7 → PF f1 f2' f3 f4 f5 f6 f7 fs d (fput lo r (min (lo r) (d o))) pa tt ls sd cu → Fr 18 25 h h' → K (nI r) h') : cl_I l g mX3_tryLink (d0 + 1) x [.ref 18, .int (nI r), .int (nI o)] h K := by
  have F1 := hF.1 o ho
  rw [if_pos hfo] at F1
  have fin : ∀ (pt' : Bool) h1, PA h1 (c_pc (nI n) (nI rb) cs (nI num) (nI cr) (bi pt')) f1 f2 f3 f4 f5 f6 f7 → pt' = (pt && !decide (sd o = sd r)) → Fr 18 25 h h1 → zX3_tryLink_70 l g d0 x 18 (nI r) (nI o) h1 (fun r h' => ∃ v, r = some (.int v) ∧ K v h') := by
    intro pt' h1 P e f
    refine gtR P.1 rfl (gtR P.1 rfl (alI P.2.2.1 hr (by decide) (gtR P.1 rfl (alI P.2.1 ho (by decide) ?_))))
    rw [F1, (hF.2.1 r hr hfr).1, nI_min (by omega) (by omega)]
    refine asI P.2.2.1 hr (by decide) ⟨_, rfl, ?_⟩
    have P1 := P.s2 (f := upd f2 r (nI (min (lo r) (d o))))
    rw [e] at P1
    refine hK _ _ P1 ⟨hF.1, fun w hw hf => ?_, hF.2.2⟩ (f.st (by decide))
    by_cases ew : w = r
    · rw [ew, pk_us, fput_s]; exact ⟨rfl, (hF.2.1 r hr hfr).2⟩
    · rw [pk_un ew, fput_n ew]; exact hF.2.1 w hw hf
  refine eX3_tryLink (gtR hP.1 rfl (alI hP.2.1 ho (by decide) ?_))
  rw [F1]
  refine ⟨fun z => gtR hP.1 rfl (alI hP.2.2.2.2.2.2.1 ho (by decide) (gtR hP.1 rfl (alI hP.2.2.2.2.2.2.1 hr (by decide) ?_))), fun z => absurd z (n1_ne (by omega))⟩
  rw [(hF.2.1 o ho hfo).2.2.2.2, (hF.2.1 r hr hfr).2.2.2.2, bi_inj]
  refine ⟨fun y => fin pt h hP (by rw [decide_eq_false y]; simp) Fr.rf, fun y => ptV hP.1 (Nat.le_of_ble_eq_true rfl) (fin false _ (hP.s0 (c' := c_pc (nI n) (nI rb) cs (nI num) (nI cr) (bi false))) (by rw [decide_eq_true y]; simp) (Fr.rf.st (by decide)))⟩
theorem sp_tryNew {r o : Nat} {K : Int32 → am_H → Prop} (hP : PA h (c_pc (nI n) (nI rb) cs (nI num) (nI cr) (bi pt)) f1 f2 f3 f4 f5 f6 f7) (hF : PF f1 f2 f3 f4 f5 f6 f7 fs d lo pa tt ls sd cu) (hr : r < 300) (ho : o < 300) (hfr : fs r = true) (hfo : fs o = false) (hK : ∀ h' f1' f2' f3' f4' f5' f6', PA h' (c_pc (nI (n + 1)) (nI rb) cs (nI num) (nI cr) (bi pt)) f1' f2' f3' f4' f5' f6' f7 → PF f1' f2' f3' f4' f5' f6' f7 (fput fs o true) (fput d o n) (fput lo o n) (fput pa o (nI r)) (fput tt o 0) (fput ls o (ls r)) (fput sd o (!sd r)) cu → Fr 18 25 h h' → K (nI o) h') : cl_I l g mX3_tryLink (d0 + 1) x [.ref 18, .int (nI r), .int (nI o)] h K := by
  have F1 := hF.1 o ho
  rw [if_neg (by rw [hfo]; decide)] at F1
  have hne : o ≠ r := fun e => by rw [e, hfr] at hfo; cases hfo
  obtain ⟨g2, g3, g4, g5, g6⟩ := hF.2.1 r hr hfr
  refine eX3_tryLink (gtR hP.1 rfl (alI hP.2.1 ho (by decide) ?_))
  rw [F1]
  refine ⟨fun z => absurd rfl z, fun _ => gtR hP.1 rfl (gtR hP.1 rfl (alI hP.2.2.2.2.2.1 hr (by decide) ?_))⟩
  rw [g5]
  refine asI hP.2.2.2.2.2.1 ho (by decide) ?_
  have P5 := hP.s5 (f := upd f5 o (nI (ls r)))
  refine gtR P5.1 rfl (gtR P5.1 rfl (alI P5.2.2.2.2.2.2.1 hr (by decide) ?_))
  rw [g6]
  have go : zX3_tryLink_41 l g d0 x 18 (nI r) (nI o) 24 (nI o) (bi (!sd r)) (h.set 23 (am_I 0 300 (upd f5 o (nI (ls r))))) (fun r h' => ∃ v, r = some (.int v) ∧ K v h') := by
    refine ⟨bi_01 _, asI P5.2.2.2.2.2.2.1 ho (by decide) ⟨⟨_, P5.s6.1⟩, sp_enter (P5.s6 (f := upd f6 o (bi (!sd r)))) ho fun h' P' f' => ⟨_, rfl, ?_⟩⟩⟩
    exact hK h' _ _ _ _ _ _ P' hF.enter (((Fr.rf.st (by decide)).st (by decide)).tr f')
  refine ⟨fun z => ?_, fun z => ?_⟩
  · have e := bi_n0.mp z
    rw [e] at go
    exact go
  · have e := bi_0.mp z
    rw [e] at go
    exact go
theorem sp_leaveRoot {r : Nat} {K : am_H → Prop} (hP : PA h (c_pc (nI n) (nI rb) cs (nI num) (nI cr) (bi pt)) f1 f2 f3 f4 f5 f6 f7) (hr : r < 300) (h3 : f3 r = -1) (hK : K h) : cl_N l g mX3_leave (d0 + 1) x [.ref 18, .int (nI r)] h K := by
  refine eX3_leave (gtR hP.1 rfl (alI hP.2.2.2.1 hr (by decide) ?_))
  rw [h3]
  exact ⟨fun z => absurd rfl z, fun _ => ⟨rfl, hK⟩⟩
theorem sp_leave {r p : Nat} {K : am_H → Prop} (hP : PA h (c_pc (nI n) (nI rb) cs (nI num) (nI cr) (bi pt)) f1 f2 f3 f4 f5 f6 f7) (hF : PF f1 f2 f3 f4 f5 f6 f7 fs d lo pa tt ls sd cu) (hr : r < 300) (hp : p < 300) (hfr : fs r = true) (hfp : fs p = true) (hpr : pa r = nI p) (hlr : lo r < 1000) (hlp : lo p < 1000) (hdp : d p < 1000) (hrb : rb < 1000) (hne : r ≠ p) (hcr : cr = fb_ct cu 300)
    (hK : ∀ h' f2' f7' cr' rb' cu', PA h' (c_pc (nI n) (nI rb') cs (nI num) (nI cr') (bi pt)) f1 f2' f3 f4 f5 f6 f7' → PF f1 f2' f3 f4 f5 f6 f7' fs d (fput lo p (min (lo p) (lo r))) pa tt ls sd cu' → cr' = fb_ct cu' 300 → (¬ pa p = -1 → rb' = rb ∧ cu' = (if d p ≤ lo r then fput cu p true else cu)) → (pa p = -1 → rb' = rb + 1 ∧ cu' = (if 2 ≤ rb + 1 then fput cu p true else cu)) → Fr 18 25 h h' → K h') : cl_N l g mX3_leave (d0 + 1) x [.ref 18, .int (nI r)] h K := by
  obtain ⟨g2, g3, g4, g5, g6⟩ := hF.2.1 r hr hfr
  obtain ⟨i2, i3, i4, i5, i6⟩ := hF.2.1 p hp hfp
  have F1 := hF.1 p hp
  rw [if_pos hfp] at F1
  refine eX3_leave (gtR hP.1 rfl (alI hP.2.2.2.1 hr (by decide) ?_))
  rw [g3, hpr]
  refine ⟨fun _ => gtR hP.1 rfl (gtR hP.1 rfl (alI hP.2.2.1 hp (by decide) (gtR hP.1 rfl (alI hP.2.2.1 hr (by decide) ?_)))), fun z => absurd z (n1_ne (by omega))⟩
  rw [g2, i2, nI_min (by omega) (by omega)]
  refine asI hP.2.2.1 hp (by decide) ?_
  have P1 := hP.s2 (f := upd f2 p (nI (min (lo p) (lo r))))
  have G1 : PF f1 (upd f2 p (nI (min (lo p) (lo r)))) f3 f4 f5 f6 f7 fs d (fput lo p (min (lo p) (lo r))) pa tt ls sd cu := ⟨hF.1, fun w hw hf => by
    by_cases ew : w = p
    · rw [ew, pk_us, fput_s]; exact ⟨rfl, i3, i4, i5, i6⟩
    · rw [pk_un ew, fput_n ew]; exact hF.2.1 w hw hf, hF.2.2⟩
  refine gtR P1.1 rfl (alI P1.2.2.2.1 hp (by decide) ?_)
  rw [i3]
  refine ⟨fun z => gtI P1.1 rfl (ptV P1.1 (Nat.le_of_ble_eq_true rfl) ?_), fun z => gtR P1.1 rfl (alI P1.2.2.1 hr (by decide) (gtR P1.1 rfl (alI P1.2.1 hp (by decide) ?_)))⟩
  · rw [nI_1]
    have P2 := P1.s0 (c' := c_pc (nI n) (nI (rb + 1)) cs (nI num) (nI cr) (bi pt))
    have e1 : nI (rb + 1) ≤ (1 : Int32) ↔ rb + 1 ≤ 1 := nI_leI (b := 1) (by omega) (by decide)
    refine gtI P2.1 rfl ⟨fun y => ⟨rfl, ?_⟩, fun y => ⟨⟨_, P2.1⟩, sp_markCut P2 G1 hp hcr fun h' f7' cr' P' F' c' f' => ⟨rfl, ?_⟩⟩⟩
    · rw [e1] at y
      exact hK _ _ _ cr (rb + 1) cu P2 G1 hcr (fun c => absurd z c) (fun _ => ⟨rfl, by rw [if_neg (by omega)]⟩) ((Fr.rf.st (by decide)).st (by decide))
    · rw [e1] at y
      exact hK h' _ f7' cr' (rb + 1) (fput cu p true) P' F' c' (fun c => absurd z c) (fun _ => ⟨rfl, by rw [if_pos (by omega)]⟩) (((Fr.rf.st (by decide)).st (by decide)).tr f')
  · rw [pk_un hne, g2, F1]
    have e1 : nI (lo r) < nI (d p) ↔ lo r < d p := nI_ltI (by omega) (by omega)
    refine ⟨fun y => ⟨rfl, ?_⟩, fun y => ⟨⟨_, P1.1⟩, sp_markCut P1 G1 hp hcr fun h' f7' cr' P' F' c' f' => ⟨rfl, ?_⟩⟩⟩
    · rw [e1] at y
      exact hK _ _ _ cr rb cu P1 G1 hcr (fun _ => ⟨rfl, by rw [if_neg (by omega)]⟩) (fun c => absurd c z) (Fr.rf.st (by decide))
    · rw [e1] at y
      exact hK h' _ f7' cr' rb (fput cu p true) P' F' c' (fun _ => ⟨rfl, by rw [if_pos (by omega)]⟩) (fun c => absurd c z) ((Fr.rf.st (by decide)).tr f')
end CPIECE
