/-! ===== a throw caught by the first row of the table ===== -/
section CAUGHT
variable {p : Program} {l : Launch} {e : Env} {R : Room} {s : State} {m : MethodId} {args : Array Value} {below : List Frame} {meth : Method} {c : Code} {T : State} {locs : List Loc} {cells slots : Nat}
/-- the search stops at the first row, and notes the class that the row names -/
theorem ca_find {S : State} {f : JFrame} {a : Addr} {x : ExceptionTableEntry} {suf : List ExceptionTableEntry} {k : ClassId} {cell : Cell} (hm : S.vm.method? f.method = some meth) (hc : meth.code = some c) (ht : c.exceptionTable.toList = x :: suf) (hx : covers x f.pc = true) (h0 : x.catchType ≠ 0)
    (hl : S.vm.ClassLinks e.platform f.method.cls x.catchType k) (hcell : S.heap[a]? = some cell) (hobj : ∀ j, cell.vm ≠ .statics j) (h1 : ∃ j, S.vm.classes[cell.cls]? = some j) (h2 : ∃ j, S.vm.classes[k]? = some j) (hfit : S.vm.assignable cell.cls k = true) {Q : Handler → Pre} {E : CtlPost} {d : Bool} {acts : List Action} :
    wp (findHandler f a) Q E e d acts S ↔ Q (.found x.handlerPc) d acts (S.setVm (S.vm.noted f.method.cls x.catchType (.cls k))) := by
  rw [W.findHandler_eq hm hc, ht]
  have al : S.vm.Alike (S.vm.noted f.method.cls x.catchType (.cls k)) := (Vm.Alike.refl S.vm).noted _ _ _
  have hop := (resolveClass_links e.toSetting hl).op (op := VmOp.resolveClass f.method.cls x.catchType) rfl
  obtain ⟨j1, e1⟩ := h1
  obtain ⟨j2, e2⟩ := h2
  obtain ⟨i1, d1, -⟩ := al.2.2 _ _ e1
  obtain ⟨i2, d2, -⟩ := al.2.2 _ _ e2
  have fit2 : (S.vm.noted f.method.cls x.catchType (.cls k)).assignable cell.cls k = true := (al.assignable _ _).trans hfit
  simp only [covers] at hx
  simp [findHandler.go, hx, h0, hop.1, hop.2, hcell, hobj, d1, d2, fit2, VmOp.dirties, VmOp.acts]
theorem ca_caught (X : Stand p l e R s m args below meth c T locs cells slots) {g : JFrame} (hg : g.method = m) {q : Addr} {ce : Cell} (hcell : T.heap[q]? = some ce) (hv : ce.vm = .none) {E own name : String} (hcl : s.vm.findClass E = some ce.cls) (hown : s.vm.findClass own = some m.cls) {x : ExceptionTableEntry} {suf : List ExceptionTableEntry} (ht : c.exceptionTable.toList = x :: suf) (hx : covers x g.pc = true) (h0 : x.catchType ≠ 0)
    (hlink : (Cond.classLink own x.catchType name).before args s = true) (hcast : (Cond.castable E name).before args s = true) :
    ∃ vm', Stand p l e R s m args below meth c (T.setVm vm') locs cells slots ∧ Steps p.tables e below ((T.setTop g).pushFrame (.throwing q)) ((T.setVm vm').setTop { g with pc := x.handlerPc, stack := [.ref q] }) := by
  subst hg
  have hpl : e.platform.magicAccessors = ({} : Platform).magicAccessors := by rw [X.admits.platform]
  obtain ⟨c3, c4, hc3, hc4, hasg⟩ := Cond.castable_spec hcast
  cases Option.some.inj (hc3.symm.trans hcl)
  obtain ⟨c5, hc5, hcl5⟩ := Cond.classLink_spec hown hlink e.platform hpl
  cases Option.some.inj (hc4.symm.trans hc5)
  obtain ⟨dk, _, _, kt, hd, _, _, _, _, hkt, _, hopen⟩ := hcl5.here
  obtain ⟨k0, hk0, -⟩ := Vm.findClass_spec hcl
  have hW := X.warmed
  obtain ⟨k0', hk0', -⟩ := hW.alike.2.2 _ _ hk0
  obtain ⟨kt', hkt', -⟩ := hW.alike.2.2 _ _ hkt
  have find := fun (Q : Handler → Pre) (E : CtlPost) (d : Bool) (acts : List Action) => ca_find (e := e) (S := (T.setTop g).pushFrame (.throwing q)) (f := g) (a := q) (k := c4) (cell := ce) (Q := Q) (E := E) (d := d) (acts := acts) X.method' X.code ht hx h0 (hW.classLinks hcl5) hcell (VmData.ne_statics_of (by rw [hv]; rfl)) ⟨k0', hk0'⟩ ⟨kt', hkt'⟩ (by rw [show ((T.setTop g).pushFrame (.throwing q)).vm = T.vm from rfl, hW.alike.assignable]; exact hasg)
  refine ⟨T.vm.noted g.method.cls x.catchType (.cls c4), X.noted (hW.noted hd hopen (State.rightAt_cls hcl5)), ?_⟩
  obtain ⟨hgo, hw⟩ := X.here.throwing q
  refine Steps.head hgo hw ?_
  have one : (stepThrowing e ((T.setTop g).pushFrame (.throwing q)) q (.java g :: T.frames.tail)).Is ((((T.setTop g).pushFrame (.throwing q)).setVm (T.vm.noted g.method.cls x.catchType (.cls c4))).setFrames (.java { g with pc := x.handlerPc, stack := [.ref q] } :: T.frames.tail)) [] := by
    simp only [stepThrowing, searchFrame, vmDo]
    generalize hr : Sem.go _ e false [] _ = res
    obtain ⟨as, rfl, ha⟩ := Sem.eq_ok_of hr (a := Handler.found x.handlerPc) (s' := ((T.setTop g).pushFrame (.throwing q)).setVm (T.vm.noted g.method.cls x.catchType (.cls c4))) (acts' := []) (by simp [find]; rfl)
    exact ⟨rfl, ha⟩
  rw [stepThread_throwing (frames_entered X.here.top _), one.1]
  obtain ⟨g₀, h9⟩ := Option.isSome_iff_exists.mp X.here.top
  obtain ⟨r, hr⟩ := State.topJava?_eq_some.mp h9
  have hr' : (T.setVm (T.vm.noted g.method.cls x.catchType (.cls c4))).frames = .java g₀ :: r := hr
  rw [State.setTop_of_frames _ hr', hr, List.tail_cons, State.pushFrame]
  show Steps p.tables e below ((((T.setTop g).setVm (T.vm.noted g.method.cls x.catchType (.cls c4))).setFrames _).setFrames _) _
  rw [State.setFrames_setFrames, State.setTop_of_frames _ hr]
  show Steps p.tables e below (((T.setVm (T.vm.noted g.method.cls x.catchType (.cls c4))).setFrames _).setFrames _) _
  rw [State.setFrames_setFrames]
  exact Steps.refl _
end CAUGHT
