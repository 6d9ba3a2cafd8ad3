section AMH
variable {l : Launch} {g : am_G} {M : am_M} {d : Nat} {kn : Nat × Nat × Bool} {pc : Nat} {L : List (Nat × Value)} {S : List Value} {h : am_H} {Q : Option Value → am_H → Prop}
theorem J_get {idx ci k a : Nat} {ty : FieldType} {fin : Bool} {fs : List Value} {v : Value} (hd : decode M.2.1 pc = .ok (.getfield idx, 3)) (hF : am_F M.1.cls idx ci k ty fin) (hh : h[a]? = some (am_O ci fs)) (hv : fs[k]? = some v) (kk : am_J l g M d kn (pc + 3) L (v :: S) h Q) : am_J l g M d kn pc L (.ref a :: S) h Q := by
  intro p e R s m args below meth c H locs ls Qm C hr hl f1 f2 f3
  obtain ⟨hx, hb, -, hml, hown, hts, -, -, -⟩ := id C
  obtain ⟨hK, hX, hP, hD, hS, hz⟩ := id hr
  obtain ⟨CC, T, N, ty0, hc, hin, hty, hnm, hk, hlk, hcl, hty', hfin⟩ := hF
  exact va_get (D := g.2.1) (Ts := lw_gw) hx hb hts hin hown hK hP a (am_w_get hh) hc k hk (hts _ hlk) (fun x hx => by rw [← hcl]; exact hx) (v := am_t g v) (by simp [hv]) hd (kk p e R s m args below meth c H locs ls Qm C hr hl f1 f2 f3)
theorem J_put {idx ci k a : Nat} {ty : FieldType} {fs : List Value} {v : Value} (hd : decode M.2.1 pc = .ok (.putfield idx, 3)) (hF : am_F M.1.cls idx ci k ty false) (hn : narrow ty (am_t g v) = am_t g v) (hfit : fits ty (am_t g v) = true) (hh : h[a]? = some (am_O ci fs)) (hkl : k < fs.length) (kk : am_J l g M d kn (pc + 3) L S (h.set a (am_O ci (fs.set k v))) Q) : am_J l g M d kn pc L (v :: .ref a :: S) h Q := by
  intro p e R s m args below meth c H locs ls Qm C hr hl f1 f2 f3
  obtain ⟨hx, hb, -, hml, hown, hts, -, -, -⟩ := id C
  obtain ⟨hK, hX, hP, hD, hS, hz⟩ := id hr
  obtain ⟨CC, T, N, ty0, hc, hin, hty, hnm, hk, hlk, hcl, hty', hfin⟩ := hF
  refine va_put (D := g.2.1) (A := am_A g) (H0 := H) (Ts := lw_gw) hx hb hts hin ty0 hty hnm hown hK hP hD (am_S_rf hS) a (am_w_get hh) hc k hk (hts _ hlk) (fun x hx => by rw [← hcl]; exact hx) hfin (v := am_t g v) (ty := ty) (by rw [hty k hk, hty']) hn hfit (by simpa using hkl) hd (fun H1 locs1 hP1 hD1 hS1 => am_up fun hu => ?_)
  have e1 : (am_w g h).set a (g.1 + a, Sum.inr (ci, (fs.map (am_t g)).set k (am_t g v))) = am_w g (h.set a (am_O ci (fs.set k v))) := by
    rw [← am_w_set]; simp [am_e, List.map_set]
  rw [e1] at hP1 hD1
  exact kk p e R s m args below meth c H1 locs1 ls Qm C (am_r_put hr (by simp) hP1 hD1 hS1 hu) hl f1 f2 f3
theorem J_putF {idx ci k a : Nat} {ty : FieldType} {fs : List Value} {v : Value} (hd : decode M.2.1 pc = .ok (.putfield idx, 3)) (hF : am_F M.1.cls idx ci k ty true) (hini : M.1.name = "<init>") (hown0 : (am_cls[ci]?.map (fun q => q.1)) = some M.1.cls) (hn : narrow ty (am_t g v) = am_t g v) (hfit : fits ty (am_t g v) = true) (hh : h[a]? = some (am_O ci fs)) (hkl : k < fs.length) (kk : am_J l g M d kn (pc + 3) L S (h.set a (am_O ci (fs.set k v))) Q) : am_J l g M d kn pc L (v :: .ref a :: S) h Q := by
  intro p e R s m args below meth c H locs ls Qm C hr hl f1 f2 f3
  obtain ⟨hx, hb, -, hml, hown, hts, -, hname, -⟩ := id C
  obtain ⟨hK, hX, hP, hD, hS, hz⟩ := id hr
  obtain ⟨CC, T, N, ty0, hc, hin, hty, hnm, hk, hlk, hcl, hty', hfin⟩ := hF
  have hCC : CC = M.1.cls := by
    rw [hc] at hown0
    exact Option.some.inj hown0
  refine va_putF (D := g.2.1) (A := am_A g) (H0 := H) (Ts := lw_gw) hx hb hts hin ty0 hty hnm hown hK hP hD (am_S_rf hS) a (am_w_get hh) hc k hk (hts _ hlk) (fun x hx => by rw [← hcl]; exact hx) hfin (hname.trans hini) (hcl.trans hCC) (v := am_t g v) (ty := ty) (by rw [hty k hk, hty']) hn hfit (by simpa using hkl) hd (fun H1 locs1 hP1 hD1 hS1 => am_up fun hu => ?_)
  have e1 : (am_w g h).set a (g.1 + a, Sum.inr (ci, (fs.map (am_t g)).set k (am_t g v))) = am_w g (h.set a (am_O ci (fs.set k v))) := by
    rw [← am_w_set]; simp [am_e, List.map_set]
  rw [e1] at hP1 hD1
  exact kk p e R s m args below meth c H1 locs1 ls Qm C (am_r_put hr (by simp) hP1 hD1 hS1 hu) hl f1 f2 f3
theorem J_iald {a n : Nat} {f : Nat → Int32} {i : Int32} (hd : decode M.2.1 pc = .ok (.iaload, 1)) (hh : h[a]? = some (am_I 0 n f)) (hin : vp_in i n) (kk : am_J l g M d kn (pc + 1) L (.int (f i.toNatClampNeg) :: S) h Q) : am_J l g M d kn pc L (.int i :: .ref a :: S) h Q := by
  intro p e R s m args below meth c H locs ls Qm C hr hl f1 f2 f3
  exact va_iald (D := g.2.1) C.1 C.2.1 hr.1 hr.2.2.1 a 0 (am_w_get hh) rfl hin hd (kk p e R s m args below meth c H locs ls Qm C hr hl f1 f2 f3)
theorem J_zald {a n : Nat} {f : Nat → Int32} {i : Int32} (hd : decode M.2.1 pc = .ok (.baload, 1)) (hh : h[a]? = some (am_I 2 n f)) (hin : vp_in i n) (kk : am_J l g M d kn (pc + 1) L (.int (f i.toNatClampNeg) :: S) h Q) : am_J l g M d kn pc L (.int i :: .ref a :: S) h Q := by
  intro p e R s m args below meth c H locs ls Qm C hr hl f1 f2 f3
  exact va_zald (D := g.2.1) C.1 C.2.1 hr.1 hr.2.2.1 a 2 (am_w_get hh) rfl hin hd (kk p e R s m args below meth c H locs ls Qm C hr hl f1 f2 f3)
theorem J_cald {a n : Nat} {f : Nat → Int32} {i : Int32} (hd : decode M.2.1 pc = .ok (.caload, 1)) (hh : h[a]? = some (am_I 3 n f)) (hin : vp_in i n) (kk : am_J l g M d kn (pc + 1) L (.int (f i.toNatClampNeg) :: S) h Q) : am_J l g M d kn pc L (.int i :: .ref a :: S) h Q := by
  intro p e R s m args below meth c H locs ls Qm C hr hl f1 f2 f3
  exact va_cald (D := g.2.1) C.1 C.2.1 hr.1 hr.2.2.1 a 3 (am_w_get hh) rfl hin hd (kk p e R s m args below meth c H locs ls Qm C hr hl f1 f2 f3)
theorem J_lald {a n : Nat} {f : Nat → Int64} {i : Int32} (hd : decode M.2.1 pc = .ok (.laload, 1)) (hh : h[a]? = some (am_L n f)) (hin : vp_in i n) (kk : am_J l g M d kn (pc + 1) L (.long (f i.toNatClampNeg) :: S) h Q) : am_J l g M d kn pc L (.int i :: .ref a :: S) h Q := by
  intro p e R s m args below meth c H locs ls Qm C hr hl f1 f2 f3
  exact va_lald (D := g.2.1) C.1 C.2.1 hr.1 hr.2.2.1 a 1 (am_w_get hh) rfl hin hd (kk p e R s m args below meth c H locs ls Qm C hr hl f1 f2 f3)
theorem J_sld {i : Int32} (hd : decode M.2.1 pc = .ok (.iaload, 1)) (hin : vp_in i g.2.2.2.1.2.1) (kk : am_J l g M d kn (pc + 1) L (.int (g.2.2.2.1.2.2 i.toNatClampNeg) :: S) h Q) : am_J l g M d kn pc L (.int i :: .retAddr 0 :: S) h Q := by
  intro p e R s m args below meth c H locs ls Qm C hr hl f1 f2 f3
  exact va_sld (A := am_A g) C.1 C.2.1 hr.2.1.1 (Nat.lt_of_lt_of_le hr.2.1.2.1 hr.2.1.2.2.2.2.1) (Nat.not_le.mpr hr.2.1.2.1) hr.2.2.2.2.1 hin hd (kk p e R s m args below meth c H locs ls Qm C hr hl f1 f2 f3)
theorem J_slen (hd : decode M.2.1 pc = .ok (.arraylength, 1)) (kk : am_J l g M d kn (pc + 1) L (.int (Int32.ofNat g.2.2.2.1.2.1) :: S) h Q) : am_J l g M d kn pc L (.retAddr 0 :: S) h Q := by
  intro p e R s m args below meth c H locs ls Qm C hr hl f1 f2 f3
  exact va_slen (A := am_A g) C.1 C.2.1 hr.2.1.1 (Nat.lt_of_lt_of_le hr.2.1.2.1 hr.2.1.2.2.2.2.1) (Nat.not_le.mpr hr.2.1.2.1) hr.2.2.2.2.1 hd (kk p e R s m args below meth c H locs ls Qm C hr hl f1 f2 f3)
theorem J_tld {i : Int32} (hd : decode M.2.1 pc = .ok (.iaload, 1)) (hin : vp_in i 9) (kk : am_J l g M d kn (pc + 1) L (.int (am_room i.toNatClampNeg) :: S) h Q) : am_J l g M d kn pc L (.int i :: .retAddr 1 :: S) h Q := by
  intro p e R s m args below meth c H locs ls Qm C hr hl f1 f2 f3
  exact va_ti (A := am_A g) C.1 C.2.1 hr.2.1.2.2.2.1 hr.2.2.2.2.1 hin rfl hd (kk p e R s m args below meth c H locs ls Qm C hr hl f1 f2 f3)
theorem J_tlen (hd : decode M.2.1 pc = .ok (.arraylength, 1)) (kk : am_J l g M d kn (pc + 1) L (.int 9 :: S) h Q) : am_J l g M d kn pc L (.retAddr 1 :: S) h Q := by
  intro p e R s m args below meth c H locs ls Qm C hr hl f1 f2 f3
  exact va_tlen (A := am_A g) C.1 C.2.1 hr.2.1.2.2.2.1 hr.2.2.2.2.1 (v := 9) rfl hd (kk p e R s m args below meth c H locs ls Qm C hr hl f1 f2 f3)
theorem J_gets {idx : Nat} (hd : decode M.2.1 pc = .ok (.getstatic idx, 3)) (hlk : Cond.fieldLink M.1.cls idx "RingWeaves" "ROOM" "[I" ∈ lw_gw) (kk : am_J l g M d kn (pc + 3) L (.retAddr 1 :: S) h Q) : am_J l g M d kn pc L S h Q := by
  intro p e R s m args below meth c H locs ls Qm C hr hl f1 f2 f3
  exact va_gets (A := am_A g) C.1 C.2.1 hr.2.1.2.2.1 hr.2.2.2.2.1 C.2.2.2.2.1 (C.2.2.2.2.2.1 _ hlk) (fun _ hx => hx) hd (kk p e R s m args below meth c H locs ls Qm C hr hl f1 f2 f3)
theorem J_alenI {a t n : Nat} {f : Nat → Int32} {v : Int32} (ht : t = 0 ∨ t = 2 ∨ t = 3) (hd : decode M.2.1 pc = .ok (.arraylength, 1)) (hh : h[a]? = some (am_I t n f)) (hv : Int32.ofNat n = v) (kk : am_J l g M d kn (pc + 1) L (.int v :: S) h Q) : am_J l g M d kn pc L (.ref a :: S) h Q := by
  intro p e R s m args below meth c H locs ls Qm C hr hl f1 f2 f3
  have k := kk p e R s m args below meth c H locs ls Qm C hr hl f1 f2 f3
  rcases ht with rfl | rfl | rfl
  · exact va_alen (D := g.2.1) C.1 C.2.1 hr.1 hr.2.2.1 a 0 (am_w_get hh) (ty := .int) rfl hv hd k
  · exact va_alen (D := g.2.1) C.1 C.2.1 hr.1 hr.2.2.1 a 2 (am_w_get hh) (ty := .boolean) rfl hv hd k
  · exact va_alen (D := g.2.1) C.1 C.2.1 hr.1 hr.2.2.1 a 3 (am_w_get hh) (ty := .char) rfl hv hd k
theorem J_alenL {a n : Nat} {f : Nat → Int64} {v : Int32} (hd : decode M.2.1 pc = .ok (.arraylength, 1)) (hh : h[a]? = some (am_L n f)) (hv : Int32.ofNat n = v) (kk : am_J l g M d kn (pc + 1) L (.int v :: S) h Q) : am_J l g M d kn pc L (.ref a :: S) h Q := by
  intro p e R s m args below meth c H locs ls Qm C hr hl f1 f2 f3
  exact va_alen (D := g.2.1) C.1 C.2.1 hr.1 hr.2.2.1 a 1 (am_w_get hh) (ty := .long) rfl hv hd (kk p e R s m args below meth c H locs ls Qm C hr hl f1 f2 f3)
theorem J_iast {a n : Nat} {f : Nat → Int32} {i x : Int32} (hd : decode M.2.1 pc = .ok (.iastore, 1)) (hh : h[a]? = some (am_I 0 n f)) (hin : vp_in i n) (kk : am_J l g M d kn (pc + 1) L S (h.set a (am_I 0 n (upd f i.toNatClampNeg x))) Q) : am_J l g M d kn pc L (.int x :: .int i :: .ref a :: S) h Q := by
  intro p e R s m args below meth c H locs ls Qm C hr hl f1 f2 f3
  refine va_iast (D := g.2.1) (A := am_A g) (H0 := H) C.1 C.2.1 hr.1 hr.2.2.1 hr.2.2.2.1 (am_S_rf hr.2.2.2.2.1) a 0 (am_w_get hh) rfl hin hd (fun H1 locs1 hP1 hD1 hS1 => am_up fun hu => ?_)
  have e1 := am_w_set (g := g) (h := h) (a := a) (c := am_I 0 n (upd f i.toNatClampNeg x))
  exact kk p e R s m args below meth c H1 locs1 ls Qm C (am_r_put hr (by simp) (by rw [← e1]; exact hP1) (by rw [← e1]; exact hD1) hS1 hu) hl f1 f2 f3
theorem J_zast {a n : Nat} {f : Nat → Int32} {i x : Int32} (hd : decode M.2.1 pc = .ok (.bastore, 1)) (hh : h[a]? = some (am_I 2 n f)) (hin : vp_in i n) (hx : vp_nar .boolean x = x) (kk : am_J l g M d kn (pc + 1) L S (h.set a (am_I 2 n (upd f i.toNatClampNeg x))) Q) : am_J l g M d kn pc L (.int x :: .int i :: .ref a :: S) h Q := by
  intro p e R s m args below meth c H locs ls Qm C hr hl f1 f2 f3
  refine va_zast (D := g.2.1) (A := am_A g) (H0 := H) C.1 C.2.1 hr.1 hr.2.2.1 hr.2.2.2.1 (am_S_rf hr.2.2.2.2.1) a 2 (am_w_get hh) rfl hin hd (fun H1 locs1 hP1 hD1 hS1 => am_up fun hu => ?_)
  rw [hx] at hP1 hD1
  have e1 := am_w_set (g := g) (h := h) (a := a) (c := am_I 2 n (upd f i.toNatClampNeg x))
  exact kk p e R s m args below meth c H1 locs1 ls Qm C (am_r_put hr (by simp) (by rw [← e1]; exact hP1) (by rw [← e1]; exact hD1) hS1 hu) hl f1 f2 f3
theorem J_cast {a n : Nat} {f : Nat → Int32} {i x : Int32} (hd : decode M.2.1 pc = .ok (.castore, 1)) (hh : h[a]? = some (am_I 3 n f)) (hin : vp_in i n) (hx : vp_nar .char x = x) (kk : am_J l g M d kn (pc + 1) L S (h.set a (am_I 3 n (upd f i.toNatClampNeg x))) Q) : am_J l g M d kn pc L (.int x :: .int i :: .ref a :: S) h Q := by
  intro p e R s m args below meth c H locs ls Qm C hr hl f1 f2 f3
  refine va_cast (D := g.2.1) (A := am_A g) (H0 := H) C.1 C.2.1 hr.1 hr.2.2.1 hr.2.2.2.1 (am_S_rf hr.2.2.2.2.1) a 3 (am_w_get hh) rfl hin hd (fun H1 locs1 hP1 hD1 hS1 => am_up fun hu => ?_)
  rw [hx] at hP1 hD1
  have e1 := am_w_set (g := g) (h := h) (a := a) (c := am_I 3 n (upd f i.toNatClampNeg x))
  exact kk p e R s m args below meth c H1 locs1 ls Qm C (am_r_put hr (by simp) (by rw [← e1]; exact hP1) (by rw [← e1]; exact hD1) hS1 hu) hl f1 f2 f3
theorem J_last {a n : Nat} {f : Nat → Int64} {i : Int32} {x : Int64} (hd : decode M.2.1 pc = .ok (.lastore, 1)) (hh : h[a]? = some (am_L n f)) (hin : vp_in i n) (kk : am_J l g M d kn (pc + 1) L S (h.set a (am_L n (vp_updL f i.toNatClampNeg x))) Q) : am_J l g M d kn pc L (.long x :: .int i :: .ref a :: S) h Q := by
  intro p e R s m args below meth c H locs ls Qm C hr hl f1 f2 f3
  refine va_last (D := g.2.1) (A := am_A g) (H0 := H) C.1 C.2.1 hr.1 hr.2.2.1 hr.2.2.2.1 (am_S_rf hr.2.2.2.2.1) a 1 (am_w_get hh) rfl hin hd (fun H1 locs1 hP1 hD1 hS1 => am_up fun hu => ?_)
  have e1 := am_w_set (g := g) (h := h) (a := a) (c := am_L n (vp_updL f i.toNatClampNeg x))
  exact kk p e R s m args below meth c H1 locs1 ls Qm C (am_r_put hr (by simp) (by rw [← e1]; exact hP1) (by rw [← e1]; exact hD1) hS1 hu) hl f1 f2 f3
/-- where a new cell lies -/
theorem am_at_new {H H1 : Heap} {s : State} {locs : List Loc} {k q : Nat} {c : va_E} (hr : am_r g s H locs k true h) (hP : va_P g.2.1 am_cls (am_w g h ++ [(q, c)]) H1) (hD : va_D (am_A g) (am_w g h ++ [(q, c)])) (hu : H1.size ≤ s.heap.size + (k + 1)) : q = g.1 + h.length := by
  obtain ⟨-, -, -, -, -, hz⟩ := hr
  obtain ⟨z1, z2⟩ := hz rfl
  have hq : (am_w g h ++ [(q, c)])[h.length]? = some (q, c) := by
    rw [List.getElem?_append_right (by rw [am_w_len]; omega), am_w_len]; simp
  have hlt : q < H1.size := (hP _ _ hq).lt
  have hA : g.1 ≤ q := hD.2 _ _ hq
  rcases Nat.lt_or_ge q (g.1 + h.length) with hc | hc
  · exfalso
    have hi : q - g.1 < h.length := by omega
    have h1 : (am_w g h ++ [(q, c)])[q - g.1]? = some (g.1 + (q - g.1), am_e g h[q - g.1]) := by
      rw [List.getElem?_append_left (by rw [am_w_len]; exact hi)]
      exact am_w_get (List.getElem?_eq_getElem hi)
    have := hD.1 _ _ _ _ h1 hq (by show g.1 + (q - g.1) = q; omega)
    omega
  · omega
theorem J_new {idx ci N k n : Nat} {CC : String} {T : u_T} {fs : List Value} (hd : decode M.2.1 pc = .ok (.new idx, 3)) (hc : am_cls[ci]? = some (CC, T, N)) (hin : ∀ w ∈ u_ws CC T N, w ∈ lw_gw) (ty : Nat → FieldType) (hty : ∀ k, k < N → parseFieldDescriptor (T k).2.2.1 = some (ty k)) (hcl : Cond.classLink M.1.cls idx CC ∈ lw_gw) (hinst : Cond.instantiable CC N ∈ lw_gw) (hini : Cond.initialized CC ∈ lw_gw) (hfs : ∀ j, j < N → defaultValue (ty j) = vp_V fs j) (hft : fs.map (am_t g) = fs) (hk : k + 1 ≤ M.2.2.2.2.1 ∧ n + N ≤ M.2.2.2.2.2) (kk : am_J l g M d (k + 1, n + N, true) (pc + 3) L (.ref h.length :: S) (h ++ [am_O ci fs]) Q) : am_J l g M d (k, n, true) pc L S h Q := by
  intro p e R s m args below meth c H locs ls Qm C hr hl f1 f2 f3
  obtain ⟨hx, hb, -, hml, hown, hts, -, -, -, -, hRc, hRs⟩ := id C
  obtain ⟨hK, hX, hP, hD, hS, hz⟩ := id hr
  have hg1 : g.1 ≤ H.size := Nat.le_trans hX.2.2.2.2.1 hS.1
  refine va_new (D := g.2.1) (A := am_A g) (H0 := H) (Ts := lw_gw) hx hb hts hin ty hty hown (hts _ hcl) (hts _ hinst) (hts _ hini) hK hP hD (am_S_rf hS) (fun q hq => Nat.le_trans hg1 hq) hc hfs (Nat.le_trans hk.1 hRc) (Nat.le_trans hk.2 hRs) hd (fun q H1 hP1 hD1 hS1 => am_up fun hu => ?_)
  have hq : q = g.1 + h.length := am_at_new hr hP1 hD1 hu
  subst hq
  have e1 : am_w g h ++ [(g.1 + h.length, Sum.inr (ci, fs))] = am_w g (h ++ [am_O ci fs]) := by
    rw [← am_w_push]; simp [am_e, hft]
  rw [e1] at hP1 hD1
  refine kk p e R s m args below meth c H1 locs ls Qm C ⟨hK, hX, hP1, hD1, am_S_tr hS hS1, fun _ => ?_⟩ hl f1 f2 f3
  obtain ⟨z1, z2⟩ := hz rfl
  have h2 : (am_w g (h ++ [am_O ci fs]))[h.length]? = some (g.1 + h.length, am_e g (am_O ci fs)) := am_w_get (by simp)
  have hlt : g.1 + h.length < H1.size := (hP1 _ _ h2).lt
  simp only [List.length_append, List.length_cons, List.length_nil]
  omega
theorem J_newaI {atype : ArrayType} {t k n N' : Nat} {nn : Int32} {ty : FieldType} (hd : decode M.2.1 pc = .ok (.newarray atype, 2)) (hty : newarray.typeOf atype = ty) (haw : Cond.arrayClass ty ∈ lw_gw) (htt : (t = 0 ∧ ty = .int) ∨ (t = 2 ∧ ty = .boolean) ∨ (t = 3 ∧ ty = .char)) (hn : ¬ nn < 0) (hN : nn.toNatClampNeg = N') (hbytes : N' * componentBytes ty ≤ 536870912) (hk : k + 1 ≤ M.2.2.2.2.1 ∧ n + N' ≤ M.2.2.2.2.2) (kk : am_J l g M d (k + 1, n + N', true) (pc + 2) L (.ref h.length :: S) (h ++ [am_I t N' (fun _ => 0)]) Q) : am_J l g M d (k, n, true) pc L (.int nn :: S) h Q := by
  intro p e R s m args below meth c H locs ls Qm C hr hl f1 f2 f3
  obtain ⟨hx, hb, -, hml, hown, hts, -, -, -, -, hRc, hRs⟩ := id C
  obtain ⟨hK, hX, hP, hD, hS, hz⟩ := id hr
  have hg1 : g.1 ≤ H.size := Nat.le_trans hX.2.2.2.2.1 hS.1
  refine va_newa (D := g.2.1) (A := am_A g) (H0 := H) (ty := ty) hx hb (by rw [hty]; exact hts _ haw) hty hK hP hD (am_S_rf hS) (fun q hq => Nat.le_trans hg1 hq) (a0 := (N', .inl (fun _ => 0))) (fun cA => by rcases htt with ⟨-, rfl⟩ | ⟨-, rfl⟩ | ⟨-, rfl⟩ <;> rfl) hn hN hbytes (Nat.le_trans hk.1 hRc) (Nat.le_trans hk.2 hRs) hd (fun q cA H1 hK1 hP1 hD1 hS1 => am_up fun hu => ?_)
  have hq : q = g.1 + h.length := am_at_new hr hP1 hD1 hu
  subst hq
  have hcA : cA = g.2.2.1 t := by
    have h4 := (hK1.2 4 (cA, ty) (by rfl)).2
    rcases htt with ⟨rfl, rfl⟩ | ⟨rfl, rfl⟩ | ⟨rfl, rfl⟩
    · exact Option.some.inj (h4.symm.trans (hK.2 0 (g.2.2.1 0, .int) rfl).2)
    · exact Option.some.inj (h4.symm.trans (hK.2 2 (g.2.2.1 2, .boolean) rfl).2)
    · exact Option.some.inj (h4.symm.trans (hK.2 3 (g.2.2.1 3, .char) rfl).2)
  subst hcA
  have e1 : am_w g h ++ [(g.1 + h.length, Sum.inl (g.2.2.1 t, N', Sum.inl (fun _ => 0)))] = am_w g (h ++ [am_I t N' (fun _ => 0)]) := am_w_push (c := am_I t N' (fun _ => 0))
  rw [e1] at hP1 hD1
  refine kk p e R s m args below meth c H1 locs ls Qm C ⟨hK, hX, hP1, hD1, am_S_tr hS hS1, fun _ => ?_⟩ hl f1 f2 f3
  obtain ⟨z1, z2⟩ := hz rfl
  have h2 : (am_w g (h ++ [am_I t N' (fun _ => 0)]))[h.length]? = some (g.1 + h.length, am_e g (am_I t N' (fun _ => 0))) := am_w_get (by simp)
  have hlt : g.1 + h.length < H1.size := (hP1 _ _ h2).lt
  simp only [List.length_append, List.length_cons, List.length_nil]
  omega
theorem J_newaL {atype : ArrayType} {k n N' : Nat} {nn : Int32} (hd : decode M.2.1 pc = .ok (.newarray atype, 2)) (hty : newarray.typeOf atype = .long) (haw : Cond.arrayClass .long ∈ lw_gw) (hn : ¬ nn < 0) (hN : nn.toNatClampNeg = N') (hbytes : N' * componentBytes .long ≤ 536870912) (hk : k + 1 ≤ M.2.2.2.2.1 ∧ n + N' ≤ M.2.2.2.2.2) (kk : am_J l g M d (k + 1, n + N', true) (pc + 2) L (.ref h.length :: S) (h ++ [am_L N' (fun _ => 0)]) Q) : am_J l g M d (k, n, true) pc L (.int nn :: S) h Q := by
  intro p e R s m args below meth c H locs ls Qm C hr hl f1 f2 f3
  obtain ⟨hx, hb, -, hml, hown, hts, -, -, -, -, hRc, hRs⟩ := id C
  obtain ⟨hK, hX, hP, hD, hS, hz⟩ := id hr
  have hg1 : g.1 ≤ H.size := Nat.le_trans hX.2.2.2.2.1 hS.1
  refine va_newa (D := g.2.1) (A := am_A g) (H0 := H) (ty := .long) hx hb (by rw [hty]; exact hts _ haw) hty hK hP hD (am_S_rf hS) (fun q hq => Nat.le_trans hg1 hq) (a0 := (N', .inr (.inl (fun _ => 0)))) (fun cA => rfl) hn hN hbytes (Nat.le_trans hk.1 hRc) (Nat.le_trans hk.2 hRs) hd (fun q cA H1 hK1 hP1 hD1 hS1 => am_up fun hu => ?_)
  have hq : q = g.1 + h.length := am_at_new hr hP1 hD1 hu
  subst hq
  have hcA : cA = g.2.2.1 1 := Option.some.inj ((hK1.2 4 (cA, .long) (by rfl)).2.symm.trans (hK.2 1 (g.2.2.1 1, .long) rfl).2)
  subst hcA
  have e1 : am_w g h ++ [(g.1 + h.length, Sum.inl (g.2.2.1 1, N', Sum.inr (Sum.inl (fun _ => 0))))] = am_w g (h ++ [am_L N' (fun _ => 0)]) := am_w_push (c := am_L N' (fun _ => 0))
  rw [e1] at hP1 hD1
  refine kk p e R s m args below meth c H1 locs ls Qm C ⟨hK, hX, hP1, hD1, am_S_tr hS hS1, fun _ => ?_⟩ hl f1 f2 f3
  obtain ⟨z1, z2⟩ := hz rfl
  have h2 : (am_w g (h ++ [am_L N' (fun _ => 0)]))[h.length]? = some (g.1 + h.length, am_e g (am_L N' (fun _ => 0))) := am_w_get (by simp)
  have hlt : g.1 + h.length < H1.size := (hP1 _ _ h2).lt
  simp only [List.length_append, List.length_cons, List.length_nil]
  omega
theorem J_min {idx : Nat} {x y : Int32} (hd : decode M.2.1 pc = .ok (.invokestatic idx, 3)) (hlk : Cond.methodLink M.1.cls idx yJ9_min_7cf53 ∈ lw_gw) (hst : Cond.static yJ9_min_7cf53 ∈ lw_gw) (hini : Cond.initialized "java/lang/Math" ∈ lw_gw) (hcode : Cond.code Lib.Math.min.name Lib.Math.min.code 2 (some .int) ∈ lw_gw) (hS : (S.map fun v => v.category).sum ≤ 8) (hk : kn.1 ≤ M.2.2.2.2.1 ∧ kn.2.1 ≤ M.2.2.2.2.2) (kk : am_J l g M (d + 1) kn (pc + 3) L (.int (if y < x then y else x) :: S) h Q) : am_J l g M (d + 1) kn pc L (.int y :: .int x :: S) h Q := by
  intro p e R s m args below meth c H locs ls Qm C hr hl f1 f2 f3
  obtain ⟨hx, hb, -, hml, hown, hts, -, -, hRf, hRl, hRc, hRs⟩ := id C
  have hS' : ((S.map (am_t g)).map fun v => v.category).sum = (S.map fun v => v.category).sum := by
    rw [List.map_map]; congr 1; apply List.map_congr_left; intro v _; exact am_t_cat g v
  exact va_mmin hx hb (hml.trans hl.1.symm) hown (hts _ hlk) (hts _ hst) (hts _ hini) (hts _ hcode) (by omega) (by rw [hS']; omega) (Nat.le_trans hk.1 hRc) (Nat.le_trans hk.2 hRs) hd (kk p e R s m args below meth c H locs ls Qm C hr hl f1 f2 f3)
theorem J_objInit {idx a : Nat} (hd : decode M.2.1 pc = .ok (.invokespecial idx, 3)) (hlk : Cond.methodLink M.1.cls idx objectInit ∈ lw_gw) (hS : (S.map fun v => v.category).sum ≤ 8) (kk : am_J l g M (d + 1) kn (pc + 3) L S h Q) : am_J l g M (d + 1) kn pc L (.ref a :: S) h Q := by
  intro p e R s m args below meth c H locs ls Qm C hr hl f1 f2 f3
  obtain ⟨hx, hb, -, hml, hown, hts, -, -, hRf, hRl, hRc, hRs⟩ := id C
  have hS' : ((S.map (am_t g)).map fun v => v.category).sum = (S.map fun v => v.category).sum := by
    rw [List.map_map]; congr 1; apply List.map_congr_left; intro v _; exact am_t_cat g v
  refine W.objInit hx hb hown (hts _ hlk) (hts _ am_oi) (hts _ am_oc) (g := F0 m pc ls ((Value.ref a :: S).map (am_t g))) rfl (by rw [hml]; exact hl.1) (a := g.1 + a) (rest := S.map (am_t g)) rfl hd (by omega) (by show 2 * 0 + _ + 12 ≤ _; rw [hS']; omega) ?_
  exact kk p e R s m args below meth c H locs ls Qm C hr hl f1 f2 f3
end AMH
