/-! ===== the calls on the mail, side by side ===== -/
theorem wi {i : Int32} {M : Nat} (hM : M < 2 ^ 30) (h1 : ¬ i < 1) (h2 : ¬ nI M < i) : ∃ co, i = nI co ∧ 1 ≤ co ∧ co ≤ M := by
  have hz : ¬ i < 0 := fun q => h1 (by
    rw [fa_lt] at q ⊢
    have : (0 : Int32).toInt = 0 := rfl
    have : (1 : Int32).toInt = 1 := rfl
    omega)
  obtain ⟨co, hco, rfl⟩ := nI_of hz
  refine ⟨co, rfl, ?_, ?_⟩
  · rcases Nat.lt_or_ge co 1 with q | q
    · exact absurd ((nI_ltI (b := 1) (by omega) (by decide)).mpr q) h1
    · exact q
  · rcases Nat.lt_or_ge M co with q | q
    · exact absurd ((nI_ltI (a := M) (by omega) (by omega)).mpr q) h2
    · exact q
theorem wi' {co M : Nat} (hM : M < 2 ^ 30) (h1 : 1 ≤ co) (h2 : co ≤ M) : ¬ nI co < 1 ∧ ¬ nI M < nI co := ⟨fun z => absurd ((nI_ltI (b := 1) (by omega) (by decide)).mp z) (by omega), fun z => absurd ((nI_ltI (by omega) (by omega)).mp z) (by omega)⟩
section JMAIL
variable {l : Launch} {g : am_G} {d : Nat} {x : Bool} {h : am_H} {N : Nat}
theorem sp_isWithin {i : Int32} {M : Nat} {K : Int32 → am_H → Prop} (hM : M < 2 ^ 30) (h0 : ¬ (∃ co, i = nI co ∧ 1 ≤ co ∧ co ≤ M) → K 0 h) (h1 : ∀ co, i = nI co → 1 ≤ co → co ≤ M → K 1 h) : cl_I l g mX8_isWithin d x [.int i, .int (nI M)] h K := by
  refine eX8_isWithin ⟨fun a => ⟨_, rfl, h0 ?_⟩, fun a => ⟨fun b => ⟨_, rfl, h0 ?_⟩, fun b => ⟨_, rfl, ?_⟩⟩⟩
  · rintro ⟨co, rfl, c1, c2⟩; exact (wi' hM c1 c2).1 a
  · rintro ⟨co, rfl, c1, c2⟩; exact (wi' hM c1 c2).2 b
  · obtain ⟨co, c0, c1, c2⟩ := wi hM a b
    exact h1 co c0 c1 c2
theorem sp_isSide {i : Int32} {K : Int32 → am_H → Prop} (h0 : ¬ (∃ co, i = nI co ∧ 1 ≤ co ∧ co ≤ 12) → K 0 h) (h1 : ∀ co, i = nI co → 1 ≤ co → co ≤ 12 → K 1 h) : cl_I l g mX8_isSide (d + 1) x [.int i] h K :=
  eX8_isSide (sp_isWithin (M := 12) (by omega) (fun c => ⟨Or.inl rfl, _, rfl, h0 c⟩) (fun co a b c => ⟨Or.inr rfl, _, rfl, h1 co a b c⟩))
theorem jt_lay {i1 i2 : Int32} {P : Int32 → Int32 → am_H → Prop} (hN : N ≤ 1000) (hR : RJ N h) (hK : ∀ v h', RJ (N + 1) h' → P v v h') : JT l g mX8_lay mX9_lay_ (d + 5) x [.int i1, .int i2] h P := by
  obtain ⟨m, W, T, s, ⟨ch, u, v, Wv, q0, huv, hT, hRC, hu, hv', hM, hS, hch⟩, ⟨o, mM, mT, mA, m62, mMA, ms⟩, ⟨tk, wk, vk, sz⟩, h73⟩ := hR
  have b4 : W.1 ≤ 4 := wk.1
  -- nothing laid
  have no : ¬ lay_ok W i1 i2 → cv_I l g mX9_lay_ (d + 5) x 9 46 [.int i1, .int i2] h (fun w h2 => P (-1) w h2) := fun hno => by
    refine ⟨⟨_, mM.1⟩, ms_lay (d := d + 3) mM wk (fun h2 m2 f2 _ => hK _ h2 ?_) (fun h2 co ro e1 e2 c1 c2 c3 c4 c5 c6 => absurd ⟨co, ro, e1, e2, c1, c2, c3, c4, c5, c6⟩ hno)⟩
    exact RJ.mail (h1 := h) hN q0 huv hT hRC hu hv' hS hch mT mA m62 mMA ms tk wk sz h73 hM (Or.inr ⟨rfl, rfl⟩) (by omega) Fr.rf m2 f2 vk
  refine ⟨⟨_, q0⟩, eX8_lay (gtR q0 rfl (gtI hu.1 rfl ⟨fun z => ⟨_, rfl, no ?_⟩, fun z => sp_isSide (d := d + 3) (fun c => ⟨fun _ => ⟨_, rfl, no ?_⟩, fun y => absurd rfl y⟩) (fun co e1 c1 c2 => ⟨fun y => absurd y (by decide), fun _ => sp_isSide (d := d + 3) (fun c => ⟨fun y => absurd rfl y, fun _ => ⟨_, rfl, no ?_⟩⟩) (fun ro e2 c3 c4 => ⟨fun _ => gtR q0 rfl (gtI hu.1 rfl ?_), fun y => absurd y (by decide)⟩)⟩)⟩))⟩
  · rintro ⟨co, ro, -, -, -, -, -, -, c5, -⟩
    have := nI_eqI (a := W.1) (b := 0) (by omega) (by decide) z
    exact c5 this
  · rintro ⟨co, ro, e1, -, c1, c2, -⟩
    exact c ⟨co, e1, c1, c2⟩
  · rintro ⟨co, ro, -, e2, -, -, c1, c2, -⟩
    exact c ⟨ro, e2, c1, c2⟩
  · subst e1 e2
    have hb : co * ro * W.1 ≤ 12 * 12 * 4 := Nat.mul_le_mul (Nat.mul_le_mul c2 c4) b4
    have hle := nI_leI (a := co * ro * W.1) (b := 240) (by omega) (by decide)
    have hw0 : W.1 ≠ 0 := fun c => z (by rw [c]; rfl)
    rw [pk_mul, pk_mul]
    refine ⟨fun y => gtR q0 rfl (gtR q0 rfl ⟨⟨_, hM.1⟩, sp_layOut (d := d) hM hu (by omega) wk c2 c4 (hle.mp y) (fun h1 ch1 M1 a1 a2 f1 => ?_)⟩), fun y => ⟨_, rfl, no ?_⟩⟩
    · have q1 := (f1 0 (by decide)).trans q0
      refine gtR q1 rfl (gtI M1.1 rfl ⟨_, rfl, ?_⟩)
      have enu : m_nu (m_ly (m_0 W co ro) (co * ro * W.1)) = co * ro * W.1 := (m_ly_eq (m_0 W co ro) (co * ro * W.1)).2.2.2.1
      rw [enu]
      have m1 : MM h1 m W o := mM.out (fun i hi => f1 i (by omega))
      refine ⟨⟨_, m1.1⟩, ms_lay (d := d + 3) m1 wk (fun h2 m2 f2 hno => absurd ⟨co, ro, rfl, rfl, c1, c2, c3, c4, hw0, hle.mp y⟩ hno) (fun h2 co' ro' e1 e2 g1 g2 g3 g4 g5 g6 m2 f2 => ?_)⟩
      have x1 := nI_eqI (by omega) (by omega) e1
      have x2 := nI_eqI (by omega) (by omega) e2
      subst x1 x2
      refine hK _ h2 ?_
      exact RJ.mail (h1 := h1) hN q0 huv hT hRC hu hv' hS hch mT mA m62 mMA ms tk wk sz h73 M1 (Or.inl (by omega)) (by omega) f1 m2 f2 (ok_lay wk c2 c4 (hle.mp y))
    · rintro ⟨co', ro', e1, e2, g1, g2, g3, g4, g5, g6⟩
      have x1 := nI_eqI (by omega) (by omega) e1
      have x2 := nI_eqI (by omega) (by omega) e2
      subst x1 x2
      exact y (hle.mpr g6)
theorem jt_at {i1 i2 i3 : Int32} {P : Int32 → Int32 → am_H → Prop} (hN : N ≤ 1000) (hR : RJ N h) (hK : ∀ v h', RJ (N + 1) h' → P v v h') : JT l g mX8_at mX9_at (d + 1) x [.int i1, .int i2, .int i3] h P := by
  obtain ⟨m, W, T, s, ⟨ch, u, v, Wv, q0, huv, hT, hRC, hu, hv', hM, hS, hch⟩, ⟨o, mM, mT, mA, m62, mMA, ms⟩, ⟨tk, wk, vk, sz⟩, h73⟩ := hR
  have hn : m_nu m ≤ 300 := vk.1.2.2.2.2.2.1
  have fin : ∀ h2, MM h2 m W (o_0 o) → Fr 46 46 h h2 → RJ (N + 1) h2 := fun h2 m2 f2 => RJ.mail (h1 := h) hN q0 huv hT hRC hu hv' hS hch mT mA m62 mMA ms tk wk sz h73 hM (Or.inr ⟨rfl, rfl⟩) (by omega) Fr.rf m2 (f2.m (by omega)) vk
  have g1 : m.2.1 ≤ 12 := vk.1.2.1
  have g2 : m.2.2.1 ≤ 12 := vk.1.2.2.1
  have g3 : m.1.1 ≤ 4 := vk.1.1.1
  refine ⟨⟨_, q0⟩, eX8_at (gtR q0 rfl ⟨⟨_, hM.1⟩, sp_ringOfCell hM vk.1 (fun a b k ha hb hk e1 e2 e3 => ⟨_, rfl, ⟨_, mM.1⟩, ms_at mM vk.1 (fun h2 a' b' k' m2 f2 ha' hb' hk' y1 y2 y3 => ?_) (fun h2 m2 f2 c => ?_)⟩) (fun c => ⟨_, rfl, ⟨_, mM.1⟩, ms_at mM vk.1 (fun h2 a' b' k' m2 f2 ha' hb' hk' y1 y2 y3 => ?_) (fun h2 m2 f2 _ => hK _ h2 (fin h2 m2 f2))⟩)⟩)⟩
  · rw [e1] at y1; rw [e2] at y2; rw [e3] at y3
    have z1 := nI_eqI (by omega) (by omega) y1
    have z2 := nI_eqI (by omega) (by omega) y2
    have z3 := nI_eqI (by omega) (by omega) y3
    subst z1 z2 z3
    exact hK _ h2 (fin h2 m2 f2)
  · exfalso
    rw [e1, e2, e3] at c
    rcases c with c | c | c | c | c | c
    · exact nI_pos (by omega) c
    · have := (nI_leI (by omega) (by omega)).mp c; omega
    · exact nI_pos (by omega) c
    · have := (nI_leI (by omega) (by omega)).mp c; omega
    · exact nI_pos (by omega) c
    · have := (nI_leI (by omega) (by omega)).mp c; omega
  · exfalso
    rw [y1, y2, y3] at c
    rcases c with c | c | c | c | c | c
    · exact nI_pos (by omega) c
    · have := (nI_leI (by omega) (by omega)).mp c; omega
    · exact nI_pos (by omega) c
    · have := (nI_leI (by omega) (by omega)).mp c; omega
    · exact nI_pos (by omega) c
    · have := (nI_leI (by omega) (by omega)).mp c; omega
theorem jt_add {P : Int32 → Int32 → am_H → Prop} (hN : N ≤ 1000) (hR : RJ N h) (hK : ∀ v h', RJ (N + 1) h' → P v v h') : JT l g mX8_add mX9_add (d + 1) x [] h P := by
  obtain ⟨m, W, T, s, ⟨ch, u, v, Wv, q0, huv, hT, hRC, hu, hv', hM, hS, hch⟩, ⟨o, mM, mT, mA, m62, mMA, ms⟩, ⟨tk, wk, vk, sz⟩, h73⟩ := hR
  refine ⟨⟨_, q0⟩, eX8_add (gtR q0 rfl ⟨⟨_, hM.1⟩, sp_putIn hM vk.1 (fun e => ⟨_, rfl, ⟨_, mM.1⟩, ms_add mM vk.1 (fun h2 m2 f2 _ => hK _ h2 ?_) (fun h2 c => by omega)⟩) (fun h1 hlt M1 f1 => ?_)⟩)⟩
  · exact RJ.mail (h1 := h) hN q0 huv hT hRC hu hv' hS hch mT mA m62 mMA ms tk wk sz h73 hM (Or.inr ⟨rfl, rfl⟩) (by omega) Fr.rf m2 f2 vk
  · have m1 : MM h1 m W o := mM.out (fun i hi => f1 i (by omega))
    refine ⟨_, rfl, ⟨_, m1.1⟩, ms_add m1 vk.1 (fun h2 m2 f2 e => by omega) (fun h2 _ m2 f2 => hK _ h2 ?_)⟩
    exact RJ.mail (h1 := h1) hN q0 huv hT hRC hu hv' hS hch mT mA m62 mMA ms tk wk sz h73 M1 (Or.inl (by omega)) (by omega) f1 m2 f2 (ok_put vk hlt)
theorem aj_out {m : ml_T} (hv : ml_ok m) (r : Nat) : fb_ct (m_aj m r) 320 = fb_ct (m_aj m r) (m_nu m) := by
  have hn : m_nu m ≤ 300 := hv.1.2.2.2.2.2.1
  have e1 : fb_ct (m_aj m r) 320 = fb_ct (m_aj m r) (m_nu m + (320 - m_nu m)) := by rw [show m_nu m + (320 - m_nu m) = 320 by omega]
  rw [e1, fb_ct_split, (fb_ct_zero (p := fun k => m_aj m r (m_nu m + k)) (n := 320 - m_nu m)).mpr (fun j _ => ?_), Nat.add_zero]
  show m_aj m r (m_nu m + j) = false
  refine Bool.eq_false_iff.mpr (fun c => ?_)
  have := (aj_th hv c).2.2.2.1
  omega
theorem jt_take {i1 : Int32} {P : Int32 → Int32 → am_H → Prop} (hN : N ≤ 1000) (hR : RJ N h) (hK : ∀ v h', RJ (N + 1) h' → P v v h') : JT l g mX8_take mX9_take (d + 4) x [.int i1] h P := by
  obtain ⟨m, W, T, s, ⟨ch, u, v, Wv, q0, huv, hT, hRC, hu, hv', hM, hS, hch⟩, ⟨o, mM, mT, mA, m62, mMA, ms⟩, ⟨tk, wk, vk, sz⟩, h73⟩ := hR
  have hn : m_nu m ≤ 300 := vk.1.2.2.2.2.2.1
  have no : (¬ ∃ j, j < m_nu m ∧ i1 = nI j ∧ m_th m j = true) → cv_I l g mX9_take (d + 4) x 9 46 [.int i1] h (fun w h2 => P (-1) w h2) := fun hno => by
    refine ⟨⟨_, mM.1⟩, ms_take (d := d + 3) mM vk (fun h2 m2 f2 _ => hK _ h2 ?_) (fun h2 j c1 c2 c3 => absurd ⟨j, c1, c2, c3⟩ hno)⟩
    exact RJ.mail (h1 := h) hN q0 huv hT hRC hu hv' hS hch mT mA m62 mMA ms tk wk sz h73 hM (Or.inr ⟨rfl, rfl⟩) (by omega) Fr.rf m2 f2 vk
  refine ⟨⟨_, q0⟩, eX8_take (gtR q0 rfl ⟨⟨_, hM.1⟩, sp_isThere (d := d + 2) hM vk.1 (fun c => ⟨fun _ => ⟨_, rfl, no ?_⟩, fun y => absurd rfl y⟩) (fun j hj e => ⟨fun y => ⟨_, rfl, no ?_⟩, fun y => gtR q0 rfl ⟨⟨_, hM.1⟩, ?_⟩⟩)⟩)⟩
  · rintro ⟨j, c1, c2, -⟩
    rw [c2] at c
    rcases c with c | c
    · exact nI_pos (by omega) c
    · have := (nI_leI (by omega) (by omega)).mp c; omega
  · rintro ⟨j', c1, c2, c3⟩
    rw [e] at c2
    have := nI_eqI (by omega) (by omega) c2
    subst this
    rw [bi_0.mp y] at c3; cases c3
  · subst e
    have hth := bi_n0.mp y
    refine sp_takeAway (d := d) hM vk.1 hj (fun k hk => by have := (aj_th vk hk).2.2.2.1; omega) (Bool.eq_false_iff.mpr (fun c => (aj_th vk c).2.2.2.2 rfl)) (fun h1 ch1 M1 a1 a2 f1 => ⟨_, rfl, ?_⟩)
    have m1 : MM h1 m W o := mM.out (fun i hi => f1 i (by omega))
    refine ⟨⟨_, m1.1⟩, ms_take (d := d + 3) m1 vk (fun h2 m2 f2 c => ?_) (fun h2 j' c1 c2 c3 m2 f2 => ?_)⟩
    · exfalso
      rcases c with c | c | ⟨j', c1, c2, c3⟩
      · exact nI_pos (by omega) c
      · have := (nI_leI (by omega) (by omega)).mp c; omega
      · have := nI_eqI (by omega) (by omega) c2
        subst this
        rw [hth] at c3; cases c3
    · have := nI_eqI (by omega) (by omega) c2
      subst this
      rw [aj_out vk]
      exact hK _ h2 (RJ.mail (h1 := h1) hN q0 huv hT hRC hu hv' hS hch mT mA m62 mMA ms tk wk sz h73 M1 (Or.inl a1) (by omega) f1 m2 f2 (ok_take vk))
theorem jt_link {i1 i2 : Int32} {P : Int32 → Int32 → am_H → Prop} (hN : N ≤ 1000) (hR : RJ N h) (hK : ∀ v h', RJ (N + 1) h' → P v v h') : JT l g mX8_link mX9_link (d + 3) x [.int i1, .int i2] h P := by
  obtain ⟨m, W, T, s, ⟨ch, u, v, Wv, q0, huv, hT, hRC, hu, hv', hM, hS, hch⟩, ⟨o, mM, mT, mA, m62, mMA, ms⟩, ⟨tk, wk, vk, sz⟩, h73⟩ := hR
  have hn : m_nu m ≤ 300 := vk.1.2.2.2.2.2.1
  have no : (¬ (∃ i j, i < m_nu m ∧ j < m_nu m ∧ i1 = nI i ∧ i2 = nI j ∧ m_th m i = true ∧ m_th m j = true ∧ i ≠ j ∧ m_aj m i j = false)) → cv_I l g mX9_link (d + 3) x 9 46 [.int i1, .int i2] h (fun w h2 => P 0 w h2) := fun hno => by
    refine ⟨⟨_, mM.1⟩, ms_link (d := d + 2) mM vk (fun h2 m2 f2 _ => hK _ h2 ?_) (fun h2 i j c1 c2 c3 c4 c5 c6 c7 c8 => absurd ⟨i, j, c1, c2, c3, c4, c5, c6, c7, c8⟩ hno)⟩
    exact RJ.mail (h1 := h) hN q0 huv hT hRC hu hv' hS hch mT mA m62 mMA ms tk wk sz h73 hM (Or.inr ⟨rfl, rfl⟩) (by omega) Fr.rf m2 f2 vk
  have out : ∀ {a : Int32} {i : Nat}, i < m_nu m → a = nI i → ¬ (a < 0 ∨ nI (m_nu m) ≤ a) := fun {a i} hi e c => by
    rw [e] at c
    rcases c with c | c
    · exact nI_pos (by omega) c
    · have := (nI_leI (by omega) (by omega)).mp c; omega
  refine ⟨⟨_, q0⟩, eX8_link ⟨fun z => ⟨_, rfl, no ?_⟩, fun z => gtR q0 rfl ⟨⟨_, hM.1⟩, sp_isThere (d := d + 1) hM vk.1 (fun c => ⟨fun _ => ⟨_, rfl, no ?_⟩, fun y => absurd rfl y⟩) (fun i hi e1 => ⟨fun y => ⟨_, rfl, no ?_⟩, fun y => gtR q0 rfl ⟨⟨_, hM.1⟩, sp_isThere (d := d + 1) hM vk.1 (fun c => ⟨fun _ => ⟨_, rfl, no ?_⟩, fun y => absurd rfl y⟩) (fun j hj e2 => ⟨fun y2 => ⟨_, rfl, no ?_⟩, fun y2 => ?_⟩)⟩⟩)⟩⟩⟩
  · rintro ⟨i, j, c1, c2, c3, c4, -, -, c7, -⟩
    rw [c3, c4] at z
    exact c7 (nI_eqI (by omega) (by omega) z)
  · rintro ⟨i, j, c1, c2, c3, -⟩; exact out c1 c3 c
  · rintro ⟨i', j, c1, c2, c3, c4, c5, -⟩
    rw [e1] at c3
    have := nI_eqI (by omega) (by omega) c3
    subst this
    rw [bi_0.mp y] at c5; cases c5
  · rintro ⟨i', j, c1, c2, c3, c4, -⟩; exact out c2 c4 c
  · rintro ⟨i', j', c1, c2, c3, c4, c5, c6, -⟩
    rw [e2] at c4
    have := nI_eqI (by omega) (by omega) c4
    subst this
    rw [bi_0.mp y2] at c6; cases c6
  · subst e1 e2
    have hij : i ≠ j := fun c => z (by rw [c])
    refine gtR q0 rfl ⟨⟨_, hM.1⟩, sp_areLinked (d := d + 1) hM (by omega) (by omega) ⟨fun w => gtR q0 rfl ⟨⟨_, hM.1⟩, sp_join (d := d + 1) hM (by omega) (by omega) (fun h1 M1 f1 => ⟨_, rfl, ?_⟩)⟩, fun w => ⟨_, rfl, no ?_⟩⟩⟩
    · have m1 : MM h1 m W o := mM.out (fun i hi => f1 i (by omega))
      refine ⟨⟨_, m1.1⟩, ms_link (d := d + 2) m1 vk (fun h2 m2 f2 hno => absurd ⟨i, j, hi, hj, rfl, rfl, bi_n0.mp y, bi_n0.mp y2, hij, bi_0.mp w⟩ hno) (fun h2 i' j' c1 c2 c3 c4 c5 c6 c7 c8 m2 f2 => ?_)⟩
      have x1 := nI_eqI (by omega) (by omega) c3
      have x2 := nI_eqI (by omega) (by omega) c4
      subst x1 x2
      exact hK _ h2 (RJ.mail (h1 := h1) hN q0 huv hT hRC hu hv' hS hch mT mA m62 mMA ms tk wk sz h73 M1 (Or.inl (by omega)) (by omega) f1 m2 f2 (ok_link vk c5 c6 c7 c8))
    · rintro ⟨i', j', c1, c2, c3, c4, -, -, -, c8⟩
      have x1 := nI_eqI (by omega) (by omega) c3
      have x2 := nI_eqI (by omega) (by omega) c4
      subst x1 x2
      rw [bi_n0.mp w] at c8; cases c8
theorem jt_unlink {i1 i2 : Int32} {P : Int32 → Int32 → am_H → Prop} (hN : N ≤ 1000) (hR : RJ N h) (hK : ∀ v h', RJ (N + 1) h' → P v v h') : JT l g mX8_unlink mX9_unlink (d + 3) x [.int i1, .int i2] h P := by
  obtain ⟨m, W, T, s, ⟨ch, u, v, Wv, q0, huv, hT, hRC, hu, hv', hM, hS, hch⟩, ⟨o, mM, mT, mA, m62, mMA, ms⟩, ⟨tk, wk, vk, sz⟩, h73⟩ := hR
  have hn : m_nu m ≤ 300 := vk.1.2.2.2.2.2.1
  have no : (¬ (∃ i j, i < m_nu m ∧ j < m_nu m ∧ i1 = nI i ∧ i2 = nI j ∧ m_th m i = true ∧ m_th m j = true ∧ m_aj m i j = true)) → cv_I l g mX9_unlink (d + 3) x 9 46 [.int i1, .int i2] h (fun w h2 => P 0 w h2) := fun hno => by
    refine ⟨⟨_, mM.1⟩, ms_unlink (d := d + 2) mM vk (fun h2 m2 f2 _ => hK _ h2 ?_) (fun h2 i j c1 c2 c3 c4 c5 c6 c8 => absurd ⟨i, j, c1, c2, c3, c4, c5, c6, c8⟩ hno)⟩
    exact RJ.mail (h1 := h) hN q0 huv hT hRC hu hv' hS hch mT mA m62 mMA ms tk wk sz h73 hM (Or.inr ⟨rfl, rfl⟩) (by omega) Fr.rf m2 f2 vk
  have out : ∀ {a : Int32} {i : Nat}, i < m_nu m → a = nI i → ¬ (a < 0 ∨ nI (m_nu m) ≤ a) := fun {a i} hi e c => by
    rw [e] at c
    rcases c with c | c
    · exact nI_pos (by omega) c
    · have := (nI_leI (by omega) (by omega)).mp c; omega
  refine ⟨⟨_, q0⟩, eX8_unlink (gtR q0 rfl ⟨⟨_, hM.1⟩, sp_isThere (d := d + 1) hM vk.1 (fun c => ⟨fun _ => ⟨_, rfl, no ?_⟩, fun y => absurd rfl y⟩) (fun i hi e1 => ⟨fun y => ⟨_, rfl, no ?_⟩, fun y => gtR q0 rfl ⟨⟨_, hM.1⟩, sp_isThere (d := d + 1) hM vk.1 (fun c => ⟨fun _ => ⟨_, rfl, no ?_⟩, fun y => absurd rfl y⟩) (fun j hj e2 => ⟨fun y2 => ⟨_, rfl, no ?_⟩, fun y2 => ?_⟩)⟩⟩)⟩)⟩
  · rintro ⟨i, j, c1, c2, c3, -⟩; exact out c1 c3 c
  · rintro ⟨i', j, c1, c2, c3, c4, c5, -⟩
    rw [e1] at c3
    have := nI_eqI (by omega) (by omega) c3
    subst this
    rw [bi_0.mp y] at c5; cases c5
  · rintro ⟨i', j, c1, c2, c3, c4, -⟩; exact out c2 c4 c
  · rintro ⟨i', j', c1, c2, c3, c4, c5, c6, -⟩
    rw [e2] at c4
    have := nI_eqI (by omega) (by omega) c4
    subst this
    rw [bi_0.mp y2] at c6; cases c6
  · subst e1 e2
    refine gtR q0 rfl ⟨⟨_, hM.1⟩, sp_areLinked (d := d + 1) hM (by omega) (by omega) ⟨fun w => gtR q0 rfl ⟨⟨_, hM.1⟩, sp_part (d := d + 1) hM (by omega) (by omega) (fun h1 M1 f1 => ⟨_, rfl, ?_⟩)⟩, fun w => ⟨_, rfl, no ?_⟩⟩⟩
    · have m1 : MM h1 m W o := mM.out (fun i hi => f1 i (by omega))
      refine ⟨⟨_, m1.1⟩, ms_unlink (d := d + 2) m1 vk (fun h2 m2 f2 hno => absurd ⟨i, j, hi, hj, rfl, rfl, bi_n0.mp y, bi_n0.mp y2, bi_n0.mp w⟩ hno) (fun h2 i' j' c1 c2 c3 c4 c5 c6 c8 m2 f2 => ?_)⟩
      have x1 := nI_eqI (by omega) (by omega) c3
      have x2 := nI_eqI (by omega) (by omega) c4
      subst x1 x2
      exact hK _ h2 (RJ.mail (h1 := h1) hN q0 huv hT hRC hu hv' hS hch mT mA m62 mMA ms tk wk sz h73 M1 (Or.inl (by omega)) (by omega) f1 m2 f2 (ok_unlink vk))
    · rintro ⟨i', j', c1, c2, c3, c4, -, -, c8⟩
      have x1 := nI_eqI (by omega) (by omega) c3
      have x2 := nI_eqI (by omega) (by omega) c4
      subst x1 x2
      rw [bi_0.mp w] at c8; cases c8
theorem jt_mend {P : Int32 → Int32 → am_H → Prop} (hN : N ≤ 1000) (hR : RJ N h) (hK : ∀ v h', RJ (N + 1) h' → P v v h') : JT l g mX8_mend mX9_mend (d + 5) x [] h P := by
  obtain ⟨m, W, T, s, ⟨ch, u, v, Wv, q0, huv, hT, hRC, hu, hv', hM, hS, hch⟩, ⟨o, mM, mT, mA, ⟨f62, m62⟩, mMA, ms⟩, ⟨tk, wk, vk, sz⟩, ⟨f73, h73⟩⟩ := hR
  refine ⟨⟨_, q0⟩, eX8_mend (gtR q0 rfl ⟨⟨_, hM.1⟩, sp_mend (d := d) hM vk.1 (fun h1 ch1 M1 a1 a2 f1 => ⟨_, rfl, ?_⟩)⟩)⟩
  have m1 : MM h1 m W o := mM.out (fun i hi => f1 i (by omega))
  refine ⟨⟨_, m1.1⟩, ms_mend (d := d + 3) m1 vk ((f1 62 (by decide)).trans m62) (fun h2 m2 f2 g62 => hK _ h2 ?_)⟩
  have hc1 : ch < ch1 ∨ (ch1 = ch ∧ m_md m (m_sh m) = m) := by
    rcases a1.2 with c | c
    · exact Or.inl c
    · by_cases y : ch < ch1
      · exact Or.inl y
      · exact Or.inr ⟨by have := a1.1; omega, c⟩
  have c1 := JC.mail (h' := h1) (m' := m_md m (m_sh m)) q0 huv hT hRC hu hv' hS hch hN M1 hc1 (by omega) f1
  obtain ⟨ch2, u2, v2, Wv2, z0, zuv, zT, zR, zu, zv, zM, zS, zch⟩ := c1
  refine ⟨m_md m (m_sh m), W, T, s, ⟨ch2, u2, v2, Wv2, (f2 0 (by decide)).trans z0, zuv, zT.fr' (f2 1 (by decide)) (f2 2 (by decide)), zR.fr' (fun i a b => f2 i (by omega)), zu.fr (fun i a b => f2 i (by omega)), zv.fr (fun i a b => f2 i (by omega)), zM.fr (fun i a b => f2 i (by omega)), zS.fr (fun i a b => f2 i (by omega)), zch⟩, ⟨o_0 o, m2, mT.fr' rfl ((f2 47 (by decide)).trans (f1 47 (by decide))), mA.fr' (fun i hi => (f2 i (by omega)).trans (f1 i (by omega))), g62, mMA.fr' (fun i p q => (f2 i (by omega)).trans (f1 i (by omega))), ms⟩, ⟨tk, wk, ok_mend vk, sz⟩, f73, ((f2 73 (by decide)).trans (f1 73 (by decide))).trans h73⟩
theorem jt_over {i1 i2 : Int32} {P : Int32 → Int32 → am_H → Prop} (hN : N ≤ 1000) (hR : RJ N h) (hK : ∀ v h', RJ (N + 1) h' → P v v h') : JT l g mX8_over mX9_over (d + 3) x [.int i1, .int i2] h P := by
  obtain ⟨m, W, T, s, ⟨ch, u, v, Wv, q0, huv, hT, hRC, hu, hv', hM, hS, hch⟩, ⟨o, mM, mT, mA, m62, mMA, ms⟩, ⟨tk, wk, vk, sz⟩, h73⟩ := hR
  have hn : m_nu m ≤ 300 := vk.1.2.2.2.2.2.1
  have fin : ∀ h2, MM h2 m W (o_0 o) → FrM h h2 → RJ (N + 1) h2 := fun h2 m2 f2 => RJ.mail (h1 := h) hN q0 huv hT hRC hu hv' hS hch mT mA m62 mMA ms tk wk sz h73 hM (Or.inr ⟨rfl, rfl⟩) (by omega) Fr.rf m2 f2 vk
  have no : (¬ (∃ i j, i < m_nu m ∧ j < m_nu m ∧ i1 = nI i ∧ i2 = nI j ∧ m_th m i = true ∧ m_th m j = true)) → cv_I l g mX9_over (d + 3) x 9 46 [.int i1, .int i2] h (fun w h2 => P (-2) w h2) := fun hno =>
    ⟨⟨_, mM.1⟩, ms_over (d := d + 2) mM vk (fun h2 m2 f2 _ => hK _ h2 (fin h2 m2 f2)) (fun h2 i j c1 c2 c3 c4 c5 c6 => absurd ⟨i, j, c1, c2, c3, c4, c5, c6⟩ hno)⟩
  have out : ∀ {a : Int32} {i : Nat}, i < m_nu m → a = nI i → ¬ (a < 0 ∨ nI (m_nu m) ≤ a) := fun {a i} hi e c => by
    rw [e] at c
    rcases c with c | c
    · exact nI_pos (by omega) c
    · have := (nI_leI (by omega) (by omega)).mp c; omega
  refine ⟨⟨_, q0⟩, eX8_over (gtR q0 rfl ⟨⟨_, hM.1⟩, sp_isThere (d := d + 1) hM vk.1 (fun c => ⟨fun _ => ⟨_, rfl, no ?_⟩, fun y => absurd rfl y⟩) (fun i hi e1 => ⟨fun y => ⟨_, rfl, no ?_⟩, fun y => gtR q0 rfl ⟨⟨_, hM.1⟩, sp_isThere (d := d + 1) hM vk.1 (fun c => ⟨fun y => absurd rfl y, fun _ => ⟨_, rfl, no ?_⟩⟩) (fun j hj e2 => ⟨fun y2 => ?_, fun y2 => ⟨_, rfl, no ?_⟩⟩)⟩⟩)⟩)⟩
  · rintro ⟨i, j, c1, c2, c3, -⟩; exact out c1 c3 c
  · rintro ⟨i', j, c1, c2, c3, c4, c5, -⟩
    rw [e1] at c3
    have := nI_eqI (by omega) (by omega) c3
    subst this
    rw [bi_0.mp y] at c5; cases c5
  · rintro ⟨i', j, c1, c2, c3, c4, -⟩; exact out c2 c4 c
  · subst e1 e2
    have yes : ∀ v, v = tv (m_ov m) i j → cv_I l g mX9_over (d + 3) x 9 46 [.int (nI i), .int (nI j)] h (fun w h2 => P v w h2) := fun v ev => by
      refine ⟨⟨_, mM.1⟩, ms_over (d := d + 2) mM vk (fun h2 m2 f2 hno => absurd ⟨i, j, hi, hj, rfl, rfl, bi_n0.mp y, bi_n0.mp y2⟩ hno) (fun h2 i' j' c1 c2 c3 c4 c5 c6 m2 f2 => ?_)⟩
      have x1 := nI_eqI (by omega) (by omega) c3
      have x2 := nI_eqI (by omega) (by omega) c4
      subst x1 x2
      rw [ev]
      exact hK _ h2 (fin h2 m2 f2)
    refine gtR q0 rfl ⟨⟨_, hM.1⟩, sp_areLinked (d := d + 1) hM (by omega) (by omega) ⟨fun w => gtR q0 rfl ⟨⟨_, hM.1⟩, sp_goesOver (d := d + 1) hM (by omega) (by omega) ⟨fun w2 => ⟨_, rfl, yes _ ?_⟩, fun w2 => ⟨_, rfl, yes _ ?_⟩⟩⟩, fun w => ⟨_, rfl, yes _ ?_⟩⟩⟩
    · have a1 := bi_n0.mp w
      have a2 := bi_0.mp w2
      unfold m_aj at a1
      rw [a2, Bool.false_or] at a1
      unfold tv
      rw [a1, a2]; rfl
    · unfold tv
      rw [bi_n0.mp w2]; rfl
    · have a1 := bi_0.mp w
      unfold m_aj at a1
      rw [Bool.or_eq_false_iff] at a1
      unfold tv
      rw [a1.1, a1.2]; rfl
  · rintro ⟨i', j', c1, c2, c3, c4, c5, c6⟩
    rw [e2] at c4
    have := nI_eqI (by omega) (by omega) c4
    subst this
    rw [bi_0.mp y2] at c6; cases c6
theorem jt_linked {i1 i2 : Int32} {P : Int32 → Int32 → am_H → Prop} (hN : N ≤ 1000) (hR : RJ N h) (hK : ∀ v h', RJ (N + 1) h' → P v v h') : JT l g mX8_linked mX9_linked (d + 3) x [.int i1, .int i2] h P := by
  obtain ⟨m, W, T, s, ⟨ch, u, v, Wv, q0, huv, hT, hRC, hu, hv', hM, hS, hch⟩, ⟨o, mM, mT, mA, m62, mMA, ms⟩, ⟨tk, wk, vk, sz⟩, h73⟩ := hR
  have hn : m_nu m ≤ 300 := vk.1.2.2.2.2.2.1
  have fin : ∀ h2, MM h2 m W (o_0 o) → FrM h h2 → RJ (N + 1) h2 := fun h2 m2 f2 => RJ.mail (h1 := h) hN q0 huv hT hRC hu hv' hS hch mT mA m62 mMA ms tk wk sz h73 hM (Or.inr ⟨rfl, rfl⟩) (by omega) Fr.rf m2 f2 vk
  have none' : (∀ j p k, j < m_nu m → i1 = nI j → m_th m j = true → i2 = nI p → p < 2 ^ 31 → k < m_nu m → m_aj m j k = true → fb_ct (m_aj m j) k = p → False) → cv_I l g mX9_linked (d + 3) x 9 46 [.int i1, .int i2] h (fun w h2 => P (-1) w h2) := fun hno =>
    ⟨⟨_, mM.1⟩, ms_linked (d := d + 2) mM vk (fun h2 j p k m2 f2 c1 c2 c3 c4 c5 c6 c7 c8 => (hno j p k c1 c2 c3 c4 c5 c6 c7 c8).elim) (fun h2 m2 f2 _ => hK _ h2 (fin h2 m2 f2))⟩
  refine ⟨⟨_, q0⟩, eX8_linked (gtR q0 rfl ⟨⟨_, hM.1⟩, sp_isThere (d := d + 1) hM vk.1 (fun c => ⟨fun _ => ⟨_, rfl, none' ?_⟩, fun y => absurd rfl y⟩) (fun j hj e1 => ⟨fun y => ⟨_, rfl, none' ?_⟩, fun y => ?_⟩)⟩)⟩
  · intro j p k c1 c2 c3
    rw [c2] at c
    rcases c with c | c
    · exact (nI_pos (by omega) c).elim
    · have := (nI_leI (by omega) (by omega)).mp c; omega
  · intro j' p k c1 c2 c3
    rw [e1] at c2
    have := nI_eqI (by omega) (by omega) c2
    subst this
    rw [bi_0.mp y] at c3; cases c3
  · subst e1
    refine gtR q0 rfl ⟨⟨_, hM.1⟩, sp_linkedAt (d := d) hM vk.1 (by omega) (fun c => ⟨_, rfl, none' ?_⟩) (fun p k e2 hp hk hjk hct => ⟨_, rfl, ?_⟩) (fun p e2 hp hle => ⟨_, rfl, none' ?_⟩)⟩
    · intro j' p k c1 c2 c3 c4 c5
      rw [c4] at c
      exact (nI_pos c5 c).elim
    · refine ⟨⟨_, mM.1⟩, ms_linked (d := d + 2) mM vk (fun h2 j' p' k' m2 f2 c1 c2 c3 c4 c5 c6 c7 c8 => ?_) (fun h2 m2 f2 c => ?_)⟩
      · have x1 := nI_eqI (by omega) (by omega) c2
        subst x1
        rw [e2] at c4
        have x2 := nI_eqI hp c5 c4
        subst x2
        have x3 := fb_ct_kth_one hjk c7 (hct.trans c8.symm)
        subst x3
        exact hK _ h2 (fin h2 m2 f2)
      · exfalso
        rcases c with c | c | ⟨j', p', c1, c2, c3, c4, c5, c6⟩
        · exact c ⟨j, hj, rfl, bi_n0.mp y⟩
        · rw [e2] at c; exact nI_pos hp c
        · have x1 := nI_eqI (by omega) (by omega) c2
          subst x1
          rw [e2] at c4
          have x2 := nI_eqI hp c5 c4
          subst x2
          have := dg_lt (aj_th vk hjk).2.2.2.1 hjk
          unfold dg at this
          omega
    · intro j' p' k c1 c2 c3 c4 c5 c6 c7 c8
      have x1 := nI_eqI (by omega) (by omega) c2
      subst x1
      rw [e2] at c4
      have x2 := nI_eqI hp c5 c4
      subst x2
      have := dg_lt c6 c7
      unfold dg at this
      rw [aj_out vk] at hle
      omega
end JMAIL
