/-! ===== look ===== -/
def OKL (m : ml_T) (i1 i2 : Int32) (r w : Nat) : Prop := i1 = nI r ∧ r < m_nu m ∧ i2 = nI w ∧ w ≤ 6 ∧ (w = 0 ∨ m_th m r = true)
def LVr (m : ml_T) (s : sz_T) (r w : Nat) (v : Int32) : Prop := (w = 0 ∧ v = bi (m_th m r)) ∨ (w = 1 ∧ v = nI (fb_ct (m_aj m r) (m_nu m))) ∨ (w = 2 ∧ v = bi (m_full m r)) ∨ (w = 3 ∧ v = bi (bd m s r)) ∨ (w = 4 ∧ v = bi (m_ct m r)) ∨ (w = 5 ∧ ∃ res C, MK m res C ∧ (res = -1 → v = 0) ∧ (¬ res = -1 → v = bi (C r))) ∨ (w = 6 ∧ ∃ q, Lst (m_aj m) (m_th m) q ∧ Cn (m_aj m) (m_th m) q r ∧ v = nI q)
section JLOOK
variable {l : Launch} {g : am_G} {d : Nat} {x : Bool} {h : am_H} {N : Nat} {m : ml_T} {W : wv_T} {T : tp_T} {s : sz_T} {i1 i2 : Int32}
theorem OKL.one {r w r' w' : Nat} (hv : ml_ok m) (h1 : OKL m i1 i2 r w) (h2 : OKL m i1 i2 r' w') : r = r' ∧ w = w' := by
  have hn : m_nu m ≤ 300 := hv.1.2.2.2.2.2.1
  obtain ⟨a1, a2, a3, a4, -⟩ := h1
  obtain ⟨b1, b2, b3, b4, -⟩ := h2
  rw [a1] at b1
  rw [a3] at b3
  exact ⟨nI_eqI (by omega) (by omega) b1, nI_eqI (by omega) (by omega) b3⟩
theorem LVr.one {r w : Nat} {v v' : Int32} (hv : ml_ok m) (h1 : LVr m s r w v) (h2 : LVr m s r w v') : v = v' := by
  rcases h1 with ⟨a, b⟩ | ⟨a, b⟩ | ⟨a, b⟩ | ⟨a, b⟩ | ⟨a, b⟩ | ⟨a, res, C, k, b1, b2⟩ | ⟨a, q, k1, k2, b⟩ <;> subst a
  · rcases h2 with ⟨c, e⟩ | ⟨c, e⟩ | ⟨c, e⟩ | ⟨c, e⟩ | ⟨c, e⟩ | ⟨c, e⟩ | ⟨c, e⟩ <;> first | (exact b.trans e.symm) | (exact absurd c (by decide))
  · rcases h2 with ⟨c, e⟩ | ⟨c, e⟩ | ⟨c, e⟩ | ⟨c, e⟩ | ⟨c, e⟩ | ⟨c, e⟩ | ⟨c, e⟩ <;> first | (exact b.trans e.symm) | (exact absurd c (by decide))
  · rcases h2 with ⟨c, e⟩ | ⟨c, e⟩ | ⟨c, e⟩ | ⟨c, e⟩ | ⟨c, e⟩ | ⟨c, e⟩ | ⟨c, e⟩ <;> first | (exact b.trans e.symm) | (exact absurd c (by decide))
  · rcases h2 with ⟨c, e⟩ | ⟨c, e⟩ | ⟨c, e⟩ | ⟨c, e⟩ | ⟨c, e⟩ | ⟨c, e⟩ | ⟨c, e⟩ <;> first | (exact b.trans e.symm) | (exact absurd c (by decide))
  · rcases h2 with ⟨c, e⟩ | ⟨c, e⟩ | ⟨c, e⟩ | ⟨c, e⟩ | ⟨c, e⟩ | ⟨c, e⟩ | ⟨c, e⟩ <;> first | (exact b.trans e.symm) | (exact absurd c (by decide))
  · rcases h2 with ⟨c, e⟩ | ⟨c, e⟩ | ⟨c, e⟩ | ⟨c, e⟩ | ⟨c, e⟩ | ⟨c, res', C', k', e1, e2⟩ | ⟨c, e⟩
    · exact absurd c (by decide)
    · exact absurd c (by decide)
    · exact absurd c (by decide)
    · exact absurd c (by decide)
    · exact absurd c (by decide)
    · obtain ⟨u1, u2⟩ := MK.one hv k k'
      subst u1
      by_cases z : res = -1
      · rw [b1 z, e1 z]
      · rw [b2 z, e2 z, u2 z]
    · exact absurd c (by decide)
  · rcases h2 with ⟨c, e⟩ | ⟨c, e⟩ | ⟨c, e⟩ | ⟨c, e⟩ | ⟨c, e⟩ | ⟨c, e⟩ | ⟨c, q', k1', k2', e⟩
    · exact absurd c (by decide)
    · exact absurd c (by decide)
    · exact absurd c (by decide)
    · exact absurd c (by decide)
    · exact absurd c (by decide)
    · exact absurd c (by decide)
    · have := k1.one (aj_sy m) k1' (k2.tr (k2'.sy (aj_sy m)))
      rw [b, e, this]
theorem as_num {b : Bool} {Q : Option Value → am_H → Prop} {h2 : am_H} (hq : Q (some (.int (bi b))) h2) : (bi b = 0 → Q (some (.int 0)) h2) ∧ (¬ bi b = 0 → Q (some (.int 1)) h2) := by
  cases b with
  | true => exact ⟨fun c => absurd c (by decide), fun _ => hq⟩
  | false => exact ⟨fun _ => hq, fun c => absurd rfl c⟩
theorem sp_asNumber {b : Bool} {K : Int32 → am_H → Prop} (hK : K (bi b) h) : cl_I l g mX8_asNumber d x [.int (bi b)] h K :=
  eX8_asNumber (as_num (Q := fun r h' => ∃ v, r = some (.int v) ∧ K v h') ⟨_, rfl, hK⟩)
theorem six {w : Nat} (hw : w ≤ 6) (h : (nI w).toInt < 1 ∨ 5 < (nI w).toInt) (h0 : w ≠ 0) : w = 6 := by
  rw [nI_toInt (by omega)] at h
  omega
theorem kis {w k : Nat} (hw : w ≤ 6) (hk : k ≤ 6) (h : nI w = nI k) : w = k := nI_eqI (by omega) (by omega) h
/-- the class's look at one that is there -/
theorem sp_lookAt {ch u v r w : Nat} {K : Int32 → am_H → Prop} (q0 : h[0]? = some (c_top u v s.1 s.2.1 s.2.2)) (hM : MC h m ch) (hv : ml_ok m) (sz : SZ s) (hS : CS h m ch) (hr : r < m_nu m) (ht : m_th m r = true) (hw : w ≤ 6) (hw0 : w ≠ 0) (hK : ∀ v h', LVr m s r w v → CS h' m ch → Fr 18 33 h h' → K v h') : cl_I l g mX8_lookAtOneThere (d + 9) x [.ref 0, .int (nI r), .int (nI w)] h K := by
  have hn : m_nu m ≤ 300 := hv.1.2.2.2.2.2.1
  obtain ⟨csP, csM, ⟨⟨c, y1, y2, y3, y4, y5, y6, y7, ⟨n0, rb0, num0, cr0, pt0, hc⟩, PP⟩, -⟩, ⟨ql, orr, p, rr, q, e, ww, f, Q, -⟩, -⟩ := id hS
  subst hc
  refine eX8_lookAtOneThere ⟨fun z => ?_, fun z => ?_, fun z => ?_, fun z => ?_, fun z => ?_, fun z => ?_⟩
  · have e6 := six hw z hw0
    subst e6
    refine gtR q0 rfl ⟨⟨_, PP.1⟩, sp_pcRefresh (d := d + 5) hv hM hS (fun h1 R1 S1 f1 => ?_)⟩
    obtain ⟨n, rb, pt, sd, g1, g2, g3, g4, g5, g6, g7, PA1, c7, c5, -⟩ := R1
    have q1 := (f1 0 (by decide)).trans q0
    obtain ⟨qq, l1, l2, l3⟩ := Lst.ex (A := m_aj m) (P := m_th m) r ht
    refine gtR q1 rfl (gtR PA1.1 rfl (alI PA1.2.2.2.2.2.1 (by omega) (by decide) ⟨_, rfl, ?_⟩))
    rw [c5 qq r l1 (l2.sy (aj_sy m))]
    exact hK _ h1 (Or.inr (Or.inr (Or.inr (Or.inr (Or.inr (Or.inr ⟨rfl, qq, l1, l2.sy (aj_sy m), rfl⟩)))))) S1 (f1.mono (by omega) (by omega))
  · have e1 := kis (k := 1) hw (by omega) z
    subst e1
    refine gtR q0 rfl ⟨⟨_, hM.1⟩, sp_linksOf (d := d + 6) hM (by omega) ⟨_, rfl, ?_⟩⟩
    rw [aj_out hv]
    exact hK _ h (Or.inr (Or.inl ⟨rfl, rfl⟩)) hS Fr.rf
  · have e1 := kis (k := 2) hw (by omega) z
    subst e1
    exact gtR q0 rfl ⟨⟨_, hM.1⟩, sp_isFull (d := d + 5) hM hv.1 hr (sp_asNumber ⟨_, rfl, hK _ h (Or.inr (Or.inr (Or.inl ⟨rfl, rfl⟩))) hS Fr.rf⟩)⟩
  · have e1 := kis (k := 3) hw (by omega) z
    subst e1
    exact ⟨⟨_, q0⟩, sp_binds (d := d + 5) q0 hM hv sz hr (sp_asNumber ⟨_, rfl, hK _ h (Or.inr (Or.inr (Or.inr (Or.inl ⟨rfl, rfl⟩)))) hS Fr.rf⟩)⟩
  · have e1 := kis (k := 4) hw (by omega) z
    subst e1
    refine gtR q0 rfl ⟨⟨_, PP.1⟩, sp_pcRefresh (d := d + 5) hv hM hS (fun h1 R1 S1 f1 => ?_)⟩
    obtain ⟨n, rb, pt, sd, g1, g2, g3, g4, g5, g6, g7, PA1, c7, -⟩ := R1
    have q1 := (f1 0 (by decide)).trans q0
    refine gtR q1 rfl (gtR PA1.1 rfl (alI PA1.2.2.2.2.2.2.2 (by omega) (by decide) ?_))
    rw [c7 r hr]
    exact sp_asNumber ⟨_, rfl, hK _ h1 (Or.inr (Or.inr (Or.inr (Or.inr (Or.inl ⟨rfl, rfl⟩))))) S1 (f1.mono (by omega) (by omega))⟩
  · have e1 := kis (k := 5) hw (by omega) z
    subst e1
    refine gtR q0 rfl ⟨⟨_, Q.1⟩, sp_mkRefresh (d := d + 2) hv hM hS (fun h1 R1 O1 S1 f1 => ?_)⟩
    have q1 := (f1 0 (by decide)).trans q0
    obtain ⟨ql', cc, p', r', q', e', w', f', res, C, Q1, k27, k28, -, hMK, c0, c1⟩ := O1
    refine gtR q1 rfl ⟨⟨_, Q1.1⟩, eX1_isOpened (gtR Q1.1 rfl ⟨⟨_, k27⟩, sp_has (row := 0) k27 k28 (by omega) (by omega) (by omega) (by omega) ⟨bi_01 _, _, rfl, ?_⟩⟩)⟩
    refine sp_asNumber ⟨_, rfl, hK _ h1 (Or.inr (Or.inr (Or.inr (Or.inr (Or.inr (Or.inl ⟨rfl, res, C, hMK, fun z => ?_, fun z => ?_⟩)))))) S1 f1⟩
    · rw [(c0 z).2 r (by omega)]; rfl
    · rw [(c1 z).2.2.1 r (by omega)]
theorem sp_look {ch u v : Nat} {Q : Option Value → am_H → Prop} (q0 : h[0]? = some (c_top u v s.1 s.2.1 s.2.2)) (hM : MC h m ch) (hv : ml_ok m) (sz : SZ s) (hS : CS h m ch)
    (hT : (¬ ∃ r w, OKL m i1 i2 r w) → ∀ pc, pc = 21 ∨ pc = 58 → Q (some (.retAddr pc)) h) (hV : ∀ r w v h', OKL m i1 i2 r w → LVr m s r w v → CS h' m ch → Fr 18 33 h h' → Q (some (.int v)) h') : zX8_look_0 l g (d + 9) x 0 i1 i2 h Q := by
  have hn : m_nu m ≤ 300 := hv.1.2.2.2.2.2.1
  refine gtR q0 rfl ⟨⟨_, hM.1⟩, sp_isNumbered hM hv.1 (fun c => ⟨fun _ => hT ?_ 21 (Or.inl rfl), fun y => absurd rfl y⟩) (fun r hr e1 => ⟨fun y => absurd y (by decide), fun _ => ⟨fun y => hT ?_ 21 (Or.inl rfl), fun y => ⟨fun y6 => ?_, fun y6 => hT ?_ 21 (Or.inl rfl)⟩⟩⟩)⟩
  · rintro ⟨r, w, a1, a2, -⟩
    rw [a1] at c
    rcases c with c | c
    · exact nI_pos (by omega) c
    · have := (nI_leI (by omega) (by omega)).mp c; omega
  · rintro ⟨r', w, a1, a2, a3, a4, -⟩
    rw [a3] at y
    exact nI_pos (by omega) y
  · obtain ⟨w, hw, e2⟩ := nI_of y
    subst e1 e2
    have hw6 : w ≤ 6 := (nI_leI (b := 6) hw (by decide)).mp y6
    refine ⟨fun z => gtR q0 rfl ⟨⟨_, hM.1⟩, sp_isThere (d := d + 8) hM hv.1 (fun c => ?_) (fun j hj ej => ?_)⟩, fun z => gtR q0 rfl ⟨⟨_, hM.1⟩, sp_isThere (d := d + 8) hM hv.1 (fun c => ?_) (fun j hj ej => ?_)⟩⟩
    · exfalso
      rcases c with c | c
      · exact nI_pos (by omega) c
      · have := (nI_leI (by omega) (by omega)).mp c; omega
    · have := nI_eqI (by omega) (by omega) ej
      subst this
      have hw0 : w ≠ 0 := fun c => z (by rw [c]; rfl)
      refine ⟨fun t => ⟨⟨_, q0⟩, sp_lookAt (d := d) q0 hM hv sz hS hr (bi_n0.mp t) hw6 hw0 (fun v h' lv S' f' => hV r w v h' ⟨rfl, hr, rfl, hw6, Or.inr (bi_n0.mp t)⟩ lv S' f')⟩, fun t => hT ?_ 58 (Or.inr rfl)⟩
      rintro ⟨r', w', a1, a2, a3, a4, a5⟩
      have x1 := nI_eqI (by omega) (by omega) a1
      have x2 := nI_eqI hw (by omega) a3
      subst x1 x2
      rcases a5 with a5 | a5
      · exact hw0 a5
      · rw [bi_0.mp t] at a5; cases a5
    · exfalso
      rcases c with c | c
      · exact nI_pos (by omega) c
      · have := (nI_leI (by omega) (by omega)).mp c; omega
    · have := nI_eqI (by omega) (by omega) ej
      subst this
      have hw0 : w = 0 := nI_eqI hw (by decide) z
      subst hw0
      exact sp_asNumber (hV r 0 _ h ⟨rfl, hr, rfl, by omega, Or.inl rfl⟩ (Or.inl ⟨rfl, rfl⟩) hS Fr.rf)
  · rintro ⟨r', w, a1, a2, a3, a4, -⟩
    rw [a3] at y6
    exact y6 (nI_le (a := w) (b := 6) a4 (by decide))
/-- thrown is 1 -/
def o_1 (o : mo_T) : mo_T := (1, o.2)
theorem MM.thr1 {o : mo_T} (hM : MM h m W o) : MM (h.set 46 (c_mm (o_1 o) (nI m.2.1) (nI m.2.2.1) (nI (m_sh m)) (nI (m_nu m)))) m W (o_1 o) := by
  obtain ⟨q0, hW, ⟨f, h60, h60'⟩, ⟨ft, h61, h61'⟩⟩ := hM
  exact ⟨st_eq q0, hW.fr (fun i a b => st_ne (by omega)), ⟨f, (st_ne (by decide)).trans h60, h60'⟩, ⟨ft, (st_ne (by decide)).trans h61, h61'⟩⟩
theorem ms_look {o : mo_T} {K : Int32 → am_H → Prop} (hM : MM h m W o) (hv : ml_ok m) (hA : MA h) (hs : o.2.2.2.2.2 = s)
    (hT : ∀ h', (¬ ∃ r w, OKL m i1 i2 r w) → MM h' m W (o_1 o) → Fr 46 46 h h' → K 0 h') (hV : ∀ r w v h', OKL m i1 i2 r w → LVr m s r w v → MM h' m W (o_0 o) → MA h' → (∀ i, ¬ (i = 46 ∨ (63 ≤ i ∧ i ≤ 72)) → h'[i]? = h[i]?) → K v h') : cl_I l g mX9_look (d + 310) x [.ref 46, .int i1, .int i2] h K := by
  have hn : m_nu m ≤ 300 := hv.1.2.2.2.2.2.1
  have no : (¬ ∃ r w, OKL m i1 i2 r w) → zX9_look_40 l g (d + 309) x 46 i1 i2 46 h (fun r h' => ∃ v, r = some (.int v) ∧ K v h') := fun hno => by
    unfold zX9_look_40 zX9_look_41
    refine ptV hM.1 (Nat.le_of_ble_eq_true rfl) (gtI hM.thr1.1 rfl ⟨fun c => absurd c (show ¬ (1 : Int32) ≤ 0 by decide), fun _ => ⟨_, rfl, hT _ hno hM.thr1 (Fr.rf.st (by decide))⟩⟩)
  have yes : ∀ r w, OKL m i1 i2 r w → zX9_look_36 l g (d + 309) x 46 i1 i2 46 h (fun r h' => ∃ v, r = some (.int v) ∧ K v h') := fun r w hok => by
    obtain ⟨e1, hr, e2, hw6, hth⟩ := id hok
    unfold zX9_look_36 zX9_look_41
    refine mt_thr hM (fun h1 M1 f1 => gtI M1.1 rfl ⟨fun _ => ?_, fun c => absurd (show (0 : Int32) ≤ 0 by decide) c⟩)
    have A1 : MA h1 := hA.fr' (fun i p q => f1 i (by omega))
    have now : ∀ v, LVr m s r w v → K v h1 := fun v lv => hV r w v h1 hok lv M1 A1 (fun i hi => f1 i (by omega))
    have later : ∀ v h', LVr m s r w v → Fr 63 70 h1 h' → MA h' → K v h' := fun v h' lv f' A' => hV r w v h' hok lv (M1.out (fun i hi => f' i (by omega))) A' (fr46 f1 f' (by omega) (by omega))
    obtain ⟨⟨g3, b3⟩, ⟨g4, b4⟩, ⟨g5, b5⟩, ⟨g6, b6⟩, -⟩ := id A1
    obtain ⟨-, -, ⟨f60, h60, h60'⟩, -⟩ := id M1
    have near : ∀ (KK : Int32 → am_H → Prop), (∀ h3 pc, h3[65]? = some (am_I 0 300 pc) → (∃ ln, h3[66]? = some (am_I 0 300 ln)) → PC m (m_th m) pc (m_nu m) → NR h3 m → MM h3 m W (o_0 o) → MA h3 → Fr 63 66 h1 h3 → KK (nI (npc (m_aj m) (m_th m) (m_nu m))) h3) → cv_N l g mX9_findNear (d + 309) x 9 46 [] h1 (fun h3 => cv_I l g mX9_findPieces (d + 309) x 9 46 [.int (-1)] h3 KK) := fun KK hk => by
      refine ⟨⟨_, M1.1⟩, ms_findNear (d := d + 308) M1 hv.1 b3 b4 (fun h2 N2 f2 => ?_)⟩
      have M2 := M1.out (h' := h2) (fun i hi => f2 i (by omega))
      refine ⟨⟨_, M2.1⟩, ms_findPieces (d := d + 308) M2 hv N2 (PW.none hv) ((f2 65 (by decide)).trans b5) ((f2 66 (by decide)).trans b6) (fun h3 pc c5 c6 hpc f3 => ?_)⟩
      exact hk h3 pc c5 c6 hpc (N2.fr (f3 63 (by decide)) (f3 64 (by decide))) (M2.out (fun i hi => f3 i (by omega))) ((A1.near N2 f2).piece ⟨pc, c5⟩ c6 f3) ((f2.mono (by omega) (by omega)).tr (f3.mono (by omega) (by omega)))
    subst e1 e2
    refine ⟨fun z => ?_, fun z => ?_, fun z => ?_, fun z => ?_, fun z => ?_, fun z => ?_, fun z => ?_⟩
    · have e6 : w = 6 := by
        rw [nI_toInt (by omega)] at z
        omega
      subst e6
      have ht : m_th m r = true := hth.resolve_left (by decide)
      refine near _ (fun h3 pc c5 c6 hpc N3 M3 A3 f3 => gtR M3.1 rfl (alI c5 (by omega) (by decide) ⟨_, rfl, ?_⟩))
      obtain ⟨qq, l1, l2, l3⟩ := Lst.ex (A := m_aj m) (P := m_th m) r ht
      rw [(hpc r hr).1 qq (by omega) l1 (l2.sy (aj_sy m))]
      exact later _ h3 (Or.inr (Or.inr (Or.inr (Or.inr (Or.inr (Or.inr ⟨rfl, qq, l1, l2.sy (aj_sy m), rfl⟩)))))) (f3.mono (by omega) (by omega)) A3
    · have e1 := kis (k := 0) hw6 (by omega) z
      subst e1
      refine gtR M1.1 rfl (alI h60 (by omega) (by decide) ?_)
      rw [h60' r hr]
      exact as_num (Q := fun r h' => ∃ v, r = some (.int v) ∧ K v h') ⟨_, rfl, now _ (Or.inl ⟨rfl, rfl⟩)⟩
    · have e1 := kis (k := 1) hw6 (by omega) z
      subst e1
      exact ⟨⟨_, M1.1⟩, ms_linksOf M1 hv.1 (by omega) ⟨_, rfl, now _ (Or.inr (Or.inl ⟨rfl, rfl⟩))⟩⟩
    · have e1 := kis (k := 2) hw6 (by omega) z
      subst e1
      have ht : m_th m r = true := hth.resolve_left (by decide)
      refine ⟨⟨_, M1.1⟩, ms_isFull (d := d + 308) M1 hv hr (as_num (Q := fun r h' => ∃ v, r = some (.int v) ∧ K v h') ⟨_, rfl, now _ (Or.inr (Or.inr (Or.inl ⟨rfl, ?_⟩)))⟩)⟩
      unfold m_full
      rw [ht, Bool.true_and]
    · have e1 := kis (k := 3) hw6 (by omega) z
      subst e1
      exact ⟨⟨_, M1.1⟩, ms_binds (d := d + 308) (s := s) M1 hv hs hr (as_num (Q := fun r h' => ∃ v, r = some (.int v) ∧ K v h') ⟨_, rfl, now _ (Or.inr (Or.inr (Or.inr (Or.inl ⟨rfl, rfl⟩))))⟩)⟩
    · have e1 := kis (k := 4) hw6 (by omega) z
      subst e1
      have ht : m_th m r = true := hth.resolve_left (by decide)
      refine near _ (fun h3 pc c5 c6 hpc N3 M3 A3 f3 => ?_)
      obtain ⟨ln, c6⟩ := c6
      refine ⟨⟨_, M3.1⟩, ms_isCut (d := d + 307) M3 hv N3 hr ht c5 c6 (fun h4 k5 k6 f4 => as_num (Q := fun r h' => ∃ v, r = some (.int v) ∧ K v h') ⟨_, rfl, later _ h4 (Or.inr (Or.inr (Or.inr (Or.inr (Or.inl ⟨rfl, ?_⟩))))) ((f3.mono (by omega) (by omega)).tr (f4.mono (by omega) (by omega))) (A3.piece k5 k6 f4)⟩)⟩
      unfold m_ct
      rw [ht, Bool.true_and]
    · have e1 := kis (k := 5) hw6 (by omega) z
      subst e1
      refine ⟨⟨_, M1.1⟩, ms_opens (d0 := d + 7) M1 hv A1 (fun h3 res op ff hMK h70 hop N3 A3 f3 => ⟨fun y => ⟨_, rfl, ?_⟩, fun y => ?_⟩)⟩
      · have hres : res = -1 := by
          rcases hMK with ⟨c, -⟩ | ⟨L, pr, -, -, -, -, -, c, -⟩
          · exact c
          · rw [c] at y
            have : PN L pr (m_nu m) ≤ m_nu m := fb_ct_le _ _
            exact absurd y (nI_pos (by omega))
        exact later _ h3 (Or.inr (Or.inr (Or.inr (Or.inr (Or.inr (Or.inl ⟨rfl, res, op, hMK, fun _ => rfl, fun c => absurd hres c⟩)))))) f3 A3
      · have hres : ¬ res = -1 := fun c => y (by rw [c]; decide)
        have M3 : MM h3 m W (o_0 o) := M1.out (fun i hi => f3 i (by omega))
        refine gtR M3.1 rfl (alI h70 (by omega) (by decide) ?_)
        rw [hop hres r hr]
        exact as_num (Q := fun r h' => ∃ v, r = some (.int v) ∧ K v h') ⟨_, rfl, later _ h3 (Or.inr (Or.inr (Or.inr (Or.inr (Or.inr (Or.inl ⟨rfl, res, op, hMK, fun c => absurd c hres, fun _ => rfl⟩)))))) f3 A3⟩
  refine eX9_look ⟨fun z => no ?_, fun z => gtI hM.1 rfl ⟨fun y => no ?_, fun y => ⟨fun a => no ?_, fun a => ⟨fun b => no ?_, fun b => ?_⟩⟩⟩⟩
  · rintro ⟨r, w, a1, a2, -⟩
    rw [a1] at z; exact nI_pos (by omega) z
  · rintro ⟨r, w, a1, a2, -⟩
    rw [a1] at y
    have := (nI_leI (by omega) (by omega)).mp y; omega
  · rintro ⟨r, w, a1, a2, a3, a4, -⟩
    rw [a3] at a; exact nI_pos (by omega) a
  · rintro ⟨r, w, a1, a2, a3, a4, -⟩
    rw [a3] at b
    have := (nI_ltI (a := 6) (by decide) (by omega)).mp b; omega
  · obtain ⟨r, hr, e1⟩ := nI_of z
    obtain ⟨w, hw, e2⟩ := nI_of a
    have hrn : r < m_nu m := by
      rcases Nat.lt_or_ge r (m_nu m) with c | c
      · exact c
      · exact absurd (by rw [e1]; exact nI_le c hr) y
    have hw6 : w ≤ 6 := by
      rcases Nat.lt_or_ge 6 w with c | c
      · exact absurd (by rw [e2]; exact nI_lt (a := 6) c hw) b
      · exact c
    obtain ⟨-, -, ⟨f60, h60, h60'⟩, -⟩ := id hM
    refine ⟨fun c => yes r w ⟨e1, hrn, e2, hw6, Or.inl ?_⟩, fun c => gtR hM.1 rfl ?_⟩
    · rw [e2] at c
      exact nI_eqI hw (by decide) c
    · have hal : al_I 2 h 60 (nI r) (fun v3 => ((v3 = 0 → zX9_look_40 l g (d + 309) x 46 i1 i2 46 h (fun r h' => ∃ v, r = some (.int v) ∧ K v h')) ∧ (¬ v3 = 0 → zX9_look_36 l g (d + 309) x 46 i1 i2 46 h (fun r h' => ∃ v, r = some (.int v) ∧ K v h')))) := by
        refine alI h60 (by omega) (by decide) ?_
        rw [h60' r hrn]
        refine ⟨fun t => no ?_, fun t => yes r w ⟨e1, hrn, e2, hw6, Or.inr (bi_n0.mp t)⟩⟩
        rintro ⟨r', w', a1, a2, a3, a4, a5⟩
        rw [e1] at a1
        rw [e2] at a3
        have x1 := nI_eqI hr (by omega) a1
        have x2 := nI_eqI hw (by omega) a3
        subst x1 x2
        rcases a5 with a5 | a5
        · exact c (by rw [e2, a5]; rfl)
        · rw [bi_0.mp t] at a5; cases a5
      rw [← e1] at hal
      exact hal
end JLOOK
