section LAY
variable {l : Launch} {g : am_G} {d : Nat} {x : Bool} {h : am_H} {m : ml_T} {ch : Nat}
/-- the first c links of W lie at 7 -/
def CP (h : am_H) (W : wv_T) (c : Nat) : Prop := h[7]? = some (c_wv 7 (nI W.1) (nI W.2.1)) ∧ ∃ f1 f2 f3 f4 f5 : Nat → Int32, h[8]? = some (am_I 0 24 f1) ∧ h[9]? = some (am_I 0 24 f2) ∧ h[10]? = some (am_I 0 24 f3) ∧ h[11]? = some (am_I 0 24 f4) ∧ h[12]? = some (am_I 2 24 f5) ∧
  ∀ k, k < c → f1 k = nI (W.2.2 k).1 ∧ f2 k = nI (W.2.2 k).2.1 ∧ f3 k = Int32.ofInt (W.2.2 k).2.2.1 ∧ f4 k = Int32.ofInt (W.2.2 k).2.2.2.1 ∧ f5 k = bi (W.2.2 k).2.2.2.2
theorem lp_copy {W : wv_T} {q : Nat} {Q : Option Value → am_H → Prop} (hl : W.2.1 ≤ 24) (hq : 13 ≤ q) (hW : WC h q W) (hK : ∀ h', WC h' 7 W → Fr 7 12 h h' → Q none h') : ∀ k c h1, c + k = W.2.1 → CP h1 W c → Fr 7 12 h h1 → am_J l g mX7_copyFrom d (0, 0, x) 18 [(0, .ref 7), (1, .ref q), (2, .int (nI c))] [] h1 Q := by
  intro k
  induction k with
  | zero =>
    intro c h1 hc hP hf
    have : c = W.2.1 := by omega
    subst this
    exact rX7_copyFrom_18 (gtI hP.1 rfl ⟨fun _ => hK h1 hP hf, fun hz => absurd (nI_le (Nat.le_refl _) (by omega)) hz⟩)
  | succ k ih =>
    intro c h1 hc hP hf
    obtain ⟨p0, f1, f2, f3, f4, f5, p1, p2, p3, p4, p5, p6⟩ := hP
    obtain ⟨s0, g1, g2, g3, g4, g5, s1, s2, s3, s4, s5, s6⟩ := hW.fr (h' := h1) (fun i a b => hf i (by omega))
    obtain ⟨t1, t2, t3, t4, t5⟩ := s6 c (by omega)
    refine rX7_copyFrom_18 (gtI p0 rfl ⟨fun hz => absurd ((nI_leI (by omega) (by omega)).mp hz) (by omega), fun _ => ?_⟩)
    refine gtR p0 rfl (gtR s0 rfl (alI s1 (by omega) (by omega) (asI p1 (by omega) (by omega) ?_)))
    refine gtR ((st_ne (by decide)).trans p0) rfl (gtR ((st_ne (by omega)).trans s0) rfl (alI ((st_ne (by omega)).trans s2) (by omega) (by omega) (asI ((st_ne (by decide)).trans p2) (by omega) (by omega) ?_)))
    refine gtR ((st_ne (by decide)).trans ((st_ne (by decide)).trans p0)) rfl (gtR ((st_ne (by omega)).trans ((st_ne (by omega)).trans s0)) rfl (alI ((st_ne (by omega)).trans ((st_ne (by omega)).trans s3)) (by omega) (by omega) (asI ((st_ne (by decide)).trans ((st_ne (by decide)).trans p3)) (by omega) (by omega) ?_)))
    refine gtR ((st_ne (by decide)).trans ((st_ne (by decide)).trans ((st_ne (by decide)).trans p0))) rfl (gtR ((st_ne (by omega)).trans ((st_ne (by omega)).trans ((st_ne (by omega)).trans s0))) rfl (alI ((st_ne (by omega)).trans ((st_ne (by omega)).trans ((st_ne (by omega)).trans s4))) (by omega) (by omega) (asI ((st_ne (by decide)).trans ((st_ne (by decide)).trans ((st_ne (by decide)).trans p4))) (by omega) (by omega) ?_)))
    refine gtR ((st_ne (by decide)).trans ((st_ne (by decide)).trans ((st_ne (by decide)).trans ((st_ne (by decide)).trans p0)))) rfl (gtR ((st_ne (by omega)).trans ((st_ne (by omega)).trans ((st_ne (by omega)).trans ((st_ne (by omega)).trans s0)))) rfl (alI ((st_ne (by omega)).trans ((st_ne (by omega)).trans ((st_ne (by omega)).trans ((st_ne (by omega)).trans s5)))) (by omega) (by omega) ⟨by rw [t5]; exact bi_01 _, asI ((st_ne (by decide)).trans ((st_ne (by decide)).trans ((st_ne (by decide)).trans ((st_ne (by decide)).trans p5)))) (by omega) (by omega) ?_⟩))
    rw [nI_1]
    refine ih (c + 1) _ (by omega) ⟨?_, upd f1 c (g1 c), upd f2 c (g2 c), upd f3 c (g3 c), upd f4 c (g4 c), upd f5 c (g5 c), ?_, ?_, ?_, ?_, st_eq ((st_ne (by decide)).trans ((st_ne (by decide)).trans ((st_ne (by decide)).trans ((st_ne (by decide)).trans p5)))), fun j hj => ?_⟩ (((((hf.st (by decide)).st (by decide)).st (by decide)).st (by decide)).st (by decide))
    · rw [st_ne (by decide), st_ne (by decide), st_ne (by decide), st_ne (by decide), st_ne (by decide)]; exact p0
    · rw [st_ne (by decide), st_ne (by decide), st_ne (by decide), st_ne (by decide)]; exact st_eq p1
    · rw [st_ne (by decide), st_ne (by decide), st_ne (by decide)]; exact st_eq ((st_ne (by decide)).trans p2)
    · rw [st_ne (by decide), st_ne (by decide)]; exact st_eq ((st_ne (by decide)).trans ((st_ne (by decide)).trans p3))
    · rw [st_ne (by decide)]; exact st_eq ((st_ne (by decide)).trans ((st_ne (by decide)).trans ((st_ne (by decide)).trans p4)))
    · by_cases e : j = c
      · subst e
        rw [pk_us, pk_us, pk_us, pk_us, pk_us]
        exact ⟨t1, t2, t3, t4, t5⟩
      · rw [pk_un e, pk_un e, pk_un e, pk_un e, pk_un e]
        exact p6 j (by omega)
theorem sp_copy {W0 W : wv_T} {q : Nat} {K : am_H → Prop} (hl : W.2.1 ≤ 24) (hq : 13 ≤ q) (h7 : WC h 7 W0) (hW : WC h q W) (hK : ∀ h', WC h' 7 W → Fr 7 12 h h' → K h') : cl_N l g mX7_copyFrom d x [.ref 7, .ref q] h K := by
  obtain ⟨p0, f1, f2, f3, f4, f5, p1, p2, p3, p4, p5, p6⟩ := h7
  have s0 := hW.1
  refine eX7_copyFrom (gtI s0 rfl (ptV p0 (Nat.le_of_ble_eq_true rfl) (gtI ((st_ne (by omega)).trans s0) rfl (ptV (st_eq p0) (Nat.le_of_ble_eq_true rfl) ?_))))
  rw [List.set_set]
  refine lp_copy (h := h) hl hq hW (fun h' a b => ⟨rfl, hK h' a b⟩) W.2.1 0 _ (by omega) ⟨st_eq p0, f1, f2, f3, f4, f5, (st_ne (by decide)).trans p1, (st_ne (by decide)).trans p2, (st_ne (by decide)).trans p3, (st_ne (by decide)).trans p4, (st_ne (by decide)).trans p5, fun j hj => by omega⟩ (Fr.rf.st (by decide))
def m_0 (W : wv_T) (co ro : Nat) : ml_T := (W, co, ro, co * ro * W.1, (fun i => decide (i < co * ro * W.1)), (fun _ _ => false))
def m_ly (m : ml_T) : Nat → ml_T
  | 0 => m
  | n + 1 => m_jt (m_ly m n) n m.1.2.1
theorem m_ly_eq (m : ml_T) : ∀ n, m_eq m (m_ly m n)
  | 0 => m_eq.rf
  | n + 1 => (m_ly_eq m n).tr (m_jt_eq _ n _)
theorem lp_layJ {Q : Option Value → am_H → Prop} (hv : ml_g m) (hK : ∀ h' ch', MC h' (m_ly m (m_sh m)) ch' → ch ≤ ch' → ch' ≤ ch + 48 * m_sh m → Fr 6 17 h h' → Q none h') : ∀ k c h1 c1, c + k = m_sh m → MC h1 (m_ly m c) c1 → ch ≤ c1 → c1 ≤ ch + 48 * c → Fr 6 17 h h1 → am_J l g mX0_layOut (d + 4) (0, 0, x) 112 [(0, .ref 6), (4, .int (nI c))] [] h1 Q := by
  have b5 := hv.2.2.2.1
  intro k
  induction k with
  | zero =>
    intro c h1 c1 hc hM a1 a2 hf
    have : c = m_sh m := by omega
    subst this
    refine rX0_layOut_112 (gtI hM.1 rfl ⟨fun _ => hK h1 c1 hM a1 a2 hf, fun hq => absurd ?_ hq⟩)
    rw [(m_ly_eq m _).sh]; exact nI_le (Nat.le_refl _) (by omega)
  | succ k ih =>
    intro c h1 c1 hc hM a1 a2 hf
    have hg := (m_ly_eq m c).g hv
    have es := (m_ly_eq m c).sh
    have ew : (m_ly m c).1 = m.1 := (m_ly_eq m c).1
    refine rX0_layOut_112 (gtI hM.1 rfl ⟨fun hq => ?_, fun _ => ⟨⟨_, hM.1⟩, sp_joinAll hM hg (by omega) fun h6 c6 hM6 a3 a4 hf6 => ?_⟩⟩)
    · rw [es] at hq
      exact absurd ((nI_leI (by omega) (by omega)).mp hq) (by omega)
    · rw [ew] at hM6
      rw [nI_1]
      exact ih (c + 1) h6 c6 (by omega) hM6 (by omega) (by omega) (hf.tr hf6)
theorem lp_layT {sh : Nat} {co ro nu c8 : Int32} {f0 : Nat → Int32} {Q : Option Value → am_H → Prop} (hs : sh ≤ 240) (q0 : h[6]? = some (c_ml co ro (nI sh) nu c8)) (h13 : h[13]? = some (am_I 2 300 f0)) (hK : am_J l g mX0_layOut (d + 1) (0, 0, x) 112 [(0, .ref 6), (4, .int 0)] [] (h.set 13 (am_I 2 300 (fl_u f0 0 0))) Q → True) (hK2 : ∀ f, (∀ i, i < 300 → f i = bi (decide (i < sh))) → am_J l g mX0_layOut (d + 1) (0, 0, x) 112 [(0, .ref 6), (4, .int 0)] [] (h.set 13 (am_I 2 300 f)) Q) : ∀ k c f, c + k = 300 → (∀ i, i < c → f i = bi (decide (i < sh))) → am_J l g mX0_layOut (d + 1) (0, 0, x) 74 [(0, .ref 6), (4, .int (nI c))] [] (h.set 13 (am_I 2 300 f)) Q := by
  intro k
  induction k with
  | zero =>
    intro c f hc hf
    have : c = 300 := by omega
    subst this
    exact rX0_layOut_74 ⟨fun _ => hK2 f hf, fun hq => absurd (show (300 : Int32) ≤ nI 300 from by decide) hq⟩
  | succ k ih =>
    intro c f hc hf
    refine rX0_layOut_74 ⟨fun hq => absurd ((nI_leI (a := 300) (by decide) (by omega)).mp hq) (by omega), fun _ => gtR ((st_ne (by decide)).trans q0) rfl (gtI ((st_ne (by decide)).trans q0) rfl ⟨fun hz => ?_, fun hz => ?_⟩)⟩
    · have hge : sh ≤ c := (nI_leI (by omega) (by omega)).mp hz
      refine ⟨Or.inl rfl, asI (st_eq h13) (by omega) (by omega) ?_⟩
      rw [List.set_set, nI_1]
      refine ih (c + 1) _ (by omega) (fun i hi => ?_)
      by_cases e : i = c
      · subst e; rw [pk_us, decide_eq_false (by omega)]; rfl
      · rw [pk_un e]; exact hf i (by omega)
    · have hlt : ¬ sh ≤ c := fun z => hz ((nI_leI (by omega) (by omega)).mpr z)
      refine ⟨Or.inr rfl, asI (st_eq h13) (by omega) (by omega) ?_⟩
      rw [List.set_set, nI_1]
      refine ih (c + 1) _ (by omega) (fun i hi => ?_)
      by_cases e : i = c
      · subst e; rw [pk_us, decide_eq_true (by omega)]; rfl
      · rw [pk_un e]; exact hf i (by omega)
theorem sp_layOut {W : wv_T} {q co ro : Nat} {K : am_H → Prop} (hM : MC h m ch) (hW : WC h q W) (hq : 18 ≤ q) (hw : wv_ok W) (hco : co ≤ 12) (hro : ro ≤ 12) (hsh : co * ro * W.1 ≤ 240) (hK : ∀ h' ch', MC h' (m_ly (m_0 W co ro) (co * ro * W.1)) ch' → ch + 1 ≤ ch' → ch' ≤ ch + 11521 → Fr 6 17 h h' → K h') : cl_N l g mX0_layOut (d + 4) x [.ref 6, .ref q, .int (nI co), .int (nI ro)] h K := by
  obtain ⟨q0, h7, ⟨f3, h13, -⟩, h14, h16, ⟨fa, h15, -⟩, ⟨fj, h17, -⟩⟩ := hM
  refine eX0_layOut (gtR q0 rfl ⟨⟨_, h7.1⟩, sp_copy hw.2.1 (by omega) h7 hW fun h2 hW2 hf2 => ?_⟩)
  have q2 : h2[6]? = _ := hf2.get (by decide) q0
  refine ptV q2 (Nat.le_of_ble_eq_true rfl) (ptV (st_eq q2) (Nat.le_of_ble_eq_true rfl) ?_)
  rw [List.set_set]
  have w7 : ∀ c, (h2.set 6 c)[7]? = some (c_wv 7 (nI W.1) (nI W.2.1)) := fun c => (st_ne (by decide)).trans hW2.1
  refine gtI (st_eq q2) rfl (gtI (st_eq q2) rfl (gtR (st_eq q2) rfl (gtI (w7 _) rfl (ptV (st_eq q2) (Nat.le_of_ble_eq_true rfl) ?_))))
  rw [List.set_set]
  refine gtI (st_eq q2) rfl (ptV (st_eq q2) (Nat.le_of_ble_eq_true rfl) (gtI (st_eq (st_eq q2)) rfl (ptV (st_eq (st_eq q2)) (Nat.le_of_ble_eq_true rfl) ?_)))
  rw [List.set_set, List.set_set, nI_1, pk_mul, pk_mul]
  have f6 : Fr 6 17 h (h2.set 6 (c_ml (nI co) (nI ro) (nI (co * ro * W.1)) (nI (co * ro * W.1)) (nI (ch + 1)))) := (hf2.mono (by omega) (by omega)).st (by decide)
  have g0 : (h2.set 6 (c_ml (nI co) (nI ro) (nI (co * ro * W.1)) (nI (co * ro * W.1)) (nI (ch + 1))))[6]? = _ := st_eq q2
  have g7 : WC (h2.set 6 (c_ml (nI co) (nI ro) (nI (co * ro * W.1)) (nI (co * ro * W.1)) (nI (ch + 1)))) 7 W := hW2.fr (fun i a b => st_ne (by omega))
  have g13 : (h2.set 6 (c_ml (nI co) (nI ro) (nI (co * ro * W.1)) (nI (co * ro * W.1)) (nI (ch + 1))))[13]? = some (am_I 2 300 f3) := (st_ne (by decide)).trans (hf2.get (by decide) h13)
  have g14 : (h2.set 6 (c_ml (nI co) (nI ro) (nI (co * ro * W.1)) (nI (co * ro * W.1)) (nI (ch + 1))))[14]? = _ := (st_ne (by decide)).trans (hf2.get (by decide) h14)
  have g15 : (h2.set 6 (c_ml (nI co) (nI ro) (nI (co * ro * W.1)) (nI (co * ro * W.1)) (nI (ch + 1))))[15]? = _ := (st_ne (by decide)).trans (hf2.get (by decide) h15)
  have g16 : (h2.set 6 (c_ml (nI co) (nI ro) (nI (co * ro * W.1)) (nI (co * ro * W.1)) (nI (ch + 1))))[16]? = _ := (st_ne (by decide)).trans (hf2.get (by decide) h16)
  have g17 : (h2.set 6 (c_ml (nI co) (nI ro) (nI (co * ro * W.1)) (nI (co * ro * W.1)) (nI (ch + 1))))[17]? = _ := (st_ne (by decide)).trans (hf2.get (by decide) h17)
  have hgo : ∀ h3 : am_H, h3 = h2.set 6 (c_ml (nI co) (nI ro) (nI (co * ro * W.1)) (nI (co * ro * W.1)) (nI (ch + 1))) → gt_R h3 6 0 2 (fun v15 => cv_N l g mX2_dropAll (d + 3) x 2 v15 [] h3 (fun h16 => gt_R h16 6 0 3 (fun v18 => cv_N l g mX2_dropAll (d + 3) x 2 v18 [] h16 (fun h19 => am_J l g mX0_layOut (d + 3 + 1) (0, 0, x) 74 [(0, .ref 6), (4, .int 0)] [] h19 (fun r h' => r = none ∧ K h'))))) := ?_
  · exact hgo _ rfl
  intro h3 e3
  rw [← e3] at f6 g0 g7 g13 g14 g15 g16 g17
  clear e3
  refine gtR g0 rfl ⟨⟨_, g14⟩, sp_dropAll g14 g15 (by omega) fun fa' hfa => ?_⟩
  refine gtR ((st_ne (by decide)).trans g0) rfl ⟨⟨_, (st_ne (by decide)).trans g16⟩, sp_dropAll ((st_ne (by decide)).trans g16) ((st_ne (by decide)).trans g17) (by omega) fun fj' hfj => ?_⟩
  have f7 : Fr 6 17 h ((h3.set 15 (am_L 1500 fa')).set 17 (am_L 1500 fj')) := (f6.st (by decide)).st (by decide)
  have k0 : ((h3.set 15 (am_L 1500 fa')).set 17 (am_L 1500 fj'))[6]? = _ := (st_ne (by decide)).trans ((st_ne (by decide)).trans g0)
  have k7 : WC ((h3.set 15 (am_L 1500 fa')).set 17 (am_L 1500 fj')) 7 W := g7.fr (fun i a b => by rw [st_ne (by omega), st_ne (by omega)])
  have k13 : ((h3.set 15 (am_L 1500 fa')).set 17 (am_L 1500 fj'))[13]? = some (am_I 2 300 f3) := (st_ne (by decide)).trans ((st_ne (by decide)).trans g13)
  have k14 : ((h3.set 15 (am_L 1500 fa')).set 17 (am_L 1500 fj'))[14]? = _ := (st_ne (by decide)).trans ((st_ne (by decide)).trans g14)
  have k15 : ((h3.set 15 (am_L 1500 fa')).set 17 (am_L 1500 fj'))[15]? = _ := (st_ne (by decide)).trans (st_eq g15)
  have k16 : ((h3.set 15 (am_L 1500 fa')).set 17 (am_L 1500 fj'))[16]? = _ := (st_ne (by decide)).trans ((st_ne (by decide)).trans g16)
  have k17 : ((h3.set 15 (am_L 1500 fa')).set 17 (am_L 1500 fj'))[17]? = _ := st_eq ((st_ne (by decide)).trans g17)
  generalize ((h3.set 15 (am_L 1500 fa')).set 17 (am_L 1500 fj')) = h4 at f7 k0 k7 k13 k14 k15 k16 k17 ⊢
  have hT := lp_layT (l := l) (g := g) (d := d + 3) (x := x) (Q := fun r h' => r = none ∧ K h') hsh k0 k13 (fun _ => trivial) (fun f hf => ?_) 300 0 f3 rfl (fun i hi => by omega)
  · rw [set_same k13] at hT
    exact hT
  · have hM4 : MC (h4.set 13 (am_I 2 300 f)) (m_0 W co ro) (ch + 1) := by
      refine ⟨(st_ne (by decide)).trans k0, k7.fr (fun i a b => st_ne (by omega)), ⟨f, st_eq k13, fun i hi => hf i ?_⟩, (st_ne (by decide)).trans k14, (st_ne (by decide)).trans k16, ⟨fa', (st_ne (by decide)).trans k15, fun r i hr hi => hfa r i (by omega) hi⟩, ⟨fj', (st_ne (by decide)).trans k17, fun r i hr hi => hfj r i (by omega) hi⟩⟩
      have hi' : i < co * ro * W.1 := hi
      omega
    have hg : ml_g (m_0 W co ro) := ⟨hw, hco, hro, hsh, Nat.le_refl _, Nat.le_trans hsh (by decide), trivial⟩
    refine lp_layJ (m := m_0 W co ro) (ch := ch + 1) (h := h4.set 13 (am_I 2 300 f)) hg (fun h' ch' a b c e => ⟨rfl, hK h' ch' a b ?_ ((f7.st (by decide)).tr e)⟩) (co * ro * W.1) 0 _ (ch + 1) (by show 0 + _ = co * ro * W.1; omega) hM4 (Nat.le_refl _) (by omega) Fr.rf
    have c' : ch' ≤ ch + 1 + 48 * (co * ro * W.1) := c
    omega
end LAY
