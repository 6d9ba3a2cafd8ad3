/-! ===== the class finds the pieces ===== -/
noncomputable def m_ct (m : ml_T) : Nat → Bool := fun v => m_th m v && cB (CutP (m_aj m) (m_th m) v)
def RB (m : ml_T) (ch : Nat) (cs : Int32) (num : Nat) (h : am_H) (fs : Nat → Bool) (d ls : Nat → Nat) (sd cu : Nat → Bool) (n : Nat) (pt : Bool) : Prop :=
  (∃ rb f1 f2 f3 f4 f5 f6 f7 cr lo pa tt, PA h (c_pc (nI n) rb cs (nI num) (nI cr) (bi pt)) f1 f2 f3 f4 f5 f6 f7 ∧ PF f1 f2 f3 f4 f5 f6 f7 fs d lo pa tt ls sd cu ∧ cr = fb_ct cu 300 ∧ (∀ v, fs v = true → tt v ≤ 300)) ∧ n = fb_ct fs 300 ∧
  (∀ v, fs v = true → d v < n ∧ v < m_nu m ∧ m_th m v = true) ∧ (∀ v w, fs v = true → fs w = true → d v = d w → v = w) ∧ (∀ v u, fs v = true → m_aj m v u = true → fs u = true) ∧ (∀ f, cu f = true → fs f = true ∧ CutP (m_aj m) (m_th m) f) ∧ (∀ f, fs f = true → CutP (m_aj m) (m_th m) f → cu f = true) ∧
  (pt = true → ∀ v u, fs v = true → m_aj m v u = true → sd u ≠ sd v) ∧ (pt = false → ¬ ∃ c, Two (m_aj m) c) ∧ MC h m ch
section CREFRESH
variable {l : Launch} {g : am_G} {d0 : Nat} {x : Bool} {h : am_H} {m : ml_T} {ch : Nat}
variable {n num : Nat} {cs : Int32} {pt : Bool} {fs : Nat → Bool} {d : Nat → Nat} {ls : Nat → Nat} {sd cu : Nat → Bool}
set_option maxHeartbeats 1000000 in
theorem sp_walkPiece {r : Nat} {K : am_H → Prop} (hv : ml_ok m) (hR : RB m ch cs num h fs d ls sd cu n pt) (hrn : r < m_nu m) (hrt : m_th m r = true) (hr : fs r = false)
    (hK : ∀ h' fs' d' ls' sd' cu' n' pt', RB m ch cs num h' fs' d' ls' sd' cu' n' pt' → (∀ v, fs' v = true ↔ fs v = true ∨ Cn (m_aj m) (m_th m) r v) → (∀ v, fs v = true → ls' v = ls v ∧ sd' v = sd v) → (∀ v, Cn (m_aj m) (m_th m) r v → ls' v = r) → sd' r = true → Fr 18 25 h h' → K h') : cl_N l g mX3_walkPiece (d0 + 2) x [.ref 18, .int (nI r)] h K := by
  have hnu : m_nu m ≤ 300 := hv.1.2.2.2.2.2.1
  have hr3 : r < 300 := by omega
  obtain ⟨⟨rb, f1, f2, f3, f4, f5, f6, f7, cr, lo, pa, tt, P, F, hcr, htt⟩, wn, b5, b6, b7, b14, b14', b20, b21, hM⟩ := hR
  refine eX3_walkPiece (ptV P.1 (Nat.le_of_ble_eq_true rfl) ?_)
  have P0 := P.s0 (c' := c_pc (nI n) (nI 0) cs (nI num) (nI cr) (bi pt))
  refine gtR P0.1 rfl (asI P0.2.2.2.2.2.1 hr3 (by decide) ?_)
  have P5 := P0.s5 (f := upd f5 r (nI r))
  refine gtR P5.1 rfl (asI P5.2.2.2.2.2.2.1 hr3 (by decide) ?_)
  have P6 := P5.s6 (f := upd f6 r 1)
  refine ⟨⟨_, P6.1⟩, sp_enter P6 hr3 fun h1 P1 fr1 => ?_⟩
  have F1 := F.enter (v := r) (n := n) (fr := -1) (ls' := r) (sd' := true)
  rw [show bi true = (1 : Int32) from rfl] at F1
  have W := WI.start (A := m_aj m) (th := m_th m) (nu := m_nu m) (lo := lo) (pa := pa) (tt := tt) (ls := ls) (fin := fs) hr hrn hrt b5 b6 (fun v hv => ⟨hv, fun u hu => b7 v u hv hu⟩) b14 b20 b21 (fun v hv => hv)
  have fo' : ∀ v, fs v = true → v ≠ r := fun v hv e => by rw [e, hr] at hv; cases hv
  have fr0 : Fr 18 25 h h1 := (((Fr.rf.st (by decide)).st (by decide)).st (by decide)).tr fr1
  have hM1 : MC h1 m ch := hM.fr (fun i a b => fr0 i (by omega))
  refine lm_walk (m := m) (ch := ch) (r := r) (B := n) (fs0 := fs) (ls0 := ls) (sd0 := sd) (cu0 := cu) (cs := cs) (num := num) (hh := h) hv (aj_sy m) ?_ 90300 0 h1 _ _ _ _ _ _ _ _ _ 0 pt fs (fun _ => r) 0 ?_ (by omega) ⟨W, rfl, ⟨_, _, _, _, _, _, _, cr, P1, F1, hcr⟩, by rw [mk_ct hr3 hr, wn], by omega, fun v hv => ?_, ⟨fun v hv => ?_, fun v hv hd => ?_⟩, hM1⟩ fr0
  · intro h' fs' d' lo' pa' tt' ls' sd' cu' n' rb' pt' fin' s' hW hall hfr
    obtain ⟨w, w0, ⟨g1, g2, g3, g4, g5, g6, g7, cr', P', F', hcr'⟩, wn', wrb, wtt, ⟨wo1, wo2⟩, hM'⟩ := hW
    obtain ⟨s1, s2, s3, s4, s5⟩ := w.stop (aj_sy m) hall
    rw [w0] at s3 s4
    have hh5 := w.2.2.2.2.1
    have hh7 := w.2.2.2.2.2.2.1
    obtain ⟨a1, a2, a3, a4, a5, a6, a7, a8, a9, a10, a11, a12, a13, a14, a15, a16, a17, a18, a19, a20, a21, a22, a23⟩ := w
    refine hK h' fs' d' ls' sd' cu' n' pt' ⟨⟨nI rb', g1, g2, g3, g4, g5, g6, g7, cr', lo', pa', tt', P', F', hcr', wtt⟩, wn', a5, a6, fun v u hv hu => ?_, a14, fun f hf hc => ?_, fun hp v u hv hu => ?_, a21, hM'⟩ (fun v => ⟨fun hv => ?_, fun hv => ?_⟩) (fun v hv => ⟨(wo1 v hv).2.2.1, (wo1 v hv).2.2.2.1⟩) (fun v hc => ?_) ?_ hfr
    · rcases Nat.lt_or_ge (d' v) n with c | c
      · exact ((a7 v hv c).2 u hu).1
      · exact (s1 v hv c u hu).1
    · rcases Nat.lt_or_ge (d' f) n with c | c
      · have := wo2 f hf c
        exact (wo1 f this).2.2.2.2 (b14' f this hc)
      · exact (s5 f hf c).mpr hc
    · refine a20 hp v u hv hu ?_
      rcases Nat.lt_or_ge (d' v) n with c | c
      · exact Or.inl (a7 v hv c).1
      · cases e : fin' v with
        | true => exact Or.inl rfl
        | false =>
          obtain ⟨i, hi, ei⟩ := a4 v hv c e
          have : i = 0 := by omega
          subst this
          right
          rw [ei] at hu ⊢
          exact hall u hu
    · rcases Nat.lt_or_ge (d' v) n with c | c
      · exact Or.inl (wo2 v hv c)
      · exact Or.inr (s4 v hv c)
    · rcases hv with c | c
      · exact (wo1 v c).1
      · exact (s3 v c).1
    · have := s3 v hc
      rw [a22 v this.1 this.2, w0]
    · rw [← w0]; exact a3.2.2
  · exact Nat.le_trans (fb_sm_bound (c := 301) (fun v _ => by unfold wcost; split <;> (try split) <;> omega)) (by omega)
  · by_cases e : v = r
    · rw [e, fput_s]; omega
    · rw [fput_n e] at hv ⊢; exact htt v hv
  · have := fo' v hv
    rw [fput_n this, fput_n this, fput_n this, fput_n this]
    exact ⟨hv, (b5 v hv).1, rfl, rfl, fun z => z⟩
  · by_cases e : v = r
    · rw [e, fput_s] at hd; omega
    · rw [fput_n e] at hv; exact hv
/-- what the pieces' fields say when they are fresh -/
def PR (h : am_H) (m : ml_T) (cs : Int32) : Prop := ∃ (n rb : Int32) (pt : Bool) (sd : Nat → Bool) (f1 f2 f3 f4 f5 f6 f7 : Nat → Int32), PA h (c_pc n rb cs (nI (npc (m_aj m) (m_th m) (m_nu m))) (nI (fb_ct (m_ct m) (m_nu m))) (bi pt)) f1 f2 f3 f4 f5 f6 f7 ∧ (∀ v, v < m_nu m → f7 v = bi (m_ct m v)) ∧ (∀ q v, Lst (m_aj m) (m_th m) q → Cn (m_aj m) (m_th m) q v → f5 v = nI q) ∧ (∀ v, v < 300 → f6 v = bi (m_th m v && sd v)) ∧ (∀ q, Lst (m_aj m) (m_th m) q → sd q = true) ∧ (pt = true → Two (m_aj m) sd) ∧ (pt = false → ¬ ∃ c, Two (m_aj m) c)
theorem PR.fr {h' : am_H} (hP : PR h m cs) (hf : ∀ i, 18 ≤ i → i ≤ 25 → h'[i]? = h[i]?) : PR h' m cs := by
  obtain ⟨n, rb, pt, sd, f1, f2, f3, f4, f5, f6, f7, P, r⟩ := hP
  exact ⟨n, rb, pt, sd, f1, f2, f3, f4, f5, f6, f7, P.fr hf, r⟩
theorem lm_refresh2 {K : am_H → Prop} {hh : am_H} (hv : ml_ok m) (hK : ∀ h', PR h' m cs → MC h' m ch → Fr 18 25 hh h' → K h') :
    ∀ k q h fs d ls sd cu n pt, q + k = m_nu m → RB m ch cs (fb_ct (rt (m_aj m) (m_th m)) q) h fs d ls sd cu n pt → (∀ v, fs v = true ↔ ∃ ρ, ρ < q ∧ Lst (m_aj m) (m_th m) ρ ∧ Cn (m_aj m) (m_th m) ρ v) → (∀ ρ v, ρ < q → Lst (m_aj m) (m_th m) ρ → Cn (m_aj m) (m_th m) ρ v → ls v = ρ) → (∀ ρ, ρ < q → Lst (m_aj m) (m_th m) ρ → sd ρ = true) → Fr 18 25 hh h →
      am_J l g mX3_refresh (d0 + 3) (0, 0, x) 84 [(0, .ref 18), (1, .int (nI q))] [] h (fun r h' => r = none ∧ K h') := by
  have hnu : m_nu m ≤ 300 := hv.1.2.2.2.2.2.1
  intro k
  induction k with
  | zero =>
    intro q h fs d ls sd cu n pt hq hR hfs hls hsd hfr
    have hqn : q = m_nu m := by omega
    subst hqn
    obtain ⟨⟨rb, f1, f2, f3, f4, f5, f6, f7, cr, lo, pa, tt, P, F, hcr, htt⟩, wn, b5, b6, b7, b14, b14', b20, b21, hM⟩ := hR
    have all : ∀ v, m_th m v = true → fs v = true := fun v ht => by
      obtain ⟨ρ, l1, l2, l3⟩ := Lst.ex (A := m_aj m) (P := m_th m) v ht
      exact (hfs v).mpr ⟨ρ, by have := hv.2.1 v ht; omega, l1, l2.sy (aj_sy m)⟩
    have hcu : ∀ v, cu v = m_ct m v := fun v => by
      unfold m_ct
      rw [Bool.eq_iff_iff, Bool.and_eq_true, cB_iff]
      exact ⟨fun z => ⟨(b5 v (b14 v z).1).2.2, (b14 v z).2⟩, fun z => b14' v (all v z.1) z.2⟩
    refine rX3_refresh_84 (gtR P.1 rfl (gtI hM.1 rfl ⟨fun _ => ⟨rfl, hK h ⟨nI n, rb, pt, sd, f1, f2, f3, f4, f5, f6, f7, ?_, fun v hvn => ?_, fun ρ v l1 l2 => ?_, fun v hv3 => ?_, fun ρ l1 => hsd ρ (hv.2.1 ρ l1.1) l1, fun hp u v huv => ?_, b21⟩ hM hfr⟩, fun z => absurd (nI_le (Nat.le_refl _) (by omega)) z⟩))
    · have e : cr = fb_ct (m_ct m) (m_nu m) := by
        rw [hcr]
        have e1 : fb_ct cu 300 = fb_ct cu (m_nu m + (300 - m_nu m)) := by rw [show m_nu m + (300 - m_nu m) = 300 by omega]
        rw [e1, fb_ct_split, (fb_ct_zero (p := fun k => cu (m_nu m + k)) (n := 300 - m_nu m)).mpr (fun j _ => ?_), Nat.add_zero]
        · exact fb_ct_cong (fun j _ => hcu j)
        · show cu (m_nu m + j) = false
          cases e : cu (m_nu m + j) with
          | false => rfl
          | true => have := (b5 _ (b14 _ e).1).2.1; omega
      rw [← e]; exact P
    · rw [(F.2.2 v (by omega)).1, hcu v]
    · have hc := l2.p
      have hvn := hv.2.1 v hc
      have := (F.2.1 v (by omega) (all v hc)).2.2.2.1
      rw [this, hls ρ v (hv.2.1 ρ l1.1) l1 l2]
    · cases ht : m_th m v with
      | true => rw [Bool.true_and]; exact (F.2.1 v hv3 (all v ht)).2.2.2.2
      | false =>
        refine (F.2.2 v hv3).2 (Bool.eq_false_iff.mpr (fun c => ?_))
        rw [(b5 v c).2.2] at ht; cases ht
    · exact fun e => b20 hp u v (all u (aj_th hv huv).1) huv e.symm
  | succ k ih =>
    intro q h fs d ls sd cu n pt hq hR hfs hls hsd hfr
    obtain ⟨⟨rb, f1, f2, f3, f4, f5, f6, f7, cr, lo, pa, tt, P, F, hcr, htt⟩, wn, b5, b6, b7, b14, b14', b20, b21, hM⟩ := id hR
    have hq3 : q < 300 := by omega
    -- a ring that is no root changes nothing
    have skip : ¬ Lst (m_aj m) (m_th m) q → zX3_refresh_131 l g (d0 + 2) x 18 (nI q) h (fun r h' => r = none ∧ K h') := fun hno => by
      unfold zX3_refresh_131
      rw [nI_1]
      have e : fb_ct (rt (m_aj m) (m_th m)) (q + 1) = fb_ct (rt (m_aj m) (m_th m)) q := by
        rw [fb_ct_succ, if_neg (by unfold rt; rw [cB_iff]; exact hno)]; rfl
      refine ih (q + 1) h fs d ls sd cu n pt (by omega) (by rw [e]; exact hR) (fun v => ?_) (fun ρ v h1 l1 l2 => ?_) (fun ρ h1 l1 => ?_) hfr
      · rw [hfs v]
        exact ⟨fun ⟨ρ, c1, c2⟩ => ⟨ρ, by omega, c2⟩, fun ⟨ρ, c1, c2⟩ => ⟨ρ, by
          by_cases e : ρ = q
          · rw [e] at c2; exact absurd c2.1 hno
          · omega, c2⟩⟩
      · by_cases e : ρ = q
        · rw [e] at l1; exact absurd l1 hno
        · exact hls ρ v (by omega) l1 l2
      · by_cases e : ρ = q
        · rw [e] at l1; exact absurd l1 hno
        · exact hsd ρ (by omega) l1
    refine rX3_refresh_84 (gtR P.1 rfl (gtI hM.1 rfl ⟨fun z => absurd ((nI_leI (by omega) (by omega)).mp z) (by omega), fun _ => gtR P.1 rfl ⟨⟨_, hM.1⟩, sp_isThere hM hv.1 (fun c => ?_) (fun j hj e => ?_)⟩⟩))
    · exfalso
      rcases c with c | c
      · exact nI_pos (by omega) c
      · have := (nI_leI (by omega) (by omega)).mp c; omega
    · have := nI_eqI (by omega) (by omega) e
      subst this
      refine ⟨fun z => skip (fun c => by have h1 := c.1; rw [bi_0.mp z] at h1; cases h1), fun z => gtR P.1 rfl (alI P.2.1 hq3 (by decide) ?_)⟩
      have hth := bi_n0.mp z
      rw [F.1 q hq3]
      cases hfq : fs q with
      | true =>
        rw [if_pos rfl]
        refine ⟨fun _ => skip (fun c => ?_), fun z => absurd z (n1_ne (by have := (b5 q hfq).1; have := fb_ct_le fs 300; omega))⟩
        obtain ⟨ρ, h1, h2, h3⟩ := (hfs q).mp hfq
        have := h2.one (aj_sy m) c h3
        omega
      | false =>
        rw [if_neg (by decide)]
        refine ⟨fun z => absurd rfl z, fun _ => gtI P.1 rfl (ptV P.1 (Nat.le_of_ble_eq_true rfl) ?_)⟩
        rw [nI_1]
        have hL : Lst (m_aj m) (m_th m) q := by
          refine ⟨hth, fun j hj => ?_⟩
          rcases Nat.lt_or_ge j q with c | c
          · exfalso
            obtain ⟨ρ, l1, l2, l3⟩ := Lst.ex (A := m_aj m) (P := m_th m) j hj.p
            have := (hfs q).mpr ⟨ρ, by omega, l1, (l2.sy (aj_sy m)).tr (hj.sy (aj_sy m))⟩
            rw [hfq] at this; cases this
          · exact c
        have P0 := P.s0 (c' := c_pc (nI n) rb cs (nI (fb_ct (rt (m_aj m) (m_th m)) q + 1)) (nI cr) (bi pt))
        have e1 : fb_ct (rt (m_aj m) (m_th m)) (q + 1) = fb_ct (rt (m_aj m) (m_th m)) q + 1 := by
          rw [fb_ct_succ, if_pos (by unfold rt; rw [cB_iff]; exact hL)]
        refine ⟨⟨_, P0.1⟩, sp_walkPiece (num := fb_ct (rt (m_aj m) (m_th m)) q + 1) hv ⟨⟨rb, f1, f2, f3, f4, f5, f6, f7, cr, lo, pa, tt, P0, F, hcr, htt⟩, wn, b5, b6, b7, b14, b14', b20, b21, hM.fr (fun i a b => st_ne (by omega))⟩ (by omega) hth hfq fun h' fs' d' ls' sd' cu' n' pt' R' k1 k2 k3 k4 f' => ?_⟩
        unfold zX3_refresh_131
        rw [nI_1]
        refine ih (q + 1) h' fs' d' ls' sd' cu' n' pt' (by omega) (by rw [e1]; exact R') (fun v => ?_) (fun ρ v h1 l1 l2 => ?_) (fun ρ h1 l1 => ?_) ((hfr.st (by decide)).tr f')
        · rw [k1 v, hfs v]
          constructor
          · rintro (⟨ρ, c1, c2⟩ | c)
            · exact ⟨ρ, by omega, c2⟩
            · exact ⟨q, by omega, hL, c⟩
          · rintro ⟨ρ, c1, c2, c3⟩
            by_cases e : ρ = q
            · rw [e] at c3; exact Or.inr c3
            · exact Or.inl ⟨ρ, by omega, c2, c3⟩
        · by_cases e : ρ = q
          · rw [e] at l2 ⊢; exact k3 v l2
          · have := (hfs v).mpr ⟨ρ, by omega, l1, l2⟩
            rw [(k2 v this).1]; exact hls ρ v (by omega) l1 l2
        · by_cases e : ρ = q
          · rw [e]; exact k4
          · have := (hfs ρ).mpr ⟨ρ, by omega, l1, Cn.rf l1.1⟩
            rw [(k2 ρ this).2]; exact hsd ρ (by omega) l1
theorem lm_refresh1 {Q : Option Value → am_H → Prop} {c : am_C} {rb : Int32} {hh : am_H} (hc : c = c_pc 0 rb cs 0 0 1) (hK : ∀ h' f1 f2 f3 f4 f5 f6 f7, PA h' c f1 f2 f3 f4 f5 f6 f7 → (∀ v, v < 300 → f1 v = -1 ∧ f7 v = 0 ∧ f6 v = 0) → Fr 18 25 hh h' → am_J l g mX3_refresh (d0 + 1) (0, 0, x) 84 [(0, .ref 18), (1, .int 0)] [] h' Q) :
    ∀ k i h f1 f2 f3 f4 f5 f6 f7, i + k = 300 → PA h c f1 f2 f3 f4 f5 f6 f7 → (∀ v, v < i → f1 v = -1 ∧ f7 v = 0 ∧ f6 v = 0) → Fr 18 25 hh h → am_J l g mX3_refresh (d0 + 1) (0, 0, x) 48 [(0, .ref 18), (1, .int (nI i))] [] h Q := by
  intro k
  induction k with
  | zero =>
    intro i h f1 f2 f3 f4 f5 f6 f7 hi P hz hfr
    have : i = 300 := by omega
    subst this
    exact rX3_refresh_48 ⟨fun _ => hK h f1 f2 f3 f4 f5 f6 f7 P hz hfr, fun z => absurd (show (300 : Int32) ≤ nI 300 by decide) z⟩
  | succ k ih =>
    intro i h f1 f2 f3 f4 f5 f6 f7 hi P hz hfr
    subst hc
    refine rX3_refresh_48 ⟨fun z => absurd ((nI_leI (a := 300) (by decide) (by omega)).mp z) (by omega), fun _ => gtR P.1 rfl (asI P.2.1 (by omega) (by decide) ?_)⟩
    have P1 := P.s1 (f := upd f1 i (-1))
    refine gtR P1.1 rfl (asI P1.2.2.2.2.2.2.1 (by omega) (by decide) ?_)
    have P2 := P1.s6 (f := upd f6 i 0)
    refine gtR P2.1 rfl (asI P2.2.2.2.2.2.2.2 (by omega) (by decide) ?_)
    have P3 := P2.s7 (f := upd f7 i 0)
    rw [nI_1]
    refine ih (i + 1) _ _ _ _ _ _ _ _ (by omega) P3 (fun v hv => ?_) (((hfr.st (by decide)).st (by decide)).st (by decide))
    by_cases e : v = i
    · rw [e, pk_us, pk_us, pk_us]; exact ⟨rfl, rfl, rfl⟩
    · rw [pk_un e, pk_un e, pk_un e]; exact hz v (by omega)
/-- what stands of the pieces' fields, fresh or not -/
def PO (h : am_H) (m : ml_T) (cs : Int32) (ch : Nat) : Prop := (∃ c f1 f2 f3 f4 f5 f6 f7, (∃ n rb num cr pt, c = c_pc n rb cs num cr pt) ∧ PA h c f1 f2 f3 f4 f5 f6 f7) ∧ (cs = nI ch → PR h m cs)
theorem sp_refresh {K : am_H → Prop} (hv : ml_ok m) (hM : MC h m ch) (hP : PO h m cs ch) (hK : ∀ h', PR h' m (nI ch) → Fr 18 25 h h' → K h') : cl_N l g mX3_refresh (d0 + 3) x [.ref 18] h K := by
  obtain ⟨⟨c, f1, f2, f3, f4, f5, f6, f7, ⟨n, rb, num, cr, pt, hc⟩, P⟩, hfresh⟩ := hP
  subst hc
  refine eX3_refresh (gtI P.1 rfl (gtR P.1 rfl (gtI hM.1 rfl ⟨fun z => gtR P.1 rfl (gtI hM.1 rfl (ptV P.1 (Nat.le_of_ble_eq_true rfl) ?_)), fun z => ⟨rfl, ?_⟩⟩)))
  · have P1 := P.s0 (c' := c_pc n rb (nI ch) num cr pt)
    refine ptV P1.1 (Nat.le_of_ble_eq_true rfl) ?_
    have P2 := P1.s0 (c' := c_pc n rb (nI ch) 0 cr pt)
    refine ptV P2.1 (Nat.le_of_ble_eq_true rfl) ?_
    have P3 := P2.s0 (c' := c_pc n rb (nI ch) 0 0 pt)
    refine ptV P3.1 (Nat.le_of_ble_eq_true rfl) ?_
    have P4 := P3.s0 (c' := c_pc n rb (nI ch) 0 0 1)
    refine ptV P4.1 (Nat.le_of_ble_eq_true rfl) ?_
    have P5 := P4.s0 (c' := c_pc 0 rb (nI ch) 0 0 1)
    refine lm_refresh1 (d0 := d0 + 2) (hh := h) rfl ?_ 300 0 _ f1 f2 f3 f4 f5 f6 f7 (by omega) P5 (fun v hv => by omega) (((((Fr.rf.st (by decide)).st (by decide)).st (by decide)).st (by decide)).st (by decide))
    intro h' g1 g2 g3 g4 g5 g6 g7 P' hz f'
    refine lm_refresh2 (ch := ch) (hh := h) hv (fun h2 R2 _ fr2 => hK h2 R2 fr2) (m_nu m) 0 h' (fun _ => false) (fun _ => 0) (fun _ => 0) (fun _ => false) (fun _ => false) 0 true (by omega) ⟨⟨rb, g1, g2, g3, g4, g5, g6, g7, 0, fun _ => 0, fun _ => 0, fun _ => 0, P', ⟨fun v hv => ?_, fun v hv hf => (by cases hf), fun v hv => ⟨(hz v hv).2.1, fun _ => (hz v hv).2.2⟩⟩, ?_, fun v hv => (by cases hv)⟩, ?_, fun v hv => (by cases hv), fun v w hv => (by cases hv), fun v u hv => (by cases hv), fun f hf => (by cases hf), fun f hf => (by cases hf), fun _ v u hv => (by cases hv), fun hp => (by cases hp), hM.fr (fun i a b => f' i (by omega))⟩ (fun v => ⟨fun z => (by cases z), fun ⟨ρ, c, _⟩ => (by omega)⟩) (fun ρ v c => by omega) (fun ρ c => by omega) f'
    · exact (hz v hv).1
    · exact (fb_ct_zero.mpr (fun _ _ => rfl)).symm
    · exact (fb_ct_zero.mpr (fun _ _ => rfl)).symm
  · exact hK h (z ▸ hfresh z) Fr.rf
end CREFRESH
