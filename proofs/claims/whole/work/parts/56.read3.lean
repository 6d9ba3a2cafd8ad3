theorem WQ.s1 {h : am_H} {q : Nat} {W : wv_T} {f1 f2 f3 f4 f5 : Nat → Int32} {v : Int32} (hW : WQ h q W f1 f2 f3 f4 f5) : WQ (h.set (q + 1) (am_I 0 24 (upd f1 W.2.1 v))) q W (upd f1 W.2.1 v) f2 f3 f4 f5 := by
  obtain ⟨h0, h1, h2, h3, h4, h5, h6⟩ := hW
  refine ⟨(st_ne (by omega)).trans h0, st_eq h1, (st_ne (by omega)).trans h2, (st_ne (by omega)).trans h3, (st_ne (by omega)).trans h4, (st_ne (by omega)).trans h5, fun k hk => ?_⟩
  obtain ⟨a1, a2, a3, a4, a5⟩ := h6 k hk
  exact ⟨(pk_un (by omega)).trans a1, a2, a3, a4, a5⟩
theorem WQ.s2 {h : am_H} {q : Nat} {W : wv_T} {f1 f2 f3 f4 f5 : Nat → Int32} {v : Int32} (hW : WQ h q W f1 f2 f3 f4 f5) : WQ (h.set (q + 2) (am_I 0 24 (upd f2 W.2.1 v))) q W f1 (upd f2 W.2.1 v) f3 f4 f5 := by
  obtain ⟨h0, h1, h2, h3, h4, h5, h6⟩ := hW
  refine ⟨(st_ne (by omega)).trans h0, (st_ne (by omega)).trans h1, st_eq h2, (st_ne (by omega)).trans h3, (st_ne (by omega)).trans h4, (st_ne (by omega)).trans h5, fun k hk => ?_⟩
  obtain ⟨a1, a2, a3, a4, a5⟩ := h6 k hk
  exact ⟨a1, (pk_un (by omega)).trans a2, a3, a4, a5⟩
theorem WQ.s3 {h : am_H} {q : Nat} {W : wv_T} {f1 f2 f3 f4 f5 : Nat → Int32} {v : Int32} (hW : WQ h q W f1 f2 f3 f4 f5) : WQ (h.set (q + 3) (am_I 0 24 (upd f3 W.2.1 v))) q W f1 f2 (upd f3 W.2.1 v) f4 f5 := by
  obtain ⟨h0, h1, h2, h3, h4, h5, h6⟩ := hW
  refine ⟨(st_ne (by omega)).trans h0, (st_ne (by omega)).trans h1, (st_ne (by omega)).trans h2, st_eq h3, (st_ne (by omega)).trans h4, (st_ne (by omega)).trans h5, fun k hk => ?_⟩
  obtain ⟨a1, a2, a3, a4, a5⟩ := h6 k hk
  exact ⟨a1, a2, (pk_un (by omega)).trans a3, a4, a5⟩
theorem WQ.s4 {h : am_H} {q : Nat} {W : wv_T} {f1 f2 f3 f4 f5 : Nat → Int32} {v : Int32} (hW : WQ h q W f1 f2 f3 f4 f5) : WQ (h.set (q + 4) (am_I 0 24 (upd f4 W.2.1 v))) q W f1 f2 f3 (upd f4 W.2.1 v) f5 := by
  obtain ⟨h0, h1, h2, h3, h4, h5, h6⟩ := hW
  refine ⟨(st_ne (by omega)).trans h0, (st_ne (by omega)).trans h1, (st_ne (by omega)).trans h2, (st_ne (by omega)).trans h3, st_eq h4, (st_ne (by omega)).trans h5, fun k hk => ?_⟩
  obtain ⟨a1, a2, a3, a4, a5⟩ := h6 k hk
  exact ⟨a1, a2, a3, (pk_un (by omega)).trans a4, a5⟩
theorem WQ.s5 {h : am_H} {q : Nat} {W : wv_T} {f1 f2 f3 f4 f5 : Nat → Int32} {v : Int32} (hW : WQ h q W f1 f2 f3 f4 f5) : WQ (h.set (q + 5) (am_I 2 24 (upd f5 W.2.1 v))) q W f1 f2 f3 f4 (upd f5 W.2.1 v) := by
  obtain ⟨h0, h1, h2, h3, h4, h5, h6⟩ := hW
  refine ⟨(st_ne (by omega)).trans h0, (st_ne (by omega)).trans h1, (st_ne (by omega)).trans h2, (st_ne (by omega)).trans h3, (st_ne (by omega)).trans h4, st_eq h5, fun k hk => ?_⟩
  obtain ⟨a1, a2, a3, a4, a5⟩ := h6 k hk
  exact ⟨a1, a2, a3, a4, (pk_un (by omega)).trans a5⟩
section READER3
variable {l : Launch} {g : am_G} {d : Nat} {x : Bool} {h : am_H} {T : tp_T} {k F r : Nat} {nm : Nat → Nat} {q : Nat} {W : wv_T} {f1 f2 f3 f4 f5 : Nat → Int32}
theorem RX.w {j : Nat} {c : am_C} (hR : RX h T k F nm r) (hj : 34 ≤ j) : RX (h.set j c) T k F nm r := hR.fr (fun i _ _ => st_ne (by omega))
theorem WQ.lf (hW : WQ h q W f1 f2 f3 f4 f5) {h' : am_H} (hf : Fr 3 5 h h') (hq : 34 ≤ q) : WQ h' q W f1 f2 f3 f4 f5 := hW.fr (fun i u v => hf i (by omega))
theorem sp_readLink {K : am_H → Prop} (hk : tp_ok T) (hR : RX h T k 0 nm W.1) (hW : WC h q W) (hw : wv_ok W) (hq : 34 ≤ q)
    (hK0 : ∀ h', p_link T nm W k = 0 → RX h' T (p_k5 T k + 2) 0 nm W.1 → WC h' q (w_put W (p_lk T nm k W.1)) → RW q h h' → K h')
    (hK1 : ∀ h' W', p_link T nm W k ≠ 0 → RX h' T 0 (p_link T nm W k) nm 0 → WC h' q W' → RW q h h' → K h') : cl_N l g mX4_readLink (d + 4) x [.ref 3, .ref q] h K := by
  have hw1 := hw.1
  have hw2 := hw.2.1
  obtain ⟨f1, f2, f3, f4, f5, hQ⟩ := hW.q
  refine eX4_readLink (gtI hQ.1 rfl ⟨fun z => ?_, fun z => ⟨⟨_, hR.2.1⟩, ?_⟩⟩)
  · have h4 : W.2.1 < 24 := (nI_ltI (b := 24) (by omega) (by decide)).mp z
    have ep : p_link T nm W k = fo (p_l5 T nm W k) (p_sc T (p_k5 T k + 1)) := by unfold p_link; rw [if_neg (by omega)]
    rw [ep] at hK0 hK1
    refine gtR hR.2.1 rfl ⟨hR.c4, sp_on hk hR hR.tk fun ha Ra fa => ?_⟩
    have Qa := hQ.lf fa hq
    refine gtR Qa.1 rfl ⟨⟨_, Ra.2.1⟩, sp_rdName hk Ra hw1 hq Qa.1 fun v1 hb Rb e1 fb => ?_⟩
    rw [fo_z] at Rb e1
    have Qb := Qa.lf fb hq
    refine asI Qb.2.1 h4 (by omega) ?_
    have Qc := Qb.s1 (v := v1)
    have Rc := Rb.w (j := q + 1) (c := am_I 0 24 (upd f1 W.2.1 v1)) (by omega)
    refine gtR Qc.1 rfl ⟨⟨_, Rc.2.1⟩, sp_rdName hk Rc hw1 hq Qc.1 fun v2 hd Rd e2 fd => ?_⟩
    have Qd := Qc.lf fd hq
    refine asI Qd.2.2.1 h4 (by omega) ?_
    have Qe := Qd.s2 (v := v2)
    have Re := Rd.w (j := q + 2) (c := am_I 0 24 (upd f2 W.2.1 v2)) (by omega)
    refine gtR Qe.1 rfl ⟨⟨_, Re.2.1⟩, sp_away hk Re fun v3 hf Rf e3 ff => ?_⟩
    have Qf := Qe.lf ff hq
    refine asI Qf.2.2.2.1 h4 (by omega) ?_
    have Qg := Qf.s3 (v := v3)
    have Rg := Rf.w (j := q + 3) (c := am_I 0 24 (upd f3 W.2.1 v3)) (by omega)
    refine gtR Qg.1 rfl ⟨⟨_, Rg.2.1⟩, sp_away hk Rg fun v4 hi Ri e4 fi' => ?_⟩
    have Qi := Qg.lf fi' hq
    refine asI Qi.2.2.2.2.1 h4 (by omega) ?_
    have Qj := Qi.s4 (v := v4)
    have Rj := Ri.w (j := q + 4) (c := am_I 0 24 (upd f4 W.2.1 v4)) (by omega)
    refine gtR Qj.1 rfl ⟨⟨_, Rj.2.1⟩, sp_over (a := p_find T nm (k + 1) W.1) (b := p_find T nm (k + 2) W.1) (u := p_awv T (k + 3)) (v := p_awv T (p_k4 T k)) hk Rj Qj hw h4 ?_ fun bb hl Rl e5 fl => ⟨bi_01 _, ?_⟩⟩
    · intro hF
      have z1 := (fo_0.mp hF).1
      have z2 := (fo_0.mp z1).1
      have z3 := (fo_0.mp z2).1
      have y1 := p_find_le T nm (k + 1) W.1
      have y2 := p_find_le T nm (k + 2) W.1
      obtain ⟨x1, x2⟩ := p_awv_b (fo_0.mp z1).2
      obtain ⟨x3, x4⟩ := p_awv_b (fo_0.mp hF).2
      refine ⟨by omega, by omega, x1, x2, x3, x4, ?_, ?_, ?_, ?_⟩
      · rw [pk_us]; exact e1 z3
      · rw [pk_us]; exact e2 z2
      · rw [pk_us]; exact e3 z1
      · rw [pk_us]; exact e4 hF
    · have Ql := Qj.lf fl hq
      refine asI Ql.2.2.2.2.2.1 h4 (by omega) ?_
      have Qm := Ql.s5 (v := bi bb)
      have Rm := Rl.w (j := q + 5) (c := am_I 2 24 (upd f5 W.2.1 (bi bb))) (by omega)
      refine ⟨⟨_, Rm.2.1⟩, sp_semi hk Rm fun hn Rn fn => ?_⟩
      have Qn := Qm.lf fn hq
      have hfin : RW q h hn := ((((((((((((RW.of fa).tr (RW.of fb)).st (by omega)).tr (RW.of fd)).st (by omega)).tr (RW.of ff)).st (by omega)).tr (RW.of fi')).st (by omega)).tr (RW.of fl)).st (by omega)).tr (RW.of fn))
      have Rn' : RX hn T (p_k5 T k + 2) (fo (p_l5 T nm W k) (p_sc T (p_k5 T k + 1))) nm W.1 := Rn
      have hFl := Rn'.2.2.1
      refine gtI Rn'.2.1 rfl ⟨fun y => ⟨rfl, ?_⟩, fun y => gtI Qn.1 rfl (ptV Qn.1 (Nat.le_of_ble_eq_true rfl) ⟨rfl, ?_⟩)⟩
      · have hne : fo (p_l5 T nm W k) (p_sc T (p_k5 T k + 1)) ≠ 0 := fun e => y (by rw [e]; rfl)
        exact hK1 hn W hne (Rn'.bad hne) Qn.c hfin
      · have he : fo (p_l5 T nm W k) (p_sc T (p_k5 T k + 1)) = 0 := (nI_eq (b := 0) (by omega) (by decide)).mp y
        rw [he] at Rn'
        have h5 := (fo_0.mp he).1
        have g5 := h5
        unfold p_l5 at h5
        have z4 := (fo_0.mp h5).1
        have z1 := (fo_0.mp z4).1
        have z2 := (fo_0.mp z1).1
        have z3 := (fo_0.mp z2).1
        refine hK0 _ he (Rn'.w hq) ?_ (hfin.st (by omega))
        obtain ⟨c0, c1, c2, c3, c4, c5, c6⟩ := Qn
        refine ⟨?_, _, _, _, _, _, (st_ne (by omega)).trans c1, (st_ne (by omega)).trans c2, (st_ne (by omega)).trans c3, (st_ne (by omega)).trans c4, (st_ne (by omega)).trans c5, fun i hi => ?_⟩
        · rw [st_eq c0, nI_1]; rfl
        · have hi' : i < W.2.1 + 1 := hi
          by_cases ei : i = W.2.1
          · subst ei
            simp only [w_put, if_true, p_lk]
            rw [pk_us, pk_us, pk_us, pk_us, pk_us]
            exact ⟨e1 z3, e2 z2, e3 z1, e4 z4, by rw [e5 g5]; rfl⟩
          · simp only [w_put, if_neg ei]
            exact c6 i (by omega)
  · have h4 : W.2.1 = 24 := by
      rcases Nat.lt_or_ge W.2.1 24 with c | c
      · exact absurd (nI_lt (b := 24) c (by decide)) z
      · omega
    have e : p_link T nm W k = p_ft T 5 k := by unfold p_link; rw [if_pos h4]
    rw [e] at hK1
    refine sp_fail (w := 5) hk hR (by decide) (by decide) fun h1 a1 t1 f1 => ⟨rfl, ?_⟩
    exact hK1 h1 W (p_ft_ne (by decide)) (a1.bad (p_ft_ne (by decide))) (hW.fr (fun i u v => f1 i (by omega))) (RW.of (f1.mono (by omega) (by omega)))
/-- the end of read -/
theorem sp_read107 {K : Int32 → am_H → Prop} (hk : tp_ok T) (hR : RX h T k F nm r) (hK : ∀ h' k', RX h' T k' (fo F (if t_k T (t_s T k) = 0 then 0 else p_ft T 1 k)) nm 0 → Fr 3 5 h h' → K (nI (fo F (if t_k T (t_s T k) = 0 then 0 else p_ft T 1 k))) h') : zX4_read_107 l g (d + 4) x 3 h (fun r h' => ∃ v, r = some (.int v) ∧ K v h') := by
  have hF := hR.2.2.1
  refine gtI hR.2.1 rfl ⟨fun z => gtI hR.2.1 rfl ⟨_, rfl, ?_⟩, fun z => ?_⟩
  · have hF0 : F ≠ 0 := fun e => z (by rw [e]; rfl)
    rw [fo_n hF0] at hK
    exact hK h k (hR.bad hF0) Fr.rf
  · have hF0 : F = 0 := (nI_eq (b := 0) (by omega) (by decide)).mp z
    subst hF0
    rw [fo_z] at hK
    obtain ⟨v, q4, -⟩ := hR.tk
    have hle := t_k_le T (t_s T k)
    have e0 : nI (t_k T (t_s T k)) = 0 ↔ t_k T (t_s T k) = 0 := nI_eq (b := 0) (by omega) (by decide)
    refine gtR hR.2.1 rfl (gtI q4 rfl ⟨fun y => gtI hR.2.1 rfl ⟨_, rfl, ?_⟩, fun y => ⟨⟨_, hR.2.1⟩, ?_⟩⟩)
    · rw [if_pos (e0.mp y)] at hK
      exact hK h k (hR.lt (Nat.zero_le _)) Fr.rf
    · rw [if_neg (fun c => y (e0.mpr c))] at hK
      refine sp_fail (w := 1) hk hR (by decide) (by decide) fun h1 a1 t1 f1 => gtI a1.2.1 rfl ⟨_, rfl, ?_⟩
      exact hK h1 k (a1.lt (Nat.zero_le _)) (f1.mono (by omega) (by omega))
theorem lp_readL {K : Int32 → am_H → Prop} (hk : tp_ok T) (hq : 34 ≤ q) : ∀ f k W h, f + W.2.1 = 25 → wv_ok W → RX h T k 0 nm W.1 → WC h q W →
    (∀ h' k' W', RX h' T k' (fo (p_L T nm f k W).1 (if t_k T (t_s T (p_L T nm f k W).2.1) = 0 then 0 else p_ft T 1 (p_L T nm f k W).2.1)) nm 0 → WC h' q W' → ((p_L T nm f k W).1 = 0 → W' = (p_L T nm f k W).2.2) → RW q h h' → K (nI (fo (p_L T nm f k W).1 (if t_k T (t_s T (p_L T nm f k W).2.1) = 0 then 0 else p_ft T 1 (p_L T nm f k W).2.1))) h') →
    am_J l g mX4_read (d + 5) (0, 0, x) 73 [(0, .ref 3), (1, .ref q), (2, .int (nI W.2.1))] [] h (fun r h' => ∃ v, r = some (.int v) ∧ K v h') := by
  intro f
  induction f with
  | zero => intro k W h hf hw; have := hw.2.1; omega
  | succ f ih =>
    intro k W h hf hw hR hW hK
    have hw2 := hw.2.1
    refine rX4_read_73 ⟨fun z => absurd ((nI_ltI (a := 24) (by decide) (by omega)).mp z) (by omega), fun _ => gtI hR.2.1 rfl ⟨fun z => absurd rfl z, fun _ => ⟨⟨_, hR.2.1⟩, sp_isWord (w := 1) hk hR (by decide) rfl ⟨fun z => ?_, fun z => ⟨⟨_, hR.2.1⟩, ?_⟩⟩⟩⟩⟩
    · have e : p_L T nm (f + 1) k W = (0, k, W) := by unfold p_L; rw [if_neg (by rw [bi_0.mp z]; decide)]
      rw [e] at hK
      refine sp_read107 hk hR fun h' k' a b => ?_
      exact hK h' k' W a (hW.fr (fun i u v => b i (by omega))) (fun _ => rfl) (RW.of b)
    · refine sp_readLink hk hR hW hw hq ?_ ?_
      · intro h1 e0 R1 W1 f1
        have e : p_L T nm (f + 1) k W = p_L T nm f (p_k5 T k + 2) (w_put W (p_lk T nm k W.1)) := by
          rw [p_L, if_pos (bi_n0.mp z), if_pos e0]
        rw [e] at hK
        rw [nI_1]
        exact ih _ (w_put W (p_lk T nm k W.1)) h1 (by show f + (W.2.1 + 1) = 25; omega) (w_put_ok hw e0) R1 W1 (fun h' k' W' a b c e2 => hK h' k' W' a b c (f1.tr e2))
      · intro h1 W1 e0 R1 hW1 f1
        have e : p_L T nm (f + 1) k W = (p_link T nm W k, k, W) := by
          rw [p_L, if_pos (bi_n0.mp z), if_neg e0]
        rw [e] at hK
        simp only [fo_n e0] at hK
        have hF := R1.2.2.1
        have out : zX4_read_107 l g (d + 4) x 3 h1 (fun r h' => ∃ v, r = some (.int v) ∧ K v h') := by
          refine sp_read107 hk R1 fun h' k' a b => ?_
          rw [fo_n e0] at a ⊢
          exact hK h' k' W1 (a.bad e0) (hW1.fr (fun i u v => b i (by omega))) (fun c => absurd c e0) (f1.tr (RW.of b))
        rw [nI_1]
        refine rX4_read_73 ⟨fun _ => out, fun _ => gtI R1.2.1 rfl ⟨fun _ => out, fun y => ?_⟩⟩
        exact absurd ((nI_eq (b := 0) (by omega) (by decide)).mp y) e0
end READER3
