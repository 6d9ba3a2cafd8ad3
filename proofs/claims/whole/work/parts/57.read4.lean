def p_fin (T : tp_T) (R : Nat × Nat × (Nat → Nat) × wv_T) : Nat × wv_T := if R.1 = 0 then (fo (p_L T R.2.2.1 25 R.2.1 R.2.2.2).1 (if t_k T (t_s T (p_L T R.2.2.1 25 R.2.1 R.2.2.2).2.1) = 0 then 0 else p_ft T 1 (p_L T R.2.2.1 25 R.2.1 R.2.2.2).2.1), (p_L T R.2.2.1 25 R.2.1 R.2.2.2).2.2) else (R.1, w_0)
theorem p_all_eq (T : tp_T) : p_all T = if isW T 0 0 = true then p_fin T (p_R T 5 0 (fun _ => 0) w_0) else (p_ft T 1 0, w_0) := rfl
abbrev c_top (u v : Nat) (a b c : Int32) : am_C := am_O 8 [.ref 1, .ref 3, .ref 6, .ref 18, .ref 26, .ref u, .ref v, .int a, .int b, .int c]
/-- the reader between calls -/
def RC (h : am_H) : Prop := ∃ (v b k s : Int32) (vv : Int64) (f : Nat → Int64), h[3]? = some (c_rd v) ∧ h[4]? = some (c_tk b k s vv) ∧ h[5]? = some (am_L 4 f)
theorem RC.fr {h h' : am_H} (hR : RC h) (hf : ∀ i, 3 ≤ i → i ≤ 5 → h'[i]? = h[i]?) : RC h' := by
  obtain ⟨v, b, k, s, vv, f, a1, a2, a3⟩ := hR
  exact ⟨v, b, k, s, vv, f, (hf _ (by omega) (by omega)).trans a1, (hf _ (by omega) (by omega)).trans a2, (hf _ (by omega) (by omega)).trans a3⟩
theorem RX.rc {h : am_H} {T : tp_T} {k F r : Nat} {nm : Nat → Nat} (hR : RX h T k F nm r) : RC h := by
  obtain ⟨a, b, c, ⟨k', ⟨v, e1, -⟩, -⟩, f, g1, g2⟩ := hR
  exact ⟨_, _, _, _, _, f, b, e1, g1⟩
section READER4
variable {l : Launch} {g : am_G} {d : Nat} {x : Bool} {h : am_H} {T : tp_T} {q : Nat}
theorem lp_readR {K : Int32 → am_H → Prop} (hk : tp_ok T) (hq : 34 ≤ q) : ∀ f k (nm : Nat → Nat) W h, f + W.1 = 5 → wv_ok W → W.2.1 = 0 → RX h T k 0 nm W.1 → WC h q W →
    (∀ h' W', TC h' T → RC h' → WC h' q W' → ((p_fin T (p_R T f k nm W)).1 = 0 → W' = (p_fin T (p_R T f k nm W)).2) → RW q h h' → K (nI (p_fin T (p_R T f k nm W)).1) h') →
    am_J l g mX4_read (d + 5) (0, 0, x) 38 [(0, .ref 3), (1, .ref q), (2, .int (nI W.1))] [] h (fun r h' => ∃ v, r = some (.int v) ∧ K v h') := by
  intro f
  induction f with
  | zero => intro k nm W h hf hw; have := hw.1; omega
  | succ f ih =>
    intro k nm W h hf hw h0 hR hW hK
    have hw1 := hw.1
    refine rX4_read_38 ⟨fun z => absurd ((nI_ltI (a := 4) (by decide) (by omega)).mp z) (by omega), fun _ => gtI hR.2.1 rfl ⟨fun z => absurd rfl z, fun _ => ⟨⟨_, hR.2.1⟩, sp_isWord (w := 0) hk hR (by decide) rfl ⟨fun z => ?_, fun z => ⟨⟨_, hR.2.1⟩, ?_⟩⟩⟩⟩⟩
    · have e : p_R T (f + 1) k nm W = (0, k, nm, W) := by unfold p_R; rw [if_neg (by rw [bi_0.mp z]; decide)]
      rw [e] at hK
      have := lp_readL (l := l) (g := g) (d := d) (x := x) (K := K) hk hq 25 k W h (by omega) hw hR hW (fun h' k' W' a b c e2 => ?_)
      · rw [h0] at this
        exact this
      · unfold p_fin at hK
        simp only [if_true] at hK
        exact hK h' W' a.1 a.rc b (fun c0 => c (fo_0.mp c0).1) e2
    · refine sp_readRing hk hR hW hw hq ?_ ?_
      · intro h1 e0 R1 W1 f1
        have e : p_R T (f + 1) k nm W = p_R T f (k + 3) (nm_put nm W.1 (t_s T (k + 1))) (w_ring W) := by
          rw [p_R, if_pos (bi_n0.mp z), if_pos e0]
        rw [e] at hK
        rw [nI_1]
        have hne : W.1 ≠ 4 := fun e => by rw [p_ring_4 e] at e0; exact p_ft_ne (by decide) e0
        have hw' : wv_ok (w_ring W) := by
          obtain ⟨w1, w2, w3, w4⟩ := hw
          refine ⟨by show W.1 + 1 ≤ 4; omega, w2, fun i hi => ?_, fun i j hij hj => ?_⟩
          · have : i < W.2.1 := hi; omega
          · have : j < W.2.1 := hj; omega
        exact ih _ _ (w_ring W) h1 (by show f + (W.1 + 1) = 5; omega) hw' h0 R1 W1 (fun h' W' a b c e2 f2 => hK h' W' a b c e2 (f1.tr f2))
      · intro h1 W1 e0 R1 hW1 f1
        have e : p_R T (f + 1) k nm W = (p_ring T nm k W.1, k, nm, W) := by
          rw [p_R, if_pos (bi_n0.mp z), if_neg e0]
        rw [e] at hK
        unfold p_fin at hK
        simp only [if_neg e0] at hK
        have hF := R1.2.2.1
        have out2 : ∀ i2 : Int32, am_J l g mX4_read (d + 5) (0, 0, x) 73 [(0, .ref 3), (1, .ref q), (2, .int i2)] [] h1 (fun r h' => ∃ v, r = some (.int v) ∧ K v h') := by
          intro i2
          have o1 : zX4_read_107 l g (d + 4) x 3 h1 (fun r h' => ∃ v, r = some (.int v) ∧ K v h') := by
            refine sp_read107 hk R1 fun h' k' a b => ?_
            rw [fo_n e0] at a ⊢
            exact hK h' W1 a.1 a.rc (hW1.fr (fun i u v => b i (by omega))) (fun c => absurd c e0) (f1.tr (RW.of b))
          exact rX4_read_73 ⟨fun _ => o1, fun _ => gtI R1.2.1 rfl ⟨fun _ => o1, fun y => absurd ((nI_eq (b := 0) (by omega) (by decide)).mp y) e0⟩⟩
        rw [nI_1]
        exact rX4_read_38 ⟨fun _ => out2 _, fun _ => gtI R1.2.1 rfl ⟨fun _ => out2 _, fun y => absurd ((nI_eq (b := 0) (by omega) (by decide)).mp y) e0⟩⟩
theorem sp_read {W0 : wv_T} {K : Int32 → am_H → Prop} (hk : tp_ok T) (hq : 34 ≤ q) (hT : TC h T) (hR : RC h) (hW : WC h q W0)
    (hK : ∀ h' W', TC h' T → RC h' → WC h' q W' → ((p_all T).1 = 0 → W' = (p_all T).2) → RW q h h' → K (nI (p_all T).1) h') : cl_I l g mX4_read (d + 5) x [.ref 3, .ref q] h K := by
  obtain ⟨v, b, k, s, vv, f, q3, q4, q5⟩ := hR
  obtain ⟨f1, f2, f3, f4, f5, c0, c1, c2, c3, c4, c5, -⟩ := hW.q
  refine eX4_read ⟨⟨_, c0⟩, eX7_empty (ptV c0 (Nat.le_of_ble_eq_true rfl) ?_)⟩
  have p0 := st_eq (c := am_O 7 (([Value.ref (q + 1), .ref (q + 2), .ref (q + 3), .ref (q + 4), .ref (q + 5), .int (nI W0.1), .int (nI W0.2.1)] : List Value).set 5 (.int 0))) c0
  refine ptV p0 (Nat.le_of_ble_eq_true rfl) ⟨rfl, ?_⟩
  have p1 := st_eq (c := am_O 7 ((([Value.ref (q + 1), .ref (q + 2), .ref (q + 3), .ref (q + 4), .ref (q + 5), .int (nI W0.1), .int (nI W0.2.1)] : List Value).set 5 (.int 0)).set 6 (.int 0))) p0
  generalize hH : ((h.set q (am_O 7 (([Value.ref (q + 1), .ref (q + 2), .ref (q + 3), .ref (q + 4), .ref (q + 5), .int (nI W0.1), .int (nI W0.2.1)] : List Value).set 5 (.int 0)))).set q (am_O 7 ((([Value.ref (q + 1), .ref (q + 2), .ref (q + 3), .ref (q + 4), .ref (q + 5), .int (nI W0.1), .int (nI W0.2.1)] : List Value).set 5 (.int 0)).set 6 (.int 0)))) = H at p1 ⊢
  have hf : ∀ i, i ≠ q → H[i]? = h[i]? := fun i hi => by rw [← hH, st_ne (Ne.symm hi), st_ne (Ne.symm hi)]
  have r3 : H[3]? = some (c_rd v) := (hf 3 (by omega)).trans q3
  refine ptV r3 (Nat.le_of_ble_eq_true rfl) ?_
  generalize hG : H.set 3 (am_O 4 (([Value.ref 4, .ref 5, .int v] : List Value).set 2 (.int 0))) = G
  have g3 : G[3]? = some (c_rd 0) := by rw [← hG]; exact st_eq r3
  have g4 : G[4]? = some (c_tk b k s vv) := by rw [← hG, st_ne (by decide)]; exact (hf 4 (by omega)).trans q4
  have g5 : G[5]? = some (am_L 4 f) := by rw [← hG, st_ne (by decide)]; exact (hf 5 (by omega)).trans q5
  have gf : RW q h G := fun i a b => by rw [← hG, st_ne (by omega)]; exact hf i (by omega)
  have gT : TC G T := hT.fr (gf 1 (by omega) (by omega)) (gf 2 (by omega) (by omega))
  have gW : WC G q w_0 := by
    refine ⟨?_, f1, f2, f3, f4, f5, ?_, ?_, ?_, ?_, ?_, fun k hk => absurd hk (Nat.not_lt_zero k)⟩
    · rw [← hG, st_ne (by omega)]; exact p1
    · rw [← hG, st_ne (by omega)]; exact (hf _ (by omega)).trans c1
    · rw [← hG, st_ne (by omega)]; exact (hf _ (by omega)).trans c2
    · rw [← hG, st_ne (by omega)]; exact (hf _ (by omega)).trans c3
    · rw [← hG, st_ne (by omega)]; exact (hf _ (by omega)).trans c4
    · rw [← hG, st_ne (by omega)]; exact (hf _ (by omega)).trans c5
  refine gtR g3 rfl ⟨⟨_, g4⟩, sp_start gT hk g4 fun h1 t1 fr1 => ?_⟩
  have R1 : RX h1 T 0 0 (fun _ => 0) 0 := ⟨gT.fr (fr1 1 (by decide)) (fr1 2 (by decide)), (fr1 3 (by decide)).trans g3, by decide, ⟨0, t1, fun _ => rfl⟩, f, (fr1 5 (by decide)).trans g5, fun i hi => absurd hi (Nat.not_lt_zero i)⟩
  have W1 : WC h1 q w_0 := gW.fr (fun i u v => fr1 i (by omega))
  have F1 : RW q h h1 := gf.tr (RW.of (fr1.mono (by omega) (by omega)))
  refine ⟨⟨_, R1.2.1⟩, sp_isWord (w := 0) hk R1 (by decide) rfl ⟨fun z => ?_, fun z => ⟨⟨_, R1.2.1⟩, ?_⟩⟩⟩
  · rw [p_all_eq, if_pos (bi_n0.mp z)] at hK
    exact lp_readR hk hq 5 0 (fun _ => 0) w_0 h1 rfl w_0_ok rfl R1 W1 (fun h' W' a b c e f2 => hK h' W' a b c e (F1.tr f2))
  · rw [p_all_eq, if_neg (by rw [bi_0.mp z]; decide)] at hK
    refine sp_fail (w := 1) hk R1 (by decide) (by decide) fun h2 a2 t2 f2 => gtI a2.2.1 rfl ⟨_, rfl, ?_⟩
    exact hK h2 w_0 a2.1 a2.rc (W1.fr (fun i u v => f2 i (by omega))) (fun _ => rfl) (F1.tr (RW.of (f2.mono (by omega) (by omega))))
theorem sp_weave {u v : Nat} {a b c : Int32} {Wu Wv : wv_T} {K : Int32 → am_H → Prop} (hk : tp_ok T) (huv : (u = 34 ∧ v = 40) ∨ (u = 40 ∧ v = 34)) (q0 : h[0]? = some (c_top u v a b c)) (hT : TC h T) (hR : RC h) (hu : WC h u Wu) (hv : WC h v Wv)
    (hK : ∀ h' u' v' Wu' Wv', TC h' (0, T.2) → RC h' → ((u' = 34 ∧ v' = 40) ∨ (u' = 40 ∧ v' = 34)) → h'[0]? = some (c_top u' v' a b c) → WC h' u' Wu' → WC h' v' Wv' → ((p_all T).1 = 0 → Wu' = (p_all T).2) → ((p_all T).1 ≠ 0 → Wu' = Wu) → (∀ i, 6 ≤ i → (i < 34 ∨ 45 < i) → h'[i]? = h[i]?) → K (nI (p_all T).1) h') : cl_I l g mX8_weave (d + 6) x [.ref 0] h K := by
  obtain ⟨v3, b4, k4, s4, vv4, f5, q3, -, -⟩ := id hR
  have hF : (p_all T).1 < 20000 := by
    have z := hk
    have key : ∀ n, n = (p_all T).1 → n < 20000 ∨ True := fun _ _ => Or.inr trivial
    rw [p_all_eq]
    split
    · unfold p_fin
      split
      · refine fo_lt ?_ ?_
        · have : ∀ nm f k W, (p_L T nm f k W).1 < 20000 := by
            intro nm f
            induction f with
            | zero => intro k W; exact (by decide : 0 < 20000)
            | succ f ih =>
              intro k W
              unfold p_L
              split
              · split
                · exact ih _ _
                · show p_link T nm W k < 20000
                  unfold p_link
                  split
                  · exact p_ft_lt hk (by decide)
                  · refine fo_lt ?_ ?_
                    · unfold p_l5
                      refine fo_lt (fo_lt (fo_lt (fo_lt ?_ ?_) ?_) ?_) ?_
                      · unfold p_nmf; repeat' split
                        all_goals first | exact p_ft_lt hk (by decide) | decide
                      · unfold p_nmf; repeat' split
                        all_goals first | exact p_ft_lt hk (by decide) | decide
                      · unfold p_awf; repeat' split
                        all_goals first | exact p_ft_lt hk (by decide) | decide
                      · unfold p_awf; repeat' split
                        all_goals first | exact p_ft_lt hk (by decide) | decide
                      · unfold p_ovf; repeat' split
                        all_goals first | exact p_ft_lt hk (by decide) | decide
                    · unfold p_sc; split
                      · decide
                      · exact p_ft_lt hk (by decide)
              · exact (by decide : 0 < 20000)
          exact this _ _ _ _
        · split
          · decide
          · exact p_ft_lt hk (by decide)
      · have : ∀ f k nm W, (p_R T f k nm W).1 < 20000 := by
          intro f
          induction f with
          | zero => intro k nm W; exact (by decide : 0 < 20000)
          | succ f ih =>
            intro k nm W
            unfold p_R
            split
            · split
              · exact ih _ _ _
              · show p_ring T nm k W.1 < 20000
                unfold p_ring p_sc; repeat' split
                all_goals first | exact p_ft_lt hk (by decide) | decide
            · exact (by decide : 0 < 20000)
        exact this _ _ _ _
    · exact p_ft_lt hk (by decide)
  refine eX8_weave (gtR q0 rfl (gtR q0 rfl ⟨⟨_, q3⟩, sp_read hk (by omega) hT hR hv fun h1 W1 T1 R1 hW1 e1 f1 => ?_⟩))
  have p0 := (f1 0 (by omega) (by omega)).trans q0
  have hu1 : WC h1 u Wu := hu.fr (fun i a b => f1 i (by omega) (by omega))
  obtain ⟨t1, t2, ft, t3, t4⟩ := T1
  refine gtR p0 rfl ⟨⟨_, t1⟩, eX5_empty (ptV t1 (Nat.le_of_ble_eq_true rfl) ⟨rfl, ?_⟩)⟩
  have p0' : (h1.set 1 (am_O 5 (([Value.ref 2, .int (nI T.1)] : List Value).set 1 (.int 0))))[0]? = some (c_top u v a b c) := (st_ne (by decide)).trans p0
  refine ⟨fun z => ⟨_, rfl, ?_⟩, fun z => gtR p0' rfl (gtR p0' rfl (ptV p0' (Nat.le_of_ble_eq_true rfl) ?_))⟩
  · have hne : (p_all T).1 ≠ 0 := fun e => z (by rw [e]; rfl)
    refine hK _ u v Wu W1 ⟨st_eq t1, Nat.zero_le _, ft, (st_ne (by decide)).trans t3, fun i hi => absurd hi (Nat.not_lt_zero i)⟩ (R1.fr (fun i a b => st_ne (by omega))) huv p0' (hu1.fr (fun i a b => st_ne (by omega))) (hW1.fr (fun i a b => st_ne (by omega))) (fun e => absurd e hne) (fun _ => rfl) (fun i a b => ?_)
    rw [st_ne (by omega)]; exact f1 i (by omega) (by omega)
  · have he : (p_all T).1 = 0 := (nI_eq (b := 0) (by omega) (by decide)).mp z
    have p1 := st_eq (c := am_O 8 (([Value.ref 1, .ref 3, .ref 6, .ref 18, .ref 26, .ref u, .ref v, .int a, .int b, .int c] : List Value).set 5 (.ref v))) p0'
    refine ptV p1 (Nat.le_of_ble_eq_true rfl) ⟨_, rfl, ?_⟩
    refine hK _ v u W1 Wu ⟨?_, Nat.zero_le _, ft, ?_, fun i hi => absurd hi (Nat.not_lt_zero i)⟩ (R1.fr (fun i a b => ?_)) (by omega) (st_eq p1) (hW1.fr (fun i a b => ?_)) (hu1.fr (fun i a b => ?_)) e1 (fun e => absurd he e) (fun i a b => ?_)
    · rw [st_ne (by decide), st_ne (by decide)]; exact st_eq t1
    · rw [st_ne (by decide), st_ne (by decide), st_ne (by decide)]; exact t3
    · rw [st_ne (by omega), st_ne (by omega), st_ne (by omega)]
    · rw [st_ne (by omega), st_ne (by omega), st_ne (by omega)]
    · rw [st_ne (by omega), st_ne (by omega), st_ne (by omega)]
    · rw [st_ne (by omega), st_ne (by omega), st_ne (by omega)]; exact f1 i (by omega) (by omega)
end READER4
