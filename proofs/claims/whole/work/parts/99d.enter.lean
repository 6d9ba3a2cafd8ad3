/-! ===== the law from its entry ===== -/
section ENTRY
variable {s : State} {b : Nat}
theorem en_cls (hgw : ∀ w ∈ lw_gw, w.before #[Value.ref b] s = true) : ∃ D : va_G, ∀ (c : Nat) (q : vw_C), am_cls[c]? = some q → u_Kn s q.1 q.2.1 q.2.2 (D.1 c) (D.2 c) := by
  obtain ⟨c0, i0, k0⟩ := u_known (C := RX0) (T := TX0) (N := 9) (n := 9) hgw gwX0 (hgw _ nX0)
  obtain ⟨c1, i1, k1⟩ := u_known (C := RX1) (T := TX1) (N := 11) (n := 11) hgw gwX1 (hgw _ nX1)
  obtain ⟨c2, i2, k2⟩ := u_known (C := RX2) (T := TX2) (N := 1) (n := 1) hgw gwX2 (hgw _ nX2)
  obtain ⟨c3, i3, k3⟩ := u_known (C := RX3) (T := TX3) (N := 14) (n := 14) hgw gwX3 (hgw _ nX3)
  obtain ⟨c4, i4, k4⟩ := u_known (C := RX4) (T := TX4) (N := 3) (n := 3) hgw gwX4 (hgw _ nX4)
  obtain ⟨c5, i5, k5⟩ := u_known (C := RX5) (T := TX5) (N := 2) (n := 2) hgw gwX5 (hgw _ nX5)
  obtain ⟨c6, i6, k6⟩ := u_known (C := RX6) (T := TX6) (N := 5) (n := 5) hgw gwX6 (hgw _ nX6)
  obtain ⟨c7, i7, k7⟩ := u_known (C := RX7) (T := TX7) (N := 7) (n := 7) hgw gwX7 (hgw _ nX7)
  obtain ⟨c8, i8, k8⟩ := u_known (C := RX8) (T := TX8) (N := 10) (n := 10) hgw gwX8 (hgw _ nX8)
  obtain ⟨c9, i9, k9⟩ := u_known (C := RX9) (T := TX9) (N := 38) (n := 38) hgw gwX9 (hgw _ nX9)
  refine ⟨(fun k => match k with | 0 => c0 | 1 => c1 | 2 => c2 | 3 => c3 | 4 => c4 | 5 => c5 | 6 => c6 | 7 => c7 | 8 => c8 | _ => c9, fun k => match k with | 0 => i0 | 1 => i1 | 2 => i2 | 3 => i3 | 4 => i4 | 5 => i5 | 6 => i6 | 7 => i7 | 8 => i8 | _ => i9), ?_⟩
  intro c q hq
  match c, hq with
  | 0, hq => cases hq; exact k0
  | 1, hq => cases hq; exact k1
  | 2, hq => cases hq; exact k2
  | 3, hq => cases hq; exact k3
  | 4, hq => cases hq; exact k4
  | 5, hq => cases hq; exact k5
  | 6, hq => cases hq; exact k6
  | 7, hq => cases hq; exact k7
  | 8, hq => cases hq; exact k8
  | 9, hq => cases hq; exact k9
  | c + 10, hq => exact absurd hq (by simp [am_cls])
theorem en_K (hgw : ∀ w ∈ lw_gw, w.before #[Value.ref b] s = true) : ∃ (D : va_G) (f : Nat → ClassId), ∀ (n0 : Nat) (sc : Nat × Nat × (Nat → Int32)) (r t1 t2 : Nat), va_K D am_cls (am_tys (n0, D, f, sc, r, t1, t2)) s := by
  obtain ⟨D, hD⟩ := en_cls hgw
  obtain ⟨a0, a1, a2⟩ := gi_arr (hgw _ aw_int)
  obtain ⟨b0, b1, b2⟩ := gi_arr (hgw _ aw_long)
  obtain ⟨d0, d1, d2⟩ := gi_arr (hgw _ aw_boolean)
  obtain ⟨e0, e1, e2⟩ := gi_arr (hgw _ aw_char)
  refine ⟨D, (fun k => match k with | 0 => a0 | 1 => b0 | 2 => d0 | _ => e0), fun n0 sc r t1 t2 => ⟨hD, ?_⟩⟩
  intro k q hq
  match k, hq with
  | 0, hq => cases hq; exact ⟨a1, a2⟩
  | 1, hq => cases hq; exact ⟨b1, b2⟩
  | 2, hq => cases hq; exact ⟨d1, d2⟩
  | 3, hq => cases hq; exact ⟨e1, e2⟩
  | k + 4, hq => exact absurd hq (by simp [am_tys])
theorem en_r {L : Nat} {xs : Nat → Int32} (hts : ∀ w ∈ lw_tbl, w.before #[Value.ref b] s = true) (hX : va_X b L xs s s.heap) (hbl : b < s.heap.size) (hgv : (Jvm.Cond.and given_1 narrow_1).before #[Value.ref b] s = true) :
    ∃ g : am_G, g.1 = s.heap.size ∧ g.2.2.2.1 = (b, L, xs) ∧ am_r g s s.heap [] 0 true [] := by
  have hgw : ∀ w ∈ lw_gw, w.before #[Value.ref b] s = true := fun w hw => hts w (am_gw hw).1
  have hfl := gi_flat hgv
  obtain ⟨w1, w2, w3, w4, w5, w6, w7⟩ := gi_words
  obtain ⟨t1, t2, t3, t4, t5, t6, t7, -⟩ := gi_tbl
  have hA : ∀ a : Nat, a < s.heap.size → ¬ (fun q : Nat => s.heap.size ≤ q) a := fun a ha => Nat.not_le.mpr ha
  obtain ⟨D, f, hK⟩ := en_K hgw
  obtain ⟨r, hr, hT⟩ := va_Tof (N := 9) (f := fun j => .int (am_room j)) (by decide) (hfl _ w1) (va_eqt (hfl _ w2)) (fun j hj => va_eqt (hfl _ (w3 j hj))) hA
  have hZ := va_Zof (hts _ t1) (hts _ t2) hr hA
  obtain ⟨q1, hq1⟩ := gi_str (hts _ t6) (hfl _ w6)
  obtain ⟨q2, hq2⟩ := gi_str (hts _ t7) (hfl _ w7)
  refine ⟨(s.heap.size, D, f, (b, L, xs), r, q1, q2), rfl, rfl, hK _ _ _ _ _, ⟨hX, hbl, hZ, hT, Nat.le_refl _, vx_Zqof (hts _ t3) (hts _ t5) (hfl _ w4) hA, vx_Zqof (hts _ t4) (hts _ t5) (hfl _ w5) hA, hq1, hq2, gi_odd hts⟩, ?_, ?_, va_S.rf, fun _ => ⟨rfl, rfl⟩⟩
  · intro k q h
    simp [am_w] at h
  · exact ⟨fun i j p q h => by simp [am_w] at h, fun k q h => by simp [am_w] at h⟩
end ENTRY
/-- the law's walk, over pictures -/
theorem en_J {l : Launch} {g : am_G} (hst : l.stackTraces = false) (hL : g.2.2.2.1.2.1 ≤ 3584) : am_J l g mLaw 401 (0, 0, true) 0 [(0, .retAddr 0)] [] [] (fun r _ => r = some (.int 1)) := by
  refine rLaw_0 (d := 400) (st_X8 (d := 397) ?_)
  refine st_X9 (d := 397) ?_
  exact lm_law (d0 := 0) hL (fun i1 i2 h N hN hR => jt_look (d0 := 0) hst i1 i2 h N hN hR) 600 0 HS 74 196089 rfl (by decide) (by decide) st_RJ
