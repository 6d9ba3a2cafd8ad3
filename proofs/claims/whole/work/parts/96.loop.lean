/-! ===== the law's loop ===== -/
theorem cv_mono {l : Launch} {g : am_G} {M : am_M} {d ci b : Nat} {x : Bool} {As : List Value} {h : am_H} {K K' : Int32 → am_H → Prop} (hJ : cv_I l g M d x ci b As h K) (hm : ∀ v h', K v h' → K' v h') : cv_I l g M d x ci b As h K' :=
  ⟨hJ.1, J_mono hJ.2 (fun _ h' ⟨v, e, q⟩ => ⟨v, e, hm v h' q⟩)⟩
/-- the law's look and the model's, side by side -/
def lk_J (l : Launch) (g : am_G) (d : Nat) (i1 i2 : Int32) (h : am_H) (N : Nat) : Prop := ∀ K : Int32 → am_H → Prop, (∀ v h1, cv_I l g mX9_look d false 9 46 [.int i1, .int i2] h1 (fun v77 h76 => cv_I l g mX9_thrown d false 9 46 [] h76 (fun v79 h78 => v79 = v ∧ RJ (N + 1) h78 ∧ (v = 0 → ∃ f, h78[73]? = some (am_L 1 f) ∧ f 0 = v77.toInt64))) → K v h1) → lk_L l g d 0 73 i1 i2 h K
abbrev lw_n (l : Launch) (g : am_G) (d kc ks N : Nat) (v w : Int32) (h' : am_H) : Prop := ((v = w → zLaw_745 l g d kc ks 0 46 73 (nI (7 * N)) h' (fun r _ => r = some (.int 1))) ∧ (¬ v = w → (fun (r : Option Value) (_ : am_H) => r = some (.int 1)) (some (.int 0)) h'))
section LOOP
variable {l : Launch} {g : am_G} {d0 : Nat}
theorem vin {N k L : Nat} (hk : k ≤ 6) (h : 7 * N + 7 ≤ L) (hL : L ≤ 3584) : vp_in (nI (7 * N) + nI k) L := by
  rw [nI_add]; exact vp_in_nI (by omega) (by omega)
set_option maxHeartbeats 2000000 in
theorem lm_law (hL : g.2.2.2.1.2.1 ≤ 3584) (hlook : ∀ i1 i2 h N, N ≤ 1000 → RJ N h → lk_J l g (d0 + 400) i1 i2 h N) :
    ∀ k N h kc ks, N + k = 600 → kc ≤ 1000 + N → ks ≤ 300000 + 6 * N → RJ N h → am_J l g mLaw (d0 + 401) (kc, ks, false) 23 [(0, .retAddr 0), (1, .ref 0), (2, .ref 46), (3, .ref 73), (4, .int (nI (7 * N)))] [] h (fun r _ => r = some (.int 1)) := by
  have len : ∀ N, ¬ (Int32.ofNat g.2.2.2.1.2.1 - 7) < nI (7 * N) → N ≤ 1000 → 7 * N + 7 ≤ g.2.2.2.1.2.1 := fun N hc hN => by
    rw [fa_lt] at hc
    rw [show Int32.ofNat g.2.2.2.1.2.1 - 7 = nI g.2.2.2.1.2.1 - nI 7 from rfl, pk_sub_toInt (by omega) (by omega), nI_toInt (by omega)] at hc
    omega
  intro k
  induction k with
  | zero =>
    intro N h kc ks hN hkc hks hR
    refine rLaw_23 ⟨by omega, by omega⟩ ⟨fun _ => rfl, fun c => ?_⟩
    have := len N c (by omega)
    omega
  | succ k ih =>
    intro N h kc ks hN hkc hks hR
    have hN' : N ≤ 1000 := by omega
    refine rLaw_23 ⟨by omega, by omega⟩ ⟨fun _ => rfl, fun c => ?_⟩
    have hl := len N c hN'
    have v0 : vp_in (nI (7 * N)) g.2.2.2.1.2.1 := vp_in_nI (by omega) (by omega)
    have v1 : vp_in (nI (7 * N) + 1) g.2.2.2.1.2.1 := vin (k := 1) (by omega) hl hL
    have v2 : vp_in (nI (7 * N) + 2) g.2.2.2.1.2.1 := vin (k := 2) (by omega) hl hL
    have v3 : vp_in (nI (7 * N) + 3) g.2.2.2.1.2.1 := vin (k := 3) (by omega) hl hL
    have v4 : vp_in (nI (7 * N) + 4) g.2.2.2.1.2.1 := vin (k := 4) (by omega) hl hL
    have v5 : vp_in (nI (7 * N) + 5) g.2.2.2.1.2.1 := vin (k := 5) (by omega) hl hL
    have v6 : vp_in (nI (7 * N) + 6) g.2.2.2.1.2.1 := vin (k := 6) (by omega) hl hL
    have next : ∀ h' kc' ks', kc' ≤ kc + 1 → ks' ≤ ks + 6 → RJ (N + 1) h' → zLaw_745 l g (d0 + 400) kc' ks' 0 46 73 (nI (7 * N)) h' (fun r _ => r = some (.int 1)) := fun h' kc' ks' a b r => by
      unfold zLaw_745
      rw [show nI (7 * N) + 7 = nI (7 * (N + 1)) from by rw [show (7 : Int32) = nI 7 from rfl, nI_add]; congr 1]
      exact ih (N + 1) h' kc' ks' (by omega) (by omega) (by omega) r
    have same : ∀ (v : Int32) h', RJ (N + 1) h' → lw_n l g (d0 + 400) kc ks N v v h' := fun v h' r => ⟨fun _ => next h' kc ks (by omega) (by omega) r, fun c => absurd rfl c⟩
    refine ⟨v0, fun z => next h kc ks (by omega) (by omega) ?_, fun z => ⟨v1, v2, v3, v4, v5, v6, ?_⟩, fun z => ?_, fun z => ⟨v1, v2, ?_⟩, fun z => ⟨v1, v2, v3, ?_⟩, fun z => ?_, fun z => ⟨v1, ?_⟩, fun z => ⟨v1, v2, ?_⟩, fun z => ⟨v1, v2, ?_⟩, fun z => ?_, fun z => ⟨v1, v2, ?_⟩, fun z => ⟨v1, v2, ?_⟩, fun z => ⟨v1, v2, ?_⟩, fun z => ?_, fun z => ⟨v1, ?_⟩, fun z => ⟨v1, v2, v3, ?_⟩, fun z => ⟨v1, ?_⟩⟩
    · obtain ⟨m, W, T, s, hC, hM, hP, h73⟩ := hR
      exact ⟨m, W, T, s, hC.fr (fun _ _ => rfl), hM, hP, h73⟩
    · exact cv_mono (jt_feed (P := lw_n l g (d0 + 400) kc ks N) (d := d0 + 398) hR same) (fun v h1 H => ⟨v1, v2, v3, v4, v5, v6, H⟩)
    · exact jt_weave (d := d0 + 394) hR same
    · exact cv_mono (jt_lay (P := lw_n l g (d0 + 400) kc ks N) (d := d0 + 395) hN' hR same) (fun v h1 H => ⟨v1, v2, H⟩)
    · exact cv_mono (jt_at (P := lw_n l g (d0 + 400) kc ks N) (d := d0 + 399) hN' hR same) (fun v h1 H => ⟨v1, v2, v3, H⟩)
    · exact jt_add (d := d0 + 399) hN' hR same
    · exact cv_mono (jt_take (P := lw_n l g (d0 + 400) kc ks N) (d := d0 + 396) hN' hR same) (fun v h1 H => ⟨v1, H⟩)
    · exact cv_mono (jt_link (P := lw_n l g (d0 + 400) kc ks N) (d := d0 + 397) hN' hR same) (fun v h1 H => ⟨v1, v2, H⟩)
    · exact cv_mono (jt_unlink (P := lw_n l g (d0 + 400) kc ks N) (d := d0 + 397) hN' hR same) (fun v h1 H => ⟨v1, v2, H⟩)
    · exact jt_mend (d := d0 + 395) hN' hR same
    · refine hlook _ _ h N hN' hR _ (fun v h1 H => ⟨v1, v2, cv_mono H (fun v77 h76 H => cv_mono H (fun v79 h78 ⟨e1, r, e2⟩ => ⟨fun _ => ⟨fun _ => ?_, fun e0 => ?_⟩, fun c => absurd e1 c⟩))⟩)
      · exact next h78 _ _ (by omega) (by omega) r
      · obtain ⟨f, h73, ef⟩ := e2 e0
        refine ⟨1, f, h73, vp_in_nI (n := 0) (by omega) (by omega), ⟨fun _ => next h78 _ _ (by omega) (by omega) r, fun c => absurd ?_ c⟩⟩
        show lg_cmp (f 0) v77.toInt64 = 0
        rw [ef]
        simp [lg_cmp]
    · exact cv_mono (jt_over (P := lw_n l g (d0 + 400) kc ks N) (d := d0 + 397) hN' hR same) (fun v h1 H => ⟨v1, v2, H⟩)
    · exact cv_mono (jt_linked (P := lw_n l g (d0 + 400) kc ks N) (d := d0 + 397) hN' hR same) (fun v h1 H => ⟨v1, v2, H⟩)
    · exact jt_fewest (d := d0 + 90) hR same
    · exact cv_mono (jt_order (P := lw_n l g (d0 + 400) kc ks N) (d := d0 + 90) hR same) (fun v h1 H => ⟨v1, H⟩)
    · exact cv_mono (jt_sizes (P := lw_n l g (d0 + 400) kc ks N) (d := d0 + 399) hN' hR same) (fun v h1 H => ⟨v1, v2, v3, H⟩)
    · exact cv_mono (jt_count (P := lw_n l g (d0 + 400) kc ks N) (d := d0 + 391) hR same) (fun v h1 H => ⟨v1, H⟩)
end LOOP
