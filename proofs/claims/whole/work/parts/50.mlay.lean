section MODEL8
variable {l : Launch} {g : am_G} {d : Nat} {x : Bool} {h : am_H} {m : ml_T} {Wh : wv_T} {o : mo_T}
def lay_ok (W : wv_T) (c r : Int32) : Prop := ∃ co ro, c = nI co ∧ r = nI ro ∧ 1 ≤ co ∧ co ≤ 12 ∧ 1 ≤ ro ∧ ro ≤ 12 ∧ W.1 ≠ 0 ∧ co * ro * W.1 ≤ 240
theorem fb_put_id {f : Nat → Int32} {s t n k : Nat} (hk : k < n) : fb_put f (fun k => f (24 * s + k)) (24 * t) n (24 * t + k) = f (24 * s + k) := by
  rw [fb_put_in (by omega) (by omega), Nat.add_sub_cancel_left]
theorem ms_lay {c r : Int32} {K : Int32 → am_H → Prop} (hM : MM h m Wh o) (hw : wv_ok Wh) (h0 : ∀ h', MM h' m Wh (o_0 o) → FrM h h' → ¬ lay_ok Wh c r → K (-1) h')
    (h1 : ∀ h' co ro, c = nI co → r = nI ro → 1 ≤ co → co ≤ 12 → 1 ≤ ro → ro ≤ 12 → Wh.1 ≠ 0 → co * ro * Wh.1 ≤ 240 → MM h' (m_ly (m_0 Wh co ro) (co * ro * Wh.1)) Wh (o_0 o) → FrM h h' → K (nI (co * ro * Wh.1)) h') : cl_I l g mX9_lay_ (d + 2) x [.ref 46, .int c, .int r] h K := by
  have b3 := hw.1
  have b4 := hw.2.1
  refine eX9_lay_ (mt_thr hM fun h' hM1 hf1 => ?_)
  have hf1' : FrM h h' := hf1.m (by omega)
  obtain ⟨q0, ⟨fr, fl, f1, f2, f3, f4, f5, w52, w54, w1, w2, w3, w4, w5, e50, e40, e52, e42, ow0, ow2⟩, ⟨f6, h60, h60'⟩, ⟨ft, h61, h61'⟩⟩ := id hM1
  have no : ¬ lay_ok Wh c r → ∃ v, some (Value.int (-1)) = some (.int v) ∧ K v h' := fun hq => ⟨_, rfl, h0 h' hM1 hf1' hq⟩
  have lo : ∀ co : Nat, 1 ≤ co → co ≤ 12 → ¬ nI co < 1 ∧ ¬ (12 : Int32) < nI co := fun co a b => ⟨fun z => absurd ((nI_ltI (b := 1) (by omega) (by decide)).mp z) (by omega), fun z => absurd ((nI_ltI (a := 12) (by decide) (by omega)).mp z) (by omega)⟩
  have up : ∀ z : Int32, ¬ z < 1 → ¬ (12 : Int32) < z → ∃ co : Nat, 1 ≤ co ∧ co ≤ 12 ∧ z = nI co := fun z a b => by
    have hz : ¬ z < 0 := fun q => a (by
      rw [fa_lt] at q ⊢
      have : (0 : Int32).toInt = 0 := rfl
      have : (1 : Int32).toInt = 1 := rfl
      omega)
    obtain ⟨co, hco, rfl⟩ := nI_of hz
    refine ⟨co, ?_, ?_, rfl⟩
    · rcases Nat.lt_or_ge co 1 with q | q
      · exact absurd ((nI_ltI (b := 1) (by omega) (by decide)).mpr q) a
      · exact q
    · rcases Nat.lt_or_ge 12 co with q | q
      · exact absurd ((nI_ltI (a := 12) (by decide) (by omega)).mpr q) b
      · exact q
  refine gtR q0 rfl (alI (i := 0) w52 (by decide) (by decide) ?_)
  rw [e50]
  refine ⟨fun hz => no ?_, fun hz => ⟨fun hc => no ?_, fun hc => ⟨fun hd => no ?_, fun hd => ⟨fun he => no ?_, fun he => ⟨fun hf => no ?_, fun hf => gtR q0 rfl (alI (i := 0) w52 (by decide) (by decide) ?_)⟩⟩⟩⟩⟩
  · rintro ⟨co, ro, -, -, -, -, -, -, hq, -⟩
    exact hq (nI_eqI (b := 0) (by omega) (by decide) hz)
  · rintro ⟨co, ro, rfl, -, a, b, -⟩
    exact (lo co a b).1 hc
  · rintro ⟨co, ro, rfl, -, a, b, -⟩
    exact (lo co a b).2 hd
  · rintro ⟨co, ro, -, rfl, -, -, a, b, -⟩
    exact (lo ro a b).1 he
  · rintro ⟨co, ro, -, rfl, -, -, a, b, -⟩
    exact (lo ro a b).2 hf
  · rw [e50]
    obtain ⟨co, c1, c2, rfl⟩ := up c hc hd
    obtain ⟨ro, r1, r2, rfl⟩ := up r he hf
    have hW0 : Wh.1 ≠ 0 := fun q => hz (by rw [q]; rfl)
    have hm0 : co * ro ≤ 144 := Nat.mul_le_mul c2 r2
    have hm1 : co * ro * Wh.1 ≤ 144 * 4 := Nat.mul_le_mul hm0 b3
    rw [pk_mul, pk_mul]
    refine ⟨fun hq => ?_, fun hq => no ?_⟩
    · have hsh : co * ro * Wh.1 ≤ 240 := (nI_leI (b := 240) (by omega) (by decide)).mp hq
      refine ⟨⟨_, q0⟩, ?_⟩
      have hb5 : ∀ k, k < Wh.2.1 → f5 (24 * 0 + k) = 0 ∨ f5 (24 * 0 + k) = 1 := fun k hk => by rw [(ow0 k hk).2.2.2.2]; exact bi_01 _
      refine ms_copies (s := 0) (t := 2) (n := Wh.2.1) q0 ⟨w52, w54, w1, w2, w3, w4, w5⟩ (by decide) (by decide) (by decide) b4 e40 hb5 fun h6 p0 hA hfr h53 => ?_
      have hfM : FrM h h6 := hf1'.tr (fun i hi => by
        by_cases e : i = 53
        · rw [e]; exact h53
        · exact hfr i (by omega))
      obtain ⟨v52, v54, v1, v2, v3, v4, v5⟩ := hA
      have k60 : h6[60]? = some (am_I 2 300 f6) := hfr.get (by decide) h60
      have k61 : h6[61]? = some (am_I 0 90000 ft) := hfr.get (by decide) h61
      refine ptV p0 (Nat.le_of_ble_eq_true rfl) (ptV (st_eq p0) (Nat.le_of_ble_eq_true rfl) ?_)
      rw [List.set_set]
      refine gtR (st_eq p0) rfl (alI (i := 2) ((st_ne (by decide)).trans v52) (by decide) (by decide) ?_)
      rw [pk_us, e50, pk_mul]
      refine ptV (st_eq p0) (Nat.le_of_ble_eq_true rfl) (gtI (st_eq (st_eq p0)) rfl (ptV (st_eq (st_eq p0)) (Nat.le_of_ble_eq_true rfl) ?_))
      rw [List.set_set, List.set_set]
      have hgo : ∀ h7 : am_H, h7 = h6.set 46 (c_mm (o_0 o) (nI co) (nI ro) (nI (co * ro * Wh.1)) (nI (co * ro * Wh.1))) → am_J l g mX9_lay_ (d + 2) (0, 0, x) 94 [(0, .ref 46), (3, .int 0)] [] h7 (fun r h' => ∃ v, r = some (.int v) ∧ K v h') := ?_
      · exact hgo _ rfl
      intro h7 e7
      have s0 : h7[46]? = some (c_mm (o_0 o) (nI co) (nI ro) (nI (co * ro * Wh.1)) (nI (co * ro * Wh.1))) := by rw [e7]; exact st_eq p0
      have sne : ∀ i, i ≠ 46 → h7[i]? = h6[i]? := fun i hi => by rw [e7, st_ne (Ne.symm hi)]
      have hf7 : FrM h h7 := by rw [e7]; exact hfM.st (by decide)
      have s61 : h7[61]? = some (am_I 0 90000 ft) := (sne _ (by decide)).trans k61
      have s60 : h7[60]? = some (am_I 2 300 f6) := (sne _ (by decide)).trans k60
      have hWM : WM h7 Wh Wh := by
        refine ⟨_, _, _, _, _, _, _, (sne _ (by decide)).trans v52, (sne _ (by decide)).trans v54, (sne _ (by decide)).trans v1, (sne _ (by decide)).trans v2, (sne _ (by decide)).trans v3, (sne _ (by decide)).trans v4, (sne _ (by decide)).trans v5, ?_, ?_, ?_, ?_, fun k hk => ?_, fun k hk => ?_⟩
        · rw [pk_un (by decide)]; exact e50
        · rw [pk_un (by decide)]; exact e40
        · rw [pk_us]; exact e50
        · rw [pk_us]; exact e40
        · rw [fb_put_out (by omega), fb_put_out (by omega), fb_put_out (by omega), fb_put_out (by omega), fb_put_out (by omega)]
          exact ow0 k hk
        · rw [fb_put_id hk, fb_put_id hk, fb_put_id hk, fb_put_id hk, fb_put_id hk]
          exact ow0 k hk
      clear e7
      have h94 := lm_lay2 (l := l) (g := g) (d := d + 1) (x := x) (h := h7) (Q := fun r h' => ∃ v, r = some (.int v) ∧ K v h') s0 s61 ?_ 90000 0 (by omega)
      · rw [fl_u0, set_same s61] at h94
        exact h94
      · have h115 := lm_lay3 (l := l) (g := g) (d := d + 1) (x := x) (h := h7.set 61 (am_I 0 90000 (fl_u ft 0 90000))) (sh := co * ro * Wh.1) (Q := fun r h' => ∃ v, r = some (.int v) ∧ K v h') hsh ((st_ne (by decide)).trans s0) ((st_ne (by decide)).trans s60) (fun f hf => ?_) 300 0 f6 rfl (fun i hi => by omega)
        · rw [set_same ((st_ne (by decide)).trans s60)] at h115
          exact h115
        · have hg : ml_g (m_0 Wh co ro) := ⟨hw, c2, r2, hsh, Nat.le_refl _, Nat.le_trans hsh (by decide), trivial⟩
          have hMM : MM ((h7.set 61 (am_I 0 90000 (fl_u ft 0 90000))).set 60 (am_I 2 300 f)) (m_0 Wh co ro) Wh (o_0 o) := by
            refine ⟨(st_ne (by decide)).trans ((st_ne (by decide)).trans s0), hWM.fr (fun i a b => by rw [st_ne (by omega), st_ne (by omega)]), ⟨f, st_eq ((st_ne (by decide)).trans s60), fun i hi => hf i ?_⟩, ⟨_, (st_ne (by decide)).trans (st_eq s61), fun a b ha hb => ?_⟩⟩
            · have hi' : i < co * ro * Wh.1 := hi
              omega
            · unfold fl_u
              rw [if_pos (by omega)]
              rfl
          refine lm_lay4 (m := m_0 Wh co ro) (h := (h7.set 61 (am_I 0 90000 (fl_u ft 0 90000))).set 60 (am_I 2 300 f)) hg (fun _ _ => rfl) (fun i hi => decide_eq_true hi) rfl (fun h9 hM9 hf9 => ⟨_, rfl, h1 h9 co ro rfl rfl c1 c2 r1 r2 hW0 hsh hM9 (((hf7.st (by decide)).st (by decide)).tr (hf9.m (by omega)))⟩) (co * ro * Wh.1) 0 _ (by show 0 + _ = co * ro * Wh.1; omega) hMM Fr.rf
    · rintro ⟨co', ro', e1, e2, g1, g2, g3, g4, -, hq'⟩
      have i1 : co = co' := nI_eqI (by omega) (by omega) e1
      have i2 : ro = ro' := nI_eqI (by omega) (by omega) e2
      rw [← i1, ← i2] at hq'
      exact hq ((nI_leI (b := 240) (by omega) (by decide)).mpr hq')
end MODEL8
