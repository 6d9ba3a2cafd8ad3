section MREAD4
variable {l : Launch} {g : am_G} {d : Nat} {x : Bool} {h : am_H} {T : tp_T} {N k F r : Nat} {nm : Nat → Nat} {a : mc_T} {Wh Wl W : wv_T}
theorem WD.n1 (hD : WD h Wh Wl W) : ∃ fl, h[54]? = some (am_I 0 3 fl) ∧ fl 1 = nI W.2.1 := by
  obtain ⟨fr, fl, f1, f2, f3, f4, f5, ⟨q52, q54, q55, q56, q57, q58, q59⟩, e1, e2, e3, e4, e5, e6, e7, e8, e9⟩ := hD
  exact ⟨fl, q54, e8⟩
theorem ms_rl108 {k5 : Nat} {L : Nat × Nat × Int × Int × Bool} {v1 v2 v3 v4 : Int32} {bb : Bool} {K : am_H → Prop} (hk : tp_ok T) (hM : MX h T N k5 F nm W.1 a) (hD : WD h Wh Wl W) (h24 : W.2.1 < 24) (hh : Wh.2.1 ≤ 24) (hkw : F = 0 → t_k T (t_s T k5) ≠ 0) (hv : F = 0 → v1 = nI L.1 ∧ v2 = nI L.2.1 ∧ v3 = Int32.ofInt L.2.2.1 ∧ v4 = Int32.ofInt L.2.2.2.1 ∧ bb = L.2.2.2.2)
    (hK0 : ∀ h', fo F (p_sc T (k5 + 1)) = 0 → MX h' T N (k5 + 2) 0 nm W.1 a → WD h' Wh Wl (w_put W L) → Fr 46 59 h h' → K h')
    (hK1 : ∀ h' W', fo F (p_sc T (k5 + 1)) ≠ 0 → MX h' T N 0 (fo F (p_sc T (k5 + 1))) nm 0 a → WD h' Wh Wl W' → Fr 46 59 h h' → K h') : zX9_readLink_108 l g (d + 2) x 46 v1 v2 v3 v4 (bi bb) h (fun r h' => r = none ∧ K h') := by
  have hFl := hM.2.2.1
  by_cases h0 : F = 0
  · obtain ⟨e1, e2, e3, e4, e5⟩ := hv h0
    have hkw0 := hkw h0
    subst h0
    obtain ⟨q0, hkN⟩ := hM.k0
    have hlt := hM.lt hkw0
    refine gtI q0 rfl ⟨fun _ => gtI q0 rfl (ptV q0 (Nat.le_of_ble_eq_true rfl) ?_), fun c => absurd (Int32.le_refl 0) c⟩
    have hMa := hM.put (k2 := k5 + 1) (F2 := 0) (by omega) (by decide)
    have hDa : WD (h.set 46 (c_ma a (nI (k5 + 1)) (nI 0))) Wh Wl W := hD.fr (fun i u v w => st_ne (by omega))
    rw [nI_1]
    refine ⟨hMa.o, ms_takeSign hk hMa fun hb Mb fb => ?_⟩
    have hDb := hDa.lf fb
    have hfb : Fr 46 59 h hb := (Fr.rf.st (by decide)).tr (fb.mono (by omega) (by omega))
    rw [fo_z] at Mb hK0 hK1
    obtain ⟨fl, f1, f2, f3, f4, f5, q54, e54, q55, q56, q57, q58, q59, hDc⟩ := hDb.put (L := L) h24 hh
    obtain ⟨-, -, -, ⟨kb, qb, -, -⟩, -⟩ := id Mb
    have s0 : ∀ (H : am_H) (j : Nat) (c : am_C), H[46]? = some (c_ma a (nI kb) (nI (p_sc T (k5 + 1)))) → j ≠ 46 → (H.set j c)[46]? = some (c_ma a (nI kb) (nI (p_sc T (k5 + 1)))) := fun H j c hH hj => (st_ne hj).trans hH
    refine gtR qb rfl (alI (i := 1) q54 (by decide) (by decide) ?_)
    rw [e54, show (24 : Int32) + nI W.2.1 = nI (24 + W.2.1) from nI_add 24 _, e1, e2, e3, e4, e5]
    refine gtR qb rfl (asI q55 (by omega) (by decide) ?_)
    refine gtR (s0 _ 55 _ qb (by decide)) rfl (asI ((st_ne (by decide)).trans q56) (by omega) (by decide) ?_)
    refine gtR (s0 _ 56 _ (s0 _ 55 _ qb (by decide)) (by decide)) rfl (asI ((st_ne (by decide)).trans ((st_ne (by decide)).trans q57)) (by omega) (by decide) ?_)
    refine gtR (s0 _ 57 _ (s0 _ 56 _ (s0 _ 55 _ qb (by decide)) (by decide)) (by decide)) rfl (asI ((st_ne (by decide)).trans ((st_ne (by decide)).trans ((st_ne (by decide)).trans q58))) (by omega) (by decide) ?_)
    have s58 := s0 _ 58 (am_I 0 72 (upd f4 (24 + W.2.1) (Int32.ofInt L.2.2.2.1))) (s0 _ 57 (am_I 0 72 (upd f3 (24 + W.2.1) (Int32.ofInt L.2.2.1))) (s0 _ 56 (am_I 0 72 (upd f2 (24 + W.2.1) (nI L.2.1))) (s0 _ 55 (am_I 0 72 (upd f1 (24 + W.2.1) (nI L.1))) qb (by decide)) (by decide)) (by decide)) (by decide)
    refine gtR s58 rfl ⟨bi_01 _, asI ((st_ne (by decide)).trans ((st_ne (by decide)).trans ((st_ne (by decide)).trans ((st_ne (by decide)).trans q59)))) (by omega) (by decide) ?_⟩
    have s59 := s0 _ 59 (am_I 2 72 (upd f5 (24 + W.2.1) (bi L.2.2.2.2))) s58 (by decide)
    have t54 : ((((((hb.set 55 (am_I 0 72 (upd f1 (24 + W.2.1) (nI L.1)))).set 56 (am_I 0 72 (upd f2 (24 + W.2.1) (nI L.2.1)))).set 57 (am_I 0 72 (upd f3 (24 + W.2.1) (Int32.ofInt L.2.2.1)))).set 58 (am_I 0 72 (upd f4 (24 + W.2.1) (Int32.ofInt L.2.2.2.1)))).set 59 (am_I 2 72 (upd f5 (24 + W.2.1) (bi L.2.2.2.2)))))[54]? = some (am_I 0 3 fl) := (st_ne (by decide)).trans ((st_ne (by decide)).trans ((st_ne (by decide)).trans ((st_ne (by decide)).trans ((st_ne (by decide)).trans q54))))
    refine gtR s59 rfl (alI (i := 1) t54 (by decide) (by decide) (asI (i := 1) t54 (by decide) (by decide) ⟨rfl, ?_⟩))
    rw [e54, nI_1]
    have Mc := (((((Mb.w (j := 55) (c := am_I 0 72 (upd f1 (24 + W.2.1) (nI L.1))) (by omega)).w (j := 56) (c := am_I 0 72 (upd f2 (24 + W.2.1) (nI L.2.1))) (by omega)).w (j := 57) (c := am_I 0 72 (upd f3 (24 + W.2.1) (Int32.ofInt L.2.2.1))) (by omega)).w (j := 58) (c := am_I 0 72 (upd f4 (24 + W.2.1) (Int32.ofInt L.2.2.2.1))) (by omega)).w (j := 59) (c := am_I 2 72 (upd f5 (24 + W.2.1) (bi L.2.2.2.2))) (by omega)).w (j := 54) (c := am_I 0 3 (upd fl 1 (nI (W.2.1 + 1)))) (by omega)
    have hfc := (((((hfb.st (j := 55) (c := am_I 0 72 (upd f1 (24 + W.2.1) (nI L.1))) (by decide)).st (j := 56) (c := am_I 0 72 (upd f2 (24 + W.2.1) (nI L.2.1))) (by decide)).st (j := 57) (c := am_I 0 72 (upd f3 (24 + W.2.1) (Int32.ofInt L.2.2.1))) (by decide)).st (j := 58) (c := am_I 0 72 (upd f4 (24 + W.2.1) (Int32.ofInt L.2.2.2.1))) (by decide)).st (j := 59) (c := am_I 2 72 (upd f5 (24 + W.2.1) (bi L.2.2.2.2))) (by decide)).st (j := 54) (c := am_I 0 3 (upd fl 1 (nI (W.2.1 + 1)))) (by decide)
    by_cases ez : p_sc T (k5 + 1) = 0
    · rw [ez] at Mc
      exact hK0 _ ez Mc hDc hfc
    · exact hK1 _ _ ez (Mc.bad ez) hDc hfc
  · obtain ⟨-, -, -, ⟨kb, qb, -, -⟩, -⟩ := id hM
    refine gtI qb rfl ⟨fun c => absurd ((nI_fle hFl).mp c) h0, fun _ => ⟨rfl, ?_⟩⟩
    rw [fo_n h0] at hK1
    exact hK1 h W h0 (hM.bad h0) hD Fr.rf
theorem ms_readLink {K : am_H → Prop} (hk : tp_ok T) (hM : MX h T N k 0 nm W.1 a) (hD : WD h Wh Wl W) (hw : wv_ok W) (hh : Wh.2.1 ≤ 24) (hW0 : isW T k 1 = true)
    (hK0 : ∀ h', p_link T nm W k = 0 → MX h' T N (p_k5 T k + 2) 0 nm W.1 a → WD h' Wh Wl (w_put W (p_lk T nm k W.1)) → Fr 46 59 h h' → K h')
    (hK1 : ∀ h' W', p_link T nm W k ≠ 0 → MX h' T N 0 (p_link T nm W k) nm 0 a → WD h' Wh Wl W' → Fr 46 59 h h' → K h') : cl_N l g mX9_readLink (d + 3) x [.ref 46] h K := by
  have hw1 := hw.1
  have hw2 := hw.2.1
  obtain ⟨q0, hkN⟩ := hM.k0
  obtain ⟨fl, q54, e54⟩ := hD.n1
  have e24 : nI W.2.1 = 24 ↔ W.2.1 = 24 := nI_eq (b := 24) (by omega) (by decide)
  refine eX9_readLink (gtR q0 rfl (alI (i := 1) q54 (by decide) (by decide) ?_))
  rw [e54, e24]
  refine ⟨fun z => gtI q0 rfl (ptV q0 (Nat.le_of_ble_eq_true rfl) ?_), fun z => ⟨hM.o, ?_⟩⟩
  · have h24 : W.2.1 < 24 := by omega
    have ep : p_link T nm W k = fo (p_l5 T nm W k) (p_sc T (p_k5 T k + 1)) := by unfold p_link; rw [if_neg z]
    rw [ep] at hK0 hK1
    have hlt := hM.lt (by unfold isW at hW0; rw [Bool.and_eq_true] at hW0; have := of_decide_eq_true hW0.1; omega)
    have hMa : MX (h.set 46 (c_ma a (nI (k + 1)) (nI 0))) T N (k + 1) 0 nm W.1 a := hM.put (by omega) (by decide)
    have hDa : WD (h.set 46 (c_ma a (nI (k + 1)) (nI 0))) Wh Wl W := hD.fr (fun i u v w => st_ne (by omega))
    have hfa : Fr 46 46 h (h.set 46 (c_ma a (nI (k + 1)) (nI 0))) := Fr.rf.st (by decide)
    rw [nI_1]
    refine ⟨hMa.o, ms_takeRing hk hMa hDa rfl hw1 fun v1 hb Mb e1 fb => ?_⟩
    have hDb := hDa.lf fb
    refine ⟨Mb.o, ms_takeRing hk Mb hDb rfl hw1 fun v2 hc Mc e2 fc => ?_⟩
    have hDc := hDb.lf fc
    refine ⟨Mc.o, ms_takeAway hk Mc fun v3 hd Md e3 fd => ?_⟩
    have hDd := hDc.lf fd
    refine ⟨Md.o, ms_takeAway hk Md fun v4 he Me e4 fe => ?_⟩
    have hDe := hDd.lf fe
    have hfe : Fr 46 46 h he := (((hfa.tr fb).tr fc).tr fd).tr fe
    have Me' : MX he T N (p_k5 T k) (fo (fo (fo (fo 0 (p_nmf T nm (k + 1) W.1)) (p_nmf T nm (k + 2) W.1)) (p_awf T (k + 3))) (p_awf T (p_k4 T k))) nm W.1 a := Me
    rw [fo_z] at Me' e1
    have hF4 := Me'.2.2.1
    generalize hG : fo (fo (fo (p_nmf T nm (k + 1) W.1) (p_nmf T nm (k + 2) W.1)) (p_awf T (k + 3))) (p_awf T (p_k4 T k)) = F4 at Me' hF4
    have e5 : p_l5 T nm W k = fo F4 (p_ovf T W (p_k5 T k) (p_find T nm (k + 1) W.1) (p_find T nm (k + 2) W.1) (p_awv T (k + 3)) (p_awv T (p_k4 T k))) := by unfold p_l5; rw [hG]
    have vals : F4 = 0 → v1 = nI (p_find T nm (k + 1) W.1) ∧ v2 = nI (p_find T nm (k + 2) W.1) ∧ v3 = Int32.ofInt (p_awv T (k + 3)) ∧ v4 = Int32.ofInt (p_awv T (p_k4 T k)) ∧ (-9 ≤ p_awv T (k + 3) ∧ p_awv T (k + 3) ≤ 9) ∧ (-9 ≤ p_awv T (p_k4 T k) ∧ p_awv T (p_k4 T k) ≤ 9) := fun c => by
      rw [← hG] at c
      have z1 := (fo_0.mp c).1
      have z2 := (fo_0.mp z1).1
      have z3 := (fo_0.mp z2).1
      refine ⟨e1 z3, e2 (by rw [fo_z]; exact z2), e3 (by rw [fo_z]; exact z1), e4 (by rw [fo_z]; exact c), p_awv_b (fo_0.mp z1).2, p_awv_b (fo_0.mp c).2⟩
    have fin : ∀ h1 F5 bb, MX h1 T N (p_k5 T k) F5 nm W.1 a → WD h1 Wh Wl W → Fr 46 46 h h1 → F5 = p_l5 T nm W k → (F5 = 0 → t_k T (t_s T (p_k5 T k)) ≠ 0) → (F5 = 0 → bb = isW T (p_k5 T k) 2) → zX9_readLink_108 l g (d + 2) x 46 v1 v2 v3 v4 (bi bb) h1 (fun r h' => r = none ∧ K h') := by
      intro h1 F5 bb M1 D1 f1 eF hkw hbb
      rw [← eF] at hK0 hK1
      refine ms_rl108 (L := p_lk T nm k W.1) hk M1 D1 h24 hh hkw (fun c => ?_) (fun h' c m1 d1 f2 => hK0 h' c m1 d1 ((f1.mono (by omega) (by omega)).tr f2)) (fun h' W' c m1 d1 f2 => hK1 h' W' c m1 d1 ((f1.mono (by omega) (by omega)).tr f2))
      have c4 : F4 = 0 := by rw [eF, e5] at c; exact (fo_0.mp c).1
      obtain ⟨u1, u2, u3, u4, -, -⟩ := vals c4
      exact ⟨u1, u2, u3, u4, hbb c⟩
    have k76 : ∀ bb, F4 = 0 → (isW T (p_k5 T k) 2 || isW T (p_k5 T k) 3) = true → bb = isW T (p_k5 T k) 2 → zX9_readLink_76 l g (d + 2) x 46 v1 v2 v3 v4 (bi bb) he (fun r h' => r = none ∧ K h') := by
      intro bb hF0 hy hbb
      subst hF0
      obtain ⟨u1, u2, u3, u4, u5, u6⟩ := vals rfl
      rw [fo_z] at e5
      have hkw : t_k T (t_s T (p_k5 T k)) ≠ 0 := by
        rw [Bool.or_eq_true] at hy
        rcases hy with c | c
        · unfold isW at c; rw [Bool.and_eq_true] at c; have := of_decide_eq_true c.1; omega
        · unfold isW at c; rw [Bool.and_eq_true] at c; have := of_decide_eq_true c.1; omega
      have b1 := p_find_le T nm (k + 1) W.1
      have b2 := p_find_le T nm (k + 2) W.1
      have bad : p_told W (p_find T nm (k + 1) W.1) (p_find T nm (k + 2) W.1) (p_awv T (k + 3)) (p_awv T (p_k4 T k)) = true → zX9_readLink_102 l g (d + 2) x 46 v1 v2 v3 v4 (bi bb) he (fun r h' => r = none ∧ K h') := fun ht => by
        refine ⟨Me'.o, ms_wrong (w := 6) hk Me' (by decide) fun h1 m1 f1 => ?_⟩
        rw [fo_z] at m1
        refine fin h1 _ bb m1 (hDe.lf f1) (hfe.tr f1) ?_ (fun c => absurd c (p_ft_ne (by decide))) (fun c => absurd c (p_ft_ne (by decide)))
        rw [e5]
        unfold p_ovf
        rw [if_pos hy, if_pos ht]
      have k90 : (decide (p_find T nm (k + 1) W.1 = p_find T nm (k + 2) W.1) && decide (p_awv T (k + 3) = 0) && decide (p_awv T (p_k4 T k) = 0)) = false → zX9_readLink_90 l g (d + 2) x 46 v1 v2 v3 v4 (bi bb) he (fun r h' => r = none ∧ K h') := fun hno => by
        refine ⟨Me'.o, ?_⟩
        have q1 := Me'.k0.1
        have tol : p_told W (p_find T nm (k + 1) W.1) (p_find T nm (k + 2) W.1) (p_awv T (k + 3)) (p_awv T (p_k4 T k)) = p_any (fun i => p_sm (W.2.2 i) (p_find T nm (k + 1) W.1) (p_find T nm (k + 2) W.1) (p_awv T (k + 3)) (p_awv T (p_k4 T k))) W.2.1 := by
          unfold p_told; rw [hno, Bool.false_or]
        have go := ms_isLinkTold (l := l) (g := g) (d := d + 2) (x := x) (c0 := am_O 9 []) (p := p_find T nm (k + 1) W.1) (q := p_find T nm (k + 2) W.1) (u := p_awv T (k + 3)) (v := p_awv T (p_k4 T k)) (K := fun v2' h1 => ((v2' = 0 → zX9_readLink_108 l g (d + 2) x 46 v1 v2 v3 v4 (bi bb) h1 (fun r h' => r = none ∧ K h')) ∧ (¬ v2' = 0 → zX9_readLink_102 l g (d + 2) x 46 v1 v2 v3 v4 (bi bb) h1 (fun r h' => r = none ∧ K h')))) q1 hDe hw (by omega) (by omega) u5 u6 ⟨fun c => ?_, fun c => bad (by rw [tol]; exact bi_n0.mp c)⟩
        · rw [← u1, ← u2, ← u3, ← u4] at go
          exact go
        · refine fin he 0 bb Me' hDe hfe ?_ (fun _ => hkw) (fun _ => hbb)
          rw [e5]
          exact (p_ovf_0.mpr ⟨hy, by rw [tol]; exact bi_0.mp c⟩).symm
      have t1 : v1 = v2 ↔ p_find T nm (k + 1) W.1 = p_find T nm (k + 2) W.1 := by rw [u1, u2]; exact nI_eq (by omega) (by omega)
      have t3 : v3 = 0 ↔ p_awv T (k + 3) = 0 := by rw [u3]; exact oI_inj (b := 0) (by omega) (by omega) (by omega) (by omega)
      have t4 : v4 = 0 ↔ p_awv T (p_k4 T k) = 0 := by rw [u4]; exact oI_inj (b := 0) (by omega) (by omega) (by omega) (by omega)
      refine ⟨fun c => k90 ?_, fun c1 => ⟨fun c => k90 ?_, fun c3 => ⟨fun c4 => bad ?_, fun c => k90 ?_⟩⟩⟩
      · rw [t1] at c; rw [decide_eq_false c]; rfl
      · rw [t3] at c; rw [decide_eq_false c]; simp
      · rw [t1] at c1; rw [t3] at c3; rw [t4] at c4
        unfold p_told
        rw [decide_eq_true c1, decide_eq_true c3, decide_eq_true c4]; rfl
      · rw [t4] at c; rw [decide_eq_false c]; simp
    refine ⟨Me'.o, ms_isWord (w := 2) hk Me' (by decide) ⟨fun y => ?_, fun y => ⟨Me'.o, ms_isWord (w := 3) hk Me' (by decide) ⟨fun w => ?_, fun w => ⟨Me'.o, ms_wrong (w := 1) hk Me' (by decide) fun h1 m1 f1 => ?_⟩⟩⟩⟩⟩
    · have c := bi_n0.mp y
      rw [Bool.and_eq_true] at c
      have := k76 true (of_decide_eq_true c.1) (by rw [c.2]; rfl) c.2.symm
      rw [bi_n0.mp y]
      exact this
    · have c := bi_n0.mp w
      rw [Bool.and_eq_true] at c
      have hF0 := of_decide_eq_true c.1
      have c2 := bi_0.mp y
      rw [decide_eq_true hF0, Bool.true_and] at c2
      have := k76 false hF0 (by rw [c.2]; simp) c2.symm
      rw [bi_0.mp y]
      exact this
    · rw [bi_0.mp y]
      refine fin h1 _ false m1 (hDe.lf f1) (hfe.tr f1) ?_ (fun c => absurd (fo_0.mp c).2 (p_ft_ne (by decide))) (fun c => absurd (fo_0.mp c).2 (p_ft_ne (by decide)))
      rw [e5]
      by_cases hF0 : F4 = 0
      · rw [hF0, fo_z, fo_z]
        have c2 := bi_0.mp y
        have c3 := bi_0.mp w
        rw [decide_eq_true hF0, Bool.true_and] at c2 c3
        unfold p_ovf
        rw [if_neg (by rw [c2, c3]; decide)]
      · rw [fo_n hF0, fo_n hF0]
  · have e : p_link T nm W k = p_ft T 5 k := by unfold p_link; rw [if_pos z]
    rw [e] at hK1
    refine ms_wrong (w := 5) hk hM (by decide) fun h1 a1 f1 => ⟨rfl, ?_⟩
    rw [fo_z] at a1
    exact hK1 h1 W (p_ft_ne (by decide)) (a1.bad (p_ft_ne (by decide))) (hD.lf f1) (f1.mono (by omega) (by omega))
end MREAD4
