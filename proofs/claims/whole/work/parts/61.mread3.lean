section MREAD3
variable {l : Launch} {g : am_G} {d : Nat} {x : Bool} {h : am_H} {T : tp_T} {N k F r : Nat} {nm : Nat → Nat} {a : mc_T} {Wh Wl W : wv_T}
theorem WD.r1 (hD : WD h Wh Wl W) : ∃ fr, h[52]? = some (am_I 0 3 fr) ∧ fr 1 = nI W.1 ∧ ∀ n, WD (h.set 52 (am_I 0 3 (upd fr 1 (nI n)))) Wh Wl (n, W.2) := by
  obtain ⟨fr, fl, f1, f2, f3, f4, f5, ⟨q52, q54, q55, q56, q57, q58, q59⟩, e1, e2, e3, e4, e5, e6, e7, e8, e9⟩ := hD
  refine ⟨fr, q52, e7, fun n => ⟨upd fr 1 (nI n), fl, f1, f2, f3, f4, f5, ⟨st_eq q52, (st_ne (by decide)).trans q54, (st_ne (by decide)).trans q55, (st_ne (by decide)).trans q56, (st_ne (by decide)).trans q57, (st_ne (by decide)).trans q58, (st_ne (by decide)).trans q59⟩, ?_, e2, ?_, e4, e5, e6, pk_us, e8, e9⟩⟩
  · rw [pk_un (by decide)]; exact e1
  · rw [pk_un (by decide)]; exact e3
theorem ms_readRing {K : am_H → Prop} (hk : tp_ok T) (hM : MX h T N k 0 nm W.1 a) (hD : WD h Wh Wl W) (hw : wv_ok W) (hW0 : isW T k 0 = true)
    (hK0 : ∀ h', p_ring T nm k W.1 = 0 → MX h' T N (k + 3) 0 (nm_put nm W.1 (t_s T (k + 1))) (W.1 + 1) a → WD h' Wh Wl (w_ring W) → Fr 46 59 h h' → K h')
    (hK1 : ∀ h' W', p_ring T nm k W.1 ≠ 0 → MX h' T N 0 (p_ring T nm k W.1) nm 0 a → WD h' Wh Wl W' → Fr 46 59 h h' → K h') : cl_N l g mX9_readRing (d + 2) x [.ref 46] h K := by
  have hw1 := hw.1
  obtain ⟨q0, hkN⟩ := hM.k0
  obtain ⟨fr, q52, e52, -⟩ := hD.r1
  have e4 : nI W.1 = 4 ↔ W.1 = 4 := nI_eq (b := 4) (by omega) (by decide)
  refine eX9_readRing (gtR q0 rfl (alI (i := 1) q52 (by decide) (by decide) ?_))
  rw [e52, e4]
  refine ⟨fun z => gtI q0 rfl (ptV q0 (Nat.le_of_ble_eq_true rfl) ?_), fun z => ⟨hM.o, ?_⟩⟩
  · have hlt := hM.lt (by unfold isW at hW0; rw [Bool.and_eq_true] at hW0; have := of_decide_eq_true hW0.1; omega)
    have hMa : MX (h.set 46 (c_ma a (nI (k + 1)) (nI 0))) T N (k + 1) 0 nm W.1 a := hM.put (by omega) (by decide)
    have hDa : WD (h.set 46 (c_ma a (nI (k + 1)) (nI 0))) Wh Wl W := hD.fr (fun i u v w => st_ne (by omega))
    have hfa : Fr 46 59 h (h.set 46 (c_ma a (nI (k + 1)) (nI 0))) := Fr.rf.st (by decide)
    rw [nI_1]
    have bad : ∀ w h1, w < 7 → 0 < w → p_ring T nm k W.1 = p_ft T w (k + 1) → MX h1 T N (k + 1) (fo 0 (p_ft T w (k + 1))) nm W.1 a → Fr 46 46 (h.set 46 (c_ma a (nI (k + 1)) (nI 0))) h1 → zX9_readRing_62 l g (d + 1) x 46 h1 (fun r h' => r = none ∧ K h') := by
      intro w h1 hw7 hw0 e a1 f1
      rw [fo_z] at a1
      have hne : p_ft T w (k + 1) ≠ 0 := p_ft_ne hw0
      obtain ⟨-, -, hFl, ⟨k', q1, -, -⟩, -⟩ := id a1
      refine gtI q1 rfl ⟨fun c => absurd ((nI_fle hFl).mp c) hne, fun _ => ⟨rfl, ?_⟩⟩
      rw [e] at hK1
      exact hK1 h1 W hne (a1.bad hne) (hDa.lf f1) (hfa.tr (f1.mono (by omega) (by omega)))
    refine ⟨hMa.o, ms_isName hk hMa ⟨fun y => ?_, fun y => ⟨hMa.o, ms_wrong (w := 1) hk hMa (by decide) fun h1 a1 f1 => bad 1 h1 (by decide) (by decide) ?_ a1 f1⟩⟩⟩
    · have hn : isnm T (k + 1) = true := by have := bi_n0.mp y; rw [decide_eq_true rfl, Bool.true_and] at this; exact this
      obtain ⟨qa, hkNa⟩ := hMa.k0
      obtain ⟨f50, q50, g50, hk2⟩ := hMa.v (by rw [isnm_w hn]; decide) (by rw [isnm_w hn]; decide)
      refine gtR qa rfl (gtI qa rfl (alL q50 hk2 (by decide) ⟨hMa.o, ?_⟩))
      rw [g50]
      refine ms_findRing hk hMa hn hDa rfl hw1 ⟨fun w => ?_, fun w => ⟨hMa.o, ms_wrong (w := 3) hk hMa (by decide) fun h1 a1 f1 => bad 3 h1 (by decide) (by decide) ?_ a1 f1⟩⟩
      · have hlt2 : ¬ p_find T nm (k + 1) W.1 < W.1 := fun c => by
          unfold fi at w
          rw [if_pos c] at w
          exact nI_pos (by omega) w
        have e : p_ring T nm k W.1 = p_sc T (k + 2) := by
          unfold p_ring
          rw [if_neg z, if_neg (by rw [hn]; decide), if_neg hlt2]
        rw [e] at hK0 hK1
        have hlta := hMa.lt (by rw [isnm_w hn]; decide)
        obtain ⟨fra, qa52, ea52, -⟩ := hDa.r1
        obtain ⟨m1, m2, m3, m4, ⟨fw, m51, m51'⟩, ⟨fn, q53, g53⟩, m7, m8⟩ := id hMa
        refine gtI qa rfl ⟨fun _ => gtR qa rfl (gtR qa rfl (alI (i := 1) qa52 (by decide) (by decide) (gtR qa rfl (gtI qa rfl (alL q50 hk2 (by decide) ?_))))), fun c => absurd (Int32.le_refl 0) c⟩
        rw [ea52, show (4 : Int32) + nI W.1 = nI (4 + W.1) from nI_add 4 _, g50]
        refine asL q53 (by omega) (by omega) ?_
        have qb : ((h.set 46 (c_ma a (nI (k + 1)) (nI 0))).set 53 (am_L 12 (vp_updL fn (4 + W.1) (lN (t_u T (t_s T (k + 1)))))))[46]? = some (c_ma a (nI (k + 1)) (nI 0)) := (st_ne (by decide)).trans qa
        have hMb : MX ((h.set 46 (c_ma a (nI (k + 1)) (nI 0))).set 53 (am_L 12 (vp_updL fn (4 + W.1) (lN (t_u T (t_s T (k + 1))))))) T N (k + 1) 0 (nm_put nm W.1 (t_s T (k + 1))) (W.1 + 1) a := by
          refine ⟨m1, m2.set (by omega), m3, ⟨k + 1, qb, hkNa, fun _ => rfl⟩, ⟨fw, (st_ne (by decide)).trans m51, m51'⟩, ⟨_, st_eq q53, fun i hi => ?_⟩, m7, fun i j hi hj => ?_⟩
          · by_cases ei : i = W.1
            · subst ei
              simp only [nm_put, if_true]
              refine ⟨by simp [vp_updL], isnm_w hn, t_k_in (by rw [isnm_w hn]; decide)⟩
            · simp only [nm_put, if_neg ei]
              have := g53 i (by omega)
              refine ⟨?_, this.2⟩
              rw [← this.1]
              have : ¬ (4 + i = 4 + W.1) := by omega
              simp [vp_updL, ei]
          · have key : ∀ i, i < W.1 → t_v T (nm i) ≠ t_v T (t_s T (k + 1)) := fun i hi e => by
              have hp : p_find T nm (k + 1) W.1 = W.1 := by have := p_find_le T nm (k + 1) W.1; omega
              have := fa_first_no (fun i => decide (t_v T (nm i) = t_v T (t_s T (k + 1)))) W.1 i (by show i < p_find T nm (k + 1) W.1; omega)
              simp [e] at this
            by_cases ei : i = W.1
            · by_cases ej : j = W.1
              · intro _; omega
              · simp only [nm_put, if_pos ei, if_neg ej]
                intro e; exact absurd e.symm (key j (by omega))
            · by_cases ej : j = W.1
              · simp only [nm_put, if_neg ei, if_pos ej]
                intro e; exact absurd e (key i (by omega))
              · simp only [nm_put, if_neg ei, if_neg ej]
                exact m8 i j (by omega) (by omega)
        have hDb : WD ((h.set 46 (c_ma a (nI (k + 1)) (nI 0))).set 53 (am_L 12 (vp_updL fn (4 + W.1) (lN (t_u T (t_s T (k + 1))))))) Wh Wl W := hDa.fr (fun i u v w => st_ne (by omega))
        have hfb : Fr 46 59 h ((h.set 46 (c_ma a (nI (k + 1)) (nI 0))).set 53 (am_L 12 (vp_updL fn (4 + W.1) (lN (t_u T (t_s T (k + 1))))))) := hfa.st (by decide)
        refine gtI qb rfl (ptV qb (Nat.le_of_ble_eq_true rfl) ?_)
        have hMc := hMb.put (k2 := k + 2) (F2 := 0) (by omega) (by decide)
        have hDc : WD (((h.set 46 (c_ma a (nI (k + 1)) (nI 0))).set 53 (am_L 12 (vp_updL fn (4 + W.1) (lN (t_u T (t_s T (k + 1))))))).set 46 (c_ma a (nI (k + 2)) (nI 0))) Wh Wl W := hDb.fr (fun i u v w => st_ne (by omega))
        rw [nI_1]
        refine ⟨hMc.o, ms_takeSign hk hMc fun hd Md fd => ?_⟩
        have hDd := hDc.lf fd
        obtain ⟨frd, qd52, ed52, Dd⟩ := hDd.r1
        obtain ⟨-, -, -, ⟨kd, qd, -, -⟩, -⟩ := id Md
        refine gtR qd rfl (alI (i := 1) qd52 (by decide) (by decide) (asI (i := 1) qd52 (by decide) (by decide) ⟨rfl, ?_⟩))
        rw [ed52, nI_1]
        have hDe := Dd (W.1 + 1)
        have Me := Md.w (j := 52) (c := am_I 0 3 (upd frd 1 (nI (W.1 + 1)))) (Or.inl rfl)
        have hfe : Fr 46 59 h (hd.set 52 (am_I 0 3 (upd frd 1 (nI (W.1 + 1))))) := ((hfb.st (j := 46) (by decide)).tr (fd.mono (by omega) (by omega))).st (by decide)
        rw [fo_z] at Me
        by_cases e0 : p_sc T (k + 2) = 0
        · rw [e0] at Me
          exact hK0 _ e0 Me hDe hfe
        · exact hK1 _ _ e0 (Me.bad e0) hDe hfe
      · have hlt2 : p_find T nm (k + 1) W.1 < W.1 := by
          unfold fi at w
          by_cases c : p_find T nm (k + 1) W.1 < W.1
          · exact c
          · rw [if_neg c] at w; exact absurd (by decide) w
        unfold p_ring
        rw [if_neg z, if_neg (by rw [hn]; decide), if_pos hlt2]
    · have hn : isnm T (k + 1) = false := by have := bi_0.mp y; rw [decide_eq_true rfl, Bool.true_and] at this; exact this
      unfold p_ring
      rw [if_neg z, if_pos hn]
  · rw [p_ring_4 z] at hK1
    refine ms_wrong (w := 5) hk hM (by decide) fun h1 a1 f1 => ⟨rfl, ?_⟩
    rw [fo_z] at a1
    exact hK1 h1 W (p_ft_ne (by decide)) (a1.bad (p_ft_ne (by decide))) (hD.lf f1) (f1.mono (by omega) (by omega))
theorem WD.put {L : Nat × Nat × Int × Int × Bool} (hD : WD h Wh Wl W) (h24 : W.2.1 < 24) (hh : Wh.2.1 ≤ 24) : ∃ fl f1 f2 f3 f4 f5, h[54]? = some (am_I 0 3 fl) ∧ fl 1 = nI W.2.1 ∧ h[55]? = some (am_I 0 72 f1) ∧ h[56]? = some (am_I 0 72 f2) ∧ h[57]? = some (am_I 0 72 f3) ∧ h[58]? = some (am_I 0 72 f4) ∧ h[59]? = some (am_I 2 72 f5) ∧
    WD ((((((h.set 55 (am_I 0 72 (upd f1 (24 + W.2.1) (nI L.1)))).set 56 (am_I 0 72 (upd f2 (24 + W.2.1) (nI L.2.1)))).set 57 (am_I 0 72 (upd f3 (24 + W.2.1) (Int32.ofInt L.2.2.1)))).set 58 (am_I 0 72 (upd f4 (24 + W.2.1) (Int32.ofInt L.2.2.2.1)))).set 59 (am_I 2 72 (upd f5 (24 + W.2.1) (bi L.2.2.2.2)))).set 54 (am_I 0 3 (upd fl 1 (nI (W.2.1 + 1))))) Wh Wl (w_put W L) := by
  obtain ⟨fr, fl, f1, f2, f3, f4, f5, ⟨q52, q54, q55, q56, q57, q58, q59⟩, e1, e2, e3, e4, e5, e6, e7, e8, e9⟩ := hD
  refine ⟨fl, f1, f2, f3, f4, f5, q54, e8, q55, q56, q57, q58, q59, ⟨fr, upd fl 1 (nI (W.2.1 + 1)), upd f1 (24 + W.2.1) (nI L.1), upd f2 (24 + W.2.1) (nI L.2.1), upd f3 (24 + W.2.1) (Int32.ofInt L.2.2.1), upd f4 (24 + W.2.1) (Int32.ofInt L.2.2.2.1), upd f5 (24 + W.2.1) (bi L.2.2.2.2), ⟨?_, ?_, ?_, ?_, ?_, ?_, ?_⟩, e1, ?_, e3, ?_, ?_, ?_, e7, pk_us, ?_⟩⟩
  · simp only [List.getElem?_set, Nat.reduceEqDiff, if_false]; exact q52
  · exact st_eq (by simp only [List.getElem?_set, Nat.reduceEqDiff, if_false]; exact q54)
  · simp only [List.getElem?_set_ne (show (54 : Nat) ≠ 55 by decide), List.getElem?_set_ne (show (59 : Nat) ≠ 55 by decide), List.getElem?_set_ne (show (58 : Nat) ≠ 55 by decide), List.getElem?_set_ne (show (57 : Nat) ≠ 55 by decide), List.getElem?_set_ne (show (56 : Nat) ≠ 55 by decide)]; exact st_eq q55
  · simp only [List.getElem?_set_ne (show (54 : Nat) ≠ 56 by decide), List.getElem?_set_ne (show (59 : Nat) ≠ 56 by decide), List.getElem?_set_ne (show (58 : Nat) ≠ 56 by decide), List.getElem?_set_ne (show (57 : Nat) ≠ 56 by decide)]; exact st_eq ((st_ne (by decide)).trans q56)
  · simp only [List.getElem?_set_ne (show (54 : Nat) ≠ 57 by decide), List.getElem?_set_ne (show (59 : Nat) ≠ 57 by decide), List.getElem?_set_ne (show (58 : Nat) ≠ 57 by decide)]; exact st_eq ((st_ne (by decide)).trans ((st_ne (by decide)).trans q57))
  · simp only [List.getElem?_set_ne (show (54 : Nat) ≠ 58 by decide), List.getElem?_set_ne (show (59 : Nat) ≠ 58 by decide)]; exact st_eq ((st_ne (by decide)).trans ((st_ne (by decide)).trans ((st_ne (by decide)).trans q58)))
  · simp only [List.getElem?_set_ne (show (54 : Nat) ≠ 59 by decide)]; exact st_eq ((st_ne (by decide)).trans ((st_ne (by decide)).trans ((st_ne (by decide)).trans ((st_ne (by decide)).trans q59))))
  · rw [pk_un (by decide)]; exact e2
  · rw [pk_un (by decide)]; exact e4
  · intro i hi
    obtain ⟨b1, b2, b3, b4, b5⟩ := e5 i hi
    exact ⟨(pk_un (by omega)).trans b1, (pk_un (by omega)).trans b2, (pk_un (by omega)).trans b3, (pk_un (by omega)).trans b4, (pk_un (by omega)).trans b5⟩
  · intro i hi
    obtain ⟨b1, b2, b3, b4, b5⟩ := e6 i hi
    exact ⟨(pk_un (by omega)).trans b1, (pk_un (by omega)).trans b2, (pk_un (by omega)).trans b3, (pk_un (by omega)).trans b4, (pk_un (by omega)).trans b5⟩
  · intro i hi
    have hi' : i < W.2.1 + 1 := hi
    by_cases e : i = W.2.1
    · subst e
      simp only [w_put, if_true]
      exact ⟨pk_us, pk_us, pk_us, pk_us, pk_us⟩
    · simp only [w_put, if_neg e]
      obtain ⟨b1, b2, b3, b4, b5⟩ := e9 i (by omega)
      exact ⟨(pk_un (by omega)).trans b1, (pk_un (by omega)).trans b2, (pk_un (by omega)).trans b3, (pk_un (by omega)).trans b4, (pk_un (by omega)).trans b5⟩
end MREAD3
