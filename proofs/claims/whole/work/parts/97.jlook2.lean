/-! ===== look, side by side in the law ===== -/
section JLOOK2
variable {l : Launch} {g : am_G} {d0 : Nat}
theorem jt_look (hl : l.stackTraces = false) (i1 i2 : Int32) (h : am_H) (N : Nat) (hN : N ≤ 1000) (hR : RJ N h) : lk_J l g (d0 + 400) i1 i2 h N := by
  obtain ⟨m, W, T, s, ⟨ch, u, v, Wv, q0, huv, hT, hRC, hu, hv', hM, hS, hch⟩, ⟨o, mM, mT, mA, m62, mMA, ms⟩, ⟨tk, wk, vk, sz⟩, h73⟩ := hR
  intro K hK
  refine ⟨rfl, rfl, d0 + 399, fun r h1 => (∃ k, r = some (.retAddr k) ∧ (k = 21 ∨ k = 58) ∧ (¬ ∃ r w, OKL m i1 i2 r w) ∧ h1 = h) ∨ (∃ rr w v, r = some (.int v) ∧ OKL m i1 i2 rr w ∧ LVr m s rr w v ∧ CS h1 m ch ∧ Fr 18 33 h h1), rfl, by omega, hl, ⟨_, q0⟩, rX8_look_0 (sp_look (d := d0 + 389) q0 hM vk sz hS (fun hno pc hpc => Or.inl ⟨pc, rfl, hpc, hno, rfl⟩) (fun r w v h' ok lv S' f' => Or.inr ⟨r, w, v, rfl, ok, lv, S', f'⟩)), fun k h' hp => ?_, fun v h' hp => ?_, fun k h' hp => ?_⟩
  · rcases hp with ⟨k', e, c, -⟩ | ⟨rr, w, v, e, -⟩
    · cases e; exact c
    · cases e
  · rcases hp with ⟨k', e, -⟩ | ⟨rr, w, v', e, ok, lv, S', f'⟩
    · cases e
    · cases e
      obtain ⟨f, h73⟩ := h73
      obtain ⟨f62, m62⟩ := m62
      refine ⟨f, (f' 73 (by decide)).trans h73, hK 0 _ ?_⟩
      have n7 : ∀ {i : Nat} {c : am_C} {hh : am_H}, i ≠ 73 → (hh.set 73 c)[i]? = hh[i]? := fun {i c hh} hi => st_ne (Ne.symm hi)
      have m1 : MM (h'.set 73 (am_L 1 (vp_updL f 0 v.toInt64))) m W o := mM.out (fun i hi => (n7 (by omega)).trans (f' i (by omega)))
      have A1 : MA (h'.set 73 (am_L 1 (vp_updL f 0 v.toInt64))) := mMA.fr' (fun i p q => (n7 (by omega)).trans (f' i (by omega)))
      refine ⟨⟨_, m1.1⟩, ms_look (d := d0 + 90) (i1 := i1) (i2 := i2) m1 vk A1 ms (fun h2 hno => absurd ⟨rr, w, ok⟩ hno) (fun r2 w2 v77 h2 ok2 lv2 m2 A2 f2 => ⟨⟨_, m2.1⟩, eX9_thrown (gtI m2.1 rfl ⟨_, rfl, rfl, ?_, fun _ => ?_⟩)⟩)⟩
      · refine RJ.ask (h := h.set 73 (am_L 1 (vp_updL f 0 v.toInt64))) (h1 := h'.set 73 (am_L 1 (vp_updL f 0 v.toInt64))) ((n7 (by decide)).trans q0) huv (hT.fr' (n7 (by decide)) (n7 (by decide))) (hRC.fr' (fun i a b => n7 (by omega))) (hu.fr (fun i a b => n7 (by omega))) (hv'.fr (fun i a b => n7 (by omega))) (hM.fr (fun i a b => n7 (by omega))) hch (mM.out (fun i hi => n7 (by omega))) (mT.fr' rfl (n7 (by decide))) (mA.fr' (fun i hi => n7 (by omega))) ⟨f62, (n7 (by decide)).trans m62⟩ ms tk wk vk sz ⟨_, st_eq h73⟩ (S'.fr (fun i a b => n7 (by omega))) (fun i hi => ?_) (o_0 o) m2 rfl rfl A2 f2
        by_cases c : i = 73
        · subst c; exact (st_eq ((f' 73 (by decide)).trans h73)).trans (st_eq h73).symm
        · rw [n7 c, n7 c]; exact f' i hi
      · obtain ⟨e1, e2⟩ := OKL.one vk ok ok2
        subst e1 e2
        have ev := LVr.one vk lv lv2
        subst ev
        exact ⟨_, (f2 73 (by decide)).trans (st_eq ((f' 73 (by decide)).trans h73)), by simp [vp_updL]⟩
  · rcases hp with ⟨k', e, -, hno, eh⟩ | ⟨rr, w, v, e, -⟩
    · subst eh
      refine hK 1 h' ⟨⟨_, mM.1⟩, ms_look (d := d0 + 90) (i1 := i1) (i2 := i2) mM vk mMA ms (fun h2 _ m2 f2 => ⟨⟨_, m2.1⟩, eX9_thrown (gtI m2.1 rfl ⟨_, rfl, rfl, ?_, fun c => absurd c (by decide)⟩)⟩) (fun r2 w2 v77 h2 ok2 => absurd ⟨r2, w2, ok2⟩ hno)⟩
      exact RJ.ask q0 huv hT hRC hu hv' hM hch mM mT mA m62 ms tk wk vk sz h73 hS Fr.rf (o_1 o) m2 rfl rfl (mMA.fr' (fun i p q => f2 i (by omega))) (fun i hi => f2 i (by omega))
    · cases e
end JLOOK2
