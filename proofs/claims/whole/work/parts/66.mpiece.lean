theorem aj_sy (m : ml_T) (a b : Nat) : m_aj m a b = m_aj m b a := by unfold m_aj; exact Bool.or_comm _ _
theorem aj_th {m : ml_T} (hv : ml_ok m) {a b : Nat} (h : m_aj m a b = true) : m_th m a = true ∧ m_th m b = true ∧ a < m_nu m ∧ b < m_nu m ∧ a ≠ b := by
  unfold m_aj at h
  rw [Bool.or_eq_true] at h
  rcases h with c | c
  · obtain ⟨h1, h2, h3, -⟩ := hv.2.2 _ _ c
    exact ⟨h1, h2, hv.2.1 _ h1, hv.2.1 _ h2, h3⟩
  · obtain ⟨h1, h2, h3, -⟩ := hv.2.2 _ _ c
    exact ⟨h2, h1, hv.2.1 _ h2, hv.2.1 _ h1, fun e => h3 e.symm⟩
theorem PW.none {m : ml_T} (hv : ml_ok m) : PW m (-1) (m_th m) := fun i => by
  have hn : m_nu m ≤ 300 := hv.1.2.2.2.2.2.1
  exact ⟨fun h => ⟨hv.2.1 i h, h, n1_ne (by have := hv.2.1 i h; omega)⟩, fun h => h.2.1⟩
theorem PW.one {m : ml_T} (hv : ml_ok m) {r : Nat} (hr : r < m_nu m) : PW m (nI r) (Pm (m_th m) r) := fun i => by
  have hn : m_nu m ≤ 300 := hv.1.2.2.2.2.2.1
  rw [Pm_i]
  constructor
  · rintro ⟨h1, h2⟩
    have := hv.2.1 i h1
    exact ⟨this, h1, fun e => h2 ((nI_eq (by omega) (by omega)).mp e)⟩
  · rintro ⟨h1, h2, h3⟩
    exact ⟨h2, fun e => h3 (by rw [e])⟩
/-- pieces found from roots below k -/
def PC (m : ml_T) (P : Nat → Bool) (pc : Nat → Int32) (k : Nat) : Prop := ∀ v, v < m_nu m → (∀ q, q < k → Lst (m_aj m) P q → Cn (m_aj m) P q v → pc v = nI q) ∧ ((∀ q, q < k → Lst (m_aj m) P q → ¬ Cn (m_aj m) P q v) → pc v = -1)
section MPIECE
variable {l : Launch} {g : am_G} {d : Nat} {x : Bool} {h : am_H} {m : ml_T} {Wh : wv_T} {o : mo_T} {P : Nat → Bool} {w : Int32}
theorem PC.skip {pc : Nat → Int32} {k : Nat} (h : PC m P pc k) (hk : ¬ Lst (m_aj m) P k) : PC m P pc (k + 1) := fun v hv => by
  obtain ⟨h1, h2⟩ := h v hv
  refine ⟨fun q hq hl hc => ?_, fun hq => h2 (fun q hq' => hq q (by omega))⟩
  by_cases e : q = k
  · subst e; exact absurd hl hk
  · exact h1 q (by omega) hl hc
theorem lm_pieces {Q : Option Value → am_H → Prop} (hM : MM h m Wh o) (hv : ml_ok m) (hN : NR h m) (hP : PW m w P)
    (hK : ∀ h' pc, h'[65]? = some (am_I 0 300 pc) → (∃ ln, h'[66]? = some (am_I 0 300 ln)) → PC m P pc (m_nu m) → Fr 65 66 h h' → Q (some (.int (nI (npc (m_aj m) P (m_nu m))))) h') :
    ∀ n k h1 pc, k + n = m_nu m → h1[65]? = some (am_I 0 300 pc) → (∃ ln, h1[66]? = some (am_I 0 300 ln)) → PC m P pc k → Fr 65 66 h h1 → am_J l g mX9_findPieces (d + 1) (0, 0, x) 27 [(0, .ref 46), (1, .int w), (2, .int (nI (npc (m_aj m) P k))), (3, .int (nI k))] [] h1 Q := by
  have hn : m_nu m ≤ 300 := hv.1.2.2.2.2.2.1
  intro n
  induction n with
  | zero =>
    intro k h1 pc hk p5 p6 hC hf
    have : k = m_nu m := by omega
    subst this
    have hM1 := hM.out (h' := h1) (fun i hi => hf i (by omega))
    exact rX9_findPieces_27 (gtI hM1.1 rfl ⟨fun _ => hK h1 pc p5 p6 hC hf, fun z => absurd (nI_le (Nat.le_refl _) (by omega)) z⟩)
  | succ n ih =>
    intro k h1 pc hk p5 p6 hC hf
    have hM1 := hM.out (h' := h1) (fun i hi => hf i (by omega))
    have hN1 := hN.fr (hf 63 (by decide)) (hf 64 (by decide))
    obtain ⟨f60, q60, g60⟩ := hM1.2.2.1
    obtain ⟨c1, c2⟩ := hC k (by omega)
    have no : ¬ Lst (m_aj m) P k → zX9_findPieces_67 l g d x 46 w (nI (npc (m_aj m) P k)) (nI k) h1 Q := fun hl => by
      unfold zX9_findPieces_67
      rw [nI_1]
      have e : npc (m_aj m) P k = npc (m_aj m) P (k + 1) := by
        show _ = fb_ct _ (k + 1)
        rw [fb_ct_succ]
        have : rt (m_aj m) P k = false := cB_f.mpr hl
        rw [this]; rfl
      rw [e]
      exact ih (k + 1) h1 pc (by omega) p5 p6 (hC.skip hl) hf
    refine rX9_findPieces_27 (gtI hM1.1 rfl ⟨fun z => absurd ((nI_leI (by omega) (by omega)).mp z) (by omega), fun _ => gtR hM1.1 rfl (alI q60 (by omega) (by omega) ?_)⟩)
    rw [g60 k (by omega)]
    refine ⟨fun z => no (fun hl => ?_), fun z => ⟨fun y => no (fun hl => ?_), fun y => gtR hM1.1 rfl (alI p5 (by omega) (by omega) ⟨fun u => no (fun hl => ?_), fun u => ⟨⟨_, hM1.1⟩, ?_⟩⟩)⟩⟩
    · have := ((hP k).mp hl.1).2.1
      rw [this] at z; exact absurd z (by decide)
    · exact ((hP k).mp hl.1).2.2 y
    · have := c2 (fun q hq hlq hc => by
        have := Lst.one (aj_sy m) hlq hl hc
        omega)
      rw [this] at u; exact absurd u (by decide)
    · have hPk : P k = true := (hP k).mpr ⟨by omega, bi_n0.mp z, y⟩
      obtain ⟨q, l1, l2, l3⟩ := Lst.ex (A := m_aj m) (P := P) k hPk
      have hqk : q = k := by
        rcases Nat.lt_or_ge q k with c | c
        · have := c1 q c l1 (l2.sy (aj_sy m))
          rw [this] at u; exact absurd (nI_pos' (by omega)) u
        · omega
      subst hqk
      obtain ⟨ln, p6'⟩ := p6
      refine ms_spread hM1 hv hN1 hP hPk p5 p6' (fun v hc => ?_) fun h2 pc' a1 a2 a3 a4 => ?_
      · have hvn : v < m_nu m := ((hP v).mp hc.p).1
        refine (hC v hvn).2 (fun q' hq' hlq' hc' => ?_)
        have := Lst.one (aj_sy m) hlq' l1 (hc'.tr (hc.sy (aj_sy m)))
        omega
      · unfold zX9_findPieces_67
        rw [nI_1, nI_1]
        have e : npc (m_aj m) P q + 1 = npc (m_aj m) P (q + 1) := by
          show _ = fb_ct _ (q + 1)
          rw [fb_ct_succ]
          have : rt (m_aj m) P q = true := cB_iff.mpr l1
          rw [this]; rfl
        rw [e]
        refine ih (q + 1) h2 pc' (by omega) a1 a2 (fun v hvn => ⟨fun q' hq' hl' hc' => ?_, fun hno => ?_⟩) (hf.tr a4)
        · by_cases e : q' = q
          · subst e; exact (a3 v hvn).1 hc'
          · rw [(a3 v hvn).2 (fun hc => e (Lst.one (aj_sy m) hl' l1 (hc'.tr (hc.sy (aj_sy m)))))]
            exact (hC v hvn).1 q' (by omega) hl' hc'
        · rw [(a3 v hvn).2 (hno q (by omega) l1)]
          exact (hC v hvn).2 (fun q' hq' => hno q' (by omega))
theorem lm_pieces0 {Q : Option Value → am_H → Prop} (hM : MM h m Wh o) (hv : ml_ok m)
    (hK : ∀ h' pc, h'[65]? = some (am_I 0 300 pc) → (∀ v, v < m_nu m → pc v = -1) → Fr 65 65 h h' → am_J l g mX9_findPieces (d + 1) (0, 0, x) 27 [(0, .ref 46), (1, .int w), (2, .int 0), (3, .int 0)] [] h' Q) :
    ∀ n k h1 pc, k + n = m_nu m → h1[65]? = some (am_I 0 300 pc) → (∀ v, v < k → pc v = -1) → Fr 65 65 h h1 → am_J l g mX9_findPieces (d + 1) (0, 0, x) 2 [(0, .ref 46), (1, .int w), (2, .int (nI k))] [] h1 Q := by
  have hn : m_nu m ≤ 300 := hv.1.2.2.2.2.2.1
  intro n
  induction n with
  | zero =>
    intro k h1 pc hk p5 hC hf
    have : k = m_nu m := by omega
    subst this
    have hM1 := hM.out (h' := h1) (fun i hi => hf i (by omega))
    exact rX9_findPieces_2 (gtI hM1.1 rfl ⟨fun _ => hK h1 pc p5 hC hf, fun z => absurd (nI_le (Nat.le_refl _) (by omega)) z⟩)
  | succ n ih =>
    intro k h1 pc hk p5 hC hf
    have hM1 := hM.out (h' := h1) (fun i hi => hf i (by omega))
    refine rX9_findPieces_2 (gtI hM1.1 rfl ⟨fun z => absurd ((nI_leI (by omega) (by omega)).mp z) (by omega), fun _ => gtR hM1.1 rfl (asI p5 (by omega) (by omega) ?_)⟩)
    rw [nI_1]
    refine ih (k + 1) _ (upd pc k (-1)) (by omega) (st_eq p5) (fun v hvk => ?_) (hf.st (by decide))
    by_cases e : v = k
    · rw [e, pk_us]
    · rw [pk_un e]; exact hC v (by omega)
theorem ms_findPieces {K : Int32 → am_H → Prop} {pc ln : Nat → Int32} (hM : MM h m Wh o) (hv : ml_ok m) (hN : NR h m) (hP : PW m w P) (p5 : h[65]? = some (am_I 0 300 pc)) (p6 : h[66]? = some (am_I 0 300 ln))
    (hK : ∀ h' pc, h'[65]? = some (am_I 0 300 pc) → (∃ ln, h'[66]? = some (am_I 0 300 ln)) → PC m P pc (m_nu m) → Fr 65 66 h h' → K (nI (npc (m_aj m) P (m_nu m))) h') : cl_I l g mX9_findPieces (d + 1) x [.ref 46, .int w] h K := by
  refine eX9_findPieces (lm_pieces0 (d := d) hM hv (fun h1 pc1 a b c => ?_) (m_nu m) 0 h pc (by omega) p5 (fun v hv => by omega) Fr.rf)
  exact lm_pieces (d := d) (h := h) hM hv hN hP (fun h' pc' a b c f => ⟨_, rfl, hK h' pc' a b c f⟩) (m_nu m) 0 h1 pc1 (by omega) a ⟨ln, (c 66 (by decide)).trans p6⟩ (fun v hvn => ⟨fun q hq => by omega, fun _ => b v hvn⟩) (c.mono (by omega) (by omega))
theorem ms_isCut {K : Int32 → am_H → Prop} {pc ln : Nat → Int32} {r : Nat} (hM : MM h m Wh o) (hv : ml_ok m) (hN : NR h m) (hr : r < m_nu m) (hth : m_th m r = true) (p5 : h[65]? = some (am_I 0 300 pc)) (p6 : h[66]? = some (am_I 0 300 ln))
    (hK : ∀ h', (∃ pc, h'[65]? = some (am_I 0 300 pc)) → (∃ ln, h'[66]? = some (am_I 0 300 ln)) → Fr 65 66 h h' → K (bi (cB (CutP (m_aj m) (m_th m) r))) h') : cl_I l g mX9_isCut (d + 2) x [.ref 46, .int (nI r), .int (nI (npc (m_aj m) (m_th m) (m_nu m)))] h K := by
  have hn : m_nu m ≤ 300 := hv.1.2.2.2.2.2.1
  refine eX9_isCut ⟨⟨_, hM.1⟩, ms_findPieces hM hv hN (PW.one hv hr) p5 p6 fun h' pc' a b c f => ?_⟩
  have b1 := fb_ct_le (rt (m_aj m) (Pm (m_th m) r)) (m_nu m)
  have b2 := fb_ct_le (rt (m_aj m) (m_th m)) (m_nu m)
  have e := nI_leI (a := npc (m_aj m) (Pm (m_th m) r) (m_nu m)) (b := npc (m_aj m) (m_th m) (m_nu m)) (by unfold npc; omega) (by unfold npc; omega)
  have cc := cut_count (A := m_aj m) (P := m_th m) (r := r) (n := m_nu m) (aj_sy m) hth (fun i hi => hv.2.1 i hi)
  have k := hK h' ⟨pc', a⟩ b f
  refine ⟨fun z => ?_, fun z => ?_⟩
  · have : cB (CutP (m_aj m) (m_th m) r) = false := cB_f.mpr (fun q => by have := cc.mpr q; have := e.mp z; omega)
    rw [this] at k
    exact ⟨_, rfl, k⟩
  · have : cB (CutP (m_aj m) (m_th m) r) = true := cB_iff.mpr (cc.mp (by rcases Nat.lt_or_ge (npc (m_aj m) (m_th m) (m_nu m)) (npc (m_aj m) (Pm (m_th m) r) (m_nu m)) with q | q; exact q; exact absurd (e.mpr q) z))
    rw [this] at k
    exact ⟨_, rfl, k⟩
end MPIECE
