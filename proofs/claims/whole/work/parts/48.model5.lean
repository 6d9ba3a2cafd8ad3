section MODEL6
variable {l : Launch} {g : am_G} {d : Nat} {x : Bool} {h : am_H} {m : ml_T} {Wh : wv_T} {o : mo_T}
/-- the sheet's rings all there -/
def m_all (m : ml_T) : ml_T := (m.1, m.2.1, m.2.2.1, m.2.2.2.1, (fun i => decide (i < m_sh m) || m_th m i), m.2.2.2.2.2)
def m_kd (m M : ml_T) : Nat → ml_T
  | 0 => M
  | n + 1 => if m_th m n = true then m_kd m M n else m_jt (m_kd m M n) n m.1.2.1
theorem m_kd_eq (m M : ml_T) : ∀ n, m_eq M (m_kd m M n) := by
  intro n
  induction n with
  | zero => exact m_eq.rf
  | succ n ih =>
    simp only [m_kd]
    split
    · exact ih
    · exact ih.tr (m_jt_eq _ n _)
theorem tl_all (m : ml_T) (a b : Nat) : tl (m_all m) a b = tl m a b := by
  have k1 : ∀ t f u v, tl1 (m_all m) t f u v = tl1 m t f u v := fun t f u v => rfl
  have k2 : ∀ j, tl_n (m_all m) j a b = tl_n m j a b := by
    intro j
    induction j with
    | zero => rfl
    | succ j jh => simp only [tl_n, jh, k1]
  unfold tl
  exact k2 _
theorem kd_ov {m : ml_T} (hv : ml_g m) : ∀ n, n ≤ m_sh m → ∀ a b, m_ov (m_kd m (m_all m) n) a b = (m_ov m a b || (tl m a b && ((decide (a < n) && !m_th m a) || (decide (b < n) && !m_th m b)))) := by
  have hg : ml_g (m_all m) := hv
  intro n
  induction n with
  | zero => intro _ a b; show m_ov m a b = _; simp
  | succ n ih =>
    intro hn a b
    have he := m_kd_eq m (m_all m) n
    simp only [m_kd]
    by_cases ht : m_th m n = true
    · rw [if_pos ht, ih (by omega)]
      have hy : ∀ i, (decide (i < n + 1) && !m_th m i) = (decide (i < n) && !m_th m i) := fun i => by
        by_cases e : i = n
        · subst e; rw [ht]; simp
        · have : (i < n + 1) ↔ (i < n) := by omega
          simp [this]
      rw [hy, hy]
    · have ht' : m_th m n = false := by cases hq : m_th m n <;> simp_all
      rw [if_neg ht]
      have e1 : m.1.2.1 = (m_kd m (m_all m) n).1.2.1 := by rw [he.1]; rfl
      have esh : m_sh (m_kd m (m_all m) n) = m_sh m := he.sh
      rw [e1, ja_ov (he.g hg) (by omega), ih (by omega), tl_eq he, tl_all, (he.is 0 0 true).2.2.2.2 a, (he.is 0 0 true).2.2.2.2 b]
      cases hq : tl m a b with
      | false => simp
      | true =>
        obtain ⟨l1, l2⟩ := tl_lt hv hq
        have t1 : m_th (m_all m) a = true := by show (decide (a < m_sh m) || m_th m a) = true; simp [l1]
        have t2 : m_th (m_all m) b = true := by show (decide (b < m_sh m) || m_th m b) = true; simp [l2]
        rw [t1, t2]
        have hz : ∀ i, (decide (i < n + 1) && !m_th m i) = ((decide (i < n) && !m_th m i) || decide (i = n)) := fun i => by
          by_cases e : i = n
          · subst e; rw [ht']; simp
          · have : (i < n + 1) ↔ (i < n) := by omega
            simp [this, e]
        rw [hz, hz]
        cases m_ov m a b <;> cases (decide (a < n) && !m_th m a) <;> cases (decide (b < n) && !m_th m b) <;> cases decide (a = n) <;> cases decide (b = n) <;> rfl
theorem kd_md {m : ml_T} (hv : ml_g m) : m_eq (m_kd m (m_all m) (m_sh m)) (m_md m (m_sh m)) ∧ ∀ a b, m_ov (m_md m (m_sh m)) a b = m_ov (m_kd m (m_all m) (m_sh m)) a b := by
  refine ⟨?_, fun a b => ?_⟩
  · obtain ⟨e1, e2, e3, e4, e5⟩ := m_md_g m (m_sh m)
    obtain ⟨g1, g2, g3, g4, g5⟩ := m_kd_eq m (m_all m) (m_sh m)
    refine ⟨e1.trans g1.symm, e2.trans g2.symm, e3.trans g3.symm, e4.trans g4.symm, ?_⟩
    rw [g5]
    funext i
    have := e5 i
    unfold m_th at this
    rw [this]
    show _ = (decide (i < m_sh m) || m_th m i)
    by_cases c : i < m_sh m
    · simp [c]
    · simp [c]; rfl
  · rw [mend_ov hv, kd_ov hv _ (Nat.le_refl _)]
    cases hq : tl m a b with
    | false => simp
    | true =>
      obtain ⟨l1, l2⟩ := tl_lt hv hq
      simp [l1, l2]
theorem lm_mend3 {n : Int32} {fw : Nat → Int32} {Q : Option Value → am_H → Prop} (hv : ml_ok m) (h62 : h[62]? = some (am_I 2 300 fw)) (hfw : ∀ i, i < m_sh m → fw i = bi (!m_th m i)) (hK : ∀ h', MM h' (m_kd m (m_all m) (m_sh m)) Wh o → Fr 61 61 h h' → Q (some (.int n)) h') : ∀ k c h1, c + k = m_sh m → MM h1 (m_kd m (m_all m) c) Wh o → Fr 61 61 h h1 → am_J l g mX9_mend (d + 2) (0, 0, x) 85 [(0, .ref 46), (1, .int n), (2, .int (nI c))] [] h1 Q := by
  have b5 := hv.1.2.2.2.1
  intro k
  induction k with
  | zero =>
    intro c h1 hc hM hf
    have : c = m_sh m := by omega
    subst this
    refine rX9_mend_85 (gtI hM.1 rfl ⟨fun _ => hK h1 hM hf, fun hq => absurd ?_ hq⟩)
    rw [(m_kd_eq m (m_all m) _).sh]; exact nI_le (b := m_sh m) (Nat.le_refl _) (by omega)
  | succ k ih =>
    intro c h1 hc hM hf
    have he := m_kd_eq m (m_all m) c
    have es : m_sh (m_kd m (m_all m) c) = m_sh m := he.sh
    refine rX9_mend_85 (gtI hM.1 rfl ⟨fun hq => ?_, fun _ => gtR hM.1 rfl (alI (hf.get (by decide) h62) (by omega) (by omega) ?_)⟩)
    · rw [es] at hq
      exact absurd ((nI_leI (by omega) (by omega)).mp hq) (by omega)
    rw [hfw c (by omega)]
    refine ⟨fun hz => ?_, fun hz => ⟨⟨_, hM.1⟩, ?_⟩⟩
    · unfold zX9_mend_107
      have ht : m_th m c = true := by have := bi_0.mp hz; simpa using this
      rw [nI_1]
      refine ih (c + 1) h1 (by omega) ?_ hf
      simp only [m_kd]; rw [if_pos ht]; exact hM
    · have ht : m_th m c = false := by have := bi_n0.mp hz; simpa using this
      refine ms_linksJ hM (he.g hv.1) (by omega) ?_ fun h4 hM4 hf4 => ?_
      · intro a b hab hor
        rw [tl_eq he, tl_all]
        rw [kd_ov hv.1 c (by omega)] at hab
        simp only [Bool.or_eq_true, Bool.and_eq_true] at hab
        rcases hab with hq | hq
        · obtain ⟨t1, t2, -⟩ := hv.2.2 a b hq
          rcases hor with rfl | rfl
          · rw [ht] at t1; cases t1
          · rw [ht] at t2; cases t2
        · exact hq.1
      · unfold zX9_mend_107
        rw [nI_1]
        refine ih (c + 1) h4 (by omega) ?_ (hf.tr hf4)
        have e1 : (m_kd m (m_all m) c).1.2.1 = m.1.2.1 := by rw [he.1]; rfl
        simp only [m_kd]
        rw [if_neg (by rw [ht]; decide), ← e1]
        exact hM4
theorem lm_mend2 {n : Int32} {Q : Option Value → am_H → Prop} (hv : ml_ok m) (hM : MM h m Wh o) (hK : ∀ h', MM h' (m_all m) Wh o → Fr 60 60 h h' → am_J l g mX9_mend (d + 2) (0, 0, x) 85 [(0, .ref 46), (1, .int n), (2, .int 0)] [] h' Q) : ∀ k c h1 f, c + k = m_sh m → h1 = h.set 60 (am_I 2 300 f) → (∀ i, i < m_nu m → f i = bi (decide (i < c) || m_th m i)) → am_J l g mX9_mend (d + 2) (0, 0, x) 62 [(0, .ref 46), (1, .int n), (2, .int (nI c))] [] h1 Q := by
  have b5 := hv.1.2.2.2.1
  have b6 := hv.1.2.2.2.2.2.1
  have b7 := hv.1.2.2.2.2.1
  obtain ⟨q0, hW, ⟨f0, h60, h60'⟩, ⟨ft, h61, h61'⟩⟩ := id hM
  intro k
  induction k with
  | zero =>
    intro c h1 f hc e1 hf
    have : c = m_sh m := by omega
    subst this
    subst e1
    refine rX9_mend_62 (gtI ((st_ne (by decide)).trans q0) rfl ⟨fun _ => hK _ ⟨(st_ne (by decide)).trans q0, hW.fr (fun i a b => st_ne (by omega)), ⟨f, st_eq h60, fun i hi => hf i hi⟩, ⟨ft, (st_ne (by decide)).trans h61, h61'⟩⟩ (Fr.rf.st (by decide)), fun hq => absurd (nI_le (Nat.le_refl _) (by omega)) hq⟩)
  | succ k ih =>
    intro c h1 f hc e1 hf
    subst e1
    refine rX9_mend_62 (gtI ((st_ne (by decide)).trans q0) rfl ⟨fun hq => absurd ((nI_leI (by omega) (by omega)).mp hq) (by omega), fun _ => gtR ((st_ne (by decide)).trans q0) rfl (asI (st_eq h60) (by omega) (by omega) ?_)⟩)
    rw [List.set_set, nI_1]
    refine ih (c + 1) _ _ (by omega) rfl (fun i hi => ?_)
    by_cases e : i = c
    · subst e; rw [pk_us]; simp [bi]
    · rw [pk_un e, hf i hi]
      have : (i < c + 1) ↔ (i < c) := by omega
      simp [this]
theorem lm_mend1 {Q : Option Value → am_H → Prop} (hv : ml_ok m) (hM : MM h m Wh o) {f0 : Nat → Int32} (h62 : h[62]? = some (am_I 2 300 f0)) (hK : ∀ f, (∀ i, i < m_sh m → f i = bi (!m_th m i)) → am_J l g mX9_mend (d + 2) (0, 0, x) 62 [(0, .ref 46), (1, .int (nI (fb_ct (fun i => !m_th m i) (m_sh m)))), (2, .int 0)] [] (h.set 62 (am_I 2 300 f)) Q) : ∀ k c f, c + k = m_sh m → (∀ i, i < c → f i = bi (!m_th m i)) → am_J l g mX9_mend (d + 2) (0, 0, x) 9 [(0, .ref 46), (1, .int (nI (fb_ct (fun i => !m_th m i) c))), (2, .int (nI c))] [] (h.set 62 (am_I 2 300 f)) Q := by
  have b5 := hv.1.2.2.2.1
  have b6 := hv.1.2.2.2.2.2.1
  have b7 := hv.1.2.2.2.2.1
  obtain ⟨q0, hW, ⟨f6, h60, h60'⟩, ⟨ft, h61, h61'⟩⟩ := id hM
  intro k
  induction k with
  | zero =>
    intro c f hc hf
    have : c = m_sh m := by omega
    subst this
    exact rX9_mend_9 (gtI ((st_ne (by decide)).trans q0) rfl ⟨fun _ => hK f hf, fun hq => absurd (nI_le (Nat.le_refl _) (by omega)) hq⟩)
  | succ k ih =>
    intro c f hc hf
    refine rX9_mend_9 (gtI ((st_ne (by decide)).trans q0) rfl ⟨fun hq => absurd ((nI_leI (by omega) (by omega)).mp hq) (by omega), fun _ => gtR ((st_ne (by decide)).trans q0) rfl (gtR ((st_ne (by decide)).trans q0) rfl (alI ((st_ne (by decide)).trans h60) (by omega) (by omega) ?_))⟩)
    rw [h60' c (by omega)]
    have nxt : ∀ b : Bool, b = !m_th m c → zX9_mend_36 l g (d + 1) x 46 (nI (fb_ct (fun i => !m_th m i) c)) (nI c) 62 (nI c) (bi b) (h.set 62 (am_I 2 300 f)) Q := by
      intro b hb
      refine ⟨bi_01 b, asI (st_eq h62) (by omega) (by omega) ?_⟩
      rw [List.set_set]
      refine gtR ((st_ne (by decide)).trans q0) rfl (alI (st_eq h62) (by omega) (by omega) ?_)
      rw [pk_us]
      have hfn : ∀ i, i < c + 1 → upd f c (bi b) i = bi (!m_th m i) := fun i hi => by
        by_cases e : i = c
        · subst e; rw [pk_us, hb]
        · rw [pk_un e]; exact hf i (by omega)
      refine ⟨fun hz => ?_, fun hz => ?_⟩
      · unfold zX9_mend_52
        have e : fb_ct (fun i => !m_th m i) (c + 1) = fb_ct (fun i => !m_th m i) c := by
          rw [fb_ct_succ, ← hb, bi_0.mp hz]; rfl
        rw [nI_1, show nI (fb_ct (fun i => !m_th m i) c) + 0 = nI (fb_ct (fun i => !m_th m i) c) from nI_add _ 0, ← e]
        exact ih (c + 1) _ (by omega) hfn
      · unfold zX9_mend_52
        have e : fb_ct (fun i => !m_th m i) (c + 1) = fb_ct (fun i => !m_th m i) c + 1 := by
          rw [fb_ct_succ, ← hb, bi_n0.mp hz]; rfl
        rw [nI_1, nI_1, ← e]
        exact ih (c + 1) _ (by omega) hfn
    refine ⟨fun hz => ?_, fun hz => ?_⟩
    · exact nxt false (by rw [bi_n0.mp hz]; rfl)
    · exact nxt true (by rw [bi_0.mp hz]; rfl)
def FrN (h h' : am_H) : Prop := ∀ i, ¬ (i = 46 ∨ i = 52 ∨ (54 ≤ i ∧ i ≤ 62)) → h'[i]? = h[i]?
theorem ms_mend {K : Int32 → am_H → Prop} {f0 : Nat → Int32} (hM : MM h m Wh o) (hv : ml_ok m) (h62 : h[62]? = some (am_I 2 300 f0)) (hK : ∀ h', MM h' (m_md m (m_sh m)) Wh (o_0 o) → FrN h h' → (∃ f, h'[62]? = some (am_I 2 300 f)) → K (nI (fb_ct (fun i => !m_th m i) (m_sh m))) h') : cl_I l g mX9_mend (d + 2) x [.ref 46] h K := by
  refine eX9_mend (mt_thr hM fun h' hM1 hf1 => ?_)
  have k62 : h'[62]? = some (am_I 2 300 f0) := hf1.get (by decide) h62
  have h9 := lm_mend1 (l := l) (g := g) (d := d) (x := x) (Q := fun r h' => ∃ v, r = some (.int v) ∧ K v h') hv hM1 k62 (fun f hf => ?_) (m_sh m) 0 f0 (by omega) (fun i hi => by omega)
  · rw [set_same k62] at h9
    exact h9
  · have hM2 : MM (h'.set 62 (am_I 2 300 f)) m Wh (o_0 o) := hM1.fr (st_ne (by decide)) (fun i a b => st_ne (by omega))
    have e62 : (h'.set 62 (am_I 2 300 f))[62]? = some (am_I 2 300 f) := st_eq k62
    obtain ⟨-, -, ⟨f6, k60, k60'⟩, -⟩ := id hM2
    refine lm_mend2 (h := h'.set 62 (am_I 2 300 f)) hv hM2 (fun h3 hM3 hf3 => ?_) (m_sh m) 0 _ f6 (by omega) (set_same k60).symm (fun i hi => by rw [k60' i hi]; simp)
    refine lm_mend3 (h := h3) hv (hf3.get (by decide) e62) hf (fun h4 hM4 hf4 => ⟨_, rfl, hK h4 ?_ (fun i hi => (hf4 i (by omega)).trans ((hf3 i (by omega)).trans ((st_ne (by omega)).trans (hf1 i (by omega))))) ⟨f, hf4.get (by decide) (hf3.get (by decide) e62)⟩⟩) (m_sh m) 0 h3 (by omega) hM3 Fr.rf
    obtain ⟨e1, e2⟩ := kd_md hv.1
    exact MM.ext hM4 e1 (fun u v _ _ => e2 u v)
end MODEL6
