section MODEL5
variable {l : Launch} {g : am_G} {d : Nat} {x : Bool} {h : am_H} {m : ml_T} {Wh : wv_T} {o : mo_T}
theorem lm_linked {j p : Nat} {Q : Option Value → am_H → Prop} (hM : MM h m Wh o) (hv : ml_g m) (hj : j < m_nu m) (hth : m_th m j = true) (hp : p < 2 ^ 31) (h1 : ∀ k, k < m_nu m → m_aj m j k = true → fb_ct (m_aj m j) k = p → Q (some (.int (nI k))) h) (h0 : fb_ct (m_aj m j) (m_nu m) ≤ p → Q (some (.int (-1))) h) : ∀ k c, c + k = m_nu m → fb_ct (m_aj m j) c ≤ p → am_J l g mX9_linked (d + 1) (0, 0, x) 10 [(0, .ref 46), (1, .int (nI j)), (2, .int (nI p)), (3, .int (nI (p - fb_ct (m_aj m j) c))), (4, .int (nI c))] [] h Q := by
  have b6 := hv.2.2.2.2.2.1
  have q0 := hM.1
  intro k
  induction k with
  | zero =>
    intro c hc hle
    have : c = m_nu m := by omega
    subst this
    exact rX9_linked_10 (gtI q0 rfl ⟨fun _ => h0 hle, fun hq => absurd (nI_le (Nat.le_refl _) (by omega)) hq⟩)
  | succ k ih =>
    intro c hc hle
    refine rX9_linked_10 (gtI q0 rfl ⟨fun hq => absurd ((nI_leI (by omega) (by omega)).mp hq) (by omega), fun _ => ⟨⟨_, q0⟩, ms_isRing hM hv (fun hq => ?_) (fun i hi e => ?_)⟩⟩)
    · rcases hq with q | q
      · exact absurd q (nI_pos (by omega))
      · exact absurd ((nI_leI (by omega) (by omega)).mp q) (by omega)
    · have : j = i := nI_eqI (by omega) (by omega) e
      subst this
      rw [hth]
      refine ⟨fun z => absurd z (by decide), fun _ => ⟨fun z => absurd z (nI_pos hp), fun _ => ⟨⟨_, q0⟩, ms_areLinked hM (by omega) (by omega) ⟨fun hz => ?_, fun hz => ?_⟩⟩⟩⟩
      · unfold zX9_linked_51
        have e2 : fb_ct (m_aj m j) (c + 1) = fb_ct (m_aj m j) c := by rw [fb_ct_succ, bi_0.mp hz]; rfl
        rw [nI_1]
        have := ih (c + 1) (by omega) (by rw [e2]; exact hle)
        rw [e2] at this
        exact this
      · have haj := bi_n0.mp hz
        have e2 : fb_ct (m_aj m j) (c + 1) = fb_ct (m_aj m j) c + 1 := by rw [fb_ct_succ, haj]; rfl
        refine ⟨fun hy => ?_, fun hy => h1 c (by omega) haj ?_⟩
        · unfold zX9_linked_51
          have hlt : fb_ct (m_aj m j) c < p := by
            rcases Nat.lt_or_ge (fb_ct (m_aj m j) c) p with z | z
            · exact z
            · exact absurd (show nI (p - fb_ct (m_aj m j) c) = 0 by rw [show p - fb_ct (m_aj m j) c = 0 by omega]; rfl) hy
          have e3 : nI (p - fb_ct (m_aj m j) c) + (-1) = nI (p - fb_ct (m_aj m j) (c + 1)) := by
            rw [e2, show p - fb_ct (m_aj m j) c = (p - (fb_ct (m_aj m j) c + 1)) + 1 by omega]
            exact pk_m1 _
          rw [e3, nI_1]
          exact ih (c + 1) (by omega) (by rw [e2]; omega)
        · have := nI_eqI (b := 0) (by omega) (by decide) hy
          omega
theorem ms_linked {r i : Int32} {K : Int32 → am_H → Prop} (hM : MM h m Wh o) (hv : ml_ok m) (h1 : ∀ h' j p k, MM h' m Wh (o_0 o) → FrM h h' → j < m_nu m → r = nI j → m_th m j = true → i = nI p → p < 2 ^ 31 → k < m_nu m → m_aj m j k = true → fb_ct (m_aj m j) k = p → K (nI k) h') (h0 : ∀ h', MM h' m Wh (o_0 o) → FrM h h' → ((¬ ∃ j, j < m_nu m ∧ r = nI j ∧ m_th m j = true) ∨ i < 0 ∨ ∃ j p, j < m_nu m ∧ r = nI j ∧ m_th m j = true ∧ i = nI p ∧ p < 2 ^ 31 ∧ fb_ct (m_aj m j) (m_nu m) ≤ p) → K (-1) h') : cl_I l g mX9_linked (d + 1) x [.ref 46, .int r, .int i] h K := by
  have b6 := hv.1.2.2.2.2.2.1
  refine eX9_linked (mt_thr hM fun h' hM1 hf1 => ?_)
  have hf1' : FrM h h' := hf1.m (by omega)
  have q0 := hM1.1
  by_cases hex : ∃ j, j < m_nu m ∧ r = nI j ∧ m_th m j = true
  · obtain ⟨j, hj, rfl, hth⟩ := hex
    by_cases hi : i < 0
    · have hres : ∃ v, some (Value.int (-1)) = some (.int v) ∧ K v h' := ⟨_, rfl, h0 h' hM1 hf1' (Or.inr (Or.inl hi))⟩
      refine rX9_linked_10 (gtI q0 rfl ⟨fun _ => hres, fun hq => ⟨⟨_, q0⟩, ms_isRing hM1 hv.1 (fun hq => ⟨fun _ => hres, fun z => absurd rfl z⟩) (fun i hi e => ⟨fun _ => hres, fun _ => ⟨fun _ => hres, fun z => absurd ‹_› z⟩⟩)⟩⟩)
    · obtain ⟨p, hp, rfl⟩ := nI_of hi
      exact lm_linked hM1 hv.1 hj hth hp (fun k a b c => ⟨_, rfl, h1 h' j p k hM1 hf1' hj rfl hth rfl hp a b c⟩) (fun a => ⟨_, rfl, h0 h' hM1 hf1' (Or.inr (Or.inr ⟨j, p, hj, rfl, hth, rfl, hp, a⟩))⟩) (m_nu m) 0 (by omega) (Nat.zero_le _)
  · have hres : ∃ v, some (Value.int (-1)) = some (.int v) ∧ K v h' := ⟨_, rfl, h0 h' hM1 hf1' (Or.inl hex)⟩
    refine rX9_linked_10 (gtI q0 rfl ⟨fun _ => hres, fun hq => ⟨⟨_, q0⟩, ms_isRing hM1 hv.1 (fun hq => ⟨fun _ => hres, fun z => absurd rfl z⟩) (fun j hj e => ⟨fun _ => hres, fun hz => absurd ⟨j, hj, e, bi_n0.mp hz⟩ hex⟩)⟩⟩)
/-! full -/
theorem tv_1 {ov : Nat → Nat → Bool} {a b : Nat} : tv ov a b = 1 ↔ ov a b = true := by
  unfold tv
  cases ov a b <;> cases ov b a <;> simp
theorem tv_m {ov : Nat → Nat → Bool} {a b : Nat} (h : ov b a = true → ov a b = false) : tv ov a b = -1 ↔ ov b a = true := by
  unfold tv
  revert h
  cases ov a b <;> cases ov b a <;> simp
theorem lm_isFull {r : Nat} {Q : Option Value → am_H → Prop} (hM : MM h m Wh o) (hv : ml_ok m) (hr : r < m_sh m) (hK : Q (some (.int (bi (m_fla m r m.1.2.1)))) h) : ∀ k c b, c + k = m.1.2.1 → m_fla m r c = b → am_J l g mX9_isFull (d + 1) (0, 0, x) 16 [(0, .ref 46), (1, .int (nI r)), (2, .int (bi b)), (3, .int (nI c))] [] h Q := by
  have b3 := hv.1.1.1
  have b4 := hv.1.1.2.1
  have b5 := hv.1.2.2.2.1
  have anti : ∀ a b, m_ov m b a = true → m_ov m a b = false := fun a b hz => (hv.2.2 b a hz).2.2.2
  obtain ⟨q0, hW, -, ⟨ft, h61, h61'⟩⟩ := id hM
  obtain ⟨fr, fl, f1, f2, f3, f4, f5, w52, w54, w1, w2, w3, w4, w5, e52, e54, w6⟩ := hW.l
  intro k
  induction k with
  | zero =>
    intro c b hc hb
    have : c = m.1.2.1 := by omega
    subst this
    rw [hb] at hK
    refine rX9_isFull_16 (gtR q0 rfl (alI (i := 2) w54 (by decide) (by decide) ⟨fun _ => ⟨bi_01 _, hK⟩, fun hq => absurd ?_ hq⟩))
    rw [e54]; exact nI_le (Nat.le_refl _) (by omega)
  | succ k ih =>
    intro c b hc hb
    have hct : c < m.1.2.1 := by omega
    obtain ⟨t1, t2, t3, t4, t5⟩ := w6 c hct
    have hR : 0 < m.1.1 := by have := m_end_lt hv.1 hct true; omega
    have hmr : r % m.1.1 < m.1.1 := Nat.mod_lt _ hR
    refine rX9_isFull_16 (gtR q0 rfl (alI (i := 2) w54 (by decide) (by decide) ⟨fun hq => ?_, fun _ => ⟨fun hz => ⟨bi_01 _, ?_⟩, fun hz => gtR q0 rfl ?_⟩⟩))
    · rw [e54] at hq
      exact absurd ((nI_leI (by omega) (by omega)).mp hq) (by omega)
    · have hb0 : b = false := bi_0.mp hz
      subst hb0
      rw [m_fla_mono m.1.2.1 (by omega) hb] at hK
      exact hK
    · have hb1 : b = true := bi_n0.mp hz
      subst hb1
      rw [show (48 : Int32) + nI c = nI (48 + c) from nI_add 48 c]
      refine alI w5 (by omega) (by omega) ?_
      rw [t5]
      have e158 : m_fl m r c true = false ∨ m_fl m r c false = false → zX9_isFull_158 l g d x 46 (nI r) (nI c) h Q := fun hq => by
        unfold zX9_isFull_158 zX9_isFull_159
        rw [nI_1]
        refine ih (c + 1) false (by omega) ?_
        simp only [m_fla, hb]
        rcases hq with q | q <;> rw [q] <;> simp
      have e154 : m_fl m r c true = true → m_fl m r c false = true → zX9_isFull_154 l g d x 46 (nI r) (nI c) h Q := fun p1 p2 => by
        unfold zX9_isFull_154 zX9_isFull_159
        rw [nI_1]
        refine ih (c + 1) true (by omega) ?_
        simp only [m_fla, hb, p1, p2]; rfl
      -- the way of the link
      have go : ∀ w : Int32, (w = if m_o m c = true then 1 else -1) → zX9_isFull_51 l g d x 46 (nI r) (nI c) (nI (48 + c)) w h Q := by
        intro w hw
        -- is the entry as told, from one end
        have ent : ∀ f, m_is m r c f = true → m_in m r c f = true → (tv (m_ov m) r (m_oth m r c f) = (if f then w else -w) ↔ m_fl m r c f = true) := by
          intro f i1 i2
          unfold m_fl
          rw [i1, i2]
          simp only [Bool.not_true, Bool.false_or, Bool.true_and]
          have a1 := tv_1 (ov := m_ov m) (a := r) (b := m_oth m r c f)
          have a2 := tv_m (ov := m_ov m) (a := r) (b := m_oth m r c f) (anti _ _)
          cases f <;> cases ho : m_o m c <;> rw [ho] at hw <;> simp at hw <;> subst hw <;> simp
          · exact a1
          · exact a2
          · exact a2
          · exact a1
        have s112 : ∀ v4, ((m_is m r c false = true ∧ m_in m r c false = true ∧ v4 = nI (m_oth m r c false)) ∨ ((m_is m r c false && m_in m r c false) = false ∧ v4 = -1)) → m_fl m r c true = true → zX9_isFull_112 l g d x 46 (nI r) (nI c) (nI (48 + c)) w v4 h Q := by
          intro v4 hv4 hf1
          refine gtR q0 rfl (alI (i := 2) w52 (by decide) (by decide) ?_)
          rw [e52]
          refine ⟨nI_ne0 hR (by omega), gtR q0 rfl (alI w2 (by omega) (by omega) ?_)⟩
          rw [nI_mod (by omega) hR (by omega), t2]
          have he := m_end_lt hv.1 hct false
          refine ⟨fun hn => e154 hf1 ?_, fun hn => ?_⟩
          · have : m_is m r c false = false := decide_eq_false (fun e => hn (by rw [e]; rfl))
            unfold m_fl; rw [this]; rfl
          · have his : m_is m r c false = true := decide_eq_true (nI_eqI (b := m_end m c false) (by omega) (by omega) hn)
            rcases hv4 with ⟨-, i2, rfl⟩ | ⟨i1, rfl⟩
            · have ho := m_oth_lt hv.1 hct i2
              refine ⟨fun z => absurd z (nI_pos (by omega)), fun _ => gtR q0 rfl ?_⟩
              rw [ix_t]
              refine alI h61 (by omega) (by omega) ?_
              rw [h61' r _ (by omega) (by omega)]
              have hent := ent false his i2
              exact ⟨fun z => e158 (Or.inr (by cases hq : m_fl m r c false with | false => rfl | true => exact absurd (hent.mpr hq) z)), fun z => e154 hf1 (hent.mp z)⟩
            · rw [his] at i1
              have hin : m_in m r c false = false := by simpa using i1
              refine ⟨fun _ => e158 (Or.inr ?_), fun z => absurd (show (-1 : Int32) < 0 by decide) z⟩
              unfold m_fl; rw [his, hin]; rfl
        have rest : ∀ v2, ((m_is m r c true = true ∧ m_in m r c true = true ∧ v2 = nI (m_oth m r c true)) ∨ ((m_is m r c true && m_in m r c true) = false ∧ v2 = -1)) → ∀ v4, ((m_is m r c false = true ∧ m_in m r c false = true ∧ v4 = nI (m_oth m r c false)) ∨ ((m_is m r c false && m_in m r c false) = false ∧ v4 = -1)) → gt_R h 46 9 10 (fun v5 => al_I 0 h v5 2 (fun v6 => (¬ v6 = 0 ∧ gt_R h 46 9 13 (fun v7 => al_I 0 h v7 (nI (48 + c)) (fun v8 => ((¬ (nI r - nI r / v6 * v6) = v8 → zX9_isFull_112 l g d x 46 (nI r) (nI c) (nI (48 + c)) w v4 h Q) ∧ ((nI r - nI r / v6 * v6) = v8 → ((v2 < 0 → zX9_isFull_158 l g d x 46 (nI r) (nI c) h Q) ∧ (¬ v2 < 0 → gt_R h 46 9 23 (fun v9 => al_I 0 h v9 ((300 * nI r) + v2) (fun v10 => ((¬ v10 = w → zX9_isFull_158 l g d x 46 (nI r) (nI c) h Q) ∧ (v10 = w → zX9_isFull_112 l g d x 46 (nI r) (nI c) (nI (48 + c)) w v4 h Q))))))))))))) := by
          intro v2 hv2 v4 hv4
          refine gtR q0 rfl (alI (i := 2) w52 (by decide) (by decide) ?_)
          rw [e52]
          refine ⟨nI_ne0 hR (by omega), gtR q0 rfl (alI w1 (by omega) (by omega) ?_)⟩
          rw [nI_mod (by omega) hR (by omega), t1]
          have he := m_end_lt hv.1 hct true
          refine ⟨fun hn => s112 v4 hv4 ?_, fun hn => ?_⟩
          · have : m_is m r c true = false := decide_eq_false (fun e => hn (by rw [e]; rfl))
            unfold m_fl; rw [this]; rfl
          · have his : m_is m r c true = true := decide_eq_true (nI_eqI (b := m_end m c true) (by omega) (by omega) hn)
            rcases hv2 with ⟨-, i2, rfl⟩ | ⟨i1, rfl⟩
            · have ho := m_oth_lt hv.1 hct i2
              refine ⟨fun z => absurd z (nI_pos (by omega)), fun _ => gtR q0 rfl ?_⟩
              rw [ix_t]
              refine alI h61 (by omega) (by omega) ?_
              rw [h61' r _ (by omega) (by omega)]
              have hent := ent true his i2
              exact ⟨fun z => e158 (Or.inl (by cases hq : m_fl m r c true with | false => rfl | true => exact absurd (hent.mpr hq) z)), fun z => s112 v4 hv4 (hent.mp z)⟩
            · rw [his] at i1
              have hin : m_in m r c true = false := by simpa using i1
              refine ⟨fun _ => e158 (Or.inl ?_), fun z => absurd (show (-1 : Int32) < 0 by decide) z⟩
              unfold m_fl; rw [his, hin]; rfl
        refine ⟨⟨_, q0⟩, ms_partner (f := true) hM hv.1 hr hct (fun i1 i2 => ?_) (fun i1 => ?_)⟩
        · refine ⟨⟨_, q0⟩, ms_partner (f := false) hM hv.1 hr hct (fun j1 j2 => rest _ (Or.inl ⟨i1, i2, rfl⟩) _ (Or.inl ⟨j1, j2, rfl⟩)) (fun j1 => rest _ (Or.inl ⟨i1, i2, rfl⟩) _ (Or.inr ⟨j1, rfl⟩))⟩
        · refine ⟨⟨_, q0⟩, ms_partner (f := false) hM hv.1 hr hct (fun j1 j2 => rest _ (Or.inr ⟨i1, rfl⟩) _ (Or.inl ⟨j1, j2, rfl⟩)) (fun j1 => rest _ (Or.inr ⟨i1, rfl⟩) _ (Or.inr ⟨j1, rfl⟩))⟩
      refine ⟨fun hz => go (-1) ?_, fun hz => go 1 ?_⟩
      · have : m_o m c = false := bi_0.mp hz
        rw [this]; rfl
      · have : m_o m c = true := bi_n0.mp hz
        rw [this]; rfl
theorem ms_isFull {r : Nat} {K : Int32 → am_H → Prop} (hM : MM h m Wh o) (hv : ml_ok m) (hr : r < m_nu m) (hK : K (bi (decide (r < m_sh m) && m_fla m r m.1.2.1)) h) : cl_I l g mX9_isFull (d + 1) x [.ref 46, .int (nI r)] h K := by
  have b5 := hv.1.2.2.2.1
  have b6 := hv.1.2.2.2.2.2.1
  refine eX9_isFull (gtI hM.1 rfl ⟨fun hz => ?_, fun hz => ?_⟩)
  · have hlt : ¬ r < m_sh m := by
      have := (nI_leI (by omega) (by omega)).mp hz
      omega
    rw [decide_eq_false hlt] at hK
    obtain ⟨q0, hW, -⟩ := id hM
    obtain ⟨fr, fl, f1, f2, f3, f4, f5, w52, w54, -⟩ := hW.l
    have hres : ((0 : Int32) = 0 ∨ (0 : Int32) = 1) ∧ ∃ v, some (Value.int 0) = some (.int v) ∧ K v h := ⟨Or.inl rfl, _, rfl, hK⟩
    exact rX9_isFull_16 (gtR q0 rfl (alI (i := 2) w54 (by decide) (by decide) ⟨fun _ => hres, fun _ => ⟨fun _ => hres, fun z => absurd rfl z⟩⟩))
  · have hlt : r < m_sh m := by
      rcases Nat.lt_or_ge r (m_sh m) with z | z
      · exact z
      · exact absurd (nI_le z (by omega)) hz
    rw [decide_eq_true hlt] at hK
    exact lm_isFull hM hv hlt ⟨_, rfl, hK⟩ m.1.2.1 0 true (by omega) rfl
end MODEL5
