/-! ===== the model's pairs ===== -/
def oi : Option Nat → Int32
  | none => -1
  | some w => nI w
theorem x300 (a : Nat) : (300 : Int32) * nI a = nI (300 * a) := by rw [show (300 : Int32) = nI 300 from rfl, pk_mul]
def KS (h : am_H) (m : ml_T) (pr : Nat → Option Nat) (S : Nat → Bool) : Prop := (∃ pp, h[68]? = some (am_I 0 300 pp) ∧ ∀ v, v < m_nu m → pp v = oi (pr v)) ∧ (∃ sn, h[69]? = some (am_I 2 300 sn) ∧ ∀ v, v < m_nu m → sn v = bi (S v))
section MFINDS
variable {l : Launch} {g : am_G} {d : Nat} {x : Bool} {h : am_H} {m : ml_T} {Wh : wv_T} {o : mo_T} {L : Nat → Bool}
theorem see_p {sn : Nat → Int32} {S : Nat → Bool} {b n : Nat} (h : ∀ v, v < n → sn v = bi (S v)) : ∀ v, v < n → upd sn b 1 v = bi (fput S b true v) := fun v hv => by
  by_cases e : v = b
  · rw [e, pk_us, fput_s]; rfl
  · rw [pk_un e, fput_n e]; exact h v hv
theorem pair_p {pp : Nat → Int32} {pr : Nat → Option Nat} {a b n : Nat} (h : ∀ v, v < n → pp v = oi (pr v)) : ∀ v, v < n → upd pp b (nI a) v = oi (fput pr b (some a) v) := fun v hv => by
  by_cases e : v = b
  · rw [e, pk_us, fput_s]; rfl
  · rw [pk_un e, fput_n e]; exact h v hv
theorem see_ct {S : Nat → Bool} {b n : Nat} (hb : b < n) (h : S b = false) : fb_ct (fun v => !fput S b true v) n + 1 = fb_ct (fun v => !S v) n := by
  have := fb_ct_upd (fun v => !S v) false hb
  simp only [h, Bool.not_false, if_true, Bool.false_eq_true, if_false] at this
  rw [show (fun v => !fput S b true v) = (fun k => if k = b then false else !S k) from funext fun v => by
    by_cases e : v = b
    · rw [e, fput_s, if_pos rfl]; rfl
    · rw [fput_n e, if_neg e]]
  omega
set_option maxHeartbeats 1000000 in
theorem lm_finds1 {K : Int32 → am_H → Prop} {a : Nat} {pr : Nat → Option Nat} {S : Nat → Bool} (hv : ml_ok m) (hG : GB (m_aj m) L (m_th m) (m_nu m)) (hV : VM (m_aj m) pr) (hM : MM h m Wh o) (hN : NR h m) (hl : L a = true) (ha : a < m_nu m) (ho : ∀ w, pr a = some w → S w = true)
    (hT : ∀ h' pr' S', KS h' m pr' S' → FT (m_aj m) L pr S a pr' → Fr 68 69 h h' → K 1 h') (hF : ∀ h' S', KS h' m pr S' → FF (m_aj m) L pr S a (m_nu m) S' → Fr 68 69 h h' → K 0 h')
    (hrec : ∀ a' S2 h2 (K2 : Int32 → am_H → Prop), fb_ct (fun v => !S2 v) (m_nu m) < fb_ct (fun v => !S v) (m_nu m) → MM h2 m Wh o → NR h2 m → KS h2 m pr S2 → L a' = true → a' < m_nu m → (∀ w, pr a' = some w → S2 w = true) →
      (∀ h' pr' S', KS h' m pr' S' → FT (m_aj m) L pr S2 a' pr' → Fr 68 69 h2 h' → K2 1 h') → (∀ h' S', KS h' m pr S' → FF (m_aj m) L pr S2 a' (m_nu m) S' → Fr 68 69 h2 h' → K2 0 h') → cl_I l g mX9_finds d x [.ref 46, .int (nI a')] h2 K2) :
    ∀ k j S1 h1, j + k = dg m a → KS h1 m pr S1 → Fr 68 69 h h1 → (∀ v, S v = true → S1 v = true) → (∀ b, m_aj m a b = true → fb_ct (m_aj m a) b < j → S1 b = true) → (∀ b, S1 b = true → S b = false → L b = false ∧ ∃ a', pr b = some a' ∧ ∀ u, m_aj m a' u = true → S1 u = true) →
      am_J l g mX9_finds (d + 1) (0, 0, x) 6 [(0, .ref 46), (1, .int (nI a)), (2, .int (nI (300 * a + j)))] [] h1 (fun r h' => ∃ v, r = some (.int v) ∧ K v h') := by
  have hn : m_nu m ≤ 300 := hv.1.2.2.2.2.2.1
  obtain ⟨f, ge, q3, q4, hNP⟩ := id hN
  have hdg : dg m a ≤ 300 := by have := fb_ct_le (m_aj m a) (m_nu m); unfold dg; omega
  intro k
  induction k with
  | zero =>
    intro j S1 h1 hj hK hf c1 c2 c3
    have hM1 := hM.out (h' := h1) (fun i hi => hf i (by omega))
    refine rX9_finds_6 (gtR hM1.1 rfl (alI ((hf 63 (by decide)).trans q3) (by omega) (by omega) ?_))
    rw [(hNP a ha).1, x300, nI_add]
    refine ⟨fun _ => ⟨_, rfl, hF h1 S1 hK ⟨c1, fun b hb hab => c2 b hab ?_, c3⟩ hf⟩, fun z => absurd (nI_le (by omega) (by omega)) z⟩
    rw [show j = dg m a by omega]; exact dg_lt hb hab
  | succ k ih =>
    intro j S1 h1 hj hK hf c1 c2 c3
    have hM1 := hM.out (h' := h1) (fun i hi => hf i (by omega))
    obtain ⟨b, hb, hab, hct, hge⟩ := NP.at hNP ha (show j < dg m a by omega)
    have hlb := hG.r hab hl
    obtain ⟨⟨pp, p8, hpp⟩, ⟨sn, p9, hsn⟩⟩ := id hK
    refine rX9_finds_6 (gtR hM1.1 rfl (alI ((hf 63 (by decide)).trans q3) (by omega) (by omega) ?_))
    rw [(hNP a ha).1, x300, nI_add]
    refine ⟨fun z => absurd ((nI_leI (by omega) (by omega)).mp z) (by omega), fun _ => gtR hM1.1 rfl (alI ((hf 64 (by decide)).trans q4) (by omega) (by omega) ?_)⟩
    rw [hge]
    refine gtR hM1.1 rfl (alI p9 (by omega) (by omega) ?_)
    rw [hsn b hb]
    have c2' : ∀ (S2 : Nat → Bool), (∀ v, S1 v = true → S2 v = true) → S2 b = true → ∀ u, m_aj m a u = true → fb_ct (m_aj m a) u < j + 1 → S2 u = true := fun S2 s1 s2 u hu hlt => by
      by_cases e : fb_ct (m_aj m a) u = j
      · have := fb_ct_kth_one hu hab (e.trans hct.symm)
        rw [this]; exact s2
      · exact s1 u (c2 u hu (by omega))
    refine ⟨fun z => ?_, fun z => gtR hM1.1 rfl (asI p9 (by omega) (by omega) ?_)⟩
    · unfold zX9_finds_83
      rw [nI_1]
      exact ih (j + 1) S1 h1 (by omega) hK hf c1 (c2' S1 (fun _ q => q) (bi_n0.mp z)) c3
    · have hSb1 : S1 b = false := bi_0.mp z
      have hSb : S b = false := by
        cases e : S b with
        | false => rfl
        | true => rw [c1 b e] at hSb1; cases hSb1
      have M2 : MM (h1.set 69 (am_I 2 300 (upd sn b 1))) m Wh o := hM1.out (fun i hi => st_ne (by omega))
      have f2 : Fr 68 69 h (h1.set 69 (am_I 2 300 (upd sn b 1))) := hf.st (by decide)
      have K2 : KS (h1.set 69 (am_I 2 300 (upd sn b 1))) m pr (fput S1 b true) := ⟨⟨pp, (st_ne (by decide)).trans p8, hpp⟩, ⟨_, st_eq p9, see_p hsn⟩⟩
      have sub : ∀ v, S1 v = true → fput S1 b true v = true := fun v hv' => by
        by_cases e : v = b
        · rw [e, fput_s]
        · rw [fput_n e]; exact hv'
      -- the pair is made
      have tie : ∀ h3 pr3 S3, KS h3 m pr3 S3 → MM h3 m Wh o → Fr 68 69 h h3 → FT (m_aj m) L pr S a (tw pr3 a b) → zX9_finds_67 l g d x 46 (nI a) (nI b) h3 (fun r h' => ∃ v, r = some (.int v) ∧ K v h') := by
        intro h3 pr3 S3 k3 m3 f3 t3
        obtain ⟨⟨pp3, p8', hpp3⟩, ⟨sn3, p9', hsn3⟩⟩ := k3
        refine gtR m3.1 rfl (asI p8' (by omega) (by omega) ?_)
        have m4 : MM (h3.set 68 (am_I 0 300 (upd pp3 b (nI a)))) m Wh o := m3.out (fun i hi => st_ne (by omega))
        refine gtR m4.1 rfl (asI (st_eq p8') (by omega) (by omega) ⟨_, rfl, ?_⟩)
        refine hT _ (tw pr3 a b) S3 ⟨⟨_, st_eq (st_eq p8'), pair_p (pair_p hpp3)⟩, ⟨sn3, (st_ne (by decide)).trans ((st_ne (by decide)).trans p9'), hsn3⟩⟩ t3 ((f3.st (by decide)).st (by decide))
      refine gtR M2.1 rfl (alI ((st_ne (by decide)).trans p8) (by omega) (by omega) ?_)
      rw [hpp b hb]
      cases hpb : pr b with
      | none =>
        refine ⟨fun _ => ?_, fun z => absurd (show (-1 : Int32) < 0 by decide) z⟩
        exact tie _ pr _ K2 M2 f2 (FT.base hG hV hl hab hSb hpb ho)
      | some a' =>
        obtain ⟨v1, v2⟩ := hV b a' hpb
        have ha' := (hG.t v1).2.2.2
        have hla' := hG.l v1 hlb
        refine ⟨fun z => absurd z (nI_pos (by omega)), fun _ => gtR M2.1 rfl (alI ((st_ne (by decide)).trans p8) (by omega) (by omega) ?_)⟩
        rw [hpp b hb, hpb]
        refine ⟨⟨_, M2.1⟩, hrec a' (fput S1 b true) _ _ ?_ M2 (hN.fr (f2 63 (by decide)) (f2 64 (by decide))) K2 hla' ha' (fun w hw => ?_) (fun h' pr' S' k' t' f' => ?_) (fun h' S' k' t' f' => ?_)⟩
        · have e1 := see_ct hb hSb1
          have e2 := fb_ct_sub (p := fun v => !S1 v) (q := fun v => !S v) (n := m_nu m) (fun v _ q => by
            cases e : S v with
            | false => rfl
            | true => rw [c1 v e] at q; cases q)
          omega
        · rw [v2] at hw; rw [← Option.some.inj hw]; exact fput_s
        · refine ⟨fun z => absurd z (by decide), fun _ => ?_⟩
          exact tie h' pr' S' k' (M2.out (fun i hi => f' i (by omega))) (f2.tr f') (FT.step hG hV hl hab hSb hpb ho (fun v hv' => sub v (c1 v hv')) t')
        · refine ⟨fun _ => ?_, fun z => absurd rfl z⟩
          unfold zX9_finds_83
          rw [nI_1]
          obtain ⟨t1, t2, t3⟩ := t'
          have s13 : ∀ v, S1 v = true → S' v = true := fun v q => t1 v (sub v q)
          refine ih (j + 1) S' h' (by omega) k' (f2.tr f') (fun v q => s13 v (c1 v q)) (c2' S' s13 (t1 b fput_s)) (fun b' q1 q2 => ?_)
          by_cases e : b' = b
          · subst e
            exact ⟨hlb, a', hpb, fun u hu => t2 u (hG.t hu).2.2.2 hu⟩
          · cases e1 : S1 b' with
            | true =>
              obtain ⟨u1, a2, u2, u3⟩ := c3 b' e1 q2
              exact ⟨u1, a2, u2, fun u hu => s13 u (u3 u hu)⟩
            | false => exact t3 b' q1 (by rw [fput_n e]; exact e1)
theorem ms_finds (hv : ml_ok m) (hG : GB (m_aj m) L (m_th m) (m_nu m)) : ∀ fu d0 a pr S h (K : Int32 → am_H → Prop), fb_ct (fun v => !S v) (m_nu m) ≤ fu → VM (m_aj m) pr → MM h m Wh o → NR h m → KS h m pr S → L a = true → a < m_nu m → (∀ w, pr a = some w → S w = true) →
    (∀ h' pr' S', KS h' m pr' S' → FT (m_aj m) L pr S a pr' → Fr 68 69 h h' → K 1 h') → (∀ h' S', KS h' m pr S' → FF (m_aj m) L pr S a (m_nu m) S' → Fr 68 69 h h' → K 0 h') → cl_I l g mX9_finds (d0 + fu + 1) x [.ref 46, .int (nI a)] h K := by
  intro fu
  induction fu with
  | zero =>
    intro d0 a pr S h K hfu hV hM hN hK hl ha ho hT hF
    refine eX9_finds ?_
    show am_J l g mX9_finds (d0 + 0 + 1) (0, 0, x) 6 _ [] h _
    rw [x300]
    exact lm_finds1 hv hG hV hM hN hl ha ho hT hF (fun a' S2 h2 K2 c => by omega) (dg m a) 0 S h (by omega) hK Fr.rf (fun _ q => q) (fun b hb c => by omega) (fun b q1 q2 => by rw [q1] at q2; cases q2)
  | succ fu ih =>
    intro d0 a pr S h K hfu hV hM hN hK hl ha ho hT hF
    refine eX9_finds ?_
    show am_J l g mX9_finds (d0 + (fu + 1) + 1) (0, 0, x) 6 _ [] h _
    rw [x300]
    exact lm_finds1 hv hG hV hM hN hl ha ho hT hF (fun a' S2 h2 K2 c m2 n2 k2 l2 b2 o2 t2 f2 => ih d0 a' pr S2 h2 K2 (by omega) hV m2 n2 k2 l2 b2 o2 t2 f2) (dg m a) 0 S h (by omega) hK Fr.rf (fun _ q => q) (fun b hb c => by omega) (fun b q1 q2 => by rw [q1] at q2; cases q2)
end MFINDS
