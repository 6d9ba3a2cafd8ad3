/-! ===== what the model opens ===== -/
section MREACH
variable {l : Launch} {g : am_G} {d : Nat} {x : Bool} {h : am_H} {m : ml_T} {Wh : wv_T} {o : mo_T} {L : Nat → Bool} {pr : Nat → Option Nat}
/-- what was newly seen is closed -/
def RCl (A : Nat → Nat → Bool) (L : Nat → Bool) (pr : Nat → Option Nat) (S' : Nat → Bool) (v : Nat) : Prop := (L v = true → ∀ u, A v u = true → S' u = true) ∧ (L v = false → ∀ a, pr v = some a → S' a = true)
theorem RCl.mono {A : Nat → Nat → Bool} {S1 S2 : Nat → Bool} {v : Nat} (h : RCl A L pr S1 v) (hs : ∀ v, S1 v = true → S2 v = true) : RCl A L pr S2 v := ⟨fun a u b => hs u (h.1 a u b), fun a u b => hs u (h.2 a u b)⟩
set_option maxHeartbeats 1000000 in
theorem lm_reaches1 {K : am_H → Prop} {a : Nat} {S : Nat → Bool} (hv : ml_ok m) (hG : GB (m_aj m) L (m_th m) (m_nu m)) (hV : VM (m_aj m) pr) (hM : MM h m Wh o) (hN : NR h m) (hl : L a = true) (ha : a < m_nu m) (hz : Zr (m_aj m) L (m_th m) pr a)
    (hK : ∀ h' S', KS h' m pr S' → (∀ v, S v = true → S' v = true) → S' a = true → (∀ v, S' v = true → S v = false → RCl (m_aj m) L pr S' v) → (∀ v, S' v = true → S v = true ∨ Zr (m_aj m) L (m_th m) pr v) → Fr 68 69 h h' → K h')
    (hrec : ∀ a' S2 h2 (K2 : am_H → Prop), fb_ct (fun v => !S2 v) (m_nu m) < fb_ct (fun v => !S v) (m_nu m) → MM h2 m Wh o → NR h2 m → KS h2 m pr S2 → L a' = true → a' < m_nu m → Zr (m_aj m) L (m_th m) pr a' →
      (∀ h' S', KS h' m pr S' → (∀ v, S2 v = true → S' v = true) → S' a' = true → (∀ v, S' v = true → S2 v = false → RCl (m_aj m) L pr S' v) → (∀ v, S' v = true → S2 v = true ∨ Zr (m_aj m) L (m_th m) pr v) → Fr 68 69 h2 h' → K2 h') → cl_N l g mX9_reaches d x [.ref 46, .int (nI a')] h2 K2) :
    ∀ k j S1 h1, j + k = dg m a → KS h1 m pr S1 → Fr 68 69 h h1 → (∀ v, S v = true → S1 v = true) → S1 a = true → (∀ b, m_aj m a b = true → fb_ct (m_aj m a) b < j → S1 b = true) → (∀ v, S1 v = true → S v = false → v ≠ a → RCl (m_aj m) L pr S1 v) → (∀ v, S1 v = true → S v = true ∨ Zr (m_aj m) L (m_th m) pr v) →
      am_J l g mX9_reaches (d + 1) (0, 0, x) 13 [(0, .ref 46), (1, .int (nI a)), (2, .int (nI (300 * a + j)))] [] h1 (fun r h' => r = none ∧ K h') := by
  have hn : m_nu m ≤ 300 := hv.1.2.2.2.2.2.1
  obtain ⟨f, ge, q3, q4, hNP⟩ := id hN
  have hdg : dg m a ≤ 300 := by have := fb_ct_le (m_aj m a) (m_nu m); unfold dg; omega
  intro k
  induction k with
  | zero =>
    intro j S1 h1 hj hK1 hf c1 c0 c2 c3 c4
    have hM1 := hM.out (h' := h1) (fun i hi => hf i (by omega))
    refine rX9_reaches_13 (gtR hM1.1 rfl (alI ((hf 63 (by decide)).trans q3) (by omega) (by omega) ?_))
    rw [(hNP a ha).1, x300, nI_add]
    refine ⟨fun _ => ⟨rfl, hK h1 S1 hK1 c1 c0 (fun v q1 q2 => ?_) c4 hf⟩, fun z => absurd (nI_le (by omega) (by omega)) z⟩
    by_cases e : v = a
    · subst e
      refine ⟨fun _ u hu => c2 u hu ?_, fun c => by rw [hl] at c; cases c⟩
      rw [show j = dg m v by omega]; exact dg_lt (hG.t hu).2.2.2 hu
    · exact c3 v q1 q2 e
  | succ k ih =>
    intro j S1 h1 hj hK1 hf c1 c0 c2 c3 c4
    have hM1 := hM.out (h' := h1) (fun i hi => hf i (by omega))
    obtain ⟨b, hb, hab, hct, hge⟩ := NP.at hNP ha (show j < dg m a by omega)
    have hlb := hG.r hab hl
    have hzb := hz.link hl hab
    obtain ⟨⟨pp, p8, hpp⟩, ⟨sn, p9, hsn⟩⟩ := id hK1
    refine rX9_reaches_13 (gtR hM1.1 rfl (alI ((hf 63 (by decide)).trans q3) (by omega) (by omega) ?_))
    rw [(hNP a ha).1, x300, nI_add]
    refine ⟨fun z => absurd ((nI_leI (by omega) (by omega)).mp z) (by omega), fun _ => gtR hM1.1 rfl (alI ((hf 64 (by decide)).trans q4) (by omega) (by omega) ?_)⟩
    rw [hge]
    refine gtR hM1.1 rfl (alI p9 (by omega) (by omega) ?_)
    rw [hsn b hb]
    have c2' : ∀ (S2 : Nat → Bool), (∀ v, S1 v = true → S2 v = true) → S2 b = true → ∀ u, m_aj m a u = true → fb_ct (m_aj m a) u < j + 1 → S2 u = true := fun S2 s1 s2 u hu hlt => by
      by_cases e : fb_ct (m_aj m a) u = j
      · have := fb_ct_kth_one hu hab (e.trans hct.symm)
        rw [this]; exact s2
      · exact s1 u (c2 u hu (by omega))
    refine ⟨fun z => ?_, fun z => gtR hM1.1 rfl (asI p9 (by omega) (by omega) ?_)⟩
    · unfold zX9_reaches_85
      rw [nI_1]
      exact ih (j + 1) S1 h1 (by omega) hK1 hf c1 c0 (c2' S1 (fun _ q => q) (bi_n0.mp z)) c3 c4
    · have hSb1 : S1 b = false := bi_0.mp z
      have M2 : MM (h1.set 69 (am_I 2 300 (upd sn b 1))) m Wh o := hM1.out (fun i hi => st_ne (by omega))
      have f2 : Fr 68 69 h (h1.set 69 (am_I 2 300 (upd sn b 1))) := hf.st (by decide)
      have p8' : (h1.set 69 (am_I 2 300 (upd sn b 1)))[68]? = some (am_I 0 300 pp) := (st_ne (by decide)).trans p8
      have K2 : KS (h1.set 69 (am_I 2 300 (upd sn b 1))) m pr (fput S1 b true) := ⟨⟨pp, p8', hpp⟩, ⟨_, st_eq p9, see_p hsn⟩⟩
      have sub : ∀ v, S1 v = true → fput S1 b true v = true := fun v hv' => by
        by_cases e : v = b
        · rw [e, fput_s]
        · rw [fput_n e]; exact hv'
      have c4' : ∀ v, fput S1 b true v = true → S v = true ∨ Zr (m_aj m) L (m_th m) pr v := fun v q => by
        by_cases e : v = b
        · rw [e]; exact Or.inr hzb
        · rw [fput_n e] at q; exact c4 v q
      -- when the other's partner needs no walk
      have easy : (∀ a', pr b = some a' → S1 a' = true) → am_J l g mX9_reaches (d + 1) (0, 0, x) 13 [(0, .ref 46), (1, .int (nI a)), (2, .int (nI (300 * a + (j + 1))))] [] (h1.set 69 (am_I 2 300 (upd sn b 1))) (fun r h' => r = none ∧ K h') := fun hp => by
        refine ih (j + 1) (fput S1 b true) _ (by omega) K2 f2 (fun v q => sub v (c1 v q)) (sub a c0) (c2' _ sub fput_s) (fun v q1 q2 q3 => ?_) c4'
        by_cases e : v = b
        · subst e
          exact ⟨fun c => by rw [hlb] at c; (cases c), fun _ a' ea => sub a' (hp a' ea)⟩
        · rw [fput_n e] at q1; exact (c3 v q1 q2 q3).mono sub
      refine gtR M2.1 rfl (alI p8' (by omega) (by omega) ?_)
      rw [hpp b hb]
      cases hpb : pr b with
      | none =>
        refine ⟨fun _ => ?_, fun z => absurd (show (-1 : Int32) < 0 by decide) z⟩
        unfold zX9_reaches_85
        rw [nI_1]
        exact easy (fun a' ea => by rw [hpb] at ea; cases ea)
      | some a' =>
        obtain ⟨v1, v2⟩ := hV b a' hpb
        have ha' := (hG.t v1).2.2.2
        have hla' := hG.l v1 hlb
        have ne' : a' ≠ b := fun e => hG.ne v1 e.symm
        refine ⟨fun z => absurd z (nI_pos (by omega)), fun _ => gtR M2.1 rfl (gtR M2.1 rfl (alI p8' (by omega) (by omega) ?_))⟩
        rw [hpp b hb, hpb]
        refine alI (st_eq p9) (i := a') (by omega) (by omega) ?_
        rw [pk_un ne', hsn a' ha']
        refine ⟨fun z => ?_, fun z => gtR M2.1 rfl (alI p8' (by omega) (by omega) ?_)⟩
        · unfold zX9_reaches_85
          rw [nI_1]
          exact easy (fun a2 ea => by rw [hpb] at ea; rw [← Option.some.inj ea]; exact bi_n0.mp z)
        · rw [hpp b hb, hpb]
          refine ⟨⟨_, M2.1⟩, hrec a' (fput S1 b true) _ _ ?_ M2 (hN.fr (f2 63 (by decide)) (f2 64 (by decide))) K2 hla' ha' (hzb.pair hlb hpb) (fun h' S' k' t1 t2 t3 t4 f' => ?_)⟩
          · have e1 := see_ct hb hSb1
            have e2 := fb_ct_sub (p := fun v => !S1 v) (q := fun v => !S v) (n := m_nu m) (fun v _ q => by
              cases e : S v with
              | false => rfl
              | true => rw [c1 v e] at q; cases q)
            omega
          · unfold zX9_reaches_85
            rw [nI_1]
            have s13 : ∀ v, S1 v = true → S' v = true := fun v q => t1 v (sub v q)
            refine ih (j + 1) S' h' (by omega) k' (f2.tr f') (fun v q => s13 v (c1 v q)) (s13 a c0) (c2' S' s13 (t1 b fput_s)) (fun v q1 q2 q3 => ?_) (fun v q => (t4 v q).elim (c4' v) Or.inr)
            by_cases e : v = b
            · subst e
              exact ⟨fun c => by rw [hlb] at c; (cases c), fun _ a2 ea => by rw [hpb] at ea; rw [← Option.some.inj ea]; exact t2⟩
            · cases e1 : S1 v with
              | true => exact (c3 v e1 q2 q3).mono s13
              | false => exact t3 v q1 (by rw [fput_n e]; exact e1)
theorem ms_reaches (hv : ml_ok m) (hG : GB (m_aj m) L (m_th m) (m_nu m)) (hV : VM (m_aj m) pr) : ∀ fu d0 a S h (K : am_H → Prop), fb_ct (fun v => !S v) (m_nu m) ≤ fu → MM h m Wh o → NR h m → KS h m pr S → L a = true → a < m_nu m → Zr (m_aj m) L (m_th m) pr a →
    (∀ h' S', KS h' m pr S' → (∀ v, S v = true → S' v = true) → S' a = true → (∀ v, S' v = true → S v = false → RCl (m_aj m) L pr S' v) → (∀ v, S' v = true → S v = true ∨ Zr (m_aj m) L (m_th m) pr v) → Fr 68 69 h h' → K h') → cl_N l g mX9_reaches (d0 + fu + 1) x [.ref 46, .int (nI a)] h K := by
  have hn : m_nu m ≤ 300 := hv.1.2.2.2.2.2.1
  have sub : ∀ (S : Nat → Bool) a v, S v = true → fput S a true v = true := fun S a v hv' => by
    by_cases e : v = a
    · rw [e, fput_s]
    · rw [fput_n e]; exact hv'
  have case : ∀ (S : Nat → Bool) a v, fput S a true v = true → v = a ∨ S v = true := fun S a v q => by
    by_cases e : v = a
    · exact Or.inl e
    · rw [fput_n e] at q; exact Or.inr q
  have st3 : ∀ (S : Nat → Bool) a v, fput S a true v = true → S v = false → v ≠ a → RCl (m_aj m) L pr (fput S a true) v := fun S a v q1 q2 q3 => by
    rcases case S a v q1 with e | e
    · exact absurd e q3
    · rw [e] at q2; cases q2
  have st4 : ∀ (S : Nat → Bool) a v, Zr (m_aj m) L (m_th m) pr a → fput S a true v = true → S v = true ∨ Zr (m_aj m) L (m_th m) pr v := fun S a v hz q => by
    rcases case S a v q with e | e
    · rw [e]; exact Or.inr hz
    · exact Or.inl e
  intro fu
  induction fu with
  | zero =>
    intro d0 a S h K hfu hM hN hK hl ha hz hT
    obtain ⟨⟨pp, p8, hpp⟩, ⟨sn, p9, hsn⟩⟩ := id hK
    refine eX9_reaches (gtR hM.1 rfl (asI p9 (by omega) (by omega) ?_))
    rw [x300]
    exact lm_reaches1 (d := d0 + 0) (S := S) hv hG hV hM hN hl ha hz hT (fun a' S2 h2 K2 c => by omega) (dg m a) 0 (fput S a true) _ (by omega) ⟨⟨pp, (st_ne (by decide)).trans p8, hpp⟩, ⟨_, st_eq p9, see_p hsn⟩⟩ (Fr.rf.st (by decide)) (sub S a) fput_s (fun b hb c => by omega) (st3 S a) (fun v => st4 S a v hz)
  | succ fu ih =>
    intro d0 a S h K hfu hM hN hK hl ha hz hT
    obtain ⟨⟨pp, p8, hpp⟩, ⟨sn, p9, hsn⟩⟩ := id hK
    refine eX9_reaches (gtR hM.1 rfl (asI p9 (by omega) (by omega) ?_))
    rw [x300]
    exact lm_reaches1 (d := d0 + (fu + 1)) (S := S) hv hG hV hM hN hl ha hz hT (fun a' S2 h2 K2 c m2 n2 k2 l2 b2 z2 t2 => ih d0 a' S2 h2 K2 (by omega) m2 n2 k2 l2 b2 z2 t2) (dg m a) 0 (fput S a true) _ (by omega) ⟨⟨pp, (st_ne (by decide)).trans p8, hpp⟩, ⟨_, st_eq p9, see_p hsn⟩⟩ (Fr.rf.st (by decide)) (sub S a) fput_s (fun b hb c => by omega) (st3 S a) (fun v => st4 S a v hz)
end MREACH
