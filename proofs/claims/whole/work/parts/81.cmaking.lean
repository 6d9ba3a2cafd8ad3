/-! ===== what the class opens, all of it ===== -/
section CMARK
variable {l : Launch} {g : am_G} {d : Nat} {x : Bool} {h : am_H} {m : ml_T} {ch : Nat} {L : Nat → Bool}
variable {cs orr ql : Int32} {p r q e : Nat → Int32} {pr rf : Nat → Option Nat} {qv : Nat → Nat} {len w : Nat}
theorem sp_needsOpening {v : Nat} {K : Int32 → am_H → Prop} (hE : EC h m ch L) (hv : ml_ok m) (hG : GB (m_aj m) L (m_th m) (m_nu m)) (hQ : QA h (c_mk ql cs orr) p r q e) (hV : VM (m_aj m) pr) (hr : ∀ v, v < m_nu m → r v = oi (rf v)) (hQL : QL (m_nu m) qv len q e) (hD : DN m L pr rf qv len) (hvn : v < m_nu m) (ht : m_th m v = true)
    (hK : K (bi (CV (m_aj m) L (m_th m) pr v)) h) : cl_I l g mX1_needsOpening (d + 3) x [.ref 26, .int (nI v)] h K := by
  have hn : m_nu m ≤ 300 := hv.1.2.2.2.2.2.1
  obtain ⟨hM, ⟨n, rb, cs', num, cr, pt, hP⟩, f6, h6, hf6⟩ := hE
  refine eX1_needsOpening (gtR hQ.1 rfl (gtR hP rfl (alI h6 (by omega) (by decide) ?_)))
  rw [hf6 v (by omega)]
  refine ⟨fun z => gtR hQ.1 rfl (alI hQ.2.2.1 (by omega) (by decide) ?_), fun z => gtR hQ.1 rfl (alI hQ.2.2.2.2 (by omega) (by decide) ?_)⟩
  · have hl := bi_0.mp z
    rw [hr v hvn]
    cases hrv : rf v with
    | none =>
      refine ⟨fun _ => ⟨_, rfl, ?_⟩, fun c => absurd rfl c⟩
      have : CV (m_aj m) L (m_th m) pr v = false := by
        refine Bool.eq_false_iff.mpr (fun c => ?_)
        rcases (CV_i.mp c).2 with y | y
        · rw [hl] at y; cases y.1
        · exact (hD.2.2.1 v hl).mpr y.2 hrv
      rw [this] at hK; exact hK
    | some a =>
      have hz := (hD.2.2.1 v hl).mp (by rw [hrv]; simp)
      have e1 : CV (m_aj m) L (m_th m) pr v = true := CV_i.mpr ⟨ht, Or.inr ⟨hl, hz⟩⟩
      rw [e1] at hK
      exact ⟨fun c => absurd c (n1_ne (by have := hD.2.2.2 v a hrv; omega)), fun _ => ⟨_, rfl, hK⟩⟩
  · have hl := bi_n0.mp z
    rw [hQL.2.2 v hvn]
    refine ⟨fun y => ⟨_, rfl, ?_⟩, fun y => gtR hQ.1 rfl ⟨⟨_, hM.1⟩, sp_linksOf hM (by omega) ⟨fun y2 => ?_, fun y2 => ⟨_, rfl, ?_⟩⟩⟩⟩
    · have hz := (hD.2.1 v hl).mp (bi_n0.mp y)
      have : CV (m_aj m) L (m_th m) pr v = false := by
        refine Bool.eq_false_iff.mpr (fun c => ?_)
        rcases (CV_i.mp c).2 with y | y
        · exact y.2 hz
        · rw [hl] at y; cases y.1
      rw [this] at hK; exact hK
    · exfalso
      have hz : ¬ Zr (m_aj m) L (m_th m) pr v := fun c => by have := (hD.2.1 v hl).mpr c; rw [bi_0.mp y] at this; cases this
      cases hpa : pr v with
      | none => exact hz (Zr.free ht hl hpa)
      | some b =>
        obtain ⟨v1, v2⟩ := hV v b hpa
        have h1 := fb_ct_pos (p := m_aj m v) (n := 320).mpr ⟨b, by have := (hG.t v1).2.2.2; omega, v1⟩
        have h2 := fb_ct_le (m_aj m v) 320
        have := (nI_leI (a := fb_ct (m_aj m v) 320) (b := 0) (by omega) (by decide)).mp y2
        omega
    · have hz : ¬ Zr (m_aj m) L (m_th m) pr v := fun c => by have := (hD.2.1 v hl).mpr c; rw [bi_0.mp y] at this; cases this
      rw [CV_i.mpr ⟨ht, Or.inl ⟨hl, hz⟩⟩] at hK; exact hK
theorem lm_mark {K : am_H → Prop} (hE : EC h m ch L) (hv : ml_ok m) (hG : GB (m_aj m) L (m_th m) (m_nu m)) (hV : VM (m_aj m) pr) (hr : ∀ v, v < m_nu m → r v = oi (rf v)) (hQL : QL (m_nu m) qv len q e) (hD : DN m L pr rf qv len)
    (hK : ∀ h' w, QA h' (c_mk ql cs (nI (fb_ct (CV (m_aj m) L (m_th m) pr) (m_nu m)))) p r q e → h'[27]? = some (am_O 2 [.ref 28]) → h'[28]? = some (am_L 20 w) → (∀ i, i < 320 → bt_r w 0 i = CV (m_aj m) L (m_th m) pr i ∧ bt_r w 1 i = false ∧ bt_r w 2 i = false ∧ bt_r w 3 i = false) → Fr 26 28 h h' → K h') :
    ∀ k a h1 w, a + k = m_nu m → QA h1 (c_mk ql cs (nI (fb_ct (CV (m_aj m) L (m_th m) pr) a))) p r q e → h1[27]? = some (am_O 2 [.ref 28]) → h1[28]? = some (am_L 20 w) → (∀ i, i < 320 → bt_r w 0 i = (CV (m_aj m) L (m_th m) pr i && decide (i < a)) ∧ bt_r w 1 i = false ∧ bt_r w 2 i = false ∧ bt_r w 3 i = false) → Fr 26 28 h h1 →
      am_J l g mX1_markOpened (d + 4) (0, 0, x) 2 [(0, .ref 26), (1, .int (nI a))] [] h1 (fun r h' => r = none ∧ K h') := by
  have hn : m_nu m ≤ 300 := hv.1.2.2.2.2.2.1
  intro k
  induction k with
  | zero =>
    intro a h1 w ha Q h27 h28 hw hf
    have hE1 : EC h1 m ch L := hE.fr (fun i hi => hf i (by omega))
    have : a = m_nu m := by omega
    subst this
    refine rX1_markOpened_2 (gtR Q.1 rfl (gtI hE1.1.1 rfl ⟨fun _ => ⟨rfl, hK h1 w Q h27 h28 (fun i hi => ⟨?_, (hw i hi).2⟩) hf⟩, fun z => absurd (nI_le (by omega) (by omega)) z⟩))
    rw [(hw i hi).1]
    rcases Nat.lt_or_ge i (m_nu m) with c | c
    · rw [decide_eq_true c, Bool.and_true]
    · rw [show CV (m_aj m) L (m_th m) pr i = false from Bool.eq_false_iff.mpr (fun z => by have := hv.2.1 i (CV_i.mp z).1; omega)]; rfl
  | succ k ih =>
    intro a h1 w ha Q h27 h28 hw hf
    have hE1 : EC h1 m ch L := hE.fr (fun i hi => hf i (by omega))
    have skip : CV (m_aj m) L (m_th m) pr a = false → zX1_markOpened_51 l g (d + 3) x 26 (nI a) h1 (fun r h' => r = none ∧ K h') := fun hno => by
      unfold zX1_markOpened_51
      rw [nI_1]
      refine ih (a + 1) h1 w (by omega) ?_ h27 h28 (fun i hi => ⟨?_, (hw i hi).2⟩) hf
      · rw [fb_ct_succ, hno]; exact Q
      · rw [(hw i hi).1]
        by_cases c : i = a
        · rw [c, hno]; rfl
        · rw [show decide (i < a) = decide (i < a + 1) from decide_eq_decide.mpr (by omega)]
    refine rX1_markOpened_2 (gtR Q.1 rfl (gtI hE1.1.1 rfl ⟨fun z => absurd ((nI_leI (by omega) (by omega)).mp z) (by omega), fun _ => gtR Q.1 rfl ⟨⟨_, hE1.1.1⟩, sp_isThere hE1.1 hv.1 (fun c => ?_) (fun j hj ej => ?_)⟩⟩))
    · exfalso
      rcases c with c | c
      · exact nI_pos (by omega) c
      · have := (nI_leI (by omega) (by omega)).mp c; omega
    · have := nI_eqI (by omega) (by omega) ej
      subst this
      refine ⟨fun z => skip (Bool.eq_false_iff.mpr (fun c => by have := (CV_i.mp c).1; rw [bi_0.mp z] at this; cases this)), fun z => ⟨⟨_, Q.1⟩, sp_needsOpening (d := d) hE1 hv hG Q hV hr hQL hD hj (bi_n0.mp z) ⟨fun y => skip (bi_0.mp y), fun y => gtR Q.1 rfl ⟨⟨_, h27⟩, sp_put (row := 0) h27 h28 (by omega) (by omega) (by omega) (by omega) (fun w1 hw1 => ?_)⟩⟩⟩⟩
      have hC := bi_n0.mp y
      have Q1 : QA (h1.set 28 (am_L 20 w1)) _ p r q e := Q.fr (fun i _ _ _ c => st_ne (Ne.symm c))
      refine gtI Q1.1 rfl (ptV Q1.1 (Nat.le_of_ble_eq_true rfl) ?_)
      rw [nI_1]
      unfold zX1_markOpened_51
      rw [nI_1]
      refine ih (a + 1) _ w1 (by omega) ?_ ((st_ne (by decide)).trans ((st_ne (by decide)).trans h27)) ((st_ne (by decide)).trans (st_eq h28)) (fun i hi => ?_) ((hf.st (by decide)).st (by decide))
      · rw [fb_ct_succ, if_pos hC]
        exact Q1.s0 (c' := c_mk ql cs (nI (fb_ct (CV (m_aj m) L (m_th m) pr) a + 1)))
      · obtain ⟨u0, u1, u2, u3⟩ := hw i hi
        refine ⟨?_, ?_, ?_, ?_⟩
        · rw [hw1 0 i hi]
          by_cases c : i = a
          · rw [if_pos ⟨rfl, c⟩, c, hC, decide_eq_true (Nat.lt_succ_self a)]; rfl
          · rw [if_neg (fun z => c z.2), u0, show decide (i < a) = decide (i < a + 1) from decide_eq_decide.mpr (by omega)]
        · rw [hw1 1 i hi, if_neg (fun z => absurd z.1 (by decide)), u1]
        · rw [hw1 2 i hi, if_neg (fun z => absurd z.1 (by decide)), u2]
        · rw [hw1 3 i hi, if_neg (fun z => absurd z.1 (by decide)), u3]
end CMARK
/-- what the making's fields say when they are fresh -/
def MO (h : am_H) (m : ml_T) (cs : Int32) : Prop := ∃ (ql : Int32) (cc : Nat) (p r q e : Nat → Int32) (w : Nat → Int64) (f : Nat → Int32) (res : Int32) (C : Nat → Bool), QA h (c_mk ql cs (nI cc)) p r q e ∧ h[27]? = some (am_O 2 [.ref 28]) ∧ h[28]? = some (am_L 20 w) ∧ h[33]? = some (am_I 0 300 f) ∧ MK m res C ∧ (res = -1 → cc = 0 ∧ ∀ i, i < 320 → bt_r w 0 i = false) ∧ (¬ res = -1 → cc = fb_ct C (m_nu m) ∧ res = nI cc ∧ (∀ i, i < 320 → bt_r w 0 i = C i) ∧ ∀ i, i < cc → f i = nI (o_r (m_aj m) (m_nu m) C i))
/-- pieces and making, fresh or not -/
def CS (h : am_H) (m : ml_T) (ch : Nat) : Prop := ∃ csP csM, PO h m csP ch ∧ (∃ ql orr p r q e w f, QA h (c_mk ql csM orr) p r q e ∧ h[27]? = some (am_O 2 [.ref 28]) ∧ h[28]? = some (am_L 20 w) ∧ h[33]? = some (am_I 0 300 f)) ∧ (csM = nI ch → csP = nI ch ∧ MO h m csM) ∧ (csP = -1 ∨ ∃ c, c ≤ ch ∧ csP = nI c) ∧ (csM = -1 ∨ ∃ c, c ≤ ch ∧ csM = nI c)
section CMAKING
variable {l : Launch} {g : am_G} {d : Nat} {x : Bool} {h : am_H} {m : ml_T} {ch : Nat}
theorem PA.has {c : am_C} {f1 f2 f3 f4 f5 f6 f7 : Nat → Int32} (P : PA h c f1 f2 f3 f4 f5 f6 f7) : h[18]? = some c := P.1
theorem PO.of {cs : Int32} (hR : PR h m cs) : PO h m cs ch := by
  obtain ⟨n, rb, pt, sd, f1, f2, f3, f4, f5, f6, f7, P, r⟩ := id hR
  exact ⟨⟨_, f1, f2, f3, f4, f5, f6, f7, ⟨_, _, _, _, _, rfl⟩, P⟩, fun _ => hR⟩
theorem MO.fr {h' : am_H} {cs : Int32} (hO : MO h m cs) (hf : ∀ i, 26 ≤ i → i ≤ 33 → h'[i]? = h[i]?) : MO h' m cs := by
  obtain ⟨ql, cc, p, r, q, e, w, f, res, C, a, b, c, d, rest⟩ := hO
  exact ⟨ql, cc, p, r, q, e, w, f, res, C, a.fr (fun i h1 h2 _ _ => hf i h1 (by omega)), (hf 27 (by decide) (by decide)).trans b, (hf 28 (by decide) (by decide)).trans c, (hf 33 (by decide) (by decide)).trans d, rest⟩
/-- the mail changed: neither is fresh -/
theorem CS.next {h' : am_H} {m' : ml_T} {ch' : Nat} (hC : CS h m ch) (hlt : ch < ch') (hb : ch' < 2 ^ 31) (hf : ∀ i, 18 ≤ i → i ≤ 33 → h'[i]? = h[i]?) : CS h' m' ch' := by
  obtain ⟨csP, csM, ⟨⟨c, f1, f2, f3, f4, f5, f6, f7, hc, P⟩, -⟩, ⟨ql, orr, p, r, q, e, w, f, a1, a2, a3, a4⟩, -, b1, b2⟩ := hC
  have no : ∀ cs : Int32, (cs = -1 ∨ ∃ c, c ≤ ch ∧ cs = nI c) → ¬ cs = nI ch' := fun cs hcs z => by
    rcases hcs with y | ⟨c, y1, y2⟩
    · rw [y] at z; exact n1_ne hb z.symm
    · rw [y2] at z
      have := nI_eqI (by omega) hb z
      omega
  refine ⟨csP, csM, ⟨⟨c, f1, f2, f3, f4, f5, f6, f7, hc, P.fr (fun i h1 h2 => hf i h1 (by omega))⟩, fun z => absurd z (no _ b1)⟩, ⟨ql, orr, p, r, q, e, w, f, a1.fr (fun i h1 h2 _ _ => hf i (by omega) (by omega)), (hf 27 (by decide) (by decide)).trans a2, (hf 28 (by decide) (by decide)).trans a3, (hf 33 (by decide) (by decide)).trans a4⟩, fun z => absurd z (no _ b2), ?_, ?_⟩
  · rcases b1 with y | ⟨c, y1, y2⟩
    · exact Or.inl y
    · exact Or.inr ⟨c, by omega, y2⟩
  · rcases b2 with y | ⟨c, y1, y2⟩
    · exact Or.inl y
    · exact Or.inr ⟨c, by omega, y2⟩
theorem CS.fr {h' : am_H} (hC : CS h m ch) (hf : ∀ i, 18 ≤ i → i ≤ 33 → h'[i]? = h[i]?) : CS h' m ch := by
  obtain ⟨csP, csM, ⟨⟨c, f1, f2, f3, f4, f5, f6, f7, hc, P⟩, pf⟩, ⟨ql, orr, p, r, q, e, w, f, a1, a2, a3, a4⟩, mf, b1, b2⟩ := hC
  exact ⟨csP, csM, ⟨⟨c, f1, f2, f3, f4, f5, f6, f7, hc, P.fr (fun i h1 h2 => hf i h1 (by omega))⟩, fun z => (pf z).fr (fun i h1 h2 => hf i h1 (by omega))⟩, ⟨ql, orr, p, r, q, e, w, f, a1.fr (fun i h1 h2 _ _ => hf i (by omega) (by omega)), (hf 27 (by decide) (by decide)).trans a2, (hf 28 (by decide) (by decide)).trans a3, (hf 33 (by decide) (by decide)).trans a4⟩, fun z => ⟨(mf z).1, (mf z).2.fr (fun i h1 h2 => hf i (by omega) h2)⟩, b1, b2⟩
theorem sp_pcRefresh {K : am_H → Prop} (hv : ml_ok m) (hM : MC h m ch) (hC : CS h m ch) (hK : ∀ h', PR h' m (nI ch) → CS h' m ch → Fr 18 25 h h' → K h') : cl_N l g mX3_refresh (d + 3) x [.ref 18] h K := by
  obtain ⟨csP, csM, hP, ⟨ql, orr, p, r, q, e, w, f, a1, a2, a3, a4⟩, mf, b1, b2⟩ := hC
  refine sp_refresh hv hM hP (fun h' R' f' => hK h' R' ⟨nI ch, csM, PO.of R', ⟨ql, orr, p, r, q, e, w, f, a1.fr (fun i h1 h2 _ _ => f' i (by omega)), (f' 27 (by decide)).trans a2, (f' 28 (by decide)).trans a3, (f' 33 (by decide)).trans a4⟩, fun z => ⟨rfl, (mf z).2.fr (fun i h1 h2 => f' i (by omega))⟩, Or.inr ⟨ch, Nat.le_refl _, rfl⟩, b2⟩ f')
set_option maxHeartbeats 1000000 in
theorem sp_mkRefresh {K : am_H → Prop} (hv : ml_ok m) (hM : MC h m ch) (hC : CS h m ch) (hK : ∀ h', PR h' m (nI ch) → MO h' m (nI ch) → CS h' m ch → Fr 18 33 h h' → K h') : cl_N l g mX1_refresh (d + 6) x [.ref 26] h K := by
  have hn : m_nu m ≤ 300 := hv.1.2.2.2.2.2.1
  obtain ⟨csP, csM, hP, ⟨ql, orr, p, r, q, e, w, f, Q, a2, a3, a4⟩, mf, b1, b2⟩ := id hC
  refine eX1_refresh (gtI Q.1 rfl (gtR Q.1 rfl (gtI hM.1 rfl ⟨fun z => gtR Q.1 rfl (gtI hM.1 rfl (ptV Q.1 (Nat.le_of_ble_eq_true rfl) ?_)), fun z => ⟨rfl, ?_⟩⟩)))
  · have Q1 := Q.s0 (c' := c_mk ql (nI ch) orr)
    have M1 : MC (h.set 26 (c_mk ql (nI ch) orr)) m ch := hM.fr (fun i a b => st_ne (by omega))
    have P1 : PO (h.set 26 (c_mk ql (nI ch) orr)) m csP ch := by
      obtain ⟨⟨c, f1, f2, f3, f4, f5, f6, f7, hc, P⟩, pf⟩ := hP
      exact ⟨⟨c, f1, f2, f3, f4, f5, f6, f7, hc, P.fr (fun i h1 h2 => st_ne (by omega))⟩, fun y => (pf y).fr (fun i h1 h2 => st_ne (by omega))⟩
    obtain ⟨⟨c, f1, f2, f3, f4, f5, f6, f7, ⟨n0, rb0, num0, cr0, pt0, hc⟩, PP⟩, -⟩ := id P1
    subst hc
    refine gtR Q1.1 rfl ⟨⟨_, PP.1⟩, sp_refresh (d0 := d + 2) hv M1 P1 (fun h2 R2 f2 => ?_)⟩
    have M2 : MC h2 m ch := M1.fr (fun i a b => f2 i (by omega))
    have Q2 : QA h2 (c_mk ql (nI ch) orr) p r q e := Q1.fr (fun i h1 h2 _ _ => f2 i (by omega))
    have a27 : h2[27]? = some (am_O 2 [.ref 28]) := (f2 27 (by decide)).trans ((st_ne (by decide)).trans a2)
    have a28 : h2[28]? = some (am_L 20 w) := (f2 28 (by decide)).trans ((st_ne (by decide)).trans a3)
    have a33 : h2[33]? = some (am_I 0 300 f) := (f2 33 (by decide)).trans ((st_ne (by decide)).trans a4)
    have F2 : Fr 18 33 h h2 := ((Fr.rf.st (by decide)) : Fr 18 33 h (h.set 26 (c_mk ql (nI ch) orr))).tr (f2.mono (by omega) (by omega))
    refine ptV Q2.1 (Nat.le_of_ble_eq_true rfl) ?_
    have Q3 := Q2.s0 (c' := c_mk ql (nI ch) (nI 0))
    refine gtR Q3.1 rfl ⟨⟨_, (st_ne (by decide)).trans a27⟩, sp_dropAll ((st_ne (by decide)).trans a27) ((st_ne (by decide)).trans a28) (by decide) (fun w1 hw1 => ?_)⟩
    have Q4 : QA ((h2.set 26 (c_mk ql (nI ch) (nI 0))).set 28 (am_L 20 w1)) (c_mk ql (nI ch) (nI 0)) p r q e := Q3.fr (fun i _ _ _ c => st_ne (Ne.symm c))
    have F4 : Fr 26 28 h2 ((h2.set 26 (c_mk ql (nI ch) (nI 0))).set 28 (am_L 20 w1)) := (Fr.rf.st (by decide)).st (by decide)
    have M4 : MC ((h2.set 26 (c_mk ql (nI ch) (nI 0))).set 28 (am_L 20 w1)) m ch := M2.fr (fun i a b => F4 i (by omega))
    have R4 : PR ((h2.set 26 (c_mk ql (nI ch) (nI 0))).set 28 (am_L 20 w1)) m (nI ch) := R2.fr (fun i a b => F4 i (by omega))
    have b27 : ((h2.set 26 (c_mk ql (nI ch) (nI 0))).set 28 (am_L 20 w1))[27]? = some (am_O 2 [.ref 28]) := (st_ne (by decide)).trans ((st_ne (by decide)).trans a27)
    have b28 : ((h2.set 26 (c_mk ql (nI ch) (nI 0))).set 28 (am_L 20 w1))[28]? = some (am_L 20 w1) := st_eq ((st_ne (by decide)).trans a28)
    have b33 : ((h2.set 26 (c_mk ql (nI ch) (nI 0))).set 28 (am_L 20 w1))[33]? = some (am_I 0 300 f) := (st_ne (by decide)).trans ((st_ne (by decide)).trans a33)
    -- in the end
    have endK : ∀ h', PR h' m (nI ch) → MO h' m (nI ch) → Fr 18 33 h h' → K h' := fun h' R' O' f' => by
      obtain ⟨ql', cc, p', r', q', e', w', f0, res, C, u1, u2, u3, u4, -⟩ := id O'
      exact hK h' R' O' ⟨nI ch, nI ch, PO.of R', ⟨ql', _, p', r', q', e', w', f0, u1, u2, u3, u4⟩, fun _ => ⟨rfl, O'⟩, Or.inr ⟨ch, Nat.le_refl _, rfl⟩, Or.inr ⟨ch, Nat.le_refl _, rfl⟩⟩ f'
    obtain ⟨n, rb, pt, sd, g1, g2, g3, g4, g5, g6, g7, PA4, c7, c5, c6, crt, ctw, cno⟩ := id R4
    refine gtR Q4.1 rfl (gtI PA4.1 rfl ⟨fun y => ⟨rfl, ?_⟩, fun y => ?_⟩)
    · have hpt := bi_0.mp y
      refine endK ((h2.set 26 (c_mk ql (nI ch) (nI 0))).set 28 (am_L 20 w1)) R4 ⟨ql, 0, p, r, q, e, w1, f, -1, fun _ => false, Q4, b27, b28, b33, Or.inl ⟨rfl, cno hpt⟩, fun _ => ⟨rfl, fun i hi => hw1 0 i (by omega) hi⟩, fun c => absurd rfl c⟩ (F2.tr (F4.mono (by omega) (by omega)))
    · have hpt := bi_n0.mp y
      have tw2 := ctw hpt
      have hLt : ∀ v, (m_th m v && sd v) = true → m_th m v = true := fun v c => by rw [Bool.and_eq_true] at c; exact c.1
      have hG : GB (m_aj m) (fun v => m_th m v && sd v) (m_th m) (m_nu m) := by
        refine ⟨aj_sy m, fun u v huv => ?_, fun a b hab => (aj_th hv hab).1, hv.2.1⟩
        obtain ⟨t1, t2, -⟩ := aj_th hv huv
        show (m_th m u && sd u) ≠ (m_th m v && sd v)
        rw [t1, t2, Bool.true_and, Bool.true_and]
        exact tw2 u v huv
      have E4 : EC ((h2.set 26 (c_mk ql (nI ch) (nI 0))).set 28 (am_L 20 w1)) m ch (fun v => m_th m v && sd v) := ⟨M4, ⟨_, _, _, _, _, _, PA4.1⟩, g6, PA4.2.2.2.2.2.2.1, c6⟩
      refine ⟨⟨_, Q4.1⟩, sp_pairWhatIsFree (d := d + 1) E4 hv hG hLt Q4 (fun h5 p5 pr5 Q5 hp5 hV5 f5 => ?_)⟩
      have E5 : EC h5 m ch (fun v => m_th m v && sd v) := E4.fr (fun i hi => f5 i (by omega))
      refine ⟨⟨_, Q5.1⟩, sp_pairAsMany (d := d) E5 hv hG hLt Q5 hp5 hV5 (fun h6 p6 r6 q6 e6 pr6 rf6 qv6 len6 Q6 hp6 hV6 hr6 hL6 hD6 f6 f6' => ?_)⟩
      have E6 : EC h6 m ch (fun v => m_th m v && sd v) := E5.fr (fun i hi => f6 i (by omega))
      have d27 : h6[27]? = some (am_O 2 [.ref 28]) := (f6' 27 (Or.inl rfl)).trans ((f5 27 (by decide)).trans b27)
      have d28 : h6[28]? = some (am_L 20 w1) := (f6' 28 (Or.inr rfl)).trans ((f5 28 (by decide)).trans b28)
      have d33 : h6[33]? = some (am_I 0 300 f) := (f6 33 (by decide)).trans ((f5 33 (by decide)).trans b33)
      refine ⟨⟨_, Q6.1⟩, eX1_markOpened (lm_mark (d := d + 1) (h := h6) E6 hv hG hV6 hr6 hL6 hD6 (fun h7 w7 Q7 e27 e28 hw7 f7 => ?_) (m_nu m) 0 h6 w1 (by omega) Q6 d27 d28 (fun i hi => ⟨?_, hw1 1 i (by omega) hi, hw1 2 i (by omega) hi, hw1 3 i (by omega) hi⟩) Fr.rf)⟩
      · have e33 : h7[33]? = some (am_I 0 300 f) := (f7 33 (by decide)).trans d33
        have M7 : MC h7 m ch := E6.1.fr (fun i a b => f7 i (by omega))
        have F7 : Fr 26 33 ((h2.set 26 (c_mk ql (nI ch) (nI 0))).set 28 (am_L 20 w1)) h7 := ((f5.mono (by omega) (by omega)).tr (f6.mono (by omega) (by omega))).tr (f7.mono (by omega) (by omega))
        refine ⟨⟨_, Q7.1⟩, eX1_putInOrder (gtR Q7.1 rfl (gtR Q7.1 rfl ⟨⟨_, e27⟩, sp_putAll (row := 1) (row2 := 0) e27 e28 e27 e28 (Or.inr (by decide)) (by omega) (by omega) (by omega) (by omega) (fun w8 hw8 => ?_)⟩))⟩
        have Q8 : QA (h7.set 28 (am_L 20 w8)) _ p6 r6 q6 e6 := Q7.fr (fun i _ _ _ c => st_ne (Ne.symm c))
        have M8 : MC (h7.set 28 (am_L 20 w8)) m ch := M7.fr (fun i a b => st_ne (by omega))
        refine lm_putOrder (d := d + 2) (h := h7.set 28 (am_L 20 w8)) (C := CV (m_aj m) (fun v => m_th m v && sd v) (m_th m) pr6) M8 hv (fun v c => hv.2.1 v (CV_i.mp c).1) rfl Q8.1 (fun h9 f9 R9 g33 hf9 fr9 fr9' => ⟨rfl, ?_⟩) _ 0 _ f (Nat.zero_add _) ⟨(st_ne (by decide)).trans e27, w8, st_eq e28, fun i hi => ?_⟩ ((st_ne (by decide)).trans e33) (fun i hi => by omega) Fr.rf (fun _ _ _ => rfl)
        · obtain ⟨u0, u1, u2, u3⟩ := hw7 i hi
          refine ⟨?_, ?_, ?_, ?_⟩
          · rw [hw8 0 i hi, if_neg (by decide), u0]
          · rw [hw8 1 i hi, if_pos rfl, u1, u0]; simp [o_st]
          · rw [hw8 2 i hi, if_neg (by decide), u2]; rfl
          · rw [hw8 3 i hi, if_neg (by decide), u3]
            refine (Bool.eq_false_iff.mpr (fun c => ?_)).symm
            obtain ⟨j, -, -, c3⟩ := o_nr_i.mp c
            cases c3
        · have F9 : Fr 26 33 ((h2.set 26 (c_mk ql (nI ch) (nI 0))).set 28 (am_L 20 w1)) h9 := (F7.st (by decide)).tr (fr9.mono (by omega) (by omega))
          have R9' : PR h9 m (nI ch) := R4.fr (fun i a b => F9 i (by omega))
          obtain ⟨i27, w9, i28, hw9⟩ := R9
          have Q9 : QA h9 _ p6 r6 q6 e6 := Q8.fr (fun i c1 c2 c3 c4 => by
            by_cases y : i = 26
            · rw [y]; exact fr9 26 (by decide)
            · exact fr9' i (by omega) (by omega))
          have hcov := cov_eq hG hV6 hD6.1
          have hle := fb_ct_le (CV (m_aj m) (fun v => m_th m v && sd v) (m_th m) pr6) (m_nu m)
          refine endK h9 R9' ⟨_, _, p6, r6, q6, e6, w9, f9, nI (PN (fun v => m_th m v && sd v) pr6 (m_nu m)), CV (m_aj m) (fun v => m_th m v && sd v) (m_th m) pr6, Q9, i27, i28, g33, Or.inr ⟨fun v => m_th m v && sd v, pr6, hLt, fun qq hq => ?_, hG, hV6, hD6.1, rfl, fun _ => rfl⟩, fun c => absurd c (n1_ne (by omega)), fun _ => ⟨rfl, by rw [hcov], fun i hi => (hw9 i hi).1, hf9⟩⟩ (F2.tr ((F4.mono (by omega) (by omega)).tr (F9.mono (by omega) (by omega))))
          show (m_th m qq && sd qq) = true
          rw [hq.1, crt qq hq]; rfl
      · rw [hw1 0 i (by omega) hi, show decide (i < 0) = false from decide_eq_false (by omega), Bool.and_false]
  · obtain ⟨e1, O⟩ := mf z
    have R := hP.2 e1
    rw [e1] at R
    rw [z] at O
    exact hK h R O hC Fr.rf
end CMAKING
