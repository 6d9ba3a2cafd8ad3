section MAIL4
variable {l : Launch} {g : am_G} {d : Nat} {x : Bool} {h : am_H} {m : ml_T} {ch : Nat}
/-- the links of r with numbers below b cut -/
def m_cut (m : ml_T) (r b : Nat) : ml_T := m_with m (fun u v => if (u = r ∧ v < b) ∨ (v = r ∧ u < b) then false else m_ov m u v)
def m_take (m : ml_T) (r : Nat) : ml_T := (m.1, m.2.1, m.2.2.1, m.2.2.2.1, (fun i => if i = r then false else m.2.2.2.2.1 i), (fun u v => if u = r ∨ v = r then false else m_ov m u v))
theorem MC.ext {m' : ml_T} (hM : MC h m ch) (he : m_eq m m') (ho : ∀ u v, u < 320 → v < 320 → m_ov m' u v = m_ov m u v) : MC h m' ch := by
  obtain ⟨e1, e2, e3, e4, e5⟩ := he
  obtain ⟨q0, hW, ⟨f3, h13, h13'⟩, h14, h16, ⟨fa, h15, h15'⟩, ⟨fj, h17, h17'⟩⟩ := hM
  have es : m_sh m' = m_sh m := by unfold m_sh; rw [e1, e2, e3]
  have en : m_nu m' = m_nu m := e4
  refine ⟨by rw [e2, e3, es, en]; exact q0, by rw [e1]; exact hW, ⟨f3, h13, fun i hi => ?_⟩, h14, h16, ⟨fa, h15, fun r i hr hi => ?_⟩, ⟨fj, h17, fun r i hr hi => ?_⟩⟩
  · rw [h13' i (by rw [← en]; exact hi)]; unfold m_th; rw [e5]
  · rw [h15' r i hr hi, ho r i (by omega) hi]
  · rw [h17' r i hr hi]; unfold m_aj; rw [ho r i (by omega) hi, ho i r hi (by omega)]
theorem m_cut_aj {r b i : Nat} (hi : b ≤ i) (hd : m_aj m r r = false) : m_aj (m_cut m r b) r i = m_aj m r i := by
  show ((if (r = r ∧ i < b) ∨ (i = r ∧ r < b) then false else m_ov m r i) || (if (i = r ∧ r < b) ∨ (r = r ∧ i < b) then false else m_ov m i r)) = (m_ov m r i || m_ov m i r)
  rw [if_neg (by omega), if_neg (by omega)]
theorem nx_cut {r b : Nat} {v : Int32} (hd : m_aj m r r = false) (hn : nx_m (m_cut m r b) r b v) : nx_m m r b v := by
  rcases hn with ⟨e, h1⟩ | ⟨j, e, h1, h2, h3, h4⟩
  · exact Or.inl ⟨e, fun i a c => by rw [← m_cut_aj a hd]; exact h1 i a c⟩
  · exact Or.inr ⟨j, e, h1, h2, by rw [← m_cut_aj h1 hd]; exact h3, fun i a c => by rw [← m_cut_aj a hd]; exact h4 i a c⟩
theorem lp_takeAway {r : Nat} {n : Int32} {Q : Option Value → am_H → Prop} (hv : ml_g m) (hr : r < m_nu m) (hlim : ∀ j, m_aj m r j = true → j < 300) (hd : m_aj m r r = false) (hK : ∀ h' ch', MC h' (m_take m r) ch' → ch < ch' → ch' ≤ ch + 301 → Fr 6 17 h h' → Q (some (.int n)) h') : ∀ k c frm v h1 c1, frm + k = 320 → c ≤ frm → c ≤ 300 → nx_m m r frm v → MC h1 (m_cut m r frm) c1 → ch ≤ c1 → c1 ≤ ch + c → Fr 6 17 h h1 → am_J l g mX0_takeAway (d + 2) (0, 0, x) 19 [(0, .ref 6), (1, .int (nI r)), (2, .int n), (3, .int v), (4, .int (nI c))] [] h1 Q := by
  have b6 := hv.2.2.2.2.2.1
  intro k
  induction k using Nat.strongRecOn with
  | ind k ih =>
  intro c frm v h1 c1 hk hcf hc3 hnx hM a1 a2 hf
  have fin : (∀ i, frm ≤ i → i < 320 → m_aj m r i = false) → zX0_takeAway_56 l g (d + 1) x 6 (nI r) n h1 Q := by
    intro hz
    obtain ⟨q0, hW, ⟨f3, h13, h13'⟩, h14, h16, ⟨fa, h15, h15'⟩, ⟨fj, h17, h17'⟩⟩ := hM
    have hr0 : r < 300 := by omega
    refine gtR q0 rfl (asI h13 hr0 (by omega) ?_)
    have e0 : (h1.set 13 (am_I 2 300 (upd f3 r 0)))[6]? = some (c_ml (nI m.2.1) (nI m.2.2.1) (nI (m_sh m)) (nI (m_nu m)) (nI c1)) := (st_ne (by decide)).trans q0
    refine gtI e0 rfl (ptV e0 (Nat.le_of_ble_eq_true rfl) ?_)
    rw [nI_1]
    have key : ∀ u w, u < 320 → w < 320 → m_ov (m_take m r) u w = m_ov (m_cut m r frm) u w := by
      intro u w hu hw
      show (if u = r ∨ w = r then false else m_ov m u w) = (if (u = r ∧ w < frm) ∨ (w = r ∧ u < frm) then false else m_ov m u w)
      by_cases e1 : u = r
      · subst e1
        by_cases e2 : w < frm
        · simp [e2]
        · have := hz w (by omega) hw
          simp only [m_aj, Bool.or_eq_false_iff] at this
          simp [this.1]
      · by_cases e2 : w = r
        · subst e2
          by_cases e3 : u < frm
          · simp [e3]
          · have := hz u (by omega) hu
            simp only [m_aj, Bool.or_eq_false_iff] at this
            simp [this.2]
        · simp [e1, e2]
    refine hK _ (c1 + 1) ⟨st_eq e0, ?_, ⟨upd f3 r 0, ?_, ?_⟩, ?_, ?_, ⟨fa, ?_, ?_⟩, ⟨fj, ?_, ?_⟩⟩ (by omega) (by omega) ((hf.st (by decide)).st (by decide))
    · refine WC.fr hW (fun i a b => ?_)
      rw [st_ne (by omega), st_ne (by omega)]
    · rw [st_ne (by decide)]; exact st_eq h13
    · intro i hi
      by_cases e : i = r
      · subst e
        rw [pk_us]
        have : m_th (m_take m i) i = false := if_pos rfl
        rw [this]; rfl
      · rw [pk_un e, h13' i hi]
        have : m_th (m_take m r) i = m_th m i := if_neg e
        rw [this]; rfl
    · rw [st_ne (by decide), st_ne (by decide)]; exact h14
    · rw [st_ne (by decide), st_ne (by decide)]; exact h16
    · rw [st_ne (by decide), st_ne (by decide)]; exact h15
    · intro u i hu hi
      rw [h15' u i hu hi, key u i (by omega) hi]
    · rw [st_ne (by decide), st_ne (by decide)]; exact h17
    · intro u i hu hi
      rw [h17' u i hu hi]; unfold m_aj; rw [key u i (by omega) hi, key i u hi (by omega)]
  refine rX0_takeAway_19 ⟨fun hq => fin (fun i i1 i2 => ?_), fun hq => ⟨fun hz => fin ?_, fun hz => ?_⟩⟩
  · have : 300 ≤ c := (nI_leI (a := 300) (by decide) (by omega)).mp hq
    cases ha : m_aj m r i with
    | false => rfl
    | true => exact absurd (hlim i ha) (by omega)
  · subst hz
    rcases hnx with ⟨-, hn⟩ | ⟨j, e, j1, j2, -⟩
    · exact hn
    · exact absurd e.symm (n1_ne (by omega))
  · have hlt : ¬ 300 ≤ c := fun q => hq ((nI_leI (a := 300) (by decide) (by omega)).mpr q)
    rcases hnx with ⟨e, -⟩ | ⟨j, rfl, j1, j2, j3, j4⟩
    · exact absurd e hz
    · have hj3 := hlim j j3
      refine ⟨⟨_, hM.1⟩, sp_part hM (by omega) (by omega) fun h2 hM2 hf2 => ?_⟩
      have hM3 : MC h2 (m_cut m r (j + 1)) (c1 + 1) := by
        refine MC.ext hM2 ⟨rfl, rfl, rfl, rfl, rfl⟩ (fun u w hu hw => ?_)
        show (if (u = r ∧ w < j + 1) ∨ (w = r ∧ u < j + 1) then false else m_ov m u w) = (if (u = r ∧ w = j) ∨ (u = j ∧ w = r) then false else (if (u = r ∧ w < frm) ∨ (w = r ∧ u < frm) then false else m_ov m u w))
        by_cases e1 : u = r
        · subst e1
          by_cases e2 : w < j + 1
          · by_cases e3 : w = j
            · simp [e3]
            · by_cases e4 : w < frm
              · simp [e2, e4]
              · have := j4 w (by omega) (by omega)
                simp only [m_aj, Bool.or_eq_false_iff] at this
                simp [this.1]
          · have h3 : ¬ w = j := by omega
            have h4 : ¬ w < frm := by omega
            by_cases e5 : w = u
            · subst e5
              simp [h3, h4]
              intro _
              omega
            · simp [e2, h3, h4, e5]
        · by_cases e2 : w = r
          · subst e2
            by_cases e3 : u < j + 1
            · by_cases e4 : u = j
              · simp [e4]
              · by_cases e5 : u < frm
                · simp [e3, e5]
                · have := j4 u (by omega) (by omega)
                  simp only [m_aj, Bool.or_eq_false_iff] at this
                  simp [this.2]
            · have h3 : ¬ u = j := by omega
              have h4 : ¬ u < frm := by omega
              simp [e1, e3, h3, h4]
          · simp [e1, e2]
      obtain ⟨q0, -, -, -, h16, -⟩ := id hM3
      rw [nI_1, nI_1]
      refine gtR q0 rfl ⟨⟨_, h16⟩, sp_nextM hM3 (by omega) (by omega) fun w hw => ?_⟩
      exact ih (320 - (j + 1)) (by omega) (c + 1) (j + 1) w h2 (c1 + 1) (by omega) (by omega) (by omega) (nx_cut hd hw) hM3 (by omega) (by omega) (hf.tr hf2)
theorem sp_takeAway {r : Nat} {K : Int32 → am_H → Prop} (hM : MC h m ch) (hv : ml_g m) (hr : r < m_nu m) (hlim : ∀ j, m_aj m r j = true → j < 300) (hd : m_aj m r r = false) (hK : ∀ h' ch', MC h' (m_take m r) ch' → ch < ch' → ch' ≤ ch + 301 → Fr 6 17 h h' → K (nI (fb_ct (m_aj m r) 320)) h') : cl_I l g mX0_takeAway (d + 3) x [.ref 6, .int (nI r)] h K := by
  have b6 := hv.2.2.2.2.2.1
  obtain ⟨q0, -, -, -, h16, -⟩ := id hM
  refine eX0_takeAway ⟨⟨_, q0⟩, sp_linksOf hM (by omega) (gtR q0 rfl ⟨⟨_, h16⟩, sp_nextM (frm := 0) hM (by omega) (by omega) fun v hv0 => ?_⟩)⟩
  refine lp_takeAway (ch := ch) (h := h) hv hr hlim hd (fun h' ch' a b c e => ⟨_, rfl, hK h' ch' a b c e⟩) 320 0 0 v h ch rfl (by omega) (by omega) hv0 ?_ (Nat.le_refl _) (by omega) Fr.rf
  refine MC.ext hM ⟨rfl, rfl, rfl, rfl, rfl⟩ (fun u w _ _ => ?_)
  show (if (u = r ∧ w < 0) ∨ (w = r ∧ u < 0) then false else m_ov m u w) = m_ov m u w
  rw [if_neg (by omega)]
/-- a ring is there again -/
def m_on (m : ml_T) (r : Nat) : ml_T := (m.1, m.2.1, m.2.2.1, m.2.2.2.1, (fun i => if i = r then true else m.2.2.2.2.1 i), m.2.2.2.2.2)
def m_md (m : ml_T) : Nat → ml_T
  | 0 => m
  | n + 1 => if m_th m n = true then m_md m n else m_jt (m_on (m_md m n) n) n m.1.2.1
theorem m_md_g (m : ml_T) : ∀ n, (m_md m n).1 = m.1 ∧ (m_md m n).2.1 = m.2.1 ∧ (m_md m n).2.2.1 = m.2.2.1 ∧ (m_md m n).2.2.2.1 = m.2.2.2.1 ∧ ∀ i, m_th (m_md m n) i = (if i < n then true else m_th m i) := by
  intro n
  induction n with
  | zero => exact ⟨rfl, rfl, rfl, rfl, fun i => by rw [if_neg (by omega)]; rfl⟩
  | succ n ih =>
    obtain ⟨a, b, c, e, f⟩ := ih
    simp only [m_md]
    by_cases ht : m_th m n = true
    · rw [if_pos ht]
      refine ⟨a, b, c, e, fun i => ?_⟩
      rw [f i]
      by_cases h1 : i < n
      · rw [if_pos h1, if_pos (by omega)]
      · rw [if_neg h1]
        by_cases h2 : i = n
        · subst h2; rw [if_pos (by omega), ht]
        · rw [if_neg (by omega)]
    · rw [if_neg ht]
      obtain ⟨e1, e2, e3, e4, e5⟩ := m_jt_eq (m_on (m_md m n) n) n m.1.2.1
      refine ⟨e1.trans a, e2.trans b, e3.trans c, e4.trans e, fun i => ?_⟩
      unfold m_th
      rw [e5]
      show (if i = n then true else m_th (m_md m n) i) = _
      rw [f i]
      by_cases h1 : i < n
      · rw [if_pos h1]
        by_cases h2 : i = n
        · omega
        · rw [if_neg h2, if_pos (by omega)]
      · by_cases h2 : i = n
        · rw [if_pos h2, if_pos (by omega)]
        · rw [if_neg h2, if_neg h1, if_neg (by omega)]; rfl
theorem m_md_gg {n : Nat} (hv : ml_g m) : ml_g (m_md m n) ∧ m_sh (m_md m n) = m_sh m := by
  obtain ⟨a, b, c, e, -⟩ := m_md_g m n
  have es : m_sh (m_md m n) = m_sh m := by unfold m_sh; rw [a, b, c]
  refine ⟨?_, es⟩
  unfold ml_g m_nu at *
  rw [es, a, b, c, e]
  exact hv
theorem lp_mend {Q : Option Value → am_H → Prop} (hv : ml_g m) (hK : ∀ h' ch', MC h' (m_md m (m_sh m)) ch' → (ch ≤ ch' ∧ (ch < ch' ∨ m_md m (m_sh m) = m)) → ch' ≤ ch + 49 * m_sh m → Fr 6 17 h h' → Q (some (.int (nI (fb_ct (fun i => !m_th m i) (m_sh m))))) h') : ∀ k c h1 c1, c + k = m_sh m → MC h1 (m_md m c) c1 → (ch ≤ c1 ∧ (ch < c1 ∨ m_md m c = m)) → c1 ≤ ch + 49 * c → Fr 6 17 h h1 → am_J l g mX0_mendWorn (d + 4) (0, 0, x) 4 [(0, .ref 6), (1, .int (nI (fb_ct (fun i => !m_th m i) c))), (2, .int (nI c))] [] h1 Q := by
  have b5 := hv.2.2.2.1
  have b6 := hv.2.2.2.2.2.1
  have b7 := hv.2.2.2.2.1
  intro k
  induction k with
  | zero =>
    intro c h1 c1 hc hM a1 a2 hf
    have : c = m_sh m := by omega
    subst this
    refine rX0_mendWorn_4 (gtI hM.1 rfl ⟨fun _ => hK h1 c1 hM a1 a2 hf, fun hq => absurd ?_ hq⟩)
    rw [(m_md_gg hv).2]; exact nI_le (Nat.le_refl _) (by omega)
  | succ k ih =>
    intro c h1 c1 hc hM a1 a2 hf
    obtain ⟨hg, es⟩ := m_md_gg (n := c) hv
    obtain ⟨e1, e2, e3, e4, e5⟩ := m_md_g m c
    have hM' := hM
    obtain ⟨q0, hW, ⟨f3, h13, h13'⟩, h14, h16, ⟨fa, h15, h15'⟩, ⟨fj, h17, h17'⟩⟩ := hM'
    have hth : m_th (m_md m c) c = m_th m c := by rw [e5 c, if_neg (by omega)]
    have en : m_nu (m_md m c) = m_nu m := e4
    refine rX0_mendWorn_4 (gtI q0 rfl ⟨fun hq => ?_, fun _ => gtR q0 rfl (alI h13 (by omega) (by omega) ?_)⟩)
    · rw [es] at hq
      exact absurd ((nI_leI (by omega) (by omega)).mp hq) (by omega)
    rw [h13' c (by omega), hth]
    refine ⟨fun hz => ?_, fun hz => ?_⟩
    · unfold zX0_mendWorn_46
      have ht : m_th m c = true := bi_n0.mp hz
      have e : fb_ct (fun i => !m_th m i) (c + 1) = fb_ct (fun i => !m_th m i) c := by rw [fb_ct_succ]; simp [ht]
      rw [nI_1, ← e]
      refine ih (c + 1) h1 c1 (by omega) ?_ ⟨a1.1, a1.2.imp id (fun q => by simp only [m_md]; rw [if_pos ht]; exact q)⟩ (by omega) hf
      simp only [m_md]; rw [if_pos ht]; exact hM
    · have ht : m_th m c = false := bi_0.mp hz
      have e : fb_ct (fun i => !m_th m i) (c + 1) = fb_ct (fun i => !m_th m i) c + 1 := by rw [fb_ct_succ]; simp [ht]
      refine gtR q0 rfl (asI h13 (by omega) (by omega) ?_)
      have hMo : MC (h1.set 13 (am_I 2 300 (upd f3 c 1))) (m_on (m_md m c) c) c1 := by
        refine ⟨(st_ne (by decide)).trans q0, WC.fr hW (fun i a b => st_ne (by omega)), ⟨_, st_eq h13, fun i hi => ?_⟩, (st_ne (by decide)).trans h14, (st_ne (by decide)).trans h16, ⟨fa, (st_ne (by decide)).trans h15, h15'⟩, ⟨fj, (st_ne (by decide)).trans h17, h17'⟩⟩
        by_cases ee : i = c
        · subst ee
          rw [pk_us]
          have : m_th (m_on (m_md m i) i) i = true := if_pos rfl
          rw [this]; rfl
        · rw [pk_un ee, h13' i hi]
          have : m_th (m_on (m_md m c) c) i = m_th (m_md m c) i := if_neg ee
          rw [this]
      have hgo : ml_g (m_on (m_md m c) c) := hg
      have eso : m_sh (m_on (m_md m c) c) = m_sh m := es
      refine ⟨⟨_, hMo.1⟩, sp_joinAll hMo hgo (by omega) fun h6 c6 hM6 a3 a4 hf6 => ?_⟩
      have ewl : (m_on (m_md m c) c).1.2.1 = m.1.2.1 := by show (m_md m c).1.2.1 = _; rw [e1]
      rw [ewl] at hM6
      refine gtI hM6.1 rfl (ptV hM6.1 (Nat.le_of_ble_eq_true rfl) ?_)
      unfold zX0_mendWorn_46
      rw [nI_1, nI_1, nI_1, ← e]
      refine ih (c + 1) _ (c6 + 1) (by omega) ?_ ⟨by have := a1.1; omega, Or.inl (by have := a1.1; omega)⟩ (by omega) (((hf.st (by decide)).tr hf6).st (by decide))
      simp only [m_md]
      rw [if_neg (by rw [ht]; decide)]
      obtain ⟨r0, rW, ⟨r3, r13, r13'⟩, r14, r16, ⟨ra, r15, r15'⟩, ⟨rj, r17, r17'⟩⟩ := hM6
      exact ⟨st_eq r0, WC.fr rW (fun i a b => st_ne (by omega)), ⟨r3, (st_ne (by decide)).trans r13, r13'⟩, (st_ne (by decide)).trans r14, (st_ne (by decide)).trans r16, ⟨ra, (st_ne (by decide)).trans r15, r15'⟩, ⟨rj, (st_ne (by decide)).trans r17, r17'⟩⟩
theorem sp_mend {K : Int32 → am_H → Prop} (hM : MC h m ch) (hv : ml_g m) (hK : ∀ h' ch', MC h' (m_md m (m_sh m)) ch' → (ch ≤ ch' ∧ (ch < ch' ∨ m_md m (m_sh m) = m)) → ch' ≤ ch + 11760 → Fr 6 17 h h' → K (nI (fb_ct (fun i => !m_th m i) (m_sh m))) h') : cl_I l g mX0_mendWorn (d + 4) x [.ref 6] h K := by
  have b5 := hv.2.2.2.1
  exact eX0_mendWorn (lp_mend (ch := ch) (h := h) hv (fun h' ch' a b c e => ⟨_, rfl, hK h' ch' a b (by omega) e⟩) (m_sh m) 0 h ch (by omega) hM ⟨Nat.le_refl _, Or.inr rfl⟩ (by omega) Fr.rf)
end MAIL4
