theorem oI_neg (z : Int) : -Int32.ofInt z = Int32.ofInt (-z) := (Int32.ofInt_neg z).symm
theorem WM.l {h : am_H} {Wh Wl : wv_T} (hW : WM h Wh Wl) : ∃ fr fl f1 f2 f3 f4 f5 : Nat → Int32, h[52]? = some (am_I 0 3 fr) ∧ h[54]? = some (am_I 0 3 fl) ∧ h[55]? = some (am_I 0 72 f1) ∧ h[56]? = some (am_I 0 72 f2) ∧ h[57]? = some (am_I 0 72 f3) ∧ h[58]? = some (am_I 0 72 f4) ∧ h[59]? = some (am_I 2 72 f5) ∧ fr 2 = nI Wl.1 ∧ fl 2 = nI Wl.2.1 ∧ ∀ k, k < Wl.2.1 → f1 (48 + k) = nI (Wl.2.2 k).1 ∧ f2 (48 + k) = nI (Wl.2.2 k).2.1 ∧ f3 (48 + k) = Int32.ofInt (Wl.2.2 k).2.2.1 ∧ f4 (48 + k) = Int32.ofInt (Wl.2.2 k).2.2.2.1 ∧ f5 (48 + k) = bi (Wl.2.2 k).2.2.2.2 := by
  obtain ⟨fr, fl, f1, f2, f3, f4, f5, h1, h2, h3, h4, h5, h6, h7, h8, h9, h10, h11, h12, h13⟩ := hW
  exact ⟨fr, fl, f1, f2, f3, f4, f5, h1, h2, h3, h4, h5, h6, h7, h10, h11, h13⟩
theorem MM.ext {h : am_H} {m m' : ml_T} {Wh : wv_T} {o : mo_T} (hM : MM h m Wh o) (he : m_eq m m') (ho : ∀ u v, u < 300 → v < 300 → m_ov m' u v = m_ov m u v) : MM h m' Wh o := by
  obtain ⟨e1, e2, e3, e4, e5⟩ := he
  obtain ⟨q0, hW, ⟨f, h60, h60'⟩, ⟨ft, h61, h61'⟩⟩ := hM
  have es : m_sh m' = m_sh m := by unfold m_sh; rw [e1, e2, e3]
  have en : m_nu m' = m_nu m := e4
  refine ⟨by rw [e2, e3, es, en]; exact q0, by rw [e1]; exact hW, ⟨f, h60, fun i hi => ?_⟩, ⟨ft, h61, fun a b ha hb => ?_⟩⟩
  · rw [h60' i (by rw [← en]; exact hi)]; unfold m_th; rw [e5]
  · rw [h61' a b ha hb]; unfold tv; rw [ho a b ha hb, ho b a hb ha]
section MODEL2
variable {l : Launch} {g : am_G} {d : Nat} {x : Bool} {h : am_H} {m : ml_T} {Wh : wv_T} {o : mo_T}
theorem ms_partner {r t : Nat} {f : Bool} {K : Int32 → am_H → Prop} (hM : MM h m Wh o) (hv : ml_g m) (hr : r < m_sh m) (ht : t < m.1.2.1) (h1 : m_is m r t f = true → m_in m r t f = true → K (nI (m_oth m r t f)) h) (h0 : (m_is m r t f && m_in m r t f) = false → K (-1) h) : cl_I l g mX9_partner d x [.ref 46, .int (nI r), .int (nI t), .int (bi f)] h K := by
  have b1 := hv.2.1
  have b2 := hv.2.2.1
  have b3 := hv.1.1
  have b4 := hv.1.2.1
  have b5 := hv.2.2.2.1
  obtain ⟨k1, k2, k3, k4, k5, k6, -⟩ := hv.1.2.2.1 t ht
  have he := m_end_lt hv ht
  obtain ⟨q0, hW, -⟩ := hM
  obtain ⟨fr, fl, f1, f2, f3, f4, f5, w52, w54, w1, w2, w3, w4, w5, e52, e54, w6⟩ := hW.l
  obtain ⟨t1, t2, t3, t4, t5⟩ := w6 t ht
  have hR : 0 < m.1.1 := by omega
  have hc0 : 0 < m.2.1 := by
    rcases Nat.eq_zero_or_pos m.2.1 with z | z
    · unfold m_sh at hr; rw [z] at hr; simp at hr
    · exact z
  have hdl : r / m.1.1 < 300 := Nat.lt_of_le_of_lt (Nat.div_le_self _ _) (by omega)
  have hml : r / m.1.1 % m.2.1 < 12 := Nat.lt_of_lt_of_le (Nat.mod_lt _ hc0) b1
  have hdl2 : r / m.1.1 / m.2.1 < 300 := Nat.lt_of_le_of_lt (Nat.div_le_self _ _) hdl
  have hmr : r % m.1.1 < m.1.1 := Nat.mod_lt _ hR
  refine eX9_partner (gtR q0 rfl (alI (i := 2) w52 (by decide) (by decide) ?_))
  rw [e52, show (48 : Int32) + nI t = nI (48 + t) from nI_add 48 t, nI_mod (by omega) hR (by omega)]
  -- behind the columns and rows
  have key : ∀ (zy : Int), m_is m r t f = true → m_cy m r t f = ((r / m.1.1 / m.2.1 : Nat) : Int) + zy → -9 ≤ zy → zy ≤ 9 → -9 ≤ m_sx m t f → m_sx m t f ≤ 9 → zX9_partner_109 l g d x 46 (bi f) (nI (48 + t)) (nI m.1.1) (Int32.ofInt (m_cx m r t f)) (nI (r / m.1.1 / m.2.1)) (Int32.ofInt zy) h (fun r h' => ∃ v, r = some (.int v) ∧ K v h') := by
    intro zy his ey g1 g2 g3 g4
    have bx : -300 ≤ m_cx m r t f ∧ m_cx m r t f < 300 := by unfold m_cx; have := hml; generalize r / m.1.1 % m.2.1 = zz at this ⊢; omega
    have by' : -300 ≤ m_cy m r t f ∧ m_cy m r t f < 400 := by rw [ey]; have := hdl2; generalize r / m.1.1 / m.2.1 = zz at this ⊢; omega
    have tx := oI_toInt (z := m_cx m r t f) (by omega) (by omega)
    have ty := oI_toInt (z := m_cy m r t f) (by omega) (by omega)
    unfold zX9_partner_109
    rw [oI_add, ← ey]
    have no : (¬ (0 ≤ m_cx m r t f ∧ m_cx m r t f < m.2.1 ∧ 0 ≤ m_cy m r t f ∧ m_cy m r t f < m.2.2.1)) → ∃ v, some (Value.int (-1)) = some (.int v) ∧ K v h := fun hq => by
      refine ⟨_, rfl, h0 ?_⟩
      have : m_in m r t f = false := by
        cases hin : m_in m r t f with
        | false => rfl
        | true =>
          simp only [m_in, Bool.and_eq_true, decide_eq_true_eq] at hin
          exact absurd ⟨hin.1.1.1, hin.1.1.2, hin.1.2, hin.2⟩ hq
      rw [this]; simp
    refine ⟨fun hc => no ?_, fun hc => ⟨fun hd => no ?_, fun hd => gtI q0 rfl ⟨fun he' => no ?_, fun he' => gtI q0 rfl ⟨fun hf' => gtI q0 rfl ?_, fun hf' => no ?_⟩⟩⟩⟩
    · rw [fa_lt, tx] at hc
      have : m_cx m r t f < 0 := hc
      omega
    · rw [fa_lt, ty] at hd
      have : m_cy m r t f < 0 := hd
      omega
    · rw [fa_le, tx, nI_toInt (by omega)] at he'
      omega
    · have i1 : 0 ≤ m_cx m r t f := by
        rw [fa_lt, tx] at hc
        have : ¬ m_cx m r t f < 0 := hc
        omega
      have i2 : m_cx m r t f < m.2.1 := by rw [fa_le, tx, nI_toInt (by omega)] at he'; omega
      have i3 : 0 ≤ m_cy m r t f := by
        rw [fa_lt, ty] at hd
        have : ¬ m_cy m r t f < 0 := hd
        omega
      have i4 : m_cy m r t f < m.2.2.1 := by rw [fa_lt, ty, nI_toInt (by omega)] at hf'; omega
      have hin : m_in m r t f = true := by
        simp only [m_in, Bool.and_eq_true, decide_eq_true_eq]
        exact ⟨⟨⟨i1, i2⟩, i3⟩, i4⟩
      have hk := h1 his hin
      rw [nI_int i1, nI_int i3, pk_mul, nI_add, pk_mul]
      refine ⟨fun hz => ?_, fun hz => ?_⟩
      · have hf0 : f = false := bi_0.mp hz
        subst hf0
        refine gtR q0 rfl (alI w1 (by omega) (by omega) ?_)
        rw [t1]
        unfold zX9_partner_178
        rw [nI_add]
        exact ⟨_, rfl, hk⟩
      · have hf0 : f = true := bi_n0.mp hz
        subst hf0
        refine gtR q0 rfl (alI w2 (by omega) (by omega) ?_)
        rw [t2]
        unfold zX9_partner_178
        rw [nI_add]
        exact ⟨_, rfl, hk⟩
    · rw [fa_lt, ty, nI_toInt (by omega)] at hf'
      omega
  have key2 : ∀ (zx : Int), m_is m r t f = true → m_cx m r t f = ((r / m.1.1 % m.2.1 : Nat) : Int) + zx → zX9_partner_75 l g d x 46 (nI r) (bi f) (nI (48 + t)) (nI m.1.1) (nI (r / m.1.1 % m.2.1)) (Int32.ofInt zx) h (fun r h' => ∃ v, r = some (.int v) ∧ K v h') := by
    intro zx his ex
    unfold zX9_partner_75
    refine ⟨nI_ne0 hR (by omega), gtI q0 rfl ⟨nI_ne0 hc0 (by omega), ?_⟩⟩
    rw [oI_add, ← ex, pk_div (by omega) hR (by omega), pk_div (by omega) hc0 (by omega)]
    refine ⟨fun hz => ?_, fun hz => ?_⟩
    · have hf0 : f = false := bi_0.mp hz
      subst hf0
      refine gtR q0 rfl (alI w4 (by omega) (by omega) ?_)
      rw [t4, oI_neg]
      exact key _ his rfl (by omega) (by omega) (by unfold m_sx; simp; omega) (by unfold m_sx; simp; omega)
    · have hf0 : f = true := bi_n0.mp hz
      subst hf0
      refine gtR q0 rfl (alI w4 (by omega) (by omega) ?_)
      rw [t4]
      exact key _ his rfl (by omega) (by omega) (by unfold m_sx; simp; omega) (by unfold m_sx; simp; omega)
  have key3 : zX9_partner_39 l g d x 46 (nI r) (bi f) (nI (48 + t)) (nI m.1.1) (nI (r % m.1.1)) (nI (m_end m t f)) h (fun r h' => ∃ v, r = some (.int v) ∧ K v h') := by
    refine ⟨fun hz => ?_, fun hz => ⟨_, rfl, h0 ?_⟩⟩
    · have his : m_is m r t f = true := decide_eq_true (nI_eqI (by omega) (by have := he f; omega) hz)
      refine ⟨nI_ne0 hR (by omega), gtI q0 rfl ⟨nI_ne0 hc0 (by omega), ?_⟩⟩
      rw [pk_div (by omega) hR (by omega), nI_mod (by omega) hc0 (by omega)]
      refine ⟨fun hz => ?_, fun hz => ?_⟩
      · have hf0 : f = false := bi_0.mp hz
        subst hf0
        refine gtR q0 rfl (alI w3 (by omega) (by omega) ?_)
        rw [t3, oI_neg]
        exact key2 _ his rfl
      · have hf0 : f = true := bi_n0.mp hz
        subst hf0
        refine gtR q0 rfl (alI w3 (by omega) (by omega) ?_)
        rw [t3]
        exact key2 _ his rfl
    · have : m_is m r t f = false := decide_eq_false (fun e => hz (by rw [e]))
      rw [this]; rfl
  refine ⟨nI_ne0 hR (by omega), ⟨fun hz => ?_, fun hz => ?_⟩⟩
  · have hf0 : f = false := bi_0.mp hz
    subst hf0
    refine gtR q0 rfl (alI w2 (by omega) (by omega) ?_)
    rw [t2]
    exact key3
  · have hf0 : f = true := bi_n0.mp hz
    subst hf0
    refine gtR q0 rfl (alI w1 (by omega) (by omega) ?_)
    rw [t1]
    exact key3
def m_k1 (m : ml_T) (r t : Nat) (f : Bool) : ml_T := if (m_is m r t f && m_in m r t f && m_th m (m_oth m r t f)) = true then m_sets m r (m_oth m r t f) (if m_o m t = f then 1 else -1) else m
def m_kt (m : ml_T) (r : Nat) : Nat → ml_T
  | 0 => m
  | n + 1 => m_k1 (m_k1 (m_kt m r n) r n true) r n false
theorem m_k1_no {m : ml_T} {r t : Nat} {f : Bool} (h : (m_is m r t f && m_in m r t f && m_th m (m_oth m r t f)) = false) : m_k1 m r t f = m := by
  unfold m_k1; rw [h]; rfl
theorem m_k1_yes {m : ml_T} {r t : Nat} {f : Bool} (h : (m_is m r t f && m_in m r t f && m_th m (m_oth m r t f)) = true) : m_k1 m r t f = m_sets m r (m_oth m r t f) (if m_o m t = f then 1 else -1) := by
  unfold m_k1; rw [if_pos h]
theorem m_k1_eq (m : ml_T) (r t : Nat) (f : Bool) : m_eq m (m_k1 m r t f) := by
  unfold m_k1
  split
  · exact ⟨rfl, rfl, rfl, rfl, rfl⟩
  · exact m_eq.rf
theorem m_kt_eq (m : ml_T) (r : Nat) : ∀ n, m_eq m (m_kt m r n)
  | 0 => m_eq.rf
  | n + 1 => (m_kt_eq m r n).tr ((m_k1_eq _ r n true).tr (m_k1_eq _ r n false))
/-- a ring isn't its own other ring -/
theorem m_oth_ne {m : ml_T} (hv : ml_g m) {r t : Nat} {f : Bool} (ht : t < m.1.2.1) (hr : r < m_sh m) (h1 : m_is m r t f = true) (h2 : m_in m r t f = true) : m_oth m r t f ≠ r := by
  intro e
  by_cases ho : m_o m t = f
  · have := tl1_intro hr h1 h2 e ho
    exact (tl_anti hv ((tl_n_iff _).mpr ⟨t, f, ht, this⟩)).1 rfl
  · obtain ⟨k1, k2, k3, -⟩ := m_back hv ht hr h1 h2
    rw [e] at k1 k2 k3
    have := tl1_intro hr k1 k2 k3 (show m_o m t = !f by revert ho; cases m_o m t <;> cases f <;> simp)
    exact (tl_anti hv ((tl_n_iff _).mpr ⟨t, !f, ht, this⟩)).1 rfl
theorem lm_links {r : Nat} {Q : Option Value → am_H → Prop} (hv : ml_g m) (hr : r < m_sh m) (hK : ∀ h', MM h' (m_kt m r m.1.2.1) Wh o → Fr 61 61 h h' → Q none h') : ∀ k c h1, c + k = m.1.2.1 → MM h1 (m_kt m r c) Wh o → Fr 61 61 h h1 → am_J l g mX9_links (d + 1) (0, 0, x) 2 [(0, .ref 46), (1, .int (nI r)), (2, .int (nI c))] [] h1 Q := by
  have b4 := hv.1.2.1
  have b5 := hv.2.2.2.1
  have b6 := hv.2.2.2.2.2.1
  have b7 := hv.2.2.2.2.1
  intro k
  induction k with
  | zero =>
    intro c h1 hc hM hf
    have : c = m.1.2.1 := by omega
    subst this
    have e1 : (m_kt m r m.1.2.1).1 = m.1 := (m_kt_eq m r _).1
    have hM' := hM
    obtain ⟨q0, hW, -⟩ := hM'
    obtain ⟨fr, fl, f1, f2, f3, f4, f5, w52, w54, w1, w2, w3, w4, w5, e52, e54, w6⟩ := hW.l
    refine rX9_links_2 (gtR q0 rfl (alI (i := 2) w54 (by decide) (by decide) ⟨fun _ => hK h1 hM hf, fun hq => absurd ?_ hq⟩))
    rw [e54, e1]; exact nI_le (Nat.le_refl _) (by omega)
  | succ k ih =>
    intro c h1 hc hM hf
    have he := m_kt_eq m r c
    have e1 : (m_kt m r c).1 = m.1 := he.1
    have hg := he.g hv
    have es := he.sh
    have hnu : m_nu (m_kt m r c) = m_nu m := he.2.2.2.1
    have htc : c < (m_kt m r c).1.2.1 := by rw [e1]; omega
    have hM' := hM
    obtain ⟨q0, hW, ⟨f60, h60, h60'⟩, -⟩ := hM'
    obtain ⟨fr, fl, f1, f2, f3, f4, f5, w52, w54, w1, w2, w3, w4, w5, e52, e54, w6⟩ := hW.l
    refine rX9_links_2 (gtR q0 rfl (alI (i := 2) w54 (by decide) (by decide) ⟨fun hq => ?_, fun _ => gtR q0 rfl ?_⟩))
    · rw [e54, e1] at hq
      exact absurd ((nI_leI (by omega) (by omega)).mp hq) (by omega)
    rw [show (48 : Int32) + nI c = nI (48 + c) from nI_add 48 c]
    refine alI w5 (by omega) (by omega) ?_
    rw [(w6 c htc).2.2.2.2]
    -- one link, with its way
    have fin : ∀ h2, MM h2 (m_k1 (m_k1 (m_kt m r c) r c true) r c false) Wh o → Fr 61 61 h h2 → zX9_links_95 l g d x 46 (nI r) (nI c) h2 Q := fun h2 hM2 hf2 => by
      unfold zX9_links_95
      rw [nI_1]
      exact ih (c + 1) h2 (by omega) hM2 hf2
    have go : ∀ w : Int, (w = if m_o (m_kt m r c) c = true then 1 else -1) → zX9_links_29 l g d x 46 (nI r) (nI c) (Int32.ofInt w) h1 Q := by
      intro w hw
      have hw' : w = 1 ∨ w = -1 := by rw [hw]; split <;> simp
      -- the second one
      have snd : ∀ h3 v, MM h3 (m_k1 (m_kt m r c) r c true) Wh o → Fr 61 61 h h3 → ((m_is (m_kt m r c) r c false = true ∧ m_in (m_kt m r c) r c false = true ∧ v = nI (m_oth (m_kt m r c) r c false)) ∨ ((m_is (m_kt m r c) r c false && m_in (m_kt m r c) r c false) = false ∧ v = -1)) → zX9_links_71 l g d x 46 (nI r) (nI c) (Int32.ofInt w) v h3 Q := by
        intro h3 v hM3 hf3 hv3
        have he3 := m_k1_eq (m_kt m r c) r c true
        obtain ⟨a1, a2, a3, a4, a5⟩ := he3.is r c false
        have hg3 := he3.g hg
        have hM3' := hM3
        obtain ⟨r0, -, ⟨g60, k60, k60'⟩, -⟩ := hM3'
        have hn3 : m_nu (m_k1 (m_kt m r c) r c true) = m_nu m := he3.2.2.2.1.trans hnu
        rcases hv3 with ⟨i1, i2, rfl⟩ | ⟨i1, rfl⟩
        · have ho := m_oth_lt hg htc i2
          refine ⟨fun hz => absurd hz (nI_pos (by omega)), fun _ => gtR r0 rfl (alI k60 (by omega) (by omega) ?_)⟩
          rw [k60' _ (by omega), a5]
          refine ⟨fun hz => fin h3 ?_ hf3, fun hz => ⟨⟨_, r0⟩, ?_⟩⟩
          · have : m_th (m_kt m r c) (m_oth (m_kt m r c) r c false) = false := bi_0.mp hz
            have hk : m_k1 (m_k1 (m_kt m r c) r c true) r c false = m_k1 (m_kt m r c) r c true := m_k1_no (by rw [a1, a2, a3, a5, this]; simp)
            rw [hk]; exact hM3
          · have hth : m_th (m_kt m r c) (m_oth (m_kt m r c) r c false) = true := bi_n0.mp hz
            rw [oI_neg]
            refine ms_sets hM3 (by omega) (by omega) (Or.inl (Ne.symm (m_oth_ne hg htc (by omega) i1 i2))) (by omega) fun h4 hM4 hf4 => fin h4 ?_ (hf3.tr hf4)
            have hk : m_k1 (m_k1 (m_kt m r c) r c true) r c false = m_sets (m_k1 (m_kt m r c) r c true) r (m_oth (m_kt m r c) r c false) (-w) := by
              rw [m_k1_yes (by rw [a1, a2, a3, a5, i1, i2, hth]; rfl), a3, a4]
              congr 1
              rw [hw]
              cases m_o (m_kt m r c) c <;> simp
            rw [hk]; exact hM4
        · refine ⟨fun _ => fin h3 ?_ hf3, fun hz => absurd (show (-1 : Int32) < 0 by decide) hz⟩
          have hk : m_k1 (m_k1 (m_kt m r c) r c true) r c false = m_k1 (m_kt m r c) r c true := m_k1_no (by rw [a1, a2, i1]; simp)
          rw [hk]; exact hM3
      have rest : ∀ v, ((m_is (m_kt m r c) r c true = true ∧ m_in (m_kt m r c) r c true = true ∧ v = nI (m_oth (m_kt m r c) r c true)) ∨ ((m_is (m_kt m r c) r c true && m_in (m_kt m r c) r c true) = false ∧ v = -1)) → ∀ v4, ((m_is (m_kt m r c) r c false = true ∧ m_in (m_kt m r c) r c false = true ∧ v4 = nI (m_oth (m_kt m r c) r c false)) ∨ ((m_is (m_kt m r c) r c false && m_in (m_kt m r c) r c false) = false ∧ v4 = -1)) → ((v < 0 → zX9_links_71 l g d x 46 (nI r) (nI c) (Int32.ofInt w) v4 h1 Q) ∧ (¬ v < 0 → gt_R h1 46 9 22 (fun v5 => al_I 2 h1 v5 v (fun v6 => ((v6 = 0 → zX9_links_71 l g d x 46 (nI r) (nI c) (Int32.ofInt w) v4 h1 Q) ∧ (¬ v6 = 0 → cv_N l g mX9_sets d x 9 46 [.int (nI r), .int v, .int (Int32.ofInt w)] h1 (fun h7 => zX9_links_71 l g d x 46 (nI r) (nI c) (Int32.ofInt w) v4 h7 Q))))))) := by
        intro v hv1 v4 hv4
        rcases hv1 with ⟨i1, i2, rfl⟩ | ⟨i1, rfl⟩
        · have ho := m_oth_lt hg htc i2
          refine ⟨fun hz => absurd hz (nI_pos (by omega)), fun _ => gtR q0 rfl (alI h60 (by omega) (by omega) ?_)⟩
          rw [h60' _ (by omega)]
          refine ⟨fun hz => snd h1 v4 ?_ hf hv4, fun hz => ⟨⟨_, q0⟩, ?_⟩⟩
          · have : m_th (m_kt m r c) (m_oth (m_kt m r c) r c true) = false := bi_0.mp hz
            rw [m_k1_no (by rw [this]; simp)]; exact hM
          · have hth : m_th (m_kt m r c) (m_oth (m_kt m r c) r c true) = true := bi_n0.mp hz
            refine ms_sets hM (by omega) (by omega) (Or.inl (Ne.symm (m_oth_ne hg htc (by omega) i1 i2))) (by omega) fun h4 hM4 hf4 => snd h4 v4 ?_ (hf.tr hf4) hv4
            rw [m_k1_yes (by rw [i1, i2, hth]; rfl), ← hw]
            exact hM4
        · refine ⟨fun _ => snd h1 v4 ?_ hf hv4, fun hz => absurd (show (-1 : Int32) < 0 by decide) hz⟩
          rw [m_k1_no (by rw [i1]; simp)]; exact hM
      refine ⟨⟨_, q0⟩, ms_partner (f := true) hM hg (by omega) htc (fun i1 i2 => ?_) (fun i1 => ?_)⟩
      · refine ⟨⟨_, q0⟩, ms_partner (f := false) hM hg (by omega) htc (fun j1 j2 => rest _ (Or.inl ⟨i1, i2, rfl⟩) _ (Or.inl ⟨j1, j2, rfl⟩)) (fun j1 => rest _ (Or.inl ⟨i1, i2, rfl⟩) _ (Or.inr ⟨j1, rfl⟩))⟩
      · refine ⟨⟨_, q0⟩, ms_partner (f := false) hM hg (by omega) htc (fun j1 j2 => rest _ (Or.inr ⟨i1, rfl⟩) _ (Or.inl ⟨j1, j2, rfl⟩)) (fun j1 => rest _ (Or.inr ⟨i1, rfl⟩) _ (Or.inr ⟨j1, rfl⟩))⟩
    refine ⟨fun hz => ?_, fun hz => ?_⟩
    · have : m_o (m_kt m r c) c = false := bi_0.mp hz
      have hg1 := go (-1) (by rw [this]; rfl)
      rw [show Int32.ofInt (-1) = (-1 : Int32) by decide] at hg1
      exact hg1
    · have : m_o (m_kt m r c) c = true := bi_n0.mp hz
      have hg1 := go 1 (by rw [this]; rfl)
      rw [show Int32.ofInt 1 = (1 : Int32) by decide] at hg1
      exact hg1
theorem ms_links {r : Nat} {K : am_H → Prop} (hM : MM h m Wh o) (hv : ml_g m) (hr : r < m_sh m) (hK : ∀ h', MM h' (m_kt m r m.1.2.1) Wh o → Fr 61 61 h h' → K h') : cl_N l g mX9_links (d + 1) x [.ref 46, .int (nI r)] h K :=
  eX9_links (lm_links (h := h) hv hr (fun h' a b => ⟨rfl, hK h' a b⟩) m.1.2.1 0 h (by omega) hM Fr.rf)
end MODEL2
