/-! ===== the model's two sides ===== -/
def bput (c : Nat → Bool) (u : Nat) (b : Bool) : Nat → Bool := fun v => if v = u then b else c v
theorem bput_s {c : Nat → Bool} {u : Nat} {b : Bool} : bput c u b u = b := if_pos rfl
theorem bput_n {c : Nat → Bool} {u v : Nat} {b : Bool} (h : v ≠ u) : bput c u b v = c v := if_neg h
section MPARTS
variable {l : Launch} {g : am_G} {d : Nat} {x : Bool} {h : am_H} {m : ml_T} {Wh : wv_T} {o : mo_T} {s : Nat} {sd0 : Nat → Int32}
def PQ (m : ml_T) (sd : Nat → Int32) (good : Bool) (k : Nat) : Prop :=
  (∀ v, v < m_nu m → (∀ q, q < k → Lst (m_aj m) (m_th m) q → Cn (m_aj m) (m_th m) q v → sd v = 0 ∨ sd v = 1) ∧ ((∀ q, q < k → Lst (m_aj m) (m_th m) q → ¬ Cn (m_aj m) (m_th m) q v) → sd v = -1)) ∧
  (∀ q, q < k → Lst (m_aj m) (m_th m) q → sd q = 0) ∧
  (good = true → ∀ q, q < k → Lst (m_aj m) (m_th m) q → ∀ u v, Cn (m_aj m) (m_th m) q u → m_aj m u v = true → sd u ≠ sd v) ∧
  (good = false → ¬ ∃ c, Two (m_aj m) c)
/-- what stands while sides are told from s -/
def SQ (h : am_H) (m : ml_T) (s : Nat) (sd0 : Nat → Int32) (lv : Nat → Nat) (many : Nat) (col : Nat → Bool) : Prop := ∃ sd ln, h[67]? = some (am_I 0 300 sd) ∧ h[66]? = some (am_I 0 300 ln) ∧ LN (m_aj m) (m_th m) (m_nu m) s ln lv many ∧ (∀ v, v < m_nu m → sd v = if inL lv many v then bi (col v) else sd0 v) ∧ col s = false ∧ ∀ c, Two (m_aj m) c → ∀ v, inL lv many v = true → c v = (c s ^^ col v)
/-- what is told of good -/
def SG (m : ml_T) (sd0 : Nat → Int32) (lv : Nat → Nat) (col : Nat → Bool) (good : Bool) (s i j : Nat) : Prop := (good = false → ¬ ∃ c, Two (m_aj m) c) ∧ (good = true → (∀ q, q < s → Lst (m_aj m) (m_th m) q → ∀ u v, Cn (m_aj m) (m_th m) q u → m_aj m u v = true → sd0 u ≠ sd0 v) ∧ (∀ t, t < i → ∀ u, m_aj m (lv t) u = true → col u ≠ col (lv t)) ∧ (∀ u, m_aj m (lv i) u = true → fb_ct (m_aj m (lv i)) u < j → col u ≠ col (lv i)))
theorem bi_inj {a b : Bool} : bi a = bi b ↔ a = b := by cases a <;> cases b <;> decide
theorem bi_not (b : Bool) : (1 : Int32) - bi b = bi (!b) := by cases b <;> decide
theorem bi_pos (b : Bool) : (0 : Int32) ≤ bi b := by cases b <;> decide
theorem bi_m1 (b : Bool) : ¬ (-1 : Int32) = bi b := by cases b <;> decide
theorem lm_parts {Q : Option Value → am_H → Prop} (hM : MM h m Wh o) (hv : ml_ok m) (hN : NR h m) (hs : s < m_nu m) (h0 : ∀ v, Cn (m_aj m) (m_th m) s v → sd0 v = -1)
    (hK : ∀ h' sd good, h'[67]? = some (am_I 0 300 sd) → (∃ ln, h'[66]? = some (am_I 0 300 ln)) → (∀ v, v < m_nu m → (Cn (m_aj m) (m_th m) s v → sd v = 0 ∨ sd v = 1) ∧ (¬ Cn (m_aj m) (m_th m) s v → sd v = sd0 v)) → sd s = 0 → (good = false → ¬ ∃ c, Two (m_aj m) c) → (good = true → (∀ q, q < s → Lst (m_aj m) (m_th m) q → ∀ u v, Cn (m_aj m) (m_th m) q u → m_aj m u v = true → sd0 u ≠ sd0 v) ∧ ∀ u v, Cn (m_aj m) (m_th m) s u → m_aj m u v = true → sd u ≠ sd v) → Fr 66 67 h h' → zX9_parts_210 l g d x 46 (bi good) (nI s) h' Q) :
    ∀ fu k i j many lv col good h1, fu + i = m_nu m → (i < many ∧ j + k = dg m (lv i)) → SQ h1 m s sd0 lv many col → SC m (m_th m) lv many i j → SG m sd0 lv col good s i j → Fr 66 67 h h1 → am_J l g mX9_parts d (0, 0, x) 95 [(0, .ref 46), (1, .int (bi good)), (2, .int (nI s)), (3, .int (nI many)), (4, .int (nI i)), (5, .int (nI (300 * lv i))), (6, .int (nI (300 * lv i + j)))] [] h1 Q := by
  have hn : m_nu m ≤ 300 := hv.1.2.2.2.2.2.1
  obtain ⟨f, ge, q3, q4, hNP⟩ := hN
  intro fu
  induction fu with
  | zero =>
    intro k i j many lv col good h1 hfu hij hS
    obtain ⟨sd, ln, p5, p6, hL, hpc⟩ := hS
    have := hL.le
    omega
  | succ fu ihf =>
    intro k
    induction k with
    | zero =>
      intro i j many lv col good h1 hfu hij hS hC hG hf
      obtain ⟨sd, ln, p5, p6, hL, hpc, hcs, hpar⟩ := id hS
      obtain ⟨him, hj⟩ := hij
      obtain ⟨el, elt, elc⟩ := hL.2.2.1 i him
      have hml := hL.le
      have hM1 := hM.out (h' := h1) (fun i hi => hf i (by omega))
      have p3 := (hf 63 (by decide)).trans q3
      have hdg := fb_ct_le (m_aj m (lv i)) (m_nu m)
      refine rX9_parts_95 (gtR hM1.1 rfl (gtR hM1.1 rfl (alI p6 (by omega) (by omega) ?_)))
      rw [el]
      refine alI p3 (by omega) (by omega) ?_
      rw [(hNP (lv i) elt).1, nI_add]
      have hjd : j = dg m (lv i) := by omega
      have hdg' : dg m (lv i) ≤ 300 := by unfold dg; omega
      refine ⟨fun _ => ?_, fun z => absurd (nI_le (by omega) (by omega)) z⟩
      rw [nI_1]
      have hC' : ∀ t, t < i + 1 → ∀ u, m_aj m (lv t) u = true → m_th m u = true → inL lv many u = true := fun t ht u hu hPu => by
        by_cases e : t = i
        · subst e
          refine hC.2 u hu hPu ?_
          rw [hjd]
          exact dg_lt (hv.2.1 u hPu) hu
        · exact hC.1 t (by omega) u hu hPu
      have hG' : good = true → (∀ q, q < s → Lst (m_aj m) (m_th m) q → ∀ u v, Cn (m_aj m) (m_th m) q u → m_aj m u v = true → sd0 u ≠ sd0 v) ∧ (∀ t, t < i + 1 → ∀ u, m_aj m (lv t) u = true → col u ≠ col (lv t)) := fun hg => by
        obtain ⟨g1, g2, g3⟩ := hG.2 hg
        refine ⟨g1, fun t ht u hu => ?_⟩
        by_cases e : t = i
        · subst e
          exact g3 u hu (by rw [hjd]; exact dg_lt (aj_th hv hu).2.2.2.1 hu)
        · exact g2 t (by omega) u hu
      by_cases e : i + 1 = many
      · refine rX9_parts_72 ⟨fun _ => ?_, fun z => absurd (nI_le (by omega) (by omega)) z⟩
        have cl : ∀ v, Cn (m_aj m) (m_th m) s v → inL lv many v = true := fun v hc => by
          refine hc.ind (R := fun v => inL lv many v = true) (inL_iff.mpr ⟨0, by omega, hL.2.1⟩) (fun u v _ hu hA hPv => ?_)
          obtain ⟨t, ht, et⟩ := inL_iff.mp hu
          exact hC' t (by omega) v (by rw [et]; exact hA) hPv
        have inl0 : inL lv many s = true := inL_iff.mpr ⟨0, by omega, hL.2.1⟩
        refine hK h1 sd good p5 ⟨ln, p6⟩ (fun v hvn => ⟨fun hc => ?_, fun hc => ?_⟩) ?_ hG.1 (fun hg => ⟨(hG' hg).1, fun u v hu huv => ?_⟩) hf
        · rw [hpc v hvn, if_pos (cl v hc)]; exact bi_01 _
        · rw [hpc v hvn, if_neg (fun c => hc ?_)]
          obtain ⟨t, ht, et⟩ := inL_iff.mp c
          rw [← et]; exact (hL.2.2.1 t ht).2.2
        · rw [hpc s hs, if_pos inl0, hcs]; rfl
        · obtain ⟨t1, t2, t3, t4, -⟩ := aj_th hv huv
          obtain ⟨t, ht, et⟩ := inL_iff.mp (cl u hu)
          rw [hpc u t3, if_pos (cl u hu), hpc v t4, if_pos (cl v (hu.st huv t2)), Ne, bi_inj]
          have := (hG' hg).2 t (by omega) v (by rw [et]; exact huv)
          rw [et] at this
          exact fun c => this c.symm
      · refine rX9_parts_72 ⟨fun z => absurd ((nI_leI (by omega) (by omega)).mp z) (by omega), fun _ => gtR hM1.1 rfl (alI p6 (by omega) (by omega) ?_)⟩
        obtain ⟨el', elt', -⟩ := hL.2.2.1 (i + 1) (by omega)
        rw [el', show (300 : Int32) * nI (lv (i + 1)) = nI (300 * lv (i + 1)) by rw [show (300 : Int32) = nI 300 from rfl, pk_mul]]
        exact ihf (dg m (lv (i + 1))) (i + 1) 0 many lv col good h1 (by omega) ⟨by omega, by omega⟩ hS ⟨hC', fun u _ _ hlt => by omega⟩ ⟨hG.1, fun hg => ⟨(hG' hg).1, (hG' hg).2, fun u _ hlt => by omega⟩⟩ hf
    | succ k ih =>
      intro i j many lv col good h1 hfu hij hS hC hG hf
      obtain ⟨sd, ln, p5, p6, hL, hpc, hcs, hpar⟩ := id hS
      obtain ⟨him, hj⟩ := hij
      obtain ⟨el, elt, elc⟩ := hL.2.2.1 i him
      have hml := hL.le
      have hM1 := hM.out (h' := h1) (fun i hi => hf i (by omega))
      have p3 := (hf 63 (by decide)).trans q3
      have p4 := (hf 64 (by decide)).trans q4
      have hdg := fb_ct_le (m_aj m (lv i)) (m_nu m)
      have hdg' : dg m (lv i) ≤ 300 := by unfold dg; omega
      obtain ⟨u, hu1, hu2, hu3, hu4⟩ := hNP.at (a := lv i) (j := j) elt (by omega)
      have hthu := (aj_th hv hu2).2.1
      have hcu : Cn (m_aj m) (m_th m) s u := elc.st hu2 hthu
      have inl_i : inL lv many (lv i) = true := inL_iff.mpr ⟨i, him, rfl⟩
      have hsi : sd (lv i) = bi (col (lv i)) := by rw [hpc _ elt, if_pos inl_i]
      have sdu : sd u = if inL lv many u then bi (col u) else -1 := by rw [hpc u hu1, h0 u hcu]
      -- what happens behind the check of good
      have go : ∀ good' : Bool, good' = (good && !(inL lv many u && decide (col u = col (lv i)))) → zX9_parts_155 l g d x 46 (nI s) (nI many) (nI i) (nI (300 * lv i)) (nI (300 * lv i + j)) (nI u) (bi good') h1 Q := by
        intro good' eg
        have G1 : good' = false → ¬ ∃ c, Two (m_aj m) c := fun hg => by
          rw [hg] at eg
          cases hgood : good with
          | false => exact hG.1 hgood
          | true =>
            rw [hgood] at eg
            have : (inL lv many u && decide (col u = col (lv i))) = true := by
              cases hh : (inL lv many u && decide (col u = col (lv i))) with
              | true => rfl
              | false => rw [hh] at eg; exact absurd eg (by decide)
            rw [Bool.and_eq_true, decide_eq_true_eq] at this
            rintro ⟨c, hc⟩
            have e1 := hpar c hc u this.1
            have e2 := hpar c hc (lv i) inl_i
            exact hc _ _ hu2 (by rw [e1, e2, this.2])
        have nxt : ∀ many' lv' col' h', lv' i = lv i → SQ h' m s sd0 lv' many' col' → SC m (m_th m) lv' many' i (j + 1) → SG m sd0 lv' col' good' s i (j + 1) → i < many' → Fr 66 67 h h' → zX9_parts_198 l g d x 46 (bi good') (nI s) (nI many') (nI i) (nI (300 * lv i)) (nI (300 * lv i + j)) h' Q := by
          intro many' lv' col' h' e S' C' G' hi' f'
          unfold zX9_parts_198
          rw [nI_1]
          have := ih i (j + 1) many' lv' col' good' h' hfu ⟨hi', by rw [e]; omega⟩ S' C' G' f'
          rw [e] at this
          exact this
        refine gtR hM1.1 rfl (alI p5 (by omega) (by omega) ?_)
        rw [sdu]
        cases hin : inL lv many u with
        | true =>
          rw [if_pos rfl]
          refine ⟨fun _ => nxt many lv col h1 rfl hS ⟨hC.1, fun v hv1 hv2 hv3 => ?_⟩ ⟨G1, fun hg => ?_⟩ him hf, fun y => absurd (bi_pos _) y⟩
          · rcases Nat.lt_or_ge (fb_ct (m_aj m (lv i)) v) j with c | c
            · exact hC.2 v hv1 hv2 c
            · have : v = u := fb_ct_kth_one hv1 hu2 (by omega)
              subst this; exact hin
          · rw [hg, hin, Bool.true_and] at eg
            have eg := eg.symm
            rw [Bool.and_eq_true] at eg
            obtain ⟨g1, g2, g3⟩ := hG.2 eg.1
            refine ⟨g1, g2, fun v hv1 hv3 => ?_⟩
            rcases Nat.lt_or_ge (fb_ct (m_aj m (lv i)) v) j with c | c
            · exact g3 v hv1 c
            · have : v = u := fb_ct_kth_one hv1 hu2 (by omega)
              subst this
              have := eg.2
              simpa using this
        | false =>
          rw [if_neg (by decide)]
          refine ⟨fun y => absurd y (by decide), fun _ => gtR hM1.1 rfl (gtR hM1.1 rfl (gtR hM1.1 rfl (alI p6 (by omega) (by omega) ?_)))⟩
          rw [el]
          refine alI p5 (by omega) (by omega) ?_
          rw [hsi, bi_not]
          refine asI p5 (by omega) (by omega) ?_
          have hno : ∀ t, t < many → lv t ≠ u := fun t ht e => by
            have := inL_iff.mpr ⟨t, ht, e⟩
            rw [hin] at this; cases this
          have hL' := hL.put hu1 hcu hno
          have hml' := hL'.le
          have r0 : (h1.set 67 (am_I 0 300 (upd sd u (bi (!col (lv i))))))[46]? = some (c_mm o (nI m.2.1) (nI m.2.2.1) (nI (m_sh m)) (nI (m_nu m))) := (st_ne (by decide)).trans hM1.1
          have r6 : (h1.set 67 (am_I 0 300 (upd sd u (bi (!col (lv i))))))[66]? = some (am_I 0 300 ln) := (st_ne (by decide)).trans p6
          refine gtR r0 rfl (asI r6 (by omega) (by omega) ?_)
          rw [nI_1]
          have hus : u ≠ s := fun e => by
            have := (inL_iff (lv := lv) (many := many)).mpr ⟨0, by omega, hL.2.1⟩
            rw [← e, hin] at this; cases this
          have lvne : ∀ t, t < many → lv t ≠ u := hno
          refine nxt (many + 1) (fun t => if t = many then u else lv t) (bput col u (!col (lv i))) _ (by simp only [show ¬ i = many by omega, if_false]) ⟨upd sd u (bi (!col (lv i))), upd ln many (nI u), (st_ne (by decide)).trans (st_eq p5), st_eq r6, hL', fun v hvn => ?_, ?_, fun c hc v hvL => ?_⟩ ⟨fun t ht v hv1 hv2 => ?_, fun v hv1 hv2 hv3 => ?_⟩ ⟨G1, fun hg => ?_⟩ (by omega) ((hf.st (by decide)).st (by decide))
          · rw [inL_put]
            by_cases e : v = u
            · subst e; rw [pk_us, decide_eq_true rfl, Bool.or_true, if_pos rfl, bput_s]
            · rw [pk_un e, decide_eq_false (fun c => e c.symm), Bool.or_false, bput_n e]; exact hpc v hvn
          · rw [bput_n (Ne.symm hus)]; exact hcs
          · rw [inL_put, Bool.or_eq_true, decide_eq_true_eq] at hvL
            by_cases e : v = u
            · subst e
              rw [bput_s]
              have e2 := hpar c hc (lv i) inl_i
              have := hc _ _ hu2
              rw [e2] at this
              cases h1 : c s <;> cases h2 : c v <;> cases h3 : col (lv i) <;> simp_all
            · rw [bput_n e]
              rcases hvL with c' | c'
              · exact hpar c hc v c'
              · exact absurd c'.symm e
          · simp only [show ¬ t = many by omega, if_false] at hv1
            rw [inL_put, hC.1 t ht v hv1 hv2, Bool.true_or]
          · simp only [show ¬ i = many by omega, if_false] at hv1 hv3
            rw [inL_put]
            rcases Nat.lt_or_ge (fb_ct (m_aj m (lv i)) v) j with c | c
            · rw [hC.2 v hv1 hv2 c, Bool.true_or]
            · have : v = u := fb_ct_kth_one hv1 hu2 (by omega)
              rw [this, decide_eq_true rfl, Bool.or_true]
          · rw [hg, hin] at eg
            have hgood : good = true := by simpa using eg.symm
            obtain ⟨g1, g2, g3⟩ := hG.2 hgood
            refine ⟨g1, fun t ht v hv1 => ?_, fun v hv1 hv3 => ?_⟩
            · simp only [show ¬ t = many by omega, if_false] at hv1 ⊢
              have vL := hC.1 t ht v hv1 (aj_th hv hv1).2.1
              have hvu : v ≠ u := fun e => by rw [e, hin] at vL; cases vL
              rw [bput_n hvu, bput_n (lvne t (by omega))]
              exact g2 t ht v hv1
            · simp only [show ¬ i = many by omega, if_false] at hv1 hv3 ⊢
              rw [bput_n (lvne i him)]
              rcases Nat.lt_or_ge (fb_ct (m_aj m (lv i)) v) j with c | c
              · have vL := hC.2 v hv1 (aj_th hv hv1).2.1 c
                have hvu : v ≠ u := fun e => by rw [e, hin] at vL; cases vL
                rw [bput_n hvu]
                exact g3 v hv1 c
              · have : v = u := fb_ct_kth_one hv1 hu2 (by omega)
                rw [this, bput_s]
                cases col (lv i) <;> decide
      refine rX9_parts_95 (gtR hM1.1 rfl (gtR hM1.1 rfl (alI p6 (by omega) (by omega) ?_)))
      rw [el]
      refine alI p3 (by omega) (by omega) ?_
      rw [(hNP (lv i) elt).1, nI_add]
      refine ⟨fun z => absurd ((nI_leI (by omega) (by omega)).mp z) (by omega), fun _ => gtR hM1.1 rfl (alI p4 (by omega) (by decide) ?_)⟩
      rw [hu4]
      refine ⟨fun z => ?_, fun z => gtR hM1.1 rfl (alI p5 (by omega) (by omega) (gtR hM1.1 rfl (gtR hM1.1 rfl (alI p6 (by omega) (by omega) ?_))))⟩
      · have e := bi_0.mp z
        exact go false (by rw [e]; rfl)
      · have e := bi_n0.mp z
        rw [el]
        refine alI p5 (by omega) (by omega) ?_
        rw [hsi, sdu]
        cases hin : inL lv many u with
        | true =>
          rw [if_pos rfl, bi_inj]
          exact ⟨fun y => go false (by rw [e, hin, decide_eq_true y]; rfl), fun y => go true (by rw [e, hin, decide_eq_false y]; rfl)⟩
        | false =>
          rw [if_neg (by decide)]
          exact ⟨fun y => absurd y (bi_m1 _), fun y => go true (by rw [e, hin]; rfl)⟩
theorem lm_parts1 {Q : Option Value → am_H → Prop} (hM : MM h m Wh o) (hv : ml_ok m) (hN : NR h m)
    (hK : ∀ h' sd good, h'[67]? = some (am_I 0 300 sd) → (∃ ln, h'[66]? = some (am_I 0 300 ln)) → PQ m sd good (m_nu m) → Fr 66 67 h h' → Q (some (.int (bi good))) h') :
    ∀ n k h1 sd good, k + n = m_nu m → h1[67]? = some (am_I 0 300 sd) → (∃ ln, h1[66]? = some (am_I 0 300 ln)) → PQ m sd good k → Fr 66 67 h h1 → am_J l g mX9_parts d (0, 0, x) 27 [(0, .ref 46), (1, .int (bi good)), (2, .int (nI k))] [] h1 Q := by
  have hn : m_nu m ≤ 300 := hv.1.2.2.2.2.2.1
  intro n
  induction n with
  | zero =>
    intro k h1 sd good hk p5 p6 hC hf
    have : k = m_nu m := by omega
    subst this
    have hM1 := hM.out (h' := h1) (fun i hi => hf i (by omega))
    exact rX9_parts_27 (gtI hM1.1 rfl ⟨fun _ => ⟨bi_01 _, hK h1 sd good p5 p6 hC hf⟩, fun z => absurd (nI_le (Nat.le_refl _) (by omega)) z⟩)
  | succ n ih =>
    intro k h1 sd good hk p5 p6 hC hf
    have hM1 := hM.out (h' := h1) (fun i hi => hf i (by omega))
    have hN1 := hN.fr (hf 63 (by decide)) (hf 64 (by decide))
    obtain ⟨f60, q60, g60⟩ := hM1.2.2.1
    obtain ⟨C1, C2, C3, C4⟩ := id hC
    obtain ⟨c1, c2⟩ := C1 k (by omega)
    have no : ¬ Lst (m_aj m) (m_th m) k → zX9_parts_210 l g d x 46 (bi good) (nI k) h1 Q := fun hl => by
      unfold zX9_parts_210
      rw [nI_1]
      have tx : ∀ q, q < k + 1 → Lst (m_aj m) (m_th m) q → q < k := fun q hq hlq => by
        rcases Nat.lt_or_ge q k with c | c
        · exact c
        · have : q = k := by omega
          subst this; exact absurd hlq hl
      exact ih (k + 1) h1 sd good (by omega) p5 p6 ⟨fun v hvn => ⟨fun q hq hlq hc => (C1 v hvn).1 q (tx q hq hlq) hlq hc, fun hno => (C1 v hvn).2 (fun q hq => hno q (by omega))⟩, fun q hq hlq => C2 q (tx q hq hlq) hlq, fun hg q hq hlq => C3 hg q (tx q hq hlq) hlq, C4⟩ hf
    refine rX9_parts_27 (gtI hM1.1 rfl ⟨fun z => absurd ((nI_leI (by omega) (by omega)).mp z) (by omega), fun _ => gtR hM1.1 rfl (alI q60 (by omega) (by omega) ?_)⟩)
    rw [g60 k (by omega)]
    refine ⟨fun z => no (fun hl => ?_), fun z => gtR hM1.1 rfl (alI p5 (by omega) (by omega) ⟨fun u => no (fun hl => ?_), fun u => ?_⟩)⟩
    · have : m_th m k = true := hl.1
      rw [this] at z; exact absurd z (by decide)
    · have := c2 (fun q hq hlq hc => by
        have := Lst.one (aj_sy m) hlq hl hc
        omega)
      rw [this] at u; exact absurd u (by decide)
    · have hPk : m_th m k = true := bi_n0.mp z
      obtain ⟨q, l1, l2, l3⟩ := Lst.ex (A := m_aj m) (P := m_th m) k hPk
      have hqk : q = k := by
        rcases Nat.lt_or_ge q k with c | c
        · rcases c1 q c l1 (l2.sy (aj_sy m)) with e | e
          · rw [e] at u; exact absurd (by decide) u
          · rw [e] at u; exact absurd (by decide) u
        · omega
      subst hqk
      obtain ⟨ln, p6'⟩ := p6
      have h0 : ∀ v, Cn (m_aj m) (m_th m) q v → sd v = -1 := fun v hc => by
        have hvn : v < m_nu m := hv.2.1 v hc.p
        refine (C1 v hvn).2 (fun q' hq' hlq' hc' => ?_)
        have := Lst.one (aj_sy m) hlq' l1 (hc'.tr (hc.sy (aj_sy m)))
        omega
      refine gtR hM1.1 rfl (asI (i := 0) p6' (by decide) (by decide) ?_)
      have r0 : (h1.set 66 (am_I 0 300 (upd ln 0 (nI q))))[46]? = some (c_mm o (nI m.2.1) (nI m.2.2.1) (nI (m_sh m)) (nI (m_nu m))) := (st_ne (by decide)).trans hM1.1
      have r5 : (h1.set 66 (am_I 0 300 (upd ln 0 (nI q))))[67]? = some (am_I 0 300 sd) := (st_ne (by decide)).trans p5
      refine gtR r0 rfl (asI r5 (by omega) (by decide) ?_)
      have s0 := (st_ne (h := h1.set 66 (am_I 0 300 (upd ln 0 (nI q)))) (c := am_I 0 300 (upd sd q 0)) (show 67 ≠ 46 by decide)).trans r0
      have s6 : ((h1.set 66 (am_I 0 300 (upd ln 0 (nI q)))).set 67 (am_I 0 300 (upd sd q 0)))[66]? = some (am_I 0 300 (upd ln 0 (nI q))) := (st_ne (by decide)).trans (st_eq p6')
      refine rX9_parts_72 ⟨fun z => absurd ((nI_leI (a := 1) (b := 0) (by decide) (by decide)).mp z) (by omega), fun _ => gtR s0 rfl (alI (i := 0) s6 (by decide) (by decide) ?_)⟩
      rw [pk_us, show (300 : Int32) * nI q = nI (300 * q) by rw [show (300 : Int32) = nI 300 from rfl, pk_mul]]
      have key := lm_parts (l := l) (g := g) (d := d) (x := x) (h := h) (s := q) (sd0 := sd) (Q := Q) hM hv hN (by omega) h0 (fun h2 sd' good' a1 a2 a3 a4 a5 a6 a7 => ?_) (m_nu m) (dg m q) 0 0 1 (fun _ => q) (fun _ => false) good ((h1.set 66 (am_I 0 300 (upd ln 0 (nI q)))).set 67 (am_I 0 300 (upd sd q 0))) (by omega) ⟨by omega, by omega⟩ ⟨upd sd q 0, upd ln 0 (nI q), st_eq r5, s6, ⟨by omega, rfl, fun t ht => ?_, fun t t' h1 h2 => by omega⟩, fun v hvn => ?_, rfl, fun c hc v hvL => ?_⟩ ⟨fun t ht => by omega, fun u _ _ hlt => by omega⟩ ⟨C4, fun hg => ⟨C3 hg, fun t ht => by omega, fun u _ hlt => by omega⟩⟩ ((hf.st (by decide)).st (by decide))
      · exact key
      · unfold zX9_parts_210
        rw [nI_1]
        have oth : ∀ q', q' < q → Lst (m_aj m) (m_th m) q' → ∀ v, Cn (m_aj m) (m_th m) q' v → ¬ Cn (m_aj m) (m_th m) q v := fun q' hq' hl' v hc' hc => by
          have := Lst.one (aj_sy m) hl' l1 (hc'.tr (hc.sy (aj_sy m)))
          omega
        refine ih (q + 1) h2 sd' good' (by omega) a1 a2 ⟨fun v hvn => ⟨fun q' hq' hl' hc' => ?_, fun hno => ?_⟩, fun q' hq' hl' => ?_, fun hg q' hq' hl' u1 v1 hcu huv => ?_, a5⟩ a7
        · by_cases e : q' = q
          · subst e; exact (a3 v hvn).1 hc'
          · rw [(a3 v hvn).2 (oth q' (by omega) hl' v hc')]
            exact (C1 v hvn).1 q' (by omega) hl' hc'
        · rw [(a3 v hvn).2 (hno q (by omega) l1)]
          exact (C1 v hvn).2 (fun q' hq' => hno q' (by omega))
        · by_cases e : q' = q
          · rw [e]; exact a4
          · have hq'n : q' < m_nu m := hv.2.1 q' hl'.1
            rw [(a3 q' hq'n).2 (oth q' (by omega) hl' q' (Cn.rf hl'.1))]
            exact C2 q' (by omega) hl'
        · obtain ⟨t1, t2, t3, t4, -⟩ := aj_th hv huv
          by_cases e : q' = q
          · subst e; exact (a6 hg).2 u1 v1 hcu huv
          · rw [(a3 u1 t3).2 (oth q' (by omega) hl' u1 hcu), (a3 v1 t4).2 (oth q' (by omega) hl' v1 (hcu.st huv t2))]
            exact (a6 hg).1 q' (by omega) hl' u1 v1 hcu huv
      · have : t = 0 := by omega
        subst this
        exact ⟨pk_us, by show q < m_nu m; omega, Cn.rf hPk⟩
      · by_cases e : v = q
        · subst e; rw [pk_us, if_pos (inL_iff.mpr ⟨0, by omega, rfl⟩)]; rfl
        · rw [pk_un e, if_neg (fun c => ?_)]
          obtain ⟨t, ht, et⟩ := inL_iff.mp c
          exact e et.symm
      · obtain ⟨t, ht, et⟩ := inL_iff.mp hvL
        rw [← et]; simp
theorem lm_parts0 {Q : Option Value → am_H → Prop} (hM : MM h m Wh o) (hv : ml_ok m)
    (hK : ∀ h' sd, h'[67]? = some (am_I 0 300 sd) → (∀ v, v < m_nu m → sd v = -1) → Fr 67 67 h h' → am_J l g mX9_parts d (0, 0, x) 27 [(0, .ref 46), (1, .int 1), (2, .int 0)] [] h' Q) :
    ∀ n k h1 sd, k + n = m_nu m → h1[67]? = some (am_I 0 300 sd) → (∀ v, v < k → sd v = -1) → Fr 67 67 h h1 → am_J l g mX9_parts d (0, 0, x) 2 [(0, .ref 46), (1, .int (nI k))] [] h1 Q := by
  have hn : m_nu m ≤ 300 := hv.1.2.2.2.2.2.1
  intro n
  induction n with
  | zero =>
    intro k h1 sd hk p5 hC hf
    have : k = m_nu m := by omega
    subst this
    have hM1 := hM.out (h' := h1) (fun i hi => hf i (by omega))
    exact rX9_parts_2 (gtI hM1.1 rfl ⟨fun _ => hK h1 sd p5 hC hf, fun z => absurd (nI_le (Nat.le_refl _) (by omega)) z⟩)
  | succ n ih =>
    intro k h1 sd hk p5 hC hf
    have hM1 := hM.out (h' := h1) (fun i hi => hf i (by omega))
    refine rX9_parts_2 (gtI hM1.1 rfl ⟨fun z => absurd ((nI_leI (by omega) (by omega)).mp z) (by omega), fun _ => gtR hM1.1 rfl (asI p5 (by omega) (by omega) ?_)⟩)
    rw [nI_1]
    refine ih (k + 1) _ (upd sd k (-1)) (by omega) (st_eq p5) (fun v hvk => ?_) (hf.st (by decide))
    by_cases e : v = k
    · rw [e, pk_us]
    · rw [pk_un e]; exact hC v (by omega)
/-- the sides told: side v, whether it can be parted -/
def PT (m : ml_T) (sd : Nat → Int32) (good : Bool) : Prop := (∀ v, v < m_nu m → (m_th m v = true → sd v = 0 ∨ sd v = 1) ∧ (m_th m v = false → sd v = -1)) ∧ (∀ q, Lst (m_aj m) (m_th m) q → sd q = 0) ∧ (good = true → ∀ u v, m_aj m u v = true → sd u ≠ sd v) ∧ (good = false → ¬ ∃ c, Two (m_aj m) c)
theorem PQ.pt {sd : Nat → Int32} {good : Bool} (hv : ml_ok m) (h : PQ m sd good (m_nu m)) : PT m sd good := by
  obtain ⟨C1, C2, C3, C4⟩ := h
  refine ⟨fun v hvn => ⟨fun ht => ?_, fun ht => ?_⟩, fun q hq => C2 q (hv.2.1 q hq.1) hq, fun hg u v huv => ?_, C4⟩
  · obtain ⟨q, l1, l2, l3⟩ := Lst.ex (A := m_aj m) (P := m_th m) v ht
    exact (C1 v hvn).1 q (by omega) l1 (l2.sy (aj_sy m))
  · refine (C1 v hvn).2 (fun q _ _ hc => ?_)
    have := hc.p
    rw [ht] at this; cases this
  · obtain ⟨t1, t2, t3, t4, -⟩ := aj_th hv huv
    obtain ⟨q, l1, l2, l3⟩ := Lst.ex (A := m_aj m) (P := m_th m) u t1
    exact C3 hg q (by omega) l1 u v (l2.sy (aj_sy m)) huv
theorem ms_parts {K : Int32 → am_H → Prop} {sd ln : Nat → Int32} (hM : MM h m Wh o) (hv : ml_ok m) (hN : NR h m) (p5 : h[67]? = some (am_I 0 300 sd)) (p6 : h[66]? = some (am_I 0 300 ln))
    (hK : ∀ h' sd good, h'[67]? = some (am_I 0 300 sd) → (∃ ln, h'[66]? = some (am_I 0 300 ln)) → PT m sd good → Fr 66 67 h h' → K (bi good) h') : cl_I l g mX9_parts d x [.ref 46] h K := by
  refine eX9_parts (lm_parts0 (d := d) hM hv (fun h1 sd1 a b c => ?_) (m_nu m) 0 h sd (by omega) p5 (fun v hv => by omega) Fr.rf)
  exact lm_parts1 (d := d) (h := h) hM hv hN (fun h' sd' good a b c f => ⟨_, rfl, hK h' sd' good a b (c.pt hv) f⟩) (m_nu m) 0 h1 sd1 true (by omega) a ⟨ln, (c 66 (by decide)).trans p6⟩ ⟨fun v hvn => ⟨fun q hq => by omega, fun _ => b v hvn⟩, fun q hq => by omega, fun _ q hq => by omega, fun h => by cases h⟩ (c.mono (by omega) (by omega))
end MPARTS
