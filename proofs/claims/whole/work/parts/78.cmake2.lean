/-! ===== the class reaches from the unpaired ===== -/
section CREACH
variable {l : Launch} {g : am_G} {d : Nat} {x : Bool} {h : am_H} {m : ml_T} {ch : Nat} {L : Nat → Bool}
variable {cs orr ql : Int32} {p r q e : Nat → Int32} {pr rf : Nat → Option Nat} {qv : Nat → Nat} {len w : Nat}
/-- all reached are in pairs, their partners queued -/
def FQ (pr rf : Nat → Option Nat) (qv : Nat → Nat) (len : Nat) : Prop := ∀ b, rf b ≠ none → ∃ a', pr b = some a' ∧ inL qv len a' = true
/-- the later queue and reached hold the former -/
def EX (rf rf' : Nat → Option Nat) (qv qv' : Nat → Nat) (len len' : Nat) : Prop := len ≤ len' ∧ (∀ t, t < len → qv' t = qv t) ∧ (∀ b, rf b ≠ none → rf' b ≠ none)
theorem EX.rf' : EX rf rf qv qv len len := ⟨Nat.le_refl _, fun _ _ => rfl, fun _ c => c⟩
theorem EX.tr {rf1 rf2 rf3 : Nat → Option Nat} {q1 q2 q3 : Nat → Nat} {l1 l2 l3 : Nat} (a : EX rf1 rf2 q1 q2 l1 l2) (b : EX rf2 rf3 q2 q3 l2 l3) : EX rf1 rf3 q1 q3 l1 l3 := ⟨Nat.le_trans a.1 b.1, fun t ht => by rw [b.2.1 t (by have := a.1; omega), a.2.1 t ht], fun c hc => b.2.2 c (a.2.2 c hc)⟩
/-- one more reached, its partner queued -/
theorem BI.step {A : Nat → Nat → Bool} {th : Nat → Bool} {nu t0 b a' len' : Nat} {qv' : Nat → Nat} (hG : GB A L th nu) (hV : VM A pr) (hB : BI A L th pr rf qv len) (hF : FQ pr rf qv len) (ht0 : t0 < len) (hA : A (qv t0) b = true) (hrb : rf b = none) (hpb : pr b = some a') (c1 : inL qv len a' = true → qv' = qv ∧ len' = len) (c2 : inL qv len a' = false → qv' = (fun t => if t = len then a' else qv t) ∧ len' = len + 1) :
    BI A L th pr (fput rf b (some (qv t0))) qv' len' ∧ FQ pr (fput rf b (some (qv t0))) qv' len' ∧ EX rf (fput rf b (some (qv t0))) qv qv' len len' := by
  obtain ⟨b1, b2⟩ := hB
  obtain ⟨l0, z0, -⟩ := b1 t0 ht0
  have lb := hG.r hA l0
  obtain ⟨v1, v2⟩ := hV b a' hpb
  have la := hG.l v1 lb
  have zb := z0.link l0 hA
  have za := zb.pair lb hpb
  have keep : ∀ b' y, rf b' = some y → fput rf b (some (qv t0)) b' = some y := fun b' y hy => by
    by_cases c : b' = b
    · rw [c, hrb] at hy; cases hy
    · rw [fput_n c]; exact hy
  have none' : ∀ b', rf b' ≠ none → fput rf b (some (qv t0)) b' ≠ none := fun b' hy => by
    by_cases c : b' = b
    · rw [c, fput_s]; simp
    · rw [fput_n c]; exact hy
  cases hin : inL qv len a' with
  | true =>
    obtain ⟨e1, e2⟩ := c1 hin
    subst e1 e2
    refine ⟨⟨fun t ht => ?_, fun b' a hy => ?_⟩, fun b' hy => ?_, Nat.le_refl _, fun _ _ => rfl, none'⟩
    · obtain ⟨u1, u2, u3⟩ := b1 t ht
      refine ⟨u1, u2, u3.elim Or.inl (fun ⟨b', t2, w1, w2, w3⟩ => Or.inr ⟨b', t2, w1, w2, keep _ _ w3⟩)⟩
    · by_cases c : b' = b
      · rw [c, fput_s] at hy
        rw [c, ← Option.some.inj hy]; exact ⟨hA, t0, ht0, rfl⟩
      · rw [fput_n c] at hy; exact b2 b' a hy
    · by_cases c : b' = b
      · rw [c]; exact ⟨a', hpb, hin⟩
      · rw [fput_n c] at hy; exact hF b' hy
  | false =>
    obtain ⟨e1, e2⟩ := c2 hin
    subst e1 e2
    have old : ∀ t, t < len → (fun t => if t = len then a' else qv t) t = qv t := fun t ht => if_neg (by omega)
    have new : (fun t => if t = len then a' else qv t) len = a' := if_pos rfl
    refine ⟨⟨fun t ht => ?_, fun b' a hy => ?_⟩, fun b' hy => ?_, Nat.le_succ _, old, none'⟩
    · by_cases c : t = len
      · rw [c, new]
        refine ⟨la, za, Or.inr ⟨b, t0, v2, ht0, ?_⟩⟩
        rw [fput_s, old t0 ht0]
      · have ht' : t < len := by omega
        rw [old t ht']
        obtain ⟨u1, u2, u3⟩ := b1 t ht'
        refine ⟨u1, u2, u3.elim Or.inl (fun ⟨b', t2, w1, w2, w3⟩ => Or.inr ⟨b', t2, w1, w2, ?_⟩)⟩
        rw [old t2 (by omega)]; exact keep _ _ w3
    · by_cases c : b' = b
      · rw [c, fput_s] at hy
        rw [c, ← Option.some.inj hy]; exact ⟨hA, t0, by omega, old t0 ht0⟩
      · rw [fput_n c] at hy
        obtain ⟨u1, t, u2, u3⟩ := b2 b' a hy
        exact ⟨u1, t, by omega, by rw [old t u2]; exact u3⟩
    · have up : ∀ v, inL qv len v = true → inL (fun t => if t = len then a' else qv t) (len + 1) v = true := fun v hv => by rw [inL_put, hv]; rfl
      by_cases c : b' = b
      · rw [c]; exact ⟨a', hpb, by rw [inL_put]; simp⟩
      · rw [fput_n c] at hy
        obtain ⟨a2, u1, u2⟩ := hF b' hy
        exact ⟨a2, u1, up a2 u2⟩
set_option maxHeartbeats 1000000 in
theorem lm_reachFrom {K : Int32 → am_H → Prop} {t0 a : Nat} (hE : EC h m ch L) (hv : ml_ok m) (hG : GB (m_aj m) L (m_th m) (m_nu m)) (hp : ∀ v, v < m_nu m → p v = oi (pr v)) (hV : VM (m_aj m) pr) (hqa : qv t0 = a) (ht0 : t0 < len)
    (hF : ∀ h' r' q' e' rf' qv' len', QA h' (c_mk (nI len') cs orr) p r' q' e' → (∀ v, v < m_nu m → r' v = oi (rf' v)) → QL (m_nu m) qv' len' q' e' → BI (m_aj m) L (m_th m) pr rf' qv' len' → FQ pr rf' qv' len' → EX rf rf' qv qv' len len' → (∀ u, m_aj m a u = true → rf' u ≠ none) → Fr 26 32 h h' → (∀ i, i = 27 ∨ i = 28 → h'[i]? = h[i]?) → K (-1) h')
    (hT : ∀ h' r' q' e' rf' qv' len' b, QA h' (c_mk (nI len') cs orr) p r' q' e' → (∀ v, v < m_nu m → r' v = oi (rf' v)) → QL (m_nu m) qv' len' q' e' → BI (m_aj m) L (m_th m) pr rf' qv' len' → b < m_nu m → pr b = none → rf' b ≠ none → Fr 26 32 h h' → (∀ i, i = 27 ∨ i = 28 → h'[i]? = h[i]?) → K (nI b) h') :
    ∀ k n v frm h1 r1 q1 e1 rf1 qv1 len1, n + k = 300 → n ≤ frm → nx_m m a frm v → QA h1 (c_mk (nI len1) cs orr) p r1 q1 e1 → (∀ v, v < m_nu m → r1 v = oi (rf1 v)) → QL (m_nu m) qv1 len1 q1 e1 → BI (m_aj m) L (m_th m) pr rf1 qv1 len1 → FQ pr rf1 qv1 len1 → EX rf rf1 qv qv1 len len1 → (∀ u, m_aj m a u = true → u < frm → rf1 u ≠ none) → Fr 26 32 h h1 → (∀ i, i = 27 ∨ i = 28 → h1[i]? = h[i]?) →
      am_J l g mX1_reachFrom (d + 2) (0, 0, x) 15 [(0, .ref 26), (1, .int (nI a)), (2, .int v), (3, .int (nI n))] [] h1 (fun r h' => ∃ v, r = some (.int v) ∧ K v h') := by
  have hn : m_nu m ≤ 300 := hv.1.2.2.2.2.2.1
  intro k
  induction k with
  | zero =>
    intro n v frm h1 r1 q1 e1 rf1 qv1 len1 hnk hle hnx Q hr hL hB hFq hX hpr hf hf2
    refine rX1_reachFrom_15 ⟨fun _ => ⟨_, rfl, hF h1 r1 q1 e1 rf1 qv1 len1 Q hr hL hB hFq hX (fun u hu => hpr u hu ?_) hf hf2⟩, fun z => absurd (show (300 : Int32) ≤ nI n by rw [show n = 300 by omega]; decide) z⟩
    have := (hG.t hu).2.2.2
    omega
  | succ k ih =>
    intro n v frm h1 r1 q1 e1 rf1 qv1 len1 hnk hle hnx Q hr hL hB hFq hX hpr hf hf2
    have hE1 : EC h1 m ch L := hE.fr (fun i hi => hf i (by omega))
    refine rX1_reachFrom_15 ⟨fun z => absurd ((nI_leI (a := 300) (by decide) (by omega)).mp z) (by omega), fun _ => ⟨fun z => ⟨_, rfl, ?_⟩, fun z => ?_⟩⟩
    · refine hF h1 r1 q1 e1 rf1 qv1 len1 Q hr hL hB hFq hX (fun u hu => hpr u hu ?_) hf hf2
      rcases hnx with ⟨-, c⟩ | ⟨b, c, hb1, hb2, hab, -⟩
      · rcases Nat.lt_or_ge u frm with y | y
        · exact y
        · rw [c u y (by have := (hG.t hu).2.2.2; omega)] at hu; cases hu
      · rw [c] at z; exact absurd z (n1_ne (by omega))
    · rcases hnx with ⟨c, -⟩ | ⟨b, c, hb1, hb2, hab, hgap⟩
      · exact absurd c z
      · subst c
        have hbn := (hG.t hab).2.2.2
        have tr : ∀ u, m_aj m a u = true → u < b + 1 → u = b ∨ u < frm := fun u hu hlt => by
          by_cases c : u = b
          · exact Or.inl c
          · right
            rcases Nat.lt_or_ge u frm with y | y
            · exact y
            · rw [hgap u y (by omega)] at hu; cases hu
        -- on to the next
        have go : ∀ h2 r2 q2 e2 rf2 qv2 len2, QA h2 (c_mk (nI len2) cs orr) p r2 q2 e2 → (∀ v, v < m_nu m → r2 v = oi (rf2 v)) → QL (m_nu m) qv2 len2 q2 e2 → BI (m_aj m) L (m_th m) pr rf2 qv2 len2 → FQ pr rf2 qv2 len2 → EX rf1 rf2 qv1 qv2 len1 len2 → rf2 b ≠ none → Fr 26 32 h h2 → (∀ i, i = 27 ∨ i = 28 → h2[i]? = h[i]?) → zX1_reachFrom_66 l g (d + 1) x 26 (nI a) (nI b) (nI n) h2 (fun r h' => ∃ v, r = some (.int v) ∧ K v h') := by
          intro h2 r2 q2 e2 rf2 qv2 len2 Q2 hr2 hL2 hB2 hF2 hX2 hb2' hf2' hf3
          have hE2 : EC h2 m ch L := hE.fr (fun i hi => hf2' i (by omega))
          refine gtR Q2.1 rfl (gtR hE2.1.1 rfl ⟨⟨_, hE2.1.2.2.2.2.1⟩, ?_⟩)
          rw [nI_1]
          refine sp_nextM hE2.1 (by have := (hG.t hab).2.2.1; omega) (by omega) (fun v hnx' => ?_)
          rw [nI_1]
          refine ih (n + 1) v (b + 1) h2 r2 q2 e2 rf2 qv2 len2 (by omega) (by omega) hnx' Q2 hr2 hL2 hB2 hF2 (hX.tr hX2) (fun u hu hlt => ?_) hf2' hf3
          rcases tr u hu hlt with c | c
          · rw [c]; exact hb2'
          · exact hX2.2.2 u (hpr u hu c)
        refine gtR Q.1 rfl (alI Q.2.2.1 (by omega) (by decide) ?_)
        rw [hr b hbn]
        cases hrb : rf1 b with
        | some y =>
          have hy := (hG.t (hB.2 b y hrb).1).2.2.1
          exact ⟨fun _ => go h1 r1 q1 e1 rf1 qv1 len1 Q hr hL hB hFq EX.rf' (by rw [hrb]; simp) hf hf2, fun c => absurd c (n1_ne (by omega))⟩
        | none =>
          refine ⟨fun c => absurd rfl c, fun _ => gtR Q.1 rfl (asI Q.2.2.1 (by omega) (by decide) ?_)⟩
          have Q1 := Q.s2 (f := upd r1 b (nI a))
          have qa1 : qv1 t0 = a := by rw [hX.2.1 t0 ht0]; exact hqa
          have ht1 : t0 < len1 := by have := hX.1; omega
          have hr1 : ∀ v, v < m_nu m → upd r1 b (nI a) v = oi (fput rf1 b (some (qv1 t0)) v) := by rw [qa1]; exact pair_p hr
          have f1 : Fr 26 32 h (h1.set 30 (am_I 0 300 (upd r1 b (nI a)))) := hf.st (by decide)
          have f2 : ∀ i, i = 27 ∨ i = 28 → (h1.set 30 (am_I 0 300 (upd r1 b (nI a))))[i]? = h[i]? := fun i hi => by
            rcases hi with c | c <;> subst c
            · exact (st_ne (by decide)).trans (hf2 27 (Or.inl rfl))
            · exact (st_ne (by decide)).trans (hf2 28 (Or.inr rfl))
          refine gtR Q1.1 rfl (alI Q1.2.1 (by omega) (by decide) ?_)
          rw [hp b hbn]
          cases hpb : pr b with
          | none =>
            refine ⟨fun c => absurd rfl c, fun _ => ⟨_, rfl, ?_⟩⟩
            refine hT _ _ q1 e1 (fput rf1 b (some (qv1 t0))) qv1 len1 b Q1 hr1 hL ⟨fun t ht => ?_, fun b' y hy => ?_⟩ hbn hpb (by rw [fput_s]; simp) f1 f2
            · obtain ⟨u1, u2, u3⟩ := hB.1 t ht
              refine ⟨u1, u2, u3.elim Or.inl (fun ⟨b', t2, w1, w2, w3⟩ => Or.inr ⟨b', t2, w1, w2, ?_⟩)⟩
              rw [fput_n (fun c => by rw [c, hrb] at w3; cases w3)]; exact w3
            · by_cases c : b' = b
              · rw [c, fput_s] at hy
                rw [c, ← Option.some.inj hy]; exact ⟨by rw [qa1]; exact hab, t0, ht1, rfl⟩
              · rw [fput_n c] at hy; exact hB.2 b' y hy
          | some a' =>
            have ha' := (hG.t (hV b a' hpb).1).2.2.2
            refine ⟨fun _ => gtR Q1.1 rfl (alI Q1.2.1 (by omega) (by decide) ?_), fun c => absurd c (n1_ne (by omega))⟩
            rw [hp b hbn, hpb]
            refine ⟨⟨_, Q1.1⟩, sp_putInQueue Q1 hL ha' hn (fun h2 q2 e2 qv2 len2 Q2 hL2 c1 c2 f' f'' => ?_)⟩
            obtain ⟨s1, s2, s3⟩ := BI.step hG hV hB hFq ht1 (by rw [qa1]; exact hab) hrb hpb c1 c2
            exact go h2 _ q2 e2 (fput rf1 b (some (qv1 t0))) qv2 len2 Q2 hr1 hL2 s1 s2 s3 (by rw [fput_s]; simp) (f1.tr f') (fun i hi => (f'' i hi).trans (f2 i hi))
theorem sp_reachFrom {K : Int32 → am_H → Prop} {t0 : Nat} (hE : EC h m ch L) (hv : ml_ok m) (hG : GB (m_aj m) L (m_th m) (m_nu m)) (hp : ∀ v, v < m_nu m → p v = oi (pr v)) (hV : VM (m_aj m) pr) (ht0 : t0 < len)
    (hQ : QA h (c_mk (nI len) cs orr) p r q e) (hr : ∀ v, v < m_nu m → r v = oi (rf v)) (hL : QL (m_nu m) qv len q e) (hB : BI (m_aj m) L (m_th m) pr rf qv len) (hFq : FQ pr rf qv len)
    (hF : ∀ h' r' q' e' rf' qv' len', QA h' (c_mk (nI len') cs orr) p r' q' e' → (∀ v, v < m_nu m → r' v = oi (rf' v)) → QL (m_nu m) qv' len' q' e' → BI (m_aj m) L (m_th m) pr rf' qv' len' → FQ pr rf' qv' len' → EX rf rf' qv qv' len len' → (∀ u, m_aj m (qv t0) u = true → rf' u ≠ none) → Fr 26 32 h h' → (∀ i, i = 27 ∨ i = 28 → h'[i]? = h[i]?) → K (-1) h')
    (hT : ∀ h' r' q' e' rf' qv' len' b, QA h' (c_mk (nI len') cs orr) p r' q' e' → (∀ v, v < m_nu m → r' v = oi (rf' v)) → QL (m_nu m) qv' len' q' e' → BI (m_aj m) L (m_th m) pr rf' qv' len' → b < m_nu m → pr b = none → rf' b ≠ none → Fr 26 32 h h' → (∀ i, i = 27 ∨ i = 28 → h'[i]? = h[i]?) → K (nI b) h') :
    cl_I l g mX1_reachFrom (d + 2) x [.ref 26, .int (nI (qv t0))] h K := by
  have hn : m_nu m ≤ 300 := hv.1.2.2.2.2.2.1
  have := (hL.1 t0 ht0).2
  refine eX1_reachFrom (gtR hQ.1 rfl (gtR hE.1.1 rfl ⟨⟨_, hE.1.2.2.2.2.1⟩, sp_nextM (frm := 0) hE.1 (by omega) (by omega) (fun v hnx => ?_)⟩))
  exact lm_reachFrom (d := d) hE hv hG hp hV rfl ht0 hF hT 300 0 v 0 h r q e rf qv len (by omega) (by omega) hnx hQ hr hL hB hFq EX.rf' (fun u hu c => by omega) Fr.rf (fun _ _ => rfl)
/-- nothing more is reached: what is queued and reached is all that can be -/
def DN (m : ml_T) (L : Nat → Bool) (pr rf : Nat → Option Nat) (qv : Nat → Nat) (len : Nat) : Prop := Mx (m_aj m) L (m_th m) pr ∧ (∀ v, L v = true → (inL qv len v = true ↔ Zr (m_aj m) L (m_th m) pr v)) ∧ (∀ v, L v = false → (rf v ≠ none ↔ Zr (m_aj m) L (m_th m) pr v)) ∧ (∀ b a, rf b = some a → a < m_nu m)
theorem DN.of (hv : ml_ok m) (hG : GB (m_aj m) L (m_th m) (m_nu m)) (hB : BI (m_aj m) L (m_th m) pr rf qv len) (hF : FQ pr rf qv len) (hU : ∀ a, m_th m a = true → L a = true → pr a = none → inL qv len a = true) (hD : ∀ t, t < len → ∀ u, m_aj m (qv t) u = true → rf u ≠ none) : DN m L pr rf qv len := by
  have hW : CL (m_aj m) L pr (fun v => if L v = true then inL qv len v = true else rf v ≠ none) := by
    refine ⟨fun a b hw hl hA => ?_, fun b hw hl => ?_⟩
    · simp only [hl, if_true] at hw
      obtain ⟨t, ht, et⟩ := inL_iff.mp hw
      simp only [hG.r hA hl, Bool.false_eq_true, if_false]
      exact hD t ht b (by rw [et]; exact hA)
    · simp only [hl, Bool.false_eq_true, if_false] at hw
      obtain ⟨a', e1, e2⟩ := hF b hw
      refine ⟨a', e1, ?_⟩
      obtain ⟨t, ht, et⟩ := inL_iff.mp e2
      have := (hB.1 t ht).1
      rw [et] at this
      simp only [this, if_true]; exact e2
  have h0 : ∀ a, m_th m a = true → L a = true → pr a = none → (if L a = true then inL qv len a = true else rf a ≠ none) := fun a h1 h2 h3 => by
    rw [if_pos h2]; exact hU a h1 h2 h3
  have inW : ∀ v, Zr (m_aj m) L (m_th m) pr v → (if L v = true then inL qv len v = true else rf v ≠ none) := fun v hz => hz (fun v => if L v = true then inL qv len v = true else rf v ≠ none) h0 hW.1 (fun b a h1 h2 h3 => by
    obtain ⟨a', e1, hw⟩ := hW.2 b h1 h2
    rw [h3] at e1
    rw [Option.some.inj e1]; exact hw)
  refine ⟨Mx.of hW h0, fun v hl => ⟨fun c => ?_, fun c => ?_⟩, fun v hl => ⟨fun c => ?_, fun c => ?_⟩, fun b a c => (hG.t (hB.2 b a c).1).2.2.1⟩
  · obtain ⟨t, ht, et⟩ := inL_iff.mp c
    rw [← et]; exact (hB.1 t ht).2.1
  · have := inW v c; rw [if_pos hl] at this; exact this
  · cases er : rf v with
    | none => exact absurd er c
    | some a =>
      obtain ⟨u1, t, u2, u3⟩ := hB.2 v a er
      obtain ⟨w1, w2, -⟩ := hB.1 t u2
      rw [u3] at w1 w2
      exact w2.link w1 u1
  · have := inW v c; rw [hl, if_neg (by decide)] at this; exact this
theorem lm_queueUn {K : am_H → Prop} (hE : EC h m ch L) (hv : ml_ok m) (hG : GB (m_aj m) L (m_th m) (m_nu m)) (hLt : ∀ v, L v = true → m_th m v = true) (hp : ∀ v, v < m_nu m → p v = oi (pr v)) (hV : VM (m_aj m) pr)
    (hK : ∀ h' q' e' qv' len', QA h' (c_mk (nI len') cs orr) p r q' e' → QL (m_nu m) qv' len' q' e' → (∀ t, t < len' → L (qv' t) = true ∧ pr (qv' t) = none) → (∀ a, a < m_nu m → L a = true → pr a = none → inL qv' len' a = true) → Fr 26 32 h h' → (∀ i, i = 27 ∨ i = 28 → h'[i]? = h[i]?) → K h') :
    ∀ k a h1 q1 e1 qv1 len1, a + k = m_nu m → QA h1 (c_mk (nI len1) cs orr) p r q1 e1 → QL a qv1 len1 q1 e1 → (∀ t, t < len1 → L (qv1 t) = true ∧ pr (qv1 t) = none) → (∀ v, v < a → L v = true → pr v = none → inL qv1 len1 v = true) → Fr 26 32 h h1 → (∀ i, i = 27 ∨ i = 28 → h1[i]? = h[i]?) →
      am_J l g mX1_queueUnpaired (d + 3) (0, 0, x) 15 [(0, .ref 26), (1, .int (nI a))] [] h1 (fun r h' => r = none ∧ K h') := by
  have hn : m_nu m ≤ 300 := hv.1.2.2.2.2.2.1
  intro k
  induction k with
  | zero =>
    intro a h1 q1 e1 qv1 len1 ha Q hL c1 c2 hf hf2
    have hE1 : EC h1 m ch L := hE.fr (fun i hi => hf i (by omega))
    have : a = m_nu m := by omega
    subst this
    exact rX1_queueUnpaired_15 (gtR Q.1 rfl (gtI hE1.1.1 rfl ⟨fun _ => ⟨rfl, hK h1 q1 e1 qv1 len1 Q hL c1 c2 hf hf2⟩, fun z => absurd (nI_le (by omega) (by omega)) z⟩))
  | succ k ih =>
    intro a h1 q1 e1 qv1 len1 ha Q hL c1 c2 hf hf2
    have hE1 : EC h1 m ch L := hE.fr (fun i hi => hf i (by omega))
    refine rX1_queueUnpaired_15 (gtR Q.1 rfl (gtI hE1.1.1 rfl ⟨fun z => absurd ((nI_leI (by omega) (by omega)).mp z) (by omega), fun _ => gtR Q.1 rfl (asI Q.2.2.2.2 (by omega) (by decide) ?_)⟩))
    have Q1 := Q.s4 (f := upd e1 a 0)
    have f1 : Fr 26 32 h (h1.set 32 (am_I 2 300 (upd e1 a 0))) := hf.st (by decide)
    have f2 : ∀ i, i = 27 ∨ i = 28 → (h1.set 32 (am_I 2 300 (upd e1 a 0)))[i]? = h[i]? := fun i hi => by
      rcases hi with c | c <;> subst c
      · exact (st_ne (by decide)).trans (hf2 27 (Or.inl rfl))
      · exact (st_ne (by decide)).trans (hf2 28 (Or.inr rfl))
    have hE2 : EC (h1.set 32 (am_I 2 300 (upd e1 a 0))) m ch L := hE.fr (fun i hi => f1 i (by omega))
    have L1 : QL (a + 1) qv1 len1 q1 (upd e1 a 0) := by
      refine ⟨fun t ht => ⟨(hL.1 t ht).1, by have := (hL.1 t ht).2; omega⟩, hL.2.1, fun v hva => ?_⟩
      by_cases c : v = a
      · rw [c, pk_us]
        have : inL qv1 len1 a = false := by
          cases y : inL qv1 len1 a with
          | false => rfl
          | true =>
            obtain ⟨t, ht, et⟩ := inL_iff.mp y
            have := (hL.1 t ht).2
            omega
        rw [this]; rfl
      · rw [pk_un c]; exact hL.2.2 v (by omega)
    have skip : (L a = true → pr a ≠ none) → zX1_queueUnpaired_60 l g (d + 2) x 26 (nI a) (h1.set 32 (am_I 2 300 (upd e1 a 0))) (fun r h' => r = none ∧ K h') := fun hno => by
      unfold zX1_queueUnpaired_60
      rw [nI_1]
      refine ih (a + 1) _ q1 _ qv1 len1 (by omega) Q1 L1 c1 (fun v hva hl h0 => ?_) f1 f2
      by_cases c : v = a
      · rw [c] at hl h0; exact absurd h0 (hno hl)
      · exact c2 v (by omega) hl h0
    refine hE2.side Q1.1 (by omega) ⟨fun z => skip (fun c => by rw [bi_0.mp z] at c; cases c), fun z => gtR Q1.1 rfl (alI Q1.2.1 (by omega) (by decide) ?_)⟩
    rw [hp a (by omega)]
    cases hpa : pr a with
    | some b =>
      have := (hG.t (hV a b hpa).1).2.2.2
      exact ⟨fun _ => skip (fun _ => by rw [hpa]; simp), fun c => absurd c (n1_ne (by omega))⟩
    | none =>
      refine ⟨fun c => absurd rfl c, fun _ => ⟨⟨_, Q1.1⟩, sp_putInQueue Q1 L1 (by omega) (by omega) (fun h2 q2 e2 qv2 len2 Q2 hL2 d1 d2 f' f'' => ?_)⟩⟩
      unfold zX1_queueUnpaired_60
      rw [nI_1]
      have hno : inL qv1 len1 a = false := by
        cases y : inL qv1 len1 a with
        | false => rfl
        | true =>
          obtain ⟨t, ht, et⟩ := inL_iff.mp y
          have := (hL.1 t ht).2
          omega
      obtain ⟨g1, g2⟩ := d2 hno
      subst g1 g2
      refine ih (a + 1) h2 q2 e2 _ _ (by omega) Q2 hL2 (fun t ht => ?_) (fun v hva hl h0 => ?_) (f1.tr f') (fun i hi => (f'' i hi).trans (f2 i hi))
      · by_cases c : t = len1
        · simp only [if_pos c]; exact ⟨bi_n0.mp z, hpa⟩
        · simp only [if_neg c]; exact c1 t (by omega)
      · rw [inL_put]
        by_cases c : v = a
        · rw [c]; simp
        · rw [c2 v (by omega) hl h0]; rfl
set_option maxHeartbeats 1000000 in
theorem lm_reachUn {K : Int32 → am_H → Prop} (hE : EC h m ch L) (hv : ml_ok m) (hG : GB (m_aj m) L (m_th m) (m_nu m)) (hp : ∀ v, v < m_nu m → p v = oi (pr v)) (hV : VM (m_aj m) pr)
    (hF : ∀ h' r' q' e' rf' qv' len', QA h' (c_mk (nI len') cs orr) p r' q' e' → (∀ v, v < m_nu m → r' v = oi (rf' v)) → QL (m_nu m) qv' len' q' e' → DN m L pr rf' qv' len' → Fr 26 32 h h' → (∀ i, i = 27 ∨ i = 28 → h'[i]? = h[i]?) → K (-1) h')
    (hT : ∀ h' r' q' e' rf' qv' len' b, QA h' (c_mk (nI len') cs orr) p r' q' e' → (∀ v, v < m_nu m → r' v = oi (rf' v)) → QL (m_nu m) qv' len' q' e' → BI (m_aj m) L (m_th m) pr rf' qv' len' → b < m_nu m → pr b = none → rf' b ≠ none → Fr 26 32 h h' → (∀ i, i = 27 ∨ i = 28 → h'[i]? = h[i]?) → K (nI b) h') :
    ∀ k t h1 r1 q1 e1 rf1 qv1 len1, t + k = 301 → t ≤ len1 → QA h1 (c_mk (nI len1) cs orr) p r1 q1 e1 → (∀ v, v < m_nu m → r1 v = oi (rf1 v)) → QL (m_nu m) qv1 len1 q1 e1 → BI (m_aj m) L (m_th m) pr rf1 qv1 len1 → FQ pr rf1 qv1 len1 → (∀ a, m_th m a = true → L a = true → pr a = none → inL qv1 len1 a = true) → (∀ t', t' < t → ∀ u, m_aj m (qv1 t') u = true → rf1 u ≠ none) → Fr 26 32 h h1 → (∀ i, i = 27 ∨ i = 28 → h1[i]? = h[i]?) →
      am_J l g mX1_reachFromUnpaired (d + 3) (0, 0, x) 6 [(0, .ref 26), (1, .int (nI t))] [] h1 (fun r h' => ∃ v, r = some (.int v) ∧ K v h') := by
  have hn : m_nu m ≤ 300 := hv.1.2.2.2.2.2.1
  intro k
  induction k with
  | zero =>
    intro t h1 r1 q1 e1 rf1 qv1 len1 htk htl Q hr hL
    have := hL.le
    omega
  | succ k ih =>
    intro t h1 r1 q1 e1 rf1 qv1 len1 htk htl Q hr hL hB hFq hU hD hf hf2
    have hE1 : EC h1 m ch L := hE.fr (fun i hi => hf i (by omega))
    have hle := hL.le
    by_cases c : t = len1
    · subst c
      have fin := hF h1 r1 q1 e1 rf1 qv1 t Q hr hL (DN.of hv hG hB hFq hU hD) hf hf2
      exact rX1_reachFromUnpaired_6 ⟨fun _ => ⟨_, rfl, fin⟩, fun _ => gtI Q.1 rfl ⟨fun _ => ⟨_, rfl, fin⟩, fun z => absurd (nI_le (by omega) (by omega)) z⟩⟩
    · have ht : t < len1 := by omega
      refine rX1_reachFromUnpaired_6 ⟨fun z => absurd ((nI_leI (a := 300) (b := t) (by decide) (by omega)).mp z) (by omega), fun _ => gtI Q.1 rfl ⟨fun z => absurd ((nI_leI (by omega) (by omega)).mp z) (by omega), fun _ => gtR Q.1 rfl (alI Q.2.2.2.1 (by omega) (by decide) ?_)⟩⟩
      rw [(hL.1 t ht).1]
      refine ⟨⟨_, Q.1⟩, sp_reachFrom hE1 hv hG hp hV ht Q hr hL hB hFq ?_ ?_⟩
      · intro h2 r2 q2 e2 rf2 qv2 len2 Q2 hr2 hL2 hB2 hF2 hX hall f' f''
        refine ⟨fun _ => ?_, fun z => absurd rfl z⟩
        rw [nI_1]
        refine ih (t + 1) h2 r2 q2 e2 rf2 qv2 len2 (by omega) (by have := hX.1; omega) Q2 hr2 hL2 hB2 hF2 (fun a h1 h2 h3 => ?_) (fun t' ht' u hu => ?_) (hf.tr f') (fun i hi => (f'' i hi).trans (hf2 i hi))
        · obtain ⟨t', c1, c2⟩ := inL_iff.mp (hU a h1 h2 h3)
          exact inL_iff.mpr ⟨t', by have := hX.1; omega, by rw [hX.2.1 t' c1]; exact c2⟩
        · rw [hX.2.1 t' (by omega)] at hu
          by_cases c : t' = t
          · rw [c] at hu; exact hall u hu
          · exact hX.2.2 u (hD t' (by omega) u hu)
      · intro h2 r2 q2 e2 rf2 qv2 len2 b Q2 hr2 hL2 hB2 hb hpb hrb f' f''
        exact ⟨fun z => absurd z (n1_ne (by omega)), fun _ => ⟨_, rfl, hT h2 r2 q2 e2 rf2 qv2 len2 b Q2 hr2 hL2 hB2 hb hpb hrb (hf.tr f') (fun i hi => (f'' i hi).trans (hf2 i hi))⟩⟩
theorem sp_reachUn {K : Int32 → am_H → Prop} (hE : EC h m ch L) (hv : ml_ok m) (hG : GB (m_aj m) L (m_th m) (m_nu m)) (hLt : ∀ v, L v = true → m_th m v = true) (hp : ∀ v, v < m_nu m → p v = oi (pr v)) (hV : VM (m_aj m) pr) (hQ : QA h (c_mk ql cs orr) p r q e)
    (hF : ∀ h' r' q' e' rf' qv' len', QA h' (c_mk (nI len') cs orr) p r' q' e' → (∀ v, v < m_nu m → r' v = oi (rf' v)) → QL (m_nu m) qv' len' q' e' → DN m L pr rf' qv' len' → Fr 26 32 h h' → (∀ i, i = 27 ∨ i = 28 → h'[i]? = h[i]?) → K (-1) h')
    (hT : ∀ h' r' q' e' rf' qv' len' b, QA h' (c_mk (nI len') cs orr) p r' q' e' → (∀ v, v < m_nu m → r' v = oi (rf' v)) → QL (m_nu m) qv' len' q' e' → BI (m_aj m) L (m_th m) pr rf' qv' len' → b < m_nu m → pr b = none → rf' b ≠ none → Fr 26 32 h h' → (∀ i, i = 27 ∨ i = 28 → h'[i]? = h[i]?) → K (nI b) h') :
    cl_I l g mX1_reachFromUnpaired (d + 4) x [.ref 26] h K := by
  have hn : m_nu m ≤ 300 := hv.1.2.2.2.2.2.1
  refine eX1_reachFromUnpaired ⟨⟨_, hQ.1⟩, eX1_queueUnpaired (gtR hQ.1 rfl (sp_fillI hQ.2.2.1 (by decide) ?_))⟩
  have Q1 := hQ.s2 (f := fl_u r (-1) 300)
  refine ptV Q1.1 (Nat.le_of_ble_eq_true rfl) ?_
  have Q2 := Q1.s0 (c' := c_mk (nI 0) cs orr)
  refine lm_queueUn (d := d) (h := h) hE hv hG hLt hp hV (fun h' q' e' qv' len' Q' hL' c1 c2 f' f'' => ?_) (m_nu m) 0 _ q e (fun _ => 0) 0 (by omega) Q2 ⟨fun t ht => by omega, fun t t' _ ht => by omega, fun v hv => by omega⟩ (fun t ht => by omega) (fun v hv => by omega) ((Fr.rf.st (by decide)).st (by decide)) (fun i hi => by
      rcases hi with c | c <;> subst c <;> exact (st_ne (by decide)).trans (st_ne (by decide)))
  refine lm_reachUn (d := d + 1) (h := h) hE hv hG hp hV hF hT 301 0 h' _ q' e' (fun _ => none) qv' len' (by omega) (by omega) Q' (fun v hv' => by unfold fl_u; rw [if_pos (by omega)]; rfl) hL' ⟨fun t ht => ?_, fun b a c => by cases c⟩ (fun b c => absurd rfl c) (fun a h1 h2 h3 => c2 a (hv.2.1 a h1) h2 h3) (fun t' ht' => by omega) f' f''
  obtain ⟨u1, u2⟩ := c1 t ht
  exact ⟨u1, Zr.free (hLt _ u1) u1 u2, Or.inl u2⟩
end CREACH
