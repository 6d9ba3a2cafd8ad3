/-! ===== the class turns pairs, until there are as many as can be ===== -/
section CTURN
variable {l : Launch} {g : am_G} {d : Nat} {x : Bool} {h : am_H} {m : ml_T} {ch : Nat} {L : Nat → Bool}
variable {cs orr ql : Int32} {p r q e : Nat → Int32} {pr rf : Nat → Option Nat} {qv : Nat → Nat} {len w : Nat}
theorem lm_turn {K : am_H → Prop} (hv : ml_ok m) (hG : GB (m_aj m) L (m_th m) (m_nu m)) (hB : BI (m_aj m) L (m_th m) pr rf qv len) (hqd : ∀ t t', t < t' → t' < len → qv t ≠ qv t') (hqn : ∀ t, t < len → qv t < m_nu m) (hr : ∀ v, v < m_nu m → r v = oi (rf v))
    (hK : ∀ h' p' pr', QA h' (c_mk ql cs orr) p' r q e → (∀ v, v < m_nu m → p' v = oi (pr' v)) → VM (m_aj m) pr' → PN L pr' (m_nu m) = PN L pr (m_nu m) + 1 → Fr 29 29 h h' → K h') :
    ∀ k n b J h1 p1 pr1, n + k = 300 → n + J ≤ 300 → J ≤ len → QA h1 (c_mk ql cs orr) p1 r q e → (∀ v, v < m_nu m → p1 v = oi (pr1 v)) → VM (m_aj m) (nh pr1 (some b)) → b < m_nu m → (∃ t, t < J ∧ rf b = some (qv t)) → (∀ t, t < J → pr1 (qv t) = pr (qv t)) → (∀ v, L v = true → (pr1 v = none ↔ pr v = none)) → Fr 29 29 h h1 →
      am_J l g mX1_turnPairsUpTo d (0, 0, x) 4 [(0, .ref 26), (2, .int (nI b)), (3, .int (nI n))] [] h1 (fun r h' => r = none ∧ K h') := by
  have hn : m_nu m ≤ 300 := hv.1.2.2.2.2.2.1
  intro k
  induction k with
  | zero =>
    intro n b J h1 p1 pr1 hnk hnJ hJ Q hp hV hb ht
    obtain ⟨t, c, -⟩ := ht
    omega
  | succ k ih =>
    intro n b J h1 p1 pr1 hnk hnJ hJ Q hp hV hb ht hsame hno hf
    obtain ⟨t, htJ, hrb⟩ := ht
    have htl : t < len := by omega
    have han := hqn t htl
    obtain ⟨hla, hza, hpa⟩ := hB.1 t htl
    have hA := (hB.2 b (qv t) hrb).1
    have hlb := hG.r hA hla
    have hab := hG.ne hA
    refine rX1_turnPairsUpTo_4 ⟨fun z => absurd ((nI_leI (a := 300) (by decide) (by omega)).mp z) (by omega), fun _ => ⟨fun c => absurd c (n1_ne (by omega)), fun _ => gtR Q.1 rfl (alI Q.2.2.1 (by omega) (by decide) ?_)⟩⟩
    rw [hr b hb, hrb]
    refine ⟨fun _ => gtR Q.1 rfl (alI Q.2.1 (i := qv t) (by omega) (by decide) ?_), fun c => absurd c (n1_ne (by omega))⟩
    rw [hp (qv t) han, hsame t htJ]
    refine gtR Q.1 rfl (asI Q.2.1 (by omega) (by decide) ?_)
    have Q1 := Q.s1 (f := upd p1 (qv t) (nI b))
    refine gtR Q1.1 rfl (asI Q1.2.1 (by omega) (by decide) ?_)
    have Q2 := Q1.s1 (f := upd (upd p1 (qv t) (nI b)) b (nI (qv t)))
    have V2 := VM.turn hG hV hA
    have f2 : Fr 29 29 h ((h1.set 29 (am_I 0 300 (upd p1 (qv t) (nI b)))).set 29 (am_I 0 300 (upd (upd p1 (qv t) (nI b)) b (nI (qv t))))) := (hf.st (by decide)).st (by decide)
    have hp2 : ∀ v, v < m_nu m → upd (upd p1 (qv t) (nI b)) b (nI (qv t)) v = oi (tw pr1 (qv t) b v) := fun v hv' => by
      by_cases c : v = b
      · rw [c, pk_us, tw_b (Ne.symm hab)]; rfl
      · rw [pk_un c]
        by_cases c' : v = qv t
        · rw [c', pk_us, tw_a]; rfl
        · rw [pk_un c', tw_n c' c]; exact hp v hv'
    have off : ∀ v, L v = true → v ≠ qv t → tw pr1 (qv t) b v = pr1 v := fun v hlv hne => tw_n hne (fun c => by rw [c, hlb] at hlv; cases hlv)
    rw [hsame t htJ] at V2
    rw [nI_1]
    rcases hpa with c | ⟨b2, t2, c1, c2, c3⟩
    · rw [c] at V2 ⊢
      rw [nh_0] at V2
      have key := hK _ _ (tw pr1 (qv t) b) Q2 hp2 V2 (PN.up han hla c (by rw [tw_a]; simp) (fun v hlv hne => by rw [off v hlv hne]; exact hno v hlv)) f2
      exact rX1_turnPairsUpTo_4 ⟨fun _ => ⟨rfl, key⟩, fun _ => ⟨fun _ => ⟨rfl, key⟩, fun z => absurd rfl z⟩⟩
    · rw [c1] at V2 ⊢
      have hb2 : b2 < m_nu m := (hG.t (hB.2 b2 _ c3).1).2.2.2
      refine ih (n + 1) b2 t _ _ (tw pr1 (qv t) b) (by omega) (by omega) (by omega) Q2 hp2 V2 hb2 ⟨t2, c2, c3⟩ (fun t' ht' => ?_) (fun v hlv => ?_) f2
      · rw [off (qv t') (hB.1 t' (by omega)).1 (hqd t' t ht' htl)]
        exact hsame t' (by omega)
      · by_cases c : v = qv t
        · rw [c, tw_a, c1]; simp
        · rw [off v hlv c]; exact hno v hlv
theorem sp_turn {K : am_H → Prop} {b : Nat} (hv : ml_ok m) (hG : GB (m_aj m) L (m_th m) (m_nu m)) (hQ : QA h (c_mk ql cs orr) p r q e) (hp : ∀ v, v < m_nu m → p v = oi (pr v)) (hV : VM (m_aj m) pr) (hr : ∀ v, v < m_nu m → r v = oi (rf v)) (hL : QL (m_nu m) qv len q e) (hB : BI (m_aj m) L (m_th m) pr rf qv len) (hb : b < m_nu m) (hpb : pr b = none) (hrb : rf b ≠ none)
    (hK : ∀ h' p' pr', QA h' (c_mk ql cs orr) p' r q e → (∀ v, v < m_nu m → p' v = oi (pr' v)) → VM (m_aj m) pr' → PN L pr' (m_nu m) = PN L pr (m_nu m) + 1 → Fr 29 29 h h' → K h') : cl_N l g mX1_turnPairsUpTo d x [.ref 26, .int (nI b)] h K := by
  have hn : m_nu m ≤ 300 := hv.1.2.2.2.2.2.1
  have hle := hL.le
  refine eX1_turnPairsUpTo ?_
  refine lm_turn (h := h) hv hG hB hL.2.1 (fun t ht => (hL.1 t ht).2) hr hK 300 0 b len h p pr (by omega) (by omega) (Nat.le_refl _) hQ hp (fun u v c => ?_) hb ?_ (fun _ _ => rfl) (fun _ _ => Iff.rfl) Fr.rf
  · unfold nh at c ⊢
    by_cases y : some b = some u
    · rw [if_pos y] at c; cases c
    · rw [if_neg y] at c
      obtain ⟨q1, q2⟩ := hV u v c
      refine ⟨q1, ?_⟩
      rw [if_neg (fun z => by rw [← Option.some.inj z, hpb] at q2; cases q2)]
      exact q2
  · cases c : rf b with
    | none => exact absurd c hrb
    | some a =>
      obtain ⟨-, t, c1, c2⟩ := hB.2 b a c
      exact ⟨t, c1, by rw [c2]⟩
theorem lm_many {K : am_H → Prop} (hE : EC h m ch L) (hv : ml_ok m) (hG : GB (m_aj m) L (m_th m) (m_nu m)) (hLt : ∀ v, L v = true → m_th m v = true)
    (hK : ∀ h' p' r' q' e' pr' rf' qv' len', QA h' (c_mk (nI len') cs orr) p' r' q' e' → (∀ v, v < m_nu m → p' v = oi (pr' v)) → VM (m_aj m) pr' → (∀ v, v < m_nu m → r' v = oi (rf' v)) → QL (m_nu m) qv' len' q' e' → DN m L pr' rf' qv' len' → Fr 26 32 h h' → (∀ i, i = 27 ∨ i = 28 → h'[i]? = h[i]?) → K h') :
    ∀ k n h1 ql p r q e pr, n + k = 301 → n ≤ PN L pr (m_nu m) → QA h1 (c_mk ql cs orr) p r q e → (∀ v, v < m_nu m → p v = oi (pr v)) → VM (m_aj m) pr → Fr 26 32 h h1 → (∀ i, i = 27 ∨ i = 28 → h1[i]? = h[i]?) →
      am_J l g mX1_pairAsManyAsCanBe (d + 5) (0, 0, x) 2 [(0, .ref 26), (1, .int (nI n))] [] h1 (fun r h' => r = none ∧ K h') := by
  have hn : m_nu m ≤ 300 := hv.1.2.2.2.2.2.1
  intro k
  induction k with
  | zero =>
    intro n h1 ql p r q e pr hnk hle
    have : PN L pr (m_nu m) ≤ m_nu m := fb_ct_le _ _
    omega
  | succ k ih =>
    intro n h1 ql p r q e pr hnk hle Q hp hV hf hf2
    have hE1 : EC h1 m ch L := hE.fr (fun i hi => hf i (by omega))
    refine rX1_pairAsManyAsCanBe_2 ⟨fun z => absurd ((nI_ltI (a := 300) (by decide) (by omega)).mp z) (by omega), fun _ => ⟨⟨_, Q.1⟩, sp_reachUn (d := d) hE1 hv hG hLt hp hV Q ?_ ?_⟩⟩
    · intro h2 r2 q2 e2 rf2 qv2 len2 Q2 hr2 hL2 hD2 f' f''
      exact ⟨fun z => absurd rfl z, fun _ => ⟨rfl, hK h2 p r2 q2 e2 pr rf2 qv2 len2 Q2 hp hV hr2 hL2 hD2 (hf.tr f') (fun i hi => (f'' i hi).trans (hf2 i hi))⟩⟩
    · intro h2 r2 q2 e2 rf2 qv2 len2 b Q2 hr2 hL2 hB2 hb hpb hrb f' f''
      refine ⟨fun _ => ⟨⟨_, Q2.1⟩, sp_turn hv hG Q2 hp hV hr2 hL2 hB2 hb hpb hrb (fun h3 p3 pr3 Q3 hp3 hV3 hpn f3 => ?_)⟩, fun z => absurd z (n1_ne (by omega))⟩
      rw [nI_1]
      refine ih (n + 1) h3 _ p3 r2 q2 e2 pr3 (by omega) (by omega) Q3 hp3 hV3 ((hf.tr f').tr (f3.mono (by omega) (by omega))) (fun i hi => ?_)
      rw [f3 i (by omega), f'' i hi, hf2 i hi]
theorem sp_pairAsMany {K : am_H → Prop} (hE : EC h m ch L) (hv : ml_ok m) (hG : GB (m_aj m) L (m_th m) (m_nu m)) (hLt : ∀ v, L v = true → m_th m v = true) (hQ : QA h (c_mk ql cs orr) p r q e) (hp : ∀ v, v < m_nu m → p v = oi (pr v)) (hV : VM (m_aj m) pr)
    (hK : ∀ h' p' r' q' e' pr' rf' qv' len', QA h' (c_mk (nI len') cs orr) p' r' q' e' → (∀ v, v < m_nu m → p' v = oi (pr' v)) → VM (m_aj m) pr' → (∀ v, v < m_nu m → r' v = oi (rf' v)) → QL (m_nu m) qv' len' q' e' → DN m L pr' rf' qv' len' → Fr 26 32 h h' → (∀ i, i = 27 ∨ i = 28 → h'[i]? = h[i]?) → K h') : cl_N l g mX1_pairAsManyAsCanBe (d + 5) x [.ref 26] h K :=
  eX1_pairAsManyAsCanBe (lm_many (d := d) hE hv hG hLt hK 301 0 h ql p r q e pr (by omega) (by omega) hQ hp hV Fr.rf (fun _ _ => rfl))
end CTURN
