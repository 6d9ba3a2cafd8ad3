def cons_r (m : ml_T) (r : Nat) : Prop := ∀ a b, m_ov m a b = true → (a = r ∨ b = r) → tl m a b = true
theorem j1_told {m : ml_T} (hv : ml_g m) {r t : Nat} {f : Bool} (ht : t < m.1.2.1) (hr : r < m_sh m) (h1 : m_is m r t f = true) (h2 : m_in m r t f = true) : (m_o m t = f → tl m r (m_oth m r t f) = true) ∧ (¬ m_o m t = f → tl m (m_oth m r t f) r = true) := by
  refine ⟨fun ho => (tl_n_iff _).mpr ⟨t, f, ht, tl1_intro hr h1 h2 rfl ho⟩, fun ho => ?_⟩
  obtain ⟨k1, k2, k3, -⟩ := m_back hv ht hr h1 h2
  exact (tl_n_iff _).mpr ⟨t, !f, ht, tl1_intro (m_oth_lt hv ht h2) k1 k2 k3 (show m_o m t = !f by revert ho; cases m_o m t <;> cases f <;> simp)⟩
theorem cons_j1 {m : ml_T} (hv : ml_g m) {r t : Nat} {f : Bool} (ht : t < m.1.2.1) (hr : r < m_sh m) (hc : cons_r m r) : cons_r (m_j1 m r t f) r := by
  intro a b hab hor
  rw [tl_eq (m_j1_eq m r t f)]
  rcases (j1_ov a b).mp hab with h | ⟨h1, h2, h3, h4⟩
  · exact hc a b h hor
  · obtain ⟨k1, k2⟩ := j1_told hv ht hr h1 h2
    rcases h4 with ⟨g1, rfl, rfl⟩ | ⟨g1, rfl, rfl⟩
    · exact k1 g1
    · exact k2 g1
theorem k1_j1 {m : ml_T} (hv : ml_g m) {r t : Nat} {f : Bool} (ht : t < m.1.2.1) (hr : r < m_sh m) (hc : cons_r m r) : m_k1 m r t f = m_j1 m r t f := by
  by_cases hq : (m_is m r t f && m_in m r t f && m_th m (m_oth m r t f)) = true
  · rw [m_k1_yes hq]
    unfold m_j1
    rw [if_pos hq]
    simp only [Bool.and_eq_true] at hq
    obtain ⟨k1, k2⟩ := j1_told hv ht hr hq.1.1 hq.1.2
    have hne := m_oth_ne hv ht hr hq.1.1 hq.1.2
    by_cases ho : m_o m t = f
    · rw [if_pos ho, if_pos ho]
      have hf : m_ov m (m_oth m r t f) r = false := by
        cases hz : m_ov m (m_oth m r t f) r with
        | false => rfl
        | true =>
          have := hc _ _ hz (Or.inr rfl)
          rw [(tl_anti hv (k1 ho)).2] at this
          cases this
      unfold m_sets m_link
      congr 1
      funext a b
      by_cases e1 : a = r ∧ b = m_oth m r t f
      · rw [if_pos e1, if_pos e1]; rfl
      · rw [if_neg e1, if_neg e1]
        by_cases e2 : a = m_oth m r t f ∧ b = r
        · rw [if_pos e2, e2.1, e2.2, hf]; rfl
        · rw [if_neg e2]
    · rw [if_neg ho, if_neg ho]
      have hf : m_ov m r (m_oth m r t f) = false := by
        cases hz : m_ov m r (m_oth m r t f) with
        | false => rfl
        | true =>
          have := hc _ _ hz (Or.inl rfl)
          rw [(tl_anti hv (k2 ho)).2] at this
          cases this
      unfold m_sets m_link
      congr 1
      funext a b
      by_cases e1 : a = r ∧ b = m_oth m r t f
      · have e2 : ¬ (a = m_oth m r t f ∧ b = r) := fun z => hne (z.1.symm.trans e1.1)
        rw [if_pos e1, if_neg e2, e1.1, e1.2, hf]; rfl
      · rw [if_neg e1]
        by_cases e2 : a = m_oth m r t f ∧ b = r
        · rw [if_pos e2, if_pos e2]; rfl
        · rw [if_neg e2, if_neg e2]
  · have hq' : (m_is m r t f && m_in m r t f && m_th m (m_oth m r t f)) = false := by
      cases hz : (m_is m r t f && m_in m r t f && m_th m (m_oth m r t f)) with
      | false => rfl
      | true => exact absurd hz hq
    rw [m_k1_no hq']
    unfold m_j1
    rw [if_neg hq]
theorem kt_jt {m : ml_T} (hv : ml_g m) {r : Nat} (hr : r < m_sh m) (hc : cons_r m r) : ∀ n, n ≤ m.1.2.1 → m_kt m r n = m_jt m r n ∧ cons_r (m_jt m r n) r := by
  intro n
  induction n with
  | zero => intro _; exact ⟨rfl, hc⟩
  | succ n ih =>
    intro hn
    obtain ⟨e, c⟩ := ih (by omega)
    have he := m_jt_eq m r n
    have hg := he.g hv
    have ht : n < (m_jt m r n).1.2.1 := by rw [he.1]; omega
    have hr1 : r < m_sh (m_jt m r n) := by rw [he.sh]; exact hr
    have he1 := m_j1_eq (m_jt m r n) r n true
    have hg1 := he1.g hg
    have ht1 : n < (m_j1 (m_jt m r n) r n true).1.2.1 := by rw [he1.1]; exact ht
    have hr2 : r < m_sh (m_j1 (m_jt m r n) r n true) := by rw [he1.sh]; exact hr1
    have c1 := cons_j1 (f := true) hg ht hr1 c
    refine ⟨?_, cons_j1 hg1 ht1 hr2 c1⟩
    show m_k1 (m_k1 (m_kt m r n) r n true) r n false = _
    rw [e, k1_j1 hg ht hr1 c, k1_j1 hg1 ht1 hr2 c1]
    rfl
/-- of the model's cells only the object, its weaves' arrays, isThere and table have changed -/
def FrM (h h' : am_H) : Prop := ∀ i, ¬ (i = 46 ∨ i = 52 ∨ (54 ≤ i ∧ i ≤ 61)) → h'[i]? = h[i]?
theorem FrM.rf {h : am_H} : FrM h h := fun _ _ => rfl
theorem FrM.tr {h h1 h2 : am_H} (a : FrM h h1) (b : FrM h1 h2) : FrM h h2 := fun i hi => (b i hi).trans (a i hi)
theorem FrM.st {h h1 : am_H} {j : Nat} {c : am_C} (a : FrM h h1) (hj : j = 46 ∨ j = 52 ∨ (54 ≤ j ∧ j ≤ 61)) : FrM h (h1.set j c) := fun i hi => by
  have hne : j ≠ i := fun e => hi (by rw [← e]; exact hj)
  rw [st_ne hne]; exact a i hi
theorem FrM.get {h h1 : am_H} {i : Nat} {c : am_C} (a : FrM h h1) (hi : ¬ (i = 46 ∨ i = 52 ∨ (54 ≤ i ∧ i ≤ 61))) (hc : h[i]? = some c) : h1[i]? = some c := (a i hi).trans hc
theorem Fr.m {lo hi : Nat} {h h1 : am_H} (a : Fr lo hi h h1) (hs : ∀ i, lo ≤ i → i ≤ hi → (i = 46 ∨ i = 52 ∨ (54 ≤ i ∧ i ≤ 61))) : FrM h h1 := fun i hi' => a i (fun q => hi' (hs i q.1 q.2))
section MODEL3
variable {l : Launch} {g : am_G} {d : Nat} {x : Bool} {h : am_H} {m : ml_T} {Wh : wv_T} {o : mo_T}
theorem ms_linksJ {r : Nat} {K : am_H → Prop} (hM : MM h m Wh o) (hv : ml_g m) (hr : r < m_sh m) (hc : cons_r m r) (hK : ∀ h', MM h' (m_jt m r m.1.2.1) Wh o → Fr 61 61 h h' → K h') : cl_N l g mX9_links (d + 1) x [.ref 46, .int (nI r)] h K := by
  refine ms_links hM hv hr fun h' a b => hK h' ?_ b
  rw [← (kt_jt hv hr hc _ (Nat.le_refl _)).1]; exact a
/-- thrown is 0 -/
def o_0 (o : mo_T) : mo_T := (0, o.2)
theorem MM.thr (hM : MM h m Wh o) : MM (h.set 46 (c_mm (o_0 o) (nI m.2.1) (nI m.2.2.1) (nI (m_sh m)) (nI (m_nu m)))) m Wh (o_0 o) := by
  obtain ⟨q0, hW, ⟨f, h60, h60'⟩, ⟨ft, h61, h61'⟩⟩ := hM
  exact ⟨st_eq q0, hW.fr (fun i a b => st_ne (by omega)), ⟨f, (st_ne (by decide)).trans h60, h60'⟩, ⟨ft, (st_ne (by decide)).trans h61, h61'⟩⟩
theorem mt_thr {K : am_H → Prop} (hM : MM h m Wh o) (hK : ∀ h', MM h' m Wh (o_0 o) → Fr 46 46 h h' → K h') : pt_V h 46 9 0 (.int 0) K :=
  ptV hM.1 (Nat.le_of_ble_eq_true rfl) (hK _ hM.thr (Fr.rf.st (by decide)))
theorem ms_at {c w q : Int32} {K : Int32 → am_H → Prop} (hM : MM h m Wh o) (hv : ml_g m) (h1 : ∀ h' a b k, MM h' m Wh (o_0 o) → Fr 46 46 h h' → a < m.2.1 → b < m.2.2.1 → k < m.1.1 → c = nI a → w = nI b → q = nI k → K (nI ((b * m.2.1 + a) * m.1.1 + k)) h') (h0 : ∀ h', MM h' m Wh (o_0 o) → Fr 46 46 h h' → (c < 0 ∨ nI m.2.1 ≤ c ∨ w < 0 ∨ nI m.2.2.1 ≤ w ∨ q < 0 ∨ nI m.1.1 ≤ q) → K (-1) h') : cl_I l g mX9_at d x [.ref 46, .int c, .int w, .int q] h K := by
  have b1 := hv.2.1
  have b2 := hv.2.2.1
  have b3 := hv.1.1
  refine eX9_at (mt_thr hM fun h' hM1 hf1 => ?_)
  obtain ⟨q0, hW, -⟩ := id hM1
  obtain ⟨fr, fl, f1, f2, f3, f4, f5, w52, w54, w1, w2, w3, w4, w5, e52, e54, w6⟩ := hW.l
  have z0 : ∀ (hq : c < 0 ∨ nI m.2.1 ≤ c ∨ w < 0 ∨ nI m.2.2.1 ≤ w ∨ q < 0 ∨ nI m.1.1 ≤ q), zX9_at_47 l g d x 46 c w q h' (fun r h' => ∃ v, r = some (.int v) ∧ K v h') := fun hq => ⟨fun _ => ⟨_, rfl, h0 h' hM1 hf1 hq⟩, fun z => absurd rfl z⟩
  refine ⟨fun hc => z0 (Or.inl hc), fun hc => gtI q0 rfl ⟨fun hd => z0 (Or.inr (Or.inl hd)), fun hd => ⟨fun he => z0 (Or.inr (Or.inr (Or.inl he))), fun he => gtI q0 rfl ⟨fun hf => z0 (Or.inr (Or.inr (Or.inr (Or.inl hf)))), fun hf => ⟨fun hg => z0 (Or.inr (Or.inr (Or.inr (Or.inr (Or.inl hg))))), fun hg => gtR q0 rfl (alI (i := 2) w52 (by decide) (by decide) ?_)⟩⟩⟩⟩⟩
  rw [e52]
  refine ⟨fun hi => z0 (Or.inr (Or.inr (Or.inr (Or.inr (Or.inr hi))))), fun hi => ⟨fun z => absurd z (by decide), fun _ => gtI q0 rfl (gtR q0 rfl (alI (i := 2) w52 (by decide) (by decide) ?_))⟩⟩
  rw [e52]
  rcases pk_ix c (show m.2.1 < 2 ^ 31 by omega) with z | z | ⟨a, ha, rfl⟩
  · exact absurd z hc
  · exact absurd z hd
  rcases pk_ix w (show m.2.2.1 < 2 ^ 31 by omega) with z | z | ⟨b, hb, rfl⟩
  · exact absurd z he
  · exact absurd z hf
  rcases pk_ix q (show m.1.1 < 2 ^ 31 by omega) with z | z | ⟨k, hk, rfl⟩
  · exact absurd z hg
  · exact absurd z hi
  rw [pk_mul, nI_add, pk_mul, nI_add]
  exact ⟨_, rfl, h1 h' a b k hM1 hf1 ha hb hk rfl rfl rfl⟩
theorem ms_add {K : Int32 → am_H → Prop} (hM : MM h m Wh o) (hv : ml_g m) (h0 : ∀ h', MM h' m Wh (o_0 o) → FrM h h' → m_nu m = 300 → K (-1) h') (h1 : ∀ h', m_nu m < 300 → MM h' (m_put m) Wh (o_0 o) → FrM h h' → K (nI (m_nu m)) h') : cl_I l g mX9_add d x [.ref 46] h K := by
  have hnu : m_nu m ≤ 300 := hv.2.2.2.2.2.1
  refine eX9_add (mt_thr hM fun h' hM1 hf1 => ?_)
  have hf1' : FrM h h' := hf1.m (by omega)
  obtain ⟨q0, hW, ⟨f, h60, h60'⟩, ⟨ft, h61, h61'⟩⟩ := id hM1
  refine gtI q0 rfl ⟨fun hc => ?_, fun hc => ⟨_, rfl, h0 h' hM1 hf1' (nI_eqI (b := 300) (by omega) (by decide) hc)⟩⟩
  have hlt : m_nu m < 300 := by
    rcases Nat.lt_or_ge (m_nu m) 300 with z | z
    · exact z
    · exact absurd (show nI (m_nu m) = 300 by rw [show m_nu m = 300 by omega]; rfl) hc
  refine gtR q0 rfl (gtI q0 rfl (asI h60 hlt (by omega) ?_))
  have e0 : (h'.set 60 (am_I 2 300 (upd f (m_nu m) 1)))[46]? = some (c_mm (o_0 o) (nI m.2.1) (nI m.2.2.1) (nI (m_sh m)) (nI (m_nu m))) := (st_ne (by decide)).trans q0
  refine gtI e0 rfl (ptV e0 (Nat.le_of_ble_eq_true rfl) (gtI (st_eq e0) rfl ?_))
  rw [nI_1, nI_pred]
  refine ⟨_, rfl, h1 _ hlt ⟨st_eq e0, hW.fr (fun i a b => by rw [st_ne (by omega), st_ne (by omega)]), ⟨_, (st_ne (by decide)).trans (st_eq h60), fun i hi => ?_⟩, ⟨ft, (st_ne (by decide)).trans ((st_ne (by decide)).trans h61), h61'⟩⟩ ((hf1'.st (by decide)).st (by decide))⟩
  have hi' : i < m_nu m + 1 := hi
  by_cases e : i = m_nu m
  · subst e
    rw [pk_us]
    have : m_th (m_put m) (m_nu m) = true := if_pos rfl
    rw [this]; rfl
  · rw [pk_un e, h60' i (by omega)]
    have : m_th (m_put m) i = m_th m i := if_neg e
    rw [this]
end MODEL3
