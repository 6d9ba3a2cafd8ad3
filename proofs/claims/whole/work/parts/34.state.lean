/-! Arrays.fill, all marks dropped -/
theorem lp_fillL {l : Launch} {g : am_G} {d : Nat} {x : Bool} {h : am_H} {w n : Nat} {f : Nat → Int64} {v : Int64} {Q : Option Value → am_H → Prop} (hw : h[w]? = some (am_L n f)) (hn : n < 100000) (hK : Q none (h.set w (am_L n (fl_u f v n)))) : ∀ k c, c + k = n → am_J l g mJ7_fill_d0a16 d (0, 0, x) 6 [(0, .ref w), (1, .long v), (3, .int (nI c)), (4, .int (nI n))] [] (h.set w (am_L n (fl_u f v c))) Q := by
  intro k
  induction k with
  | zero =>
    intro c hc
    have : c = n := by omega
    subst this
    exact rJ7_fill_d0a16_6 ⟨fun _ => hK, fun hq => absurd (nI_le (Nat.le_refl _) (by omega)) hq⟩
  | succ k ih =>
    intro c hc
    refine rJ7_fill_d0a16_6 ⟨fun hq => absurd ((nI_leI (by omega) (by omega)).mp hq) (by omega), fun _ => ?_⟩
    refine ⟨n, _, st_eq hw, vp_in_nI (by omega) (by omega), ?_⟩
    rw [nI_clamp (by omega), List.set_set, fl_uL, nI_1]
    exact ih (c + 1) (by omega)
theorem sp_fillL {l : Launch} {g : am_G} {d : Nat} {x : Bool} {h : am_H} {w n : Nat} {f : Nat → Int64} {v : Int64} {K : am_H → Prop} (hw : h[w]? = some (am_L n f)) (hn : n < 100000) (hK : K (h.set w (am_L n (fl_u f v n)))) : cl_N l g mJ7_fill_d0a16 d x [.ref w, .long v] h K := by
  refine eJ7_fill_d0a16 ⟨n, f, hw, ?_⟩
  have := lp_fillL (l := l) (g := g) (d := d) (x := x) (v := v) (Q := fun r h' => r = none ∧ K h') hw hn ⟨rfl, hK⟩ n 0 (by omega)
  rw [fl_u0, set_same hw] at this
  exact this
theorem lp_fillI {l : Launch} {g : am_G} {d : Nat} {x : Bool} {h : am_H} {w n : Nat} {f : Nat → Int32} {v : Int32} {Q : Option Value → am_H → Prop} (hw : h[w]? = some (am_I 0 n f)) (hn : n < 100000) (hK : Q none (h.set w (am_I 0 n (fl_u f v n)))) : ∀ k c, c + k = n → am_J l g mJ7_fill_53178 d (0, 0, x) 5 [(0, .ref w), (1, .int v), (2, .int (nI c)), (3, .int (nI n))] [] (h.set w (am_I 0 n (fl_u f v c))) Q := by
  intro k
  induction k with
  | zero =>
    intro c hc
    have : c = n := by omega
    subst this
    exact rJ7_fill_53178_5 ⟨fun _ => hK, fun hq => absurd (nI_le (Nat.le_refl _) (by omega)) hq⟩
  | succ k ih =>
    intro c hc
    refine rJ7_fill_53178_5 ⟨fun hq => absurd ((nI_leI (by omega) (by omega)).mp hq) (by omega), fun _ => ?_⟩
    refine ⟨n, _, st_eq hw, vp_in_nI (by omega) (by omega), ?_⟩
    rw [nI_clamp (by omega), List.set_set, fl_uI, nI_1]
    exact ih (c + 1) (by omega)
theorem sp_fillI {l : Launch} {g : am_G} {d : Nat} {x : Bool} {h : am_H} {w n : Nat} {f : Nat → Int32} {v : Int32} {K : am_H → Prop} (hw : h[w]? = some (am_I 0 n f)) (hn : n < 100000) (hK : K (h.set w (am_I 0 n (fl_u f v n)))) : cl_N l g mJ7_fill_53178 d x [.ref w, .int v] h K := by
  refine eJ7_fill_53178 ⟨n, f, hw, ?_⟩
  have := lp_fillI (l := l) (g := g) (d := d) (x := x) (v := v) (Q := fun r h' => r = none ∧ K h') hw hn ⟨rfl, hK⟩ n 0 (by omega)
  rw [fl_u0, set_same hw] at this
  exact this
theorem sp_dropAll {l : Launch} {g : am_G} {d : Nat} {x : Bool} {h : am_H} {a w n : Nat} {f : Nat → Int64} {K : am_H → Prop} (ha : h[a]? = some (am_O 2 [.ref w])) (hw : h[w]? = some (am_L n f)) (hn : n < 10000) (hK : ∀ f', (∀ r i, r * 5 + 5 ≤ n → i < 320 → bt_r f' r i = false) → K (h.set w (am_L n f'))) : cl_N l g mX2_dropAll (d + 1) x [.ref a] h K := by
  refine eX2_dropAll ⟨_, w, ha, rfl, ?_⟩
  refine sp_fillL hw (by omega) ⟨rfl, hK _ (fun r i hr hi => ?_)⟩
  unfold bt_r fl_u
  rw [if_pos (by omega)]
  simp
/-! ===== the state ===== -/
theorem gtI {h : am_H} {a ci k : Nat} {fs : List Value} {v : Int32} {K : Int32 → Prop} (hh : h[a]? = some (am_O ci fs)) (hk : fs[k]? = some (.int v)) (H : K v) : gt_I h a ci k K := ⟨fs, v, hh, hk, H⟩
theorem gtL {h : am_H} {a ci k : Nat} {fs : List Value} {v : Int64} {K : Int64 → Prop} (hh : h[a]? = some (am_O ci fs)) (hk : fs[k]? = some (.long v)) (H : K v) : gt_L h a ci k K := ⟨fs, v, hh, hk, H⟩
theorem gtR {h : am_H} {a ci k : Nat} {fs : List Value} {v : Nat} {K : Nat → Prop} (hh : h[a]? = some (am_O ci fs)) (hk : fs[k]? = some (.ref v)) (H : K v) : gt_R h a ci k K := ⟨fs, v, hh, hk, H⟩
theorem ptV {h : am_H} {a ci k : Nat} {fs : List Value} {v : Value} {K : am_H → Prop} (hh : h[a]? = some (am_O ci fs)) (hk : k < fs.length) (H : K (h.set a (am_O ci (fs.set k v)))) : pt_V h a ci k v K := ⟨fs, hh, hk, H⟩
theorem alI {t : Nat} {h : am_H} {a n i : Nat} {f : Nat → Int32} {K : Int32 → Prop} (hh : h[a]? = some (am_I t n f)) (hi : i < n) (hn : n < 100000) (H : K (f i)) : al_I t h a (nI i) K := ⟨n, f, hh, vp_in_nI hi (by omega), by rw [nI_clamp (by omega)]; exact H⟩
theorem alL {h : am_H} {a n i : Nat} {f : Nat → Int64} {K : Int64 → Prop} (hh : h[a]? = some (am_L n f)) (hi : i < n) (hn : n < 100000) (H : K (f i)) : al_L h a (nI i) K := ⟨n, f, hh, vp_in_nI hi (by omega), by rw [nI_clamp (by omega)]; exact H⟩
theorem asI {t : Nat} {h : am_H} {a n i : Nat} {f : Nat → Int32} {v : Int32} {K : am_H → Prop} (hh : h[a]? = some (am_I t n f)) (hi : i < n) (hn : n < 100000) (H : K (h.set a (am_I t n (upd f i v)))) : as_I t h a (nI i) v K := ⟨n, f, hh, vp_in_nI hi (by omega), by rw [nI_clamp (by omega)]; exact H⟩
theorem asL {h : am_H} {a n i : Nat} {f : Nat → Int64} {v : Int64} {K : am_H → Prop} (hh : h[a]? = some (am_L n f)) (hi : i < n) (hn : n < 100000) (H : K (h.set a (am_L n (vp_updL f i v)))) : as_L h a (nI i) v K := ⟨n, f, hh, vp_in_nI hi (by omega), by rw [nI_clamp (by omega)]; exact H⟩
/-- a weave: rings, links, each link: first, second, right, down, first over -/
abbrev wv_T : Type := Nat × Nat × (Nat → Nat × Nat × Int × Int × Bool)
def wv_ok (W : wv_T) : Prop := W.1 ≤ 4 ∧ W.2.1 ≤ 24 ∧ (∀ k, k < W.2.1 → (W.2.2 k).1 < W.1 ∧ (W.2.2 k).2.1 < W.1 ∧ -9 ≤ (W.2.2 k).2.2.1 ∧ (W.2.2 k).2.2.1 ≤ 9 ∧ -9 ≤ (W.2.2 k).2.2.2.1 ∧ (W.2.2 k).2.2.2.1 ≤ 9 ∧ ¬ ((W.2.2 k).1 = (W.2.2 k).2.1 ∧ (W.2.2 k).2.2.1 = 0 ∧ (W.2.2 k).2.2.2.1 = 0))
  ∧ (∀ j k, j < k → k < W.2.1 → ¬ ((W.2.2 j).1 = (W.2.2 k).1 ∧ (W.2.2 j).2.1 = (W.2.2 k).2.1 ∧ (W.2.2 j).2.2.1 = (W.2.2 k).2.2.1 ∧ (W.2.2 j).2.2.2.1 = (W.2.2 k).2.2.2.1) ∧ ¬ ((W.2.2 j).1 = (W.2.2 k).2.1 ∧ (W.2.2 j).2.1 = (W.2.2 k).1 ∧ (W.2.2 j).2.2.1 = -(W.2.2 k).2.2.1 ∧ (W.2.2 j).2.2.2.1 = -(W.2.2 k).2.2.2.1))
abbrev c_wv (q : Nat) (r k : Int32) : am_C := am_O 7 [.ref (q + 1), .ref (q + 2), .ref (q + 3), .ref (q + 4), .ref (q + 5), .int r, .int k]
/-- the class's weave at q -/
def WC (h : am_H) (q : Nat) (W : wv_T) : Prop := h[q]? = some (c_wv q (nI W.1) (nI W.2.1)) ∧ ∃ f1 f2 f3 f4 f5 : Nat → Int32, h[q + 1]? = some (am_I 0 24 f1) ∧ h[q + 2]? = some (am_I 0 24 f2) ∧ h[q + 3]? = some (am_I 0 24 f3) ∧ h[q + 4]? = some (am_I 0 24 f4) ∧ h[q + 5]? = some (am_I 2 24 f5) ∧
  ∀ k, k < W.2.1 → f1 k = nI (W.2.2 k).1 ∧ f2 k = nI (W.2.2 k).2.1 ∧ f3 k = Int32.ofInt (W.2.2 k).2.2.1 ∧ f4 k = Int32.ofInt (W.2.2 k).2.2.2.1 ∧ f5 k = bi (W.2.2 k).2.2.2.2
theorem WC.fr {h h' : am_H} {q : Nat} {W : wv_T} (hW : WC h q W) (hf : ∀ i, q ≤ i → i ≤ q + 5 → h'[i]? = h[i]?) : WC h' q W := by
  obtain ⟨h0, f1, f2, f3, f4, f5, h1, h2, h3, h4, h5, h6⟩ := hW
  exact ⟨by rw [hf q (by omega) (by omega)]; exact h0, f1, f2, f3, f4, f5, by rw [hf _ (by omega) (by omega)]; exact h1, by rw [hf _ (by omega) (by omega)]; exact h2, by rw [hf _ (by omega) (by omega)]; exact h3, by rw [hf _ (by omega) (by omega)]; exact h4, by rw [hf _ (by omega) (by omega)]; exact h5, h6⟩
abbrev c_ml (co ro sh nu ch : Int32) : am_C := am_O 0 [.ref 7, .ref 13, .ref 14, .ref 16, .int co, .int ro, .int sh, .int nu, .int ch]
/-- mail: the weave laid out, columns, rows, rings numbered, which are there, who goes over whom -/
abbrev ml_T : Type := wv_T × Nat × Nat × Nat × (Nat → Bool) × (Nat → Nat → Bool)
def m_sh (m : ml_T) : Nat := m.2.1 * m.2.2.1 * m.1.1
def m_nu (m : ml_T) : Nat := m.2.2.2.1
def m_th (m : ml_T) : Nat → Bool := m.2.2.2.2.1
def m_ov (m : ml_T) : Nat → Nat → Bool := m.2.2.2.2.2
def m_aj (m : ml_T) (a b : Nat) : Bool := m_ov m a b || m_ov m b a
def ml_g (m : ml_T) : Prop := wv_ok m.1 ∧ m.2.1 ≤ 12 ∧ m.2.2.1 ≤ 12 ∧ m_sh m ≤ 240 ∧ m_sh m ≤ m_nu m ∧ m_nu m ≤ 300 ∧ True
def ml_ok (m : ml_T) : Prop := ml_g m ∧ (∀ i, m_th m i = true → i < m_nu m) ∧ (∀ a b, m_ov m a b = true → m_th m a = true ∧ m_th m b = true ∧ a ≠ b ∧ m_ov m b a = false)
/-- the class's mail -/
def MC (h : am_H) (m : ml_T) (ch : Nat) : Prop :=
  h[6]? = some (c_ml (nI m.2.1) (nI m.2.2.1) (nI (m_sh m)) (nI (m_nu m)) (nI ch)) ∧ WC h 7 m.1 ∧ (∃ f, h[13]? = some (am_I 2 300 f) ∧ ∀ i, i < m_nu m → f i = bi (m_th m i)) ∧ h[14]? = some (am_O 2 [.ref 15]) ∧ h[16]? = some (am_O 2 [.ref 17]) ∧
  (∃ f, h[15]? = some (am_L 1500 f) ∧ ∀ r i, r < 300 → i < 320 → bt_r f r i = m_ov m r i) ∧ (∃ f, h[17]? = some (am_L 1500 f) ∧ ∀ r i, r < 300 → i < 320 → bt_r f r i = m_aj m r i)
/-- nothing but these cells has changed -/
def Fr (lo hi : Nat) (h h' : am_H) : Prop := ∀ i, ¬ (lo ≤ i ∧ i ≤ hi) → h'[i]? = h[i]?
theorem Fr.rf {lo hi : Nat} {h : am_H} : Fr lo hi h h := fun _ _ => rfl
theorem Fr.tr {lo hi : Nat} {h h1 h2 : am_H} (a : Fr lo hi h h1) (b : Fr lo hi h1 h2) : Fr lo hi h h2 := fun i hi => (b i hi).trans (a i hi)
theorem Fr.st {lo hi : Nat} {h h1 : am_H} {j : Nat} {c : am_C} (a : Fr lo hi h h1) (hj : lo ≤ j ∧ j ≤ hi) : Fr lo hi h (h1.set j c) := fun i hi => by
  have hne : j ≠ i := fun e => hi (by rw [← e]; exact hj)
  rw [st_ne hne]; exact a i hi
theorem Fr.mono {lo hi lo' hi' : Nat} {h h1 : am_H} (a : Fr lo hi h h1) (h1' : lo' ≤ lo) (h2 : hi ≤ hi') : Fr lo' hi' h h1 := fun i hi => a i (fun q => hi ⟨by omega, by omega⟩)
theorem Fr.get {lo hi : Nat} {h h1 : am_H} {i : Nat} {c : am_C} (a : Fr lo hi h h1) (hi : ¬ (lo ≤ i ∧ i ≤ hi)) (hc : h[i]? = some c) : h1[i]? = some c := (a i hi).trans hc
theorem MC.fr {h h' : am_H} {m : ml_T} {ch : Nat} (hM : MC h m ch) (hf : ∀ i, 6 ≤ i → i ≤ 17 → h'[i]? = h[i]?) : MC h' m ch := by
  obtain ⟨h0, h1, ⟨f, h2, h2'⟩, h3, h4, ⟨f5, h5, h5'⟩, ⟨f6, h6, h6'⟩⟩ := hM
  exact ⟨by rw [hf _ (by omega) (by omega)]; exact h0, h1.fr (fun i a b => hf i (by omega) (by omega)), ⟨f, by rw [hf _ (by omega) (by omega)]; exact h2, h2'⟩, by rw [hf _ (by omega) (by omega)]; exact h3, by rw [hf _ (by omega) (by omega)]; exact h4, ⟨f5, by rw [hf _ (by omega) (by omega)]; exact h5, h5'⟩, ⟨f6, by rw [hf _ (by omega) (by omega)]; exact h6, h6'⟩⟩
section MAIL
variable {l : Launch} {g : am_G} {d : Nat} {x : Bool} {h : am_H} {m : ml_T} {ch : Nat}
theorem sp_isNumbered {r : Int32} {K : Int32 → am_H → Prop} (hM : MC h m ch) (hv : ml_g m) (h0 : r < 0 ∨ nI (m_nu m) ≤ r → K 0 h) (h1 : ∀ j, j < m_nu m → r = nI j → K 1 h) : cl_I l g mX0_isNumbered d x [.ref 6, .int r] h K := by
  have hnu : m_nu m ≤ 300 := hv.2.2.2.2.2.1
  refine eX0_isNumbered ⟨fun hc => ⟨0, rfl, h0 (Or.inl hc)⟩, fun hc => gtI hM.1 rfl ⟨fun hd => ⟨0, rfl, h0 (Or.inr hd)⟩, fun hd => ?_⟩⟩
  rcases pk_ix r (show m_nu m < 2 ^ 31 by omega) with q | q | ⟨j, hj, q⟩
  · exact absurd q hc
  · exact absurd q hd
  · exact ⟨1, rfl, h1 j hj q⟩
theorem sp_isThere {r : Int32} {K : Int32 → am_H → Prop} (hM : MC h m ch) (hv : ml_g m) (h0 : r < 0 ∨ nI (m_nu m) ≤ r → K 0 h) (h1 : ∀ j, j < m_nu m → r = nI j → K (bi (m_th m j)) h) : cl_I l g mX0_isThere (d + 1) x [.ref 6, .int r] h K := by
  have hnu : m_nu m ≤ 300 := hv.2.2.2.2.2.1
  refine eX0_isThere ⟨⟨_, hM.1⟩, ?_⟩
  refine sp_isNumbered hM hv (fun q => ⟨fun _ => ⟨0, rfl, h0 q⟩, fun z => absurd rfl z⟩) (fun j hj e => ⟨fun z => absurd z (by decide), fun _ => ?_⟩)
  obtain ⟨f, hf, hf'⟩ := hM.2.2.1
  subst e
  refine gtR hM.1 rfl (alI hf (by omega) (by omega) ?_)
  rw [hf' j hj]
  have hk := h1 j hj rfl
  exact ⟨fun z => by rw [bi_0.mp z] at hk; exact ⟨0, rfl, hk⟩, fun z => by rw [bi_n0.mp z] at hk; exact ⟨1, rfl, hk⟩⟩
theorem sp_areLinked {a b : Nat} {K : Int32 → am_H → Prop} (hM : MC h m ch) (ha : a < 300) (hb : b < 300) (hK : K (bi (m_aj m a b)) h) : cl_I l g mX0_areLinked (d + 1) x [.ref 6, .int (nI a), .int (nI b)] h K := by
  obtain ⟨h0, -, -, -, h16, -, ⟨f, hf, hf'⟩⟩ := hM
  refine eX0_areLinked (gtR h0 rfl ⟨⟨_, h16⟩, sp_has h16 hf (by omega) (by omega) (by omega) (by omega) ?_⟩)
  rw [hf' a b ha (by omega)]
  exact ⟨bi_01 _, _, rfl, hK⟩
theorem sp_goesOver {a b : Nat} {K : Int32 → am_H → Prop} (hM : MC h m ch) (ha : a < 300) (hb : b < 300) (hK : K (bi (m_ov m a b)) h) : cl_I l g mX0_goesOver (d + 1) x [.ref 6, .int (nI a), .int (nI b)] h K := by
  obtain ⟨h0, -, -, h14, -, ⟨f, hf, hf'⟩, -⟩ := hM
  refine eX0_goesOver (gtR h0 rfl ⟨⟨_, h14⟩, sp_has h14 hf (by omega) (by omega) (by omega) (by omega) ?_⟩)
  rw [hf' a b ha (by omega)]
  exact ⟨bi_01 _, _, rfl, hK⟩
theorem sp_linksOf {a : Nat} {K : Int32 → am_H → Prop} (hM : MC h m ch) (ha : a < 300) (hK : K (nI (fb_ct (m_aj m a) 320)) h) : cl_I l g mX0_linksOf (d + 2) x [.ref 6, .int (nI a)] h K := by
  obtain ⟨h0, -, -, -, h16, -, ⟨f, hf, hf'⟩⟩ := hM
  refine eX0_linksOf (gtR h0 rfl ⟨⟨_, h16⟩, sp_size h16 hf (by omega) (by omega) (by omega) ?_⟩)
  rw [ct_congr 320 (fun i hi => hf' a i ha hi)]
  exact ⟨_, rfl, hK⟩
end MAIL
