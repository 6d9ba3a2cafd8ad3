section MODEL7
variable {l : Launch} {g : am_G} {d : Nat} {x : Bool} {h : am_H} {m : ml_T} {Wh : wv_T} {o : mo_T}
/-- the model's arrays of weaves -/
def WA (h : am_H) (fr fl f1 f2 f3 f4 f5 : Nat → Int32) : Prop := h[52]? = some (am_I 0 3 fr) ∧ h[54]? = some (am_I 0 3 fl) ∧ h[55]? = some (am_I 0 72 f1) ∧ h[56]? = some (am_I 0 72 f2) ∧ h[57]? = some (am_I 0 72 f3) ∧ h[58]? = some (am_I 0 72 f4) ∧ h[59]? = some (am_I 2 72 f5)
theorem ix_24 {s k : Nat} : ((24 : Int32) * nI s) + nI k = nI (24 * s + k) := by
  rw [show (24 : Int32) = nI 24 from rfl, pk_mul, nI_add]
theorem lm_copies {c0 : am_C} {fr fl f1 f2 f3 f4 f5 : Nat → Int32} {s t n : Nat} {Q : Option Value → am_H → Prop} (q0 : ∃ ints : Int32 × Int32 × Int32 × Int32 × Int32 × Int32 × Int32 × Int32 × Int32 × Int32 × Int32 × Int32, c0 = c_mo ints.1 ints.2.1 ints.2.2.1 ints.2.2.2.1 ints.2.2.2.2.1 ints.2.2.2.2.2.1 ints.2.2.2.2.2.2.1 ints.2.2.2.2.2.2.2.1 ints.2.2.2.2.2.2.2.2.1 ints.2.2.2.2.2.2.2.2.2.1 ints.2.2.2.2.2.2.2.2.2.2.1 ints.2.2.2.2.2.2.2.2.2.2.2) (hs : s < 3) (ht : t < 3) (hst : s ≠ t) (hn : n ≤ 24) (hfl : fl s = nI n) (hb : ∀ k, k < n → f5 (24 * s + k) = 0 ∨ f5 (24 * s + k) = 1)
    (hK : ∀ h', h'[46]? = some c0 → WA h' fr fl (fb_put f1 (fun k => f1 (24 * s + k)) (24 * t) n) (fb_put f2 (fun k => f2 (24 * s + k)) (24 * t) n) (fb_put f3 (fun k => f3 (24 * s + k)) (24 * t) n) (fb_put f4 (fun k => f4 (24 * s + k)) (24 * t) n) (fb_put f5 (fun k => f5 (24 * s + k)) (24 * t) n) → Fr 55 59 h h' → Q none h') :
    ∀ k c h1, c + k = n → h1[46]? = some c0 → WA h1 fr fl (fb_put f1 (fun k => f1 (24 * s + k)) (24 * t) c) (fb_put f2 (fun k => f2 (24 * s + k)) (24 * t) c) (fb_put f3 (fun k => f3 (24 * s + k)) (24 * t) c) (fb_put f4 (fun k => f4 (24 * s + k)) (24 * t) c) (fb_put f5 (fun k => f5 (24 * s + k)) (24 * t) c) → Fr 55 59 h h1 → am_J l g mX9_copies d (0, 0, x) 26 [(0, .ref 46), (1, .int (nI s)), (2, .int (nI t)), (3, .int (nI c))] [] h1 Q := by
  obtain ⟨ints, rfl⟩ := q0
  have out : ∀ (f : Nat → Int32) c k, k < 24 → fb_put f (fun k => f (24 * s + k)) (24 * t) c (24 * s + k) = f (24 * s + k) ∨ 24 < c := by
    intro f c k hk
    by_cases hc : c ≤ 24
    · refine Or.inl (fb_put_out ?_)
      omega
    · exact Or.inr (by omega)
  intro k
  induction k with
  | zero =>
    intro c h1 hc p0 hW hf
    have : c = n := by omega
    subst this
    obtain ⟨-, w54, -⟩ := id hW
    refine rX9_copies_26 (gtR p0 rfl (alI w54 hs (by decide) ⟨fun _ => hK h1 p0 hW hf, fun hq => absurd ?_ hq⟩))
    rw [hfl]; exact nI_le (Nat.le_refl _) (by omega)
  | succ k ih =>
    intro c h1 hc p0 hW hf
    obtain ⟨w52, w54, w1, w2, w3, w4, w5⟩ := hW
    have o1 := (out f1 c c (by omega)).resolve_right (by omega)
    have o2 := (out f2 c c (by omega)).resolve_right (by omega)
    have o3 := (out f3 c c (by omega)).resolve_right (by omega)
    have o4 := (out f4 c c (by omega)).resolve_right (by omega)
    have o5 := (out f5 c c (by omega)).resolve_right (by omega)
    refine rX9_copies_26 (gtR p0 rfl (alI w54 hs (by decide) ⟨fun hq => ?_, fun _ => gtR p0 rfl (gtR p0 rfl ?_)⟩))
    · rw [hfl] at hq
      exact absurd ((nI_leI (by omega) (by omega)).mp hq) (by omega)
    rw [ix_24, ix_24]
    refine alI w1 (by omega) (by omega) (asI w1 (by omega) (by omega) ?_)
    rw [o1, fb_put_succ]
    refine gtR ((st_ne (by decide)).trans p0) rfl (gtR ((st_ne (by decide)).trans p0) rfl (alI ((st_ne (by decide)).trans w2) (by omega) (by omega) (asI ((st_ne (by decide)).trans w2) (by omega) (by omega) ?_)))
    rw [o2, fb_put_succ]
    refine gtR ((st_ne (by decide)).trans ((st_ne (by decide)).trans p0)) rfl (gtR ((st_ne (by decide)).trans ((st_ne (by decide)).trans p0)) rfl (alI ((st_ne (by decide)).trans ((st_ne (by decide)).trans w3)) (by omega) (by omega) (asI ((st_ne (by decide)).trans ((st_ne (by decide)).trans w3)) (by omega) (by omega) ?_)))
    rw [o3, fb_put_succ]
    refine gtR ((st_ne (by decide)).trans ((st_ne (by decide)).trans ((st_ne (by decide)).trans p0))) rfl (gtR ((st_ne (by decide)).trans ((st_ne (by decide)).trans ((st_ne (by decide)).trans p0))) rfl (alI ((st_ne (by decide)).trans ((st_ne (by decide)).trans ((st_ne (by decide)).trans w4))) (by omega) (by omega) (asI ((st_ne (by decide)).trans ((st_ne (by decide)).trans ((st_ne (by decide)).trans w4))) (by omega) (by omega) ?_)))
    rw [o4, fb_put_succ]
    refine gtR ((st_ne (by decide)).trans ((st_ne (by decide)).trans ((st_ne (by decide)).trans ((st_ne (by decide)).trans p0)))) rfl (gtR ((st_ne (by decide)).trans ((st_ne (by decide)).trans ((st_ne (by decide)).trans ((st_ne (by decide)).trans p0)))) rfl (alI ((st_ne (by decide)).trans ((st_ne (by decide)).trans ((st_ne (by decide)).trans ((st_ne (by decide)).trans w5)))) (by omega) (by omega) ⟨by rw [o5]; exact hb c (by omega), asI ((st_ne (by decide)).trans ((st_ne (by decide)).trans ((st_ne (by decide)).trans ((st_ne (by decide)).trans w5)))) (by omega) (by omega) ?_⟩))
    rw [o5, fb_put_succ, nI_1]
    refine ih (c + 1) _ (by omega) ?_ ⟨?_, ?_, ?_, ?_, ?_, ?_, ?_⟩ (((((hf.st (by decide)).st (by decide)).st (by decide)).st (by decide)).st (by decide))
    · rw [st_ne (by decide), st_ne (by decide), st_ne (by decide), st_ne (by decide), st_ne (by decide)]; exact p0
    · rw [st_ne (by decide), st_ne (by decide), st_ne (by decide), st_ne (by decide), st_ne (by decide)]; exact w52
    · rw [st_ne (by decide), st_ne (by decide), st_ne (by decide), st_ne (by decide), st_ne (by decide)]; exact w54
    · rw [st_ne (by decide), st_ne (by decide), st_ne (by decide), st_ne (by decide)]; exact st_eq w1
    · rw [st_ne (by decide), st_ne (by decide), st_ne (by decide)]; exact st_eq ((st_ne (by decide)).trans w2)
    · rw [st_ne (by decide), st_ne (by decide)]; exact st_eq ((st_ne (by decide)).trans ((st_ne (by decide)).trans w3))
    · rw [st_ne (by decide)]; exact st_eq ((st_ne (by decide)).trans ((st_ne (by decide)).trans ((st_ne (by decide)).trans w4)))
    · exact st_eq ((st_ne (by decide)).trans ((st_ne (by decide)).trans ((st_ne (by decide)).trans ((st_ne (by decide)).trans w5))))
theorem ms_copies {a1 a2 a3 a4 a5 a6 a7 a8 a9 a10 a11 a12 : Int32} {fr fl f1 f2 f3 f4 f5 : Nat → Int32} {s t n : Nat} {K : am_H → Prop} (q0 : h[46]? = some (c_mo a1 a2 a3 a4 a5 a6 a7 a8 a9 a10 a11 a12)) (hA : WA h fr fl f1 f2 f3 f4 f5) (hs : s < 3) (ht : t < 3) (hst : s ≠ t) (hn : n ≤ 24) (hfl : fl s = nI n) (hb : ∀ k, k < n → f5 (24 * s + k) = 0 ∨ f5 (24 * s + k) = 1)
    (hK : ∀ h', h'[46]? = some (c_mo a1 a2 a3 a4 a5 a6 a7 a8 a9 a10 a11 a12) → WA h' (upd fr t (fr s)) (upd fl t (fl s)) (fb_put f1 (fun k => f1 (24 * s + k)) (24 * t) n) (fb_put f2 (fun k => f2 (24 * s + k)) (24 * t) n) (fb_put f3 (fun k => f3 (24 * s + k)) (24 * t) n) (fb_put f4 (fun k => f4 (24 * s + k)) (24 * t) n) (fb_put f5 (fun k => f5 (24 * s + k)) (24 * t) n) → Fr 52 59 h h' → h'[53]? = h[53]? → K h') : cl_N l g mX9_copies d x [.ref 46, .int (nI s), .int (nI t)] h K := by
  obtain ⟨w52, w54, w1, w2, w3, w4, w5⟩ := hA
  refine eX9_copies (gtR q0 rfl (gtR q0 rfl (alI w52 hs (by decide) (asI w52 ht (by decide) ?_))))
  refine gtR ((st_ne (by decide)).trans q0) rfl (gtR ((st_ne (by decide)).trans q0) rfl (alI ((st_ne (by decide)).trans w54) hs (by decide) (asI ((st_ne (by decide)).trans w54) ht (by decide) ?_)))
  refine lm_copies (c0 := c_mo a1 a2 a3 a4 a5 a6 a7 a8 a9 a10 a11 a12) (h := (h.set 52 (am_I 0 3 (upd fr t (fr s)))).set 54 (am_I 0 3 (upd fl t (fl s)))) ⟨(a1, a2, a3, a4, a5, a6, a7, a8, a9, a10, a11, a12), rfl⟩ hs ht hst hn (by rw [pk_un hst]; exact hfl) hb (fun h' b1 b2 b3 => ⟨rfl, hK h' b1 b2 (Fr.tr (h1 := (h.set 52 (am_I 0 3 (upd fr t (fr s)))).set 54 (am_I 0 3 (upd fl t (fl s)))) ((Fr.rf.st (by decide)).st (by decide)) (b3.mono (by omega) (by omega))) ((b3 53 (by decide)).trans ((st_ne (by decide)).trans (st_ne (by decide))))⟩) n 0 _ (by omega) ?_ ?_ Fr.rf
  · rw [st_ne (by decide), st_ne (by decide)]; exact q0
  · refine ⟨?_, ?_, ?_, ?_, ?_, ?_, ?_⟩
    · rw [st_ne (by decide)]; exact st_eq w52
    · exact st_eq ((st_ne (by decide)).trans w54)
    · rw [fb_put_0, st_ne (by decide), st_ne (by decide)]; exact w1
    · rw [fb_put_0, st_ne (by decide), st_ne (by decide)]; exact w2
    · rw [fb_put_0, st_ne (by decide), st_ne (by decide)]; exact w3
    · rw [fb_put_0, st_ne (by decide), st_ne (by decide)]; exact w4
    · rw [fb_put_0, st_ne (by decide), st_ne (by decide)]; exact w5
/-! laid out -/
theorem lm_lay4 {Q : Option Value → am_H → Prop} (hv : ml_g m) (h0 : ∀ a b, m_ov m a b = false) (htt : ∀ i, i < m_sh m → m_th m i = true) (hn : m_nu m = m_sh m) (hK : ∀ h', MM h' (m_ly m (m_sh m)) Wh o → Fr 61 61 h h' → Q (some (.int (nI (m_sh m)))) h') : ∀ k c h1, c + k = m_sh m → MM h1 (m_ly m c) Wh o → Fr 61 61 h h1 → am_J l g mX9_lay_ (d + 2) (0, 0, x) 149 [(0, .ref 46), (3, .int (nI c))] [] h1 Q := by
  have b5 := hv.2.2.2.1
  intro k
  induction k with
  | zero =>
    intro c h1 hc hM hf
    have : c = m_sh m := by omega
    subst this
    have en : m_nu (m_ly m (m_sh m)) = m_sh m := (m_ly_eq m _).2.2.2.1.trans hn
    have hres := hK h1 hM hf
    refine rX9_lay__149 (gtI hM.1 rfl ⟨fun _ => gtI hM.1 rfl ?_, fun hq => absurd ?_ hq⟩)
    · rw [en]; exact hres
    · rw [en]; exact nI_le (Nat.le_refl _) (by omega)
  | succ k ih =>
    intro c h1 hc hM hf
    have he := m_ly_eq m c
    have en : m_nu (m_ly m c) = m_sh m := he.2.2.2.1.trans hn
    have es : m_sh (m_ly m c) = m_sh m := he.sh
    have e1 : (m_ly m c).1.2.1 = m.1.2.1 := by rw [he.1]
    refine rX9_lay__149 (gtI hM.1 rfl ⟨fun hq => ?_, fun _ => ⟨⟨_, hM.1⟩, ms_linksJ hM (he.g hv) (by omega) ?_ fun h4 hM4 hf4 => ?_⟩⟩)
    · rw [en] at hq
      exact absurd ((nI_leI (by omega) (by omega)).mp hq) (by omega)
    · intro a b hab hor
      rw [tl_eq he]
      rw [ly_ov hv h0 htt c (by omega)] at hab
      simp only [Bool.and_eq_true] at hab
      exact hab.1
    · rw [nI_1]
      refine ih (c + 1) h4 (by omega) ?_ (hf.tr hf4)
      rw [e1] at hM4
      exact hM4
theorem lm_lay3 {a1 a2 a3 a4 a5 a6 a7 a8 a10 a11 a12 : Int32} {sh : Nat} {f0 : Nat → Int32} {Q : Option Value → am_H → Prop} (hs : sh ≤ 240) (q0 : h[46]? = some (c_mo a1 a2 a3 a4 a5 a6 a7 a8 (nI sh) a10 a11 a12)) (h60 : h[60]? = some (am_I 2 300 f0)) (hK2 : ∀ f, (∀ i, i < 300 → f i = bi (decide (i < sh))) → am_J l g mX9_lay_ (d + 1) (0, 0, x) 149 [(0, .ref 46), (3, .int 0)] [] (h.set 60 (am_I 2 300 f)) Q) : ∀ k c f, c + k = 300 → (∀ i, i < c → f i = bi (decide (i < sh))) → am_J l g mX9_lay_ (d + 1) (0, 0, x) 115 [(0, .ref 46), (3, .int (nI c))] [] (h.set 60 (am_I 2 300 f)) Q := by
  intro k
  induction k with
  | zero =>
    intro c f hc hf
    have : c = 300 := by omega
    subst this
    exact rX9_lay__115 ⟨fun _ => hK2 f hf, fun hq => absurd (show (300 : Int32) ≤ nI 300 from by decide) hq⟩
  | succ k ih =>
    intro c f hc hf
    refine rX9_lay__115 ⟨fun hq => absurd ((nI_leI (a := 300) (by decide) (by omega)).mp hq) (by omega), fun _ => gtR ((st_ne (by decide)).trans q0) rfl (gtI ((st_ne (by decide)).trans q0) rfl ⟨fun hz => ?_, fun hz => ?_⟩)⟩
    · have hge : sh ≤ c := (nI_leI (by omega) (by omega)).mp hz
      refine ⟨Or.inl rfl, asI (st_eq h60) (by omega) (by omega) ?_⟩
      rw [List.set_set, nI_1]
      refine ih (c + 1) _ (by omega) (fun i hi => ?_)
      by_cases e : i = c
      · subst e; rw [pk_us, decide_eq_false (by omega)]; rfl
      · rw [pk_un e]; exact hf i (by omega)
    · have hlt : ¬ sh ≤ c := fun z => hz ((nI_leI (by omega) (by omega)).mpr z)
      refine ⟨Or.inr rfl, asI (st_eq h60) (by omega) (by omega) ?_⟩
      rw [List.set_set, nI_1]
      refine ih (c + 1) _ (by omega) (fun i hi => ?_)
      by_cases e : i = c
      · subst e; rw [pk_us, decide_eq_true (by omega)]; rfl
      · rw [pk_un e]; exact hf i (by omega)
theorem lm_lay2 {a1 a2 a3 a4 a5 a6 a7 a8 a9 a10 a11 a12 : Int32} {f0 : Nat → Int32} {Q : Option Value → am_H → Prop} (q0 : h[46]? = some (c_mo a1 a2 a3 a4 a5 a6 a7 a8 a9 a10 a11 a12)) (h61 : h[61]? = some (am_I 0 90000 f0)) (hK2 : am_J l g mX9_lay_ (d + 1) (0, 0, x) 115 [(0, .ref 46), (3, .int 0)] [] (h.set 61 (am_I 0 90000 (fl_u f0 0 90000))) Q) : ∀ k c, c + k = 90000 → am_J l g mX9_lay_ (d + 1) (0, 0, x) 94 [(0, .ref 46), (3, .int (nI c))] [] (h.set 61 (am_I 0 90000 (fl_u f0 0 c))) Q := by
  intro k
  induction k with
  | zero =>
    intro c hc
    have : c = 90000 := by omega
    subst this
    exact rX9_lay__94 ⟨fun _ => hK2, fun hq => absurd ((nI_leI (a := 90000) (b := 90000) (by omega) (by omega)).mpr (Nat.le_refl _)) hq⟩
  | succ k ih =>
    intro c hc
    refine rX9_lay__94 ⟨fun hq => absurd ((nI_leI (a := 90000) (by omega) (by omega)).mp hq) (by omega), fun _ => gtR ((st_ne (by decide)).trans q0) rfl (asI (st_eq h61) (by omega) (by omega) ?_)⟩
    rw [List.set_set, fl_uI, nI_1]
    exact ih (c + 1) (by omega)
end MODEL7
