/-! ===== the class walks a piece ===== -/
theorem sm_dec {f f' : Nat → Nat} : ∀ {n : Nat}, (∀ k, k < n → f' k ≤ f k) → ∀ i, i < n → f' i < f i → fb_sm f' n + 1 ≤ fb_sm f n
  | 0, _, i, hi, _ => by omega
  | n + 1, h, i, hi, hlt => by
    rw [fb_sm_succ, fb_sm_succ]
    by_cases e : i = n
    · subst e
      have := fb_sm_le (n := i) (fun k hk => h k (by omega))
      omega
    · have := sm_dec (n := n) (fun k hk => h k (by omega)) i (by omega) hlt
      have := h n (by omega)
      omega
def wcost (fs fin : Nat → Bool) (tt : Nat → Nat) (v : Nat) : Nat := if fs v = true then (if fin v = true then 0 else 301 - tt v) else 301
def WS (m : ml_T) (ch r B : Nat) (fs0 : Nat → Bool) (ls0 : Nat → Nat) (sd0 cu0 : Nat → Bool) (cs : Int32) (num : Nat) (h : am_H) (fs : Nat → Bool) (d lo : Nat → Nat) (pa : Nat → Int32) (tt ls : Nat → Nat) (sd cu : Nat → Bool) (n rb : Nat) (pt : Bool) (fin : Nat → Bool) (s : Nat → Nat) (k : Nat) : Prop :=
  WI (m_aj m) (m_th m) (m_nu m) B fs d lo pa tt ls sd cu n rb pt fin s k ∧ s 0 = r ∧ (∃ f1 f2 f3 f4 f5 f6 f7 cr, PA h (c_pc (nI n) (nI rb) cs (nI num) (nI cr) (bi pt)) f1 f2 f3 f4 f5 f6 f7 ∧ PF f1 f2 f3 f4 f5 f6 f7 fs d lo pa tt ls sd cu ∧ cr = fb_ct cu 300) ∧
  n = fb_ct fs 300 ∧ rb ≤ fb_ct fin 300 ∧ (∀ v, fs v = true → tt v ≤ 300) ∧ ((∀ v, fs0 v = true → fs v = true ∧ d v < B ∧ ls v = ls0 v ∧ sd v = sd0 v ∧ (cu0 v = true → cu v = true)) ∧ (∀ v, fs v = true → d v < B → fs0 v = true)) ∧ MC h m ch
section CWALK
variable {l : Launch} {g : am_G} {d0 : Nat} {x : Bool} {h : am_H} {m : ml_T} {ch : Nat}
variable {r B n rb num : Nat} {cs : Int32} {pt : Bool} {fs0 sd0 cu0 : Nat → Bool} {ls0 : Nat → Nat} {fs : Nat → Bool} {d lo : Nat → Nat} {pa : Nat → Int32} {tt ls : Nat → Nat} {sd cu fin : Nat → Bool} {s : Nat → Nat} {k : Nat}
set_option maxHeartbeats 1000000 in
theorem lm_walk {K : am_H → Prop} (hv : ml_ok m) (hs : ∀ a b, m_aj m a b = m_aj m b a) {hh : am_H}
    (hK : ∀ h' fs d lo pa tt ls sd cu n rb pt fin s, WS m ch r B fs0 ls0 sd0 cu0 cs num h' fs d lo pa tt ls sd cu n rb pt fin s 0 → (∀ u, m_aj m (s 0) u = true → u < tt (s 0)) → Fr 18 25 hh h' → K h') :
    ∀ N step h fs d lo pa tt ls sd cu n rb pt fin s k, fb_sm (wcost fs fin tt) 300 ≤ N → N + step ≤ 90300 → WS m ch r B fs0 ls0 sd0 cu0 cs num h fs d lo pa tt ls sd cu n rb pt fin s k → Fr 18 25 hh h →
      am_J l g mX3_walkPiece (d0 + 2) (0, 0, x) 29 [(0, .ref 18), (2, .int (nI (s k))), (3, .int (nI step))] [] h (fun r h' => r = none ∧ K h') := by
  have hnu : m_nu m ≤ 300 := hv.1.2.2.2.2.2.1
  have hin : ∀ a b, m_aj m a b = true → b < m_nu m ∧ m_th m b = true := fun a b hab => by
    unfold m_aj at hab
    rw [Bool.or_eq_true] at hab
    rcases hab with c | c
    · have := (hv.2.2 a b c).2.1; exact ⟨hv.2.1 b this, this⟩
    · have := (hv.2.2 b a c).1; exact ⟨hv.2.1 b this, this⟩
  intro N
  induction N with
  | zero =>
    intro step h fs d lo pa tt ls sd cu n rb pt fin s k hN hst hW
    exfalso
    obtain ⟨w, -, -, -, -, w6, -⟩ := hW
    have hk := w.1 k (Nat.le_refl _)
    have h5 := w.2.2.2.2.1 _ hk.1
    have := fb_sm_part (wcost fs fin tt) (show s k < 300 by omega)
    have e : wcost fs fin tt (s k) = 301 - tt (s k) := by unfold wcost; rw [if_pos hk.1, if_neg (by rw [hk.2.2]; decide)]
    have := w6 _ hk.1
    omega
  | succ N ih =>
    intro step h fs d lo pa tt ls sd cu n rb pt fin s k hN hst hW hfr
    obtain ⟨w, w0, ⟨f1, f2, f3, f4, f5, f6, f7, cr, P, F, hcr⟩, wn, wrb, wtt, ⟨wo1, wo2⟩, hM⟩ := hW
    have hn300 : n ≤ 300 := by rw [wn]; exact fb_ct_le _ _
    have hk := w.1 k (Nat.le_refl _)
    have h5 : ∀ v, fs v = true → d v < n ∧ v < m_nu m ∧ m_th m v = true := w.2.2.2.2.1
    have hsk := h5 _ hk.1
    have hsk3 : s k < 300 := by omega
    have ck : wcost fs fin tt (s k) = 301 - tt (s k) := by unfold wcost; rw [if_pos hk.1, if_neg (by rw [hk.2.2]; decide)]
    have htk := wtt _ hk.1
    have hlo : ∀ i, i ≤ k → lo (s i) ≤ d (s i) := fun i hi => (w.2.2.2.2.2.2.2.2.2.1 i hi).1
    obtain ⟨F1, F2, F3⟩ := F
    have fk := F2 (s k) hsk3 hk.1
    refine rX3_walkPiece_29 ⟨fun c => absurd c (fun z => ?_), fun _ => ⟨fun c => absurd c (n1_ne (by omega)), fun _ => gtR P.1 rfl (gtR hM.1 rfl (gtR P.1 rfl (alI P.2.2.2.2.1 hsk3 (by decide) ?_)))⟩⟩
    · have := (nI_leI (a := 90300) (b := step) (by decide) (by omega)).mp z; omega
    rw [fk.2.2.1]
    refine ⟨⟨_, hM.2.2.2.2.1⟩, sp_nextM hM hsk3 (by omega) fun v hn => ?_⟩
    rcases hn with ⟨e, hno⟩ | ⟨o, e, ho1, ho2, ho3, hgap⟩
    · subst e
      have hall : ∀ u, m_aj m (s k) u = true → u < tt (s k) := fun u hu => by
        rcases Nat.lt_or_ge u (tt (s k)) with c | c
        · exact c
        · rw [hno u c (by have := (hin _ _ hu).1; omega)] at hu; cases hu
      refine ⟨fun c => absurd rfl c, fun _ => ⟨⟨_, P.1⟩, ?_⟩⟩
      cases k with
      | zero =>
        have hp : pa (s 0) = -1 := w.2.2.1.1
        refine sp_leaveRoot P hsk3 (by rw [fk.2.1, hp]) (gtR P.1 rfl (alI P.2.2.2.1 hsk3 (by decide) ?_))
        rw [fk.2.1, hp]
        have fin1 := hK h fs d lo pa tt ls sd cu n rb pt fin s ⟨w, w0, ⟨f1, f2, f3, f4, f5, f6, f7, cr, P, ⟨F1, F2, F3⟩, hcr⟩, wn, wrb, wtt, ⟨wo1, wo2⟩, hM⟩ hall hfr
        unfold zX3_walkPiece_98
        exact rX3_walkPiece_29 ⟨fun _ => ⟨rfl, fin1⟩, fun _ => ⟨fun _ => ⟨rfl, fin1⟩, fun c => absurd rfl c⟩⟩
      | succ k =>
        have hkk := w.1 k (Nat.le_succ _)
        have hp := w.2.1 k (Nat.lt_succ_self _)
        have hpk := h5 _ hkk.1
        have hne : s (k + 1) ≠ s k := fun e => by rw [e] at hp; exact absurd hp.2.2 (Nat.lt_irrefl _)
        have l1 := hlo (k + 1) (Nat.le_refl _)
        have l2 := hlo k (Nat.le_succ _)
        refine sp_leave (p := s k) P ⟨F1, F2, F3⟩ hsk3 (by omega) hk.1 hkk.1 hp.1 (by omega) (by omega) (by omega) (by have := fb_ct_le fin 300; omega) hne hcr ?_
        intro h' f2' f7' cr' rb' cu' P' F' hcr' hA hB f'
        refine gtR P'.1 rfl (alI P'.2.2.2.1 hsk3 (by decide) ?_)
        rw [fk.2.1, hp.1]
        have hpa0 : k = 0 ↔ pa (s k) = -1 := by
          constructor
          · intro e; subst e; exact w.2.2.1.1
          · intro e
            cases k with
            | zero => rfl
            | succ k =>
              have h1 := (w.2.1 k (by omega)).1
              have h2 := h5 _ (w.1 k (by omega)).1
              rw [h1] at e
              exact absurd e (n1_ne (by omega))
        have W' := w.leave (cu' := cu') (rb' := rb') hs hall (fun c => hA (fun z => by rw [← hpa0] at z; omega)) (fun c => hB (hpa0.mp c))
        have cu_mono : ∀ v, cu v = true → cu' v = true := fun v hv => by
          have key : fput cu (s k) true v = true := by
            by_cases e : v = s k
            · rw [e, fput_s]
            · rw [fput_n e]; exact hv
          by_cases c : pa (s k) = -1
          · rw [(hB c).2]; split
            · exact key
            · exact hv
          · rw [(hA c).2]; split
            · exact key
            · exact hv
        have hfin : fin (s (k + 1)) = false := hk.2.2
        have M' : MC h' m ch := hM.fr (fun i a b => f' i (by omega))
        unfold zX3_walkPiece_98
        rw [nI_1]
        refine ih (step + 1) h' fs d _ pa tt ls sd cu' n rb' pt (fput fin (s (k + 1)) true) s k ?_ (by omega) ⟨W', w0, ⟨f1, f2', f3, f4, f5, f6, f7', cr', P', F', hcr'⟩, wn, ?_, wtt, ⟨fun v hv => ?_, wo2⟩, M'⟩ (hfr.tr f')
        · have := sm_dec (f := wcost fs fin tt) (f' := wcost fs (fput fin (s (k + 1)) true) tt) (n := 300) (fun i _ => by
            unfold wcost
            by_cases e : i = s (k + 1)
            · rw [e, fput_s, hk.1]; simp
            · rw [fput_n e]; exact Nat.le_refl _) (s (k + 1)) hsk3 (by rw [ck]; unfold wcost; rw [if_pos hk.1, if_pos fput_s]; omega)
          omega
        · have := mk_ct hsk3 hfin
          by_cases c : pa (s k) = -1
          · rw [(hB c).1]; omega
          · rw [(hA c).1]; omega
        · obtain ⟨q1, q2, q3, q4, q5⟩ := wo1 v hv
          exact ⟨q1, q2, q3, q4, fun z => cu_mono v (q5 z)⟩
    · subst e
      obtain ⟨hon, hoth⟩ := hin _ _ ho3
      have ho300 : o < 300 := by omega
      refine ⟨fun _ => gtR P.1 rfl (asI P.2.2.2.2.1 hsk3 (by decide) ?_), fun c => absurd c (n1_ne (by omega))⟩
      rw [nI_1]
      have P1 := P.s4 (f := upd f4 (s k) (nI (o + 1)))
      have G1 : PF f1 f2 f3 (upd f4 (s k) (nI (o + 1))) f5 f6 f7 fs d lo pa (fput tt (s k) (o + 1)) ls sd cu := ⟨F1, fun v hv hf => by
        by_cases e : v = s k
        · rw [e, pk_us, fput_s]
          have := F2 (s k) hsk3 hk.1
          exact ⟨this.1, this.2.1, rfl, this.2.2.2⟩
        · rw [pk_un e, fput_n e]; exact F2 v hv hf, F3⟩
      have M1 : MC (h.set 22 (am_I 0 300 (upd f4 (s k) (nI (o + 1))))) m ch := hM.fr (fun i a b => st_ne (by omega))
      have f1' : Fr 18 25 h (h.set 22 (am_I 0 300 (upd f4 (s k) (nI (o + 1))))) := Fr.rf.st (by decide)
      have dec : ∀ (fs' : Nat → Bool) (tt' : Nat → Nat), (∀ i, i ≠ s k → wcost fs' fin tt' i ≤ wcost fs fin tt i) → fs' (s k) = true → tt' (s k) = o + 1 → fb_sm (wcost fs' fin tt') 300 ≤ N := fun fs' tt' c1 c2 c3 => by
        have e' : wcost fs' fin tt' (s k) = 301 - (o + 1) := by unfold wcost; rw [if_pos c2, if_neg (by rw [hk.2.2]; decide), c3]
        have := sm_dec (f := wcost fs fin tt) (f' := wcost fs' fin tt') (n := 300) (fun i _ => by
          by_cases e : i = s k
          · rw [e, ck, e']; omega
          · exact c1 i e) (s k) hsk3 (by rw [ck, e']; omega)
        omega
      refine ⟨⟨_, P1.1⟩, ?_⟩
      cases hfo : fs o with
      | true =>
        have W' := w.found hs ho3 hfo hgap
        have := h5 o hfo
        have l1 := hlo k (Nat.le_refl _)
        refine sp_tryFound P1 G1 hsk3 ho300 hk.1 hfo (by omega) (by omega) fun h' f2' P' F' f' => ?_
        unfold zX3_walkPiece_98
        rw [nI_1]
        refine ih (step + 1) h' fs d _ pa _ ls sd cu n rb _ fin s k (dec fs _ (fun i e => ?_) hk.1 fput_s) (by omega) ⟨W', w0, ⟨f1, f2', f3, _, f5, f6, f7, cr, P', F', hcr⟩, wn, wrb, fun v hv => ?_, ⟨wo1, wo2⟩, M1.fr (fun i a b => f' i (by omega))⟩ ((hfr.tr f1').tr f')
        · unfold wcost; rw [fput_n e]; exact Nat.le_refl _
        · by_cases e : v = s k
          · rw [e, fput_s]; omega
          · rw [fput_n e]; exact wtt v hv
      | false =>
        have W' := w.discover hs ho3 hfo hon hoth hgap
        have hne : s k ≠ o := fun e => by rw [← e, hk.1] at hfo; cases hfo
        have fino : fin o = false := by
          cases e : fin o with
          | false => rfl
          | true => have := w.2.2.2.2.2.2.2.2.2.2.2.2.2.2.2.2.2.2.2.2.2.2 o e; rw [hfo] at this; cases this
        have fo' : ∀ v, fs v = true → v ≠ o := fun v hv e => by rw [e, hfo] at hv; cases hv
        refine sp_tryNew P1 G1 hsk3 ho300 hk.1 hfo fun h' f1' f2' f3' f4' f5' f6' P' F' f' => ?_
        unfold zX3_walkPiece_98
        rw [nI_1]
        have key := ih (step + 1) h' (fput fs o true) (fput d o n) (fput lo o n) (fput pa o (nI (s k))) (fput (fput tt (s k) (o + 1)) o 0) (fput ls o (ls (s k))) (fput sd o (!sd (s k))) cu (n + 1) rb pt fin (fput s (k + 1) o) (k + 1) (dec _ _ (fun i e => ?_) (by rw [fput_n hne]; exact hk.1) (by rw [fput_n hne, fput_s])) (by omega) ⟨W', by rw [fput_n (by omega)]; exact w0, ⟨f1', f2', f3', f4', f5', f6', f7, cr, P', F', hcr⟩, by rw [mk_ct ho300 hfo, wn], wrb, fun v hv => ?_, ⟨fun v hv => ?_, fun v hv hd => ?_⟩, M1.fr (fun i a b => f' i (by omega))⟩ ((hfr.tr (by assumption)).tr f')
        · rw [fput_s] at key; exact key
        · unfold wcost
          by_cases e2 : i = o
          · rw [e2, fput_s, fput_s, fino, hfo]; simp
          · rw [fput_n e2, fput_n e2, fput_n e]; exact Nat.le_refl _
        · by_cases e2 : v = o
          · rw [e2, fput_s]; omega
          · rw [fput_n e2] at hv ⊢
            by_cases e : v = s k
            · rw [e, fput_s]; omega
            · rw [fput_n e]; exact wtt v hv
        · obtain ⟨q1, q2, q3, q4, q5⟩ := wo1 v hv
          have := fo' v q1
          rw [fput_n this, fput_n this, fput_n this, fput_n this]
          exact ⟨q1, q2, q3, q4, q5⟩
        · by_cases e : v = o
          · rw [e, fput_s] at hd
            have := (w.1 0 (Nat.zero_le _))
            have h00 := h5 _ this.1
            omega
          · rw [fput_n e] at hv hd; exact wo2 v hv hd
end CWALK
