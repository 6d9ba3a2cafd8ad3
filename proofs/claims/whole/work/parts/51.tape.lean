/-! ===== the tape ===== -/
abbrev tp_T : Type := Nat × (Nat → Int32)
def tp_in (c : Nat) : Bool := decide (c = 10) || (decide (32 ≤ c) && decide (c ≤ 126))
def tp_put (T : tp_T) (c : Nat) : tp_T := if tp_in c = true ∧ T.1 < 1000 then (T.1 + 1, upd T.2 T.1 (nI c)) else T
def by_k (v : Int64) (s : Nat) : Nat := v.toBitVec.toNat / 2 ^ s % 256
/-- the bytes of v from shift 8 * k down -/
def tp_v (v : Int64) : Nat → tp_T → tp_T
  | 0, T => T
  | k + 1, T => tp_v v k (tp_put T (by_k v (8 * k)))
def tp_8 (T : tp_T) (v : Int64) : tp_T := tp_v v 8 T
theorem by_lt (v : Int64) (s : Nat) : by_k v s < 256 := Nat.mod_lt _ (by decide)
theorem by_u {v : Int64} {s : Nat} (hs : s < 64) : (Int64.toInt32 ((Int64.toUInt64 v >>> (Int64.toUInt64 (Int32.toInt64 (nI s)) &&& Int64.toUInt64 63)).toInt64) &&& (255 : Int32)) = nI (by_k v s) := by
  obtain ⟨n, hn, rfl⟩ := wb_of v
  rw [sh_k s hn hs, lN_i, show (255 : Int32) = nI (2 ^ 8 - 1) from rfl, fa_mask]
  unfold by_k
  rw [wb_tn hn]
theorem by_s {v : Int64} {s : Nat} (hs : s ≤ 56) : (Int64.toInt32 ((v : Int64) >>> (Int32.toInt64 (nI s) &&& (63 : Int64))) &&& (255 : Int32)) = nI (by_k v s) := by
  obtain ⟨n, hn, e⟩ := wb_of (v >>> (Int32.toInt64 (nI s) &&& (63 : Int64)))
  rw [e, lN_i, show (255 : Int32) = nI (2 ^ 8 - 1) from rfl, fa_mask]
  congr 1
  have hb : n = (v >>> (Int32.toInt64 (nI s) &&& (63 : Int64))).toBitVec.toNat := by rw [e, wb_tn hn]
  rw [hb]
  unfold by_k
  rw [show (256 : Nat) = 2 ^ 8 from rfl]
  apply Nat.eq_of_testBit_eq
  intro i
  rw [Nat.testBit_mod_two_pow, Nat.testBit_mod_two_pow, Nat.testBit_div_two_pow]
  by_cases hi : i < 8
  · simp only [hi, decide_true, Bool.true_and]
    rw [← BitVec.getLsbD, ← BitVec.getLsbD, Int64.toBitVec_shiftRight, wb_c s (by omega), wb_tb, wb_sm s (by omega), BitVec.getLsbD_sshiftRight', BitVec.toNat_ofNat, Nat.mod_eq_of_lt (by omega)]
    simp only [show ¬ 64 ≤ i by omega, decide_false, Bool.not_false, Bool.true_and, show s + i < 64 by omega, if_true]
    rw [Nat.add_comm]
  · simp [hi]
theorem tp_in_iff {c : Nat} (hc : c < 256) : (nI c = 10 ∨ (¬ nI c < 32 ∧ ¬ (126 : Int32) < nI c)) ↔ tp_in c = true := by
  simp only [tp_in, Bool.or_eq_true, Bool.and_eq_true, decide_eq_true_eq]
  have h1 : nI c = 10 ↔ c = 10 := nI_eq (b := 10) (by omega) (by decide)
  have h2 : nI c < 32 ↔ c < 32 := nI_ltI (b := 32) (by omega) (by decide)
  have h3 : (126 : Int32) < nI c ↔ 126 < c := nI_ltI (a := 126) (by decide) (by omega)
  rw [h1, h2, h3]
  omega
/-- the class's tape -/
def TC (h : am_H) (T : tp_T) : Prop := h[1]? = some (am_O 5 [.ref 2, .int (nI T.1)]) ∧ T.1 ≤ 1000 ∧ ∃ f, h[2]? = some (am_I 3 1000 f) ∧ ∀ i, i < T.1 → f i = T.2 i
theorem TC.fr {h h' : am_H} {T : tp_T} (hT : TC h T) (h1 : h'[1]? = h[1]?) (h2 : h'[2]? = h[2]?) : TC h' T := by
  obtain ⟨a, b, f, c, e⟩ := hT
  exact ⟨h1.trans a, b, f, h2.trans c, e⟩
section TAPE
variable {l : Launch} {g : am_G} {d : Nat} {x : Bool} {h : am_H} {T : tp_T}
theorem sp_putSign {c : Nat} {K : am_H → Prop} (hT : TC h T) (hc : c < 256) (hK : ∀ h', TC h' (tp_put T c) → Fr 1 2 h h' → K h') : cl_N l g mX5_putSign d x [.ref 1, .int (nI c)] h K := by
  have hi := tp_in_iff hc
  obtain ⟨q1, hl, f, q2, hf⟩ := id hT
  have no : ¬ (tp_in c = true ∧ T.1 < 1000) → (none : Option Value) = none ∧ K h := fun hq => ⟨rfl, hK h (by unfold tp_put; rw [if_neg hq]; exact hT) Fr.rf⟩
  have yes : tp_in c = true → zX5_putSign_23 l g d x 1 (nI c) 1 h (fun r h' => r = none ∧ K h') := fun hin => by
    refine ⟨fun z => absurd z (by decide), fun _ => gtI q1 rfl ⟨fun hz => no (fun hq => ?_), fun hz => ?_⟩⟩
    · have := (nI_leI (a := 1000) (by decide) (by omega)).mp hz
      omega
    · have hlt : T.1 < 1000 := by
        rcases Nat.lt_or_ge T.1 1000 with z | z
        · exact z
        · exact absurd ((nI_leI (a := 1000) (by decide) (by omega)).mpr z) hz
      refine gtR q1 rfl (gtI q1 rfl (asI q2 hlt (by omega) (gtI ((st_ne (by decide)).trans q1) rfl (ptV ((st_ne (by decide)).trans q1) (Nat.le_of_ble_eq_true rfl) ⟨rfl, ?_⟩))))
      have ec : ((Int32.toUInt32 (nI c) % 65536).toInt32) = nI c := by
        rw [pk_char, pk_tn (by omega), Nat.mod_eq_of_lt (by omega)]
      rw [ec, nI_1]
      refine hK _ ?_ ((Fr.rf.st (by decide)).st (by decide))
      unfold tp_put
      rw [if_pos ⟨hin, hlt⟩]
      refine ⟨st_eq ((st_ne (by decide)).trans q1), by show T.1 + 1 ≤ 1000; omega, _, (st_ne (by decide)).trans (st_eq q2), fun i hi => ?_⟩
      have hi' : i < T.1 + 1 := hi
      show upd f T.1 (nI c) i = upd T.2 T.1 (nI c) i
      by_cases e : i = T.1
      · rw [e, pk_us, pk_us]
      · rw [pk_un e, pk_un e]; exact hf i (by omega)
  refine eX5_putSign ⟨fun hz => yes (hi.mp (Or.inl hz)), fun hz => ⟨fun hy => ?_, fun hy => ⟨fun hw => ?_, fun hw => yes (hi.mp (Or.inr ⟨hy, hw⟩))⟩⟩⟩
  · exact ⟨fun _ => no (fun hq => by rcases hi.mpr hq.1 with z | z; exact hz z; exact z.1 hy), fun z => absurd rfl z⟩
  · exact ⟨fun _ => no (fun hq => by rcases hi.mpr hq.1 with z | z; exact hz z; exact z.2 hw), fun z => absurd rfl z⟩
theorem lp_putBytes {v : Int64} {Q : Option Value → am_H → Prop} (T0 : tp_T) (hK : ∀ h', TC h' (tp_8 T0 v) → Fr 1 2 h h' → Q none h') : ∀ k T1 h1, k ≤ 8 → TC h1 T1 → tp_v v k T1 = tp_8 T0 v → Fr 1 2 h h1 → am_J l g mX5_putBytes (d + 1) (0, 0, x) 3 [(0, .ref 1), (1, .long v), (3, .int (Int32.ofInt (8 * (k : Int) - 8)))] [] h1 Q := by
  intro k
  induction k with
  | zero =>
    intro T1 h1 _ hT e hf
    refine rX5_putBytes_3 ⟨fun _ => ?_, fun hz => absurd (show Int32.ofInt (8 * ((0 : Nat) : Int) - 8) < 0 by decide) hz⟩
    rw [← show tp_v v 0 T1 = tp_8 T0 v from e] at hK
    exact hK h1 hT hf
  | succ k ih =>
    intro T1 h1 hk hT e hf
    have e8 : Int32.ofInt (8 * ((k + 1 : Nat) : Int) - 8) = nI (8 * k) := by
      rw [show (8 * ((k + 1 : Nat) : Int) - 8) = ((8 * k : Nat) : Int) by omega]; rfl
    rw [e8]
    refine rX5_putBytes_3 ⟨fun hz => absurd hz (nI_pos (by omega)), fun _ => ⟨⟨_, hT.1⟩, ?_⟩⟩
    rw [by_u (by omega)]
    refine sp_putSign hT (by_lt _ _) fun h2 hT2 hf2 => ?_
    have e9 : nI (8 * k) + (-8) = Int32.ofInt (8 * (k : Int) - 8) := by
      rw [show (-8 : Int32) = Int32.ofInt (-8) by decide, oI_add]
      congr 1
    rw [e9]
    exact ih _ h2 (by omega) hT2 e (hf.tr hf2)
theorem sp_putBytes {v : Int64} {K : am_H → Prop} (hT : TC h T) (hK : ∀ h', TC h' (tp_8 T v) → Fr 1 2 h h' → K h') : cl_N l g mX5_putBytes (d + 1) x [.ref 1, .long v] h K := by
  refine eX5_putBytes ?_
  exact lp_putBytes (h := h) T (fun h' a b => ⟨rfl, hK h' a b⟩) 8 T h (Nat.le_refl _) hT rfl Fr.rf
/-! the model's -/
def o_tp (o : mo_T) (v : Int32) : mo_T := (o.1, v, o.2.2)
def TM (h : am_H) (o : mo_T) (T : tp_T) : Prop := o.2.1 = nI T.1 ∧ T.1 ≤ 1000 ∧ ∃ f, h[47]? = some (am_I 0 1000 f) ∧ ∀ i, i < T.1 → f i = T.2 i
variable {m : ml_T} {Wh : wv_T} {o : mo_T}
theorem MM.tp {v : Int32} (hM : MM h m Wh o) : MM (h.set 46 (c_mm (o_tp o v) (nI m.2.1) (nI m.2.2.1) (nI (m_sh m)) (nI (m_nu m)))) m Wh (o_tp o v) := by
  obtain ⟨q0, hW, ⟨f, h60, h60'⟩, ⟨ft, h61, h61'⟩⟩ := hM
  exact ⟨st_eq q0, hW.fr (fun i a b => st_ne (by omega)), ⟨f, (st_ne (by decide)).trans h60, h60'⟩, ⟨ft, (st_ne (by decide)).trans h61, h61'⟩⟩
theorem lm_lay0 {v : Int64} {Q : Option Value → am_H → Prop} (T0 : tp_T) (hK : ∀ h', MM h' m Wh (o_tp o (nI (tp_8 T0 v).1)) → TM h' (o_tp o (nI (tp_8 T0 v).1)) (tp_8 T0 v) → Fr 46 47 h h' → Q none h') : ∀ k T1 h1, k ≤ 8 → MM h1 m Wh (o_tp o (nI T1.1)) → TM h1 (o_tp o (nI T1.1)) T1 → tp_v v k T1 = tp_8 T0 v → Fr 46 47 h h1 → am_J l g mX9_lay d (0, 0, x) 3 [(0, .ref 46), (1, .long v), (3, .int (Int32.ofInt (8 * (k : Int) - 8)))] [] h1 Q := by
  intro k
  induction k with
  | zero =>
    intro T1 h1 _ hM hT e hf
    refine rX9_lay_3 ⟨fun _ => ?_, fun hz => absurd (show Int32.ofInt (8 * ((0 : Nat) : Int) - 8) < 0 by decide) hz⟩
    rw [← show tp_v v 0 T1 = tp_8 T0 v from e] at hK
    exact hK h1 hM hT hf
  | succ k ih =>
    intro T1 h1 hk hM hT e hf
    have e8 : Int32.ofInt (8 * ((k + 1 : Nat) : Int) - 8) = nI (8 * k) := by
      rw [show (8 * ((k + 1 : Nat) : Int) - 8) = ((8 * k : Nat) : Int) by omega]; rfl
    rw [e8]
    have e9 : nI (8 * k) + (-8) = Int32.ofInt (8 * (k : Int) - 8) := by
      rw [show (-8 : Int32) = Int32.ofInt (-8) by decide, oI_add]
      congr 1
    have hb := by_lt v (8 * k)
    have hi := tp_in_iff hb
    obtain ⟨-, hl, f, q2, hf2⟩ := id hT
    have q0 := hM.1
    have no : ¬ (tp_in (by_k v (8 * k)) = true ∧ T1.1 < 1000) → zX9_lay_69 l g d x 46 v (nI (8 * k)) h1 Q := fun hq => by
      unfold zX9_lay_69
      rw [e9]
      refine ih T1 h1 (by omega) hM hT ?_ hf
      have e' : tp_v v k (tp_put T1 (by_k v (8 * k))) = tp_8 T0 v := e
      unfold tp_put at e'
      rw [if_neg hq] at e'
      exact e'
    have yes : tp_in (by_k v (8 * k)) = true → zX9_lay_38 l g d x 46 v (nI (8 * k)) (nI (by_k v (8 * k))) h1 Q := fun hin => by
      refine gtI q0 rfl ⟨fun hz => no (fun hq => ?_), fun hz => ?_⟩
      · have := (nI_leI (a := 1000) (b := T1.1) (by decide) (by omega)).mp hz
        omega
      · have hlt : T1.1 < 1000 := by
          rcases Nat.lt_or_ge T1.1 1000 with z | z
          · exact z
          · exact absurd ((nI_leI (a := 1000) (b := T1.1) (by decide) (by omega)).mpr z) hz
        refine gtR q0 rfl (gtI q0 rfl (asI (i := T1.1) q2 hlt (by omega) (gtI ((st_ne (by decide)).trans q0) rfl (ptV ((st_ne (by decide)).trans q0) (Nat.le_of_ble_eq_true rfl) ?_))))
        unfold zX9_lay_69
        rw [e9]
        have hp : tp_put T1 (by_k v (8 * k)) = (T1.1 + 1, upd T1.2 T1.1 (nI (by_k v (8 * k)))) := by unfold tp_put; rw [if_pos ⟨hin, hlt⟩]
        have hM2 : MM (h1.set 47 (am_I 0 1000 (upd f T1.1 (nI (by_k v (8 * k)))))) m Wh (o_tp o (nI T1.1)) := hM.fr (st_ne (by decide)) (fun i a b => st_ne (by omega))
        have hM3 := hM2.tp (v := nI (T1.1 + 1))
        refine ih (T1.1 + 1, upd T1.2 T1.1 (nI (by_k v (8 * k)))) _ (by omega) ?_ ⟨rfl, by show T1.1 + 1 ≤ 1000; omega, upd f T1.1 (nI (by_k v (8 * k))), ?_, fun i hi => ?_⟩ ?_ ((hf.st (by decide)).st (by decide))
        · rw [← nI_1] at hM3 ⊢
          exact hM3
        · rw [st_ne (by decide)]; exact st_eq q2
        · have hi' : i < T1.1 + 1 := hi
          show upd f T1.1 _ i = upd T1.2 T1.1 _ i
          by_cases ee : i = T1.1
          · rw [ee, pk_us, pk_us]
          · rw [pk_un ee, pk_un ee]; exact hf2 i (by omega)
        · have e' : tp_v v k (tp_put T1 (by_k v (8 * k))) = tp_8 T0 v := e
          rw [hp] at e'
          exact e'
    refine rX9_lay_3 ⟨fun hz => absurd hz (nI_pos (by omega)), fun _ => ?_⟩
    rw [by_s (by omega)]
    refine ⟨fun hz => yes (hi.mp (Or.inl hz)), fun hz => ⟨fun hy => no (fun hq => ?_), fun hy => ⟨fun hw => no (fun hq => ?_), fun hw => yes (hi.mp (Or.inr ⟨hy, hw⟩))⟩⟩⟩
    · rcases hi.mpr hq.1 with z | z
      · exact hz z
      · exact z.1 hy
    · rcases hi.mpr hq.1 with z | z
      · exact hz z
      · exact z.2 hw
theorem ms_lay0 {v : Int64} {K : am_H → Prop} (hM : MM h m Wh o) (hT : TM h o T) (hK : ∀ h', MM h' m Wh (o_tp o (nI (tp_8 T v).1)) → TM h' (o_tp o (nI (tp_8 T v).1)) (tp_8 T v) → Fr 46 47 h h' → K h') : cl_N l g mX9_lay d x [.ref 46, .long v] h K := by
  have eo : o_tp o (nI T.1) = o := by unfold o_tp; rw [← hT.1]
  refine eX9_lay ?_
  exact lm_lay0 (h := h) (o := o) T (fun h' a b c => ⟨rfl, hK h' a b c⟩) 8 T h (Nat.le_refl _) (by rw [eo]; exact hM) (by rw [eo]; exact hT) rfl Fr.rf
theorem sp_feed {a b c : Int64} {c0 : am_C} {i1 i2 i3 : Int32} {r5 r6 : Nat} {K : Int32 → am_H → Prop} (q0 : h[0]? = some (am_O 8 [.ref 1, .ref 3, .ref 6, .ref 18, .ref 26, .ref r5, .ref r6, .int i1, .int i2, .int i3])) (hT : TC h T) (hK : ∀ h', TC h' (tp_8 (tp_8 (tp_8 T a) b) c) → Fr 1 2 h h' → K (nI (tp_8 (tp_8 (tp_8 T a) b) c).1) h') : cl_I l g mX8_feed (d + 2) x [.ref 0, .long a, .long b, .long c] h K := by
  refine eX8_feed (gtR q0 rfl ⟨⟨_, hT.1⟩, sp_putBytes hT fun h1 hT1 hf1 => ?_⟩)
  have p1 := hf1.get (by decide) q0
  refine gtR p1 rfl ⟨⟨_, hT1.1⟩, sp_putBytes hT1 fun h2 hT2 hf2 => ?_⟩
  have p2 := hf2.get (by decide) p1
  refine gtR p2 rfl ⟨⟨_, hT2.1⟩, sp_putBytes hT2 fun h3 hT3 hf3 => ?_⟩
  have p3 := hf3.get (by decide) p2
  exact gtR p3 rfl (gtI hT3.1 rfl ⟨_, rfl, hK h3 hT3 ((hf1.tr hf2).tr hf3)⟩)
theorem ms_feed {a b c : Int64} {K : Int32 → am_H → Prop} (hM : MM h m Wh o) (hT : TM h o T) (hK : ∀ h' o', MM h' m Wh o' → TM h' o' (tp_8 (tp_8 (tp_8 T a) b) c) → o' = o_tp (o_0 o) (nI (tp_8 (tp_8 (tp_8 T a) b) c).1) → Fr 46 47 h h' → K (nI (tp_8 (tp_8 (tp_8 T a) b) c).1) h') : cl_I l g mX9_feed (d + 1) x [.ref 46, .long a, .long b, .long c] h K := by
  refine eX9_feed (mt_thr hM fun h' hM1 hf1 => ?_)
  have hT1 : TM h' (o_0 o) T := by
    obtain ⟨a, b, f, c, e⟩ := hT
    exact ⟨a, b, f, hf1.get (by decide) c, e⟩
  refine ⟨⟨_, hM1.1⟩, ms_lay0 hM1 hT1 fun h2 hM2 hT2 hf2 => ⟨⟨_, hM2.1⟩, ms_lay0 hM2 hT2 fun h3 hM3 hT3 hf3 => ⟨⟨_, hM3.1⟩, ms_lay0 hM3 hT3 fun h4 hM4 hT4 hf4 => ?_⟩⟩⟩
  exact gtI hM4.1 rfl ⟨_, rfl, hK h4 _ hM4 hT4 rfl ((((hf1.mono (by omega) (by omega)).tr hf2).tr hf3).tr hf4)⟩
end TAPE
