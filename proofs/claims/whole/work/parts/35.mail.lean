section MAIL2
variable {l : Launch} {g : am_G} {d : Nat} {x : Bool} {h : am_H} {m : ml_T} {ch : Nat}
def m_with (m : ml_T) (ov : Nat → Nat → Bool) : ml_T := (m.1, m.2.1, m.2.2.1, m.2.2.2.1, m.2.2.2.2.1, ov)
def m_link (m : ml_T) (u v : Nat) : ml_T := m_with m (fun a b => if a = u ∧ b = v then true else m_ov m a b)
def m_unlink (m : ml_T) (u v : Nat) : ml_T := m_with m (fun a b => if (a = u ∧ b = v) ∨ (a = v ∧ b = u) then false else m_ov m a b)
theorem sp_join {u v : Nat} {K : am_H → Prop} (hM : MC h m ch) (hu : u < 300) (hv : v < 300) (hK : ∀ h', MC h' (m_link m u v) (ch + 1) → Fr 6 17 h h' → K h') : cl_N l g mX0_join (d + 1) x [.ref 6, .int (nI u), .int (nI v)] h K := by
  obtain ⟨h0, hW, ⟨f3, h13, h13'⟩, h14, h16, ⟨fa, h15, h15'⟩, ⟨fj, h17, h17'⟩⟩ := hM
  refine eX0_join (gtR h0 rfl ⟨⟨_, h16⟩, sp_put h16 h17 (by omega) (by omega) (by omega) (by omega) fun f1 hf1 => ?_⟩)
  refine gtR (fs := _) ((st_ne (by decide)).trans h0) rfl ⟨⟨_, (st_ne (by decide)).trans h16⟩, sp_put ((st_ne (by decide)).trans h16) (st_eq h17) (by omega) (by omega) (by omega) (by omega) fun f2 hf2 => ?_⟩
  rw [List.set_set]
  refine gtR ((st_ne (by decide)).trans h0) rfl ⟨⟨_, (st_ne (by decide)).trans h14⟩, sp_put ((st_ne (by decide)).trans h14) ((st_ne (by decide)).trans h15) (by omega) (by omega) (by omega) (by omega) fun f4 hf4 => ?_⟩
  have e0 : ((h.set 17 (am_L 1500 f2)).set 15 (am_L 1500 f4))[6]? = some (c_ml (nI m.2.1) (nI m.2.2.1) (nI (m_sh m)) (nI (m_nu m)) (nI ch)) := by rw [st_ne (by decide), st_ne (by decide)]; exact h0
  refine gtI e0 rfl (ptV e0 (Nat.le_of_ble_eq_true rfl) ⟨rfl, ?_⟩)
  rw [nI_1]
  refine hK _ ⟨st_eq e0, ?_, ⟨f3, ?_, h13'⟩, ?_, ?_, ⟨f4, ?_, ?_⟩, ⟨f2, ?_, ?_⟩⟩ (((Fr.rf.st (by decide)).st (by decide)).st (by decide))
  · refine WC.fr hW (fun i a b => ?_)
    rw [st_ne (by omega), st_ne (by omega), st_ne (by omega)]
  · rw [st_ne (by decide), st_ne (by decide), st_ne (by decide)]; exact h13
  · rw [st_ne (by decide), st_ne (by decide), st_ne (by decide)]; exact h14
  · rw [st_ne (by decide), st_ne (by decide), st_ne (by decide)]; exact h16
  · rw [st_ne (by decide)]; exact st_eq ((st_ne (by decide)).trans h15)
  · intro r i hr hi
    rw [hf4 r i hi, h15' r i hr hi]
    rfl
  · rw [st_ne (by decide), st_ne (by decide)]; exact st_eq h17
  · intro r i hr hi
    rw [hf2 r i hi, hf1 r i hi, h17' r i hr hi]
    simp only [m_link, m_aj, m_ov, m_with]
    by_cases c1 : r = u ∧ i = v
    · simp [c1.1, c1.2]
    · by_cases c2 : r = v ∧ i = u
      · simp [c2.1, c2.2]
      · have c3 : ¬ (i = u ∧ r = v) := fun e => c2 ⟨e.2, e.1⟩
        simp [c1, c2, c3]
theorem sp_part {u v : Nat} {K : am_H → Prop} (hM : MC h m ch) (hu : u < 300) (hv : v < 300) (hK : ∀ h', MC h' (m_unlink m u v) (ch + 1) → Fr 6 17 h h' → K h') : cl_N l g mX0_part (d + 1) x [.ref 6, .int (nI u), .int (nI v)] h K := by
  obtain ⟨h0, hW, ⟨f3, h13, h13'⟩, h14, h16, ⟨fa, h15, h15'⟩, ⟨fj, h17, h17'⟩⟩ := hM
  refine eX0_part (gtR h0 rfl ⟨⟨_, h16⟩, sp_drop h16 h17 (by omega) (by omega) (by omega) (by omega) fun f1 hf1 => ?_⟩)
  refine gtR (fs := _) ((st_ne (by decide)).trans h0) rfl ⟨⟨_, (st_ne (by decide)).trans h16⟩, sp_drop ((st_ne (by decide)).trans h16) (st_eq h17) (by omega) (by omega) (by omega) (by omega) fun f2 hf2 => ?_⟩
  rw [List.set_set]
  refine gtR ((st_ne (by decide)).trans h0) rfl ⟨⟨_, (st_ne (by decide)).trans h14⟩, sp_drop ((st_ne (by decide)).trans h14) ((st_ne (by decide)).trans h15) (by omega) (by omega) (by omega) (by omega) fun f4 hf4 => ?_⟩
  have e0 : ∀ f, ((h.set 17 (am_L 1500 f2)).set 15 (am_L 1500 f))[6]? = some (c_ml (nI m.2.1) (nI m.2.2.1) (nI (m_sh m)) (nI (m_nu m)) (nI ch)) := fun f => by rw [st_ne (by decide), st_ne (by decide)]; exact h0
  have e14 : ∀ f, ((h.set 17 (am_L 1500 f2)).set 15 (am_L 1500 f))[14]? = some (am_O 2 [.ref 15]) := fun f => by rw [st_ne (by decide), st_ne (by decide)]; exact h14
  refine gtR (e0 _) rfl ⟨⟨_, e14 _⟩, sp_drop (e14 _) (st_eq ((st_ne (by decide)).trans h15)) (by omega) (by omega) (by omega) (by omega) fun f5 hf5 => ?_⟩
  rw [List.set_set]
  refine gtI (e0 _) rfl (ptV (e0 _) (Nat.le_of_ble_eq_true rfl) ⟨rfl, ?_⟩)
  rw [nI_1]
  refine hK _ ⟨st_eq (e0 _), ?_, ⟨f3, ?_, h13'⟩, ?_, ?_, ⟨f5, ?_, ?_⟩, ⟨f2, ?_, ?_⟩⟩ (((Fr.rf.st (by decide)).st (by decide)).st (by decide))
  · refine WC.fr hW (fun i a b => ?_)
    rw [st_ne (by omega), st_ne (by omega), st_ne (by omega)]
  · rw [st_ne (by decide), st_ne (by decide), st_ne (by decide)]; exact h13
  · rw [st_ne (by decide), st_ne (by decide), st_ne (by decide)]; exact h14
  · rw [st_ne (by decide), st_ne (by decide), st_ne (by decide)]; exact h16
  · rw [st_ne (by decide)]; exact st_eq ((st_ne (by decide)).trans h15)
  · intro r i hr hi
    rw [hf5 r i hi, hf4 r i hi, h15' r i hr hi]
    simp only [m_unlink, m_ov, m_with]
    by_cases c1 : r = u ∧ i = v
    · simp [c1.1, c1.2]
    · by_cases c2 : r = v ∧ i = u
      · simp [c2.1, c2.2]
      · simp [c1, c2]
  · rw [st_ne (by decide), st_ne (by decide)]; exact st_eq h17
  · intro r i hr hi
    rw [hf2 r i hi, hf1 r i hi, h17' r i hr hi]
    simp only [m_unlink, m_aj, m_ov, m_with]
    by_cases c1 : r = u ∧ i = v
    · simp [c1.1, c1.2]
    · by_cases c2 : r = v ∧ i = u
      · simp [c2.1, c2.2]
      · have c3 : ¬ (i = u ∧ r = v) := fun e => c2 ⟨e.2, e.1⟩
        have c4 : ¬ (i = v ∧ r = u) := fun e => c1 ⟨e.2, e.1⟩
        simp [c1, c2, c3, c4]
def m_put (m : ml_T) : ml_T := (m.1, m.2.1, m.2.2.1, m.2.2.2.1 + 1, (fun i => if i = m.2.2.2.1 then true else m.2.2.2.2.1 i), m.2.2.2.2.2)
theorem sp_putIn {K : Int32 → am_H → Prop} (hM : MC h m ch) (hv : ml_g m) (h0 : m_nu m = 300 → K (-1) h) (h1 : ∀ h', m_nu m < 300 → MC h' (m_put m) (ch + 1) → Fr 6 17 h h' → K (nI (m_nu m)) h') : cl_I l g mX0_putIn d x [.ref 6] h K := by
  have hnu : m_nu m ≤ 300 := hv.2.2.2.2.2.1
  obtain ⟨q0, hW, ⟨f3, h13, h13'⟩, h14, h16, ⟨fa, h15, h15'⟩, ⟨fj, h17, h17'⟩⟩ := hM
  refine eX0_putIn (gtI q0 rfl ⟨fun hc => ?_, fun hc => ?_⟩)
  · have hlt : m_nu m < 300 := (nI_ltI (b := 300) (by omega) (by decide)).mp hc
    refine gtI q0 rfl (gtR q0 rfl (asI h13 hlt (by omega) ?_))
    have e0 : (h.set 13 (am_I 2 300 (upd f3 (m_nu m) 1)))[6]? = some (c_ml (nI m.2.1) (nI m.2.2.1) (nI (m_sh m)) (nI (m_nu m)) (nI ch)) := (st_ne (by decide)).trans q0
    refine gtI e0 rfl (ptV e0 (Nat.le_of_ble_eq_true rfl) ?_)
    refine gtI (st_eq e0) rfl (ptV (st_eq e0) (Nat.le_of_ble_eq_true rfl) ?_)
    rw [List.set_set, nI_1, nI_1]
    refine ⟨_, rfl, h1 _ hlt ⟨st_eq e0, ?_, ⟨upd f3 (m_nu m) 1, ?_, ?_⟩, ?_, ?_, ⟨fa, ?_, h15'⟩, ⟨fj, ?_, h17'⟩⟩ ((Fr.rf.st (by decide)).st (by decide))⟩
    · refine WC.fr hW (fun i a b => ?_)
      rw [st_ne (by omega), st_ne (by omega)]
    · rw [st_ne (by decide)]; exact st_eq h13
    · intro i hi
      have hi' : i < m_nu m + 1 := hi
      by_cases e : i = m_nu m
      · subst e
        rw [pk_us]
        have : m_th (m_put m) (m_nu m) = true := if_pos rfl
        rw [this]; rfl
      · rw [pk_un e, h13' i (by omega)]
        have : m_th (m_put m) i = m_th m i := if_neg e
        rw [this]
    · rw [st_ne (by decide), st_ne (by decide)]; exact h14
    · rw [st_ne (by decide), st_ne (by decide)]; exact h16
    · rw [st_ne (by decide), st_ne (by decide)]; exact h15
    · rw [st_ne (by decide), st_ne (by decide)]; exact h17
  · have hge : ¬ m_nu m < 300 := fun z => hc ((nI_ltI (b := 300) (by omega) (by decide)).mpr z)
    exact ⟨_, rfl, h0 (by omega)⟩
end MAIL2
