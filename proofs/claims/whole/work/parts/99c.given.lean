/-! ===== what the start gives ===== -/
section GIVEN
variable {s : State} {b : Nat}
theorem gi_flat (h : (Jvm.Cond.and given_1 narrow_1).before #[Value.ref b] s = true) : ∀ w ∈ flatC (Jvm.Cond.and given_1 narrow_1), w.before #[Value.ref b] s = true := flat_of_before _ h
abbrev gi_RM : Term := .static "RingWeaves" "ROOM" "[I"
set_option maxRecDepth 20000 in
theorem gi_words : Cond.arrayOf gi_RM .int ∈ flatC (Jvm.Cond.and given_1 narrow_1) ∧ Cond.eq (.length gi_RM) (.int 9) ∈ flatC (Jvm.Cond.and given_1 narrow_1) ∧ (∀ j, j < 9 → Cond.eq (.elem gi_RM (.int (Int32.ofNat j))) (.int (am_room j)) ∈ flatC (Jvm.Cond.and given_1 narrow_1)) ∧ Cond.isRef (.static Bundle.tN "UNASSIGNED_STACK" Bundle.steD) ∈ flatC (Jvm.Cond.and given_1 narrow_1) ∧ Cond.isRef (.static Bundle.tN "SUPPRESSED_SENTINEL" Bundle.listD) ∈ flatC (Jvm.Cond.and given_1 narrow_1) ∧ Cond.exactly (.string "RingWeaves" 137) "java/lang/String" ∈ flatC (Jvm.Cond.and given_1 narrow_1) ∧ Cond.exactly (.string "RingWeaves" 146) "java/lang/String" ∈ flatC (Jvm.Cond.and given_1 narrow_1) := by decide +kernel
set_option maxRecDepth 20000 in
theorem gi_tbl : Cond.laysStatic "RingWeaves" "ROOM" "[I" ∈ lw_tbl ∧ Cond.initialized "RingWeaves" ∈ lw_tbl ∧ Cond.laysStatic Bundle.tN "UNASSIGNED_STACK" Bundle.steD ∈ lw_tbl ∧ Cond.laysStatic Bundle.tN "SUPPRESSED_SENTINEL" Bundle.listD ∈ lw_tbl ∧ Cond.initialized Bundle.tN ∈ lw_tbl ∧ Cond.stringRef "RingWeaves" 137 "no such ring, or no such thing to look for" ∈ lw_tbl ∧ Cond.stringRef "RingWeaves" 146 "the ring is taken" ∈ lw_tbl ∧ ∀ w ∈ am_odd, w ∈ lw_tbl := by decide +kernel
theorem gi_odd (hts : ∀ w ∈ lw_tbl, w.before #[Value.ref b] s = true) : ∀ w ∈ am_odd, w.before #[] s = true := by
  have h := gi_tbl.2.2.2.2.2.2.2
  intro w hw
  have h1 := hts w (h w hw)
  simp only [am_odd, List.mem_cons, List.not_mem_nil, or_false] at hw
  rcases hw with e | e | e | e <;> (subst e; exact h1)
theorem gi_str {k : Nat} {tx : String} (h1 : (Cond.stringRef "RingWeaves" k tx).before #[Value.ref b] s = true) (h2 : (Cond.exactly (.string "RingWeaves" k) "java/lang/String").before #[Value.ref b] s = true) : ∃ a, vk_R "RingWeaves" k tx a s := by
  obtain ⟨a, c, cA, kA, q1, -⟩ := Cond.exactly_spec (args := #[Value.ref b]) (first := s) (o := none) (s := s) (idx := []) h2
  exact ⟨a, vk_R.of h1 q1⟩
theorem gi_arr {ty : FieldType} (h : (Cond.arrayClass ty).before #[Value.ref b] s = true) : ∃ cA : ClassId, ArrOfT s cA ty ∧ s.vm.findClass ("[" ++ ty.toString) = some cA := by
  obtain ⟨cA, kA, comp, h1, h2, h3⟩ := Cond.arrayClass_spec (args := #[Value.ref b]) (first := s) (o := none) (s := s) (idx := []) h
  exact ⟨cA, fun n z => ⟨fun k h => (by cases h), kA, h2, comp, h3⟩, h1⟩
end GIVEN
