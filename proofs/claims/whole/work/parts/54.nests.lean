/-! The nest links out of the law's words. -/
set_option maxRecDepth 100000 in
theorem nwX_all : nwX.all (fun q => decide (Cond.methodLinkNest q.1 q.2.1 q.2.2.1 q.2.2.2 ∈ lw_tbl)) = true := by decide +kernel
theorem nests_in {s : State} {A : Array Value} (hts : ∀ w ∈ lw_tbl, w.before A s = true) : ∀ q ∈ nwX, va_Nw (.methodLinkNest q.1 q.2.1 q.2.2.1 q.2.2.2) s := fun q hq => va_Nw.of rfl (hts _ (of_decide_eq_true (List.all_eq_true.mp nwX_all q hq)))
/-- the classes of the arrays, out of their words -/
theorem two_classes {s : State} {A : Array Value} (hi : (Cond.arrayClass .int).before A s = true) (hz : (Cond.arrayClass .boolean).before A s = true) : ∃ cI cZ : ClassId, ∀ (k : Nat) (q : ClassId × FieldType), ([(cI, .int), (cZ, .boolean)] : List (ClassId × FieldType))[k]? = some q → ArrOfT s q.1 q.2 ∧ va_RA s q.1 q.2 := by
  obtain ⟨cI, kI, compI, a1, a2, a3⟩ := Cond.arrayClass_spec hi
  obtain ⟨cZ, kZ, compZ, b1, b2, b3⟩ := Cond.arrayClass_spec hz
  refine ⟨cI, cZ, fun k q hq => ?_⟩
  have hk : k < 2 := (List.getElem?_eq_some_iff.mp hq).1
  rcases (show k = 0 ∨ k = 1 by omega) with rfl | rfl
  · cases hq
    exact ⟨fun n z => ⟨fun k h => (by cases h), kI, a2, compI, a3⟩, a1⟩
  · cases hq
    exact ⟨fun n z => ⟨fun k h => (by cases h), kZ, b2, compZ, b3⟩, b1⟩
