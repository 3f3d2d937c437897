/-! ===== what the word 'arrayOver' says of an array of arrays (the library's, in its rest: this part sends the rounds over the whole library at once) ===== -/
theorem vj_over {args : Array Value} {s : State} {t : FieldType} (h : (Cond.arrayOver (.array t)).before args s = true) : ∃ cA : ClassId, ∃ k : Class, ∃ comp : ClassId, s.vm.classes[cA]? = some k ∧ k.kind = .array comp (.array t) ∧ s.vm.findClass ("[" ++ (FieldType.array t).toString) = some cA := by
  obtain ⟨comp, cA, kA, h1, h2, h3, h4⟩ := Cond.arrayOver_specA h
  exact ⟨cA, kA, comp, h2, h3, h4⟩
