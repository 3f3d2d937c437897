/-! ===== the array classes, from the words ===== -/
theorem vj_I {args : Array Value} {s : State} (h : (Cond.arrayClass .int).before args s = true) : ∃ cI : ClassId, ArrOfT s cI .int ∧ va_RA s cI .int := by
  obtain ⟨cA, kA, comp, h1, h2, h3⟩ := Cond.arrayClass_spec h
  exact ⟨cA, fun n z => ⟨fun k h => (by cases h), kA, h2, comp, h3⟩, h1⟩
theorem vj_R {args : Array Value} {s : State} (h : (Cond.arrayOver (.object "PieceWords$Row")).before args s = true) : ∃ cR : ClassId, ArrOfT s cR (.object "PieceWords$Row") ∧ va_RA s cR (.object "PieceWords$Row") := by
  obtain ⟨comp, cA, kA, h1, -, h2, h3, h4⟩ := Cond.arrayOver_spec h
  exact ⟨cA, fun n z => ⟨fun k h => (by cases h), kA, h2, comp, h3⟩, kA, comp, h2, h3, h1, h4⟩
theorem vj_II {args : Array Value} {s : State} (h : (Cond.arrayOver (.array .int)).before args s = true) : ∃ cII : ClassId, ArrOfT s cII (.array .int) ∧ va_RA s cII (.array .int) := by
  obtain ⟨comp, cA, kA, h1, -, h2, h3, h4⟩ := arrayOverA_spec h
  exact ⟨cA, fun n z => ⟨fun k h => (by cases h), kA, h2, comp, h3⟩, h4⟩
theorem vj_K {args : Array Value} {s : State} (hts : ∀ w ∈ ww_ws, w.before args s = true) (hR : (Cond.arrayOver (.object "PieceWords$Row")).before args s = true) (hII : (Cond.arrayOver (.array .int)).before args s = true) (hI : ∀ (c : Nat) (q : vw_C), vwCl[c]? = some q → ∃ (cls : ClassId) (iS : Nat → Nat), u_Kn s q.1 q.2.1 q.2.2 cls iS) : ∃ (D : va_G) (t : Nat → ClassId), va_K D vwCl [(t 0, .int), (t 1, .object "PieceWords$Row"), (t 2, .array .int)] s := by
  obtain ⟨cI, i1, i2⟩ := vj_I (hts _ wa_I)
  obtain ⟨cR, r1, r2⟩ := vj_R hR
  obtain ⟨cII, a1, a2⟩ := vj_II hII
  refine ⟨(fun c => if h : c < 7 then (hI c _ (List.getElem?_eq_getElem h)).choose else 0, fun c => if h : c < 7 then (hI c _ (List.getElem?_eq_getElem h)).choose_spec.choose else fun _ => 0), fun k => if k = 0 then cI else if k = 1 then cR else cII, fun c q hq => ?_, fun k q hq => ?_⟩
  · have hc : c < 7 := (List.getElem?_eq_some_iff.mp hq).1
    have e : vwCl[c]? = some vwCl[c] := List.getElem?_eq_getElem hc
    rw [e] at hq
    have hq' := Option.some.inj hq
    subst hq'
    simp only [dif_pos hc]
    exact (hI c _ (List.getElem?_eq_getElem hc)).choose_spec.choose_spec
  · match k, hq with
    | 0, hq => cases hq; exact ⟨i1, i2⟩
    | 1, hq => cases hq; exact ⟨r1, r2⟩
    | 2, hq => cases hq; exact ⟨a1, a2⟩
    | k + 3, hq => simp at hq
