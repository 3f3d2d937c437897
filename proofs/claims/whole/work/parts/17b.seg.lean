/-! ===== worlds that grow: cells in the order they are made, at addresses ad ===== -/
def vs_l (N : Nat) (ad : Nat → Nat) (C : Nat → va_E) : va_W := (List.range N).map (fun k => (ad k, C k))
def vs_a (ad : Nat → Nat) (N q : Nat) : Nat → Nat := fun k => if k = N then q else ad k
def vs_c (C : Nat → va_E) (N : Nat) (e : va_E) : Nat → va_E := fun k => if k = N then e else C k
theorem vs_a_s (ad : Nat → Nat) (N q : Nat) : vs_a ad N q N = q := if_pos rfl
theorem vs_a_n {ad : Nat → Nat} {N q k : Nat} (h : k ≠ N) : vs_a ad N q k = ad k := if_neg h
theorem vs_c_s (C : Nat → va_E) (N : Nat) (e : va_E) : vs_c C N e N = e := if_pos rfl
theorem vs_c_n {C : Nat → va_E} {N k : Nat} {e : va_E} (h : k ≠ N) : vs_c C N e k = C k := if_neg h
theorem vs_len (N : Nat) (ad : Nat → Nat) (C : Nat → va_E) : (vs_l N ad C).length = N := by unfold vs_l; rw [List.length_map, List.length_range]
theorem vs_get {N : Nat} {ad : Nat → Nat} {C : Nat → va_E} {k : Nat} (h : k < N) : (vs_l N ad C)[k]? = some (ad k, C k) := by
  unfold vs_l
  rw [List.getElem?_map, List.getElem?_range h]
  rfl
theorem vs_ext {a b : va_W} (h : ∀ k : Nat, a[k]? = b[k]?) : a = b := List.ext_getElem? h
theorem vs_none {N : Nat} {ad : Nat → Nat} {C : Nat → va_E} {k : Nat} (h : N ≤ k) : (vs_l N ad C)[k]? = none := List.getElem?_eq_none (by rw [vs_len]; exact h)
theorem vs_app (N : Nat) (ad : Nat → Nat) (C : Nat → va_E) (q : Nat) (e : va_E) : vs_l N ad C ++ [(q, e)] = vs_l (N + 1) (vs_a ad N q) (vs_c C N e) := by
  apply vs_ext
  intro k
  by_cases h : k < N
  · rw [List.getElem?_append_left (by rw [vs_len]; exact h), vs_get h, vs_get (by omega), vs_a_n (by omega), vs_c_n (by omega)]
  · rw [List.getElem?_append_right (by rw [vs_len]; omega), vs_len]
    by_cases h2 : k = N
    · subst h2
      rw [Nat.sub_self, vs_get (by omega), vs_a_s, vs_c_s]; rfl
    · rw [vs_none (by omega)]
      exact List.getElem?_eq_none (by simp; omega)
theorem vs_set {N : Nat} (ad : Nat → Nat) (C : Nat → va_E) {k : Nat} (h : k < N) (e : va_E) : (vs_l N ad C).set k (ad k, e) = vs_l N ad (vs_c C k e) := by
  apply vs_ext
  intro j
  by_cases hj : j < N
  · rw [vs_get hj]
    by_cases e1 : j = k
    · subst e1
      rw [List.getElem?_set_self (by rw [vs_len]; exact h), vs_c_s]
    · rw [List.getElem?_set_ne (Ne.symm e1), vs_get hj, vs_c_n e1]
  · rw [vs_none (by omega)]
    exact List.getElem?_eq_none (by rw [List.length_set, vs_len]; omega)
/-- the world out of one that has grown -/
theorem vs_world {D : va_G} {A : Nat → Prop} {N : Nat} {ad : Nat → Nat} {C : Nat → va_E} {H : Heap} {g : ww_G} {τ : ww_M} {pl : ww_N → Nat} (hP : va_P D vwCl (vs_l N ad C) H) (hD : va_D A (vs_l N ad C)) (hg1 : g.1 = D) (hg : ∀ n, ww_in n → g.2.1 n = ad (pl n)) (hpl : ∀ n, ww_in n → pl n < N) (hinj : ∀ n n', ww_in n → ww_in n' → pl n = pl n' → n = n') (hC : ∀ n, ww_in n → C (pl n) = ww_c g τ n) : ww_P g τ H ∧ ww_J g ∧ ∀ n, ww_in n → A (g.2.1 n) := by
  refine ⟨fun n hn => ?_, fun n n' hn hn' e => ?_, fun n hn => ?_⟩
  · have := hP (pl n) _ (vs_get (hpl n hn))
    rw [hg1, hg n hn, ← hC n hn]
    exact this
  · rw [hg n hn, hg n' hn'] at e
    exact hinj n n' hn hn' (hD.1 _ _ _ _ (vs_get (hpl n hn)) (vs_get (hpl n' hn')) e)
  · rw [hg n hn]
    exact hD.2 _ _ (vs_get (hpl n hn))
