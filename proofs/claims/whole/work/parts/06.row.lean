/-! ===== numbers ===== -/
theorem zlt {a b : Nat} (ha : a < 2147483648) (hb : b < 2147483648) : (nI a < nI b) = (a < b) := propext (nI_ltI ha hb)
theorem zle {a b : Nat} (ha : a < 2147483648) (hb : b < 2147483648) : (nI a ≤ nI b) = (a ≤ b) := propext (nI_leI ha hb)
theorem zeq {a b : Nat} (ha : a < 2147483648) (hb : b < 2147483648) : (nI a = nI b) = (a = b) := propext (nI_eq ha hb)
theorem zsub {a b : Nat} (h : b ≤ a) : nI a - nI b = nI (a - b) := pk_sub h
theorem zadd (a b : Nat) : nI a + nI b = nI (a + b) := nI_add a b
theorem zmul (a b : Nat) : nI a * nI b = nI (a * b) := pk_mul a b
theorem zm1 {a : Nat} (h : 0 < a) : nI a + (-1 : Int32) = nI (a - 1) := sb_m1 h
theorem zne1 {a : Nat} (h : a < 2147483648) : ¬ nI a = (-1 : Int32) := by
  intro e
  have := congrArg Int32.toInt e
  rw [nI_toInt h] at this
  have h2 : ((-1 : Int32)).toInt = -1 := by decide
  omega
theorem zmin {x y : Nat} (hx : x < 2147483648) (hy : y < 2147483648) : (if nI y < nI x then nI y else nI x) = nI (min x y) := by
  by_cases h : y < x
  · rw [if_pos ((nI_ltI hy hx).mpr h), Nat.min_eq_right (Nat.le_of_lt h)]
  · rw [if_neg (fun q => h ((nI_ltI hy hx).mp q)), Nat.min_eq_left (Nat.not_lt.mp h)]
theorem zmax {x y : Nat} (hx : x < 2147483648) (hy : y < 2147483648) : (if nI x < nI y then nI y else nI x) = nI (max x y) := by
  by_cases h : x < y
  · rw [if_pos ((nI_ltI hx hy).mpr h), Nat.max_eq_right (Nat.le_of_lt h)]
  · rw [if_neg (fun q => h ((nI_ltI hx hy).mp q)), Nat.max_eq_left (Nat.not_lt.mp h)]
theorem ww_cap_le (r : Nat) : ww_cap r ≤ 540 := by
  unfold ww_cap
  split
  · omega
  · split
    · omega
    · split
      · omega
      · split <;> omega
theorem ww_cap_ge (r : Nat) : 14 ≤ ww_cap r := by
  unfold ww_cap
  split
  · omega
  · split
    · omega
    · split
      · omega
      · split <;> omega
/-! ===== words: rows of letters 0 .. 7 ===== -/
def zo (l : Nat) : Nat := if l < 4 then l + 4 else l - 4
theorem zo_lt {l : Nat} (h : l < 8) : zo l < 8 := by unfold zo; split <;> omega
theorem zo_zo {l : Nat} (h : l < 8) : zo (zo l) = l := by unfold zo; split <;> split <;> omega
theorem zo_inj {a b : Nat} (ha : a < 8) (hb : b < 8) (h : zo a = zo b) : a = b := by rw [← zo_zo ha, h, zo_zo hb]
def zat (xs : List Nat) (k : Nat) : Nat := xs.getD k 0
def zpush (xs : List Nat) (l : Nat) : List Nat := if 0 < xs.length ∧ zat xs (xs.length - 1) = zo l then xs.dropLast else xs ++ [l]
def zpushs (xs ys : List Nat) : List Nat := ys.foldl zpush xs
def zinv (xs : List Nat) : List Nat := (xs.map zo).reverse
def zok (xs : List Nat) : Prop := ∀ x ∈ xs, x < 8
theorem zat_lt {xs : List Nat} (h : zok xs) {k : Nat} (hk : k < xs.length) : zat xs k < 8 := by
  unfold zat
  rw [List.getD_eq_getElem?_getD, List.getElem?_eq_getElem hk]
  exact h _ (List.getElem_mem hk)
theorem zat_eq {xs : List Nat} {k : Nat} (hk : k < xs.length) : zat xs k = xs[k] := by
  unfold zat
  rw [List.getD_eq_getElem?_getD, List.getElem?_eq_getElem hk]; rfl
theorem zok_drop {xs : List Nat} (h : zok xs) : zok xs.dropLast := fun x hx => h x (List.dropLast_subset xs hx)
theorem zok_app {xs ys : List Nat} (h : zok xs) (h2 : zok ys) : zok (xs ++ ys) := fun x hx => (List.mem_append.mp hx).elim (h x) (h2 x)
theorem zok_push {xs : List Nat} {l : Nat} (h : zok xs) (hl : l < 8) : zok (zpush xs l) := by
  unfold zpush
  split
  · exact zok_drop h
  · exact zok_app h (fun x hx => by rw [List.mem_singleton.mp hx]; exact hl)
theorem zok_pushs {ys : List Nat} : ∀ {xs : List Nat}, zok xs → zok ys → zok (zpushs xs ys) := by
  induction ys with
  | nil => intro xs h _; exact h
  | cons y ys ih => intro xs h h2; exact ih (zok_push h (h2 y List.mem_cons_self)) (fun x hx => h2 x (List.mem_cons_of_mem _ hx))
theorem zpush_len (xs : List Nat) (l : Nat) : (zpush xs l).length ≤ xs.length + 1 := by
  unfold zpush
  split
  · rw [List.length_dropLast]; omega
  · rw [List.length_append]; exact Nat.le_refl _
theorem zpushs_len {ys : List Nat} : ∀ (xs : List Nat), (zpushs xs ys).length ≤ xs.length + ys.length := by
  induction ys with
  | nil => intro xs; exact Nat.le_refl _
  | cons y ys ih => intro xs; have := ih (zpush xs y); have := zpush_len xs y; simp only [zpushs, List.foldl_cons, List.length_cons] at *; omega
theorem zpushs_cons (xs : List Nat) (y : Nat) (ys : List Nat) : zpushs xs (y :: ys) = zpushs (zpush xs y) ys := rfl
theorem zpushs_nil (xs : List Nat) : zpushs xs [] = xs := rfl
theorem zpushs_app (xs ys zs : List Nat) : zpushs xs (ys ++ zs) = zpushs (zpushs xs ys) zs := by unfold zpushs; rw [List.foldl_append]
theorem zat_app_l {xs ys : List Nat} {k : Nat} (h : k < xs.length) : zat (xs ++ ys) k = zat xs k := by
  unfold zat; rw [List.getD_eq_getElem?_getD, List.getD_eq_getElem?_getD, List.getElem?_append_left h]
theorem zat_app_e (xs : List Nat) (l : Nat) : zat (xs ++ [l]) xs.length = l := by
  unfold zat; rw [List.getD_eq_getElem?_getD, List.getElem?_append_right (Nat.le_refl _), Nat.sub_self]; rfl
theorem zat_dropLast {xs : List Nat} {k : Nat} (h : k < xs.length - 1) : zat xs.dropLast k = zat xs k := by
  rw [zat_eq (by rw [List.length_dropLast]; exact h), zat_eq (by omega), List.getElem_dropLast]
/-! ===== rows of the class ===== -/
def zRow (τ : ww_M) (r : Nat) (xs : List Nat) : Prop := xs.length ≤ ww_cap r ∧ τ (21, r) 1 = nI xs.length ∧ (∀ k, k < xs.length → τ (22, r) k = nI (zat xs k)) ∧ zok xs
def zup (R : Nat → List Nat) (r : Nat) (xs : List Nat) : Nat → List Nat := fun q => if q = r then xs else R q
theorem zup_s (R : Nat → List Nat) (r : Nat) (xs : List Nat) : zup R r xs r = xs := if_pos rfl
theorem zup_n {R : Nat → List Nat} {r q : Nat} {xs : List Nat} (h : q ≠ r) : zup R r xs q = R q := if_neg h
theorem zup_up (R : Nat → List Nat) (r : Nat) (xs ys : List Nat) : zup (zup R r xs) r ys = zup R r ys := by
  funext q; unfold zup; split <;> rfl
theorem zup_id (R : Nat → List Nat) (r : Nat) : zup R r (R r) = R := by
  funext q; unfold zup; split
  · rename_i h; rw [h]
  · rfl
def zRows (τ : ww_M) (R : Nat → List Nat) : Prop := ∀ r, r < 104 → zRow τ r (R r)
/-- nothing but rows has changed -/
def zNR (τ τ' : ww_M) : Prop := ∀ n : ww_N, n.1 ≠ 21 → n.1 ≠ 22 → τ' n = τ n
theorem zNR.rf (τ : ww_M) : zNR τ τ := fun _ _ _ => rfl
theorem zNR.tr {a b c : ww_M} (h : zNR a b) (h2 : zNR b c) : zNR a c := fun n h1 h3 => (h2 n h1 h3).trans (h n h1 h3)
theorem zRow.same {τ τ' : ww_M} {r : Nat} {xs : List Nat} (h : zRow τ r xs) (h1 : τ' (21, r) = τ (21, r)) (h2 : τ' (22, r) = τ (22, r)) : zRow τ' r xs := ⟨h.1, by rw [h1]; exact h.2.1, fun k hk => by rw [h2]; exact h.2.2.1 k hk, h.2.2.2⟩
theorem zRows.set {τ τ' : ww_M} {R : Nat → List Nat} {r : Nat} {xs : List Nat} (h : zRows τ R) (hr : zRow τ' r xs) (ho : ∀ n : ww_N, n ≠ (21, r) → n ≠ (22, r) → τ' n = τ n) : zRows τ' (zup R r xs) := by
  intro q hq
  by_cases e : q = r
  · subst e; rw [zup_s]; exact hr
  · rw [zup_n e]
    exact (h q hq).same (ho _ (by simp [e]) (by simp)) (ho _ (by simp) (by simp [e]))
theorem zRows.keep {τ τ' : ww_M} {R : Nat → List Nat} (h : zRows τ R) (ho : ∀ n : ww_N, n.1 = 21 ∨ n.1 = 22 → τ' n = τ n) : zRows τ' R := fun q hq => (h q hq).same (ho _ (Or.inl rfl)) (ho _ (Or.inr rfl))
section ROWS
variable {l : Launch} {g : ww_G} {τ : ww_M} {R : Nat → List Nat} {r : Nat}
theorem s_opp {a : Nat} (ha : a < 8) : ww_T l g mX5_opposite [.inl (nI a)] τ (ww_QI (fun v τ' => τ = τ' ∧ v = nI (zo a))) := by
  refine b_X5_opposite (fun E => ⟨fun c => ⟨rfl, ?_⟩, fun c => ⟨rfl, ?_⟩⟩)
  · rw [zle (by omega) (by omega)] at c
    rw [zsub c, zo, if_neg (by omega)]
  · rw [zle (by omega) (by omega)] at c
    rw [zadd, zo, if_pos (by omega)]
theorem s_at {j : Nat} {xs : List Nat} (h : zRow τ r xs) (hr : r < 104) (hj : j < 2147483648) : ww_T l g mX2_at [.inr (.inr (21, r)), .inl (nI j)] τ (ww_QI (fun v τ' => τ = τ' ∧ v = if j < xs.length then nI (zat xs j) else (-1 : Int32))) := by
  have hc := ww_cap_le r
  obtain ⟨h1, h2, h3, h4⟩ := h
  refine b_X2_at hr (fun E => ⟨fun c => ?_, fun _ => ⟨fun c => ?_, fun c => ⟨fun c2 => ?_, fun c2 => ?_⟩⟩⟩)
  · rw [zlt (by omega) (by omega)] at c; omega
  · rw [h2, zle (by omega) (by omega)] at c
    exact ⟨rfl, by rw [if_neg (by omega)]⟩
  · rw [h2, zle (by omega) (by omega)] at c
    rw [zle (by omega) (by omega)] at c2
    omega
  · rw [h2, zle (by omega) (by omega)] at c
    exact ⟨j, rfl, by omega, rfl, by rw [if_pos (by omega), h3 j (by omega)]⟩
theorem s_wipe (h : zRows τ R) (hr : r < 104) : ww_T l g mX2_wipe [.inr (.inr (21, r))] τ (ww_QV (fun τ' => zRows τ' (zup R r []) ∧ zNR τ τ')) := by
  refine b_X2_wipe hr (fun E τ1 e1 => ?_)
  subst e1
  refine ⟨h.set ⟨Nat.zero_le _, ww_up_s _ _ _ _, fun k hk => absurd hk (Nat.not_lt_zero k), fun x hx => absurd hx List.not_mem_nil⟩ (fun n h1 h2 => ww_up_f h1), fun n h1 h2 => ww_up_f (fun e => h1 (by rw [e]))⟩
theorem s_put {a : Nat} (h : zRows τ R) (hr : r < 104) (ha : a < 8) (hc : (R r).length < ww_cap r) : ww_T l g mX2_put [.inr (.inr (21, r)), .inl (nI a)] τ (ww_QV (fun τ' => zRows τ' (zup R r (zpush (R r) a)) ∧ zNR τ τ')) := by
  have hcl := ww_cap_le r
  obtain ⟨h1, h2, h3, h4⟩ := h r hr
  have app : ∀ E : ww_E, ¬ (0 < (R r).length ∧ zat (R r) ((R r).length - 1) = zo a) → ww_W g mX2_put E (ww_QV (fun τ' => zRows τ' (zup R r (zpush (R r) a)) ∧ zNR τ τ')) 48 [some (.inr (.inr (21, r))), some (.inl (nI a))] [] τ := by
    intro E hn
    refine b_X2_put_48 hr ⟨fun c => ?_, fun c => ⟨(R r).length, h2, hc, ?_⟩⟩
    · rw [h2, zle (by omega) (by omega)] at c; omega
    · intro τ2 e2 τ3 e3
      have e4 : τ2 (21, r) 1 = nI (R r).length := by rw [e2, ww_up_n (by simp), h2]
      rw [e4] at e3
      have ho : ∀ n : ww_N, n ≠ (21, r) → n ≠ (22, r) → τ3 n = τ n := fun n n1 n2 => by rw [e3, ww_up_f n1, e2, ww_up_f n2]
      refine ⟨h.set ?_ ho, fun n n1 n2 => ho n (fun e => n1 (by rw [e])) (fun e => n2 (by rw [e]))⟩
      unfold zpush
      rw [if_neg hn]
      refine ⟨by rw [List.length_append]; exact hc, by rw [e3, ww_up_s, List.length_append]; exact zadd _ _, fun k hk => ?_, zok_app h4 (fun x hx => by rw [List.mem_singleton.mp hx]; exact ha)⟩
      rw [List.length_append, List.length_singleton] at hk
      rw [e3, ww_up_n (by simp), e2]
      by_cases hk2 : k = (R r).length
      · subst hk2; rw [ww_up_s, zat_app_e]
      · rw [ww_up_k hk2, zat_app_l (by omega), h3 k (by omega)]
  refine b_X2_put hr (fun E => ⟨fun c => ?_, fun _ => ⟨fun _ => ⟨fun c => ?_, fun c => ?_⟩, fun c => ?_⟩⟩)
  · rw [zlt (by omega) (by omega)] at c; omega
  · rw [h2, zle (by omega) (by omega)] at c
    exact app E (by omega)
  · rw [h2, zle (by omega) (by omega)] at c
    rw [h2, zsub (by omega)]
    refine ⟨_, s_at (h r hr) hr (by omega), ?_⟩
    rintro v2 τ3 ⟨rfl, rfl⟩
    rw [if_pos (by omega)]
    refine ⟨_, s_opp ha, ?_⟩
    rintro v5 τ6 ⟨rfl, rfl⟩
    have hz := zat_lt h4 (show (R r).length - 1 < (R r).length by omega)
    have ho := zo_lt ha
    rw [zeq (by omega) (by omega)]
    refine ⟨fun c2 => app E (fun q => c2 q.2), fun c2 τ7 e7 => ?_⟩
    rw [h2, zsub (by omega)] at e7
    have ho : ∀ n : ww_N, n ≠ (21, r) → n ≠ (22, r) → τ7 n = τ n := fun n n1 n2 => by rw [e7, ww_up_f n1]
    refine ⟨h.set ?_ ho, fun n n1 n2 => ho n (fun e => n1 (by rw [e])) (fun e => n2 (by rw [e]))⟩
    unfold zpush
    rw [if_pos ⟨by omega, c2⟩]
    refine ⟨by rw [List.length_dropLast]; omega, by rw [e7, ww_up_s, List.length_dropLast], fun k hk => ?_, zok_drop h4⟩
    rw [List.length_dropLast] at hk
    rw [e7, ww_up_n (by simp), zat_dropLast hk, h3 k (by omega)]
  · rw [zlt (by omega) (by omega)] at c; omega
theorem s_copy {r1 : Nat} (h : zRows τ R) (hr : r < 104) (hr1 : r1 < 104) (hne : r ≠ r1) (hc : (R r1).length ≤ ww_cap r) : ww_T l g mX2_copy [.inr (.inr (21, r)), .inr (.inr (21, r1))] τ (ww_QV (fun τ' => zRows τ' (zup R r (R r1)) ∧ zNR τ τ')) := by
  have hcl := ww_cap_le r
  have hcl1 := ww_cap_le r1
  obtain ⟨h1, h2, h3, h4⟩ := h r1 hr1
  refine b_X2_copy hr hr1 (fun E => ?_)
  have loop : ∀ (n j : Nat) (σ : ww_M), j + n = (R r1).length → (∀ m, m ≠ (22, r) → σ m = τ m) → (∀ i, i < j → σ (22, r) i = nI (zat (R r1) i)) → ww_W g mX2_copy E (ww_QV (fun τ' => zRows τ' (zup R r (R r1)) ∧ zNR τ τ')) 23 [some (.inr (.inr (21, r))), some (.inr (.inr (21, r1))), some (.inl (nI (R r1).length)), some (.inl (nI j))] [] σ := by
    intro n
    induction n with
    | zero =>
      intro j σ hj ho hi
      refine b_X2_copy_23 hr hr1 ⟨fun c τ1 e1 => ?_, fun c => ?_⟩
      · have hof : ∀ m : ww_N, m ≠ (21, r) → m ≠ (22, r) → τ1 m = τ m := fun m m1 m2 => by rw [e1, ww_up_f m1, ho m m2]
        refine ⟨h.set ⟨hc, by rw [e1, ww_up_s], fun k hk => ?_, h4⟩ hof, fun m m1 m2 => hof m (fun e => m1 (by rw [e])) (fun e => m2 (by rw [e]))⟩
        rw [e1, ww_up_n (by simp), hi k (by omega)]
      · rw [zle (by omega) (by omega)] at c; omega
    | succ n ih =>
      intro j σ hj ho hi
      refine b_X2_copy_23 hr hr1 ⟨fun c => ?_, fun c => ⟨j, rfl, by omega, j, rfl, by omega, fun τ4 e4 => ?_⟩⟩
      · rw [zle (by omega) (by omega)] at c; omega
      · rw [zadd]
        refine ih (j + 1) τ4 (by omega) (fun m hm => by rw [e4, ww_up_f hm, ho m hm]) (fun i hi2 => ?_)
        rw [e4]
        by_cases hij : i = j
        · subst hij
          rw [ww_up_s, ho _ (by simp [Ne.symm hne]), h3 i (by omega)]
        · rw [ww_up_k hij, hi i (by omega)]
  have e : (if (if nI (ww_cap r) < nI (ww_cap r1) then nI (ww_cap r) else nI (ww_cap r1)) < τ (21, r1) 1 then (if nI (ww_cap r) < nI (ww_cap r1) then nI (ww_cap r) else nI (ww_cap r1)) else τ (21, r1) 1) = nI (R r1).length := by
    rw [h2, zmin (by omega) (by omega), zmin (by omega) (by omega)]
    congr 1
    omega
  rw [e]
  exact loop (R r1).length 0 τ (by omega) (fun _ _ => rfl) (fun i hi => absurd hi (Nat.not_lt_zero i))
theorem zdrop_cons {xs : List Nat} {j : Nat} (h : j < xs.length) : xs.drop j = zat xs j :: xs.drop (j + 1) := by
  rw [zat_eq h]; exact List.drop_eq_getElem_cons h
/-- letters of another row, from a to b, put behind a row -/
theorem s_putPart {r1 a b : Nat} (h : zRows τ R) (hr : r < 104) (hr1 : r1 < 104) (hne : r ≠ r1) (hab : a ≤ b) (hb : b ≤ (R r1).length) (hc : (R r).length + (b - a) ≤ ww_cap r) : ww_T l g mX2_putPart [.inr (.inr (21, r)), .inr (.inr (21, r1)), .inl (nI a), .inl (nI b)] τ (ww_QV (fun τ' => zRows τ' (zup R r (zpushs (R r) (((R r1).drop a).take (b - a)))) ∧ zNR τ τ')) := by
  have hcl := ww_cap_le r
  have hcl1 := ww_cap_le r1
  have hlen := (h r1 hr1).1
  refine b_X2_putPart hr hr1 (fun E => ?_)
  have loop : ∀ (n a : Nat) (σ : ww_M) (S : Nat → List Nat), a + n = b → zRows σ S → (∀ q, q ≠ r → S q = R q) → zNR τ σ → (S r).length + n ≤ ww_cap r → zpushs (S r) (((R r1).drop a).take n) = zpushs (R r) (((R r1).drop (b - n - (a - a))).take n) ∨ True → ww_W g mX2_putPart E (ww_QV (fun τ' => zRows τ' (zup S r (zpushs (S r) (((R r1).drop a).take n))) ∧ zNR τ τ')) 3 [some (.inr (.inr (21, r))), some (.inr (.inr (21, r1))), none, some (.inl (nI b)), some (.inl (nI a))] [] σ := by
    intro n
    induction n with
    | zero =>
      intro a σ S ha hS ho hn hl _
      refine b_X2_putPart_3 hr hr1 ⟨fun c => ?_, fun c => ?_⟩
      · rw [List.take_zero, zpushs_nil, zup_id]
        exact ⟨hS, hn⟩
      · rw [zle (by omega) (by omega)] at c; omega
    | succ n ih =>
      intro a σ S ha hS ho hn hl _
      refine b_X2_putPart_3 hr hr1 ⟨fun c => ?_, fun c => ?_⟩
      · rw [zle (by omega) (by omega)] at c; omega
      · have hx := hS r1 hr1
        rw [ho r1 (Ne.symm hne)] at hx
        refine ⟨_, s_at hx hr1 (by omega), ?_⟩
        rintro v2 τ3 ⟨rfl, rfl⟩
        rw [if_pos (by omega)]
        refine ⟨_, s_put hS hr (zat_lt hx.2.2.2 (by omega)) (by omega), ?_⟩
        rintro τ5 ⟨h5, n5⟩
        rw [zadd]
        have := zpush_len (S r) (zat (R r1) a)
        have key := ih (a + 1) τ5 (zup S r (zpush (S r) (zat (R r1) a))) (by omega) h5 (fun q hq => by rw [zup_n hq, ho q hq]) (hn.tr n5) (by rw [zup_s]; omega) (Or.inr trivial)
        rw [zup_up, zup_s] at key
        rw [zdrop_cons (show a < (R r1).length by omega), List.take_succ_cons, zpushs_cons]
        exact key
  have := loop (b - a) a τ R (by omega) h (fun _ _ => rfl) (zNR.rf τ) hc (Or.inr trivial)
  exact this
theorem s_putRow {r1 : Nat} (h : zRows τ R) (hr : r < 104) (hr1 : r1 < 104) (hne : r ≠ r1) (hc : (R r).length + (R r1).length ≤ ww_cap r) : ww_T l g mX2_putRow [.inr (.inr (21, r)), .inr (.inr (21, r1))] τ (ww_QV (fun τ' => zRows τ' (zup R r (zpushs (R r) (R r1))) ∧ zNR τ τ')) := by
  refine b_X2_putRow hr hr1 (fun E => ?_)
  rw [(h r1 hr1).2.1]
  refine ⟨_, s_putPart h hr hr1 hne (Nat.zero_le _) (Nat.le_refl _) (by omega), fun τ2 h2 => ?_⟩
  rw [List.drop_zero, Nat.sub_zero, List.take_length] at h2
  exact h2
theorem zdec (m : Nat) : (nI (m + 1) - nI 1) + (-1 : Int32) = nI m - nI 1 := by
  rw [zsub (by omega), Nat.add_sub_cancel]
  show nI m + (-1 : Int32) = nI m - 1
  rw [Int32.sub_eq_add_neg]
theorem ztake_succ {xs : List Nat} {m : Nat} (h : m < xs.length) : xs.take (m + 1) = xs.take m ++ [zat xs m] := by
  rw [zat_eq h]; exact List.take_succ_eq_append_getElem h
theorem zinv_app (xs ys : List Nat) : zinv (xs ++ ys) = zinv ys ++ zinv xs := by unfold zinv; rw [List.map_append, List.reverse_append]
theorem zinv_len (xs : List Nat) : (zinv xs).length = xs.length := by unfold zinv; rw [List.length_reverse, List.length_map]
theorem zinv_ok {xs : List Nat} (h : zok xs) : zok (zinv xs) := by
  intro x hx
  unfold zinv at hx
  rw [List.mem_reverse, List.mem_map] at hx
  obtain ⟨y, hy, rfl⟩ := hx
  exact zo_lt (h y hy)
theorem s_putInverse {r1 : Nat} (h : zRows τ R) (hr : r < 104) (hr1 : r1 < 104) (hne : r ≠ r1) (hc : (R r).length + (R r1).length ≤ ww_cap r) : ww_T l g mX2_putInverse [.inr (.inr (21, r)), .inr (.inr (21, r1))] τ (ww_QV (fun τ' => zRows τ' (zup R r (zpushs (R r) (zinv (R r1)))) ∧ zNR τ τ')) := by
  have hcl := ww_cap_le r
  have hcl1 := ww_cap_le r1
  have hlen := (h r1 hr1).1
  refine b_X2_putInverse hr hr1 (fun E => ?_)
  have loop : ∀ (m : Nat) (σ : ww_M) (S : Nat → List Nat), m ≤ (R r1).length → zRows σ S → (∀ q, q ≠ r → S q = R q) → zNR τ σ → (S r).length + m ≤ ww_cap r → ww_W g mX2_putInverse E (ww_QV (fun τ' => zRows τ' (zup S r (zpushs (S r) (zinv ((R r1).take m)))) ∧ zNR τ τ')) 7 [some (.inr (.inr (21, r))), some (.inr (.inr (21, r1))), some (.inl (nI m - nI 1))] [] σ := by
    intro m
    induction m with
    | zero =>
      intro σ S hm hS ho hn hl
      refine b_X2_putInverse_7 hr hr1 ⟨fun c => ?_, fun c => absurd (by decide) c⟩
      have : zinv ((R r1).take 0) = [] := by rw [List.take_zero]; rfl
      rw [this, zpushs_nil, zup_id]
      exact ⟨hS, hn⟩
    | succ m ih =>
      intro σ S hm hS ho hn hl
      refine b_X2_putInverse_7 hr hr1 ⟨fun c => ?_, fun c => ?_⟩
      · rw [zsub (by omega), zlt (by omega) (by omega)] at c; omega
      · have hx := hS r1 hr1
        rw [ho r1 (Ne.symm hne)] at hx
        rw [zdec, zsub (by omega), Nat.add_sub_cancel]
        have hz := zat_lt hx.2.2.2 (show m < (R r1).length by omega)
        refine ⟨_, s_at hx hr1 (by omega), ?_⟩
        rintro v2 τ3 ⟨rfl, rfl⟩
        rw [if_pos (by omega)]
        refine ⟨_, s_opp hz, ?_⟩
        rintro v5 τ6 ⟨rfl, rfl⟩
        refine ⟨_, s_put hS hr (zo_lt hz) (by omega), ?_⟩
        rintro τ8 ⟨h8, n8⟩
        have := zpush_len (S r) (zo (zat (R r1) m))
        have key := ih τ8 (zup S r (zpush (S r) (zo (zat (R r1) m)))) (by omega) h8 (fun q hq => by rw [zup_n hq, ho q hq]) (hn.tr n8) (by rw [zup_s]; omega)
        rw [zup_up, zup_s] at key
        rw [ztake_succ (show m < (R r1).length by omega), zinv_app]
        exact key
  rw [(h r1 hr1).2.1]
  have := loop (R r1).length τ R (Nat.le_refl _) h (fun _ _ => rfl) (zNR.rf τ) hc
  rw [List.take_length] at this
  exact this
theorem s_putTurn {r1 a : Nat} (h : zRows τ R) (hr : r < 104) (hr1 : r1 < 104) (hne : r ≠ r1) (ha : a ≤ (R r1).length) (hc : (R r).length + (R r1).length ≤ ww_cap r) : ww_T l g mX2_putTurn [.inr (.inr (21, r)), .inr (.inr (21, r1)), .inl (nI a)] τ (ww_QV (fun τ' => zRows τ' (zup R r (zpushs (R r) ((R r1).drop a ++ (R r1).take a))) ∧ zNR τ τ')) := by
  have hcl := ww_cap_le r
  have hcl1 := ww_cap_le r1
  have hlen := (h r1 hr1).1
  refine b_X2_putTurn hr hr1 (fun E => ?_)
  rw [(h r1 hr1).2.1]
  refine ⟨_, s_putPart h hr hr1 hne ha (Nat.le_refl _) (by omega), ?_⟩
  rintro τ2 ⟨h2, n2⟩
  rw [List.take_of_length_le (by rw [List.length_drop]; exact Nat.le_refl _)] at h2
  have hx := (h2 r1 hr1).2.1
  rw [zup_n (Ne.symm hne)] at hx
  rw [hx, zmin (by omega) (by omega), Nat.min_eq_left ha]
  have hp := zpushs_len (ys := (R r1).drop a) (R r)
  rw [List.length_drop] at hp
  refine ⟨_, s_putPart (a := 0) (b := a) h2 hr hr1 hne (Nat.zero_le _) (by rw [zup_n (Ne.symm hne)]; exact ha) (by rw [zup_s]; omega), ?_⟩
  rintro τ4 ⟨h4, n4⟩
  rw [zup_s, zup_n (Ne.symm hne), zup_up, List.drop_zero, Nat.sub_zero] at h4
  rw [zpushs_app]
  exact ⟨h4, n2.tr n4⟩
/-- how many letters from a place on are as another row begins -/
def zlk (xs ys : List Nat) (i l : Nat) : Nat → Nat
  | 0 => l
  | n + 1 => if zat xs (i + l) = zat ys l then zlk xs ys i (l + 1) n else l
def zlike (xs : List Nat) (i : Nat) (ys : List Nat) : Nat := zlk xs ys i 0 (min (xs.length - i) ys.length)
theorem s_likeFrom {r1 i : Nat} (h : zRows τ R) (hr : r < 104) (hr1 : r1 < 104) (hi : i ≤ (R r).length) : ww_T l g mX2_likeFrom [.inr (.inr (21, r)), .inl (nI i), .inr (.inr (21, r1))] τ (ww_QI (fun v τ' => τ = τ' ∧ v = nI (zlike (R r) i (R r1)))) := by
  have hcl := ww_cap_le r
  have hcl1 := ww_cap_le r1
  have hx := h r hr
  have hy := h r1 hr1
  have hl1 := hx.1
  have hl2 := hy.1
  refine b_X2_likeFrom hr hr1 (fun E => ⟨fun c => ?_, fun c => ?_⟩)
  · rw [hx.2.1, hy.2.1, zsub hi, zmin (by omega) (by omega)]
    have loop : ∀ (n j : Nat), j + n = min ((R r).length - i) (R r1).length → ww_W g mX2_likeFrom E (ww_QI (fun v τ' => τ = τ' ∧ v = nI (zlk (R r) (R r1) i j n))) 23 [some (.inr (.inr (21, r))), some (.inl (nI i)), some (.inr (.inr (21, r1))), some (.inl (nI (min ((R r).length - i) (R r1).length))), some (.inl (nI j))] [] τ := by
      intro n
      induction n with
      | zero =>
        intro j hj
        refine b_X2_likeFrom_23 hr hr1 ⟨fun c => ⟨rfl, rfl⟩, fun c => ?_⟩
        rw [zle (by omega) (by omega)] at c; omega
      | succ n ih =>
        intro j hj
        refine b_X2_likeFrom_23 hr hr1 ⟨fun c => ?_, fun c => ?_⟩
        · rw [zle (by omega) (by omega)] at c; omega
        · rw [zadd, zadd]
          refine ⟨_, s_at hx hr (by omega), ?_⟩
          rintro v2 τ3 ⟨rfl, rfl⟩
          rw [if_pos (by omega)]
          refine ⟨_, s_at hy hr1 (by omega), ?_⟩
          rintro v5 τ6 ⟨rfl, rfl⟩
          rw [if_pos (by omega)]
          have z1 := zat_lt hx.2.2.2 (show i + j < (R r).length by omega)
          have z2 := zat_lt hy.2.2.2 (show j < (R r1).length by omega)
          rw [zeq (by omega) (by omega)]
          refine ⟨fun c2 => ⟨rfl, ?_⟩, fun c2 => ?_⟩
          · rw [zlk, if_neg c2]
          · have := ih (j + 1) (by omega)
            rw [zlk, if_pos c2]
            exact this
    exact loop _ 0 (by omega)
  · rw [zle (by omega) (by omega)] at c; omega
/-- how often a letter is in a row, its opposite less -/
def zsum : List Nat → Nat → Int
  | [], _ => 0
  | x :: xs, a => (if x = a then 1 else if x = zo a then -1 else 0) + zsum xs a
theorem zsum_app (a : Nat) : ∀ xs ys : List Nat, zsum (xs ++ ys) a = zsum xs a + zsum ys a
  | [], ys => by simp [zsum]
  | x :: xs, ys => by rw [List.cons_append, zsum, zsum, zsum_app a xs ys]; omega
theorem zsum_le (a : Nat) : ∀ xs : List Nat, -(xs.length : Int) ≤ zsum xs a ∧ zsum xs a ≤ xs.length
  | [] => by simp [zsum]
  | x :: xs => by
    have := zsum_le a xs
    rw [zsum, List.length_cons]
    split
    · omega
    · split <;> omega
theorem zoi1 (a : Int) : Int32.ofInt a + nI 1 = Int32.ofInt (a + 1) := by rw [Int32.ofInt_add]; rfl
theorem zoi2 (a : Int) : Int32.ofInt a + (-1 : Int32) = Int32.ofInt (a + -1) := by rw [Int32.ofInt_add]; rfl
theorem s_surplusOf {a : Nat} (h : zRows τ R) (hr : r < 104) (ha : a < 8) : ww_T l g mX2_surplusOf [.inr (.inr (21, r)), .inl (nI a)] τ (ww_QI (fun v τ' => τ = τ' ∧ v = Int32.ofInt (zsum (R r) a))) := by
  have hcl := ww_cap_le r
  have hx := h r hr
  have hl1 := hx.1
  have hza := zo_lt ha
  refine b_X2_surplusOf hr (fun E => ?_)
  have loop : ∀ (n j : Nat), j + n = (R r).length → ww_W g mX2_surplusOf E (ww_QI (fun v τ' => τ = τ' ∧ v = Int32.ofInt (zsum (R r) a))) 4 [some (.inr (.inr (21, r))), some (.inl (nI a)), some (.inl (Int32.ofInt (zsum ((R r).take j) a))), some (.inl (nI j))] [] τ := by
    intro n
    induction n with
    | zero =>
      intro j hj
      refine b_X2_surplusOf_4 hr ⟨fun c => ⟨rfl, ?_⟩, fun c => ?_⟩
      · rw [List.take_of_length_le (by omega)]
      · rw [hx.2.1, zle (by omega) (by omega)] at c; omega
    | succ n ih =>
      intro j hj
      refine b_X2_surplusOf_4 hr ⟨fun c => ?_, fun c => ?_⟩
      · rw [hx.2.1, zle (by omega) (by omega)] at c; omega
      · have hz := zat_lt hx.2.2.2 (show j < (R r).length by omega)
        have hs := ih (j + 1) (by omega)
        rw [ztake_succ (show j < (R r).length by omega), zsum_app, zsum, zsum] at hs
        rw [zadd]
        refine ⟨_, s_at hx hr (by omega), ?_⟩
        rintro v2 τ3 ⟨rfl, rfl⟩
        rw [if_pos (by omega), zeq (by omega) (by omega)]
        refine ⟨fun c2 => ?_, fun c2 => ?_⟩
        · refine ⟨_, s_at hx hr (by omega), ?_⟩
          rintro v5 τ6 ⟨rfl, rfl⟩
          rw [if_pos (by omega)]
          refine ⟨_, s_opp ha, ?_⟩
          rintro v8 τ9 ⟨rfl, rfl⟩
          rw [zeq (by omega) (by omega)]
          rw [if_neg c2] at hs
          refine ⟨fun c3 => ?_, fun c3 => ?_⟩
          · rw [if_neg c3] at hs
            simpa using hs
          · rw [if_pos c3] at hs
            rw [zoi2]
            simpa using hs
        · rw [if_pos c2] at hs
          rw [zoi1]
          simpa using hs
  have := loop (R r).length 0 (by omega)
  exact this
/-- the ends are left out as long as they are opposites -/
def zends (xs : List Nat) (e : Nat) : Nat → Nat
  | 0 => e
  | n + 1 => if 2 * e + 1 < xs.length ∧ zat xs e = zo (zat xs (xs.length - 1 - e)) then zends xs (e + 1) n else e
def zring (xs : List Nat) : List Nat := (xs.drop (zends xs 0 (xs.length + 1))).take (xs.length - 2 * zends xs 0 (xs.length + 1))
theorem zends_le {xs : List Nat} : ∀ (n e : Nat), 2 * e ≤ xs.length → 2 * zends xs e n ≤ xs.length
  | 0, e, h => h
  | n + 1, e, h => by
    rw [zends]
    split
    · rename_i hc; exact zends_le n (e + 1) (by omega)
    · exact h
theorem zok_sub {xs ys : List Nat} (h : zok xs) (hs : ∀ y ∈ ys, y ∈ xs) : zok ys := fun y hy => h y (hs y hy)
theorem zring_ok {xs : List Nat} (h : zok xs) : zok (zring xs) := zok_sub h (fun y hy => List.mem_of_mem_drop (List.mem_of_mem_take hy))
theorem zring_len (xs : List Nat) : (zring xs).length = xs.length - 2 * zends xs 0 (xs.length + 1) := by
  have := zends_le (xs := xs) (xs.length + 1) 0 (by omega)
  unfold zring
  rw [List.length_take, List.length_drop]
  omega
theorem zat_drop (xs : List Nat) (e k : Nat) : zat (xs.drop e) k = zat xs (e + k) := by
  unfold zat; rw [List.getD_eq_getElem?_getD, List.getD_eq_getElem?_getD, List.getElem?_drop]
theorem zat_take {xs : List Nat} {n k : Nat} (h : k < n) : zat (xs.take n) k = zat xs k := by
  unfold zat; rw [List.getD_eq_getElem?_getD, List.getD_eq_getElem?_getD, List.getElem?_take_of_lt h]
theorem s_cutToRing (h : zRows τ R) (hr : r < 104) : ww_T l g mX2_cutToRing [.inr (.inr (21, r))] τ (ww_QV (fun τ' => zRows τ' (zup R r (zring (R r))) ∧ zNR τ τ')) := by
  have hcl := ww_cap_le r
  have hx := h r hr
  obtain ⟨h1, h2, h3, h4⟩ := id hx
  refine b_X2_cutToRing hr (fun E => ?_)
  generalize hQ : (ww_QV (fun τ' => zRows τ' (zup R r (zring (R r))) ∧ zNR τ τ')) = Q
  have fin : ∀ e, 2 * e ≤ (R r).length → e = zends (R r) 0 ((R r).length + 1) → ∀ (n j : Nat) (σ : ww_M), j + n = (R r).length - 2 * e → (∀ m, m ≠ (22, r) → σ m = τ m) → (∀ i, i < j → σ (22, r) i = nI (zat (R r) (e + i))) → (∀ i, j ≤ i → σ (22, r) i = τ (22, r) i) → ww_W g mX2_cutToRing E Q 54 [some (.inr (.inr (21, r))), some (.inl (nI e)), some (.inl (nI ((R r).length - 2 * e))), some (.inl (nI j))] [] σ := by
    intro e he hee n
    induction n with
    | zero =>
      intro j σ hj ho hi hk
      subst hQ
      have done : ∀ τ1 : ww_M, τ1 = ww_up σ (21, r) 1 (nI ((R r).length - 2 * e)) → zRows τ1 (zup R r (zring (R r))) ∧ zNR τ τ1 := by
        intro τ1 e1
        have hof : ∀ m : ww_N, m ≠ (21, r) → m ≠ (22, r) → τ1 m = τ m := fun m m1 m2 => by rw [e1, ww_up_f m1, ho m m2]
        refine ⟨h.set ⟨by rw [zring_len]; omega, by rw [e1, ww_up_s, zring_len, ← hee], fun k hk => ?_, zring_ok h4⟩ hof, fun m m1 m2 => hof m (fun q => m1 (by rw [q])) (fun q => m2 (by rw [q]))⟩
        rw [zring_len, ← hee] at hk
        rw [e1, ww_up_n (by simp), hi k (by omega)]
        unfold zring
        rw [← hee, zat_take hk, zat_drop]
      refine b_X2_cutToRing_54 hr ⟨fun c => done, fun c => ?_⟩
      rw [zle (by omega) (by omega)] at c; omega
    | succ n ih =>
      intro j σ hj ho hi hk
      have key : ∀ τ5 : ww_M, τ5 = ww_up σ (22, r) j (σ (22, r) (j + e)) → ww_W g mX2_cutToRing E Q 54 [some (.inr (.inr (21, r))), some (.inl (nI e)), some (.inl (nI ((R r).length - 2 * e))), some (.inl (nI j + nI 1))] [] τ5 := by
        intro τ5 e5
        rw [zadd]
        refine ih (j + 1) τ5 (by omega) (fun m hm => by rw [e5, ww_up_f hm, ho m hm]) (fun i hi2 => ?_) (fun i hi2 => ?_)
        · rw [e5]
          by_cases hij : i = j
          · subst hij
            rw [ww_up_s, hk _ (by omega), h3 _ (by omega), Nat.add_comm]
          · rw [ww_up_k hij, hi i (by omega)]
        · rw [e5, ww_up_k (by omega), hk i (by omega)]
      subst hQ
      refine b_X2_cutToRing_54 hr ⟨fun c => ?_, fun c => ⟨fun c2 => ?_, fun c2 => ⟨j + e, zadd _ _, by omega, j, rfl, by omega, key⟩⟩⟩
      · rw [zle (by omega) (by omega)] at c; omega
      · rw [zadd, zle (by omega) (by omega)] at c2; omega
  have loop : ∀ (n e : Nat), 2 * e ≤ (R r).length → (R r).length < e + n → zends (R r) e n = zends (R r) 0 ((R r).length + 1) → ww_W g mX2_cutToRing E Q 2 [some (.inr (.inr (21, r))), some (.inl (nI e)), none, none] [] τ := by
    intro n
    induction n with
    | zero => intro e he hn; omega
    | succ n ih =>
      intro e he hn hz
      have stop : ¬ (2 * e + 1 < (R r).length ∧ zat (R r) e = zo (zat (R r) ((R r).length - 1 - e))) → ww_W g mX2_cutToRing E Q 54 [some (.inr (.inr (21, r))), some (.inl (nI e)), some (.inl (nI (R r).length - nI 2 * nI e)), some (.inl (nI 0))] [] τ := by
        intro hn2
        rw [zends, if_neg hn2] at hz
        rw [zmul, zsub (by omega)]
        exact fin e he hz ((R r).length - 2 * e) 0 τ (by omega) (fun _ _ => rfl) (fun i hi => absurd hi (Nat.not_lt_zero i)) (fun _ _ => rfl)
      subst hQ
      refine b_X2_cutToRing_2 hr ⟨fun c => ?_, fun c => ?_⟩
      · rw [h2] at c ⊢
        refine stop (fun q => ?_)
        rw [zmul, zadd, zle (by omega) (by omega)] at c; omega
      · rw [h2, zmul, zadd, zle (by omega) (by omega)] at c
        refine ⟨_, s_at hx hr (by omega), ?_⟩
        rintro v2 τ3 ⟨rfl, rfl⟩
        rw [if_pos (by omega), h2, zsub (by omega), zsub (by omega)]
        refine ⟨_, s_at hx hr (by omega), ?_⟩
        rintro v5 τ6 ⟨rfl, rfl⟩
        rw [if_pos (by omega)]
        have z1 := zat_lt h4 (show e < (R r).length by omega)
        have z2 := zat_lt h4 (show (R r).length - 1 - e < (R r).length by omega)
        have z3 := zo_lt z2
        refine ⟨_, s_opp z2, ?_⟩
        rintro v8 τ9 ⟨rfl, rfl⟩
        rw [zeq (by omega) (by omega), zadd]
        refine ⟨fun c2 => by rw [h2]; exact stop (fun q => c2 q.2), fun c2 => ih (e + 1) (by omega) (by omega) ?_⟩
        rw [zends, if_pos ⟨by omega, c2⟩] at hz
        exact hz
  exact loop ((R r).length + 1) 0 (by omega) (by omega) rfl
end ROWS
