/-! ===== members: pure part ===== -/
theorem zlk_le (xs ys : List Nat) (i : Nat) : ∀ n l, l ≤ zlk xs ys i l n ∧ zlk xs ys i l n ≤ l + n
  | 0, l => by rw [zlk]; omega
  | n + 1, l => by
    rw [zlk]
    split
    · have := zlk_le xs ys i n (l + 1); omega
    · omega
theorem zlk_eq (xs ys : List Nat) (i : Nat) : ∀ n l k, l ≤ k → k < zlk xs ys i l n → zat xs (i + k) = zat ys k
  | 0, l, k, h1, h2 => by rw [zlk] at h2; omega
  | n + 1, l, k, h1, h2 => by
    rw [zlk] at h2
    split at h2
    · rename_i hc
      by_cases e : k = l
      · subst e; exact hc
      · exact zlk_eq xs ys i n (l + 1) k (by omega) h2
    · omega
theorem zlk_stop (xs ys : List Nat) (i : Nat) : ∀ n l, zlk xs ys i l n < l + n → zat xs (i + zlk xs ys i l n) ≠ zat ys (zlk xs ys i l n)
  | 0, l, h => by rw [zlk] at h; omega
  | n + 1, l, h => by
    rw [zlk] at h ⊢
    split
    · rename_i hc
      rw [if_pos hc] at h
      exact zlk_stop xs ys i n (l + 1) (by omega)
    · rename_i hc; exact hc
theorem zlike_le (xs : List Nat) (i : Nat) (ys : List Nat) : zlike xs i ys ≤ xs.length - i ∧ zlike xs i ys ≤ ys.length := by
  have := zlk_le xs ys i (min (xs.length - i) ys.length) 0
  unfold zlike; omega
theorem zlike_eq {xs ys : List Nat} {i k : Nat} (h : k < zlike xs i ys) : zat xs (i + k) = zat ys k := zlk_eq xs ys i _ 0 k (Nat.zero_le _) h
theorem zlike_stop {xs ys : List Nat} {i : Nat} (h1 : zlike xs i ys < xs.length - i) (h2 : zlike xs i ys < ys.length) : zat xs (i + zlike xs i ys) ≠ zat ys (zlike xs i ys) := zlk_stop xs ys i _ 0 (by unfold zlike at h1 h2; omega)
/-- the greatest length with which they go along -/
theorem zlike_ge {xs ys : List Nat} {i n : Nat} (h1 : n ≤ xs.length - i) (h2 : n ≤ ys.length) (h : ∀ k, k < n → zat xs (i + k) = zat ys k) : n ≤ zlike xs i ys := by
  rcases Nat.lt_or_ge (zlike xs i ys) n with q | q
  · exact absurd (h _ q) (zlike_stop (by omega) (by omega))
  · exact q
theorem zlike_sym (xs ys : List Nat) : zlike xs 0 ys = zlike ys 0 xs := by
  have a := zlike_le xs 0 ys
  have b := zlike_le ys 0 xs
  apply Nat.le_antisymm
  · exact zlike_ge (by omega) (by omega) (fun k hk => by have := zlike_eq hk; rw [Nat.zero_add] at this ⊢; exact this.symm)
  · exact zlike_ge (by omega) (by omega) (fun k hk => by have := zlike_eq hk; rw [Nat.zero_add] at this ⊢; exact this.symm)
theorem zat_ext {xs ys : List Nat} (hl : xs.length = ys.length) (h : ∀ k, k < xs.length → zat xs k = zat ys k) : xs = ys := by
  apply List.ext_getElem hl
  intro k h1 h2
  rw [← zat_eq h1, ← zat_eq h2]
  exact h k h1
theorem zlike_full {xs ys : List Nat} (hl : xs.length = ys.length) : zlike xs 0 ys = xs.length ↔ xs = ys := by
  constructor
  · intro h
    exact zat_ext hl (fun k hk => by have := zlike_eq (xs := xs) (ys := ys) (i := 0) (k := k) (by omega); rw [Nat.zero_add] at this; exact this)
  · intro h
    subst h
    apply Nat.le_antisymm (zlike_le xs 0 xs).2
    exact zlike_ge (by omega) (Nat.le_refl _) (fun k _ => by rw [Nat.zero_add])
def zm (mem : List (List Nat)) (m : Nat) : List Nat := mem.getD m []
theorem zm_eq {mem : List (List Nat)} {m : Nat} (h : m < mem.length) : zm mem m = mem[m] := by
  unfold zm; rw [List.getD_eq_getElem?_getD, List.getElem?_eq_getElem h]; rfl
theorem zm_app_l {mem : List (List Nat)} {x : List (List Nat)} {m : Nat} (h : m < mem.length) : zm (mem ++ x) m = zm mem m := by
  unfold zm; rw [List.getD_eq_getElem?_getD, List.getD_eq_getElem?_getD, List.getElem?_append_left h]
theorem zm_app_e (mem : List (List Nat)) (x : List Nat) : zm (mem ++ [x]) mem.length = x := by
  unfold zm; rw [List.getD_eq_getElem?_getD, List.getElem?_append_right (Nat.le_refl _), Nat.sub_self]; rfl
/-- the members that begin with a letter, by their numbers rising -/
def zst (mem : List (List Nat)) (a : Nat) : Nat → List Nat
  | 0 => []
  | n + 1 => if zat (zm mem n) 0 = a then zst mem a n ++ [n] else zst mem a n
theorem zst_len (mem : List (List Nat)) (a : Nat) : ∀ n, (zst mem a n).length ≤ n
  | 0 => Nat.le_refl _
  | n + 1 => by
    have := zst_len mem a n
    rw [zst]; split
    · rw [List.length_append, List.length_singleton]; omega
    · omega
theorem zst_congr {mem mem' : List (List Nat)} (a : Nat) : ∀ n, (∀ m, m < n → zm mem m = zm mem' m) → zst mem a n = zst mem' a n
  | 0, _ => rfl
  | n + 1, h => by rw [zst, zst, zst_congr a n (fun m hm => h m (by omega)), h n (by omega)]
def zshort (mem : List (List Nat)) : Nat := mem.foldl (fun a x => min a x.length) 14
theorem zshort_app (mem : List (List Nat)) (x : List Nat) : zshort (mem ++ [x]) = min (zshort mem) x.length := by unfold zshort; rw [List.foldl_append]; rfl
theorem zfold_min : ∀ (mem : List (List Nat)) (a : Nat), mem.foldl (fun a x => min a x.length) a ≤ a ∧ ∀ x ∈ mem, mem.foldl (fun a x => min a x.length) a ≤ x.length
  | [], a => ⟨Nat.le_refl _, fun x hx => absurd hx List.not_mem_nil⟩
  | y :: ys, a => by
    have := zfold_min ys (min a y.length)
    refine ⟨by rw [List.foldl_cons]; omega, fun x hx => ?_⟩
    rw [List.foldl_cons]
    rcases List.mem_cons.mp hx with rfl | hx
    · omega
    · exact this.2 x hx
theorem zshort_le {mem : List (List Nat)} : zshort mem ≤ 14 ∧ ∀ x ∈ mem, zshort mem ≤ x.length := zfold_min mem 14
/-- the greatest of f 0 .. f (n - 1), 0 if there is none -/
def zgr (f : Nat → Nat) : Nat → Nat
  | 0 => 0
  | n + 1 => max (zgr f n) (f n)
theorem zgr_ge {f : Nat → Nat} : ∀ {n k : Nat}, k < n → f k ≤ zgr f n
  | 0, k, h => absurd h (Nat.not_lt_zero k)
  | n + 1, k, h => by
    rw [zgr]
    by_cases e : k = n
    · subst e; omega
    · have := zgr_ge (f := f) (show k < n by omega); omega
theorem zgr_at {f : Nat → Nat} : ∀ {n : Nat}, zgr f n = 0 ∨ ∃ k, k < n ∧ f k = zgr f n
  | 0 => Or.inl rfl
  | n + 1 => by
    rw [zgr]
    rcases zgr_at (f := f) (n := n) with h | ⟨k, h1, h2⟩
    · rw [h]
      by_cases e : f n = 0
      · rw [e]; exact Or.inl rfl
      · exact Or.inr ⟨n, by omega, by omega⟩
    · rcases Nat.le_total (zgr f n) (f n) with q | q
      · exact Or.inr ⟨n, by omega, by omega⟩
      · exact Or.inr ⟨k, by omega, by omega⟩
theorem zgr_le {f : Nat → Nat} {b : Nat} : ∀ {n : Nat}, (∀ k, k < n → f k ≤ b) → zgr f n ≤ b
  | 0, _ => Nat.zero_le _
  | n + 1, h => by
    have := zgr_le (f := f) (n := n) (fun k hk => h k (by omega))
    have := h n (by omega)
    rw [zgr]; omega
theorem zgr_congr {f f' : Nat → Nat} : ∀ {n : Nat}, (∀ k, k < n → f k = f' k) → zgr f n = zgr f' n
  | 0, _ => rfl
  | n + 1, h => by rw [zgr, zgr, zgr_congr (fun k hk => h k (by omega)), h n (by omega)]
/-- how long a member begins like one ahead of it, at most -/
def zahead (mem : List (List Nat)) (m : Nat) : Nat := zgr (fun o => zlike (zm mem o) 0 (zm mem m)) m
/-! ===== what the class holds of them ===== -/
def zMem (τ : ww_M) (R : Nat → List Nat) (mem : List (List Nat)) : Prop := mem.length ≤ 84 ∧ τ (8, 0) 6 = nI mem.length ∧ ∀ m, m < mem.length → R (20 + m) = zm mem m
def zStt (τ : ww_M) (mem : List (List Nat)) : Prop := ∀ a, a < 8 → τ (17, 0) a = nI (zst mem a mem.length).length ∧ ∀ k, k < (zst mem a mem.length).length → τ (16, a) k = nI (zat (zst mem a mem.length) k)
section MEMB
variable {l : Launch} {g : ww_G} {τ : ww_M} {R : Nat → List Nat} {mem : List (List Nat)}
theorem s_has {a : Int32} (h : zMem τ R mem) : ww_T l g mX0_has [.inr (.inr (8, 0)), .inl a] τ (ww_QI (fun v τ' => τ = τ' ∧ (((∃ m, m < mem.length ∧ a = nI m) ∧ v = nI 1) ∨ ((¬ ∃ m, m < mem.length ∧ a = nI m) ∧ v = nI 0)))) := by
  obtain ⟨h1, h2, h3⟩ := h
  refine b_X0_has (fun E => ⟨fun c => ⟨rfl, Or.inr ⟨?_, rfl⟩⟩, fun c => ⟨fun c2 => ⟨rfl, Or.inr ⟨?_, rfl⟩⟩, fun c2 => ⟨rfl, Or.inl ⟨?_, rfl⟩⟩⟩⟩)
  · rintro ⟨m, hm, rfl⟩
    rw [zlt (by omega) (by omega)] at c; omega
  · rintro ⟨m, hm, rfl⟩
    rw [h2, zle (by omega) (by omega)] at c2; omega
  · obtain ⟨m, hm, rfl⟩ := nI_of c
    rw [h2, zle (by omega) (by omega)] at c2
    exact ⟨m, by omega, rfl⟩
theorem zMem.row {m : Nat} (h : zMem τ R mem) (hR : zRows τ R) (hm : m < mem.length) : zRow τ (20 + m) (zm mem m) := by
  have := hR (20 + m) (by have := h.1; omega)
  rw [h.2.2 m hm] at this
  exact this
theorem zMem.len {m : Nat} (h : zMem τ R mem) (hR : zRows τ R) (hm : m < mem.length) : (zm mem m).length ≤ 14 := by
  have := (h.row hR hm).1
  have hc : ww_cap (20 + m) = 14 := by unfold ww_cap; rw [if_neg (by omega), if_neg (by omega), if_neg (by omega), if_neg (by omega)]
  omega
theorem s_sizeOf {m : Nat} (h : zMem τ R mem) (hR : zRows τ R) (hm : m < mem.length) : ww_T l g mX0_sizeOf [.inr (.inr (8, 0)), .inl (nI m)] τ (ww_QI (fun v τ' => τ = τ' ∧ v = nI (zm mem m).length)) := by
  refine b_X0_sizeOf (fun E => ⟨_, s_has h, ?_⟩)
  rintro v2 τ3 ⟨rfl, ⟨-, rfl⟩ | ⟨q, -⟩⟩
  · exact ⟨fun c => absurd c (by decide), fun _ => ⟨m, rfl, by have := h.1; omega, rfl, (h.row hR hm).2.1⟩⟩
  · exact absurd ⟨m, hm, rfl⟩ q
theorem s_letterOf {m k : Nat} (h : zMem τ R mem) (hR : zRows τ R) (hm : m < mem.length) (hk : k < 2147483648) : ww_T l g mX0_letterOf [.inr (.inr (8, 0)), .inl (nI m), .inl (nI k)] τ (ww_QI (fun v τ' => τ = τ' ∧ v = if k < (zm mem m).length then nI (zat (zm mem m) k) else (-1 : Int32))) := by
  have h84 := h.1
  refine b_X0_letterOf (fun E => ⟨_, s_has h, ?_⟩)
  rintro v2 τ3 ⟨rfl, ⟨-, rfl⟩ | ⟨q, -⟩⟩
  · refine ⟨fun c => absurd c (by decide), fun _ => ⟨m, rfl, by omega, _, s_at (h.row hR hm) (by omega) hk, ?_⟩⟩
    rintro v6 τ7 ⟨rfl, rfl⟩
    exact ⟨rfl, rfl⟩
  · exact absurd ⟨m, hm, rfl⟩ q
theorem s_sharedStart {m o : Nat} (h : zMem τ R mem) (hR : zRows τ R) (hm : m < mem.length) (ho : o < mem.length) : ww_T l g mX0_sharedStart [.inr (.inr (8, 0)), .inl (nI m), .inl (nI o)] τ (ww_QI (fun v τ' => τ = τ' ∧ v = nI (zlike (zm mem m) 0 (zm mem o)))) := by
  have h84 := h.1
  refine b_X0_sharedStart (fun E => ⟨_, s_has h, ?_⟩)
  rintro v2 τ3 ⟨rfl, ⟨-, rfl⟩ | ⟨q, -⟩⟩
  · refine ⟨fun c => absurd c (by decide), fun _ => ⟨_, s_has h, ?_⟩⟩
    rintro v5 τ6 ⟨rfl, ⟨-, rfl⟩ | ⟨q, -⟩⟩
    · refine ⟨fun c => absurd c (by decide), fun _ => ⟨m, rfl, by omega, o, rfl, by omega, _, s_likeFrom (i := 0) hR (by omega) (by omega) (Nat.zero_le _), ?_⟩⟩
      rintro v10 τ11 ⟨rfl, rfl⟩
      rw [h.2.2 m hm, h.2.2 o ho]
      exact ⟨rfl, rfl⟩
    · exact absurd ⟨o, ho, rfl⟩ q
  · exact absurd ⟨m, hm, rfl⟩ q
theorem s_matchAt {r i m : Nat} (h : zMem τ R mem) (hR : zRows τ R) (hm : m < mem.length) (hr : r < 104) (hi : i ≤ (R r).length) : ww_T l g mX0_matchAt [.inr (.inr (8, 0)), .inr (.inr (21, r)), .inl (nI i), .inl (nI m)] τ (ww_QI (fun v τ' => τ = τ' ∧ v = nI (zlike (R r) i (zm mem m)))) := by
  have h84 := h.1
  refine b_X0_matchAt hr (fun E => ⟨_, s_has h, ?_⟩)
  rintro v2 τ3 ⟨rfl, ⟨-, rfl⟩ | ⟨q, -⟩⟩
  · refine ⟨fun c => absurd c (by decide), fun _ => ⟨m, rfl, by omega, _, s_likeFrom hR hr (by omega) hi, ?_⟩⟩
    rintro v6 τ7 ⟨rfl, rfl⟩
    rw [h.2.2 m hm]
    exact ⟨rfl, rfl⟩
  · exact absurd ⟨m, hm, rfl⟩ q
theorem s_beginsFresh {m z : Nat} (h : zMem τ R mem) (hR : zRows τ R) (hm : m < mem.length) (hz : z < 100) (hA : ∀ m, m < mem.length → τ (14, 0) m = nI (zahead mem m)) : ww_T l g mX0_beginsFresh [.inr (.inr (8, 0)), .inl (nI m), .inl (nI z)] τ (ww_QI (fun v τ' => τ = τ' ∧ ((z ≤ (zm mem m).length ∧ zahead mem m < z ∧ v = nI 1) ∨ (¬ (z ≤ (zm mem m).length ∧ zahead mem m < z) ∧ v = nI 0)))) := by
  have hl := h.len hR hm
  have ha : zahead mem m ≤ 14 := zgr_le (fun o ho => by have := (zlike_le (zm mem o) 0 (zm mem m)).2; omega)
  refine b_X0_beginsFresh (fun E => ⟨_, s_sizeOf h hR hm, ?_⟩)
  rintro v2 τ3 ⟨rfl, rfl⟩
  rw [zlt (by omega) (by omega)]
  refine ⟨fun c => ⟨rfl, Or.inr ⟨by omega, rfl⟩⟩, fun c => ⟨_, s_has h, ?_⟩⟩
  rintro v5 τ6 ⟨rfl, ⟨-, rfl⟩ | ⟨q, -⟩⟩
  · refine ⟨fun c => absurd c (by decide), fun _ => ⟨m, rfl, by have := h.1; omega, ?_⟩⟩
    rw [hA m hm, zle (by omega) (by omega)]
    exact ⟨fun c2 => ⟨rfl, Or.inr ⟨by omega, rfl⟩⟩, fun c2 => ⟨rfl, Or.inl ⟨by omega, by omega, rfl⟩⟩⟩
  · exact absurd ⟨m, hm, rfl⟩ q
theorem s_startersWith {a : Nat} (h : zStt τ mem) (ha : a < 8) : ww_T l g mX0_startersWith [.inr (.inr (8, 0)), .inl (nI a)] τ (ww_QI (fun v τ' => τ = τ' ∧ v = nI (zst mem a mem.length).length)) := by
  refine b_X0_startersWith (fun E => ⟨fun c => ?_, fun _ => ⟨fun c => ?_, fun _ => ⟨a, rfl, ha, rfl, (h a ha).1⟩⟩⟩)
  · rw [zlt (by omega) (by omega)] at c; omega
  · rw [zle (by omega) (by omega)] at c; omega
theorem s_starter {a k : Nat} (h : zStt τ mem) (ha : a < 8) (h84 : mem.length ≤ 84) (hk : k < (zst mem a mem.length).length) : ww_T l g mX0_starter [.inr (.inr (8, 0)), .inl (nI a), .inl (nI k)] τ (ww_QI (fun v τ' => τ = τ' ∧ v = nI (zat (zst mem a mem.length) k))) := by
  have hl := zst_len mem a mem.length
  refine b_X0_starter (fun E => ⟨fun c => ?_, fun _ => ⟨_, s_startersWith h ha, ?_⟩⟩)
  · rw [zlt (by omega) (by omega)] at c; omega
  · rintro v2 τ3 ⟨rfl, rfl⟩
    rw [zle (by omega) (by omega)]
    exact ⟨fun c => by omega, fun _ => ⟨a, rfl, ha, k, rfl, by omega, rfl, (h a ha).2 k hk⟩⟩
/-- whether n times each relator's piece is below its length -/
def zgood (rels : List (List Nat)) (pc : Nat → Nat) (n : Nat) : Nat → Bool
  | 0 => true
  | r + 1 => zgood rels pc n r && decide (n * pc r < (zm rels r).length)
def zRel (τ : ww_M) (R : Nat → List Nat) (rels : List (List Nat)) : Prop := rels.length ≤ 3 ∧ τ (8, 0) 1 = nI rels.length ∧ ∀ r, r < rels.length → R (12 + r) = zm rels r
theorem zgood_false {rels : List (List Nat)} {pc : Nat → Nat} {n : Nat} : ∀ {k r : Nat}, r < k → ¬ n * pc r < (zm rels r).length → zgood rels pc n k = false
  | 0, r, h, _ => absurd h (Nat.not_lt_zero r)
  | k + 1, r, h, h2 => by
    rw [zgood]
    by_cases e : r = k
    · subst e; simp [h2]
    · rw [zgood_false (show r < k by omega) h2]; rfl
theorem s_areGood {rels : List (List Nat)} {pc : Nat → Nat} {n : Nat} (h : zRel τ R rels) (hR : zRows τ R) (hn : n < 100) (hp : ∀ r, r < rels.length → τ (10, 0) r = nI (pc r) ∧ pc r < 100) : ww_T l g mX0_areGood [.inr (.inr (8, 0)), .inl (nI n)] τ (ww_QI (fun v τ' => τ = τ' ∧ v = zb (zgood rels pc n rels.length))) := by
  obtain ⟨h1, h2, h3⟩ := h
  refine b_X0_areGood (fun E => ?_)
  have loop : ∀ (k r : Nat), r + k = rels.length → zgood rels pc n r = true → ww_W g mX0_areGood E (ww_QI (fun v τ' => τ = τ' ∧ v = zb (zgood rels pc n rels.length))) 2 [some (.inr (.inr (8, 0))), some (.inl (nI n)), some (.inl (nI r))] [] τ := by
    intro k
    induction k with
    | zero =>
      intro r hr hg
      refine b_X0_areGood_2 ⟨fun c => ⟨rfl, ?_⟩, fun c => ?_⟩
      · rw [show rels.length = r by omega, hg]; rfl
      · rw [h2, zle (by omega) (by omega)] at c; omega
    | succ k ih =>
      intro r hr hg
      have hrow := hR (12 + r) (by omega)
      rw [h3 r (by omega)] at hrow
      have hc := ww_cap_le (12 + r)
      have hl := hrow.1
      obtain ⟨p1, p2⟩ := hp r (by omega)
      have hmul : n * pc r < 10000 := Nat.lt_of_le_of_lt (Nat.mul_le_mul (show n ≤ 99 by omega) (show pc r ≤ 99 by omega)) (by decide)
      refine b_X0_areGood_2 ⟨fun c => ?_, fun c => ⟨r, rfl, by omega, r, rfl, by omega, ?_⟩⟩
      · rw [h2, zle (by omega) (by omega)] at c; omega
      · rw [p1, hrow.2.1, zmul, zlt (by omega) (by omega), zadd]
        refine ⟨fun c2 => ih (r + 1) (by omega) ?_, fun c2 => ⟨rfl, ?_⟩⟩
        · rw [zgood, hg]; simp [c2]
        · rw [zgood_false (show r < rels.length by omega) c2]; rfl
  exact loop rels.length 0 (by omega) rfl
end MEMB
