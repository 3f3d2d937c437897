/-! ===== reduced words ===== -/
def zred (xs : List Nat) : Prop := ∀ k, k + 1 < xs.length → zat xs (k + 1) ≠ zo (zat xs k)
theorem zred_nil : zred [] := fun k h => by simp at h
theorem zred_take {xs : List Nat} (h : zred xs) (n : Nat) : zred (xs.take n) := by
  intro k hk
  rw [List.length_take] at hk
  rw [zat_take (by omega), zat_take (by omega)]
  exact h k (by omega)
theorem zred_dropLast {xs : List Nat} (h : zred xs) : zred xs.dropLast := by
  intro k hk
  rw [List.length_dropLast] at hk
  rw [zat_dropLast (by omega), zat_dropLast (by omega)]
  exact h k (by omega)
theorem zred_push {xs : List Nat} {l : Nat} (h : zred xs) (ho : zok xs) (hl : l < 8) : zred (zpush xs l) := by
  unfold zpush
  split
  · exact zred_dropLast h
  · rename_i hn
    intro k hk
    rw [List.length_append, List.length_singleton] at hk
    by_cases e : k + 1 = xs.length
    · rw [e, zat_app_e, zat_app_l (by omega)]
      intro q
      apply hn
      refine ⟨by omega, ?_⟩
      rw [show xs.length - 1 = k by omega, q, zo_zo (zat_lt ho (by omega))]
    · rw [zat_app_l (by omega), zat_app_l (by omega)]
      exact h k (by omega)
theorem zred_pushs {ys : List Nat} : ∀ {xs : List Nat}, zred xs → zok xs → zok ys → zred (zpushs xs ys) := by
  induction ys with
  | nil => intro xs h _ _; exact h
  | cons y ys ih =>
    intro xs h ho h2
    have hy := h2 y List.mem_cons_self
    exact ih (zred_push h ho hy) (zok_push ho hy) (fun x hx => h2 x (List.mem_cons_of_mem _ hx))
theorem zpush_take {xs : List Nat} (h : zred xs) (ho : zok xs) {k : Nat} (hk : k < xs.length) : zpush (xs.take k) (zat xs k) = xs.take (k + 1) := by
  unfold zpush
  rw [if_neg, ztake_succ hk]
  rintro ⟨h1, h2⟩
  rw [List.length_take] at h1 h2
  rw [zat_take (by omega), show min k xs.length - 1 = k - 1 by omega] at h2
  have := h (k - 1) (by omega)
  rw [show k - 1 + 1 = k by omega] at this
  apply this
  rw [h2, zo_zo (zat_lt ho hk)]
theorem zpushs_self {xs : List Nat} (h : zred xs) (ho : zok xs) : ∀ k, k ≤ xs.length → zpushs [] (xs.take k) = xs.take k
  | 0, _ => rfl
  | k + 1, hk => by
    rw [ztake_succ (show k < xs.length by omega), zpushs_app, zpushs_self h ho k (by omega)]
    show zpush (xs.take k) (zat xs k) = _
    rw [zpush_take h ho (by omega), ztake_succ (by omega)]
theorem zpushs_all {xs : List Nat} (h : zred xs) (ho : zok xs) : zpushs [] xs = xs := by
  have := zpushs_self h ho xs.length (Nat.le_refl _)
  rw [List.take_length] at this
  exact this
/-! ===== cuts ===== -/
abbrev zB : Type := Option (Nat × Nat × Nat)
def zbet (mem : List (List Nat)) (kd : Nat) (q : Nat × Nat × Nat) (i m l : Nat) : Bool :=
  if kd = 1 then decide (q.1 < i) || (decide (i = q.1) && decide (q.2.2 < l))
  else if kd = 2 then decide (2 * q.2.2 - (zm mem q.2.1).length < 2 * l - (zm mem m).length)
  else if kd = 3 then decide (2 * l - (zm mem m).length < 2 * q.2.2 - (zm mem q.2.1).length)
  else if kd = 4 then decide (q.2.2 < l)
  else decide (i = q.1) && decide (q.2.2 < l)
def znew (mem : List (List Nat)) (kd : Nat) (b : zB) (i m l : Nat) : zB := match b with
  | none => some (i, m, l)
  | some q => if zbet mem kd q i m l = true then some (i, m, l) else some q
def zcs (mem : List (List Nat)) (w : List Nat) (kd i m : Nat) (s : Nat × zB) : Nat × zB := if (zm mem m).length < 2 * zlike w i (zm mem m) then (s.1 + 1, znew mem kd s.2 i m (zlike w i (zm mem m))) else s
def zrow1 (mem : List (List Nat)) (w : List Nat) (kd i : Nat) : Nat → Nat × zB → Nat × zB
  | 0, s => s
  | n + 1, s => zcs mem w kd i n (zrow1 mem w kd i n s)
def zscan (mem : List (List Nat)) (w : List Nat) (kd : Nat) : Nat → Nat × zB
  | 0 => (0, none)
  | n + 1 => zrow1 mem w kd n mem.length (zscan mem w kd n)
def zcut (mem : List (List Nat)) (w : List Nat) (q : Nat × Nat × Nat) : List Nat := zpushs (w.take q.1) (zinv ((zm mem q.2.1).drop q.2.2) ++ w.drop (q.1 + q.2.2))
/-- a best cut is a cut -/
def zIs (mem : List (List Nat)) (w : List Nat) (q : Nat × Nat × Nat) : Prop := q.1 < w.length ∧ q.2.1 < mem.length ∧ q.2.2 = zlike w q.1 (zm mem q.2.1) ∧ (zm mem q.2.1).length < 2 * q.2.2
def zOk (mem : List (List Nat)) (w : List Nat) (s : Nat × zB) : Prop := (s.1 = 0 ↔ s.2 = none) ∧ ∀ q, s.2 = some q → zIs mem w q
theorem zcs_ok {mem : List (List Nat)} {w : List Nat} {kd i m : Nat} {s : Nat × zB} (h : zOk mem w s) (hi : i < w.length) (hm : m < mem.length) : zOk mem w (zcs mem w kd i m s) := by
  unfold zcs
  split
  · rename_i hl
    refine ⟨⟨fun e => by simp at e, fun e => ?_⟩, fun q hq => ?_⟩
    · unfold znew at e
      split at e
      · cases e
      · split at e <;> cases e
    · unfold znew at hq
      split at hq
      · cases hq; exact ⟨hi, hm, rfl, hl⟩
      · rename_i q' hq'
        split at hq
        · cases hq; exact ⟨hi, hm, rfl, hl⟩
        · cases hq; exact h.2 _ hq'
  · exact h
theorem zrow1_ok {mem : List (List Nat)} {w : List Nat} {kd i : Nat} (hi : i < w.length) : ∀ (n : Nat) {s : Nat × zB}, n ≤ mem.length → zOk mem w s → zOk mem w (zrow1 mem w kd i n s)
  | 0, _, _, h => h
  | n + 1, _, hn, h => zcs_ok (zrow1_ok hi n (by omega) h) hi (by omega)
theorem zscan_ok {mem : List (List Nat)} {w : List Nat} {kd : Nat} : ∀ n, n ≤ w.length → zOk mem w (zscan mem w kd n)
  | 0, _ => ⟨⟨fun _ => rfl, fun _ => rfl⟩, fun q hq => by cases hq⟩
  | n + 1, hn => zrow1_ok (by omega) mem.length (Nat.le_refl _) (zscan_ok n (by omega))
theorem zrow1_none {mem : List (List Nat)} {w : List Nat} {kd i : Nat} (h : ∀ m, m < mem.length → ¬ (zm mem m).length < 2 * zlike w i (zm mem m)) : ∀ (n : Nat) (s : Nat × zB), n ≤ mem.length → zrow1 mem w kd i n s = s
  | 0, _, _ => rfl
  | n + 1, s, hn => by rw [zrow1, zrow1_none h n s (by omega), zcs, if_neg (h n (by omega))]
theorem zscan_stop {mem : List (List Nat)} {w : List Nat} {kd i : Nat} (h : ∀ j, i ≤ j → j < w.length → ∀ m, m < mem.length → ¬ (zm mem m).length < 2 * zlike w j (zm mem m)) : ∀ n, i + n ≤ w.length → zscan mem w kd (i + n) = zscan mem w kd i
  | 0, _ => rfl
  | n + 1, hn => by
    rw [show i + (n + 1) = (i + n) + 1 by omega, zscan, zrow1_none (h (i + n) (by omega) (by omega)) _ _ (Nat.le_refl _)]
    exact zscan_stop h n (by omega)
theorem zlike_0 {w x : List Nat} {i : Nat} (h : zat x 0 ≠ zat w i) : zlike w i x = 0 := by
  rcases Nat.eq_zero_or_pos (zlike w i x) with q | q
  · exact q
  · exact absurd (zlike_eq q).symm h
theorem zrow1_st {mem : List (List Nat)} {w : List Nat} {kd i : Nat} : ∀ (n : Nat) (s : Nat × zB), zrow1 mem w kd i n s = (zst mem (zat w i) n).foldl (fun s m => zcs mem w kd i m s) s
  | 0, _ => rfl
  | n + 1, s => by
    rw [zrow1, zst, zrow1_st n s]
    split
    · rw [List.foldl_append]; rfl
    · rename_i hne
      rw [zcs, zlike_0 hne, if_neg (by omega)]
theorem zst_in {mem : List (List Nat)} {a : Nat} : ∀ (n : Nat) (m : Nat), m ∈ zst mem a n → m < n
  | 0, m, h => absurd h List.not_mem_nil
  | n + 1, m, h => by
    rw [zst] at h
    split at h
    · rcases List.mem_append.mp h with q | q
      · have := zst_in n m q; omega
      · rw [List.mem_singleton.mp q]; omega
    · have := zst_in n m h; omega
/-! ===== what the class holds of a cut ===== -/
def zBest (τ : ww_M) (mem : List (List Nat)) (b : zB) : Prop := ∀ q, b = some q → τ (20, 0) 3 = nI q.1 ∧ τ (20, 0) 4 = nI q.2.1 ∧ τ (20, 0) 5 = nI q.2.2 ∧ τ (20, 0) 6 = nI (2 * q.2.2 - (zm mem q.2.1).length)
/-- the members, and the kind of the chooser -/
def zCt (τ : ww_M) (R : Nat → List Nat) (mem : List (List Nat)) (kd : Nat) : Prop := zMem τ R mem ∧ zStt τ mem ∧ τ (8, 0) 7 = nI (zshort mem) ∧ τ (20, 0) 2 = nI kd ∧ kd < 5
/-- rows, and the numbers of a cut, may have changed -/
def zSF (τ τ' : ww_M) : Prop := (∀ n : ww_N, n.1 ≠ 21 → n.1 ≠ 22 → n ≠ (20, 0) → τ' n = τ n) ∧ τ' (20, 0) 2 = τ (20, 0) 2
theorem zSF.rf (τ : ww_M) : zSF τ τ := ⟨fun _ _ _ _ => rfl, rfl⟩
theorem zSF.tr {a b c : ww_M} (h : zSF a b) (h2 : zSF b c) : zSF a c := ⟨fun n h1 h3 h4 => (h2.1 n h1 h3 h4).trans (h.1 n h1 h3 h4), h2.2.trans h.2⟩
theorem zNR.s {a b : ww_M} (h : zNR a b) : zSF a b := ⟨fun n h1 h2 _ => h n h1 h2, by rw [h (20, 0) (by decide) (by decide)]⟩
theorem zCt.keep {τ τ' : ww_M} {R R' : Nat → List Nat} {mem : List (List Nat)} {kd : Nat} (h : zCt τ R mem kd) (hf : zSF τ τ') (hR : ∀ q, 20 ≤ q → R' q = R q) : zCt τ' R' mem kd := by
  obtain ⟨⟨h1, h2, h3⟩, h4, h5, h6, h7⟩ := h
  have e8 : τ' (8, 0) = τ (8, 0) := hf.1 _ (by decide) (by decide) (by decide)
  refine ⟨⟨h1, by rw [e8]; exact h2, fun m hm => by rw [hR _ (by omega)]; exact h3 m hm⟩, fun a ha => ⟨?_, fun k hk => ?_⟩, by rw [e8]; exact h5, by rw [hf.2]; exact h6, h7⟩
  · rw [hf.1 (17, 0) (by decide) (by decide) (by decide)]; exact (h4 a ha).1
  · rw [hf.1 (16, a) (show (16 : Nat) ≠ 21 by decide) (show (16 : Nat) ≠ 22 by decide) (by simp)]; exact (h4 a ha).2 k hk
section SHORT
variable {l : Launch} {g : ww_G} {τ : ww_M} {R : Nat → List Nat} {mem : List (List Nat)} {kd : Nat}
theorem s_isBetter {i m ll : Nat} {q : Nat × Nat × Nat} (hk : τ (20, 0) 2 = nI kd) (hk5 : kd < 5) (hb : zBest τ mem (some q)) (h1 : q.1 ≤ i) (h2 : i < 10000) (h3 : ll < 10000) (h4 : q.2.2 < 10000) (hm : (zm mem m).length < 2 * ll) (hm2 : (zm mem q.2.1).length < 2 * q.2.2) : ww_T l g mX3_isBetter [.inr (.inr (20, 0)), .inl (nI i), .inl (nI ll), .inl (nI (2 * ll - (zm mem m).length))] τ (ww_QI (fun v τ' => τ = τ' ∧ v = zb (zbet mem kd q i m ll))) := by
  obtain ⟨b1, b2, b3, b4⟩ := hb q rfl
  refine b_X3_isBetter (fun E => ?_)
  rw [hk, b1, b3, b4, zeq (by omega) (by omega), zeq (by omega) (by omega), zeq (by omega) (by omega), zeq (by omega) (by omega), zlt (by omega) (by omega), zle (by omega) (by omega), zle (by omega) (by omega), zle (by omega) (by omega), zeq (by omega) (by omega)]
  refine ⟨fun c => ⟨fun c1 => ⟨rfl, ?_⟩, fun c1 => ⟨fun c2 => ⟨rfl, ?_⟩, fun c2 => ⟨rfl, ?_⟩⟩⟩, fun c => ⟨fun c1 => ⟨rfl, ?_⟩, fun c1 => ⟨rfl, ?_⟩⟩, fun c => ⟨fun c1 => ⟨rfl, ?_⟩, fun c1 => ⟨rfl, ?_⟩⟩, fun c => ⟨fun c1 => ⟨rfl, ?_⟩, fun c1 => ⟨rfl, ?_⟩⟩, fun n1 n2 n3 n4 => ⟨fun c1 => ⟨rfl, ?_⟩, fun c1 => ⟨fun c2 => ⟨rfl, ?_⟩, fun c2 => ⟨rfl, ?_⟩⟩⟩⟩
  · have e : zbet mem kd q i m ll = true := by unfold zbet; rw [if_pos c]; simp [c1]
    rw [e]; rfl
  · have e : zbet mem kd q i m ll = false := by unfold zbet; rw [if_pos c]; simp; omega
    rw [e]; rfl
  · have e : zbet mem kd q i m ll = true := by unfold zbet; rw [if_pos c]; simp; omega
    rw [e]; rfl
  · have e : zbet mem kd q i m ll = false := by unfold zbet; rw [if_neg (by omega), if_pos c]; simp; omega
    rw [e]; rfl
  · have e : zbet mem kd q i m ll = true := by unfold zbet; rw [if_neg (by omega), if_pos c]; simp; omega
    rw [e]; rfl
  · have e : zbet mem kd q i m ll = false := by unfold zbet; rw [if_neg (by omega), if_neg (by omega), if_pos c]; simp; omega
    rw [e]; rfl
  · have e : zbet mem kd q i m ll = true := by unfold zbet; rw [if_neg (by omega), if_neg (by omega), if_pos c]; simp; omega
    rw [e]; rfl
  · have e : zbet mem kd q i m ll = false := by unfold zbet; rw [if_neg (by omega), if_neg (by omega), if_neg (by omega), if_pos c]; simp; omega
    rw [e]; rfl
  · have e : zbet mem kd q i m ll = true := by unfold zbet; rw [if_neg (by omega), if_neg (by omega), if_neg (by omega), if_pos c]; simp; omega
    rw [e]; rfl
  · have e : zbet mem kd q i m ll = false := by unfold zbet; rw [if_neg n1, if_neg n2, if_neg n3, if_neg n4]; simp [c1]
    rw [e]; rfl
  · have e : zbet mem kd q i m ll = false := by unfold zbet; rw [if_neg n1, if_neg n2, if_neg n3, if_neg n4]; simp; omega
    rw [e]; rfl
  · have e : zbet mem kd q i m ll = true := by unfold zbet; rw [if_neg n1, if_neg n2, if_neg n3, if_neg n4]; simp; omega
    rw [e]; rfl
theorem s_take {i m ll : Nat} (h : zMem τ R mem) (hR : zRows τ R) (hm : m < mem.length) (hl : (zm mem m).length < 2 * ll) : ww_T l g mX3_take [.inr (.inr (20, 0)), .inl (nI i), .inl (nI m), .inl (nI ll)] τ (ww_QV (fun τ' => zBest τ' mem (some (i, m, ll)) ∧ (∀ n : ww_N, n ≠ (20, 0) → τ' n = τ n) ∧ τ' (20, 0) 2 = τ (20, 0) 2)) := by
  refine b_X3_take (fun E τ1 e1 τ2 e2 τ3 e3 => ?_)
  have ho : ∀ n : ww_N, n ≠ (20, 0) → τ3 n = τ n := fun n hn => by rw [e3, ww_up_f hn, e2, ww_up_f hn, e1, ww_up_f hn]
  have hM : zMem τ3 R mem := ⟨h.1, by rw [ho _ (by decide)]; exact h.2.1, h.2.2⟩
  have hR3 : zRows τ3 R := hR.keep (fun n hn => ho n (fun e => by rw [e] at hn; omega))
  refine ⟨_, s_sizeOf hM hR3 hm, ?_⟩
  rintro v5 τ6 ⟨rfl, rfl⟩ τ7 e7
  rw [zmul, zsub (by omega)] at e7
  subst e7
  refine ⟨fun q hq => ?_, fun n hn => by rw [ww_up_f hn, ho n hn], ?_⟩
  · cases hq
    subst e1; subst e2; subst e3
    refine ⟨?_, ?_, ?_, ?_⟩
    · rw [ww_up_k (by decide), ww_up_k (by decide), ww_up_k (by decide), ww_up_s]
    · rw [ww_up_k (by decide), ww_up_k (by decide), ww_up_s]
    · rw [ww_up_k (by decide), ww_up_s]
    · rw [ww_up_s]
  · subst e1; subst e2; subst e3
    rw [ww_up_k (by decide), ww_up_k (by decide), ww_up_k (by decide), ww_up_k (by decide)]
theorem s_seek {r : Nat} (h : zCt τ R mem kd) (hR : zRows τ R) (hr : r < 104) : ww_T l g mX3_seek [.inr (.inr (20, 0)), .inr (.inr (21, r))] τ (ww_QI (fun v τ' => v = nI (zscan mem (R r) kd (R r).length).1 ∧ zBest τ' mem (zscan mem (R r) kd (R r).length).2 ∧ (∀ n : ww_N, n ≠ (20, 0) → τ' n = τ n) ∧ τ' (20, 0) 2 = τ (20, 0) 2)) := by
  obtain ⟨hM, hSt, hsh, hk, hk5⟩ := h
  have h84 := hM.1
  have hcl := ww_cap_le r
  have hrow := hR r hr
  obtain ⟨r1, r2, r3, r4⟩ := hrow
  refine b_X3_seek hr (fun E => ?_)
  have hshl := (zshort_le (mem := mem)).1
  have keepM : ∀ σ : ww_M, (∀ n : ww_N, n ≠ (20, 0) → σ n = τ n) → zMem σ R mem ∧ zStt σ mem ∧ zRows σ R ∧ σ (8, 0) 7 = nI (zshort mem) := by
    intro σ ho
    refine ⟨⟨hM.1, by rw [ho _ (by decide)]; exact hM.2.1, hM.2.2⟩, fun a ha => ⟨by rw [ho _ (by decide)]; exact (hSt a ha).1, fun k hk => by rw [ho _ (by simp)]; exact (hSt a ha).2 k hk⟩, hR.keep (fun n hn => ho n (fun e => by rw [e] at hn; omega)), by rw [ho _ (by decide)]; exact hsh⟩
  generalize hQ : (ww_QI (fun v τ' => v = nI (zscan mem (R r) kd (R r).length).1 ∧ zBest τ' mem (zscan mem (R r) kd (R r).length).2 ∧ (∀ n : ww_N, n ≠ (20, 0) → τ' n = τ n) ∧ τ' (20, 0) 2 = τ (20, 0) 2)) = Q
  -- the inner loop
  have inner : ∀ i, i < (R r).length → ∀ (n k : Nat) (s : Nat × zB) (σ : ww_M), k + n = (zst mem (zat (R r) i) mem.length).length → zOk mem (R r) s → (∀ q, s.2 = some q → q.1 ≤ i) → s.1 < i * 84 + k + 1 → zBest σ mem s.2 → (∀ n : ww_N, n ≠ (20, 0) → σ n = τ n) → σ (20, 0) 2 = τ (20, 0) 2 → (∀ (s' : Nat × zB) (σ' : ww_M), s' = ((zst mem (zat (R r) i) mem.length).drop k).foldl (fun s m => zcs mem (R r) kd i m s) s → s'.1 < (i + 1) * 84 + 1 → (∀ q, s'.2 = some q → q.1 ≤ i) → zOk mem (R r) s' → zBest σ' mem s'.2 → (∀ n : ww_N, n ≠ (20, 0) → σ' n = τ n) → σ' (20, 0) 2 = τ (20, 0) 2 → ww_W g mX3_seek E Q 4 [some (.inr (.inr (20, 0))), some (.inr (.inr (21, r))), some (.inl (nI s'.1)), some (.inl (nI i + nI 1)), none, none, none, none, none, none] [] σ') → ww_W g mX3_seek E Q 51 [some (.inr (.inr (20, 0))), some (.inr (.inr (21, r))), some (.inl (nI s.1)), some (.inl (nI i)), some (.inl (nI (zat (R r) i))), some (.inl (nI (zst mem (zat (R r) i) mem.length).length)), some (.inl (nI k)), none, none, none] [] σ := by
    intro i hi n
    have hlen := zst_len mem (zat (R r) i) mem.length
    induction n with
    | zero =>
      intro k s σ hk2 hok hpl hs1 hbs ho h20 K
      have e : (zst mem (zat (R r) i) mem.length).drop k = [] := List.drop_of_length_le (by omega)
      have K := K s σ (by rw [e]; rfl) (by omega) hpl hok hbs ho h20
      subst hQ
      refine b_X3_seek_51 hr ⟨fun _ => K, fun c => ?_⟩
      rw [zle (by omega) (by omega)] at c; omega
    | succ n ih =>
      intro k s σ hk2 hok hpl hs1 hbs ho h20 K
      obtain ⟨m1, m2, m3, m4⟩ := keepM σ ho
      have hkl : k < (zst mem (zat (R r) i) mem.length).length := by omega
      have hza := zat_lt r4 hi
      have hmem : zat (zst mem (zat (R r) i) mem.length) k < mem.length := zst_in _ _ (by rw [zat_eq hkl]; exact List.getElem_mem hkl)
      have hdr := zdrop_cons hkl
      generalize hmm : zat (zst mem (zat (R r) i) mem.length) k = m at hmem hdr
      have hml := m1.len m3 hmem
      have hll := zlike_le (R r) i (zm mem m)
      have nxt : ∀ σ' : ww_M, zBest σ' mem (zcs mem (R r) kd i m s).2 → (∀ n : ww_N, n ≠ (20, 0) → σ' n = τ n) → σ' (20, 0) 2 = τ (20, 0) 2 → ww_W g mX3_seek E Q 51 [some (.inr (.inr (20, 0))), some (.inr (.inr (21, r))), some (.inl (nI (zcs mem (R r) kd i m s).1)), some (.inl (nI i)), some (.inl (nI (zat (R r) i))), some (.inl (nI (zst mem (zat (R r) i) mem.length).length)), some (.inl (nI k + nI 1)), none, none, none] [] σ' := by
        intro σ' hb' ho' h20'
        rw [zadd]
        refine ih (k + 1) _ σ' (by omega) (zcs_ok hok hi hmem) ?_ ?_ hb' ho' h20' (fun s' σ2 a1 a2 a3 a4 a5 a6 a7 => K s' σ2 ?_ a2 a3 a4 a5 a6 a7)
        · intro q hq
          unfold zcs at hq
          split at hq
          · unfold znew at hq
            split at hq
            · cases hq; exact Nat.le_refl _
            · rename_i q' hq'
              split at hq
              · cases hq; exact Nat.le_refl _
              · cases hq; exact hpl _ hq'
          · exact hpl q hq
        · unfold zcs; split
          · show s.1 + 1 < _; omega
          · omega
        · rw [hdr, List.foldl_cons]; exact a1
      subst hQ
      refine b_X3_seek_51 hr ⟨fun c => ?_, fun _ => ?_⟩
      · rw [zle (by omega) (by omega)] at c; omega
      · refine ⟨_, s_starter m2 hza h84 hkl, ?_⟩
        rintro v2 τ3 ⟨rfl, rfl⟩
        rw [hmm]
        refine ⟨_, s_matchAt m1 m3 hmem hr (by omega), ?_⟩
        rintro v5 τ6 ⟨rfl, rfl⟩
        refine ⟨_, s_sizeOf m1 m3 hmem, ?_⟩
        rintro v8 τ9 ⟨rfl, rfl⟩
        rw [zmul]
        by_cases hc : (zm mem m).length < 2 * zlike (R r) i (zm mem m)
        · have es : zcs mem (R r) kd i m s = (s.1 + 1, znew mem kd s.2 i m (zlike (R r) i (zm mem m))) := by unfold zcs; rw [if_pos hc]
          rw [es] at nxt
          rw [zsub (by omega), zle (by omega) (by omega), zeq (by omega) (by omega)]
          refine ⟨fun c => by omega, fun _ => ⟨fun c2 => ?_, fun c2 => ?_⟩⟩
          · refine ⟨_, s_take m1 m3 hmem hc, ?_⟩
            rintro τ11 ⟨t1, t2, t3⟩
            have hnone : s.2 = none := hok.1.mp c2
            rw [hnone] at nxt
            rw [zadd]
            exact nxt τ11 t1 (fun n hn => by rw [t2 n hn, ho n hn]) (by rw [t3, h20])
          · cases hsb : s.2 with
            | none => exact absurd (hok.1.mpr hsb) c2
            | some q =>
              have hisq := hok.2 q hsb
              have hq1 := hpl q hsb
              have hql := (zlike_le (R r) q.1 (zm mem q.2.1)).1
              rw [hsb] at nxt hbs
              refine ⟨_, s_isBetter (mem := mem) (q := q) (m := m) (by rw [h20]; exact hk) hk5 hbs hq1 (by omega) (by omega) (by have := hisq.2.2.1; omega) hc hisq.2.2.2, ?_⟩
              rintro v13 τ14 ⟨rfl, rfl⟩
              rw [zb_0, zadd]
              refine ⟨fun c3 => ?_, fun c3 => ?_⟩
              · have e2 : znew mem kd (some q) i m (zlike (R r) i (zm mem m)) = some q := by unfold znew; simp [c3]
                rw [e2] at nxt
                exact nxt σ hbs ho h20
              · have c3 : zbet mem kd q i m (zlike (R r) i (zm mem m)) = true := by simpa using c3
                have e2 : znew mem kd (some q) i m (zlike (R r) i (zm mem m)) = some (i, m, zlike (R r) i (zm mem m)) := by unfold znew; simp [c3]
                rw [e2] at nxt
                refine ⟨_, s_take m1 m3 hmem hc, ?_⟩
                rintro τ16 ⟨t1, t2, t3⟩
                exact nxt τ16 t1 (fun n hn => by rw [t2 n hn, ho n hn]) (by rw [t3, h20])
        · have es : zcs mem (R r) kd i m s = s := by unfold zcs; rw [if_neg hc]
          rw [es] at nxt
          refine ⟨fun _ => nxt σ hbs ho h20, fun c => ?_⟩
          exfalso
          apply c
          show nI (2 * zlike (R r) i (zm mem m)) - nI (zm mem m).length ≤ nI 0
          rw [Int32.le_iff_toInt_le, pk_sub_toInt (by omega) (by omega), nI_toInt (by omega)]
          omega
  -- the outer loop
  have outer : ∀ (n i : Nat) (σ : ww_M), i + n = (R r).length → zBest σ mem (zscan mem (R r) kd i).2 → (∀ q, (zscan mem (R r) kd i).2 = some q → q.1 ≤ i) → (zscan mem (R r) kd i).1 < i * 84 + 1 → (∀ n : ww_N, n ≠ (20, 0) → σ n = τ n) → σ (20, 0) 2 = τ (20, 0) 2 → ww_W g mX3_seek E Q 4 [some (.inr (.inr (20, 0))), some (.inr (.inr (21, r))), some (.inl (nI (zscan mem (R r) kd i).1)), some (.inl (nI i)), none, none, none, none, none, none] [] σ := by
    intro n
    induction n with
    | zero =>
      intro i σ hi hb hpl hs1 ho h20
      have hi2 : i = (R r).length := by omega
      subst hQ
      refine b_X3_seek_4 hr ⟨fun _ => ⟨by rw [hi2], by rw [← hi2]; exact hb, ho, h20⟩, fun c => ?_⟩
      rw [ho (21, r) (by simp), r2, zle (by omega) (by omega)] at c
      omega
    | succ n ih =>
      intro i σ hi hb hpl hs1 ho h20
      obtain ⟨m1, m2, m3, m4⟩ := keepM σ ho
      have hil : i < (R r).length := by omega
      have hza := zat_lt r4 hil
      have step : ww_W g mX3_seek E Q 51 [some (.inr (.inr (20, 0))), some (.inr (.inr (21, r))), some (.inl (nI (zscan mem (R r) kd i).1)), some (.inl (nI i)), some (.inl (nI (zat (R r) i))), some (.inl (nI (zst mem (zat (R r) i) mem.length).length)), some (.inl (nI 0)), none, none, none] [] σ := by
        refine inner i hil (zst mem (zat (R r) i) mem.length).length 0 _ σ (by omega) (zscan_ok i (by omega)) hpl (by omega) hb ho h20 (fun s' σ' a1 a2 a3 a4 a5 a6 a7 => ?_)
        have e : s' = zscan mem (R r) kd (i + 1) := by rw [a1, List.drop_zero, zscan, zrow1_st]
        subst e
        rw [zadd]
        exact ih (i + 1) σ' (by omega) a5 (fun q hq => by have := a3 q hq; omega) a2 a6 a7
      subst hQ
      refine b_X3_seek_4 hr ⟨fun c => ?_, fun _ => ⟨fun c => ?_, fun c => ?_⟩⟩
      · rw [ho (21, r) (by simp), r2, zle (by omega) (by omega)] at c
        omega
      · rw [ho (21, r) (by simp), r2, m4, zsub (by omega), zmul, zle (by omega) (by omega)] at c
        have e : zscan mem (R r) kd (R r).length = zscan mem (R r) kd i := by
          have := zscan_stop (mem := mem) (w := R r) (kd := kd) (i := i) (fun j hj hj2 m hm => ?_) ((R r).length - i) (by omega)
          · rw [show i + ((R r).length - i) = (R r).length by omega] at this; exact this
          · have h1 := (zlike_le (R r) j (zm mem m)).1
            have h2 := (zshort_le (mem := mem)).2 (zm mem m) (by rw [zm_eq hm]; exact List.getElem_mem hm)
            omega
        refine ⟨by rw [e], by rw [e]; exact hb, ho, h20⟩
      · refine ⟨_, s_at (m3 r hr) hr (by omega), ?_⟩
        rintro v2 τ3 ⟨rfl, rfl⟩
        rw [if_pos hil]
        refine ⟨_, s_startersWith m2 hza, ?_⟩
        rintro v5 τ6 ⟨rfl, rfl⟩
        exact step
  exact outer (R r).length 0 τ (by omega) (fun q hq => by cases hq) (fun q hq => by cases hq) (Nat.zero_lt_one) (fun _ _ => rfl) rfl
theorem zcut_len {w : List Nat} {q : Nat × Nat × Nat} (h : zIs mem w q) : (zcut mem w q).length < w.length := by
  obtain ⟨h1, h2, h3, h4⟩ := h
  have h5 := zlike_le w q.1 (zm mem q.2.1)
  have := zpushs_len (ys := zinv ((zm mem q.2.1).drop q.2.2) ++ w.drop (q.1 + q.2.2)) (w.take q.1)
  unfold zcut
  rw [List.length_append, zinv_len, List.length_drop, List.length_drop, List.length_take] at this
  omega
theorem zok_take {xs : List Nat} (h : zok xs) (n : Nat) : zok (xs.take n) := zok_sub h (fun y hy => List.mem_of_mem_take hy)
theorem zok_dropn {xs : List Nat} (h : zok xs) (n : Nat) : zok (xs.drop n) := zok_sub h (fun y hy => List.mem_of_mem_drop hy)
theorem zcut_ok {w : List Nat} {q : Nat × Nat × Nat} (hw : zok w) (hm : zok (zm mem q.2.1)) : zok (zcut mem w q) := zok_pushs (zok_take hw _) (zok_app (zinv_ok (zok_dropn hm _)) (zok_dropn hw _))
theorem zcut_red {w : List Nat} {q : Nat × Nat × Nat} (hr : zred w) (hw : zok w) (hm : zok (zm mem q.2.1)) : zred (zcut mem w q) := zred_pushs (zred_take hr _) (zok_take hw _) (zok_app (zinv_ok (zok_dropn hm _)) (zok_dropn hw _))
theorem zinv_drop_cons {x : List Nat} {a k : Nat} (h : a ≤ k) (hk : k < x.length) : zinv ((x.take (k + 1)).drop a) = zo (zat x k) :: zinv ((x.take k).drop a) := by
  rw [ztake_succ hk, List.drop_append_of_le_length (by rw [List.length_take]; omega), zinv_app]
  rfl
theorem s_doCut {r : Nat} {q : Nat × Nat × Nat} (h : zCt τ R mem kd) (hR : zRows τ R) (hr : r < 104) (hr19 : r ≠ 19) (hb : zBest τ mem (some q)) (hi : zIs mem (R r) q) (h60 : (R r).length ≤ 60) (hrd : zred (R r)) : ww_T l g mX3_doCut [.inr (.inr (20, 0)), .inr (.inr (21, r))] τ (ww_QV (fun τ' => zNR τ τ' ∧ ∃ R', zRows τ' R' ∧ R' r = zcut mem (R r) q ∧ ∀ x, x ≠ r → x ≠ 19 → R' x = R x)) := by
  obtain ⟨hM, hSt, hsh, hk, hk5⟩ := h
  have h84 := hM.1
  obtain ⟨p, m, ll⟩ := q
  obtain ⟨i1, i2, i3, i4⟩ := id hi
  dsimp only at i1 i2 i3 i4
  obtain ⟨b1, b2, b3, -⟩ := hb _ rfl
  dsimp only at b1 b2 b3
  have hll := zlike_le (R r) p (zm mem m)
  have hcl := ww_cap_le r
  have hrow := hR r hr
  have hml := hM.len hR i2
  have c19 : ww_cap 19 = 60 := by decide
  have tot := zcut_len hi
  have hmo := (hM.row hR i2).2.2.2
  refine b_X3_doCut hr (fun E => ⟨_, s_wipe hR (by omega), ?_⟩)
  rintro τ2 ⟨k1, n1⟩
  rw [n1 (20, 0) (by decide) (by decide), b1]
  have e0 : zup R 19 [] r = R r := zup_n hr19
  refine ⟨_, s_putPart (a := 0) (b := p) k1 (by omega) hr (Ne.symm hr19) (Nat.zero_le _) (by rw [e0]; omega) (by rw [zup_s, c19]; simp; omega), ?_⟩
  rintro τ4 ⟨k2, n2⟩
  rw [zup_s, e0, zup_up, List.drop_zero, Nat.sub_zero, zpushs_self hrd hrow.2.2.2 p (by omega)] at k2
  have n4 := n1.tr n2
  rw [n4 (20, 0) (by decide) (by decide), b2]
  have hM4 : ∀ (σ : ww_M) (xs : List Nat), zNR τ σ → zMem σ (zup R 19 xs) mem := fun σ xs hn => ⟨h84, by rw [hn _ (by decide) (by decide)]; exact hM.2.1, fun m hm => by rw [zup_n (by omega)]; exact hM.2.2 m hm⟩
  refine ⟨_, s_sizeOf (hM4 τ4 _ n4) k2 i2, ?_⟩
  rintro v6 τ7 ⟨rfl, rfl⟩
  generalize hQ : (ww_QV (fun τ' => zNR τ τ' ∧ ∃ R', zRows τ' R' ∧ R' r = zcut mem (R r) (p, m, ll) ∧ ∀ x, x ≠ r → x ≠ 19 → R' x = R x)) = Q
  have loop : ∀ (n : Nat) (σ : ww_M) (xs : List Nat), n ≤ (zm mem m).length → ll ≤ n → zRows σ (zup R 19 xs) → zNR τ σ → xs.length + (n - ll) + ((R r).length - (p + ll)) ≤ 60 → zpushs xs (zinv (((zm mem m).take n).drop ll) ++ (R r).drop (p + ll)) = zcut mem (R r) (p, m, ll) → ww_W g mX3_doCut E Q 34 [some (.inr (.inr (20, 0))), some (.inr (.inr (21, r))), some (.inl (nI n - nI 1))] [] σ := by
    intro n
    induction n with
    | zero =>
      intro σ xs hn hln hS hq hlen he
      have hl0 : ll = 0 := by omega
      omega
    | succ n ih =>
      intro σ xs hn hln hS hq hlen he
      have hM5 := hM4 σ xs hq
      by_cases hstop : n < ll
      · -- all of the member's rest is put: the word's rest
        have hnl : n + 1 = ll := by omega
        have e : zinv (((zm mem m).take (n + 1)).drop ll) = [] := by
          rw [List.drop_of_length_le (by rw [List.length_take]; omega)]; rfl
        rw [e, List.nil_append] at he
        have hr2 : zup R 19 xs r = R r := zup_n hr19
        have e21 : σ (21, r) 1 = nI (R r).length := by
          have := (hS r hr).2.1; rw [hr2] at this; exact this
        subst hQ
        refine b_X3_doCut_34 hr ⟨fun _ => ?_, fun c => ?_⟩
        · rw [hq (20, 0) (by decide) (by decide), b1, b3, zadd, e21]
          refine ⟨_, s_putPart hS (by omega) hr (Ne.symm hr19) (by omega) (by rw [hr2]; exact Nat.le_refl _) (by rw [zup_s, c19]; omega), ?_⟩
          rintro τ2' ⟨k3, n3⟩
          rw [zup_s, hr2, zup_up, List.take_of_length_le (by rw [List.length_drop]; exact Nat.le_refl _), he] at k3
          refine ⟨_, s_copy k3 hr (by omega) hr19 (by rw [zup_s]; have := hrow.1; omega), ?_⟩
          rintro τ4' ⟨k4, n4'⟩
          rw [zup_s] at k4
          exact ⟨(hq.tr n3).tr n4', _, k4, zup_s _ _ _, fun x h1 h2 => by rw [zup_n h1, zup_n h2]⟩
        · rw [hq (20, 0) (by decide) (by decide), b3, zsub (by omega), zlt (by omega) (by omega)] at c
          omega
      · have hz := zat_lt hmo (show n < (zm mem m).length by omega)
        subst hQ
        refine b_X3_doCut_34 hr ⟨fun c => ?_, fun _ => ?_⟩
        · rw [hq (20, 0) (by decide) (by decide), b3, zsub (by omega), zlt (by omega) (by omega)] at c
          omega
        · rw [hq (20, 0) (by decide) (by decide), b2, zdec, zsub (by omega), Nat.add_sub_cancel]
          refine ⟨_, s_letterOf hM5 hS i2 (by omega), ?_⟩
          rintro v6 τ7 ⟨rfl, rfl⟩
          rw [if_pos (by omega)]
          refine ⟨_, s_opp hz, ?_⟩
          rintro v9 τ10 ⟨rfl, rfl⟩
          refine ⟨_, s_put hS (by omega) (zo_lt hz) (by rw [zup_s, c19]; omega), ?_⟩
          rintro τ12 ⟨k5, n5⟩
          rw [zup_s, zup_up] at k5
          have hpl := zpush_len xs (zo (zat (zm mem m) n))
          refine ih τ12 _ (by omega) (by omega) k5 (hq.tr n5) (by omega) ?_
          rw [zinv_drop_cons (by omega) (by omega), List.cons_append, zpushs_cons] at he
          exact he
  refine loop (zm mem m).length τ4 _ (Nat.le_refl _) (by omega) k2 n4 (by rw [List.length_take]; omega) ?_
  rw [List.take_length]
  rfl
/-- cuts until there is none, so many at most: how many, and what is left -/
def zsh (mem : List (List Nat)) (kd : Nat) : Nat → List Nat → Nat × List Nat
  | 0, w => (0, w)
  | n + 1, w => match (zscan mem w kd w.length).2 with
    | none => (0, w)
    | some q => ((zsh mem kd n (zcut mem w q)).1 + 1, (zsh mem kd n (zcut mem w q)).2)
theorem zscan_is {w : List Nat} {q : Nat × Nat × Nat} (h : (zscan mem w kd w.length).2 = some q) : zIs mem w q := (zscan_ok w.length (Nat.le_refl _)).2 q h
theorem zsh_fuel : ∀ (n : Nat) (w : List Nat), w.length ≤ n → zsh mem kd n w = zsh mem kd w.length w
  | 0, w, h => by rw [show w.length = 0 by omega]
  | n + 1, w, h => by
    cases hw : w.length with
    | zero =>
      rw [zsh, zsh]
      have e : (zscan mem w kd w.length).2 = none := by rw [hw]; rfl
      rw [e]
    | succ k =>
      rw [zsh, zsh]
      cases e : (zscan mem w kd w.length).2 with
      | none => rfl
      | some q =>
        have := zcut_len (zscan_is e)
        dsimp only
        rw [zsh_fuel n _ (by omega), zsh_fuel k _ (by omega)]
/-- shortened -/
def zfin (mem : List (List Nat)) (kd : Nat) (w : List Nat) : Nat × List Nat := zsh mem kd w.length w
theorem zrow1_cnt {w : List Nat} {i : Nat} : ∀ (k : Nat) (s : Nat × zB), (zrow1 mem w kd i k s).1 ≤ s.1 + k
  | 0, s => Nat.le_refl _
  | k + 1, s => by
    have := zrow1_cnt (w := w) (i := i) k s
    rw [zrow1, zcs]
    split
    · show (zrow1 mem w kd i k s).1 + 1 ≤ _; omega
    · omega
theorem zscan_cnt {w : List Nat} (h84 : mem.length ≤ 84) : ∀ n, (zscan mem w kd n).1 ≤ n * 84
  | 0 => Nat.le_refl _
  | n + 1 => by
    have := zscan_cnt (w := w) h84 n
    have := zrow1_cnt (mem := mem) (kd := kd) (w := w) (i := n) mem.length (zscan mem w kd n)
    rw [zscan]; omega
theorem zscan_small {w : List Nat} (hC : zCt τ R mem kd) (hl : w.length ≤ 60) : (zscan mem w kd w.length).1 < 2147483648 := by
  have := zscan_cnt (kd := kd) (w := w) hC.1.1 w.length
  omega
theorem s_doAll {r : Nat} (h : zCt τ R mem kd) (hR : zRows τ R) (hr : r < 20) (hr19 : r ≠ 19) (h60 : (R r).length ≤ 60) (hrd : zred (R r)) : ww_T l g mX3_doAll [.inr (.inr (20, 0)), .inr (.inr (21, r))] τ (ww_QI (fun v τ' => v = nI (zfin mem kd (R r)).1 ∧ zSF τ τ' ∧ ∃ R', zRows τ' R' ∧ R' r = (zfin mem kd (R r)).2 ∧ ∀ x, x ≠ r → x ≠ 19 → R' x = R x)) := by
  refine b_X3_doAll (by omega) (fun E => ?_)
  have loop : ∀ (n c : Nat) (σ : ww_M) (S : Nat → List Nat), c + n = 60 → (S r).length ≤ n → zred (S r) → zRows σ S → zCt σ S mem kd → zSF τ σ → (∀ x, x ≠ r → x ≠ 19 → S x = R x) → c + (zsh mem kd n (S r)).1 = (zfin mem kd (R r)).1 → (zsh mem kd n (S r)).2 = (zfin mem kd (R r)).2 → ww_W g mX3_doAll E (ww_QI (fun v τ' => v = nI (zfin mem kd (R r)).1 ∧ zSF τ τ' ∧ ∃ R', zRows τ' R' ∧ R' r = (zfin mem kd (R r)).2 ∧ ∀ x, x ≠ r → x ≠ 19 → R' x = R x)) 2 [some (.inr (.inr (20, 0))), some (.inr (.inr (21, r))), some (.inl (nI c))] [] σ := by
    intro n
    induction n with
    | zero =>
      intro c σ S hc hl hrd2 hS hC hf ho he1 he2
      refine b_X3_doAll_2 (by omega) ⟨fun _ => ⟨?_, hf, S, hS, he2, ho⟩, fun c2 => ?_⟩
      · rw [← he1]; show nI 60 = nI (c + 0); rw [show c + 0 = 60 by omega]
      · rw [zle (by omega) (by omega)] at c2; omega
    | succ n ih =>
      intro c σ S hc hl hrd2 hS hC hf ho he1 he2
      refine b_X3_doAll_2 (by omega) ⟨fun c2 => ?_, fun _ => ?_⟩
      · rw [zle (by omega) (by omega)] at c2; omega
      · refine ⟨_, s_seek hC hS (by omega), ?_⟩
        rintro v2 τ3 ⟨rfl, t1, t2, t3⟩
        have hok := zscan_ok (mem := mem) (w := S r) (kd := kd) (S r).length (Nat.le_refl _)
        have hf3 : zSF σ τ3 := ⟨fun n _ _ h3 => t2 n h3, t3⟩
        have hS3 : zRows τ3 S := hS.keep (fun n hn => t2 n (fun e => by rw [e] at hn; omega))
        have hC3 : zCt τ3 S mem kd := hC.keep hf3 (fun _ _ => rfl)
        rw [zsh] at he1 he2
        have small := zscan_small hC (show (S r).length ≤ 60 by omega)
        refine ⟨fun c3 => ?_, fun c3 => ?_⟩
        · cases hb : (zscan mem (S r) kd (S r).length).2 with
          | none => rw [hok.1.mpr hb] at c3; exact absurd rfl c3
          | some q =>
            have hiq := hok.2 q hb
            have hlt := zcut_len hiq
            rw [hb] at t1 he1 he2
            refine ⟨_, s_doCut hC3 hS3 (by omega) hr19 t1 hiq (by omega) hrd2, ?_⟩
            rintro τ5 ⟨n5, R', a1, a2, a3⟩
            have hmo := (hC3.1.row hS3 hiq.2.1).2.2.2
            rw [zadd]
            refine ih (c + 1) τ5 R' (by omega) (by rw [a2]; omega) (by rw [a2]; exact zcut_red hrd2 (hS3 r (by omega)).2.2.2 hmo) a1 (hC3.keep n5.s (fun x hx => a3 x (by omega) (by omega))) (hf.tr (hf3.tr n5.s)) (fun x h1 h2 => by rw [a3 x h1 h2, ho x h1 h2]) (by rw [a2, ← he1]; show _ = c + (_ + 1); omega) (by rw [a2]; exact he2)
        · rw [zeq small (by omega)] at c3
          have hb := hok.1.mp c3
          rw [hb] at he1 he2
          exact ⟨by rw [← he1]; rfl, hf.tr hf3, S, hS3, he2, ho⟩
  have e := zsh_fuel (mem := mem) (kd := kd) 60 (R r) h60
  exact loop 60 0 τ R (by omega) h60 hrd hR h (zSF.rf τ) (fun _ _ _ => rfl) (by rw [e, Nat.zero_add]; rfl) (by rw [e]; rfl)
/-- the k-th cut that shortening would do, and what is left behind it -/
def ztr (mem : List (List Nat)) (kd : Nat) : Nat → List Nat → Option ((Nat × Nat × Nat) × List Nat)
  | 0, w => match (zscan mem w kd w.length).2 with
    | none => none
    | some q => some (q, zcut mem w q)
  | k + 1, w => match (zscan mem w kd w.length).2 with
    | none => none
    | some q => ztr mem kd k (zcut mem w q)
theorem ztr_none : ∀ (k : Nat) (w : List Nat), w.length ≤ k → ztr mem kd k w = none
  | 0, w, h => by
    rw [ztr]
    have e : (zscan mem w kd w.length).2 = none := by rw [show w.length = 0 by omega]; rfl
    rw [e]
  | k + 1, w, h => by
    rw [ztr]
    cases e : (zscan mem w kd w.length).2 with
    | none => rfl
    | some q =>
      have := zcut_len (zscan_is e)
      exact ztr_none k _ (by omega)
theorem s_doThrough {r k : Nat} (h : zCt τ R mem kd) (hR : zRows τ R) (hr : r < 20) (hr19 : r ≠ 19) (h60 : (R r).length ≤ 60) (hrd : zred (R r)) (hk : k < 2147483648) : ww_T l g mX3_doThrough [.inr (.inr (20, 0)), .inr (.inr (21, r)), .inl (nI k)] τ (ww_QI (fun v τ' => zSF τ τ' ∧ ∃ R', zRows τ' R' ∧ (∀ x, x ≠ r → x ≠ 19 → R' x = R x) ∧ ((ztr mem kd k (R r) = none ∧ v = nI 0) ∨ (∃ q w, ztr mem kd k (R r) = some (q, w) ∧ v = nI 1 ∧ zBest τ' mem (some q) ∧ R' r = w)))) := by
  generalize hQ : (ww_QI (fun v τ' => zSF τ τ' ∧ ∃ R', zRows τ' R' ∧ (∀ x, x ≠ r → x ≠ 19 → R' x = R x) ∧ ((ztr mem kd k (R r) = none ∧ v = nI 0) ∨ (∃ q w, ztr mem kd k (R r) = some (q, w) ∧ v = nI 1 ∧ zBest τ' mem (some q) ∧ R' r = w)))) = Q
  have loop : ∀ (E : ww_E) (n c : Nat) (σ : ww_M) (S : Nat → List Nat), k < 60 → c + n = k → (S r).length ≤ 60 → zred (S r) → zRows σ S → zCt σ S mem kd → zSF τ σ → (∀ x, x ≠ r → x ≠ 19 → S x = R x) → ztr mem kd n (S r) = ztr mem kd k (R r) → ww_W g mX3_doThrough E Q 10 [some (.inr (.inr (20, 0))), some (.inr (.inr (21, r))), some (.inl (nI k)), some (.inl (nI c))] [] σ := by
    intro E n
    induction n with
    | zero =>
      intro c σ S hk60 hc hl hrd2 hS hC hf ho he
      have hok := zscan_ok (mem := mem) (w := S r) (kd := kd) (S r).length (Nat.le_refl _)
      subst hQ
      refine b_X3_doThrough_10 (by omega) ⟨fun c2 => ?_, fun _ => ⟨_, s_seek hC hS (by omega), ?_⟩⟩
      · rw [zlt (by omega) (by omega)] at c2; omega
      · rintro v2 τ3 ⟨rfl, t1, t2, t3⟩
        have hf3 : zSF σ τ3 := ⟨fun n _ _ h3 => t2 n h3, t3⟩
        have hS3 : zRows τ3 S := hS.keep (fun n hn => t2 n (fun e => by rw [e] at hn; omega))
        have hC3 : zCt τ3 S mem kd := hC.keep hf3 (fun _ _ => rfl)
        rw [ztr] at he
        cases hb : (zscan mem (S r) kd (S r).length).2 with
        | none =>
          rw [hb] at he
          rw [hok.1.mpr hb]
          exact ⟨fun c3 => absurd rfl c3, fun _ => ⟨hf.tr hf3, S, hS3, ho, Or.inl ⟨he.symm, rfl⟩⟩⟩
        | some q =>
          rw [hb] at he t1
          have hiq := hok.2 q hb
          have hne : ¬ (zscan mem (S r) kd (S r).length).1 = 0 := fun e => by
            have := hok.1.mp e; rw [hb] at this; cases this
          refine ⟨fun _ => ⟨_, s_doCut hC3 hS3 (by omega) hr19 t1 hiq (by omega) hrd2, ?_⟩, fun c3 => ?_⟩
          · rintro τ5 ⟨n5, R', a1, a2, a3⟩
            rw [zadd]
            refine b_X3_doThrough_10 (by omega) ⟨fun _ => ⟨hf.tr (hf3.tr n5.s), R', a1, fun x h1 h2 => by rw [a3 x h1 h2, ho x h1 h2], Or.inr ⟨q, zcut mem (S r) q, he.symm, rfl, fun q' hq' => ?_, a2⟩⟩, fun c2 => ?_⟩
            · have := t1 q' hq'
              rw [n5 (20, 0) (by decide) (by decide)]
              exact this
            · rw [zlt (by omega) (by omega)] at c2; omega
          · exfalso
            apply hne
            rwa [zeq (zscan_small hC hl) (by omega)] at c3
    | succ n ih =>
      intro c σ S hk60 hc hl hrd2 hS hC hf ho he
      have hok := zscan_ok (mem := mem) (w := S r) (kd := kd) (S r).length (Nat.le_refl _)
      have nx := ih (c + 1)
      subst hQ
      refine b_X3_doThrough_10 (by omega) ⟨fun c2 => ?_, fun _ => ⟨_, s_seek hC hS (by omega), ?_⟩⟩
      · rw [zlt (by omega) (by omega)] at c2; omega
      · rintro v2 τ3 ⟨rfl, t1, t2, t3⟩
        have hf3 : zSF σ τ3 := ⟨fun n _ _ h3 => t2 n h3, t3⟩
        have hS3 : zRows τ3 S := hS.keep (fun n hn => t2 n (fun e => by rw [e] at hn; omega))
        have hC3 : zCt τ3 S mem kd := hC.keep hf3 (fun _ _ => rfl)
        rw [ztr] at he
        cases hb : (zscan mem (S r) kd (S r).length).2 with
        | none =>
          rw [hb] at he
          rw [hok.1.mpr hb]
          exact ⟨fun c3 => absurd rfl c3, fun _ => ⟨hf.tr hf3, S, hS3, ho, Or.inl ⟨he.symm, rfl⟩⟩⟩
        | some q =>
          rw [hb] at he t1
          have hiq := hok.2 q hb
          have hlt := zcut_len hiq
          have hne : ¬ (zscan mem (S r) kd (S r).length).1 = 0 := fun e => by
            have := hok.1.mp e; rw [hb] at this; cases this
          refine ⟨fun _ => ⟨_, s_doCut hC3 hS3 (by omega) hr19 t1 hiq (by omega) hrd2, ?_⟩, fun c3 => ?_⟩
          · rintro τ5 ⟨n5, R', a1, a2, a3⟩
            have hmo := (hC3.1.row hS3 hiq.2.1).2.2.2
            rw [zadd]
            exact nx τ5 R' hk60 (by omega) (by rw [a2]; omega) (by rw [a2]; exact zcut_red hrd2 (hS3 r (by omega)).2.2.2 hmo) a1 (hC3.keep n5.s (fun x hx => a3 x (by omega) (by omega))) (hf.tr (hf3.tr n5.s)) (fun x h1 h2 => by rw [a3 x h1 h2, ho x h1 h2]) (by rw [a2]; exact he)
          · exfalso
            apply hne
            rwa [zeq (zscan_small hC hl) (by omega)] at c3
  subst hQ
  refine b_X3_doThrough (by omega) (fun E => ⟨fun c => ?_, fun c => ?_⟩)
  · rw [zlt (by omega) (by omega)] at c
    exact loop E k 0 τ R c (by omega) h60 hrd hR h (zSF.rf τ) (fun _ _ _ => rfl) rfl
  · rw [zlt (by omega) (by omega)] at c
    exact ⟨zSF.rf τ, R, hR, fun _ _ _ => rfl, Or.inl ⟨ztr_none k _ (by omega), rfl⟩⟩
end SHORT
