/-! ===== reading the words of a text ===== -/
def zput (row : List Nat) (x : Nat) : List Nat := if row.length < 61 then row ++ [x] else row
def zputs (row xs : List Nat) : List Nat := xs.foldl zput row
def zreps (n : Nat) (xs : List Nat) : List Nat := (List.replicate n xs).flatten
/-- the row, where the factor began that a figure would repeat, where open brackets began -/
abbrev zSt : Type := List Nat × Nat × List Nat
def zbyte (c : Nat) (s : zSt) : zSt :=
  if zlet c < 8 then (zput s.1 (zlet c), s.1.length, s.2.2)
  else if 0 < zfig c then (zputs s.1 (zreps (zfig c - 1) (s.1.drop s.2.1)), s.2.1, s.2.2)
  else if c = 40 then (s.1, s.2.1, s.2.2 ++ [s.1.length])
  else if c = 41 then (s.1, zat s.2.2 (s.2.2.length - 1), s.2.2.dropLast)
  else s
def zword (rel : Bool) (row : List Nat) : List Nat := if rel = true then zring (zpushs [] row) else zpushs [] row
def ztake (most : Nat) (rel : Bool) (row : List Nat) (n : Nat) : Prop := row.length ≤ 60 ∧ n < most ∧ (rel = true → 1 ≤ (zword rel row).length ∧ (zword rel row).length ≤ 14)
theorem ztake_dec (most : Nat) (rel : Bool) (row : List Nat) (n : Nat) : ztake most rel row n ∨ ¬ ztake most rel row n := Classical.em _
def ztakeB (most : Nat) (rel : Bool) (row : List Nat) (n : Nat) : Bool := decide (row.length ≤ 60) && (decide (n < most) && (!rel || (decide (1 ≤ (zword rel row).length) && decide ((zword rel row).length ≤ 14))))
theorem ztakeB_iff (most : Nat) (rel : Bool) (row : List Nat) (n : Nat) : ztakeB most rel row n = true ↔ ztake most rel row n := by
  unfold ztakeB ztake
  cases rel <;> simp
/-- the fault (none: the words) -/
def zread (most : Nat) (rel : Bool) : List Nat → Nat → Option Nat → zSt → List (List Nat) → Option Nat × List (List Nat)
  | [], _, _, _, ws => (none, ws)
  | c :: cs, k, b, s, ws =>
    let b' : Nat := if b = none ∧ c ≠ 32 then k else b.getD 0
    let s' : zSt := if b = none ∧ c ≠ 32 then ([], 0, []) else s
    if c = 59 then (if ztakeB most rel s'.1 ws.length = true then zread most rel cs (k + 1) none s' (ws ++ [zword rel s'.1]) else (some b', ws))
    else zread most rel cs (k + 1) (if b = none ∧ c = 32 then none else some b') (zbyte c s') ws
theorem zput_len (row : List Nat) (x : Nat) : (zput row x).length = if row.length < 61 then row.length + 1 else row.length := by
  unfold zput; split
  · rw [List.length_append]; rfl
  · rfl
theorem zput_le {row : List Nat} (h : row.length ≤ 61) (x : Nat) : (zput row x).length ≤ 61 := by rw [zput_len]; split <;> omega
theorem zput_ge (row : List Nat) (x : Nat) : row.length ≤ (zput row x).length := by rw [zput_len]; split <;> omega
theorem zput_ok {row : List Nat} (h : zok row) {x : Nat} (hx : x < 8) : zok (zput row x) := by
  unfold zput; split
  · exact zok_app h (fun y hy => by rw [List.mem_singleton.mp hy]; exact hx)
  · exact h
theorem zputs_nil (row : List Nat) : zputs row [] = row := rfl
theorem zputs_cons (row : List Nat) (x : Nat) (xs : List Nat) : zputs row (x :: xs) = zputs (zput row x) xs := rfl
theorem zputs_app (row xs ys : List Nat) : zputs row (xs ++ ys) = zputs (zputs row xs) ys := by unfold zputs; rw [List.foldl_append]
theorem zputs_ge : ∀ (xs row : List Nat), row.length ≤ (zputs row xs).length
  | [], row => Nat.le_refl _
  | x :: xs, row => Nat.le_trans (zput_ge row x) (zputs_ge xs (zput row x))
theorem zputs_full : ∀ (xs : List Nat) {row : List Nat}, row.length = 61 → zputs row xs = row
  | [], row, h => rfl
  | x :: xs, row, h => by
    rw [zputs_cons]
    have e : zput row x = row := by unfold zput; rw [if_neg (by omega)]
    rw [e]; exact zputs_full xs h
theorem zreps_succ (n : Nat) (xs : List Nat) : zreps (n + 1) xs = xs ++ zreps n xs := by unfold zreps; rw [List.replicate_succ, List.flatten_cons]
theorem zput_at {row : List Nat} {x k : Nat} (h : k < row.length) : zat (zput row x) k = zat row k := by
  unfold zput; split
  · exact zat_app_l h
  · rfl
/-- what the reader holds of a row -/
def zRd (τ : ww_M) (row : List Nat) : Prop := row.length ≤ 61 ∧ τ (4, 0) 3 = nI (min row.length 60) ∧ τ (4, 0) 4 = (if row.length = 61 then nI 1 else nI 0) ∧ (∀ k, k < min row.length 60 → τ (6, 0) k = nI (zat row k)) ∧ zok row
/-- only the reader's row has changed -/
def zRq (τ τ' : ww_M) : Prop := (∀ n : ww_N, n ≠ (4, 0) → n ≠ (6, 0) → τ' n = τ n) ∧ ∀ k, k ≠ 3 → k ≠ 4 → τ' (4, 0) k = τ (4, 0) k
theorem zRq.rf (τ : ww_M) : zRq τ τ := ⟨fun _ _ _ => rfl, fun _ _ _ => rfl⟩
theorem zRq.tr {a b c : ww_M} (h : zRq a b) (h2 : zRq b c) : zRq a c := ⟨fun n h1 h3 => (h2.1 n h1 h3).trans (h.1 n h1 h3), fun k h1 h3 => (h2.2 k h1 h3).trans (h.2 k h1 h3)⟩
section READ
variable {l : Launch} {g : ww_G} {τ : ww_M} {R : Nat → List Nat}
theorem s_putRaw {row : List Nat} {a : Nat} (h : zRd τ row) (ha : a < 8) : ww_T l g mX1_putRaw [.inr (.inr (4, 0)), .inl (nI a)] τ (ww_QV (fun τ' => zRd τ' (zput row a) ∧ zRq τ τ')) := by
  obtain ⟨h1, h2, h3, h4, h5⟩ := h
  refine b_X1_putRaw (fun E => ⟨fun c τ1 e1 => ?_, fun c => ⟨row.length, ?_, ?_, fun τ3 e3 τ4 e4 => ?_⟩⟩)
  · rw [h2, zle (by omega) (by omega)] at c
    subst e1
    refine ⟨⟨zput_le h1 a, ?_, ?_, fun k hk => ?_, zput_ok h5 ha⟩, fun n n1 n2 => ww_up_f n1, fun k k1 k2 => ww_up_k k2⟩
    · rw [ww_up_k (by decide), h2, zput_len]; congr 1; split <;> omega
    · rw [ww_up_s, zput_len, if_pos (by split <;> omega)]
    · rw [ww_up_n (by simp), zput_at (by omega), h4 k (by omega)]
  · rw [h2, zle (by omega) (by omega)] at c
    rw [h2]; congr 1; omega
  · rw [h2, zle (by omega) (by omega)] at c; omega
  · rw [h2, zle (by omega) (by omega)] at c
    have hl : row.length < 60 := by omega
    have e5 : τ3 (4, 0) 3 = nI row.length := by rw [e3, ww_up_n (by simp), h2]; congr 1; omega
    rw [e5, zadd] at e4
    subst e4
    subst e3
    have e6 : zput row a = row ++ [a] := by unfold zput; rw [if_pos (by omega)]
    refine ⟨⟨zput_le h1 a, ?_, ?_, fun k hk => ?_, zput_ok h5 ha⟩, fun n n1 n2 => by rw [ww_up_f n1, ww_up_f n2], fun k k1 k2 => by rw [ww_up_k k1, ww_up_n (by simp)]⟩
    · rw [ww_up_s, zput_len]; congr 1; split <;> omega
    · rw [ww_up_k (by decide), ww_up_n (by simp), h3, zput_len, if_neg (by omega), if_neg (by split <;> omega)]
    · rw [ww_up_n (by simp)]
      rw [zput_len, if_pos (by omega)] at hk
      by_cases hk2 : k = row.length
      · subst hk2; rw [ww_up_s, e6, zat_app_e]
      · rw [ww_up_k hk2, zput_at (by omega), h4 k (by omega)]
theorem s_repeatFactor {row : List Nat} {t fs : Nat} (h : zRd τ row) (ht : 0 < t) (ht2 : t < 10) (hfs : fs ≤ 60) (h5 : τ (4, 0) 5 = nI fs) : ww_T l g mX1_repeatFactor [.inr (.inr (4, 0)), .inl (nI t)] τ (ww_QV (fun τ' => zRd τ' (zputs row (zreps (t - 1) ((row.take 60).drop fs))) ∧ zRq τ τ')) := by
  refine b_X1_repeatFactor (fun E => ?_)
  have hend : τ (4, 0) 3 = nI (min row.length 60) := h.2.1
  have hlen := h.1
  generalize hQ : (ww_QV (fun τ' => zRd τ' (zputs row (zreps (t - 1) ((row.take 60).drop fs))) ∧ zRq τ τ')) = Q
  have hpart : ∀ j, fs ≤ j → j < min row.length 60 → (row.take 60).drop j = zat row j :: (row.take 60).drop (j + 1) := by
    intro j _ hj
    rw [zdrop_cons (by rw [List.length_take]; omega), zat_take (by omega)]
  have inner : ∀ (m j n : Nat) (σ : ww_M) (rw2 : List Nat), j + m = min row.length 60 ∨ (m = 0 ∧ min row.length 60 ≤ j) → fs ≤ j → j ≤ 60 → zRd σ rw2 → zRq τ σ → (∀ k, k < row.length → zat rw2 k = zat row k) → row.length ≤ rw2.length → (∀ σ' rw3, zRd σ' rw3 → zRq τ σ' → (∀ k, k < row.length → zat rw3 k = zat row k) → row.length ≤ rw3.length → rw3 = zputs rw2 ((row.take 60).drop j) → ww_W g mX1_repeatFactor E Q 7 [some (.inr (.inr (4, 0))), some (.inl (nI t)), some (.inl (nI (min row.length 60))), some (.inl (nI n + nI 1)), none] [] σ') → ww_W g mX1_repeatFactor E Q 18 [some (.inr (.inr (4, 0))), some (.inl (nI t)), some (.inl (nI (min row.length 60))), some (.inl (nI n)), some (.inl (nI j))] [] σ := by
    intro m
    induction m with
    | zero =>
      intro j n σ rw2 hj hf hj6 hr hq hk hl K
      have e : (row.take 60).drop j = [] := List.drop_of_length_le (by rw [List.length_take]; omega)
      have K := K σ rw2 hr hq hk hl (by rw [e, zputs_nil])
      subst hQ
      refine b_X1_repeatFactor_18 ⟨fun _ => K, fun _ => ⟨fun _ => K, fun c => ⟨fun _ => K, fun c2 => ?_⟩⟩⟩
      rw [zle (by omega) (by omega)] at c; omega
    | succ m ih =>
      intro j n σ rw2 hj hf hj6 hr hq hk hl K
      have hj2 : j < min row.length 60 := by omega
      have hz := zat_lt h.2.2.2.2 (show j < row.length by omega)
      subst hQ
      refine b_X1_repeatFactor_18 ⟨fun c => ?_, fun _ => ⟨fun c => ?_, fun _ => ⟨fun c => ?_, fun _ => ⟨j, rfl, by omega, ?_⟩⟩⟩⟩
      · rw [zlt (by omega) (by omega)] at c; omega
      · rw [zle (by omega) (by omega)] at c; omega
      · rw [zle (by omega) (by omega)] at c; omega
      · rw [hr.2.2.2.1 j (by omega), hk j (by omega), zadd]
        refine ⟨_, s_putRaw hr hz, ?_⟩
        rintro τ3 ⟨k1, k2⟩
        refine ih (j + 1) n τ3 _ (by omega) (by omega) (by omega) k1 (hq.tr k2) (fun k hk2 => by rw [zput_at (by omega), hk k hk2]) (Nat.le_trans hl (zput_ge _ _)) (fun σ' rw3 a1 a2 a3 a4 a5 => K σ' rw3 a1 a2 a3 a4 ?_)
        rw [hpart j hf hj2, zputs_cons]
        exact a5
  have outer : ∀ (m n : Nat) (σ : ww_M) (rw2 : List Nat), n + m = t → 0 < n → zRd σ rw2 → zRq τ σ → (∀ k, k < row.length → zat rw2 k = zat row k) → row.length ≤ rw2.length → zputs rw2 (zreps m ((row.take 60).drop fs)) = zputs row (zreps (t - 1) ((row.take 60).drop fs)) → ww_W g mX1_repeatFactor E Q 7 [some (.inr (.inr (4, 0))), some (.inl (nI t)), some (.inl (nI (min row.length 60))), some (.inl (nI n)), none] [] σ := by
    intro m
    induction m with
    | zero =>
      intro n σ rw2 hn h0 hr hq hk hl he
      subst hQ
      refine b_X1_repeatFactor_7 ⟨fun c => ?_, fun c => ?_⟩
      · have e : zreps 0 ((row.take 60).drop fs) = [] := rfl
        rw [e, zputs_nil] at he
        rw [← he]
        exact ⟨hr, hq⟩
      · rw [zle (by omega) (by omega)] at c; omega
    | succ m ih =>
      intro n σ rw2 hn h0 hr hq hk hl he
      have K : ww_W g mX1_repeatFactor E Q 18 [some (.inr (.inr (4, 0))), some (.inl (nI t)), some (.inl (nI (min row.length 60))), some (.inl (nI n)), some (.inl (nI fs))] [] σ := by
        refine inner (min row.length 60 - fs) fs n σ rw2 (by omega) (Nat.le_refl _) hfs hr hq hk hl (fun σ' rw3 a1 a2 a3 a4 a5 => ?_)
        rw [zadd]
        refine ih (n + 1) σ' rw3 (by omega) (by omega) a1 a2 a3 a4 ?_
        rw [a5, ← he, zreps_succ, zputs_app]
      subst hQ
      refine b_X1_repeatFactor_7 ⟨fun c => ?_, fun c => ?_⟩
      · rw [zle (by omega) (by omega)] at c; omega
      · rw [hq.2 5 (by decide) (by decide), h5]
        exact K
  rw [hend]
  exact outer (t - 1) 1 τ row (by omega) (by omega) h (zRq.rf τ) (fun _ _ => rfl) (Nat.le_refl _) rfl
/-- what the reader holds of a word that is being read -/
def zRs (τ : ww_M) (s : zSt) (j : Bool) : Prop := zRd τ s.1 ∧ s.2.2.length ≤ 4 ∧ τ (4, 0) 7 = nI s.2.2.length ∧ (∀ i, i < s.2.2.length → τ (7, 0) i = nI (min (zat s.2.2 i) 60)) ∧ (j = true → τ (4, 0) 5 = nI (min s.2.1 60)) ∧ (∀ x ∈ s.2.2, x ≤ s.1.length) ∧ (j = true → s.2.1 ≤ s.1.length)
/-- only the reader's own cells have changed, but how many words it has -/
def zRw (τ τ' : ww_M) : Prop := (∀ n : ww_N, n ≠ (4, 0) → n ≠ (6, 0) → n ≠ (7, 0) → τ' n = τ n) ∧ τ' (4, 0) 1 = τ (4, 0) 1
theorem zRw.rf (τ : ww_M) : zRw τ τ := ⟨fun _ _ _ _ => rfl, rfl⟩
theorem zRw.tr {a b c : ww_M} (h : zRw a b) (h2 : zRw b c) : zRw a c := ⟨fun n h1 h3 h4 => (h2.1 n h1 h3 h4).trans (h.1 n h1 h3 h4), h2.2.trans h.2⟩
theorem zRq.w {a b : ww_M} (h : zRq a b) : zRw a b := ⟨fun n h1 h2 _ => h.1 n h1 h2, h.2 1 (by decide) (by decide)⟩
theorem zRw.up {k : Nat} {v : Int32} (h : k ≠ 1) : zRw τ (ww_up τ (4, 0) k v) := ⟨fun n h1 _ _ => ww_up_f h1, ww_up_k (Ne.symm h)⟩
theorem s_startWord : ww_T l g mX1_startWord [.inr (.inr (4, 0))] τ (ww_QV (fun τ' => zRs τ' ([], 0, []) false ∧ zRw τ τ')) := by
  refine b_X1_startWord (fun E τ1 e1 τ2 e2 τ3 e3 τ4 e4 => ?_)
  subst e1; subst e2; subst e3; subst e4
  refine ⟨⟨⟨by simp, ?_, ?_, fun k hk => by simp at hk, fun x hx => absurd hx List.not_mem_nil⟩, by simp, ?_, fun i hi => by simp at hi, fun q => absurd q (by decide), fun x hx => absurd hx List.not_mem_nil, fun q => absurd q (by decide)⟩, ((((zRw.up (by decide)).tr (zRw.up (by decide))).tr (zRw.up (by decide))).tr (zRw.up (by decide)))⟩
  · rw [ww_up_k (by decide), ww_up_k (by decide), ww_up_k (by decide), ww_up_s]; rfl
  · rw [ww_up_k (by decide), ww_up_k (by decide), ww_up_s]; rfl
  · rw [ww_up_s]; rfl
theorem zlet_not {c : Nat} (h : zlet c < 8) : zfig c = 0 ∧ c ≠ 32 ∧ c ≠ 40 ∧ c ≠ 41 ∧ c ≠ 59 := by
  unfold zlet at h
  split at h
  · unfold zfig; rw [if_neg (by omega)]; omega
  · split at h
    · unfold zfig; rw [if_neg (by omega)]; omega
    · omega
theorem zfig_not {c : Nat} (h : 0 < zfig c) : zlet c = 8 ∧ c ≠ 32 ∧ c ≠ 40 ∧ c ≠ 41 ∧ c ≠ 59 ∧ zfig c < 10 := by
  unfold zfig at h
  split at h
  · unfold zlet zfig; rw [if_neg (by omega), if_neg (by omega), if_pos (by omega)]; omega
  · omega
theorem s_readBlank : ww_T l g mX1_readByte [.inr (.inr (4, 0)), .inl (nI 32)] τ (ww_QV (fun τ' => τ = τ')) := by
  refine b_X1_readByte (fun E => ⟨_, s_letterFor (by omega), ?_⟩)
  rintro v2 τ3 ⟨rfl, rfl⟩
  refine ⟨_, s_figureFor (by omega), ?_⟩
  rintro v5 τ6 ⟨rfl, rfl⟩
  have e1 : zlet 32 = 8 := by decide
  have e2 : zfig 32 = 0 := by decide
  rw [e1, e2, if_neg (by decide), if_neg (by decide)]
  refine ⟨fun _ => ⟨fun _ => ⟨fun _ => b_X1_readByte_84 ⟨fun _ => rfl, fun c => ?_⟩, fun c => ?_⟩, fun c => absurd rfl c⟩, fun c => absurd rfl c⟩
  · rw [zeq (by omega) (by omega)] at c; omega
  · rw [zeq (by omega) (by omega)] at c; omega
theorem s_readByte {s : zSt} {c d : Nat} {f j : Bool} {q : Nat × Bool × Bool × Bool} (h : zRs τ s j) (hd : s.2.2.length = d) (hq : zstep c d f j = some q) (hc : c < 128) (h59 : c ≠ 59) : ww_T l g mX1_readByte [.inr (.inr (4, 0)), .inl (nI c)] τ (ww_QV (fun τ' => zRs τ' (zbyte c s) q.2.2.1 ∧ (zbyte c s).2.2.length = q.1 ∧ zRw τ τ')) := by
  obtain ⟨row, fr, ss⟩ := s
  obtain ⟨h1, h2, h3, h4, h5, h6, h7⟩ := h
  dsimp only at *
  have hlen := h1.1
  refine b_X1_readByte (fun E => ⟨_, s_letterFor hc, ?_⟩)
  rintro v2 τ3 ⟨rfl, rfl⟩
  refine ⟨_, s_figureFor hc, ?_⟩
  rintro v5 τ6 ⟨rfl, rfl⟩
  refine ⟨fun c1 => ?_, fun c1 τ12 e12 => ?_⟩
  · have hl : ¬ zlet c < 8 := fun x => by
      rw [if_pos x] at c1; exact zne1 (by omega) c1
    refine ⟨fun c2 => ?_, fun c2 => ?_⟩
    · have hg : ¬ 0 < zfig c := fun x => by
        rw [if_pos x] at c2; exact zne1 (by have := (zfig_not x).2.2.2.2.2; omega) c2
      have n41 : c ≠ 40 → ww_W g mX1_readByte E (ww_QV (fun τ' => zRs τ' (zbyte c (row, fr, ss)) q.2.2.1 ∧ (zbyte c (row, fr, ss)).2.2.length = q.1 ∧ zRw τ τ')) 84 [some (.inr (.inr (4, 0))), some (.inl (nI c)), none, none] [] τ := by
        intro h40
        refine b_X1_readByte_84 ⟨fun c4 => ?_, fun c4 => ⟨fun c5 => ?_, fun c5 τ1 e1 => ?_⟩⟩
        · rw [zeq (by omega) (by omega)] at c4
          have eb : zbyte c (row, fr, ss) = (row, fr, ss) := by unfold zbyte; rw [if_neg hl, if_neg hg, if_neg h40, if_neg c4]
          unfold zstep at hq
          rw [if_neg hg, if_neg hl, if_neg h40, if_neg c4, if_neg h59] at hq
          split at hq
          · cases hq
            rw [eb]
            exact ⟨⟨h1, h2, h3, h4, fun x => absurd (show false = true from x) (by decide), h6, fun x => absurd (show false = true from x) (by decide)⟩, hd, zRw.rf τ⟩
          · cases hq
        · rw [zeq (by omega) (by omega)] at c4
          rw [h3, zle (by omega) (by omega)] at c5
          unfold zstep at hq
          rw [if_neg (by omega), if_neg hg, if_neg hl, if_neg h40, if_pos c4, if_neg (by omega)] at hq
          cases hq
        · rw [zeq (by omega) (by omega)] at c4
          rw [h3, zle (by omega) (by omega)] at c5
          rw [h3, zsub (by omega)] at e1
          have eb : zbyte c (row, fr, ss) = (row, zat ss (ss.length - 1), ss.dropLast) := by unfold zbyte; rw [if_neg hl, if_neg hg, if_neg h40, if_pos c4]
          unfold zstep at hq
          rw [if_neg (by omega), if_neg hg, if_neg hl, if_neg h40, if_pos c4] at hq
          split at hq
          · cases hq
            subst e1
            refine ⟨ss.length - 1, ww_up_s _ _ _ _, by omega, fun τ3 e3 => ?_⟩
            rw [ww_up_n (by simp), h4 _ (by omega)] at e3
            subst e3
            rw [eb]
            have hz : zat ss (ss.length - 1) ≤ row.length := zat_all h6 (by omega)
            refine ⟨⟨⟨hlen, ?_, ?_, fun k hk => ?_, h1.2.2.2.2⟩, ?_, ?_, fun i hi => ?_, fun _ => ?_, fun x hx => h6 x (List.dropLast_subset _ hx), fun _ => hz⟩, ?_, (zRw.up (by decide)).tr (zRw.up (by decide))⟩
            · rw [ww_up_k (by decide), ww_up_k (by decide)]; exact h1.2.1
            · rw [ww_up_k (by decide), ww_up_k (by decide)]; exact h1.2.2.1
            · rw [ww_up_n (by simp), ww_up_n (by simp)]; exact h1.2.2.2.1 k hk
            · rw [List.length_dropLast]; omega
            · rw [ww_up_k (by decide), ww_up_s, List.length_dropLast]
            · rw [List.length_dropLast] at hi
              rw [ww_up_n (by simp), ww_up_n (by simp), zat_dropLast hi]; exact h4 i (by omega)
            · rw [ww_up_s]
            · rw [List.length_dropLast, hd]
          · cases hq
      refine ⟨fun c3 => ?_, fun c3 => ⟨fun c4 => ?_, fun c4 => ?_⟩⟩
      · rw [zeq (by omega) (by omega)] at c3
        exact n41 c3
      · rw [zeq (by omega) (by omega)] at c3
        rw [h3, zle (by omega) (by omega)] at c4
        unfold zstep at hq
        rw [if_neg (by omega), if_neg hg, if_neg hl, if_pos c3, if_neg (by omega)] at hq
        cases hq
      · rw [zeq (by omega) (by omega)] at c3
        rw [h3, zle (by omega) (by omega)] at c4
        refine ⟨ss.length, h3, by omega, fun τ8 e8 τ9 e9 => ?_⟩
        have e10 : τ8 (4, 0) 7 = nI ss.length := by rw [e8, ww_up_n (by simp), h3]
        rw [e10, zadd] at e9
        rw [h1.2.1] at e8
        subst e9
        subst e8
        unfold zstep at hq
        rw [if_neg (by omega), if_neg hg, if_neg hl, if_pos c3, if_pos (by omega)] at hq
        cases hq
        have eb : zbyte c (row, fr, ss) = (row, fr, ss ++ [row.length]) := by unfold zbyte; rw [if_neg hl, if_neg hg, if_pos c3]
        rw [eb]
        refine ⟨⟨⟨hlen, ?_, ?_, fun k hk => ?_, h1.2.2.2.2⟩, ?_, ?_, fun i hi => ?_, fun x => absurd (show false = true from x) (by decide), fun x hx => ?_, fun x => absurd (show false = true from x) (by decide)⟩, ?_, fun n n1 n2 n3 => by rw [ww_up_f n1, ww_up_f n3], by rw [ww_up_k (by decide), ww_up_n (by simp)]⟩
        · rw [ww_up_k (by decide), ww_up_n (by simp)]; exact h1.2.1
        · rw [ww_up_k (by decide), ww_up_n (by simp)]; exact h1.2.2.1
        · rw [ww_up_n (by simp), ww_up_n (by simp)]; exact h1.2.2.2.1 k hk
        · rw [List.length_append, List.length_singleton]; omega
        · rw [ww_up_s, List.length_append, List.length_singleton]
        · rw [List.length_append, List.length_singleton] at hi
          rw [ww_up_n (by simp)]
          by_cases hi2 : i = ss.length
          · subst hi2; rw [ww_up_s, zat_app_e]
          · rw [ww_up_k hi2, zat_app_l (by omega)]; exact h4 i (by omega)
        · rcases List.mem_append.mp hx with y | y
          · exact h6 x y
          · rw [List.mem_singleton.mp y]; exact Nat.le_refl _
        · rw [List.length_append, List.length_singleton, hd]
    · have hg : 0 < zfig c := by
        by_cases x : 0 < zfig c
        · exact x
        · rw [if_neg x] at c2; exact absurd rfl c2
      have hgn := zfig_not hg
      rw [if_pos hg]
      have eb : zbyte c (row, fr, ss) = (zputs row (zreps (zfig c - 1) (row.drop fr)), fr, ss) := by unfold zbyte; rw [if_neg hl, if_pos hg]
      unfold zstep at hq
      rw [if_neg hgn.2.1, if_pos hg] at hq
      split at hq
      · rename_i hj
        cases hq
        have er : zputs row (zreps (zfig c - 1) ((row.take 60).drop (min fr 60))) = zputs row (zreps (zfig c - 1) (row.drop fr)) := by
          have := h7 hj
          by_cases hr : row.length = 61
          · rw [zputs_full _ hr, zputs_full _ hr]
          · rw [List.take_of_length_le (by omega), Nat.min_eq_left (by omega)]
        refine ⟨_, s_repeatFactor h1 hg hgn.2.2.2.2.2 (by omega) (h5 hj), ?_⟩
        rintro τ11 ⟨k1, k2⟩
        rw [er] at k1
        rw [eb]
        refine ⟨⟨k1, h2, by rw [k2.2 7 (by decide) (by decide)]; exact h3, fun i hi => by rw [k2.1 _ (by simp) (by simp)]; exact h4 i hi, fun x => absurd (show false = true from x) (by decide), fun x hx => Nat.le_trans (h6 x hx) (zputs_ge _ _), fun x => absurd (show false = true from x) (by decide)⟩, hd, k2.w⟩
      · cases hq
  · have hl : zlet c < 8 := by
      by_cases x : zlet c < 8
      · exact x
      · rw [if_neg x] at c1; exact absurd rfl c1
    have hln := zlet_not hl
    rw [if_pos hl]
    have eb : zbyte c (row, fr, ss) = (zput row (zlet c), row.length, ss) := by unfold zbyte; rw [if_pos hl]
    unfold zstep at hq
    rw [if_neg hln.2.1, if_neg (by omega), if_pos hl] at hq
    cases hq
    rw [h1.2.1] at e12
    have hr2 : zRd τ12 row := by
      subst e12
      refine ⟨hlen, ?_, ?_, fun k hk => ?_, h1.2.2.2.2⟩
      · rw [ww_up_k (by decide)]; exact h1.2.1
      · rw [ww_up_k (by decide)]; exact h1.2.2.1
      · rw [ww_up_n (by simp)]; exact h1.2.2.2.1 k hk
    refine ⟨_, s_putRaw hr2 hl, ?_⟩
    rintro τ14 ⟨k1, k2⟩
    rw [eb]
    refine ⟨⟨k1, h2, ?_, fun i hi => ?_, fun _ => ?_, fun x hx => Nat.le_trans (h6 x hx) (zput_ge _ _), fun _ => zput_ge _ _⟩, hd, ?_⟩
    · rw [k2.2 7 (by decide) (by decide), e12, ww_up_k (by decide)]; exact h3
    · rw [k2.1 _ (by simp) (by simp), e12, ww_up_n (by simp)]; exact h4 i hi
    · rw [k2.2 5 (by decide) (by decide), e12, ww_up_s]
    · refine zRw.tr ?_ k2.w
      rw [e12]; exact zRw.up (by decide)
/-- rows, and the reader's own numbers, may have changed -/
def zRf (τ τ' : ww_M) : Prop := ∀ n : ww_N, n.1 ≠ 21 → n.1 ≠ 22 → n ≠ (4, 0) → n ≠ (6, 0) → n ≠ (7, 0) → τ' n = τ n
theorem zRf.rf (τ : ww_M) : zRf τ τ := fun _ _ _ _ _ _ => rfl
theorem zRf.tr {a b c : ww_M} (h : zRf a b) (h2 : zRf b c) : zRf a c := fun n h1 h3 h4 h5 h6 => (h2 n h1 h3 h4 h5 h6).trans (h n h1 h3 h4 h5 h6)
theorem zRw.f {a b : ww_M} (h : zRw a b) : zRf a b := fun n _ _ h4 h5 h6 => h.1 n h4 h5 h6
theorem zNR.f {a b : ww_M} (h : zNR a b) : zRf a b := fun n h1 h2 _ _ _ => h n h1 h2
theorem s_takeWord {s : zSt} {j rel : Bool} {most n : Nat} (h : zRs τ s j) (hR : zRows τ R) (hn : τ (4, 0) 1 = nI n) (hn6 : n ≤ 6) (hm : most ≤ 6) : ww_T l g mX1_takeWord [.inr (.inr (4, 0)), .inl (nI most), .inl (zb rel)] τ (ww_QI (fun v τ' => zRf τ τ' ∧ ((¬ ztake most rel s.1 n ∧ v = nI 0 ∧ ∃ R', zRows τ' R' ∧ ∀ q, q < 6 ∨ 12 ≤ q → R' q = R q) ∨ (ztake most rel s.1 n ∧ v = nI 1 ∧ τ' (4, 0) 1 = nI (n + 1) ∧ zRows τ' (zup R (6 + n) (zword rel s.1)))))) := by
  obtain ⟨row, fr, ss⟩ := s
  obtain ⟨h1, -⟩ := h
  dsimp only at *
  obtain ⟨h2, h3, h4, h5, h6⟩ := h1
  refine b_X1_takeWord (fun E => ⟨fun c => ?_, fun c => ⟨fun c2 => ?_, fun c2 => ⟨fun c3 => ?_, fun c3 => ?_⟩⟩⟩)
  · refine ⟨zRf.rf τ, Or.inl ⟨fun q => ?_, rfl, R, hR, fun _ _ => rfl⟩⟩
    rw [h4, if_neg (by have := q.1; omega)] at c
    exact c rfl
  · rw [hn, zle (by omega) (by omega)] at c2
    exact ⟨zRf.rf τ, Or.inl ⟨fun q => by have := q.2.1; omega, rfl, R, hR, fun _ _ => rfl⟩⟩
  · rw [hn, zle (by omega) (by omega)] at c2
    have hl : row.length ≤ 60 := by
      by_cases x : row.length = 61
      · rw [h4, if_pos x] at c; exact absurd c (by decide)
      · omega
    refine ⟨n, hn, by omega, ?_⟩
    have hcap : ww_cap (6 + n) = 60 := by unfold ww_cap; rw [if_neg (by omega), if_pos (by omega)]
    refine ⟨_, s_wipe hR (by omega), ?_⟩
    rintro τ3 ⟨k1, k2⟩
    generalize hQ : (ww_QI (fun v τ' => zRf τ τ' ∧ ((¬ ztake most rel row n ∧ v = nI 0 ∧ ∃ R', zRows τ' R' ∧ ∀ q, q < 6 ∨ 12 ≤ q → R' q = R q) ∨ (ztake most rel row n ∧ v = nI 1 ∧ τ' (4, 0) 1 = nI (n + 1) ∧ zRows τ' (zup R (6 + n) (zword rel row)))))) = Q
    have fin : ∀ σ : ww_M, zRows σ (zup R (6 + n) (zpushs [] row)) → zNR τ σ → ww_W g mX1_takeWord E Q 82 [some (.inr (.inr (4, 0))), none, some (.inl (zb rel)), some (.inr (.inr (21, 6 + n))), none] [] σ := by
      intro σ hs hq
      subst hQ
      have up : ∀ (σ' : ww_M) (xs : List Nat), zRows σ' (zup R (6 + n) xs) → zNR τ σ' → ∀ τ1 : ww_M, τ1 = ww_up σ' (4, 0) 1 (σ' (4, 0) 1 + nI 1) → zRf τ τ1 ∧ τ1 (4, 0) 1 = nI (n + 1) ∧ zRows τ1 (zup R (6 + n) xs) := by
        intro σ' xs a1 a2 τ1 e1
        rw [a2 (4, 0) (by decide) (by decide), hn, zadd] at e1
        subst e1
        refine ⟨a2.f.tr (fun m _ _ m3 _ _ => ww_up_f m3), ww_up_s _ _ _ _, a1.keep (fun m hm => ww_up_f (fun e => ?_))⟩
        rw [e] at hm
        omega
      refine b_X1_takeWord_82 (by omega) ⟨fun c5 τ1 e1 => ?_, fun c5 => ?_⟩
      · rw [zb_0] at c5
        subst c5
        obtain ⟨b1, b2, b3⟩ := up σ _ hs hq τ1 e1
        exact ⟨b1, Or.inr ⟨⟨hl, by omega, fun x => absurd (show false = true from x) (by decide)⟩, rfl, b2, b3⟩⟩
      · rw [zb_0] at c5
        have hrel : rel = true := by simpa using c5
        subst hrel
        refine ⟨_, s_cutToRing hs (by omega), ?_⟩
        rintro τ3 ⟨a1, a2⟩
        rw [zup_s, zup_up] at a1
        have a3 := (a1 (6 + n) (by omega)).2.1
        rw [zup_s] at a3
        have hlen : (zring (zpushs [] row)).length ≤ 60 := by
          have := (a1 (6 + n) (by omega)).1
          rw [zup_s] at this; omega
        rw [a3, zeq (by omega) (by omega), zle (by omega) (by omega)]
        have hw : zword true row = zring (zpushs [] row) := if_pos rfl
        have keep : ∃ R', zRows τ3 R' ∧ ∀ q, q < 6 ∨ 12 ≤ q → R' q = R q := ⟨_, a1, fun q hq => zup_n (by omega)⟩
        refine ⟨fun c6 => ⟨(hq.tr a2).f, Or.inl ⟨fun x => ?_, rfl, keep⟩⟩, fun c6 => ⟨fun c7 τ4 e4 => ?_, fun c7 => ⟨(hq.tr a2).f, Or.inl ⟨fun x => ?_, rfl, keep⟩⟩⟩⟩
        · have := x.2.2 rfl; rw [hw] at this; omega
        · obtain ⟨b1, b2, b3⟩ := up τ3 _ a1 (hq.tr a2) τ4 e4
          exact ⟨b1, Or.inr ⟨⟨hl, by omega, fun _ => by rw [hw]; omega⟩, rfl, b2, by rw [hw]; exact b3⟩⟩
        · have := x.2.2 rfl; rw [hw] at this; omega
    have loop : ∀ (m k : Nat) (σ : ww_M), k + m = row.length → zRows σ (zup R (6 + n) (zpushs [] (row.take k))) → zNR τ σ → ww_W g mX1_takeWord E Q 46 [some (.inr (.inr (4, 0))), none, some (.inl (zb rel)), some (.inr (.inr (21, 6 + n))), some (.inl (nI k))] [] σ := by
      intro m
      induction m with
      | zero =>
        intro k σ hk hs hq
        have F := fin σ (by rw [List.take_of_length_le (by omega)] at hs; exact hs) hq
        subst hQ
        refine b_X1_takeWord_46 (by omega) ⟨fun _ => F, fun c5 => ?_⟩
        rw [hq (4, 0) (by decide) (by decide), h3, zle (by omega) (by omega)] at c5
        omega
      | succ m ih =>
        intro k σ hk hs hq
        subst hQ
        refine b_X1_takeWord_46 (by omega) ⟨fun c5 => ?_, fun c5 => ⟨fun c6 => ?_, fun c6 => ⟨k, rfl, by omega, ?_⟩⟩⟩
        · rw [hq (4, 0) (by decide) (by decide), h3, zle (by omega) (by omega)] at c5
          omega
        · rw [zle (by omega) (by omega)] at c6; omega
        · rw [hq (6, 0) (by decide) (by decide), h5 k (by omega), zadd]
          have hl2 := zpushs_len (ys := row.take k) []
          rw [List.length_take, List.length_nil] at hl2
          refine ⟨_, s_put hs (by omega) (zat_lt h6 (by omega)) (by rw [zup_s]; omega), ?_⟩
          rintro τ5 ⟨a1, a2⟩
          rw [zup_s, zup_up] at a1
          refine ih (k + 1) τ5 (by omega) ?_ (hq.tr a2)
          rw [ztake_succ (show k < row.length by omega), zpushs_app]
          exact a1
    exact loop row.length 0 τ3 (by omega) (by rw [List.take_zero, zpushs_nil]; exact k1) k2
  · rw [hn, zle (by omega) (by omega)] at c2
    rw [hn, zlt (by omega) (by omega)] at c3
    omega
theorem zsyn_cons {c k d : Nat} {cs : List Nat} {f j w : Bool} (h : zsyn (c :: cs) k d f j w = none) : ∃ q, zstep c d f j = some q ∧ zsyn cs (k + 1) q.1 q.2.1 q.2.2.1 (w || q.2.2.2) = none := by
  rw [zsyn] at h
  cases e : zstep c d f j with
  | none => rw [e] at h; cases h
  | some q => rw [e] at h; exact ⟨q, rfl, h⟩
theorem zstep_59 {d : Nat} {f j : Bool} {q : Nat × Bool × Bool × Bool} (h : zstep 59 d f j = some q) : d = 0 ∧ q = (0, false, false, true) := by
  unfold zstep at h
  rw [if_neg (by decide), if_neg (by decide), if_neg (by decide), if_neg (by decide), if_neg (by decide), if_pos rfl] at h
  split at h
  · rename_i hd; cases h; exact ⟨hd.1, by rw [hd.1]⟩
  · cases h
theorem zstep_32 {d : Nat} {f j : Bool} {q : Nat × Bool × Bool × Bool} (h : zstep 32 d f j = some q) : q = (d, f, false, false) := by
  unfold zstep at h
  rw [if_pos rfl] at h
  exact (Option.some.inj h).symm
def zbg (b : Option Nat) : Int32 := match b with
  | none => (-1 : Int32)
  | some p => nI p
/-- what stands behind reading: the fault, or the words in rows 6 on -/
def zRA (τ : ww_M) (R : Nat → List Nat) (res : Option Nat × List (List Nat)) (v : Int32) (τ' : ww_M) : Prop := zRf τ τ' ∧ v = zfault res.1 ∧ ∃ R', zRows τ' R' ∧ (∀ q, q < 6 ∨ 12 ≤ q → R' q = R q) ∧ (res.1 = none → τ' (4, 0) 1 = nI res.2.length ∧ res.2.length ≤ 6 ∧ ∀ i, i < res.2.length → R' (6 + i) = res.2.getD i [])
theorem s_readAll {ts : List Nat} {most : Nat} {rel : Bool} (hT : zText τ ts) (hR : zRows τ R) (hm : most ≤ 6) (hs : zsyn ts 0 0 false false false = none) : ww_T l g mX1_readAll [.inr (.inr (4, 0)), .inr (.inr (2, 0)), .inl (nI most), .inl (zb rel)] τ (ww_QI (zRA τ R (zread most rel ts 0 none ([], 0, []) []))) := by
  refine b_X1_readAll (fun E τ1 e1 => ?_)
  have loop : ∀ (n k d : Nat) (f j w : Bool) (b : Option Nat) (s : zSt) (ws : List (List Nat)) (σ : ww_M) (S : Nat → List Nat), k + n = ts.length → zsyn (ts.drop k) k d f j w = none → d ≤ 4 → (b = none → d = 0 ∧ j = false) → (∀ p, b = some p → p < 200 ∧ zRs σ s j ∧ s.2.2.length = d) → zRf τ σ → σ (4, 0) 1 = nI ws.length → ws.length ≤ 6 → zRows σ S → (∀ q, q < 6 ∨ 12 ≤ q → S q = R q) → (∀ i, i < ws.length → S (6 + i) = ws.getD i []) → ww_W g mX1_readAll E (ww_QI (zRA τ R (zread most rel (ts.drop k) k b s ws))) 11 [some (.inr (.inr (4, 0))), some (.inr (.inr (2, 0))), some (.inl (nI most)), some (.inl (zb rel)), some (.inl (zbg b)), some (.inl (nI k)), none] [] σ := by
    intro n
    induction n with
    | zero =>
      intro k d f j w b s ws σ S hk hsy hd hb hp hf hw hw6 hS hSo hSi
      have hl := hT.1
      have e : ts.drop k = [] := List.drop_of_length_le (by omega)
      rw [e, zread]
      refine b_X1_readAll_11 ⟨fun c => ⟨hf, rfl, S, hS, hSo, fun _ => ⟨hw, hw6, hSi⟩⟩, fun c => ?_⟩
      rw [hf (2, 0) (by decide) (by decide) (by decide) (by decide) (by decide), hT.2.1, zle (by omega) (by omega)] at c
      omega
    | succ n ih =>
      intro k d f j w b s ws σ S hk hsy hd hb hp hf hw hw6 hS hSo hSi
      have hl := hT.1
      have hT2 : zText σ ts := ⟨hT.1, by rw [hf (2, 0) (by decide) (by decide) (by decide) (by decide) (by decide)]; exact hT.2.1, fun i hi => by rw [hf (3, 0) (by decide) (by decide) (by decide) (by decide) (by decide)]; exact hT.2.2.1 i hi, hT.2.2.2⟩
      have hc : zat ts k < 128 := zat_all hT.2.2.2 (by omega)
      rw [zdrop_cons (show k < ts.length by omega)] at hsy ⊢
      obtain ⟨q, hq, hsy2⟩ := zsyn_cons hsy
      generalize hcc : zat ts k = c at hq hc hsy ⊢
      refine b_X1_readAll_11 ⟨fun c => ?_, fun _ => ?_⟩
      · rw [hT2.2.1, zle (by omega) (by omega)] at c; omega
      · refine ⟨_, s_byteAt hT2 (by omega), ?_⟩
        rintro v2 τ3 ⟨rfl, rfl⟩
        rw [if_pos (by omega), hcc]
        -- a word is being read (or begins here)
        have go : ∀ (p : Nat) (s' : zSt) (j' : Bool) (σ' : ww_M), p < 200 → zRs σ' s' j' → s'.2.2.length = d → zstep c d f j' = some q → zRf τ σ' → σ' (4, 0) 1 = nI ws.length → zRows σ' S → zread most rel (c :: ts.drop (k + 1)) k b s ws = (if c = 59 then (if ztakeB most rel s'.1 ws.length = true then zread most rel (ts.drop (k + 1)) (k + 1) none s' (ws ++ [zword rel s'.1]) else (some p, ws)) else zread most rel (ts.drop (k + 1)) (k + 1) (some p) (zbyte c s') ws) → ww_W g mX1_readAll E (ww_QI (zRA τ R (zread most rel (c :: ts.drop (k + 1)) k b s ws))) 49 [some (.inr (.inr (4, 0))), some (.inr (.inr (2, 0))), some (.inl (nI most)), some (.inl (zb rel)), some (.inl (nI p)), some (.inl (nI k)), some (.inl (nI c))] [] σ' := by
          intro p s' j' σ' hp6 hrs hds hq' hf' hw' hS' he
          rw [he]
          refine b_X1_readAll_49 ⟨fun c1 => ?_, fun c1 => ?_⟩
          · rw [zeq (by omega) (by omega)] at c1
            subst c1
            rw [if_pos rfl]
            obtain ⟨hd0, hqe⟩ := zstep_59 hq'
            refine ⟨_, s_takeWord hrs hS' hw' hw6 hm, ?_⟩
            rintro v τ' ⟨a1, ⟨a2, rfl, R', a3, a4⟩ | ⟨a2, rfl, a3, a4⟩⟩
            · have hB : ¬ ztakeB most rel s'.1 ws.length = true := fun x => a2 ((ztakeB_iff _ _ _ _).mp x)
              rw [if_neg hB]
              exact ⟨fun _ => ⟨hf'.tr a1, rfl, R', a3, fun x hx => by rw [a4 x hx, hSo x hx], fun x => by cases x⟩, fun x => absurd rfl x⟩
            · have hB : ztakeB most rel s'.1 ws.length = true := (ztakeB_iff _ _ _ _).mpr a2
              have hlt := a2.2.1
              rw [if_pos hB, zadd]
              refine ⟨fun x => absurd x (by decide), fun _ => ?_⟩
              subst hqe
              refine ih (k + 1) 0 false false (w || true) none s' (ws ++ [zword rel s'.1]) τ' (zup S (6 + ws.length) (zword rel s'.1)) (by omega) hsy2 (by omega) (fun _ => ⟨rfl, rfl⟩) (fun x hx => by cases hx) (hf'.tr a1) (by rw [List.length_append]; exact a3) (by rw [List.length_append, List.length_singleton]; omega) a4 (fun x hx => by rw [zup_n (by omega), hSo x hx]) (fun i hi => ?_)
              rw [List.length_append, List.length_singleton] at hi
              by_cases hi2 : i = ws.length
              · subst hi2
                rw [zup_s, List.getD_eq_getElem?_getD, List.getElem?_append_right (Nat.le_refl _), Nat.sub_self]; rfl
              · rw [zup_n (by omega), hSi i (by omega), List.getD_eq_getElem?_getD, List.getD_eq_getElem?_getD, List.getElem?_append_left (by omega)]
          · rw [zeq (by omega) (by omega)] at c1
            rw [if_neg c1]
            refine ⟨_, s_readByte hrs hds hq' hc c1, ?_⟩
            rintro τ5 ⟨a1, a2, a3⟩
            rw [zadd]
            exact ih (k + 1) q.1 q.2.1 q.2.2.1 (w || q.2.2.2) (some p) (zbyte c s') ws τ5 S (by omega) hsy2 (zstep_d hq' hd) (fun x => by cases x) (fun x hx => by cases hx; exact ⟨hp6, a1, a2⟩) (hf'.tr a3.f) (by rw [a3.2]; exact hw') hw6 (hS'.keep (fun m hm => a3.1 m (fun e => by rw [e] at hm; omega) (fun e => by rw [e] at hm; omega) (fun e => by rw [e] at hm; omega))) hSo hSi
        cases b with
        | some p =>
          obtain ⟨hp6, hrs, hds⟩ := hp p rfl
          refine ⟨fun _ => ?_, fun x => absurd x (zne1 (by omega))⟩
          refine go p s j σ hp6 hrs hds hq hf hw hS ?_
          rw [zread]
          simp
        | none =>
          obtain ⟨hd0, hj0⟩ := hb rfl
          refine ⟨fun x => absurd rfl x, fun _ => ⟨fun c1 => ?_, fun c1 => ?_⟩⟩
          · rw [zeq (by omega) (by omega)] at c1
            subst c1
            have hqe := zstep_32 hq
            subst hqe
            refine b_X1_readAll_49 ⟨fun c2 => absurd c2 (by decide), fun _ => ⟨_, s_readBlank, ?_⟩⟩
            rintro τ5 rfl
            have key := ih (k + 1) d f false (w || false) none s ws σ S (by omega) hsy2 hd (fun _ => ⟨hd0, rfl⟩) (fun x hx => by cases hx) hf hw hw6 hS hSo hSi
            rw [zadd]
            have e : zread most rel (32 :: ts.drop (k + 1)) k none s ws = zread most rel (ts.drop (k + 1)) (k + 1) none s ws := by
              rw [zread]
              have eb : zbyte 32 s = s := by
                unfold zbyte
                rw [if_neg (by decide), if_neg (by decide), if_neg (by decide), if_neg (by decide)]
              simp [eb]
            rw [e]
            exact key
          · rw [zeq (by omega) (by omega)] at c1
            refine ⟨_, s_startWord, ?_⟩
            rintro τ5 ⟨a1, a2⟩
            subst hd0
            subst hj0
            refine go k ([], 0, []) false τ5 (by omega) a1 rfl hq (hf.tr a2.f) (by rw [a2.2]; exact hw) (hS.keep (fun m hm => a2.1 m (fun e => by rw [e] at hm; omega) (fun e => by rw [e] at hm; omega) (fun e => by rw [e] at hm; omega))) ?_
            rw [zread]
            simp [c1]
  have hf : zRf τ τ1 := fun n _ _ n3 _ _ => by rw [e1]; exact ww_up_f n3
  have key := loop ts.length 0 0 false false false none ([], 0, []) [] τ1 R (by omega) (by rw [List.drop_zero]; exact hs) (by omega) (fun _ => ⟨rfl, rfl⟩) (fun x hx => by cases hx) hf (by rw [e1, ww_up_s]; rfl) (by simp) (hR.keep (fun m hm => by rw [e1]; exact ww_up_f (fun e => by rw [e] at hm; omega))) (fun _ _ => rfl) (fun i hi => by simp at hi)
  rw [List.drop_zero] at key
  exact key
end READ
