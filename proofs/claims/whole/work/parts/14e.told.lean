/-! ===== relators, words ===== -/
theorem zput_ok' {row : List Nat} {x : Nat} (h : zok row) (hx : x < 8) : zok (zput row x) := zput_ok h hx
theorem zputs_ok : ∀ (xs : List Nat) {row : List Nat}, zok row → zok xs → zok (zputs row xs)
  | [], _, h, _ => h
  | x :: xs, row, h, h2 => zputs_ok xs (zput_ok h (h2 x List.mem_cons_self)) (fun y hy => h2 y (List.mem_cons_of_mem _ hy))
theorem zreps_ok {xs : List Nat} (h : zok xs) : ∀ n, zok (zreps n xs)
  | 0 => zok_nil
  | n + 1 => by rw [zreps_succ]; exact zok_app h (zreps_ok h n)
theorem zbyte_ok {c : Nat} {s : zSt} (h : zok s.1) : zok (zbyte c s).1 := by
  unfold zbyte
  split
  · rename_i hc; exact zput_ok h hc
  · split
    · exact zputs_ok _ h (zreps_ok (zok_dropn h _) _)
    · split
      · exact h
      · split
        · exact h
        · exact h
/-- what all words that are read have in common -/
theorem zread_all {most : Nat} {rel : Bool} {P : List Nat → Prop} (hP : ∀ row, zok row → row.length ≤ 60 → (rel = true → 1 ≤ (zword rel row).length ∧ (zword rel row).length ≤ 14) → P (zword rel row)) : ∀ (cs : List Nat) (k : Nat) (b : Option Nat) (s : zSt) (ws : List (List Nat)), zok s.1 → (∀ x ∈ ws, P x) → ws.length ≤ most → (∀ x ∈ (zread most rel cs k b s ws).2, P x) ∧ (zread most rel cs k b s ws).2.length ≤ most
  | [], k, b, s, ws, _, h2, h3 => ⟨h2, h3⟩
  | c :: cs, k, b, s, ws, h1, h2, h3 => by
    have hs : zok (if b = none ∧ c ≠ 32 then (([], 0, []) : zSt) else s).1 := by
      split
      · exact zok_nil
      · exact h1
    rw [zread]
    generalize (if b = none ∧ c ≠ 32 then (([], 0, []) : zSt) else s) = s' at *
    split
    · split
      · rename_i ht
        have ht := (ztakeB_iff _ _ _ _).mp ht
        refine zread_all hP cs (k + 1) none s' _ hs (fun x hx => ?_) (by rw [List.length_append]; exact ht.2.1)
        rcases List.mem_append.mp hx with q | q
        · exact h2 x q
        · rw [List.mem_singleton.mp q]; exact hP s'.1 hs ht.1 ht.2.2
      · exact ⟨h2, h3⟩
    · exact zread_all hP cs (k + 1) _ _ ws (zbyte_ok hs) h2 h3
theorem zsyn_le : ∀ (cs : List Nat) (k d : Nat) (f j w : Bool) {p : Nat}, zsyn cs k d f j w = some p → p ≤ k + cs.length
  | [], k, d, f, j, w, p, h => by
    rw [zsyn] at h
    split at h
    · cases h
    · cases h; exact Nat.le_refl _
  | c :: cs, k, d, f, j, w, p, h => by
    rw [zsyn] at h
    split at h
    · cases h; omega
    · have := zsyn_le cs (k + 1) _ _ _ _ h
      rw [List.length_cons]; omega
theorem zread_le {most : Nat} {rel : Bool} : ∀ (cs : List Nat) (k : Nat) (b : Option Nat) (s : zSt) (ws : List (List Nat)) {p : Nat}, b.getD 0 ≤ k → (zread most rel cs k b s ws).1 = some p → p ≤ k + cs.length
  | [], k, b, s, ws, p, _, h => by rw [zread] at h; cases h
  | c :: cs, k, b, s, ws, p, hb, h => by
    rw [zread] at h
    have hb' : (if b = none ∧ c ≠ 32 then k else b.getD 0) ≤ k := by split <;> omega
    generalize (if b = none ∧ c ≠ 32 then (([], 0, []) : zSt) else s) = s' at *
    generalize (if b = none ∧ c ≠ 32 then k else b.getD 0) = b' at *
    rw [List.length_cons]
    split at h
    · split at h
      · have := zread_le cs (k + 1) none _ _ (Nat.zero_le _) h
        omega
      · cases h; omega
    · have := zread_le cs (k + 1) _ _ _ (by split <;> simp <;> omega) h
      omega
theorem aRead_le {ts : List Nat} {most : Nat} {rel : Bool} {p : Nat} (h : (aRead ts most rel).1 = some p) : p ≤ ts.length := by
  unfold aRead at h
  split at h
  · rename_i k hk
    cases h
    have := zsyn_le ts 0 0 false false false hk
    omega
  · have := zread_le ts 0 none _ _ (Nat.zero_le _) h
    omega
theorem zends_at {xs : List Nat} : ∀ (n e : Nat), xs.length < 2 * (e + n) → 2 * e ≤ xs.length → ¬ (2 * zends xs e n + 1 < xs.length ∧ zat xs (zends xs e n) = zo (zat xs (xs.length - 1 - zends xs e n)))
  | 0, e, h, h2 => by omega
  | n + 1, e, h, h2 => by
    rw [zends]
    split
    · rename_i hc; exact zends_at n (e + 1) (by omega) (by omega)
    · rename_i hc; exact hc
theorem zo_ne {a : Nat} (h : a < 8) : a ≠ zo a := by unfold zo; split <;> omega
theorem zo_sw {a b : Nat} (ha : a < 8) (hb : b < 8) (h : a = zo b) : b = zo a := by rw [h, zo_zo hb]
theorem zat_turn {x : List Nat} {t k : Nat} (ht : t ≤ x.length) (hk : k < x.length) : zat (zturn x t) k = if t + k < x.length then zat x (t + k) else zat x (t + k - x.length) := by
  unfold zturn
  split
  · rw [zat_app_l (by rw [List.length_drop]; omega), zat_drop]
  · have : zat (x.drop t ++ x.take t) k = zat (x.take t) (k - (x.length - t)) := by
      unfold zat
      rw [List.getD_eq_getElem?_getD, List.getD_eq_getElem?_getD, List.getElem?_append_right (by rw [List.length_drop]; omega), List.length_drop]
    rw [this, zat_take (by omega)]
    congr 1; omega
theorem zat_inv {x : List Nat} {k : Nat} (hk : k < x.length) : zat (zinv x) k = zo (zat x (x.length - 1 - k)) := by
  rw [zat_eq (by rw [zinv_len]; exact hk), zat_eq (by omega)]
  unfold zinv
  rw [List.getElem_reverse, List.getElem_map]
  congr 2
  rw [List.length_map]
/-- reduced, also where its ends meet -/
def zcyc (x : List Nat) : Prop := zred x ∧ (0 < x.length → zat x 0 ≠ zo (zat x (x.length - 1)))
theorem zcyc_turn {x : List Nat} (h : zcyc x) {t : Nat} (ht : t < x.length) : zred (zturn x t) := by
  intro k hk
  rw [zturn_len (by omega)] at hk
  rw [zat_turn (by omega) (by omega), zat_turn (by omega) (by omega)]
  by_cases c : t + k + 1 < x.length
  · rw [if_pos (by omega), if_pos (by omega)]
    exact h.1 (t + k) c
  · rw [if_neg (by omega)]
    by_cases c2 : t + k < x.length
    · rw [if_pos c2]
      have := h.2 (by omega)
      rw [show t + (k + 1) - x.length = 0 by omega, show t + k = x.length - 1 by omega]
      exact this
    · rw [if_neg c2]
      have := h.1 (t + k - x.length) (by omega)
      rw [show t + (k + 1) - x.length = t + k - x.length + 1 by omega]
      exact this
theorem zcyc_inv {x : List Nat} (h : zcyc x) (ho : zok x) : zcyc (zinv x) := by
  constructor
  · intro k hk
    rw [zinv_len] at hk
    rw [zat_inv (by omega), zat_inv (by omega), zo_zo (zat_lt ho (by omega))]
    intro e
    have := h.1 (x.length - 1 - (k + 1)) (by omega)
    rw [show x.length - 1 - (k + 1) + 1 = x.length - 1 - k by omega] at this
    exact this e.symm
  · intro h0
    rw [zinv_len] at h0
    rw [zinv_len, zat_inv (by omega), zat_inv (by omega), zo_zo (zat_lt ho (by omega))]
    have := h.2 h0
    intro e
    rw [show x.length - 1 - (x.length - 1) = 0 by omega, Nat.sub_zero] at e
    exact this e.symm
theorem zring_cyc {x : List Nat} (h : zred x) (ho : zok x) : zcyc (zring x) := by
  refine ⟨zring_red h, fun h0 => ?_⟩
  have h1 := zends_at (xs := x) (x.length + 1) 0 (by omega) (by omega)
  have h2 := zends_le (xs := x) (x.length + 1) 0 (by omega)
  rw [zring_len] at h0 ⊢
  unfold zring
  generalize zends x 0 (x.length + 1) = e at *
  rw [zat_take (by omega), zat_take (by omega), zat_drop, zat_drop, Nat.add_zero]
  by_cases c : 2 * e + 1 < x.length
  · intro q
    refine h1 ⟨c, ?_⟩
    rw [show x.length - 1 - e = e + (x.length - 2 * e - 1) by omega]
    exact q
  · rw [show e + (x.length - 2 * e - 1) = e by omega]
    exact zo_ne (zat_lt ho (by omega))
theorem zpushs0_len (row : List Nat) : (zpushs [] row).length ≤ row.length := by
  have := zpushs_len (ys := row) []
  simp only [List.length_nil] at this
  omega
theorem zword_R {row : List Nat} (h : zok row) (h2 : 1 ≤ (zword true row).length ∧ (zword true row).length ≤ 14) : zRok (zword true row) := by
  unfold zword at h2 ⊢
  rw [if_pos rfl] at h2 ⊢
  have o1 : zok (zpushs [] row) := zok_pushs zok_nil h
  have r1 : zred (zpushs [] row) := zred_pushs zred_nil zok_nil h
  have c1 := zring_cyc r1 o1
  exact ⟨h2.1, h2.2, zring_ok o1, fun t ht => ⟨zcyc_turn c1 ht, zcyc_turn (zcyc_inv c1 (zring_ok o1)) (by rw [zinv_len]; exact ht)⟩⟩
theorem zword_W {row : List Nat} (h : zok row) (h2 : row.length ≤ 60) : zWok (zword false row) := by
  unfold zword
  rw [if_neg (by decide)]
  have := zpushs0_len row
  exact ⟨by omega, zok_pushs zok_nil h, zred_pushs zred_nil zok_nil h⟩
theorem aRead_R (ts : List Nat) : (∀ x ∈ (aRead ts 3 true).2, zRok x) ∧ (aRead ts 3 true).2.length ≤ 3 := by
  unfold aRead
  split
  · exact ⟨fun x hx => absurd hx List.not_mem_nil, Nat.zero_le _⟩
  · exact zread_all (fun row h1 _ h3 => zword_R h1 (h3 rfl)) ts 0 none ([], 0, []) [] zok_nil (fun x hx => absurd hx List.not_mem_nil) (Nat.zero_le _)
theorem aRead_W (ts : List Nat) (most : Nat) : (∀ x ∈ (aRead ts most false).2, zWok x) ∧ (aRead ts most false).2.length ≤ most := by
  unfold aRead
  split
  · exact ⟨fun x hx => absurd hx List.not_mem_nil, Nat.zero_le _⟩
  · exact zread_all (fun row h1 h2 _ => zword_W h1 h2) ts 0 none ([], 0, []) [] zok_nil (fun x hx => absurd hx List.not_mem_nil) (Nat.zero_le _)
theorem zm_all {P : List Nat → Prop} {ws : List (List Nat)} (h : ∀ x ∈ ws, P x) {i : Nat} (hi : i < ws.length) : P (zm ws i) := by
  rw [zm_eq hi]; exact h _ (List.getElem_mem hi)
section TELL
variable {l : Launch} {g : ww_G} {τ : ww_M} {R : Nat → List Nat} {s : zS}
/-- what reading leaves -/
theorem zC.gen {τ' : ww_M} {R' : Nat → List Nat} (h : zC s R τ) (hR : zRows τ' R') (hf : ∀ n : ww_N, n.1 ≠ 21 → n.1 ≠ 22 → n ≠ (4, 0) → n ≠ (6, 0) → n ≠ (7, 0) → n ≠ (2, 0) → τ' n = τ n) (h2' : τ' (2, 0) 1 = τ (2, 0) 1) (ho : ∀ q, q < 6 ∨ 12 ≤ q → R' q = R q) : zC s R' τ' := by
  obtain ⟨h1, h2, h3, h4, h5, h6, h7, h8, h9⟩ := h
  have e0 : τ' (0, 0) = τ (0, 0) := hf _ (by decide) (by decide) (by decide) (by decide) (by decide) (by decide)
  have e20 : τ' (20, 0) = τ (20, 0) := hf _ (by decide) (by decide) (by decide) (by decide) (by decide) (by decide)
  have e3 : τ' (3, 0) = τ (3, 0) := hf _ (by decide) (by decide) (by decide) (by decide) (by decide) (by decide)
  refine ⟨h1, hR, fun w hw => by rw [ho w (by omega)]; exact h3 w hw, h4.keep (fun n hn => hf n (by omega) (by omega) (fun e => by rw [e] at hn; revert hn; decide) (fun e => by rw [e] at hn; revert hn; decide) (fun e => by rw [e] at hn; revert hn; decide) (fun e => by rw [e] at hn; revert hn; decide)) (fun q hq => ho q (by omega)), ?_, by rw [e20]; exact h6, by rw [e0]; exact h7, by rw [e0]; exact h8, by rw [e0]; exact h9⟩
  exact ⟨h5.1, by rw [h2']; exact h5.2.1, fun k hk => by rw [e3]; exact h5.2.2.1 k hk, h5.2.2.2⟩
theorem s_readText {most : Nat} {rel : Bool} (hC : zC s R τ) (hm : most ≤ 6) : ww_T l g mX5_readText [.inr (.inr (0, 0)), .inl (nI most), .inl (zb rel)] τ (ww_QI (fun v τ' => v = zfault (aRead (sT s) most rel).1 ∧ zHi τ τ' ∧ ∃ R', zC s R' τ' ∧ ((aRead (sT s) most rel).1 = none → τ' (4, 0) 1 = nI (aRead (sT s) most rel).2.length ∧ (aRead (sT s) most rel).2.length ≤ 6 ∧ ∀ i, i < (aRead (sT s) most rel).2.length → R' (6 + i) = zm (aRead (sT s) most rel).2 i))) := by
  have hT := hC.2.2.2.2.1
  refine b_X5_readText (fun E => ⟨_, s_wrongPlace hT, ?_⟩)
  rintro v2 τ3 ⟨fx, rfl⟩
  have hi3 : zHi τ τ3 := fun n hn => fx.1 n (fun e => by rw [e] at hn; exact absurd hn (by decide))
  have hc3 : zC s R τ3 := hC.gen (hC.2.1.keep (fun n hn => fx.1 n (fun e => by rw [e] at hn; revert hn; decide))) (fun n _ _ _ _ _ h => fx.1 n h) fx.2 (fun _ _ => rfl)
  cases hs : zsyn (sT s) 0 0 false false false with
  | some k =>
    have e : aRead (sT s) most rel = (some k, []) := by unfold aRead; rw [hs]
    rw [e]
    have hk : k < 2147483648 ∨ True := Or.inr trivial
    refine ⟨fun c => ⟨_, ww_T.imp (s_readAll (most := most) (rel := rel) (hT.tx fx) hc3.2.1 hm ?_) (fun r t h => h), ?_⟩, fun c => ⟨rfl, hi3, R, hc3, fun h => by cases h⟩⟩
    · exact absurd c (by
        have hb := zsyn_le (sT s) 0 0 false false false hs
        show ¬ nI k = (-1 : Int32)
        have := hT.1
        exact zne1 (by omega))
    · intro v5 τ6 h
      exact absurd c (by
        have hb := zsyn_le (sT s) 0 0 false false false hs
        show ¬ nI k = (-1 : Int32)
        have := hT.1
        exact zne1 (by omega))
  | none =>
    have e : aRead (sT s) most rel = zread most rel (sT s) 0 none ([], 0, []) [] := by unfold aRead; rw [hs]
    rw [e]
    refine ⟨fun _ => ⟨_, s_readAll (hT.tx fx) hc3.2.1 hm hs, ?_⟩, fun c => absurd rfl c⟩
    rintro v5 τ6 ⟨f6, rfl, R', k1, k2, k3⟩
    refine ⟨rfl, hi3.tr (fun n hn => f6 n (by omega) (by omega) (fun e => by rw [e] at hn; exact absurd hn (by decide)) (fun e => by rw [e] at hn; exact absurd hn (by decide)) (fun e => by rw [e] at hn; exact absurd hn (by decide))), R', hc3.gen k1 (fun n h1 h2 h3 h4 h5 _ => f6 n h1 h2 h3 h4 h5) (by rw [f6 (2, 0) (by decide) (by decide) (by decide) (by decide) (by decide)]) k2, k3⟩
theorem zfault_n {o : Option Nat} (h : ∀ p, o = some p → p ≤ 100) : (zfault o = (-1 : Int32)) = (o = none) := by
  cases o with
  | none => exact propext ⟨fun _ => rfl, fun _ => rfl⟩
  | some p =>
    have := h p rfl
    refine propext ⟨fun c => absurd c (zne1 (by omega)), fun c => by cases c⟩
theorem cw_relators (hC : zC s R τ) : ww_T l g mX5_relators [.inr (.inr (0, 0))] τ (ww_QI (zCQ τ (aRelators s))) := by
  have l100 := hC.1.2.1
  refine b_X5_relators (fun E => ⟨_, s_readText (most := 3) (rel := true) hC (by omega), ?_⟩)
  rintro v2 τ3 ⟨rfl, f3, R', k3, e3⟩
  rw [zfault_n (fun p hp => by have := aRead_le hp; omega)]
  refine ⟨fun c => ?_, fun c => ?_⟩
  · obtain ⟨q1, q2, q3⟩ := e3 c
    have hw := aRead_R (sT s)
    have ea : aRelators s = (nI (aRead (sT s) 3 true).2.length, uL s (aRead (sT s) 3 true).2) := by unfold aRelators; rw [c]
    rw [ea]
    refine ⟨_, s_become k3.2.1 q1 hw.2 q3 (fun i hi => zm_all hw.1 hi), ?_⟩
    rintro τ5 ⟨f5, R2, k5, e5, m5⟩
    have e4 : τ5 (4, 0) = τ3 (4, 0) := f5 _ (by decide) (by decide) (by decide) (by decide) (by decide) (by decide) (by decide) (by decide) (by decide)
    have e0 : τ5 (0, 0) = τ3 (0, 0) := f5 _ (by decide) (by decide) (by decide) (by decide) (by decide) (by decide) (by decide) (by decide) (by decide)
    have e20 : τ5 (20, 0) = τ3 (20, 0) := f5 _ (by decide) (by decide) (by decide) (by decide) (by decide) (by decide) (by decide) (by decide) (by decide)
    have e2 : τ5 (2, 0) = τ3 (2, 0) := f5 _ (by decide) (by decide) (by decide) (by decide) (by decide) (by decide) (by decide) (by decide) (by decide)
    have e3' : τ5 (3, 0) = τ3 (3, 0) := f5 _ (by decide) (by decide) (by decide) (by decide) (by decide) (by decide) (by decide) (by decide) (by decide)
    obtain ⟨h1, h2, h3, h4, h5, h6, h7, h8, h9⟩ := k3
    refine ⟨by rw [e4, q1], ⟨R2, ⟨h1.1, h1.2.1, h1.2.2.1, hw.2, fun r hr => zm_all hw.1 hr, h1.2.2.2.2.2⟩, k5, fun w hw => by rw [e5 w (by omega)]; exact h3 w hw, m5, ⟨h5.1, by rw [e2]; exact h5.2.1, fun k hk => by rw [e3']; exact h5.2.2.1 k hk, h5.2.2.2⟩, by rw [e20]; exact h6, by rw [e0]; exact h7, by rw [e0]; exact h8, by rw [e0]; exact h9⟩, f3.tr (fun n hn => f5 n (by omega) (by omega) (by omega) (by omega) (by omega) (by omega) (by omega) (by omega) (by omega))⟩
  · cases e : (aRead (sT s) 3 true).1 with
    | none => exact absurd e c
    | some k =>
      have ea : aRelators s = ((-10 : Int32) - nI k, s) := by unfold aRelators; rw [e]
      rw [ea]
      exact ⟨rfl, ⟨R', k3⟩, f3⟩
theorem zspread_0 (W : Nat → List Nat) (w : Nat) : zspread W w [] = W := by
  funext q; unfold zspread; rw [if_neg (by rw [List.length_nil]; omega)]
theorem zspread_s (W : Nat → List Nat) (w : Nat) (ws : List (List Nat)) {k : Nat} (hk : k < ws.length) : zup (zspread W w (ws.take k)) (w + k) (zm ws k) = zspread W w (ws.take (k + 1)) := by
  have l1 : (ws.take k).length = k := by rw [List.length_take]; omega
  have l2 : (ws.take (k + 1)).length = k + 1 := by rw [List.length_take]; omega
  funext q
  unfold zup zspread
  rw [l1, l2]
  by_cases e : q = w + k
  · rw [if_pos e, if_pos (by omega), e, show w + k - w = k by omega]
    unfold zm
    rw [List.getD_eq_getElem?_getD, List.getD_eq_getElem?_getD, List.getElem?_take, if_pos (by omega)]
  · rw [if_neg e]
    by_cases c : w ≤ q ∧ q < w + k
    · rw [if_pos c, if_pos (by omega)]
      unfold zm
      rw [List.getD_eq_getElem?_getD, List.getD_eq_getElem?_getD, List.getElem?_take, List.getElem?_take, if_pos (by omega), if_pos (by omega)]
    · rw [if_neg c, if_neg (by omega)]
theorem cw_words (hC : zC s R τ) (a : Int32) : ww_T l g mX5_words [.inr (.inr (0, 0)), .inl a] τ (ww_QI (zCQ τ (aWords s a))) := by
  have l100 := hC.1.2.1
  refine b_X5_words (fun E => ⟨_, s_isWord a, ?_⟩)
  rintro v2 τ3 ⟨rfl, ⟨w, hw, rfl, hz, rfl⟩ | ⟨hz, rfl⟩⟩
  · refine ⟨fun _ => ?_, fun c => absurd c (by decide)⟩
    rw [zsub (show w ≤ 6 by omega)]
    refine ⟨_, s_readText (most := 6 - w) (rel := false) hC (by omega), ?_⟩
    rintro v5 τ6 ⟨rfl, f6, R', k6, e6⟩
    rw [zfault_n (fun p hp => by have := aRead_le hp; omega)]
    refine ⟨fun c => ?_, fun c => ?_⟩
    · obtain ⟨q1, q2, q3⟩ := e6 c
      have hww := aRead_W (sT s) (6 - w)
      have ea : aWords s (nI w) = (nI (aRead (sT s) (6 - w) false).2.length, uW s (zspread (sW s) w (aRead (sT s) (6 - w) false).2)) := by simp only [aWords, hz]; rw [c]
      rw [ea]
      generalize (aRead (sT s) (6 - w) false).2 = ws at *
      have loop : ∀ (n k : Nat) (σ : ww_M) (S : Nat → List Nat), k + n = ws.length → zC (uW s (zspread (sW s) w (ws.take k))) S σ → (∀ i, i < ws.length → S (6 + i) = zm ws i) → σ (4, 0) 1 = nI ws.length → zHi τ σ → ww_W g mX5_words E (ww_QI (zCQ τ (nI ws.length, uW s (zspread (sW s) w ws)))) 36 [some (.inr (.inr (0, 0))), some (.inl (nI w)), none, some (.inl (nI k))] [] σ := by
        intro n
        induction n with
        | zero =>
          intro k σ S hk hc hS h4 hf
          rw [List.take_of_length_le (by omega)] at hc
          refine b_X5_words_36 ⟨fun _ => ⟨h4, ⟨S, hc⟩, hf⟩, fun q => by rw [h4, zle (by omega) (by omega)] at q; omega⟩
        | succ n ih =>
          intro k σ S hk hc hS h4 hf
          have cw : ww_cap (w + k) = 60 := by unfold ww_cap; rw [if_neg (by omega), if_pos (by omega)]
          have hwk := zm_all hww.1 (show k < ws.length by omega)
          refine b_X5_words_36 ⟨fun q => by rw [h4, zle (by omega) (by omega)] at q; omega, fun _ => ⟨fun q => by rw [zadd, zle (by omega) (by omega)] at q; omega, fun _ => ⟨w + k, by rw [zadd], by omega, k, rfl, by omega, _, s_copy hc.2.1 (by omega) (by omega) (by omega) (by rw [hS k (by omega), cw]; exact hwk.1), ?_⟩⟩⟩
          rintro τ4 ⟨k4, n4⟩
          rw [hS k (by omega)] at k4
          rw [zadd]
          refine ih (k + 1) τ4 (zup S (w + k) (zm ws k)) (by omega) ?_ (fun i hi => by rw [zup_n (by omega)]; exact hS i hi) (by rw [n4 (4, 0) (by decide) (by decide)]; exact h4) (hf.tr n4.hi)
          have := hc.word k4 n4.s (fun q hq _ => zup_n hq) (show w + k < 6 by omega) (zup_s _ _ _) hwk
          have e1 : uW (uW s (zspread (sW s) w (ws.take k))) (zup (sW (uW s (zspread (sW s) w (ws.take k)))) (w + k) (zm ws k)) = uW s (zspread (sW s) w (ws.take (k + 1))) := by
            rw [← zspread_s (sW s) w ws (by omega)]; rfl
          rw [e1] at this
          exact this
      refine loop ws.length 0 τ6 R' (by omega) ?_ q3 q1 f6
      rw [List.take_zero, zspread_0]
      exact k6
    · cases e : (aRead (sT s) (6 - w) false).1 with
      | none => exact absurd e c
      | some k =>
        have ea : aWords s (nI w) = ((-10 : Int32) - nI k, s) := by simp only [aWords, hz]; rw [e]
        rw [ea]
        exact ⟨rfl, ⟨R', k6⟩, f6⟩
  · exact ⟨fun c => absurd rfl c, fun _ => r_bad hC (zHi.rf _) (by simp only [aWords, hz])⟩
end TELL
