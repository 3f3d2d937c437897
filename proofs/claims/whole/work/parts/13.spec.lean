/-! ===== the state, as told: words, the text, relators, the chooser's kind, how often refused ===== -/
abbrev zS : Type := (Nat → List Nat) × List Nat × List (List Nat) × Nat × Nat × Nat × Nat
def sW (s : zS) : Nat → List Nat := s.1
def sT (s : zS) : List Nat := s.2.1
def sL (s : zS) : List (List Nat) := s.2.2.1
def sK (s : zS) : Nat := s.2.2.2.1
def sB (s : zS) : Nat := s.2.2.2.2.1
def sN (s : zS) : Nat := s.2.2.2.2.2.1
def sF (s : zS) : Nat := s.2.2.2.2.2.2
def uW (s : zS) (W : Nat → List Nat) : zS := (W, s.2)
def uT (s : zS) (T : List Nat) : zS := (s.1, T, s.2.2)
def uL (s : zS) (L : List (List Nat)) : zS := (s.1, s.2.1, L, s.2.2.2)
def uK (s : zS) (k : Nat) : zS := (s.1, s.2.1, s.2.2.1, k, s.2.2.2.2)
abbrev zA : Type := Int32 × zS
def zbad (s : zS) : zA := ((-2 : Int32), (s.1, s.2.1, s.2.2.1, s.2.2.2.1, s.2.2.2.2.1 + 1, s.2.2.2.2.2.1, s.2.2.2.2.2.2))
def zno (s : zS) : zA := ((-3 : Int32), (s.1, s.2.1, s.2.2.1, s.2.2.2.1, s.2.2.2.2.1, s.2.2.2.2.2.1 + 1, s.2.2.2.2.2.2))
def zful (s : zS) : zA := ((-4 : Int32), (s.1, s.2.1, s.2.2.1, s.2.2.2.1, s.2.2.2.2.1, s.2.2.2.2.2.1, s.2.2.2.2.2.2 + 1))
def sMB (s : zS) : zMB := zbuild (sL s) (sL s).length
def sM (s : zS) : List (List Nat) := (sMB s).1
def sP (s : zS) (r : Nat) : Nat := zpcs (sM s) (sMB s).2.1 r (sM s).length
def sG (s : zS) (n : Nat) : Bool := zgood (sL s) (sP s) n (sL s).length
/-- a word of the six -/
def zWok (xs : List Nat) : Prop := xs.length ≤ 60 ∧ zok xs ∧ zred xs
def zWF (s : zS) : Prop := (∀ w, w < 6 → zWok (sW s w)) ∧ (sT s).length ≤ 100 ∧ (∀ x ∈ sT s, x < 128) ∧ (sL s).length ≤ 3 ∧ (∀ r, r < (sL s).length → zRok (zm (sL s) r)) ∧ sK s < 5
/-- a number from 0 on, below n -/
def zn (a : Int32) (n : Nat) : Option Nat := if 0 ≤ a.toInt ∧ a.toInt < (n : Int) then some a.toInt.toNat else none
theorem zn_nI {w n : Nat} (h : w < n) (hn : n ≤ 2147483648) : zn (nI w) n = some w := by
  unfold zn
  rw [nI_toInt (by omega), if_pos (by omega)]
  rfl
theorem zn_cases (a : Int32) (n : Nat) (hn : n < 2147483648) : (∃ w, w < n ∧ a = nI w ∧ zn a n = some w) ∨ (zn a n = none ∧ (a < nI 0 ∨ nI n ≤ a)) := by
  by_cases h : 0 ≤ a.toInt ∧ a.toInt < (n : Int)
  · refine Or.inl ⟨a.toInt.toNat, by omega, ?_, by unfold zn; rw [if_pos h]⟩
    apply Int32.toInt_inj.mp
    rw [nI_toInt (by omega)]
    omega
  · refine Or.inr ⟨by unfold zn; rw [if_neg h], ?_⟩
    rw [Int32.lt_iff_toInt_lt, Int32.le_iff_toInt_le, nI_toInt (by omega), nI_toInt (by omega)]
    omega
theorem zll {a b : Int32} (h : a < b) (h2 : b ≤ a) : False := by
  rw [Int32.lt_iff_toInt_lt] at h
  rw [Int32.le_iff_toInt_le] at h2
  omega
/-! ===== the answers ===== -/
def aKeep (s : zS) (w : Nat) (xs : List Nat) : zA := if 60 < xs.length then zful s else (nI xs.length, uW s (zup (sW s) w xs))
def aType (s : zS) (c : Int32) : zA := match zn c 128 with
  | none => zbad s
  | some x => if (sT s).length < 100 then (nI ((sT s).length + 1), uT s (sT s ++ [x])) else zful s
def aClear (s : zS) : zA := (nI (sT s).length, uT s [])
def aRead (ts : List Nat) (most : Nat) (rel : Bool) : Option Nat × List (List Nat) := match zsyn ts 0 0 false false false with
  | some k => (some k, [])
  | none => zread most rel ts 0 none ([], 0, []) []
def aRelators (s : zS) : zA := match (aRead (sT s) 3 true).1 with
  | some k => ((-10 : Int32) - nI k, s)
  | none => (nI (aRead (sT s) 3 true).2.length, uL s (aRead (sT s) 3 true).2)
def zspread (W : Nat → List Nat) (w : Nat) (ws : List (List Nat)) : Nat → List Nat := fun q => if w ≤ q ∧ q < w + ws.length then zm ws (q - w) else W q
def aWords (s : zS) (a : Int32) : zA := match zn a 6 with
  | none => zbad s
  | some w => match (aRead (sT s) (6 - w) false).1 with
    | some k => ((-10 : Int32) - nI k, s)
    | none => (nI (aRead (sT s) (6 - w) false).2.length, uW s (zspread (sW s) w (aRead (sT s) (6 - w) false).2))
def aChooser (s : zS) (a : Int32) : zA := match zn a 5 with
  | none => zbad s
  | some k => (nI (sK s), uK s k)
def aRelator (s : zS) (a b : Int32) : zA := match zn a (sL s).length with
  | none => zbad s
  | some r => match zn b 3 with
    | none => zbad s
    | some k => (if k = 0 then nI (zm (sL s) r).length else if k = 1 then nI (sP s r) else nI ((sMB s).2.2.count r), s)
def aMember (s : zS) (a b : Int32) : zA := match zn a (sM s).length with
  | none => zbad s
  | some m => if b = (-1 : Int32) then (nI (zm (sM s) m).length, s) else match zn b 2147483648 with
    | none => zbad s
    | some k => (if k < (zm (sM s) m).length then nI (zat (zm (sM s) m) k) else (-1 : Int32), s)
def aGood (s : zS) (a : Int32) : zA := match zn a 10 with
  | none => zbad s
  | some n => if n = 0 then zbad s else (zb (sG s n), s)
def aAlike (s : zS) (a b : Int32) : zA := match zn a (sM s).length with
  | none => zbad s
  | some m => match zn b (sM s).length with
    | none => zbad s
    | some o => (nI (zlike (zm (sM s) m) 0 (zm (sM s) o)), s)
def aRank (s : zS) (a : Int32) : zA := match zn a 8 with
  | none => zbad s
  | some p => if p = 2 ∨ p = 3 ∨ p = 5 ∨ p = 7 then (nI (zrank (sL s) p), s) else zbad s
def aLength (s : zS) (a : Int32) : zA := match zn a 6 with
  | none => zbad s
  | some w => (nI (sW s w).length, s)
def aLetter (s : zS) (a b : Int32) : zA := match zn a 6 with
  | none => zbad s
  | some w => match zn b 2147483648 with
    | none => zbad s
    | some k => (if k < (sW s w).length then nI (zat (sW s w) k) else (-1 : Int32), s)
def aAdds (s : zS) (a b : Int32) : zA := match zn a 6 with
  | none => zbad s
  | some w => match zn b 8 with
    | none => zbad s
    | some x => aKeep s w (zpush (sW s w) x)
def aTimes (s : zS) (a b c : Int32) : zA := match zn a 6 with
  | none => zbad s
  | some w => match zn b 6 with
    | none => zbad s
    | some x => match zn c 6 with
      | none => zbad s
      | some t => aKeep s t (zpushs (sW s w) (sW s x))
def aInverse (s : zS) (a c : Int32) : zA := match zn a 6 with
  | none => zbad s
  | some w => match zn c 6 with
    | none => zbad s
    | some t => aKeep s t (zpushs [] (zinv (sW s w)))
/-- a word so many times, or its inverse -/
def zpow (xs : List Nat) : Nat → List Nat
  | 0 => []
  | n + 1 => zpushs (zpow xs n) xs
def aPower (s : zS) (a b c : Int32) : zA := match zn a 6 with
  | none => zbad s
  | some w => match zn (b + nI 9) 19 with
    | none => zbad s
    | some k => match zn c 6 with
      | none => zbad s
      | some t => aKeep s t (if k < 9 then zpow (zinv (sW s w)) (9 - k) else zpow (sW s w) (k - 9))
def aRing (s : zS) (a c : Int32) : zA := match zn a 6 with
  | none => zbad s
  | some w => match zn c 6 with
    | none => zbad s
    | some t => aKeep s t (zring (sW s w))
def aTurn (s : zS) (a b c : Int32) : zA := match zn a 6 with
  | none => zbad s
  | some w => match zn b 60 with
    | none => zbad s
    | some n => match zn c 6 with
      | none => zbad s
      | some t => if n < (sW s w).length then aKeep s t (zpushs [] (zturn (sW s w) n)) else zno s
def aSum (s : zS) (a b : Int32) : zA := match zn a 6 with
  | none => zbad s
  | some w => match zn b 4 with
    | none => zbad s
    | some x => (Int32.ofInt (zsum (sW s w) x), s)
def aCuts (s : zS) (a : Int32) : zA := match zn a 6 with
  | none => zbad s
  | some w => (nI (zscan (sM s) (sW s w) (sK s) (sW s w).length).1, s)
def aCut (s : zS) (a : Int32) : zA := match zn a 6 with
  | none => zbad s
  | some w => match (zscan (sM s) (sW s w) (sK s) (sW s w).length).2 with
    | none => zno s
    | some q => (nI (zcut (sM s) (sW s w) q).length, uW s (zup (sW s) w (zcut (sM s) (sW s w) q)))
def aShorten (s : zS) (a : Int32) : zA := match zn a 6 with
  | none => zbad s
  | some w => (nI (zfin (sM s) (sK s) (sW s w)).1, uW s (zup (sW s) w (zfin (sM s) (sK s) (sW s w)).2))
def aTrail (s : zS) (a b c : Int32) : zA := match zn a 6 with
  | none => zbad s
  | some w => match zn b 2147483648 with
    | none => zbad s
    | some k => match zn c 4 with
      | none => zbad s
      | some t => match ztr (sM s) (sK s) k (sW s w) with
        | none => ((-1 : Int32), s)
        | some q => (if t = 0 then nI q.1.1 else if t = 1 then nI q.1.2.1 else if t = 2 then nI q.1.2.2 else nI q.2.length, s)
/-- shortened to nothing -/
def zNil (s : zS) (xs : List Nat) : Bool := decide ((zfin (sM s) (sK s) xs).2.length = 0)
def aNothing (s : zS) (a : Int32) : zA := match zn a 6 with
  | none => zbad s
  | some w => if sG s 6 = true then (zb (zNil s (sW s w)), s) else zno s
def aSame (s : zS) (a b : Int32) : zA := match zn a 6 with
  | none => zbad s
  | some w => match zn b 6 with
    | none => zbad s
    | some x => if sG s 6 = true then (if 60 < (zpushs (sW s w) (zinv (sW s x))).length then zful s else (zb (zNil s (zpushs (sW s w) (zinv (sW s x)))), s)) else zno s
/-- from n on, so many tries -/
def zord (s : zS) (xs : List Nat) : Nat → Nat → Int32
  | _, 0 => (-1 : Int32)
  | n, k + 1 => if 60 < (zpow xs n).length then (-1 : Int32) else if zNil s (zpow xs n) = true then nI n else zord s xs (n + 1) k
def aOrder (s : zS) (a : Int32) : zA := match zn a 6 with
  | none => zbad s
  | some w => if sG s 6 = true then (zord s (sW s w) 1 6, s) else zno s
/-! ===== what the class holds ===== -/
def zC (s : zS) (R : Nat → List Nat) (τ : ww_M) : Prop := zWF s ∧ zRows τ R ∧ (∀ w, w < 6 → R w = sW s w) ∧ zMade τ R (sL s) ∧ zText τ (sT s) ∧ τ (20, 0) 2 = nI (sK s) ∧ τ (0, 0) 8 = nI (sB s) ∧ τ (0, 0) 9 = nI (sN s) ∧ τ (0, 0) 10 = nI (sF s)
def zCW (s : zS) (τ : ww_M) : Prop := ∃ R, zC s R τ
/-- the other object's cells are as they were -/
def zHi (τ τ' : ww_M) : Prop := ∀ n : ww_N, 30 ≤ n.1 → τ' n = τ n
theorem zHi.rf (τ : ww_M) : zHi τ τ := fun _ _ => rfl
theorem zHi.tr {a b c : ww_M} (h : zHi a b) (h2 : zHi b c) : zHi a c := fun n hn => (h2 n hn).trans (h n hn)
theorem zSF.hi {a b : ww_M} (h : zSF a b) : zHi a b := fun n hn => h.1 n (by omega) (by omega) (fun e => by rw [e] at hn; exact absurd hn (by decide))
theorem zNR.hi {a b : ww_M} (h : zNR a b) : zHi a b := h.s.hi
def zCQ (τ : ww_M) (an : zA) (v : Int32) (τ' : ww_M) : Prop := v = an.1 ∧ zCW an.2 τ' ∧ zHi τ τ'
theorem zMade.keep {τ τ' : ww_M} {R R' : Nat → List Nat} {L : List (List Nat)} (h : zMade τ R L) (hf : ∀ n : ww_N, n.1 = 8 ∨ n.1 = 10 ∨ n.1 = 11 ∨ n.1 = 14 ∨ n.1 = 16 ∨ n.1 = 17 → τ' n = τ n) (hR : ∀ q, (12 ≤ q ∧ q < 15) ∨ 20 ≤ q → R' q = R q) : zMade τ' R' L := by
  obtain ⟨⟨a1, a2, a3⟩, ⟨b1, b2, b3⟩, c1, c2, c3, c4, c5⟩ := h
  have e8 : τ' (8, 0) = τ (8, 0) := hf _ (by decide)
  exact ⟨⟨a1, by rw [e8]; exact a2, fun r hr => by rw [hR _ (by omega)]; exact a3 r hr⟩, ⟨b1, by rw [e8]; exact b2, fun m hm => by rw [hR _ (by omega)]; exact b3 m hm⟩, fun a ha => ⟨by rw [hf _ (by decide)]; exact (c1 a ha).1, fun k hk => by rw [hf (16, a) (by simp)]; exact (c1 a ha).2 k hk⟩, by rw [e8]; exact c2, fun m hm => by rw [hf _ (by decide)]; exact c3 m hm, fun r hr => by rw [hf _ (by decide)]; exact c4 r hr, fun r hr => by rw [hf _ (by decide)]; exact c5 r hr⟩
/-- rows and cut numbers have changed, but no word, relator or member -/
theorem zC.rows {s : zS} {R R' : Nat → List Nat} {τ τ' : ww_M} (h : zC s R τ) (hR : zRows τ' R') (hf : zSF τ τ') (ho : ∀ q, q < 6 ∨ (12 ≤ q ∧ q < 15) ∨ 20 ≤ q → R' q = R q) : zC s R' τ' := by
  obtain ⟨h1, h2, h3, h4, h5, h6, h7, h8, h9⟩ := h
  have e0 : τ' (0, 0) = τ (0, 0) := hf.1 _ (by decide) (by decide) (by decide)
  refine ⟨h1, hR, fun w hw => by rw [ho w (by omega)]; exact h3 w hw, h4.keep (fun n hn => hf.1 n (by omega) (by omega) (fun e => by rw [e] at hn; revert hn; decide)) (fun q hq => ho q (by omega)), ?_, by rw [hf.2]; exact h6, by rw [e0]; exact h7, by rw [e0]; exact h8, by rw [e0]; exact h9⟩
  have e2 : τ' (2, 0) = τ (2, 0) := hf.1 _ (by decide) (by decide) (by decide)
  have e3 : τ' (3, 0) = τ (3, 0) := hf.1 _ (by decide) (by decide) (by decide)
  exact ⟨h5.1, by rw [e2]; exact h5.2.1, fun k hk => by rw [e3]; exact h5.2.2.1 k hk, h5.2.2.2⟩
theorem zWF.word {s : zS} (h : zWF s) {w : Nat} {xs : List Nat} (hx : zWok xs) : zWF (uW s (zup (sW s) w xs)) := by
  obtain ⟨h1, h2⟩ := h
  refine ⟨fun q hq => ?_, h2⟩
  show zWok (zup (sW s) w xs q)
  unfold zup; split
  · exact hx
  · exact h1 q hq
theorem zC.word {s : zS} {R R' : Nat → List Nat} {τ τ' : ww_M} {w : Nat} {xs : List Nat} (h : zC s R τ) (hR : zRows τ' R') (hf : zSF τ τ') (ho : ∀ q, q ≠ w → (q < 6 ∨ (12 ≤ q ∧ q < 15) ∨ 20 ≤ q) → R' q = R q) (hw : w < 6) (hx : R' w = xs) (hok : zWok xs) : zC (uW s (zup (sW s) w xs)) R' τ' := by
  have h' : zC s (zup R' w (R w)) τ' ∨ True := Or.inr trivial
  obtain ⟨h1, h2, h3, h4, h5, h6, h7, h8, h9⟩ := h
  have e0 : τ' (0, 0) = τ (0, 0) := hf.1 _ (by decide) (by decide) (by decide)
  have e2 : τ' (2, 0) = τ (2, 0) := hf.1 _ (by decide) (by decide) (by decide)
  have e3 : τ' (3, 0) = τ (3, 0) := hf.1 _ (by decide) (by decide) (by decide)
  refine ⟨h1.word hok, hR, fun q hq => ?_, h4.keep (fun n hn => hf.1 n (by omega) (by omega) (fun e => by rw [e] at hn; revert hn; decide)) (fun q hq => ho q (by omega) (by omega)), ⟨h5.1, by rw [e2]; exact h5.2.1, fun k hk => by rw [e3]; exact h5.2.2.1 k hk, h5.2.2.2⟩, by rw [hf.2]; exact h6, by rw [e0]; exact h7, by rw [e0]; exact h8, by rw [e0]; exact h9⟩
  show R' q = zup (sW s) w xs q
  by_cases e : q = w
  · subst e; rw [zup_s]; exact hx
  · rw [zup_n e, ho q e (Or.inl hq)]; exact h3 q hq
theorem zC.ct {s : zS} {R : Nat → List Nat} {τ : ww_M} (h : zC s R τ) : zCt τ R (sM s) (sK s) := ⟨h.2.2.2.1.2.1, h.2.2.2.1.2.2.1, h.2.2.2.1.2.2.2.1, h.2.2.2.2.2.1, h.1.2.2.2.2.2⟩
theorem zC.wd {s : zS} {R : Nat → List Nat} {τ : ww_M} (h : zC s R τ) {w : Nat} (hw : w < 6) : R w = sW s w ∧ zWok (sW s w) := ⟨h.2.2.1 w hw, h.1.1 w hw⟩
section ANS
variable {l : Launch} {g : ww_G} {τ : ww_M} {R : Nat → List Nat} {s : zS}
theorem s_isWord (a : Int32) : ww_T l g mX5_isWord [.inl a] τ (ww_QI (fun v τ' => τ = τ' ∧ ((∃ w, w < 6 ∧ a = nI w ∧ zn a 6 = some w ∧ v = nI 1) ∨ (zn a 6 = none ∧ v = nI 0)))) := by
  rcases zn_cases a 6 (by decide) with ⟨w, hw, rfl, hz⟩ | ⟨hz, hr⟩
  · refine b_X5_isWord (fun E => ⟨fun c => ?_, fun _ => ⟨fun c => ?_, fun _ => ⟨rfl, Or.inl ⟨w, hw, rfl, hz, rfl⟩⟩⟩⟩)
    · rw [zlt (by omega) (by omega)] at c; omega
    · rw [zle (by omega) (by omega)] at c; omega
  · refine b_X5_isWord (fun E => ⟨fun c => ⟨rfl, Or.inr ⟨hz, rfl⟩⟩, fun c => ⟨fun c2 => ⟨rfl, Or.inr ⟨hz, rfl⟩⟩, fun c2 => ?_⟩⟩)
    rcases hr with q | q
    · exact absurd q c
    · exact absurd q c2
theorem zC.cnt {k : Nat} {v : Int32} (h : zC s R τ) (s' : zS) (hs : s'.1 = s.1 ∧ s'.2.1 = s.2.1 ∧ s'.2.2.1 = s.2.2.1 ∧ s'.2.2.2.1 = s.2.2.2.1) (h8 : ww_up τ (0, 0) k v (0, 0) 8 = nI (sB s')) (h9 : ww_up τ (0, 0) k v (0, 0) 9 = nI (sN s')) (h10 : ww_up τ (0, 0) k v (0, 0) 10 = nI (sF s')) : zC s' R (ww_up τ (0, 0) k v) := by
  obtain ⟨h1, h2, h3, h4, h5, h6, -⟩ := h
  obtain ⟨s1, s2, s3, s4⟩ := hs
  have ho : ∀ n : ww_N, n ≠ (0, 0) → ww_up τ (0, 0) k v n = τ n := fun n hn => ww_up_f hn
  refine ⟨?_, h2.keep (fun n hn => ho n (fun e => by rw [e] at hn; revert hn; decide)), fun w hw => by show R w = s'.1 w; rw [s1]; exact h3 w hw, ?_, ?_, ?_, h8, h9, h10⟩
  · unfold zWF sW sT sL sK at h1 ⊢; rw [s1, s2, s3, s4]; exact h1
  · unfold sL at h4 ⊢; rw [s3]; exact h4.keep (fun n hn => ho n (fun e => by rw [e] at hn; revert hn; decide)) (fun _ _ => rfl)
  · unfold sT at h5 ⊢; rw [s2]; exact ⟨h5.1, by rw [ho _ (by decide)]; exact h5.2.1, fun k hk => by rw [ho _ (by decide)]; exact h5.2.2.1 k hk, h5.2.2.2⟩
  · unfold sK at h6 ⊢; rw [s4, ho _ (by decide)]; exact h6
theorem zHi.up0 {k : Nat} {v : Int32} : zHi τ (ww_up τ (0, 0) k v) := fun n hn => ww_up_f (fun e => by rw [e] at hn; exact absurd hn (by decide))
theorem r_bad {an : zA} {τ0 : ww_M} (hC : zC s R τ) (hb : zHi τ0 τ) (e : an = zbad s) : ∃ Q : Int32 → ww_M → Prop, ww_T l g mX5_refuse [.inr (.inr (0, 0)), .inl (-2 : Int32)] τ (ww_QI Q) ∧ ∀ (v : Int32) (τ' : ww_M), Q v τ' → zCQ τ0 an v τ' := by
  refine ⟨zCQ τ0 an, b_X5_refuse (fun E => ⟨fun c => absurd c (by decide), fun _ τ2 e2 => ?_, fun _ c => absurd rfl c⟩), fun _ _ h => h⟩
  rw [hC.2.2.2.2.2.2.1, zadd] at e2
  subst e2
  subst e
  exact ⟨rfl, ⟨R, hC.cnt _ ⟨rfl, rfl, rfl, rfl⟩ (ww_up_s _ _ _ _) (by rw [ww_up_k (by decide)]; exact hC.2.2.2.2.2.2.2.1) (by rw [ww_up_k (by decide)]; exact hC.2.2.2.2.2.2.2.2)⟩, hb.tr zHi.up0⟩
theorem r_no {an : zA} {τ0 : ww_M} (hC : zC s R τ) (hb : zHi τ0 τ) (e : an = zno s) : ∃ Q : Int32 → ww_M → Prop, ww_T l g mX5_refuse [.inr (.inr (0, 0)), .inl (-3 : Int32)] τ (ww_QI Q) ∧ ∀ (v : Int32) (τ' : ww_M), Q v τ' → zCQ τ0 an v τ' := by
  refine ⟨zCQ τ0 an, b_X5_refuse (fun E => ⟨fun _ τ2 e2 => ?_, fun c => absurd c (by decide), fun c => absurd rfl c⟩), fun _ _ h => h⟩
  rw [hC.2.2.2.2.2.2.2.1, zadd] at e2
  subst e2
  subst e
  exact ⟨rfl, ⟨R, hC.cnt _ ⟨rfl, rfl, rfl, rfl⟩ (by rw [ww_up_k (by decide)]; exact hC.2.2.2.2.2.2.1) (ww_up_s _ _ _ _) (by rw [ww_up_k (by decide)]; exact hC.2.2.2.2.2.2.2.2)⟩, hb.tr zHi.up0⟩
theorem r_full {an : zA} {τ0 : ww_M} (hC : zC s R τ) (hb : zHi τ0 τ) (e : an = zful s) : ∃ Q : Int32 → ww_M → Prop, ww_T l g mX5_refuse [.inr (.inr (0, 0)), .inl (-4 : Int32)] τ (ww_QI Q) ∧ ∀ (v : Int32) (τ' : ww_M), Q v τ' → zCQ τ0 an v τ' := by
  refine ⟨zCQ τ0 an, b_X5_refuse (fun E => ⟨fun c => absurd c (by decide), fun c => absurd c (by decide), fun _ _ τ2 e2 => ?_⟩), fun _ _ h => h⟩
  rw [hC.2.2.2.2.2.2.2.2, zadd] at e2
  subst e2
  subst e
  exact ⟨rfl, ⟨R, hC.cnt _ ⟨rfl, rfl, rfl, rfl⟩ (by rw [ww_up_k (by decide)]; exact hC.2.2.2.2.2.2.1) (by rw [ww_up_k (by decide)]; exact hC.2.2.2.2.2.2.2.1) (ww_up_s _ _ _ _)⟩, hb.tr zHi.up0⟩
/-- what was made comes to a word, unless it is too long -/
theorem r_keep {an : zA} {τ0 : ww_M} {w : Nat} {xs : List Nat} (hC : zC s R τ) (hb : zHi τ0 τ) (h16 : R 16 = xs) (hw : w < 6) (hrd : zred xs) (e : an = aKeep s w xs) : ∃ Q : Int32 → ww_M → Prop, ww_T l g mX5_keep [.inr (.inr (0, 0)), .inl (nI w)] τ (ww_QI Q) ∧ ∀ (v : Int32) (τ' : ww_M), Q v τ' → zCQ τ0 an v τ' := by
  have hrow := hC.2.1 16 (by omega)
  rw [h16] at hrow
  have c16 : ww_cap 16 = 540 := by decide
  have hl := hrow.1
  refine ⟨zCQ τ0 an, b_X5_keep (fun E => ⟨fun c => ⟨_, s_isWord _, ?_⟩, fun c => ?_⟩), fun _ _ h => h⟩
  · rw [hrow.2.1, zle (by omega) (by omega)] at c
    rintro v2 τ3 ⟨rfl, ⟨w', hw', e1, hz, rfl⟩ | ⟨hz, -⟩⟩
    · refine ⟨fun c => absurd c (by decide), fun _ => ⟨w, rfl, hw, ?_⟩⟩
      have cw : ww_cap w = 60 := by unfold ww_cap; rw [if_neg (by omega), if_pos (by omega)]
      refine ⟨_, s_copy hC.2.1 (by omega) (by omega) (by omega) (by rw [h16, cw]; exact c), ?_⟩
      rintro τ6 ⟨k6, n6⟩
      rw [h16] at k6
      have e16 : τ6 (21, 16) 1 = nI xs.length := by
        have := (k6 16 (by omega)).2.1; rw [zup_n (by omega), h16] at this; exact this
      rw [e16]
      subst e
      unfold aKeep
      rw [if_neg (by omega)]
      exact ⟨rfl, ⟨_, hC.word k6 n6.s (fun q hq _ => zup_n hq) hw (zup_s _ _ _) ⟨c, hrow.2.2.2, hrd⟩⟩, hb.tr n6.hi⟩
    · rw [zn_nI hw (by omega)] at hz; cases hz
  · rw [hrow.2.1, zle (by omega) (by omega)] at c
    exact r_full hC hb (by rw [e]; unfold aKeep; rw [if_pos (by omega)])
end ANS
