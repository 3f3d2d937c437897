/-! ===== the rank by a prime ===== -/
def zpiv (M : Nat → Nat → Nat) (c : Nat) : Nat → Nat → Nat
  | w, 0 => w
  | w, k + 1 => if M w c = 0 then zpiv M c (w + 1) k else w
def zswap (M : Nat → Nat → Nat) (a b : Nat) : Nat → Nat → Nat := fun r k => if r = a then M b k else if r = b then M a k else M r k
def zclr (M : Nat → Nat → Nat) (p t c n : Nat) : Nat → Nat → Nat := fun r k => if t < r ∧ r < n then (M r k * M t c + (p - M r c) * M t k) % p else M r k
def zrk (p n : Nat) : Nat → Nat → (Nat → Nat → Nat) → Nat → Nat
  | 0, _, _, rk => rk
  | j + 1, c, M, rk => if rk < n then (if zpiv M c rk (n - rk) < n then zrk p n j (c + 1) (zclr (zswap M rk (zpiv M c rk (n - rk))) p rk c n) (rk + 1) else zrk p n j (c + 1) M rk) else rk
def zM0 (rels : List (List Nat)) (p : Nat) : Nat → Nat → Nat := fun r c => (zsum (zm rels r) c % (p : Int)).toNat
def zrank (rels : List (List Nat)) (p : Nat) : Nat := zrk p rels.length 4 0 (zM0 rels p) 0
theorem zfm : ∀ i : Nat, i < 129 → ∀ p : Nat, p < 8 → 2 ≤ p → ¬ nI p = nI 0 ∧ (if nI 0 ≤ Int32.ofInt ((i : Int) - 64) ^^^ nI p then Int32.ofInt ((i : Int) - 64) - Int32.ofInt ((i : Int) - 64) / nI p * nI p else if Int32.ofInt ((i : Int) - 64) - Int32.ofInt ((i : Int) - 64) / nI p * nI p = nI 0 then Int32.ofInt ((i : Int) - 64) - Int32.ofInt ((i : Int) - 64) / nI p * nI p else (Int32.ofInt ((i : Int) - 64) - Int32.ofInt ((i : Int) - 64) / nI p * nI p) + nI p) = nI ((((i : Int) - 64) % (p : Int)).toNat) := by decide +kernel
theorem zofi (n : Nat) : nI n = Int32.ofInt (n : Int) := (Int32.ofInt_eq_ofNat).symm
theorem zofs (a b : Nat) : nI a - nI b = Int32.ofInt ((a : Int) - (b : Int)) := by rw [zofi, zofi, Int32.ofInt_sub]
theorem zmodeq {a b c d p : Nat} (hd : d ≤ p) (hp : 0 < p) : ((((a * c : Nat) : Int) - ((b * d : Nat) : Int)) % (p : Int)).toNat = (a * c + (p - d) * b) % p := by
  have e : ((a * c : Nat) : Int) - ((b * d : Nat) : Int) = ((a * c + (p - d) * b : Nat) : Int) - (p : Int) * (b : Int) := by
    obtain ⟨k, rfl⟩ := Nat.exists_eq_add_of_le hd
    rw [Nat.add_sub_cancel_left]
    push_cast
    rw [Int.add_mul, Int.mul_comm (b : Int) (d : Int)]
    omega
  rw [e, Int.sub_mul_emod_self_left]
  omega
section RANK
variable {l : Launch} {g : ww_G} {τ : ww_M} {R : Nat → List Nat}
theorem s_floorMod {X : Int} {p : Nat} (h1 : -64 ≤ X) (h2 : X ≤ 64) (hp : 2 ≤ p) (hp8 : p < 8) : ww_T l g mJ9_floorMod_7cf53 [.inl (Int32.ofInt X), .inl (nI p)] τ (ww_QI (fun v τ' => τ = τ' ∧ v = nI ((X % (p : Int)).toNat))) := by
  obtain ⟨i, hi, rfl⟩ : ∃ i : Nat, i < 129 ∧ X = (i : Int) - 64 := ⟨(X + 64).toNat, by omega, by omega⟩
  obtain ⟨k1, k2⟩ := zfm i hi p hp8 hp
  refine b_J9_floorMod_7cf53 (fun E => ⟨k1, fun c => ⟨rfl, ?_⟩, fun c => ⟨fun c2 => ⟨rfl, ?_⟩, fun c2 => ⟨rfl, ?_⟩⟩⟩)
  · rw [if_pos c] at k2; exact k2
  · rw [if_neg c, if_pos c2] at k2; exact k2
  · rw [if_neg c, if_neg c2] at k2; exact k2
/-- the class's matrix -/
def zMx (τ : ww_M) (n p : Nat) (M : Nat → Nat → Nat) : Prop := ∀ r, r < n → ∀ k, k < 4 → τ (19, r) k = nI (M r k) ∧ M r k < p
def zXF (τ τ' : ww_M) : Prop := ∀ n : ww_N, n.1 ≠ 19 → τ' n = τ n
theorem zXF.rf (τ : ww_M) : zXF τ τ := fun _ _ => rfl
theorem zXF.tr {a b c : ww_M} (h : zXF a b) (h2 : zXF b c) : zXF a c := fun n hn => (h2 n hn).trans (h n hn)
theorem zpiv_spec {M : Nat → Nat → Nat} {c : Nat} : ∀ (k w : Nat), w ≤ zpiv M c w k ∧ zpiv M c w k ≤ w + k
  | 0, w => by rw [zpiv]; omega
  | k + 1, w => by
    rw [zpiv]; split
    · have := zpiv_spec (M := M) (c := c) k (w + 1); omega
    · omega
theorem s_bringPivot {n p t c : Nat} {M : Nat → Nat → Nat} (hn : τ (8, 0) 1 = nI n) (hn3 : n ≤ 3) (hp : p < 8) (hM : zMx τ n p M) (ht : t < n) (hc : c < 4) : ww_T l g mX0_bringPivot [.inr (.inr (8, 0)), .inl (nI t), .inl (nI c)] τ (ww_QI (fun v τ' => zXF τ τ' ∧ ((zpiv M c t (n - t) < n ∧ v = nI 1 ∧ zMx τ' n p (zswap M t (zpiv M c t (n - t)))) ∨ (¬ zpiv M c t (n - t) < n ∧ v = nI 0 ∧ zMx τ' n p M)))) := by
  refine b_X0_bringPivot (fun E => ?_)
  generalize hQ : (ww_QI (fun v τ' => zXF τ τ' ∧ ((zpiv M c t (n - t) < n ∧ v = nI 1 ∧ zMx τ' n p (zswap M t (zpiv M c t (n - t)))) ∨ (¬ zpiv M c t (n - t) < n ∧ v = nI 0 ∧ zMx τ' n p M)))) = Q
  have sw : ∀ w, t ≤ w → w < n → w = zpiv M c t (n - t) → ∀ (m k : Nat) (σ : ww_M), k + m = 4 → zXF τ σ → (∀ r, r < n → ∀ j, j < 4 → σ (19, r) j = nI (if j < k then zswap M t w r j else M r j)) → ww_W g mX0_bringPivot E Q 24 [some (.inr (.inr (8, 0))), some (.inl (nI t)), none, some (.inl (nI w)), some (.inl (nI k)), none] [] σ := by
    intro w htw hwn hwe m
    induction m with
    | zero =>
      intro k σ hk hf hs
      subst hQ
      refine b_X0_bringPivot_24 ⟨fun _ => ⟨hf, Or.inl ⟨by omega, rfl, fun r hr j hj => ?_⟩⟩, fun c => ?_⟩
      · rw [hs r hr j hj, if_pos (by omega), ← hwe]
        refine ⟨rfl, ?_⟩
        unfold zswap
        split
        · exact (hM w hwn j hj).2
        · split
          · exact (hM t ht j hj).2
          · exact (hM r hr j hj).2
      · rw [zle (by omega) (by omega)] at c; omega
    | succ m ih =>
      intro k σ hk hf hs
      have nx := fun σ' a b => ih (k + 1) σ' (by omega) a b
      subst hQ
      refine b_X0_bringPivot_24 ⟨fun c => ?_, fun _ => ⟨t, rfl, by omega, k, rfl, by omega, t, rfl, by omega, w, rfl, by omega, k, rfl, by omega, k, rfl, by omega, fun τ7 e7 => ⟨w, rfl, by omega, k, rfl, by omega, fun τ10 e10 => ?_⟩⟩⟩
      · rw [zle (by omega) (by omega)] at c; omega
      · rw [zadd]
        have s1 := hs w hwn k (by omega)
        have s2 := hs t ht k (by omega)
        rw [if_neg (by omega)] at s1 s2
        rw [s1] at e7
        rw [s2] at e10
        refine nx τ10 (hf.tr (fun x hx => by rw [e10, ww_up_f (fun e => hx (by rw [e])), e7, ww_up_f (fun e => hx (by rw [e]))])) (fun r hr j hj => ?_)
        rw [e10]
        by_cases hjk : j = k
        · subst hjk
          rw [if_pos (by omega)]
          unfold zswap
          by_cases hrw : r = w
          · subst hrw
            rw [ww_up_s]
            by_cases hrt : r = t
            · rw [if_pos hrt, ← hrt]
            · rw [if_neg hrt, if_pos rfl]
          · rw [ww_up_n (by simp [hrw]), e7]
            by_cases hrt : r = t
            · subst hrt; rw [ww_up_s, if_pos rfl]
            · rw [ww_up_n (by simp [hrt]), if_neg hrt, if_neg hrw]
              have := hs r hr j hj
              rw [if_neg (by omega)] at this
              exact this
        · rw [ww_up_k hjk, e7, ww_up_k hjk, hs r hr j hj]
          congr 1
          by_cases hj2 : j < k
          · rw [if_pos hj2, if_pos (by omega)]
          · rw [if_neg hj2, if_neg (by omega)]
  have loop : ∀ (m w : Nat), w + m = n → t ≤ w → zpiv M c w m = zpiv M c t (n - t) → ww_W g mX0_bringPivot E Q 2 [some (.inr (.inr (8, 0))), some (.inl (nI t)), some (.inl (nI c)), some (.inl (nI w)), none, none] [] τ := by
    intro m
    induction m with
    | zero =>
      intro w hw htw he
      rw [zpiv] at he
      subst hQ
      refine b_X0_bringPivot_2 ⟨fun _ => ⟨zXF.rf τ, Or.inr ⟨by omega, rfl, hM⟩⟩, fun c => ?_⟩
      rw [hn, zle (by omega) (by omega)] at c; omega
    | succ m ih =>
      intro w hw htw he
      rw [zpiv] at he
      have nx := ih (w + 1) (by omega) (by omega)
      have go := sw w htw (by omega)
      obtain ⟨m1, m2⟩ := hM w (by omega) c hc
      subst hQ
      refine b_X0_bringPivot_2 ⟨fun c => ?_, fun _ => ⟨w, rfl, by omega, c, rfl, hc, ?_⟩⟩
      · rw [hn, zle (by omega) (by omega)] at c; omega
      · rw [m1, zeq (by omega) (by omega)]
        refine ⟨fun c2 => ?_, fun c2 => ?_⟩
        · rw [if_pos c2] at he; rw [zadd]; exact nx he
        · rw [if_neg c2] at he
          exact go he 4 0 τ (by omega) (zXF.rf τ) (fun r hr j hj => by rw [if_neg (by omega)]; exact (hM r hr j hj).1)
  exact loop (n - t) t (by omega) (Nat.le_refl _) rfl
theorem zmul49 {a b : Nat} (ha : a < 7) (hb : b < 7) : a * b ≤ 36 := Nat.le_trans (Nat.mul_le_mul (show a ≤ 6 by omega) (show b ≤ 6 by omega)) (by decide)
theorem s_clearBelow {n p t c : Nat} {M : Nat → Nat → Nat} (hn : τ (8, 0) 1 = nI n) (hn3 : n ≤ 3) (hp2 : 2 ≤ p) (hp : p < 8) (hM : zMx τ n p M) (ht : t < n) (hc : c < 4) : ww_T l g mX0_clearBelow [.inr (.inr (8, 0)), .inl (nI t), .inl (nI c), .inl (nI p)] τ (ww_QV (fun τ' => zXF τ τ' ∧ zMx τ' n p (zclr M p t c n))) := by
  refine b_X0_clearBelow (fun E => ⟨t, rfl, by omega, c, rfl, hc, ?_⟩)
  rw [(hM t ht c hc).1]
  generalize hQ : (ww_QV (fun τ' => zXF τ τ' ∧ zMx τ' n p (zclr M p t c n))) = Q
  have hml : ∀ a b, a < p → b < p → a * b ≤ 36 := fun a b ha hb => zmul49 (by omega) (by omega)
  have inner : ∀ r, t < r → r < n → ∀ (m k : Nat) (σ : ww_M), k + m = 4 → zXF τ σ → (∀ q, q < n → ∀ j, j < 4 → σ (19, q) j = nI (if q < r ∨ (q = r ∧ j < k) then zclr M p t c n q j else M q j)) → (∀ σ' : ww_M, zXF τ σ' → (∀ q, q < n → ∀ j, j < 4 → σ' (19, q) j = nI (if q < r + 1 then zclr M p t c n q j else M q j)) → ww_W g mX0_clearBelow E Q 15 [some (.inr (.inr (8, 0))), some (.inl (nI t)), some (.inl (nI c)), some (.inl (nI p)), some (.inl (nI (M t c))), some (.inl (nI r + nI 1)), none, none] [] σ') → ww_W g mX0_clearBelow E Q 38 [some (.inr (.inr (8, 0))), some (.inl (nI t)), some (.inl (nI c)), some (.inl (nI p)), some (.inl (nI (M t c))), some (.inl (nI r)), some (.inl (nI (M r c))), some (.inl (nI k))] [] σ := by
    intro r htr hrn m
    induction m with
    | zero =>
      intro k σ hk hf hs K
      have K := K σ hf (fun q hq j hj => by
        rw [hs q hq j hj]; congr 1
        by_cases e : q < r + 1
        · rw [if_pos (by omega), if_pos e]
        · rw [if_neg (by omega), if_neg e])
      subst hQ
      refine b_X0_clearBelow_38 ⟨fun _ => K, fun c2 => ?_⟩
      rw [zle (by omega) (by omega)] at c2; omega
    | succ m ih =>
      intro k σ hk hf hs K
      have nx := fun σ' a b => ih (k + 1) σ' (by omega) a b K
      have s1 := hs r hrn k (by omega)
      rw [if_neg (by omega)] at s1
      have s2 := hs t ht k (by omega)
      rw [if_pos (by omega)] at s2
      have ez : zclr M p t c n t k = M t k := by unfold zclr; rw [if_neg (by omega)]
      rw [ez] at s2
      have b1 := hml (M r k) (M t c) (hM r hrn k (by omega)).2 (hM t ht c hc).2
      have b2 := hml (M t k) (M r c) (hM t ht k (by omega)).2 (hM r hrn c hc).2
      subst hQ
      refine b_X0_clearBelow_38 ⟨fun c2 => ?_, fun _ => ⟨fun c2 => ?_, fun _ => ⟨r, rfl, by omega, r, rfl, by omega, k, rfl, by omega, t, rfl, by omega, k, rfl, by omega, ?_⟩⟩⟩
      · rw [zle (by omega) (by omega)] at c2; omega
      · rw [zle (by omega) (by omega)] at c2; omega
      · rw [s1, s2, zmul, zmul, zofs]
        refine ⟨_, s_floorMod (by omega) (by omega) hp2 hp, ?_⟩
        rintro v7 τ8 ⟨rfl, rfl⟩
        refine ⟨k, rfl, by omega, fun τ10 e10 => ?_⟩
        rw [zmodeq (Nat.le_of_lt (hM r hrn c hc).2) (by omega)] at e10
        rw [zadd]
        refine nx τ10 (hf.tr (fun x hx => by rw [e10, ww_up_f (fun e => hx (by rw [e]))])) (fun q hq j hj => ?_)
        rw [e10]
        by_cases e : q = r ∧ j = k
        · obtain ⟨e1, e2⟩ := e
          subst e1; subst e2
          rw [ww_up_s, if_pos (by omega)]
          unfold zclr
          rw [if_pos ⟨htr, hrn⟩]
        · have hne : ww_up σ (19, r) k (nI ((M r k * M t c + (p - M r c) * M t k) % p)) (19, q) j = σ (19, q) j := by
            by_cases e1 : q = r
            · exact ww_up_k (fun e2 => e ⟨e1, e2⟩)
            · exact ww_up_n (by simp [e1])
          rw [hne, hs q hq j hj]; congr 1
          by_cases e3 : q < r ∨ (q = r ∧ j < k)
          · rw [if_pos e3, if_pos (by omega)]
          · rw [if_neg e3, if_neg (by omega)]
  have outer : ∀ (m r : Nat) (σ : ww_M), r + m = n → t < r → zXF τ σ → (∀ q, q < n → ∀ j, j < 4 → σ (19, q) j = nI (if q < r then zclr M p t c n q j else M q j)) → ww_W g mX0_clearBelow E Q 15 [some (.inr (.inr (8, 0))), some (.inl (nI t)), some (.inl (nI c)), some (.inl (nI p)), some (.inl (nI (M t c))), some (.inl (nI r)), none, none] [] σ := by
    intro m
    induction m with
    | zero =>
      intro r σ hr htr hf hs
      subst hQ
      refine b_X0_clearBelow_15 ⟨fun _ => ⟨hf, fun q hq j hj => ?_⟩, fun c2 => ?_⟩
      · rw [hs q hq j hj, if_pos (by omega)]
        refine ⟨rfl, ?_⟩
        unfold zclr
        split
        · exact Nat.mod_lt _ (by omega)
        · exact (hM q hq j hj).2
      · rw [hf (8, 0) (by decide), hn, zle (by omega) (by omega)] at c2; omega
    | succ m ih =>
      intro r σ hr htr hf hs
      have s1 := hs r (by omega) c hc
      rw [if_neg (by omega)] at s1
      have go : ww_W g mX0_clearBelow E Q 38 [some (.inr (.inr (8, 0))), some (.inl (nI t)), some (.inl (nI c)), some (.inl (nI p)), some (.inl (nI (M t c))), some (.inl (nI r)), some (.inl (nI (M r c))), some (.inl (nI 0))] [] σ := by
        refine inner r htr (by omega) 4 0 σ (by omega) hf (fun q hq j hj => by rw [hs q hq j hj]; congr 1; by_cases e : q < r <;> simp [e]) (fun σ' a b => ?_)
        rw [zadd]
        exact ih (r + 1) σ' (by omega) (by omega) a b
      subst hQ
      refine b_X0_clearBelow_15 ⟨fun c2 => ?_, fun _ => ⟨r, rfl, by omega, c, rfl, hc, by rw [s1]; exact go⟩⟩
      rw [hf (8, 0) (by decide), hn, zle (by omega) (by omega)] at c2; omega
  rw [zadd]
  refine outer (n - (t + 1)) (t + 1) τ (by omega) (by omega) (zXF.rf τ) (fun q hq j hj => ?_)
  rw [(hM q hq j hj).1]; congr 1
  by_cases e : q < t + 1
  · rw [if_pos e]; unfold zclr; rw [if_neg (by omega)]
  · rw [if_neg e]
theorem s_rankBy {rels : List (List Nat)} {p : Nat} (h : zRel τ R rels) (hR : zRows τ R) (hl : ∀ r, r < rels.length → (zm rels r).length ≤ 14) (hp2 : 2 ≤ p) (hp : p < 8) : ww_T l g mX0_rankBy [.inr (.inr (8, 0)), .inl (nI p)] τ (ww_QI (fun v τ' => v = nI (zrank rels p) ∧ zXF τ τ')) := by
  obtain ⟨h1, h2, h3⟩ := h
  refine b_X0_rankBy (fun E => ⟨fun _ => ?_, fun c => ?_⟩)
  · generalize hQ : (ww_QI (fun v τ' => v = nI (zrank rels p) ∧ zXF τ τ')) = Q
    have elim_ : ∀ (j c : Nat) (M : Nat → Nat → Nat) (rk : Nat) (σ : ww_M), c + j = 4 → rk ≤ rels.length → zXF τ σ → zMx σ rels.length p M → zrk p rels.length j c M rk = zrank rels p → ww_W g mX0_rankBy E Q 62 [some (.inr (.inr (8, 0))), some (.inl (nI p)), some (.inl (nI rk)), some (.inl (nI c))] [] σ := by
      intro j
      induction j with
      | zero =>
        intro c M rk σ hc hr hf hM he
        subst hQ
        refine b_X0_rankBy_62 ⟨fun _ => ⟨by rw [← he]; rfl, hf⟩, fun c2 => ?_⟩
        rw [zle (by omega) (by omega)] at c2; omega
      | succ j ih =>
        intro c M rk σ hc hr hf hM he
        rw [zrk] at he
        have e8 : σ (8, 0) 1 = nI rels.length := by rw [hf (8, 0) (by decide)]; exact h2
        have nx := fun M' rk' σ' a b c' d => ih (c + 1) M' rk' σ' (by omega) a b c' d
        subst hQ
        refine b_X0_rankBy_62 ⟨fun c2 => ?_, fun _ => ⟨fun c2 => ?_, fun c2 => ?_⟩⟩
        · rw [zle (by omega) (by omega)] at c2; omega
        · rw [e8, zle (by omega) (by omega)] at c2
          rw [if_neg (by omega)] at he
          exact ⟨by rw [he], hf⟩
        · rw [e8, zle (by omega) (by omega)] at c2
          rw [if_pos (by omega)] at he
          refine ⟨_, s_bringPivot e8 h1 hp hM (by omega) (by omega), ?_⟩
          rintro v2 τ3 ⟨f3, ⟨a1, rfl, a3⟩ | ⟨a1, rfl, a3⟩⟩
          · rw [if_pos a1] at he
            refine ⟨fun c3 => absurd c3 (by decide), fun _ => ⟨_, s_clearBelow (n := rels.length) (by rw [f3 (8, 0) (by decide)]; exact e8) h1 hp2 hp a3 (by omega) (by omega), ?_⟩⟩
            rintro τ5 ⟨f5, a5⟩
            rw [zadd, zadd]
            exact nx _ _ τ5 (by omega) (hf.tr (f3.tr f5)) a5 he
          · rw [if_neg a1] at he
            refine ⟨fun _ => ?_, fun c3 => absurd rfl c3⟩
            rw [zadd]
            exact nx M rk τ3 hr (hf.tr f3) a3 he
    have ent : ∀ r k, (zM0 rels p) r k < p := fun r k => by
      unfold zM0
      have := Int.emod_nonneg (zsum (zm rels r) k) (show (p : Int) ≠ 0 by omega)
      have := Int.emod_lt_of_pos (zsum (zm rels r) k) (show (0 : Int) < p by omega)
      omega
    have cols : ∀ r, r < rels.length → ∀ (m k : Nat) (σ : ww_M), k + m = 4 → zXF τ σ → (∀ q, q < rels.length → ∀ j, j < 4 → (q < r ∨ (q = r ∧ j < k)) → σ (19, q) j = nI (zM0 rels p q j)) → (∀ σ' : ww_M, zXF τ σ' → (∀ q, q < rels.length → ∀ j, j < 4 → q < r + 1 → σ' (19, q) j = nI (zM0 rels p q j)) → ww_W g mX0_rankBy E Q 9 [some (.inr (.inr (8, 0))), some (.inl (nI p)), some (.inl (nI r + nI 1)), none] [] σ') → ww_W g mX0_rankBy E Q 19 [some (.inr (.inr (8, 0))), some (.inl (nI p)), some (.inl (nI r)), some (.inl (nI k))] [] σ := by
      intro r hr m
      induction m with
      | zero =>
        intro k σ hk hf hs K
        have K := K σ hf (fun q hq j hj hq2 => hs q hq j hj (by omega))
        subst hQ
        refine b_X0_rankBy_19 ⟨fun _ => K, fun c2 => ?_⟩
        rw [zle (by omega) (by omega)] at c2; omega
      | succ m ih =>
        intro k σ hk hf hs K
        have nx := fun σ' a b => ih (k + 1) σ' (by omega) a b K
        have hRs : zRows σ R := hR.keep (fun x hx => hf x (by omega))
        have hb := zsum_le k (zm rels r)
        have hl14 := hl r hr
        subst hQ
        refine b_X0_rankBy_19 ⟨fun c2 => ?_, fun _ => ⟨r, rfl, by omega, r, rfl, by omega, _, s_surplusOf hRs (by omega) (by omega), ?_⟩⟩
        · rw [zle (by omega) (by omega)] at c2; omega
        · rintro v4 τ5 ⟨rfl, rfl⟩
          rw [h3 r hr]
          refine ⟨_, s_floorMod (by omega) (by omega) hp2 hp, ?_⟩
          rintro v7 τ8 ⟨rfl, rfl⟩
          refine ⟨k, rfl, by omega, fun τ10 e10 => ?_⟩
          rw [zadd]
          refine nx τ10 (hf.tr (fun x hx => by rw [e10, ww_up_f (fun e => hx (by rw [e]))])) (fun q hq j hj hqj => ?_)
          rw [e10]
          by_cases e : q = r ∧ j = k
          · obtain ⟨e1, e2⟩ := e
            subst e1; subst e2
            rw [ww_up_s]; rfl
          · by_cases e1 : q = r
            · rw [ww_up_k (fun e2 => e ⟨e1, e2⟩)]
              exact hs q hq j hj (by omega)
            · rw [ww_up_n (by simp [e1])]
              exact hs q hq j hj (by omega)
    have rows : ∀ (m r : Nat) (σ : ww_M), r + m = rels.length → zXF τ σ → (∀ q, q < rels.length → ∀ j, j < 4 → q < r → σ (19, q) j = nI (zM0 rels p q j)) → ww_W g mX0_rankBy E Q 9 [some (.inr (.inr (8, 0))), some (.inl (nI p)), some (.inl (nI r)), none] [] σ := by
      intro m
      induction m with
      | zero =>
        intro r σ hr hf hs
        have go := elim_ 4 0 (zM0 rels p) 0 σ (by omega) (Nat.zero_le _) hf (fun q hq j hj => ⟨hs q hq j hj (by omega), ent q j⟩) rfl
        subst hQ
        refine b_X0_rankBy_9 ⟨fun _ => go, fun c2 => ?_⟩
        rw [hf (8, 0) (by decide), h2, zle (by omega) (by omega)] at c2; omega
      | succ m ih =>
        intro r σ hr hf hs
        have go := cols r (by omega) 4 0 σ (by omega) hf (fun q hq j hj hq2 => hs q hq j hj (by omega)) (fun σ' a b => by rw [zadd]; exact ih (r + 1) σ' (by omega) a b)
        subst hQ
        refine b_X0_rankBy_9 ⟨fun c2 => ?_, fun _ => go⟩
        rw [hf (8, 0) (by decide), h2, zle (by omega) (by omega)] at c2; omega
    exact rows rels.length 0 τ (by omega) (zXF.rf τ) (fun q hq j hj hq2 => absurd hq2 (Nat.not_lt_zero q))
  · rw [zle (by omega) (by omega)] at c; omega
end RANK
