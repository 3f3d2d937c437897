/-! ===== the model: rank ===== -/
def zac1 (y c p : Nat) : Nat := if y = c then 1 else if y = c + 4 then p - 1 else 0
def zac (p c : Nat) : List Nat → Nat
  | [] => 0
  | x :: xs => zac1 x c p + zac p c xs
theorem zac_app (p c : Nat) : ∀ xs ys, zac p c (xs ++ ys) = zac p c xs + zac p c ys
  | [], ys => by rw [List.nil_append, zac, Nat.zero_add]
  | x :: xs, ys => by rw [List.cons_append, zac, zac, zac_app p c xs ys]; omega
theorem zac_le {p c : Nat} (hp : p < 8) : ∀ xs : List Nat, zac p c xs ≤ 6 * xs.length
  | [] => Nat.zero_le _
  | x :: xs => by
    have := zac_le hp (c := c) xs
    have h1 : zac1 x c p ≤ 6 := by unfold zac1; split; omega; split <;> omega
    rw [zac, List.length_cons]; omega
theorem zac_sum {p c : Nat} (hp : 0 < p) (hc : c < 4) : ∀ xs : List Nat, ∃ k : Nat, (zac p c xs : Int) = zsum xs c + (p : Int) * (k : Int)
  | [] => ⟨0, by simp [zac, zsum]⟩
  | x :: xs => by
    obtain ⟨k, hk⟩ := zac_sum hp hc xs
    have zox : zo c = c + 4 := by unfold zo; rw [if_pos hc]
    rw [zac, zsum, zox]
    unfold zac1
    by_cases h1 : x = c
    · rw [if_pos h1, if_pos h1]
      exact ⟨k, by omega⟩
    · rw [if_neg h1, if_neg h1]
      by_cases h2 : x = c + 4
      · rw [if_pos h2, if_pos h2]
        refine ⟨k + 1, ?_⟩
        have e : (p : Int) * ((k + 1 : Nat) : Int) = (p : Int) * (k : Int) + p := by rw [Int.natCast_add, Int.mul_add]; simp
        rw [e]
        omega
      · rw [if_neg h2, if_neg h2]
        exact ⟨k, by omega⟩
theorem zac_mod {p c : Nat} (hp : 0 < p) (hc : c < 4) (xs : List Nat) : zac p c xs % p = (zsum xs c % (p : Int)).toNat := by
  obtain ⟨k, hk⟩ := zac_sum hp hc xs
  have : ((zac p c xs % p : Nat) : Int) = zsum xs c % (p : Int) := by
    rw [Int.natCast_emod, hk, Int.add_mul_emod_self_left]
  omega
def zG (L : List (List Nat)) (p r c : Nat) : Nat := if r < L.length then zac p c (zm L r) else 0
section MRANK
variable {l : Launch} {g : ww_G} {τ : ww_M} {s : zS}
def zMy (τ : ww_M) (G : Nat → Nat → Nat) : Prop := ∀ r, r < 3 → ∀ c, c < 4 → τ (40, 0) (4 * r + c) = nI (G r c)
def zYF (τ τ' : ww_M) : Prop := ∀ n : ww_N, n ≠ (40, 0) → τ' n = τ n
theorem zYF.rf (τ : ww_M) : zYF τ τ := fun _ _ => rfl
theorem zYF.tr {a b c : ww_M} (h : zYF a b) (h2 : zYF b c) : zYF a c := fun n hn => (h2 n hn).trans (h n hn)
theorem zYF.x {a b : ww_M} (h : zYF a b) : zXM a b := ⟨fun n h1 _ => h n (fun e => by rw [e] at h1; exact absurd h1 (by decide)), h _ (by decide), fun k _ => by rw [h _ (by decide)]⟩
theorem zYF.up {k : Nat} {v : Int32} : zYF τ (ww_up τ (40, 0) k v) := fun n hn => ww_up_f hn
theorem t_layMatrix {p : Nat} (hM : zM s τ) (hp2 : 2 ≤ p) (hp : p < 8) : ww_T l g mX6_layMatrix [.inr (.inr (30, 0)), .inl (nI p)] τ (ww_QV (fun τ' => zMy τ' (fun r c => (zG (sL s) p r c) % p) ∧ zYF τ τ')) := by
  have l3 := hM.1.2.2.2.1
  have h2 := hM.2.2.2.1.1
  have gle : ∀ r c, (zG (sL s) p r c) ≤ 84 := by
    intro r c
    unfold zG
    split
    · rename_i hr
      have := zac_le hp (c := c) (zm (sL s) r)
      have := (hM.rr hr).2.2.1
      omega
    · omega
  refine b_X6_layMatrix (fun E => ?_)
  have l99 : ∀ (n k : Nat) (σ : ww_M), k + n = 12 → zMy σ (fun r c => if 4 * r + c < k then (zG (sL s) p r c) % p else (zG (sL s) p r c)) → zYF τ σ → ww_W g mX6_layMatrix E (ww_QV (fun τ' => zMy τ' (fun r c => (zG (sL s) p r c) % p) ∧ zYF τ τ')) 99 [some (.inr (.inr (30, 0))), some (.inl (nI p)), some (.inl (nI k)), none, none] [] σ := by
    intro n
    induction n with
    | zero =>
      intro k σ hk hy hf
      refine b_X6_layMatrix_99 ⟨fun _ => ⟨fun r hr c hc => ?_, hf⟩, fun q => by rw [zle (by omega) (by omega)] at q; omega⟩
      have := hy r hr c hc
      simp only [] at this
      rw [if_pos (by omega)] at this
      exact this
    | succ n ih =>
      intro k σ hk hy hf
      have ek := hy (k / 4) (by omega) (k % 4) (by omega)
      simp only [] at ek
      rw [show 4 * (k / 4) + k % 4 = k by omega, if_neg (by omega)] at ek
      have hg := gle (k / 4) (k % 4)
      refine b_X6_layMatrix_99 ⟨fun q => by rw [zle (by omega) (by omega)] at q; omega, fun _ => ⟨k, rfl, by omega, by rw [zeq (by omega) (by omega)]; omega, k, rfl, by omega, fun τ4 e4 => ?_⟩⟩
      rw [ek, pk_rem (by omega) (by omega) (by omega)] at e4
      rw [zadd]
      refine ih (k + 1) τ4 (by omega) (fun r hr c hc => ?_) (hf.tr (by rw [e4]; exact zYF.up))
      show τ4 (40, 0) (4 * r + c) = nI (if 4 * r + c < k + 1 then _ else _)
      rw [e4]
      by_cases e : 4 * r + c = k
      · have e1 : r = k / 4 := by omega
        have e2 : c = k % 4 := by omega
        rw [e, ww_up_s, if_pos (by omega), e1, e2]
      · rw [ww_up_k e]
        have := hy r hr c hc
        simp only [] at this
        rw [this]
        by_cases e3 : 4 * r + c < k
        · rw [if_pos e3, if_pos (by omega)]
        · rw [if_neg e3, if_neg (by omega)]
  have l23 : ∀ (n r0 : Nat) (σ : ww_M), r0 + n = (sL s).length → zMy σ (fun r c => if r < r0 then zac p c (zm (sL s) r) else 0) → zYF τ σ → ww_W g mX6_layMatrix E (ww_QV (fun τ' => zMy τ' (fun r c => (zG (sL s) p r c) % p) ∧ zYF τ τ')) 23 [some (.inr (.inr (30, 0))), some (.inl (nI p)), some (.inl (nI r0)), none, none] [] σ := by
    intro n
    induction n with
    | zero =>
      intro r0 σ hr hy hf
      have e : r0 = (sL s).length := by omega
      subst e
      refine b_X6_layMatrix_23 ⟨fun _ => l99 12 0 σ rfl (fun r hr c hc => ?_) hf, fun q => by rw [hf _ (by decide), h2, zle (by omega) (by omega)] at q; omega⟩
      show _ = nI (if 4 * r + c < 0 then _ else _)
      rw [if_neg (by omega)]
      exact hy r hr c hc
    | succ n ih =>
      intro r0 σ hr hy hf
      obtain ⟨r3, hx, h14, hxo⟩ := hM.rr (show r0 < (sL s).length by omega)
      refine b_X6_layMatrix_23 ⟨fun q => by rw [hf _ (by decide), h2, zle (by omega) (by omega)] at q; omega, fun _ => ?_⟩
      have inner : ∀ (d k : Nat) (σ' : ww_M), k + d = (zm (sL s) r0).length → zMy σ' (fun r c => if r < r0 then zac p c (zm (sL s) r) else if r = r0 then zac p c ((zm (sL s) r0).take k) else 0) → zYF τ σ' → ww_W g mX6_layMatrix E (ww_QV (fun τ' => zMy τ' (fun r c => (zG (sL s) p r c) % p) ∧ zYF τ τ')) 33 [some (.inr (.inr (30, 0))), some (.inl (nI p)), some (.inl (nI r0)), some (.inl (nI k)), none] [] σ' := by
        intro d
        induction d with
        | zero =>
          intro k σ' hk hy' hf'
          refine b_X6_layMatrix_33 ⟨r0, rfl, r3, fun _ => ?_, fun q => by rw [hf' _ (by decide), hx.1, zle (by omega) (by omega)] at q; omega⟩
          rw [zadd]
          refine ih (r0 + 1) σ' (by omega) (fun r hr c hc => ?_) hf'
          have := hy' r hr c hc
          simp only [] at this
          rw [this, List.take_of_length_le (by omega)]
          show _ = nI (if r < r0 + 1 then zac p c (zm (sL s) r) else 0)
          by_cases c1 : r < r0
          · rw [if_pos c1, if_pos (by omega)]
          · rw [if_neg c1]
            by_cases c2 : r = r0
            · rw [if_pos c2, if_pos (by omega), c2]
            · rw [if_neg c2, if_neg (by omega)]
        | succ d ih2 =>
          intro k σ' hk hy' hf'
          have y8 := zat_lt hxo (show k < (zm (sL s) r0).length by omega)
          have hjv := hy' r0 r3 (zat (zm (sL s) r0) k % 4) (by omega)
          simp only [] at hjv
          rw [if_neg (by omega), if_pos trivial] at hjv
          have hz1 : ∀ c, zac p c ((zm (sL s) r0).take (k + 1)) = zac p c ((zm (sL s) r0).take k) + zac1 (zat (zm (sL s) r0) k) c p := fun c => by
            rw [ztake_succ (by omega), zac_app, zac, zac, Nat.add_zero]
          have fin : ∀ (τ5 : ww_M) (v : Nat), v = zac1 (zat (zm (sL s) r0) k) (zat (zm (sL s) r0) k % 4) p → τ5 = ww_up σ' (40, 0) (4 * r0 + zat (zm (sL s) r0) k % 4) (nI (zac p (zat (zm (sL s) r0) k % 4) ((zm (sL s) r0).take k)) + nI v) → ww_W g mX6_layMatrix E (ww_QV (fun τ' => zMy τ' (fun r c => (zG (sL s) p r c) % p) ∧ zYF τ τ')) 33 [some (.inr (.inr (30, 0))), some (.inl (nI p)), some (.inl (nI r0)), some (.inl (nI (k + 1))), none] [] τ5 := by
            intro τ5 v hv e5
            rw [zadd] at e5
            refine ih2 (k + 1) τ5 (by omega) (fun r hr c hc => ?_) (hf'.tr (by rw [e5]; exact zYF.up))
            show τ5 (40, 0) (4 * r + c) = nI (if r < r0 then zac p c (zm (sL s) r) else if r = r0 then zac p c ((zm (sL s) r0).take (k + 1)) else 0)
            rw [e5]
            by_cases e : 4 * r + c = 4 * r0 + zat (zm (sL s) r0) k % 4
            · have e1 : r = r0 := by omega
              have e2 : c = zat (zm (sL s) r0) k % 4 := by omega
              rw [e, ww_up_s, if_neg (by omega), if_pos e1, hz1, hv, e2]
            · rw [ww_up_k e]
              have := hy' r hr c hc
              simp only [] at this
              rw [this]
              by_cases c1 : r < r0
              · rw [if_pos c1, if_pos c1]
              · rw [if_neg c1, if_neg c1]
                by_cases c2 : r = r0
                · rw [if_pos c2, if_pos c2, hz1]
                  have : zac1 (zat (zm (sL s) r0) k) c p = 0 := by
                    unfold zac1
                    rw [if_neg (by omega), if_neg (by omega)]
                  rw [this, Nat.add_zero]
                · rw [if_neg c2, if_neg c2]
          refine b_X6_layMatrix_33 ⟨r0, rfl, r3, fun q => by rw [hf' _ (by decide), hx.1, zle (by omega) (by omega)] at q; omega, fun _ => ⟨14 * r0 + k, by rw [zmul, zadd], by omega, ?_⟩⟩
          rw [hf' (31, 0) (by decide), hx.2 k (by omega), pk_rem (by omega) (by decide) (by decide), zle (by omega) (by omega)]
          refine ⟨4 * r0 + zat (zm (sL s) r0) k % 4, by rw [zmul, zadd], by omega, fun c => ⟨4 * r0 + zat (zm (sL s) r0) k % 4, by rw [zmul, zadd], by omega, fun τ5 e5 => ?_⟩, fun c => ⟨4 * r0 + zat (zm (sL s) r0) k % 4, by rw [zmul, zadd], by omega, fun τ5 e5 => ?_⟩⟩
          · rw [hjv, zsub (by omega)] at e5
            rw [zadd]
            refine fin τ5 (p - 1) ?_ e5
            unfold zac1
            rw [if_neg (by omega), if_pos (by omega)]
          · rw [hjv] at e5
            rw [zadd]
            refine fin τ5 1 ?_ e5
            unfold zac1
            rw [if_pos (by omega)]
      refine inner (zm (sL s) r0).length 0 σ (by omega) (fun r hr c hc => ?_) hf
      have := hy r hr c hc
      simp only [] at this
      rw [this]
      show _ = nI (if r < r0 then zac p c (zm (sL s) r) else if r = r0 then zac p c ((zm (sL s) r0).take 0) else 0)
      by_cases c1 : r < r0
      · rw [if_pos c1, if_pos c1]
      · rw [if_neg c1, if_neg c1]
        split <;> rfl
  have l0 : ∀ (n k : Nat) (σ : ww_M), k + n = 12 → (∀ i, i < k → σ (40, 0) i = nI 0) → zYF τ σ → ww_W g mX6_layMatrix E (ww_QV (fun τ' => zMy τ' (fun r c => (zG (sL s) p r c) % p) ∧ zYF τ τ')) 2 [some (.inr (.inr (30, 0))), some (.inl (nI p)), some (.inl (nI k)), none, none] [] σ := by
    intro n
    induction n with
    | zero =>
      intro k σ hk h0 hf
      refine b_X6_layMatrix_2 ⟨fun _ => l23 (sL s).length 0 σ (by omega) (fun r hr c hc => ?_) hf, fun q => by rw [zle (by omega) (by omega)] at q; omega⟩
      rw [h0 _ (by omega)]
      show _ = nI (if r < 0 then _ else 0)
      rw [if_neg (by omega)]
    | succ n ih =>
      intro k σ hk h0 hf
      refine b_X6_layMatrix_2 ⟨fun q => by rw [zle (by omega) (by omega)] at q; omega, fun _ => ⟨k, rfl, by omega, fun τ2 e2 => ?_⟩⟩
      rw [zadd]
      refine ih (k + 1) τ2 (by omega) (fun i hi => ?_) (hf.tr (by rw [e2]; exact zYF.up))
      rw [e2]
      by_cases e : i = k
      · rw [e, ww_up_s]
      · rw [ww_up_k e]; exact h0 i (by omega)
  exact l0 12 0 τ rfl (fun i hi => absurd hi (Nat.not_lt_zero _)) (zYF.rf τ)
/-- the matrix' lines below n -/
def zMz (τ : ww_M) (n p : Nat) (M : Nat → Nat → Nat) : Prop := ∀ r, r < n → ∀ c, c < 4 → τ (40, 0) (4 * r + c) = nI (M r c) ∧ M r c < p
theorem t_swapRows {n p a b : Nat} {M : Nat → Nat → Nat} (hy : zMz τ n p M) (hn : n ≤ 3) (ha : a < n) (hb : b < n) : ww_T l g mX6_swapRows [.inr (.inr (30, 0)), .inl (nI a), .inl (nI b)] τ (ww_QV (fun τ' => zMz τ' n p (zswap M a b) ∧ zYF τ τ')) := by
  refine b_X6_swapRows (fun E => ?_)
  have loop : ∀ (d k : Nat) (σ : ww_M), k + d = 4 → (∀ r, r < n → ∀ c, c < 4 → σ (40, 0) (4 * r + c) = nI (if c < k then zswap M a b r c else M r c)) → zYF τ σ → ww_W g mX6_swapRows E (ww_QV (fun τ' => zMz τ' n p (zswap M a b) ∧ zYF τ τ')) 2 [some (.inr (.inr (30, 0))), some (.inl (nI a)), some (.inl (nI b)), some (.inl (nI k)), none] [] σ := by
    intro d
    induction d with
    | zero =>
      intro k σ hk h hf
      refine b_X6_swapRows_2 ⟨fun _ => ⟨fun r hr c hc => ⟨by rw [h r hr c hc, if_pos (by omega)], ?_⟩, hf⟩, fun q => by rw [zle (by omega) (by omega)] at q; omega⟩
      unfold zswap
      split
      · exact (hy b hb c hc).2
      · split
        · exact (hy a ha c hc).2
        · exact (hy r hr c hc).2
    | succ d ih =>
      intro k σ hk h hf
      have va := h a ha k (by omega)
      have vb := h b hb k (by omega)
      rw [if_neg (by omega)] at va vb
      refine b_X6_swapRows_2 ⟨fun q => by rw [zle (by omega) (by omega)] at q; omega, fun _ => ⟨4 * a + k, by rw [zmul, zadd], by omega, 4 * b + k, by rw [zmul, zadd], by omega, 4 * a + k, by rw [zmul, zadd], by omega, fun τ4 e4 => ⟨4 * b + k, by rw [zmul, zadd], by omega, fun τ6 e6 => ?_⟩⟩⟩
      rw [vb] at e4
      rw [va] at e6
      rw [zadd]
      refine ih (k + 1) τ6 (by omega) (fun r hr c hc => ?_) (hf.tr (by rw [e6, e4]; exact zYF.up.tr zYF.up))
      rw [e6]
      by_cases c1 : c = k
      · rw [if_pos (by omega), c1]
        unfold zswap
        by_cases r1 : r = b
        · rw [r1, ww_up_s]
          by_cases ab : b = a
          · rw [if_pos ab, ab]
          · rw [if_neg ab, if_pos rfl]
        · rw [ww_up_k (by omega), e4]
          by_cases r2 : r = a
          · rw [r2, ww_up_s, if_pos rfl]
          · rw [ww_up_k (by omega), if_neg r2, if_neg r1, h r hr k (by omega), if_neg (by omega)]
      · rw [ww_up_k (by omega), e4, ww_up_k (by omega), h r hr c hc]
        by_cases c2 : c < k
        · rw [if_pos c2, if_pos (by omega)]
        · rw [if_neg c2, if_neg (by omega)]
  exact loop 4 0 τ rfl (fun r hr c hc => by rw [if_neg (by omega)]; exact (hy r hr c hc).1) (zYF.rf τ)
theorem zrk_s (p n j c : Nat) (M : Nat → Nat → Nat) (rk : Nat) : zrk p n (j + 1) c M rk = if rk < n then (if zpiv M c rk (n - rk) < n then zrk p n j (c + 1) (zclr (zswap M rk (zpiv M c rk (n - rk))) p rk c n) (rk + 1) else zrk p n j (c + 1) M rk) else rk := rfl
theorem zpiv_s (M : Nat → Nat → Nat) (c w k : Nat) : zpiv M c w (k + 1) = if M w c = 0 then zpiv M c (w + 1) k else w := rfl
theorem mw_rank (hM : zM s τ) (a : Int32) : ww_T l g mX6_rank [.inr (.inr (30, 0)), .inl a] τ (ww_QI (zMQ τ (aRank s a))) := by
  have l3 := hM.1.2.2.2.1
  have h2 := hM.2.2.2.1.1
  have main : ∀ (E : ww_E) (p : Nat), p = 2 ∨ p = 3 ∨ p = 5 ∨ p = 7 → ∃ Q : ww_M → Prop, ww_T E.2.1 g mX6_layMatrix [.inr (.inr (30, 0)), .inl (nI p)] τ (ww_QV Q) ∧ ∀ τ2, Q τ2 → ww_W g mX6_rank E (ww_QI (zMQ τ (aRank s (nI p)))) 35 [some (.inr (.inr (30, 0))), some (.inl (nI p)), some (.inl (nI 0)), some (.inl (nI 0)), none, none, none, none] [] τ2 := by
    intro E p hp
    have ea : aRank s (nI p) = (nI (zrank (sL s) p), s) := by
      have hz : zn (nI p) 8 = some p := zn_nI (by omega) (by omega)
      simp only [aRank, hz]; rw [if_pos hp]
    rw [ea]
    refine ⟨_, t_layMatrix hM (by omega) (by omega), ?_⟩
    rintro τ2 ⟨k2, f2⟩
    have hM0 : zMz τ2 (sL s).length p (zM0 (sL s) p) := by
      intro r hr c hc
      have := k2 r (by omega) c hc
      simp only [] at this
      unfold zG at this
      rw [if_pos hr] at this
      have e : zac p c (zm (sL s) r) % p = zM0 (sL s) p r c := zac_mod (by omega) hc _
      rw [e] at this
      exact ⟨this, by rw [← e]; exact Nat.mod_lt _ (by omega)⟩
    have eR : zrk p (sL s).length 4 0 (zM0 (sL s) p) 0 = zrank (sL s) p := rfl
    generalize hn : (sL s).length = n at *
    generalize zrank (sL s) p = V at *
    have fin : ∀ σ, zYF τ σ → zMQ τ (nI V, s) (nI V) σ := fun σ hf => ⟨rfl, hM.keep hf.x, hf.x.low⟩
    have loop : ∀ (j c rk : Nat) (M : Nat → Nat → Nat) (σ : ww_M), c + j = 4 → rk ≤ n → zMz σ n p M → zYF τ σ → zrk p n j c M rk = V → ww_W g mX6_rank E (ww_QI (zMQ τ (nI V, s))) 35 [some (.inr (.inr (30, 0))), some (.inl (nI p)), some (.inl (nI rk)), some (.inl (nI c)), none, none, none, none] [] σ := by
      intro j
      induction j with
      | zero =>
        intro c rk M σ hc hrk hy hf he
        have he : rk = V := he
        refine b_X6_rank_35 ⟨fun _ => by rw [he]; exact fin σ hf, fun q => by rw [zle (by omega) (by omega)] at q; omega⟩
      | succ j ih =>
        intro c rk M σ hc hrk hy hf he
        rw [zrk_s] at he
        have h2s : σ (30, 0) 2 = nI n := by rw [hf _ (by decide)]; exact h2
        refine b_X6_rank_35 ⟨fun q => by rw [zle (by omega) (by omega)] at q; omega, fun _ => ?_⟩
        rw [h2s, zle (by omega) (by omega)]
        refine ⟨fun q => by rw [if_neg (by omega)] at he; rw [he]; exact fin σ hf, fun q => ?_⟩
        rw [if_pos (by omega)] at he
        have done : ∀ w, zpiv M c rk (n - rk) = w → w ≤ n → ww_W g mX6_rank E (ww_QI (zMQ τ (nI V, s))) 80 [some (.inr (.inr (30, 0))), some (.inl (nI p)), some (.inl (nI rk)), some (.inl (nI c)), some (.inl (nI w)), none, none, none] [] σ := by
          intro w hw hwn
          rw [hw] at he
          refine b_X6_rank_80 ?_
          rw [h2s, zle (by omega) (by omega)]
          refine ⟨fun q2 => ?_, fun q2 => ⟨_, t_swapRows hy (by omega) (by omega) (show w < n by omega), ?_⟩⟩
          · rw [if_neg (by omega)] at he
            rw [zadd]
            exact ih (c + 1) rk M σ (by omega) hrk hy hf he
          · rw [if_pos (by omega)] at he
            rintro τ3 ⟨k3, f3⟩
            rw [zadd]
            generalize zswap M rk w = N at *
            have rows : ∀ (d r : Nat) (σ' : ww_M), r + d = n → rk < r → zMz σ' n p (zclr N p rk c r) → zYF τ σ' → ww_W g mX6_rank E (ww_QI (zMQ τ (nI V, s))) 101 [some (.inr (.inr (30, 0))), some (.inl (nI p)), some (.inl (nI rk)), some (.inl (nI c)), none, some (.inl (nI r)), none, none] [] σ' := by
              intro d
              induction d with
              | zero =>
                intro r σ' hr hrk2 hy' hf'
                have e : r = n := by omega
                subst e
                have h2s' : σ' (30, 0) 2 = nI r := by rw [hf' _ (by decide)]; exact h2
                refine b_X6_rank_101 ⟨fun _ => ?_, fun q => by rw [h2s', zle (by omega) (by omega)] at q; omega⟩
                rw [zadd, zadd]
                exact ih (c + 1) (rk + 1) _ σ' (by omega) (by omega) hy' hf' he
              | succ d ih2 =>
                intro r σ' hr hrk2 hy' hf'
                have h2s' : σ' (30, 0) 2 = nI n := by rw [hf' _ (by decide)]; exact h2
                have nrr : ∀ k, zclr N p rk c r r k = N r k := fun k => by unfold zclr; rw [if_neg (by omega)]
                have nrk : ∀ k, zclr N p rk c r rk k = N rk k := fun k => by unfold zclr; rw [if_neg (by omega)]
                refine b_X6_rank_101 ⟨fun q => by rw [h2s', zle (by omega) (by omega)] at q; omega, fun _ => ⟨4 * r + c, by rw [zmul, zadd], by omega, ?_⟩⟩
                have vrc := hy' r (by omega) c (by omega)
                rw [nrr] at vrc
                rw [vrc.1]
                have cols : ∀ (e k : Nat) (σ2 : ww_M), k + e = 4 → (∀ r', r' < n → ∀ c', c' < 4 → σ2 (40, 0) (4 * r' + c') = nI (if r' = r ∧ c' < k then zclr N p rk c (r + 1) r' c' else zclr N p rk c r r' c')) → zYF τ σ2 → ww_W g mX6_rank E (ww_QI (zMQ τ (nI V, s))) 126 [some (.inr (.inr (30, 0))), some (.inl (nI p)), some (.inl (nI rk)), some (.inl (nI c)), none, some (.inl (nI r)), some (.inl (nI (N r c))), some (.inl (nI k))] [] σ2 := by
                  intro e
                  induction e with
                  | zero =>
                    intro k σ2 hk hy2 hf2
                    refine b_X6_rank_126 ⟨fun _ => ?_, fun q => by rw [zle (by omega) (by omega)] at q; omega⟩
                    rw [zadd]
                    refine ih2 (r + 1) σ2 (by omega) (by omega) (fun r' hr' c' hc' => ⟨?_, ?_⟩) hf2
                    · rw [hy2 r' hr' c' hc']
                      by_cases e1 : r' = r
                      · rw [if_pos ⟨e1, by omega⟩]
                      · rw [if_neg (fun q => e1 q.1)]
                        congr 1
                        unfold zclr
                        by_cases e2 : rk < r' ∧ r' < r
                        · rw [if_pos e2, if_pos (by omega)]
                        · rw [if_neg e2, if_neg (by omega)]
                    · unfold zclr
                      split
                      · exact Nat.mod_lt _ (by omega)
                      · exact (k3 r' hr' c' hc').2
                  | succ e ih3 =>
                    intro k σ2 hk hy2 hf2
                    have v1 := hy2 r (by omega) k (by omega)
                    rw [if_neg (by omega), nrr] at v1
                    have v2 := hy2 rk (by omega) c (by omega)
                    rw [if_neg (by omega), nrk] at v2
                    have v3 := hy2 rk (by omega) k (by omega)
                    rw [if_neg (by omega), nrk] at v3
                    have b1 := (k3 r (by omega) k (by omega)).2
                    have b2 := (k3 rk (by omega) c (by omega)).2
                    have b3 := (k3 rk (by omega) k (by omega)).2
                    have b4 := (k3 r (by omega) c (by omega)).2
                    have m1 : N r k * N rk c ≤ 7 * 7 := Nat.mul_le_mul (by omega) (by omega)
                    have m2 : (p - N r c) * N rk k ≤ 7 * 7 := Nat.mul_le_mul (by omega) (by omega)
                    refine b_X6_rank_126 ⟨fun q => by rw [zle (by omega) (by omega)] at q; omega, fun _ => ⟨4 * r + k, by rw [zmul, zadd], by omega, 4 * rk + c, by rw [zmul, zadd], by omega, 4 * rk + k, by rw [zmul, zadd], by omega, by rw [zeq (by omega) (by omega)]; omega, 4 * r + k, by rw [zmul, zadd], by omega, fun τ6 e6 => ?_⟩⟩
                    rw [v1, v2, v3, zsub (by omega), zmul, zmul, zadd, pk_rem (by omega) (by omega) (by omega)] at e6
                    rw [zadd]
                    refine ih3 (k + 1) τ6 (by omega) (fun r' hr' c' hc' => ?_) (hf2.tr (by rw [e6]; exact zYF.up))
                    rw [e6]
                    by_cases e1 : 4 * r' + c' = 4 * r + k
                    · have e2 : r' = r := by omega
                      have e3 : c' = k := by omega
                      rw [e1, ww_up_s, if_pos ⟨e2, by omega⟩, e2, e3]
                      congr 1
                      unfold zclr
                      rw [if_pos (by omega)]
                    · rw [ww_up_k e1, hy2 r' hr' c' hc']
                      by_cases e2 : r' = r ∧ c' < k
                      · rw [if_pos e2, if_pos ⟨e2.1, by omega⟩]
                      · rw [if_neg e2, if_neg (fun q => by omega)]
                exact cols 4 0 σ' rfl (fun r' hr' c' hc' => by rw [if_neg (by omega)]; exact (hy' r' hr' c' hc').1) hf'
            refine rows (n - (rk + 1)) (rk + 1) τ3 (by omega) (by omega) (fun r hr c' hc' => ?_) (hf.tr f3)
            have e : zclr N p rk c (rk + 1) r c' = N r c' := by unfold zclr; rw [if_neg (by omega)]
            rw [e]
            exact k3 r hr c' hc'
        have seek : ∀ (d w : Nat), w + d = n → rk ≤ w → zpiv M c rk (n - rk) = zpiv M c w d → ww_W g mX6_rank E (ww_QI (zMQ τ (nI V, s))) 51 [some (.inr (.inr (30, 0))), some (.inl (nI p)), some (.inl (nI rk)), some (.inl (nI c)), some (.inl (nI w)), none, none, none] [] σ := by
          intro d
          induction d with
          | zero =>
            intro w hw hrw he2
            refine b_X6_rank_51 ⟨fun _ => done w he2 (by omega), fun q => by rw [h2s, zle (by omega) (by omega)] at q; omega⟩
          | succ d ih2 =>
            intro w hw hrw he2
            rw [zpiv_s] at he2
            have v := hy w (by omega) c (by omega)
            refine b_X6_rank_51 ⟨fun q => by rw [h2s, zle (by omega) (by omega)] at q; omega, fun _ => ⟨4 * w + c, by rw [zmul, zadd], by omega, ?_⟩⟩
            rw [v.1, zeq (by omega) (by omega)]
            refine ⟨fun q2 => done w (by rw [if_neg q2] at he2; exact he2) (by omega), fun q2 => ?_⟩
            rw [if_pos q2] at he2
            rw [zadd]
            exact ih2 (w + 1) (by omega) (by omega) he2
        exact seek (n - rk) rk (by omega) (Nat.le_refl _) rfl
    exact loop 4 0 0 _ τ2 rfl (Nat.zero_le _) hM0 f2 eR
  by_cases c2 : a = nI 2
  · subst c2
    exact b_X6_rank (fun E => ⟨fun _ => main E 2 (by omega), fun c => absurd rfl c⟩)
  · by_cases c3 : a = nI 3
    · subst c3
      exact b_X6_rank (fun E => ⟨fun c => absurd c c2, fun _ => ⟨fun _ => main E 3 (by omega), fun c => absurd rfl c⟩⟩)
    · by_cases c5 : a = nI 5
      · subst c5
        exact b_X6_rank (fun E => ⟨fun c => absurd c c2, fun _ => ⟨fun c => absurd c c3, fun _ => ⟨fun _ => main E 5 (by omega), fun c => absurd rfl c⟩⟩⟩)
      · by_cases c7 : a = nI 7
        · subst c7
          exact b_X6_rank (fun E => ⟨fun c => absurd c c2, fun _ => ⟨fun c => absurd c c3, fun _ => ⟨fun c => absurd c c5, fun _ => ⟨fun _ => main E 7 (by omega), fun c => absurd rfl c⟩⟩⟩⟩)
        · refine b_X6_rank (fun E => ⟨fun c => absurd c c2, fun _ => ⟨fun c => absurd c c3, fun _ => ⟨fun c => absurd c c5, fun _ => ⟨fun c => absurd c c7, fun _ => m_bad hM (zLow.rf _) ?_⟩⟩⟩⟩)
          rcases zn_cases a 8 (by decide) with ⟨p, hp, rfl, hz⟩ | ⟨hz, -⟩
          · simp only [aRank, hz]
            rw [if_neg (by
              rintro (q | q | q | q)
              · subst q; exact c2 rfl
              · subst q; exact c3 rfl
              · subst q; exact c5 rfl
              · subst q; exact c7 rfl)]
          · simp only [aRank, hz]
end MRANK
