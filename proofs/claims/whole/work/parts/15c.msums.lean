/-! ===== the model: sum, told, digest, draw ===== -/
section MSUMS
variable {l : Launch} {g : ww_G} {τ : ww_M} {s : zS}
theorem mw_sum (hM : zM s τ) (a b : Int32) : ww_T l g mX6_sum [.inr (.inr (30, 0)), .inl a, .inl b] τ (ww_QI (zMQ τ (aSum s a b))) := by
  refine b_X6_sum (fun E => ⟨_, t_isWord a, ?_⟩)
  rintro v2 τ3 ⟨rfl, ⟨w, hw, rfl, hz, rfl⟩ | ⟨hz, rfl⟩⟩
  · refine ⟨fun c => absurd c (by decide), fun _ => ⟨_, t_inN b 4 (by omega) (by decide), ?_⟩⟩
    rintro v8 τ9 ⟨rfl, ⟨x, hx, rfl, hz2, rfl⟩ | ⟨hz2, rfl⟩⟩
    · have w1 := hM.1.1 w hw
      have w60 := w1.1
      refine ⟨fun _ => ?_, fun c => absurd c (by decide)⟩
      have ea : aSum s (nI w) (nI x) = (Int32.ofInt (zsum (sW s w) x), s) := by simp only [aSum, hz, hz2]
      rw [ea]
      have loop : ∀ (n k : Nat), k + n = (sW s w).length → ww_W g mX6_sum E (ww_QI (zMQ τ (Int32.ofInt (zsum (sW s w) x), s))) 29 [some (.inr (.inr (30, 0))), some (.inl (nI w)), some (.inl (nI x)), some (.inl (Int32.ofInt (zsum ((sW s w).take k) x))), some (.inl (nI k)), none] [] τ := by
        intro n
        induction n with
        | zero =>
          intro k hk
          rw [List.take_of_length_le (by omega)]
          refine b_X6_sum_29 ⟨w, rfl, hw, fun _ => ⟨rfl, hM, zLow.rf _⟩, fun c => by rw [(hM.2.1 w hw).1, zle (by omega) (by omega)] at c; omega⟩
        | succ n ih =>
          intro k hk
          have y8 := zat_lt w1.2.1 (show k < (sW s w).length by omega)
          have zox : zo x = x + 4 := by unfold zo; rw [if_pos hx]
          have ih := ih (k + 1) (by omega)
          rw [ztake_succ (by omega), zsum_app, zsum, zsum, zox] at ih
          refine b_X6_sum_29 ⟨w, rfl, hw, fun c => by rw [(hM.2.1 w hw).1, zle (by omega) (by omega)] at c; omega, fun _ => ⟨60 * w + k, by rw [zmul, zadd], by omega, ?_⟩⟩
          rw [(hM.2.1 w hw).2 k (by omega), zeq (by omega) (by omega), zadd, zadd, zeq (by omega) (by omega), zoi1, zoi2]
          refine ⟨fun c => ⟨fun c2 => ?_, fun c2 => ?_⟩, fun c => ?_⟩
          · rw [if_neg c, if_neg c2] at ih
            have e0 : ∀ X : Int, Int32.ofInt X + nI 0 = Int32.ofInt X := fun X => by rw [nI_0, Int32.add_zero]
            rw [e0]
            simpa using ih
          · rw [if_neg c, if_pos c2] at ih
            simpa using ih
          · rw [if_pos c] at ih
            simpa using ih
      exact loop (sW s w).length 0 (by omega)
    · exact ⟨fun c => absurd rfl c, fun _ => m_bad hM (zLow.rf _) (by simp only [aSum, hz, hz2])⟩
  · exact ⟨fun _ => m_bad hM (zLow.rf _) (by simp only [aSum, hz]), fun c => absurd rfl c⟩
theorem t_lettersOfAll (hM : zM s τ) : ww_T l g mX6_lettersOfAll [.inr (.inr (30, 0))] τ (ww_QI (fun v τ' => τ = τ' ∧ v = nI (zall s 6))) := by
  refine b_X6_lettersOfAll (fun E => ?_)
  have loop : ∀ (n k : Nat), k + n = 6 → ww_W g mX6_lettersOfAll E (ww_QI (fun v τ' => τ = τ' ∧ v = nI (zall s 6))) 4 [some (.inr (.inr (30, 0))), some (.inl (nI (zall s k))), some (.inl (nI k))] [] τ := by
    intro n
    induction n with
    | zero =>
      intro k hk
      have e : k = 6 := by omega
      subst e
      exact b_X6_lettersOfAll_4 ⟨fun _ => ⟨rfl, rfl⟩, fun c => by rw [zle (by omega) (by omega)] at c; omega⟩
    | succ n ih =>
      intro k hk
      refine b_X6_lettersOfAll_4 ⟨fun c => by rw [zle (by omega) (by omega)] at c; omega, fun _ => ⟨k, rfl, by omega, ?_⟩⟩
      rw [(hM.2.1 k (by omega)).1, zadd, zadd]
      exact ih (k + 1) (by omega)
  exact loop 6 0 rfl
theorem t_toldOf {k : Nat} (hM : zM s τ) (hk : k < 8) : ww_T l g mX6_toldOf [.inr (.inr (30, 0)), .inl (nI k)] τ (ww_QI (fun v τ' => τ = τ' ∧ v = ztl s k)) := by
  obtain ⟨h1, h2, h3, h4, h5, h6, h7, h8, h9⟩ := id hM
  refine b_X6_toldOf (fun E => ?_)
  rw [zeq (by omega) (by omega), zeq (by omega) (by omega), zeq (by omega) (by omega), zeq (by omega) (by omega), zeq (by omega) (by omega)]
  refine ⟨fun c => ?_, fun c => ?_, fun c => ?_, fun c => ?_, fun c => ⟨_, t_lettersOfAll hM, ?_⟩, fun c3 c4 c5 c6 c7 => ⟨k, rfl, by omega, ?_⟩⟩
  · subst c; exact ⟨rfl, h3.1⟩
  · subst c; exact ⟨rfl, h4.1⟩
  · subst c; exact ⟨rfl, h5.1⟩
  · subst c; exact ⟨rfl, h6⟩
  · rintro v τ3 ⟨rfl, rfl⟩
    subst c; exact ⟨rfl, rfl⟩
  · rcases (show k = 0 ∨ k = 1 ∨ k = 2 by omega) with e | e | e
    · subst e; exact ⟨rfl, h7⟩
    · subst e; exact ⟨rfl, h8⟩
    · subst e; exact ⟨rfl, h9⟩
theorem mw_told (hM : zM s τ) (a : Int32) : ww_T l g mX6_told [.inr (.inr (30, 0)), .inl a] τ (ww_QI (zMQ τ (aTold s a))) := by
  refine b_X6_told (fun E => ⟨_, t_inN a 8 (by omega) (by decide), ?_⟩)
  rintro v2 τ3 ⟨rfl, ⟨k, hk, rfl, hz, rfl⟩ | ⟨hz, rfl⟩⟩
  · refine ⟨fun c => absurd c (by decide), fun _ => ⟨_, t_toldOf hM hk, ?_⟩⟩
    rintro v τ3 ⟨rfl, rfl⟩
    exact zMQ.eq hM (by simp only [aTold, hz])
  · exact ⟨fun _ => m_bad hM (zLow.rf _) (by simp only [aTold, hz]), fun c => absurd rfl c⟩
theorem t_sums {n2 : ww_N} {len base : Nat} {h0 : Int64} {xs : List Nat} (hn : ww_in n2) (hs : ww_sh n2 = .inr (.inl len)) (hl : len < 2147483648) (hb : base + xs.length ≤ len) (h : ∀ k, k < xs.length → τ n2 (base + k) = nI (zat xs k)) : ww_T l g mX6_sums [.inr (.inl h0), .inr (.inr n2), .inl (nI base), .inl (nI xs.length)] τ (ww_QL (fun v τ' => τ = τ' ∧ v = zdg1 xs h0)) := by
  refine b_X6_sums hn hs hl (fun E => ?_)
  have loop : ∀ (n k : Nat) (x : Int64), k + n = xs.length → zdg x (xs.drop k) = zdg1 xs h0 → ww_W g mX6_sums E (ww_QL (fun v τ' => τ = τ' ∧ v = zdg1 xs h0)) 14 [none, none, some (.inr (.inr n2)), some (.inl (nI base)), some (.inl (nI xs.length)), some (.inr (.inl x)), none, some (.inl (nI k))] [] τ := by
    intro n
    induction n with
    | zero =>
      intro k x hk he
      refine b_X6_sums_14 hn hs hl ⟨fun _ => ⟨rfl, ?_⟩, fun c => ?_⟩
      · rw [List.drop_eq_nil_of_le (by omega)] at he; exact he
      · rw [zle (by omega) (by omega)] at c; omega
    | succ n ih =>
      intro k x hk he
      refine b_X6_sums_14 hn hs hl ⟨fun c => ?_, fun _ => ⟨base + k, by rw [zadd], by omega, ?_⟩⟩
      · rw [zle (by omega) (by omega)] at c; omega
      · rw [h k (by omega), zadd]
        rw [zdrop_cons (by omega), zdg] at he
        exact ih (k + 1) _ (by omega) he
  exact loop xs.length 0 _ (by omega) rfl
theorem mw_digest (hM : zM s τ) : ww_T l g mX6_digest [.inr (.inr (30, 0))] τ (ww_QL (fun v τ' => τ = τ' ∧ v = aDigest s)) := by
  refine b_X6_digest (fun E => ?_)
  have l3 := hM.1.2.2.2.1
  have loop3 : ∀ (n k : Nat), k + n = 6 → ww_W g mX6_digest E (ww_QL (fun v τ' => τ = τ' ∧ v = aDigest s)) 68 [some (.inr (.inr (30, 0))), some (.inr (.inl (zdgW s k))), none, some (.inl (nI k))] [] τ := by
    intro n
    induction n with
    | zero =>
      intro k hk
      have e : k = 6 := by omega
      subst e
      exact b_X6_digest_68 ⟨fun _ => ⟨rfl, rfl⟩, fun c => by rw [zle (by omega) (by omega)] at c; omega⟩
    | succ n ih =>
      intro k hk
      have w60 := (hM.1.1 k (by omega)).1
      refine b_X6_digest_68 ⟨fun c => by rw [zle (by omega) (by omega)] at c; omega, fun _ => ⟨k, rfl, by omega, ?_⟩⟩
      rw [(hM.2.1 k (by omega)).1, zmul]
      refine ⟨_, t_sums (len := 360) (ww_i1 36 (by decide)) rfl (by decide) (by omega) (hM.2.1 k (by omega)).2, ?_⟩
      rintro v τ4 ⟨rfl, rfl⟩
      rw [zadd]
      exact ih (k + 1) (by omega)
  have loop2 : ∀ (n k : Nat), k + n = (sL s).length → ww_W g mX6_digest E (ww_QL (fun v τ' => τ = τ' ∧ v = aDigest s)) 33 [some (.inr (.inr (30, 0))), some (.inr (.inl (zdgL s k))), none, some (.inl (nI k))] [] τ := by
    intro n
    induction n with
    | zero =>
      intro k hk
      refine b_X6_digest_33 ⟨fun _ => ?_, fun c => by rw [hM.2.2.2.1.1, zle (by omega) (by omega)] at c; omega⟩
      have e : k = (sL s).length := by omega
      subst e
      exact loop3 6 0 rfl
    | succ n ih =>
      intro k hk
      have hr := hM.2.2.2.1.2 k (by omega)
      have h14 := (hM.1.2.2.2.2.1 k (by omega)).2.1
      refine b_X6_digest_33 ⟨fun c => by rw [hM.2.2.2.1.1, zle (by omega) (by omega)] at c; omega, fun _ => ⟨k, rfl, by omega, ?_⟩⟩
      rw [hr.1, zmul]
      refine ⟨_, t_sums (len := 42) (ww_i1 31 (by decide)) rfl (by decide) (by omega) hr.2, ?_⟩
      rintro v τ4 ⟨rfl, rfl⟩
      rw [zadd]
      exact ih (k + 1) (by omega)
  have loop1 : ∀ (n k : Nat), k + n = 8 → ww_W g mX6_digest E (ww_QL (fun v τ' => τ = τ' ∧ v = aDigest s)) 6 [some (.inr (.inr (30, 0))), some (.inr (.inl (zdgT s k))), none, some (.inl (nI k))] [] τ := by
    intro n
    induction n with
    | zero =>
      intro k hk
      have e : k = 8 := by omega
      subst e
      exact b_X6_digest_6 ⟨fun _ => loop2 (sL s).length 0 (by omega), fun c => by rw [zle (by omega) (by omega)] at c; omega⟩
    | succ n ih =>
      intro k hk
      refine b_X6_digest_6 ⟨fun c => by rw [zle (by omega) (by omega)] at c; omega, fun _ => ⟨_, t_toldOf hM (by omega), ?_⟩⟩
      rintro v τ3 ⟨rfl, rfl⟩
      rw [zadd]
      exact ih (k + 1) (by omega)
  exact loop1 8 0 rfl
theorem t_drawn {x : Nat} (h : x < 2147483648) : ww_T l g mX6_drawn [.inr (.inl (lN x))] τ (ww_QL (fun v τ' => τ = τ' ∧ v = lN (znx x))) := b_X6_drawn (fun E => ⟨rfl, zl_next h⟩)
theorem mw_draw (hM : zM s τ) (a b c : Int32) : ww_T l g mX6_draw [.inr (.inr (30, 0)), .inl a, .inl b, .inl c] τ (ww_QI (zMQ τ (aDraw s a b c))) := by
  refine b_X6_draw (fun E => ⟨_, t_inN a 1000000 (by omega) (by decide), ?_⟩)
  rintro v2 τ3 ⟨rfl, ⟨x, hx, rfl, hz, rfl⟩ | ⟨hz, rfl⟩⟩
  · refine ⟨fun c => absurd c (by decide), fun _ => ⟨_, t_inN b 61 (by omega) (by decide), ?_⟩⟩
    rintro v8 τ9 ⟨rfl, ⟨n, hn, rfl, hz2, rfl⟩ | ⟨hz2, rfl⟩⟩
    · refine ⟨fun c => absurd c (by decide), fun _ => ⟨_, t_isWord c, ?_⟩⟩
      rintro v14 τ15 ⟨rfl, ⟨w, hw, rfl, hz3, rfl⟩ | ⟨hz3, rfl⟩⟩
      · refine ⟨fun _ τ16 e16 => ?_, fun c => absurd c (by decide)⟩
        have h0 := zH0 (τ := τ) (v := nI 0) rfl
        rw [← e16] at h0
        rw [nI_l (by omega)]
        have loop : ∀ (k j y : Nat) (xs : List Nat) (σ : ww_M), j + k = n → y < 2147483648 → xs.length ≤ j → zH σ xs → zred xs → zHF τ σ → zdraw y k xs = zdraw x n [] → ww_W g mX6_draw E (ww_QI (zMQ τ (aDraw s (nI x) (nI n) (nI w)))) 48 [some (.inr (.inr (30, 0))), none, some (.inl (nI n)), some (.inl (nI w)), some (.inr (.inl (lN y))), none, some (.inl (nI j))] [] σ := by
          intro k
          induction k with
          | zero =>
            intro j y xs σ hj hy hl hh hrd hf he
            rw [zdraw_0] at he
            refine b_X6_draw_48 ⟨fun _ => m_layWord (hM.keep hf.x) hf.x.low hh (by omega) hw hrd (by simp only [aDraw, hz, hz2, hz3]; rw [← he]; exact aKeep_s (by omega)), fun q => by rw [zle (by omega) (by omega)] at q; omega⟩
          | succ k ih =>
            intro j y xs σ hj hy hl hh hrd hf he
            rw [zdraw_s] at he
            have h8 : zd8 (znx y) < 8 := zd8_lt _
            refine b_X6_draw_48 ⟨fun q => by rw [zle (by omega) (by omega)] at q; omega, fun _ => ⟨_, t_drawn hy, ?_⟩⟩
            rintro v5 τ6 ⟨rfl, rfl⟩
            rw [zl_d8 (znx_lt y)]
            refine ⟨_, t_push hh h8 (by omega), ?_⟩
            rintro τ8 ⟨k8, f8⟩
            rw [zadd]
            have := zpush_len xs (zd8 (znx y))
            exact ih (j + 1) (znx y) _ τ8 (by omega) (znx_lt y) (by omega) k8 (zred_push hrd hh.2.2.2 h8) (hf.tr f8) he
        exact loop n 0 x [] τ16 (by omega) (by omega) (Nat.le_refl _) h0.1 zred_nil h0.2 rfl
      · exact ⟨fun c => absurd rfl c, fun _ => m_bad hM (zLow.rf _) (by simp only [aDraw, hz, hz2, hz3])⟩
    · exact ⟨fun _ => m_bad hM (zLow.rf _) (by simp only [aDraw, hz, hz2]), fun c => absurd rfl c⟩
  · exact ⟨fun _ => m_bad hM (zLow.rf _) (by simp only [aDraw, hz]), fun c => absurd rfl c⟩
end MSUMS
