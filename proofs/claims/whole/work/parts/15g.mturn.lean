/-! ===== the model: turned, nothings, loops ===== -/
section MTURN
variable {l : Launch} {g : ww_G} {τ : ww_M} {s : zS}
/-- the two rings -/
def zRg (τ : ww_M) (A B : List Nat) : Prop := (τ (30, 0) 21 = nI A.length ∧ ∀ k, k < A.length → τ (42, 0) k = nI (zat A k)) ∧ (τ (30, 0) 22 = nI B.length ∧ ∀ k, k < B.length → τ (43, 0) k = nI (zat B k))
theorem zRg.df {τ' : ww_M} {A B : List Nat} (h : zRg τ A B) (hf : zDF τ τ') : zRg τ' A B := ⟨⟨by rw [hf.2 _ (by decide) (by decide) (by decide) (by decide) (by decide)]; exact h.1.1, fun k hk => by rw [hf.1 _ (by decide) (by decide) (by decide)]; exact h.1.2 k hk⟩, ⟨by rw [hf.2 _ (by decide) (by decide) (by decide) (by decide) (by decide)]; exact h.2.1, fun k hk => by rw [hf.1 _ (by decide) (by decide) (by decide)]; exact h.2.2 k hk⟩⟩
theorem t_layRings {w x : Nat} (hM : zM s τ) (hw : w < 6) (hx : x < 6) : ww_T l g mX6_layRings [.inr (.inr (30, 0)), .inl (nI w), .inl (nI x)] τ (ww_QV (fun τ' => zRg τ' (zring (sW s w)) (zring (sW s x)) ∧ zXM τ τ')) := by
  have w1 := hM.1.1 w hw
  have w2 := hM.1.1 x hx
  have lA : (zring (sW s w)).length ≤ 60 := by rw [zring_len]; have := w1.1; omega
  have lB : (zring (sW s x)).length ≤ 60 := by rw [zring_len]; have := w2.1; omega
  refine b_X6_layRings (fun E => ⟨_, t_handWord hM hw, ?_⟩)
  rintro τ2 ⟨k2, f2⟩
  refine ⟨_, t_ringHand k2, ?_⟩
  rintro τ4 ⟨k4, f4⟩ τ5 e5
  rw [k4.2.1] at e5
  generalize zring (sW s w) = A at *
  have loop2 : ∀ (n k : Nat) (σ σ0 : ww_M), k + n = (zring (sW s x)).length → zH σ0 (zring (sW s x)) → (∀ n : ww_N, n ≠ (43, 0) → σ n = σ0 n) → (∀ i, i < k → σ (43, 0) i = nI (zat (zring (sW s x)) i)) → zXM τ σ0 → (σ0 (30, 0) 21 = nI A.length ∧ ∀ k, k < A.length → σ0 (42, 0) k = nI (zat A k)) → σ0 (30, 0) 22 = nI (zring (sW s x)).length → ww_W g mX6_layRings E (ww_QV (fun τ' => zRg τ' A (zring (sW s x)) ∧ zXM τ τ')) 64 [some (.inr (.inr (30, 0))), none, none, some (.inl (nI k))] [] σ := by
    intro n
    induction n with
    | zero =>
      intro k σ σ0 hk hh ho hb hf hA h22
      refine b_X6_layRings_64 ⟨fun _ => ⟨⟨⟨by rw [ho _ (by decide)]; exact hA.1, fun i hi => by rw [ho _ (by decide)]; exact hA.2 i hi⟩, by rw [ho _ (by decide)]; exact h22, fun i hi => hb i (by omega)⟩, hf.tr ⟨fun n h1 h2 => ho n (fun e => by rw [e] at h1; exact absurd h1 (by decide)), ho _ (by decide), fun k _ => by rw [ho _ (by decide)]⟩⟩, fun c => ?_⟩
      rw [ho _ (by decide), hh.2.1, zle (by omega) (by omega)] at c; omega
    | succ n ih =>
      intro k σ σ0 hk hh ho hb hf hA h22
      refine b_X6_layRings_64 ⟨fun c => ?_, fun _ => ⟨k, rfl, by omega, k, rfl, by omega, fun τ3 e3 => ?_⟩⟩
      · rw [ho _ (by decide), hh.2.1, zle (by omega) (by omega)] at c; omega
      · rw [ho _ (by decide), hh.2.2.1 k (by omega)] at e3
        rw [zadd]
        refine ih (k + 1) τ3 σ0 (by omega) hh (fun n hn => by rw [e3, ww_up_f hn]; exact ho n hn) (fun i hi => ?_) hf hA h22
        rw [e3]
        by_cases c : i = k
        · rw [c, ww_up_s]
        · rw [ww_up_k c]; exact hb i (by omega)
  have loop1 : ∀ (n k : Nat) (σ σ0 : ww_M), k + n = A.length → zH σ0 A → (∀ n : ww_N, n ≠ (42, 0) → σ n = σ0 n) → (∀ i, i < k → σ (42, 0) i = nI (zat A i)) → zXM τ σ0 → σ0 (30, 0) 21 = nI A.length → ww_W g mX6_layRings E (ww_QV (fun τ' => zRg τ' A (zring (sW s x)) ∧ zXM τ τ')) 19 [some (.inr (.inr (30, 0))), none, some (.inl (nI x)), some (.inl (nI k))] [] σ := by
    intro n
    induction n with
    | zero =>
      intro k σ σ0 hk hh ho hb hf h21
      have fx : zXM σ0 σ := ⟨fun n h1 h2 => ho n (fun e => by rw [e] at h1; exact absurd h1 (by decide)), ho _ (by decide), fun k _ => by rw [ho _ (by decide)]⟩
      refine b_X6_layRings_19 ⟨fun _ => ⟨_, t_handWord (hM.keep (hf.tr fx)) hx, ?_⟩, fun c => ?_⟩
      · rintro τ2 ⟨k2, f2⟩
        refine ⟨_, t_ringHand k2, ?_⟩
        rintro τ4 ⟨k4, f4⟩ τ5 e5
        rw [k4.2.1] at e5
        have f24 := f2.tr f4
        have o5 : ∀ n : ww_N, n ≠ (30, 0) → τ5 n = τ4 n := fun n hn => by rw [e5, ww_up_f hn]
        have o6 : ∀ k, k ≠ 22 → τ5 (30, 0) k = τ4 (30, 0) k := fun k hk => by rw [e5, ww_up_k hk]
        refine loop2 (zring (sW s x)).length 0 τ5 τ5 (by omega) ⟨k4.1, by rw [o6 _ (by decide)]; exact k4.2.1, fun i hi => by rw [o5 _ (by decide)]; exact k4.2.2.1 i hi, k4.2.2.2⟩ (fun _ _ => rfl) (fun i hi => absurd hi (Nat.not_lt_zero _)) (((hf.tr fx).tr f24.x).tr ⟨fun n h1 h2 => o5 n h2, o5 _ (by decide), fun k hk => o6 k (by omega)⟩) ⟨by rw [o6 _ (by decide), f24.2 _ (by decide), ho _ (by decide)]; exact h21, fun i hi => by rw [o5 _ (by decide), f24.1 _ (by decide) (by decide)]; exact hb i (by omega)⟩ (by rw [e5, ww_up_s])
      · rw [ho _ (by decide), hh.2.1, zle (by omega) (by omega)] at c; omega
    | succ n ih =>
      intro k σ σ0 hk hh ho hb hf h21
      refine b_X6_layRings_19 ⟨fun c => ?_, fun _ => ⟨k, rfl, by omega, k, rfl, by omega, fun τ3 e3 => ?_⟩⟩
      · rw [ho _ (by decide), hh.2.1, zle (by omega) (by omega)] at c; omega
      · rw [ho _ (by decide), hh.2.2.1 k (by omega)] at e3
        rw [zadd]
        refine ih (k + 1) τ3 σ0 (by omega) hh (fun n hn => by rw [e3, ww_up_f hn]; exact ho n hn) (fun i hi => ?_) hf h21
        rw [e3]
        by_cases c : i = k
        · rw [c, ww_up_s]
        · rw [ww_up_k c]; exact hb i (by omega)
  have o5 : ∀ n : ww_N, n ≠ (30, 0) → τ5 n = τ4 n := fun n hn => by rw [e5, ww_up_f hn]
  have o6 : ∀ k, k ≠ 21 → τ5 (30, 0) k = τ4 (30, 0) k := fun k hk => by rw [e5, ww_up_k hk]
  exact loop1 A.length 0 τ5 τ5 (by omega) ⟨k4.1, by rw [o6 _ (by decide)]; exact k4.2.1, fun i hi => by rw [o5 _ (by decide)]; exact k4.2.2.1 i hi, k4.2.2.2⟩ (fun _ _ => rfl) (fun i hi => absurd hi (Nat.not_lt_zero _)) ((f2.tr f4).x.tr ⟨fun n h1 h2 => o5 n h2, o5 _ (by decide), fun k hk => o6 k (by omega)⟩) (by rw [e5, ww_up_s])
theorem t_turnsBy {A B ys : List Nat} {t z m : Nat} (hM : zM s τ) (hg : zRg τ A B) (oA : zok A) (oB : zok B) (hA8 : A.length ≤ 8) (hB8 : B.length ≤ 8) (ht : t < max 1 A.length) (hz : z ≤ 2) (hy : (z = 0 ∧ ys = []) ∨ (m < (sM s).length ∧ z ≤ (zm (sM s) m).length ∧ ys = (zm (sM s) m).take z)) : ww_T l g mX6_turnsBy [.inr (.inr (30, 0)), .inl (nI t), .inl (nI m), .inl (nI z)] τ (ww_QI (fun v τ' => v = zb (zNil s (zTw A B t ys)) ∧ zDF τ τ')) := by
  have yl : ys.length = z := by
    rcases hy with ⟨h1, h2⟩ | ⟨hm, h1, h2⟩
    · rw [h2, h1]; rfl
    · rw [h2, List.length_take]; omega
  have yo : zok ys := by
    rcases hy with ⟨h1, h2⟩ | ⟨hm, h1, h2⟩
    · rw [h2]; exact zok_nil
    · rw [h2]; exact zok_take (hM.1.mem.2 m hm).2.2.1 z
  have ylet : ∀ k, k < z → m < 84 ∧ k < 14 ∧ τ (33, 0) (14 * m + k) = nI (zat ys k) := by
    intro k hk
    rcases hy with ⟨h1, h2⟩ | ⟨hm, h1, h2⟩
    · omega
    · obtain ⟨m84, hx, h14, hxo⟩ := hM.mm hm
      exact ⟨m84, by omega, by rw [hx.2 k (by omega), h2, zat_take hk]⟩
  have tl := zturn_len (x := A) (t := t) (by omega)
  have ot := zturn_ok oA t
  have lt4 := zpushs0_len (zturn A t)
  have eT : zTw A B t ys = zpushs (zpushs (zpushs (zpushs [] (zturn A t)) ys) (zinv B)) (zinv ys) := by
    unfold zTw; rw [zpushs_app, zpushs_app, zpushs_app]
  refine b_X6_turnsBy (fun E τ1 e1 => ?_)
  have h0 := zH0 (τ := τ) (v := nI 0) rfl
  rw [← e1] at h0
  have l4 : ∀ (k : Nat) (σ : ww_M) (xs : List Nat), k ≤ z → zH σ xs → zHF τ σ → xs.length + k ≤ 30 → zred xs → zpushs xs (zinv (ys.take k)) = zTw A B t ys → ww_W g mX6_turnsBy E (ww_QI (fun v τ' => v = zb (zNil s (zTw A B t ys)) ∧ zDF τ τ')) 110 [some (.inr (.inr (30, 0))), none, some (.inl (nI m)), none, some (.inl (nI k - nI 1))] [] σ := by
    intro k
    induction k with
    | zero =>
      intro σ xs hk hh hf hl hr he
      have he : xs = zTw A B t ys := he
      refine b_X6_turnsBy_110 ⟨fun _ => ⟨_, t_isNothing (hM.keep hf.x) hh (by omega) hr, ?_⟩, fun c => absurd (by decide) c⟩
      rintro v2 τ3 ⟨rfl, f3⟩
      rw [he]
      exact ⟨zb_01 _, rfl, hf.d.tr f3⟩
    | succ k ih =>
      intro σ xs hk hh hf hl hr he
      have e1 : nI (k + 1) - nI 1 = nI k := zsub (by omega)
      have e2 : nI k + (-1 : Int32) = nI k - nI 1 := by rw [Int32.sub_eq_add_neg]; rfl
      have y8 := zat_lt yo (show k < ys.length by omega)
      obtain ⟨g1, g2, g3⟩ := ylet k (by omega)
      rw [e1]
      refine b_X6_turnsBy_110 ⟨fun c => ?_, fun _ => ⟨14 * m + k, by rw [zmul, zadd], by omega, ?_⟩⟩
      · rw [zlt (by omega) (by omega)] at c; omega
      · rw [hf.1 _ (by decide) (by decide), g3]
        refine ⟨_, t_opp y8, ?_⟩
        rintro v8 τ9 ⟨rfl, rfl⟩
        refine ⟨_, t_push hh (zo_lt y8) (by omega), ?_⟩
        rintro τ11 ⟨k11, f11⟩
        rw [e2]
        have hp := zpush_len xs (zo (zat ys k))
        refine ih τ11 _ (by omega) k11 (hf.tr f11) (by omega) (zred_push hr hh.2.2.2 (zo_lt y8)) ?_
        rw [← he, ztake_succ (by omega), zinv_app]
        rfl
  have l3 : ∀ (k : Nat) (σ : ww_M) (xs : List Nat), k ≤ B.length → zH σ xs → zHF τ σ → xs.length + k + z ≤ 30 → zred xs → zpushs xs (zinv (B.take k)) = zpushs (zpushs (zpushs [] (zturn A t)) ys) (zinv B) → ww_W g mX6_turnsBy E (ww_QI (fun v τ' => v = zb (zNil s (zTw A B t ys)) ∧ zDF τ τ')) 80 [some (.inr (.inr (30, 0))), none, some (.inl (nI m)), some (.inl (nI z)), some (.inl (nI k - nI 1))] [] σ := by
    intro k
    induction k with
    | zero =>
      intro σ xs hk hh hf hl hr he
      have he : xs = _ := he
      refine b_X6_turnsBy_80 ⟨fun _ => l4 z σ xs (Nat.le_refl _) hh hf (by omega) hr ?_, fun c => absurd (by decide) c⟩
      rw [List.take_of_length_le (by omega), eT, he]
    | succ k ih =>
      intro σ xs hk hh hf hl hr he
      have e1 : nI (k + 1) - nI 1 = nI k := zsub (by omega)
      have e2 : nI k + (-1 : Int32) = nI k - nI 1 := by rw [Int32.sub_eq_add_neg]; rfl
      have y8 := zat_lt oB (show k < B.length by omega)
      rw [e1]
      refine b_X6_turnsBy_80 ⟨fun c => ?_, fun _ => ⟨k, rfl, by omega, ?_⟩⟩
      · rw [zlt (by omega) (by omega)] at c; omega
      · rw [hf.1 _ (by decide) (by decide), hg.2.2 k (by omega)]
        refine ⟨_, t_opp y8, ?_⟩
        rintro v8 τ9 ⟨rfl, rfl⟩
        refine ⟨_, t_push hh (zo_lt y8) (by omega), ?_⟩
        rintro τ11 ⟨k11, f11⟩
        rw [e2]
        have hp := zpush_len xs (zo (zat B k))
        refine ih τ11 _ (by omega) k11 (hf.tr f11) (by omega) (zred_push hr hh.2.2.2 (zo_lt y8)) ?_
        rw [← he, ztake_succ (by omega), zinv_app]
        rfl
  have l2 : ∀ (n k : Nat) (σ : ww_M), k + n = z → zH σ (zpushs (zpushs [] (zturn A t)) (ys.take k)) → zHF τ σ → ww_W g mX6_turnsBy E (ww_QI (fun v τ' => v = zb (zNil s (zTw A B t ys)) ∧ zDF τ τ')) 44 [some (.inr (.inr (30, 0))), none, some (.inl (nI m)), some (.inl (nI z)), some (.inl (nI k))] [] σ := by
    intro n
    induction n with
    | zero =>
      intro k σ hk hh hf
      rw [List.take_of_length_le (by omega)] at hh
      have h1 := zpushs_len (ys := ys) (zpushs [] (zturn A t))
      refine b_X6_turnsBy_44 ⟨fun _ => ?_, fun c => by rw [zle (by omega) (by omega)] at c; omega⟩
      rw [hf.2 _ (by decide), hg.2.1]
      exact l3 B.length σ _ (Nat.le_refl _) hh hf (by omega) (zred_pushs (zred_pushs zred_nil zok_nil ot) (zok_pushs zok_nil ot) yo) (by rw [List.take_of_length_le (Nat.le_refl _)])
    | succ n ih =>
      intro k σ hk hh hf
      have h1 := zpushs_len (ys := ys.take k) (zpushs [] (zturn A t))
      rw [List.length_take] at h1
      obtain ⟨g1, g2, g3⟩ := ylet k (by omega)
      refine b_X6_turnsBy_44 ⟨fun c => by rw [zle (by omega) (by omega)] at c; omega, fun _ => ⟨14 * m + k, by rw [zmul, zadd], by omega, ?_⟩⟩
      rw [hf.1 _ (by decide) (by decide), g3]
      refine ⟨_, t_push hh (zat_lt yo (by omega)) (by omega), ?_⟩
      rintro τ3 ⟨k3, f3⟩
      rw [zadd]
      refine ih (k + 1) τ3 (by omega) ?_ (hf.tr f3)
      rw [ztake_succ (by omega), zpushs_app]
      exact k3
  have l1 : ∀ (n k : Nat) (σ : ww_M), k + n = A.length → zH σ (zpushs [] ((zturn A t).take k)) → zHF τ σ → ww_W g mX6_turnsBy E (ww_QI (fun v τ' => v = zb (zNil s (zTw A B t ys)) ∧ zDF τ τ')) 8 [some (.inr (.inr (30, 0))), some (.inl (nI t)), some (.inl (nI m)), some (.inl (nI z)), some (.inl (nI k))] [] σ := by
    intro n
    induction n with
    | zero =>
      intro k σ hk hh hf
      rw [List.take_of_length_le (by omega)] at hh
      refine b_X6_turnsBy_8 ⟨fun _ => l2 z 0 σ (by omega) hh hf, fun c => ?_⟩
      rw [hf.2 _ (by decide), hg.1.1, zle (by omega) (by omega)] at c; omega
    | succ n ih =>
      intro k σ hk hh hf
      have hp := zpushs0_len ((zturn A t).take k)
      rw [List.length_take] at hp
      have hmod : (t + k) % A.length < A.length := Nat.mod_lt _ (by omega)
      refine b_X6_turnsBy_8 ?_
      rw [hf.2 _ (by decide), hg.1.1, zle (by omega) (by omega)]
      refine ⟨fun c => by omega, fun _ => ⟨by rw [zeq (by omega) (by omega)]; omega, (t + k) % A.length, by rw [zadd, pk_rem (by omega) (by omega) (by omega)], by omega, ?_⟩⟩
      rw [hf.1 _ (by decide) (by decide), hg.1.2 _ hmod, ← zat_turnm (by omega) (by omega)]
      refine ⟨_, t_push hh (zat_lt ot (by omega)) (by omega), ?_⟩
      rintro τ4 ⟨k4, f4⟩
      rw [zadd]
      refine ih (k + 1) τ4 (by omega) ?_ (hf.tr f4)
      rw [ztake_succ (by omega), zpushs_app]
      exact k4
  exact l1 A.length 0 τ1 (by omega) h0.1 h0.2
theorem mw_turned (hM : zM s τ) (a b : Int32) : ww_T l g mX6_turned [.inr (.inr (30, 0)), .inl a, .inl b] τ (ww_QI (zMQ τ (aTurned s a b))) := by
  refine b_X6_turned (fun E => ⟨_, t_isWord a, ?_⟩)
  rintro v2 τ3 ⟨rfl, ⟨w, hw, rfl, hz, rfl⟩ | ⟨hz, rfl⟩⟩
  · refine ⟨fun c => absurd c (by decide), fun _ => ⟨_, t_isWord b, ?_⟩⟩
    rintro v8 τ9 ⟨rfl, ⟨x, hx, rfl, hz2, rfl⟩ | ⟨hz2, rfl⟩⟩
    · have w1 := hM.1.1 w hw
      have w2 := hM.1.1 x hx
      have lA : (zring (sW s w)).length ≤ 60 := by rw [zring_len]; have := w1.1; omega
      have lB : (zring (sW s x)).length ≤ 60 := by rw [zring_len]; have := w2.1; omega
      have oA := zring_ok w1.2.1
      have oB := zring_ok w2.2.1
      refine ⟨fun _ => ⟨_, t_layRings hM hw hx, ?_⟩, fun c => absurd c (by decide)⟩
      rintro τ11 ⟨hg, f11⟩
      refine ⟨_, t_isGood (hM.keep f11) (by omega), ?_⟩
      rintro v13 τ14 ⟨rfl, rfl⟩
      rw [zb_0, hg.1.1, hg.2.1, zlt (by omega) (by omega), zle (by omega) (by omega)]
      have eno : ¬ (sG s 6 = true ∧ (zring (sW s w)).length ≤ 8 ∧ (zring (sW s x)).length ≤ 8) → aTurned s (nI w) (nI x) = zno s := fun h => by simp only [aTurned, hz, hz2]; rw [if_neg h]
      refine ⟨fun c => m_no (hM.keep f11) f11.low (eno (fun h => by rw [c] at h; exact absurd h.1 (by decide))), fun c => ⟨fun c2 => m_no (hM.keep f11) f11.low (eno (fun h => by omega)), fun c2 => ⟨fun c3 => ?_, fun c3 => m_no (hM.keep f11) f11.low (eno (fun h => by omega))⟩⟩⟩
      have ea : aTurned s (nI w) (nI x) = (zTt s (zring (sW s w)) (zring (sW s x)) 0 (max 1 (zring (sW s w)).length), s) := by
        simp only [aTurned, hz, hz2]; rw [if_pos ⟨by simpa using c, by omega, c3⟩]
      rw [ea]
      generalize zring (sW s w) = A at *
      generalize zring (sW s x) = B at *
      have h84 := hM.1.mem.1
      have to75 : ∀ (t : Nat) (σ : ww_M), zRg σ A B → ww_W g mX6_turned E (ww_QI (zMQ τ (zTt s A B 0 (max 1 A.length), s))) 75 [some (.inr (.inr (30, 0))), none, none, some (.inl (nI t)), none, none] [.inl (nI (max 1 A.length)), .inl (nI t)] σ → ww_W g mX6_turned E (ww_QI (zMQ τ (zTt s A B 0 (max 1 A.length), s))) 59 [some (.inr (.inr (30, 0))), none, none, some (.inl (nI t)), none, none] [] σ := by
        intro t σ hg' h
        refine b_X6_turned_59 ?_
        rw [hg'.1.1, zeq (by omega) (by omega)]
        refine ⟨fun c => ?_, fun c => ?_⟩
        · rw [show max 1 A.length = A.length by omega] at h ⊢; exact h
        · rw [show max 1 A.length = 1 by omega] at h ⊢; exact h
      have loop : ∀ (k t : Nat) (σ : ww_M), t + k = max 1 A.length → zRg σ A B → zXM τ σ → zTt s A B t k = zTt s A B 0 (max 1 A.length) → ww_W g mX6_turned E (ww_QI (zMQ τ (zTt s A B 0 (max 1 A.length), s))) 59 [some (.inr (.inr (30, 0))), none, none, some (.inl (nI t)), none, none] [] σ := by
        intro k
        induction k with
        | zero =>
          intro t σ ht hgg hf he
          rw [zTt] at he
          refine to75 t σ hgg (b_X6_turned_75 ⟨fun _ => ⟨he, hM.keep hf, hf.low⟩, fun q => by rw [zle (by omega) (by omega)] at q; omega⟩)
        | succ k ih =>
          intro t σ ht hgg hf he
          rw [zTt] at he
          have next : ∀ (σ' : ww_M), zRg σ' A B → zXM τ σ' → zTt s A B (t + 1) k = zTt s A B 0 (max 1 A.length) → ww_W g mX6_turned E (ww_QI (zMQ τ (zTt s A B 0 (max 1 A.length), s))) 59 [some (.inr (.inr (30, 0))), none, none, some (.inl (nI (t + 1))), none, none] [] σ' := fun σ' h1 h2 h3 => ih (t + 1) σ' (by omega) h1 h2 h3
          clear ih
          have inner : ∀ (d z : Nat) (σ' : ww_M), z + d = 3 → 1 ≤ z → zRg σ' A B → zXM τ σ' → (∀ y, y < z → zT0 s A B t y = false) → ww_W g mX6_turned E (ww_QI (zMQ τ (zTt s A B 0 (max 1 A.length), s))) 96 [some (.inr (.inr (30, 0))), none, none, some (.inl (nI t)), some (.inl (nI z)), none] [] σ' := by
            intro d
            induction d with
            | zero =>
              intro z σ' hz' hz1 h1 h2 h5
              refine b_X6_turned_96 ⟨fun _ => ?_, fun q => by rw [zle (by omega) (by omega)] at q; omega⟩
              rw [zadd]
              rw [h5 0 (by omega), h5 1 (by omega), h5 2 (by omega)] at he
              exact next σ' h1 h2 he
            | succ d ih2 =>
              intro z σ' hz' hz1 h1 h2 h5
              refine b_X6_turned_96 ⟨fun q => by rw [zle (by omega) (by omega)] at q; omega, fun _ => ?_⟩
              have eT : zT0 s A B t z = zT1 s A B t z := by unfold zT0; rw [if_neg (by omega)]
              have mloop : ∀ (e m : Nat) (σ2 : ww_M), m + e = (sM s).length → zRg σ2 A B → zXM τ σ2 → (∀ o, o < m → z ≤ (zm (sM s) o).length → ¬ zNil s (zTw A B t ((zm (sM s) o).take z)) = true) → ww_W g mX6_turned E (ww_QI (zMQ τ (zTt s A B 0 (max 1 A.length), s))) 105 [some (.inr (.inr (30, 0))), none, none, some (.inl (nI t)), some (.inl (nI z)), some (.inl (nI m))] [] σ2 := by
                intro e
                induction e with
                | zero =>
                  intro m σ2 hm g1 g2 hno
                  refine b_X6_turned_105 ⟨fun _ => ?_, fun q => by rw [(hM.keep g2).2.2.2.2.1.1, zle (by omega) (by omega)] at q; omega⟩
                  rw [zadd]
                  refine ih2 (z + 1) σ2 (by omega) (by omega) g1 g2 (fun y hy => ?_)
                  by_cases ey : y = z
                  · rw [ey, eT]; exact zT1_f (fun o ho => hno o (by omega))
                  · exact h5 y (by omega)
                | succ e ih3 =>
                  intro m σ2 hm g1 g2 hno
                  obtain ⟨m84, hxm, h14, hxo⟩ := (hM.keep g2).mm (show m < (sM s).length by omega)
                  have go : ∀ σ3, zRg σ3 A B → zXM τ σ3 → (z ≤ (zm (sM s) m).length → ¬ zNil s (zTw A B t ((zm (sM s) m).take z)) = true) → ww_W g mX6_turned E (ww_QI (zMQ τ (zTt s A B 0 (max 1 A.length), s))) 105 [some (.inr (.inr (30, 0))), none, none, some (.inl (nI t)), some (.inl (nI z)), some (.inl (nI (m + 1)))] [] σ3 := by
                    intro σ3 q1 q2 q3
                    refine ih3 (m + 1) σ3 (by omega) q1 q2 (fun o ho => ?_)
                    by_cases eo : o = m
                    · rw [eo]; exact q3
                    · exact hno o (by omega)
                  refine b_X6_turned_105 ⟨fun q => by rw [(hM.keep g2).2.2.2.2.1.1, zle (by omega) (by omega)] at q; omega, fun _ => ⟨m, rfl, m84, ?_⟩⟩
                  rw [hxm.1, zlt (by omega) (by omega), zadd]
                  refine ⟨fun q => go σ2 g1 g2 (fun q2 => by omega), fun q => ⟨_, t_turnsBy (hM.keep g2) g1 oA oB (by omega) c3 (by omega) (by omega) (Or.inr ⟨by omega, by omega, rfl⟩), ?_⟩⟩
                  rintro v3 τ4 ⟨rfl, f4⟩
                  rw [zb_0]
                  refine ⟨fun c => go τ4 (g1.df f4) (g2.tr f4.x) (fun _ => by rw [c]; decide), fun c => ?_⟩
                  have c' : zT0 s A B t z = true := by rw [eT]; exact zT1_t (show m < (sM s).length by omega) (by omega) (by simpa using c)
                  refine ⟨?_, hM.keep (g2.tr f4.x), (g2.tr f4.x).low⟩
                  rw [zmul, zadd]
                  show nI (100 * t + z) = zTt s A B 0 (max 1 A.length)
                  rcases (show z = 1 ∨ z = 2 by omega) with e | e
                  · subst e; rw [h5 0 (by omega), if_neg (by decide), if_pos c'] at he; exact he
                  · subst e; rw [h5 0 (by omega), if_neg (by decide), h5 1 (by omega), if_neg (by decide), if_pos c'] at he; exact he
              exact mloop (sM s).length 0 σ' (by omega) h1 h2 (fun o ho => absurd ho (Nat.not_lt_zero _))
          refine to75 t σ hgg (b_X6_turned_75 ⟨fun q => by rw [zle (by omega) (by omega)] at q; omega, fun _ => ⟨_, t_turnsBy (hM.keep hf) hgg oA oB (by omega) c3 (by omega) (by omega) (Or.inl ⟨rfl, rfl⟩), ?_⟩⟩)
          rintro v2 τ3 ⟨rfl, f3⟩
          rw [zb_0]
          have e0 : zT0 s A B t 0 = zNil s (zTw A B t []) := by unfold zT0; rw [if_pos rfl]
          refine ⟨fun c => inner 2 1 τ3 rfl (by omega) (hgg.df f3) (hf.tr f3.x) (fun y hy => by rw [show y = 0 by omega, e0]; exact c), fun c => ⟨?_, hM.keep (hf.tr f3.x), (hf.tr f3.x).low⟩⟩
          rw [if_pos (by rw [e0]; simpa using c)] at he
          rw [zmul]
          exact he
      exact loop (max 1 A.length) 0 _ (by omega) hg f11 rfl
    · exact ⟨fun c => absurd rfl c, fun _ => m_bad hM (zLow.rf _) (by simp only [aTurned, hz, hz2])⟩
  · exact ⟨fun _ => m_bad hM (zLow.rf _) (by simp only [aTurned, hz]), fun c => absurd rfl c⟩
theorem mw_nothings (hM : zM s τ) (a : Int32) : ww_T l g mX6_nothings [.inr (.inr (30, 0)), .inl a] τ (ww_QI (zMQ τ (aNothings s a))) := by
  refine b_X6_nothings (fun E => ⟨_, t_in _ _ _, ?_⟩)
  rintro v2 τ3 ⟨rfl, h⟩
  rw [Int32.toInt_toInt64, show (lN 1).toInt = 1 by decide, show (lN 4).toInt = 4 by decide] at h
  rcases h with ⟨p1, p2, rfl⟩ | ⟨p1, rfl⟩
  · rcases zn_cases a 5 (by decide) with ⟨n, hn, rfl, hz⟩ | ⟨hz, -⟩
    · rw [nI_toInt (by omega)] at p1 p2
      refine ⟨fun _ => ⟨_, t_isGood hM (by omega), ?_⟩, fun c => absurd c (by decide)⟩
      rintro v5 τ6 ⟨rfl, rfl⟩
      rw [zb_0]
      refine ⟨fun c => ?_, fun c => m_no hM (zLow.rf _) (by simp only [aNothings, hz]; rw [if_neg (by omega), if_neg (by rw [c]; decide)])⟩
      have c' : sG s 6 = true := by simpa using c
      have ea : aNothings s (nI n) = (nI (zcnt s n (8 ^ n)), s) := by simp only [aNothings, hz]; rw [if_neg (by omega), if_pos c']
      rw [ea]
      obtain ⟨e8, l8⟩ := zr8 n hn
      have loop : ∀ (k c : Nat) (σ : ww_M), c + k = 8 ^ n → zXM τ σ → ww_W g mX6_nothings E (ww_QI (zMQ τ (nI (zcnt s n (8 ^ n)), s))) 35 [some (.inr (.inr (30, 0))), some (.inl (nI n)), some (.inl (nI (zcnt s n c))), some (.inl (nI c)), none] [] σ := by
        intro k
        induction k with
        | zero =>
          intro c σ hk hf
          have e : c = 8 ^ n := by omega
          subst e
          refine b_X6_nothings_35 ⟨fun _ => ⟨rfl, hM.keep hf, hf.low⟩, fun q => by rw [e8, zle (by omega) (by omega)] at q; omega⟩
        | succ k ih =>
          intro c σ hk hf
          have next : ∀ (σ' : ww_M), zXM τ σ' → ww_W g mX6_nothings E (ww_QI (zMQ τ (nI (zcnt s n (8 ^ n)), s))) 35 [some (.inr (.inr (30, 0))), some (.inl (nI n)), some (.inl (nI (zcnt s n (c + 1)))), some (.inl (nI (c + 1))), none] [] σ' := fun σ' h1 => ih (c + 1) σ' (by omega) h1
          clear ih
          refine b_X6_nothings_35 ⟨fun q => by rw [e8, zle (by omega) (by omega)] at q; omega, fun _ τ1 e1 => ?_⟩
          have h0 := zH0 (τ := σ) (v := nI 0) rfl
          rw [← e1] at h0
          have inner : ∀ (d j : Nat) (σ' : ww_M), j + d = n → zH σ' (zpushs [] (zdig c j)) → zXM τ σ' → ww_W g mX6_nothings E (ww_QI (zMQ τ (nI (zcnt s n (8 ^ n)), s))) 52 [some (.inr (.inr (30, 0))), some (.inl (nI n)), some (.inl (nI (zcnt s n c))), some (.inl (nI c)), some (.inl (nI j))] [] σ' := by
            intro d
            induction d with
            | zero =>
              intro j σ' hj hh hf'
              have e : j = n := by omega
              subst e
              have hl := zpushs0_len (zdig c j)
              rw [zdig_len] at hl
              refine b_X6_nothings_52 ⟨fun _ => ?_, fun q => by rw [zle (by omega) (by omega)] at q; omega⟩
              rw [hh.2.1, zeq (by omega) (by omega), zadd, zadd, zadd]
              refine ⟨fun q => ?_, fun q => ⟨_, t_isNothing (hM.keep hf') hh (by omega) (zred_pushs zred_nil zok_nil (zdig_ok c j)), ?_⟩⟩
              · have ez : zcnt s j (c + 1) = zcnt s j c := by rw [zcnt, zcnt1, decide_eq_false q]; rfl
                have := next σ' hf'
                rw [ez] at this
                exact this
              · rintro v2 τ3 ⟨rfl, f3⟩
                rw [zb_0]
                refine ⟨fun q2 => ?_, fun q2 => ?_⟩
                · have ez : zcnt s j (c + 1) = zcnt s j c := by rw [zcnt, zcnt1]; simp [q2]
                  have := next τ3 (hf'.tr f3.x)
                  rw [ez] at this
                  exact this
                · have ez : zcnt s j (c + 1) = zcnt s j c + 1 := by rw [zcnt, zcnt1]; simp [q2, q]
                  have := next τ3 (hf'.tr f3.x)
                  rw [ez] at this
                  exact this
            | succ d ih2 =>
              intro j σ' hj hh hf'
              have hl := zpushs0_len (zdig c j)
              rw [zdig_len] at hl
              refine b_X6_nothings_52 ⟨fun q => by rw [zle (by omega) (by omega)] at q; omega, fun _ => ?_⟩
              rw [zc8 (n := n) hn (by omega) (by omega)]
              refine ⟨_, t_push hh (Nat.mod_lt _ (by decide)) (by omega), ?_⟩
              rintro τ8 ⟨k8, f8⟩
              rw [zadd]
              refine ih2 (j + 1) τ8 (by omega) ?_ (hf'.tr f8.x)
              rw [zdig, zpushs_app]
              exact k8
          exact inner n 0 τ1 (by omega) h0.1 (hf.tr h0.2.x)
      exact loop (8 ^ n) 0 _ (by omega) (zXM.rf _)
    · unfold zn at hz; rw [if_pos (by omega)] at hz; cases hz
  · refine ⟨fun c => absurd rfl c, fun _ => m_bad hM (zLow.rf _) ?_⟩
    rcases zn_cases a 5 (by decide) with ⟨n, hn, rfl, hz⟩ | ⟨hz, -⟩
    · rw [nI_toInt (by omega)] at p1
      simp only [aNothings, hz]; rw [if_pos (by omega)]
    · simp only [aNothings, hz]
theorem zM_empty (h : zWF s) : (sM s).length = 0 ↔ (sL s).length = 0 := by
  constructor
  · intro h0
    cases hl : (sL s).length with
    | zero => rfl
    | succ n =>
      have hr := h.2.2.2.2.1 0 (by omega)
      have := (zbuild_own (sL s) (sL s).length).2.2.2.2 0 (zturn (zm (sL s) 0) 0) ⟨by omega, 0, hr.1, Or.inl rfl⟩
      have h2 : zturn (zm (sL s) 0) 0 ∈ sM s := this
      have := List.length_pos_of_mem h2
      omega
  · intro h0
    show (zbuild (sL s) (sL s).length).1.length = 0
    rw [h0]; rfl
theorem mw_loops (hM : zM s τ) (a b c : Int32) : ww_T l g mX6_loops [.inr (.inr (30, 0)), .inl a, .inl b, .inl c] τ (ww_QI (zMQ τ (aLoops s a b c))) := by
  have m84 := hM.1.mem.1
  have l3 := hM.1.2.2.2.1
  refine b_X6_loops (fun E => ⟨_, t_inN a 1000000 (by omega) (by decide), ?_⟩)
  rintro v2 τ3 ⟨rfl, ⟨x, hx, rfl, hz, rfl⟩ | ⟨hz, rfl⟩⟩
  · refine ⟨fun c => absurd c (by decide), fun _ => ⟨_, t_inN b 7 (by omega) (by decide), ?_⟩⟩
    rintro v8 τ9 ⟨rfl, ⟨n, hn, rfl, hz2, rfl⟩ | ⟨hz2, rfl⟩⟩
    · refine ⟨fun c => absurd c (by decide), fun _ => ⟨_, t_isWord c, ?_⟩⟩
      rintro v14 τ15 ⟨rfl, ⟨w, hw, rfl, hz3, rfl⟩ | ⟨hz3, rfl⟩⟩
      · refine ⟨fun _ => ?_, fun c => absurd c (by decide)⟩
        rw [hM.2.2.2.1.1, zeq (by omega) (by omega)]
        refine ⟨fun h0' τ16 e16 => ?_, fun h0' => m_no hM (zLow.rf _) (by simp only [aLoops, hz, hz2, hz3]; rw [if_pos ((zM_empty hM.1).mpr h0')])⟩
        have h0m : ¬ (sM s).length = 0 := fun q => h0' ((zM_empty hM.1).mp q)
        have ea : aLoops s (nI x) (nI n) (nI w) = aKeep s w (zloops (sM s) x n []) := by simp only [aLoops, hz, hz2, hz3]; rw [if_neg h0m]
        rw [ea]
        have h0 := zH0 (τ := τ) (v := nI 0) rfl
        rw [← e16] at h0
        rw [nI_l (by omega)]
        have loop : ∀ (k j y : Nat) (xs : List Nat) (σ : ww_M), j + k = n → y < 2147483648 → zH σ xs → zred xs → zXM τ σ → zloops (sM s) y k xs = zloops (sM s) x n [] → ww_W g mX6_loops E (ww_QI (zMQ τ (aKeep s w (zloops (sM s) x n [])))) 60 [some (.inr (.inr (30, 0))), none, some (.inl (nI n)), some (.inl (nI w)), some (.inr (.inl (lN y))), none, some (.inl (nI j)), none, none, none] [] σ := by
          intro k
          induction k with
          | zero =>
            intro j y xs σ hj hy hh hrd hf he
            have he : xs = zloops (sM s) x n [] := he
            refine b_X6_loops_60 ⟨fun _ => m_layIfFits (hM.keep hf) hf.low hh hw hrd (by rw [he]), fun q => by rw [zle (by omega) (by omega)] at q; omega⟩
          | succ k ih =>
            intro j y xs σ hj hy hh hrd hf he
            rw [zloops_s] at he
            have hl7 := hh.1
            refine b_X6_loops_60 ⟨fun q => by rw [zle (by omega) (by omega)] at q; omega, fun _ => ?_⟩
            rw [hh.2.1, zlt (by omega) (by omega)]
            refine ⟨fun c1 => ?_, fun c1 => ⟨_, t_drawn hy, ?_⟩⟩
            · rw [if_pos c1] at he
              exact m_layIfFits (hM.keep hf) hf.low hh hw hrd (by rw [he])
            · rw [if_neg c1] at he
              rintro v5 τ6 ⟨rfl, rfl⟩
              rw [(hM.keep hf).2.2.2.2.1.1, nI_l (by omega), zl_dm (znx_lt y) (by omega) (by omega), zl_e8 (znx_lt y)]
              have hm := zdm_lt (m := (sM s).length) (x := znx y) (by omega)
              have e8 := ze8_lt (znx y)
              have n31 := znx_lt y
              refine ⟨by rw [pk_lEQ (by omega) (by omega)]; exact h0m, _, t_push hh e8 (by omega), ?_⟩
              rintro τ12 ⟨k12, f12⟩
              obtain ⟨m84', hxm, h14, hxo⟩ := hM.mm hm
              generalize zdm (sM s).length (znx y) = m at *
              generalize ze8 (znx y) = aa at *
              have hpl := zpush_len xs aa
              have inner : ∀ (d i : Nat) (σ' : ww_M), i + d = (zm (sM s) m).length → zH σ' (zpushs (zpush xs aa) ((zm (sM s) m).take i)) → zXM τ σ' → ww_W g mX6_loops E (ww_QI (zMQ τ (aKeep s w (zloops (sM s) x n [])))) 119 [some (.inr (.inr (30, 0))), none, some (.inl (nI n)), some (.inl (nI w)), some (.inr (.inl (lN (znx y)))), none, some (.inl (nI j)), some (.inl (nI m)), some (.inl (nI aa)), some (.inl (nI i))] [] σ' := by
                intro d
                induction d with
                | zero =>
                  intro i σ' hi hh' hf'
                  rw [List.take_of_length_le (by omega)] at hh'
                  have h2 := zpushs_len (ys := zm (sM s) m) (zpush xs aa)
                  refine b_X6_loops_119 ⟨m, rfl, m84', fun _ => ⟨_, t_opp e8, ?_⟩, fun q => ?_⟩
                  · rintro v3 τ4 ⟨rfl, rfl⟩
                    refine ⟨_, t_push hh' (zo_lt e8) (by omega), ?_⟩
                    rintro τ7 ⟨k7, f7⟩
                    rw [zadd]
                    have hlo := zloop_ok hxo e8 hh.2.2.2 hrd
                    exact ih (j + 1) (znx y) _ τ7 (by omega) n31 k7 hlo.2 (hf'.tr f7.x) he
                  · rw [hf'.1 _ (by decide) (by decide), hxm.1, zle (by omega) (by omega)] at q; omega
                | succ d ih2 =>
                  intro i σ' hi hh' hf'
                  have h2 := zpushs_len (ys := (zm (sM s) m).take i) (zpush xs aa)
                  rw [List.length_take] at h2
                  refine b_X6_loops_119 ⟨m, rfl, m84', fun q => ?_, fun _ => ⟨14 * m + i, by rw [zmul, zadd], by omega, ?_⟩⟩
                  · rw [hf'.1 _ (by decide) (by decide), hxm.1, zle (by omega) (by omega)] at q; omega
                  · rw [hf'.1 _ (by decide) (by decide), hxm.2 i (by omega)]
                    refine ⟨_, t_push hh' (zat_lt hxo (by omega)) (by omega), ?_⟩
                    rintro τ7 ⟨k7, f7⟩
                    rw [zadd]
                    refine ih2 (i + 1) τ7 (by omega) ?_ (hf'.tr f7.x)
                    rw [ztake_succ (by omega), zpushs_app]
                    exact k7
              exact inner (zm (sM s) m).length 0 τ12 (by omega) k12 (hf.tr f12.x)
        exact loop n 0 x [] τ16 (by omega) (by omega) h0.1 zred_nil h0.2.x rfl
      · exact ⟨fun c => absurd rfl c, fun _ => m_bad hM (zLow.rf _) (by simp only [aLoops, hz, hz2, hz3])⟩
    · exact ⟨fun _ => m_bad hM (zLow.rf _) (by simp only [aLoops, hz, hz2]), fun c => absurd rfl c⟩
  · exact ⟨fun _ => m_bad hM (zLow.rf _) (by simp only [aLoops, hz]), fun c => absurd rfl c⟩
end MTURN
