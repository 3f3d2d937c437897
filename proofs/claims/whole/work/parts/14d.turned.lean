/-! ===== turned ===== -/
section TURNED
variable {l : Launch} {g : ww_G} {τ : ww_M} {R : Nat → List Nat} {s : zS}
theorem r_doAll2 {xs : List Nat} (hC : zC s R τ) (h16 : R 16 = xs) (h60 : xs.length ≤ 60) (hrd : zred xs) : ww_T l g mX3_doAll [.inr (.inr (20, 0)), .inr (.inr (21, 16))] τ (ww_QI (fun v τ' => zHi τ τ' ∧ τ' (21, 16) 1 = nI (zfin (sM s) (sK s) xs).2.length ∧ (zfin (sM s) (sK s) xs).2.length ≤ 540 ∧ ∃ R', zC s R' τ' ∧ R' 17 = R 17 ∧ R' 18 = R 18)) := by
  refine ww_T.imp (s_doAll hC.ct hC.2.1 (by omega) (by omega) (by rw [h16]; exact h60) (by rw [h16]; exact hrd)) ?_
  rintro r t ⟨v, rfl, rfl, f, R', k1, k2, k3⟩
  rw [h16] at k2
  refine ⟨_, rfl, f.hi, ?_, ?_, R', hC.rows k1 f (fun q hq => k3 q (by omega) (by omega)), k3 17 (by omega) (by omega), k3 18 (by omega) (by omega)⟩
  · have := (k1 16 (by omega)).2.1; rw [k2] at this; exact this
  · have := (k1 16 (by omega)).1; rw [k2] at this; exact this
/-- the letters that are put in: none, or a member's first -/
def zYs (s : zS) (a : Int32) (z : Nat) (ys : List Nat) : Prop := (z = 0 ∧ ys = []) ∨ ∃ m, a = nI m ∧ m < (sM s).length ∧ z ≤ (zm (sM s) m).length ∧ ys = (zm (sM s) m).take z
theorem s_beginningTurns {A B ys : List Nat} {t z : Nat} {a : Int32} (hC : zC s R τ) (hA : R 17 = A) (hB : R 18 = B) (hA8 : A.length ≤ 8) (hB8 : B.length ≤ 8) (ht : t ≤ A.length) (hz : z ≤ 2) (hy : zYs s a z ys) : ww_T l g mX5_beginningTurns [.inr (.inr (0, 0)), .inl (nI t), .inl a, .inl (nI z)] τ (ww_QI (fun v τ' => v = zb (zNil s (zTw A B t ys)) ∧ zHi τ τ' ∧ ∃ R', zC s R' τ' ∧ R' 17 = A ∧ R' 18 = B)) := by
  have hok : zok A := by have := (hC.2.1 17 (by omega)).2.2.2; rw [hA] at this; exact this
  have hokB : zok B := by have := (hC.2.1 18 (by omega)).2.2.2; rw [hB] at this; exact this
  have c16 : ww_cap 16 = 540 := by decide
  have yl : ys.length = z := by
    rcases hy with ⟨h1, h2⟩ | ⟨m, -, hm, h1, h2⟩
    · rw [h2, h1]; rfl
    · rw [h2, List.length_take]; omega
  have yo : zok ys := by
    rcases hy with ⟨h1, h2⟩ | ⟨m, -, hm, h1, h2⟩
    · rw [h2]; exact zok_nil
    · rw [h2]; exact zok_take (hC.mok m hm) z
  have ylet : ∀ (k : Nat) (σ : ww_M) (S : Nat → List Nat) (E : ww_E), k < z → zC s S σ → ww_T E.2.1 g mX0_letterOf [.inr (.inr (8, 0)), .inl a, .inl (nI k)] σ (ww_QI (fun v τ' => σ = τ' ∧ v = nI (zat ys k))) := by
    intro k σ S E hk hc
    rcases hy with ⟨h1, h2⟩ | ⟨m, rfl, hm, h1, h2⟩
    · omega
    · refine ww_T.imp (s_letterOf hc.ct.1 hc.2.1 hm (by omega)) ?_
      rintro r t ⟨v, rfl, rfl, rfl⟩
      refine ⟨_, rfl, rfl, ?_⟩
      rw [if_pos (by omega), h2, zat_take hk]
  refine b_X5_beginningTurns (fun E => ⟨_, s_wipe hC.2.1 (by omega), ?_⟩)
  rintro τ2 ⟨k2, n2⟩
  refine ⟨_, s_putTurn k2 (by omega) (by omega) (by omega) (by rw [zup_n (by omega), hA]; exact ht) (by rw [zup_s, zup_n (by omega), hA, c16]; simp; omega), ?_⟩
  rintro τ4 ⟨k4, n4⟩
  rw [zup_s, zup_n (by omega), hA, zup_up] at k4
  have hc4 : zC s (zup R 16 (zpushs [] (zturn A t))) τ4 := hC.rows k4 (n2.s.tr n4.s) (fun q hq => zup_n (by omega))
  have f4 : zHi τ τ4 := n2.hi.tr n4.hi
  have lt4 : (zpushs [] (zturn A t)).length ≤ 8 := by
    have := zpushs_len (ys := zturn A t) []
    rw [zturn_len ht] at this
    simp only [List.length_nil] at this
    omega
  have ot := zturn_ok hok t
  have ob : zok (zinv B) := zinv_ok hokB
  have lb := zinv_len B
  have orp : zred (zpushs [] (zturn A t)) := zred_pushs zred_nil zok_nil ot
  have oop : zok (zpushs [] (zturn A t)) := zok_pushs zok_nil ot
  have eT : zTw A B t ys = zpushs (zpushs (zpushs (zpushs [] (zturn A t)) ys) (zinv B)) (zinv ys) := by
    unfold zTw; rw [zpushs_app, zpushs_app, zpushs_app]
  have loop2 : ∀ (k : Nat) (σ : ww_M) (xs : List Nat), k ≤ z → zC s (zup R 16 xs) σ → zHi τ σ → xs.length + k ≤ 30 → zok xs → zred xs → zpushs xs (zinv (ys.take k)) = zTw A B t ys → ww_W g mX5_beginningTurns E (ww_QI (fun v τ' => v = zb (zNil s (zTw A B t ys)) ∧ zHi τ τ' ∧ ∃ R', zC s R' τ' ∧ R' 17 = A ∧ R' 18 = B)) 67 [some (.inr (.inr (0, 0))), none, some (.inl a), none, some (.inl (nI k - nI 1))] [] σ := by
    intro k
    induction k with
    | zero =>
      intro σ xs hk hc hf hl ho hr he
      refine b_X5_beginningTurns_67 ⟨fun _ => ⟨_, r_doAll2 hc (zup_s _ _ _) (by omega) hr, ?_⟩, fun c => absurd (by decide) c⟩
      rintro v2 τ3 ⟨f3, e3, l3, R', k3, q1, q2⟩
      rw [zup_n (by omega)] at q1 q2
      rw [e3, zNil_0 l3]
      have he : xs = zTw A B t ys := he
      rw [he]
      refine ⟨fun c => ⟨?_, hf.tr f3, R', k3, q1.trans hA, q2.trans hB⟩, fun c => ⟨?_, hf.tr f3, R', k3, q1.trans hA, q2.trans hB⟩⟩
      · have : zNil s (zTw A B t ys) = false := by simpa using c
        rw [this]; rfl
      · rw [c]; rfl
    | succ k ih =>
      intro σ xs hk hc hf hl ho hr he
      have e1 : nI (k + 1) - nI 1 = nI k := zsub (by omega)
      have e2 : nI k + (-1 : Int32) = nI k - nI 1 := by rw [Int32.sub_eq_add_neg]; rfl
      have y8 := zat_lt yo (show k < ys.length by omega)
      rw [e1]
      refine b_X5_beginningTurns_67 ⟨fun c => ?_, fun _ => ⟨_, ylet k σ _ E (by omega) hc, ?_⟩⟩
      · rw [zlt (by omega) (by omega)] at c; omega
      · rintro v5 τ6 ⟨rfl, rfl⟩
        refine ⟨_, s_opp y8, ?_⟩
        rintro v8 τ9 ⟨rfl, rfl⟩
        refine ⟨_, r_put hc (zo_lt y8) (by rw [zup_s]; omega), ?_⟩
        rintro τ11 ⟨k11, f11⟩
        rw [zup_s, zup_up] at k11
        rw [e2]
        have hp := zpush_len xs (zo (zat ys k))
        refine ih τ11 _ (by omega) k11 (hf.tr f11) (by omega) (zok_push ho (zo_lt y8)) (zred_push hr ho (zo_lt y8)) ?_
        rw [← he, ztake_succ (by omega), zinv_app]
        rfl
  have loop1 : ∀ (n j : Nat) (σ : ww_M), j + n = z → zC s (zup R 16 (zpushs (zpushs [] (zturn A t)) (ys.take j))) σ → zHi τ σ → ww_W g mX5_beginningTurns E (ww_QI (fun v τ' => v = zb (zNil s (zTw A B t ys)) ∧ zHi τ τ' ∧ ∃ R', zC s R' τ' ∧ R' 17 = A ∧ R' 18 = B)) 22 [some (.inr (.inr (0, 0))), none, some (.inl a), some (.inl (nI z)), some (.inl (nI j))] [] σ := by
    intro n
    induction n with
    | zero =>
      intro j σ hj hc hf
      rw [List.take_of_length_le (by omega)] at hc
      have h1 := zpushs_len (ys := ys) (zpushs [] (zturn A t))
      have h2 := zpushs_len (ys := zinv B) (zpushs (zpushs [] (zturn A t)) ys)
      refine b_X5_beginningTurns_22 ⟨fun _ => ⟨_, s_putInverse hc.2.1 (by omega) (by omega) (by omega) (by rw [zup_s, zup_n (by omega), hB, c16]; omega), ?_⟩, fun c => by rw [zle (by omega) (by omega)] at c; omega⟩
      rintro τ5 ⟨k5, n5⟩
      rw [zup_s, zup_n (by omega), hB, zup_up] at k5
      have o1 := zok_pushs oop yo
      refine loop2 z τ5 _ (Nat.le_refl _) (hc.rows k5 n5.s (fun q hq => by rw [zup_n (by omega), zup_n (by omega)])) (hf.tr n5.hi) (by omega) (zok_pushs o1 ob) (zred_pushs (zred_pushs orp oop yo) o1 ob) ?_
      rw [List.take_of_length_le (by omega), eT]
    | succ n ih =>
      intro j σ hj hc hf
      have h1 := zpushs_len (ys := ys.take j) (zpushs [] (zturn A t))
      rw [List.length_take] at h1
      refine b_X5_beginningTurns_22 ⟨fun c => by rw [zle (by omega) (by omega)] at c; omega, fun _ => ⟨_, ylet j σ _ E (by omega) hc, ?_⟩⟩
      rintro v5 τ6 ⟨rfl, rfl⟩
      refine ⟨_, r_put hc (zat_lt yo (by omega)) (by rw [zup_s]; omega), ?_⟩
      rintro τ7 ⟨k7, f7⟩
      rw [zup_s, zup_up] at k7
      rw [zadd]
      refine ih (j + 1) τ7 (by omega) ?_ (hf.tr f7)
      rw [ztake_succ (by omega), zpushs_app]
      exact k7
  exact loop1 z 0 τ4 (by omega) hc4 f4
theorem zT1_t {A B : List Nat} {t z m : Nat} (hm : m < (sM s).length) (hz : z ≤ (zm (sM s) m).length) (h : zNil s (zTw A B t ((zm (sM s) m).take z)) = true) : zT1 s A B t z = true := by
  unfold zT1
  rw [List.any_eq_true]
  exact ⟨m, List.mem_range.mpr hm, by rw [decide_eq_true hz, h]; rfl⟩
theorem zT1_f {A B : List Nat} {t z : Nat} (h : ∀ m, m < (sM s).length → z ≤ (zm (sM s) m).length → ¬ zNil s (zTw A B t ((zm (sM s) m).take z)) = true) : zT1 s A B t z = false := by
  unfold zT1
  rw [List.any_eq_false]
  intro m hm
  rw [List.mem_range] at hm
  intro hc
  rw [Bool.and_eq_true, decide_eq_true_eq] at hc
  exact h m hm hc.1 hc.2
theorem ztake_like {xs ys : List Nat} {z : Nat} (h : z ≤ zlike xs 0 ys) : xs.take z = ys.take z := by
  have hl := zlike_le xs 0 ys
  apply zat_ext
  · rw [List.length_take, List.length_take]; omega
  · intro k hk
    rw [List.length_take] at hk
    rw [zat_take (by omega), zat_take (by omega)]
    have := zlike_eq (xs := xs) (i := 0) (ys := ys) (k := k) (by omega)
    rw [Nat.zero_add] at this
    exact this
theorem s_someBeginning {A B : List Nat} {t z : Nat} (hC : zC s R τ) (hA : R 17 = A) (hB : R 18 = B) (hA8 : A.length ≤ 8) (hB8 : B.length ≤ 8) (ht : t ≤ A.length) (hz : z ≤ 2) : ww_T l g mX5_someBeginningTurns [.inr (.inr (0, 0)), .inl (nI t), .inl (nI z)] τ (ww_QI (fun v τ' => v = zb (zT0 s A B t z) ∧ zHi τ τ' ∧ ∃ R', zC s R' τ' ∧ R' 17 = A ∧ R' 18 = B)) := by
  have m84 := hC.mlen
  refine b_X5_someBeginningTurns (fun E => ?_)
  rw [zeq (by omega) (by omega)]
  refine ⟨fun z0 => ?_, fun z0 => ⟨_, s_beginningTurns hC hA hB hA8 hB8 ht (z := 0) (by omega) (Or.inl ⟨rfl, rfl⟩), ?_⟩⟩
  · have eT : zT0 s A B t z = zT1 s A B t z := by unfold zT0; rw [if_neg z0]
    rw [eT]
    have loop : ∀ (n k : Nat) (σ : ww_M) (S : Nat → List Nat), k + n = (sM s).length → zC s S σ → S 17 = A → S 18 = B → zHi τ σ → (∀ m, m < k → z ≤ (zm (sM s) m).length → ¬ zNil s (zTw A B t ((zm (sM s) m).take z)) = true) → ww_W g mX5_someBeginningTurns E (ww_QI (fun v τ' => v = zb (zT1 s A B t z) ∧ zHi τ τ' ∧ ∃ R', zC s R' τ' ∧ R' 17 = A ∧ R' 18 = B)) 14 [some (.inr (.inr (0, 0))), some (.inl (nI t)), some (.inl (nI z)), some (.inl (nI k))] [] σ := by
      intro n
      induction n with
      | zero =>
        intro k σ S hk hc h17 h18 hf hno
        refine b_X5_someBeginningTurns_14 ⟨fun _ => ⟨?_, hf, S, hc, h17, h18⟩, fun c => by rw [hc.ct.1.2.1, zle (by omega) (by omega)] at c; omega⟩
        rw [zT1_f (fun m hm => hno m (by omega))]; rfl
      | succ n ih =>
        intro k σ S hk hc h17 h18 hf hno
        have hm : k < (sM s).length := by omega
        have next : ∀ (σ' : ww_M) (S' : Nat → List Nat), zC s S' σ' → S' 17 = A → S' 18 = B → zHi τ σ' → (z ≤ (zm (sM s) k).length → ¬ zNil s (zTw A B t ((zm (sM s) k).take z)) = true) → ww_W g mX5_someBeginningTurns E (ww_QI (fun v τ' => v = zb (zT1 s A B t z) ∧ zHi τ τ' ∧ ∃ R', zC s R' τ' ∧ R' 17 = A ∧ R' 18 = B)) 14 [some (.inr (.inr (0, 0))), some (.inl (nI t)), some (.inl (nI z)), some (.inl (nI (k + 1)))] [] σ' := by
          intro σ' S' h1 h2 h3 h4 h5
          refine ih (k + 1) σ' S' (by omega) h1 h2 h3 h4 (fun m hm2 => ?_)
          by_cases e : m = k
          · rw [e]; exact h5
          · exact hno m (by omega)
        clear ih
        refine b_X5_someBeginningTurns_14 ⟨fun c => by rw [hc.ct.1.2.1, zle (by omega) (by omega)] at c; omega, fun _ => ⟨_, s_beginsFresh hc.ct.1 hc.2.1 hm (by omega) hc.2.2.2.1.2.2.2.2.1, ?_⟩⟩
        rintro v2 τ3 ⟨rfl, ⟨q1, q2, rfl⟩ | ⟨q1, rfl⟩⟩
        · refine ⟨fun c => absurd c (by decide), fun _ => ⟨_, s_beginningTurns hc h17 h18 hA8 hB8 ht hz (Or.inr ⟨k, rfl, hm, q1, rfl⟩), ?_⟩⟩
          rintro v5 τ6 ⟨rfl, f6, R', k6, p1, p2⟩
          rw [zb_0, zadd]
          refine ⟨fun c => next τ6 R' k6 p1 p2 (hf.tr f6) (fun _ => by rw [c]; decide), fun c => ⟨?_, hf.tr f6, R', k6, p1, p2⟩⟩
          rw [zT1_t hm q1 (by simpa using c)]; rfl
        · refine ⟨fun _ => ?_, fun c => absurd rfl c⟩
          rw [zadd]
          refine next _ S hc h17 h18 hf (fun h1 h2 => ?_)
          have h3 : z ≤ zahead (sM s) k := by omega
          unfold zahead at h3
          rcases zgr_at (f := fun o => zlike (zm (sM s) o) 0 (zm (sM s) k)) (n := k) with h4 | ⟨o, ho, h4⟩
          · omega
          · rw [← h4] at h3
            have h5 := ztake_like h3
            have h6 := (zlike_le (zm (sM s) o) 0 (zm (sM s) k)).1
            exact hno o ho (by omega) (by rw [h5]; exact h2)
    exact loop (sM s).length 0 τ R (by omega) hC hA hB (zHi.rf τ) (fun m hm => absurd hm (Nat.not_lt_zero _))
  · rintro v2 τ3 ⟨rfl, f3, R', k3, p1, p2⟩
    subst z0
    exact ⟨zb_01 _, rfl, f3, R', k3, p1, p2⟩
theorem cw_turned (hC : zC s R τ) (a b : Int32) : ww_T l g mX5_turned [.inr (.inr (0, 0)), .inl a, .inl b] τ (ww_QI (zCQ τ (aTurned s a b))) := by
  refine b_X5_turned (fun E => ⟨_, s_isWord a, ?_⟩)
  rintro v2 τ3 ⟨rfl, ⟨w, hw, rfl, hz, rfl⟩ | ⟨hz, rfl⟩⟩
  · refine ⟨fun c => absurd c (by decide), fun _ => ⟨_, s_isWord b, ?_⟩⟩
    rintro v8 τ9 ⟨rfl, ⟨x, hx, rfl, hz2, rfl⟩ | ⟨hz2, rfl⟩⟩
    · have w1 := hC.wd hw
      have w2 := hC.wd hx
      have c17 : ww_cap 17 = 60 := by decide
      have c18 : ww_cap 18 = 60 := by decide
      refine ⟨fun _ => ⟨w, rfl, hw, _, s_copy hC.2.1 (by omega) (by omega) (by omega) (by rw [w1.1, c17]; exact w1.2.1), ?_⟩, fun c => absurd c (by decide)⟩
      rintro τ12 ⟨k12, n12⟩
      refine ⟨_, s_cutToRing k12 (by omega), ?_⟩
      rintro τ14 ⟨k14, n14⟩
      rw [zup_s, w1.1, zup_up] at k14
      refine ⟨x, rfl, hx, _, s_copy k14 (by omega) (by omega) (by omega) (by rw [zup_n (by omega), w2.1, c18]; exact w2.2.1), ?_⟩
      rintro τ17 ⟨k17, n17⟩
      refine ⟨_, s_cutToRing k17 (by omega), ?_⟩
      rintro τ19 ⟨k19, n19⟩
      rw [zup_s, zup_n (show x ≠ 17 by omega), w2.1, zup_up] at k19
      have hn := ((n12.tr n14).tr n17).tr n19
      have hc := hC.rows k19 hn.s (fun q hq => by rw [zup_n (by omega), zup_n (by omega)])
      have hf := hn.hi
      have h17 : zup (zup R 17 (zring (sW s w))) 18 (zring (sW s x)) 17 = zring (sW s w) := by rw [zup_n (by omega), zup_s]
      have h18 : zup (zup R 17 (zring (sW s w))) 18 (zring (sW s x)) 18 = zring (sW s x) := zup_s _ _ _
      have r17 := k19 17 (by omega)
      have r18 := k19 18 (by omega)
      rw [h17] at r17
      rw [h18] at r18
      have l17 := r17.1
      have l18 := r18.1
      refine ⟨_, r_good hc (by omega), ?_⟩
      rintro v21 τ22 ⟨rfl, rfl⟩
      rw [zb_0, r17.2.1, r18.2.1, zlt (by omega) (by omega), zle (by omega) (by omega)]
      have eno : ¬ (sG s 6 = true ∧ (zring (sW s w)).length ≤ 8 ∧ (zring (sW s x)).length ≤ 8) → aTurned s (nI w) (nI x) = zno s := fun h => by simp only [aTurned, hz, hz2]; rw [if_neg h]
      refine ⟨fun c => r_no hc hf (eno (fun h => by rw [c] at h; exact absurd h.1 (by decide))), fun c => ⟨fun c2 => r_no hc hf (eno (fun h => by omega)), fun c2 => ⟨fun c3 => ?_, fun c3 => r_no hc hf (eno (fun h => by omega))⟩⟩⟩
      have ea : aTurned s (nI w) (nI x) = (zTt s (zring (sW s w)) (zring (sW s x)) 0 (max 1 (zring (sW s w)).length), s) := by
        simp only [aTurned, hz, hz2]; rw [if_pos ⟨by simpa using c, by omega, c3⟩]
      rw [ea, zmax (by omega) (by omega)]
      generalize zring (sW s w) = A at *
      generalize zring (sW s x) = B at *
      have loop : ∀ (k t : Nat) (σ : ww_M) (S : Nat → List Nat), t + k = max 1 A.length → zC s S σ → S 17 = A → S 18 = B → zHi τ σ → zTt s A B t k = zTt s A B 0 (max 1 A.length) → ww_W g mX5_turned E (ww_QI (zCQ τ (zTt s A B 0 (max 1 A.length), s))) 119 [some (.inr (.inr (0, 0))), none, none, some (.inl (nI (max 1 A.length))), some (.inl (nI t)), none] [] σ := by
        intro k
        induction k with
        | zero =>
          intro t σ S ht hcc p1 p2 hff he
          rw [zTt] at he
          refine b_X5_turned_119 ⟨fun _ => ⟨he, ⟨S, hcc⟩, hff⟩, fun q => by rw [zle (by omega) (by omega)] at q; omega⟩
        | succ k ih =>
          intro t σ S ht hcc p1 p2 hff he
          rw [zTt] at he
          have next : ∀ (σ' : ww_M) (S' : Nat → List Nat), zC s S' σ' → S' 17 = A → S' 18 = B → zHi τ σ' → zTt s A B (t + 1) k = zTt s A B 0 (max 1 A.length) → ww_W g mX5_turned E (ww_QI (zCQ τ (zTt s A B 0 (max 1 A.length), s))) 119 [some (.inr (.inr (0, 0))), none, none, some (.inl (nI (max 1 A.length))), some (.inl (nI (t + 1))), none] [] σ' := fun σ' S' h1 h2 h3 h4 h5 => ih (t + 1) σ' S' (by omega) h1 h2 h3 h4 h5
          clear ih
          have inner : ∀ (d z : Nat) (σ' : ww_M) (S' : Nat → List Nat), z + d = 3 → zC s S' σ' → S' 17 = A → S' 18 = B → zHi τ σ' → (∀ y, y < z → zT0 s A B t y = false) → ww_W g mX5_turned E (ww_QI (zCQ τ (zTt s A B 0 (max 1 A.length), s))) 128 [some (.inr (.inr (0, 0))), none, none, some (.inl (nI (max 1 A.length))), some (.inl (nI t)), some (.inl (nI z))] [] σ' := by
            intro d
            induction d with
            | zero =>
              intro z σ' S' hz' h1 h2 h3 h4 h5
              refine b_X5_turned_128 ⟨fun _ => ?_, fun q => by rw [zlt (by omega) (by omega)] at q; omega⟩
              rw [zadd]
              rw [h5 0 (by omega), h5 1 (by omega), h5 2 (by omega)] at he
              exact next σ' S' h1 h2 h3 h4 he
            | succ d ih2 =>
              intro z σ' S' hz' h1 h2 h3 h4 h5
              refine b_X5_turned_128 ⟨fun q => by rw [zlt (by omega) (by omega)] at q; omega, fun _ => ⟨_, s_someBeginning h1 h2 h3 (by omega) c3 (by omega) (by omega), ?_⟩⟩
              rintro v2 τ3 ⟨rfl, f3, R', k3, p3, p4⟩
              rw [zb_0, zadd]
              refine ⟨fun c => ih2 (z + 1) τ3 R' (by omega) k3 p3 p4 (h4.tr f3) (fun y hy => ?_), fun c => ⟨?_, ⟨R', k3⟩, h4.tr f3⟩⟩
              · by_cases e : y = z
                · rw [e]; exact c
                · exact h5 y (by omega)
              · have c' : zT0 s A B t z = true := by simpa using c
                rw [zmul, zadd]
                show nI (100 * t + z) = zTt s A B 0 (max 1 A.length)
                rcases (show z = 0 ∨ z = 1 ∨ z = 2 by omega) with e | e | e
                · subst e; rw [if_pos c'] at he; exact he
                · subst e; rw [h5 0 (by omega), if_neg (by decide), if_pos c'] at he; exact he
                · subst e; rw [h5 0 (by omega), if_neg (by decide), h5 1 (by omega), if_neg (by decide), if_pos c'] at he; exact he
          exact b_X5_turned_119 ⟨fun q => by rw [zle (by omega) (by omega)] at q; omega, fun _ => inner 3 0 σ S rfl hcc p1 p2 hff (fun y hy => absurd hy (Nat.not_lt_zero _))⟩
      exact loop (max 1 A.length) 0 τ19 _ (by omega) hc h17 h18 hf rfl
    · exact ⟨fun c => absurd rfl c, fun _ => r_bad hC (zHi.rf _) (by simp only [aTurned, hz, hz2])⟩
  · exact ⟨fun _ => r_bad hC (zHi.rf _) (by simp only [aTurned, hz]), fun c => absurd rfl c⟩
end TURNED
