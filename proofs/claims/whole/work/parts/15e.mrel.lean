/-! ===== the model: relators' and members' answers ===== -/
section MREL
variable {l : Launch} {g : ww_G} {τ : ww_M} {s : zS}
theorem zl_hi {n : Nat} (hn : n < 1000) : ((nI n - nI 1).toInt64).toInt = (n : Int) - 1 := by
  rw [Int32.toInt_toInt64, pk_sub_toInt (by omega) (by decide)]
  rfl
theorem t_isMember (hM : zM s τ) (a : Int32) : ww_T l g mX6_isMember [.inr (.inr (30, 0)), .inl a] τ (ww_QI (fun v τ' => τ = τ' ∧ ((∃ w, w < (sM s).length ∧ a = nI w ∧ zn a (sM s).length = some w ∧ v = nI 1) ∨ (zn a (sM s).length = none ∧ v = nI 0)))) := by
  have h84 := hM.1.mem.1
  refine b_X6_isMember (fun E => ⟨_, t_inN a (sM s).length (by omega) (by rw [hM.2.2.2.2.1.1]; exact zl_hi (by omega)), ?_⟩)
  rintro v t ⟨rfl, h⟩
  exact ⟨by rcases h with ⟨_, _, _, _, h⟩ | ⟨_, h⟩ <;> simp [h], rfl, h⟩
theorem t_isRelator (hM : zM s τ) (a : Int32) : ww_T l g mX6_isRelator [.inr (.inr (30, 0)), .inl a] τ (ww_QI (fun v τ' => τ = τ' ∧ ((∃ w, w < (sL s).length ∧ a = nI w ∧ zn a (sL s).length = some w ∧ v = nI 1) ∨ (zn a (sL s).length = none ∧ v = nI 0)))) := by
  have h3 := hM.1.2.2.2.1
  refine b_X6_isRelator (fun E => ⟨_, t_inN a (sL s).length (by omega) (by rw [hM.2.2.2.1.1]; exact zl_hi (by omega)), ?_⟩)
  rintro v t ⟨rfl, h⟩
  exact ⟨by rcases h with ⟨_, _, _, _, h⟩ | ⟨_, h⟩ <;> simp [h], rfl, h⟩
theorem zlk_s (xs ys : List Nat) (i k n : Nat) : zlk xs ys i k (n + 1) = if zat xs (i + k) = zat ys k then zlk xs ys i (k + 1) n else k := rfl
theorem t_beginAlike {m o : Nat} {x y : List Nat} (hm : m < 84) (ho : o < 84) (hx : zMm τ m x) (hy : zMm τ o y) (lx : x.length ≤ 14) (ly : y.length ≤ 14) (ox : zok x) (oy : zok y) : ww_T l g mX6_beginAlike [.inr (.inr (30, 0)), .inl (nI m), .inl (nI o)] τ (ww_QI (fun v τ' => τ = τ' ∧ v = nI (zlike x 0 y))) := by
  refine b_X6_beginAlike (fun E => ?_)
  have loop : ∀ (n k : Nat), k + n = min x.length y.length → zlk x y 0 k n = zlike x 0 y → ww_W g mX6_beginAlike E (ww_QI (fun v τ' => τ = τ' ∧ v = nI (zlike x 0 y))) 2 [some (.inr (.inr (30, 0))), some (.inl (nI m)), some (.inl (nI o)), some (.inl (nI k))] [] τ := by
    intro n
    induction n with
    | zero =>
      intro k hk he
      have he : k = zlike x 0 y := he
      refine b_X6_beginAlike_2 ⟨m, rfl, hm, ?_⟩
      rw [hx.1, zle (by omega) (by omega)]
      exact ⟨fun _ => ⟨rfl, by rw [he]⟩, fun c => ⟨o, rfl, ho, fun _ => ⟨rfl, by rw [he]⟩, fun c2 => by rw [hy.1, zle (by omega) (by omega)] at c2; omega⟩⟩
    | succ n ih =>
      intro k hk he
      rw [zlk_s, Nat.zero_add] at he
      refine b_X6_beginAlike_2 ⟨m, rfl, hm, ?_⟩
      rw [hx.1, zle (by omega) (by omega)]
      refine ⟨fun c => by omega, fun _ => ⟨o, rfl, ho, fun c => by rw [hy.1, zle (by omega) (by omega)] at c; omega, fun _ => ⟨14 * m + k, by rw [zmul, zadd], by omega, 14 * o + k, by rw [zmul, zadd], by omega, ?_⟩⟩⟩
      have a1 := zat_lt ox (show k < x.length by omega)
      have a2 := zat_lt oy (show k < y.length by omega)
      rw [hx.2 k (by omega), hy.2 k (by omega), zeq (by omega) (by omega), zadd]
      refine ⟨fun c => ⟨rfl, by rw [if_neg c] at he; rw [he]⟩, fun c => ih (k + 1) (by omega) (by rw [if_pos c] at he; exact he)⟩
  exact loop (min x.length y.length) 0 (by omega) (by unfold zlike; rw [Nat.sub_zero])
theorem zOf_dec (x z : List Nat) : zOf x z ∨ ¬ zOf x z := Classical.em _
def zOfB (x z : List Nat) : Bool := (List.range x.length).any (fun i => decide (z = zturn x i) || decide (z = zturn (zinv x) i))
theorem zOfB_iff (x z : List Nat) : zOfB x z = true ↔ zOf x z := by
  unfold zOfB zOf
  rw [List.any_eq_true]
  constructor
  · rintro ⟨i, hi, h⟩
    rw [Bool.or_eq_true, decide_eq_true_eq, decide_eq_true_eq] at h
    exact ⟨i, List.mem_range.mp hi, h⟩
  · rintro ⟨i, hi, h⟩
    exact ⟨i, List.mem_range.mpr hi, by rw [Bool.or_eq_true, decide_eq_true_eq, decide_eq_true_eq]; exact h⟩
theorem t_isOf {m r : Nat} {x z : List Nat} (hm : m < 84) (hz : zMm τ m z) (hz14 : z.length ≤ 14) (hzo : zok z) (hr : r < 3) (hx : zRl τ r x) (h14 : x.length ≤ 14) (ho : zok x) : ww_T l g mX6_isOf [.inr (.inr (30, 0)), .inl (nI m), .inl (nI r)] τ (ww_QI (fun v τ' => τ = τ' ∧ v = zb (zOfB x z))) := by
  refine b_X6_isOf (fun E => ?_)
  have yes : ∀ (k : Nat), zOf x z → ww_W g mX6_isOf E (ww_QI (fun v τ' => τ = τ' ∧ v = zb (zOfB x z))) 5 [some (.inr (.inr (30, 0))), some (.inl (nI m)), some (.inl (nI r)), some (.inl (nI 1)), some (.inl (nI k))] [] τ := by
    intro k he
    have e1 : zb (zOfB x z) = nI 1 := by rw [(zOfB_iff x z).mpr he]; rfl
    exact b_X6_isOf_5 ⟨r, rfl, hr, fun _ => ⟨Or.inr rfl, rfl, e1.symm⟩, fun _ => ⟨fun _ => ⟨Or.inr rfl, rfl, e1.symm⟩, fun c => absurd c (by decide)⟩⟩
  have loop : ∀ (n k : Nat), k + n = x.length → (∀ i, i < k → z ≠ zturn x i ∧ z ≠ zturn (zinv x) i) → ww_W g mX6_isOf E (ww_QI (fun v τ' => τ = τ' ∧ v = zb (zOfB x z))) 5 [some (.inr (.inr (30, 0))), some (.inl (nI m)), some (.inl (nI r)), some (.inl (nI 0)), some (.inl (nI k))] [] τ := by
    intro n
    induction n with
    | zero =>
      intro k hk hno
      have e0 : zb (zOfB x z) = nI 0 := by
        cases e : zOfB x z with
        | false => rfl
        | true =>
          obtain ⟨i, hi, h⟩ := (zOfB_iff x z).mp e
          have := hno i (by omega)
          rcases h with h | h
          · exact absurd h this.1
          · exact absurd h this.2
      refine b_X6_isOf_5 ⟨r, rfl, hr, fun _ => ⟨Or.inl rfl, rfl, e0.symm⟩, fun c => ?_⟩
      rw [hx.1, zle (by omega) (by omega)] at c; omega
    | succ n ih =>
      intro k hk hno
      refine b_X6_isOf_5 ⟨r, rfl, hr, fun c => ?_, fun _ => ⟨fun c => absurd rfl c, fun _ => ⟨_, t_isTurn (b := false) hm hz hz14 hzo hr hx h14 ho (by omega), ?_⟩⟩⟩
      · rw [hx.1, zle (by omega) (by omega)] at c; omega
      · rintro v3 τ4 ⟨rfl, rfl⟩
        rw [zb_0, zadd]
        refine ⟨fun c => yes (k + 1) ⟨k, by omega, Or.inl ?_⟩, fun c => ⟨_, t_isTurn (b := true) hm hz hz14 hzo hr hx h14 ho (by omega), ?_⟩⟩
        · have : z = zturn (zdir false x) k := by simpa using c
          exact this
        · have c1 : ¬ z = zturn (zdir false x) k := by simpa using c
          rintro v6 τ7 ⟨rfl, rfl⟩
          rw [zb_0]
          refine ⟨fun c2 => ?_, fun c2 => yes (k + 1) ⟨k, by omega, Or.inr ?_⟩⟩
          · have c3 : ¬ z = zturn (zdir true x) k := by simpa using c2
            refine ih (k + 1) (by omega) (fun i hi => ?_)
            by_cases e : i = k
            · rw [e]; exact ⟨c1, c3⟩
            · exact hno i (by omega)
          · have : z = zturn (zdir true x) k := by simpa using c2
            exact this
  exact loop x.length 0 (by omega) (fun i hi => absurd hi (Nat.not_lt_zero _))
theorem zM.mm (hM : zM s τ) {m : Nat} (hm : m < (sM s).length) : m < 84 ∧ zMm τ m (zm (sM s) m) ∧ (zm (sM s) m).length ≤ 14 ∧ zok (zm (sM s) m) := by
  have h := hM.1.mem
  exact ⟨by omega, (hM.2.2.2.2.1.2 m hm).1, (h.2 m hm).1, (h.2 m hm).2.2.1⟩
theorem zM.rr (hM : zM s τ) {r : Nat} (hr : r < (sL s).length) : r < 3 ∧ zRl τ r (zm (sL s) r) ∧ (zm (sL s) r).length ≤ 14 ∧ zok (zm (sL s) r) := by
  have h := hM.1.2.2.2
  exact ⟨by omega, hM.2.2.2.1.2 r hr, (h.2.1 r hr).2.1, (h.2.1 r hr).2.2.1⟩
theorem zpc2_sP (s : zS) {r : Nat} (hr : r < (sL s).length) : zpc2 (sM s) (fun m => zOfB (zm (sL s) r) (zm (sM s) m)) (sM s).length = sP s r := by
  refine zpc2_eq (fun m hm => ?_)
  have := (zbuild_own (sL s) (sL s).length).2.2.2.1 m hm r
  rw [zOfB_iff]
  exact this.trans ⟨fun h => h.2, fun h => ⟨hr, h⟩⟩
theorem zpc2_lt (mem : List (List Nat)) (P : Nat → Bool) (h : ∀ m, m < mem.length → (zm mem m).length ≤ 14) (n : Nat) (hn : n ≤ mem.length) : zpc2 mem P n ≤ 14 := by
  refine zgr_le (fun m hm => ?_)
  show (if P m = true then zgr _ mem.length else 0) ≤ 14
  split
  · refine zgr_le (fun o ho => ?_)
    show (if o = m then 0 else zlike (zm mem m) 0 (zm mem o)) ≤ 14
    split
    · exact Nat.zero_le _
    · have := (zlike_le (zm mem m) 0 (zm mem o)).2
      have := h o ho
      omega
  · exact Nat.zero_le _
theorem zgr_s (f : Nat → Nat) (n : Nat) : zgr f (n + 1) = max (zgr f n) (f n) := rfl
theorem t_pieceOf {r : Nat} (hM : zM s τ) (hr : r < (sL s).length) : ww_T l g mX6_pieceOf [.inr (.inr (30, 0)), .inl (nI r)] τ (ww_QI (fun v τ' => τ = τ' ∧ v = nI (sP s r) ∧ sP s r ≤ 14)) := by
  have hmem := hM.1.mem
  have h6 := hM.2.2.2.2.1.1
  obtain ⟨r3, hx, h14, hxo⟩ := hM.rr hr
  have h84 := hmem.1
  have m14 : ∀ m, m < (sM s).length → (zm (sM s) m).length ≤ 14 := fun m hm => (hmem.2 m hm).1
  rw [← zpc2_sP s hr]
  generalize hP : (fun m => zOfB (zm (sL s) r) (zm (sM s) m)) = P
  have hPm : ∀ m, P m = zOfB (zm (sL s) r) (zm (sM s) m) := fun m => by rw [← hP]
  have hb := fun n hn => zpc2_lt (sM s) P m14 n hn
  refine b_X6_pieceOf (fun E => ?_)
  have loop : ∀ (n k : Nat), k + n = (sM s).length → ww_W g mX6_pieceOf E (ww_QI (fun v τ' => τ = τ' ∧ v = nI (zpc2 (sM s) P (sM s).length) ∧ zpc2 (sM s) P (sM s).length ≤ 14)) 4 [some (.inr (.inr (30, 0))), some (.inl (nI r)), some (.inl (nI (zpc2 (sM s) P k))), some (.inl (nI k)), none, none] [] τ := by
    intro n
    induction n with
    | zero =>
      intro k hk
      have e : k = (sM s).length := by omega
      subst e
      exact b_X6_pieceOf_4 ⟨fun _ => ⟨rfl, rfl, hb _ (Nat.le_refl _)⟩, fun c => by rw [h6, zle (by omega) (by omega)] at c; omega⟩
    | succ n ih =>
      intro k hk
      have next := ih (k + 1) (by omega)
      clear ih
      obtain ⟨p1, p2, p3, p4⟩ := hM.mm (show k < (sM s).length by omega)
      refine b_X6_pieceOf_4 ⟨fun c => by rw [h6, zle (by omega) (by omega)] at c; omega, fun _ => ⟨_, t_isOf p1 p2 p3 p4 r3 hx h14 hxo, ?_⟩⟩
      rintro v2 τ3 ⟨rfl, rfl⟩
      rw [zb_0, ← hPm k]
      refine ⟨fun c => ?_, fun c => ?_⟩
      · have e : zpc2 (sM s) P (k + 1) = zpc2 (sM s) P k := by
          unfold zpc2; rw [zgr_s, if_neg (by rw [c]; decide)]; omega
        rw [e] at next
        rw [zadd]
        exact next
      · have c' : P k = true := by simpa using c
        have e : zpc2 (sM s) P (k + 1) = max (zpc2 (sM s) P k) (zgr (fun o => if o = k then 0 else zlike (zm (sM s) k) 0 (zm (sM s) o)) (sM s).length) := by
          unfold zpc2; rw [zgr_s, if_pos c']
        rw [e] at next
        have hbk := hb k (by omega)
        have inner : ∀ (d o : Nat), o + d = (sM s).length → ww_W g mX6_pieceOf E (ww_QI (fun v τ' => τ = τ' ∧ v = nI (zpc2 (sM s) P (sM s).length) ∧ zpc2 (sM s) P (sM s).length ≤ 14)) 24 [some (.inr (.inr (30, 0))), some (.inl (nI r)), some (.inl (nI (max (zpc2 (sM s) P k) (zgr (fun o => if o = k then 0 else zlike (zm (sM s) k) 0 (zm (sM s) o)) o)))), some (.inl (nI k)), some (.inl (nI o)), none] [] τ := by
          intro d
          induction d with
          | zero =>
            intro o ho
            have e2 : o = (sM s).length := by omega
            subst e2
            refine b_X6_pieceOf_24 ⟨fun _ => ?_, fun c => by rw [h6, zle (by omega) (by omega)] at c; omega⟩
            rw [zadd]
            exact next
          | succ d ih2 =>
            intro o ho
            obtain ⟨q1, q2, q3, q4⟩ := hM.mm (show o < (sM s).length by omega)
            have ih2 := ih2 (o + 1) (by omega)
            rw [zgr_s] at ih2
            have gl : zgr (fun o => if o = k then 0 else zlike (zm (sM s) k) 0 (zm (sM s) o)) o ≤ 14 := by
              refine zgr_le (fun j hj => ?_)
              show (if j = k then 0 else zlike (zm (sM s) k) 0 (zm (sM s) j)) ≤ 14
              split
              · exact Nat.zero_le _
              · have := (zlike_le (zm (sM s) k) 0 (zm (sM s) j)).1; omega
            refine b_X6_pieceOf_24 ⟨fun c => by rw [h6, zle (by omega) (by omega)] at c; omega, fun _ => ?_⟩
            rw [zeq (by omega) (by omega)]
            have fin : ∀ y, y ≤ 14 → y = (if o = k then 0 else zlike (zm (sM s) k) 0 (zm (sM s) o)) → ww_W g mX6_pieceOf E (ww_QI (fun v τ' => τ = τ' ∧ v = nI (zpc2 (sM s) P (sM s).length) ∧ zpc2 (sM s) P (sM s).length ≤ 14)) 50 [some (.inr (.inr (30, 0))), some (.inl (nI r)), some (.inl (nI (max (zpc2 (sM s) P k) (zgr (fun o => if o = k then 0 else zlike (zm (sM s) k) 0 (zm (sM s) o)) o)))), some (.inl (nI k)), some (.inl (nI o)), none] [.inl (nI y)] τ := by
              intro y hy14 hy
              rw [← hy] at ih2
              refine b_X6_pieceOf_50 ?_
              rw [zle (by omega) (by omega), zadd]
              refine ⟨fun c => ?_, fun c => ?_⟩
              · rw [show max (zpc2 (sM s) P k) (max (zgr (fun o => if o = k then 0 else zlike (zm (sM s) k) 0 (zm (sM s) o)) o) y) = max (zpc2 (sM s) P k) (zgr (fun o => if o = k then 0 else zlike (zm (sM s) k) 0 (zm (sM s) o)) o) by omega] at ih2
                exact ih2
              · rw [show max (zpc2 (sM s) P k) (max (zgr (fun o => if o = k then 0 else zlike (zm (sM s) k) 0 (zm (sM s) o)) o) y) = y by omega] at ih2
                exact ih2
            refine ⟨fun c => ⟨_, t_beginAlike p1 q1 p2 q2 p3 q3 p4 q4, ?_⟩, fun c => fin 0 (by omega) (by rw [if_pos c])⟩
            rintro v2 τ3 ⟨rfl, rfl⟩
            have := (zlike_le (zm (sM s) k) 0 (zm (sM s) o)).2
            exact fin _ (by omega) (by rw [if_neg c])
        have := inner (sM s).length 0 (by omega)
        rw [show max (zpc2 (sM s) P k) (zgr (fun o => if o = k then 0 else zlike (zm (sM s) k) 0 (zm (sM s) o)) 0) = zpc2 (sM s) P k by rw [zgr]; omega] at this
        exact this
  exact loop (sM s).length 0 (by omega)
theorem t_isGood {n : Nat} (hM : zM s τ) (hn : n < 100) : ww_T l g mX6_isGood [.inr (.inr (30, 0)), .inl (nI n)] τ (ww_QI (fun v τ' => τ = τ' ∧ v = zb (sG s n))) := by
  have h2 := hM.2.2.2.1.1
  have h3 := hM.1.2.2.2.1
  refine b_X6_isGood (fun E => ?_)
  have loop : ∀ (d k : Nat), k + d = (sL s).length → ww_W g mX6_isGood E (ww_QI (fun v τ' => τ = τ' ∧ v = zb (sG s n))) 4 [some (.inr (.inr (30, 0))), some (.inl (nI n)), some (.inl (zb (zgood (sL s) (sP s) n k))), some (.inl (nI k))] [] τ := by
    intro d
    induction d with
    | zero =>
      intro k hk
      have e : k = (sL s).length := by omega
      subst e
      exact b_X6_isGood_4 ⟨fun _ => ⟨zb_01 _, rfl, rfl⟩, fun c => by rw [h2, zle (by omega) (by omega)] at c; omega⟩
    | succ d ih =>
      intro k hk
      have next := ih (k + 1) (by omega)
      rw [zgood] at next
      obtain ⟨r3, hx, h14, hxo⟩ := hM.rr (show k < (sL s).length by omega)
      refine b_X6_isGood_4 ⟨fun c => by rw [h2, zle (by omega) (by omega)] at c; omega, fun _ => ?_⟩
      rw [zb_0]
      refine ⟨fun c => ?_, fun c => ⟨_, t_pieceOf hM (by omega), ?_⟩⟩
      · rw [c] at next
        rw [zadd]
        exact next
      · have c' : zgood (sL s) (sP s) n k = true := by simpa using c
        rw [c', Bool.true_and] at next
        rintro v2 τ3 ⟨rfl, rfl, hp⟩
        refine ⟨k, rfl, r3, ?_⟩
        have hml : n * sP s k ≤ 100 * 14 := Nat.mul_le_mul (by omega) hp
        rw [hx.1, zmul, zle (by omega) (by omega), zadd]
        refine ⟨fun c2 => ?_, fun c2 => ?_⟩
        · rw [decide_eq_false (by omega)] at next; exact next
        · rw [decide_eq_true (by omega)] at next; exact next
  exact loop (sL s).length 0 (by omega)
theorem mw_good (hM : zM s τ) (a : Int32) : ww_T l g mX6_good [.inr (.inr (30, 0)), .inl a] τ (ww_QI (zMQ τ (aGood s a))) := by
  refine b_X6_good (fun E => ⟨_, t_in _ _ _, ?_⟩)
  rintro v2 τ3 ⟨rfl, h⟩
  rw [Int32.toInt_toInt64, show (lN 1).toInt = 1 by decide, show (lN 9).toInt = 9 by decide] at h
  rcases h with ⟨p1, p2, rfl⟩ | ⟨p1, rfl⟩
  · rcases zn_cases a 10 (by decide) with ⟨n, hn, rfl, hz⟩ | ⟨hz, -⟩
    · rw [nI_toInt (by omega)] at p1 p2
      refine ⟨fun _ => ⟨_, t_isGood hM (by omega), ?_⟩, fun c => absurd c (by decide)⟩
      rintro v5 τ6 ⟨rfl, rfl⟩
      rw [zb_0]
      have ea : aGood s (nI n) = (zb (sG s n), s) := by simp only [aGood, hz]; rw [if_neg (by omega)]
      refine ⟨fun c => zMQ.eq hM (by rw [ea, c]; rfl), fun c => zMQ.eq hM (by rw [ea, show sG s n = true by simpa using c]; rfl)⟩
    · unfold zn at hz; rw [if_pos (by omega)] at hz; cases hz
  · refine ⟨fun c => absurd rfl c, fun _ => m_bad hM (zLow.rf _) ?_⟩
    rcases zn_cases a 10 (by decide) with ⟨n, hn, rfl, hz⟩ | ⟨hz, -⟩
    · rw [nI_toInt (by omega)] at p1
      simp only [aGood, hz]; rw [if_pos (by omega)]
    · simp only [aGood, hz]
theorem mw_alike (hM : zM s τ) (a b : Int32) : ww_T l g mX6_alike [.inr (.inr (30, 0)), .inl a, .inl b] τ (ww_QI (zMQ τ (aAlike s a b))) := by
  refine b_X6_alike (fun E => ⟨_, t_isMember hM a, ?_⟩)
  rintro v2 τ3 ⟨rfl, ⟨m, hm, rfl, hz, rfl⟩ | ⟨hz, rfl⟩⟩
  · refine ⟨fun c => absurd c (by decide), fun _ => ⟨_, t_isMember hM b, ?_⟩⟩
    rintro v8 τ9 ⟨rfl, ⟨o, ho, rfl, hz2, rfl⟩ | ⟨hz2, rfl⟩⟩
    · obtain ⟨p1, p2, p3, p4⟩ := hM.mm hm
      obtain ⟨q1, q2, q3, q4⟩ := hM.mm ho
      refine ⟨fun c => absurd c (by decide), fun _ => ⟨_, t_beginAlike p1 q1 p2 q2 p3 q3 p4 q4, ?_⟩⟩
      rintro v14 τ15 ⟨rfl, rfl⟩
      exact zMQ.eq hM (by simp only [aAlike, hz, hz2])
    · exact ⟨fun _ => m_bad hM (zLow.rf _) (by simp only [aAlike, hz, hz2]), fun c => absurd rfl c⟩
  · exact ⟨fun _ => m_bad hM (zLow.rf _) (by simp only [aAlike, hz]), fun c => absurd rfl c⟩
theorem mw_member (hM : zM s τ) (a b : Int32) : ww_T l g mX6_member [.inr (.inr (30, 0)), .inl a, .inl b] τ (ww_QI (zMQ τ (aMember s a b))) := by
  refine b_X6_member (fun E => ⟨_, t_isMember hM a, ?_⟩)
  have e1 : ((-1 : Int32)).toInt = -1 := by decide
  rintro v2 τ3 ⟨rfl, ⟨m, hm, rfl, hz, rfl⟩ | ⟨hz, rfl⟩⟩
  · obtain ⟨p1, p2, p3, p4⟩ := hM.mm hm
    refine ⟨fun c => absurd c (by decide), fun _ => ⟨fun c => ⟨fun c2 => ⟨m, rfl, p1, ?_⟩, fun c2 => ⟨m, rfl, p1, ?_⟩⟩, fun c => ?_⟩⟩
    · have hb : ¬ b < 0 := fun q => by
        rw [Int32.lt_iff_toInt_lt] at q
        rw [Int32.le_iff_toInt_le] at c
        have e0 : ((0 : Int32)).toInt = 0 := by decide
        rw [e1] at c
        rw [e0] at q
        exact c2 (Int32.toInt_inj.mp (by rw [e1]; omega))
      obtain ⟨k, hk, rfl⟩ := nI_of hb
      have hz2 := zn_nI hk (Nat.le_refl _)
      have ea : aMember s (nI m) (nI k) = (if k < (zm (sM s) m).length then nI (zat (zm (sM s) m) k) else (-1 : Int32), s) := by
        simp only [aMember, hz]; rw [if_neg c2]; simp only [hz2]
      rw [p2.1, zle (by omega) (by omega)]
      refine ⟨fun c3 => zMQ.eq hM (by rw [ea, if_neg (by omega)]), fun c3 => ⟨14 * m + k, by rw [zmul, zadd], by omega, ?_⟩⟩
      rw [p2.2 k (by omega)]
      exact zMQ.eq hM (by rw [ea, if_pos (by omega)])
    · rw [p2.1]
      exact zMQ.eq hM (by simp only [aMember, hz]; rw [if_pos c2])
    · have hz2 : zn b 2147483648 = none := by
        unfold zn
        rw [if_neg (fun q => c (by rw [Int32.le_iff_toInt_le, e1]; omega))]
      exact m_bad hM (zLow.rf _) (by simp only [aMember, hz]; rw [if_neg (fun q => c (by rw [q]; decide))]; simp only [hz2])
  · exact ⟨fun _ => m_bad hM (zLow.rf _) (by simp only [aMember, hz]), fun c => absurd rfl c⟩
theorem zcount_take {xs : List Nat} {k r : Nat} (h : k < xs.length) : (xs.take (k + 1)).count r = (xs.take k).count r + if zat xs k = r then 1 else 0 := by
  rw [ztake_succ h, List.count_append, List.count_singleton]
  congr 1
  by_cases c : zat xs k = r
  · rw [if_pos c, c]; simp
  · rw [if_neg c]; simp [c]
theorem mw_relator (hM : zM s τ) (a b : Int32) : ww_T l g mX6_relator [.inr (.inr (30, 0)), .inl a, .inl b] τ (ww_QI (zMQ τ (aRelator s a b))) := by
  refine b_X6_relator (fun E => ⟨_, t_isRelator hM a, ?_⟩)
  rintro v2 τ3 ⟨rfl, ⟨r, hr, rfl, hz, rfl⟩ | ⟨hz, rfl⟩⟩
  · refine ⟨fun c => absurd c (by decide), fun _ => ⟨_, t_inN b 3 (by omega) (by decide), ?_⟩⟩
    rintro v8 τ9 ⟨rfl, ⟨k, hk, rfl, hz2, rfl⟩ | ⟨hz2, rfl⟩⟩
    · refine ⟨fun _ => ?_, fun c => absurd c (by decide)⟩
      obtain ⟨r3, hx, h14, hxo⟩ := hM.rr hr
      have h84 := hM.1.mem.1
      have h6 := hM.2.2.2.2.1.1
      have hby : (sMB s).2.2.length = (sM s).length := (zbuild_own (sL s) (sL s).length).2.2.1
      have ea : aRelator s (nI r) (nI k) = (if k = 0 then nI (zm (sL s) r).length else if k = 1 then nI (sP s r) else nI ((sMB s).2.2.count r), s) := by simp only [aRelator, hz, hz2]
      have hb3 : ∀ m, m < (sM s).length → zat (sMB s).2.2 m < 3 := by
        intro m hm
        have := zat_all (p := fun b => b < (sL s).length) (zbuild_by (sL s) (sL s).length) (k := m) (by rw [show (zbuild (sL s) (sL s).length).2.2.length = _ from hby]; exact hm)
        have h3 := hM.1.2.2.2.1
        have : zat (sMB s).2.2 m < (sL s).length := this
        omega
      have loop : ∀ (n j : Nat), j + n = (sM s).length → ww_W g mX6_relator E (ww_QI (zMQ τ (aRelator s (nI r) (nI k)))) 30 [some (.inr (.inr (30, 0))), some (.inl (nI r)), some (.inl (nI k)), some (.inl (nI (((sMB s).2.2.take j).count r))), some (.inl (nI j))] [] τ := by
        intro n
        induction n with
        | zero =>
          intro j hj
          refine b_X6_relator_30 ⟨fun _ => ?_, fun c => by rw [h6, zle (by omega) (by omega)] at c; omega⟩
          rw [List.take_of_length_le (by omega), zeq (by omega) (by omega), zeq (by omega) (by omega)]
          refine ⟨fun c => ⟨fun c2 => zMQ.eq hM (by rw [ea, if_neg c, if_neg c2]), fun c2 => ⟨_, t_pieceOf hM hr, ?_⟩⟩, fun c => ⟨r, rfl, r3, ?_⟩⟩
          · rintro v τ3 ⟨rfl, rfl, -⟩
            exact zMQ.eq hM (by rw [ea, if_neg c, if_pos c2])
          · rw [hx.1]; exact zMQ.eq hM (by rw [ea, if_pos c])
        | succ n ih =>
          intro j hj
          have ih := ih (j + 1) (by omega)
          rw [zcount_take (by omega)] at ih
          have := hb3 j (by omega)
          refine b_X6_relator_30 ⟨fun c => by rw [h6, zle (by omega) (by omega)] at c; omega, fun _ => ⟨j, rfl, by omega, ?_⟩⟩
          rw [(hM.2.2.2.2.1.2 j (by omega)).2, zeq (by omega) (by omega), zadd, zadd, zadd]
          refine ⟨fun c => ?_, fun c => ?_⟩
          · rw [if_neg c] at ih; exact ih
          · rw [if_pos c] at ih; exact ih
      exact loop (sM s).length 0 (by omega)
    · exact ⟨fun c => absurd rfl c, fun _ => m_bad hM (zLow.rf _) (by simp only [aRelator, hz, hz2])⟩
  · exact ⟨fun _ => m_bad hM (zLow.rf _) (by simp only [aRelator, hz]), fun c => absurd rfl c⟩
end MREL
