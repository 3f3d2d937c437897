/-! ===== the model: what it holds ===== -/
def zH (τ : ww_M) (xs : List Nat) : Prop := xs.length ≤ 700 ∧ τ (30, 0) 12 = nI xs.length ∧ (∀ k, k < xs.length → τ (39, 0) k = nI (zat xs k)) ∧ zok xs
def zHF (τ τ' : ww_M) : Prop := (∀ n : ww_N, n ≠ (39, 0) → n ≠ (30, 0) → τ' n = τ n) ∧ ∀ k, k ≠ 12 → τ' (30, 0) k = τ (30, 0) k
theorem zHF.rf (τ : ww_M) : zHF τ τ := ⟨fun _ _ _ => rfl, fun _ _ => rfl⟩
theorem zHF.tr {a b c : ww_M} (h : zHF a b) (h2 : zHF b c) : zHF a c := ⟨fun n h1 h3 => (h2.1 n h1 h3).trans (h.1 n h1 h3), fun k hk => (h2.2 k hk).trans (h.2 k hk)⟩
def zLow (τ τ' : ww_M) : Prop := ∀ n : ww_N, n.1 < 30 → τ' n = τ n
theorem zLow.rf (τ : ww_M) : zLow τ τ := fun _ _ => rfl
theorem zLow.tr {a b c : ww_M} (h : zLow a b) (h2 : zLow b c) : zLow a c := fun n hn => (h2 n hn).trans (h n hn)
/-- what a model's call that only works may change: its working cells -/
def zXM (τ τ' : ww_M) : Prop := (∀ n : ww_N, n.1 < 39 → n ≠ (30, 0) → τ' n = τ n) ∧ τ' (44, 0) = τ (44, 0) ∧ ∀ k, k = 2 ∨ k = 6 ∨ k = 10 ∨ k = 24 → τ' (30, 0) k = τ (30, 0) k
theorem zXM.rf (τ : ww_M) : zXM τ τ := ⟨fun _ _ _ => rfl, rfl, fun _ _ => rfl⟩
theorem zXM.tr {a b c : ww_M} (h : zXM a b) (h2 : zXM b c) : zXM a c := ⟨fun n h1 h3 => (h2.1 n h1 h3).trans (h.1 n h1 h3), h2.2.1.trans h.2.1, fun k hk => (h2.2.2 k hk).trans (h.2.2 k hk)⟩
theorem zXM.low {a b : ww_M} (h : zXM a b) : zLow a b := fun n hn => h.1 n (by omega) (fun e => by rw [e] at hn; exact absurd hn (by decide))
theorem zHF.x {a b : ww_M} (h : zHF a b) : zXM a b := ⟨fun n h1 h2 => h.1 n (fun e => by rw [e] at h1; exact absurd h1 (by decide)) h2, h.1 _ (by decide) (by decide), fun k hk => h.2 k (by omega)⟩
def zWd (τ : ww_M) (w : Nat) (xs : List Nat) : Prop := τ (37, 0) w = nI xs.length ∧ ∀ k, k < xs.length → τ (36, 0) (60 * w + k) = nI (zat xs k)
def zRl (τ : ww_M) (r : Nat) (xs : List Nat) : Prop := τ (32, 0) r = nI xs.length ∧ ∀ k, k < xs.length → τ (31, 0) (14 * r + k) = nI (zat xs k)
def zMm (τ : ww_M) (m : Nat) (xs : List Nat) : Prop := τ (34, 0) m = nI xs.length ∧ ∀ k, k < xs.length → τ (33, 0) (14 * m + k) = nI (zat xs k)
def zMt (τ : ww_M) (ts : List Nat) : Prop := τ (30, 0) 24 = nI ts.length ∧ ∀ k, k < ts.length → τ (44, 0) k = nI (zat ts k)
/-- what the model holds, for a state -/
def zM (s : zS) (τ : ww_M) : Prop := zWF s ∧ (∀ w, w < 6 → zWd τ w (sW s w)) ∧ zMt τ (sT s) ∧ (τ (30, 0) 2 = nI (sL s).length ∧ ∀ r, r < (sL s).length → zRl τ r (zm (sL s) r)) ∧ (τ (30, 0) 6 = nI (sM s).length ∧ ∀ m, m < (sM s).length → zMm τ m (zm (sM s) m) ∧ τ (35, 0) m = nI (zat (sMB s).2.2 m)) ∧ τ (30, 0) 10 = nI (sK s) ∧ τ (38, 0) 0 = nI (sB s) ∧ τ (38, 0) 1 = nI (sN s) ∧ τ (38, 0) 2 = nI (sF s)
theorem zM.keep {s : zS} {τ τ' : ww_M} (h : zM s τ) (hf : zXM τ τ') : zM s τ' := by
  obtain ⟨h1, h2, h3, h4, h5, h6, h7, h8, h9⟩ := h
  have e : ∀ k, k < 39 → 30 < k → τ' (k, 0) = τ (k, 0) := fun k hk hk2 => hf.1 _ hk (fun e => by cases e; omega)
  refine ⟨h1, fun w hw => ⟨by rw [e 37 (by omega) (by omega)]; exact (h2 w hw).1, fun k hk => by rw [e 36 (by omega) (by omega)]; exact (h2 w hw).2 k hk⟩, ⟨by rw [hf.2.2 24 (by omega)]; exact h3.1, fun k hk => by rw [hf.2.1]; exact h3.2 k hk⟩, ⟨by rw [hf.2.2 2 (by omega)]; exact h4.1, fun r hr => ⟨by rw [e 32 (by omega) (by omega)]; exact (h4.2 r hr).1, fun k hk => by rw [e 31 (by omega) (by omega)]; exact (h4.2 r hr).2 k hk⟩⟩, ⟨by rw [hf.2.2 6 (by omega)]; exact h5.1, fun m hm => ⟨⟨by rw [e 34 (by omega) (by omega)]; exact (h5.2 m hm).1.1, fun k hk => by rw [e 33 (by omega) (by omega)]; exact (h5.2 m hm).1.2 k hk⟩, by rw [e 35 (by omega) (by omega)]; exact (h5.2 m hm).2⟩⟩, by rw [hf.2.2 10 (by omega)]; exact h6, by rw [e 38 (by omega) (by omega)]; exact h7, by rw [e 38 (by omega) (by omega)]; exact h8, by rw [e 38 (by omega) (by omega)]; exact h9⟩
def zMQ (τ : ww_M) (an : zA) (v : Int32) (τ' : ww_M) : Prop := v = an.1 ∧ zM an.2 τ' ∧ zLow τ τ'
section MBASE
variable {l : Launch} {g : ww_G} {τ : ww_M} {s : zS}
theorem t_in (x lo hi : Int64) : ww_T l g mX6_in [.inr (.inl x), .inr (.inl lo), .inr (.inl hi)] τ (ww_QI (fun v τ' => τ = τ' ∧ ((lo.toInt ≤ x.toInt ∧ x.toInt ≤ hi.toInt ∧ v = nI 1) ∨ (¬ (lo.toInt ≤ x.toInt ∧ x.toInt ≤ hi.toInt) ∧ v = nI 0)))) := by
  refine b_X6_in (fun E => ?_)
  rw [nI_0, lg_cmp_lt, lg_cmp_gt, Int64.lt_iff_toInt_lt, Int64.lt_iff_toInt_lt]
  exact ⟨fun c => ⟨rfl, Or.inr ⟨by omega, rfl⟩⟩, fun c => ⟨fun c2 => ⟨rfl, Or.inr ⟨by omega, rfl⟩⟩, fun c2 => ⟨rfl, Or.inl ⟨by omega, by omega, rfl⟩⟩⟩⟩
theorem zin (a : Int32) (n : Nat) {N : Int64} (hN : N.toInt = (n : Int) - 1) : ((lN 0).toInt ≤ a.toInt64.toInt ∧ a.toInt64.toInt ≤ N.toInt) ↔ (0 ≤ a.toInt ∧ a.toInt < (n : Int)) := by
  rw [hN, pk_lT (by decide), Int32.toInt_toInt64]
  omega
/-- a number from 0 on, below n -/
theorem t_inN (a : Int32) (n : Nat) (hn : n < 2147483648) {N : Int64} (hN : N.toInt = (n : Int) - 1) : ww_T l g mX6_in [.inr (.inl a.toInt64), .inr (.inl (lN 0)), .inr (.inl N)] τ (ww_QI (fun v τ' => τ = τ' ∧ ((∃ w, w < n ∧ a = nI w ∧ zn a n = some w ∧ v = nI 1) ∨ (zn a n = none ∧ v = nI 0)))) := by
  refine ww_T.imp (t_in _ _ _) ?_
  rintro r t ⟨v, rfl, rfl, h⟩
  refine ⟨v, rfl, rfl, ?_⟩
  rcases h with ⟨h1, h2, h3⟩ | ⟨h1, h2⟩
  · have := (zin a n hN).mp ⟨h1, h2⟩
    rcases zn_cases a n hn with ⟨w, hw, e, hz⟩ | ⟨hz, -⟩
    · exact Or.inl ⟨w, hw, e, hz, h3⟩
    · unfold zn at hz; rw [if_pos this] at hz; cases hz
  · have : ¬ (0 ≤ a.toInt ∧ a.toInt < (n : Int)) := fun h => h1 ((zin a n hN).mpr h)
    exact Or.inr ⟨by unfold zn; rw [if_neg this], h2⟩
theorem t_isWord (a : Int32) : ww_T l g mX6_isWord [.inl a] τ (ww_QI (fun v τ' => τ = τ' ∧ ((∃ w, w < 6 ∧ a = nI w ∧ zn a 6 = some w ∧ v = nI 1) ∨ (zn a 6 = none ∧ v = nI 0)))) := by
  refine b_X6_isWord (fun E => ⟨_, t_inN a 6 (by omega) (by decide), ?_⟩)
  rintro v t ⟨rfl, h⟩
  exact ⟨by rcases h with ⟨_, _, _, _, h⟩ | ⟨_, h⟩ <;> simp [h], rfl, h⟩
theorem t_isLetter (a : Int32) : ww_T l g mX6_isLetter [.inl a] τ (ww_QI (fun v τ' => τ = τ' ∧ ((∃ w, w < 8 ∧ a = nI w ∧ zn a 8 = some w ∧ v = nI 1) ∨ (zn a 8 = none ∧ v = nI 0)))) := by
  refine b_X6_isLetter (fun E => ⟨_, t_inN a 8 (by omega) (by decide), ?_⟩)
  rintro v t ⟨rfl, h⟩
  exact ⟨by rcases h with ⟨_, _, _, _, h⟩ | ⟨_, h⟩ <;> simp [h], rfl, h⟩
theorem t_opp {a : Nat} (ha : a < 8) : ww_T l g mX6_opposite [.inl (nI a)] τ (ww_QI (fun v τ' => τ = τ' ∧ v = nI (zo a))) := by
  refine b_X6_opposite (fun E => ?_)
  rw [zle (by omega) (by omega)]
  refine ⟨fun c => ⟨rfl, ?_⟩, fun c => ⟨rfl, ?_⟩⟩
  · rw [zsub c]; unfold zo; rw [if_neg (by omega)]
  · rw [zadd]; unfold zo; rw [if_pos (by omega)]
theorem zM.cnt {k : Nat} {v : Int32} (h : zM s τ) (s' : zS) (hs : s'.1 = s.1 ∧ s'.2.1 = s.2.1 ∧ s'.2.2.1 = s.2.2.1 ∧ s'.2.2.2.1 = s.2.2.2.1) (h8 : ww_up τ (38, 0) k v (38, 0) 0 = nI (sB s')) (h9 : ww_up τ (38, 0) k v (38, 0) 1 = nI (sN s')) (h10 : ww_up τ (38, 0) k v (38, 0) 2 = nI (sF s')) : zM s' (ww_up τ (38, 0) k v) := by
  obtain ⟨h1, h2, h3, h4, h5, h6, -⟩ := h
  obtain ⟨s1, s2, s3, s4⟩ := hs
  have ho : ∀ n : ww_N, n ≠ (38, 0) → ww_up τ (38, 0) k v n = τ n := fun n hn => ww_up_f hn
  refine ⟨?_, ?_, ?_, ?_, ?_, ?_, h8, h9, h10⟩
  · unfold zWF sW sT sL sK at h1 ⊢; rw [s1, s2, s3, s4]; exact h1
  · intro w hw
    have := h2 w hw
    unfold sW at this ⊢; rw [s1]
    exact ⟨by rw [ho _ (by decide)]; exact this.1, fun k hk => by rw [ho _ (by decide)]; exact this.2 k hk⟩
  · unfold sT at h3 ⊢; rw [s2]
    exact ⟨by rw [ho _ (by decide)]; exact h3.1, fun k hk => by rw [ho _ (by decide)]; exact h3.2 k hk⟩
  · unfold sL at h4 ⊢; rw [s3]
    exact ⟨by rw [ho _ (by decide)]; exact h4.1, fun r hr => ⟨by rw [ho _ (by decide)]; exact (h4.2 r hr).1, fun k hk => by rw [ho _ (by decide)]; exact (h4.2 r hr).2 k hk⟩⟩
  · unfold sM sMB sL at h5 ⊢; rw [s3]
    exact ⟨by rw [ho _ (by decide)]; exact h5.1, fun m hm => ⟨⟨by rw [ho _ (by decide)]; exact (h5.2 m hm).1.1, fun k hk => by rw [ho _ (by decide)]; exact (h5.2 m hm).1.2 k hk⟩, by rw [ho _ (by decide)]; exact (h5.2 m hm).2⟩⟩
  · unfold sK at h6 ⊢; rw [s4, ho _ (by decide)]; exact h6
theorem zLow.up38 {k : Nat} {v : Int32} : zLow τ (ww_up τ (38, 0) k v) := fun n hn => ww_up_f (fun e => by rw [e] at hn; exact absurd hn (by decide))
theorem m_bad {an : zA} {τ0 : ww_M} (hM : zM s τ) (hb : zLow τ0 τ) (e : an = zbad s) : ∃ Q : Int32 → ww_M → Prop, ww_T l g mX6_bad [.inr (.inr (30, 0))] τ (ww_QI Q) ∧ ∀ (v : Int32) (τ' : ww_M), Q v τ' → zMQ τ0 an v τ' := by
  refine ⟨zMQ τ0 an, b_X6_bad (fun E => ⟨0, rfl, by omega, 0, rfl, by omega, fun τ2 e2 => ?_⟩), fun _ _ h => h⟩
  rw [hM.2.2.2.2.2.2.1, zadd] at e2
  subst e2
  subst e
  exact ⟨rfl, hM.cnt _ ⟨rfl, rfl, rfl, rfl⟩ (ww_up_s _ _ _ _) (by rw [ww_up_k (by decide)]; exact hM.2.2.2.2.2.2.2.1) (by rw [ww_up_k (by decide)]; exact hM.2.2.2.2.2.2.2.2), hb.tr zLow.up38⟩
theorem m_no {an : zA} {τ0 : ww_M} (hM : zM s τ) (hb : zLow τ0 τ) (e : an = zno s) : ∃ Q : Int32 → ww_M → Prop, ww_T l g mX6_no [.inr (.inr (30, 0))] τ (ww_QI Q) ∧ ∀ (v : Int32) (τ' : ww_M), Q v τ' → zMQ τ0 an v τ' := by
  refine ⟨zMQ τ0 an, b_X6_no (fun E => ⟨1, rfl, by omega, 1, rfl, by omega, fun τ2 e2 => ?_⟩), fun _ _ h => h⟩
  rw [hM.2.2.2.2.2.2.2.1, zadd] at e2
  subst e2
  subst e
  exact ⟨rfl, hM.cnt _ ⟨rfl, rfl, rfl, rfl⟩ (by rw [ww_up_k (by decide)]; exact hM.2.2.2.2.2.2.1) (ww_up_s _ _ _ _) (by rw [ww_up_k (by decide)]; exact hM.2.2.2.2.2.2.2.2), hb.tr zLow.up38⟩
theorem m_full {an : zA} {τ0 : ww_M} (hM : zM s τ) (hb : zLow τ0 τ) (e : an = zful s) : ∃ Q : Int32 → ww_M → Prop, ww_T l g mX6_full [.inr (.inr (30, 0))] τ (ww_QI Q) ∧ ∀ (v : Int32) (τ' : ww_M), Q v τ' → zMQ τ0 an v τ' := by
  refine ⟨zMQ τ0 an, b_X6_full (fun E => ⟨2, rfl, by omega, 2, rfl, by omega, fun τ2 e2 => ?_⟩), fun _ _ h => h⟩
  rw [hM.2.2.2.2.2.2.2.2, zadd] at e2
  subst e2
  subst e
  exact ⟨rfl, hM.cnt _ ⟨rfl, rfl, rfl, rfl⟩ (by rw [ww_up_k (by decide)]; exact hM.2.2.2.2.2.2.1) (by rw [ww_up_k (by decide)]; exact hM.2.2.2.2.2.2.2.1) (ww_up_s _ _ _ _), hb.tr zLow.up38⟩
theorem zH.app {xs : List Nat} {a : Nat} (h : zH τ xs) (ha : a < 8) (hl : xs.length < 700) {τ2 τ3 : ww_M} (e2 : τ2 = ww_up τ (39, 0) xs.length (nI a)) (e3 : τ3 = ww_up τ2 (30, 0) 12 (τ2 (30, 0) 12 + nI 1)) : zH τ3 (xs ++ [a]) ∧ zHF τ τ3 := by
  have q : τ2 (30, 0) 12 = nI xs.length := by rw [e2, ww_up_n (by simp), h.2.1]
  rw [q, zadd] at e3
  refine ⟨⟨by rw [List.length_append]; exact hl, by rw [e3, ww_up_s, List.length_append]; rfl, fun k hk => ?_, zok_app h.2.2.2 (fun x hx => by rw [List.mem_singleton.mp hx]; exact ha)⟩, fun n n1 n2 => by rw [e3, ww_up_f n2, e2, ww_up_f n1], fun k hk => by rw [e3, ww_up_k hk, e2, ww_up_n (by simp)]⟩
  rw [List.length_append, List.length_singleton] at hk
  rw [e3, ww_up_n (by simp), e2]
  by_cases c : k = xs.length
  · subst c; rw [ww_up_s, zat_app_e]
  · rw [ww_up_k c, zat_app_l (by omega), h.2.2.1 k (by omega)]
theorem t_push {xs : List Nat} {a : Nat} (h : zH τ xs) (ha : a < 8) (hl : xs.length < 700) : ww_T l g mX6_push [.inr (.inr (30, 0)), .inl (nI a)] τ (ww_QV (fun τ' => zH τ' (zpush xs a) ∧ zHF τ τ')) := by
  refine b_X6_push (fun E => ?_)
  rw [h.2.1, zle (by omega) (by omega)]
  refine ⟨fun c => ⟨xs.length, rfl, by omega, fun τ2 e2 τ3 e3 => ?_⟩, fun c => ⟨xs.length - 1, zsub (by omega), by omega, _, t_opp ha, ?_⟩⟩
  · have : zpush xs a = xs ++ [a] := by unfold zpush; rw [if_neg (by omega)]
    rw [this]; exact h.app ha hl e2 e3
  · rintro v6 τ7 ⟨rfl, rfl⟩
    rw [h.2.2.1 _ (by omega), zeq (by have := zat_lt h.2.2.2 (show xs.length - 1 < xs.length by omega); omega) (by have := zo_lt ha; omega)]
    refine ⟨fun c2 => ⟨xs.length, h.2.1, by omega, fun τ2 e2 τ3 e3 => ?_⟩, fun c2 τ2 e2 => ?_⟩
    · have : zpush xs a = xs ++ [a] := by unfold zpush; rw [if_neg (fun q => c2 q.2)]
      rw [this]; exact h.app ha hl e2 e3
    · have : zpush xs a = xs.dropLast := by unfold zpush; rw [if_pos ⟨by omega, c2⟩]
      rw [this]
      rw [h.2.1, zsub (by omega)] at e2
      refine ⟨⟨by rw [List.length_dropLast]; omega, by rw [e2, ww_up_s, List.length_dropLast], fun k hk => ?_, zok_drop h.2.2.2⟩, fun n n1 n2 => by rw [e2, ww_up_f n2], fun k hk => by rw [e2, ww_up_k hk]⟩
      rw [List.length_dropLast] at hk
      rw [e2, ww_up_n (by simp), zat_dropLast hk, h.2.2.1 k (by omega)]
theorem t_pushWord {xs ys : List Nat} {w : Nat} (h : zH τ xs) (hw : w < 6) (hy : zWd τ w ys) (h60 : ys.length ≤ 60) (ho : zok ys) (hl : xs.length + ys.length ≤ 700) : ww_T l g mX6_pushWord [.inr (.inr (30, 0)), .inl (nI w)] τ (ww_QV (fun τ' => zH τ' (zpushs xs ys) ∧ zHF τ τ')) := by
  refine b_X6_pushWord (fun E => ?_)
  have loop : ∀ (n k : Nat) (σ : ww_M), k + n = ys.length → zH σ (zpushs xs (ys.take k)) → zHF τ σ → ww_W g mX6_pushWord E (ww_QV (fun τ' => zH τ' (zpushs xs ys) ∧ zHF τ τ')) 2 [some (.inr (.inr (30, 0))), some (.inl (nI w)), some (.inl (nI k))] [] σ := by
    intro n
    induction n with
    | zero =>
      intro k σ hk hh hf
      rw [List.take_of_length_le (by omega)] at hh
      refine b_X6_pushWord_2 ⟨w, rfl, hw, fun _ => ⟨hh, hf⟩, fun c => ?_⟩
      rw [hf.1 _ (by decide) (by decide), hy.1, zle (by omega) (by omega)] at c; omega
    | succ n ih =>
      intro k σ hk hh hf
      have hp := zpushs_len (ys := ys.take k) xs
      rw [List.length_take] at hp
      refine b_X6_pushWord_2 ⟨w, rfl, hw, fun c => ?_, fun _ => ⟨60 * w + k, by rw [zmul, zadd], by omega, ?_⟩⟩
      · rw [hf.1 _ (by decide) (by decide), hy.1, zle (by omega) (by omega)] at c; omega
      · rw [hf.1 _ (by decide) (by decide), hy.2 k (by omega)]
        refine ⟨_, t_push hh (zat_lt ho (by omega)) (by omega), ?_⟩
        rintro τ4 ⟨k4, f4⟩
        rw [zadd]
        refine ih (k + 1) τ4 (by omega) ?_ (hf.tr f4)
        rw [ztake_succ (by omega), zpushs_app]
        exact k4
  exact loop ys.length 0 τ (by omega) h (zHF.rf τ)
theorem t_pushInverse {xs ys : List Nat} {w : Nat} (h : zH τ xs) (hw : w < 6) (hy : zWd τ w ys) (h60 : ys.length ≤ 60) (ho : zok ys) (hl : xs.length + ys.length ≤ 700) : ww_T l g mX6_pushInverse [.inr (.inr (30, 0)), .inl (nI w)] τ (ww_QV (fun τ' => zH τ' (zpushs xs (zinv ys)) ∧ zHF τ τ')) := by
  refine b_X6_pushInverse (fun E => ⟨w, rfl, hw, ?_⟩)
  rw [hy.1]
  have loop : ∀ (k : Nat) (σ : ww_M) (zs : List Nat), k ≤ ys.length → zs.length + k ≤ 700 → zH σ zs → zHF τ σ → zpushs zs (zinv (ys.take k)) = zpushs xs (zinv ys) → ww_W g mX6_pushInverse E (ww_QV (fun τ' => zH τ' (zpushs xs (zinv ys)) ∧ zHF τ τ')) 9 [some (.inr (.inr (30, 0))), some (.inl (nI w)), some (.inl (nI k - nI 1))] [] σ := by
    intro k
    induction k with
    | zero =>
      intro σ zs hk hl2 hh hf he
      have he : zs = zpushs xs (zinv ys) := he
      rw [he] at hh
      exact b_X6_pushInverse_9 ⟨fun _ => ⟨hh, hf⟩, fun c => absurd (by decide) c⟩
    | succ k ih =>
      intro σ zs hk hl2 hh hf he
      have e1 : nI (k + 1) - nI 1 = nI k := zsub (by omega)
      have e2 : nI k + (-1 : Int32) = nI k - nI 1 := by rw [Int32.sub_eq_add_neg]; rfl
      have y8 := zat_lt ho (show k < ys.length by omega)
      rw [e1]
      refine b_X6_pushInverse_9 ⟨fun c => ?_, fun _ => ⟨60 * w + k, by rw [zmul, zadd], by omega, ?_⟩⟩
      · rw [zlt (by omega) (by omega)] at c; omega
      · rw [hf.1 _ (by decide) (by decide), hy.2 k (by omega)]
        refine ⟨_, t_opp y8, ?_⟩
        rintro v3 τ4 ⟨rfl, rfl⟩
        refine ⟨_, t_push hh (zo_lt y8) (by omega), ?_⟩
        rintro τ6 ⟨k6, f6⟩
        rw [e2]
        have hp := zpush_len zs (zo (zat ys k))
        refine ih τ6 _ (by omega) (by omega) k6 (hf.tr f6) ?_
        rw [← he, ztake_succ (by omega), zinv_app]
        rfl
  exact loop ys.length τ xs (Nat.le_refl _) hl h (zHF.rf τ) (by rw [List.take_of_length_le (Nat.le_refl _)])
theorem zH0 {v : Int32} (hv : v = nI 0) : zH (ww_up τ (30, 0) 12 v) [] ∧ zHF τ (ww_up τ (30, 0) 12 v) := by
  refine ⟨⟨Nat.zero_le _, by rw [ww_up_s, hv]; rfl, fun k hk => absurd hk (Nat.not_lt_zero _), zok_nil⟩, fun n _ n2 => ww_up_f n2, fun k hk => ww_up_k hk⟩
theorem zWd.hf {τ' : ww_M} {w : Nat} {ys : List Nat} (h : zWd τ w ys) (hf : zHF τ τ') : zWd τ' w ys := ⟨by rw [hf.1 _ (by decide) (by decide)]; exact h.1, fun k hk => by rw [hf.1 _ (by decide) (by decide)]; exact h.2 k hk⟩
theorem t_handWord {w : Nat} (hM : zM s τ) (hw : w < 6) : ww_T l g mX6_handWord [.inr (.inr (30, 0)), .inl (nI w)] τ (ww_QV (fun τ' => zH τ' (sW s w) ∧ zHF τ τ')) := by
  have hwd := hM.1.1 w hw
  refine b_X6_handWord (fun E τ1 e1 => ?_)
  have h0 := zH0 (τ := τ) (v := nI 0) rfl
  rw [← e1] at h0
  refine ⟨_, t_pushWord h0.1 hw ((hM.2.1 w hw).hf h0.2) hwd.1 hwd.2.1 (by rw [List.length_nil]; have := hwd.1; omega), ?_⟩
  rintro τ3 ⟨k3, f3⟩
  rw [zpushs_all hwd.2.2 hwd.2.1] at k3
  exact ⟨k3, h0.2.tr f3⟩
/-- what is at hand comes to a word -/
theorem m_layWord {an : zA} {τ0 : ww_M} {w : Nat} {xs : List Nat} (hM : zM s τ) (hb : zLow τ0 τ) (hH : zH τ xs) (h60 : xs.length ≤ 60) (hw : w < 6) (hrd : zred xs) (e : an = (nI xs.length, uW s (zup (sW s) w xs))) : ∃ Q : Int32 → ww_M → Prop, ww_T l g mX6_layWord [.inr (.inr (30, 0)), .inl (nI w)] τ (ww_QI Q) ∧ ∀ (v : Int32) (τ' : ww_M), Q v τ' → zMQ τ0 an v τ' := by
  refine ⟨zMQ τ0 an, b_X6_layWord (fun E => ?_), fun _ _ h => h⟩
  subst e
  have loop : ∀ (n k : Nat) (σ : ww_M), k + n = xs.length → (∀ n : ww_N, n ≠ (36, 0) → σ n = τ n) → (∀ i, i < k → σ (36, 0) (60 * w + i) = nI (zat xs i)) → (∀ i, i < 60 * w ∨ 60 * w + 60 ≤ i → σ (36, 0) i = τ (36, 0) i) → ww_W g mX6_layWord E (ww_QI (zMQ τ0 (nI xs.length, uW s (zup (sW s) w xs)))) 2 [some (.inr (.inr (30, 0))), some (.inl (nI w)), some (.inl (nI k))] [] σ := by
    intro n
    induction n with
    | zero =>
      intro k σ hk h1 h2 h3
      have e12 : σ (30, 0) 12 = nI xs.length := by rw [h1 _ (by decide)]; exact hH.2.1
      refine b_X6_layWord_2 ⟨fun _ => ⟨w, rfl, hw, fun τ2 e2 => ?_⟩, fun c => by rw [e12, zle (by omega) (by omega)] at c; omega⟩
      rw [e12] at e2
      have ho : ∀ n : ww_N, n ≠ (36, 0) → n ≠ (37, 0) → τ2 n = τ n := fun n n1 n2 => by rw [e2, ww_up_f n2, h1 n n1]
      have e36 : ∀ i, τ2 (36, 0) i = σ (36, 0) i := fun i => by rw [e2, ww_up_n (by simp)]
      obtain ⟨m1, m2, m3, m4, m5, m6, m7, m8, m9⟩ := hM
      refine ⟨by rw [ho _ (by decide) (by decide)]; exact hH.2.1, ⟨m1.word ⟨h60, hH.2.2.2, hrd⟩, fun q hq => ?_, ⟨by rw [ho _ (by decide) (by decide)]; exact m3.1, fun k hk => by rw [ho _ (by decide) (by decide)]; exact m3.2 k hk⟩, ⟨by rw [ho _ (by decide) (by decide)]; exact m4.1, fun r hr => ⟨by rw [ho _ (by decide) (by decide)]; exact (m4.2 r hr).1, fun k hk => by rw [ho _ (by decide) (by decide)]; exact (m4.2 r hr).2 k hk⟩⟩, ⟨by rw [ho _ (by decide) (by decide)]; exact m5.1, fun m hm => ⟨⟨by rw [ho _ (by decide) (by decide)]; exact (m5.2 m hm).1.1, fun k hk => by rw [ho _ (by decide) (by decide)]; exact (m5.2 m hm).1.2 k hk⟩, by rw [ho _ (by decide) (by decide)]; exact (m5.2 m hm).2⟩⟩, by rw [ho _ (by decide) (by decide)]; exact m6, by rw [ho _ (by decide) (by decide)]; exact m7, by rw [ho _ (by decide) (by decide)]; exact m8, by rw [ho _ (by decide) (by decide)]; exact m9⟩, hb.tr (fun n hn => ho n (fun e => by rw [e] at hn; exact absurd hn (by decide)) (fun e => by rw [e] at hn; exact absurd hn (by decide)))⟩
      show zWd τ2 q (zup (sW s) w xs q)
      by_cases c : q = w
      · subst c
        rw [zup_s]
        exact ⟨by rw [e2, ww_up_s], fun i hi => by rw [e36]; exact h2 i (by omega)⟩
      · rw [zup_n c]
        have := m1.1 q hq
        refine ⟨by rw [e2, ww_up_k c, h1 _ (by decide)]; exact (m2 q hq).1, fun i hi => ?_⟩
        rw [e36, h3 _ (by have := this.1; omega)]
        exact (m2 q hq).2 i hi
    | succ n ih =>
      intro k σ hk h1 h2 h3
      have e12 : σ (30, 0) 12 = nI xs.length := by rw [h1 _ (by decide)]; exact hH.2.1
      refine b_X6_layWord_2 ⟨fun c => by rw [e12, zle (by omega) (by omega)] at c; omega, fun _ => ⟨k, rfl, by omega, 60 * w + k, by rw [zmul, zadd], by omega, fun τ5 e5 => ?_⟩⟩
      rw [h1 _ (by decide), hH.2.2.1 k (by omega)] at e5
      rw [zadd]
      refine ih (k + 1) τ5 (by omega) (fun n hn => by rw [e5, ww_up_f hn, h1 n hn]) (fun i hi => ?_) (fun i hi => by rw [e5, ww_up_k (by omega)]; exact h3 i hi)
      rw [e5]
      by_cases c : i = k
      · subst c; rw [ww_up_s]
      · rw [ww_up_k (by omega)]; exact h2 i (by omega)
  exact loop xs.length 0 τ (by omega) (fun _ _ => rfl) (fun i hi => absurd hi (Nat.not_lt_zero _)) (fun _ _ => rfl)
theorem m_layIfFits {an : zA} {τ0 : ww_M} {w : Nat} {xs : List Nat} (hM : zM s τ) (hb : zLow τ0 τ) (hH : zH τ xs) (hw : w < 6) (hrd : zred xs) (e : an = aKeep s w xs) : ∃ Q : Int32 → ww_M → Prop, ww_T l g mX6_layIfFits [.inr (.inr (30, 0)), .inl (nI w)] τ (ww_QI Q) ∧ ∀ (v : Int32) (τ' : ww_M), Q v τ' → zMQ τ0 an v τ' := by
  have hl := hH.1
  refine ⟨zMQ τ0 an, b_X6_layIfFits (fun E => ?_), fun _ _ h => h⟩
  rw [hH.2.1, zle (by omega) (by omega)]
  refine ⟨fun c => m_layWord hM hb hH c hw hrd (by rw [e]; unfold aKeep; rw [if_neg (by omega)]), fun c => m_full hM hb (by rw [e]; unfold aKeep; rw [if_pos (by omega)])⟩
theorem t_ringHand {xs : List Nat} (h : zH τ xs) : ww_T l g mX6_ringHand [.inr (.inr (30, 0))] τ (ww_QV (fun τ' => zH τ' (zring xs) ∧ zHF τ τ')) := by
  have hx := h.1
  refine b_X6_ringHand (fun E => ?_)
  have hz2 := zends_le (xs := xs) (xs.length + 1) 0 (by omega)
  have move : ∀ (n k : Nat) (σ : ww_M), k + n = xs.length - zends xs 0 (xs.length + 1) → zends xs 0 (xs.length + 1) ≤ k → σ (30, 0) 12 = nI (xs.length - zends xs 0 (xs.length + 1)) → zHF τ σ → (∀ i, i + zends xs 0 (xs.length + 1) < k → σ (39, 0) i = nI (zat xs (i + zends xs 0 (xs.length + 1)))) → (∀ i, k ≤ i → i < xs.length → σ (39, 0) i = nI (zat xs i)) → ww_W g mX6_ringHand E (ww_QV (fun τ' => zH τ' (zring xs) ∧ zHF τ τ')) 53 [some (.inr (.inr (30, 0))), some (.inl (nI (zends xs 0 (xs.length + 1)))), some (.inl (nI k))] [] σ := by
    have hrl := zring_len xs
    have hro := zring_ok h.2.2.2
    have hat : ∀ i, i < (zring xs).length → zat (zring xs) i = zat xs (i + zends xs 0 (xs.length + 1)) := by
      intro i hi
      rw [hrl] at hi
      unfold zring
      rw [zat_take hi, zat_drop, Nat.add_comm]
    generalize zends xs 0 (xs.length + 1) = e at *
    intro n
    induction n with
    | zero =>
      intro k σ hk he h12 hf h1 h2
      refine b_X6_ringHand_53 ⟨fun _ τ1 e1 => ?_, fun c => by rw [h12, zle (by omega) (by omega)] at c; omega⟩
      rw [h12, zsub (by omega)] at e1
      refine ⟨⟨by omega, by rw [e1, ww_up_s]; congr 1; omega, fun i hi => ?_, hro⟩, fun n n1 n2 => by rw [e1, ww_up_f n2]; exact hf.1 n n1 n2, fun i hi => by rw [e1, ww_up_k hi]; exact hf.2 i hi⟩
      rw [e1, ww_up_n (by simp), hat i hi, h1 i (by omega)]
    | succ n ih =>
      intro k σ hk he h12 hf h1 h2
      refine b_X6_ringHand_53 ⟨fun c => by rw [h12, zle (by omega) (by omega)] at c; omega, fun _ => ⟨k, rfl, by omega, k - e, zsub he, by omega, fun τ4 e4 => ?_⟩⟩
      rw [h2 k (Nat.le_refl _) (by omega)] at e4
      rw [zadd]
      refine ih (k + 1) τ4 (by omega) (by omega) (by rw [e4, ww_up_n (by simp)]; exact h12) ⟨fun n n1 n2 => by rw [e4, ww_up_f n1]; exact hf.1 n n1 n2, fun i hi => by rw [e4, ww_up_n (by simp)]; exact hf.2 i hi⟩ (fun i hi => ?_) (fun i hi hi2 => by rw [e4, ww_up_k (by omega)]; exact h2 i (by omega) hi2)
      rw [e4]
      by_cases c : i = k - e
      · subst c; rw [ww_up_s]; congr 2; omega
      · rw [ww_up_k c]; exact h1 i (by omega)
  have loop : ∀ (n e : Nat) (σ : ww_M), e + n = xs.length + 1 → 2 * e ≤ xs.length → σ (30, 0) 12 = nI (xs.length - e) → σ (39, 0) = τ (39, 0) → zHF τ σ → zends xs e n = zends xs 0 (xs.length + 1) → ww_W g mX6_ringHand E (ww_QV (fun τ' => zH τ' (zring xs) ∧ zHF τ τ')) 2 [some (.inr (.inr (30, 0))), some (.inl (nI e)), none] [] σ := by
    intro n
    induction n with
    | zero => intro e σ h1 h2; omega
    | succ n ih =>
      intro e σ h1 h2 h12 h39 hf he
      have fin : zends xs 0 (xs.length + 1) = e → ww_W g mX6_ringHand E (ww_QV (fun τ' => zH τ' (zring xs) ∧ zHF τ τ')) 53 [some (.inr (.inr (30, 0))), some (.inl (nI e)), some (.inl (nI e))] [] σ := by
        intro q
        have := move (xs.length - e - e) e σ (by omega) (by omega) (by rw [q]; exact h12) hf (fun i hi => by omega) (fun i hi hi2 => by rw [h39]; exact h.2.2.1 i hi2)
        rw [q] at this
        exact this
      rw [zends] at he
      refine b_X6_ringHand_2 ?_
      rw [h12, zsub (by omega), zle (by omega) (by omega)]
      refine ⟨fun c => fin (by rw [if_neg (by omega)] at he; exact he.symm), fun c => ⟨e, rfl, by omega, xs.length - e - 1, zsub (by omega), by omega, ?_⟩⟩
      rw [h39, h.2.2.1 _ (by omega), h.2.2.1 e (by omega)]
      have q8 := zat_lt h.2.2.2 (show xs.length - e - 1 < xs.length by omega)
      have q9 := zat_lt h.2.2.2 (show e < xs.length by omega)
      refine ⟨_, t_opp q8, ?_⟩
      rintro v4 τ5 ⟨rfl, rfl⟩
      rw [zeq (by omega) (by have := zo_lt q8; omega), show xs.length - e - 1 = xs.length - 1 - e by omega]
      refine ⟨fun c2 => fin (by rw [if_neg (fun q => c2 q.2)] at he; exact he.symm), fun c2 τ6 e6 => ?_⟩
      rw [if_pos ⟨by omega, c2⟩] at he
      rw [h12, zsub (by omega)] at e6
      rw [zadd]
      exact ih (e + 1) τ6 (by omega) (by omega) (by rw [e6, ww_up_s]; rfl) (by rw [e6, ww_up_f (by decide)]; exact h39) ⟨fun n n1 n2 => by rw [e6, ww_up_f n2]; exact hf.1 n n1 n2, fun i hi => by rw [e6, ww_up_k hi]; exact hf.2 i hi⟩ he
  exact loop (xs.length + 1) 0 τ (by omega) (by omega) h.2.1 rfl (zHF.rf τ) rfl
end MBASE
