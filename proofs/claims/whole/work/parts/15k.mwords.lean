/-! ===== the model: relators and words from a text ===== -/
theorem zsyn_rest : ∀ (cs : List Nat) (k d : Nat) (f j w : Bool), (j = true → f = true) → zsyn cs k d f j w = none → ¬ 59 ∈ cs → (d = 0 ∧ f = false) ∧ ∀ c ∈ cs, c = 32
  | [], k, d, f, j, w, hj, h, _ => by
    rw [zsyn] at h
    split at h
    · rename_i q; exact ⟨q.2, fun c hc => absurd hc List.not_mem_nil⟩
    · cases h
  | c :: cs, k, d, f, j, w, hj, h, hn => by
    obtain ⟨q, hq, hs2⟩ := zsyn_cons h
    have n59 : c ≠ 59 := fun e => hn (by rw [e]; exact List.mem_cons_self)
    obtain ⟨p0, p1, p2, p3, p4⟩ := zstep_to hq
    have hj2 : q.2.2.1 = true → q.2.1 = true := by
      intro x
      rw [p3] at x
      rw [p2, ← Bool.or_assoc, x]; rfl
    obtain ⟨r1, r2⟩ := zsyn_rest cs (k + 1) q.1 q.2.1 q.2.2.1 (w || q.2.2.2) hj2 hs2 (fun x => hn (List.mem_cons_of_mem _ x))
    rw [r1.1] at p1
    rw [r1.2] at p2
    have hl : ¬ zlet c < 8 := fun x => by rw [decide_eq_true x] at p2; cases p2
    have n41 : ¬ c = 41 := fun x => by rw [decide_eq_false hl, decide_eq_true x] at p2; cases p2
    have n40 : ¬ c = 40 := fun x => by rw [if_pos x] at p1; omega
    have hfd : d = 0 := by rw [if_neg n40, if_neg n41] at p1; exact p1.symm
    have hff : f = false := by
      rw [decide_eq_false hl, decide_eq_false n41, decide_eq_true n40, decide_eq_true n59] at p2
      simpa using p2.symm
    refine ⟨⟨hfd, hff⟩, fun x hx => ?_⟩
    rcases List.mem_cons.mp hx with e | e
    · rw [e]
      by_cases e32 : c = 32
      · exact e32
      · exfalso
        unfold zstep at hq
        rw [if_neg e32] at hq
        by_cases ef : 0 < zfig c
        · rw [if_pos ef] at hq
          split at hq
          · rename_i jt; have := hj jt; rw [hff] at this; cases this
          · cases hq
        · rw [if_neg ef, if_neg hl, if_neg n40, if_neg n41, if_neg n59] at hq; cases hq
    · exact r2 x e
theorem zread_blank {most : Nat} {rel : Bool} : ∀ (cs : List Nat) (k : Nat) (st : zSt) (ws : List (List Nat)), (∀ c ∈ cs, c = 32) → zread most rel cs k none st ws = (none, ws)
  | [], _, _, _, _ => rfl
  | c :: cs, k, st, ws, h => by
    have e : c = 32 := h c List.mem_cons_self
    rw [zread, e]
    simp
    exact zread_blank cs (k + 1) _ ws (fun x hx => h x (List.mem_cons_of_mem _ hx))
section MTW
variable {l : Launch} {g : ww_G} {τ : ww_M} {s : zS}
def zTd (τ : ww_M) (i : Nat) (xs : List Nat) : Prop := τ (48, 0) i = nI xs.length ∧ ∀ k, k < xs.length → τ (47, 0) (60 * i + k) = nI (zat xs k)
/-- what telling words may change -/
def zTF (τ τ' : ww_M) : Prop := zXM τ τ'
def zans (o : Option Nat) : Int32 := match o with
  | none => (-1 : Int32)
  | some k => (-10 : Int32) - nI k
theorem t_tellWords {most : Nat} {rel : Bool} (hM : zM s τ) (hm6 : most ≤ 6) : ww_T l g mX6_tellWords [.inr (.inr (30, 0)), .inl (nI most), .inl (zb rel)] τ (ww_QI (fun v τ' => v = zans (aRead (sT s) most rel).1 ∧ ((aRead (sT s) most rel).1 = none → τ' (30, 0) 25 = nI (aRead (sT s) most rel).2.length ∧ (∀ i, i < (aRead (sT s) most rel).2.length → zTd τ' i (zm (aRead (sT s) most rel).2 i))) ∧ zXM τ τ')) := by
  obtain ⟨hT, h100, h128⟩ := hM.mt
  refine b_X6_tellWords (fun E => ⟨_, t_syntax hT h100 h128, ?_⟩)
  rintro v2 τ3 ⟨rfl, c3, f3⟩
  cases hs : zsyn (sT s) 0 0 false false false with
  | some k =>
    have e : aRead (sT s) most rel = (some k, []) := by unfold aRead; rw [hs]
    have hb := zsyn_le (sT s) 0 0 false false false hs
    rw [e]
    exact ⟨fun c => absurd c (zne1 (by omega)), fun c => ⟨rfl, fun h => (by cases h), f3.x⟩⟩
  | none =>
    have e : aRead (sT s) most rel = zread most rel (sT s) 0 none ([], 0, []) [] := by unfold aRead; rw [hs]
    have hc25 := c3 hs
    rw [e]
    refine ⟨fun _ τ4 e4 => ?_, fun c => absurd rfl c⟩
    generalize hF : zread most rel (sT s) 0 none ([], 0, []) [] = F
    generalize hts : sT s = ts at *
    have hcl : ts.count 59 ≤ ts.length := List.count_le_length
    have loop : ∀ (n p w : Nat) (wd : Bool) (st : zSt) (ws : List (List Nat)) (σ : ww_M), n = (ts.drop p).count 59 → p ≤ ts.length → ws.length = w → w ≤ most → w + (ts.drop p).count 59 = ts.count 59 → zsyn (ts.drop p) p 0 false false wd = none → zread most rel (ts.drop p) p none st ws = F → σ (30, 0) 29 = nI p → σ (30, 0) 25 = nI (ts.count 59) → (∀ i, i < w → zTd σ i (zm ws i)) → zXM τ σ → ww_W g mX6_tellWords E (ww_QI (fun v τ' => v = zans F.1 ∧ (F.1 = none → τ' (30, 0) 25 = nI F.2.length ∧ (∀ i, i < F.2.length → zTd τ' i (zm F.2 i))) ∧ zXM τ τ')) 23 [some (.inr (.inr (30, 0))), some (.inl (nI most)), some (.inl (zb rel)), none, some (.inl (nI w)), none, none] [] σ := by
      intro n
      induction n with
      | zero =>
        intro p w wd st ws σ hn hp hw hwm hct hsy hrd h29 h25 htd hf
        have hno : ¬ 59 ∈ ts.drop p := fun x => by have := List.count_pos_iff.mpr x; omega
        have hbl := (zsyn_rest _ _ _ _ _ _ (by intro x; cases x) hsy hno).2
        rw [zread_blank _ _ _ _ hbl] at hrd
        refine b_X6_tellWords_23 ⟨fun _ => ?_, fun c => by rw [h25, zle (by omega) (by omega)] at c; omega⟩
        rw [← hrd]
        exact ⟨rfl, fun _ => ⟨by rw [h25]; congr 1; show _ = ws.length; omega, fun i hi => htd i (by have hi : i < ws.length := hi; omega)⟩, hf⟩
      | succ n ih =>
        intro p w wd st ws σ hn hp hw hwm hct hsy hrd h29 h25 htd hf
        have hm : 59 ∈ ts.drop p := List.count_pos_iff.mp (by omega)
        have hTσ : zMt σ ts := by have := (hM.keep hf).2.2.1; rw [hts] at this; exact this
        refine b_X6_tellWords_23 ⟨fun c => by rw [h25, zle (by omega) (by omega)] at c; omega, fun _ => ⟨_, t_skip hTσ h100 h128 hp hm hsy h29, ?_⟩⟩
        rintro τ2 ⟨p2, a1, a2, a3, a4, a5, a6, a7⟩
        have hT2 : zMt τ2 ts := by have := (hM.keep (hf.tr a6.x)).2.2.1; rw [hts] at this; exact this
        refine ⟨_, t_tellWord hT2 h100 h128 a1 a3 a4 a2, ?_⟩
        rintro τ5 ⟨k2, st2, b1, b2, b3, b4, b5, b6, b7⟩ τ6 e6
        rw [a2]
        have f5 := a6.tr b5
        rw [a7, b7] at hrd
        have h0 := zH0 (τ := τ5) (v := nI 0) rfl
        rw [← e6] at h0
        have h25' : τ5 (30, 0) 25 = nI (ts.count 59) := by rw [f5.2 _ (by decide) (by decide)]; exact h25
        have htd' : ∀ i, i < w → zTd τ5 i (zm ws i) := fun i hi => ⟨by rw [f5.1 _ (by decide) (by decide) (by decide)]; exact (htd i hi).1, fun k hk => by rw [f5.1 _ (by decide) (by decide) (by decide)]; exact (htd i hi).2 k hk⟩
        have fx := hf.tr f5.x
        have r61 := b3.1
        -- what is told is laid
        have lay : ∀ (σ1 : ww_M), zH σ1 (zword rel st2.1) → zHF τ5 σ1 → ztakeB most rel st2.1 w = true → ∀ σ2, σ2 = ww_up σ1 (48, 0) w (nI (zword rel st2.1).length) → ww_W g mX6_tellWords E (ww_QI (fun v τ' => v = zans F.1 ∧ (F.1 = none → τ' (30, 0) 25 = nI F.2.length ∧ (∀ i, i < F.2.length → zTd τ' i (zm F.2 i))) ∧ zXM τ τ')) 142 [some (.inr (.inr (30, 0))), some (.inl (nI most)), some (.inl (zb rel)), none, some (.inl (nI w)), none, some (.inl (nI 0))] [] σ2 := by
          intro σ1 hh hp1 htk σ2 e2
          have htk' := (ztakeB_iff _ _ _ _).mp htk
          have hwl : (zword rel st2.1).length ≤ 60 := by
            have := zpushs0_len st2.1
            have h1 := htk'.1
            unfold zword
            split
            · rw [zring_len]; omega
            · omega
          have w6 : w < 6 := by have := htk'.2.1; omega
          rw [hw, htk, if_pos rfl] at hrd
          have inner : ∀ (d k : Nat) (σ3 : ww_M), k + d = (zword rel st2.1).length → (∀ n : ww_N, n ≠ (47, 0) → σ3 n = σ2 n) → (∀ i, i < k → σ3 (47, 0) (60 * w + i) = nI (zat (zword rel st2.1) i)) → (∀ i, i < 60 * w → σ3 (47, 0) i = σ2 (47, 0) i) → ww_W g mX6_tellWords E (ww_QI (fun v τ' => v = zans F.1 ∧ (F.1 = none → τ' (30, 0) 25 = nI F.2.length ∧ (∀ i, i < F.2.length → zTd τ' i (zm F.2 i))) ∧ zXM τ τ')) 142 [some (.inr (.inr (30, 0))), some (.inl (nI most)), some (.inl (zb rel)), none, some (.inl (nI w)), none, some (.inl (nI k))] [] σ3 := by
            intro d
            induction d with
            | zero =>
              intro k σ3 hk g1 g2 g3
              have e12 : σ3 (30, 0) 12 = nI (zword rel st2.1).length := by rw [g1 _ (by decide), e2, ww_up_n (by simp)]; exact hh.2.1
              refine b_X6_tellWords_142 ⟨fun _ => ?_, fun c => by rw [e12, zle (by omega) (by omega)] at c; omega⟩
              rw [zadd]
              have o30 : ∀ k, k ≠ 12 → σ3 (30, 0) k = τ5 (30, 0) k := fun k hk => by rw [g1 _ (by decide), e2, ww_up_n (by simp)]; exact hp1.2 k hk
              refine ih (k2 + 1) (w + 1) true st2 (ws ++ [zword rel st2.1]) σ3 (by omega) (by omega) (by rw [List.length_append, hw]; rfl) (by have := htk'.2.1; omega) (by omega) b2 hrd (by rw [o30 _ (by decide)]; exact b4) (by rw [o30 _ (by decide)]; exact h25') (fun i hi => ?_) (fx.tr (hp1.x.tr ⟨fun n h1 h2 => ?_, ?_, fun k hk => ?_⟩))
              · by_cases ei : i = w
                · rw [ei, ← hw, zm_app_e, hw]
                  exact ⟨by rw [g1 _ (by decide), e2, ww_up_s], fun k hk' => g2 k (by omega)⟩
                · rw [zm_app_l (by omega)]
                  have h47 : ∀ n : ww_N, n = (47, 0) ∨ n = (48, 0) → σ1 n = τ5 n := by
                    intro n hn
                    rcases hn with rfl | rfl
                    · exact hp1.1 _ (by decide) (by decide)
                    · exact hp1.1 _ (by decide) (by decide)
                  have hz := htd' i (by omega)
                  have hwi : (zm ws i).length ≤ 60 := by
                    sorry
                  refine ⟨by rw [g1 _ (by decide), e2, ww_up_k ei, h47 _ (Or.inr rfl)]; exact hz.1, fun k hk' => ?_⟩
                  rw [g3 _ (by omega), e2, ww_up_n (by simp), h47 _ (Or.inl rfl)]
                  exact hz.2 k hk'
              · rw [g1 n (fun e => by rw [e] at h1; exact absurd h1 (by decide)), e2, ww_up_f (fun e => by rw [e] at h1; exact absurd h1 (by decide))]
              · rw [g1 _ (by decide), e2, ww_up_f (by decide)]
              · rw [g1 _ (by decide), e2, ww_up_n (by simp)]
            | succ d ih2 =>
              intro k σ3 hk g1 g2 g3
              have e12 : σ3 (30, 0) 12 = nI (zword rel st2.1).length := by rw [g1 _ (by decide), e2, ww_up_n (by simp)]; exact hh.2.1
              refine b_X6_tellWords_142 ⟨fun c => by rw [e12, zle (by omega) (by omega)] at c; omega, fun _ => ⟨k, rfl, by omega, 60 * w + k, by rw [zmul, zadd], by omega, fun τ7 e7 => ?_⟩⟩
              rw [g1 _ (by decide), e2, ww_up_n (by simp), hh.2.2.1 k (by omega)] at e7
              rw [← e2] at e7
              rw [zadd]
              refine ih2 (k + 1) τ7 (by omega) (fun n hn => by rw [e7, ww_up_f hn]; exact g1 n hn) (fun i hi => ?_) (fun i hi => by rw [e7, ww_up_k (by omega)]; exact g3 i hi)
              rw [e7]
              by_cases ei : i = k
              · rw [ei, ww_up_s]
              · rw [ww_up_k (by omega)]; exact g2 i (by omega)
          exact inner (zword rel st2.1).length 0 σ2 (by omega) (fun _ _ => rfl) (fun i hi => absurd hi (Nat.not_lt_zero _)) (fun _ _ => rfl)
        sorry
    sorry
end MTW
