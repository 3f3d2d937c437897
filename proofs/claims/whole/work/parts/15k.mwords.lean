/-! ===== the model: relators and words from a text ===== -/
theorem zsyn_rest : ∀ (cs : List Nat) (k d : Nat) (f j w : Bool), (j = true → f = true) → zsyn cs k d f j w = none → ¬ 59 ∈ cs → (d = 0 ∧ f = false) ∧ ∀ c ∈ cs, c = 32
  | [], k, d, f, j, w, hj, h, _ => by
    rw [zsyn] at h
    split at h
    · rename_i q; exact ⟨q.2, fun c hc => absurd hc List.not_mem_nil⟩
    · cases h
  | c :: cs, k, d, f, j, w, hj, h, hn => by
    obtain ⟨q, hq, hs2⟩ := zsyn_cons h
    have n59 : c ≠ 59 := fun e => hn (by rw [e]; exact List.mem_cons_self)
    obtain ⟨p0, p1, p2, p3, p4⟩ := zstep_to hq
    have hj2 : q.2.2.1 = true → q.2.1 = true := by
      intro x
      rw [p3] at x
      rw [p2, ← Bool.or_assoc, x]; rfl
    obtain ⟨r1, r2⟩ := zsyn_rest cs (k + 1) q.1 q.2.1 q.2.2.1 (w || q.2.2.2) hj2 hs2 (fun x => hn (List.mem_cons_of_mem _ x))
    rw [r1.1] at p1
    rw [r1.2] at p2
    have hl : ¬ zlet c < 8 := fun x => by rw [decide_eq_true x] at p2; cases p2
    have n41 : ¬ c = 41 := fun x => by rw [decide_eq_false hl, decide_eq_true x] at p2; cases p2
    have n40 : ¬ c = 40 := fun x => by rw [if_pos x] at p1; omega
    have hfd : d = 0 := by rw [if_neg n40, if_neg n41] at p1; exact p1.symm
    have hff : f = false := by
      rw [decide_eq_false hl, decide_eq_false n41, decide_eq_true n40, decide_eq_true n59] at p2
      simpa using p2.symm
    refine ⟨⟨hfd, hff⟩, fun x hx => ?_⟩
    rcases List.mem_cons.mp hx with e | e
    · rw [e]
      by_cases e32 : c = 32
      · exact e32
      · exfalso
        unfold zstep at hq
        rw [if_neg e32] at hq
        by_cases ef : 0 < zfig c
        · rw [if_pos ef] at hq
          split at hq
          · rename_i jt; have := hj jt; rw [hff] at this; cases this
          · cases hq
        · rw [if_neg ef, if_neg hl, if_neg n40, if_neg n41, if_neg n59] at hq; cases hq
    · exact r2 x e
theorem zread_blank {most : Nat} {rel : Bool} : ∀ (cs : List Nat) (k : Nat) (st : zSt) (ws : List (List Nat)), (∀ c ∈ cs, c = 32) → zread most rel cs k none st ws = (none, ws)
  | [], _, _, _, _ => rfl
  | c :: cs, k, st, ws, h => by
    have e : c = 32 := h c List.mem_cons_self
    rw [zread, e]
    simp
    exact zread_blank cs (k + 1) _ ws (fun x hx => h x (List.mem_cons_of_mem _ hx))
section MTW
variable {l : Launch} {g : ww_G} {τ : ww_M} {s : zS}
def zTd (τ : ww_M) (i : Nat) (xs : List Nat) : Prop := τ (48, 0) i = nI xs.length ∧ ∀ k, k < xs.length → τ (47, 0) (60 * i + k) = nI (zat xs k)
/-- what telling words may change -/
def zTF (τ τ' : ww_M) : Prop := zXM τ τ'
def zans (o : Option Nat) : Int32 := match o with
  | none => (-1 : Int32)
  | some k => (-10 : Int32) - nI k
theorem t_tellWords {most : Nat} {rel : Bool} (hM : zM s τ) (hm6 : most ≤ 6) : ww_T l g mX6_tellWords [.inr (.inr (30, 0)), .inl (nI most), .inl (zb rel)] τ (ww_QI (fun v τ' => v = zans (aRead (sT s) most rel).1 ∧ ((aRead (sT s) most rel).1 = none → τ' (30, 0) 25 = nI (aRead (sT s) most rel).2.length ∧ (∀ i, i < (aRead (sT s) most rel).2.length → zTd τ' i (zm (aRead (sT s) most rel).2 i))) ∧ zXM τ τ')) := by
  obtain ⟨hT, h100, h128⟩ := hM.mt
  refine b_X6_tellWords (fun E => ⟨_, t_syntax hT h100 h128, ?_⟩)
  rintro v2 τ3 ⟨rfl, c3, f3⟩
  cases hs : zsyn (sT s) 0 0 false false false with
  | some k =>
    have e : aRead (sT s) most rel = (some k, []) := by unfold aRead; rw [hs]
    have hb := zsyn_le (sT s) 0 0 false false false hs
    rw [e]
    exact ⟨fun c => absurd c (zne1 (by omega)), fun c => ⟨rfl, fun h => (by cases h), f3.x⟩⟩
  | none =>
    have e : aRead (sT s) most rel = zread most rel (sT s) 0 none ([], 0, []) [] := by unfold aRead; rw [hs]
    have hc25 := c3 hs
    rw [e]
    refine ⟨fun _ τ4 e4 => ?_, fun c => absurd rfl c⟩
    generalize hF : zread most rel (sT s) 0 none ([], 0, []) [] = F
    generalize hts : sT s = ts at *
    have hcl : ts.count 59 ≤ ts.length := List.count_le_length
    have loop : ∀ (n p w : Nat) (wd : Bool) (st : zSt) (ws : List (List Nat)) (σ : ww_M), n = (ts.drop p).count 59 → p ≤ ts.length → ws.length = w → w ≤ most → w + (ts.drop p).count 59 = ts.count 59 → zsyn (ts.drop p) p 0 false false wd = none → zread most rel (ts.drop p) p none st ws = F → σ (30, 0) 29 = nI p → σ (30, 0) 25 = nI (ts.count 59) → (∀ i, i < w → zTd σ i (zm ws i) ∧ (zm ws i).length ≤ 60) → zXM τ σ → ww_W g mX6_tellWords E (ww_QI (fun v τ' => v = zans F.1 ∧ (F.1 = none → τ' (30, 0) 25 = nI F.2.length ∧ (∀ i, i < F.2.length → zTd τ' i (zm F.2 i))) ∧ zXM τ τ')) 23 [some (.inr (.inr (30, 0))), some (.inl (nI most)), some (.inl (zb rel)), none, some (.inl (nI w)), none, none] [] σ := by
      intro n
      induction n with
      | zero =>
        intro p w wd st ws σ hn hp hw hwm hct hsy hrd h29 h25 htd hf
        have hno : ¬ 59 ∈ ts.drop p := fun x => by have := List.count_pos_iff.mpr x; omega
        have hbl := (zsyn_rest _ _ _ _ _ _ (by intro x; cases x) hsy hno).2
        rw [zread_blank _ _ _ _ hbl] at hrd
        refine b_X6_tellWords_23 ⟨fun _ => ?_, fun c => by rw [h25, zle (by omega) (by omega)] at c; omega⟩
        rw [← hrd]
        exact ⟨rfl, fun _ => ⟨by rw [h25]; congr 1; show _ = ws.length; omega, fun i hi => (htd i (by have hi : i < ws.length := hi; omega)).1⟩, hf⟩
      | succ n ih =>
        intro p w wd st ws σ hn hp hw hwm hct hsy hrd h29 h25 htd hf
        have hm : 59 ∈ ts.drop p := List.count_pos_iff.mp (by omega)
        have hTσ : zMt σ ts := by have := (hM.keep hf).2.2.1; rw [hts] at this; exact this
        refine b_X6_tellWords_23 ⟨fun c => by rw [h25, zle (by omega) (by omega)] at c; omega, fun _ => ⟨_, t_skip hTσ h100 h128 hp hm hsy h29, ?_⟩⟩
        rintro τ2 ⟨p2, a1, a2, a3, a4, a5, a6, a7⟩
        have hT2 : zMt τ2 ts := by have := (hM.keep (hf.tr a6.x)).2.2.1; rw [hts] at this; exact this
        refine ⟨_, t_tellWord hT2 h100 h128 a1 a3 a4 a2, ?_⟩
        rintro τ5 ⟨k2, st2, b1, b2, b3, b4, b5, b6, b7⟩ τ6 e6
        rw [a2]
        have f5 := a6.tr b5
        rw [a7, b7] at hrd
        have h0 := zH0 (τ := τ5) (v := nI 0) rfl
        rw [← e6] at h0
        have h25' : τ5 (30, 0) 25 = nI (ts.count 59) := by rw [f5.2 _ (by decide) (by decide)]; exact h25
        have htd' : ∀ i, i < w → zTd τ5 i (zm ws i) := fun i hi => ⟨by rw [f5.1 _ (by decide) (by decide) (by decide)]; exact (htd i hi).1.1, fun k hk => by rw [f5.1 _ (by decide) (by decide) (by decide)]; exact (htd i hi).1.2 k hk⟩
        have fx := hf.tr f5.x
        have r61 := b3.1
        -- what is told is laid
        have lay : ∀ (σ1 : ww_M), zH σ1 (zword rel st2.1) → zHF τ5 σ1 → ztakeB most rel st2.1 w = true → ∀ σ2, σ2 = ww_up σ1 (48, 0) w (nI (zword rel st2.1).length) → ww_W g mX6_tellWords E (ww_QI (fun v τ' => v = zans F.1 ∧ (F.1 = none → τ' (30, 0) 25 = nI F.2.length ∧ (∀ i, i < F.2.length → zTd τ' i (zm F.2 i))) ∧ zXM τ τ')) 142 [some (.inr (.inr (30, 0))), some (.inl (nI most)), some (.inl (zb rel)), none, some (.inl (nI w)), none, some (.inl (nI 0))] [] σ2 := by
          intro σ1 hh hp1 htk σ2 e2
          have htk' := (ztakeB_iff _ _ _ _).mp htk
          have hwl : (zword rel st2.1).length ≤ 60 := by
            have := zpushs0_len st2.1
            have h1 := htk'.1
            unfold zword
            split
            · rw [zring_len]; omega
            · omega
          have w6 : w < 6 := by have := htk'.2.1; omega
          rw [hw, htk, if_pos rfl] at hrd
          have inner : ∀ (d k : Nat) (σ3 : ww_M), k + d = (zword rel st2.1).length → (∀ n : ww_N, n ≠ (47, 0) → σ3 n = σ2 n) → (∀ i, i < k → σ3 (47, 0) (60 * w + i) = nI (zat (zword rel st2.1) i)) → (∀ i, i < 60 * w → σ3 (47, 0) i = σ2 (47, 0) i) → ww_W g mX6_tellWords E (ww_QI (fun v τ' => v = zans F.1 ∧ (F.1 = none → τ' (30, 0) 25 = nI F.2.length ∧ (∀ i, i < F.2.length → zTd τ' i (zm F.2 i))) ∧ zXM τ τ')) 142 [some (.inr (.inr (30, 0))), some (.inl (nI most)), some (.inl (zb rel)), none, some (.inl (nI w)), none, some (.inl (nI k))] [] σ3 := by
            intro d
            induction d with
            | zero =>
              intro k σ3 hk g1 g2 g3
              have e12 : σ3 (30, 0) 12 = nI (zword rel st2.1).length := by rw [g1 _ (by decide), e2, ww_up_n (by simp)]; exact hh.2.1
              refine b_X6_tellWords_142 ⟨fun _ => ?_, fun c => by rw [e12, zle (by omega) (by omega)] at c; omega⟩
              rw [zadd]
              have o30 : ∀ k, k ≠ 12 → σ3 (30, 0) k = τ5 (30, 0) k := fun k hk => by rw [g1 _ (by decide), e2, ww_up_n (by simp)]; exact hp1.2 k hk
              refine ih (k2 + 1) (w + 1) true st2 (ws ++ [zword rel st2.1]) σ3 (by omega) (by omega) (by rw [List.length_append, hw]; rfl) (by have := htk'.2.1; omega) (by omega) b2 hrd (by rw [o30 _ (by decide)]; exact b4) (by rw [o30 _ (by decide)]; exact h25') (fun i hi => ?_) (fx.tr (hp1.x.tr ⟨fun n h1 h2 => ?_, ?_, fun k hk => ?_⟩))
              · by_cases ei : i = w
                · rw [ei, ← hw, zm_app_e, hw]
                  exact ⟨⟨by rw [g1 _ (by decide), e2, ww_up_s], fun k hk' => g2 k (by omega)⟩, hwl⟩
                · rw [zm_app_l (by omega)]
                  have h47 : ∀ n : ww_N, n = (47, 0) ∨ n = (48, 0) → σ1 n = τ5 n := by
                    intro n hn
                    rcases hn with rfl | rfl
                    · exact hp1.1 _ (by decide) (by decide)
                    · exact hp1.1 _ (by decide) (by decide)
                  have hz := htd' i (by omega)
                  have hwi := (htd i (by omega)).2
                  refine ⟨⟨by rw [g1 _ (by decide), e2, ww_up_k ei, h47 _ (Or.inr rfl)]; exact hz.1, fun k hk' => ?_⟩, hwi⟩
                  rw [g3 _ (by omega), e2, ww_up_n (by simp), h47 _ (Or.inl rfl)]
                  exact hz.2 k hk'
              · rw [g1 n (fun e => by rw [e] at h1; exact absurd h1 (by decide)), e2, ww_up_f (fun e => by rw [e] at h1; exact absurd h1 (by decide))]
              · rw [g1 _ (by decide), e2, ww_up_f (by decide)]
              · rw [g1 _ (by decide), e2, ww_up_n (by simp)]
            | succ d ih2 =>
              intro k σ3 hk g1 g2 g3
              have e12 : σ3 (30, 0) 12 = nI (zword rel st2.1).length := by rw [g1 _ (by decide), e2, ww_up_n (by simp)]; exact hh.2.1
              refine b_X6_tellWords_142 ⟨fun c => by rw [e12, zle (by omega) (by omega)] at c; omega, fun _ => ⟨k, rfl, by omega, 60 * w + k, by rw [zmul, zadd], by omega, fun τ7 e7 => ?_⟩⟩
              rw [g1 _ (by decide), e2, ww_up_n (by simp), hh.2.2.1 k (by omega)] at e7
              rw [zadd]
              refine ih2 (k + 1) τ7 (by omega) (fun n hn => by rw [e7, ww_up_f hn]; exact g1 n hn) (fun i hi => ?_) (fun i hi => by rw [e7, ww_up_k (by omega)]; exact g3 i hi)
              rw [e7]
              by_cases ei : i = k
              · rw [ei, ww_up_s]
              · rw [ww_up_k (by omega)]; exact g2 i (by omega)
          exact inner (zword rel st2.1).length 0 σ2 (by omega) (fun _ _ => rfl) (fun i hi => absurd hi (Nat.not_lt_zero _)) (fun _ _ => rfl)
        have chk : ∀ (σ1 : ww_M), zH σ1 (zword rel st2.1) → zHF τ5 σ1 → ww_W g mX6_tellWords E (ww_QI (fun v τ' => v = zans F.1 ∧ (F.1 = none → τ' (30, 0) 25 = nI F.2.length ∧ (∀ i, i < F.2.length → zTd τ' i (zm F.2 i))) ∧ zXM τ τ')) 88 [some (.inr (.inr (30, 0))), some (.inl (nI most)), some (.inl (zb rel)), none, some (.inl (nI w)), some (.inl (nI p2)), none] [] σ1 := by
          intro σ1 hh hp1
          have e28 : σ1 (30, 0) 28 = nI st2.1.length := by rw [hp1.2 _ (by decide)]; exact b3.2.1
          have fault : ztakeB most rel st2.1 w = false → (fun v τ' => v = zans F.1 ∧ (F.1 = none → τ' (30, 0) 25 = nI F.2.length ∧ (∀ i, i < F.2.length → zTd τ' i (zm F.2 i))) ∧ zXM τ τ') ((-10 : Int32) - nI p2) σ1 := by
            intro hno
            rw [hw, hno, if_neg (by decide)] at hrd
            rw [← hrd]
            exact ⟨rfl, fun h => (by cases h), fx.tr hp1.x⟩
          have nok : ¬ ztake most rel st2.1 w → ztakeB most rel st2.1 w = false := by
            intro h
            cases hb : ztakeB most rel st2.1 w with
            | false => rfl
            | true => exact absurd ((ztakeB_iff _ _ _ _).mp hb) h
          have hl7 := hh.1
          refine b_X6_tellWords_88 ?_
          rw [e28, hh.2.1, zlt (by omega) (by omega), zeq (by omega) (by omega), zb_0]
          refine ⟨fun x => fault (nok (fun h => by have := h.1; omega)), fun x => ⟨fun x2 => fault (nok (fun h => by have := h.2.1; omega)), fun x2 => ⟨fun x3 => ⟨w, rfl, by omega, fun τ7 e7 => ?_⟩, fun x3 => ⟨_, t_in _ _ _, ?_⟩⟩⟩⟩
          · exact lay σ1 hh hp1 ((ztakeB_iff _ _ _ _).mpr ⟨by omega, by omega, fun h => by rw [x3] at h; cases h⟩) τ7 e7
          · rintro v4 τ8 ⟨rfl, h⟩
            rw [Int32.toInt_toInt64, nI_toInt (by omega), show (lN 1).toInt = 1 by decide, show (lN 14).toInt = 14 by decide] at h
            rcases h with ⟨y1, y2, rfl⟩ | ⟨y1, rfl⟩
            · refine ⟨fun _ => ⟨w, rfl, by omega, fun τ7 e7 => ?_⟩, fun c => absurd c (by decide)⟩
              rw [hh.2.1] at e7
              exact lay σ1 hh hp1 ((ztakeB_iff _ _ _ _).mpr ⟨by omega, by omega, fun _ => ⟨by omega, by omega⟩⟩) τ7 e7
            · refine ⟨fun c => absurd rfl c, fun _ => fault (nok (fun h => ?_))⟩
              have := h.2.2 (by simpa using x3)
              omega
        have pushes : ∀ (d k : Nat) (σ1 : ww_M), k + d = st2.1.length → zH σ1 (zpushs [] (st2.1.take k)) → zHF τ5 σ1 → ww_W g mX6_tellWords E (ww_QI (fun v τ' => v = zans F.1 ∧ (F.1 = none → τ' (30, 0) 25 = nI F.2.length ∧ (∀ i, i < F.2.length → zTd τ' i (zm F.2 i))) ∧ zXM τ τ')) 54 [some (.inr (.inr (30, 0))), some (.inl (nI most)), some (.inl (zb rel)), none, some (.inl (nI w)), some (.inl (nI p2)), some (.inl (nI k))] [] σ1 := by
          intro d
          induction d with
          | zero =>
            intro k σ1 hk hh hp1
            rw [List.take_of_length_le (by omega)] at hh
            have e28 : σ1 (30, 0) 28 = nI st2.1.length := by rw [hp1.2 _ (by decide)]; exact b3.2.1
            refine b_X6_tellWords_54 ⟨fun _ => ?_, fun c => by rw [e28, zle (by omega) (by omega)] at c; omega⟩
            rw [zb_0]
            refine ⟨fun x => chk σ1 ?_ hp1, fun x => ⟨_, t_ringHand hh, ?_⟩⟩
            · unfold zword; rw [if_neg (by rw [x]; decide)]; exact hh
            · rintro τ7 ⟨k7, f7⟩
              refine chk τ7 ?_ (hp1.tr f7)
              unfold zword; rw [if_pos (by simpa using x)]; exact k7
          | succ d ih2 =>
            intro k σ1 hk hh hp1
            have e28 : σ1 (30, 0) 28 = nI st2.1.length := by rw [hp1.2 _ (by decide)]; exact b3.2.1
            have hpl := zpushs0_len (st2.1.take k)
            rw [List.length_take] at hpl
            refine b_X6_tellWords_54 ⟨fun c => by rw [e28, zle (by omega) (by omega)] at c; omega, fun _ => ⟨k, rfl, by omega, ?_⟩⟩
            rw [hp1.1 _ (by decide) (by decide), b3.2.2.1 k (by omega)]
            refine ⟨_, t_push hh (zat_lt b3.2.2.2 (by omega)) (by omega), ?_⟩
            rintro τ7 ⟨k7, f7⟩
            rw [zadd]
            refine ih2 (k + 1) τ7 (by omega) ?_ (hp1.tr f7)
            rw [ztake_succ (by omega), zpushs_app]
            exact k7
        exact pushes st2.1.length 0 τ6 (by omega) h0.1 h0.2
    have f4 : zXM τ τ4 := f3.x.tr (by rw [e4]; exact ⟨fun n _ h2 => ww_up_f h2, ww_up_f (by decide), fun k hk => ww_up_k (by omega)⟩)
    refine loop ((ts.drop 0).count 59) 0 0 false ([], 0, []) [] τ4 rfl (Nat.zero_le _) rfl (Nat.zero_le _) (by rw [List.drop_zero, Nat.zero_add]) (by rw [List.drop_zero]; exact hs) (by rw [List.drop_zero]; exact hF) (by rw [e4, ww_up_s]) (by rw [e4, ww_up_k (by decide)]; exact hc25) (fun i hi => absurd hi (Nat.not_lt_zero _)) f4
theorem zans_n {o : Option Nat} (h : ∀ p, o = some p → p ≤ 100) : (zans o = (-1 : Int32)) = (o = none) := by
  cases o with
  | none => exact propext ⟨fun _ => rfl, fun _ => rfl⟩
  | some p =>
    have := h p rfl
    have hd : ∀ p, p < 101 → ¬ (-10 : Int32) - nI p = (-1 : Int32) := by decide
    exact propext ⟨fun c => absurd c (hd p (by omega)), fun c => by cases c⟩
theorem mw_relators (hM : zM s τ) : ww_T l g mX6_relators [.inr (.inr (30, 0))] τ (ww_QI (zMQ τ (aRelators s))) := by
  have l100 := hM.1.2.1
  refine b_X6_relators (fun E => ⟨_, t_tellWords (most := 3) (rel := true) hM (by omega), ?_⟩)
  rintro v2 τ3 ⟨rfl, k3, f3⟩
  rw [zans_n (fun p hp => by have := aRead_le hp; omega)]
  refine ⟨fun c τ4 e4 => ?_, fun c => ?_⟩
  · obtain ⟨q1, q2⟩ := k3 c
    have hw := aRead_R (sT s)
    have ea : aRelators s = (nI (aRead (sT s) 3 true).2.length, uL s (aRead (sT s) 3 true).2) := by unfold aRelators; rw [c]
    rw [ea]
    generalize (aRead (sT s) 3 true).2 = ws at *
    have hM3 := hM.keep f3
    have l3 := hw.2
    rw [q1] at e4
    have w14 : ∀ i, i < ws.length → (zm ws i).length ≤ 14 := fun i hi => (zm_all hw.1 hi).2.1
    -- what changes while relators are laid
    have loop : ∀ (n r : Nat) (σ : ww_M), r + n = ws.length → (∀ n : ww_N, n ≠ (31, 0) → n ≠ (32, 0) → σ n = τ4 n) → (∀ i, i < r → zRl σ i (zm ws i)) → ww_W g mX6_relators E (ww_QI (zMQ τ (nI ws.length, uL s ws))) 24 [some (.inr (.inr (30, 0))), none, some (.inl (nI r)), none] [] σ := by
      intro n
      induction n with
      | zero =>
        intro r σ hr ho hl
        have e25 : σ (30, 0) 25 = nI ws.length := by rw [ho _ (by decide) (by decide), e4, ww_up_k (by decide)]; exact q1
        have e2 : σ (30, 0) 2 = nI ws.length := by rw [ho _ (by decide) (by decide), e4, ww_up_s]
        refine b_X6_relators_24 ⟨fun _ => ⟨_, t_listMembers l3 e2 (fun i hi => hl i (by omega)) (fun i hi => zm_all hw.1 hi), ?_⟩, fun x => by rw [e25, zle (by omega) (by omega)] at x; omega⟩
        rintro τ5 ⟨k5, f5⟩
        have o30 : ∀ k, k ≠ 2 → k ≠ 6 → τ5 (30, 0) k = τ3 (30, 0) k := fun k h1 h2 => by rw [f5.2 k h2, ho _ (by decide) (by decide), e4, ww_up_k h1]
        have oo : ∀ n : ww_N, n ≠ (31, 0) → n ≠ (32, 0) → n ≠ (33, 0) → n ≠ (34, 0) → n ≠ (35, 0) → n ≠ (30, 0) → τ5 n = τ3 n := fun n h1 h2 h3 h4 h5 h6 => by rw [f5.1 n h3 h4 h5 h6, ho n h1 h2, e4, ww_up_f h6]
        obtain ⟨m1, m2, m3, m4, m5, m6, m7, m8, m9⟩ := hM3
        refine ⟨by rw [f5.2 _ (by decide)]; exact e2, ⟨⟨m1.1, m1.2.1, m1.2.2.1, l3, fun i hi => zm_all hw.1 hi, m1.2.2.2.2.2⟩, fun q hq => ⟨by rw [oo _ (by decide) (by decide) (by decide) (by decide) (by decide) (by decide)]; exact (m2 q hq).1, fun k hk => by rw [oo _ (by decide) (by decide) (by decide) (by decide) (by decide) (by decide)]; exact (m2 q hq).2 k hk⟩, ⟨by rw [o30 _ (by decide) (by decide)]; exact m3.1, fun k hk => by rw [oo _ (by decide) (by decide) (by decide) (by decide) (by decide) (by decide)]; exact m3.2 k hk⟩, ⟨by rw [f5.2 _ (by decide)]; exact e2, fun i hi => (hl i (by have hi : i < ws.length := hi; omega)).lf f5⟩, ⟨k5.1, fun m hm => ⟨(k5.2.2 m hm).1, (k5.2.2 m hm).2.1⟩⟩, by rw [o30 _ (by decide) (by decide)]; exact m6, by rw [oo _ (by decide) (by decide) (by decide) (by decide) (by decide) (by decide)]; exact m7, by rw [oo _ (by decide) (by decide) (by decide) (by decide) (by decide) (by decide)]; exact m8, by rw [oo _ (by decide) (by decide) (by decide) (by decide) (by decide) (by decide)]; exact m9⟩, f3.low.tr (fun n hn => oo n (fun e => by rw [e] at hn; exact absurd hn (by decide)) (fun e => by rw [e] at hn; exact absurd hn (by decide)) (fun e => by rw [e] at hn; exact absurd hn (by decide)) (fun e => by rw [e] at hn; exact absurd hn (by decide)) (fun e => by rw [e] at hn; exact absurd hn (by decide)) (fun e => by rw [e] at hn; exact absurd hn (by decide)))⟩
      | succ n ih =>
        intro r σ hr ho hl
        have e25 : σ (30, 0) 25 = nI ws.length := by rw [ho _ (by decide) (by decide), e4, ww_up_k (by decide)]; exact q1
        have hwr := w14 r (by omega)
        have e48 : ∀ σ' : ww_M, (∀ n : ww_N, n ≠ (31, 0) → n ≠ (32, 0) → σ' n = τ4 n) → zTd σ' r (zm ws r) := fun σ' h => ⟨by rw [h _ (by decide) (by decide), e4, ww_up_n (by simp)]; exact (q2 r (by omega)).1, fun k hk => by rw [h _ (by decide) (by decide), e4, ww_up_n (by simp)]; exact (q2 r (by omega)).2 k hk⟩
        refine b_X6_relators_24 ⟨fun x => by rw [e25, zle (by omega) (by omega)] at x; omega, fun _ => ⟨r, rfl, by omega, r, rfl, by omega, fun τ5 e5 => ?_⟩⟩
        rw [(e48 σ ho).1] at e5
        have inner : ∀ (d k : Nat) (σ' : ww_M), k + d = (zm ws r).length → (∀ n : ww_N, n ≠ (31, 0) → σ' n = τ5 n) → (∀ i, i < k → σ' (31, 0) (14 * r + i) = nI (zat (zm ws r) i)) → (∀ i, i < 14 * r → σ' (31, 0) i = σ (31, 0) i) → ww_W g mX6_relators E (ww_QI (zMQ τ (nI ws.length, uL s ws))) 46 [some (.inr (.inr (30, 0))), none, some (.inl (nI r)), some (.inl (nI k))] [] σ' := by
          intro d
          induction d with
          | zero =>
            intro k σ' hk g1 g2 g3
            have ho' : ∀ n : ww_N, n ≠ (31, 0) → n ≠ (32, 0) → σ' n = τ4 n := fun n h1 h2 => by rw [g1 n h1, e5, ww_up_f h2]; exact ho n h1 h2
            refine b_X6_relators_46 ⟨r, rfl, by omega, fun _ => ?_, fun x => by rw [(e48 σ' ho').1, zle (by omega) (by omega)] at x; omega⟩
            rw [zadd]
            refine ih (r + 1) σ' (by omega) ho' (fun i hi => ?_)
            by_cases ei : i = r
            · rw [ei]
              exact ⟨by rw [g1 _ (by decide), e5, ww_up_s], fun k hk' => g2 k (by omega)⟩
            · have hz := hl i (by omega)
              have := w14 i (by omega)
              exact ⟨by rw [g1 _ (by decide), e5, ww_up_k ei]; exact hz.1, fun k hk' => by rw [g3 _ (by omega)]; exact hz.2 k hk'⟩
          | succ d ih2 =>
            intro k σ' hk g1 g2 g3
            have ho' : ∀ n : ww_N, n ≠ (31, 0) → n ≠ (32, 0) → σ' n = τ4 n := fun n h1 h2 => by rw [g1 n h1, e5, ww_up_f h2]; exact ho n h1 h2
            refine b_X6_relators_46 ⟨r, rfl, by omega, fun x => by rw [(e48 σ' ho').1, zle (by omega) (by omega)] at x; omega, fun _ => ⟨60 * r + k, by rw [zmul, zadd], by omega, 14 * r + k, by rw [zmul, zadd], by omega, fun τ7 e7 => ?_⟩⟩
            rw [(e48 σ' ho').2 k (by omega)] at e7
            rw [zadd]
            refine ih2 (k + 1) τ7 (by omega) (fun n hn => by rw [e7, ww_up_f hn]; exact g1 n hn) (fun i hi => ?_) (fun i hi => by rw [e7, ww_up_k (by omega)]; exact g3 i hi)
            rw [e7]
            by_cases ei : i = k
            · rw [ei, ww_up_s]
            · rw [ww_up_k (by omega)]; exact g2 i (by omega)
        exact inner (zm ws r).length 0 τ5 (by omega) (fun _ _ => rfl) (fun i hi => absurd hi (Nat.not_lt_zero _)) (fun i hi => by rw [e5, ww_up_n (by simp)])
    exact loop ws.length 0 τ4 (by omega) (fun _ _ _ => rfl) (fun i hi => absurd hi (Nat.not_lt_zero _))
  · cases e : (aRead (sT s) 3 true).1 with
    | none => exact absurd e c
    | some k => exact zMQ.x hM f3 (by unfold aRelators; rw [e]; rfl)
theorem mw_words (hM : zM s τ) (a : Int32) : ww_T l g mX6_words [.inr (.inr (30, 0)), .inl a] τ (ww_QI (zMQ τ (aWords s a))) := by
  have l100 := hM.1.2.1
  refine b_X6_words (fun E => ⟨_, t_isWord a, ?_⟩)
  rintro v2 τ3 ⟨rfl, ⟨w, hw, rfl, hz, rfl⟩ | ⟨hz, rfl⟩⟩
  · refine ⟨fun _ => ?_, fun c => absurd c (by decide)⟩
    rw [zsub (show w ≤ 6 by omega)]
    refine ⟨_, t_tellWords (most := 6 - w) (rel := false) hM (by omega), ?_⟩
    rintro v5 τ6 ⟨rfl, k6, f6⟩
    rw [zans_n (fun p hp => by have := aRead_le hp; omega)]
    refine ⟨fun c => ?_, fun c => ?_⟩
    · obtain ⟨q1, q2⟩ := k6 c
      have hww := aRead_W (sT s) (6 - w)
      have ea : aWords s (nI w) = (nI (aRead (sT s) (6 - w) false).2.length, uW s (zspread (sW s) w (aRead (sT s) (6 - w) false).2)) := by simp only [aWords, hz]; rw [c]
      rw [ea]
      generalize (aRead (sT s) (6 - w) false).2 = ws at *
      have hM6 := hM.keep f6
      have l6 := hww.2
      have w60 : ∀ i, i < ws.length → (zm ws i).length ≤ 60 := fun i hi => (zm_all hww.1 hi).1
      have loop : ∀ (n r : Nat) (σ : ww_M), r + n = ws.length → (∀ n : ww_N, n ≠ (36, 0) → n ≠ (37, 0) → σ n = τ6 n) → (∀ q, q < 6 → zWd σ q (zspread (sW s) w (ws.take r) q)) → ww_W g mX6_words E (ww_QI (zMQ τ (nI ws.length, uW s (zspread (sW s) w ws)))) 31 [some (.inr (.inr (30, 0))), some (.inl (nI w)), none, some (.inl (nI r)), none] [] σ := by
        intro n
        induction n with
        | zero =>
          intro r σ hr ho hl
          have e25 : σ (30, 0) 25 = nI ws.length := by rw [ho _ (by decide) (by decide)]; exact q1
          rw [List.take_of_length_le (by omega)] at hl
          refine b_X6_words_31 ⟨fun _ => ?_, fun x => by rw [e25, zle (by omega) (by omega)] at x; omega⟩
          obtain ⟨m1, m2, m3, m4, m5, m6, m7, m8, m9⟩ := hM6
          refine ⟨e25, ⟨⟨fun q hq => ?_, m1.2⟩, hl, ⟨by rw [ho _ (by decide) (by decide)]; exact m3.1, fun k hk => by rw [ho _ (by decide) (by decide)]; exact m3.2 k hk⟩, ⟨by rw [ho _ (by decide) (by decide)]; exact m4.1, fun i hi => ⟨by rw [ho _ (by decide) (by decide)]; exact (m4.2 i hi).1, fun k hk => by rw [ho _ (by decide) (by decide)]; exact (m4.2 i hi).2 k hk⟩⟩, ⟨by rw [ho _ (by decide) (by decide)]; exact m5.1, fun m hm => ⟨⟨by rw [ho _ (by decide) (by decide)]; exact (m5.2 m hm).1.1, fun k hk => by rw [ho _ (by decide) (by decide)]; exact (m5.2 m hm).1.2 k hk⟩, by rw [ho _ (by decide) (by decide)]; exact (m5.2 m hm).2⟩⟩, by rw [ho _ (by decide) (by decide)]; exact m6, by rw [ho _ (by decide) (by decide)]; exact m7, by rw [ho _ (by decide) (by decide)]; exact m8, by rw [ho _ (by decide) (by decide)]; exact m9⟩, f6.low.tr (fun n hn => ho n (fun e => by rw [e] at hn; exact absurd hn (by decide)) (fun e => by rw [e] at hn; exact absurd hn (by decide)))⟩
          show zWok (zspread (sW s) w ws q)
          unfold zspread
          split
          · rename_i h; exact zm_all hww.1 (by omega)
          · exact m1.1 q hq
        | succ n ih =>
          intro r σ hr ho hl
          have e25 : σ (30, 0) 25 = nI ws.length := by rw [ho _ (by decide) (by decide)]; exact q1
          have hwr := w60 r (by omega)
          have e48 : ∀ σ' : ww_M, (∀ n : ww_N, n ≠ (36, 0) → n ≠ (37, 0) → σ' n = τ6 n) → zTd σ' r (zm ws r) := fun σ' h => ⟨by rw [h _ (by decide) (by decide)]; exact (q2 r (by omega)).1, fun k hk => by rw [h _ (by decide) (by decide)]; exact (q2 r (by omega)).2 k hk⟩
          have sp60 : ∀ q, q < 6 → (zspread (sW s) w (ws.take r) q).length ≤ 60 := by
            intro q hq
            unfold zspread
            split
            · rename_i h
              rw [List.length_take] at h
              have : zm (ws.take r) (q - w) = zm ws (q - w) := by
                unfold zm
                rw [List.getD_eq_getElem?_getD, List.getD_eq_getElem?_getD, List.getElem?_take, if_pos (by omega)]
              rw [this]
              exact w60 _ (by omega)
            · exact (hM.1.1 q hq).1
          refine b_X6_words_31 ⟨fun x => by rw [e25, zle (by omega) (by omega)] at x; omega, fun _ => ⟨r, rfl, by omega, w + r, by rw [zadd], by omega, fun τ5 e5 => ?_⟩⟩
          rw [(e48 σ ho).1] at e5
          have inner : ∀ (d k : Nat) (σ' : ww_M), k + d = (zm ws r).length → (∀ n : ww_N, n ≠ (36, 0) → σ' n = τ5 n) → (∀ i, i < k → σ' (36, 0) (60 * (w + r) + i) = nI (zat (zm ws r) i)) → (∀ i, i < 60 * (w + r) ∨ 60 * (w + r) + 60 ≤ i → σ' (36, 0) i = σ (36, 0) i) → ww_W g mX6_words E (ww_QI (zMQ τ (nI ws.length, uW s (zspread (sW s) w ws)))) 56 [some (.inr (.inr (30, 0))), some (.inl (nI w)), none, some (.inl (nI r)), some (.inl (nI k))] [] σ' := by
            intro d
            induction d with
            | zero =>
              intro k σ' hk g1 g2 g3
              have ho' : ∀ n : ww_N, n ≠ (36, 0) → n ≠ (37, 0) → σ' n = τ6 n := fun n h1 h2 => by rw [g1 n h1, e5, ww_up_f h2]; exact ho n h1 h2
              refine b_X6_words_56 ⟨r, rfl, by omega, fun _ => ?_, fun x => by rw [(e48 σ' ho').1, zle (by omega) (by omega)] at x; omega⟩
              rw [zadd]
              refine ih (r + 1) σ' (by omega) ho' (fun q hq => ?_)
              rw [← zspread_s (sW s) w ws (by omega)]
              by_cases ei : q = w + r
              · rw [ei, zup_s]
                exact ⟨by rw [g1 _ (by decide), e5, ww_up_s], fun k hk' => g2 k (by omega)⟩
              · rw [zup_n ei]
                have hz := hl q hq
                have := sp60 q hq
                exact ⟨by rw [g1 _ (by decide), e5, ww_up_k ei]; exact hz.1, fun k hk' => by rw [g3 _ (by omega)]; exact hz.2 k hk'⟩
            | succ d ih2 =>
              intro k σ' hk g1 g2 g3
              have ho' : ∀ n : ww_N, n ≠ (36, 0) → n ≠ (37, 0) → σ' n = τ6 n := fun n h1 h2 => by rw [g1 n h1, e5, ww_up_f h2]; exact ho n h1 h2
              refine b_X6_words_56 ⟨r, rfl, by omega, fun x => by rw [(e48 σ' ho').1, zle (by omega) (by omega)] at x; omega, fun _ => ⟨60 * r + k, by rw [zmul, zadd], by omega, 60 * (w + r) + k, by rw [zadd, zmul, zadd], by omega, fun τ7 e7 => ?_⟩⟩
              rw [(e48 σ' ho').2 k (by omega)] at e7
              rw [zadd]
              refine ih2 (k + 1) τ7 (by omega) (fun n hn => by rw [e7, ww_up_f hn]; exact g1 n hn) (fun i hi => ?_) (fun i hi => by rw [e7, ww_up_k (by omega)]; exact g3 i hi)
              rw [e7]
              by_cases ei : i = k
              · rw [ei, ww_up_s]
              · rw [ww_up_k (by omega)]; exact g2 i (by omega)
          exact inner (zm ws r).length 0 τ5 (by omega) (fun _ _ => rfl) (fun i hi => absurd hi (Nat.not_lt_zero _)) (fun i hi => by rw [e5, ww_up_n (by simp)])
      exact loop ws.length 0 τ6 (by omega) (fun _ _ _ => rfl) (fun q hq => by rw [List.take_zero, zspread_0]; exact hM6.2.1 q hq)
    · cases e : (aRead (sT s) (6 - w) false).1 with
      | none => exact absurd e c
      | some k => exact zMQ.x hM f6 (by simp only [aWords, hz]; rw [e]; rfl)
  · exact ⟨fun c => absurd rfl c, fun _ => m_bad hM (zLow.rf _) (by simp only [aWords, hz])⟩
end MTW
