/-! ===== the model: syntax ===== -/
section MSYN
variable {l : Launch} {g : ww_G} {τ : ww_M} {s : zS}
theorem t_isBlank {c : Nat} (hc : c < 128) : ww_T l g mX6_isBlank [.inl (nI c)] τ (ww_QI (fun v τ' => τ = τ' ∧ v = zb (decide (c = 32)))) := by
  refine b_X6_isBlank (fun E => ?_)
  rw [zeq (by omega) (by omega)]
  exact ⟨fun h => ⟨rfl, by rw [decide_eq_false h]; rfl⟩, fun h => ⟨rfl, by rw [decide_eq_true h]; rfl⟩⟩
theorem t_inC {c a b : Nat} (hc : c < 128) (ha : a < 128) (hb : b < 128) : ww_T l g mX6_in [.inr (.inl (nI c).toInt64), .inr (.inl (lN a)), .inr (.inl (lN b))] τ (ww_QI (fun v τ' => τ = τ' ∧ v = zb (decide (a ≤ c ∧ c ≤ b)))) := by
  refine ww_T.imp (t_in _ _ _) ?_
  rintro r t ⟨v, rfl, rfl, h⟩
  rw [Int32.toInt_toInt64, nI_toInt (by omega), pk_lT (by omega), pk_lT (by omega)] at h
  refine ⟨v, rfl, rfl, ?_⟩
  rcases h with ⟨h1, h2, h3⟩ | ⟨h1, h2⟩
  · rw [decide_eq_true (show a ≤ c ∧ c ≤ b by omega)]; exact h3
  · rw [decide_eq_false (show ¬ (a ≤ c ∧ c ≤ b) by omega)]; exact h2
theorem t_letterBy {c : Nat} (hc : c < 128) : ww_T l g mX6_letterBy [.inl (nI c)] τ (ww_QI (fun v τ' => τ = τ' ∧ v = if zlet c < 8 then nI (zlet c) else (-1 : Int32))) := by
  refine b_X6_letterBy (fun E => ⟨_, t_inC hc (by omega) (by omega), ?_⟩)
  rintro v2 τ3 ⟨rfl, rfl⟩
  rw [zb_0]
  refine ⟨fun h => ⟨_, t_inC hc (by omega) (by omega), ?_⟩, fun h => ?_⟩
  · have h : ¬ (97 ≤ c ∧ c ≤ 100) := by simpa using h
    rintro v5 τ6 ⟨rfl, rfl⟩
    rw [zb_0]
    refine ⟨fun h2 => ⟨rfl, ?_⟩, fun h2 => ⟨rfl, ?_⟩⟩
    · have h2 : ¬ (65 ≤ c ∧ c ≤ 68) := by simpa using h2
      unfold zlet
      rw [if_neg h, if_neg h2, if_neg (by omega)]
    · have h2 : 65 ≤ c ∧ c ≤ 68 := by simpa using h2
      unfold zlet
      rw [if_neg h, if_pos h2, if_pos (by omega), zsub (by omega), zadd]
  · have h : 97 ≤ c ∧ c ≤ 100 := by simpa using h
    refine ⟨rfl, ?_⟩
    unfold zlet
    rw [if_pos h, if_pos (by omega), zsub (by omega)]
theorem zfig_iff (c : Nat) : 0 < zfig c ↔ 49 ≤ c ∧ c ≤ 57 := by unfold zfig; split <;> omega
theorem t_isFigure {ts : List Nat} {i : Nat} (h : zMt τ ts) (h1 : ts.length ≤ 100) (h2 : ∀ x ∈ ts, x < 128) (hi : i < ts.length) : ww_T l g mX6_isFigure [.inr (.inr (30, 0)), .inl (nI i)] τ (ww_QI (fun v τ' => τ = τ' ∧ v = zb (decide (0 < zfig (zat ts i))))) := by
  have hc := zat_all h2 hi
  refine b_X6_isFigure (fun E => ?_)
  rw [h.1, zle (by omega) (by omega)]
  refine ⟨fun c => by omega, fun _ => ⟨i, rfl, by omega, ?_⟩⟩
  rw [h.2 i hi]
  refine ⟨_, t_inC hc (by omega) (by omega), ?_⟩
  rintro v3 τ4 ⟨rfl, rfl⟩
  rw [zb_0]
  refine ⟨fun q => ⟨rfl, ?_⟩, fun q => ⟨rfl, ?_⟩⟩
  · rw [decide_eq_false (show ¬ 0 < zfig (zat ts i) by rw [zfig_iff]; simpa using q)]; rfl
  · rw [decide_eq_true (show 0 < zfig (zat ts i) by rw [zfig_iff]; simpa using q)]; rfl
/-- what a step leads to, if the byte can stand there -/
theorem zstep_to {c d : Nat} {f j : Bool} {q : Nat × Bool × Bool × Bool} (h : zstep c d f j = some q) : (c = 41 → 0 < d) ∧ q.1 = (if c = 40 then d + 1 else if c = 41 then d - 1 else d) ∧ q.2.1 = (decide (zlet c < 8) || (decide (c = 41) || (f && (decide (c ≠ 40) && decide (c ≠ 59))))) ∧ q.2.2.1 = (decide (zlet c < 8) || decide (c = 41)) ∧ q.2.2.2 = decide (c = 59) := by
  unfold zstep at h
  by_cases e1 : c = 32
  · rw [if_pos e1] at h; cases h; subst e1; refine ⟨by omega, rfl, ?_, rfl, rfl⟩; cases f <;> rfl
  · rw [if_neg e1] at h
    by_cases e2 : 0 < zfig c
    · obtain ⟨z1, z2, z3, z4, z5, -⟩ := zfig_not e2
      rw [if_pos e2] at h
      split at h
      · cases h
        refine ⟨by omega, ?_, ?_, ?_, ?_⟩
        · rw [if_neg z3, if_neg z4]
        · rw [decide_eq_false (by omega), decide_eq_false z4, decide_eq_true z3, decide_eq_true z5]; simp
        · rw [decide_eq_false (by omega), decide_eq_false z4]; rfl
        · rw [decide_eq_false z5]
      · cases h
    · rw [if_neg e2] at h
      by_cases e3 : zlet c < 8
      · obtain ⟨z1, z2, z3, z4, z5⟩ := zlet_not e3
        rw [if_pos e3] at h
        cases h
        refine ⟨by omega, ?_, ?_, ?_, ?_⟩
        · rw [if_neg z3, if_neg z4]
        · rw [decide_eq_true e3]; rfl
        · rw [decide_eq_true e3]; rfl
        · rw [decide_eq_false z5]
      · rw [if_neg e3] at h
        by_cases e4 : c = 40
        · rw [if_pos e4] at h
          split at h
          · cases h; subst e4; refine ⟨by omega, rfl, ?_, rfl, rfl⟩; cases f <;> rfl
          · cases h
        · rw [if_neg e4] at h
          by_cases e5 : c = 41
          · rw [if_pos e5] at h
            split at h
            · rename_i h5; cases h; subst e5; exact ⟨fun _ => h5.1, rfl, rfl, rfl, rfl⟩
            · cases h
          · rw [if_neg e5] at h
            by_cases e6 : c = 59
            · rw [if_pos e6] at h
              split at h
              · cases h; subst e6; refine ⟨by omega, rfl, ?_, rfl, rfl⟩; cases f <;> rfl
              · cases h
            · rw [if_neg e6] at h; cases h
theorem zM.mt (hM : zM s τ) : zMt τ (sT s) ∧ (sT s).length ≤ 100 ∧ ∀ x ∈ sT s, x < 128 := ⟨hM.2.2.1, hM.1.2.1, hM.1.2.2.1⟩
/-- only the number of words changes -/
def zSy (τ τ' : ww_M) : Prop := (∀ n : ww_N, n ≠ (30, 0) → τ' n = τ n) ∧ ∀ k, k ≠ 25 → τ' (30, 0) k = τ (30, 0) k
theorem zSy.rf (τ : ww_M) : zSy τ τ := ⟨fun _ _ => rfl, fun _ _ => rfl⟩
theorem zSy.tr {a b c : ww_M} (h : zSy a b) (h2 : zSy b c) : zSy a c := ⟨fun n hn => (h2.1 n hn).trans (h.1 n hn), fun k hk => (h2.2 k hk).trans (h.2 k hk)⟩
theorem zSy.x {a b : ww_M} (h : zSy a b) : zXM a b := ⟨fun n _ h2 => h.1 n h2, h.1 _ (by decide), fun k hk => h.2 k (by omega)⟩
theorem zSy.up {v : Int32} : zSy τ (ww_up τ (30, 0) 25 v) := ⟨fun n hn => ww_up_f hn, fun k hk => ww_up_k hk⟩
theorem t_syntax {ts : List Nat} (hT : zMt τ ts) (h100 : ts.length ≤ 100) (h128 : ∀ x ∈ ts, x < 128) : ww_T l g mX6_syntax [.inr (.inr (30, 0))] τ (ww_QI (fun v τ' => v = zfault (zsyn ts 0 0 false false false) ∧ (zsyn ts 0 0 false false false = none → τ' (30, 0) 25 = nI (ts.count 59)) ∧ zSy τ τ')) := by
  refine b_X6_syntax (fun E τ1 e1 => ?_)
  generalize hV : zsyn ts 0 0 false false false = V
  have loop : ∀ (n k d cnt : Nat) (f j : Bool) (σ : ww_M), k + n = ts.length → d ≤ k → cnt ≤ k → σ (30, 0) 25 = nI cnt → zSy τ σ → zsyn (ts.drop k) k d f j (decide (0 < cnt)) = V → cnt + (ts.drop k).count 59 = ts.count 59 → ww_W g mX6_syntax E (ww_QI (fun v τ' => v = zfault V ∧ (V = none → τ' (30, 0) 25 = nI (ts.count 59)) ∧ zSy τ τ')) 14 [some (.inr (.inr (30, 0))), some (.inl (nI d)), some (.inl (zb f)), some (.inl (zb j)), some (.inl (nI k)), none, none, none] [] σ := by
    intro n
    induction n with
    | zero =>
      intro k d cnt f j σ hk hd hcnt h25 hf he hct
      rw [List.drop_eq_nil_of_le (by omega)] at he hct
      rw [zsyn] at he
      have ek : k = ts.length := by omega
      have h24 : σ (30, 0) 24 = nI ts.length := by rw [hf.2 _ (by decide)]; exact hT.1
      refine b_X6_syntax_14 ⟨fun _ => ?_, fun c => by rw [h24, zle (by omega) (by omega)] at c; omega⟩
      rw [h24, h25, zlt (by omega) (by omega), zb_0, zeq (a := cnt) (b := 0) (by omega) (by omega)]
      refine ⟨fun q => ?_, fun q => ⟨fun q2 => ?_, fun q2 => ⟨fun q3 => ?_, fun q3 => ?_⟩⟩⟩
      · rw [if_neg (fun x => by omega)] at he
        rw [← he, ek]; exact ⟨rfl, fun h => (by cases h), hf⟩
      · rw [if_neg (fun x => q2 x.2.2)] at he
        rw [← he, ek]; exact ⟨rfl, fun h => (by cases h), hf⟩
      · rw [if_pos ⟨by simp; omega, by omega, q2⟩] at he
        rw [← he]; exact ⟨rfl, fun _ => (by rw [← hct]; rfl), hf⟩
      · rw [if_neg (fun x => by have := x.1; simp at this; omega)] at he
        rw [← he, ek]; exact ⟨rfl, fun h => (by cases h), hf⟩
    | succ n ih =>
      intro k d cnt f j σ hk hd hcnt h25 hf he hct
      have hk1 : k < ts.length := by omega
      rw [zdrop_cons hk1] at he hct
      have hc := zat_all h128 hk1
      have h24 : σ (30, 0) 24 = nI ts.length := by rw [hf.2 _ (by decide)]; exact hT.1
      have h44 : σ (44, 0) k = nI (zat ts k) := by rw [hf.1 _ (by decide)]; exact hT.2 k hk1
      have hTσ : zMt σ ts := ⟨h24, fun i hi => by rw [hf.1 _ (by decide)]; exact hT.2 i hi⟩
      have hfg := t_isFigure (l := E.2.1) (g := g) hTσ h100 h128 hk1
      rw [List.count_cons] at hct
      generalize hcc : zat ts k = c at *
      rw [zsyn] at he
      -- behind the test
      have k121 : ∀ m : Bool, m = (zstep c d f j).isSome → ww_W g mX6_syntax E (ww_QI (fun v τ' => v = zfault V ∧ (V = none → τ' (30, 0) 25 = nI (ts.count 59)) ∧ zSy τ τ')) 121 [some (.inr (.inr (30, 0))), some (.inl (nI d)), some (.inl (zb f)), none, some (.inl (nI k)), some (.inl (nI c)), some (.inl (zb (decide (zlet c < 8)))), none] [.inl (zb m)] σ := by
        intro m hm
        cases hs : zstep c d f j with
        | none =>
          rw [hs] at hm he
          have he : some k = V := he
          have hm : m = false := hm
          subst hm
          refine b_X6_syntax_121 ⟨fun q => absurd rfl q, fun _ => ⟨by rw [← he]; rfl, fun h => (by rw [← he] at h; cases h), hf⟩⟩
        | some q =>
          rw [hs] at hm he
          have hm : m = true := hm
          subst hm
          obtain ⟨p0, p1, p2, p3, p4⟩ := zstep_to hs
          have he : zsyn (ts.drop (k + 1)) (k + 1) q.1 q.2.1 q.2.2.1 (decide (0 < cnt) || q.2.2.2) = V := he
          have next : ∀ σ', σ' = ww_up σ (30, 0) 25 (nI cnt + nI (if c = 59 then 1 else 0)) → ww_W g mX6_syntax E (ww_QI (fun v τ' => v = zfault V ∧ (V = none → τ' (30, 0) 25 = nI (ts.count 59)) ∧ zSy τ τ')) 14 [some (.inr (.inr (30, 0))), some (.inl (nI q.1)), some (.inl (zb q.2.1)), some (.inl (zb q.2.2.1)), some (.inl (nI (k + 1))), none, none, none] [] σ' := by
            intro σ' e'
            rw [zadd] at e'
            refine ih (k + 1) q.1 (cnt + if c = 59 then 1 else 0) q.2.1 q.2.2.1 σ' (by omega) (by rw [p1]; split; omega; split <;> omega) (by split <;> omega) (by rw [e', ww_up_s]) (hf.tr (by rw [e']; exact zSy.up)) ?_ ?_
            · rw [← he, p4]
              congr 1
              by_cases c59 : c = 59
              · rw [if_pos c59, decide_eq_true c59]; simp
              · rw [if_neg c59, decide_eq_false c59]; simp
            · rw [← hct]
              by_cases c59 : c = 59
              · rw [if_pos c59, c59]; simp; omega
              · rw [if_neg c59]; simp [c59]
          clear ih
          have k174 : ww_W g mX6_syntax E (ww_QI (fun v τ' => v = zfault V ∧ (V = none → τ' (30, 0) 25 = nI (ts.count 59)) ∧ zSy τ τ')) 174 [some (.inr (.inr (30, 0))), some (.inl (nI q.1)), some (.inl (zb f)), none, some (.inl (nI k)), some (.inl (nI c)), some (.inl (zb (decide (zlet c < 8)))), none] [.inl (nI (if c = 59 then 1 else 0)), .inl (nI cnt), .inr (.inr (30, 0))] σ := by
            refine b_X6_syntax_174 (fun τ2 e2 => ?_)
            have next := next τ2 e2
            have k213 : ∀ y : Bool, y = q.2.1 → ww_W g mX6_syntax E (ww_QI (fun v τ' => v = zfault V ∧ (V = none → τ' (30, 0) 25 = nI (ts.count 59)) ∧ zSy τ τ')) 213 [some (.inr (.inr (30, 0))), some (.inl (nI q.1)), none, none, some (.inl (nI k)), some (.inl (nI c)), some (.inl (zb (decide (zlet c < 8)))), none] [.inl (zb y)] τ2 := by
              intro y hy
              rw [← hy] at next
              refine b_X6_syntax_213 ?_
              rw [zb_0, zeq (by omega) (by omega), zadd]
              refine ⟨fun x => ?_, fun x => ⟨fun x2 => ?_, fun x2 => ?_⟩⟩
              · rw [p3, show decide (zlet c < 8) = true by simpa using x] at next; exact next
              · rw [p3, x, decide_eq_false x2] at next; exact next
              · rw [p3, x, decide_eq_true x2] at next; exact next
            rw [zb_0, zb_0, zeq (by omega) (by omega), zeq (by omega) (by omega), zeq (by omega) (by omega)]
            refine ⟨fun x => k213 true (by rw [p2, show decide (zlet c < 8) = true by simpa using x]; rfl), fun x => ⟨fun x2 => k213 true (by rw [p2, x, decide_eq_true x2]; rfl), fun x2 => ⟨fun x3 => k213 false (by rw [p2, x, decide_eq_false x2, x3]; rfl), fun x3 => ⟨fun x4 => k213 false (by rw [p2, x, decide_eq_false x2, decide_eq_false (show ¬ c ≠ 40 from fun h => h x4)]; simp), fun x4 => ⟨fun x5 => k213 false (by rw [p2, x, decide_eq_false x2, decide_eq_false (show ¬ c ≠ 59 from fun h => h x5)]; simp), fun x5 => k213 true (by rw [p2, x, decide_eq_false x2, decide_eq_true x4, decide_eq_true x5, show f = true by simpa using x3]; rfl)⟩⟩⟩⟩⟩
          refine b_X6_syntax_121 ⟨fun _ => ?_, fun x => absurd x (by decide)⟩
          rw [h25, zeq (by omega) (by omega), zeq (by omega) (by omega), zeq (by omega) (by omega)]
          refine ⟨fun x40 => ⟨fun x41 => ?_, fun x41 => ?_⟩, fun x40 => ?_⟩
          · rw [if_neg x40, if_neg x41] at p1
            rw [p1] at k174
            rw [zadd]
            refine ⟨fun x => ?_, fun x => ?_⟩
            · rw [if_neg x] at k174; exact k174
            · rw [if_pos x] at k174; exact k174
          · rw [if_neg x40, if_pos x41] at p1
            rw [p1] at k174
            rw [zm1 (p0 x41)]
            refine ⟨fun x => ?_, fun x => by omega⟩
            rw [if_neg x] at k174; exact k174
          · rw [if_pos x40] at p1
            rw [p1] at k174
            rw [zadd]
            refine ⟨fun x => ?_, fun x => by omega⟩
            rw [if_neg x] at k174; exact k174
      clear ih
      -- the last of the tests
      have kfig : (zlet c < 8 → False) → c ≠ 32 → c ≠ 40 ∨ ¬ d < 4 → c ≠ 41 ∨ ¬ (0 < d ∧ f = true) → c ≠ 59 ∨ ¬ (d = 0 ∧ f = true) → (zb j = nI 0 → ww_W g mX6_syntax E (ww_QI (fun v τ' => v = zfault V ∧ (V = none → τ' (30, 0) 25 = nI (ts.count 59)) ∧ zSy τ τ')) 121 [some (.inr (.inr (30, 0))), some (.inl (nI d)), some (.inl (zb f)), none, some (.inl (nI k)), some (.inl (nI c)), some (.inl (zb (decide (zlet c < 8)))), none] [.inl (nI 0)] σ) ∧ (¬ zb j = nI 0 → ∃ Q1 : Int32 → ww_M → Prop, ww_T E.2.1 g mX6_isFigure [.inr (.inr (30, 0)), .inl (nI k)] σ (ww_QI Q1) ∧ ∀ (v2 : Int32) (τ3 : ww_M), Q1 v2 τ3 → (v2 = nI 0 → ww_W g mX6_syntax E (ww_QI (fun v τ' => v = zfault V ∧ (V = none → τ' (30, 0) 25 = nI (ts.count 59)) ∧ zSy τ τ')) 121 [some (.inr (.inr (30, 0))), some (.inl (nI d)), some (.inl (zb f)), none, some (.inl (nI k)), some (.inl (nI c)), some (.inl (zb (decide (zlet c < 8)))), none] [.inl (nI 0)] τ3) ∧ (¬ v2 = nI 0 → ww_W g mX6_syntax E (ww_QI (fun v τ' => v = zfault V ∧ (V = none → τ' (30, 0) 25 = nI (ts.count 59)) ∧ zSy τ τ')) 121 [some (.inr (.inr (30, 0))), some (.inl (nI d)), some (.inl (zb f)), none, some (.inl (nI k)), some (.inl (nI c)), some (.inl (zb (decide (zlet c < 8)))), none] [.inl (nI 1)] τ3)) := by
        intro nl n32 n40 n41 n59
        have hno : ¬ 0 < zfig c → (zstep c d f j).isSome = false := by
          intro nf
          unfold zstep
          rw [if_neg n32, if_neg nf, if_neg (fun h => nl h)]
          by_cases e4 : c = 40
          · rw [if_pos e4, if_neg (by omega)]; rfl
          · rw [if_neg e4]
            by_cases e5 : c = 41
            · rw [if_pos e5, if_neg (fun h => n41.elim (fun x => x e5) (fun x => x h))]; rfl
            · rw [if_neg e5]
              by_cases e6 : c = 59
              · rw [if_pos e6, if_neg (fun h => n59.elim (fun x => x e6) (fun x => x h))]; rfl
              · rw [if_neg e6]; rfl
        refine ⟨fun hj => ?_, fun hj => ⟨_, hfg, ?_⟩⟩
        · rw [zb_0] at hj
          refine k121 false ?_
          by_cases nf : 0 < zfig c
          · unfold zstep
            rw [if_neg n32, if_pos nf, if_neg (by rw [hj]; decide)]; rfl
          · exact (hno nf).symm
        · rw [zb_0] at hj
          rintro v2 τ3 ⟨rfl, rfl⟩
          rw [zb_0]
          refine ⟨fun x => ?_, fun x => ?_⟩
          · have nf : ¬ 0 < zfig c := by simpa using x
            exact k121 false (hno nf).symm
          · have nf : ¬ zfig c = 0 := by simpa using x
            have nf : 0 < zfig c := by omega
            refine k121 true ?_
            unfold zstep
            rw [if_neg n32, if_pos nf, if_pos (by simpa using hj)]; rfl
      have k88 : (zlet c < 8 → False) → c ≠ 32 → c ≠ 40 ∨ ¬ d < 4 → c ≠ 41 ∨ ¬ (0 < d ∧ f = true) → ww_W g mX6_syntax E (ww_QI (fun v τ' => v = zfault V ∧ (V = none → τ' (30, 0) 25 = nI (ts.count 59)) ∧ zSy τ τ')) 88 [some (.inr (.inr (30, 0))), some (.inl (nI d)), some (.inl (zb f)), some (.inl (zb j)), some (.inl (nI k)), some (.inl (nI c)), some (.inl (zb (decide (zlet c < 8)))), none] [] σ := by
        intro nl n32 n40 n41
        refine b_X6_syntax_88 ?_
        rw [zeq (by omega) (by omega), zeq (a := d) (by omega) (by omega)]
        refine ⟨fun x => kfig nl n32 n40 n41 (Or.inl x), fun x => ⟨fun xd => kfig nl n32 n40 n41 (Or.inr (fun h => xd h.1)), fun xd => ⟨fun xf => ?_, fun xf => kfig nl n32 n40 n41 (Or.inr (fun h => ?_))⟩⟩⟩
        · rw [zb_0] at xf
          refine k121 true ?_
          unfold zstep
          have nf : ¬ 0 < zfig c := fun h => (zfig_not h).2.2.2.2.1 x
          rw [if_neg n32, if_neg nf, if_neg (fun h => nl h), if_neg (by omega), if_neg (by omega), if_pos x, if_pos ⟨xd, by simpa using xf⟩]; rfl
        · rw [zb_0] at xf
          rw [xf] at h
          exact absurd h.2 (by decide)
      have k46 : ww_W g mX6_syntax E (ww_QI (fun v τ' => v = zfault V ∧ (V = none → τ' (30, 0) 25 = nI (ts.count 59)) ∧ zSy τ τ')) 46 [some (.inr (.inr (30, 0))), some (.inl (nI d)), some (.inl (zb f)), some (.inl (zb j)), some (.inl (nI k)), some (.inl (nI c)), none, none] [.inl (zb (decide (zlet c < 8)))] σ := by
        refine b_X6_syntax_46 ⟨_, t_isBlank hc, ?_⟩
        rintro v2 τ3 ⟨rfl, rfl⟩
        rw [zb_0, zb_0, zb_0, zeq (by omega) (by omega), zeq (by omega) (by omega), zlt (by omega) (by omega), zle (by omega) (by omega)]
        refine ⟨fun x => ?_, fun x => ⟨fun x2 => ?_, fun x2 => ?_⟩⟩
        · have x : c = 32 := by simpa using x
          exact k121 true (by unfold zstep; rw [if_pos x]; rfl)
        · have n32 : ¬ c = 32 := by simpa using x
          have x2 : zlet c < 8 := by simpa using x2
          refine k121 true ?_
          unfold zstep
          rw [if_neg n32, if_neg (by rw [(zlet_not x2).1]; omega), if_pos x2]; rfl
        · have n32 : ¬ c = 32 := by simpa using x
          have nl : zlet c < 8 → False := by simpa using x2
          refine ⟨fun y40 => ⟨fun y41 => k88 nl n32 (Or.inl y40) (Or.inl y41), fun y41 => ⟨fun yd => k88 nl n32 (Or.inl y40) (Or.inr (fun h => by omega)), fun yd => ⟨fun yf => ?_, fun yf => k88 nl n32 (Or.inl y40) (Or.inr (fun h => ?_))⟩⟩⟩, fun y40 => ⟨fun yd => ?_, fun yd => ⟨fun y41 => k88 nl n32 (Or.inr yd) (Or.inl y41), fun y41 => by omega⟩⟩⟩
          · refine k121 true ?_
            have nf : ¬ 0 < zfig c := fun h => (zfig_not h).2.2.2.1 y41
            unfold zstep
            rw [if_neg n32, if_neg nf, if_neg (fun h => nl h), if_neg y40, if_pos y41, if_pos ⟨by omega, by simpa using yf⟩]; rfl
          · rw [yf] at h
            exact absurd h.2 (by decide)
          · refine k121 true ?_
            have nf : ¬ 0 < zfig c := fun h => (zfig_not h).2.2.1 y40
            unfold zstep
            rw [if_neg n32, if_neg nf, if_neg (fun h => nl h), if_pos y40, if_pos yd]; rfl
      refine b_X6_syntax_14 ⟨fun q => by rw [h24, zle (by omega) (by omega)] at q; omega, fun _ => ⟨k, rfl, by omega, ?_⟩⟩
      rw [h44]
      refine ⟨_, t_letterBy hc, ?_⟩
      rintro v3 τ4 ⟨rfl, rfl⟩
      by_cases hl : zlet c < 8
      · rw [if_pos hl]
        rw [decide_eq_true hl] at k46
        exact ⟨fun q => absurd q (zne1 (by omega)), fun _ => k46⟩
      · rw [if_neg hl]
        rw [decide_eq_false hl] at k46
        exact ⟨fun _ => k46, fun q => absurd rfl q⟩
  exact loop ts.length 0 0 0 false false τ1 (by omega) (Nat.le_refl _) (Nat.le_refl _) (by rw [e1, ww_up_s]) (by rw [e1]; exact zSy.up) hV (by rw [Nat.zero_add]; rfl)
end MSYN
