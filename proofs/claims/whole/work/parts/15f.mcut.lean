/-! ===== the model: cuts ===== -/
def zK (τ : ww_M) (b : zB) : Prop := match b with
  | none => τ (30, 0) 14 = (-1 : Int32)
  | some q => τ (30, 0) 14 = nI q.1 ∧ τ (30, 0) 15 = nI q.2.1 ∧ τ (30, 0) 16 = nI q.2.2
def zDF (τ τ' : ww_M) : Prop := (∀ n : ww_N, n ≠ (39, 0) → n ≠ (41, 0) → n ≠ (30, 0) → τ' n = τ n) ∧ ∀ k, k ≠ 12 → k ≠ 14 → k ≠ 15 → k ≠ 16 → k ≠ 17 → τ' (30, 0) k = τ (30, 0) k
theorem zDF.rf (τ : ww_M) : zDF τ τ := ⟨fun _ _ _ _ => rfl, fun _ _ _ _ _ _ => rfl⟩
theorem zDF.tr {a b c : ww_M} (h : zDF a b) (h2 : zDF b c) : zDF a c := ⟨fun n h1 h3 h4 => (h2.1 n h1 h3 h4).trans (h.1 n h1 h3 h4), fun k h1 h3 h4 h5 h6 => (h2.2 k h1 h3 h4 h5 h6).trans (h.2 k h1 h3 h4 h5 h6)⟩
theorem zHF.d {a b : ww_M} (h : zHF a b) : zDF a b := ⟨fun n h1 _ h3 => h.1 n h1 h3, fun k h1 _ _ _ _ => h.2 k h1⟩
theorem zDF.x {a b : ww_M} (h : zDF a b) : zXM a b := ⟨fun n h1 h2 => h.1 n (fun e => by rw [e] at h1; exact absurd h1 (by decide)) (fun e => by rw [e] at h1; exact absurd h1 (by decide)) h2, h.1 _ (by decide) (by decide) (by decide), fun k hk => h.2 k (by omega) (by omega) (by omega) (by omega) (by omega)⟩
/-- only the cut's numbers change -/
def zCF (τ τ' : ww_M) : Prop := (∀ n : ww_N, n ≠ (30, 0) → τ' n = τ n) ∧ ∀ k, k ≠ 14 → k ≠ 15 → k ≠ 16 → k ≠ 17 → τ' (30, 0) k = τ (30, 0) k
theorem zCF.rf (τ : ww_M) : zCF τ τ := ⟨fun _ _ => rfl, fun _ _ _ _ _ => rfl⟩
theorem zCF.tr {a b c : ww_M} (h : zCF a b) (h2 : zCF b c) : zCF a c := ⟨fun n h1 => (h2.1 n h1).trans (h.1 n h1), fun k h1 h3 h4 h5 => (h2.2 k h1 h3 h4 h5).trans (h.2 k h1 h3 h4 h5)⟩
theorem zCF.d {a b : ww_M} (h : zCF a b) : zDF a b := ⟨fun n _ _ h3 => h.1 n h3, fun k _ h2 h3 h4 h5 => h.2 k h2 h3 h4 h5⟩
theorem zCF.up {τ : ww_M} {k : Nat} {v : Int32} (h : k = 14 ∨ k = 15 ∨ k = 16 ∨ k = 17) : zCF τ (ww_up τ (30, 0) k v) := ⟨fun n hn => ww_up_f hn, fun j h1 h2 h3 h4 => ww_up_k (by omega)⟩
theorem zH.cf {τ τ' : ww_M} {w : List Nat} (h : zH τ w) (hf : zCF τ τ') : zH τ' w := ⟨h.1, by rw [hf.2 12 (by decide) (by decide) (by decide) (by decide)]; exact h.2.1, fun k hk => by rw [hf.1 _ (by decide)]; exact h.2.2.1 k hk, h.2.2.2⟩
section MCUT
variable {l : Launch} {g : ww_G} {τ : ww_M} {s : zS}
theorem t_matches {i m : Nat} {w : List Nat} (hM : zM s τ) (hH : zH τ w) (hm : m < (sM s).length) (hi : i ≤ w.length) : ww_T l g mX6_matches [.inr (.inr (30, 0)), .inl (nI i), .inl (nI m)] τ (ww_QI (fun v τ' => τ = τ' ∧ v = nI (zlike w i (zm (sM s) m)))) := by
  obtain ⟨m84, hx, h14, hxo⟩ := hM.mm hm
  have hw7 := hH.1
  generalize zm (sM s) m = x at *
  refine b_X6_matches (fun E => ?_)
  have loop : ∀ (n k : Nat), k + n = min (w.length - i) x.length → zlk w x i k n = zlike w i x → ww_W g mX6_matches E (ww_QI (fun v τ' => τ = τ' ∧ v = nI (zlike w i x))) 2 [some (.inr (.inr (30, 0))), some (.inl (nI i)), some (.inl (nI m)), some (.inl (nI k))] [] τ := by
    intro n
    induction n with
    | zero =>
      intro k hk he
      have he : k = zlike w i x := he
      refine b_X6_matches_2 ⟨m, rfl, m84, ?_⟩
      rw [hx.1, hH.2.1, zle (by omega) (by omega), zadd, zle (by omega) (by omega)]
      exact ⟨fun _ => ⟨rfl, by rw [he]⟩, fun c => ⟨fun _ => ⟨rfl, by rw [he]⟩, fun c2 => by omega⟩⟩
    | succ n ih =>
      intro k hk he
      rw [zlk_s] at he
      refine b_X6_matches_2 ⟨m, rfl, m84, ?_⟩
      rw [hx.1, hH.2.1, zle (by omega) (by omega), zadd, zle (by omega) (by omega)]
      refine ⟨fun c => by omega, fun _ => ⟨fun c => by omega, fun _ => ⟨i + k, rfl, by omega, 14 * m + k, by rw [zmul, zadd], by omega, ?_⟩⟩⟩
      have a1 := zat_lt hH.2.2.2 (show i + k < w.length by omega)
      have a2 := zat_lt hxo (show k < x.length by omega)
      rw [hH.2.2.1 _ (by omega), hx.2 k (by omega), zeq (by omega) (by omega), zadd]
      refine ⟨fun c => ⟨rfl, by rw [if_neg c] at he; rw [he]⟩, fun c => ih (k + 1) (by omega) (by rw [if_pos c] at he; exact he)⟩
  exact loop (min (w.length - i) x.length) 0 (by omega) rfl
theorem t_saves (a b : Int32) : ww_T l g mX6_saves [.inl a, .inl b] τ (ww_QI (fun v τ' => τ = τ' ∧ v = (a + a) - b)) := b_X6_saves (fun E => ⟨rfl, rfl⟩)
theorem zsubz {a b : Nat} (ha : a < 1000) (hb : b < 1000) : (nI a - nI b ≤ nI 0) = (a ≤ b) ∧ (nI 0 ≤ nI a - nI b) = (b ≤ a) := by
  constructor
  · apply propext
    rw [Int32.le_iff_toInt_le, pk_sub_toInt (by omega) (by omega), nI_toInt (by omega)]; omega
  · apply propext
    rw [Int32.le_iff_toInt_le, pk_sub_toInt (by omega) (by omega), nI_toInt (by omega)]; omega
theorem t_isBetter {i m ll : Nat} {w : List Nat} {q : Nat × Nat × Nat} (hM : zM s τ) (hq : zIs (sM s) w q) (hw : w.length ≤ 60) (hk : zK τ (some q)) (hm : m < (sM s).length) (hi : i < 60) (hl : (zm (sM s) m).length < 2 * ll) (hl2 : ll ≤ 14) : ww_T l g mX6_isBetter [.inr (.inr (30, 0)), .inl (nI i), .inl (nI m), .inl (nI ll)] τ (ww_QI (fun v τ' => τ = τ' ∧ v = zb (zbet (sM s) (sK s) q i m ll))) := by
  obtain ⟨m84, hx, h14, hxo⟩ := hM.mm hm
  obtain ⟨p1, p2, p3, p4⟩ := hq
  obtain ⟨n84, hy, k14, hyo⟩ := hM.mm p2
  have q14 : q.2.2 ≤ 14 := by rw [p3]; have := (zlike_le w q.1 (zm (sM s) q.2.1)).2; omega
  obtain ⟨k1, k2, k3⟩ := hk
  have hkd := hM.2.2.2.2.2.1
  have hk5 := hM.1.2.2.2.2.2
  have go : ∀ (E : ww_E) (f : Bool), f = (decide (i = q.1) && decide (q.2.2 < ll)) → ww_W g mX6_isBetter E (ww_QI (fun v τ' => τ = τ' ∧ v = zb (zbet (sM s) (sK s) q i m ll))) 21 [some (.inr (.inr (30, 0))), some (.inl (nI i)), some (.inl (nI m)), some (.inl (nI ll)), none, none] [.inl (zb f)] τ := by
    intro E f hf
    refine b_X6_isBetter_21 ⟨m, rfl, m84, _, t_saves _ _, ?_⟩
    rintro v3 τ4 ⟨rfl, rfl⟩
    refine ⟨q.2.1, k2, n84, _, t_saves _ _, ?_⟩
    rintro v7 τ8 ⟨rfl, rfl⟩
    rw [hx.1, hy.1, k1, k3, hkd, zadd, zadd, zsub (by omega), zsub (by omega), zeq (by omega) (by omega), zeq (by omega) (by omega), zeq (by omega) (by omega), zeq (by omega) (by omega), zlt (by omega) (by omega), (zsubz (a := ll + ll - (zm (sM s) m).length) (b := q.2.2 + q.2.2 - (zm (sM s) q.2.1).length) (by omega) (by omega)).1, (zsubz (a := ll + ll - (zm (sM s) m).length) (b := q.2.2 + q.2.2 - (zm (sM s) q.2.1).length) (by omega) (by omega)).2, zle (by omega) (by omega), zb_0]
    refine ⟨fun c => ?_, fun c => ?_, fun c => ?_, fun c => ?_, fun c1 c2 c3 c4 => ?_⟩
    · unfold zbet
      rw [if_pos c, ← hf]
      refine ⟨fun c2 => ⟨rfl, by rw [decide_eq_true c2]; rfl⟩, fun c2 => ⟨fun c3 => ⟨rfl, by rw [decide_eq_false c2, c3]; rfl⟩, fun c3 => ⟨rfl, by rw [decide_eq_false c2, show f = true by simpa using c3]; rfl⟩⟩⟩
    · unfold zbet
      rw [if_neg (by omega), if_pos c]
      exact ⟨fun c2 => ⟨rfl, by rw [decide_eq_false (by omega)]; rfl⟩, fun c2 => ⟨rfl, by rw [decide_eq_true (by omega)]; rfl⟩⟩
    · unfold zbet
      rw [if_neg (by omega), if_neg (by omega), if_pos c]
      exact ⟨fun c2 => ⟨rfl, by rw [decide_eq_false (by omega)]; rfl⟩, fun c2 => ⟨rfl, by rw [decide_eq_true (by omega)]; rfl⟩⟩
    · unfold zbet
      rw [if_neg (by omega), if_neg (by omega), if_neg (by omega), if_pos c]
      exact ⟨fun c2 => ⟨rfl, by rw [decide_eq_false (by omega)]; rfl⟩, fun c2 => ⟨rfl, by rw [decide_eq_true (by omega)]; rfl⟩⟩
    · unfold zbet
      rw [if_neg c1, if_neg c2, if_neg c3, if_neg c4, ← hf]
      exact ⟨by have := zb_01 f; rw [zb_0] at this; exact this, rfl, rfl⟩
  refine b_X6_isBetter (fun E => ?_)
  rw [k1, k3, zeq (by omega) (by omega), zle (by omega) (by omega)]
  refine ⟨fun c => go E false (by rw [decide_eq_false c]; rfl), fun c => ⟨fun c2 => go E false (by rw [decide_eq_false (show ¬ q.2.2 < ll by omega), Bool.and_false]), fun c2 => go E true (by rw [decide_eq_true c, decide_eq_true (show q.2.2 < ll by omega)]; rfl)⟩⟩
theorem t_findCut {w : List Nat} (hM : zM s τ) (hH : zH τ w) (hw : w.length ≤ 60) : ww_T l g mX6_findCut [.inr (.inr (30, 0))] τ (ww_QV (fun τ' => zK τ' (zscan (sM s) w (sK s) w.length).2 ∧ τ' (30, 0) 17 = nI (zscan (sM s) w (sK s) w.length).1 ∧ zCF τ τ')) := by
  have h84 := hM.1.mem.1
  refine b_X6_findCut (fun E τ1 e1 τ2 e2 => ?_)
  have f2 : zCF τ τ2 := by rw [e2, e1]; exact (zCF.up (by omega)).tr (zCF.up (by omega))
  have loop : ∀ (n i : Nat) (σ : ww_M), i + n = w.length → zK σ (zscan (sM s) w (sK s) i).2 → σ (30, 0) 17 = nI (zscan (sM s) w (sK s) i).1 → zCF τ σ → ww_W g mX6_findCut E (ww_QV (fun τ' => zK τ' (zscan (sM s) w (sK s) w.length).2 ∧ τ' (30, 0) 17 = nI (zscan (sM s) w (sK s) w.length).1 ∧ zCF τ τ')) 12 [some (.inr (.inr (30, 0))), some (.inl (nI i)), none, none] [] σ := by
    intro n
    induction n with
    | zero =>
      intro i σ hi hk h17 hf
      have e : i = w.length := by omega
      subst e
      refine b_X6_findCut_12 ⟨fun _ => ⟨hk, h17, hf⟩, fun c => by rw [(hH.cf hf).2.1, zle (by omega) (by omega)] at c; omega⟩
    | succ n ih =>
      intro i σ hi hk h17 hf
      refine b_X6_findCut_12 ⟨fun c => by rw [(hH.cf hf).2.1, zle (by omega) (by omega)] at c; omega, fun _ => ?_⟩
      have hok0 := zscan_ok (mem := sM s) (w := w) (kd := sK s) i (by omega)
      have inner : ∀ (d m : Nat) (σ' : ww_M), m + d = (sM s).length → zK σ' (zrow1 (sM s) w (sK s) i m (zscan (sM s) w (sK s) i)).2 → σ' (30, 0) 17 = nI (zrow1 (sM s) w (sK s) i m (zscan (sM s) w (sK s) i)).1 → zCF τ σ' → ww_W g mX6_findCut E (ww_QV (fun τ' => zK τ' (zscan (sM s) w (sK s) w.length).2 ∧ τ' (30, 0) 17 = nI (zscan (sM s) w (sK s) w.length).1 ∧ zCF τ τ')) 22 [some (.inr (.inr (30, 0))), some (.inl (nI i)), some (.inl (nI m)), none] [] σ' := by
        intro d
        induction d with
        | zero =>
          intro m σ' hm hk' h17' hf'
          have e : m = (sM s).length := by omega
          subst e
          refine b_X6_findCut_22 ⟨fun _ => ?_, fun c => by rw [hf'.2 _ (by decide) (by decide) (by decide) (by decide), hM.2.2.2.2.1.1, zle (by omega) (by omega)] at c; omega⟩
          rw [zadd]
          exact ih (i + 1) σ' (by omega) hk' h17' hf'
        | succ d ih2 =>
          intro m σ' hm hk' h17' hf'
          have hM' := hM.keep hf'.d.x
          have hH' := hH.cf hf'
          obtain ⟨m84, hx, h14, hxo⟩ := hM'.mm (show m < (sM s).length by omega)
          have hzl := zlike_le w i (zm (sM s) m)
          have hok1 := zrow1_ok (mem := sM s) (kd := sK s) (show i < w.length by omega) m (show m ≤ (sM s).length by omega) hok0
          have next : ∀ (σ2 : ww_M), zK σ2 (zcs (sM s) w (sK s) i m (zrow1 (sM s) w (sK s) i m (zscan (sM s) w (sK s) i))).2 → σ2 (30, 0) 17 = nI (zcs (sM s) w (sK s) i m (zrow1 (sM s) w (sK s) i m (zscan (sM s) w (sK s) i))).1 → zCF τ σ2 → ww_W g mX6_findCut E (ww_QV (fun τ' => zK τ' (zscan (sM s) w (sK s) w.length).2 ∧ τ' (30, 0) 17 = nI (zscan (sM s) w (sK s) w.length).1 ∧ zCF τ τ')) 22 [some (.inr (.inr (30, 0))), some (.inl (nI i)), some (.inl (nI (m + 1))), none] [] σ2 := fun σ2 a1 a2 a3 => ih2 (m + 1) σ2 (by omega) a1 a2 a3
          clear ih2 ih
          generalize zrow1 (sM s) w (sK s) i m (zscan (sM s) w (sK s) i) = S at *
          refine b_X6_findCut_22 ⟨fun c => by rw [hM'.2.2.2.2.1.1, zle (by omega) (by omega)] at c; omega, fun _ => ⟨_, t_matches hM' hH' (show m < (sM s).length by omega) (by omega), ?_⟩⟩
          rintro v2 τ3 ⟨rfl, rfl⟩
          refine ⟨m, rfl, m84, _, t_saves _ _, ?_⟩
          rintro v6 τ7 ⟨rfl, rfl⟩
          rw [hx.1, zadd, zadd, (zsubz (by omega) (by omega)).1]
          refine ⟨fun c => ?_, fun c τ8 e8 => ?_⟩
          · have e : zcs (sM s) w (sK s) i m S = S := by unfold zcs; rw [if_neg (by omega)]
            rw [e] at next
            exact next _ hk' h17' hf'
          · have e : zcs (sM s) w (sK s) i m S = (S.1 + 1, znew (sM s) (sK s) S.2 i m (zlike w i (zm (sM s) m))) := by unfold zcs; rw [if_pos (by omega)]
            rw [e] at next
            rw [h17', zadd] at e8
            have f8 : zCF σ' τ8 := by rw [e8]; exact zCF.up (by omega)
            have h8 : τ8 (30, 0) 17 = nI (S.1 + 1) := by rw [e8, ww_up_s]
            have o8 : ∀ k, k ≠ 17 → τ8 (30, 0) k = σ' (30, 0) k := fun k hk => by rw [e8, ww_up_k hk]
            have take : ∀ (σ3 : ww_M), σ3 = ww_up (ww_up (ww_up τ8 (30, 0) 14 (nI i)) (30, 0) 15 (nI m)) (30, 0) 16 (nI (zlike w i (zm (sM s) m))) → zK σ3 (some (i, m, zlike w i (zm (sM s) m))) ∧ σ3 (30, 0) 17 = nI (S.1 + 1) ∧ zCF τ σ3 := by
              intro σ3 e3
              subst e3
              refine ⟨⟨by rw [ww_up_k (by decide), ww_up_k (by decide), ww_up_s], by rw [ww_up_k (by decide), ww_up_s], by rw [ww_up_s]⟩, by rw [ww_up_k (by decide), ww_up_k (by decide), ww_up_k (by decide)]; exact h8, (hf'.tr f8).tr (((zCF.up (by omega)).tr (zCF.up (by omega))).tr (zCF.up (by omega)))⟩
            cases hS : S.2 with
            | none =>
              rw [hS] at hk' next
              have hk14 : τ8 (30, 0) 14 = (-1 : Int32) := by rw [o8 14 (by decide)]; exact hk'
              rw [hk14]
              refine ⟨fun _ τ9 e9 τ10 e10 τ11 e11 => ?_, fun c => absurd (by decide) c⟩
              have t3 := take τ11 (by rw [e11, e10, e9])
              exact next τ11 t3.1 t3.2.1 t3.2.2
            | some q =>
              rw [hS] at hk' next
              have hq : zIs (sM s) w q := hok1.2 q hS
              have hk8 : zK τ8 (some q) := ⟨by rw [o8 14 (by decide)]; exact hk'.1, by rw [o8 15 (by decide)]; exact hk'.2.1, by rw [o8 16 (by decide)]; exact hk'.2.2⟩
              have q1 := hq.1
              refine ⟨fun c => by rw [hk8.1, zlt (by omega) (by omega)] at c; omega, fun _ => ⟨_, t_isBetter (hM.keep (hf'.tr f8).d.x) hq hw hk8 (by omega) (by omega) (show (zm (sM s) m).length < 2 * zlike w i (zm (sM s) m) by omega) (by omega), ?_⟩⟩
              rintro v13 τ14 ⟨rfl, rfl⟩
              rw [zb_0]
              refine ⟨fun c2 => ?_, fun c2 τ15 e15 τ16 e16 τ17 e17 => ?_⟩
              · have e2 : znew (sM s) (sK s) (some q) i m (zlike w i (zm (sM s) m)) = some q := by unfold znew; simp only []; rw [if_neg (by rw [c2]; decide)]
                rw [e2] at next
                exact next _ hk8 h8 (hf'.tr f8)
              · have e2 : znew (sM s) (sK s) (some q) i m (zlike w i (zm (sM s) m)) = some (i, m, zlike w i (zm (sM s) m)) := by unfold znew; simp only []; rw [if_pos (by simpa using c2)]
                rw [e2] at next
                have t3 := take τ17 (by rw [e17, e16, e15])
                exact next τ17 t3.1 t3.2.1 t3.2.2
      exact inner (sM s).length 0 σ (by omega) hk h17 hf
  exact loop w.length 0 τ2 (by omega) (by show τ2 (30, 0) 14 = _; rw [e2, ww_up_k (by decide), e1, ww_up_s]) (by rw [e2, ww_up_s]; rfl) f2
theorem t_doCut {w : List Nat} {q : Nat × Nat × Nat} (hM : zM s τ) (hH : zH τ w) (hw : w.length ≤ 60) (hk : zK τ (some q)) (hq : zIs (sM s) w q) : ww_T l g mX6_doCut [.inr (.inr (30, 0))] τ (ww_QV (fun τ' => zH τ' (zcut (sM s) w q) ∧ zDF τ τ')) := by
  obtain ⟨p1, p2, p3, p4⟩ := hq
  obtain ⟨n84, hy, k14, hyo⟩ := hM.mm p2
  have hzl := zlike_le w q.1 (zm (sM s) q.2.1)
  rw [← p3] at hzl
  obtain ⟨k1, k2, k3⟩ := hk
  refine b_X6_doCut (fun E => ?_)
  rw [k1, k3, hH.2.1, zadd, zsub (by omega)]
  have ow : zok (w.drop (q.1 + q.2.2)) := zok_dropn hH.2.2.2 _
  have lw : (w.drop (q.1 + q.2.2)).length = w.length - (q.1 + q.2.2) := List.length_drop ..
  have aw : ∀ k, zat (w.drop (q.1 + q.2.2)) k = zat w (q.1 + q.2.2 + k) := fun k => zat_drop w _ k
  generalize hX : zm (sM s) q.2.1 = x at *
  have l3 : ∀ (n k : Nat) (σ : ww_M), k + n = w.length - (q.1 + q.2.2) → zH σ (zpushs (zpushs (w.take q.1) (zinv (x.drop q.2.2))) ((w.drop (q.1 + q.2.2)).take k)) → zDF τ σ → (∀ i, i < w.length - (q.1 + q.2.2) → σ (41, 0) i = nI (zat w (q.1 + q.2.2 + i))) → ww_W g mX6_doCut E (ww_QV (fun τ' => zH τ' (zcut (sM s) w q) ∧ zDF τ τ')) 101 [some (.inr (.inr (30, 0))), none, some (.inl (nI (w.length - (q.1 + q.2.2)))), some (.inl (nI k))] [] σ := by
    intro n
    induction n with
    | zero =>
      intro k σ hk hh hf hb
      have hl3 : (w.drop (q.1 + q.2.2)).take k = w.drop (q.1 + q.2.2) := List.take_of_length_le (by omega)
      rw [hl3] at hh
      refine b_X6_doCut_101 ⟨fun _ => ⟨?_, hf⟩, fun c => by rw [zle (by omega) (by omega)] at c; omega⟩
      unfold zcut
      rw [hX, zpushs_app]
      exact hh
    | succ n ih =>
      intro k σ hk hh hf hb
      have b1 := zpushs_len (ys := zinv (x.drop q.2.2)) (w.take q.1)
      have b2 := zpushs_len (ys := (w.drop (q.1 + q.2.2)).take k) (zpushs (w.take q.1) (zinv (x.drop q.2.2)))
      rw [zinv_len, List.length_drop, List.length_take] at b1
      rw [List.length_take, lw] at b2
      refine b_X6_doCut_101 ⟨fun c => by rw [zle (by omega) (by omega)] at c; omega, fun _ => ⟨k, rfl, by omega, ?_⟩⟩
      rw [hb k (by omega)]
      refine ⟨_, t_push hh (zat_lt hH.2.2.2 (by omega)) (by omega), ?_⟩
      rintro τ3 ⟨k3', f3⟩
      rw [zadd]
      refine ih (k + 1) τ3 (by omega) ?_ (hf.tr f3.d) (fun i hi => by rw [f3.1 _ (by decide) (by decide)]; exact hb i hi)
      rw [ztake_succ (by omega), zpushs_app, aw]
      exact k3'
  have l2 : ∀ (n j : Nat) (σ : ww_M) (zs : List Nat), q.2.2 + n = j → j ≤ x.length → zs.length + n ≤ 100 → zH σ zs → zDF τ σ → σ (30, 0) 15 = nI q.2.1 → σ (30, 0) 16 = nI q.2.2 → zpushs zs (zinv ((x.take j).drop q.2.2)) = zpushs (w.take q.1) (zinv (x.drop q.2.2)) → (∀ i, i < w.length - (q.1 + q.2.2) → σ (41, 0) i = nI (zat w (q.1 + q.2.2 + i))) → ww_W g mX6_doCut E (ww_QV (fun τ' => zH τ' (zcut (sM s) w q) ∧ zDF τ τ')) 64 [some (.inr (.inr (30, 0))), none, some (.inl (nI (w.length - (q.1 + q.2.2)))), some (.inl (nI j - nI 1))] [] σ := by
    intro n
    induction n with
    | zero =>
      intro j σ zs hj hj2 hl hh hf h15 h16 he hb
      rw [zsub (by omega)]
      refine b_X6_doCut_64 ⟨fun _ => ?_, fun c => by rw [h16, zlt (by omega) (by omega)] at c; omega⟩
      refine l3 (w.length - (q.1 + q.2.2)) 0 σ (by omega) ?_ hf hb
      rw [List.take_zero, zpushs_nil, ← he, List.drop_eq_nil_of_le (by rw [List.length_take]; omega)]
      exact hh
    | succ n ih =>
      intro j σ zs hj hj2 hl hh hf h15 h16 he hb
      obtain ⟨k, rfl⟩ : ∃ k, j = k + 1 := ⟨j - 1, by omega⟩
      have e1 : nI (k + 1) - nI 1 = nI k := zsub (by omega)
      have e2 : nI k + (-1 : Int32) = nI k - nI 1 := by rw [Int32.sub_eq_add_neg]; rfl
      have y8 := zat_lt hyo (show k < x.length by omega)
      rw [e1]
      refine b_X6_doCut_64 ⟨fun c => by rw [h16, zlt (by omega) (by omega)] at c; omega, fun _ => ⟨14 * q.2.1 + k, by rw [h15, zmul, zadd], by omega, ?_⟩⟩
      rw [hf.1 _ (by decide) (by decide) (by decide), hy.2 k (by omega)]
      refine ⟨_, t_opp y8, ?_⟩
      rintro v3 τ4 ⟨rfl, rfl⟩
      refine ⟨_, t_push hh (zo_lt y8) (by omega), ?_⟩
      rintro τ6 ⟨k6, f6⟩
      rw [e2]
      have hp := zpush_len zs (zo (zat x k))
      refine ih k τ6 _ (by omega) (by omega) (by omega) k6 (hf.tr f6.d) (by rw [f6.2 _ (by decide)]; exact h15) (by rw [f6.2 _ (by decide)]; exact h16) ?_ (fun i hi => by rw [f6.1 _ (by decide) (by decide)]; exact hb i hi)
      rw [← he, zinv_drop_cons (by omega) (by omega)]
      rfl
  have l1 : ∀ (n k : Nat) (σ : ww_M), k + n = w.length - (q.1 + q.2.2) → (∀ n : ww_N, n ≠ (41, 0) → σ n = τ n) → (∀ i, i < k → σ (41, 0) i = nI (zat w (q.1 + q.2.2 + i))) → ww_W g mX6_doCut E (ww_QV (fun τ' => zH τ' (zcut (sM s) w q) ∧ zDF τ τ')) 19 [some (.inr (.inr (30, 0))), some (.inl (nI (q.1 + q.2.2))), some (.inl (nI (w.length - (q.1 + q.2.2)))), some (.inl (nI k))] [] σ := by
    intro n
    induction n with
    | zero =>
      intro k σ hk ho hb
      refine b_X6_doCut_19 ⟨fun _ τ1 e1 => ?_, fun c => by rw [zle (by omega) (by omega)] at c; omega⟩
      rw [ho _ (by decide), k1] at e1
      have h15 : τ1 (30, 0) 15 = nI q.2.1 := by rw [e1, ww_up_k (by decide), ho _ (by decide)]; exact k2
      have h16 : τ1 (30, 0) 16 = nI q.2.2 := by rw [e1, ww_up_k (by decide), ho _ (by decide)]; exact k3
      refine ⟨q.2.1, h15, n84, ?_⟩
      have h34 : τ1 (34, 0) q.2.1 = nI x.length := by rw [e1, ww_up_n (by simp), ho _ (by decide)]; exact hy.1
      rw [h34]
      refine l2 (x.length - q.2.2) x.length τ1 (w.take q.1) (by omega) (Nat.le_refl _) (by rw [List.length_take]; omega) ⟨by rw [List.length_take]; omega, by rw [e1, ww_up_s, List.length_take, Nat.min_eq_left (by omega)], fun i hi => ?_, zok_take hH.2.2.2 _⟩ ⟨fun n _ n2 n3 => by rw [e1, ww_up_f n3, ho n n2], fun i i1 _ _ _ _ => by rw [e1, ww_up_k i1, ho _ (by decide)]⟩ h15 h16 (by rw [List.take_length]) (fun i hi => by rw [e1, ww_up_n (by simp)]; exact hb i (by omega))
      rw [List.length_take] at hi
      rw [e1, ww_up_n (by simp), ho _ (by decide), hH.2.2.1 i (by omega), zat_take (by omega)]
    | succ n ih =>
      intro k σ hk ho hb
      refine b_X6_doCut_19 ⟨fun c => by rw [zle (by omega) (by omega)] at c; omega, fun _ => ⟨q.1 + q.2.2 + k, by rw [zadd], by omega, k, rfl, by omega, fun τ5 e5 => ?_⟩⟩
      rw [ho _ (by decide), hH.2.2.1 _ (by omega)] at e5
      rw [zadd]
      refine ih (k + 1) τ5 (by omega) (fun n hn => by rw [e5, ww_up_f hn]; exact ho n hn) (fun i hi => ?_)
      rw [e5]
      by_cases c : i = k
      · rw [c, ww_up_s]
      · rw [ww_up_k c]; exact hb i (by omega)
  exact l1 (w.length - (q.1 + q.2.2)) 0 τ (by omega) (fun _ _ => rfl) (fun i hi => absurd hi (Nat.not_lt_zero _))
theorem zsh_none {mem : List (List Nat)} {kd : Nat} {w : List Nat} (h : (zscan mem w kd w.length).2 = none) : ∀ n, zsh mem kd n w = (0, w)
  | 0 => rfl
  | n + 1 => by rw [zsh, h]
theorem zsh_some {mem : List (List Nat)} {kd : Nat} {w : List Nat} {q : Nat × Nat × Nat} (h : (zscan mem w kd w.length).2 = some q) (n : Nat) : zsh mem kd (n + 1) w = ((zsh mem kd n (zcut mem w q)).1 + 1, (zsh mem kd n (zcut mem w q)).2) := by rw [zsh, h]
theorem t_shortenHand {w : List Nat} {most : Nat} (hM : zM s τ) (hH : zH τ w) (hw : w.length ≤ 60) (hr : zred w) (hm : most < 2147483648) : ww_T l g mX6_shortenHand [.inr (.inr (30, 0)), .inl (nI most)] τ (ww_QI (fun v τ' => v = nI (zsh (sM s) (sK s) most w).1 ∧ zH τ' (zsh (sM s) (sK s) most w).2 ∧ zK τ' (zscan (sM s) (zsh (sM s) (sK s) most w).2 (sK s) (zsh (sM s) (sK s) most w).2.length).2 ∧ zDF τ τ')) := by
  refine b_X6_shortenHand (fun E => ⟨_, t_findCut hM hH hw, ?_⟩)
  rintro τ2 ⟨k2, -, f2⟩
  have loop : ∀ (L : Nat) (x : List Nat) (n : Nat) (σ : ww_M), x.length ≤ L → x.length ≤ 60 → n ≤ most → n + x.length ≤ 60 → zH σ x → zK σ (zscan (sM s) x (sK s) x.length).2 → zDF τ σ → n + (zsh (sM s) (sK s) (most - n) x).1 = (zsh (sM s) (sK s) most w).1 → (zsh (sM s) (sK s) (most - n) x).2 = (zsh (sM s) (sK s) most w).2 → ww_W g mX6_shortenHand E (ww_QI (fun v τ' => v = nI (zsh (sM s) (sK s) most w).1 ∧ zH τ' (zsh (sM s) (sK s) most w).2 ∧ zK τ' (zscan (sM s) (zsh (sM s) (sK s) most w).2 (sK s) (zsh (sM s) (sK s) most w).2.length).2 ∧ zDF τ τ')) 6 [some (.inr (.inr (30, 0))), some (.inl (nI most)), some (.inl (nI n))] [] σ := by
    intro L
    induction L with
    | zero =>
      intro x n σ hL h60 hn hn60 hh hk hf e1 e2
      have hs : (zscan (sM s) x (sK s) x.length).2 = none := by rw [show x.length = 0 by omega]; rfl
      rw [zsh_none hs] at e1 e2
      have e1 : n + 0 = _ := e1
      have e2 : x = _ := e2
      rw [hs] at hk
      have hk : σ (30, 0) 14 = (-1 : Int32) := hk
      refine b_X6_shortenHand_6 ⟨fun _ => ⟨by rw [← e1, Nat.add_zero], by rw [← e2]; exact hh, by rw [← e2, hs]; exact hk, hf⟩, fun c => by rw [hk] at c; exact absurd (by decide) c⟩
    | succ L ih =>
      intro x n σ hL h60 hn hn60 hh hk hf e1 e2
      cases hs : (zscan (sM s) x (sK s) x.length).2 with
      | none =>
        rw [zsh_none hs] at e1 e2
        have e1 : n + 0 = _ := e1
        have e2 : x = _ := e2
        rw [hs] at hk
        have hk : σ (30, 0) 14 = (-1 : Int32) := hk
        refine b_X6_shortenHand_6 ⟨fun _ => ⟨by rw [← e1, Nat.add_zero], by rw [← e2]; exact hh, by rw [← e2, hs]; exact hk, hf⟩, fun c => by rw [hk] at c; exact absurd (by decide) c⟩
      | some q =>
        have hq := zscan_is hs
        have hcl := zcut_len hq
        rw [hs] at hk
        have q1 := hq.1
        refine b_X6_shortenHand_6 ?_
        rw [hk.1, zlt (by omega) (by omega), zle (by omega) (by omega)]
        refine ⟨fun c => by omega, fun _ => ⟨fun c => ?_, fun c => ⟨_, t_doCut (hM.keep hf.x) hh h60 hk hq, ?_⟩⟩⟩
        · rw [show most - n = 0 by omega] at e1 e2
          have e1 : n + 0 = _ := e1
          have e2 : x = _ := e2
          exact ⟨by rw [← e1, Nat.add_zero], by rw [← e2]; exact hh, by rw [← e2, hs]; exact hk, hf⟩
        · rintro τ3 ⟨k3, f3⟩
          refine ⟨_, t_findCut (hM.keep (hf.tr f3).x) k3 (by omega), ?_⟩
          rintro τ4 ⟨k4, -, f4⟩
          rw [zadd]
          rw [show most - n = (most - (n + 1)) + 1 by omega, zsh_some hs] at e1 e2
          refine ih _ (n + 1) τ4 (by omega) (by omega) (by omega) (by omega) (k3.cf f4) k4 ((hf.tr f3).tr f4.d) ?_ e2
          rw [← e1]
          show n + 1 + _ = n + (_ + 1)
          omega
  exact loop w.length w 0 τ2 (Nat.le_refl _) hw (Nat.zero_le _) (by omega) (hH.cf f2) k2 f2.d (by rw [Nat.sub_zero, Nat.zero_add]) (by rw [Nat.sub_zero])
theorem zsh_far {mem : List (List Nat)} {kd : Nat} {w : List Nat} (h : w.length ≤ 60) : zsh mem kd 1000000 w = zfin mem kd w := zsh_fuel 1000000 w (by omega)
theorem t_isNothing {w : List Nat} (hM : zM s τ) (hH : zH τ w) (hw : w.length ≤ 60) (hr : zred w) : ww_T l g mX6_isNothing [.inr (.inr (30, 0))] τ (ww_QI (fun v τ' => v = zb (zNil s w) ∧ zDF τ τ')) := by
  refine b_X6_isNothing (fun E => ⟨_, t_shortenHand hM hH hw hr (by decide), ?_⟩)
  rintro v2 τ3 ⟨-, k3, -, f3⟩
  rw [zsh_far hw] at k3
  have h7 := k3.1
  rw [k3.2.1, zeq (by omega) (by omega)]
  unfold zNil
  exact ⟨fun c => ⟨by rw [decide_eq_false c]; rfl, f3⟩, fun c => ⟨by rw [decide_eq_true c]; rfl, f3⟩⟩
theorem zfin_wok (hM : zM s τ) {w : List Nat} (hwk : zWok w) (n : Nat) : zWok (zsh (sM s) (sK s) n w).2 := by
  have := zsh_wok (mem := sM s) (kd := sK s) (fun m hm => (hM.1.mem.2 m hm).2.2.1) n w hwk.2.1 hwk.2.2
  exact ⟨by have := hwk.1; omega, this.1, this.2.1⟩
theorem mw_cuts (hM : zM s τ) (a : Int32) : ww_T l g mX6_cuts [.inr (.inr (30, 0)), .inl a] τ (ww_QI (zMQ τ (aCuts s a))) := by
  refine b_X6_cuts (fun E => ⟨_, t_isWord a, ?_⟩)
  rintro v2 τ3 ⟨rfl, ⟨w, hw, rfl, hz, rfl⟩ | ⟨hz, rfl⟩⟩
  · refine ⟨fun _ => ⟨_, t_handWord hM hw, ?_⟩, fun c => absurd c (by decide)⟩
    rintro τ5 ⟨k5, f5⟩
    refine ⟨_, t_findCut (hM.keep f5.x) k5 (hM.1.1 w hw).1, ?_⟩
    rintro τ7 ⟨-, k7, f7⟩
    rw [k7]
    exact zMQ.x hM (f5.x.tr f7.d.x) (by simp only [aCuts, hz])
  · exact ⟨fun c => absurd rfl c, fun _ => m_bad hM (zLow.rf _) (by simp only [aCuts, hz])⟩
theorem mw_cut (hM : zM s τ) (a : Int32) : ww_T l g mX6_cut [.inr (.inr (30, 0)), .inl a] τ (ww_QI (zMQ τ (aCut s a))) := by
  refine b_X6_cut (fun E => ⟨_, t_isWord a, ?_⟩)
  rintro v2 τ3 ⟨rfl, ⟨w, hw, rfl, hz, rfl⟩ | ⟨hz, rfl⟩⟩
  · have w1 := hM.1.1 w hw
    refine ⟨fun _ => ⟨_, t_handWord hM hw, ?_⟩, fun c => absurd c (by decide)⟩
    rintro τ5 ⟨k5, f5⟩
    refine ⟨_, t_findCut (hM.keep f5.x) k5 w1.1, ?_⟩
    rintro τ7 ⟨k7, -, f7⟩
    have hf := f5.x.tr f7.d.x
    cases hs : (zscan (sM s) (sW s w) (sK s) (sW s w).length).2 with
    | none =>
      rw [hs] at k7
      have k7 : τ7 (30, 0) 14 = (-1 : Int32) := k7
      rw [k7]
      exact ⟨fun c => absurd c (by decide), fun _ => m_no (hM.keep hf) hf.low (by simp only [aCut, hz, hs])⟩
    | some q =>
      rw [hs] at k7
      have hq := zscan_is hs
      have q1 := hq.1
      have := w1.1
      rw [k7.1, zle (by omega) (by omega)]
      refine ⟨fun _ => ⟨_, t_doCut (hM.keep hf) (k5.cf f7) w1.1 k7 hq, ?_⟩, fun c => by omega⟩
      rintro τ9 ⟨k9, f9⟩
      have hcl := zcut_len hq
      exact m_layWord (hM.keep (hf.tr f9.x)) (hf.tr f9.x).low k9 (by omega) hw (zcut_red w1.2.2 w1.2.1 (hM.1.mem.2 _ hq.2.1).2.2.1) (by simp only [aCut, hz, hs])
  · exact ⟨fun c => absurd rfl c, fun _ => m_bad hM (zLow.rf _) (by simp only [aCut, hz])⟩
theorem mw_shorten (hM : zM s τ) (a : Int32) : ww_T l g mX6_shorten [.inr (.inr (30, 0)), .inl a] τ (ww_QI (zMQ τ (aShorten s a))) := by
  refine b_X6_shorten (fun E => ⟨_, t_isWord a, ?_⟩)
  rintro v2 τ3 ⟨rfl, ⟨w, hw, rfl, hz, rfl⟩ | ⟨hz, rfl⟩⟩
  · have w1 := hM.1.1 w hw
    refine ⟨fun _ => ⟨_, t_handWord hM hw, ?_⟩, fun c => absurd c (by decide)⟩
    rintro τ5 ⟨k5, f5⟩
    refine ⟨_, t_shortenHand (hM.keep f5.x) k5 w1.1 w1.2.2 (by decide), ?_⟩
    rintro v7 τ8 ⟨rfl, k8, -, f8⟩
    have hwk := zfin_wok hM w1 1000000
    rw [zsh_far w1.1] at k8 hwk ⊢
    have hf := f5.x.tr f8.x
    obtain ⟨Q, q1, q2⟩ := m_layWord (l := E.2.1) (g := g) (τ0 := τ) (hM.keep hf) hf.low k8 hwk.1 hw hwk.2.2 rfl
    refine ⟨Q, q1, fun v10 τ11 hQ => ?_⟩
    have := q2 v10 τ11 hQ
    exact ⟨by simp only [aShorten, hz], by simp only [aShorten, hz]; exact this.2.1, this.2.2⟩
  · exact ⟨fun c => absurd rfl c, fun _ => m_bad hM (zLow.rf _) (by simp only [aShorten, hz])⟩
theorem ztr_sh {mem : List (List Nat)} {kd : Nat} : ∀ (k : Nat) (w : List Nat), ztr mem kd k w = match (zscan mem (zsh mem kd k w).2 kd (zsh mem kd k w).2.length).2 with
    | none => none
    | some q => some (q, zcut mem (zsh mem kd k w).2 q)
  | 0, w => by rw [ztr]; rfl
  | k + 1, w => by
    rw [ztr]
    cases h : (zscan mem w kd w.length).2 with
    | none => rw [zsh_none h]; simp only [h]
    | some q => rw [zsh_some h]; exact ztr_sh k (zcut mem w q)
theorem mw_trail (hM : zM s τ) (a b c : Int32) : ww_T l g mX6_trail [.inr (.inr (30, 0)), .inl a, .inl b, .inl c] τ (ww_QI (zMQ τ (aTrail s a b c))) := by
  refine b_X6_trail (fun E => ⟨_, t_isWord a, ?_⟩)
  rintro v2 τ3 ⟨rfl, ⟨w, hw, rfl, hz, rfl⟩ | ⟨hz, rfl⟩⟩
  · refine ⟨fun c => absurd c (by decide), fun _ => ?_⟩
    have w1 := hM.1.1 w hw
    rcases zn_big b with ⟨k, hk, rfl, hz2, h0⟩ | ⟨hz2, h0⟩
    · refine ⟨fun c => by rw [zlt (by omega) (by omega)] at c; omega, fun _ => ⟨_, t_inN c 4 (by omega) (by decide), ?_⟩⟩
      rintro v11 τ12 ⟨rfl, ⟨t, ht, rfl, hz3, rfl⟩ | ⟨hz3, rfl⟩⟩
      · refine ⟨fun _ => ⟨_, t_handWord hM hw, ?_⟩, fun c => absurd c (by decide)⟩
        rintro τ14 ⟨k14, f14⟩
        refine ⟨_, t_shortenHand (hM.keep f14.x) k14 w1.1 w1.2.2 hk, ?_⟩
        rintro v16 τ17 ⟨-, k17, kk, f17⟩
        have hf := f14.x.tr f17.x
        have hwk := zfin_wok hM w1 k
        have hts := ztr_sh (mem := sM s) (kd := sK s) k (sW s w)
        generalize (zsh (sM s) (sK s) k (sW s w)).2 = x at *
        cases hs : (zscan (sM s) x (sK s) x.length).2 with
        | none =>
          rw [hs] at kk
          have kk : τ17 (30, 0) 14 = (-1 : Int32) := kk
          rw [kk]
          have et : ztr (sM s) (sK s) k (sW s w) = none := by rw [hts, hs]
          exact ⟨fun c => absurd c (by decide), fun _ => zMQ.x hM hf (by simp only [aTrail, hz, hz2, hz3, et])⟩
        | some q =>
          rw [hs] at kk
          have hq := zscan_is hs
          have q1 := hq.1
          have x60 := hwk.1
          have ea2 : aTrail s (nI w) (nI k) (nI t) = (if t = 0 then nI q.1 else if t = 1 then nI q.2.1 else if t = 2 then nI q.2.2 else nI (zcut (sM s) x q).length, s) := by
            have et : ztr (sM s) (sK s) k (sW s w) = some (q, zcut (sM s) x q) := by rw [hts, hs]
            simp only [aTrail, hz, hz2, hz3, et]
          rw [kk.1, kk.2.1, kk.2.2, zle (by omega) (by omega), zeq (by omega) (by omega), zeq (by omega) (by omega), zeq (by omega) (by omega)]
          refine ⟨fun _ => ⟨fun t0 => ⟨fun t1 => ⟨_, t_doCut (hM.keep hf) k17 x60 kk hq, ?_⟩, fun t1 => ⟨_, t_doCut (hM.keep hf) k17 x60 kk hq, ?_⟩⟩, fun t0 => ⟨_, t_doCut (hM.keep hf) k17 x60 kk hq, ?_⟩⟩, fun c => by omega⟩
          · rintro τ19 ⟨k19, f19⟩
            rw [k19.2.1]
            exact ⟨fun t3 => zMQ.x hM (hf.tr f19.x) (by rw [ea2, if_neg t0, if_neg t1, if_pos (by omega)]), fun t3 => zMQ.x hM (hf.tr f19.x) (by rw [ea2, if_neg t0, if_neg t1, if_neg (by omega)])⟩
          · rintro τ19 ⟨k19, f19⟩
            exact ⟨fun t3 => zMQ.x hM (hf.tr f19.x) (by rw [ea2, if_neg t0, if_pos t1]), fun t3 => by omega⟩
          · rintro τ19 ⟨k19, f19⟩
            exact ⟨fun t3 => zMQ.x hM (hf.tr f19.x) (by rw [ea2, if_pos t0]), fun t3 => by omega⟩
      · exact ⟨fun c => absurd rfl c, fun _ => m_bad hM (zLow.rf _) (by simp only [aTrail, hz, hz2, hz3])⟩
    · refine ⟨fun _ => m_bad hM (zLow.rf _) (by simp only [aTrail, hz, hz2]), fun c => absurd (Int32.not_lt.mp c) h0⟩
  · exact ⟨fun _ => m_bad hM (zLow.rf _) (by simp only [aTrail, hz]), fun c => absurd rfl c⟩
theorem mw_nothing (hM : zM s τ) (a : Int32) : ww_T l g mX6_nothing [.inr (.inr (30, 0)), .inl a] τ (ww_QI (zMQ τ (aNothing s a))) := by
  refine b_X6_nothing (fun E => ⟨_, t_isWord a, ?_⟩)
  rintro v2 τ3 ⟨rfl, ⟨w, hw, rfl, hz, rfl⟩ | ⟨hz, rfl⟩⟩
  · have w1 := hM.1.1 w hw
    refine ⟨fun _ => ⟨_, t_isGood hM (by omega), ?_⟩, fun c => absurd c (by decide)⟩
    rintro v5 τ6 ⟨rfl, rfl⟩
    rw [zb_0]
    refine ⟨fun c => ⟨_, t_handWord hM hw, ?_⟩, fun c => m_no hM (zLow.rf _) (by simp only [aNothing, hz]; rw [if_neg (by rw [c]; decide)])⟩
    rintro τ8 ⟨k8, f8⟩
    refine ⟨_, t_isNothing (hM.keep f8.x) k8 w1.1 w1.2.2, ?_⟩
    rintro v10 τ11 ⟨rfl, f11⟩
    have ea : aNothing s (nI w) = (zb (zNil s (sW s w)), s) := by simp only [aNothing, hz]; rw [if_pos (by simpa using c)]
    rw [zb_0]
    exact ⟨fun c => zMQ.x hM (f8.x.tr f11.x) (by rw [ea, c]; rfl), fun c => zMQ.x hM (f8.x.tr f11.x) (by rw [ea, show zNil s (sW s w) = true by simpa using c]; rfl)⟩
  · exact ⟨fun c => absurd rfl c, fun _ => m_bad hM (zLow.rf _) (by simp only [aNothing, hz])⟩
theorem mw_same (hM : zM s τ) (a b : Int32) : ww_T l g mX6_same [.inr (.inr (30, 0)), .inl a, .inl b] τ (ww_QI (zMQ τ (aSame s a b))) := by
  refine b_X6_same (fun E => ⟨_, t_isWord a, ?_⟩)
  rintro v2 τ3 ⟨rfl, ⟨w, hw, rfl, hz, rfl⟩ | ⟨hz, rfl⟩⟩
  · refine ⟨fun c => absurd c (by decide), fun _ => ⟨_, t_isWord b, ?_⟩⟩
    rintro v8 τ9 ⟨rfl, ⟨x, hx, rfl, hz2, rfl⟩ | ⟨hz2, rfl⟩⟩
    · have w1 := hM.1.1 w hw
      have w2 := hM.1.1 x hx
      refine ⟨fun _ => ⟨_, t_isGood hM (by omega), ?_⟩, fun c => absurd c (by decide)⟩
      rintro v5 τ6 ⟨rfl, rfl⟩
      rw [zb_0]
      refine ⟨fun c => ⟨_, t_handWord hM hw, ?_⟩, fun c => m_no hM (zLow.rf _) (by simp only [aSame, hz, hz2]; rw [if_neg (by rw [c]; decide)])⟩
      have c' : sG s 6 = true := by simpa using c
      rintro τ8 ⟨k8, f8⟩
      refine ⟨_, t_pushInverse k8 hx ((hM.2.1 x hx).hf f8) w2.1 w2.2.1 (by have := w1.1; have := w2.1; omega), ?_⟩
      rintro τ16 ⟨k16, f16⟩
      have l16 := k16.1
      have hf := f8.x.tr f16.x
      rw [k16.2.1, zle (by omega) (by omega)]
      refine ⟨fun c2 => ⟨_, t_isNothing (hM.keep hf) k16 c2 (zred_pushs w1.2.2 w1.2.1 (zinv_ok w2.2.1)), ?_⟩, fun c2 => m_full (hM.keep hf) hf.low (by simp only [aSame, hz, hz2]; rw [if_pos c', if_pos (by omega)])⟩
      rintro v10 τ11 ⟨rfl, f11⟩
      have ea : aSame s (nI w) (nI x) = (zb (zNil s (zpushs (sW s w) (zinv (sW s x)))), s) := by simp only [aSame, hz, hz2]; rw [if_pos c', if_neg (by omega)]
      rw [zb_0]
      exact ⟨fun c => zMQ.x hM (hf.tr f11.x) (by rw [ea, c]; rfl), fun c => zMQ.x hM (hf.tr f11.x) (by rw [ea, show zNil s _ = true by simpa using c]; rfl)⟩
    · exact ⟨fun c => absurd rfl c, fun _ => m_bad hM (zLow.rf _) (by simp only [aSame, hz, hz2])⟩
  · exact ⟨fun _ => m_bad hM (zLow.rf _) (by simp only [aSame, hz]), fun c => absurd rfl c⟩
theorem zWd.xm {τ' : ww_M} {w : Nat} {ys : List Nat} (h : zWd τ w ys) (hf : zXM τ τ') : zWd τ' w ys := ⟨by rw [hf.1 _ (by decide) (by decide)]; exact h.1, fun k hk => by rw [hf.1 _ (by decide) (by decide)]; exact h.2 k hk⟩
theorem mw_order (hM : zM s τ) (a : Int32) : ww_T l g mX6_order [.inr (.inr (30, 0)), .inl a] τ (ww_QI (zMQ τ (aOrder s a))) := by
  refine b_X6_order (fun E => ⟨_, t_isWord a, ?_⟩)
  rintro v2 τ3 ⟨rfl, ⟨w, hw, rfl, hz, rfl⟩ | ⟨hz, rfl⟩⟩
  · have w1 := hM.1.1 w hw
    have w60 := w1.1
    refine ⟨fun _ => ⟨_, t_isGood hM (by omega), ?_⟩, fun c => absurd c (by decide)⟩
    rintro v5 τ6 ⟨rfl, rfl⟩
    rw [zb_0]
    refine ⟨fun c => ?_, fun c => m_no hM (zLow.rf _) (by simp only [aOrder, hz]; rw [if_neg (by rw [c]; decide)])⟩
    have ea : aOrder s (nI w) = (zord s (sW s w) 1 6, s) := by simp only [aOrder, hz]; rw [if_pos (by simpa using c)]
    rw [ea]
    have loop : ∀ (k n : Nat) (σ : ww_M), n + k = 7 → zXM τ σ → zord s (sW s w) n k = zord s (sW s w) 1 6 → ww_W g mX6_order E (ww_QI (zMQ τ (zord s (sW s w) 1 6, s))) 28 [some (.inr (.inr (30, 0))), some (.inl (nI w)), some (.inl (nI n)), none] [] σ := by
      intro k
      induction k with
      | zero =>
        intro n σ hn hf he
        rw [zord] at he
        refine b_X6_order_28 ⟨fun _ => ⟨he, hM.keep hf, hf.low⟩, fun c => ?_⟩
        rw [zle (by omega) (by omega)] at c; omega
      | succ k ih =>
        intro n σ hn hf he
        rw [zord] at he
        refine b_X6_order_28 ⟨fun c => by rw [zle (by omega) (by omega)] at c; omega, fun _ τ1 e1 => ?_⟩
        have h0 := zH0 (τ := σ) (v := nI 0) rfl
        rw [← e1] at h0
        have inner : ∀ (d j : Nat) (σ' : ww_M), j + d = n → zH σ' (zpow (sW s w) j) → zXM τ σ' → ww_W g mX6_order E (ww_QI (zMQ τ (zord s (sW s w) 1 6, s))) 41 [some (.inr (.inr (30, 0))), some (.inl (nI w)), some (.inl (nI n)), some (.inl (nI j))] [] σ' := by
          intro d
          induction d with
          | zero =>
            intro j σ' hj hh hf'
            have e : j = n := by omega
            subst e
            have h7 := hh.1
            refine b_X6_order_41 ⟨fun _ => ?_, fun c => by rw [zle (by omega) (by omega)] at c; omega⟩
            rw [hh.2.1, zle (by omega) (by omega)]
            refine ⟨fun c2 => ⟨_, t_isNothing (hM.keep hf') hh c2 (zpow_red w1.2.1 _), ?_⟩, fun c2 => ?_⟩
            · rintro v2 τ3 ⟨rfl, f3⟩
              rw [if_neg (by omega)] at he
              rw [zb_0, zadd]
              refine ⟨fun c3 => ih (j + 1) τ3 (by omega) (hf'.tr f3.x) (by rw [if_neg (by rw [c3]; decide)] at he; exact he), fun c3 => ⟨by rw [if_pos (by simpa using c3)] at he; exact he, hM.keep (hf'.tr f3.x), (hf'.tr f3.x).low⟩⟩
            · rw [if_pos (by omega)] at he
              exact ⟨he, hM.keep hf', hf'.low⟩
          | succ d ih2 =>
            intro j σ' hj hh hf'
            have hl := zpow_len (sW s w) j
            have hl2 : j * (sW s w).length ≤ 6 * 60 := Nat.mul_le_mul (by omega) w60
            refine b_X6_order_41 ⟨fun c => by rw [zle (by omega) (by omega)] at c; omega, fun _ => ⟨_, t_pushWord hh hw ((hM.2.1 w hw).xm hf') w60 w1.2.1 (by omega), ?_⟩⟩
            rintro τ5 ⟨k5, f5⟩
            rw [zadd]
            exact ih2 (j + 1) τ5 (by omega) k5 (hf'.tr f5.x)
        exact inner n 0 τ1 (by omega) h0.1 (hf.tr h0.2.x)
    exact loop 6 1 τ (by omega) (zXM.rf τ) rfl
  · exact ⟨fun c => absurd rfl c, fun _ => m_bad hM (zLow.rf _) (by simp only [aOrder, hz])⟩
end MCUT
