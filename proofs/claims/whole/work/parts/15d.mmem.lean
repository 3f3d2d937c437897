/-! ===== whose turn a member is ===== -/
def zOwn (s : zMB) (A : Nat → List Nat → Prop) : Prop := s.1.Nodup ∧ s.2.1.length = s.1.length ∧ s.2.2.length = s.1.length ∧ (∀ m, m < s.1.length → ∀ r, (zat s.2.1 m).testBit r = true ↔ A r (zm s.1 m)) ∧ ∀ r z, A r z → z ∈ s.1
theorem zat_set_n {xs : List Nat} {i k v : Nat} (h : k ≠ i) : zat (xs.set i v) k = zat xs k := by
  unfold zat
  rw [List.getD_eq_getElem?_getD, List.getD_eq_getElem?_getD, List.getElem?_set_ne (Ne.symm h)]
theorem zm_mem {mem : List (List Nat)} {m : Nat} (h : m < mem.length) : zm mem m ∈ mem := by rw [zm_eq h]; exact List.getElem_mem h
theorem zm_idx {mem : List (List Nat)} {x : List Nat} (h : x ∈ mem) : mem.idxOf x < mem.length ∧ zm mem (mem.idxOf x) = x := by
  have h1 := List.idxOf_lt_length_iff.mpr h
  exact ⟨h1, by rw [zm_eq h1, List.getElem_idxOf]⟩
theorem zm_inj {mem : List (List Nat)} (hd : mem.Nodup) {i j : Nat} (hi : i < mem.length) (hj : j < mem.length) (h : zm mem i = zm mem j) : i = j := by
  rw [zm_eq hi, zm_eq hj] at h
  exact (List.getElem_inj hd).mp h
theorem zadd1_own {s : zMB} {A : Nat → List Nat → Prop} (h : zOwn s A) (r : Nat) (x : List Nat) : zOwn (zadd1 r x s) (fun r' z => A r' z ∨ (r' = r ∧ z = x)) := by
  obtain ⟨h1, h2, h3, h4, h5⟩ := h
  unfold zadd1
  by_cases hx : x ∈ s.1
  · rw [if_pos hx]
    obtain ⟨i1, i2⟩ := zm_idx hx
    refine ⟨h1, by show (s.2.1.set _ _).length = _; rw [List.length_set]; exact h2, h3, fun m hm r' => ?_, fun r' z hz => ?_⟩
    · have hm : m < s.1.length := hm
      show (zat (s.2.1.set (s.1.idxOf x) (zat s.2.1 (s.1.idxOf x) ||| 2 ^ r)) m).testBit r' = true ↔ A r' (zm s.1 m) ∨ (r' = r ∧ zm s.1 m = x)
      by_cases e : m = s.1.idxOf x
      · rw [e, zat_set_s (by omega), Nat.testBit_or, Bool.or_eq_true, h4 _ i1, Nat.testBit_two_pow, i2]
        simp only [decide_eq_true_eq]
        constructor
        · rintro (q | q)
          · exact Or.inl q
          · exact Or.inr ⟨q.symm, trivial⟩
        · rintro (q | ⟨q, -⟩)
          · exact Or.inl q
          · exact Or.inr q.symm
      · rw [zat_set_n e, h4 m hm]
        constructor
        · exact Or.inl
        · rintro (q | ⟨-, q⟩)
          · exact q
          · exact absurd (zm_inj h1 hm i1 (q.trans i2.symm)) e
    · rcases hz with q | ⟨-, q⟩
      · exact h5 r' z q
      · rw [q]; exact hx
  · rw [if_neg hx]
    refine ⟨?_, by show (s.2.1 ++ [2 ^ r]).length = (s.1 ++ [x]).length; rw [List.length_append, List.length_append, h2]; rfl, by show (s.2.2 ++ [r]).length = (s.1 ++ [x]).length; rw [List.length_append, List.length_append, h3]; rfl, fun m hm r' => ?_, fun r' z hz => ?_⟩
    · show (s.1 ++ [x]).Nodup
      rw [List.nodup_append]
      exact ⟨h1, by simp, fun a ha b hb => by rw [List.mem_singleton.mp hb]; intro e; rw [e] at ha; exact hx ha⟩
    · have hm : m < (s.1 ++ [x]).length := hm
      rw [List.length_append, List.length_singleton] at hm
      show (zat (s.2.1 ++ [2 ^ r]) m).testBit r' = true ↔ A r' (zm (s.1 ++ [x]) m) ∨ (r' = r ∧ zm (s.1 ++ [x]) m = x)
      by_cases e : m = s.1.length
      · rw [e, zm_app_e]
        have : zat (s.2.1 ++ [2 ^ r]) s.1.length = 2 ^ r := by rw [← h2, zat_app_e]
        rw [this, Nat.testBit_two_pow]
        simp only [decide_eq_true_eq]
        constructor
        · intro q; exact Or.inr ⟨q.symm, trivial⟩
        · rintro (q | ⟨q, -⟩)
          · exact absurd (h5 r' x q) hx
          · exact q.symm
      · rw [zat_app_l (by omega), zm_app_l (by omega), h4 m (by omega)]
        constructor
        · exact Or.inl
        · rintro (q | ⟨-, q⟩)
          · exact q
          · exact absurd (by rw [← q]; exact zm_mem (by omega)) hx
    · show z ∈ s.1 ++ [x]
      rcases hz with q | ⟨-, q⟩
      · exact List.mem_append_left _ (h5 r' z q)
      · rw [q]; exact List.mem_append_right _ List.mem_cons_self
theorem zOwn.cg {s : zMB} {A B : Nat → List Nat → Prop} (h : zOwn s A) (e : ∀ r z, A r z ↔ B r z) : zOwn s B := ⟨h.1, h.2.1, h.2.2.1, fun m hm r => (h.2.2.2.1 m hm r).trans (e r _), fun r z hz => h.2.2.2.2 r z ((e r z).mpr hz)⟩
theorem zaddT_own {A : Nat → List Nat → Prop} (r : Nat) (x : List Nat) : ∀ (t : Nat) {s : zMB}, zOwn s A → zOwn (zaddT r x t s) (fun r' z => A r' z ∨ (r' = r ∧ ∃ i, i < t ∧ z = zturn x i))
  | 0, s, h => h.cg (fun r' z => ⟨Or.inl, fun q => q.elim id (fun ⟨_, i, hi, _⟩ => absurd hi (Nat.not_lt_zero _))⟩)
  | t + 1, s, h => by
    refine (zadd1_own (zaddT_own r x t h) r (zturn x t)).cg (fun r' z => ?_)
    constructor
    · rintro ((q | ⟨q, i, hi, e⟩) | ⟨q, e⟩)
      · exact Or.inl q
      · exact Or.inr ⟨q, i, by omega, e⟩
      · exact Or.inr ⟨q, t, by omega, e⟩
    · rintro (q | ⟨q, i, hi, e⟩)
      · exact Or.inl (Or.inl q)
      · by_cases c : i = t
        · subst c; exact Or.inr ⟨q, e⟩
        · exact Or.inl (Or.inr ⟨q, i, by omega, e⟩)
/-- a turn of a relator, or of its inverse -/
def zOf (x z : List Nat) : Prop := ∃ i, i < x.length ∧ (z = zturn x i ∨ z = zturn (zinv x) i)
theorem zbuild_own (rels : List (List Nat)) : ∀ n, zOwn (zbuild rels n) (fun r z => r < n ∧ zOf (zm rels r) z)
  | 0 => ⟨List.nodup_nil, rfl, rfl, fun m hm => absurd hm (Nat.not_lt_zero _), fun r z h => absurd h.1 (Nat.not_lt_zero _)⟩
  | n + 1 => by
    refine (zaddT_own n _ _ (zaddT_own n _ _ (zbuild_own rels n))).cg (fun r z => ?_)
    constructor
    · rintro ((⟨q, q2⟩ | ⟨q, i, hi, e⟩) | ⟨q, i, hi, e⟩)
      · exact ⟨by omega, q2⟩
      · subst q; exact ⟨by omega, i, hi, Or.inl e⟩
      · subst q; exact ⟨by omega, i, hi, Or.inr e⟩
    · rintro ⟨q, i, hi, e⟩
      by_cases c : r = n
      · subst c
        rcases e with e | e
        · exact Or.inl (Or.inr ⟨rfl, i, hi, e⟩)
        · exact Or.inr ⟨rfl, i, hi, e⟩
      · exact Or.inl (Or.inl ⟨by omega, i, hi, e⟩)
/-- the piece, as the model counts it -/
def zpc2 (mem : List (List Nat)) (P : Nat → Bool) (n : Nat) : Nat := zgr (fun m => if P m = true then zgr (fun o => if o = m then 0 else zlike (zm mem m) 0 (zm mem o)) mem.length else 0) n
theorem zpc2_eq {mem : List (List Nat)} {ow : List Nat} {r : Nat} {P : Nat → Bool} (h : ∀ m, m < mem.length → ((zat ow m).testBit r = true ↔ P m = true)) : zpc2 mem P mem.length = zpcs mem ow r mem.length := by
  apply Nat.le_antisymm
  · refine zgr_le (fun m hm => ?_)
    show (if P m = true then zgr (fun o => if o = m then 0 else zlike (zm mem m) 0 (zm mem o)) mem.length else 0) ≤ _
    split
    · rename_i hp
      refine zgr_le (fun o ho => ?_)
      show (if o = m then 0 else zlike (zm mem m) 0 (zm mem o)) ≤ _
      split
      · exact Nat.zero_le _
      · rename_i hne
        by_cases c : o < m
        · refine Nat.le_trans ?_ (zgr_ge hm)
          refine Nat.le_trans ?_ (zgr_ge c)
          show _ ≤ (if (zat ow o ||| zat ow m).testBit r = true then zlike (zm mem o) 0 (zm mem m) else 0)
          rw [if_pos (by rw [Nat.testBit_or, (h m hm).mpr hp, Bool.or_true]), zlike_sym]
          exact Nat.le_refl _
        · refine Nat.le_trans ?_ (zgr_ge ho)
          refine Nat.le_trans ?_ (zgr_ge (show m < o by omega))
          show _ ≤ (if (zat ow m ||| zat ow o).testBit r = true then zlike (zm mem m) 0 (zm mem o) else 0)
          rw [if_pos (by rw [Nat.testBit_or, (h m hm).mpr hp, Bool.true_or])]
          exact Nat.le_refl _
    · exact Nat.zero_le _
  · refine zgr_le (fun m hm => ?_)
    refine zgr_le (fun o ho => ?_)
    show (if (zat ow o ||| zat ow m).testBit r = true then zlike (zm mem o) 0 (zm mem m) else 0) ≤ _
    split
    · rename_i hb
      rw [Nat.testBit_or, Bool.or_eq_true] at hb
      rcases hb with hb | hb
      · refine Nat.le_trans ?_ (zgr_ge (show o < mem.length by omega))
        show _ ≤ (if P o = true then zgr (fun q => if q = o then 0 else zlike (zm mem o) 0 (zm mem q)) mem.length else 0)
        rw [if_pos ((h o (by omega)).mp hb)]
        refine Nat.le_trans ?_ (zgr_ge hm)
        show _ ≤ (if m = o then 0 else zlike (zm mem o) 0 (zm mem m))
        rw [if_neg (by omega)]
        exact Nat.le_refl _
      · refine Nat.le_trans ?_ (zgr_ge hm)
        show _ ≤ (if P m = true then zgr (fun q => if q = m then 0 else zlike (zm mem m) 0 (zm mem q)) mem.length else 0)
        rw [if_pos ((h m hm).mp hb)]
        refine Nat.le_trans ?_ (zgr_ge (show o < mem.length by omega))
        show _ ≤ (if o = m then 0 else zlike (zm mem m) 0 (zm mem o))
        rw [if_neg (by omega), zlike_sym]
        exact Nat.le_refl _
    · exact Nat.zero_le _
theorem zadd1_mem {r : Nat} {x z : List Nat} {s : zMB} (h : z ∈ (zadd1 r x s).1) : z ∈ s.1 ∨ z = x := by
  unfold zadd1 at h
  split at h
  · exact Or.inl h
  · rcases List.mem_append.mp h with q | q
    · exact Or.inl q
    · exact Or.inr (List.mem_singleton.mp q)
theorem zaddT_mem {r : Nat} {x z : List Nat} : ∀ (t : Nat) {s : zMB}, z ∈ (zaddT r x t s).1 → z ∈ s.1 ∨ ∃ i, i < t ∧ z = zturn x i
  | 0, s, h => Or.inl h
  | t + 1, s, h => by
    rcases zadd1_mem h with q | q
    · rcases zaddT_mem t q with q2 | ⟨i, hi, e⟩
      · exact Or.inl q2
      · exact Or.inr ⟨i, by omega, e⟩
    · exact Or.inr ⟨t, by omega, q⟩
theorem zbuild_mem {rels : List (List Nat)} {z : List Nat} : ∀ n, z ∈ (zbuild rels n).1 → ∃ r, r < n ∧ zOf (zm rels r) z
  | 0, h => absurd h List.not_mem_nil
  | n + 1, h => by
    rcases zaddT_mem _ h with q | ⟨i, hi, e⟩
    · rcases zaddT_mem _ q with q2 | ⟨i, hi, e⟩
      · obtain ⟨r, hr, q3⟩ := zbuild_mem n q2
        exact ⟨r, by omega, q3⟩
      · exact ⟨n, by omega, i, hi, Or.inl e⟩
    · exact ⟨n, by omega, i, hi, Or.inr e⟩
theorem zOf_ok {x z : List Nat} (h : zOf x z) (hx : zRok x) : z.length = x.length ∧ zok z ∧ zred z := by
  obtain ⟨i, hi, e | e⟩ := h
  · rw [e]; exact ⟨zturn_len (by omega), zturn_ok hx.2.2.1 i, (hx.2.2.2 i hi).1⟩
  · rw [e]; exact ⟨by rw [zturn_len (by rw [zinv_len]; omega), zinv_len], zturn_ok (zinv_ok hx.2.2.1) i, (hx.2.2.2 i hi).2⟩
theorem zWF.mem {s : zS} (h : zWF s) : (sM s).length ≤ 84 ∧ ∀ m, m < (sM s).length → (zm (sM s) m).length ≤ 14 ∧ 1 ≤ (zm (sM s) m).length ∧ zok (zm (sM s) m) ∧ zred (zm (sM s) m) := by
  have hr := h.2.2.2.2.1
  refine ⟨?_, fun m hm => ?_⟩
  · have := zbuild_len (rels := sL s) (sL s).length (fun q hq => (hr q hq).2.1)
    have h3 := h.2.2.2.1
    show (zbuild (sL s) (sL s).length).1.length ≤ 84
    omega
  · obtain ⟨r, hr1, hof⟩ := zbuild_mem (sL s).length (zm_mem hm)
    have q := zOf_ok hof (hr r hr1)
    have := hr r hr1
    refine ⟨by show (zm (sM s) m).length ≤ 14; rw [show (zm (sM s) m).length = _ from q.1]; exact this.2.1, by show 1 ≤ (zm (sM s) m).length; rw [show (zm (sM s) m).length = _ from q.1]; exact this.1, q.2⟩
section MMEM
variable {l : Launch} {g : ww_G} {τ : ww_M} {s : zS}
def zdir (b : Bool) (x : List Nat) : List Nat := if b = true then zinv x else x
theorem zdir_len (b : Bool) (x : List Nat) : (zdir b x).length = x.length := by unfold zdir; split <;> simp [zinv_len]
theorem zdir_ok {b : Bool} {x : List Nat} (h : zok x) : zok (zdir b x) := by unfold zdir; split <;> simp [zinv_ok h, h]
theorem t_relatorLetter {r t k : Nat} {b : Bool} {x : List Nat} (hr : r < 3) (hx : zRl τ r x) (h14 : x.length ≤ 14) (ho : zok x) (ht : t < x.length) (hk : k < x.length) : ww_T l g mX6_relatorLetter [.inr (.inr (30, 0)), .inl (nI r), .inl (nI t), .inl (nI k), .inl (zb b)] τ (ww_QI (fun v τ' => τ = τ' ∧ v = nI (zat (zturn (zdir b x) t) k))) := by
  have hmod : (t + k) % x.length < x.length := Nat.mod_lt _ (by omega)
  refine b_X6_relatorLetter (fun E => ⟨r, rfl, hr, ?_⟩)
  rw [hx.1, zadd, pk_rem (by omega) (by omega) (by omega)]
  refine ⟨by rw [zeq (by omega) (by omega)]; omega, fun c => ?_, fun c => ?_⟩
  · rw [zb_0] at c
    subst c
    refine ⟨14 * r + (t + k) % x.length, by rw [zmul, zadd], by omega, rfl, ?_⟩
    rw [hx.2 _ hmod]
    unfold zdir
    rw [if_neg (by decide), zat_turnm ht hk]
  · rw [zb_0] at c
    have c : b = true := by simpa using c
    subst c
    refine ⟨14 * r + (x.length - 1 - (t + k) % x.length), by rw [zmul, zadd, zsub (by omega), zsub (by omega)]; congr 1; omega, by omega, ?_⟩
    rw [hx.2 _ (by omega)]
    refine ⟨_, t_opp (zat_lt ho (by omega)), ?_⟩
    rintro v6 τ7 ⟨rfl, rfl⟩
    refine ⟨rfl, ?_⟩
    unfold zdir
    rw [if_pos rfl, zat_turnm (by rw [zinv_len]; exact ht) (by rw [zinv_len]; exact hk), zinv_len, zat_inv hmod]
theorem t_isTurn {m r t : Nat} {b : Bool} {x z : List Nat} (hm : m < 84) (hz : zMm τ m z) (hz14 : z.length ≤ 14) (hzo : zok z) (hr : r < 3) (hx : zRl τ r x) (h14 : x.length ≤ 14) (ho : zok x) (ht : t < x.length) : ww_T l g mX6_isTurn [.inr (.inr (30, 0)), .inl (nI m), .inl (nI r), .inl (nI t), .inl (zb b)] τ (ww_QI (fun v τ' => τ = τ' ∧ v = zb (decide (z = zturn (zdir b x) t)))) := by
  have hy : (zturn (zdir b x) t).length = x.length := by rw [zturn_len (by rw [zdir_len]; omega), zdir_len]
  have hyo : zok (zturn (zdir b x) t) := zturn_ok (zdir_ok ho) t
  have no : ∀ (E : ww_E) (k : Nat), z ≠ zturn (zdir b x) t → k ≤ x.length → ww_W g mX6_isTurn E (ww_QI (fun v τ' => τ = τ' ∧ v = zb (decide (z = zturn (zdir b x) t)))) 25 [some (.inr (.inr (30, 0))), some (.inl (nI m)), some (.inl (nI r)), some (.inl (nI t)), some (.inl (zb b)), some (.inl (nI 0)), some (.inl (nI k))] [] τ := by
    intro E k hne hk
    have e0 : zb (decide (z = zturn (zdir b x) t)) = nI 0 := by rw [decide_eq_false hne]; rfl
    refine b_X6_isTurn_25 ⟨r, rfl, hr, fun _ => ⟨Or.inl rfl, rfl, e0.symm⟩, fun _ => ⟨fun _ => ⟨Or.inl rfl, rfl, e0.symm⟩, fun c => absurd rfl c⟩⟩
  have yes : ∀ (E : ww_E) (n k : Nat), k + n = x.length → z.length = x.length → (∀ i, i < k → zat z i = zat (zturn (zdir b x) t) i) → ww_W g mX6_isTurn E (ww_QI (fun v τ' => τ = τ' ∧ v = zb (decide (z = zturn (zdir b x) t)))) 25 [some (.inr (.inr (30, 0))), some (.inl (nI m)), some (.inl (nI r)), some (.inl (nI t)), some (.inl (zb b)), some (.inl (nI 1)), some (.inl (nI k))] [] τ := by
    intro E n
    induction n with
    | zero =>
      intro k hk hl he
      have e : z = zturn (zdir b x) t := zat_ext (by omega) (fun i hi => he i (by omega))
      have e1 : zb (decide (z = zturn (zdir b x) t)) = nI 1 := by rw [decide_eq_true e]; rfl
      refine b_X6_isTurn_25 ⟨r, rfl, hr, fun _ => ⟨Or.inr rfl, rfl, e1.symm⟩, fun c => ?_⟩
      rw [hx.1, zle (by omega) (by omega)] at c; omega
    | succ n ih =>
      intro k hk hl he
      refine b_X6_isTurn_25 ⟨r, rfl, hr, fun c => ?_, fun _ => ⟨fun c => absurd c (by decide), fun _ => ⟨14 * m + k, by rw [zmul, zadd], by omega, _, t_relatorLetter hr hx h14 ho ht (by omega), ?_⟩⟩⟩
      · rw [hx.1, zle (by omega) (by omega)] at c; omega
      · rintro v4 τ5 ⟨rfl, rfl⟩
        have a1 := zat_lt hzo (show k < z.length by omega)
        have a2 := zat_lt hyo (show k < (zturn (zdir b x) t).length by omega)
        rw [hz.2 k (by omega), zeq (by omega) (by omega), zadd]
        refine ⟨fun c => no E (k + 1) (fun e => c (by rw [← e])) (by omega), fun c => ih (k + 1) (by omega) hl (fun i hi => ?_)⟩
        by_cases e : i = k
        · rw [e]; exact c
        · exact he i (by omega)
  refine b_X6_isTurn (fun E => ⟨m, rfl, hm, r, rfl, hr, ?_⟩)
  rw [hz.1, hx.1, zeq (by omega) (by omega)]
  exact ⟨fun c => no E 0 (fun e => c (by rw [e, hy])) (by omega), fun c => yes E x.length 0 (by omega) c (fun i hi => absurd hi (Nat.not_lt_zero _))⟩
/-- the members that are laid so far -/
def zBm (τ : ww_M) (q : zMB) : Prop := τ (30, 0) 6 = nI q.1.length ∧ q.2.2.length = q.1.length ∧ ∀ m, m < q.1.length → zMm τ m (zm q.1 m) ∧ τ (35, 0) m = nI (zat q.2.2 m) ∧ (zm q.1 m).length ≤ 14 ∧ zok (zm q.1 m)
theorem t_isListed {q : zMB} {r t : Nat} {b : Bool} {x : List Nat} (hB : zBm τ q) (h84 : q.1.length ≤ 84) (hr : r < 3) (hx : zRl τ r x) (h14 : x.length ≤ 14) (ho : zok x) (ht : t < x.length) : ww_T l g mX6_isListed [.inr (.inr (30, 0)), .inl (nI r), .inl (nI t), .inl (zb b)] τ (ww_QI (fun v τ' => τ = τ' ∧ v = zb (decide (zturn (zdir b x) t ∈ q.1)))) := by
  refine b_X6_isListed (fun E => ?_)
  have yes : ∀ (k : Nat), k ≤ q.1.length → zturn (zdir b x) t ∈ q.1 → ww_W g mX6_isListed E (ww_QI (fun v τ' => τ = τ' ∧ v = zb (decide (zturn (zdir b x) t ∈ q.1)))) 6 [some (.inr (.inr (30, 0))), some (.inl (nI r)), some (.inl (nI t)), some (.inl (zb b)), some (.inl (nI 1)), some (.inl (nI k))] [] τ := by
    intro k hk he
    have e1 : zb (decide (zturn (zdir b x) t ∈ q.1)) = nI 1 := by rw [decide_eq_true he]; rfl
    exact b_X6_isListed_6 ⟨fun _ => ⟨Or.inr rfl, rfl, e1.symm⟩, fun _ => ⟨fun _ => ⟨Or.inr rfl, rfl, e1.symm⟩, fun c => absurd c (by decide)⟩⟩
  have loop : ∀ (n k : Nat), k + n = q.1.length → (∀ i, i < k → zm q.1 i ≠ zturn (zdir b x) t) → ww_W g mX6_isListed E (ww_QI (fun v τ' => τ = τ' ∧ v = zb (decide (zturn (zdir b x) t ∈ q.1)))) 6 [some (.inr (.inr (30, 0))), some (.inl (nI r)), some (.inl (nI t)), some (.inl (zb b)), some (.inl (nI 0)), some (.inl (nI k))] [] τ := by
    intro n
    induction n with
    | zero =>
      intro k hk hno
      have e0 : zb (decide (zturn (zdir b x) t ∈ q.1)) = nI 0 := by
        rw [decide_eq_false (fun h => by
          obtain ⟨i1, i2⟩ := zm_idx h
          exact hno _ (by omega) i2)]; rfl
      refine b_X6_isListed_6 ⟨fun _ => ⟨Or.inl rfl, rfl, e0.symm⟩, fun c => ?_⟩
      rw [hB.1, zle (by omega) (by omega)] at c; omega
    | succ n ih =>
      intro k hk hno
      obtain ⟨b1, -, b3, b4⟩ := hB.2.2 k (by omega)
      refine b_X6_isListed_6 ⟨fun c => ?_, fun _ => ⟨fun c => absurd rfl c, fun _ => ⟨_, t_isTurn (by omega) b1 b3 b4 hr hx h14 ho ht, ?_⟩⟩⟩
      · rw [hB.1, zle (by omega) (by omega)] at c; omega
      · rintro v2 τ3 ⟨rfl, rfl⟩
        rw [zadd]
        by_cases c : zm q.1 k = zturn (zdir b x) t
        · rw [decide_eq_true c]
          exact yes (k + 1) (by omega) (by rw [← c]; exact zm_mem (by omega))
        · rw [decide_eq_false c]
          refine ih (k + 1) (by omega) (fun i hi => ?_)
          by_cases e : i = k
          · rw [e]; exact c
          · exact hno i (by omega)
  exact loop q.1.length 0 (by omega) (fun i hi => absurd hi (Nat.not_lt_zero _))
/-- what listing changes -/
def zLF (τ τ' : ww_M) : Prop := (∀ n : ww_N, n ≠ (33, 0) → n ≠ (34, 0) → n ≠ (35, 0) → n ≠ (30, 0) → τ' n = τ n) ∧ ∀ k, k ≠ 6 → τ' (30, 0) k = τ (30, 0) k
theorem zLF.rf (τ : ww_M) : zLF τ τ := ⟨fun _ _ _ _ _ => rfl, fun _ _ => rfl⟩
theorem zLF.tr {a b c : ww_M} (h : zLF a b) (h2 : zLF b c) : zLF a c := ⟨fun n h1 h3 h4 h5 => (h2.1 n h1 h3 h4 h5).trans (h.1 n h1 h3 h4 h5), fun k hk => (h2.2 k hk).trans (h.2 k hk)⟩
theorem zRl.lf {τ' : ww_M} {r : Nat} {x : List Nat} (h : zRl τ r x) (hf : zLF τ τ') : zRl τ' r x := ⟨by rw [hf.1 _ (by decide) (by decide) (by decide) (by decide)]; exact h.1, fun k hk => by rw [hf.1 _ (by decide) (by decide) (by decide) (by decide)]; exact h.2 k hk⟩
theorem t_listTurns {q : zMB} {r : Nat} {b : Bool} {x : List Nat} (hB : zBm τ q) (hr : r < 3) (hx : zRl τ r x) (h14 : x.length ≤ 14) (ho : zok x) (h84 : q.1.length + x.length ≤ 84) : ww_T l g mX6_listTurns [.inr (.inr (30, 0)), .inl (nI r), .inl (zb b)] τ (ww_QV (fun τ' => zBm τ' (zaddT r (zdir b x) x.length q) ∧ zLF τ τ')) := by
  refine b_X6_listTurns (fun E => ?_)
  have loop : ∀ (n t : Nat) (σ : ww_M), t + n = x.length → zBm σ (zaddT r (zdir b x) t q) → zLF τ σ → ww_W g mX6_listTurns E (ww_QV (fun τ' => zBm τ' (zaddT r (zdir b x) x.length q) ∧ zLF τ τ')) 2 [some (.inr (.inr (30, 0))), some (.inl (nI r)), some (.inl (zb b)), some (.inl (nI t)), none] [] σ := by
    intro n
    induction n with
    | zero =>
      intro t σ ht hb hf
      have e : t = x.length := by omega
      subst e
      refine b_X6_listTurns_2 ⟨r, rfl, hr, fun _ => ⟨hb, hf⟩, fun c => ?_⟩
      rw [(hx.lf hf).1, zle (by omega) (by omega)] at c; omega
    | succ n ih =>
      intro t σ ht hb hf
      have hxs := hx.lf hf
      have hl := zaddT_len r (zdir b x) t q
      have next : ∀ (σ' : ww_M), zBm σ' (zaddT r (zdir b x) (t + 1) q) → zLF τ σ' → ww_W g mX6_listTurns E (ww_QV (fun τ' => zBm τ' (zaddT r (zdir b x) x.length q) ∧ zLF τ τ')) 2 [some (.inr (.inr (30, 0))), some (.inl (nI r)), some (.inl (zb b)), some (.inl (nI (t + 1))), none] [] σ' := fun σ' h1 h2 => ih (t + 1) σ' (by omega) h1 h2
      clear ih
      rw [zaddT] at next
      have hy : (zturn (zdir b x) t).length = x.length := by rw [zturn_len (by rw [zdir_len]; omega), zdir_len]
      have hyo : zok (zturn (zdir b x) t) := zturn_ok (zdir_ok ho) t
      generalize hq : zaddT r (zdir b x) t q = p at *
      refine b_X6_listTurns_2 ⟨r, rfl, hr, fun c => ?_, fun _ => ⟨_, t_isListed hb (by omega) hr hxs h14 ho (by omega), ?_⟩⟩
      · rw [hxs.1, zle (by omega) (by omega)] at c; omega
      · rintro v3 τ4 ⟨rfl, rfl⟩
        rw [zb_0]
        refine ⟨fun c => ?_, fun c => ?_⟩
        · have c' : zturn (zdir b x) t ∈ p.1 := by simpa using c
          rw [zadd]
          refine next _ ?_ hf
          unfold zadd1
          rw [if_pos c']
          exact hb
        · have c' : ¬ zturn (zdir b x) t ∈ p.1 := by simpa using c
          have inner : ∀ (d k : Nat) (σ' : ww_M), k + d = x.length → (∀ n : ww_N, n ≠ (33, 0) → σ' n = σ n) → (∀ i, i < k → σ' (33, 0) (14 * p.1.length + i) = nI (zat (zturn (zdir b x) t) i)) → (∀ i, i < 14 * p.1.length → σ' (33, 0) i = σ (33, 0) i) → ww_W g mX6_listTurns E (ww_QV (fun τ' => zBm τ' (zaddT r (zdir b x) x.length q) ∧ zLF τ τ')) 25 [some (.inr (.inr (30, 0))), some (.inl (nI r)), some (.inl (zb b)), some (.inl (nI t)), some (.inl (nI k))] [] σ' := by
            intro d
            induction d with
            | zero =>
              intro k σ' hk h1 h2 h3
              have h32 : σ' (32, 0) r = nI x.length := by rw [h1 _ (by decide)]; exact hxs.1
              have h6 : σ' (30, 0) 6 = nI p.1.length := by rw [h1 _ (by decide)]; exact hb.1
              refine b_X6_listTurns_25 ⟨r, rfl, hr, fun _ => ⟨r, rfl, hr, p.1.length, h6, by omega, fun τ5 e5 => ⟨p.1.length, by rw [e5, ww_up_n (by simp)]; exact h6, by omega, fun τ6 e6 τ7 e7 => ?_⟩⟩, fun c => ?_⟩
              · rw [h32] at e5
                have g6 : τ6 (30, 0) 6 = nI p.1.length := by rw [e6, ww_up_n (by simp), e5, ww_up_n (by simp)]; exact h6
                rw [g6, zadd] at e7
                rw [zadd]
                have o33 : ∀ i, τ7 (33, 0) i = σ' (33, 0) i := fun i => by rw [e7, ww_up_n (by simp), e6, ww_up_n (by simp), e5, ww_up_n (by simp)]
                have o34 : ∀ i, i ≠ p.1.length → τ7 (34, 0) i = σ (34, 0) i := fun i hi => by rw [e7, ww_up_n (by simp), e6, ww_up_n (by simp), e5, ww_up_k hi, h1 _ (by decide)]
                have o35 : ∀ i, i ≠ p.1.length → τ7 (35, 0) i = σ (35, 0) i := fun i hi => by rw [e7, ww_up_n (by simp), e6, ww_up_k hi, e5, ww_up_n (by simp), h1 _ (by decide)]
                refine next τ7 ?_ ⟨fun n n1 n2 n3 n4 => by rw [e7, ww_up_f n4, e6, ww_up_f n3, e5, ww_up_f n2, h1 n n1]; exact hf.1 n n1 n2 n3 n4, fun i hi => by rw [e7, ww_up_k hi, e6, ww_up_n (by simp), e5, ww_up_n (by simp), h1 _ (by decide)]; exact hf.2 i hi⟩
                unfold zadd1
                rw [if_neg c']
                refine ⟨by rw [e7, ww_up_s]; show _ = nI (p.1 ++ [_]).length; rw [List.length_append]; rfl, by show (p.2.2 ++ [r]).length = (p.1 ++ [_]).length; rw [List.length_append, List.length_append, hb.2.1]; rfl, fun m hm => ?_⟩
                have hm : m < (p.1 ++ [zturn (zdir b x) t]).length := hm
                rw [List.length_append, List.length_singleton] at hm
                show zMm τ7 m (zm (p.1 ++ [zturn (zdir b x) t]) m) ∧ τ7 (35, 0) m = nI (zat (p.2.2 ++ [r]) m) ∧ (zm (p.1 ++ [zturn (zdir b x) t]) m).length ≤ 14 ∧ zok (zm (p.1 ++ [zturn (zdir b x) t]) m)
                by_cases e : m = p.1.length
                · rw [e, zm_app_e]
                  refine ⟨⟨by rw [e7, ww_up_n (by simp), e6, ww_up_n (by simp), e5, ww_up_s, hy], fun i hi => by rw [o33]; exact h2 i (by omega)⟩, ?_, by omega, hyo⟩
                  rw [e7, ww_up_n (by simp), e6, ww_up_s, ← hb.2.1, zat_app_e]
                · obtain ⟨b1, b2, b3, b4⟩ := hb.2.2 m (by omega)
                  rw [zm_app_l (by omega), zat_app_l (by rw [hb.2.1]; omega)]
                  exact ⟨⟨by rw [o34 m e]; exact b1.1, fun i hi => by rw [o33, h3 _ (by omega)]; exact b1.2 i hi⟩, by rw [o35 m e]; exact b2, b3, b4⟩
              · rw [h32, zle (by omega) (by omega)] at c; omega
            | succ d ih2 =>
              intro k σ' hk h1 h2 h3
              have h32 : σ' (32, 0) r = nI x.length := by rw [h1 _ (by decide)]; exact hxs.1
              have h6 : σ' (30, 0) 6 = nI p.1.length := by rw [h1 _ (by decide)]; exact hb.1
              have hxs' : zRl σ' r x := ⟨h32, fun i hi => by rw [h1 _ (by decide)]; exact hxs.2 i hi⟩
              refine b_X6_listTurns_25 ⟨r, rfl, hr, fun c => by rw [h32, zle (by omega) (by omega)] at c; omega, fun _ => ⟨_, t_relatorLetter hr hxs' h14 ho (by omega) (by omega), ?_⟩⟩
              rintro v9 τ10 ⟨rfl, rfl⟩
              refine ⟨14 * p.1.length + k, by rw [h6, zmul, zadd], by omega, fun τ12 e12 => ?_⟩
              rw [zadd]
              refine ih2 (k + 1) τ12 (by omega) (fun n hn => by rw [e12, ww_up_f hn]; exact h1 n hn) (fun i hi => ?_) (fun i hi => by rw [e12, ww_up_k (by omega)]; exact h3 i hi)
              rw [e12]
              by_cases e : i = k
              · rw [e, ww_up_s]
              · rw [ww_up_k (by omega)]; exact h2 i (by omega)
          exact inner x.length 0 _ (by omega) (fun _ _ => rfl) (fun i hi => absurd hi (Nat.not_lt_zero _)) (fun _ _ => rfl)
  exact loop x.length 0 τ (by omega) hB (zLF.rf τ)
theorem t_listMembers {L : List (List Nat)} (hL3 : L.length ≤ 3) (h2 : τ (30, 0) 2 = nI L.length) (hx : ∀ r, r < L.length → zRl τ r (zm L r)) (hok : ∀ r, r < L.length → zRok (zm L r)) : ww_T l g mX6_listMembers [.inr (.inr (30, 0))] τ (ww_QV (fun τ' => zBm τ' (zbuild L L.length) ∧ zLF τ τ')) := by
  refine b_X6_listMembers (fun E τ1 e1 => ?_)
  have f1 : zLF τ τ1 := ⟨fun n _ _ _ n4 => by rw [e1, ww_up_f n4], fun k hk => by rw [e1, ww_up_k hk]⟩
  have loop : ∀ (n k : Nat) (σ : ww_M), k + n = L.length → zBm σ (zbuild L k) → zLF τ σ → ww_W g mX6_listMembers E (ww_QV (fun τ' => zBm τ' (zbuild L L.length) ∧ zLF τ τ')) 7 [some (.inr (.inr (30, 0))), some (.inl (nI k))] [] σ := by
    intro n
    induction n with
    | zero =>
      intro k σ hk hb hf
      have e : k = L.length := by omega
      subst e
      exact b_X6_listMembers_7 ⟨fun _ => ⟨hb, hf⟩, fun c => by rw [hf.2 _ (by decide), h2, zle (by omega) (by omega)] at c; omega⟩
    | succ n ih =>
      intro k σ hk hb hf
      have hk1 := hok k (by omega)
      have h14 := hk1.2.1
      have hl := zbuild_len (rels := L) k (fun q hq => (hok q (by omega)).2.1)
      have hl2 := zaddT_len k (zm L k) (zm L k).length (zbuild L k)
      refine b_X6_listMembers_7 ⟨fun c => by rw [hf.2 _ (by decide), h2, zle (by omega) (by omega)] at c; omega, fun _ => ⟨_, t_listTurns (b := false) hb (by omega) ((hx k (by omega)).lf hf) h14 hk1.2.2.1 (by omega), ?_⟩⟩
      rintro τ2 ⟨k2, f2⟩
      refine ⟨_, t_listTurns (b := true) k2 (by omega) (((hx k (by omega)).lf hf).lf f2) h14 hk1.2.2.1 (by show (zaddT k (zm L k) (zm L k).length (zbuild L k)).1.length + _ ≤ 84; omega), ?_⟩
      rintro τ4 ⟨k4, f4⟩
      rw [zadd]
      exact ih (k + 1) τ4 (by omega) k4 ((hf.tr f2).tr f4)
  exact loop L.length 0 τ1 (by omega) ⟨by rw [e1, ww_up_s]; rfl, rfl, fun m hm => absurd hm (Nat.not_lt_zero _)⟩ f1
end MMEM
