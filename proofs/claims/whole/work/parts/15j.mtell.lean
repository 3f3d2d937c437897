/-! ===== the model: words told ===== -/
theorem zputs_at : ∀ (xs : List Nat) {row : List Nat} {i : Nat}, i < row.length → zat (zputs row xs) i = zat row i
  | [], _, _, _ => rfl
  | x :: xs, row, i, h => by
    rw [zputs_cons, zputs_at xs (by have := zput_ge row x; omega), zput_at h]
theorem zputs_le : ∀ (xs : List Nat) {row : List Nat}, row.length ≤ 61 → (zputs row xs).length ≤ 61
  | [], _, h => h
  | x :: xs, row, h => by rw [zputs_cons]; exact zputs_le xs (zput_le h x)
theorem zreps_len (xs : List Nat) : ∀ n, (zreps n xs).length = n * xs.length
  | 0 => by rw [Nat.zero_mul]; rfl
  | n + 1 => by rw [zreps_succ, List.length_append, zreps_len xs n, Nat.succ_mul]; omega
theorem zat_app_r {xs ys : List Nat} {k : Nat} (h : xs.length ≤ k) : zat (xs ++ ys) k = zat ys (k - xs.length) := by
  unfold zat
  rw [List.getD_eq_getElem?_getD, List.getD_eq_getElem?_getD, List.getElem?_append_right h]
theorem zreps_at {xs : List Nat} : ∀ (n k : Nat), k < n * xs.length → zat (zreps n xs) k = zat xs (k % xs.length)
  | 0, k, h => by omega
  | n + 1, k, h => by
    rw [zreps_succ]
    by_cases c : k < xs.length
    · rw [zat_app_l c, Nat.mod_eq_of_lt c]
    · rw [Nat.succ_mul] at h
      rw [zat_app_r (by omega), zreps_at n _ (by omega), Nat.mod_eq_sub_mod (a := k) (by omega)]
section MTELL
variable {l : Launch} {g : ww_G} {τ : ww_M} {s : zS}
/-- the row of letters as they are told -/
def zLw (τ : ww_M) (row : List Nat) : Prop := row.length ≤ 61 ∧ τ (30, 0) 28 = nI row.length ∧ (∀ k, k < row.length → τ (46, 0) k = nI (zat row k)) ∧ zok row
def zEF (τ τ' : ww_M) : Prop := (∀ n : ww_N, n ≠ (45, 0) → n ≠ (46, 0) → n ≠ (30, 0) → τ' n = τ n) ∧ ∀ k, k ≠ 28 → k ≠ 29 → τ' (30, 0) k = τ (30, 0) k
theorem zEF.rf (τ : ww_M) : zEF τ τ := ⟨fun _ _ _ _ => rfl, fun _ _ _ => rfl⟩
theorem zEF.tr {a b c : ww_M} (h : zEF a b) (h2 : zEF b c) : zEF a c := ⟨fun n h1 h3 h4 => (h2.1 n h1 h3 h4).trans (h.1 n h1 h3 h4), fun k h1 h3 => (h2.2 k h1 h3).trans (h.2 k h1 h3)⟩
theorem zEF.x {a b : ww_M} (h : zEF a b) : zXM a b := ⟨fun n h1 h2 => h.1 n (fun e => by rw [e] at h1; exact absurd h1 (by decide)) (fun e => by rw [e] at h1; exact absurd h1 (by decide)) h2, h.1 _ (by decide) (by decide) (by decide), fun k hk => h.2 k (by omega) (by omega)⟩
/-- only the row changes -/
def zPF (τ τ' : ww_M) : Prop := (∀ n : ww_N, n ≠ (46, 0) → n ≠ (30, 0) → τ' n = τ n) ∧ ∀ k, k ≠ 28 → τ' (30, 0) k = τ (30, 0) k
theorem zPF.rf (τ : ww_M) : zPF τ τ := ⟨fun _ _ _ => rfl, fun _ _ => rfl⟩
theorem zPF.tr {a b c : ww_M} (h : zPF a b) (h2 : zPF b c) : zPF a c := ⟨fun n h1 h3 => (h2.1 n h1 h3).trans (h.1 n h1 h3), fun k h1 => (h2.2 k h1).trans (h.2 k h1)⟩
theorem zPF.e {a b : ww_M} (h : zPF a b) : zEF a b := ⟨fun n _ h2 h3 => h.1 n h2 h3, fun k h1 _ => h.2 k h1⟩
theorem t_put {row : List Nat} {a : Nat} (h : zLw τ row) (ha : a < 8) : ww_T l g mX6_put [.inr (.inr (30, 0)), .inl (nI a)] τ (ww_QV (fun τ' => zLw τ' (zput row a) ∧ zPF τ τ')) := by
  have h61 := h.1
  refine b_X6_put (fun E => ?_)
  rw [h.2.1, zle (by omega) (by omega)]
  refine ⟨fun c => ?_, fun c => ⟨row.length, rfl, by omega, fun τ2 e2 τ3 e3 => ?_⟩⟩
  · have e : zput row a = row := by unfold zput; rw [if_neg (by omega)]
    rw [e]; exact ⟨h, zPF.rf τ⟩
  · have e : zput row a = row ++ [a] := by unfold zput; rw [if_pos (by omega)]
    rw [e]
    have q : τ2 (30, 0) 28 = nI row.length := by rw [e2, ww_up_n (by simp)]; exact h.2.1
    rw [q, zadd] at e3
    refine ⟨⟨by rw [List.length_append]; show row.length + 1 ≤ 61; omega, by rw [e3, ww_up_s, List.length_append]; rfl, fun k hk => ?_, zok_app h.2.2.2 (fun x hx => by rw [List.mem_singleton.mp hx]; exact ha)⟩, fun n n1 n2 => by rw [e3, ww_up_f n2, e2, ww_up_f n1], fun k hk => by rw [e3, ww_up_k hk, e2, ww_up_n (by simp)]⟩
    rw [List.length_append, List.length_singleton] at hk
    rw [e3, ww_up_n (by simp), e2]
    by_cases c2 : k = row.length
    · subst c2; rw [ww_up_s, zat_app_e]
    · rw [ww_up_k c2, zat_app_l (by omega), h.2.2.1 k (by omega)]
theorem t_repeat {row : List Nat} {fr t : Nat} (h : zLw τ row) (hf : fr ≤ row.length) (ht : 0 < t) (ht9 : t ≤ 9) : ww_T l g mX6_repeat [.inr (.inr (30, 0)), .inl (nI fr), .inl (nI t)] τ (ww_QV (fun τ' => zLw τ' (zputs row (zreps (t - 1) (row.drop fr))) ∧ zPF τ τ')) := by
  have h61 := h.1
  have lx : (row.drop fr).length = row.length - fr := List.length_drop ..
  have ox : zok (row.drop fr) := zok_dropn h.2.2.2 fr
  have ax : ∀ k, zat (row.drop fr) k = zat row (fr + k) := fun k => zat_drop row fr k
  have ly := zreps_len (row.drop fr) (t - 1)
  have oy := zreps_ok ox (t - 1)
  have hbd : (t - 1) * (row.length - fr) ≤ 8 * 61 := Nat.mul_le_mul (by omega) (by omega)
  have ay := zreps_at (xs := row.drop fr) (t - 1)
  rw [lx] at ly ay
  refine b_X6_repeat (fun E => ?_)
  rw [h.2.1, zsub hf]
  generalize zreps (t - 1) (row.drop fr) = ys at *
  have loop : ∀ (n k : Nat) (σ : ww_M), k + n = ys.length → zLw σ (zputs row (ys.take k)) → zPF τ σ → ww_W g mX6_repeat E (ww_QV (fun τ' => zLw τ' (zputs row ys) ∧ zPF τ τ')) 10 [some (.inr (.inr (30, 0))), some (.inl (nI fr)), some (.inl (nI t)), some (.inl (nI (row.length - fr))), some (.inl (nI k))] [] σ := by
    intro n
    induction n with
    | zero =>
      intro k σ hk hh hp
      rw [List.take_of_length_le (by omega)] at hh
      refine b_X6_repeat_10 ⟨fun _ => ⟨hh, hp⟩, fun c => ?_⟩
      rw [zsub (by omega), zmul, Nat.mul_comm, ← ly, zle (by omega) (by omega)] at c; omega
    | succ n ih =>
      intro k σ hk hh hp
      have hk2 : k < (t - 1) * (row.length - fr) := by omega
      have hpos : 0 < row.length - fr := by
        rcases Nat.eq_zero_or_pos (row.length - fr) with q | q
        · rw [q, Nat.mul_zero] at hk2; omega
        · exact q
      have hmod : k % (row.length - fr) < row.length - fr := Nat.mod_lt _ hpos
      have e1 : zat ys k = zat row (fr + k % (row.length - fr)) := by rw [ay k hk2, ax]
      have hge := zputs_ge (ys.take k) row
      refine b_X6_repeat_10 ⟨fun c => ?_, fun _ => ⟨by rw [zeq (by omega) (by omega)]; omega, fr + k % (row.length - fr), by rw [pk_rem (by omega) (by omega) (by omega), zadd], by omega, ?_⟩⟩
      · rw [zsub (by omega), zmul, Nat.mul_comm, ← ly, zle (by omega) (by omega)] at c; omega
      · rw [hh.2.2.1 _ (by omega), zputs_at _ (by omega), ← e1]
        refine ⟨_, t_put hh (zat_lt oy (by omega)), ?_⟩
        rintro τ4 ⟨k4, f4⟩
        rw [zadd]
        refine ih (k + 1) τ4 (by omega) ?_ (hp.tr f4)
        rw [ztake_succ (by omega), zputs_app]
        exact k4
  exact loop ys.length 0 τ (by omega) h (zPF.rf τ)
/-- the row, the open brackets, and where the last factor began -/
def zTs (τ : ww_M) (st : zSt) (j : Bool) (x2 : Int32) : Prop := zLw τ st.1 ∧ st.2.2.length ≤ 4 ∧ (∀ i, i < st.2.2.length → τ (45, 0) (i + 1) = nI (zat st.2.2 i) ∧ zat st.2.2 i ≤ st.1.length) ∧ (j = true → x2 = nI st.2.1 ∧ st.2.1 ≤ st.1.length)
theorem zat_dl {xs : List Nat} {i : Nat} (h : i < xs.dropLast.length) : zat xs.dropLast i = zat xs i := zat_dropLast (by rw [List.length_dropLast] at h; exact h)
theorem t_tellLoop {ts : List Nat} (E : ww_E) (hT : zMt τ ts) (h100 : ts.length ≤ 100) (h128 : ∀ x ∈ ts, x < 128) (p0 : Nat) (st0 : zSt) (w0 : Bool) : ∀ (n k d : Nat) (f j w : Bool) (st : zSt) (x2 : Int32) (σ : ww_M), k + n = ts.length → 59 ∈ ts.drop k → zsyn (ts.drop k) k d f j w = none → st.2.2.length = d → zTs σ st j x2 → σ (30, 0) 29 = nI k → zEF τ σ → (∀ (most : Nat) (rel : Bool) (b : Nat) (ws : List (List Nat)), zread most rel (ts.drop k) k (some b) st ws = zread most rel (ts.drop p0) p0 (some b) st0 ws) → ww_W g mX6_tellWord E (ww_QV (fun τ' => ∃ (k2 : Nat) (st2 : zSt), k2 < ts.length ∧ zsyn (ts.drop (k2 + 1)) (k2 + 1) 0 false false true = none ∧ zLw τ' st2.1 ∧ τ' (30, 0) 29 = nI (k2 + 1) ∧ zEF τ τ' ∧ k ≤ k2 ∧ (ts.drop k).count 59 = (ts.drop (k2 + 1)).count 59 + 1 ∧ (∀ (most : Nat) (rel : Bool) (b : Nat) (ws : List (List Nat)), zread most rel (ts.drop p0) p0 (some b) st0 ws = if ztakeB most rel st2.1 ws.length = true then zread most rel (ts.drop (k2 + 1)) (k2 + 1) none st2 (ws ++ [zword rel st2.1]) else (some b, ws)))) 9 [some (.inr (.inr (30, 0))), some (.inl (nI d)), some (.inl x2), none] [] σ := by
  intro n
  induction n with
  | zero =>
    intro k d f j w st x2 σ hk hm
    rw [List.drop_eq_nil_of_le (by omega)] at hm
    exact absurd hm List.not_mem_nil
  | succ n ih =>
    intro k d f j w st x2 σ hk hm hs hd hts h29 hf hrd
    have hk1 : k < ts.length := by omega
    rw [zdrop_cons hk1] at hm hs hrd
    have hc := zat_all h128 hk1
    have h44 : σ (44, 0) k = nI (zat ts k) := by rw [hf.1 _ (by decide) (by decide) (by decide)]; exact hT.2 k hk1
    obtain ⟨q, hq, hs2⟩ := zsyn_cons hs
    have hct : (ts.drop k).count 59 = (ts.drop (k + 1)).count 59 + if zat ts k = 59 then 1 else 0 := by
      rw [zdrop_cons hk1, List.count_cons]
      by_cases c : zat ts k = 59
      · rw [if_pos c, c]; simp
      · rw [if_neg c]; simp [c]
    generalize hcc : zat ts k = c at *
    obtain ⟨t1, t2, t3, t4⟩ := hts
    by_cases c59 : c = 59
    · subst c59
      obtain ⟨d0, q0⟩ := zstep_59 hq
      subst q0
      refine b_X6_tellWord_9 ⟨k, h29, by omega, fun _ τ2 e2 => ?_, fun x => by rw [h44] at x; exact absurd rfl x⟩
      rw [h29, zadd] at e2
      refine ⟨k, st, hk1, by simpa using hs2, ⟨t1.1, by rw [e2, ww_up_k (by decide)]; exact t1.2.1, fun i hi => by rw [e2, ww_up_n (by simp)]; exact t1.2.2.1 i hi, t1.2.2.2⟩, by rw [e2, ww_up_s], hf.tr ⟨fun n _ _ n3 => by rw [e2, ww_up_f n3], fun i _ i2 => by rw [e2, ww_up_k i2]⟩, Nat.le_refl _, by rw [hct, if_pos rfl], fun most rel b ws => ?_⟩
      rw [← hrd]
      rw [zread]
      simp
    · have hm2 : 59 ∈ ts.drop (k + 1) := by
        rcases List.mem_cons.mp hm with e | e
        · exact absurd e.symm c59
        · exact e
      rw [if_neg c59, Nat.add_zero] at hct
      have hrd2 : ∀ (most : Nat) (rel : Bool) (b : Nat) (ws : List (List Nat)), zread most rel (ts.drop (k + 1)) (k + 1) (some b) (zbyte c st) ws = zread most rel (ts.drop p0) p0 (some b) st0 ws := by
        intro most rel b ws
        rw [← hrd, zread]
        simp [c59]
      have next : ∀ (x2' : Int32) (σ' : ww_M), (zbyte c st).2.2.length = q.1 → zTs σ' (zbyte c st) q.2.2.1 x2' → σ' (30, 0) 29 = nI (k + 1) → zEF τ σ' → ww_W g mX6_tellWord E (ww_QV (fun τ' => ∃ (k2 : Nat) (st2 : zSt), k2 < ts.length ∧ zsyn (ts.drop (k2 + 1)) (k2 + 1) 0 false false true = none ∧ zLw τ' st2.1 ∧ τ' (30, 0) 29 = nI (k2 + 1) ∧ zEF τ τ' ∧ k ≤ k2 ∧ (ts.drop k).count 59 = (ts.drop (k2 + 1)).count 59 + 1 ∧ (∀ (most : Nat) (rel : Bool) (b : Nat) (ws : List (List Nat)), zread most rel (ts.drop p0) p0 (some b) st0 ws = if ztakeB most rel st2.1 ws.length = true then zread most rel (ts.drop (k2 + 1)) (k2 + 1) none st2 (ws ++ [zword rel st2.1]) else (some b, ws)))) 9 [some (.inr (.inr (30, 0))), some (.inl (nI q.1)), some (.inl x2'), none] [] σ' := by
        intro x2' σ' a1 a2 a3 a4
        have := ih (k + 1) q.1 q.2.1 q.2.2.1 (w || q.2.2.2) (zbyte c st) x2' σ' (by omega) hm2 hs2 a1 a2 a3 a4 hrd2
        sorry
      sorry
end MTELL
