/-! ===== the model: words told ===== -/
theorem zputs_at : ∀ (xs : List Nat) {row : List Nat} {i : Nat}, i < row.length → zat (zputs row xs) i = zat row i
  | [], _, _, _ => rfl
  | x :: xs, row, i, h => by
    rw [zputs_cons, zputs_at xs (by have := zput_ge row x; omega), zput_at h]
theorem zputs_le : ∀ (xs : List Nat) {row : List Nat}, row.length ≤ 61 → (zputs row xs).length ≤ 61
  | [], _, h => h
  | x :: xs, row, h => by rw [zputs_cons]; exact zputs_le xs (zput_le h x)
theorem zreps_len (xs : List Nat) : ∀ n, (zreps n xs).length = n * xs.length
  | 0 => by rw [Nat.zero_mul]; rfl
  | n + 1 => by rw [zreps_succ, List.length_append, zreps_len xs n, Nat.succ_mul]; omega
theorem zat_app_r {xs ys : List Nat} {k : Nat} (h : xs.length ≤ k) : zat (xs ++ ys) k = zat ys (k - xs.length) := by
  unfold zat
  rw [List.getD_eq_getElem?_getD, List.getD_eq_getElem?_getD, List.getElem?_append_right h]
theorem zreps_at {xs : List Nat} : ∀ (n k : Nat), k < n * xs.length → zat (zreps n xs) k = zat xs (k % xs.length)
  | 0, k, h => by omega
  | n + 1, k, h => by
    rw [zreps_succ]
    by_cases c : k < xs.length
    · rw [zat_app_l c, Nat.mod_eq_of_lt c]
    · rw [Nat.succ_mul] at h
      rw [zat_app_r (by omega), zreps_at n _ (by omega), Nat.mod_eq_sub_mod (a := k) (by omega)]
section MTELL
variable {l : Launch} {g : ww_G} {τ : ww_M} {s : zS}
/-- the row of letters as they are told -/
def zLw (τ : ww_M) (row : List Nat) : Prop := row.length ≤ 61 ∧ τ (30, 0) 28 = nI row.length ∧ (∀ k, k < row.length → τ (46, 0) k = nI (zat row k)) ∧ zok row
def zEF (τ τ' : ww_M) : Prop := (∀ n : ww_N, n ≠ (45, 0) → n ≠ (46, 0) → n ≠ (30, 0) → τ' n = τ n) ∧ ∀ k, k ≠ 28 → k ≠ 29 → τ' (30, 0) k = τ (30, 0) k
theorem zEF.rf (τ : ww_M) : zEF τ τ := ⟨fun _ _ _ _ => rfl, fun _ _ _ => rfl⟩
theorem zEF.tr {a b c : ww_M} (h : zEF a b) (h2 : zEF b c) : zEF a c := ⟨fun n h1 h3 h4 => (h2.1 n h1 h3 h4).trans (h.1 n h1 h3 h4), fun k h1 h3 => (h2.2 k h1 h3).trans (h.2 k h1 h3)⟩
theorem zEF.x {a b : ww_M} (h : zEF a b) : zXM a b := ⟨fun n h1 h2 => h.1 n (fun e => by rw [e] at h1; exact absurd h1 (by decide)) (fun e => by rw [e] at h1; exact absurd h1 (by decide)) h2, h.1 _ (by decide) (by decide) (by decide), fun k hk => h.2 k (by omega) (by omega)⟩
/-- only the row changes -/
def zPF (τ τ' : ww_M) : Prop := (∀ n : ww_N, n ≠ (46, 0) → n ≠ (30, 0) → τ' n = τ n) ∧ ∀ k, k ≠ 28 → τ' (30, 0) k = τ (30, 0) k
theorem zPF.rf (τ : ww_M) : zPF τ τ := ⟨fun _ _ _ => rfl, fun _ _ => rfl⟩
theorem zPF.tr {a b c : ww_M} (h : zPF a b) (h2 : zPF b c) : zPF a c := ⟨fun n h1 h3 => (h2.1 n h1 h3).trans (h.1 n h1 h3), fun k h1 => (h2.2 k h1).trans (h.2 k h1)⟩
theorem zPF.e {a b : ww_M} (h : zPF a b) : zEF a b := ⟨fun n _ h2 h3 => h.1 n h2 h3, fun k h1 _ => h.2 k h1⟩
theorem t_put {row : List Nat} {a : Nat} (h : zLw τ row) (ha : a < 8) : ww_T l g mX6_put [.inr (.inr (30, 0)), .inl (nI a)] τ (ww_QV (fun τ' => zLw τ' (zput row a) ∧ zPF τ τ')) := by
  have h61 := h.1
  refine b_X6_put (fun E => ?_)
  rw [h.2.1, zle (by omega) (by omega)]
  refine ⟨fun c => ?_, fun c => ⟨row.length, rfl, by omega, fun τ2 e2 τ3 e3 => ?_⟩⟩
  · have e : zput row a = row := by unfold zput; rw [if_neg (by omega)]
    rw [e]; exact ⟨h, zPF.rf τ⟩
  · have e : zput row a = row ++ [a] := by unfold zput; rw [if_pos (by omega)]
    rw [e]
    have q : τ2 (30, 0) 28 = nI row.length := by rw [e2, ww_up_n (by simp)]; exact h.2.1
    rw [q, zadd] at e3
    refine ⟨⟨by rw [List.length_append]; show row.length + 1 ≤ 61; omega, by rw [e3, ww_up_s, List.length_append]; rfl, fun k hk => ?_, zok_app h.2.2.2 (fun x hx => by rw [List.mem_singleton.mp hx]; exact ha)⟩, fun n n1 n2 => by rw [e3, ww_up_f n2, e2, ww_up_f n1], fun k hk => by rw [e3, ww_up_k hk, e2, ww_up_n (by simp)]⟩
    rw [List.length_append, List.length_singleton] at hk
    rw [e3, ww_up_n (by simp), e2]
    by_cases c2 : k = row.length
    · subst c2; rw [ww_up_s, zat_app_e]
    · rw [ww_up_k c2, zat_app_l (by omega), h.2.2.1 k (by omega)]
theorem t_repeat {row : List Nat} {fr t : Nat} (h : zLw τ row) (hf : fr ≤ row.length) (ht : 0 < t) (ht9 : t ≤ 9) : ww_T l g mX6_repeat [.inr (.inr (30, 0)), .inl (nI fr), .inl (nI t)] τ (ww_QV (fun τ' => zLw τ' (zputs row (zreps (t - 1) (row.drop fr))) ∧ zPF τ τ')) := by
  have h61 := h.1
  have lx : (row.drop fr).length = row.length - fr := List.length_drop ..
  have ox : zok (row.drop fr) := zok_dropn h.2.2.2 fr
  have ax : ∀ k, zat (row.drop fr) k = zat row (fr + k) := fun k => zat_drop row fr k
  have ly := zreps_len (row.drop fr) (t - 1)
  have oy := zreps_ok ox (t - 1)
  have hbd : (t - 1) * (row.length - fr) ≤ 8 * 61 := Nat.mul_le_mul (by omega) (by omega)
  have ay := zreps_at (xs := row.drop fr) (t - 1)
  rw [lx] at ly ay
  refine b_X6_repeat (fun E => ?_)
  rw [h.2.1, zsub hf]
  generalize zreps (t - 1) (row.drop fr) = ys at *
  have loop : ∀ (n k : Nat) (σ : ww_M), k + n = ys.length → zLw σ (zputs row (ys.take k)) → zPF τ σ → ww_W g mX6_repeat E (ww_QV (fun τ' => zLw τ' (zputs row ys) ∧ zPF τ τ')) 10 [some (.inr (.inr (30, 0))), some (.inl (nI fr)), some (.inl (nI t)), some (.inl (nI (row.length - fr))), some (.inl (nI k))] [] σ := by
    intro n
    induction n with
    | zero =>
      intro k σ hk hh hp
      rw [List.take_of_length_le (by omega)] at hh
      refine b_X6_repeat_10 ⟨fun _ => ⟨hh, hp⟩, fun c => ?_⟩
      rw [zsub (by omega), zmul, Nat.mul_comm, ← ly, zle (by omega) (by omega)] at c; omega
    | succ n ih =>
      intro k σ hk hh hp
      have hk2 : k < (t - 1) * (row.length - fr) := by omega
      have hpos : 0 < row.length - fr := by
        rcases Nat.eq_zero_or_pos (row.length - fr) with q | q
        · rw [q, Nat.mul_zero] at hk2; omega
        · exact q
      have hmod : k % (row.length - fr) < row.length - fr := Nat.mod_lt _ hpos
      have e1 : zat ys k = zat row (fr + k % (row.length - fr)) := by rw [ay k hk2, ax]
      have hge := zputs_ge (ys.take k) row
      refine b_X6_repeat_10 ⟨fun c => ?_, fun _ => ⟨by rw [zeq (by omega) (by omega)]; omega, fr + k % (row.length - fr), by rw [pk_rem (by omega) (by omega) (by omega), zadd], by omega, ?_⟩⟩
      · rw [zsub (by omega), zmul, Nat.mul_comm, ← ly, zle (by omega) (by omega)] at c; omega
      · rw [hh.2.2.1 _ (by omega), zputs_at _ (by omega), ← e1]
        refine ⟨_, t_put hh (zat_lt oy (by omega)), ?_⟩
        rintro τ4 ⟨k4, f4⟩
        rw [zadd]
        refine ih (k + 1) τ4 (by omega) ?_ (hp.tr f4)
        rw [ztake_succ (by omega), zputs_app]
        exact k4
  exact loop ys.length 0 τ (by omega) h (zPF.rf τ)
/-- the row, the open brackets, and where the last factor began -/
def zTs (τ : ww_M) (st : zSt) (j : Bool) (x2 : Int32) : Prop := zLw τ st.1 ∧ st.2.2.length ≤ 4 ∧ (∀ i, i < st.2.2.length → τ (45, 0) (i + 1) = nI (zat st.2.2 i) ∧ zat st.2.2 i ≤ st.1.length) ∧ (j = true → x2 = nI st.2.1 ∧ st.2.1 ≤ st.1.length)
theorem zat_dl {xs : List Nat} {i : Nat} (h : i < xs.dropLast.length) : zat xs.dropLast i = zat xs i := zat_dropLast (by rw [List.length_dropLast] at h; exact h)
def zTP (τ : ww_M) (ts : List Nat) (p0 : Nat) (st0 : zSt) (C : Nat) (τ' : ww_M) : Prop := ∃ (k2 : Nat) (st2 : zSt), k2 < ts.length ∧ zsyn (ts.drop (k2 + 1)) (k2 + 1) 0 false false true = none ∧ zLw τ' st2.1 ∧ τ' (30, 0) 29 = nI (k2 + 1) ∧ zEF τ τ' ∧ C = (ts.drop (k2 + 1)).count 59 + 1 ∧ (∀ (most : Nat) (rel : Bool) (b : Nat) (ws : List (List Nat)), zread most rel (ts.drop p0) p0 (some b) st0 ws = if ztakeB most rel st2.1 ws.length = true then zread most rel (ts.drop (k2 + 1)) (k2 + 1) none st2 (ws ++ [zword rel st2.1]) else (some b, ws))
theorem zEF.up {k : Nat} {v : Int32} (h : k = 28 ∨ k = 29) : zEF τ (ww_up τ (30, 0) k v) := ⟨fun n _ _ n3 => ww_up_f n3, fun i i1 i2 => ww_up_k (by omega)⟩
theorem zLw.up {row : List Nat} {v : Int32} (h : zLw τ row) : zLw (ww_up τ (30, 0) 29 v) row := ⟨h.1, by rw [ww_up_k (by decide)]; exact h.2.1, fun i hi => by rw [ww_up_n (by simp)]; exact h.2.2.1 i hi, h.2.2.2⟩
theorem t_tellLoop {ts : List Nat} (E : ww_E) (hT : zMt τ ts) (h100 : ts.length ≤ 100) (h128 : ∀ x ∈ ts, x < 128) (p0 : Nat) (st0 : zSt) (C : Nat) : ∀ (n k d : Nat) (f j w : Bool) (st : zSt) (x2 : Int32) (σ : ww_M), k + n = ts.length → 59 ∈ ts.drop k → zsyn (ts.drop k) k d f j w = none → st.2.2.length = d → zTs σ st j x2 → σ (30, 0) 29 = nI k → zEF τ σ → C = (ts.drop k).count 59 → (∀ (most : Nat) (rel : Bool) (b : Nat) (ws : List (List Nat)), zread most rel (ts.drop k) k (some b) st ws = zread most rel (ts.drop p0) p0 (some b) st0 ws) → ww_W g mX6_tellWord E (ww_QV (zTP τ ts p0 st0 C)) 9 [some (.inr (.inr (30, 0))), some (.inl (nI d)), some (.inl x2), none] [] σ := by
  intro n
  induction n with
  | zero =>
    intro k d f j w st x2 σ hk hm
    rw [List.drop_eq_nil_of_le (by omega)] at hm
    exact absurd hm List.not_mem_nil
  | succ n ih =>
    intro k d f j w st x2 σ hk hm hs hd hts h29 hf hC hrd
    have hk1 : k < ts.length := by omega
    have hct : (ts.drop k).count 59 = (ts.drop (k + 1)).count 59 + if zat ts k = 59 then 1 else 0 := by
      rw [zdrop_cons hk1, List.count_cons]
      by_cases c : zat ts k = 59
      · rw [if_pos c, c]; simp
      · rw [if_neg c]; simp [c]
    rw [hct] at hC
    rw [zdrop_cons hk1] at hm hs hrd
    have hc := zat_all h128 hk1
    have h44 : σ (44, 0) k = nI (zat ts k) := by rw [hf.1 _ (by decide) (by decide) (by decide)]; exact hT.2 k hk1
    obtain ⟨q, hq, hs2⟩ := zsyn_cons hs
    clear hct
    generalize hcc : zat ts k = c at *
    obtain ⟨t1, t2, t3, t4⟩ := hts
    by_cases c59 : c = 59
    · subst c59
      obtain ⟨d0, q0⟩ := zstep_59 hq
      subst q0
      refine b_X6_tellWord_9 ⟨k, h29, by omega, fun _ τ2 e2 => ?_, fun x => by rw [h44] at x; exact absurd rfl x⟩
      rw [h29, zadd] at e2
      subst e2
      refine ⟨k, st, hk1, by simpa using hs2, t1.up, ww_up_s _ _ _ _, hf.tr (zEF.up (by omega)), by rw [hC, if_pos rfl], fun most rel b ws => ?_⟩
      rw [← hrd]
      rw [zread]
      simp
    · have hm2 : 59 ∈ ts.drop (k + 1) := by
        rcases List.mem_cons.mp hm with e | e
        · exact absurd e.symm c59
        · exact e
      rw [if_neg c59, Nat.add_zero] at hC
      have hrd2 : ∀ (most : Nat) (rel : Bool) (b : Nat) (ws : List (List Nat)), zread most rel (ts.drop (k + 1)) (k + 1) (some b) (zbyte c st) ws = zread most rel (ts.drop p0) p0 (some b) st0 ws := by
        intro most rel b ws
        rw [← hrd, zread]
        simp [c59]
      have next : ∀ (x2' : Int32) (σ' : ww_M), (zbyte c st).2.2.length = q.1 → zTs σ' (zbyte c st) q.2.2.1 x2' → σ' (30, 0) 29 = nI (k + 1) → zEF τ σ' → ww_W g mX6_tellWord E (ww_QV (zTP τ ts p0 st0 C)) 9 [some (.inr (.inr (30, 0))), some (.inl (nI q.1)), some (.inl x2'), none] [] σ' := fun x2' σ' a1 a2 a3 a4 => ih (k + 1) q.1 q.2.1 q.2.2.1 (w || q.2.2.2) (zbyte c st) x2' σ' (by omega) hm2 hs2 a1 a2 a3 a4 hC hrd2
      clear ih hrd hrd2
      have hkeep : ∀ (σ' : ww_M) (row : List Nat), zPF σ σ' → st.1.length ≤ row.length → ∀ i, i < st.2.2.length → (ww_up σ' (30, 0) 29 (nI (k + 1))) (45, 0) (i + 1) = nI (zat st.2.2 i) ∧ zat st.2.2 i ≤ row.length := fun σ' row hp hl i hi => ⟨by rw [ww_up_n (by simp), hp.1 _ (by decide) (by decide)]; exact (t3 i hi).1, by have := (t3 i hi).2; omega⟩
      refine b_X6_tellWord_9 ⟨k, h29, by omega, fun x => by rw [h44, zeq (by omega) (by omega)] at x; exact absurd x c59, fun _ => ⟨k, h29, by omega, ?_⟩⟩
      rw [h44, zeq (by omega) (by omega)]
      refine ⟨fun n40 => ⟨_, t_isBlank hc, ?_⟩, fun e40 => ?_⟩
      · rintro v5 τ6 ⟨rfl, rfl⟩
        rw [zb_0]
        refine ⟨fun n32 => ⟨_, t_inC hc (by omega) (by omega), ?_⟩, fun e32 τ21 e21 => ?_⟩
        · have n32 : ¬ c = 32 := by simpa using n32
          rintro v8 τ9 ⟨rfl, rfl⟩
          rw [zb_0]
          refine ⟨fun nfig => ?_, fun efig => ?_⟩
          · have nfig : ¬ 0 < zfig c := by rw [zfig_iff]; simpa using nfig
            rw [zeq (by omega) (by omega)]
            refine ⟨fun n41 => ⟨_, t_letterBy hc, ?_⟩, fun e41 => ?_⟩
            · have hl : zlet c < 8 := by
                unfold zstep at hq
                rw [if_neg n32, if_neg nfig] at hq
                by_cases hl : zlet c < 8
                · exact hl
                · rw [if_neg hl, if_neg n40, if_neg n41, if_neg c59] at hq; cases hq
              have eq : q = (d, true, true, false) := by
                unfold zstep at hq
                rw [if_neg n32, if_neg nfig, if_pos hl] at hq
                exact (Option.some.inj hq).symm
              have eb : zbyte c st = (zput st.1 (zlet c), st.1.length, st.2.2) := by unfold zbyte; rw [if_pos hl]
              rintro v11 τ12 ⟨rfl, rfl⟩
              rw [if_pos hl]
              refine ⟨_, t_put t1 hl, ?_⟩
              rintro τ14 ⟨k14, f14⟩ τ15 e15
              rw [f14.2 _ (by decide), h29, zadd] at e15
              subst e15
              rw [eb, eq] at next
              rw [t1.2.1]
              have hge := zput_ge st.1 (zlet c)
              exact next _ _ hd ⟨k14.up, t2, hkeep τ14 _ f14 hge, fun _ => ⟨rfl, hge⟩⟩ (ww_up_s _ _ _ _) (hf.tr (f14.e.tr (zEF.up (by omega))))
            · have eq : q = (d - 1, true, true, false) ∧ 0 < d := by
                unfold zstep at hq
                rw [if_neg n32, if_neg nfig, if_neg (by intro h; exact (zlet_not h).2.2.2.1 e41), if_neg n40, if_pos e41] at hq
                split at hq
                · rename_i h; exact ⟨(Option.some.inj hq).symm, h.1⟩
                · cases hq
              have eb : zbyte c st = (st.1, zat st.2.2 (st.2.2.length - 1), st.2.2.dropLast) := by
                unfold zbyte
                rw [if_neg (by intro h; exact (zlet_not h).2.2.2.1 e41), if_neg nfig, if_neg n40, if_pos e41]
              obtain ⟨eq, d0⟩ := eq
              rw [eb, eq] at next
              refine ⟨d, rfl, by omega, fun τ17 e17 => ?_⟩
              rw [h29, zadd] at e17
              subst e17
              have t3d := t3 (d - 1) (by omega)
              rw [show d - 1 + 1 = d by omega] at t3d
              rw [zm1 d0, t3d.1]
              refine next _ _ (by show st.2.2.dropLast.length = d - 1; rw [List.length_dropLast, hd]) ⟨t1.up, by show st.2.2.dropLast.length ≤ 4; rw [List.length_dropLast]; omega, fun i hi => ?_, fun _ => ⟨by rw [← hd], by rw [hd]; exact t3d.2⟩⟩ (ww_up_s _ _ _ _) (hf.tr (zEF.up (by omega)))
              have hi : i < st.2.2.dropLast.length := hi
              show _ = nI (zat st.2.2.dropLast i) ∧ zat st.2.2.dropLast i ≤ st.1.length
              rw [zat_dl hi]
              rw [List.length_dropLast] at hi
              exact hkeep σ st.1 (zPF.rf σ) (Nat.le_refl _) i (by omega)
          · have efig : 0 < zfig c := by rw [zfig_iff]; simpa using efig
            have z := zfig_not efig
            have hj : j = true ∧ q = (d, f, false, false) := by
              unfold zstep at hq
              rw [if_neg n32, if_pos efig] at hq
              split at hq
              · rename_i h; exact ⟨h, (Option.some.inj hq).symm⟩
              · cases hq
            obtain ⟨hj, eq⟩ := hj
            obtain ⟨ex2, hfr⟩ := t4 hj
            have eb : zbyte c st = (zputs st.1 (zreps (zfig c - 1) (st.1.drop st.2.1)), st.2.1, st.2.2) := by
              unfold zbyte
              rw [if_neg (by omega), if_pos efig]
            rw [eb, eq] at next
            have e48 : nI c - nI 48 = nI (zfig c) := by
              have := (zfig_iff c).mp efig
              rw [zsub (by omega)]
              unfold zfig
              rw [if_pos this]
            rw [e48, ex2]
            refine ⟨_, t_repeat t1 hfr efig (by omega), ?_⟩
            rintro τ19 ⟨k19, f19⟩ τ20 e20
            rw [f19.2 _ (by decide), h29, zadd] at e20
            subst e20
            exact next _ _ hd ⟨k19.up, t2, hkeep τ19 _ f19 (zputs_ge _ _), fun h => by cases h⟩ (ww_up_s _ _ _ _) (hf.tr (f19.e.tr (zEF.up (by omega))))
        · have e32 : c = 32 := by simpa using e32
          subst e32
          have eq := zstep_32 hq
          have eb : zbyte 32 st = st := by unfold zbyte; rw [if_neg (by decide), if_neg (by decide), if_neg (by decide), if_neg (by decide)]
          rw [eb, eq] at next
          rw [h29, zadd] at e21
          subst e21
          exact next _ _ hd ⟨t1.up, t2, hkeep σ st.1 (zPF.rf σ) (Nat.le_refl _), fun h => by cases h⟩ (ww_up_s _ _ _ _) (hf.tr (zEF.up (by omega)))
      · have nl : ¬ zlet c < 8 := by intro h; exact (zlet_not h).2.2.1 e40
        have nfig : ¬ 0 < zfig c := fun h => (zfig_not h).2.2.1 e40
        have eq : d < 4 ∧ q = (d + 1, false, false, false) := by
          unfold zstep at hq
          rw [if_neg (by omega), if_neg nfig, if_neg nl, if_pos e40] at hq
          split at hq
          · rename_i h; exact ⟨h, (Option.some.inj hq).symm⟩
          · cases hq
        obtain ⟨d4, eq⟩ := eq
        have eb : zbyte c st = (st.1, st.2.1, st.2.2 ++ [st.1.length]) := by
          unfold zbyte
          rw [if_neg nl, if_neg nfig, if_pos e40]
        rw [eb, eq] at next
        refine ⟨d + 1, by rw [zadd], by omega, fun τ23 e23 τ24 e24 => ?_⟩
        rw [t1.2.1] at e23
        have h29' : τ23 (30, 0) 29 = nI k := by rw [e23, ww_up_n (by simp)]; exact h29
        rw [h29', zadd] at e24
        subst e24
        rw [zadd]
        refine next _ _ (by show (st.2.2 ++ [st.1.length]).length = d + 1; rw [List.length_append, hd]; rfl) ⟨?_, by show (st.2.2 ++ [st.1.length]).length ≤ 4; rw [List.length_append, hd]; show d + 1 ≤ 4; omega, fun i hi => ?_, fun h => by cases h⟩ (ww_up_s _ _ _ _) (hf.tr ?_)
        · subst e23
          exact (show zLw (ww_up σ (45, 0) (d + 1) (nI st.1.length)) st.1 from ⟨t1.1, by rw [ww_up_n (by simp)]; exact t1.2.1, fun i hi => by rw [ww_up_n (by simp)]; exact t1.2.2.1 i hi, t1.2.2.2⟩).up
        · have hi : i < (st.2.2 ++ [st.1.length]).length := hi
          rw [List.length_append, List.length_singleton, hd] at hi
          show (ww_up τ23 (30, 0) 29 (nI (k + 1))) (45, 0) (i + 1) = nI (zat (st.2.2 ++ [st.1.length]) i) ∧ zat (st.2.2 ++ [st.1.length]) i ≤ st.1.length
          rw [ww_up_n (by simp), e23]
          by_cases e : i = d
          · rw [e, ww_up_s, ← hd, zat_app_e]; exact ⟨rfl, Nat.le_refl _⟩
          · rw [ww_up_k (by omega), zat_app_l (by omega)]; exact t3 i (by omega)
        · rw [e23]
          exact ⟨fun n n1 n2 n3 => by rw [ww_up_f n3, ww_up_f n1], fun i i1 i2 => by rw [ww_up_k i2, ww_up_n (by simp)]⟩
theorem t_tellWord {ts : List Nat} {p0 : Nat} {w : Bool} (hT : zMt τ ts) (h100 : ts.length ≤ 100) (h128 : ∀ x ∈ ts, x < 128) (hp : p0 ≤ ts.length) (hm : 59 ∈ ts.drop p0) (hs : zsyn (ts.drop p0) p0 0 false false w = none) (h29 : τ (30, 0) 29 = nI p0) : ww_T l g mX6_tellWord [.inr (.inr (30, 0))] τ (ww_QV (zTP τ ts p0 ([], 0, []) ((ts.drop p0).count 59))) := by
  refine b_X6_tellWord (fun E τ1 e1 => ?_)
  subst e1
  refine t_tellLoop E hT h100 h128 p0 ([], 0, []) _ (ts.length - p0) p0 0 false false w ([], 0, []) (nI 0) _ (by omega) hm hs rfl ⟨⟨Nat.zero_le _, ww_up_s _ _ _ _, fun i hi => absurd hi (Nat.not_lt_zero _), zok_nil⟩, Nat.zero_le _, fun i hi => absurd hi (Nat.not_lt_zero _), fun h => by cases h⟩ (by rw [ww_up_k (by decide)]; exact h29) (zEF.up (by omega)) rfl (fun _ _ _ _ => rfl)
/-- blanks are skipped -/
theorem t_skip {ts : List Nat} {p : Nat} {w : Bool} (hT : zMt τ ts) (h100 : ts.length ≤ 100) (h128 : ∀ x ∈ ts, x < 128) (hp : p ≤ ts.length) (hm : 59 ∈ ts.drop p) (hs : zsyn (ts.drop p) p 0 false false w = none) (h29 : τ (30, 0) 29 = nI p) : ww_T l g mX6_skip [.inr (.inr (30, 0))] τ (ww_QV (fun τ' => ∃ p2, p2 ≤ ts.length ∧ τ' (30, 0) 29 = nI p2 ∧ 59 ∈ ts.drop p2 ∧ zsyn (ts.drop p2) p2 0 false false w = none ∧ (ts.drop p).count 59 = (ts.drop p2).count 59 ∧ zEF τ τ' ∧ ∀ (most : Nat) (rel : Bool) (st : zSt) (ws : List (List Nat)), zread most rel (ts.drop p) p none st ws = zread most rel (ts.drop p2) p2 (some p2) ([], 0, []) ws)) := by
  refine b_X6_skip (fun E => ?_)
  have loop : ∀ (n k : Nat) (σ : ww_M), k + n = ts.length → σ (30, 0) 29 = nI k → 59 ∈ ts.drop k → zsyn (ts.drop k) k 0 false false w = none → (ts.drop p).count 59 = (ts.drop k).count 59 → zEF τ σ → (∀ (most : Nat) (rel : Bool) (st : zSt) (ws : List (List Nat)), zread most rel (ts.drop p) p none st ws = zread most rel (ts.drop k) k none st ws) → ww_W g mX6_skip E (ww_QV (fun τ' => ∃ p2, p2 ≤ ts.length ∧ τ' (30, 0) 29 = nI p2 ∧ 59 ∈ ts.drop p2 ∧ zsyn (ts.drop p2) p2 0 false false w = none ∧ (ts.drop p).count 59 = (ts.drop p2).count 59 ∧ zEF τ τ' ∧ ∀ (most : Nat) (rel : Bool) (st : zSt) (ws : List (List Nat)), zread most rel (ts.drop p) p none st ws = zread most rel (ts.drop p2) p2 (some p2) ([], 0, []) ws)) 0 [some (.inr (.inr (30, 0)))] [] σ := by
    intro n
    induction n with
    | zero =>
      intro k σ hk _ hm
      rw [List.drop_eq_nil_of_le (by omega)] at hm
      exact absurd hm List.not_mem_nil
    | succ n ih =>
      intro k σ hk h29 hm hs hct hf hrd
      have hk1 : k < ts.length := by omega
      have hc := zat_all h128 hk1
      have h24 : σ (30, 0) 24 = nI ts.length := by rw [hf.2 _ (by decide) (by decide)]; exact hT.1
      have h44 : σ (44, 0) k = nI (zat ts k) := by rw [hf.1 _ (by decide) (by decide) (by decide)]; exact hT.2 k hk1
      refine b_X6_skip_0 ?_
      rw [h24, h29, zle (by omega) (by omega)]
      refine ⟨fun x => by omega, fun _ => ⟨k, rfl, by omega, ?_⟩⟩
      rw [h44]
      refine ⟨_, t_isBlank hc, ?_⟩
      rintro v3 τ4 ⟨rfl, rfl⟩
      rw [zb_0, h29, zadd]
      refine ⟨fun x => ?_, fun x τ5 e5 => ?_⟩
      · have x : ¬ zat ts k = 32 := by simpa using x
        refine ⟨k, by omega, rfl, hm, hs, hct, hf, fun most rel st ws => ?_⟩
        rw [hrd, zdrop_cons hk1, zread, zread]
        simp [x]
      · have x : zat ts k = 32 := by simpa using x
        subst e5
        rw [zdrop_cons hk1, x] at hm hs hct
        obtain ⟨q, hq, hs2⟩ := zsyn_cons hs
        rw [zstep_32 hq] at hs2
        refine ih (k + 1) _ (by omega) (ww_up_s _ _ _ _) ?_ (by simpa using hs2) (by rw [hct]; simp) (hf.tr (zEF.up (by omega))) (fun most rel st ws => ?_)
        · rcases List.mem_cons.mp hm with e | e
          · cases e
          · exact e
        · rw [hrd, zdrop_cons hk1, zread, x]
          have eb : zbyte 32 st = st := by unfold zbyte; rw [if_neg (by decide), if_neg (by decide), if_neg (by decide), if_neg (by decide)]
          simp [eb]
  exact loop (ts.length - p) p τ (by omega) h29 hm hs rfl (zEF.rf τ) (fun _ _ _ _ => rfl)
end MTELL
