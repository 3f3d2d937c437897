/-! ===== building the members: pure part ===== -/
abbrev zMB : Type := List (List Nat) × List Nat × List Nat
def zturn (x : List Nat) (t : Nat) : List Nat := x.drop t ++ x.take t
def zadd1 (r : Nat) (x : List Nat) (s : zMB) : zMB := if x ∈ s.1 then (s.1, s.2.1.set (s.1.idxOf x) (zat s.2.1 (s.1.idxOf x) ||| 2 ^ r), s.2.2) else (s.1 ++ [x], s.2.1 ++ [2 ^ r], s.2.2 ++ [r])
def zaddT (r : Nat) (x : List Nat) : Nat → zMB → zMB
  | 0, s => s
  | t + 1, s => zadd1 r (zturn x t) (zaddT r x t s)
def zbuild (rels : List (List Nat)) : Nat → zMB
  | 0 => ([], [], [])
  | r + 1 => zaddT r (zinv (zm rels r)) (zm rels r).length (zaddT r (zm rels r) (zm rels r).length (zbuild rels r))
theorem zturn_len {x : List Nat} {t : Nat} (h : t ≤ x.length) : (zturn x t).length = x.length := by
  unfold zturn; rw [List.length_append, List.length_drop, List.length_take]; omega
theorem zturn_ok {x : List Nat} (h : zok x) (t : Nat) : zok (zturn x t) := zok_app (zok_dropn h t) (zok_take h t)
theorem zadd1_len (r : Nat) (x : List Nat) (s : zMB) : (zadd1 r x s).1.length ≤ s.1.length + 1 := by
  unfold zadd1; split
  · exact Nat.le_succ _
  · show (s.1 ++ [x]).length ≤ _; rw [List.length_append]; exact Nat.le_refl _
theorem zaddT_len (r : Nat) (x : List Nat) : ∀ (t : Nat) (s : zMB), (zaddT r x t s).1.length ≤ s.1.length + t
  | 0, s => Nat.le_refl _
  | t + 1, s => by
    have := zaddT_len r x t s
    have := zadd1_len r (zturn x t) (zaddT r x t s)
    rw [zaddT]; omega
theorem zbit : ∀ b, b < 8 → ∀ r, r < 3 → (((nI b >>> (nI r &&& 31)) &&& nI 1 = nI 1) ↔ b.testBit r = true) := by decide
theorem zshl : ∀ r, r < 3 → nI 1 <<< (nI r &&& 31) = nI (2 ^ r) := by decide
theorem zor8 : ∀ a, a < 8 → ∀ b, b < 8 → nI a ||| nI b = nI (a ||| b) ∧ a ||| b < 8 := by decide
theorem zpow8 : ∀ r, r < 3 → 2 ^ r < 8 := by decide
/-- what the class holds while the members are listed -/
def zBd (τ : ww_M) (R : Nat → List Nat) (k : Nat) (s : zMB) : Prop := zMem τ R s.1 ∧ zStt τ s.1 ∧ τ (8, 0) 7 = nI (zshort s.1) ∧ s.2.1.length = s.1.length ∧ (∀ m, m < s.1.length → τ (13, 0) m = nI (zat s.2.1 m)) ∧ (∀ b ∈ s.2.1, b < 8) ∧ (∀ r, r < k → τ (11, 0) r = nI (s.2.2.count r))
def zMF (τ τ' : ww_M) : Prop := (∀ n : ww_N, n.1 ≠ 21 → n.1 ≠ 22 → n.1 ≠ 8 → n.1 ≠ 11 → n.1 ≠ 13 → n.1 ≠ 16 → n.1 ≠ 17 → τ' n = τ n) ∧ τ' (8, 0) 1 = τ (8, 0) 1
theorem zMF.rf (τ : ww_M) : zMF τ τ := ⟨fun _ _ _ _ _ _ _ _ => rfl, rfl⟩
theorem zMF.tr {a b c : ww_M} (h : zMF a b) (h2 : zMF b c) : zMF a c := ⟨fun n h1 h3 h4 h5 h6 h7 h8 => (h2.1 n h1 h3 h4 h5 h6 h7 h8).trans (h.1 n h1 h3 h4 h5 h6 h7 h8), h2.2.trans h.2⟩
theorem zNR.m {a b : ww_M} (h : zNR a b) : zMF a b := ⟨fun n h1 h2 _ _ _ _ _ => h n h1 h2, by rw [h (8, 0) (by decide) (by decide)]⟩
theorem zst_snoc {mem : List (List Nat)} {x : List Nat} (a : Nat) : zst (mem ++ [x]) a (mem ++ [x]).length = if zat x 0 = a then zst mem a mem.length ++ [mem.length] else zst mem a mem.length := by
  rw [List.length_append, List.length_singleton, zst, zm_app_e, zst_congr a mem.length (fun m hm => zm_app_l hm)]
theorem zidx_ne : ∀ (mem : List (List Nat)) (x : List Nat) (m : Nat), m < mem.idxOf x → m < mem.length → zm mem m ≠ x
  | [], x, m, _, h => by simp at h
  | y :: ys, x, 0, h, _ => by
    intro e
    have e : y = x := e
    rw [e, List.idxOf_cons] at h
    simp at h
  | y :: ys, x, m + 1, h, hl => by
    rw [List.idxOf_cons] at h
    have e : zm (y :: ys) (m + 1) = zm ys m := by unfold zm; rfl
    rw [e]
    refine zidx_ne ys x m ?_ (by simp at hl; omega)
    cases hb : (y == x) with
    | true => rw [hb] at h; simp at h
    | false => rw [hb] at h; simp at h; omega
theorem zat_set_s {xs : List Nat} {i v : Nat} (h : i < xs.length) : zat (xs.set i v) i = v := by
  unfold zat; rw [List.getD_eq_getElem?_getD, List.getElem?_set_self h]; rfl
section BUILD
variable {l : Launch} {g : ww_G} {τ : ww_M} {R : Nat → List Nat}
theorem s_earlierLike {mem : List (List Nat)} {r : Nat} (h : zMem τ R mem) (hR : zRows τ R) (hr : r < 104) : ww_T l g mX0_earlierLike [.inr (.inr (8, 0)), .inr (.inr (21, r))] τ (ww_QI (fun v τ' => τ = τ' ∧ v = if R r ∈ mem then nI (mem.idxOf (R r)) else (-1 : Int32))) := by
  have h84 := h.1
  have hrow := hR r hr
  have hcl := ww_cap_le r
  have hrl := hrow.1
  refine b_X0_earlierLike hr (fun E => ?_)
  have loop : ∀ (n m : Nat), m + n = mem.length → (∀ j, j < m → zm mem j ≠ R r) → ww_W g mX0_earlierLike E (ww_QI (fun v τ' => τ = τ' ∧ v = if R r ∈ mem then nI (mem.idxOf (R r)) else (-1 : Int32))) 2 [some (.inr (.inr (8, 0))), some (.inr (.inr (21, r))), some (.inl (nI m))] [] τ := by
    intro n
    induction n with
    | zero =>
      intro m hm hj
      have hno : R r ∉ mem := by
        intro hx
        obtain ⟨k, hk, e⟩ := List.mem_iff_getElem.mp hx
        exact hj k (by omega) (by rw [zm_eq hk]; exact e)
      refine b_X0_earlierLike_2 hr ⟨fun _ => ⟨rfl, by rw [if_neg hno]⟩, fun c => ?_⟩
      rw [h.2.1, zle (by omega) (by omega)] at c; omega
    | succ n ih =>
      intro m hm hj
      have hml : m < mem.length := by omega
      have hmr := h.row hR hml
      have hlm := h.len hR hml
      have nx : zm mem m ≠ R r → ww_W g mX0_earlierLike E (ww_QI (fun v τ' => τ = τ' ∧ v = if R r ∈ mem then nI (mem.idxOf (R r)) else (-1 : Int32))) 2 [some (.inr (.inr (8, 0))), some (.inr (.inr (21, r))), some (.inl (nI m + nI 1))] [] τ := by
        intro hne
        rw [zadd]
        refine ih (m + 1) (by omega) (fun j hj2 => ?_)
        by_cases e : j = m
        · subst e; exact hne
        · exact hj j (by omega)
      refine b_X0_earlierLike_2 hr ⟨fun c => ?_, fun _ => ⟨fun c => ?_, fun _ => ⟨m, rfl, by omega, ?_⟩⟩⟩
      · rw [h.2.1, zle (by omega) (by omega)] at c; omega
      · rw [zle (by omega) (by omega)] at c; omega
      · rw [hmr.2.1, hrow.2.1, zeq (by omega) (by omega)]
        refine ⟨fun c => nx (fun e => c (by rw [e])), fun c => ⟨_, s_matchAt (i := 0) h hR hml hr (Nat.zero_le _), ?_⟩⟩
        rintro v3 τ4 ⟨rfl, rfl⟩
        have hlk := zlike_le (R r) 0 (zm mem m)
        rw [hrow.2.1, zeq (by omega) (by omega), zlike_full c.symm]
        refine ⟨fun c2 => nx (fun e => c2 e.symm), fun c2 => ⟨rfl, ?_⟩⟩
        have hin : R r ∈ mem := by rw [c2, zm_eq hml]; exact List.getElem_mem hml
        rw [if_pos hin]
        have hi := List.idxOf_lt_length_of_mem hin
        have hg := List.getElem_idxOf hi
        congr 1
        rcases Nat.lt_trichotomy m (mem.idxOf (R r)) with q | q | q
        · exfalso
          exact zidx_ne mem (R r) m q hml c2.symm
        · exact q
        · exfalso
          exact hj _ q (by rw [zm_eq hi]; exact hg)
  exact loop mem.length 0 (by omega) (fun j hj => absurd hj (Nat.not_lt_zero j))
theorem s_listByFirstLetter {mem : List (List Nat)} {a : Nat} (hS : zStt τ mem) (hc : τ (8, 0) 6 = nI mem.length) (ha : a < 8) (h84 : mem.length < 84) : ww_T l g mX0_listByFirstLetter [.inr (.inr (8, 0)), .inl (nI a)] τ (ww_QV (fun τ' => τ' (17, 0) a = nI ((zst mem a mem.length).length + 1) ∧ τ' (16, a) (zst mem a mem.length).length = nI mem.length ∧ (∀ k, k ≠ (zst mem a mem.length).length → τ' (16, a) k = τ (16, a) k) ∧ (∀ k, k ≠ a → τ' (17, 0) k = τ (17, 0) k) ∧ ∀ n : ww_N, n ≠ (16, a) → n ≠ (17, 0) → τ' n = τ n)) := by
  have hl := zst_len mem a mem.length
  have h1 := (hS a ha).1
  refine b_X0_listByFirstLetter (fun E => ⟨fun c => ?_, fun _ => ⟨fun c => ?_, fun _ => ⟨a, rfl, ha, fun c => ?_, fun _ => ⟨a, rfl, ha, a, rfl, ha, (zst mem a mem.length).length, h1, by omega, fun τ5 e5 => ⟨a, rfl, ha, a, rfl, ha, fun τ8 e8 => ?_⟩⟩⟩⟩⟩)
  · rw [zlt (by omega) (by omega)] at c; omega
  · rw [zle (by omega) (by omega)] at c; omega
  · rw [h1, zle (by omega) (by omega)] at c; omega
  · have e6 : τ5 (17, 0) a = nI (zst mem a mem.length).length := by rw [e5, ww_up_n (by simp), h1]
    rw [e6, zadd] at e8
    rw [hc] at e5
    subst e8
    subst e5
    refine ⟨by rw [ww_up_s], by rw [ww_up_n (by simp), ww_up_s], fun k hk => by rw [ww_up_n (by simp), ww_up_k hk], fun k hk => by rw [ww_up_k hk, ww_up_n (by simp)], fun n n1 n2 => by rw [ww_up_f n2, ww_up_f n1]⟩
theorem s_addTurns {s : zMB} {r q k : Nat} (h : zBd τ R k s) (hR : zRows τ R) (hq : q < 20) (hr : r < k) (hk : k ≤ 3) (hx14 : (R q).length ≤ 14) (hx1 : 0 < (R q).length) (hrd : ∀ t, t < (R q).length → zred (zturn (R q) t)) (hc : s.1.length + (R q).length ≤ 84) : ww_T l g mX0_addTurns [.inr (.inr (8, 0)), .inl (nI r), .inr (.inr (21, q))] τ (ww_QV (fun τ' => zMF τ τ' ∧ ∃ R', zRows τ' R' ∧ (∀ y, y < 20 → R' y = R y) ∧ zBd τ' R' k (zaddT r (R q) (R q).length s))) := by
  have hqo := (hR q (by omega)).2.2.2
  have hqc := (hR q (by omega)).2.1
  refine b_X0_addTurns (by omega) (fun E => ?_)
  have loop : ∀ (n t : Nat) (σ : ww_M) (S : Nat → List Nat), t + n = (R q).length → zRows σ S → (∀ y, y < 20 → S y = R y) → zMF τ σ → zBd σ S k (zaddT r (R q) t s) → ww_W g mX0_addTurns E (ww_QV (fun τ' => zMF τ τ' ∧ ∃ R', zRows τ' R' ∧ (∀ y, y < 20 → R' y = R y) ∧ zBd τ' R' k (zaddT r (R q) (R q).length s))) 2 [some (.inr (.inr (8, 0))), some (.inl (nI r)), some (.inr (.inr (21, q))), some (.inl (nI t)), none, none] [] σ := by
    intro n
    induction n with
    | zero =>
      intro t σ S ht hS hSo hf hB
      have e21 : σ (21, q) 1 = nI (R q).length := by have := (hS q (by omega)).2.1; rw [hSo q hq] at this; exact this
      have ht2 : t = (R q).length := by omega
      refine b_X0_addTurns_2 (by omega) ⟨fun _ => ⟨hf, S, hS, hSo, by rw [← ht2]; exact hB⟩, fun c => ?_⟩
      rw [e21, zle (by omega) (by omega)] at c; omega
    | succ n ih =>
      intro t σ S ht hS hSo hf hB
      have e21 : σ (21, q) 1 = nI (R q).length := by have := (hS q (by omega)).2.1; rw [hSo q hq] at this; exact this
      have nx := fun σ' S' a b c d => ih (t + 1) σ' S' (by omega) a b c d
      have htl := zaddT_len r (R q) t s
      have eT : zaddT r (R q) (t + 1) s = zadd1 r (zturn (R q) t) (zaddT r (R q) t s) := rfl
      rw [eT] at nx
      generalize zaddT r (R q) t s = u at hB htl nx
      obtain ⟨mem, ow, by_⟩ := u
      obtain ⟨b1, b2, b3, b4, b5, b6, b7⟩ := hB
      dsimp only at b1 b2 b3 b4 b5 b6 b7 htl
      have h84 : mem.length < 84 := by omega
      have hxl := zturn_len (x := R q) (t := t) (by omega)
      have hxo := zturn_ok hqo t
      have hcap : ww_cap (20 + mem.length) = 14 := by unfold ww_cap; rw [if_neg (by omega), if_neg (by omega), if_neg (by omega), if_neg (by omega)]
      refine b_X0_addTurns_2 (by omega) ⟨fun c => ?_, fun _ => ⟨fun c => ?_, fun _ => ⟨mem.length, b1.2.1, h84, ?_⟩⟩⟩
      · rw [e21, zle (by omega) (by omega)] at c; omega
      · rw [b1.2.1, zle (by omega) (by omega)] at c; omega
      · refine ⟨_, s_wipe hS (by omega), ?_⟩
        rintro τ3 ⟨k3, n3⟩
        have eq1 : zup S (20 + mem.length) [] q = R q := by rw [zup_n (by omega), hSo q hq]
        refine ⟨_, s_putTurn (a := t) k3 (by omega) (by omega) (by omega) (by rw [eq1]; omega) (by rw [eq1, zup_s, hcap]; simp; omega), ?_⟩
        rintro τ5 ⟨k5, n5⟩
        rw [zup_s, eq1, zup_up] at k5
        have ex : zpushs [] ((R q).drop t ++ (R q).take t) = zturn (R q) t := zpushs_all (hrd t (by omega)) hxo
        rw [ex] at k5
        have n35 := n3.tr n5
        generalize hxx : zturn (R q) t = x at k5 hxl hxo nx
        have hM5 : zMem τ5 (zup S (20 + mem.length) x) mem := ⟨b1.1, by rw [n35 _ (by decide) (by decide)]; exact b1.2.1, fun m hm => by rw [zup_n (by omega)]; exact b1.2.2 m hm⟩
        have hS5 : zStt τ5 mem := fun a ha => ⟨by rw [n35 (17, 0) (by decide) (by decide)]; exact (b2 a ha).1, fun k hk => by rw [n35 (16, a) (show (16 : Nat) ≠ 21 by decide) (show (16 : Nat) ≠ 22 by decide)]; exact (b2 a ha).2 k hk⟩
        refine ⟨_, s_earlierLike hM5 k5 (by omega), ?_⟩
        rintro v7 τ8 ⟨rfl, rfl⟩
        rw [zup_s]
        by_cases hin : x ∈ mem
        · have hidx := List.idxOf_lt_length_of_mem hin
          rw [if_pos hin]
          refine ⟨fun c => absurd c (zne1 (by omega)), fun _ => ⟨mem.idxOf x, rfl, by omega, mem.idxOf x, rfl, by omega, fun τ23 e23 => ?_⟩⟩
          have eb := zor8 (zat ow (mem.idxOf x)) (zat_all b6 (by omega)) (2 ^ r) (zpow8 r (by omega))
          rw [zshl r (by omega), n35 (13, 0) (by decide) (by decide), b5 _ hidx, eb.1] at e23
          have ho : ∀ m : ww_N, m ≠ (13, 0) → τ23 m = τ5 m := fun m hm => by rw [e23, ww_up_f hm]
          have ea : zadd1 r x (mem, ow, by_) = (mem, ow.set (mem.idxOf x) (zat ow (mem.idxOf x) ||| 2 ^ r), by_) := by unfold zadd1; rw [if_pos hin]
          rw [ea] at nx
          rw [zadd]
          refine nx τ23 (zup S (20 + mem.length) x) (k5.keep (fun m hm => ho m (fun e => by rw [e] at hm; omega))) (fun y hy => by rw [zup_n (by omega), hSo y hy]) (hf.tr (n35.m.tr ⟨fun m _ _ _ _ h13 _ _ => ho m (fun e => h13 (by rw [e])), by rw [ho _ (by decide)]⟩)) ⟨⟨hM5.1, by rw [ho _ (by decide)]; exact hM5.2.1, hM5.2.2⟩, fun a ha => ⟨by rw [ho _ (by decide)]; exact (hS5 a ha).1, fun k hk => by rw [ho _ (by simp)]; exact (hS5 a ha).2 k hk⟩, ?_, ?_, fun m hm => ?_, fun b hb => ?_, fun r' hr' => ?_⟩
          · rw [ho _ (by decide), n35 _ (by decide) (by decide)]; exact b3
          · show (ow.set _ _).length = mem.length; rw [List.length_set]; exact b4
          · dsimp only at hm ⊢
            rw [e23]
            by_cases hmi : m = mem.idxOf x
            · subst hmi
              rw [ww_up_s, zat_set_s (by omega)]
            · rw [ww_up_k hmi, n35 (13, 0) (by decide) (by decide), b5 m hm]
              congr 1
              unfold zat
              rw [List.getD_eq_getElem?_getD, List.getD_eq_getElem?_getD, List.getElem?_set_ne (Ne.symm hmi)]
          · rcases List.mem_or_eq_of_mem_set hb with y | y
            · exact b6 b y
            · rw [y]; exact eb.2
          · rw [ho _ (by decide), n35 _ (by decide) (by decide)]; exact b7 r' hr'
        · rw [if_neg hin]
          refine ⟨fun _ => ⟨mem.length, hM5.2.1, h84, fun τ10 e10 => ⟨r, rfl, by omega, r, rfl, by omega, fun τ13 e13 => ?_⟩⟩, fun c => absurd rfl c⟩
          rw [zshl r (by omega)] at e10
          have e11 : τ10 (11, 0) r = nI (by_.count r) := by rw [e10, ww_up_n (by simp), n35 _ (by decide) (by decide)]; exact b7 r hr
          rw [e11, zadd] at e13
          have ho13 : ∀ m : ww_N, m ≠ (13, 0) → m ≠ (11, 0) → τ13 m = τ5 m := fun m h1 h2 => by rw [e13, ww_up_f h2, e10, ww_up_f h1]
          have k13 : zRows τ13 (zup S (20 + mem.length) x) := k5.keep (fun m hm => ho13 m (fun e => by rw [e] at hm; omega) (fun e => by rw [e] at hm; omega))
          have hx0 : 0 < x.length := by omega
          have hz0 := zat_lt hxo hx0
          have hrx := k13 (20 + mem.length) (by omega)
          rw [zup_s] at hrx
          refine ⟨_, s_at (j := 0) hrx (by omega) (by omega), ?_⟩
          rintro v15 τ16 ⟨rfl, rfl⟩
          rw [if_pos hx0]
          have hS13 : zStt τ13 mem := fun a ha => ⟨by rw [ho13 _ (by decide) (by decide)]; exact (hS5 a ha).1, fun k hk => by rw [ho13 _ (by simp) (by simp)]; exact (hS5 a ha).2 k hk⟩
          refine ⟨_, s_listByFirstLetter hS13 (by rw [ho13 _ (by decide) (by decide)]; exact hM5.2.1) hz0 h84, ?_⟩
          rintro τ18 ⟨l1, l2, l3, l4, l5⟩ τ19 e19 τ20 e20
          have c18 : τ18 (21, 20 + mem.length) 1 = nI x.length := by rw [l5 _ (by simp) (by simp)]; exact hrx.2.1
          have s18 : τ18 (8, 0) 7 = nI (zshort mem) := by rw [l5 _ (by simp) (by simp), ho13 _ (by decide) (by decide), n35 _ (by decide) (by decide)]; exact b3
          have hsl := (zshort_le (mem := mem)).1
          rw [c18, s18, zmin (by omega) (by omega)] at e19
          have m19 : τ19 (8, 0) 6 = nI mem.length := by rw [e19, ww_up_k (by decide), l5 _ (by simp) (by simp), ho13 _ (by decide) (by decide)]; exact hM5.2.1
          rw [m19, zadd] at e20
          have ho20 : ∀ m : ww_N, m ≠ (8, 0) → τ20 m = τ18 m := fun m hm => by rw [e20, ww_up_f hm, e19, ww_up_f hm]
          have ea : zadd1 r x (mem, ow, by_) = (mem ++ [x], ow ++ [2 ^ r], by_ ++ [r]) := by unfold zadd1; rw [if_neg hin]
          rw [ea] at nx
          rw [zadd]
          have k20 : zRows τ20 (zup S (20 + mem.length) x) := k13.keep (fun m hm => by rw [ho20 m (fun e => by rw [e] at hm; omega), l5 m (fun e => by rw [e] at hm; omega) (fun e => by rw [e] at hm; omega)])
          refine nx τ20 _ k20 (fun y hy => by rw [zup_n (by omega), hSo y hy]) (hf.tr (n35.m.tr ⟨fun m h1 h2 h8 h11 h13 h16 h17 => ?_, ?_⟩)) ⟨⟨?_, ?_, fun m hm => ?_⟩, fun a ha => ?_, ?_, ?_, fun m hm => ?_, fun b hb => ?_, fun r' hr' => ?_⟩
          · rw [ho20 m (fun e => h8 (by rw [e])), l5 m (fun e => h16 (by rw [e])) (fun e => h17 (by rw [e])), ho13 m (fun e => h13 (by rw [e])) (fun e => h11 (by rw [e]))]
          · rw [e20, ww_up_k (by decide), e19, ww_up_k (by decide), l5 _ (by simp) (by simp), ho13 _ (by decide) (by decide)]
          · show (mem ++ [x]).length ≤ 84; rw [List.length_append]; exact h84
          · show τ20 (8, 0) 6 = nI (mem ++ [x]).length; rw [e20, ww_up_s, List.length_append]; rfl
          · have hm : m < (mem ++ [x]).length := hm
            rw [List.length_append, List.length_singleton] at hm
            show zup S (20 + mem.length) x (20 + m) = zm (mem ++ [x]) m
            by_cases e : m = mem.length
            · subst e; rw [zup_s, zm_app_e]
            · rw [zup_n (by omega), zm_app_l (by omega)]; exact b1.2.2 m (by omega)
          · dsimp only
            rw [zst_snoc]
            by_cases haz : zat x 0 = a
            · rw [if_pos haz]
              subst haz
              refine ⟨by rw [ho20 _ (by decide), l1, List.length_append]; rfl, fun k hk => ?_⟩
              rw [List.length_append, List.length_singleton] at hk
              rw [ho20 _ (by simp)]
              by_cases hk2 : k = (zst mem (zat x 0) mem.length).length
              · subst hk2; rw [l2, zat_app_e]
              · rw [l3 k hk2, zat_app_l (by omega)]; exact (hS13 _ ha).2 k (by omega)
            · rw [if_neg haz]
              refine ⟨by rw [ho20 _ (by decide), l4 a (Ne.symm haz)]; exact (hS13 a ha).1, fun k hk => ?_⟩
              rw [ho20 _ (by simp), l5 (16, a) (by simp [Ne.symm haz]) (by simp)]; exact (hS13 a ha).2 k hk
          · show τ20 (8, 0) 7 = nI (zshort (mem ++ [x])); rw [zshort_app, e20, ww_up_k (by decide), e19, ww_up_s]
          · show (ow ++ [2 ^ r]).length = (mem ++ [x]).length; rw [List.length_append, List.length_append, b4]; rfl
          · have hm : m < (mem ++ [x]).length := hm
            rw [List.length_append, List.length_singleton] at hm
            show τ20 (13, 0) m = nI (zat (ow ++ [2 ^ r]) m)
            rw [ho20 _ (by decide), l5 _ (by simp) (by simp), e13, ww_up_n (by simp), e10]
            by_cases e : m = mem.length
            · subst e; rw [ww_up_s]; congr 1; rw [← b4, zat_app_e]
            · rw [ww_up_k e, zat_app_l (by omega), n35 _ (by decide) (by decide)]; exact b5 m (by omega)
          · rcases List.mem_append.mp hb with y | y
            · exact b6 b y
            · rw [List.mem_singleton.mp y]; exact zpow8 r (by omega)
          · show τ20 (11, 0) r' = nI ((by_ ++ [r]).count r')
            rw [ho20 _ (by decide), l5 _ (by simp) (by simp), e13, List.count_append]
            by_cases e : r' = r
            · subst e; rw [ww_up_s]; congr 1; simp
            · rw [ww_up_k e, e10, ww_up_n (by simp), n35 _ (by decide) (by decide), b7 r' hr']
              congr 1
              have : List.count r' [r] = 0 := by rw [List.count_eq_zero]; simp [e]
              omega
  exact loop (R q).length 0 τ R (by omega) hR (fun _ _ => rfl) (zMF.rf τ) h
/-- the greatest begin in common of two members of which one is marked -/
def zpcs (mem : List (List Nat)) (ow : List Nat) (r : Nat) (m : Nat) : Nat := zgr (fun m => zgr (fun o => if (zat ow o ||| zat ow m).testBit r = true then zlike (zm mem o) 0 (zm mem m) else 0) m) m
theorem s_notePiece {cnt b sh : Nat} {f : Nat → Nat} (hc : τ (8, 0) 1 = nI cnt) (hc3 : cnt ≤ 3) (hb : b < 8) (hs : sh < 1000) (hf : ∀ r, r < cnt → τ (10, 0) r = nI (f r) ∧ f r < 1000) : ww_T l g mX0_notePiece [.inr (.inr (8, 0)), .inl (nI b), .inl (nI sh)] τ (ww_QV (fun τ' => (∀ r, r < cnt → τ' (10, 0) r = nI (max (f r) (if b.testBit r = true then sh else 0))) ∧ ∀ n : ww_N, n ≠ (10, 0) → τ' n = τ n)) := by
  refine b_X0_notePiece (fun E => ?_)
  have loop : ∀ (n r : Nat) (σ : ww_M), r + n = cnt → (∀ q, q < r → σ (10, 0) q = nI (max (f q) (if b.testBit q = true then sh else 0))) → (∀ q, r ≤ q → σ (10, 0) q = τ (10, 0) q) → (∀ n : ww_N, n ≠ (10, 0) → σ n = τ n) → ww_W g mX0_notePiece E (ww_QV (fun τ' => (∀ r, r < cnt → τ' (10, 0) r = nI (max (f r) (if b.testBit r = true then sh else 0))) ∧ ∀ n : ww_N, n ≠ (10, 0) → τ' n = τ n)) 2 [some (.inr (.inr (8, 0))), some (.inl (nI b)), some (.inl (nI sh)), some (.inl (nI r))] [] σ := by
    intro n
    induction n with
    | zero =>
      intro r σ hr h1 h2 h3
      refine b_X0_notePiece_2 ⟨fun _ => ⟨fun q hq => h1 q (by omega), h3⟩, fun c => ?_⟩
      rw [h3 _ (by decide), hc, zle (by omega) (by omega)] at c; omega
    | succ n ih =>
      intro r σ hr h1 h2 h3
      obtain ⟨f1, f2⟩ := hf r (by omega)
      refine b_X0_notePiece_2 ⟨fun c => ?_, fun _ => ⟨fun c => ?_, fun c => ⟨r, rfl, by omega, r, rfl, by omega, fun τ3 e3 => ?_⟩⟩⟩
      · rw [h3 _ (by decide), hc, zle (by omega) (by omega)] at c; omega
      · have hbit : ¬ b.testBit r = true := fun q => c ((zbit b hb r (by omega)).mpr q)
        rw [zadd]
        refine ih (r + 1) σ (by omega) (fun q hq => ?_) (fun q hq => h2 q (by omega)) h3
        by_cases e : q = r
        · subst e; rw [h2 q (Nat.le_refl _), f1, if_neg hbit]; congr 1; omega
        · exact h1 q (by omega)
      · have hbit := (zbit b hb r (by omega)).mp c
        rw [h2 r (Nat.le_refl _), f1, zmax (by omega) (by omega)] at e3
        rw [zadd]
        refine ih (r + 1) τ3 (by omega) (fun q hq => ?_) (fun q hq => ?_) (fun n hn => by rw [e3, ww_up_f hn, h3 n hn])
        · rw [e3]
          by_cases e : q = r
          · subst e; rw [ww_up_s, if_pos hbit]
          · rw [ww_up_k e]; exact h1 q (by omega)
        · rw [e3, ww_up_k (by omega)]; exact h2 q (by omega)
  exact loop cnt 0 τ (by omega) (fun q hq => absurd hq (Nat.not_lt_zero q)) (fun _ _ => rfl) (fun _ _ => rfl)
theorem s_measure {mem : List (List Nat)} {ow : List Nat} {cnt : Nat} (h : zMem τ R mem) (hR : zRows τ R) (hc : τ (8, 0) 1 = nI cnt) (hc3 : cnt ≤ 3) (h0 : ∀ r, r < cnt → τ (10, 0) r = nI 0) (ho : ∀ m, m < mem.length → τ (13, 0) m = nI (zat ow m)) (ho8 : ∀ b ∈ ow, b < 8) (hol : ow.length = mem.length) : ww_T l g mX0_measure [.inr (.inr (8, 0))] τ (ww_QV (fun τ' => (∀ m, m < mem.length → τ' (14, 0) m = nI (zahead mem m)) ∧ (∀ r, r < cnt → τ' (10, 0) r = nI (zpcs mem ow r mem.length)) ∧ ∀ n : ww_N, n ≠ (10, 0) → n ≠ (14, 0) → τ' n = τ n)) := by
  have h84 := h.1
  have hlk : ∀ m o, m < mem.length → o < mem.length → zlike (zm mem o) 0 (zm mem m) ≤ 14 := fun m o hm _ => by
    have := (zlike_le (zm mem o) 0 (zm mem m)).2
    have := h.len hR hm
    omega
  refine b_X0_measure (fun E => ?_)
  generalize hQ : (ww_QV (fun τ' => (∀ m, m < mem.length → τ' (14, 0) m = nI (zahead mem m)) ∧ (∀ r, r < cnt → τ' (10, 0) r = nI (zpcs mem ow r mem.length)) ∧ ∀ n : ww_N, n ≠ (10, 0) → n ≠ (14, 0) → τ' n = τ n)) = Q
  have inner : ∀ m, m < mem.length → ∀ (n o : Nat) (σ : ww_M), o + n = m → (∀ n : ww_N, n ≠ (10, 0) → n ≠ (14, 0) → σ n = τ n) → (∀ q, q < m → σ (14, 0) q = nI (zahead mem q)) → σ (14, 0) m = nI (zgr (fun o => zlike (zm mem o) 0 (zm mem m)) o) → (∀ r, r < cnt → σ (10, 0) r = nI (max (zpcs mem ow r m) (zgr (fun o => if (zat ow o ||| zat ow m).testBit r = true then zlike (zm mem o) 0 (zm mem m) else 0) o))) → (∀ σ' : ww_M, (∀ n : ww_N, n ≠ (10, 0) → n ≠ (14, 0) → σ' n = τ n) → (∀ q, q < m + 1 → σ' (14, 0) q = nI (zahead mem q)) → (∀ r, r < cnt → σ' (10, 0) r = nI (zpcs mem ow r (m + 1))) → ww_W g mX0_measure E Q 2 [some (.inr (.inr (8, 0))), some (.inl (nI m + nI 1)), none, none] [] σ') → ww_W g mX0_measure E Q 19 [some (.inr (.inr (8, 0))), some (.inl (nI m)), some (.inl (nI o)), none] [] σ := by
    intro m hm n
    induction n with
    | zero =>
      intro o σ hon hf h1 h2 h3 K
      have hom : o = m := by omega
      subst hom
      have K := K σ hf (fun q hq => by
        by_cases e : q = o
        · subst e; exact h2
        · exact h1 q (by omega)) (fun r hr => by rw [h3 r hr]; rfl)
      subst hQ
      refine b_X0_measure_19 ⟨fun _ => K, fun c => ?_⟩
      rw [zle (by omega) (by omega)] at c; omega
    | succ n ih =>
      intro o σ hon hf h1 h2 h3 K
      have hMo : zMem σ R mem := ⟨h.1, by rw [hf _ (by decide) (by decide)]; exact h.2.1, h.2.2⟩
      have hRo : zRows σ R := hR.keep (fun x hx => hf x (fun e => by rw [e] at hx; omega) (fun e => by rw [e] at hx; omega))
      have hl := hlk m o hm (by omega)
      have hsa : zgr (fun o => zlike (zm mem o) 0 (zm mem m)) o ≤ 14 := zgr_le (fun k hk => hlk m k hm (by omega))
      have hg : ∀ r o', o' ≤ m → zgr (fun o => if (zat ow o ||| zat ow m).testBit r = true then zlike (zm mem o) 0 (zm mem m) else 0) o' ≤ 14 := fun r o' ho' => zgr_le (fun k hk => by
        split
        · exact hlk m k hm (by omega)
        · omega)
      have hp : ∀ r, zpcs mem ow r m ≤ 14 := fun r => zgr_le (fun k hk => zgr_le (fun k2 hk2 => by
        split
        · exact hlk k k2 (by omega) (by omega)
        · omega))
      have nx := fun σ' a b c d => ih (o + 1) σ' (by omega) a b c d K
      have eb := zor8 (zat ow o) (zat_all ho8 (by omega)) (zat ow m) (zat_all ho8 (by omega))
      subst hQ
      refine b_X0_measure_19 ⟨fun c => ?_, fun _ => ⟨_, s_sharedStart hMo hRo (by omega) hm, ?_⟩⟩
      · rw [zle (by omega) (by omega)] at c; omega
      · rintro v2 τ3 ⟨rfl, rfl⟩
        refine ⟨m, rfl, by omega, m, rfl, by omega, fun τ6 e6 => ⟨o, rfl, by omega, m, rfl, by omega, ?_⟩⟩
        rw [h2, zmax (by omega) (by omega)] at e6
        have hf6 : ∀ n : ww_N, n ≠ (14, 0) → τ6 n = σ n := fun n hn => by rw [e6, ww_up_f hn]
        rw [hf6 (13, 0) (by decide), hf _ (by decide) (by decide), ho o (by omega), ho m hm, eb.1]
        refine ⟨_, s_notePiece (cnt := cnt) (f := fun r => max (zpcs mem ow r m) (zgr (fun o => if (zat ow o ||| zat ow m).testBit r = true then zlike (zm mem o) 0 (zm mem m) else 0) o)) (by rw [hf6 _ (by decide), hf _ (by decide) (by decide)]; exact hc) hc3 eb.2 (by omega) (fun r hr => ⟨by rw [hf6 _ (by decide)]; exact h3 r hr, by have := hg r o (by omega); have := hp r; omega⟩), ?_⟩
        rintro τ10 ⟨p1, p2⟩
        rw [zadd]
        refine nx τ10 (fun n h10 h14 => by rw [p2 n h10, hf6 n h14, hf n h10 h14]) (fun q hq => ?_) ?_ (fun r hr => ?_)
        · rw [p2 _ (by decide), e6, ww_up_k (by omega)]; exact h1 q hq
        · rw [p2 _ (by decide), e6, ww_up_s]; rfl
        · rw [p1 r hr]; congr 1; rw [zgr]; omega
  have outer : ∀ (n m : Nat) (σ : ww_M), m + n = mem.length → (∀ n : ww_N, n ≠ (10, 0) → n ≠ (14, 0) → σ n = τ n) → (∀ q, q < m → σ (14, 0) q = nI (zahead mem q)) → (∀ r, r < cnt → σ (10, 0) r = nI (zpcs mem ow r m)) → ww_W g mX0_measure E Q 2 [some (.inr (.inr (8, 0))), some (.inl (nI m)), none, none] [] σ := by
    intro n
    induction n with
    | zero =>
      intro m σ hm hf h1 h2
      have hme : m = mem.length := by omega
      subst hQ
      refine b_X0_measure_2 ⟨fun _ => ⟨fun q hq => h1 q (by omega), fun r hr => by rw [← hme]; exact h2 r hr, hf⟩, fun c => ?_⟩
      rw [hf _ (by decide) (by decide), h.2.1, zle (by omega) (by omega)] at c; omega
    | succ n ih =>
      intro m σ hm hf h1 h2
      have st : ∀ τ2 : ww_M, τ2 = ww_up σ (14, 0) m (nI 0) → ww_W g mX0_measure E Q 19 [some (.inr (.inr (8, 0))), some (.inl (nI m)), some (.inl (nI 0)), none] [] τ2 := by
        intro τ2 e2
        refine inner m (by omega) m 0 τ2 (by omega) (fun n h10 h14 => by rw [e2, ww_up_f h14, hf n h10 h14]) (fun q hq => by rw [e2, ww_up_k (by omega)]; exact h1 q hq) (by rw [e2, ww_up_s]; rfl) (fun r hr => by rw [e2, ww_up_n (by decide), h2 r hr]; congr 1; show zpcs mem ow r m = max (zpcs mem ow r m) 0; omega) (fun σ' a b c => ?_)
        rw [zadd]
        exact ih (m + 1) σ' (by omega) a b c
      subst hQ
      refine b_X0_measure_2 ⟨fun c => ?_, fun _ => ⟨m, rfl, by omega, st⟩⟩
      rw [hf _ (by decide) (by decide), h.2.1, zle (by omega) (by omega)] at c; omega
  exact outer mem.length 0 τ (by omega) (fun _ _ _ => rfl) (fun q hq => absurd hq (Nat.not_lt_zero q)) (fun r hr => by rw [h0 r hr]; rfl)
/-- a relator: of 1 .. 14 letters, its turns and those of its inverse reduced -/
def zRok (x : List Nat) : Prop := 1 ≤ x.length ∧ x.length ≤ 14 ∧ zok x ∧ ∀ t, t < x.length → zred (zturn x t) ∧ zred (zturn (zinv x) t)
theorem zturn_0 (x : List Nat) : zturn x 0 = x := by unfold zturn; simp
theorem zadd1_by {r : Nat} {x : List Nat} {s : zMB} {k : Nat} (hr : r < k) (h : ∀ b ∈ s.2.2, b < k) : ∀ b ∈ (zadd1 r x s).2.2, b < k := by
  unfold zadd1; split
  · exact h
  · intro b hb
    rcases List.mem_append.mp hb with y | y
    · exact h b y
    · rw [List.mem_singleton.mp y]; exact hr
theorem zaddT_by {r : Nat} {x : List Nat} {k : Nat} (hr : r < k) : ∀ (t : Nat) {s : zMB}, (∀ b ∈ s.2.2, b < k) → ∀ b ∈ (zaddT r x t s).2.2, b < k
  | 0, _, h => h
  | t + 1, _, h => zadd1_by hr (zaddT_by hr t h)
theorem zbuild_by (rels : List (List Nat)) : ∀ r, ∀ b ∈ (zbuild rels r).2.2, b < r
  | 0 => fun b hb => absurd hb List.not_mem_nil
  | r + 1 => zaddT_by (by omega) _ (zaddT_by (by omega) _ (fun b hb => by have := zbuild_by rels r b hb; omega))
theorem zbuild_len {rels : List (List Nat)} : ∀ r, (∀ q, q < r → (zm rels q).length ≤ 14) → (zbuild rels r).1.length ≤ 28 * r
  | 0, _ => Nat.le_refl _
  | r + 1, h => by
    have h1 := zbuild_len r (fun q hq => h q (by omega))
    have h2 := zaddT_len r (zm rels r) (zm rels r).length (zbuild rels r)
    have h3 := zaddT_len r (zinv (zm rels r)) (zm rels r).length (zaddT r (zm rels r) (zm rels r).length (zbuild rels r))
    have := h r (by omega)
    rw [zbuild]; omega
/-- what has been made of relators -/
def zMade (τ : ww_M) (R : Nat → List Nat) (rels : List (List Nat)) : Prop := zRel τ R rels ∧ zMem τ R (zbuild rels rels.length).1 ∧ zStt τ (zbuild rels rels.length).1 ∧ τ (8, 0) 7 = nI (zshort (zbuild rels rels.length).1) ∧ (∀ m, m < (zbuild rels rels.length).1.length → τ (14, 0) m = nI (zahead (zbuild rels rels.length).1 m)) ∧ (∀ r, r < rels.length → τ (10, 0) r = nI (zpcs (zbuild rels rels.length).1 (zbuild rels rels.length).2.1 r (zbuild rels rels.length).1.length)) ∧ (∀ r, r < rels.length → τ (11, 0) r = nI ((zbuild rels rels.length).2.2.count r))
def zBF (τ τ' : ww_M) : Prop := ∀ n : ww_N, n.1 ≠ 21 → n.1 ≠ 22 → n.1 ≠ 8 → n.1 ≠ 10 → n.1 ≠ 11 → n.1 ≠ 13 → n.1 ≠ 14 → n.1 ≠ 16 → n.1 ≠ 17 → τ' n = τ n
theorem zBF.rf (τ : ww_M) : zBF τ τ := fun _ _ _ _ _ _ _ _ _ _ => rfl
theorem zBF.tr {a b c : ww_M} (h : zBF a b) (h2 : zBF b c) : zBF a c := fun n h1 h3 h4 h5 h6 h7 h8 h9 h10 => (h2 n h1 h3 h4 h5 h6 h7 h8 h9 h10).trans (h n h1 h3 h4 h5 h6 h7 h8 h9 h10)
theorem zMF.b {a b : ww_M} (h : zMF a b) : zBF a b := fun n h1 h2 h3 _ h5 h6 _ h8 h9 => h.1 n h1 h2 h3 h5 h6 h8 h9
theorem s_become {rels : List (List Nat)} (hR : zRows τ R) (hn : τ (4, 0) 1 = nI rels.length) (h3 : rels.length ≤ 3) (hw : ∀ i, i < rels.length → R (6 + i) = zm rels i) (hok : ∀ i, i < rels.length → zRok (zm rels i)) : ww_T l g mX0_become [.inr (.inr (8, 0)), .inr (.inr (4, 0))] τ (ww_QV (fun τ' => zBF τ τ' ∧ ∃ R', zRows τ' R' ∧ (∀ y, y < 12 ∨ (16 ≤ y ∧ y < 20) → R' y = R y) ∧ zMade τ' R' rels)) := by
  refine b_X0_become (fun E τ1 e1 τ2 e2 τ3 e3 => ?_)
  rw [hn, zmin (by omega) (by omega), Nat.min_eq_left h3] at e1
  generalize hQ : (ww_QV (fun τ' => zBF τ τ' ∧ ∃ R', zRows τ' R' ∧ (∀ y, y < 12 ∨ (16 ≤ y ∧ y < 20) → R' y = R y) ∧ zMade τ' R' rels)) = Q
  have main : ∀ (n r : Nat) (σ : ww_M) (S : Nat → List Nat), r + n = rels.length → zRows σ S → (∀ y, y < 12 ∨ (16 ≤ y ∧ y < 20) → S y = R y) → (∀ q, q < r → S (12 + q) = zm rels q) → zBF τ σ → σ (8, 0) 1 = nI rels.length → (∀ q, q < r → σ (10, 0) q = nI 0) → zBd σ S r (zbuild rels r) → ww_W g mX0_become E Q 46 [some (.inr (.inr (8, 0))), some (.inr (.inr (4, 0))), some (.inl (nI r))] [] σ := by
    intro n
    induction n with
    | zero =>
      intro r σ S hr hS hSo hS12 hf h81 h10 hB
      have hre : r = rels.length := by omega
      subst hre
      obtain ⟨b1, b2, b3, b4, b5, b6, b7⟩ := hB
      subst hQ
      refine b_X0_become_46 ⟨fun _ => ⟨_, s_measure b1 hS h81 h3 h10 b5 b6 b4, ?_⟩, fun c => ?_⟩
      · rintro τ' ⟨m1, m2, m3⟩
        refine ⟨hf.tr (fun n _ _ _ h10 _ _ h14 _ _ => m3 n (fun e => h10 (by rw [e])) (fun e => h14 (by rw [e]))), S, hS.keep (fun x hx => m3 x (fun e => by rw [e] at hx; omega) (fun e => by rw [e] at hx; omega)), hSo, ⟨h3, by rw [m3 _ (by decide) (by decide)]; exact h81, hS12⟩, ⟨b1.1, by rw [m3 _ (by decide) (by decide)]; exact b1.2.1, b1.2.2⟩, fun a ha => ⟨by rw [m3 _ (by decide) (by decide)]; exact (b2 a ha).1, fun k hk => by rw [m3 _ (by simp) (by simp)]; exact (b2 a ha).2 k hk⟩, by rw [m3 _ (by decide) (by decide)]; exact b3, m1, m2, fun r hr => by rw [m3 _ (by decide) (by decide)]; exact b7 r hr⟩
      · rw [h81, zle (by omega) (by omega)] at c; omega
    | succ n ih =>
      intro r σ S hr hS hSo hS12 hf h81 h10 hB
      have nx := fun σ' S' a b c d e f g => ih (r + 1) σ' S' (by omega) a b c d e f g
      obtain ⟨o1, o2, o3, o4⟩ := hok r (by omega)
      have hlen := zbuild_len (rels := rels) r (fun q hq => (hok q (by omega)).2.1)
      subst hQ
      refine b_X0_become_46 ⟨fun c => ?_, fun _ => ⟨r, rfl, by omega, fun τ4 e4 => ⟨r, rfl, by omega, fun τ6 e6 => ⟨r, rfl, by omega, r, rfl, by omega, ?_⟩⟩⟩⟩
      · rw [h81, zle (by omega) (by omega)] at c; omega
      · have ho6 : ∀ x : ww_N, x ≠ (10, 0) → x ≠ (11, 0) → τ6 x = σ x := fun x h1 h2 => by rw [e6, ww_up_f h2, e4, ww_up_f h1]
        have hS6 : zRows τ6 S := hS.keep (fun x hx => ho6 x (fun e => by rw [e] at hx; omega) (fun e => by rw [e] at hx; omega))
        have e6r : S (6 + r) = zm rels r := by rw [hSo _ (by omega)]; exact hw r (by omega)
        have c12 : ww_cap (12 + r) = 14 := by unfold ww_cap; rw [if_neg (by omega), if_neg (by omega), if_pos (by omega)]
        refine ⟨_, s_copy hS6 (by omega) (by omega) (by omega) (by rw [e6r, c12]; exact o2), ?_⟩
        rintro τ10 ⟨k10, n10⟩
        rw [e6r] at k10
        obtain ⟨b1, b2, b3, b4, b5, b6, b7⟩ := hB
        have hB10 : zBd τ10 (zup S (12 + r) (zm rels r)) (r + 1) (zbuild rels r) := by
          have hx : ∀ x : ww_N, x.1 ≠ 21 → x.1 ≠ 22 → x ≠ (10, 0) → x ≠ (11, 0) → τ10 x = σ x := fun x h1 h2 h3 h4 => by rw [n10 x h1 h2, ho6 x h3 h4]
          refine ⟨⟨b1.1, by rw [hx _ (by decide) (by decide) (by decide) (by decide)]; exact b1.2.1, fun m hm => by rw [zup_n (by omega)]; exact b1.2.2 m hm⟩, fun a ha => ⟨by rw [hx _ (by decide) (by decide) (by decide) (by decide)]; exact (b2 a ha).1, fun k hk => by rw [hx (16, a) (show (16 : Nat) ≠ 21 by decide) (show (16 : Nat) ≠ 22 by decide) (by simp) (by simp)]; exact (b2 a ha).2 k hk⟩, by rw [hx _ (by decide) (by decide) (by decide) (by decide)]; exact b3, b4, fun m hm => by rw [hx _ (by decide) (by decide) (by decide) (by decide)]; exact b5 m hm, b6, fun q hq => ?_⟩
          rw [n10 _ (by decide) (by decide), e6]
          by_cases e : q = r
          · subst e
            rw [ww_up_s]
            have : (zbuild rels q).2.2.count q = 0 := by
              rw [List.count_eq_zero]
              intro hin
              have := zbuild_by rels q q hin
              omega
            rw [this]
          · rw [ww_up_k e, e4, ww_up_n (by decide)]; exact b7 q (by omega)
        have er : zup S (12 + r) (zm rels r) (12 + r) = zm rels r := zup_s _ _ _
        refine ⟨r, rfl, by omega, _, s_addTurns (q := 12 + r) hB10 k10 (by omega) (by omega) (by omega) (by rw [er]; exact o2) (by rw [er]; exact o1) (by rw [er]; exact fun t ht => (o4 t ht).1) (by rw [er]; omega), ?_⟩
        rintro τ13 ⟨f13, S13, k13, s13, B13⟩
        rw [er] at B13
        have e12 : S13 (12 + r) = zm rels r := by rw [s13 _ (by omega), er]
        refine ⟨_, s_wipe k13 (by omega), ?_⟩
        rintro τ15 ⟨k15, n15⟩
        have e12b : zup S13 15 [] (12 + r) = zm rels r := by rw [zup_n (by omega), e12]
        refine ⟨r, rfl, by omega, _, s_putInverse k15 (by omega) (by omega) (by omega) (by rw [e12b, zup_s]; show 0 + _ ≤ 14; omega), ?_⟩
        rintro τ18 ⟨k18, n18⟩
        have hiv : zred (zinv (zm rels r)) := by have := (o4 0 (by omega)).2; rw [zturn_0] at this; exact this
        rw [zup_s, e12b, zup_up, zpushs_all hiv (zinv_ok o3)] at k18
        have n1518 := n15.tr n18
        have hB18 : zBd τ18 (zup S13 15 (zinv (zm rels r))) (r + 1) (zaddT r (zm rels r) (zm rels r).length (zbuild rels r)) := by
          obtain ⟨d1, d2, d3, d4, d5, d6, d7⟩ := B13
          exact ⟨⟨d1.1, by rw [n1518 _ (by decide) (by decide)]; exact d1.2.1, fun m hm => by rw [zup_n (by omega)]; exact d1.2.2 m hm⟩, fun a ha => ⟨by rw [n1518 _ (by decide) (by decide)]; exact (d2 a ha).1, fun k hk => by rw [n1518 (16, a) (show (16 : Nat) ≠ 21 by decide) (show (16 : Nat) ≠ 22 by decide)]; exact (d2 a ha).2 k hk⟩, by rw [n1518 _ (by decide) (by decide)]; exact d3, d4, fun m hm => by rw [n1518 _ (by decide) (by decide)]; exact d5 m hm, d6, fun q hq => by rw [n1518 _ (by decide) (by decide)]; exact d7 q hq⟩
        have ei : zup S13 15 (zinv (zm rels r)) 15 = zinv (zm rels r) := zup_s _ _ _
        have hl2 := zaddT_len r (zm rels r) (zm rels r).length (zbuild rels r)
        refine ⟨_, s_addTurns (q := 15) hB18 k18 (by omega) (by omega) (by omega) (by rw [ei, zinv_len]; exact o2) (by rw [ei, zinv_len]; exact o1) (by rw [ei, zinv_len]; exact fun t ht => (o4 t ht).2) (by rw [ei, zinv_len]; omega), ?_⟩
        rintro τ20 ⟨f20, S20, k20, s20, B20⟩
        rw [ei, zinv_len] at B20
        rw [zadd]
        have f10 : τ10 (10, 0) = τ6 (10, 0) := n10 _ (by decide) (by decide)
        refine nx τ20 S20 k20 (fun y hy => ?_) (fun q hq => ?_) ?_ ?_ (fun q hq => ?_) B20
        · rw [s20 y (by omega), zup_n (by omega), s13 y (by omega), zup_n (by omega)]; exact hSo y hy
        · rw [s20 _ (by omega), zup_n (by omega), s13 _ (by omega)]
          by_cases e : q = r
          · subst e; exact er
          · rw [zup_n (by omega)]; exact hS12 q (by omega)
        · refine hf.tr (zBF.tr ?_ (f13.b.tr (n1518.m.b.tr f20.b)))
          intro x h1 h2 h3 h4 h5 _ _ _ _
          rw [n10 x h1 h2, ho6 x (fun e => h4 (by rw [e])) (fun e => h5 (by rw [e]))]
        · rw [f20.2, n1518 _ (by decide) (by decide), f13.2, n10 _ (by decide) (by decide), ho6 _ (by decide) (by decide)]; exact h81
        · rw [f20.1 (10, 0) (by decide) (by decide) (by decide) (by decide) (by decide) (by decide) (by decide), n1518 _ (by decide) (by decide), f13.1 (10, 0) (by decide) (by decide) (by decide) (by decide) (by decide) (by decide) (by decide), f10, e6, ww_up_n (by decide), e4]
          by_cases e : q = r
          · subst e; rw [ww_up_s]
          · rw [ww_up_k e]; exact h10 q (by omega)
  have hf3 : ∀ x : ww_N, x ≠ (8, 0) → τ3 x = τ x := fun x hx => by rw [e3, ww_up_f hx, e2, ww_up_f hx, e1, ww_up_f hx]
  have zero : ∀ (n a : Nat) (σ : ww_M), a + n = 8 → (∀ x : ww_N, x ≠ (17, 0) → σ x = τ3 x) → (∀ q, q < a → σ (17, 0) q = nI 0) → ww_W g mX0_become E Q 25 [some (.inr (.inr (8, 0))), some (.inr (.inr (4, 0))), some (.inl (nI a))] [] σ := by
    intro n
    induction n with
    | zero =>
      intro a σ ha ho hz
      have go : ww_W g mX0_become E Q 46 [some (.inr (.inr (8, 0))), some (.inr (.inr (4, 0))), some (.inl (nI 0))] [] σ := by
        refine main rels.length 0 σ R (by omega) (hR.keep (fun x hx => by rw [ho x (fun e => by rw [e] at hx; omega), hf3 x (fun e => by rw [e] at hx; omega)])) (fun _ _ => rfl) (fun q hq => absurd hq (Nat.not_lt_zero q)) (fun x _ _ h8 _ _ _ _ _ h17 => by rw [ho x (fun e => h17 (by rw [e])), hf3 x (fun e => h8 (by rw [e]))]) ?_ (fun q hq => absurd hq (Nat.not_lt_zero q)) ⟨⟨Nat.zero_le _, ?_, fun m hm => absurd hm (Nat.not_lt_zero m)⟩, fun a2 ha2 => ⟨hz a2 (by omega), fun k hk => absurd hk (Nat.not_lt_zero k)⟩, ?_, rfl, fun m hm => absurd hm (Nat.not_lt_zero m), fun b hb => absurd hb List.not_mem_nil, fun q hq => absurd hq (Nat.not_lt_zero q)⟩
        · rw [ho _ (by decide), e3, ww_up_k (by decide), e2, ww_up_k (by decide), e1, ww_up_s]
        · rw [ho _ (by decide), e3, ww_up_k (by decide), e2, ww_up_s]; rfl
        · rw [ho _ (by decide), e3, ww_up_s]; rfl
      subst hQ
      refine b_X0_become_25 ⟨fun _ => go, fun c => ?_⟩
      rw [zle (by omega) (by omega)] at c; omega
    | succ n ih =>
      intro a σ ha ho hz
      have st : ∀ τ2 : ww_M, τ2 = ww_up σ (17, 0) a (nI 0) → ww_W g mX0_become E Q 25 [some (.inr (.inr (8, 0))), some (.inr (.inr (4, 0))), some (.inl (nI a + nI 1))] [] τ2 := by
        intro τ2 e
        rw [zadd]
        refine ih (a + 1) τ2 (by omega) (fun x hx => by rw [e, ww_up_f hx, ho x hx]) (fun q hq => ?_)
        rw [e]
        by_cases e2 : q = a
        · subst e2; rw [ww_up_s]
        · rw [ww_up_k e2]; exact hz q (by omega)
      subst hQ
      refine b_X0_become_25 ⟨fun c => ?_, fun _ => ⟨a, rfl, by omega, st⟩⟩
      rw [zle (by omega) (by omega)] at c; omega
  exact zero 8 0 τ3 (by omega) (fun _ _ => rfl) (fun q hq => absurd hq (Nat.not_lt_zero q))
end BUILD
