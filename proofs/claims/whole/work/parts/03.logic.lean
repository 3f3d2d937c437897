/-! ===== worlds by name: a cell's name is (kind, number); what an int cell holds is tau name place ===== -/
abbrev ww_N : Type := Nat × Nat
abbrev ww_V : Type := Int32 ⊕ (Int64 ⊕ ww_N)
abbrev ww_M : Type := ww_N → Nat → Int32
abbrev ww_S : Type := (Nat × List (Option ww_N)) ⊕ (Nat ⊕ (Nat × Nat × (Nat → ww_N)))
abbrev ww_G : Type := va_G × (ww_N → Nat) × (Nat → ClassId)
abbrev ww_D : Type := MethodName × ByteArray × Nat × Option FieldType × Nat × Nat
abbrev ww_E := Program × Launch × Env × State × MethodId × Array Value × List Frame × Method × Code
def ww_cap (r : Nat) : Nat := if r = 16 then 540 else if r < 12 then 60 else if r < 16 then 14 else if r < 20 then 60 else 14
theorem ww_cap_lt (r : Nat) : ww_cap r < 2147483648 := by
  unfold ww_cap
  split
  · omega
  · split
    · omega
    · split
      · omega
      · split <;> omega
/-- a cell's shape: an object (its class's number; its fields: some = the cell that it always names, none = an int), ints (how many), cells (array class, how many, which) -/
def ww_sh (n : ww_N) : ww_S := match n with
  | (0, _) => .inl (5, [some (1, 0), some (2, 0), some (4, 0), some (8, 0), some (20, 0), some (21, 16), some (21, 17), some (21, 18), none, none, none])
  | (1, _) => .inr (.inr (1, 6, fun j => (21, j)))
  | (2, _) => .inl (4, [some (3, 0), none, none, none, none, none])
  | (3, _) => .inr (.inl 100)
  | (4, _) => .inl (1, [some (5, 0), none, some (6, 0), none, none, none, some (7, 0), none])
  | (5, _) => .inr (.inr (1, 6, fun j => (21, 6 + j)))
  | (6, _) => .inr (.inl 60)
  | (7, _) => .inr (.inl 4)
  | (8, _) => .inl (0, [some (9, 0), none, some (10, 0), some (11, 0), some (21, 15), some (12, 0), none, none, some (13, 0), some (14, 0), some (15, 0), some (17, 0), some (18, 0)])
  | (9, _) => .inr (.inr (1, 3, fun j => (21, 12 + j)))
  | (10, _) => .inr (.inl 3)
  | (11, _) => .inr (.inl 3)
  | (12, _) => .inr (.inr (1, 84, fun j => (21, 20 + j)))
  | (13, _) => .inr (.inl 84)
  | (14, _) => .inr (.inl 84)
  | (15, _) => .inr (.inr (2, 8, fun j => (16, j)))
  | (16, _) => .inr (.inl 84)
  | (17, _) => .inr (.inl 8)
  | (18, _) => .inr (.inr (2, 3, fun j => (19, j)))
  | (19, _) => .inr (.inl 4)
  | (20, _) => .inl (3, [some (8, 0), some (21, 19), none, none, none, none, none])
  | (21, r) => .inl (2, [some (22, r), none])
  | (22, r) => .inr (.inl (ww_cap r))
  | (30, _) => .inl (6, [some (31, 0), some (32, 0), none, some (33, 0), some (34, 0), some (35, 0), none, some (36, 0), some (37, 0), some (38, 0), none, some (39, 0), none, some (40, 0), none, none, none, none, some (41, 0), some (42, 0), some (43, 0), none, none, some (44, 0), none, none, some (45, 0), some (46, 0), none, none, some (47, 0), some (48, 0)])
  | (31, _) => .inr (.inl 42)
  | (32, _) => .inr (.inl 3)
  | (33, _) => .inr (.inl 1176)
  | (34, _) => .inr (.inl 84)
  | (35, _) => .inr (.inl 84)
  | (36, _) => .inr (.inl 360)
  | (37, _) => .inr (.inl 6)
  | (38, _) => .inr (.inl 3)
  | (39, _) => .inr (.inl 700)
  | (40, _) => .inr (.inl 12)
  | (41, _) => .inr (.inl 700)
  | (42, _) => .inr (.inl 60)
  | (43, _) => .inr (.inl 60)
  | (44, _) => .inr (.inl 100)
  | (45, _) => .inr (.inl 5)
  | (46, _) => .inr (.inl 61)
  | (47, _) => .inr (.inl 360)
  | (48, _) => .inr (.inl 6)
  | _ => .inr (.inl 0)
def ww_cnt (k : Nat) : Nat := if k = 16 then 8 else if k = 19 then 3 else if k = 21 then 104 else if k = 22 then 104 else if k < 23 then 1 else if k < 30 then 0 else if k < 49 then 1 else 0
def ww_in (n : ww_N) : Prop := n.2 < ww_cnt n.1
theorem ww_i1 (k : Nat) (h : 0 < ww_cnt k) : ww_in (k, 0) := h
def ww_v (g : ww_G) : ww_V → Value
  | .inl x => .int x
  | .inr (.inl x) => .long x
  | .inr (.inr n) => .ref (g.2.1 n)
def ww_fs (g : ww_G) (τ : ww_M) (n : ww_N) : Nat → List (Option ww_N) → List Value
  | _, [] => []
  | k, some x :: r => .ref (g.2.1 x) :: ww_fs g τ n (k + 1) r
  | k, none :: r => .int (τ n k) :: ww_fs g τ n (k + 1) r
def ww_fv (g : ww_G) (τ : ww_M) (n : ww_N) (k : Nat) : Option ww_N → Value
  | some x => .ref (g.2.1 x)
  | none => .int (τ n k)
theorem ww_fs_at (g : ww_G) (τ : ww_M) (n : ww_N) : ∀ (fs : List (Option ww_N)) (i k : Nat), (ww_fs g τ n i fs)[k]? = (fs[k]?).map (ww_fv g τ n (i + k))
  | [], i, k => by simp [ww_fs]
  | some x :: r, i, 0 => by simp [ww_fs, ww_fv]
  | none :: r, i, 0 => by simp [ww_fs, ww_fv]
  | some x :: r, i, k + 1 => by
    rw [ww_fs, List.getElem?_cons_succ, List.getElem?_cons_succ, ww_fs_at g τ n r (i + 1) k, show i + 1 + k = i + (k + 1) by omega]
  | none :: r, i, k + 1 => by
    rw [ww_fs, List.getElem?_cons_succ, List.getElem?_cons_succ, ww_fs_at g τ n r (i + 1) k, show i + 1 + k = i + (k + 1) by omega]
theorem ww_fs_len (g : ww_G) (τ : ww_M) (n : ww_N) : ∀ (fs : List (Option ww_N)) (i : Nat), (ww_fs g τ n i fs).length = fs.length
  | [], i => rfl
  | some x :: r, i => by rw [ww_fs, List.length_cons, List.length_cons, ww_fs_len g τ n r]
  | none :: r, i => by rw [ww_fs, List.length_cons, List.length_cons, ww_fs_len g τ n r]
theorem ww_fs_congr (g : ww_G) {τ τ' : ww_M} {n : ww_N} (h : τ n = τ' n) : ∀ (fs : List (Option ww_N)) (i : Nat), ww_fs g τ n i fs = ww_fs g τ' n i fs
  | [], i => rfl
  | some x :: r, i => by rw [ww_fs, ww_fs, ww_fs_congr g h r]
  | none :: r, i => by rw [ww_fs, ww_fs, ww_fs_congr g h r, h]
def ww_c (g : ww_G) (τ : ww_M) (n : ww_N) : va_E := match ww_sh n with
  | .inl q => .inr (q.1, ww_fs g τ n 0 q.2)
  | .inr (.inl len) => .inl (g.2.2 0, len, .inl (τ n))
  | .inr (.inr q) => .inl (g.2.2 q.1, q.2.1, .inr (.inr (.inr (.inr (fun j => some (g.2.1 (q.2.2 j)))))))
theorem ww_c_ob {g : ww_G} {τ : ww_M} {n : ww_N} {ci : Nat} {fs : List (Option ww_N)} (h : ww_sh n = .inl (ci, fs)) : ww_c g τ n = .inr (ci, ww_fs g τ n 0 fs) := by
  unfold ww_c; rw [h]
theorem ww_c_ia {g : ww_G} {τ : ww_M} {n : ww_N} {len : Nat} (h : ww_sh n = .inr (.inl len)) : ww_c g τ n = .inl (g.2.2 0, len, .inl (τ n)) := by
  unfold ww_c; rw [h]
theorem ww_c_ra {g : ww_G} {τ : ww_M} {n : ww_N} {a len : Nat} {f : Nat → ww_N} (h : ww_sh n = .inr (.inr (a, len, f))) : ww_c g τ n = .inl (g.2.2 a, len, .inr (.inr (.inr (.inr (fun j => some (g.2.1 (f j))))))) := by
  unfold ww_c; rw [h]
theorem ww_c_congr (g : ww_G) {τ τ' : ww_M} {n : ww_N} (h : τ n = τ' n) : ww_c g τ n = ww_c g τ' n := by
  unfold ww_c
  split
  · rw [ww_fs_congr g h]
  · rw [h]
  · rfl
/-- what a place of a cell holds becomes v -/
def ww_up (τ : ww_M) (n : ww_N) (k : Nat) (v : Int32) : ww_M := fun a b => if a = n ∧ b = k then v else τ a b
theorem ww_up_s (τ : ww_M) (n : ww_N) (k : Nat) (v : Int32) : ww_up τ n k v n k = v := if_pos ⟨rfl, rfl⟩
theorem ww_up_k {τ : ww_M} {n a : ww_N} {k b : Nat} {v : Int32} (h : b ≠ k) : ww_up τ n k v a b = τ a b := if_neg (fun q => h q.2)
theorem ww_up_n {τ : ww_M} {n a : ww_N} {k b : Nat} {v : Int32} (h : a ≠ n) : ww_up τ n k v a b = τ a b := if_neg (fun q => h q.1)
theorem ww_up_f {τ : ww_M} {n a : ww_N} {k : Nat} {v : Int32} (h : a ≠ n) : ww_up τ n k v a = τ a := funext fun _ => ww_up_n h
theorem ww_up_row (τ : ww_M) (n : ww_N) (k : Nat) (v : Int32) : ww_up τ n k v n = upd (τ n) k v := by
  funext j
  by_cases h : j = k
  · subst h; simp [ww_up, upd]
  · simp [ww_up, upd, h]
def ww_P (g : ww_G) (τ : ww_M) (H : Heap) : Prop := ∀ n : ww_N, ww_in n → va_at g.1 vwCl (g.2.1 n, ww_c g τ n) H
def ww_J (g : ww_G) : Prop := ∀ n n' : ww_N, ww_in n → ww_in n' → g.2.1 n = g.2.1 n' → n = n'
def ww_A (g : ww_G) : Nat → Prop := fun q => ∃ n : ww_N, ww_in n ∧ q = g.2.1 n
def ww_ty (g : ww_G) : List (ClassId × FieldType) := [(g.2.2 0, .int), (g.2.2 1, .object "PieceWords$Row"), (g.2.2 2, .array .int)]
/-- one cell of the world, as the kit has worlds -/
theorem ww_P.one {g : ww_G} {τ : ww_M} {H : Heap} (h : ww_P g τ H) {n : ww_N} (hn : ww_in n) {e : va_E} (he : ww_c g τ n = e) : va_P g.1 vwCl [(g.2.1 n, e)] H := by
  intro k q hk
  have hz : k < 1 := (List.getElem?_eq_some_iff.mp hk).1
  rw [show k = 0 by omega] at hk
  cases hk
  rw [← he]
  exact h n hn
/-- a cell is written: the others stay -/
theorem ww_P.put {g : ww_G} {τ τ' : ww_M} {H H1 : Heap} (h : ww_P g τ H) (hJ : ww_J g) {n : ww_N} (hn : ww_in n) (he : va_at g.1 vwCl (g.2.1 n, ww_c g τ' n) H1) (ho : ∀ a : ww_N, a ≠ n → τ' a = τ a) (oq : ∀ q : Nat, q ≠ g.2.1 n → H1[q]? = H[q]?) : ww_P g τ' H1 := by
  intro a ha
  by_cases hab : a = n
  · subst hab; exact he
  · rw [ww_c_congr g (ho a hab)]
    exact (h a ha).kept (oq _ (fun z => hab (hJ a n ha hn z)))
def ww_nF : List (String × Nat × String × String × String × String) := [("PieceWords$Shortening", 28, "PieceWords$Row", "count", "I", "PieceWords"), ("PieceWords$Members", 90, "PieceWords$Row", "count", "I", "PieceWords"), ("PieceWords", 100, "PieceWords$Row", "count", "I", "PieceWords"), ("PieceWords$Reader", 84, "PieceWords$Row", "count", "I", "PieceWords"), ("PieceWords$Reader", 31, "PieceWords$Text", "size", "I", "PieceWords"), ("PieceWords", 66, "PieceWords$Text", "size", "I", "PieceWords"), ("PieceWords$Members", 70, "PieceWords$Reader", "read", "[LPieceWords$Row;", "PieceWords"), ("PieceWords", 84, "PieceWords$Reader", "read", "[LPieceWords$Row;", "PieceWords"), ("PieceWords$Members", 55, "PieceWords$Reader", "count", "I", "PieceWords"), ("PieceWords", 78, "PieceWords$Reader", "count", "I", "PieceWords"), ("PieceWords", 97, "PieceWords$Members", "relator", "[LPieceWords$Row;", "PieceWords"), ("PieceWords", 94, "PieceWords$Members", "relatorCount", "I", "PieceWords"), ("PieceWords", 101, "PieceWords$Members", "piece", "[I", "PieceWords"), ("PieceWords", 105, "PieceWords$Members", "ownFirst", "[I", "PieceWords"), ("PieceWords", 200, "PieceWords$Members", "count", "I", "PieceWords"), ("PieceWords$Shortening", 31, "PieceWords$Members", "shortest", "I", "PieceWords"), ("PieceWords", 91, "PieceWords$Shortening", "kind", "I", "PieceWords"), ("PieceWords", 173, "PieceWords$Shortening", "place", "I", "PieceWords"), ("PieceWords", 176, "PieceWords$Shortening", "member", "I", "PieceWords"), ("PieceWords", 179, "PieceWords$Shortening", "matched", "I", "PieceWords")]
def ww_nM : List (String × Nat × MethodName × String) := [("PieceWords", 20, ⟨"PieceWords$Text", "<init>", "()V"⟩, "PieceWords"), ("PieceWords$Row", 29, ⟨"PieceWords", "opposite", "(I)I"⟩, "PieceWords"), ("PieceWords$Shortening", 84, ⟨"PieceWords", "opposite", "(I)I"⟩, "PieceWords")]
def ww_NW (U : State) : Prop := (∀ q ∈ ww_nF, va_Nw (.fieldLinkNest q.1 q.2.1 q.2.2.1 q.2.2.2.1 q.2.2.2.2.1 q.2.2.2.2.2) U) ∧ ∀ q ∈ ww_nM, va_Nw (.methodLinkNest q.1 q.2.1 q.2.2.1 q.2.2.2) U
theorem ww_NW.warm {s U : State} (hW : s.WarmedH U.vm) (h : ww_NW s) : ww_NW U := ⟨fun q hq => va_Nw.warmF hW (h.1 q hq), fun q hq => va_Nw.warmM hW (h.2 q hq)⟩
theorem ww_NW.same {u U : State} (e : u.vm = U.vm) (h : ww_NW u) : ww_NW U := ⟨fun q hq => va_Nw.same rfl e (h.1 q hq), fun q hq => va_Nw.same rfl e (h.2 q hq)⟩
/-! the locals of a frame -/
def ww_L (g : ww_G) (ls : Array Slot) (nL : Nat) (P : List (Option ww_V)) : Prop := ls.size = nL ∧ lv_wf ls ∧ ∀ (i : Nat) (v : ww_V), P[i]? = some (some v) → ls[i]? = some (.val (ww_v g v))
def ww_lv (g : ww_G) : Nat → List (Option ww_V) → List (Nat × Value)
  | _, [] => []
  | i, none :: r => ww_lv g (i + 1) r
  | i, some v :: r => (i, ww_v g v) :: ww_lv g (i + 1) r
theorem ww_lv_of (g : ww_G) : ∀ (P : List (Option ww_V)) (i k : Nat) (v : ww_V), P[k]? = some (some v) → (i + k, ww_v g v) ∈ ww_lv g i P
  | [], i, k, v, h => by simp at h
  | none :: r, i, 0, v, h => by simp at h
  | none :: r, i, k + 1, v, h => by
    rw [List.getElem?_cons_succ] at h
    rw [ww_lv, show i + (k + 1) = i + 1 + k by omega]
    exact ww_lv_of g r (i + 1) k v h
  | some x :: r, i, 0, v, h => by
    rw [List.getElem?_cons_zero] at h
    cases h
    rw [ww_lv]
    exact List.mem_cons_self
  | some x :: r, i, k + 1, v, h => by
    rw [List.getElem?_cons_succ] at h
    rw [ww_lv, show i + (k + 1) = i + 1 + k by omega]
    exact List.mem_cons_of_mem _ (ww_lv_of g r (i + 1) k v h)
theorem ww_lv_to (g : ww_G) : ∀ (P : List (Option ww_V)) (i : Nat) (q : Nat × Value), q ∈ ww_lv g i P → ∃ (k : Nat) (v : ww_V), P[k]? = some (some v) ∧ q = (i + k, ww_v g v)
  | [], i, q, h => by simp [ww_lv] at h
  | none :: r, i, q, h => by
    rw [ww_lv] at h
    obtain ⟨k, v, h1, h2⟩ := ww_lv_to g r (i + 1) q h
    exact ⟨k + 1, v, by rw [List.getElem?_cons_succ]; exact h1, by rw [h2, show i + 1 + k = i + (k + 1) by omega]⟩
  | some x :: r, i, q, h => by
    rw [ww_lv] at h
    rcases List.mem_cons.mp h with h | h
    · exact ⟨0, x, rfl, h⟩
    · obtain ⟨k, v, h1, h2⟩ := ww_lv_to g r (i + 1) q h
      exact ⟨k + 1, v, by rw [List.getElem?_cons_succ]; exact h1, by rw [h2, show i + 1 + k = i + (k + 1) by omega]⟩
theorem ww_L.has {g : ww_G} {ls : Array Slot} {nL : Nat} {P : List (Option ww_V)} (h : ww_L g ls nL P) : lv_has ls nL (ww_lv g 0 P) := by
  refine ⟨h.1, h.2.1, fun q hq => ?_⟩
  obtain ⟨k, v, h1, h2⟩ := ww_lv_to g P 0 q hq
  subst h2
  rw [Nat.zero_add]
  exact h.2.2 k v h1
theorem ww_L.has1 {g : ww_G} {ls : Array Slot} {nL : Nat} {P : List (Option ww_V)} (h : ww_L g ls nL P) {i : Nat} {v : ww_V} (hv : P[i]? = some (some v)) : lv_has ls nL ((i, ww_v g v) :: ww_lv g 0 P) := by
  refine ⟨h.1, h.2.1, fun q hq => ?_⟩
  rcases List.mem_cons.mp hq with e | e
  · subst e; exact h.2.2 i v hv
  · exact h.has.2.2 q e
/-- no long begins just ahead of a place -/
def ww_nl (P : List (Option ww_V)) : Nat → Bool
  | 0 => true
  | k + 1 => match P[k]? with
    | some (some (.inr (.inl _))) => false
    | _ => true
theorem ww_nl_ok {g : ww_G} {P : List (Option ww_V)} {i k : Nat} {v : ww_V} (h : ww_nl P i = true) (hk : k + 1 = i) (hv : P[k]? = some (some v)) : ((ww_v g v).category == 2) = false := by
  subst hk
  rw [ww_nl, hv] at h
  match v, h with
  | .inl x, h => rfl
  | .inr (.inr n), h => rfl
theorem ww_L.st1 {g : ww_G} {ls : Array Slot} {nL : Nat} {P : List (Option ww_V)} {i : Nat} {v : ww_V} {l : List (Nat × Value)} (hl : ∀ (k : Nat) (w : ww_V), P[k]? = some (some w) → (k, ww_v g w) ∈ l) (hn : ww_nl P i = true) (h : lv_has ls nL ((i, ww_v g v) :: l.filter (fun q => !(q.1 == i) && !(q.1 + 1 == i && q.2.category == 2)))) : ww_L g ls nL (P.set i (some v)) := by
  refine ⟨h.1, h.2.1, fun k w hk => ?_⟩
  by_cases hki : k = i
  · subst hki
    rw [List.getElem?_set] at hk
    split at hk
    · split at hk
      · cases hk
        exact h.2.2 (k, ww_v g v) List.mem_cons_self
      · cases hk
    · rename_i hx; exact absurd rfl hx
  · rw [List.getElem?_set_ne (Ne.symm hki)] at hk
    refine h.2.2 (k, ww_v g w) (List.mem_cons_of_mem _ (List.mem_filter.mpr ⟨hl k w hk, ?_⟩))
    have h1 : (k == i) = false := by simpa using hki
    by_cases h2 : k + 1 = i
    · simp [h1, ww_nl_ok (g := g) hn h2 hk]
    · simp [h1, h2]
theorem ww_L.st2 {g : ww_G} {ls : Array Slot} {nL : Nat} {P : List (Option ww_V)} {i : Nat} {v : ww_V} {l : List (Nat × Value)} (hl : ∀ (k : Nat) (w : ww_V), P[k]? = some (some w) → (k, ww_v g w) ∈ l) (hn : ww_nl P i = true) (h : lv_has ls nL ((i, ww_v g v) :: l.filter (fun q => !(q.1 == i) && (!(q.1 == i + 1) && !(q.1 + 1 == i && q.2.category == 2))))) : ww_L g ls nL ((P.set i (some v)).set (i + 1) none) := by
  refine ⟨h.1, h.2.1, fun k w hk => ?_⟩
  by_cases hk1 : k = i + 1
  · subst hk1
    rw [List.getElem?_set] at hk
    split at hk
    · split at hk <;> cases hk
    · rename_i hx; exact absurd rfl hx
  · rw [List.getElem?_set_ne (Ne.symm hk1)] at hk
    by_cases hki : k = i
    · subst hki
      rw [List.getElem?_set] at hk
      split at hk
      · split at hk
        · cases hk
          exact h.2.2 (k, ww_v g v) List.mem_cons_self
        · cases hk
      · rename_i hx; exact absurd rfl hx
    · rw [List.getElem?_set_ne (Ne.symm hki)] at hk
      refine h.2.2 (k, ww_v g w) (List.mem_cons_of_mem _ (List.mem_filter.mpr ⟨hl k w hk, ?_⟩))
      have h1 : (k == i) = false := by simpa using hki
      have h3 : (k == i + 1) = false := by simpa using hk1
      by_cases h2 : k + 1 = i
      · simp [h1, h3, ww_nl_ok (g := g) hn h2 hk]
      · simp [h1, h3, h2]
def ww_le : List (Option ww_V) → List (Option ww_V) → Prop
  | [], _ => True
  | none :: a, _ :: b => ww_le a b
  | some v :: a, some x :: b => v = x ∧ ww_le a b
  | none :: a, [] => ww_le a []
  | some _ :: _, _ => False
theorem ww_le_at : ∀ (a b : List (Option ww_V)), ww_le a b → ∀ (i : Nat) (v : ww_V), a[i]? = some (some v) → b[i]? = some (some v)
  | [], b, _, i, v, h => by simp at h
  | none :: a, x :: b, hl, 0, v, h => by simp at h
  | none :: a, x :: b, hl, i + 1, v, h => by
    rw [List.getElem?_cons_succ] at h ⊢
    exact ww_le_at a b (by simpa [ww_le] using hl) i v h
  | none :: a, [], hl, 0, v, h => by simp at h
  | none :: a, [], hl, i + 1, v, h => by
    rw [List.getElem?_cons_succ] at h
    have := ww_le_at a [] (by simpa [ww_le] using hl) i v h
    simp at this
  | some y :: a, some x :: b, hl, 0, v, h => by
    rw [ww_le] at hl
    rw [List.getElem?_cons_zero] at h ⊢
    rw [← hl.1]; exact h
  | some y :: a, some x :: b, hl, i + 1, v, h => by
    rw [ww_le] at hl
    rw [List.getElem?_cons_succ] at h ⊢
    exact ww_le_at a b hl.2 i v h
  | some y :: a, none :: b, hl, i, v, h => by simp [ww_le] at hl
  | some y :: a, [], hl, i, v, h => by simp [ww_le] at hl
theorem ww_le_nil (b : List (Option ww_V)) : ww_le [] b := by unfold ww_le; trivial
theorem ww_le_n {a b : List (Option ww_V)} {x : Option ww_V} (h : ww_le a b) : ww_le (none :: a) (x :: b) := by unfold ww_le; exact h
theorem ww_le_s {a b : List (Option ww_V)} {v : ww_V} (h : ww_le a b) : ww_le (some v :: a) (some v :: b) := by unfold ww_le; exact ⟨rfl, h⟩
theorem ww_L.weak {g : ww_G} {ls : Array Slot} {nL : Nat} {P P' : List (Option ww_V)} (hle : ww_le P' P) (h : ww_L g ls nL P) : ww_L g ls nL P' := ⟨h.1, h.2.1, fun i v hv => h.2.2 i v (ww_le_at P' P hle i v hv)⟩
/-- the locals with which a method begins -/
def ww_P0 : List ww_V → List (Option ww_V)
  | [] => []
  | .inr (.inl x) :: r => some (.inr (.inl x)) :: none :: ww_P0 r
  | .inl x :: r => some (.inl x) :: ww_P0 r
  | .inr (.inr n) :: r => some (.inr (.inr n)) :: ww_P0 r
theorem ww_P0_in (g : ww_G) : ∀ (as : List ww_V) (i k : Nat) (v : ww_V), (ww_P0 as)[k]? = some (some v) → (i + k, ww_v g v) ∈ lv_args i (as.map (ww_v g))
  | [], i, k, v, h => by simp [ww_P0] at h
  | .inr (.inl x) :: r, i, 0, v, h => by
    simp only [ww_P0, List.getElem?_cons_zero] at h
    cases h
    exact List.mem_cons_self
  | .inr (.inl x) :: r, i, 1, v, h => by simp [ww_P0] at h
  | .inr (.inl x) :: r, i, k + 2, v, h => by
    simp only [ww_P0, List.getElem?_cons_succ] at h
    have := ww_P0_in g r (i + 2) k v h
    rw [List.map_cons, lv_args, show i + (k + 2) = i + 2 + k by omega]
    exact List.mem_cons_of_mem _ this
  | .inl x :: r, i, 0, v, h => by
    simp only [ww_P0, List.getElem?_cons_zero] at h
    cases h
    exact List.mem_cons_self
  | .inl x :: r, i, k + 1, v, h => by
    simp only [ww_P0, List.getElem?_cons_succ] at h
    have := ww_P0_in g r (i + 1) k v h
    rw [List.map_cons, lv_args, show i + (k + 1) = i + 1 + k by omega]
    exact List.mem_cons_of_mem _ this
  | .inr (.inr n) :: r, i, 0, v, h => by
    simp only [ww_P0, List.getElem?_cons_zero] at h
    cases h
    exact List.mem_cons_self
  | .inr (.inr n) :: r, i, k + 1, v, h => by
    simp only [ww_P0, List.getElem?_cons_succ] at h
    have := ww_P0_in g r (i + 1) k v h
    rw [List.map_cons, lv_args, show i + (k + 1) = i + 1 + k by omega]
    exact List.mem_cons_of_mem _ this
/-! ===== the judgement ===== -/
def ww_R (d : ww_D) : Room := { frames := d.2.2.2.2.1, cells := 0, slots := 0, locals := d.2.2.2.2.2 }
def ww_Cx (g : ww_G) (d : ww_D) (E : ww_E) : Prop := E.1.tables.exec = Jvm.exec ∧ E.2.2.2.2.2.2.2.2.code = d.2.1 ∧ E.2.2.2.2.2.2.2.1.sig.returnType = d.2.2.2.1 ∧ E.2.2.2.2.2.2.2.2.maxLocals = d.2.2.1 ∧ E.2.2.2.1.vm.findClass d.1.cls = some E.2.2.2.2.1.cls ∧ (∀ w ∈ ww_ws, w.before E.2.2.2.2.2.1 E.2.2.2.1 = true) ∧ E.2.2.2.2.2.2.2.1.locks = false ∧ va_K g.1 vwCl (ww_ty g) E.2.2.2.1 ∧ ww_J g ∧ ww_NW E.2.2.2.1
def ww_Q (g : ww_G) (Q : Option ww_V → ww_M → Prop) : Array Value → State → Outcome → State → Prop := fun _ st oc t => (∃ (r : Option ww_V) (τ : ww_M), oc = .returned (r.map (ww_v g)) ∧ Q r τ ∧ ww_P g τ t.heap) ∧ va_F (ww_A g) st t
def ww_W (g : ww_G) (d : ww_D) (E : ww_E) (Q : Option ww_V → ww_M → Prop) (pc : Nat) (P : List (Option ww_V)) (st : List ww_V) (τ : ww_M) : Prop :=
  ww_Cx g d E → ∀ (H : Heap) (locs : List Loc) (ls : Array Slot), ww_P g τ H → va_S (ww_A g) E.2.2.2.1.heap H locs → ww_L g ls d.2.2.1 P →
    W E.1 E.2.1 E.2.2.1 (ww_R d) E.2.2.2.1 E.2.2.2.2.1 E.2.2.2.2.2.1 E.2.2.2.2.2.2.1 E.2.2.2.2.2.2.2.1 E.2.2.2.2.2.2.2.2 H locs 0 0 (MQ E.2.2.2.2.2.2.1 (ww_Q g Q) E.2.2.2.2.2.1 E.2.2.2.1 0 0 (ww_A g)) (F0 E.2.2.2.2.1 pc ls (st.map (ww_v g)))
def ww_U (g : ww_G) (τ : ww_M) (U : State) : Prop := ww_P g τ U.heap ∧ va_K g.1 vwCl (ww_ty g) U ∧ ww_NW U ∧ ww_J g
/-- a method's contract: from the world tau, with the answers as, it ends with Q -/
def ww_T (l : Launch) (g : ww_G) (d : ww_D) (as : List ww_V) (τ : ww_M) (Q : Option ww_V → ww_M → Prop) : Prop :=
  Met l d.1 (.code d.1 d.2.1 d.2.2.1 d.2.2.2.1 :: ww_ws) (ww_R d) (va_Pc (as.map (ww_v g)) (ww_U g τ)) (ww_Q g Q) 0 0 (ww_A g)
def ww_QI (Post : Int32 → ww_M → Prop) : Option ww_V → ww_M → Prop := fun r τ => ∃ v : Int32, r = some (.inl v) ∧ Post v τ
def ww_QL (Post : Int64 → ww_M → Prop) : Option ww_V → ww_M → Prop := fun r τ => ∃ v : Int64, r = some (.inr (.inl v)) ∧ Post v τ
def ww_QV (Post : ww_M → Prop) : Option ww_V → ww_M → Prop := fun r τ => r = none ∧ Post τ
theorem ww_T.imp {l : Launch} {g : ww_G} {d : ww_D} {as : List ww_V} {τ : ww_M} {Q Q' : Option ww_V → ww_M → Prop} (h : ww_T l g d as τ Q) (hi : ∀ r t, Q r t → Q' r t) : ww_T l g d as τ Q' := by
  intro p e ha hc hk s m args below hf hfit hP hK
  obtain ⟨k, o, h1, h2, h3, ⟨⟨r, t, e1, e2, e3⟩, h5⟩, h6⟩ := h p e ha hc hk s m args below hf hfit hP hK
  exact ⟨k, o, h1, h2, h3, ⟨⟨r, t, e1, hi _ _ e2, e3⟩, h5⟩, h6⟩
section RULES
variable {l : Launch} {g : ww_G} {d : ww_D} {E : ww_E} {Q : Option ww_V → ww_M → Prop} {pc : Nat} {P : List (Option ww_V)} {st : List ww_V} {τ : ww_M}
theorem ww_weak {P' : List (Option ww_V)} (hle : ww_le P' P) (k : ww_W g d E Q pc P' st τ) : ww_W g d E Q pc P st τ := fun C H locs ls hP hS hl => k C H locs ls hP hS (hl.weak hle)
theorem ww_enter {as : List ww_V} (hy : plainName d.1.cls = true) (hlen : (lg_sl (as.map (ww_v g))).length ≤ d.2.2.1) (hP : P = ww_P0 as ++ List.replicate (d.2.2.1 - (ww_P0 as).length) none) (k : ∀ E : ww_E, ww_W g d E Q 0 P [] τ) : ww_T l g d as τ Q := by
  refine Met.ofW (cc := d.2.1) (maxL := d.2.2.1) (ret := d.2.2.2.1) hy rfl ?_
  intro p e s m args below meth c s₁ B hml hv
  obtain ⟨rfl, hU, hK, hN, hJ⟩ := hv
  have hts := atoms_spec (ws := .code d.1 d.2.1 d.2.2.1 d.2.2.2.1 :: ww_ws) B.pre
  have hown : s.vm.findClass d.1.cls = some m.cls := findClass_of_methodNamed B.named
  have hl := lv_entry (as.map (ww_v g)) (n := d.2.2.1) hlen
  rw [lg_entry_eq]
  refine k (p, l, e, s, m, (as.map (ww_v g)).toArray, below, meth, c) ⟨B.exec, B.bytes, B.returns, hml, hown, fun w h => hts w (List.mem_cons_of_mem _ h), B.notSynchronized, hK, hJ, hN⟩ s.heap [] _ hU va_S.rf ⟨hl.1, hl.2.1, fun i v hv => ?_⟩
  rw [hP] at hv
  have hi : (ww_P0 as)[i]? = some (some v) := by
    by_cases hlt : i < (ww_P0 as).length
    · rw [List.getElem?_append_left hlt] at hv; exact hv
    · rw [List.getElem?_append_right (by omega)] at hv
      have := List.mem_of_getElem? hv
      rw [List.mem_replicate] at this
      cases this.2
  have := ww_P0_in g as 0 i v hi
  rw [Nat.zero_add] at this
  exact hl.2.2 _ this
theorem ww_ofWF {l : Launch} {y : MethodName} {ws ws' : List Cond} {rm : Room} {Pc : Array Value → State → Prop} {Qc : Array Value → State → Outcome → State → Prop} {mc ms : Nat} {free : Addr → Prop} {cc : ByteArray} {maxL : Nat} {ret : Option FieldType}
    (hy : plainFor y = true) (hw : ws = Cond.code y cc maxL ret :: ws')
    (body : ∀ p e s m args below meth c s₁, BodyLoose p l y (headSpec ws rm) cc maxL ret e s m args below meth c s₁ → c.maxLocals = maxL → Pc args s →
      W p l e (headSpec ws rm).room s m args below meth c s.heap [] 0 0 (MQ below Qc args s mc ms free) (entryFrame m args maxL)) : Met l y ws rm Pc Qc mc ms free := by
  refine MetFree.of_bodySF (code := cc) (maxLocals := maxL) (ret := ret) hy ?_ ?_
  · intro args s m h hn
    obtain ⟨meth, c, h1, h2, h3, h4, h5, h6, -, -⟩ := Cond.code_spec hn (atoms_spec (ws := ws) h _ (by rw [hw]; exact List.mem_cons_self))
    exact ⟨meth, c, h1, h2, h3, h4, h5, h6⟩
  · intro p e s m args below meth c s₁ B hml hP _
    have hh0 : s₁.heap = s.heap := by rw [B.state]; rfl
    obtain ⟨t, a1, o, b1, b2, b3⟩ := body p e s m args below meth c s₁ B hml hP s₁ hh0 (Stand.of_body B)
    exact ⟨t, o, a1, b1, b2, ⟨b3.1, b3.2⟩⟩
theorem ww_enterF {as : List ww_V} (hy : plainFor d.1 = true) (hlen : (lg_sl (as.map (ww_v g))).length ≤ d.2.2.1) (hP : P = ww_P0 as ++ List.replicate (d.2.2.1 - (ww_P0 as).length) none) (k : ∀ E : ww_E, ww_W g d E Q 0 P [] τ) : ww_T l g d as τ Q := by
  refine ww_ofWF (cc := d.2.1) (maxL := d.2.2.1) (ret := d.2.2.2.1) hy rfl ?_
  intro p e s m args below meth c s₁ B hml hv
  obtain ⟨rfl, hU, hK, hN, hJ⟩ := hv
  have hts := atoms_spec (ws := .code d.1 d.2.1 d.2.2.1 d.2.2.2.1 :: ww_ws) B.pre
  have hown : s.vm.findClass d.1.cls = some m.cls := findClass_of_methodNamed B.named
  have hl := lv_entry (as.map (ww_v g)) (n := d.2.2.1) hlen
  rw [lg_entry_eq]
  refine k (p, l, e, s, m, (as.map (ww_v g)).toArray, below, meth, c) ⟨B.exec, B.bytes, B.returns, hml, hown, fun w h => hts w (List.mem_cons_of_mem _ h), B.notSynchronized, hK, hJ, hN⟩ s.heap [] _ hU va_S.rf ⟨hl.1, hl.2.1, fun i v hv => ?_⟩
  rw [hP] at hv
  have hi : (ww_P0 as)[i]? = some (some v) := by
    by_cases hlt : i < (ww_P0 as).length
    · rw [List.getElem?_append_left hlt] at hv; exact hv
    · rw [List.getElem?_append_right (by omega)] at hv
      have := List.mem_of_getElem? hv
      rw [List.mem_replicate] at this
      cases this.2
  have := ww_P0_in g as 0 i v hi
  rw [Nat.zero_add] at this
  exact hl.2.2 _ this
theorem ww_iconst {n : Int} {v : Int32} (pc2 : Nat) (hd : decode d.2.1 pc = .ok (.iconst n, 1)) (hv : Int32.ofInt n = v) (hp : pc + 1 = pc2) (k : ww_W g d E Q pc2 P (.inl v :: st) τ) : ww_W g d E Q pc P (st) τ := by
  subst hp
  exact fun C H locs ls hP hS hl => lv_iconst C.1 C.2.1 hd hv (k C H locs ls hP hS hl)
theorem ww_bipush {n : Int} {v : Int32} (pc2 : Nat) (hd : decode d.2.1 pc = .ok (.bipush n, 2)) (hv : (Int8.ofInt n).toInt32 = v) (hp : pc + 2 = pc2) (k : ww_W g d E Q pc2 P (.inl v :: st) τ) : ww_W g d E Q pc P (st) τ := by
  subst hp
  exact fun C H locs ls hP hS hl => lv_bipush C.1 C.2.1 hd hv (k C H locs ls hP hS hl)
theorem ww_sipush {n : Int} {v : Int32} (pc2 : Nat) (hd : decode d.2.1 pc = .ok (.sipush n, 3)) (hv : (Int16.ofInt n).toInt32 = v) (hp : pc + 3 = pc2) (k : ww_W g d E Q pc2 P (.inl v :: st) τ) : ww_W g d E Q pc P (st) τ := by
  subst hp
  exact fun C H locs ls hP hS hl => lv_sipush C.1 C.2.1 hd hv (k C H locs ls hP hS hl)
theorem ww_lconst {n : Fin 2} {v : Int64} (pc2 : Nat) (hd : decode d.2.1 pc = .ok (.lconst n, 1)) (hv : Int64.ofNat (n : Nat) = v) (hp : pc + 1 = pc2) (k : ww_W g d E Q pc2 P (.inr (.inl v) :: st) τ) : ww_W g d E Q pc P (st) τ := by
  subst hp
  exact fun C H locs ls hP hS hl => lv_lconst C.1 C.2.1 hd hv (k C H locs ls hP hS hl)
theorem ww_iadd {x y : Int32} (pc2 : Nat) (hd : decode d.2.1 pc = .ok (.iadd, 1)) (hp : pc + 1 = pc2) (k : ww_W g d E Q pc2 P (.inl (x + y) :: st) τ) : ww_W g d E Q pc P (.inl y :: .inl x :: st) τ := by
  subst hp
  exact fun C H locs ls hP hS hl => lv_iadd C.1 C.2.1 hd (k C H locs ls hP hS hl)
theorem ww_isub {x y : Int32} (pc2 : Nat) (hd : decode d.2.1 pc = .ok (.isub, 1)) (hp : pc + 1 = pc2) (k : ww_W g d E Q pc2 P (.inl (x - y) :: st) τ) : ww_W g d E Q pc P (.inl y :: .inl x :: st) τ := by
  subst hp
  exact fun C H locs ls hP hS hl => lv_isub C.1 C.2.1 hd (k C H locs ls hP hS hl)
theorem ww_imul {x y : Int32} (pc2 : Nat) (hd : decode d.2.1 pc = .ok (.imul, 1)) (hp : pc + 1 = pc2) (k : ww_W g d E Q pc2 P (.inl (x * y) :: st) τ) : ww_W g d E Q pc P (.inl y :: .inl x :: st) τ := by
  subst hp
  exact fun C H locs ls hP hS hl => lv_imul C.1 C.2.1 hd (k C H locs ls hP hS hl)
theorem ww_iand {x y : Int32} (pc2 : Nat) (hd : decode d.2.1 pc = .ok (.iand, 1)) (hp : pc + 1 = pc2) (k : ww_W g d E Q pc2 P (.inl (x &&& y) :: st) τ) : ww_W g d E Q pc P (.inl y :: .inl x :: st) τ := by
  subst hp
  exact fun C H locs ls hP hS hl => lv_iand C.1 C.2.1 hd (k C H locs ls hP hS hl)
theorem ww_ior {x y : Int32} (pc2 : Nat) (hd : decode d.2.1 pc = .ok (.ior, 1)) (hp : pc + 1 = pc2) (k : ww_W g d E Q pc2 P (.inl (x ||| y) :: st) τ) : ww_W g d E Q pc P (.inl y :: .inl x :: st) τ := by
  subst hp
  exact fun C H locs ls hP hS hl => lv_ior C.1 C.2.1 hd (k C H locs ls hP hS hl)
theorem ww_ixor {x y : Int32} (pc2 : Nat) (hd : decode d.2.1 pc = .ok (.ixor, 1)) (hp : pc + 1 = pc2) (k : ww_W g d E Q pc2 P (.inl (x ^^^ y) :: st) τ) : ww_W g d E Q pc P (.inl y :: .inl x :: st) τ := by
  subst hp
  exact fun C H locs ls hP hS hl => lv_ixor C.1 C.2.1 hd (k C H locs ls hP hS hl)
theorem ww_irem {x y : Int32} (pc2 : Nat) (hd : decode d.2.1 pc = .ok (.irem, 1)) (hp : pc + 1 = pc2) (hne : ¬ y = nI 0) (k : ww_W g d E Q pc2 P (.inl (x - x / y * y) :: st) τ) : ww_W g d E Q pc P (.inl y :: .inl x :: st) τ := by
  subst hp
  exact fun C H locs ls hP hS hl => lv_irem C.1 C.2.1 hd hne (k C H locs ls hP hS hl)
theorem ww_ineg {x : Int32} (pc2 : Nat) (hd : decode d.2.1 pc = .ok (.ineg, 1)) (hp : pc + 1 = pc2) (k : ww_W g d E Q pc2 P (.inl (0 - x) :: st) τ) : ww_W g d E Q pc P (.inl x :: st) τ := by
  subst hp
  exact fun C H locs ls hP hS hl => lv_ineg C.1 C.2.1 hd (k C H locs ls hP hS hl)
theorem ww_ishl {x y : Int32} (pc2 : Nat) (hd : decode d.2.1 pc = .ok (.ishl, 1)) (hp : pc + 1 = pc2) (k : ww_W g d E Q pc2 P (.inl (x <<< (y &&& 31)) :: st) τ) : ww_W g d E Q pc P (.inl y :: .inl x :: st) τ := by
  subst hp
  exact fun C H locs ls hP hS hl => lv_ishl C.1 C.2.1 hd (k C H locs ls hP hS hl)
theorem ww_ishr {x y : Int32} (pc2 : Nat) (hd : decode d.2.1 pc = .ok (.ishr, 1)) (hp : pc + 1 = pc2) (k : ww_W g d E Q pc2 P (.inl (x >>> (y &&& 31)) :: st) τ) : ww_W g d E Q pc P (.inl y :: .inl x :: st) τ := by
  subst hp
  exact fun C H locs ls hP hS hl => lv_ishr C.1 C.2.1 hd (k C H locs ls hP hS hl)
theorem ww_ladd {x y : Int64} (pc2 : Nat) (hd : decode d.2.1 pc = .ok (.ladd, 1)) (hp : pc + 1 = pc2) (k : ww_W g d E Q pc2 P (.inr (.inl (x + y)) :: st) τ) : ww_W g d E Q pc P (.inr (.inl y) :: .inr (.inl x) :: st) τ := by
  subst hp
  exact fun C H locs ls hP hS hl => lv_ladd C.1 C.2.1 hd (k C H locs ls hP hS hl)
theorem ww_lmul {x y : Int64} (pc2 : Nat) (hd : decode d.2.1 pc = .ok (.lmul, 1)) (hp : pc + 1 = pc2) (k : ww_W g d E Q pc2 P (.inr (.inl (x * y)) :: st) τ) : ww_W g d E Q pc P (.inr (.inl y) :: .inr (.inl x) :: st) τ := by
  subst hp
  exact fun C H locs ls hP hS hl => lv_lmul C.1 C.2.1 hd (k C H locs ls hP hS hl)
theorem ww_ldiv {x y : Int64} (pc2 : Nat) (hd : decode d.2.1 pc = .ok (.ldiv, 1)) (hp : pc + 1 = pc2) (hne : ¬ y = lN 0) (k : ww_W g d E Q pc2 P (.inr (.inl (x / y)) :: st) τ) : ww_W g d E Q pc P (.inr (.inl y) :: .inr (.inl x) :: st) τ := by
  subst hp
  exact fun C H locs ls hP hS hl => lv_ldiv C.1 C.2.1 hd hne (k C H locs ls hP hS hl)
theorem ww_lrem {x y : Int64} (pc2 : Nat) (hd : decode d.2.1 pc = .ok (.lrem, 1)) (hp : pc + 1 = pc2) (hne : ¬ y = lN 0) (k : ww_W g d E Q pc2 P (.inr (.inl (x - x / y * y)) :: st) τ) : ww_W g d E Q pc P (.inr (.inl y) :: .inr (.inl x) :: st) τ := by
  subst hp
  exact fun C H locs ls hP hS hl => lv_lrem C.1 C.2.1 hd hne (k C H locs ls hP hS hl)
theorem ww_i2l {x : Int32} (pc2 : Nat) (hd : decode d.2.1 pc = .ok (.i2l, 1)) (hp : pc + 1 = pc2) (k : ww_W g d E Q pc2 P (.inr (.inl x.toInt64) :: st) τ) : ww_W g d E Q pc P (.inl x :: st) τ := by
  subst hp
  exact fun C H locs ls hP hS hl => lv_i2l C.1 C.2.1 hd rfl (k C H locs ls hP hS hl)
theorem ww_l2i {x : Int64} (pc2 : Nat) (hd : decode d.2.1 pc = .ok (.l2i, 1)) (hp : pc + 1 = pc2) (k : ww_W g d E Q pc2 P (.inl x.toInt32 :: st) τ) : ww_W g d E Q pc P (.inr (.inl x) :: st) τ := by
  subst hp
  exact fun C H locs ls hP hS hl => lv_l2i C.1 C.2.1 hd rfl (k C H locs ls hP hS hl)
theorem ww_iload_n {kk : Fin 4} {x : Int32} (pc2 : Nat) (hd : decode d.2.1 pc = .ok (.iload_n kk, 1)) (hp : pc + 1 = pc2) (i : Nat) (hi : (kk : Nat) = i) (hv : P[i]? = some (some (.inl x))) (k : ww_W g d E Q pc2 P (.inl x :: st) τ) : ww_W g d E Q pc P st τ := by
  subst hp
  exact fun C H locs ls hP hS hl => lv_iload_n C.1 C.2.1 hd hi (hl.2.2 i _ hv) (k C H locs ls hP hS hl)
theorem ww_iload {x : Int32} (pc2 : Nat) (i : Nat) (hd : decode d.2.1 pc = .ok (.iload i, 2)) (hp : pc + 2 = pc2) (hv : P[i]? = some (some (.inl x))) (k : ww_W g d E Q pc2 P (.inl x :: st) τ) : ww_W g d E Q pc P st τ := by
  subst hp
  exact fun C H locs ls hP hS hl => lv_iload C.1 C.2.1 hd (hl.2.2 i _ hv) (k C H locs ls hP hS hl)
theorem ww_lload_n {kk : Fin 4} {x : Int64} (pc2 : Nat) (hd : decode d.2.1 pc = .ok (.lload_n kk, 1)) (hp : pc + 1 = pc2) (i : Nat) (hi : (kk : Nat) = i) (hv : P[i]? = some (some (.inr (.inl x)))) (k : ww_W g d E Q pc2 P (.inr (.inl x) :: st) τ) : ww_W g d E Q pc P st τ := by
  subst hp
  exact fun C H locs ls hP hS hl => lv_lload_n C.1 C.2.1 hd hi (hl.2.2 i _ hv) (k C H locs ls hP hS hl)
theorem ww_lload {x : Int64} (pc2 : Nat) (i : Nat) (hd : decode d.2.1 pc = .ok (.lload i, 2)) (hp : pc + 2 = pc2) (hv : P[i]? = some (some (.inr (.inl x)))) (k : ww_W g d E Q pc2 P (.inr (.inl x) :: st) τ) : ww_W g d E Q pc P st τ := by
  subst hp
  exact fun C H locs ls hP hS hl => lv_lload C.1 C.2.1 hd (hl.2.2 i _ hv) (k C H locs ls hP hS hl)
theorem ww_aload_n {kk : Fin 4} {x : ww_N} (pc2 : Nat) (hd : decode d.2.1 pc = .ok (.aload_n kk, 1)) (hp : pc + 1 = pc2) (i : Nat) (hi : (kk : Nat) = i) (hv : P[i]? = some (some (.inr (.inr x)))) (k : ww_W g d E Q pc2 P (.inr (.inr x) :: st) τ) : ww_W g d E Q pc P st τ := by
  subst hp
  exact fun C H locs ls hP hS hl => lv_aload_n C.1 C.2.1 hd hi (hl.2.2 i _ hv) (k C H locs ls hP hS hl)
theorem ww_aload {x : ww_N} (pc2 : Nat) (i : Nat) (hd : decode d.2.1 pc = .ok (.aload i, 2)) (hp : pc + 2 = pc2) (hv : P[i]? = some (some (.inr (.inr x)))) (k : ww_W g d E Q pc2 P (.inr (.inr x) :: st) τ) : ww_W g d E Q pc P st τ := by
  subst hp
  exact fun C H locs ls hP hS hl => lv_aload C.1 C.2.1 hd (hl.2.2 i _ hv) (k C H locs ls hP hS hl)
theorem ww_istore_n {kk : Fin 4} {x : Int32} (pc2 : Nat) (hd : decode d.2.1 pc = .ok (.istore_n kk, 1)) (hp : pc + 1 = pc2) (i : Nat) (hi : (kk : Nat) = i) (hn : i < d.2.2.1) (hnl : ww_nl P i = true) (P2 : List (Option ww_V)) (hP2 : (P.set i (some (.inl x))) = P2) (k : ww_W g d E Q pc2 P2 st τ) : ww_W g d E Q pc P (.inl x :: st) τ := by
  subst hp
  subst hP2
  exact fun C H locs ls hP hS hl => lv_istore_n C.1 C.2.1 hd hi hl.has hn rfl (fun ls2 h2 => k C H locs ls2 hP hS (ww_L.st1 (v := .inl x) (fun j v hv => by have := ww_lv_of g P 0 j v hv; rw [Nat.zero_add] at this; exact this) hnl h2))
theorem ww_istore {x : Int32} (pc2 : Nat) (i : Nat) (hd : decode d.2.1 pc = .ok (.istore i, 2)) (hp : pc + 2 = pc2) (hn : i < d.2.2.1) (hnl : ww_nl P i = true) (P2 : List (Option ww_V)) (hP2 : (P.set i (some (.inl x))) = P2) (k : ww_W g d E Q pc2 P2 st τ) : ww_W g d E Q pc P (.inl x :: st) τ := by
  subst hp
  subst hP2
  exact fun C H locs ls hP hS hl => lv_istore C.1 C.2.1 hd hl.has hn rfl (fun ls2 h2 => k C H locs ls2 hP hS (ww_L.st1 (v := .inl x) (fun j v hv => by have := ww_lv_of g P 0 j v hv; rw [Nat.zero_add] at this; exact this) hnl h2))
theorem ww_lstore_n {kk : Fin 4} {x : Int64} (pc2 : Nat) (hd : decode d.2.1 pc = .ok (.lstore_n kk, 1)) (hp : pc + 1 = pc2) (i : Nat) (hi : (kk : Nat) = i) (hn : i + 1 < d.2.2.1) (hnl : ww_nl P i = true) (P2 : List (Option ww_V)) (hP2 : ((P.set i (some (.inr (.inl x)))).set (i + 1) none) = P2) (k : ww_W g d E Q pc2 P2 st τ) : ww_W g d E Q pc P (.inr (.inl x) :: st) τ := by
  subst hp
  subst hP2
  exact fun C H locs ls hP hS hl => lv_lstore_n C.1 C.2.1 hd hi hl.has hn rfl (fun ls2 h2 => k C H locs ls2 hP hS (ww_L.st2 (v := .inr (.inl x)) (fun j v hv => by have := ww_lv_of g P 0 j v hv; rw [Nat.zero_add] at this; exact this) hnl h2))
theorem ww_lstore {x : Int64} (pc2 : Nat) (i : Nat) (hd : decode d.2.1 pc = .ok (.lstore i, 2)) (hp : pc + 2 = pc2) (hn : i + 1 < d.2.2.1) (hnl : ww_nl P i = true) (P2 : List (Option ww_V)) (hP2 : ((P.set i (some (.inr (.inl x)))).set (i + 1) none) = P2) (k : ww_W g d E Q pc2 P2 st τ) : ww_W g d E Q pc P (.inr (.inl x) :: st) τ := by
  subst hp
  subst hP2
  exact fun C H locs ls hP hS hl => lv_lstore C.1 C.2.1 hd hl.has hn rfl (fun ls2 h2 => k C H locs ls2 hP hS (ww_L.st2 (v := .inr (.inl x)) (fun j v hv => by have := ww_lv_of g P 0 j v hv; rw [Nat.zero_add] at this; exact this) hnl h2))
theorem ww_astore_n {kk : Fin 4} {x : ww_N} (pc2 : Nat) (hd : decode d.2.1 pc = .ok (.astore_n kk, 1)) (hp : pc + 1 = pc2) (i : Nat) (hi : (kk : Nat) = i) (hn : i < d.2.2.1) (hnl : ww_nl P i = true) (P2 : List (Option ww_V)) (hP2 : (P.set i (some (.inr (.inr x)))) = P2) (k : ww_W g d E Q pc2 P2 st τ) : ww_W g d E Q pc P (.inr (.inr x) :: st) τ := by
  subst hp
  subst hP2
  exact fun C H locs ls hP hS hl => lv_astore_n C.1 C.2.1 hd hi hl.has hn rfl (fun ls2 h2 => k C H locs ls2 hP hS (ww_L.st1 (v := .inr (.inr x)) (fun j v hv => by have := ww_lv_of g P 0 j v hv; rw [Nat.zero_add] at this; exact this) hnl h2))
theorem ww_astore {x : ww_N} (pc2 : Nat) (i : Nat) (hd : decode d.2.1 pc = .ok (.astore i, 2)) (hp : pc + 2 = pc2) (hn : i < d.2.2.1) (hnl : ww_nl P i = true) (P2 : List (Option ww_V)) (hP2 : (P.set i (some (.inr (.inr x)))) = P2) (k : ww_W g d E Q pc2 P2 st τ) : ww_W g d E Q pc P (.inr (.inr x) :: st) τ := by
  subst hp
  subst hP2
  exact fun C H locs ls hP hS hl => lv_astore C.1 C.2.1 hd hl.has hn rfl (fun ls2 h2 => k C H locs ls2 hP hS (ww_L.st1 (v := .inr (.inr x)) (fun j v hv => by have := ww_lv_of g P 0 j v hv; rw [Nat.zero_add] at this; exact this) hnl h2))
theorem ww_iinc {n : Int} {x : Int32} (cn : Int32) (pc2 : Nat) (i : Nat) (hd : decode d.2.1 pc = .ok (.iinc i n, 3)) (hc : Int32.ofInt n = cn) (hp : pc + 3 = pc2) (hx : P[i]? = some (some (.inl x))) (hn : i < d.2.2.1) (hnl : ww_nl P i = true) (P2 : List (Option ww_V)) (hP2 : P.set i (some (.inl (x + cn))) = P2) (k : ww_W g d E Q pc2 P2 st τ) : ww_W g d E Q pc P st τ := by
  subst hp
  subst hP2
  subst hc
  exact fun C H locs ls hP hS hl => lv_iinc (k := 0) C.1 C.2.1 hd (hl.has1 hx) rfl rfl hn rfl (fun ls2 h2 => k C H locs ls2 hP hS (ww_L.st1 (v := .inl (x + Int32.ofInt n)) (fun j v hv => by have := ww_lv_of g P 0 j v hv; rw [Nat.zero_add] at this; exact List.mem_cons_of_mem _ this) hnl h2))
theorem ww_dup {v : ww_V} (pc2 : Nat) (hd : decode d.2.1 pc = .ok (.dup, 1)) (hp : pc + 1 = pc2) (hc : (ww_v g v).category = 1) (k : ww_W g d E Q pc2 P (v :: v :: st) τ) : ww_W g d E Q pc P (v :: st) τ := by
  subst hp
  exact fun C H locs ls hP hS hl => lv_dup C.1 C.2.1 hd hc (k C H locs ls hP hS hl)
theorem ww_dup2 {v u : ww_V} (pc2 : Nat) (hd : decode d.2.1 pc = .ok (.dup2, 1)) (hp : pc + 1 = pc2) (hc : (ww_v g v).category = 1) (hc2 : (ww_v g u).category = 1) (k : ww_W g d E Q pc2 P (v :: u :: v :: u :: st) τ) : ww_W g d E Q pc P (v :: u :: st) τ := by
  subst hp
  exact fun C H locs ls hP hS hl => lv_dup2_11 C.1 C.2.1 hd hc hc2 (k C H locs ls hP hS hl)
theorem ww_pop {v : ww_V} (pc2 : Nat) (hd : decode d.2.1 pc = .ok (.pop, 1)) (hp : pc + 1 = pc2) (hc : (ww_v g v).category = 1) (k : ww_W g d E Q pc2 P st τ) : ww_W g d E Q pc P (v :: st) τ := by
  subst hp
  exact fun C H locs ls hP hS hl => lv_pop C.1 C.2.1 hd hc (k C H locs ls hP hS hl)
theorem ww_goto {off : Int} (tgt : Nat) (hd : decode d.2.1 pc = .ok (.goto off, 3)) (ht : (pc : Int) + off = (tgt : Int)) (k : ww_W g d E Q tgt P st τ) : ww_W g d E Q pc P st τ :=
  fun C H locs ls hP hS hl => lv_goto C.1 C.2.1 hd ht (k C H locs ls hP hS hl)
theorem ww_ldc {v : Int32} {i : Nat} (pc2 : Nat) (hd : decode d.2.1 pc = .ok (.ldc i, 2)) (hp : pc + 2 = pc2) (hc : Jvm.Cond.constant d.1.cls i v ∈ ww_ws) (k : ww_W g d E Q pc2 P (.inl v :: st) τ) : ww_W g d E Q pc P st τ := by
  subst hp
  exact fun C H locs ls hP hS hl => lv_ldc C.1 C.2.1 C.2.2.2.2.1 (C.2.2.2.2.2.1 _ hc) hd (k C H locs ls hP hS hl)
theorem ww_ldc2 {v : Int64} {i : Nat} (pc2 : Nat) (hd : decode d.2.1 pc = .ok (.ldc2_w i, 3)) (hp : pc + 3 = pc2) (hc : Jvm.Cond.constantLong d.1.cls i v ∈ ww_ws) (k : ww_W g d E Q pc2 P (.inr (.inl v) :: st) τ) : ww_W g d E Q pc P st τ := by
  subst hp
  exact fun C H locs ls hP hS hl => lv_ldc2 C.1 C.2.1 C.2.2.2.2.1 (C.2.2.2.2.2.1 _ hc) hd (k C H locs ls hP hS hl)
theorem ww_if_eq {x : Int32} {off : Int} (tgt pc2 : Nat) (hd : decode d.2.1 pc = .ok (.ifCond .eq off, 3)) (ht : (pc : Int) + off = (tgt : Int)) (hp : pc + 3 = pc2) (kt : x = nI 0 → ww_W g d E Q tgt P st τ) (kf : ¬ (x = nI 0) → ww_W g d E Q pc2 P st τ) : ww_W g d E Q pc P (.inl x :: st) τ := by
  subst hp
  exact fun C H locs ls hP hS hl => lv_if_eq C.1 C.2.1 hd ht (fun c => kt c C H locs ls hP hS hl) (fun c => kf c C H locs ls hP hS hl)
theorem ww_ic_eq {x y : Int32} {off : Int} (tgt pc2 : Nat) (hd : decode d.2.1 pc = .ok (.if_icmp .eq off, 3)) (ht : (pc : Int) + off = (tgt : Int)) (hp : pc + 3 = pc2) (kt : x = y → ww_W g d E Q tgt P st τ) (kf : ¬ (x = y) → ww_W g d E Q pc2 P st τ) : ww_W g d E Q pc P (.inl y :: .inl x :: st) τ := by
  subst hp
  exact fun C H locs ls hP hS hl => lv_icmp_eq C.1 C.2.1 hd ht (fun c => kt c C H locs ls hP hS hl) (fun c => kf c C H locs ls hP hS hl)
theorem ww_if_ne {x : Int32} {off : Int} (tgt pc2 : Nat) (hd : decode d.2.1 pc = .ok (.ifCond .ne off, 3)) (ht : (pc : Int) + off = (tgt : Int)) (hp : pc + 3 = pc2) (kt : ¬ x = nI 0 → ww_W g d E Q tgt P st τ) (kf : x = nI 0 → ww_W g d E Q pc2 P st τ) : ww_W g d E Q pc P (.inl x :: st) τ := by
  subst hp
  exact fun C H locs ls hP hS hl => lv_if_ne C.1 C.2.1 hd ht (fun c => kt c C H locs ls hP hS hl) (fun c => kf c C H locs ls hP hS hl)
theorem ww_ic_ne {x y : Int32} {off : Int} (tgt pc2 : Nat) (hd : decode d.2.1 pc = .ok (.if_icmp .ne off, 3)) (ht : (pc : Int) + off = (tgt : Int)) (hp : pc + 3 = pc2) (kt : ¬ x = y → ww_W g d E Q tgt P st τ) (kf : x = y → ww_W g d E Q pc2 P st τ) : ww_W g d E Q pc P (.inl y :: .inl x :: st) τ := by
  subst hp
  exact fun C H locs ls hP hS hl => lv_icmp_ne C.1 C.2.1 hd ht (fun c => kt c C H locs ls hP hS hl) (fun c => kf c C H locs ls hP hS hl)
theorem ww_if_lt {x : Int32} {off : Int} (tgt pc2 : Nat) (hd : decode d.2.1 pc = .ok (.ifCond .lt off, 3)) (ht : (pc : Int) + off = (tgt : Int)) (hp : pc + 3 = pc2) (kt : x < nI 0 → ww_W g d E Q tgt P st τ) (kf : ¬ (x < nI 0) → ww_W g d E Q pc2 P st τ) : ww_W g d E Q pc P (.inl x :: st) τ := by
  subst hp
  exact fun C H locs ls hP hS hl => lv_if_lt C.1 C.2.1 hd ht (fun c => kt c C H locs ls hP hS hl) (fun c => kf c C H locs ls hP hS hl)
theorem ww_ic_lt {x y : Int32} {off : Int} (tgt pc2 : Nat) (hd : decode d.2.1 pc = .ok (.if_icmp .lt off, 3)) (ht : (pc : Int) + off = (tgt : Int)) (hp : pc + 3 = pc2) (kt : x < y → ww_W g d E Q tgt P st τ) (kf : ¬ (x < y) → ww_W g d E Q pc2 P st τ) : ww_W g d E Q pc P (.inl y :: .inl x :: st) τ := by
  subst hp
  exact fun C H locs ls hP hS hl => lv_icmp_lt C.1 C.2.1 hd ht (fun c => kt c C H locs ls hP hS hl) (fun c => kf c C H locs ls hP hS hl)
theorem ww_if_ge {x : Int32} {off : Int} (tgt pc2 : Nat) (hd : decode d.2.1 pc = .ok (.ifCond .ge off, 3)) (ht : (pc : Int) + off = (tgt : Int)) (hp : pc + 3 = pc2) (kt : nI 0 ≤ x → ww_W g d E Q tgt P st τ) (kf : ¬ (nI 0 ≤ x) → ww_W g d E Q pc2 P st τ) : ww_W g d E Q pc P (.inl x :: st) τ := by
  subst hp
  exact fun C H locs ls hP hS hl => lv_if_ge C.1 C.2.1 hd ht (fun c => kt c C H locs ls hP hS hl) (fun c => kf c C H locs ls hP hS hl)
theorem ww_ic_ge {x y : Int32} {off : Int} (tgt pc2 : Nat) (hd : decode d.2.1 pc = .ok (.if_icmp .ge off, 3)) (ht : (pc : Int) + off = (tgt : Int)) (hp : pc + 3 = pc2) (kt : y ≤ x → ww_W g d E Q tgt P st τ) (kf : ¬ (y ≤ x) → ww_W g d E Q pc2 P st τ) : ww_W g d E Q pc P (.inl y :: .inl x :: st) τ := by
  subst hp
  exact fun C H locs ls hP hS hl => lv_icmp_ge C.1 C.2.1 hd ht (fun c => kt c C H locs ls hP hS hl) (fun c => kf c C H locs ls hP hS hl)
theorem ww_if_gt {x : Int32} {off : Int} (tgt pc2 : Nat) (hd : decode d.2.1 pc = .ok (.ifCond .gt off, 3)) (ht : (pc : Int) + off = (tgt : Int)) (hp : pc + 3 = pc2) (kt : nI 0 < x → ww_W g d E Q tgt P st τ) (kf : ¬ (nI 0 < x) → ww_W g d E Q pc2 P st τ) : ww_W g d E Q pc P (.inl x :: st) τ := by
  subst hp
  exact fun C H locs ls hP hS hl => lv_if_gt C.1 C.2.1 hd ht (fun c => kt c C H locs ls hP hS hl) (fun c => kf c C H locs ls hP hS hl)
theorem ww_ic_gt {x y : Int32} {off : Int} (tgt pc2 : Nat) (hd : decode d.2.1 pc = .ok (.if_icmp .gt off, 3)) (ht : (pc : Int) + off = (tgt : Int)) (hp : pc + 3 = pc2) (kt : y < x → ww_W g d E Q tgt P st τ) (kf : ¬ (y < x) → ww_W g d E Q pc2 P st τ) : ww_W g d E Q pc P (.inl y :: .inl x :: st) τ := by
  subst hp
  exact fun C H locs ls hP hS hl => lv_icmp_gt C.1 C.2.1 hd ht (fun c => kt c C H locs ls hP hS hl) (fun c => kf c C H locs ls hP hS hl)
theorem ww_if_le {x : Int32} {off : Int} (tgt pc2 : Nat) (hd : decode d.2.1 pc = .ok (.ifCond .le off, 3)) (ht : (pc : Int) + off = (tgt : Int)) (hp : pc + 3 = pc2) (kt : x ≤ nI 0 → ww_W g d E Q tgt P st τ) (kf : ¬ (x ≤ nI 0) → ww_W g d E Q pc2 P st τ) : ww_W g d E Q pc P (.inl x :: st) τ := by
  subst hp
  exact fun C H locs ls hP hS hl => lv_if_le C.1 C.2.1 hd ht (fun c => kt c C H locs ls hP hS hl) (fun c => kf c C H locs ls hP hS hl)
theorem ww_ic_le {x y : Int32} {off : Int} (tgt pc2 : Nat) (hd : decode d.2.1 pc = .ok (.if_icmp .le off, 3)) (ht : (pc : Int) + off = (tgt : Int)) (hp : pc + 3 = pc2) (kt : x ≤ y → ww_W g d E Q tgt P st τ) (kf : ¬ (x ≤ y) → ww_W g d E Q pc2 P st τ) : ww_W g d E Q pc P (.inl y :: .inl x :: st) τ := by
  subst hp
  exact fun C H locs ls hP hS hl => lv_icmp_le C.1 C.2.1 hd ht (fun c => kt c C H locs ls hP hS hl) (fun c => kf c C H locs ls hP hS hl)
theorem ww_iret {v : Int32} (hd : decode d.2.1 pc = .ok (.ireturn, 1)) (hr : d.2.2.2.1 = some .int) (h : Q (some (.inl v)) τ) : ww_W g d E Q pc P [.inl v] τ :=
  fun C H locs ls hP hS hl => W.iret C.1 C.2.1 (C.2.2.1.trans hr) (fun t ht hW => ⟨⟨some (.inl v), τ, rfl, h, by rw [ht]; exact hP⟩, hS.F ht⟩) hS.2.2 hd (hlocks := C.2.2.2.2.2.2.1)
theorem ww_zret {v : Int32} (hd : decode d.2.1 pc = .ok (.ireturn, 1)) (hr : d.2.2.2.1 = some .boolean) (hb : v = nI 0 ∨ v = nI 1) (h : Q (some (.inl v)) τ) : ww_W g d E Q pc P [.inl v] τ :=
  fun C H locs ls hP hS hl => W.zret C.1 C.2.1 (C.2.2.1.trans hr) (by rcases hb with rfl | rfl <;> rfl) (fun t ht hW => ⟨⟨some (.inl v), τ, rfl, h, by rw [ht]; exact hP⟩, hS.F ht⟩) hS.2.2 hd (hlocks := C.2.2.2.2.2.2.1)
theorem ww_lret {v : Int64} (hd : decode d.2.1 pc = .ok (.lreturn, 1)) (hr : d.2.2.2.1 = some .long) (h : Q (some (.inr (.inl v))) τ) : ww_W g d E Q pc P [.inr (.inl v)] τ :=
  fun C H locs ls hP hS hl => W.lret C.1 C.2.1 (C.2.2.1.trans hr) (fun t ht hW => ⟨⟨some (.inr (.inl v)), τ, rfl, h, by rw [ht]; exact hP⟩, hS.F ht⟩) hS.2.2 hd (hlocks := C.2.2.2.2.2.2.1)
theorem ww_vret (hd : decode d.2.1 pc = .ok (.return_, 1)) (hr : d.2.2.2.1 = none) (h : Q none τ) : ww_W g d E Q pc P [] τ :=
  fun C H locs ls hP hS hl => W.vret C.1 C.2.1 (C.2.2.1.trans hr) (fun t ht hW => ⟨⟨none, τ, rfl, h, by rw [ht]; exact hP⟩, hS.F ht⟩) hS.2.2 hd (hlocks := C.2.2.2.2.2.2.1)
/-! fields: own, or a nest mate's -/
def ww_FL (own : String) (ci k idx : Nat) : Prop := ∃ (C : String) (T : u_T) (N : Nat), vwCl[ci]? = some (C, T, N) ∧ k < N ∧ (Cond.fieldLink own idx (T k).1 (T k).2.1 (T k).2.2.1 ∈ ww_ws ∨ ∃ host, (own, idx, (T k).1, (T k).2.1, (T k).2.2.1, host) ∈ ww_nF)
theorem ww_clin : ∀ (ci : Nat) (C : String) (T : u_T) (N : Nat), vwCl[ci]? = some (C, T, N) → (∀ w ∈ u_ws C T N, w ∈ ww_ws) ∧ ∃ ty0 : Nat → FieldType, (∀ k, k < N → parseFieldDescriptor (T k).2.2.1 = some (ty0 k)) ∧ ∀ a, a < N → ∀ b, b < N → a ≠ b → (T a).2.1 ≠ (T b).2.1
  | 0, _, _, _, h => by cases h; exact ⟨inlX0, tyX0, tyX0_ok, nmX0⟩
  | 1, _, _, _, h => by cases h; exact ⟨inlX1, tyX1, tyX1_ok, nmX1⟩
  | 2, _, _, _, h => by cases h; exact ⟨inlX2, tyX2, tyX2_ok, nmX2⟩
  | 3, _, _, _, h => by cases h; exact ⟨inlX3, tyX3, tyX3_ok, nmX3⟩
  | 4, _, _, _, h => by cases h; exact ⟨inlX4, tyX4, tyX4_ok, nmX4⟩
  | 5, _, _, _, h => by cases h; exact ⟨inlX5, tyX5, tyX5_ok, nmX5⟩
  | 6, _, _, _, h => by cases h; exact ⟨inlX6, tyX6, tyX6_ok, nmX6⟩
  | k + 7, _, _, _, h => by simp [vwCl] at h
theorem ww_get {n : ww_N} {ci : Nat} {fs : List (Option ww_N)} {k idx : Nat} {o : Option ww_N} {v : ww_V} (pc2 : Nat) (hd : decode d.2.1 pc = .ok (.getfield idx, 3)) (hf : ww_FL d.1.cls ci k idx) (hn : ww_in n) (hs : ww_sh n = .inl (ci, fs)) (hk : fs[k]? = some o) (hp : pc + 3 = pc2) (hv : ww_fv g τ n k o = ww_v g v) (kk : ww_W g d E Q pc2 P (v :: st) τ) : ww_W g d E Q pc P (.inr (.inr n) :: st) τ := by
  subst hp
  intro C H locs ls hP hS hl
  obtain ⟨Cn, T, N, hc, hkN, hlk⟩ := hf
  have hfv : (ww_fs g τ n 0 fs)[k]? = some (ww_v g v) := by rw [ww_fs_at, hk, Nat.zero_add, ← hv]; rfl
  rcases hlk with hlk | ⟨host, hlk⟩
  · exact va_get (ws := [(g.2.1 n, .inr (ci, ww_fs g τ n 0 fs))]) C.1 C.2.1 C.2.2.2.2.2.1 (ww_clin ci Cn T N hc).1 C.2.2.2.2.1 C.2.2.2.2.2.2.2.1 (hP.one hn (ww_c_ob hs)) 0 rfl hc k hkN (C.2.2.2.2.2.1 _ hlk) (fun _ h9 => h9) hfv hd (kk C H locs ls hP hS hl)
  · exact va_getN (ws := [(g.2.1 n, .inr (ci, ww_fs g τ n 0 fs))]) (host := host) C.1 C.2.1 C.2.2.2.2.2.1 (ww_clin ci Cn T N hc).1 C.2.2.2.2.1 C.2.2.2.2.2.2.2.1 (hP.one hn (ww_c_ob hs)) 0 rfl hc k hkN (va_Nw.use rfl (C.2.2.2.2.2.2.2.2.2.1 _ hlk)) (fun _ h9 => h9) hfv hd (kk C H locs ls hP hS hl)
theorem ww_getI {n : ww_N} {ci : Nat} {fs : List (Option ww_N)} {idx : Nat} (k : Nat) (pc2 : Nat) (hd : decode d.2.1 pc = .ok (.getfield idx, 3)) (hf : ww_FL d.1.cls ci k idx) (hn : ww_in n) (hs : ww_sh n = .inl (ci, fs)) (hk : fs[k]? = some none) (hp : pc + 3 = pc2) (kk : ww_W g d E Q pc2 P (.inl (τ n k) :: st) τ) : ww_W g d E Q pc P (.inr (.inr n) :: st) τ := ww_get (v := .inl (τ n k)) pc2 hd hf hn hs hk hp rfl kk
theorem ww_getR {n : ww_N} {ci : Nat} {fs : List (Option ww_N)} {idx : Nat} {r : ww_N} (k : Nat) (pc2 : Nat) (hd : decode d.2.1 pc = .ok (.getfield idx, 3)) (hf : ww_FL d.1.cls ci k idx) (hn : ww_in n) (hs : ww_sh n = .inl (ci, fs)) (hk : fs[k]? = some (some r)) (hp : pc + 3 = pc2) (kk : ww_W g d E Q pc2 P (.inr (.inr r) :: st) τ) : ww_W g d E Q pc P (.inr (.inr n) :: st) τ := ww_get (v := .inr (.inr r)) pc2 hd hf hn hs hk hp rfl kk
theorem ww_fs_up {n : ww_N} {fs : List (Option ww_N)} {k : Nat} {x : Int32} (hk : fs[k]? = some none) (j : Nat) : updV (vp_V (ww_fs g τ n 0 fs)) k (.int x) j = vp_V (ww_fs g (ww_up τ n k x) n 0 fs) j := by
  unfold updV vp_V
  rw [List.getD_eq_getElem?_getD, List.getD_eq_getElem?_getD, ww_fs_at, ww_fs_at, Nat.zero_add]
  by_cases hj : j = k
  · subst hj
    rw [if_pos rfl, hk]
    simp [ww_fv, ww_up]
  · rw [if_neg hj]
    cases fs[j]? with
    | none => rfl
    | some o =>
      cases o with
      | none => simp [ww_fv, ww_up, hj]
      | some r => rfl
/-- a field that isn't final, and its type -/
def ww_FP (ci k : Nat) (ty : FieldType) : Prop := ∃ (C : String) (T : u_T) (N : Nat), vwCl[ci]? = some (C, T, N) ∧ (T k).2.2.2 = false ∧ parseFieldDescriptor (T k).2.2.1 = some ty
theorem ww_put {n : ww_N} {ci : Nat} {fs : List (Option ww_N)} {idx : Nat} {ty : FieldType} {x : Int32} (k : Nat) (pc2 : Nat) (hd : decode d.2.1 pc = .ok (.putfield idx, 3)) (hf : ww_FL d.1.cls ci k idx) (hg : ww_FP ci k ty) (hn : ww_in n) (hs : ww_sh n = .inl (ci, fs)) (hk : fs[k]? = some none) (hp : pc + 3 = pc2) (hnar : narrow ty (.int x) = .int x) (hfit : fits ty (.int x) = true) (kk : ww_W g d E Q pc2 P st (ww_up τ n k x)) : ww_W g d E Q pc P (.inl x :: .inr (.inr n) :: st) τ := by
  subst hp
  intro C H locs ls hP hS hl
  obtain ⟨Cn, T, N, hc, hkN, hlk⟩ := hf
  obtain ⟨Cn', T', N', hc', hfin, hty⟩ := hg
  cases hc.symm.trans hc'
  obtain ⟨hin, ty0, hty0, hnm⟩ := ww_clin ci Cn T N hc
  have hts := C.2.2.2.2.2.1
  have hK := C.2.2.2.2.2.2.2.1
  have hJ := C.2.2.2.2.2.2.2.2.1
  have hown := C.2.2.2.2.1
  have hap := va_apart (own := d.1.cls) hts hin ty0 hty0 hnm hK hc
  have hat := hP n hn
  rw [ww_c_ob hs] at hat
  obtain ⟨r, h1, cell, q1, q2, q3, q4⟩ := hat
  have hr : r = (Cn, T, N) := Option.some.inj (h1.symm.trans hc)
  subst hr
  obtain ⟨hSl, hfc, kC, hkC, hkind⟩ := hK.1 ci _ hc
  obtain ⟨cf, kf, fi, f, hi, hsl⟩ := hSl k hkN
  have hlay := hts _ (hin _ (u_in_lay hkN))
  unfold u_lay at hlay
  rw [if_neg (by rw [hfin]; decide)] at hlay
  have hst := (u_facts hfc hkC (u_lays hts hin hkN) hi).1
  have h6 := u_store hfc hkC hkind hlay hi hty hnar hfit
  have done : ∀ H' : Heap, H'[g.2.1 n]? = some (cell.setSlot f.slot (.int x)) → H'.size = H.size → (∀ q, q ≠ g.2.1 n → H'[q]? = H[q]?) → ww_P g (ww_up τ n k x) H' ∧ va_S (ww_A g) E.2.2.2.1.heap H' (locs ++ [⟨g.2.1 n, f.slot⟩]) := by
    intro H' e1 e2 e3
    refine ⟨hP.put hJ hn ?_ (fun a ha => ww_up_f ha) e3, hS.put e2 e3 ⟨n, hn, rfl⟩⟩
    rw [ww_c_ob hs]
    rw [hsl] at e1
    exact ⟨_, hc, t_OB.to (V := updV (vp_V (ww_fs g τ n 0 fs)) k (.int x)) ⟨_, e1, q2, q3, t_set q4 hap hkN (.int x)⟩ (fun j _ => ww_fs_up hk j)⟩
  rcases hlk with hlk | ⟨host, hlk⟩
  · refine W.putK C.1 C.2.1 (f := f) ⟨hown, hts _ hlk, ⟨_, _, _, hi⟩, hst⟩ (by rw [q2]; exact h6) q1 q3 (by rw [hsl]; exact k2_hasslot (q4 k hkN)) rfl rfl hd fun H' e1 e2 e3 => ?_
    obtain ⟨d1, d2⟩ := done H' e1 e2 e3
    exact kk C H' _ ls d1 d2 hl
  · refine va_WputK C.1 C.2.1 (f := f) hown (va_Nw.use rfl (C.2.2.2.2.2.2.2.2.2.1 _ hlk)) hi hst (by rw [q2]; exact h6) q1 q3 (by rw [hsl]; exact k2_hasslot (q4 k hkN)) rfl rfl hd fun H' e1 e2 e3 => ?_
    obtain ⟨d1, d2⟩ := done H' e1 e2 e3
    exact kk C H' _ ls d1 d2 hl
theorem ww_putI {n : ww_N} {ci : Nat} {fs : List (Option ww_N)} {idx : Nat} {x : Int32} (k : Nat) (pc2 : Nat) (hd : decode d.2.1 pc = .ok (.putfield idx, 3)) (hf : ww_FL d.1.cls ci k idx) (hg : ww_FP ci k .int) (hn : ww_in n) (hs : ww_sh n = .inl (ci, fs)) (hk : fs[k]? = some none) (hp : pc + 3 = pc2) (kk : ∀ τ1 : ww_M, τ1 = ww_up τ n k x → ww_W g d E Q pc2 P st τ1) : ww_W g d E Q pc P (.inl x :: .inr (.inr n) :: st) τ := ww_put k pc2 hd hf hg hn hs hk hp rfl rfl (kk _ rfl)
theorem ww_putZ {n : ww_N} {ci : Nat} {fs : List (Option ww_N)} {idx : Nat} {x : Int32} (k : Nat) (pc2 : Nat) (hd : decode d.2.1 pc = .ok (.putfield idx, 3)) (hf : ww_FL d.1.cls ci k idx) (hg : ww_FP ci k .boolean) (hn : ww_in n) (hs : ww_sh n = .inl (ci, fs)) (hk : fs[k]? = some none) (hp : pc + 3 = pc2) (hb : x = nI 0 ∨ x = nI 1) (kk : ∀ τ1 : ww_M, τ1 = ww_up τ n k x → ww_W g d E Q pc2 P st τ1) : ww_W g d E Q pc P (.inl x :: .inr (.inr n) :: st) τ := ww_put k pc2 hd hf hg hn hs hk hp (by rcases hb with rfl | rfl <;> rfl) (by rcases hb with rfl | rfl <;> decide) (kk _ rfl)
/-! arrays -/
theorem ww_iald {n : ww_N} {len : Nat} {i : Int32} (j : Nat) (pc2 : Nat) (hd : decode d.2.1 pc = .ok (.iaload, 1)) (hn : ww_in n) (hs : ww_sh n = .inr (.inl len)) (hlen : len < 2147483648) (hi : i = nI j) (hj : j < len) (hp : pc + 1 = pc2) (kk : ww_W g d E Q pc2 P (.inl (τ n j) :: st) τ) : ww_W g d E Q pc P (.inl i :: .inr (.inr n) :: st) τ := by
  subst hp
  subst hi
  intro C H locs ls hP hS hl
  refine va_iald (ws := [(g.2.1 n, .inl (g.2.2 0, len, .inl (τ n)))]) C.1 C.2.1 C.2.2.2.2.2.2.2.1 (hP.one hn (ww_c_ia hs)) 0 0 rfl rfl (vp_in_nI hj (by omega)) hd ?_
  rw [nI_clamp (by omega)]
  exact kk C H locs ls hP hS hl
theorem ww_iast {n : ww_N} {len : Nat} {i x : Int32} (j : Nat) (pc2 : Nat) (hd : decode d.2.1 pc = .ok (.iastore, 1)) (hn : ww_in n) (hs : ww_sh n = .inr (.inl len)) (hlen : len < 2147483648) (hi : i = nI j) (hj : j < len) (hp : pc + 1 = pc2) (kk : ∀ τ1 : ww_M, τ1 = ww_up τ n j x → ww_W g d E Q pc2 P st τ1) : ww_W g d E Q pc P (.inl x :: .inl i :: .inr (.inr n) :: st) τ := by
  replace kk := kk _ rfl
  subst hp
  subst hi
  intro C H locs ls hP hS hl
  have hat := hP n hn
  rw [ww_c_ia hs] at hat
  have hcl : (nI j).toNatClampNeg = j := nI_clamp (by omega)
  refine W.iast C.1 C.2.1 hat ((C.2.2.2.2.2.2.2.1.2 0 _ rfl).1 len (fun j => .int (τ n j))) (fun q => by cases q) (by show ¬ (_ ∨ (arrV _ _ _).slots.size ≤ _); rw [arrV_size]; exact vp_in_nI hj (by omega)) rfl rfl hd fun H1 e z oq => ?_
  refine kk C H1 _ ls (hP.put C.2.2.2.2.2.2.2.2.1 hn ?_ (fun a ha => ww_up_f ha) oq) (hS.put z oq ⟨n, hn, rfl⟩) hl
  rw [ww_c_ia hs, ww_up_row]
  show H1[g.2.1 n]? = some (vp_cell _ _)
  rw [e]
  rw [vp_cell_i, vp_cell_i, arrV_store, hcl]
  congr 2
  funext q
  by_cases hq : q = j
  · subst hq
    simp [updV, upd]
  · simp [updV, upd, hq]
theorem ww_aald {n : ww_N} {a len : Nat} {f : Nat → ww_N} {i : Int32} (j : Nat) (pc2 : Nat) (hd : decode d.2.1 pc = .ok (.aaload, 1)) (hn : ww_in n) (hs : ww_sh n = .inr (.inr (a, len, f))) (ha : a = 1 ∨ a = 2) (hlen : len < 2147483648) (hi : i = nI j) (hj : j < len) (hp : pc + 1 = pc2) (kk : ww_W g d E Q pc2 P (.inr (.inr (f j)) :: st) τ) : ww_W g d E Q pc P (.inl i :: .inr (.inr n) :: st) τ := by
  subst hp
  subst hi
  intro C H locs ls hP hS hl
  have hat := hP n hn
  rw [ww_c_ra hs] at hat
  have hcl : (nI j).toNatClampNeg = j := nI_clamp (by omega)
  have hin : ¬ (nI j < 0 ∨ (arrV (g.2.2 a) len (fun j => va_rf (some (g.2.1 (f j))))).slots.size ≤ (nI j).toNatClampNeg) := by rw [arrV_size]; exact vp_in_nI hj (by omega)
  have hrd : (arrV (g.2.2 a) len (fun j => va_rf (some (g.2.1 (f j))))).slots[(nI j).toNatClampNeg]? = some (.ref (g.2.1 (f j))) := by rw [hcl, arrV_read _ _ hj]; rfl
  rcases ha with rfl | rfl
  · exact W.aald (v := .ref (g.2.1 (f j))) (ty := .object "PieceWords$Row") C.1 C.2.1 hat ((C.2.2.2.2.2.2.2.1.2 1 _ rfl).1 len (fun j => va_rf (some (g.2.1 (f j))))) rfl (fun q => by cases q) hin hrd rfl rfl hd (kk C H locs ls hP hS hl)
  · exact W.aald (v := .ref (g.2.1 (f j))) (ty := .array .int) C.1 C.2.1 hat ((C.2.2.2.2.2.2.2.1.2 2 _ rfl).1 len (fun j => va_rf (some (g.2.1 (f j))))) rfl (fun q => by cases q) hin hrd rfl rfl hd (kk C H locs ls hP hS hl)
theorem ww_alnI {n : ww_N} {len : Nat} (pc2 : Nat) (hd : decode d.2.1 pc = .ok (.arraylength, 1)) (hn : ww_in n) (hs : ww_sh n = .inr (.inl len)) (hp : pc + 1 = pc2) (kk : ww_W g d E Q pc2 P (.inl (nI len) :: st) τ) : ww_W g d E Q pc P (.inr (.inr n) :: st) τ := by
  subst hp
  intro C H locs ls hP hS hl
  exact va_alen (ws := [(g.2.1 n, .inl (g.2.2 0, len, .inl (τ n)))]) C.1 C.2.1 C.2.2.2.2.2.2.2.1 (hP.one hn (ww_c_ia hs)) 0 0 rfl (ty := .int) rfl rfl hd (kk C H locs ls hP hS hl)
theorem ww_alnR {n : ww_N} {a len : Nat} {f : Nat → ww_N} (pc2 : Nat) (hd : decode d.2.1 pc = .ok (.arraylength, 1)) (hn : ww_in n) (hs : ww_sh n = .inr (.inr (a, len, f))) (ha : a = 1) (hp : pc + 1 = pc2) (kk : ww_W g d E Q pc2 P (.inl (nI len) :: st) τ) : ww_W g d E Q pc P (.inr (.inr n) :: st) τ := by
  subst hp
  subst ha
  intro C H locs ls hP hS hl
  exact va_alen (ws := [(g.2.1 n, .inl (g.2.2 1, len, .inr (.inr (.inr (.inr (fun j => some (g.2.1 (f j))))))))]) C.1 C.2.1 C.2.2.2.2.2.2.2.1 (hP.one hn (ww_c_ra hs)) 0 1 rfl (ty := .object "PieceWords$Row") rfl rfl hd (kk C H locs ls hP hS hl)
/-! Math -/
theorem ww_mmin {x y : Int32} {idx : Nat} (pc2 : Nat) (hd : decode d.2.1 pc = .ok (.invokestatic idx, 3)) (hl : Cond.methodLink d.1.cls idx Lib.Math.min.name ∈ ww_ws) (h1 : Cond.static Lib.Math.min.name ∈ ww_ws) (h2 : Cond.initialized "java/lang/Math" ∈ ww_ws) (h3 : Cond.code Lib.Math.min.name Lib.Math.min.code 2 (some .int) ∈ ww_ws) (hfr : 1 ≤ d.2.2.2.2.1) (hlo : ((st.map (ww_v g)).map fun v => v.category).sum + 13 ≤ d.2.2.2.2.2) (hp : pc + 3 = pc2) (kk : ww_W g d E Q pc2 P (.inl (if y < x then y else x) :: st) τ) : ww_W g d E Q pc P (.inl y :: .inl x :: st) τ := by
  subst hp
  intro C H locs ls hP hS hll
  exact va_mmin C.1 C.2.1 (C.2.2.2.1.trans hll.1.symm) C.2.2.2.2.1 (C.2.2.2.2.2.1 _ hl) (C.2.2.2.2.2.1 _ h1) (C.2.2.2.2.2.1 _ h2) (C.2.2.2.2.2.1 _ h3) hfr hlo (Nat.le_refl _) (Nat.le_refl _) hd (kk C H locs ls hP hS hll)
theorem ww_mmax {x y : Int32} {idx : Nat} (pc2 : Nat) (hd : decode d.2.1 pc = .ok (.invokestatic idx, 3)) (hl : Cond.methodLink d.1.cls idx Lib.Math.max.name ∈ ww_ws) (h1 : Cond.static Lib.Math.max.name ∈ ww_ws) (h2 : Cond.initialized "java/lang/Math" ∈ ww_ws) (h3 : Cond.code Lib.Math.max.name Lib.Math.max.code 2 (some .int) ∈ ww_ws) (hfr : 1 ≤ d.2.2.2.2.1) (hlo : ((st.map (ww_v g)).map fun v => v.category).sum + 13 ≤ d.2.2.2.2.2) (hp : pc + 3 = pc2) (kk : ww_W g d E Q pc2 P (.inl (if x < y then y else x) :: st) τ) : ww_W g d E Q pc P (.inl y :: .inl x :: st) τ := by
  subst hp
  intro C H locs ls hP hS hll
  exact va_mmax C.1 C.2.1 (C.2.2.2.1.trans hll.1.symm) C.2.2.2.2.1 (C.2.2.2.2.2.1 _ hl) (C.2.2.2.2.2.1 _ h1) (C.2.2.2.2.2.1 _ h2) (C.2.2.2.2.2.1 _ h3) hfr hlo (Nat.le_refl _) (Nat.le_refl _) hd (kk C H locs ls hP hS hll)
theorem ww_mabs {x : Int32} {idx : Nat} (pc2 : Nat) (hd : decode d.2.1 pc = .ok (.invokestatic idx, 3)) (hl : Cond.methodLink d.1.cls idx Lib.Math.abs.name ∈ ww_ws) (h1 : Cond.static Lib.Math.abs.name ∈ ww_ws) (h2 : Cond.initialized "java/lang/Math" ∈ ww_ws) (h3 : Cond.code Lib.Math.abs.name Lib.Math.abs.code 1 (some .int) ∈ ww_ws) (hfr : 1 ≤ d.2.2.2.2.1) (hlo : ((st.map (ww_v g)).map fun v => v.category).sum + 13 ≤ d.2.2.2.2.2) (hp : pc + 3 = pc2) (kk : ww_W g d E Q pc2 P (.inl (if 0 ≤ x then x else 0 - x) :: st) τ) : ww_W g d E Q pc P (.inl x :: st) τ := by
  subst hp
  intro C H locs ls hP hS hll
  exact va_mabs C.1 C.2.1 (C.2.2.2.1.trans hll.1.symm) C.2.2.2.2.1 (C.2.2.2.2.2.1 _ hl) (C.2.2.2.2.2.1 _ h1) (C.2.2.2.2.2.1 _ h2) (C.2.2.2.2.2.1 _ h3) hfr hlo (Nat.le_refl _) (Nat.le_refl _) hd (kk C H locs ls hP hS hll)
/-! calls -/
theorem ww_blind {as : List ww_V} : FrameBlind (va_Pc (as.map (ww_v g)) (ww_U g τ)) := by
  intro a U fr mk q
  obtain ⟨q0, qP, qK, qN, qJ⟩ := q
  exact ⟨q0, qP, va_K.moved (u := U) (U := U.calling fr mk a) (Vm.Alike.refl U.vm) qK, ww_NW.same (u := U) (U := U.calling fr mk a) rfl qN, qJ⟩
theorem ww_run {Q' : Option ww_V → ww_M → Prop} {H : Heap} {locs : List Loc} {ls : Array Slot} {st0 rest : List Value} {a : Array Value} (C : ww_Cx g d E) (hr : va_Run E.1 E.2.1 E.2.2.1 (ww_R d) E.2.2.2.1 E.2.2.2.2.1 E.2.2.2.2.2.1 E.2.2.2.2.2.2.1 E.2.2.2.2.2.2.2.1 E.2.2.2.2.2.2.2.2 H locs 0 0 0 0 (F0 E.2.2.2.2.1 pc ls st0) rest (ww_Q g Q' a) (ww_A g)) (hS : va_S (ww_A g) E.2.2.2.1.heap H locs) (hl : ww_L g ls d.2.2.1 P) (hrest : rest = st.map (ww_v g))
    (kk : ∀ (r : Option ww_V) (τ' : ww_M), Q' r τ' → ww_W g d E Q (pc + 3) P (r.toList ++ st) τ') : W E.1 E.2.1 E.2.2.1 (ww_R d) E.2.2.2.1 E.2.2.2.2.1 E.2.2.2.2.2.1 E.2.2.2.2.2.2.1 E.2.2.2.2.2.2.2.1 E.2.2.2.2.2.2.2.2 H locs 0 0 (MQ E.2.2.2.2.2.2.1 (ww_Q g Q) E.2.2.2.2.2.1 E.2.2.2.1 0 0 (ww_A g)) (F0 E.2.2.2.2.1 pc ls st0) := by
  intro T hT X
  obtain ⟨v, st₀, t, T', L, h0, X', hL, e1, e2, ⟨⟨r, τ', hv, hp, hb⟩, hz, hk⟩, sts⟩ := hr T hT X
  have hv' : v = r.map (ww_v g) := Outcome.returned.inj hv
  rw [h0] at hz hk
  have hS1 : va_S (ww_A g) E.2.2.2.1.heap T'.heap (locs ++ L) := ⟨Nat.le_trans hS.1 (by rw [e1]; exact hz), fun q h1 h2 => by rw [e1, hk q (Nat.lt_of_lt_of_le h1 hS.1) h2]; exact hS.2.1 q h1 h2, fun q hq => by
      rcases List.mem_append.mp hq with h | h
      · exact hS.2.2 q h
      · exact hL q h⟩
  obtain ⟨t2, a1, b1⟩ := kk r τ' hp C T'.heap (locs ++ L) ls (by rw [e1]; exact hb) hS1 hl T' rfl X'
  refine ⟨t2, sts t2 ?_, b1⟩
  have hst : v.toList ++ rest = (r.toList ++ st).map (ww_v g) := by
    rw [hv', hrest]
    cases r <;> rfl
  show Steps _ _ _ (T'.setTop { F0 E.2.2.2.2.1 pc ls st0 with pc := pc + 3, stack := v.toList ++ rest }) t2
  rw [hst]
  exact a1
/-- what a call's place in the code and its callee need of the words, and of the room -/
def ww_CB (d d' : ww_D) (k : Nat) : Prop := Cond.initialized d'.1.cls ∈ ww_ws ∧ Cond.code d'.1 d'.2.1 d'.2.2.1 d'.2.2.2.1 ∈ ww_ws ∧ (d'.1.cls ≠ "java/lang/invoke/MethodHandle" ∧ d'.1.cls ≠ "java/lang/invoke/VarHandle" ∧ (parseMethodDescriptor d'.1.desc).map (fun d => d.parameters.length) = some k) ∧ d'.2.2.2.2.1 + 1 ≤ d.2.2.2.2.1 ∧ 8 + (d'.2.2.1 + 11) + d'.2.2.2.2.2 ≤ d.2.2.2.2.2
theorem ww_good {d' : ww_D} (h : Cond.code d'.1 d'.2.1 d'.2.2.1 d'.2.2.2.1 ∈ ww_ws) : GoodIn ww_ws (.code d'.1 d'.2.1 d'.2.2.1 d'.2.2.2.1 :: ww_ws) := by
  intro w hw
  rcases List.mem_cons.mp hw with rfl | hw
  · exact ⟨h, good_of_word (List.all_eq_true.mp ww_allgood _ h)⟩
  · exact ⟨hw, good_of_word (List.all_eq_true.mp ww_allgood _ hw)⟩
/-- a virtual call on an object of the world -/
theorem ww_invV {Q' : Option ww_V → ww_M → Prop} {n : ww_N} {ci : Nat} {fs : List (Option ww_N)} {T : u_T} {N idx : Nat} {d' : ww_D} (as : List ww_V) {stk : List ww_V} (hstk : stk = as.reverse ++ .inr (.inr n) :: st) (pc2 : Nat) (hd : decode d.2.1 pc = .ok (.invokevirtual idx, 3)) (hB : ww_CB d d' as.length) (hl : Cond.methodLink d.1.cls idx d'.1 ∈ ww_ws) (h1 : Cond.instanceMethod d'.1 ∈ ww_ws) (h2 : Cond.selects d'.1.cls d'.1 d'.1 ∈ ww_ws) (hn : ww_in n) (hs : ww_sh n = .inl (ci, fs)) (hc : vwCl[ci]? = some (d'.1.cls, T, N)) (hrm : ((st.map (ww_v g)).map fun v => v.category).sum ≤ 8) (hp : pc + 3 = pc2)
    (hT : ww_T E.2.1 g d' (.inr (.inr n) :: as) τ Q') (kk : ∀ (r : Option ww_V) (τ' : ww_M), Q' r τ' → ww_W g d E Q pc2 P (r.toList ++ st) τ') : ww_W g d E Q pc P stk τ := by
  subst hp
  subst hstk
  intro C H locs ls hP hS hll
  have hK := C.2.2.2.2.2.2.2.1
  have hts := C.2.2.2.2.2.1
  refine ww_run C (va_runV (As := as.map (ww_v g)) (rest := st.map (ww_v g)) (b := g.2.1 n) (C := d'.1.cls) (Ts := ww_ws) ⟨C.1, C.2.1, C.2.2.2.1, C.2.2.2.2.1, hts⟩ hT ⟨callB_of as.length hts (ww_good hB.2.1) rfl rfl rfl (hts _ hB.1) (hts _ hl) hB.2.2.1 ⟨hB.2.2.2.1, hB.2.2.2.2⟩, hts _ h1, hts _ h2⟩ ⟨ww_blind, va_recv hK (hP.one hn (ww_c_ob hs)) hc (q0 := 0) rfl, fun U hU hW => ⟨rfl, by rw [hU]; exact hP, va_K.moved hW.alike hK, ww_NW.warm hW C.2.2.2.2.2.2.2.2.2, C.2.2.2.2.2.2.2.2.1⟩⟩ rfl (by rw [List.length_map]) hll.1 ?_ (lv_room hrm) hd ⟨Nat.le_refl _, Nat.le_refl _⟩) hS hll rfl kk
  show (as.reverse ++ .inr (.inr n) :: st).map (ww_v g) = (as.map (ww_v g)).reverse ++ .ref (g.2.1 n) :: st.map (ww_v g)
  rw [List.map_append, List.map_reverse]
  rfl
/-- a static call in the class itself -/
theorem ww_invS {Q' : Option ww_V → ww_M → Prop} {idx : Nat} {d' : ww_D} (as : List ww_V) {stk : List ww_V} (hstk : stk = as.reverse ++ st) (pc2 : Nat) (hd : decode d.2.1 pc = .ok (.invokestatic idx, 3)) (hB : ww_CB d d' as.length) (hl : Cond.methodLink d.1.cls idx d'.1 ∈ ww_ws ∨ ∃ host, (d.1.cls, idx, d'.1, host) ∈ ww_nM) (h1 : Cond.static d'.1 ∈ ww_ws) (hrm : ((st.map (ww_v g)).map fun v => v.category).sum ≤ 8) (hp : pc + 3 = pc2)
    (hT : ww_T E.2.1 g d' as τ Q') (kk : ∀ (r : Option ww_V) (τ' : ww_M), Q' r τ' → ww_W g d E Q pc2 P (r.toList ++ st) τ') : ww_W g d E Q pc P stk τ := by
  subst hp
  subst hstk
  intro C H locs ls hP hS hll
  have hK := C.2.2.2.2.2.2.2.1
  have hts := C.2.2.2.2.2.1
  have hstack : (as.reverse ++ st).map (ww_v g) = (as.map (ww_v g)).reverse ++ st.map (ww_v g) := by
    rw [List.map_append, List.map_reverse]
  rcases hl with hl | ⟨host, hl⟩
  · exact ww_run C (va_runS (As := as.map (ww_v g)) (rest := st.map (ww_v g)) (Ts := ww_ws) ⟨C.1, C.2.1, C.2.2.2.1, C.2.2.2.2.1, hts⟩ hT ⟨callB_of as.length hts (ww_good hB.2.1) rfl rfl rfl (hts _ hB.1) (hts _ hl) hB.2.2.1 ⟨hB.2.2.2.1, hB.2.2.2.2⟩, hts _ h1⟩ ⟨ww_blind, fun U hU hW => ⟨rfl, by rw [hU]; exact hP, va_K.moved hW.alike hK, ww_NW.warm hW C.2.2.2.2.2.2.2.2.2, C.2.2.2.2.2.2.2.2.1⟩⟩ rfl (by rw [List.length_map]) hll.1 hstack (lv_room hrm) hd ⟨Nat.le_refl _, Nat.le_refl _⟩) hS hll rfl kk
  · exact ww_run C (va_runSN (host := host) (As := as.map (ww_v g)) (rest := st.map (ww_v g)) (Ts := ww_ws) ⟨C.1, C.2.1, C.2.2.2.1, C.2.2.2.2.1, hts⟩ hT ⟨va_cnB as.length hts (ww_good hB.2.1) rfl rfl rfl (C.2.2.2.2.2.2.2.2.2.2 _ hl) (hts _ hB.1) hB.2.2.1 ⟨hB.2.2.2.1, hB.2.2.2.2⟩, hts _ h1, trivial⟩ ⟨ww_blind, fun U hU hW => ⟨rfl, by rw [hU]; exact hP, va_K.moved hW.alike hK, ww_NW.warm hW C.2.2.2.2.2.2.2.2.2, C.2.2.2.2.2.2.2.2.1⟩⟩ rfl (by rw [List.length_map]) hll.1 hstack (lv_room hrm) hd ⟨Nat.le_refl _, Nat.le_refl _⟩) hS hll rfl kk
theorem ww_invVI {Post : Int32 → ww_M → Prop} {n : ww_N} {ci : Nat} {fs : List (Option ww_N)} {T : u_T} {N idx : Nat} {d' : ww_D} (as : List ww_V) {stk : List ww_V} (hstk : stk = as.reverse ++ .inr (.inr n) :: st) (pc2 : Nat) (hd : decode d.2.1 pc = .ok (.invokevirtual idx, 3)) (hB : ww_CB d d' as.length) (hl : Cond.methodLink d.1.cls idx d'.1 ∈ ww_ws) (h1 : Cond.instanceMethod d'.1 ∈ ww_ws) (h2 : Cond.selects d'.1.cls d'.1 d'.1 ∈ ww_ws) (hn : ww_in n) (hs : ww_sh n = .inl (ci, fs)) (hc : vwCl[ci]? = some (d'.1.cls, T, N)) (hrm : ((st.map (ww_v g)).map fun v => v.category).sum ≤ 8) (hp : pc + 3 = pc2)
    (hT : ww_T E.2.1 g d' (.inr (.inr n) :: as) τ (ww_QI Post)) (kk : ∀ (v : Int32) (τ' : ww_M), Post v τ' → ww_W g d E Q pc2 P (.inl v :: st) τ') : ww_W g d E Q pc P stk τ :=
  ww_invV as hstk pc2 hd hB hl h1 h2 hn hs hc hrm hp hT (fun r τ' hq => by obtain ⟨v, rfl, hq⟩ := hq; exact kk v τ' hq)
theorem ww_invVV {Post : ww_M → Prop} {n : ww_N} {ci : Nat} {fs : List (Option ww_N)} {T : u_T} {N idx : Nat} {d' : ww_D} (as : List ww_V) {stk : List ww_V} (hstk : stk = as.reverse ++ .inr (.inr n) :: st) (pc2 : Nat) (hd : decode d.2.1 pc = .ok (.invokevirtual idx, 3)) (hB : ww_CB d d' as.length) (hl : Cond.methodLink d.1.cls idx d'.1 ∈ ww_ws) (h1 : Cond.instanceMethod d'.1 ∈ ww_ws) (h2 : Cond.selects d'.1.cls d'.1 d'.1 ∈ ww_ws) (hn : ww_in n) (hs : ww_sh n = .inl (ci, fs)) (hc : vwCl[ci]? = some (d'.1.cls, T, N)) (hrm : ((st.map (ww_v g)).map fun v => v.category).sum ≤ 8) (hp : pc + 3 = pc2)
    (hT : ww_T E.2.1 g d' (.inr (.inr n) :: as) τ (ww_QV Post)) (kk : ∀ (τ' : ww_M), Post τ' → ww_W g d E Q pc2 P st τ') : ww_W g d E Q pc P stk τ :=
  ww_invV as hstk pc2 hd hB hl h1 h2 hn hs hc hrm hp hT (fun r τ' hq => by obtain ⟨rfl, hq⟩ := hq; exact kk τ' hq)
theorem ww_invVL {Post : Int64 → ww_M → Prop} {n : ww_N} {ci : Nat} {fs : List (Option ww_N)} {T : u_T} {N idx : Nat} {d' : ww_D} (as : List ww_V) {stk : List ww_V} (hstk : stk = as.reverse ++ .inr (.inr n) :: st) (pc2 : Nat) (hd : decode d.2.1 pc = .ok (.invokevirtual idx, 3)) (hB : ww_CB d d' as.length) (hl : Cond.methodLink d.1.cls idx d'.1 ∈ ww_ws) (h1 : Cond.instanceMethod d'.1 ∈ ww_ws) (h2 : Cond.selects d'.1.cls d'.1 d'.1 ∈ ww_ws) (hn : ww_in n) (hs : ww_sh n = .inl (ci, fs)) (hc : vwCl[ci]? = some (d'.1.cls, T, N)) (hrm : ((st.map (ww_v g)).map fun v => v.category).sum ≤ 8) (hp : pc + 3 = pc2)
    (hT : ww_T E.2.1 g d' (.inr (.inr n) :: as) τ (ww_QL Post)) (kk : ∀ (v : Int64) (τ' : ww_M), Post v τ' → ww_W g d E Q pc2 P (.inr (.inl v) :: st) τ') : ww_W g d E Q pc P stk τ :=
  ww_invV as hstk pc2 hd hB hl h1 h2 hn hs hc hrm hp hT (fun r τ' hq => by obtain ⟨v, rfl, hq⟩ := hq; exact kk v τ' hq)
theorem ww_invSI {Post : Int32 → ww_M → Prop} {idx : Nat} {d' : ww_D} (as : List ww_V) {stk : List ww_V} (hstk : stk = as.reverse ++ st) (pc2 : Nat) (hd : decode d.2.1 pc = .ok (.invokestatic idx, 3)) (hB : ww_CB d d' as.length) (hl : Cond.methodLink d.1.cls idx d'.1 ∈ ww_ws ∨ ∃ host, (d.1.cls, idx, d'.1, host) ∈ ww_nM) (h1 : Cond.static d'.1 ∈ ww_ws) (hrm : ((st.map (ww_v g)).map fun v => v.category).sum ≤ 8) (hp : pc + 3 = pc2)
    (hT : ww_T E.2.1 g d' as τ (ww_QI Post)) (kk : ∀ (v : Int32) (τ' : ww_M), Post v τ' → ww_W g d E Q pc2 P (.inl v :: st) τ') : ww_W g d E Q pc P stk τ :=
  ww_invS as hstk pc2 hd hB hl h1 hrm hp hT (fun r τ' hq => by obtain ⟨v, rfl, hq⟩ := hq; exact kk v τ' hq)
theorem ww_invSL {Post : Int64 → ww_M → Prop} {idx : Nat} {d' : ww_D} (as : List ww_V) {stk : List ww_V} (hstk : stk = as.reverse ++ st) (pc2 : Nat) (hd : decode d.2.1 pc = .ok (.invokestatic idx, 3)) (hB : ww_CB d d' as.length) (hl : Cond.methodLink d.1.cls idx d'.1 ∈ ww_ws ∨ ∃ host, (d.1.cls, idx, d'.1, host) ∈ ww_nM) (h1 : Cond.static d'.1 ∈ ww_ws) (hrm : ((st.map (ww_v g)).map fun v => v.category).sum ≤ 8) (hp : pc + 3 = pc2)
    (hT : ww_T E.2.1 g d' as τ (ww_QL Post)) (kk : ∀ (v : Int64) (τ' : ww_M), Post v τ' → ww_W g d E Q pc2 P (.inr (.inl v) :: st) τ') : ww_W g d E Q pc P stk τ :=
  ww_invS as hstk pc2 hd hB hl h1 hrm hp hT (fun r τ' hq => by obtain ⟨v, rfl, hq⟩ := hq; exact kk v τ' hq)
/-! longs compared -/
theorem ww_lcmp {x y : Int64} (pc2 : Nat) (hd : decode d.2.1 pc = .ok (.lcmp, 1)) (hp : pc + 1 = pc2) (k : ww_W g d E Q pc2 P (.inl (lg_cmp x y) :: st) τ) : ww_W g d E Q pc P (.inr (.inl y) :: .inr (.inl x) :: st) τ := by
  subst hp
  exact fun C H locs ls hP hS hl => W.lcmp C.1 C.2.1 hd (k C H locs ls hP hS hl)
/-! switches -/
def ww_tchk (pc : Nat) (dflt lo hi : Int) (offs : Array Int) (tl : List (Int32 × Nat)) (td : Nat) : Bool := ((pc : Int) + dflt == (td : Int)) && (hi + 1 == lo + (offs.size : Int)) && (tl.length == offs.size) && (List.range offs.size).all (fun i => match offs[i]?, tl[i]? with
  | some o, some q => (q.1.toInt == lo + (i : Int)) && ((pc : Int) + o == (q.2 : Int))
  | _, _ => false)
theorem ww_tsw {x : Int32} {dflt lo hi : Int} {offs : Array Int} {len : Nat} (tl : List (Int32 × Nat)) (td : Nat) (hd : decode d.2.1 pc = .ok (.tableswitch dflt lo hi offs, len)) (hk : ww_tchk pc dflt lo hi offs tl td = true) (kC : ∀ q ∈ tl, x = q.1 → ww_W g d E Q q.2 P st τ) (kD : (∀ q ∈ tl, ¬ x = q.1) → ww_W g d E Q td P st τ) : ww_W g d E Q pc P (.inl x :: st) τ := by
  intro C H locs ls hP hS hl
  unfold ww_tchk at hk
  rw [Bool.and_eq_true, Bool.and_eq_true, Bool.and_eq_true] at hk
  obtain ⟨⟨⟨k1, k2⟩, k3⟩, k4⟩ := hk
  have k1 : (pc : Int) + dflt = (td : Int) := by simpa using k1
  have k2 : hi + 1 = lo + (offs.size : Int) := by simpa using k2
  have k3 : tl.length = offs.size := by simpa using k3
  rw [List.all_eq_true] at k4
  have key : ∀ i, i < offs.size → ∃ (o : Int) (q : Int32 × Nat), offs[i]? = some o ∧ tl[i]? = some q ∧ q.1.toInt = lo + (i : Int) ∧ (pc : Int) + o = (q.2 : Int) := by
    intro i hi
    have h := k4 i (List.mem_range.mpr hi)
    have ho : offs[i]? = some offs[i] := Array.getElem?_eq_getElem hi
    have hq : tl[i]? = some (tl[i]'(by omega)) := List.getElem?_eq_getElem (by omega)
    rw [ho, hq] at h
    simp only [Bool.and_eq_true, beq_iff_eq] at h
    exact ⟨_, _, ho, hq, h.1, h.2⟩
  by_cases hout : x.toInt < lo ∨ hi < x.toInt
  · refine lv_tableOut C.1 C.2.1 hd hout k1 (kD (fun q hq e => ?_) C H locs ls hP hS hl)
    obtain ⟨i, hi, he⟩ := List.mem_iff_getElem.mp hq
    obtain ⟨o, q', h1, h2, h3, h4⟩ := key i (by omega)
    rw [List.getElem?_eq_getElem hi, he] at h2
    cases h2
    rw [e] at hout
    omega
  · have h1 : ¬ x.toInt < lo := fun h => hout (Or.inl h)
    have h2 : ¬ hi < x.toInt := fun h => hout (Or.inr h)
    obtain ⟨o, q, e1, e2, e3, e4⟩ := key (x.toInt - lo).toNat (by omega)
    refine lv_tableIn C.1 C.2.1 hd h1 h2 e1 e4 (kC q (List.mem_of_getElem? e2) (Int32.toInt_inj.mp (by omega)) C H locs ls hP hS hl)
theorem ww_lkp (pc : Nat) (dflt : Int) (x : Int32) : ∀ (ps : List (Int × Int)) (tl : List (Int32 × Nat)), ps.map (fun q => (q.1, (pc : Int) + q.2)) = tl.map (fun q => (q.1.toInt, (q.2 : Int))) → (∃ q ∈ tl, x = q.1 ∧ (pc : Int) + Op.lookupswitch.offset ps dflt x.toInt = (q.2 : Int)) ∨ ((∀ q ∈ tl, ¬ x = q.1) ∧ Op.lookupswitch.offset ps dflt x.toInt = dflt)
  | [], [], _ => Or.inr ⟨fun q h => absurd h List.not_mem_nil, rfl⟩
  | [], q :: r, h => by simp at h
  | p :: r, [], h => by simp at h
  | (a, o) :: r, q :: s, h => by
    simp only [List.map_cons, List.cons.injEq, Prod.mk.injEq] at h
    obtain ⟨⟨h1, h2⟩, h3⟩ := h
    rw [Op.lookupswitch.offset_cons]
    by_cases hx : a = x.toInt
    · rw [if_pos hx]
      exact Or.inl ⟨q, List.mem_cons_self, Int32.toInt_inj.mp (by omega), h2⟩
    · rw [if_neg hx]
      rcases ww_lkp pc dflt x r s h3 with ⟨q', e1, e2, e3⟩ | ⟨e1, e2⟩
      · exact Or.inl ⟨q', List.mem_cons_of_mem _ e1, e2, e3⟩
      · refine Or.inr ⟨fun q' hq' => ?_, e2⟩
        rcases List.mem_cons.mp hq' with rfl | hq'
        · intro e
          exact hx (by rw [h1, e])
        · exact e1 q' hq'
theorem ww_lsw {x : Int32} {dflt : Int} {ps : Array (Int × Int)} {len : Nat} (tl : List (Int32 × Nat)) (td : Nat) (hd : decode d.2.1 pc = .ok (.lookupswitch dflt ps, len)) (hs : (ps.toList.zip (ps.toList.drop 1)).all (fun (a, next) => a.1 < next.1) = true) (hk : ps.toList.map (fun q => (q.1, (pc : Int) + q.2)) = tl.map (fun q => (q.1.toInt, (q.2 : Int)))) (ht : (pc : Int) + dflt = (td : Int)) (kC : ∀ q ∈ tl, x = q.1 → ww_W g d E Q q.2 P st τ) (kD : (∀ q ∈ tl, ¬ x = q.1) → ww_W g d E Q td P st τ) : ww_W g d E Q pc P (.inl x :: st) τ := by
  intro C H locs ls hP hS hl
  rcases ww_lkp pc dflt x ps.toList tl hk with ⟨q, e1, e2, e3⟩ | ⟨e1, e2⟩
  · exact lv_lookup C.1 C.2.1 hd hs rfl e3 (kC q e1 e2 C H locs ls hP hS hl)
  · exact lv_lookup C.1 C.2.1 hd hs e2 ht (kD e1 C H locs ls hP hS hl)
end RULES
