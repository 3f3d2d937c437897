/-! ===== the cells by their places (the order in which they are made): a description of each ===== -/
theorem vs_arrV {cA : ClassId} {n : Nat} {f f' : Nat → Value} (h : ∀ j, j < n → f j = f' j) : arrV cA n f = arrV cA n f' := by
  have e : (fun j : Fin n => f j.val) = fun j : Fin n => f' j.val := funext fun j => h j.val j.isLt
  unfold arrV
  rw [e]
/-- two pictures of the same cell -/
def vq (e e' : va_E) : Prop := e = e' ∨ ∃ (c : ClassId) (n : Nat) (f f' : Nat → Option Nat), e = .inl (c, n, .inr (.inr (.inr (.inr f)))) ∧ e' = .inl (c, n, .inr (.inr (.inr (.inr f')))) ∧ ∀ j, j < n → f j = f' j
theorem vq_at {D : va_G} {a : Nat} {e e' : va_E} {H : Heap} (h : vq e e') (hP : va_at D vwCl (a, e) H) : va_at D vwCl (a, e') H := by
  rcases h with rfl | ⟨c, n, f, f', rfl, rfl, hf⟩
  · exact hP
  · show H[a]? = some (vp_cell c (n, .inr (.inr (.inr (.inr f')))))
    have hP' : H[a]? = some (vp_cell c (n, .inr (.inr (.inr (.inr f))))) := hP
    rw [hP', vp_cell_q, vp_cell_q, vs_arrV (fun j hj => by rw [hf j hj])]
theorem vs_lt {N : Nat} {ad : Nat → Nat} {C : Nat → va_E} {k : Nat} {q : Nat × va_E} (h : (vs_l N ad C)[k]? = some q) : k < N := by
  have := (List.getElem?_eq_some_iff.mp h).1
  rw [vs_len] at this
  exact this
theorem vs_conv {D : va_G} {N : Nat} {ad ad' : Nat → Nat} {C C' : Nat → va_E} {H : Heap} (hP : va_P D vwCl (vs_l N ad C) H) (ha : ∀ j, j < N → ad' j = ad j) (hc : ∀ j, j < N → C j = C' j) : va_P D vwCl (vs_l N ad' C') H := by
  intro k q hq
  have hk := vs_lt hq
  rw [vs_get hk] at hq
  cases hq
  rw [ha k hk, ← hc k hk]
  exact hP k _ (vs_get hk)
theorem vs_convD {A : Nat → Prop} {N : Nat} {ad ad' : Nat → Nat} {C C' : Nat → va_E} (hD : va_D A (vs_l N ad C)) (ha : ∀ j, j < N → ad' j = ad j) : va_D A (vs_l N ad' C') := by
  refine ⟨fun i j x y hx hy e => ?_, fun k q hq => ?_⟩
  · have hi := vs_lt hx
    have hj := vs_lt hy
    rw [vs_get hi] at hx
    rw [vs_get hj] at hy
    cases hx
    cases hy
    have e' : ad' i = ad' j := e
    rw [ha i hi, ha j hj] at e'
    exact hD.1 i j _ _ (vs_get hi) (vs_get hj) e'
  · have hk := vs_lt hq
    rw [vs_get hk] at hq
    cases hq
    show A (ad' k)
    rw [ha k hk]
    exact hD.2 k _ (vs_get hk)
/-! a cell's description: an object (its class's number; its fields: nothing, an int, the cell at a place), ints, cells at places (array class, how many, from which place, in which steps) -/
abbrev vd_x : Type := Option (Int32 ⊕ Nat)
abbrev vd : Type := (Nat × List vd_x) ⊕ (Nat ⊕ (Nat × Nat × Nat × Nat))
def vd_o (ad : Nat → Nat) (x : vd_x) : Value := match x with
  | none => .null
  | some (.inl v) => .int v
  | some (.inr p) => .ref (ad p)
def vd_q (c : ClassId) (n b st w : Nat) (ad : Nat → Nat) : va_E := .inl (c, n, .inr (.inr (.inr (.inr (fun i => if i < w then some (ad (b + st * i)) else none)))))
def vd_i (c : ClassId) (n : Nat) : va_E := .inl (c, n, .inl (fun _ => 0))
def vd_e (t : Nat → ClassId) (ad : Nat → Nat) (d : vd) : va_E := match d with
  | .inl q => .inr (q.1, q.2.map (vd_o ad))
  | .inr (.inl n) => vd_i (t 0) n
  | .inr (.inr q) => vd_q (t q.1) q.2.1 q.2.2.1 q.2.2.2 q.2.1 ad
def vd_f (x : vd_x) : Nat := match x with
  | some (.inr p) => p + 1
  | _ => 0
def vd_m (fs : List vd_x) : Nat := fs.foldr (fun x u => max (vd_f x) u) 0
/-- the places that a cell names are below this -/
def vd_u (d : vd) : Nat := match d with
  | .inl q => vd_m q.2
  | .inr (.inl _) => 0
  | .inr (.inr q) => q.2.2.1 + q.2.2.2 * (q.2.1 - 1) + 1
theorem vd_congr_f {ad ad' : Nat → Nat} {M : Nat} (h : ∀ i, i < M → ad' i = ad i) : ∀ fs : List vd_x, vd_m fs ≤ M → fs.map (vd_o ad') = fs.map (vd_o ad)
  | [], _ => rfl
  | x :: r, hu => by
    have hu' : max (vd_f x) (vd_m r) ≤ M := hu
    rw [List.map_cons, List.map_cons, vd_congr_f h r (by omega)]
    match x, hu' with
    | none, _ => rfl
    | some (.inl v), _ => rfl
    | some (.inr p), hu' =>
      have hp : vd_f (some (.inr p)) = p + 1 := rfl
      have e : ad' p = ad p := h p (by omega)
      show Value.ref (ad' p) :: _ = Value.ref (ad p) :: _
      rw [e]
theorem vd_q_congr {c : ClassId} {n b st w : Nat} {ad ad' : Nat → Nat} (h : ∀ i, i < w → ad' (b + st * i) = ad (b + st * i)) : vd_q c n b st w ad' = vd_q c n b st w ad := by
  unfold vd_q
  have e : (fun i => if i < w then some (ad' (b + st * i)) else none) = fun i => if i < w then some (ad (b + st * i)) else none := by
    funext i
    by_cases hi : i < w
    · rw [if_pos hi, if_pos hi, h i hi]
    · rw [if_neg hi, if_neg hi]
  rw [e]
theorem vd_congr {t : Nat → ClassId} {ad ad' : Nat → Nat} {M : Nat} (h : ∀ i, i < M → ad' i = ad i) : ∀ d : vd, vd_u d ≤ M → vd_e t ad' d = vd_e t ad d
  | .inl q, hu => by
    show Sum.inr (q.1, q.2.map (vd_o ad')) = Sum.inr (q.1, q.2.map (vd_o ad))
    rw [vd_congr_f h q.2 hu]
  | .inr (.inl n), _ => rfl
  | .inr (.inr q), hu => by
    have hu' : q.2.2.1 + q.2.2.2 * (q.2.1 - 1) + 1 ≤ M := hu
    refine vd_q_congr (fun i hi => h _ ?_)
    have : q.2.2.2 * i ≤ q.2.2.2 * (q.2.1 - 1) := Nat.mul_le_mul_left _ (by omega)
    omega
def vz_r (cap b j : Nat) : vd := if (j - b) % 2 = 0 then .inl (2, [some (.inr (j + 1)), some (.inl 0)]) else .inr (.inl cap)
/-- what lies at a place, once both objects are made -/
def vz_d (j : Nat) : vd :=
  if j < 32 then
    if j < 16 then
      if j = 0 then .inl (5, [some (.inr 1), some (.inr 14), some (.inr 16), some (.inr 32), some (.inr 229), some (.inr 232), some (.inr 234), some (.inr 236), some (.inl 0), some (.inl 0), some (.inl 0)])
      else if j = 1 then .inr (.inr (1, 6, 2, 2))
      else if j < 14 then vz_r 60 2 j
      else if j = 14 then .inl (4, [some (.inr 15), some (.inl 0), some (.inl 0), some (.inl 0), some (.inl 0), some (.inl 0)])
      else .inr (.inl 100)
    else if j = 16 then .inl (1, [some (.inr 19), some (.inl 0), some (.inr 17), some (.inl 0), some (.inl 0), some (.inl 0), some (.inr 18), some (.inl 0)])
    else if j = 17 then .inr (.inl 60)
    else if j = 18 then .inr (.inl 4)
    else if j = 19 then .inr (.inr (1, 6, 20, 2))
    else vz_r 60 20 j
  else if j < 61 then
    if j = 32 then .inl (0, [some (.inr 53), some (.inl 0), some (.inr 33), some (.inr 34), some (.inr 35), some (.inr 60), some (.inl 0), some (.inl (nI 14)), some (.inr 37), some (.inr 38), some (.inr 39), some (.inr 48), some (.inr 49)])
    else if j < 35 then .inr (.inl 3)
    else if j < 37 then vz_r 14 35 j
    else if j < 39 then .inr (.inl 84)
    else if j = 39 then .inr (.inr (2, 8, 40, 1))
    else if j < 48 then .inr (.inl 84)
    else if j = 48 then .inr (.inl 8)
    else if j = 49 then .inr (.inr (2, 3, 50, 1))
    else if j < 53 then .inr (.inl 4)
    else if j = 53 then .inr (.inr (1, 3, 54, 2))
    else if j < 60 then vz_r 14 54 j
    else .inr (.inr (1, 84, 61, 2))
  else if j < 229 then vz_r 14 61 j
  else if j < 238 then
    if j = 229 then .inl (3, [some (.inr 32), some (.inr 230), some (.inl 0), some (.inl 0), some (.inl 0), some (.inl 0), some (.inl 0)])
    else if j < 232 then vz_r 60 230 j
    else if j < 234 then vz_r 540 232 j
    else vz_r 60 234 j
  else if j = 238 then .inl (6, [some (.inr 239), some (.inr 240), some (.inl 0), some (.inr 241), some (.inr 242), some (.inr 243), some (.inl 0), some (.inr 244), some (.inr 245), some (.inr 246), some (.inl 0), some (.inr 247), some (.inl 0), some (.inr 248), some (.inl 0), some (.inl 0), some (.inl 0), some (.inl 0), some (.inr 249), some (.inr 250), some (.inr 251), some (.inl 0), some (.inl 0), some (.inr 252), some (.inl 0), some (.inl 0), some (.inr 253), some (.inr 254), some (.inl 0), some (.inl 0), some (.inr 255), some (.inr 256)])
  else .inr (.inl (([42, 3, 1176, 84, 84, 360, 6, 3, 700, 12, 700, 60, 60, 100, 5, 61, 360, 6] : List Nat).getD (j - 239) 0))
/-! names and places -/
def vz_row (r : Nat) : Nat := if r < 6 then 2 + 2 * r else if r < 12 then 8 + 2 * r else if r < 15 then 30 + 2 * r else if r = 15 then 35 else if r < 19 then 200 + 2 * r else if r = 19 then 230 else 21 + 2 * r
def vz_pl (n : ww_N) : Nat := if n.1 = 21 then vz_row n.2 else if n.1 = 22 then vz_row n.2 + 1 else if n.1 = 16 then 40 + n.2 else if n.1 = 19 then 50 + n.2 else
  if n.1 < 30 then ([0, 1, 14, 15, 16, 19, 17, 18, 32, 53, 33, 34, 60, 37, 38, 39, 0, 48, 49, 0, 229] : List Nat).getD n.1 0 else 208 + n.1
def vz_ij (a b : Nat) : Bool := (a, b) == ((List.range 49).foldr (fun k (u : ww_N) => (List.range (ww_cnt k)).foldr (fun r (v : ww_N) => if vz_pl (k, r) = vz_pl (a, b) then (k, r) else v) u) (50, 0))
def vm_f (n : ww_N) : Nat → List vd_x → List (Option ww_N) → Bool
  | _, [], [] => true
  | k, some (.inl v) :: r, none :: r' => decide (v = τ0 n k) && vm_f n (k + 1) r r'
  | k, some (.inr p) :: r, some x :: r' => decide (p = vz_pl x) && vm_f n (k + 1) r r'
  | _, _, _ => false
def vm_ok (n : ww_N) (d : vd) (sh : ww_S) : Bool := match d, sh with
  | .inl q, .inl q' => decide (q.1 = q'.1) && vm_f n 0 q.2 q'.2
  | .inr (.inl k), .inr (.inl k') => decide (k = k') && decide (n.1 ≠ 8)
  | .inr (.inr q), .inr (.inr q') => decide (q.1 = q'.1) && decide (q.2.1 = q'.2.1) && (List.range q.2.1).all (fun i => decide (q.2.2.1 + q.2.2.2 * i = vz_pl (q'.2.2 i)))
  | _, _ => false
theorem vm_f_ok {g : ww_G} {ad : Nat → Nat} {n : ww_N} (hg : ∀ x, g.2.1 x = ad (vz_pl x)) : ∀ (fs : List vd_x) (fs' : List (Option ww_N)) (k : Nat), vm_f n k fs fs' = true → fs.map (vd_o ad) = ww_fs g τ0 n k fs'
  | [], [], k, _ => rfl
  | some (.inl v) :: r, none :: r', k, h => by
    rw [vm_f, Bool.and_eq_true, decide_eq_true_eq] at h
    rw [List.map_cons, ww_fs, vm_f_ok hg r r' (k + 1) h.2, h.1]
    rfl
  | some (.inr p) :: r, some x :: r', k, h => by
    rw [vm_f, Bool.and_eq_true, decide_eq_true_eq] at h
    rw [List.map_cons, ww_fs, vm_f_ok hg r r' (k + 1) h.2, h.1, hg x]
    rfl
theorem vm_sound {g : ww_G} {ad : Nat → Nat} {n : ww_N} (hg : ∀ x, g.2.1 x = ad (vz_pl x)) : ∀ (d : vd) (sh : ww_S), ww_sh n = sh → vm_ok n d sh = true → vq (vd_e g.2.2 ad d) (ww_c g τ0 n)
  | .inl q, .inl q', hs, h => by
    have h' : (decide (q.1 = q'.1) && vm_f n 0 q.2 q'.2) = true := h
    rw [Bool.and_eq_true, decide_eq_true_eq] at h'
    refine Or.inl ?_
    rw [ww_c_ob hs]
    show Sum.inr (q.1, q.2.map (vd_o ad)) = _
    rw [vm_f_ok hg _ _ _ h'.2, h'.1]
  | .inr (.inl k), .inr (.inl k'), hs, h => by
    have h' : (decide (k = k') && decide (n.1 ≠ 8)) = true := h
    rw [Bool.and_eq_true, decide_eq_true_eq, decide_eq_true_eq] at h'
    refine Or.inl ?_
    rw [ww_c_ia hs, ← h'.1]
    have e : τ0 n = fun _ => 0 := funext fun j => by rw [τ0_n (fun q => h'.2 (by rw [q])), nI_0]
    rw [e]
    rfl
  | .inr (.inr q), .inr (.inr q'), hs, h => by
    have h' : (decide (q.1 = q'.1) && decide (q.2.1 = q'.2.1) && (List.range q.2.1).all (fun i => decide (q.2.2.1 + q.2.2.2 * i = vz_pl (q'.2.2 i)))) = true := h
    rw [Bool.and_eq_true, Bool.and_eq_true, decide_eq_true_eq, decide_eq_true_eq, List.all_eq_true] at h'
    obtain ⟨⟨e1, e2⟩, e3⟩ := h'
    refine Or.inr ⟨g.2.2 q.1, q.2.1, _, fun j => some (g.2.1 (q'.2.2 j)), rfl, ?_, fun j hj => ?_⟩
    · rw [ww_c_ra (a := q'.1) (len := q'.2.1) (f := q'.2.2) hs, e1, e2]
    · have := e3 j (List.mem_range.mpr hj)
      rw [decide_eq_true_eq] at this
      show (if j < q.2.1 then some (ad (q.2.2.1 + q.2.2.2 * j)) else none) = some (g.2.1 (q'.2.2 j))
      rw [if_pos hj, hg, this]
set_option maxRecDepth 100000 in
theorem vm_all : ∀ k, k < 49 → ∀ r, r < ww_cnt k → vm_ok (k, r) (vz_d (vz_pl (k, r))) (ww_sh (k, r)) = true ∧ vz_pl (k, r) < 257 ∧ vz_ij k r = true := by decide +kernel
theorem vz_lt {n : ww_N} (h : ww_in n) : n.1 < 49 := by
  refine Nat.not_le.mp fun h2 => ?_
  have e : ww_cnt n.1 = 0 := by
    unfold ww_cnt
    rw [if_neg (by omega), if_neg (by omega), if_neg (by omega), if_neg (by omega), if_neg (by omega), if_neg (by omega), if_neg (by omega)]
  unfold ww_in at h
  omega
theorem vz_inj {n n' : ww_N} (h : ww_in n) (h' : ww_in n') (e : vz_pl n = vz_pl n') : n = n' := by
  have a := (vm_all n.1 (vz_lt h) n.2 h).2.2
  have b := (vm_all n'.1 (vz_lt h') n'.2 h').2.2
  unfold vz_ij at a b
  have e2 : vz_pl (n.1, n.2) = vz_pl (n'.1, n'.2) := e
  rw [e2] at a
  have a1 : n = _ := eq_of_beq a
  have b1 : n' = _ := eq_of_beq b
  exact a1.trans b1.symm
/-- the world by names, out of the world by places -/
theorem vz_world {D : va_G} {A : Nat → Prop} {t : Nat → ClassId} {ad : Nat → Nat} {H : Heap} (hP : va_P D vwCl (vs_l 257 ad (fun j => vd_e t ad (vz_d j))) H) (hD : va_D A (vs_l 257 ad (fun j => vd_e t ad (vz_d j)))) : ww_P (D, (fun x => ad (vz_pl x)), t) τ0 H ∧ ww_J (D, (fun x => ad (vz_pl x)), t) ∧ ∀ n, ww_in n → A (ad (vz_pl n)) := by
  have hlt : ∀ n, ww_in n → vz_pl n < 257 := fun n hn => (vm_all n.1 (vz_lt hn) n.2 hn).2.1
  refine ⟨fun n hn => ?_, fun n n' hn hn' e => ?_, fun n hn => ?_⟩
  · exact vq_at (vm_sound (g := (D, (fun x => ad (vz_pl x)), t)) (fun _ => rfl) _ _ rfl (vm_all n.1 (vz_lt hn) n.2 hn).1) (hP _ _ (vs_get (hlt n hn)))
  · exact vz_inj hn hn' (hD.1 _ _ _ _ (vs_get (hlt n hn)) (vs_get (hlt n' hn')) e)
  · exact hD.2 _ _ (vs_get (hlt n hn))
