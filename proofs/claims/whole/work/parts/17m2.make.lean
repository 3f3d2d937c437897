/-! ===== multianewarray of two dimensions, over the machine ===== -/
/-- the outer array, i of its rows made -/
def vo_f (h i j : Nat) : Value := va_rf (if j < i then some (h + 1 + j) else none)
theorem vo_f_up {h i j : Nat} : updV (vo_f h i) i (.ref (h + 1 + i)) j = vo_f h (i + 1) j := by
  unfold vo_f
  by_cases h1 : j = i
  · subst h1
    simp [updV, va_rf]
  · by_cases h2 : j < i
    · simp [updV, h1, h2, show j < i + 1 by omega]
    · simp [updV, h1, h2, show ¬ j < i + 1 by omega]
/-- the machine once the outer array and i rows stand -/
def vo_s (T : State) (cA cC : ClassId) (n q : Nat) : Nat → State
  | 0 => T.pushCell (arrV cA n (vo_f T.heap.size 0))
  | i + 1 => ((vo_s T cA cC n q i).pushCell (arrV cC q (fun _ => .int 0))).setCell T.heap.size (arrV cA n (vo_f T.heap.size (i + 1)))
theorem vo_step (cA : ClassId) (n h i : Nat) : (arrV cA n (vo_f h i)).setSlot i (.ref (h + 1 + i)) = arrV cA n (vo_f h (i + 1)) := by
  rw [arrV_store]
  exact vs_arrV (fun j _ => vo_f_up)
theorem vo_facts (T : State) (cA cC : ClassId) (n q : Nat) : ∀ i : Nat, (vo_s T cA cC n q i).heap.size = T.heap.size + 1 + i ∧ (vo_s T cA cC n q i).heap[T.heap.size]? = some (arrV cA n (vo_f T.heap.size i)) ∧ (vo_s T cA cC n q i).vm = T.vm ∧ (vo_s T cA cC n q i).slotsUsed = T.slotsUsed + n + i * q ∧ (∀ x : Nat, x < T.heap.size → (vo_s T cA cC n q i).heap[x]? = T.heap[x]?) ∧ ∀ j : Nat, j < i → (vo_s T cA cC n q i).heap[T.heap.size + 1 + j]? = some (arrV cC q (fun _ => .int 0))
  | 0 => ⟨by simp [vo_s], by simp [vo_s], rfl, by simp [vo_s, arrV_size], fun x hx => State.heap_pushCell_of_lt _ _ hx, fun j hj => absurd hj (Nat.not_lt_zero j)⟩
  | i + 1 => by
    obtain ⟨f1, f2, f3, f4, f5, f6⟩ := vo_facts T cA cC n q i
    have hlt : T.heap.size < (vo_s T cA cC n q i).heap.size := by omega
    have g2 : ((vo_s T cA cC n q i).pushCell (arrV cC q (fun _ => .int 0))).heap[T.heap.size]? = some (arrV cA n (vo_f T.heap.size i)) := by
      rw [State.heap_pushCell_of_lt (h := hlt)]
      exact f2
    have o : ∀ x : Nat, T.heap.size ≠ x → (vo_s T cA cC n q (i + 1)).heap[x]? = ((vo_s T cA cC n q i).pushCell (arrV cC q (fun _ => .int 0))).heap[x]? := fun x hx => State.heap_setCell_other hx
    refine ⟨?_, State.heap_setCell_self g2, by simp [vo_s, f3], ?_, fun x hx => ?_, fun j hj => ?_⟩
    · simp [vo_s, State.setCell, f1]
      omega
    · simp [vo_s, f4, arrV_size, Nat.succ_mul]
      omega
    · have hx2 : x < (vo_s T cA cC n q i).heap.size := by omega
      rw [o x (by omega), State.heap_pushCell_of_lt (h := hx2)]
      exact f5 x hx
    · rw [o _ (by omega)]
      by_cases h : j < i
      · have hx2 : T.heap.size + 1 + j < (vo_s T cA cC n q i).heap.size := by omega
        rw [State.heap_pushCell_of_lt (h := hx2)]
        exact f6 j h
      · rw [show T.heap.size + 1 + j = (vo_s T cA cC n q i).heap.size by omega]
        exact State.heap_pushCell_size _ _
theorem vo_top (T : State) (f : JFrame) (cA cC : ClassId) (n q : Nat) : ∀ i : Nat, vo_s (T.setTop f) cA cC n q i = (vo_s T cA cC n q i).setTop f
  | 0 => rfl
  | i + 1 => by
    show ((vo_s (T.setTop f) cA cC n q i).pushCell _).setCell _ _ = _
    rw [vo_top T f cA cC n q i]
    rfl
section VOW
variable {E : CtlPost} {e : Env} {d : Bool} {acts : List Action} {s : State}
theorem vo_new {cA comp : ClassId} {k : Class} {ty : FieldType} {n : Nat} {v : Value} (hk : s.vm.classes[cA]? = some k) (hkind : k.kind = .array comp ty) (h1 : ¬ n > e.platform.arrayLengthLimit) (h2 : ¬ n * componentBytes ty > e.platform.maxHeapBytes) (hfit : fits ty v = true) (hdef : v.isDefault = true) (h3 : s.heap.size < e.platform.maxCells) (h4 : s.slotsUsed + n ≤ e.platform.maxSlots) {Q : Addr → Pre} (hq : Q s.heap.size d acts (s.pushCell (arrV cA n (fun _ => v)))) : wp (Jvm.newArray cA n v) Q E e d acts s := by
  rw [← arrV_new] at hq
  have hall : ((Array.replicate n v).all (fun x => x.isDefault)) = true := by
    rw [Array.all_replicate]
    split <;> simp [hdef]
  have hact : allocActs (Array.replicate n v) s.heap.size acts = acts := by
    unfold allocActs
    rw [if_pos hall]
  have hfits : ∀ i x, (Array.replicate n v)[i]? = some x → s.fitsSlot cA .none i x = true := by
    intro i x hx
    rw [Array.getElem?_replicate] at hx
    by_cases hi : i < n
    · rw [if_pos hi] at hx
      cases hx
      simp [State.fitsSlot, State.slotType?, hk, hkind, hfit]
    · rw [if_neg hi] at hx
      cases hx
  simp only [Jvm.newArray, Jvm.arrayFits, wp_bind', W.ask, W.ite, h1, if_false, wp_pure', W.theClass, hk, hkind, h2, W.alloc, W.stop, Option.some.injEq, exists_eq_left', Array.size_replicate, hact]
  rw [if_neg (by omega)]
  exact ⟨h3, h4, hfits, hq⟩
theorem vo_make {cA cC cB : ClassId} {kA kC : Class} {n q : Int32} (hkA : s.vm.classes[cA]? = some kA) (hkindA : kA.kind = .array cC (.array .int)) (hkC : s.vm.classes[cC]? = some kC) (hkindC : kC.kind = .array cB .int) (hn : ¬ n < 0) (hq0 : ¬ q < 0)
    (h1 : ¬ n.toNatClampNeg > e.platform.arrayLengthLimit) (h2 : ¬ n.toNatClampNeg * componentBytes (.array .int) > e.platform.maxHeapBytes) (h3 : ¬ q.toNatClampNeg > e.platform.arrayLengthLimit) (h4 : ¬ q.toNatClampNeg * componentBytes .int > e.platform.maxHeapBytes)
    (hc : s.heap.size + 1 + n.toNatClampNeg ≤ e.platform.maxCells) (hs : s.slotsUsed + n.toNatClampNeg + n.toNatClampNeg * q.toNatClampNeg ≤ e.platform.maxSlots) {Q : Addr → Pre} (hq : ∀ d' acts', Q s.heap.size d' acts' (vo_s s cA cC n.toNatClampNeg q.toNatClampNeg n.toNatClampNeg)) : wp (multianewarray.make cA [n, q]) Q E e d acts s := by
  have hbad : ([q].find? (· < 0)) = none := by simp [hq0]
  have e0 : (fun _ => Value.null) = vo_f s.heap.size 0 := funext fun j => by
    unfold vo_f
    rw [if_neg (Nat.not_lt_zero j)]
    rfl
  rw [multianewarray.make]
  simp only [wp_bind', W.ite, hn, if_false, wp_pure', W.theClass, hkA, hkindA, Option.some.injEq, exists_eq_left']
  refine vo_new hkA hkindA h1 h2 rfl rfl (by omega) (by have := Nat.zero_le (n.toNatClampNeg * q.toNatClampNeg); omega) ?_
  rw [e0]
  simp only [hbad]
  rw [ite_self, wp_bind', Std.Legacy.Range.forIn_eq_forIn_range']
  have hsz : ([:n.toNatClampNeg] : Std.Legacy.Range).size = n.toNatClampNeg := by simp [Std.Legacy.Range.size]
  rw [hsz]
  show wp (forIn (List.range' 0 n.toNatClampNeg 1) PUnit.unit _) _ E e d acts _
  generalize hN : n.toNatClampNeg = N at *
  generalize hM : q.toNatClampNeg = M at *
  refine wp_forIn_inv (fun rest s' => ∃ i r, i + r = N ∧ rest = List.range' i r 1 ∧ s' = vo_s s cA cC N M i) _ _ ⟨0, N, by omega, rfl, rfl⟩ ?_ ?_
  · rintro x rest s' d' acts' Q' ⟨i, r, hir, hl, rfl⟩ hnext
    cases r with
    | zero => cases hl
    | succ r =>
      rw [List.range'_succ] at hl
      obtain ⟨rfl, hrest⟩ := List.cons.inj hl
      obtain ⟨f1, f2, f3, f4, -, -⟩ := vo_facts s cA cC N M x
      have hmul : x * M + M ≤ N * M := by
        have := Nat.mul_le_mul_right M (show x + 1 ≤ N by omega)
        rw [Nat.succ_mul] at this
        exact this
      simp only [wp_bind']
      rw [multianewarray.make]
      simp only [wp_bind', W.ite, hq0, if_false, wp_pure', W.theClass, f3, hkC, hkindC, Option.some.injEq, exists_eq_left', hM]
      refine vo_new (by rw [f3]; exact hkC) hkindC h3 h4 rfl rfl (by omega) (by omega) ?_
      simp only [wp_bind', W.writeLoc, wp_pure']
      have hx2 : s.heap.size < (vo_s s cA cC N M x).heap.size := by omega
      refine ⟨arrV cA N (vo_f s.heap.size x), by rw [State.heap_pushCell_of_lt (h := hx2)]; exact f2, by show VmData.none ≠ _; simp, by rw [arrV_size]; omega, ?_, hnext _ _ _ ⟨x + 1, r, by omega, hrest, ?_⟩⟩
      · show State.fitsSlot _ cA .none _ _ = true
        simp [State.fitsSlot, State.slotType?, f3, hkA, hkindA, fits]
      · rw [f1, vo_step]
        rfl
  · rintro s' d' acts' ⟨i, r, hir, hl, rfl⟩
    cases r with
    | zero =>
      rw [show i = N by omega]
      simp only [wp_pure']
      exact hq _ _
    | succ r =>
      rw [List.range'_succ] at hl
      cases hl
end VOW
section VOS
variable {p : Program} {l : Launch} {e : Env} {R : Room} {s : State} {m : MethodId} {args : Array Value} {below : List Frame} {meth : Method} {c : Code} {T : State} {locs : List Loc} {cells slots : Nat}
theorem vo_stand (X : Stand p l e R s m args below meth c T locs cells slots) (cA cC : ClassId) (n q : Nat) : ∀ i : Nat, ∃ L : List Loc, (∀ x ∈ L, x.base = T.heap.size) ∧ Stand p l e R s m args below meth c (vo_s T cA cC n q i) (locs ++ L) (cells + 1 + i) (slots + n + i * q)
  | 0 => by
    have h := X.pushed (arrV cA n (vo_f T.heap.size 0))
    rw [arrV_size] at h
    refine ⟨[], fun x hx => absurd hx List.not_mem_nil, ?_⟩
    rw [List.append_nil, Nat.zero_mul]
    exact h
  | i + 1 => by
    obtain ⟨L, hL, Xi⟩ := vo_stand X cA cC n q i
    obtain ⟨f1, f2, -, -, -, -⟩ := vo_facts T cA cC n q i
    have hcell : ((vo_s T cA cC n q i).pushCell (arrV cC q (fun _ => .int 0))).heap[T.heap.size]? = some (arrV cA n (vo_f T.heap.size i)) := by
      have hx2 : T.heap.size < (vo_s T cA cC n q i).heap.size := by omega
      rw [State.heap_pushCell_of_lt (h := hx2)]
      exact f2
    have h := (Xi.pushed (arrV cC q (fun _ => .int 0))).stored hcell i (.ref (T.heap.size + 1 + i))
    rw [arrV_size, vo_step] at h
    refine ⟨L ++ [⟨T.heap.size, i⟩], fun x hx => ?_, ?_⟩
    · rcases List.mem_append.mp hx with h | h
      · exact hL x h
      · rw [List.mem_singleton.mp h]
    · rw [← List.append_assoc, show slots + n + (i + 1) * q = slots + n + i * q + q by rw [Nat.succ_mul]; omega]
      exact h
theorem vo_multi (X : Stand p l e R s m args below meth c T locs cells slots) (hx : p.tables.exec = Jvm.exec) {own : String} {ix : Nat} (hown : s.vm.findClass own = some m.cls) (hcl : (Cond.classLink own ix ("[" ++ (FieldType.array .int).toString)).before args s = true) (hover : (Cond.arrayOver (.array .int)).before args s = true) (harr : (Cond.arrayClass .int).before args s = true)
    {g : JFrame} (hg : g.method = m) (hdg : decode c.code g.pc = .ok (.multianewarray ix 2, 4)) {n q : Nat} {rest : List Value} (hst : g.stack = .int (nI q) :: .int (nI n) :: rest) (hn : n ≤ 100) (hq : q ≤ 100) (hcells : cells + (1 + n) ≤ R.cells) (hslots : slots + (n + n * q) ≤ R.slots) :
    ∃ (vm₁ : Vm) (cA cC : ClassId) (L : List Loc), s.vm.findClass ("[" ++ (FieldType.array .int).toString) = some cA ∧ s.vm.findClass ("[" ++ FieldType.int.toString) = some cC ∧ (∀ x ∈ L, x.base = T.heap.size) ∧ Stand p l e R s m args below meth c (vo_s (T.setVm vm₁) cA cC n q n) (locs ++ L) (cells + 1 + n) (slots + n + n * q) ∧
      ∀ t, Steps p.tables e below ((vo_s (T.setVm vm₁) cA cC n q n).setTop { g with pc := g.pc + 4, stack := .ref T.heap.size :: rest }) t → Steps p.tables e below (T.setTop g) t := by
  subst hg
  have en : (nI n).toNatClampNeg = n := nI_clamp (by omega)
  have eq : (nI q).toNatClampNeg = q := nI_clamp (by omega)
  obtain ⟨cC, cA, kA, hC, -, hkA, hkindA, hA⟩ := arrayOverA_spec hover
  obtain ⟨cC', kC, cB, hC', hkC, hkindC⟩ := Cond.arrayClass_spec harr
  have ecc : cC' = cC := Option.some.inj (hC'.symm.trans hC)
  subst ecc
  obtain ⟨c0, hc0, hlk⟩ := Cond.classLink_spec hown hcl e.platform (by rw [X.admits.platform])
  have ec0 : c0 = cA := Option.some.inj (hc0.symm.trans hA)
  subst ec0
  obtain ⟨k1, k2, -⟩ := State.classEntry (e := e) X.warmed hlk
  generalize T.vm.noted g.method.cls ix (.cls c0) = vm₁ at k1 k2
  obtain ⟨kA1, hkA1, hA1⟩ := k2.alike.2.2 _ _ hkA
  obtain ⟨kC1, hkC1, hC1⟩ := k2.alike.2.2 _ _ hkC
  have X1 := X.noted k2
  obtain ⟨L, hL, X2⟩ := vo_stand X1 c0 cC' n q n
  obtain ⟨hr1, hr2⟩ := X.roomAbove hcells hslots
  refine ⟨vm₁, c0, cC', L, hA, hC', hL, X2, fun t hrest => ?_⟩
  have lim := Launch.admits_arrayLengthLimit X.admits
  have mem := Launch.admits_maxHeapBytes X.admits
  jvm_step X.here [hx, hdg]
  simp only [multianewarray.sem, wp_bind', W.resolveClassAt_links (State.method?_setTop g X.here.top) k1]
  rw [W.popN, if_neg (by decide)]
  refine ⟨g, State.topJava?_setTop' (s := T.setVm vm₁) g X.here.top, [.int (nI n), .int (nI q)], rest, rfl, hst, ?_⟩
  simp only [List.mapM_cons, List.mapM_nil, wp_bind', wp_pure']
  refine vo_make (kA := kA1) (kC := kC1) (cC := cC') (cB := cB) hkA1 (by rw [hA1]; exact hkindA) hkC1 (by rw [hC1]; exact hkindC) (nI_pos (by omega)) (nI_pos (by omega)) (by rw [lim, en]; omega) (by rw [mem, en]; show ¬ n * 4 > 536870912; omega) (by rw [lim, eq]; omega) (by rw [mem, eq]; show ¬ q * 4 > 536870912; omega) (by rw [en]; show T.heap.size + 1 + n ≤ _; omega) (by rw [en, eq]; show T.slotsUsed + n + n * q ≤ _; omega) (fun d' acts' => ?_)
  rw [en, eq]
  have e1 : ((T.setTop g).setVm vm₁).setTop { g with stack := rest } = (T.setVm vm₁).setTop { g with stack := rest } := by
    show ((T.setVm vm₁).setTop g).setTop _ = _
    rw [State.setTop_setTop]
  rw [e1, vo_top]
  simp only [wp_bind', W.mark, W.pushRef, State.topJava?_setTop' _ X2.here.top, Option.some.injEq, exists_eq_left', State.setTop_setTop, State.heap_setTop]
  intro acts
  simp [jvm, X2.here.top]
  exact hrest
end VOS
