/-! ===== constructors: an int array that a final field gets ===== -/
theorem vs_nf {p : Program} {l : Launch} {e : Env} {R : Room} {s : State} {m : MethodId} {args : Array Value} {below : List Frame} {meth : Method} {c : Code} {H H0 : Heap} {locs : List Loc} {cells slots pc : Nat} {Q : State → Prop} {ls : Array Slot} {rest : List Value} {D : va_G} {A : Nat → Prop} {cI : ClassId} {tys : List (ClassId × FieldType)} {N k n : Nat} {ad : Nat → Nat} {C : Nat → va_E} {cc : ByteArray} {own Cn : String} {T : u_T} {NF ci idx : Nat} {fs : List Value} {a : Nat} (j : Nat) (ha : ad k = a)
    (hx : p.tables.exec = Jvm.exec) (hb : c.code = cc) (hts : ∀ w ∈ ww_ws, w.before args s = true) (hown : s.vm.findClass own = some m.cls) (hin2 : meth.name = "<init>") (hinl : ∀ w ∈ u_ws Cn T NF, w ∈ ww_ws) (ty0 : Nat → FieldType) (hty : ∀ k, k < NF → parseFieldDescriptor (T k).2.2.1 = some (ty0 k)) (hnm : ∀ a, a < NF → ∀ b, b < NF → a ≠ b → (T a).2.1 ≠ (T b).2.1)
    (hK : va_K D vwCl ((cI, .int) :: tys) s) (hP : va_P D vwCl (vs_l N ad C) H) (hD : va_D A (vs_l N ad C)) (hS : va_S A H0 H locs) (hA : ∀ q, H0.size ≤ q → A q) (hk : k < N) (hck : C k = .inr (ci, fs)) (hc : vwCl[ci]? = some (Cn, T, NF)) (hj : j < NF) (hjl : j < fs.length) (hn : n ≤ 2000)
    (hlink : Cond.fieldLink own idx (T j).1 (T j).2.1 (T j).2.2.1 ∈ ww_ws) (hfin : (T j).2.2.2 = true) (hdecl : (T j).1 = own) (hd : parseFieldDescriptor (T j).2.2.1 = some (.array .int)) (hcells : cells + 1 ≤ R.cells) (hslots : slots + n ≤ R.slots) (hd1 : decode cc pc = .ok (.newarray .int, 2)) (hd2 : decode cc (pc + 2) = .ok (.putfield idx, 3))
    (kk : ∀ (q : Nat) (H1 : Heap) (locs1 : List Loc), va_P D vwCl (vs_l (N + 1) (vs_a ad N q) (vs_c (vs_c C N (.inl (cI, n, .inl (fun _ => 0)))) k (.inr (ci, fs.set j (.ref q))))) H1 → va_D A (vs_l (N + 1) (vs_a ad N q) (vs_c (vs_c C N (.inl (cI, n, .inl (fun _ => 0)))) k (.inr (ci, fs.set j (.ref q))))) → va_S A H0 H1 locs1 → W p l e R s m args below meth c H1 locs1 (cells + 1) (slots + n) Q (F0 m (pc + 5) ls rest)) : W p l e R s m args below meth c H locs cells slots Q (F0 m pc ls (.int (nI n) :: .ref a :: rest)) := by
  subst ha
  have h4 : n * componentBytes .int ≤ 536870912 := by show n * 4 ≤ 536870912; omega
  refine va_newa (atype := .int) (ty := .int) (a0 := (n, .inl (fun _ => 0))) (N' := n) hx hb (hts _ wa_I) rfl hK hP hD hS hA (fun cA => rfl) (by rw [← nI_0, zlt (by omega) (by omega)]; omega) (nI_clamp (by omega)) h4 hcells hslots hd1 (fun q cA H hK2 hP hD hS => ?_)
  have hcA : cA = cI := by
    have e1 := (hK2.2 0 (cI, .int) rfl).2
    have e2 := (hK2.2 (tys.length + 1) (cA, .int) (by
      rw [List.getElem?_append_right (by simp)]
      simp)).2
    exact Option.some.inj (e2.symm.trans e1)
  subst hcA
  rw [vs_app] at hP hD
  have ek : vs_a ad N q k = ad k := vs_a_n (by omega)
  have hg : (vs_l (N + 1) (vs_a ad N q) (vs_c C N (.inl (cA, n, .inl (fun _ => 0)))))[k]? = some (ad k, .inr (ci, fs)) := by
    rw [vs_get (by omega), ek, vs_c_n (by omega), hck]
  refine va_putF (D := D) (ci := ci) (v := .ref q) (ty := .array .int) (C := Cn) (T := T) (N := NF) hx hb hts hinl ty0 hty hnm hown hK hP hD hS k hg hc j hj (hts _ hlink) (fun _ h9 => h9) hfin hin2 hdecl hd rfl rfl hjl hd2 (fun H locs hP hD hS => ?_)
  rw [← ek, vs_set _ _ (by omega)] at hP hD
  exact kk q H locs hP hD hS
theorem wo_X4 : Cond.methodLink RX4 3 objectInit ∈ ww_ws := ww_t1 44 rfl rfl
set_option maxRecDepth 100000 in
theorem k_Text {l : Launch} {D : va_G} {cI : ClassId} {N k sz : Nat} {ad : Nat → Nat} {C : Nat → va_E} (hk : k < N) (hck : C k = .inr (4, [.null, .int 0, .int 0, .int 0, .int 0, .int 0])) : Met l yX4_init (.code yX4_init cX4_init 1 none :: ww_ws) { frames := 1, cells := 1, slots := 100, locals := 40 } (va_Pc [.ref (ad k)] (vs_U D [(cI, .int)] sz N ad C)) (vs_Q D (va_A (vs_l N ad C) sz) (fun ad' => ∀ j, j < N → ad' j = ad j) (N + 1) (fun ad' => vs_c (vs_c C N (.inl (cI, 100, .inl (fun _ => 0)))) k (.inr (4, [.ref (ad' N), .int 0, .int 0, .int 0, .int 0, .int 0])))) 1 100 (va_A (vs_l N ad C) sz) := by
  refine Met.ofW (cc := cX4_init) (maxL := 1) (ret := none) (by decide) rfl ?_
  intro p e s m args below meth c s₁ B hml hv
  obtain ⟨rfl, hsz, hP, hK, hD0⟩ := hv
  have hx := B.exec
  have hb := B.bytes
  have hr := B.returns
  have hts0 := atoms_spec (ws := .code yX4_init cX4_init 1 none :: ww_ws) B.pre
  have hts : ∀ w ∈ ww_ws, w.before _ s = true := fun w hw => hts0 w (List.mem_cons_of_mem _ hw)
  have hown : s.vm.findClass RX4 = some m.cls := findClass_of_methodNamed B.named
  have hlocks := B.notSynchronized
  have hin : meth.name = "<init>" := (name_of_methodNamed B.named B.method).1
  subst hsz
  have hD := hD0.self (sz := s.heap.size)
  generalize hAe : va_A (vs_l N ad C) s.heap.size = A at hD ⊢
  have hA : ∀ q : Nat, s.heap.size ≤ q → A q := fun q h => by rw [← hAe]; exact Or.inr h
  have hS : va_S A s.heap s.heap [] := va_S.rf
  have hl := lv_entry ([.ref (ad k)]) (n := 1) (Nat.le_of_ble_eq_true rfl)
  rw [lg_entry_eq]
  generalize (lg_sl ([.ref (ad k)]) ++ List.replicate (1 - (lg_sl ([.ref (ad k)])).length) Slot.unset).toArray = ls at hl ⊢
  have hl : lv_has ls 1 [(0, .ref (ad k))] := hl
  refine lv_aload_n hx hb dX4_init_0 rfl (lv_at hl 0 rfl) ?_
  refine W.objInit hx hb hown (hts _ wo_X4) (hts _ wo_i) (hts _ wo_c) rfl (by rw [hml]; exact hl.1) rfl dX4_init_1 (Nat.le_of_ble_eq_true rfl) (Nat.le_of_ble_eq_true rfl) ?_
  refine W.eq (g2 := F0 m 4 ls []) rfl ?_
  refine lv_aload_n hx hb dX4_init_4 rfl (lv_at hl 0 rfl) ?_
  refine lv_bipush (v := nI 100) hx hb dX4_init_5 (by decide) ?_
  refine vs_nf (own := RX4) (idx := 9) 0 rfl hx hb hts hown hin inlX4 tyX4 tyX4_ok nmX4 hK hP hD hS hA hk hck rfl (by decide) (by decide) (by decide) (ww_t1 45 rfl rfl) rfl rfl (by decide +kernel) (Nat.le_refl _) (Nat.le_refl _) dX4_init_7 dX4_init_9 (fun q H locs hP hD hS => ?_)
  have hP' : va_P D vwCl (vs_l (N + 1) (vs_a ad N q) (vs_c (vs_c C N (.inl (cI, 100, .inl (fun _ => 0)))) k (.inr (4, [.ref (vs_a ad N q N), .int 0, .int 0, .int 0, .int 0, .int 0])))) H := by rw [vs_a_s]; exact hP
  have hD' : va_D A (vs_l (N + 1) (vs_a ad N q) (vs_c (vs_c C N (.inl (cI, 100, .inl (fun _ => 0)))) k (.inr (4, [.ref (vs_a ad N q N), .int 0, .int 0, .int 0, .int 0, .int 0])))) := by rw [vs_a_s]; exact hD
  refine W.widen (k := 1) (n := 100) (Nat.le_refl _) (Nat.le_refl _) ?_
  exact W.vret hx hb hr (fun t ht hW => ⟨⟨rfl, vs_a ad N q, fun j hj => vs_a_n (by omega), by rw [ht]; exact hP', hD'⟩, hS.F ht⟩) hS.2.2 dX4_init_12
