/-! ===== constructors: a new Row ===== -/
theorem vs_blind {as : List Value} {D : va_G} {tys : List (ClassId × FieldType)} {sz N : Nat} {ad : Nat → Nat} {C : Nat → va_E} : FrameBlind (va_Pc as (vs_U D tys sz N ad C)) := fun a U g mk q => by
  obtain ⟨q0, q1, qP, qK, qD⟩ := q
  exact ⟨q0, q1, qP, va_K.moved (u := U) (U := U.calling g mk a) (Vm.Alike.refl U.vm) qK, qD⟩
set_option maxRecDepth 100000 in
theorem vs_newRow {p : Program} {l : Launch} {e : Env} {R : Room} {s : State} {m : MethodId} {args : Array Value} {below : List Frame} {meth : Method} {c : Code} {H : Heap} {locs : List Loc} {cells slots pc nL : Nat} {Q : State → Prop} {ls : Array Slot} {rest : List Value} {D : va_G} {A : Nat → Prop} {cI : ClassId} {tys : List (ClassId × FieldType)} {N ix iy : Nat} {bp : Int} (cap : Nat) {ad : Nat → Nat} {C : Nat → va_E} {cc : ByteArray} {own : String}
    (hx : p.tables.exec = Jvm.exec) (hb : c.code = cc) (hml : c.maxLocals = nL) (hls : ls.size = nL) (hts : ∀ w ∈ ww_ws, w.before args s = true) (hown : s.vm.findClass own = some m.cls)
    (hK : va_K D vwCl ((cI, .int) :: tys) s) (hP : va_P D vwCl (vs_l N ad C) H) (hD : va_D A (vs_l N ad C)) (hS : va_S A s.heap H locs) (hA : ∀ q, s.heap.size ≤ q → A q) (hcap : cap ≤ 100) (hbp : (Int8.ofInt bp).toInt32 = nI cap)
    (hcl : Cond.classLink own ix RX2 ∈ ww_ws) (hins : Cond.instantiable RX2 2 ∈ ww_ws) (hlk : Cond.methodLink own iy yX2_init ∈ ww_ws) (hrm : ((Value.ref 0 :: rest).map fun v => v.category).sum ≤ 8) (hfr : 2 ≤ R.frames) (hlo : 61 ≤ R.locals) (hcells : cells + 2 ≤ R.cells) (hslots : slots + 2 + cap ≤ R.slots)
    (hd0 : decode cc pc = .ok (.new ix, 3)) (hd1 : decode cc (pc + 3) = .ok (.dup, 1)) (hd2 : decode cc (pc + 4) = .ok (.bipush bp, 2)) (hd3 : decode cc (pc + 6) = .ok (.invokespecial iy, 3))
    (kk : ∀ (ad' : Nat → Nat) (H1 : Heap) (locs1 : List Loc), (∀ j, j < N → ad' j = ad j) → va_P D vwCl (vs_l (N + 2) ad' (vs_c (vs_c (vs_c C N (.inr (2, [.null, .int 0]))) (N + 1) (.inl (cI, cap, .inl (fun _ => 0)))) N (.inr (2, [.ref (ad' (N + 1)), .int 0])))) H1 → va_D A (vs_l (N + 2) ad' (vs_c (vs_c (vs_c C N (.inr (2, [.null, .int 0]))) (N + 1) (.inl (cI, cap, .inl (fun _ => 0)))) N (.inr (2, [.ref (ad' (N + 1)), .int 0])))) → va_S A s.heap H1 locs1 → W p l e R s m args below meth c H1 locs1 (cells + 2) (slots + 2 + cap) Q (F0 m (pc + 9) ls (.ref (ad' N) :: rest))) : W p l e R s m args below meth c H locs cells slots Q (F0 m pc ls rest) := by
  refine va_new (ci := 2) (fs := [.null, .int 0]) (C := RX2) (T := TX2) (N := 2) hx hb hts inlX2 tyX2 tyX2_ok hown (hts _ hcl) (hts _ hins) (hts _ wi_X2) hK hP hD hS hA rfl (fun j hj => by rcases (show j = 0 ∨ j = 1 by omega) with rfl | rfl <;> rfl) (by omega) (by omega) hd0 (fun q H hP hD hS => ?_)
  rw [vs_app] at hP hD
  refine lv_dup hx hb hd1 rfl ?_
  refine lv_bipush (v := nI cap) hx hb hd2 hbp ?_
  have eq : vs_a ad N q N = q := vs_a_s _ _ _
  have hK1 : va_K D vwCl [(cI, .int)] s := hK.sub [0] rfl
  have hM := k_Row (l := l) (D := D) (cI := cI) (N := N + 1) (k := N) (cap := cap) (sz := H.size) (ad := vs_a ad N q) (C := vs_c C N (.inr (2, [.null, .int 0]))) (by omega) (vs_c_s _ _ _) (by omega)
  rw [eq] at hM
  refine vs_call (va_runI (As := [.int (nI cap)]) (rest := .ref q :: rest) (b := q) (Ts := ww_ws) ⟨hx, hb, hml, hown, hts⟩ hM ⟨callB_of 1 hts (ww_good (d' := mX2_init) wc_X2_init) rfl rfl rfl (hts _ wi_X2) (hts _ hlk) wp_X2_init ⟨hfr, hlo⟩, rfl, hts _ wn_X2_init⟩ ⟨vs_blind, fun U hU hW => ⟨rfl, by rw [hU], by rw [hU]; exact hP, va_K.moved hW.alike hK1, ⟨hD.1, fun _ _ _ => trivial⟩⟩⟩ rfl rfl hls rfl (lv_room hrm) hd3 ⟨by omega, by omega⟩) hS (vs_A1 hD hS hA) (fun ad' H1 locs1 hB hP hD hS => ?_)
  have e1 : ad' N = q := by rw [hB N (by omega), eq]
  have := kk ad' H1 locs1 (fun j hj => by rw [hB j (by omega), vs_a_n (by omega)]) hP hD hS
  rw [e1] at this
  exact this
