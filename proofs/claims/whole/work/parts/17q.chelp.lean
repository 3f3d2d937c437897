/-! ===== constructors: what PieceWords needs of the others ===== -/
theorem vf_X0 : ∀ j, j < 13 → defaultValue (tyX0 j) = vp_V [.null, .int 0, .null, .null, .null, .null, .int 0, .int 0, .null, .null, .null, .null, .null] j := fun j hj => match j, hj with
  | 0, _ => rfl
  | 1, _ => rfl
  | 2, _ => rfl
  | 3, _ => rfl
  | 4, _ => rfl
  | 5, _ => rfl
  | 6, _ => rfl
  | 7, _ => rfl
  | 8, _ => rfl
  | 9, _ => rfl
  | 10, _ => rfl
  | 11, _ => rfl
  | 12, _ => rfl
  | n + 13, h => absurd h (by omega)
theorem vf_X1 : ∀ j, j < 8 → defaultValue (tyX1 j) = vp_V [.null, .int 0, .null, .int 0, .int 0, .int 0, .null, .int 0] j := fun j hj => match j, hj with
  | 0, _ => rfl
  | 1, _ => rfl
  | 2, _ => rfl
  | 3, _ => rfl
  | 4, _ => rfl
  | 5, _ => rfl
  | 6, _ => rfl
  | 7, _ => rfl
  | n + 8, h => absurd h (by omega)
theorem vf_X3 : ∀ j, j < 7 → defaultValue (tyX3 j) = vp_V [.null, .null, .int 0, .int 0, .int 0, .int 0, .int 0] j := fun j hj => match j, hj with
  | 0, _ => rfl
  | 1, _ => rfl
  | 2, _ => rfl
  | 3, _ => rfl
  | 4, _ => rfl
  | 5, _ => rfl
  | 6, _ => rfl
  | n + 7, h => absurd h (by omega)
theorem vf_X4 : ∀ j, j < 6 → defaultValue (tyX4 j) = vp_V [.null, .int 0, .int 0, .int 0, .int 0, .int 0] j := fun j hj => match j, hj with
  | 0, _ => rfl
  | 1, _ => rfl
  | 2, _ => rfl
  | 3, _ => rfl
  | 4, _ => rfl
  | 5, _ => rfl
  | n + 6, h => absurd h (by omega)
theorem vf_X5 : ∀ j, j < 11 → defaultValue (tyX5 j) = vp_V [.null, .null, .null, .null, .null, .null, .null, .null, .int 0, .int 0, .int 0] j := fun j hj => match j, hj with
  | 0, _ => rfl
  | 1, _ => rfl
  | 2, _ => rfl
  | 3, _ => rfl
  | 4, _ => rfl
  | 5, _ => rfl
  | 6, _ => rfl
  | 7, _ => rfl
  | 8, _ => rfl
  | 9, _ => rfl
  | 10, _ => rfl
  | n + 11, h => absurd h (by omega)
theorem vf_X6 : ∀ j, j < 32 → defaultValue (tyX6 j) = vp_V [.null, .null, .int 0, .null, .null, .null, .int 0, .null, .null, .null, .int 0, .null, .int 0, .null, .int 0, .int 0, .int 0, .int 0, .null, .null, .null, .int 0, .int 0, .null, .int 0, .int 0, .null, .null, .int 0, .int 0, .null, .null] j := fun j hj => match j, hj with
  | 0, _ => rfl
  | 1, _ => rfl
  | 2, _ => rfl
  | 3, _ => rfl
  | 4, _ => rfl
  | 5, _ => rfl
  | 6, _ => rfl
  | 7, _ => rfl
  | 8, _ => rfl
  | 9, _ => rfl
  | 10, _ => rfl
  | 11, _ => rfl
  | 12, _ => rfl
  | 13, _ => rfl
  | 14, _ => rfl
  | 15, _ => rfl
  | 16, _ => rfl
  | 17, _ => rfl
  | 18, _ => rfl
  | 19, _ => rfl
  | 20, _ => rfl
  | 21, _ => rfl
  | 22, _ => rfl
  | 23, _ => rfl
  | 24, _ => rfl
  | 25, _ => rfl
  | 26, _ => rfl
  | 27, _ => rfl
  | 28, _ => rfl
  | 29, _ => rfl
  | 30, _ => rfl
  | 31, _ => rfl
  | n + 32, h => absurd h (by omega)
set_option maxRecDepth 100000 in
/-- new Row, with a number that a wider push gives -/
theorem vs_newRowS {p : Program} {l : Launch} {e : Env} {R : Room} {s : State} {m : MethodId} {args : Array Value} {below : List Frame} {meth : Method} {c : Code} {H : Heap} {locs : List Loc} {cells slots pc nL : Nat} {Q : State → Prop} {ls : Array Slot} {rest : List Value} {D : va_G} {A : Nat → Prop} {cI : ClassId} {tys : List (ClassId × FieldType)} {N ix iy : Nat} {bp : Int} (cap : Nat) {ad : Nat → Nat} {C : Nat → va_E} {cc : ByteArray} {own : String}
    (hx : p.tables.exec = Jvm.exec) (hb : c.code = cc) (hml : c.maxLocals = nL) (hls : ls.size = nL) (hts : ∀ w ∈ ww_ws, w.before args s = true) (hown : s.vm.findClass own = some m.cls)
    (hK : va_K D vwCl ((cI, .int) :: tys) s) (hP : va_P D vwCl (vs_l N ad C) H) (hD : va_D A (vs_l N ad C)) (hS : va_S A s.heap H locs) (hA : ∀ q, s.heap.size ≤ q → A q) (hcap : cap ≤ 540) (hbp : (Int16.ofInt bp).toInt32 = nI cap)
    (hcl : Cond.classLink own ix RX2 ∈ ww_ws) (hins : Cond.instantiable RX2 2 ∈ ww_ws) (hlk : Cond.methodLink own iy yX2_init ∈ ww_ws) (hrm : ((Value.ref 0 :: rest).map fun v => v.category).sum ≤ 8) (hfr : 2 ≤ R.frames) (hlo : 61 ≤ R.locals) (hcells : cells + 2 ≤ R.cells) (hslots : slots + 2 + cap ≤ R.slots)
    (hd0 : decode cc pc = .ok (.new ix, 3)) (hd1 : decode cc (pc + 3) = .ok (.dup, 1)) (hd2 : decode cc (pc + 4) = .ok (.sipush bp, 3)) (hd3 : decode cc (pc + 7) = .ok (.invokespecial iy, 3))
    (kk : ∀ (ad' : Nat → Nat) (H1 : Heap) (locs1 : List Loc), (∀ j, j < N → ad' j = ad j) → va_P D vwCl (vs_l (N + 2) ad' (vs_c (vs_c (vs_c C N (.inr (2, [.null, .int 0]))) (N + 1) (.inl (cI, cap, .inl (fun _ => 0)))) N (.inr (2, [.ref (ad' (N + 1)), .int 0])))) H1 → va_D A (vs_l (N + 2) ad' (vs_c (vs_c (vs_c C N (.inr (2, [.null, .int 0]))) (N + 1) (.inl (cI, cap, .inl (fun _ => 0)))) N (.inr (2, [.ref (ad' (N + 1)), .int 0])))) → va_S A s.heap H1 locs1 → W p l e R s m args below meth c H1 locs1 (cells + 2) (slots + 2 + cap) Q (F0 m (pc + 10) ls (.ref (ad' N) :: rest))) : W p l e R s m args below meth c H locs cells slots Q (F0 m pc ls rest) := by
  refine va_new (ci := 2) (fs := [.null, .int 0]) (C := RX2) (T := TX2) (N := 2) hx hb hts inlX2 tyX2 tyX2_ok hown (hts _ hcl) (hts _ hins) (hts _ wi_X2) hK hP hD hS hA rfl (fun j hj => by rcases (show j = 0 ∨ j = 1 by omega) with rfl | rfl <;> rfl) (by omega) (by omega) hd0 (fun q H hP hD hS => ?_)
  rw [vs_app] at hP hD
  refine lv_dup hx hb hd1 rfl ?_
  refine lv_sipush (v := nI cap) hx hb hd2 hbp ?_
  have eq : vs_a ad N q N = q := vs_a_s _ _ _
  have hK1 : va_K D vwCl [(cI, .int)] s := hK.sub [0] rfl
  have hM := k_Row (l := l) (D := D) (cI := cI) (N := N + 1) (k := N) (cap := cap) (sz := H.size) (ad := vs_a ad N q) (C := vs_c C N (.inr (2, [.null, .int 0]))) (by omega) (vs_c_s _ _ _) (by omega)
  rw [eq] at hM
  refine vs_call (va_runI (As := [.int (nI cap)]) (rest := .ref q :: rest) (b := q) (Ts := ww_ws) ⟨hx, hb, hml, hown, hts⟩ hM ⟨callB_of 1 hts (ww_good (d' := mX2_init) wc_X2_init) rfl rfl rfl (hts _ wi_X2) (hts _ hlk) wp_X2_init ⟨hfr, hlo⟩, rfl, hts _ wn_X2_init⟩ ⟨vs_blind, fun U hU hW => ⟨rfl, by rw [hU], by rw [hU]; exact hP, va_K.moved hW.alike hK1, ⟨hD.1, fun _ _ _ => trivial⟩⟩⟩ rfl rfl hls rfl (lv_room hrm) hd3 ⟨by omega, by omega⟩) hS (vs_A1 hD hS hA) (fun ad' H1 locs1 hB hP hD hS => ?_)
  have e1 : ad' N = q := by rw [hB N (by omega), eq]
  have := kk ad' H1 locs1 (fun j hj => by rw [hB j (by omega), vs_a_n (by omega)]) hP hD hS
  rw [e1] at this
  exact this
/-- into another's constructor: the new object's world -/
theorem vx_enter {t : Nat → ClassId} {o0 e' : va_E} {N q : Nat} {d d' : vd} {ad : Nat → Nat} (hN : 0 < N) (hg : ∀ j, j < N → j ≠ 0 → j ≠ 0 → vd_u (vz_d j) ≤ N) (he : e' = vd_e t (vs_a ad N q) d') : ∀ j, j < N + 1 → vs_c (vz t o0 0 d ad) N e' j = vz t (vd_e t ad d) N d' (vs_a ad N q) j := by
  intro j hj
  by_cases h : j = N
  · subst h
    rw [vs_c_s, vz_k, he]
  · rw [vs_c_n h]
    unfold vz
    rw [if_neg h]
    by_cases h0 : j = 0
    · rw [if_pos h0, if_pos h0]
    · rw [if_neg h0, if_neg h0, if_neg h0]
      exact (vd_congr (M := N) (fun i hi => vs_a_n (by omega)) _ (hg j (by omega) h0 h0)).symm
/-- and out of it -/
theorem vx_leave {t : Nat → ClassId} {o0 : va_E} {N : Nat} {d : vd} {ad ad2 : Nat → Nat} (hu : vd_u d ≤ N) (hB : ∀ i, i < N → ad2 i = ad i) : ∀ j, vzz t (vd_e t ad d) ad2 j = vz t o0 0 d ad2 j := by
  intro j
  unfold vzz vz
  by_cases h0 : j = 0
  · rw [if_pos h0, if_pos h0, vd_congr hB d hu]
  · rw [if_neg h0, if_neg h0, if_neg h0]
/-- a world with old cells, and new ones as they are to be -/
theorem vx_grow {t : Nat → ClassId} {o0 : va_E} {N M : Nat} {d : vd} {ad ad2 : Nat → Nat} {C : Nat → va_E} (hg : ∀ j, j < N → j ≠ 0 → j ≠ 0 → vd_u (vz_d j) ≤ N) (hu : vd_u d ≤ N) (hB : ∀ i, i < N → ad2 i = ad i) (h1 : ∀ j, j < N → C j = vz t o0 0 d ad j) (h2 : ∀ j, N ≤ j → j < M → j ≠ 0 → C j = vd_e t ad2 (vz_d j)) (hN : 0 < N) : ∀ j, j < M → C j = vz t o0 0 d ad2 j := by
  intro j hj
  by_cases h : j < N
  · rw [h1 j h]
    by_cases h0 : j = 0
    · subst h0
      rw [vz_k, vz_k, vd_congr hB d hu]
    · exact vz_old hg hB h h0
  · rw [h2 j (by omega) hj (by omega), vz_o (by omega) (by omega)]

theorem vF_p_row : vF RX5 5 0 11 (.array (.object "PieceWords$Row")) true := ⟨TX5, 11, rfl, by decide, ww_t1 193 rfl rfl, rfl, rfl, by decide +kernel⟩
theorem vF_p_text : vF RX5 5 1 21 (.object "PieceWords$Text") true := ⟨TX5, 11, rfl, by decide, ww_t1 194 rfl rfl, rfl, rfl, by decide +kernel⟩
theorem vF_p_reader : vF RX5 5 2 28 (.object "PieceWords$Reader") true := ⟨TX5, 11, rfl, by decide, ww_t1 195 rfl rfl, rfl, rfl, by decide +kernel⟩
theorem vF_p_members : vF RX5 5 3 35 (.object "PieceWords$Members") true := ⟨TX5, 11, rfl, by decide, ww_t1 196 rfl rfl, rfl, rfl, by decide +kernel⟩
theorem vF_p_shortening : vF RX5 5 4 44 (.object "PieceWords$Shortening") true := ⟨TX5, 11, rfl, by decide, ww_t1 197 rfl rfl, rfl, rfl, by decide +kernel⟩
theorem vF_p_made : vF RX5 5 5 48 (.object "PieceWords$Row") true := ⟨TX5, 11, rfl, by decide, ww_t1 198 rfl rfl, rfl, rfl, by decide +kernel⟩
theorem vF_p_ringOfA : vF RX5 5 6 52 (.object "PieceWords$Row") true := ⟨TX5, 11, rfl, by decide, ww_t1 199 rfl rfl, rfl, rfl, by decide +kernel⟩
theorem vF_p_ringOfB : vF RX5 5 7 55 (.object "PieceWords$Row") true := ⟨TX5, 11, rfl, by decide, ww_t1 200 rfl rfl, rfl, rfl, by decide +kernel⟩
theorem wo_X5 : Cond.methodLink RX5 3 objectInit ∈ ww_ws := ww_t1 14 rfl rfl
theorem vr_4 : ∀ j, j < 14 → 2 ≤ j → vz_d j = vz_r 60 2 j := vr_of (n := 12) (by decide +kernel)
