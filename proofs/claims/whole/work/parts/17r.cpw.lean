/-! ===== constructors: PieceWords ===== -/
abbrev vd_p0 : List vd_x := [none, none, none, none, none, none, none, none, some (.inl 0), some (.inl 0), some (.inl 0)]
def vd_X5 : vd := .inl (5, vd_p0)
set_option maxHeartbeats 4000000 in
set_option maxRecDepth 100000 in
theorem k_PieceWords {l : Launch} {D : va_G} {t : Nat → ClassId} {o0 : va_E} {sz : Nat} {ad : Nat → Nat} : Met l yX5_init (.code yX5_init cX5_init 2 none :: ww_ws) { frames := 3, cells := 237, slots := 4054, locals := 140 } (va_Pc [.ref (ad 0)] (vs_V D t sz 1 ad (vz t o0 0 vd_X5 ad))) (vs_Q D (va_A (vs_l 1 ad (vz t o0 0 vd_X5 ad)) sz) (fun ad' => ∀ j, j < 1 → ad' j = ad j) 238 (fun ad' j => vd_e t ad' (vz_d j))) 237 4054 (va_A (vs_l 1 ad (vz t o0 0 vd_X5 ad)) sz) := by
  refine Met.ofW (cc := cX5_init) (maxL := 2) (ret := none) (by decide) rfl ?_
  intro p e s m args below meth c s₁ B hml hv
  obtain ⟨rfl, ⟨hsz, hP, hK, hD0⟩, hAO, hAA, hNW⟩ := hv
  have hx := B.exec
  have hb := B.bytes
  have hr := B.returns
  have hts0 := atoms_spec (ws := .code yX5_init cX5_init 2 none :: ww_ws) B.pre
  have hts : ∀ w ∈ ww_ws, w.before _ s = true := fun w hw => hts0 w (List.mem_cons_of_mem _ hw)
  have hown : s.vm.findClass RX5 = some m.cls := findClass_of_methodNamed B.named
  have hlocks := B.notSynchronized
  have hin : meth.name = "<init>" := (name_of_methodNamed B.named B.method).1
  subst hsz
  have hD := hD0.self (sz := s.heap.size)
  generalize hAe : va_A (vs_l 1 ad (vz t o0 0 vd_X5 ad)) s.heap.size = A at hD ⊢
  have hA : ∀ q : Nat, s.heap.size ≤ q → A q := fun q h => by rw [← hAe]; exact Or.inr h
  have hS : va_S A s.heap s.heap [] := va_S.rf
  have hl := lv_entry ([.ref (ad 0)]) (n := 2) (Nat.le_of_ble_eq_true rfl)
  rw [lg_entry_eq]
  generalize (lg_sl ([.ref (ad 0)]) ++ List.replicate (2 - (lg_sl ([.ref (ad 0)])).length) Slot.unset).toArray = ls at hl ⊢
  have hl : lv_has ls 2 [(0, .ref (ad 0))] := hl
  have X : vX p s m _ meth c D t A RX5 cX5_init 2 := ⟨hx, hb, hml, hts, hown, hin, hK, hA⟩
  have hK1 : va_K D vwCl [(t 0, .int)] s := hK.sub [0] rfl
  have Hw : vx D A s.heap t o0 0 (.inl (5, vd_p0)) 1 ad s.heap [] := ⟨hP, hD, hS⟩
  refine lv_aload_n hx hb dX5_init_0 rfl (lv_at hl 0 rfl) ?_
  refine W.objInit hx hb hown (hts _ wo_X5) (hts _ wo_i) (hts _ wo_c) rfl (by rw [hml]; exact hl.1) rfl dX5_init_1 (Nat.le_of_ble_eq_true rfl) (Nat.le_of_ble_eq_true rfl) ?_
  refine W.eq (g2 := F0 m 4 ls []) rfl ?_
  refine lv_aload_n hx hb dX5_init_4 rfl (lv_at hl 0 rfl) ?_
  refine lv_bipush (v := nI 6) hx hb dX5_init_5 (by decide) ?_
  refine vx_rows (p2 := 18) (cap := 60) X Hw hl rfl hAO vF_p_row (by decide) (by decide) (by decide) (by decide) (by decide) (by decide) (by decide +kernel) (by decide +kernel) (by decide +kernel) vr_4 (ww_t1 17 rfl rfl) wl_X5_15 (Nat.le_of_ble_eq_true rfl) (Nat.le_of_ble_eq_true rfl) (Nat.le_of_ble_eq_true rfl) (Nat.le_of_ble_eq_true rfl) rfl (fun _ _ _ _ _ _ k => lv_bipush (v := nI 6) hx hb dX5_init_16 (by decide) k) dX5_init_7 dX5_init_10 dX5_init_13 dX5_init_14 dX5_init_15 dX5_init_18 (by decide) dX5_init_21 dX5_init_22 dX5_init_25 dX5_init_26 dX5_init_29 dX5_init_30 dX5_init_32 dX5_init_35 dX5_init_36 dX5_init_39 (by decide) (fun ad1 H1 locs1 ls hB1 Hw hl => ?_)
  have a1 : ad1 0 = ad 0 := hB1 0 (by decide)
  refine lv_aload_n hx hb dX5_init_42 rfl (lv_at hl 1 rfl) ?_
  obtain ⟨hP, hD, hS⟩ := Hw
  refine va_new (ci := 4) (fs := [.null, .int 0, .int 0, .int 0, .int 0, .int 0]) (C := RX4) (T := TX4) (N := 6) hx hb hts inlX4 tyX4 tyX4_ok hown (hts _ (ww_t1 39 rfl rfl)) (hts _ (ww_t1 40 rfl rfl)) (hts _ wi_X4) hK hP hD hS hA rfl vf_X4 (Nat.le_of_ble_eq_true rfl) (Nat.le_of_ble_eq_true rfl) dX5_init_43 (fun q1 H1 hP hD hS => ?_)
  rw [vs_app] at hP hD
  refine lv_dup hx hb dX5_init_46 rfl ?_
  have eq1 : vs_a ad1 14 q1 14 = q1 := vs_a_s _ _ _
  have hM1 := k_Text (l := l) (D := D) (cI := t 0) (N := 15) (k := 14) (sz := H1.size) (ad := vs_a ad1 14 q1) (C := vs_c (vz t o0 0 (.inl (5, (vd_p0.set 0 (some (.inr 1))))) ad1) 14 (.inr (4, [.null, .int 0, .int 0, .int 0, .int 0, .int 0]))) (by decide) (vs_c_s _ _ _)
  rw [eq1] at hM1
  refine vs_call (va_runIN (host := "PieceWords") (As := []) (rest := .ref q1 :: .ref (ad 0) :: []) (b := q1) (Ts := ww_ws) ⟨hx, hb, hml, hown, hts⟩ hM1 ⟨va_cnB 0 hts (ww_good (d' := mX4_init) wc_X4_init) rfl rfl rfl (hNW.2 _ List.mem_cons_self) (hts _ wi_X4) wp_X4_init ⟨(Nat.le_of_ble_eq_true rfl), (Nat.le_of_ble_eq_true rfl)⟩, rfl, hts _ wn_X4_init⟩ ⟨vs_blind, fun U hU hW => ⟨rfl, by rw [hU], by rw [hU]; exact hP, va_K.moved hW.alike hK1, ⟨hD.1, fun _ _ _ => trivial⟩⟩⟩ rfl rfl hl.1 rfl (lv_room (Nat.le_of_ble_eq_true rfl)) dX5_init_47 ⟨(Nat.le_of_ble_eq_true rfl), (Nat.le_of_ble_eq_true rfl)⟩) hS (vs_A1 hD hS hA) (fun ad2 H2 locs2 hB2' hP hD hS => ?_)
  have hB2 : ∀ i, i < 14 → ad2 i = ad1 i := fun i hi => by rw [hB2' i (by omega), vs_a_n (by omega)]
  have Hw : vx D A s.heap t o0 0 (.inl (5, (vd_p0.set 0 (some (.inr 1))))) 16 ad2 H2 locs2 := vx_set hP hD hS (vx_grow (N := 14) (by decide +kernel) (by decide +kernel) hB2 (fun j hj => by rw [vs_c_n (by omega), vs_c_n (by omega), vs_c_n (by omega)]) (fun j h1 h2 _ => by rcases (show j = 14 ∨ j = 15 by omega) with rfl | rfl <;> rfl) (by decide))
  have e2 : ad2 14 = q1 := by rw [hB2' 14 (by decide), eq1]
  have a2 : ad2 0 = ad 0 := (hB2 0 (by decide)).trans a1
  rw [← e2]
  refine vx_putF (some (.inr 14)) 1 X Hw vF_p_text (by decide) (by decide) rfl rfl a2 dX5_init_50 (fun H2 locs2 Hw => ?_)
  refine lv_aload_n hx hb dX5_init_53 rfl (lv_at hl 1 rfl) ?_
  obtain ⟨hP, hD, hS⟩ := Hw
  refine va_new (ci := 1) (fs := [.null, .int 0, .null, .int 0, .int 0, .int 0, .null, .int 0]) (C := RX1) (T := TX1) (N := 8) hx hb hts inlX1 tyX1 tyX1_ok hown (hts _ (ww_t1 66 rfl rfl)) (hts _ (ww_t1 67 rfl rfl)) (hts _ wi_X1) hK hP hD hS hA rfl vf_X1 (Nat.le_of_ble_eq_true rfl) (Nat.le_of_ble_eq_true rfl) dX5_init_54 (fun q2 H2 hP hD hS => ?_)
  rw [vs_app] at hP hD
  refine lv_dup hx hb dX5_init_57 rfl ?_
  have eq2 : vs_a ad2 16 q2 16 = q2 := vs_a_s _ _ _
  have hE2 := vx_enter (t := t) (o0 := o0) (N := 16) (q := q2) (d := (.inl (5, ((vd_p0.set 0 (some (.inr 1))).set 1 (some (.inr 14)))))) (d' := vd_X1) (ad := ad2) (e' := .inr (1, [.null, .int 0, .null, .int 0, .int 0, .int 0, .null, .int 0])) (by decide) (by decide +kernel) rfl
  have hP := vs_conv hP (fun _ _ => rfl) hE2
  have hD := vs_convD (ad' := vs_a ad2 16 q2) (C' := vz t (vd_e t ad2 (.inl (5, ((vd_p0.set 0 (some (.inr 1))).set 1 (some (.inr 14)))))) 16 vd_X1 (vs_a ad2 16 q2)) hD (fun _ _ => rfl)
  have hM2 := k_Reader (l := l) (D := D) (t := t) (o0 := vd_e t ad2 (.inl (5, ((vd_p0.set 0 (some (.inr 1))).set 1 (some (.inr 14)))))) (sz := H2.size) (ad := vs_a ad2 16 q2)
  rw [eq2] at hM2
  refine vs_call (va_runI (As := []) (rest := .ref q2 :: .ref (ad 0) :: []) (b := q2) (Ts := ww_ws) ⟨hx, hb, hml, hown, hts⟩ hM2 ⟨callB_of 0 hts (ww_good (d' := mX1_init) wc_X1_init) rfl rfl rfl (hts _ wi_X1) (hts _ wl_X5_27) wp_X1_init ⟨(Nat.le_of_ble_eq_true rfl), (Nat.le_of_ble_eq_true rfl)⟩, rfl, hts _ wn_X1_init⟩ ⟨vs_blindV, fun U hU hW => ⟨rfl, ⟨by rw [hU], by rw [hU]; exact hP, va_K.moved hW.alike hK, ⟨hD.1, fun _ _ _ => trivial⟩⟩, hAO.moved hW.alike, hAA.moved hW.alike, hNW.warm hW⟩⟩ rfl rfl hl.1 rfl (lv_room (Nat.le_of_ble_eq_true rfl)) dX5_init_58 ⟨(Nat.le_of_ble_eq_true rfl), (Nat.le_of_ble_eq_true rfl)⟩) hS (vs_A1 hD hS hA) (fun ad3 H3 locs3 hB3' hP hD hS => ?_)
  have hB3 : ∀ i, i < 16 → ad3 i = ad2 i := fun i hi => by rw [hB3' i (by omega), vs_a_n (by omega)]
  have Hw : vx D A s.heap t o0 0 (.inl (5, ((vd_p0.set 0 (some (.inr 1))).set 1 (some (.inr 14))))) 32 ad3 H3 locs3 := vx_set hP hD hS (fun j _ => vx_leave (N := 16) (by decide +kernel) hB3 j)
  have e3 : ad3 16 = q2 := by rw [hB3' 16 (by decide), eq2]
  have a3 : ad3 0 = ad 0 := (hB3 0 (by decide)).trans a2
  rw [← e3]
  refine vx_putF (some (.inr 16)) 2 X Hw vF_p_reader (by decide) (by decide) rfl rfl a3 dX5_init_61 (fun H3 locs3 Hw => ?_)
  refine lv_aload_n hx hb dX5_init_64 rfl (lv_at hl 1 rfl) ?_
  obtain ⟨hP, hD, hS⟩ := Hw
  refine va_new (ci := 0) (fs := [.null, .int 0, .null, .null, .null, .null, .int 0, .int 0, .null, .null, .null, .null, .null]) (C := RX0) (T := TX0) (N := 13) hx hb hts inlX0 tyX0 tyX0_ok hown (hts _ (ww_t1 103 rfl rfl)) (hts _ (ww_t1 104 rfl rfl)) (hts _ wi_X0) hK hP hD hS hA rfl vf_X0 (Nat.le_of_ble_eq_true rfl) (Nat.le_of_ble_eq_true rfl) dX5_init_65 (fun q3 H3 hP hD hS => ?_)
  rw [vs_app] at hP hD
  refine lv_dup hx hb dX5_init_68 rfl ?_
  have eq3 : vs_a ad3 32 q3 32 = q3 := vs_a_s _ _ _
  have hE3 := vx_enter (t := t) (o0 := o0) (N := 32) (q := q3) (d := (.inl (5, (((vd_p0.set 0 (some (.inr 1))).set 1 (some (.inr 14))).set 2 (some (.inr 16)))))) (d' := vd_X0) (ad := ad3) (e' := .inr (0, [.null, .int 0, .null, .null, .null, .null, .int 0, .int 0, .null, .null, .null, .null, .null])) (by decide) (by decide +kernel) rfl
  have hP := vs_conv hP (fun _ _ => rfl) hE3
  have hD := vs_convD (ad' := vs_a ad3 32 q3) (C' := vz t (vd_e t ad3 (.inl (5, (((vd_p0.set 0 (some (.inr 1))).set 1 (some (.inr 14))).set 2 (some (.inr 16)))))) 32 vd_X0 (vs_a ad3 32 q3)) hD (fun _ _ => rfl)
  have hM3 := k_Members (l := l) (D := D) (t := t) (o0 := vd_e t ad3 (.inl (5, (((vd_p0.set 0 (some (.inr 1))).set 1 (some (.inr 14))).set 2 (some (.inr 16)))))) (sz := H3.size) (ad := vs_a ad3 32 q3)
  rw [eq3] at hM3
  refine vs_call (va_runI (As := []) (rest := .ref q3 :: .ref (ad 0) :: []) (b := q3) (Ts := ww_ws) ⟨hx, hb, hml, hown, hts⟩ hM3 ⟨callB_of 0 hts (ww_good (d' := mX0_init) wc_X0_init) rfl rfl rfl (hts _ wi_X0) (hts _ wl_X5_34) wp_X0_init ⟨(Nat.le_of_ble_eq_true rfl), (Nat.le_of_ble_eq_true rfl)⟩, rfl, hts _ wn_X0_init⟩ ⟨vs_blindV, fun U hU hW => ⟨rfl, ⟨by rw [hU], by rw [hU]; exact hP, va_K.moved hW.alike hK, ⟨hD.1, fun _ _ _ => trivial⟩⟩, hAO.moved hW.alike, hAA.moved hW.alike, hNW.warm hW⟩⟩ rfl rfl hl.1 rfl (lv_room (Nat.le_of_ble_eq_true rfl)) dX5_init_69 ⟨(Nat.le_of_ble_eq_true rfl), (Nat.le_of_ble_eq_true rfl)⟩) hS (vs_A1 hD hS hA) (fun ad4 H4 locs4 hB4' hP hD hS => ?_)
  have hB4 : ∀ i, i < 32 → ad4 i = ad3 i := fun i hi => by rw [hB4' i (by omega), vs_a_n (by omega)]
  have Hw : vx D A s.heap t o0 0 (.inl (5, (((vd_p0.set 0 (some (.inr 1))).set 1 (some (.inr 14))).set 2 (some (.inr 16))))) 229 ad4 H4 locs4 := vx_set hP hD hS (fun j _ => vx_leave (N := 32) (by decide +kernel) hB4 j)
  have e4 : ad4 32 = q3 := by rw [hB4' 32 (by decide), eq3]
  have a4 : ad4 0 = ad 0 := (hB4 0 (by decide)).trans a3
  rw [← e4]
  refine vx_putF (some (.inr 32)) 3 X Hw vF_p_members (by decide) (by decide) rfl rfl a4 dX5_init_72 (fun H4 locs4 Hw => ?_)
  refine lv_aload_n hx hb dX5_init_75 rfl (lv_at hl 1 rfl) ?_
  obtain ⟨hP, hD, hS⟩ := Hw
  refine va_new (ci := 3) (fs := [.null, .null, .int 0, .int 0, .int 0, .int 0, .int 0]) (C := RX3) (T := TX3) (N := 7) hx hb hts inlX3 tyX3 tyX3_ok hown (hts _ (ww_t1 159 rfl rfl)) (hts _ (ww_t1 160 rfl rfl)) (hts _ wi_X3) hK hP hD hS hA rfl vf_X3 (Nat.le_of_ble_eq_true rfl) (Nat.le_of_ble_eq_true rfl) dX5_init_76 (fun q4 H4 hP hD hS => ?_)
  rw [vs_app] at hP hD
  refine lv_dup hx hb dX5_init_79 rfl ?_
  have eq4 : vs_a ad4 229 q4 229 = q4 := vs_a_s _ _ _
  refine lv_aload_n hx hb dX5_init_80 rfl (lv_at hl 1 rfl) ?_
  refine va_get (ref := (TX5 3).1) (C := RX5) (T := TX5) (N := 11) (ci := 5) (v := .ref (ad4 32)) (fs := (((((vd_p0.set 0 (some (.inr 1))).set 1 (some (.inr 14))).set 2 (some (.inr 16))).set 3 (some (.inr 32)))).map (vd_o ad4)) hx hb hts inlX5 hown hK hP 0 (by rw [vs_get (by decide), vs_a_n (by decide), a4, vs_c_n (by decide), vz_k]; rfl) rfl 3 (by decide) (hts (.fieldLink RX5 35 "PieceWords" "members" "LPieceWords$Members;") (ww_t1 196 rfl rfl)) (fun _ h9 => h9) rfl dX5_init_81 ?_
  have hM4 := k_Short (l := l) (D := D) (cI := t 0) (N := 230) (k := 229) (sz := H4.size) (am := ad4 32) (ad := vs_a ad4 229 q4) (C := vs_c (vz t o0 0 (.inl (5, ((((vd_p0.set 0 (some (.inr 1))).set 1 (some (.inr 14))).set 2 (some (.inr 16))).set 3 (some (.inr 32))))) ad4) 229 (.inr (3, [.null, .null, .int 0, .int 0, .int 0, .int 0, .int 0]))) (by decide) (vs_c_s _ _ _)
  rw [eq4] at hM4
  refine vs_call (va_runI (As := [.ref (ad4 32)]) (rest := .ref q4 :: .ref (ad 0) :: []) (b := q4) (Ts := ww_ws) ⟨hx, hb, hml, hown, hts⟩ hM4 ⟨callB_of 1 hts (ww_good (d' := mX3_init) wc_X3_init) rfl rfl rfl (hts _ wi_X3) (hts _ wl_X5_41) wp_X3_init ⟨(Nat.le_of_ble_eq_true rfl), (Nat.le_of_ble_eq_true rfl)⟩, rfl, hts _ wn_X3_init⟩ ⟨vs_blind, fun U hU hW => ⟨rfl, by rw [hU], by rw [hU]; exact hP, va_K.moved hW.alike hK1, ⟨hD.1, fun _ _ _ => trivial⟩⟩⟩ rfl rfl hl.1 rfl (lv_room (Nat.le_of_ble_eq_true rfl)) dX5_init_84 ⟨(Nat.le_of_ble_eq_true rfl), (Nat.le_of_ble_eq_true rfl)⟩) hS (vs_A1 hD hS hA) (fun ad5 H5 locs5 hB5' hP hD hS => ?_)
  have hB5 : ∀ i, i < 229 → ad5 i = ad4 i := fun i hi => by rw [hB5' i (by omega), vs_a_n (by omega)]
  have e32 : ad5 32 = ad4 32 := hB5 32 (by decide)
  have Hw : vx D A s.heap t o0 0 (.inl (5, ((((vd_p0.set 0 (some (.inr 1))).set 1 (some (.inr 14))).set 2 (some (.inr 16))).set 3 (some (.inr 32))))) 232 ad5 H5 locs5 := vx_set hP hD hS (vx_grow (N := 229) (by decide +kernel) (by decide +kernel) hB5 (fun j hj => by unfold vk_X3; rw [vs_c_n (by omega), vs_c_n (by omega), vs_c_n (by omega), vs_c_n (by omega), vs_c_n (by omega)]) (fun j h1 h2 _ => by
    rw [← e32]
    rcases (show j = 229 ∨ j = 230 ∨ j = 231 by omega) with rfl | rfl | rfl <;> rfl) (by decide))
  have e5 : ad5 229 = q4 := by rw [hB5' 229 (by decide), eq4]
  have a5 : ad5 0 = ad 0 := (hB5 0 (by decide)).trans a4
  rw [← e5]
  refine vx_putF (some (.inr 229)) 4 X Hw vF_p_shortening (by decide) (by decide) rfl rfl a5 dX5_init_87 (fun H5 locs5 Hw => ?_)
  refine lv_aload_n hx hb dX5_init_90 rfl (lv_at hl 1 rfl) ?_
  obtain ⟨hP, hD, hS⟩ := Hw
  refine vs_newRowS (own := RX5) 540 hx hb hml hl.1 hts hown hK hP hD hS hA (by decide) (by decide) (ww_t1 17 rfl rfl) wj_X2 wl_X5_15 (Nat.le_of_ble_eq_true rfl) (Nat.le_of_ble_eq_true rfl) (Nat.le_of_ble_eq_true rfl) (Nat.le_of_ble_eq_true rfl) (Nat.le_of_ble_eq_true rfl) dX5_init_91 dX5_init_94 dX5_init_95 dX5_init_98 (fun ad6 H6 locs6 hB6 hP hD hS => ?_)
  have Hw : vx D A s.heap t o0 0 (.inl (5, (((((vd_p0.set 0 (some (.inr 1))).set 1 (some (.inr 14))).set 2 (some (.inr 16))).set 3 (some (.inr 32))).set 4 (some (.inr 229))))) 234 ad6 H6 locs6 := vx_set hP hD hS (vx_grow (N := 232) (by decide +kernel) (by decide +kernel) hB6 (fun j hj => by rw [vs_c_n (by omega), vs_c_n (by omega), vs_c_n (by omega)]) (fun j h1 h2 _ => by rcases (show j = 232 ∨ j = 233 by omega) with rfl | rfl <;> rfl) (by decide))
  have a6 : ad6 0 = ad 0 := (hB6 0 (by decide)).trans a5
  refine vx_putF (some (.inr 232)) 5 X Hw vF_p_made (by decide) (by decide) rfl rfl a6 dX5_init_101 (fun H6 locs6 Hw => ?_)
  refine lv_aload_n hx hb dX5_init_104 rfl (lv_at hl 1 rfl) ?_
  refine vx_row 60 X Hw hl.1 (by decide) (by decide) (by decide) (by decide +kernel) (by decide +kernel) (by decide +kernel) (by decide +kernel) (ww_t1 17 rfl rfl) wl_X5_15 (Nat.le_of_ble_eq_true rfl) (Nat.le_of_ble_eq_true rfl) (Nat.le_of_ble_eq_true rfl) (Nat.le_of_ble_eq_true rfl) (Nat.le_of_ble_eq_true rfl) dX5_init_105 dX5_init_108 dX5_init_109 dX5_init_111 (fun ad7 H7 locs7 hB7 Hw => ?_)
  have a7 : ad7 0 = ad 0 := (hB7 0 (by decide)).trans a6
  refine vx_putF (some (.inr 234)) 6 X Hw vF_p_ringOfA (by decide) (by decide) rfl rfl a7 dX5_init_114 (fun H7 locs7 Hw => ?_)
  refine lv_aload_n hx hb dX5_init_117 rfl (lv_at hl 1 rfl) ?_
  refine vx_row 60 X Hw hl.1 (by decide) (by decide) (by decide) (by decide +kernel) (by decide +kernel) (by decide +kernel) (by decide +kernel) (ww_t1 17 rfl rfl) wl_X5_15 (Nat.le_of_ble_eq_true rfl) (Nat.le_of_ble_eq_true rfl) (Nat.le_of_ble_eq_true rfl) (Nat.le_of_ble_eq_true rfl) (Nat.le_of_ble_eq_true rfl) dX5_init_118 dX5_init_121 dX5_init_122 dX5_init_124 (fun ad8 H8 locs8 hB8 Hw => ?_)
  have a8 : ad8 0 = ad 0 := (hB8 0 (by decide)).trans a7
  refine vx_putF (some (.inr 236)) 7 X Hw vF_p_ringOfB (by decide) (by decide) rfl rfl a8 dX5_init_127 (fun H8 locs8 Hw => ?_)
  obtain ⟨hP, hD, hS⟩ := Hw
  have hdd : (.inl (5, ((((((((vd_p0.set 0 (some (.inr 1))).set 1 (some (.inr 14))).set 2 (some (.inr 16))).set 3 (some (.inr 32))).set 4 (some (.inr 229))).set 5 (some (.inr 232))).set 6 (some (.inr 234))).set 7 (some (.inr 236)))) : vd) = vz_d 0 := by decide +kernel
  have hdone : ∀ j, vz t o0 0 (.inl (5, ((((((((vd_p0.set 0 (some (.inr 1))).set 1 (some (.inr 14))).set 2 (some (.inr 16))).set 3 (some (.inr 32))).set 4 (some (.inr 229))).set 5 (some (.inr 232))).set 6 (some (.inr 234))).set 7 (some (.inr 236))))) ad8 j = vd_e t ad8 (vz_d j) := fun j => by
    unfold vz
    by_cases h0 : j = 0
    · subst h0
      rw [if_pos rfl, hdd]
    · rw [if_neg h0, if_neg h0]
  have hP' := vs_conv hP (ad' := ad8) (C' := fun j => vd_e t ad8 (vz_d j)) (fun _ _ => rfl) (fun j _ => hdone j)
  have hD' := vs_convD hD (ad' := ad8) (C' := fun j => vd_e t ad8 (vz_d j)) (fun _ _ => rfl)
  refine W.widen (k := 237) (n := 4054) (Nat.le_refl _) (Nat.le_refl _) ?_
  exact W.vret hx hb hr (fun t ht hW => ⟨⟨rfl, ad8, fun j hj => by rw [show j = 0 by omega]; exact a8, by rw [ht]; exact hP', hD'⟩, hS.F ht⟩) hS.2.2 dX5_init_130
