/-! ===== the law from its entry: both objects are made, then its loop ===== -/
theorem vj_Kn {args : Array Value} {s : State} (hts : ∀ w ∈ ww_ws, w.before args s = true) : ∀ (c : Nat) (q : vw_C), vwCl[c]? = some q → ∃ (cls : ClassId) (iS : Nat → Nat), u_Kn s q.1 q.2.1 q.2.2 cls iS := by
  intro c q hq
  match c, hq with
  | 0, hq => cases hq; exact u_known (C := RX0) (T := TX0) (N := 13) (n := 13) hts inlX0 (hts (.instantiable RX0 13) (ww_t1 104 rfl rfl))
  | 1, hq => cases hq; exact u_known (C := RX1) (T := TX1) (N := 8) (n := 8) hts inlX1 (hts (.instantiable RX1 8) (ww_t1 67 rfl rfl))
  | 2, hq => cases hq; exact u_known (C := RX2) (T := TX2) (N := 2) (n := 2) hts inlX2 (hts (.instantiable RX2 2) (ww_t1 19 rfl rfl))
  | 3, hq => cases hq; exact u_known (C := RX3) (T := TX3) (N := 7) (n := 7) hts inlX3 (hts (.instantiable RX3 7) (ww_t1 160 rfl rfl))
  | 4, hq => cases hq; exact u_known (C := RX4) (T := TX4) (N := 6) (n := 6) hts inlX4 (hts (.instantiable RX4 6) (ww_t1 40 rfl rfl))
  | 5, hq => cases hq; exact u_known (C := RX5) (T := TX5) (N := 11) (n := 11) hts inlX5 (hts (.instantiable RX5 11) (ww_t1 10 rfl rfl))
  | 6, hq => cases hq; exact u_known (C := RX6) (T := TX6) (N := 32) (n := 32) hts inlX6 (hts (.instantiable RX6 32) (ww_t3 178 rfl rfl))
  | c + 7, hq => simp at hq
theorem vm_low : ∀ j, j < 238 → vd_u (vz_d j) ≤ 238 := by decide +kernel
set_option maxRecDepth 100000 in
theorem vk_old {t : Nat → ClassId} {C : Nat → va_E} {r : Nat → Nat} {j : Nat} (hj : j < 238) : vk_X6 (t 0) 239 238 C r j = C j := by
  unfold vk_X6
  rw [vs_c_n (by omega), vs_c_n (by omega), vs_c_n (by omega), vs_c_n (by omega), vs_c_n (by omega), vs_c_n (by omega), vs_c_n (by omega), vs_c_n (by omega), vs_c_n (by omega), vs_c_n (by omega), vs_c_n (by omega), vs_c_n (by omega), vs_c_n (by omega), vs_c_n (by omega), vs_c_n (by omega), vs_c_n (by omega), vs_c_n (by omega), vs_c_n (by omega), vs_c_n (by omega), vs_c_n (by omega), vs_c_n (by omega), vs_c_n (by omega), vs_c_n (by omega), vs_c_n (by omega), vs_c_n (by omega), vs_c_n (by omega), vs_c_n (by omega), vs_c_n (by omega), vs_c_n (by omega), vs_c_n (by omega), vs_c_n (by omega), vs_c_n (by omega), vs_c_n (by omega), vs_c_n (by omega), vs_c_n (by omega), vs_c_n (by omega)]
set_option maxHeartbeats 4000000 in
set_option maxRecDepth 100000 in
theorem vk_new {t : Nat → ClassId} {C : Nat → va_E} {ad : Nat → Nat} {j : Nat} (h1 : 238 ≤ j) (h2 : j < 257) : vk_X6 (t 0) 239 238 C (fun i => ad (239 + i)) j = vd_e t ad (vz_d j) := by
  rcases (show j = 238 ∨ j = 239 ∨ j = 240 ∨ j = 241 ∨ j = 242 ∨ j = 243 ∨ j = 244 ∨ j = 245 ∨ j = 246 ∨ j = 247 ∨ j = 248 ∨ j = 249 ∨ j = 250 ∨ j = 251 ∨ j = 252 ∨ j = 253 ∨ j = 254 ∨ j = 255 ∨ j = 256 by omega) with rfl | rfl | rfl | rfl | rfl | rfl | rfl | rfl | rfl | rfl | rfl | rfl | rfl | rfl | rfl | rfl | rfl | rfl | rfl
  · rfl
  · rfl
  · rfl
  · rfl
  · rfl
  · rfl
  · rfl
  · rfl
  · rfl
  · rfl
  · rfl
  · rfl
  · rfl
  · rfl
  · rfl
  · rfl
  · rfl
  · rfl
  · rfl
set_option maxHeartbeats 4000000 in
set_option maxRecDepth 100000 in
theorem whole_start {p : Program} {e : Env} {s : State} {m : MethodId} {below : List Frame} {meth : Method} {c : Code} (l : Launch) (hflags : l.flags = flags0) {b L : Nat} {xs : Nat → Int32} (hL : L ≤ 2048) (C0 : lw_At p s m meth c b L xs) : W p l e room_1 s m #[Value.ref b] below meth c s.heap [] 0 0 (lw_Z below #[Value.ref b] s) (entryFrame m ([Value.ref b] : List Value).toArray 4) := by
  have C1 := C0
  obtain ⟨hx, hb, hr, hml, hown, htsL, hX, hbl, hlocks, hgv⟩ := C0
  have hts : ∀ w ∈ ww_ws, w.before #[Value.ref b] s = true := fun w hw => htsL w (List.mem_filter.mp hw).1
  have wR := htsL (.arrayOver (.object "PieceWords$Row")) (vn_t1 18 rfl)
  have wII := htsL (.arrayOver (.array .int)) (vn_t1 112 rfl)
  have hAO : va_AO "PieceWords$Row" s := va_AO.of wR
  have hAA : va_AA s := wII
  have hNW : ww_NW s := vj_NW htsL
  obtain ⟨D, t, hK⟩ := vj_K hts wR wII (vj_Kn hts)
  have hK1 : va_K D vwCl [(t 0, .int)] s := hK.sub [0] rfl
  have hA : ∀ q : Nat, s.heap.size ≤ q → (fun q : Nat => s.heap.size ≤ q) q := fun q h => h
  have hS : va_S (fun q : Nat => s.heap.size ≤ q) s.heap s.heap [] := va_S.rf
  have hP : va_P D vwCl [] s.heap := fun k q h => by simp at h
  have hD : va_D (fun q : Nat => s.heap.size ≤ q) [] := ⟨fun i j x y h => by simp at h, fun k q h => by simp at h⟩
  have hl := lv_entry ([.ref b]) (n := 4) (Nat.le_of_ble_eq_true rfl)
  rw [lg_entry_eq]
  generalize (lg_sl ([.ref b]) ++ List.replicate (4 - (lg_sl ([.ref b])).length) Slot.unset).toArray = ls at hl ⊢
  have hl : lv_has ls 4 [(0, .ref b)] := hl
  refine va_new (ci := 5) (fs := [.null, .null, .null, .null, .null, .null, .null, .null, .int 0, .int 0, .int 0]) (C := RX5) (T := TX5) (N := 11) (own := R_law) hx hb hts inlX5 tyX5 tyX5_ok hown (hts _ (ww_t1 9 rfl rfl)) (hts _ (ww_t1 10 rfl rfl)) (hts _ wi_X5) hK hP hD hS hA rfl vf_X5 (Nat.le_of_ble_eq_true rfl) (Nat.le_of_ble_eq_true rfl) dL_law_0 (fun q0 H0 hP hD hS => ?_)
  have hP : va_P D vwCl (vs_l 1 (fun _ => q0) (vz t (.inr (0, [])) 0 vd_X5 (fun _ => q0))) H0 := hP
  have hD : va_D (fun q : Nat => s.heap.size ≤ q) (vs_l 1 (fun _ => q0) (vz t (.inr (0, [])) 0 vd_X5 (fun _ => q0))) := hD
  refine lv_dup hx hb dL_law_3 rfl ?_
  have hM := k_PieceWords (l := l) (D := D) (t := t) (o0 := .inr (0, [])) (sz := H0.size) (ad := fun _ => q0)
  refine vs_call (va_runI (As := []) (rest := .ref q0 :: []) (b := q0) (Ts := ww_ws) (nL := 4) (own := R_law) ⟨hx, hb, hml, hown, hts⟩ hM ⟨callB_of 0 hts (ww_good (d' := mX5_init) wc_X5_init) rfl rfl rfl (hts _ wi_X5) (hts _ (ww_t1 11 rfl rfl)) wp_X5_init ⟨(Nat.le_of_ble_eq_true rfl), (Nat.le_of_ble_eq_true rfl)⟩, rfl, hts _ wn_X5_init⟩ ⟨vs_blindV, fun U hU hW => ⟨rfl, ⟨by rw [hU], by rw [hU]; exact hP, va_K.moved hW.alike hK, ⟨hD.1, fun _ _ _ => trivial⟩⟩, hAO.moved hW.alike, hAA.moved hW.alike, hNW.warm hW⟩⟩ rfl rfl hl.1 rfl (lv_room (Nat.le_of_ble_eq_true rfl)) dL_law_4 ⟨(Nat.le_of_ble_eq_true rfl), (Nat.le_of_ble_eq_true rfl)⟩) hS (vs_A1 hD hS hA) (fun ad1 H1 locs1 hB1 hP hD hS => ?_)
  have e0 : ad1 0 = q0 := hB1 0 (by decide)
  refine lv_astore_n hx hb dL_law_7 rfl hl (by decide) rfl (fun ls hl => ?_)
  refine va_new (ci := 6) (fs := [.null, .null, .int 0, .null, .null, .null, .int 0, .null, .null, .null, .int 0, .null, .int 0, .null, .int 0, .int 0, .int 0, .int 0, .null, .null, .null, .int 0, .int 0, .null, .int 0, .int 0, .null, .null, .int 0, .int 0, .null, .null]) (C := RX6) (T := TX6) (N := 32) (own := R_law) hx hb hts inlX6 tyX6 tyX6_ok hown (hts _ (ww_t3 177 rfl rfl)) (hts _ (ww_t3 178 rfl rfl)) (hts _ wi_X6) hK hP hD hS hA rfl vf_X6 (Nat.le_of_ble_eq_true rfl) (Nat.le_of_ble_eq_true rfl) dL_law_8 (fun q1 H1 hP hD hS => ?_)
  rw [vs_app] at hP hD
  have eq1 : vs_a ad1 238 q1 238 = q1 := vs_a_s _ _ _
  refine lv_dup hx hb dL_law_11 rfl ?_
  have hM1 := k_Model (l := l) (D := D) (cI := t 0) (N := 239) (k := 238) (sz := H1.size) (ad := vs_a ad1 238 q1) (C := vs_c (fun j => vd_e t ad1 (vz_d j)) 238 (.inr (6, [.null, .null, .int 0, .null, .null, .null, .int 0, .null, .null, .null, .int 0, .null, .int 0, .null, .int 0, .int 0, .int 0, .int 0, .null, .null, .null, .int 0, .int 0, .null, .int 0, .int 0, .null, .null, .int 0, .int 0, .null, .null]))) (by decide) (vs_c_s _ _ _)
  rw [eq1] at hM1
  refine vs_call (va_runI (As := []) (rest := .ref q1 :: []) (b := q1) (Ts := ww_ws) (nL := 4) (own := R_law) ⟨hx, hb, hml, hown, hts⟩ hM1 ⟨callB_of 0 hts (ww_good (d' := mX6_init) wc_X6_init) rfl rfl rfl (hts _ wi_X6) (hts _ (ww_t3 179 rfl rfl)) wp_X6_init ⟨(Nat.le_of_ble_eq_true rfl), (Nat.le_of_ble_eq_true rfl)⟩, rfl, hts _ wn_X6_init⟩ ⟨vs_blind, fun U hU hW => ⟨rfl, by rw [hU], by rw [hU]; exact hP, va_K.moved hW.alike hK1, ⟨hD.1, fun _ _ _ => trivial⟩⟩⟩ rfl rfl hl.1 rfl (lv_room (Nat.le_of_ble_eq_true rfl)) dL_law_12 ⟨(Nat.le_of_ble_eq_true rfl), (Nat.le_of_ble_eq_true rfl)⟩) hS (vs_A1 hD hS hA) (fun ad2 H2 locs2 hB2 hP hD hS => ?_)
  have hB : ∀ i, i < 238 → ad2 i = ad1 i := fun i hi => by rw [hB2 i (by omega), vs_a_n (by omega)]
  have e1 : ad2 238 = q1 := by rw [hB2 238 (by decide), eq1]
  have e2 : ad2 0 = q0 := by rw [hB 0 (by decide), e0]
  have hP' := vs_conv hP (ad' := ad2) (C' := fun j => vd_e t ad2 (vz_d j)) (fun _ _ => rfl) (fun j hj => by
    by_cases h : j < 238
    · rw [vk_old h, vs_c_n (by omega)]
      exact (vd_congr hB _ (vm_low j h)).symm
    · exact vk_new (by omega) hj)
  have hD' := vs_convD hD (ad' := ad2) (C' := fun j => vd_e t ad2 (vz_d j)) (fun _ _ => rfl)
  obtain ⟨w1, w2, w3⟩ := vz_world hP' hD'
  refine lv_astore_n hx hb dL_law_15 rfl hl (by decide) rfl (fun ls hl => ?_)
  refine lv_iconst (v := nI 0) hx hb dL_law_16 (by decide) ?_
  refine lv_istore_n hx hb dL_law_17 rfl hl (by decide) rfl (fun ls hl => ?_)
  have Cx : lz_Cx (p, l, e, s, m, #[Value.ref b], below, meth, c) (b, L, xs, (D, (fun x => ad2 (vz_pl x)), t), 257, 7919) := ⟨C1, hK, w2, hNW, ⟨w3, Nat.le_of_ble_eq_true rfl, Nat.le_of_ble_eq_true rfl⟩, hL⟩
  have key := law_loop Cx (L + 1) 0 s0 (fun _ => []) τ0 (Nat.zero_le _) (by show L + 1 ≤ 0 + (L + 1); omega) zC_0 zM_0 H2 locs2 ls w1 hS ⟨hl.1, hl.2.1, fun q hq => by
    have h3 := lv_at hl 0 rfl
    have h2 := lv_at hl 1 rfl
    have h1 := lv_at hl 2 rfl
    have h0 := lv_at hl 3 rfl
    rcases List.mem_cons.mp hq with rfl | hq
    · exact h0
    · rcases List.mem_cons.mp hq with rfl | hq
      · show ls[1]? = some (.val (.ref (ad2 0)))
        rw [e2]
        exact h1
      · rcases List.mem_cons.mp hq with rfl | hq
        · show ls[2]? = some (.val (.ref (ad2 238)))
          rw [e1]
          exact h2
        · rcases List.mem_cons.mp hq with rfl | hq
          · exact h3
          · exact absurd hq List.not_mem_nil⟩
  exact key
