/-! ===== constructors: Members ===== -/
theorem vi_of {q b n : Nat} (h : (List.range n).all (fun i => vd_b (vz_d (b + i)) (.inr (.inl q))) = true) : ∀ j, j < b + n → b ≤ j → vz_d j = .inr (.inl q) := by
  intro j h1 h2
  have h3 := List.all_eq_true.mp h (j - b) (List.mem_range.mpr (by omega))
  have h4 := of_decide_eq_true h3
  rw [show b + (j - b) = j by omega] at h4
  exact h4
theorem vr_2 : ∀ j, j < 60 → 54 ≤ j → vz_d j = vz_r 14 54 j := vr_of (n := 6) (by decide +kernel)
theorem vr_3 : ∀ j, j < 229 → 61 ≤ j → vz_d j = vz_r 14 61 j := vr_of (n := 168) (by decide +kernel)
theorem vi_1 : ∀ j, j < 48 → 40 ≤ j → vz_d j = .inr (.inl 84) := vi_of (n := 8) (by decide +kernel)
theorem vi_2 : ∀ j, j < 53 → 50 ≤ j → vz_d j = .inr (.inl 4) := vi_of (n := 3) (by decide +kernel)
theorem vF_piece : vF RX0 0 2 9 (.array .int) true := ⟨TX0, 13, rfl, by decide, ww_t1 117 rfl rfl, rfl, rfl, by decide +kernel⟩
theorem vF_ownFirst : vF RX0 0 3 15 (.array .int) true := ⟨TX0, 13, rfl, by decide, ww_t1 119 rfl rfl, rfl, rfl, by decide +kernel⟩
theorem vF_turning : vF RX0 0 4 23 (.object "PieceWords$Row") true := ⟨TX0, 13, rfl, by decide, ww_t1 121 rfl rfl, rfl, rfl, by decide +kernel⟩
theorem vF_shortest : vF RX0 0 7 27 .int false := ⟨TX0, 13, rfl, by decide, ww_t1 125 rfl rfl, rfl, rfl, by decide +kernel⟩
theorem vF_owners : vF RX0 0 8 31 (.array .int) true := ⟨TX0, 13, rfl, by decide, ww_t1 127 rfl rfl, rfl, rfl, by decide +kernel⟩
theorem vF_shared : vF RX0 0 9 34 (.array .int) true := ⟨TX0, 13, rfl, by decide, ww_t1 128 rfl rfl, rfl, rfl, by decide +kernel⟩
theorem vF_starters : vF RX0 0 10 39 (.array (.array .int)) true := ⟨TX0, 13, rfl, by decide, ww_t1 129 rfl rfl, rfl, rfl, by decide +kernel⟩
theorem vF_starterCount : vF RX0 0 11 42 (.array .int) true := ⟨TX0, 13, rfl, by decide, ww_t1 130 rfl rfl, rfl, rfl, by decide +kernel⟩
theorem vF_matrix : vF RX0 0 12 45 (.array (.array .int)) true := ⟨TX0, 13, rfl, by decide, ww_t1 131 rfl rfl, rfl, rfl, by decide +kernel⟩
theorem vF_relator : vF RX0 0 0 48 (.array (.object "PieceWords$Row")) true := ⟨TX0, 13, rfl, by decide, ww_t1 113 rfl rfl, rfl, rfl, by decide +kernel⟩
theorem vF_member : vF RX0 0 5 52 (.array (.object "PieceWords$Row")) true := ⟨TX0, 13, rfl, by decide, ww_t1 122 rfl rfl, rfl, rfl, by decide +kernel⟩
theorem wk_X0 : Cond.classLink RX0 37 ("[" ++ (FieldType.array .int).toString) ∈ ww_ws := ww_t1 111 rfl rfl
abbrev vd_m0 : List vd_x := [none, some (.inl 0), none, none, none, none, some (.inl 0), some (.inl 0), none, none, none, none, none]
def vd_X0 : vd := .inl (0, vd_m0)
set_option maxRecDepth 100000 in
theorem k_Members {l : Launch} {D : va_G} {t : Nat → ClassId} {o0 : va_E} {sz : Nat} {ad : Nat → Nat} : Met l yX0_init (.code yX0_init cX0_init 2 none :: ww_ws) { frames := 2, cells := 196, slots := 2372, locals := 110 } (va_Pc [.ref (ad 32)] (vs_V D t sz 33 ad (vz t o0 32 vd_X0 ad))) (vs_Q D (va_A (vs_l 33 ad (vz t o0 32 vd_X0 ad)) sz) (fun ad' => ∀ j, j < 33 → ad' j = ad j) 229 (fun ad' => vzz t o0 ad')) 196 2372 (va_A (vs_l 33 ad (vz t o0 32 vd_X0 ad)) sz) := by
  refine Met.ofW (cc := cX0_init) (maxL := 2) (ret := none) (by decide) rfl ?_
  intro p e s m args below meth c s₁ B hml hv
  obtain ⟨rfl, ⟨hsz, hP, hK, hD0⟩, hAO, hAA, hNW⟩ := hv
  have hx := B.exec
  have hb := B.bytes
  have hr := B.returns
  have hts0 := atoms_spec (ws := .code yX0_init cX0_init 2 none :: ww_ws) B.pre
  have hts : ∀ w ∈ ww_ws, w.before _ s = true := fun w hw => hts0 w (List.mem_cons_of_mem _ hw)
  have hown : s.vm.findClass RX0 = some m.cls := findClass_of_methodNamed B.named
  have hlocks := B.notSynchronized
  have hin : meth.name = "<init>" := (name_of_methodNamed B.named B.method).1
  subst hsz
  have hD := hD0.self (sz := s.heap.size)
  generalize hAe : va_A (vs_l 33 ad (vz t o0 32 vd_X0 ad)) s.heap.size = A at hD ⊢
  have hA : ∀ q : Nat, s.heap.size ≤ q → A q := fun q h => by rw [← hAe]; exact Or.inr h
  have hS : va_S A s.heap s.heap [] := va_S.rf
  have hl := lv_entry ([.ref (ad 32)]) (n := 2) (Nat.le_of_ble_eq_true rfl)
  rw [lg_entry_eq]
  generalize (lg_sl ([.ref (ad 32)]) ++ List.replicate (2 - (lg_sl ([.ref (ad 32)])).length) Slot.unset).toArray = ls at hl ⊢
  have hl : lv_has ls 2 [(0, .ref (ad 32))] := hl
  have X : vX p s m _ meth c D t A RX0 cX0_init 2 := ⟨hx, hb, hml, hts, hown, hin, hK, hA⟩
  have Hw : vx D A s.heap t o0 32 (.inl (0, vd_m0)) 33 ad s.heap [] := ⟨hP, hD, hS⟩
  refine lv_aload_n hx hb dX0_init_0 rfl (lv_at hl 0 rfl) ?_
  refine W.objInit hx hb hown (hts _ wo_X0) (hts _ wo_i) (hts _ wo_c) rfl (by rw [hml]; exact hl.1) rfl dX0_init_1 (Nat.le_of_ble_eq_true rfl) (Nat.le_of_ble_eq_true rfl) ?_
  refine W.eq (g2 := F0 m 4 ls []) rfl ?_
  refine lv_aload_n hx hb dX0_init_4 rfl (lv_at hl 0 rfl) ?_
  refine lv_iconst (v := nI 3) hx hb dX0_init_5 (by decide) ?_
  refine vx_nf 2 X Hw vF_piece (by decide) (by decide) (by decide) (by decide +kernel) (by decide +kernel) (by decide +kernel) rfl (Nat.le_of_ble_eq_true rfl) (Nat.le_of_ble_eq_true rfl) dX0_init_6 dX0_init_8 (fun ad1 H1 locs1 hB1 Hw => ?_)
  have a1 : ad1 32 = ad 32 := hB1 32 (by decide)
  refine lv_aload_n hx hb dX0_init_11 rfl (lv_at hl 0 rfl) ?_
  refine lv_iconst (v := nI 3) hx hb dX0_init_12 (by decide) ?_
  refine vx_nf 3 X Hw vF_ownFirst (by decide) (by decide) (by decide) (by decide +kernel) (by decide +kernel) (by decide +kernel) a1 (Nat.le_of_ble_eq_true rfl) (Nat.le_of_ble_eq_true rfl) dX0_init_13 dX0_init_15 (fun ad2 H2 locs2 hB2 Hw => ?_)
  have a2 : ad2 32 = ad 32 := (hB2 32 (by decide)).trans a1
  refine lv_aload_n hx hb dX0_init_18 rfl (lv_at hl 0 rfl) ?_
  refine vx_row 14 X Hw hl.1 (by decide) (by decide) (by decide) (by decide +kernel) (by decide +kernel) (by decide +kernel) (by decide +kernel) (ww_t1 109 rfl rfl) (ww_t1 110 rfl rfl) (Nat.le_of_ble_eq_true rfl) (Nat.le_of_ble_eq_true rfl) (Nat.le_of_ble_eq_true rfl) (Nat.le_of_ble_eq_true rfl) (Nat.le_of_ble_eq_true rfl) dX0_init_19 dX0_init_22 dX0_init_23 dX0_init_25 (fun ad3 H3 locs3 hB3 Hw => ?_)
  have a3 : ad3 32 = ad 32 := (hB3 32 (by decide)).trans a2
  refine vx_putF (some (.inr 35)) 4 X Hw vF_turning (by decide) (by decide) rfl rfl a3 dX0_init_28 (fun H3 locs3 Hw => ?_)
  refine lv_aload_n hx hb dX0_init_31 rfl (lv_at hl 0 rfl) ?_
  refine lv_bipush (v := nI 14) hx hb dX0_init_32 (by decide) ?_
  refine vx_put (some (.inl (nI 14))) 7 X Hw vF_shortest (by decide) (by decide) rfl rfl a3 dX0_init_34 (fun H3 locs3 Hw => ?_)
  refine lv_aload_n hx hb dX0_init_37 rfl (lv_at hl 0 rfl) ?_
  refine lv_bipush (v := nI 84) hx hb dX0_init_38 (by decide) ?_
  refine vx_nf 8 X Hw vF_owners (by decide) (by decide) (by decide) (by decide +kernel) (by decide +kernel) (by decide +kernel) a3 (Nat.le_of_ble_eq_true rfl) (Nat.le_of_ble_eq_true rfl) dX0_init_40 dX0_init_42 (fun ad4 H4 locs4 hB4 Hw => ?_)
  have a4 : ad4 32 = ad 32 := (hB4 32 (by decide)).trans a3
  refine lv_aload_n hx hb dX0_init_45 rfl (lv_at hl 0 rfl) ?_
  refine lv_bipush (v := nI 84) hx hb dX0_init_46 (by decide) ?_
  refine vx_nf 9 X Hw vF_shared (by decide) (by decide) (by decide) (by decide +kernel) (by decide +kernel) (by decide +kernel) a4 (Nat.le_of_ble_eq_true rfl) (Nat.le_of_ble_eq_true rfl) dX0_init_48 dX0_init_50 (fun ad5 H5 locs5 hB5 Hw => ?_)
  have a5 : ad5 32 = ad 32 := (hB5 32 (by decide)).trans a4
  refine lv_aload_n hx hb dX0_init_53 rfl (lv_at hl 0 rfl) ?_
  refine lv_bipush (v := nI 8) hx hb dX0_init_54 (by decide) ?_
  refine lv_bipush (v := nI 84) hx hb dX0_init_56 (by decide) ?_
  refine vx_multi (jf := 10) X Hw hAA (hts _ wk_X0) vF_starters (by decide) a5 (by decide) (by decide) (by decide) (by decide +kernel) vi_1 (by decide +kernel) (by decide +kernel) (Nat.le_of_ble_eq_true rfl) (Nat.le_of_ble_eq_true rfl) dX0_init_58 dX0_init_62 (fun ad6 H6 locs6 hB6 Hw => ?_)
  have a6 : ad6 32 = ad 32 := (hB6 32 (by decide)).trans a5
  refine lv_aload_n hx hb dX0_init_65 rfl (lv_at hl 0 rfl) ?_
  refine lv_bipush (v := nI 8) hx hb dX0_init_66 (by decide) ?_
  refine vx_nf 11 X Hw vF_starterCount (by decide) (by decide) (by decide) (by decide +kernel) (by decide +kernel) (by decide +kernel) a6 (Nat.le_of_ble_eq_true rfl) (Nat.le_of_ble_eq_true rfl) dX0_init_68 dX0_init_70 (fun ad7 H7 locs7 hB7 Hw => ?_)
  have a7 : ad7 32 = ad 32 := (hB7 32 (by decide)).trans a6
  refine lv_aload_n hx hb dX0_init_73 rfl (lv_at hl 0 rfl) ?_
  refine lv_iconst (v := nI 3) hx hb dX0_init_74 (by decide) ?_
  refine lv_iconst (v := nI 4) hx hb dX0_init_75 (by decide) ?_
  refine vx_multi (jf := 12) X Hw hAA (hts _ wk_X0) vF_matrix (by decide) a7 (by decide) (by decide) (by decide) (by decide +kernel) vi_2 (by decide +kernel) (by decide +kernel) (Nat.le_of_ble_eq_true rfl) (Nat.le_of_ble_eq_true rfl) dX0_init_76 dX0_init_80 (fun ad8 H8 locs8 hB8 Hw => ?_)
  have a8 : ad8 32 = ad 32 := (hB8 32 (by decide)).trans a7
  refine lv_aload_n hx hb dX0_init_83 rfl (lv_at hl 0 rfl) ?_
  refine lv_iconst (v := nI 3) hx hb dX0_init_84 (by decide) ?_
  refine vx_rows (p2 := 95) (cap := 14) X Hw hl rfl hAO vF_relator (by decide) (by decide) (by decide) (by decide) (by decide) (by decide) (by decide +kernel) (by decide +kernel) (by decide +kernel) vr_2 (ww_t1 109 rfl rfl) (ww_t1 110 rfl rfl) (Nat.le_of_ble_eq_true rfl) (Nat.le_of_ble_eq_true rfl) (Nat.le_of_ble_eq_true rfl) (Nat.le_of_ble_eq_true rfl) a8 (fun _ _ _ _ _ _ k => lv_iconst (v := nI 3) hx hb dX0_init_94 (by decide) k) dX0_init_85 dX0_init_88 dX0_init_91 dX0_init_92 dX0_init_93 dX0_init_95 (by decide) dX0_init_98 dX0_init_99 dX0_init_102 dX0_init_103 dX0_init_106 dX0_init_107 dX0_init_109 dX0_init_112 dX0_init_113 dX0_init_116 (by decide) (fun ad9 H9 locs9 ls hB9 Hw hl => ?_)
  have a9 : ad9 32 = ad 32 := (hB9 32 (by decide)).trans a8
  refine lv_aload_n hx hb dX0_init_119 rfl (lv_at hl 1 rfl) ?_
  refine lv_bipush (v := nI 84) hx hb dX0_init_120 (by decide) ?_
  refine vx_rows (p2 := 133) (cap := 14) X Hw hl rfl hAO vF_member (by decide) (by decide) (by decide) (by decide) (by decide) (by decide) (by decide +kernel) (by decide +kernel) (by decide +kernel) vr_3 (ww_t1 109 rfl rfl) (ww_t1 110 rfl rfl) (Nat.le_of_ble_eq_true rfl) (Nat.le_of_ble_eq_true rfl) (Nat.le_of_ble_eq_true rfl) (Nat.le_of_ble_eq_true rfl) a9 (fun _ _ _ _ _ _ k => lv_bipush (v := nI 84) hx hb dX0_init_131 (by decide) k) dX0_init_122 dX0_init_125 dX0_init_128 dX0_init_129 dX0_init_130 dX0_init_133 (by decide) dX0_init_136 dX0_init_137 dX0_init_140 dX0_init_141 dX0_init_144 dX0_init_145 dX0_init_147 dX0_init_150 dX0_init_151 dX0_init_154 (by decide) (fun ad10 H10 locs10 ls hB10 Hw hl => ?_)
  obtain ⟨hP, hD, hS⟩ := Hw
  have hdone := vz_done (t := t) (o0 := o0) (ad := ad10) (k := 32) (d := .inl (0, (((((((((((vd_m0.set 2 (some (.inr 33))).set 3 (some (.inr 34))).set 4 (some (.inr 35))).set 7 (some (.inl (nI 14)))).set 8 (some (.inr 37))).set 9 (some (.inr 38))).set 10 (some (.inr 39))).set 11 (some (.inr 48))).set 12 (some (.inr 49))).set 0 (some (.inr 53))).set 5 (some (.inr 60))))) (by decide) (by decide +kernel)
  have hP' := vs_conv hP (ad' := ad10) (C' := vzz t o0 ad10) (fun _ _ => rfl) (fun j _ => hdone j)
  have hD' := vs_convD hD (ad' := ad10) (C' := vzz t o0 ad10) (fun _ _ => rfl)
  refine W.widen (k := 196) (n := 2372) (Nat.le_refl _) (Nat.le_refl _) ?_
  exact W.vret hx hb hr (fun t ht hW => ⟨⟨rfl, ad10, fun j hj => by rw [hB10 j (by omega), hB9 j (by omega), hB8 j (by omega), hB7 j (by omega), hB6 j (by omega), hB5 j (by omega), hB4 j (by omega), hB3 j (by omega), hB2 j (by omega), hB1 j hj], by rw [ht]; exact hP', hD'⟩, hS.F ht⟩) hS.2.2 dX0_init_157
