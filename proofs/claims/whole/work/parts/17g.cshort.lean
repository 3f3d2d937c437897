/-! ===== constructors: Shortening ===== -/
theorem wo_X3 : Cond.methodLink RX3 3 objectInit ∈ ww_ws := ww_t1 164 rfl rfl
theorem wj_X2 : Cond.instantiable RX2 2 ∈ ww_ws := ww_t1 19 rfl rfl
theorem vs_c_c (C : Nat → va_E) (k : Nat) (e e' : va_E) : vs_c (vs_c C k e) k e' = vs_c C k e' := by
  funext j; unfold vs_c; split <;> rfl
def vk_X3 (cI : ClassId) (N k : Nat) (C : Nat → va_E) (am : Nat) (ad : Nat → Nat) : Nat → va_E := vs_c (vs_c (vs_c (vs_c C N (.inr (2, [.null, .int 0]))) (N + 1) (.inl (cI, 60, .inl (fun _ => 0)))) N (.inr (2, [.ref (ad (N + 1)), .int 0]))) k (.inr (3, [.ref am, .ref (ad N), .int 0, .int 0, .int 0, .int 0, .int 0]))
set_option maxRecDepth 100000 in
theorem k_Short {l : Launch} {D : va_G} {cI : ClassId} {N k sz am : Nat} {ad : Nat → Nat} {C : Nat → va_E} (hk : k < N) (hck : C k = .inr (3, [.null, .null, .int 0, .int 0, .int 0, .int 0, .int 0])) : Met l yX3_init (.code yX3_init cX3_init 2 none :: ww_ws) { frames := 2, cells := 2, slots := 62, locals := 110 } (va_Pc [.ref (ad k), .ref am] (vs_U D [(cI, .int)] sz N ad C)) (vs_Q D (va_A (vs_l N ad C) sz) (fun ad' => ∀ j, j < N → ad' j = ad j) (N + 2) (fun ad' => vk_X3 cI N k C am ad')) 2 62 (va_A (vs_l N ad C) sz) := by
  refine Met.ofW (cc := cX3_init) (maxL := 2) (ret := none) (by decide) rfl ?_
  intro p e s m args below meth c s₁ B hml hv
  obtain ⟨rfl, hsz, hP, hK, hD0⟩ := hv
  have hx := B.exec
  have hb := B.bytes
  have hr := B.returns
  have hts0 := atoms_spec (ws := .code yX3_init cX3_init 2 none :: ww_ws) B.pre
  have hts : ∀ w ∈ ww_ws, w.before _ s = true := fun w hw => hts0 w (List.mem_cons_of_mem _ hw)
  have hown : s.vm.findClass RX3 = some m.cls := findClass_of_methodNamed B.named
  have hlocks := B.notSynchronized
  have hin : meth.name = "<init>" := (name_of_methodNamed B.named B.method).1
  subst hsz
  have hD := hD0.self (sz := s.heap.size)
  generalize hAe : va_A (vs_l N ad C) s.heap.size = A at hD ⊢
  have hA : ∀ q : Nat, s.heap.size ≤ q → A q := fun q h => by rw [← hAe]; exact Or.inr h
  have hS : va_S A s.heap s.heap [] := va_S.rf
  have hl := lv_entry ([.ref (ad k), .ref am]) (n := 2) (Nat.le_of_ble_eq_true rfl)
  rw [lg_entry_eq]
  generalize (lg_sl ([.ref (ad k), .ref am]) ++ List.replicate (2 - (lg_sl ([.ref (ad k), .ref am])).length) Slot.unset).toArray = ls at hl ⊢
  have hl : lv_has ls 2 [(0, .ref (ad k)), (1, .ref am)] := hl
  refine lv_aload_n hx hb dX3_init_0 rfl (lv_at hl 0 rfl) ?_
  refine W.objInit hx hb hown (hts _ wo_X3) (hts _ wo_i) (hts _ wo_c) rfl (by rw [hml]; exact hl.1) rfl dX3_init_1 (Nat.le_of_ble_eq_true rfl) (Nat.le_of_ble_eq_true rfl) ?_
  refine W.eq (g2 := F0 m 4 ls []) rfl ?_
  refine lv_aload_n hx hb dX3_init_4 rfl (lv_at hl 0 rfl) ?_
  refine vs_newRow (own := RX3) 60 hx hb hml hl.1 hts hown hK hP hD hS hA (by omega) (by decide) (ww_t1 165 rfl rfl) wj_X2 (ww_t1 166 rfl rfl) (Nat.le_of_ble_eq_true rfl) (Nat.le_of_ble_eq_true rfl) (Nat.le_of_ble_eq_true rfl) (Nat.le_of_ble_eq_true rfl) (Nat.le_of_ble_eq_true rfl) dX3_init_5 dX3_init_8 dX3_init_9 dX3_init_11 (fun ad' H locs hB hP hD hS => ?_)
  have ek : ad' k = ad k := hB k hk
  have cN : ∀ e, vs_c (vs_c (vs_c C N (.inr (2, [.null, .int 0]))) (N + 1) (.inl (cI, 60, .inl (fun _ => 0)))) N e k = .inr (3, [.null, .null, .int 0, .int 0, .int 0, .int 0, .int 0]) := fun e => by
    rw [vs_c_n (by omega), vs_c_n (by omega), vs_c_n (by omega), hck]
  refine va_putF (D := D) (ci := 3) (v := .ref (ad' N)) (ty := .object "PieceWords$Row") (C := RX3) (T := TX3) (N := 7) hx hb hts inlX3 tyX3 tyX3_ok nmX3 hown hK hP hD hS k (by rw [vs_get (by omega), ek, cN]) rfl 1 (by decide) (hts (.fieldLink RX3 14 "PieceWords$Shortening" "spare" "LPieceWords$Row;") (ww_t1 168 rfl rfl)) (fun _ h9 => h9) rfl hin rfl (by decide +kernel) rfl rfl (Nat.le_of_ble_eq_true rfl) dX3_init_14 (fun H locs hP hD hS => ?_)
  rw [← ek, vs_set _ _ (by omega)] at hP hD
  refine lv_aload_n hx hb dX3_init_17 rfl (lv_at hl 0 rfl) ?_
  refine lv_iconst (v := 0) hx hb dX3_init_18 (by decide) ?_
  refine va_put (D := D) (ci := 3) (v := .int 0) (ty := .int) (C := RX3) (T := TX3) (N := 7) hx hb hts inlX3 tyX3 tyX3_ok nmX3 hown hK hP hD hS k (by rw [vs_get (by omega), ek, vs_c_s]) rfl 2 (by decide) (hts (.fieldLink RX3 20 "PieceWords$Shortening" "kind" "I") (ww_t1 169 rfl rfl)) (fun _ h9 => h9) rfl (by decide +kernel) rfl rfl (Nat.le_of_ble_eq_true rfl) dX3_init_19 (fun H locs hP hD hS => ?_)
  rw [← ek, vs_set _ _ (by omega)] at hP hD
  refine lv_aload_n hx hb dX3_init_22 rfl (lv_at hl 0 rfl) ?_
  refine lv_aload_n hx hb dX3_init_23 rfl (lv_at hl 1 rfl) ?_
  refine va_putF (D := D) (ci := 3) (v := .ref am) (ty := .object "PieceWords$Members") (C := RX3) (T := TX3) (N := 7) hx hb hts inlX3 tyX3 tyX3_ok nmX3 hown hK hP hD hS k (by rw [vs_get (by omega), ek, vs_c_s]) rfl 0 (by decide) (hts (.fieldLink RX3 24 "PieceWords$Shortening" "members" "LPieceWords$Members;") (ww_t1 167 rfl rfl)) (fun _ h9 => h9) rfl hin rfl (by decide +kernel) rfl rfl (Nat.le_of_ble_eq_true rfl) dX3_init_24 (fun H locs hP hD hS => ?_)
  rw [← ek, vs_set _ _ (by omega), vs_c_c, vs_c_c] at hP hD
  refine W.widen (k := 2) (n := 62) (Nat.le_refl _) (Nat.le_refl _) ?_
  exact W.vret hx hb hr (fun t ht hW => ⟨⟨rfl, ad', hB, by rw [ht]; exact hP, hD⟩, hS.F ht⟩) hS.2.2 dX3_init_27
