/-! ===== constructors: Reader, Members ===== -/
def vs_V (D : va_G) (t : Nat → ClassId) (sz N : Nat) (ad : Nat → Nat) (C : Nat → va_E) (U : State) : Prop := vs_U D [(t 0, .int), (t 1, .object "PieceWords$Row"), (t 2, .array .int)] sz N ad C U ∧ va_AO "PieceWords$Row" U ∧ va_AA U ∧ ww_NW U
theorem vs_blindV {as : List Value} {D : va_G} {t : Nat → ClassId} {sz N : Nat} {ad : Nat → Nat} {C : Nat → va_E} : FrameBlind (va_Pc as (vs_V D t sz N ad C)) := fun a U g mk q => by
  obtain ⟨q0, ⟨q1, qP, qK, qD⟩, q2, q3, q4⟩ := q
  exact ⟨q0, ⟨q1, qP, va_K.moved (u := U) (U := U.calling g mk a) (Vm.Alike.refl U.vm) qK, qD⟩, q2, q3, ww_NW.same (u := U) (U := U.calling g mk a) rfl q4⟩
def vzz (t : Nat → ClassId) (o0 : va_E) (ad : Nat → Nat) (j : Nat) : va_E := if j = 0 then o0 else vd_e t ad (vz_d j)
theorem vz_done {t : Nat → ClassId} {o0 : va_E} {k : Nat} {d : vd} {ad : Nat → Nat} (hk : k ≠ 0) (hd : d = vz_d k) (j : Nat) : vz t o0 k d ad j = vzz t o0 ad j := by
  unfold vz vzz
  by_cases h : j = k
  · subst h
    rw [if_pos rfl, if_neg hk, hd]
  · rw [if_neg h]
theorem wo_X1 : Cond.methodLink RX1 3 objectInit ∈ ww_ws := ww_t1 71 rfl rfl
theorem wo_X0 : Cond.methodLink RX0 3 objectInit ∈ ww_ws := ww_t1 108 rfl rfl
theorem vF_raw : vF RX1 1 2 9 (.array .int) true := ⟨TX1, 8, rfl, by decide, ww_t1 80 rfl rfl, rfl, rfl, by decide +kernel⟩
theorem vF_opened : vF RX1 1 6 15 (.array .int) true := ⟨TX1, 8, rfl, by decide, ww_t1 84 rfl rfl, rfl, rfl, by decide +kernel⟩
theorem vF_read : vF RX1 1 0 20 (.array (.object "PieceWords$Row")) true := ⟨TX1, 8, rfl, by decide, ww_t1 74 rfl rfl, rfl, rfl, by decide +kernel⟩
def vd_b (a b : vd) : Bool := decide (a = b)
theorem vr_of {cap b n : Nat} (h : (List.range n).all (fun i => vd_b (vz_d (b + i)) (vz_r cap b (b + i))) = true) : ∀ j, j < b + n → b ≤ j → vz_d j = vz_r cap b j := by
  intro j h1 h2
  have h3 := List.all_eq_true.mp h (j - b) (List.mem_range.mpr (by omega))
  have h4 := of_decide_eq_true h3
  rw [show b + (j - b) = j by omega] at h4
  exact h4
theorem vr_1 : ∀ j, j < 32 → 20 ≤ j → vz_d j = vz_r 60 20 j := vr_of (n := 12) (by decide +kernel)
def vd_X1 : vd := .inl (1, [none, some (.inl 0), none, some (.inl 0), some (.inl 0), some (.inl 0), none, some (.inl 0)])
set_option maxRecDepth 100000 in
theorem k_Reader {l : Launch} {D : va_G} {t : Nat → ClassId} {o0 : va_E} {sz : Nat} {ad : Nat → Nat} : Met l yX1_init (.code yX1_init cX1_init 2 none :: ww_ws) { frames := 2, cells := 15, slots := 442, locals := 110 } (va_Pc [.ref (ad 16)] (vs_V D t sz 17 ad (vz t o0 16 vd_X1 ad))) (vs_Q D (va_A (vs_l 17 ad (vz t o0 16 vd_X1 ad)) sz) (fun ad' => ∀ j, j < 17 → ad' j = ad j) 32 (fun ad' => vzz t o0 ad')) 15 442 (va_A (vs_l 17 ad (vz t o0 16 vd_X1 ad)) sz) := by
  refine Met.ofW (cc := cX1_init) (maxL := 2) (ret := none) (by decide) rfl ?_
  intro p e s m args below meth c s₁ B hml hv
  obtain ⟨rfl, ⟨hsz, hP, hK, hD0⟩, hAO, hAA, hNW⟩ := hv
  have hx := B.exec
  have hb := B.bytes
  have hr := B.returns
  have hts0 := atoms_spec (ws := .code yX1_init cX1_init 2 none :: ww_ws) B.pre
  have hts : ∀ w ∈ ww_ws, w.before _ s = true := fun w hw => hts0 w (List.mem_cons_of_mem _ hw)
  have hown : s.vm.findClass RX1 = some m.cls := findClass_of_methodNamed B.named
  have hlocks := B.notSynchronized
  have hin : meth.name = "<init>" := (name_of_methodNamed B.named B.method).1
  subst hsz
  have hD := hD0.self (sz := s.heap.size)
  generalize hAe : va_A (vs_l 17 ad (vz t o0 16 vd_X1 ad)) s.heap.size = A at hD ⊢
  have hA : ∀ q : Nat, s.heap.size ≤ q → A q := fun q h => by rw [← hAe]; exact Or.inr h
  have hS : va_S A s.heap s.heap [] := va_S.rf
  have hl := lv_entry ([.ref (ad 16)]) (n := 2) (Nat.le_of_ble_eq_true rfl)
  rw [lg_entry_eq]
  generalize (lg_sl ([.ref (ad 16)]) ++ List.replicate (2 - (lg_sl ([.ref (ad 16)])).length) Slot.unset).toArray = ls at hl ⊢
  have hl : lv_has ls 2 [(0, .ref (ad 16))] := hl
  have X : vX p s m _ meth c D t A RX1 cX1_init 2 := ⟨hx, hb, hml, hts, hown, hin, hK, hA⟩
  have Hw : vx D A s.heap t o0 16 (.inl (1, [none, some (.inl 0), none, some (.inl 0), some (.inl 0), some (.inl 0), none, some (.inl 0)])) 17 ad s.heap [] := ⟨hP, hD, hS⟩
  refine lv_aload_n hx hb dX1_init_0 rfl (lv_at hl 0 rfl) ?_
  refine W.objInit hx hb hown (hts _ wo_X1) (hts _ wo_i) (hts _ wo_c) rfl (by rw [hml]; exact hl.1) rfl dX1_init_1 (Nat.le_of_ble_eq_true rfl) (Nat.le_of_ble_eq_true rfl) ?_
  refine W.eq (g2 := F0 m 4 ls []) rfl ?_
  refine lv_aload_n hx hb dX1_init_4 rfl (lv_at hl 0 rfl) ?_
  refine lv_bipush (v := nI 60) hx hb dX1_init_5 (by decide) ?_
  refine vx_nf 2 X Hw vF_raw (by decide) (by decide) (by decide) (by decide +kernel) (by decide +kernel) (by decide +kernel) rfl (Nat.le_of_ble_eq_true rfl) (Nat.le_of_ble_eq_true rfl) dX1_init_7 dX1_init_9 (fun ad1 H1 locs1 hB1 Hw => ?_)
  refine lv_aload_n hx hb dX1_init_12 rfl (lv_at hl 0 rfl) ?_
  refine lv_iconst (v := nI 4) hx hb dX1_init_13 (by decide) ?_
  refine vx_nf 6 X Hw vF_opened (by decide) (by decide) (by decide) (by decide +kernel) (by decide +kernel) (by decide +kernel) (hB1 16 (by decide)) (Nat.le_of_ble_eq_true rfl) (Nat.le_of_ble_eq_true rfl) dX1_init_14 dX1_init_16 (fun ad2 H2 locs2 hB2 Hw => ?_)
  refine lv_aload_n hx hb dX1_init_19 rfl (lv_at hl 0 rfl) ?_
  refine lv_bipush (v := nI 6) hx hb dX1_init_20 (by decide) ?_
  refine vx_rows (p2 := 33) (cap := 60) X Hw hl rfl hAO vF_read (by decide) (by decide) (by decide) (by decide) (by decide) (by decide) (by decide +kernel) (by decide +kernel) (by decide +kernel) vr_1 (ww_t1 72 rfl rfl) (ww_t1 73 rfl rfl) (Nat.le_of_ble_eq_true rfl) (Nat.le_of_ble_eq_true rfl) (Nat.le_of_ble_eq_true rfl) (Nat.le_of_ble_eq_true rfl) ((hB2 16 (by decide)).trans (hB1 16 (by decide))) (fun _ _ _ _ _ _ k => lv_bipush (v := nI 6) hx hb dX1_init_31 (by decide) k) dX1_init_22 dX1_init_25 dX1_init_28 dX1_init_29 dX1_init_30 dX1_init_33 (by decide) dX1_init_36 dX1_init_37 dX1_init_40 dX1_init_41 dX1_init_44 dX1_init_45 dX1_init_47 dX1_init_50 dX1_init_51 dX1_init_54 (by decide) (fun ad3 H3 locs3 ls3 hB3 Hw hl3 => ?_)
  obtain ⟨hP, hD, hS⟩ := Hw
  have hdone := vz_done (t := t) (o0 := o0) (ad := ad3) (k := 16) (d := .inl (1, ((([none, some (.inl 0), none, some (.inl 0), some (.inl 0), some (.inl 0), none, some (.inl 0)] : List vd_x).set 2 (some (.inr 17))).set 6 (some (.inr 18))).set 0 (some (.inr 19)))) (by decide) (by decide +kernel)
  have hP' := vs_conv hP (ad' := ad3) (C' := vzz t o0 ad3) (fun _ _ => rfl) (fun j _ => hdone j)
  have hD' := vs_convD hD (ad' := ad3) (C' := vzz t o0 ad3) (fun _ _ => rfl)
  refine W.widen (k := 15) (n := 442) (Nat.le_refl _) (Nat.le_refl _) ?_
  exact W.vret hx hb hr (fun t ht hW => ⟨⟨rfl, ad3, fun j hj => by rw [hB3 j (by omega), hB2 j (by omega), hB1 j hj], by rw [ht]; exact hP', hD'⟩, hS.F ht⟩) hS.2.2 dX1_init_57
