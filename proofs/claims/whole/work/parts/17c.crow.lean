/-! ===== constructors: Row ===== -/
theorem wo_X2 : Cond.methodLink RX2 3 objectInit ∈ ww_ws := ww_t1 23 rfl rfl
theorem wo_i : Cond.instanceMethod objectInit ∈ ww_ws := ww_t1 15 rfl rfl
theorem wo_c : Cond.code objectInit ⟨#[0xb1]⟩ 1 none ∈ ww_ws := ww_t1 16 rfl rfl
theorem wa_I : Cond.arrayClass .int ∈ ww_ws := ww_t1 38 rfl rfl
def vs_Q (D : va_G) (A : Nat → Prop) (B : (Nat → Nat) → Prop) (N : Nat) (C : (Nat → Nat) → Nat → va_E) : Array Value → State → Outcome → State → Prop := fun _ st oc t => (oc = .returned none ∧ ∃ ad : Nat → Nat, B ad ∧ va_P D vwCl (vs_l N ad (C ad)) t.heap ∧ va_D A (vs_l N ad (C ad))) ∧ va_F A st t
def vs_U (D : va_G) (tys : List (ClassId × FieldType)) (sz N : Nat) (ad : Nat → Nat) (C : Nat → va_E) (U : State) : Prop := U.heap.size = sz ∧ va_P D vwCl (vs_l N ad C) U.heap ∧ va_K D vwCl tys U ∧ va_D (fun _ => True) (vs_l N ad C)
set_option maxRecDepth 100000 in
theorem k_Row {l : Launch} {D : va_G} {cI : ClassId} {N k cap sz : Nat} {ad : Nat → Nat} {C : Nat → va_E} (hk : k < N) (hck : C k = .inr (2, [.null, .int 0])) (hcap : cap ≤ 540) : Met l yX2_init (.code yX2_init cX2_init 2 none :: ww_ws) { frames := 1, cells := 1, slots := cap, locals := 40 } (va_Pc [.ref (ad k), .int (nI cap)] (vs_U D [(cI, .int)] sz N ad C)) (vs_Q D (va_A (vs_l N ad C) sz) (fun ad' => ∀ j, j < N → ad' j = ad j) (N + 1) (fun ad' => vs_c (vs_c C N (.inl (cI, cap, .inl (fun _ => 0)))) k (.inr (2, [.ref (ad' N), .int 0])))) 1 cap (va_A (vs_l N ad C) sz) := by
  refine Met.ofW (cc := cX2_init) (maxL := 2) (ret := none) (by decide) rfl ?_
  intro p e s m args below meth c s₁ B hml hv
  obtain ⟨rfl, hsz, hP, hK, hD0⟩ := hv
  have hx := B.exec
  have hb := B.bytes
  have hr := B.returns
  have hts0 := atoms_spec (ws := .code yX2_init cX2_init 2 none :: ww_ws) B.pre
  have hts : ∀ w ∈ ww_ws, w.before _ s = true := fun w hw => hts0 w (List.mem_cons_of_mem _ hw)
  have hown : s.vm.findClass RX2 = some m.cls := findClass_of_methodNamed B.named
  have hlocks := B.notSynchronized
  have hin : meth.name = "<init>" := (name_of_methodNamed B.named B.method).1
  subst hsz
  have hD := hD0.self (sz := s.heap.size)
  generalize hAe : va_A (vs_l N ad C) s.heap.size = A at hD ⊢
  have hA : ∀ q : Nat, s.heap.size ≤ q → A q := fun q h => by rw [← hAe]; exact Or.inr h
  have hS : va_S A s.heap s.heap [] := va_S.rf
  have hl := lv_entry ([.ref (ad k), .int (nI cap)]) (n := 2) (Nat.le_of_ble_eq_true rfl)
  rw [lg_entry_eq]
  generalize (lg_sl ([.ref (ad k), .int (nI cap)]) ++ List.replicate (2 - (lg_sl ([.ref (ad k), .int (nI cap)])).length) Slot.unset).toArray = ls at hl ⊢
  have hl : lv_has ls 2 [(0, .ref (ad k)), (1, .int (nI cap))] := hl
  refine lv_aload_n hx hb dX2_init_0 rfl (lv_at hl 0 rfl) ?_
  refine W.objInit hx hb hown (hts _ wo_X2) (hts _ wo_i) (hts _ wo_c) rfl (by rw [hml]; exact hl.1) rfl dX2_init_1 (Nat.le_of_ble_eq_true rfl) (Nat.le_of_ble_eq_true rfl) ?_
  refine W.eq (g2 := F0 m 4 ls []) rfl ?_
  refine lv_aload_n hx hb dX2_init_4 rfl (lv_at hl 0 rfl) ?_
  refine lv_iconst (v := nI 0) hx hb dX2_init_5 (by decide) ?_
  refine lv_iload_n hx hb dX2_init_6 rfl (lv_at hl 1 rfl) ?_
  refine va_mmax (x := nI 0) (y := nI cap) hx hb (hml.trans hl.1.symm) hown (hts _ wl_X2_9) (hts _ ws_Math_max) (hts _ wi_J9) (hts _ wc_Math_max) (Nat.le_of_ble_eq_true rfl) (Nat.le_of_ble_eq_true rfl) (Nat.zero_le _) (Nat.zero_le _) dX2_init_7 ?_
  rw [zmax (by omega) (by omega), Nat.max_eq_right (Nat.zero_le cap)]
  have h4 : cap * componentBytes .int ≤ 536870912 := by show cap * 4 ≤ 536870912; omega
  refine va_newa (atype := .int) (ty := .int) (a0 := (cap, .inl (fun _ => 0))) (N' := cap) hx hb (hts _ wa_I) rfl hK hP hD hS hA (fun cA => rfl) (by rw [← nI_0, zlt (by omega) (by omega)]; omega) (nI_clamp (by omega)) h4 (Nat.le_refl 1) (by show 0 + cap ≤ cap; omega) dX2_init_10 (fun q cA H hK2 hP hD hS => ?_)
  have hcA : cA = cI := by
    have e1 := (hK2.2 0 (cI, .int) rfl).2
    have e2 := (hK2.2 1 (cA, .int) rfl).2
    exact Option.some.inj (e2.symm.trans e1)
  subst hcA
  rw [vs_app] at hP hD
  have ek : vs_a ad N q k = ad k := vs_a_n (by omega)
  have hg : (vs_l (N + 1) (vs_a ad N q) (vs_c C N (.inl (cA, cap, .inl (fun _ => 0)))))[k]? = some (ad k, .inr (2, [.null, .int 0])) := by
    rw [vs_get (by omega), ek, vs_c_n (by omega), hck]
  refine va_putF (D := D) (ci := 2) (v := .ref q) (ty := .array .int) (C := RX2) (T := TX2) (N := 2) hx hb hts inlX2 tyX2 tyX2_ok nmX2 hown hK hP hD hS k hg rfl 0 (by decide) (hts (.fieldLink RX2 15 "PieceWords$Row" "letters" "[I") (ww_t1 27 rfl rfl)) (fun _ h9 => h9) rfl hin rfl (by decide +kernel) rfl rfl (Nat.le_of_ble_eq_true rfl) dX2_init_12 (fun H locs hP hD hS => ?_)
  rw [← ek, vs_set _ _ (by omega)] at hP hD
  refine W.widen (k := 1) (n := cap) (Nat.le_refl _) (by omega) ?_
  have hP' : va_P D vwCl (vs_l (N + 1) (vs_a ad N q) (vs_c (vs_c C N (.inl (cA, cap, .inl (fun _ => 0)))) k (.inr (2, [.ref (vs_a ad N q N), .int 0])))) H := by rw [vs_a_s]; exact hP
  have hD' : va_D A (vs_l (N + 1) (vs_a ad N q) (vs_c (vs_c C N (.inl (cA, cap, .inl (fun _ => 0)))) k (.inr (2, [.ref (vs_a ad N q N), .int 0])))) := by rw [vs_a_s]; exact hD
  exact W.vret hx hb hr (fun t ht hW => ⟨⟨rfl, vs_a ad N q, fun j hj => vs_a_n (by omega), by rw [ht]; exact hP', hD'⟩, hS.F ht⟩) hS.2.2 dX2_init_15
/-- a constructor's call: the world has grown -/
theorem vs_call {p : Program} {l : Launch} {e : Env} {R : Room} {s : State} {m : MethodId} {args : Array Value} {below : List Frame} {meth : Method} {c : Code} {H : Heap} {locs : List Loc} {cells slots mc ms pc : Nat} {Q : State → Prop} {ls : Array Slot} {st0 rest : List Value} {D : va_G} {A A1 : Nat → Prop} {B : (Nat → Nat) → Prop} {N : Nat} {C : (Nat → Nat) → Nat → va_E} {a : Array Value} (hr : va_Run p l e R s m args below meth c H locs cells slots mc ms (F0 m pc ls st0) rest (vs_Q D A1 B N C a) A1) (hS : va_S A s.heap H locs) (hA1 : ∀ q, A1 q → A q)
    (kk : ∀ (ad : Nat → Nat) (H1 : Heap) (locs1 : List Loc), B ad → va_P D vwCl (vs_l N ad (C ad)) H1 → va_D A (vs_l N ad (C ad)) → va_S A s.heap H1 locs1 → W p l e R s m args below meth c H1 locs1 (cells + mc) (slots + ms) Q (F0 m (pc + 3) ls rest)) : W p l e R s m args below meth c H locs cells slots Q (F0 m pc ls st0) := by
  intro T hT X
  obtain ⟨v, st₀, t, T', L, h0, X', hL, e1, e2, ⟨⟨hv, ad, hB, hP, hD⟩, hz, hk⟩, sts⟩ := hr T hT X
  have hv' : v = none := Outcome.returned.inj hv
  subst hv'
  rw [h0] at hz hk
  have hS1 : va_S A s.heap T'.heap (locs ++ L) := ⟨Nat.le_trans hS.1 (by rw [e1]; exact hz), fun q h1 h2 => by
      rw [e1, hk q (Nat.lt_of_lt_of_le h1 hS.1) (fun x => h2 (hA1 q x))]
      exact hS.2.1 q h1 h2, fun q hq => by
      rcases List.mem_append.mp hq with h | h
      · exact hS.2.2 q h
      · exact hA1 _ (hL q h)⟩
  obtain ⟨t2, a1, b1⟩ := kk ad T'.heap (locs ++ L) hB (by rw [e1]; exact hP) ⟨hD.1, fun k q hq => hA1 _ (hD.2 k q hq)⟩ hS1 T' rfl X'
  exact ⟨t2, sts t2 a1, b1⟩
theorem vs_A1 {A : Nat → Prop} {N : Nat} {ad : Nat → Nat} {C : Nat → va_E} {H0 H : Heap} {locs : List Loc} (hD : va_D A (vs_l N ad C)) (hS : va_S A H0 H locs) (hA : ∀ q, H0.size ≤ q → A q) : ∀ q, va_A (vs_l N ad C) H.size q → A q := by
  rintro q (⟨k, x, hk⟩ | hq)
  · exact hD.2 k _ hk
  · exact hA q (Nat.le_trans hS.1 hq)
