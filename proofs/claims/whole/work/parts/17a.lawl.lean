/-! ===== the law's loop ===== -/
abbrev lz_B : Type := Nat × Nat × (Nat → Int32) × ww_G × Nat × Nat
def lz_Cx (E : ww_E) (B : lz_B) : Prop := lw_At E.1 E.2.2.2.1 E.2.2.2.2.1 E.2.2.2.2.2.2.2.1 E.2.2.2.2.2.2.2.2 B.1 B.2.1 B.2.2.1 ∧ va_K B.2.2.2.1.1 vwCl (ww_ty B.2.2.2.1) E.2.2.2.1 ∧ ww_J B.2.2.2.1 ∧ ww_NW E.2.2.2.1 ∧ ((∀ n : ww_N, ww_in n → E.2.2.2.1.heap.size ≤ B.2.2.2.1.2.1 n) ∧ B.2.2.2.2.1 ≤ 600000 ∧ B.2.2.2.2.2 ≤ 7302250) ∧ B.2.1 ≤ 2048
def lz_W (E : ww_E) (B : lz_B) (pc : Nat) (st : List Value) (i : Int32) (τ : ww_M) : Prop :=
  ∀ (H : Heap) (locs : List Loc) (ls : Array Slot), ww_P B.2.2.2.1 τ H → va_S (fun q : Nat => E.2.2.2.1.heap.size ≤ q) E.2.2.2.1.heap H locs → lv_has ls 4 [(0, .ref B.1), (1, .ref (B.2.2.2.1.2.1 (0, 0))), (2, .ref (B.2.2.2.1.2.1 (30, 0))), (3, .int i)] →
    W E.1 E.2.1 E.2.2.1 room_1 E.2.2.2.1 E.2.2.2.2.1 #[Value.ref B.1] E.2.2.2.2.2.2.1 E.2.2.2.2.2.2.2.1 E.2.2.2.2.2.2.2.2 H locs B.2.2.2.2.1 B.2.2.2.2.2 (lw_Z E.2.2.2.2.2.2.1 #[Value.ref B.1] E.2.2.2.1) (F0 E.2.2.2.2.1 pc ls st)
def lz_N (E : ww_E) (B : lz_B) (i0 : Nat) : Prop := ∀ (s : zS) (R : Nat → List Nat) (τ : ww_M), zC s R τ → zM s τ → lz_W E B 1103 [] (nI i0) τ
section LZ
variable {E : ww_E} {B : lz_B} {τ : ww_M} {i : Int32} {i0 : Nat} {st : List Value}
theorem lz_a1 {pc pc2 : Nat} (Cx : lz_Cx E B) (hd : decode cL_law pc = .ok (.aload_n 1, 1)) (hp : pc + 1 = pc2) (k : lz_W E B pc2 (.ref (B.2.2.2.1.2.1 (0, 0)) :: st) i τ) : lz_W E B pc st i τ := by
  subst hp
  intro H locs ls hP hS hl
  exact lv_aload_n Cx.1.1 Cx.1.2.1 hd rfl (lv_at hl 1 rfl) (k H locs ls hP hS hl)
theorem lz_a2 {pc pc2 : Nat} (Cx : lz_Cx E B) (hd : decode cL_law pc = .ok (.aload_n 2, 1)) (hp : pc + 1 = pc2) (k : lz_W E B pc2 (.ref (B.2.2.2.1.2.1 (30, 0)) :: st) i τ) : lz_W E B pc st i τ := by
  subst hp
  intro H locs ls hP hS hl
  exact lv_aload_n Cx.1.1 Cx.1.2.1 hd rfl (lv_at hl 2 rfl) (k H locs ls hP hS hl)
theorem lz_arg {pc k : Nat} (Cx : lz_Cx E B) (hi : i0 + 4 ≤ B.2.1) (hk : k < 4) (h0 : decode cL_law pc = .ok (.aload_n 0, 1)) (h1 : decode cL_law (pc + 1) = .ok (.iload_n 3, 1)) (h2 : decode cL_law (pc + 2) = .ok (.iconst k, 1)) (h3 : decode cL_law (pc + 3) = .ok (.iadd, 1)) (h4 : decode cL_law (pc + 4) = .ok (.iaload, 1)) (kk : lz_W E B (pc + 5) (.int (B.2.2.1 (i0 + k)) :: st) (nI i0) τ) : lz_W E B pc st (nI i0) τ := by
  intro H locs ls hP hS hl
  have h2048 := Cx.2.2.2.2.2
  have hbA : ¬ E.2.2.2.1.heap.size ≤ B.1 := Nat.not_le.mpr Cx.1.2.2.2.2.2.2.2.1
  refine lv_aload_n Cx.1.1 Cx.1.2.1 h0 rfl (lv_at hl 0 rfl) ?_
  refine lv_iload_n Cx.1.1 Cx.1.2.1 h1 rfl (lv_at hl 3 rfl) ?_
  refine lv_iconst (v := nI k) Cx.1.1 Cx.1.2.1 h2 (by rw [zofi]) ?_
  refine lv_iadd Cx.1.1 Cx.1.2.1 h3 ?_
  rw [zadd]
  have hvp : vp_in (nI (i0 + k)) B.2.1 := vp_in_nI (by omega) (by omega)
  have kk' := kk H locs ls hP hS hl
  rw [show B.2.2.1 (i0 + k) = B.2.2.1 (nI (i0 + k)).toNatClampNeg by rw [nI_clamp (by omega)]] at kk'
  exact va_sld (A := fun q : Nat => E.2.2.2.1.heap.size ≤ q) Cx.1.1 Cx.1.2.1 Cx.1.2.2.2.2.2.2.1 Cx.1.2.2.2.2.2.2.2.1 hbA hS hvp h4 kk'
theorem lz_call {Q' : Option ww_V → ww_M → Prop} {n : ww_N} {ci : Nat} {fs : List (Option ww_N)} {T : u_T} {N idx pc : Nat} {d' : ww_D} (as : List ww_V) {stk : List Value} (Cx : lz_Cx E B) (hstk : stk = (as.map (ww_v B.2.2.2.1)).reverse ++ .ref (B.2.2.2.1.2.1 n) :: st) (hd : decode cL_law pc = .ok (.invokevirtual idx, 3)) (hB : Cond.initialized d'.1.cls ∈ ww_ws ∧ Cond.code d'.1 d'.2.1 d'.2.2.1 d'.2.2.2.1 ∈ ww_ws ∧ (d'.1.cls ≠ "java/lang/invoke/MethodHandle" ∧ d'.1.cls ≠ "java/lang/invoke/VarHandle" ∧ (parseMethodDescriptor d'.1.desc).map (fun d => d.parameters.length) = some as.length) ∧ d'.2.2.2.2.1 + 1 ≤ 10 ∧ 8 + (d'.2.2.1 + 11) + d'.2.2.2.2.2 ≤ 382) (hl : Cond.methodLink RL idx d'.1 ∈ ww_ws) (h1 : Cond.instanceMethod d'.1 ∈ ww_ws) (h2 : Cond.selects d'.1.cls d'.1 d'.1 ∈ ww_ws) (hn : ww_in n) (hs : ww_sh n = .inl (ci, fs)) (hc : vwCl[ci]? = some (d'.1.cls, T, N)) (hrm : ((st).map fun v => v.category).sum ≤ 8)
    (hT : ww_T E.2.1 B.2.2.2.1 d' (.inr (.inr n) :: as) τ Q') (kk : ∀ (r : Option ww_V) (τ' : ww_M), Q' r τ' → lz_W E B (pc + 3) ((r.map (ww_v B.2.2.2.1)).toList ++ st) i τ') : lz_W E B pc stk i τ := by
  intro H locs ls hP hS hll
  have hK := Cx.2.1
  have hts : ∀ w ∈ ww_ws, w.before #[Value.ref B.1] E.2.2.2.1 = true := fun w hw => Cx.1.2.2.2.2.2.1 w (List.mem_filter.mp hw).1
  have hr := va_runV (l := E.2.1) (R := room_1) (e := E.2.2.1) (below := E.2.2.2.2.2.2.1) (meth := E.2.2.2.2.2.2.2.1) (cells := B.2.2.2.2.1) (slots := B.2.2.2.2.2) (locs := locs) (g := F0 E.2.2.2.2.1 pc ls stk) (H := H) (As := as.map (ww_v B.2.2.2.1)) (rest := st) (b := B.2.2.2.1.2.1 n) (C := d'.1.cls) (Ts := ww_ws) (nL := 4) (own := R_law) ⟨Cx.1.1, Cx.1.2.1, Cx.1.2.2.2.1, Cx.1.2.2.2.2.1, hts⟩ hT ⟨callB_of as.length hts (ww_good hB.2.1) rfl rfl rfl (hts _ hB.1) (hts _ hl) hB.2.2.1 ⟨hB.2.2.2.1, hB.2.2.2.2⟩, hts _ h1, hts _ h2⟩ ⟨ww_blind, va_recv hK (hP.one hn (ww_c_ob hs)) hc (q0 := 0) rfl, fun U hU hW => ⟨rfl, by rw [hU]; exact hP, va_K.moved hW.alike hK, ww_NW.warm hW Cx.2.2.2.1, Cx.2.2.1⟩⟩ rfl (by rw [List.length_map]) hll.1 hstk (lv_room hrm) hd ⟨by show B.2.2.2.2.1 + 0 ≤ 600000; have := Cx.2.2.2.2.1.2.1; omega, by show B.2.2.2.2.2 + 0 ≤ 7302250; have := Cx.2.2.2.2.1.2.2; omega⟩
  intro T hT X
  obtain ⟨v, st₀, t, T', L, h0, X', hL, e1, e2, ⟨⟨r, τ', hv, hp, hb⟩, hz, hk⟩, sts⟩ := hr T hT X
  have hv' : v = r.map (ww_v B.2.2.2.1) := Outcome.returned.inj hv
  rw [h0] at hz hk
  have hS1 : va_S (fun q : Nat => E.2.2.2.1.heap.size ≤ q) E.2.2.2.1.heap T'.heap (locs ++ L) := ⟨Nat.le_trans hS.1 (by rw [e1]; exact hz), fun q h1 h2 => by
      rw [e1, hk q (Nat.lt_of_lt_of_le h1 hS.1) (fun ⟨n', hn', e'⟩ => h2 (by rw [e']; exact Cx.2.2.2.2.1.1 n' hn'))]
      exact hS.2.1 q h1 h2, fun q hq => by
      rcases List.mem_append.mp hq with h | h
      · exact hS.2.2 q h
      · obtain ⟨n', hn', e'⟩ := hL q h
        show E.2.2.2.1.heap.size ≤ q.base
        rw [e']; exact Cx.2.2.2.2.1.1 n' hn'⟩
  obtain ⟨t2, a1, b1⟩ := kk r τ' hp T'.heap (locs ++ L) ls (by rw [e1]; exact hb) hS1 hll T' rfl X'
  refine ⟨t2, sts t2 ?_, b1⟩
  show Steps _ _ _ (T'.setTop { F0 E.2.2.2.2.1 pc ls stk with pc := pc + 3, stack := v.toList ++ st }) t2
  rw [hv']
  exact a1
theorem lz_callI {Post : Int32 → ww_M → Prop} {n : ww_N} {ci : Nat} {fs : List (Option ww_N)} {T : u_T} {N idx pc : Nat} {d' : ww_D} (as : List ww_V) {stk : List Value} (Cx : lz_Cx E B) (hstk : stk = (as.map (ww_v B.2.2.2.1)).reverse ++ .ref (B.2.2.2.1.2.1 n) :: st) (hd : decode cL_law pc = .ok (.invokevirtual idx, 3)) (hB : Cond.initialized d'.1.cls ∈ ww_ws ∧ Cond.code d'.1 d'.2.1 d'.2.2.1 d'.2.2.2.1 ∈ ww_ws ∧ (d'.1.cls ≠ "java/lang/invoke/MethodHandle" ∧ d'.1.cls ≠ "java/lang/invoke/VarHandle" ∧ (parseMethodDescriptor d'.1.desc).map (fun d => d.parameters.length) = some as.length) ∧ d'.2.2.2.2.1 + 1 ≤ 10 ∧ 8 + (d'.2.2.1 + 11) + d'.2.2.2.2.2 ≤ 382) (hl : Cond.methodLink RL idx d'.1 ∈ ww_ws) (h1 : Cond.instanceMethod d'.1 ∈ ww_ws) (h2 : Cond.selects d'.1.cls d'.1 d'.1 ∈ ww_ws) (hn : ww_in n) (hs : ww_sh n = .inl (ci, fs)) (hc : vwCl[ci]? = some (d'.1.cls, T, N)) (hrm : ((st).map fun v => v.category).sum ≤ 8)
    (hT : ww_T E.2.1 B.2.2.2.1 d' (.inr (.inr n) :: as) τ (ww_QI Post)) (kk : ∀ (v : Int32) (τ' : ww_M), Post v τ' → lz_W E B (pc + 3) (.int v :: st) i τ') : lz_W E B pc stk i τ :=
  lz_call as Cx hstk hd hB hl h1 h2 hn hs hc hrm hT (fun r τ' hq => by obtain ⟨v, rfl, hq⟩ := hq; exact kk v τ' hq)
theorem lz_callL {Post : Int64 → ww_M → Prop} {n : ww_N} {ci : Nat} {fs : List (Option ww_N)} {T : u_T} {N idx pc : Nat} {d' : ww_D} (as : List ww_V) {stk : List Value} (Cx : lz_Cx E B) (hstk : stk = (as.map (ww_v B.2.2.2.1)).reverse ++ .ref (B.2.2.2.1.2.1 n) :: st) (hd : decode cL_law pc = .ok (.invokevirtual idx, 3)) (hB : Cond.initialized d'.1.cls ∈ ww_ws ∧ Cond.code d'.1 d'.2.1 d'.2.2.1 d'.2.2.2.1 ∈ ww_ws ∧ (d'.1.cls ≠ "java/lang/invoke/MethodHandle" ∧ d'.1.cls ≠ "java/lang/invoke/VarHandle" ∧ (parseMethodDescriptor d'.1.desc).map (fun d => d.parameters.length) = some as.length) ∧ d'.2.2.2.2.1 + 1 ≤ 10 ∧ 8 + (d'.2.2.1 + 11) + d'.2.2.2.2.2 ≤ 382) (hl : Cond.methodLink RL idx d'.1 ∈ ww_ws) (h1 : Cond.instanceMethod d'.1 ∈ ww_ws) (h2 : Cond.selects d'.1.cls d'.1 d'.1 ∈ ww_ws) (hn : ww_in n) (hs : ww_sh n = .inl (ci, fs)) (hc : vwCl[ci]? = some (d'.1.cls, T, N)) (hrm : ((st).map fun v => v.category).sum ≤ 8)
    (hT : ww_T E.2.1 B.2.2.2.1 d' (.inr (.inr n) :: as) τ (ww_QL Post)) (kk : ∀ (v : Int64) (τ' : ww_M), Post v τ' → lz_W E B (pc + 3) (.long v :: st) i τ') : lz_W E B pc stk i τ :=
  lz_call as Cx hstk hd hB hl h1 h2 hn hs hc hrm hT (fun r τ' hq => by obtain ⟨v, rfl, hq⟩ := hq; exact kk v τ' hq)
theorem lz_icmp {pc : Nat} {v : Int32} {off : Int} (Cx : lz_Cx E B) (hd : decode cL_law pc = .ok (.if_icmp .eq off, 3)) (ht : (pc : Int) + off = (1103 : Nat)) (k : lz_W E B 1103 st i τ) : lz_W E B pc (.int v :: .int v :: st) i τ := by
  intro H locs ls hP hS hl
  exact lv_icmp_eq Cx.1.1 Cx.1.2.1 hd ht (fun _ => k H locs ls hP hS hl) (fun c => absurd rfl c)
theorem lz_lcmp {pc : Nat} {v : Int64} {off : Int} (Cx : lz_Cx E B) (hd : decode cL_law pc = .ok (.lcmp, 1)) (hd2 : decode cL_law (pc + 1) = .ok (.ifCond .eq off, 3)) (ht : ((pc + 1 : Nat) : Int) + off = (1103 : Nat)) (k : lz_W E B 1103 st i τ) : lz_W E B pc (.long v :: .long v :: st) i τ := by
  intro H locs ls hP hS hl
  refine W.lcmp Cx.1.1 Cx.1.2.1 hd ?_
  exact lv_if_eq Cx.1.1 Cx.1.2.1 hd2 ht (fun _ => k H locs ls hP hS hl) (fun c => absurd ((lg_cmp_eq v v).mpr rfl) c)
theorem lz_next (Cx : lz_Cx E B) (ih : ∀ (s : zS) (R : Nat → List Nat) (τ : ww_M), i0 + 4 ≤ B.2.1 → zC s R τ → zM s τ → lz_W E B 18 [] (nI (i0 + 4)) τ) (hi : i0 + 4 ≤ B.2.1) : lz_N E B i0 := by
  intro s R τ hC hM H locs ls hP hS hl
  refine lv_iinc (v := nI (i0 + 4)) (lv' := [(3, .int (nI (i0 + 4))), (0, .ref B.1), (1, .ref (B.2.2.2.1.2.1 (0, 0))), (2, .ref (B.2.2.2.1.2.1 (30, 0)))]) Cx.1.1 Cx.1.2.1 dL_law_1103 hl (k := 3) rfl (by rw [← zadd]; rfl) (by decide) rfl (fun ls hl => ?_)
  refine lv_goto (tgt := 18) Cx.1.1 Cx.1.2.1 dL_law_1106 (by decide) ?_
  exact ih s R τ hi hC hM H locs ls hP hS (lv_sub hl [1, 2, 3, 0] rfl)
theorem lz_head (Cx : lz_Cx E B) (h1 : i0 ≤ B.2.1) (k : i0 + 4 ≤ B.2.1 → lz_W E B 26 [] (nI i0) τ) : lz_W E B 18 [] (nI i0) τ := by
  have h2048 := Cx.2.2.2.2.2
  have hbA : ¬ E.2.2.2.1.heap.size ≤ B.1 := Nat.not_le.mpr Cx.1.2.2.2.2.2.2.2.1
  intro H locs ls hP hS hl
  refine lv_iload_n Cx.1.1 Cx.1.2.1 dL_law_18 rfl (lv_at hl 3 rfl) ?_
  refine lv_aload_n Cx.1.1 Cx.1.2.1 dL_law_19 rfl (lv_at hl 0 rfl) ?_
  refine va_slen (A := fun q : Nat => E.2.2.2.1.heap.size ≤ q) Cx.1.1 Cx.1.2.1 Cx.1.2.2.2.2.2.2.1 Cx.1.2.2.2.2.2.2.2.1 hbA hS dL_law_20 ?_
  refine lv_iconst (v := nI 4) Cx.1.1 Cx.1.2.1 dL_law_21 (by decide) ?_
  refine lv_isub Cx.1.1 Cx.1.2.1 dL_law_22 ?_
  have hcmp : (Int32.ofNat B.2.1 - nI 4 < nI i0) = (B.2.1 < i0 + 4) := by
    apply propext
    rw [Int32.lt_iff_toInt_lt, show Int32.ofNat B.2.1 = nI B.2.1 from rfl, pk_sub_toInt (by omega) (by omega), nI_toInt (by omega)]
    omega
  refine lv_icmp_gt (tgt := 1109) Cx.1.1 Cx.1.2.1 dL_law_23 (by decide) (fun c => ?_) (fun c => ?_)
  · refine lv_iconst (v := 1) Cx.1.1 Cx.1.2.1 dL_law_1109 (by decide) ?_
    refine va_forget (fun q hq => hS.2.2 q hq) ?_
    refine W.widen (k := 600000) (n := 7302250) Cx.2.2.2.2.1.2.1 Cx.2.2.2.2.1.2.2 ?_
    exact lw_ret Cx.1.1 Cx.1.2.1 Cx.1.2.2.1 Cx.1.2.2.2.2.2.2.2.2.1 dL_law_1110
  · rw [hcmp] at c
    exact k (by omega) H locs ls hP hS hl
theorem lz_sw (Cx : lz_Cx E B) (hi : i0 + 4 ≤ B.2.1) (tl : List Nat) (td : Nat) (htl : tl = [176, 199, 212, 225, 248, 271, 304, 337, 360, 393, 416, 439, 472, 505, 548, 581, 624, 657, 700, 733, 756, 779, 802, 845, 868, 901, 924, 957, 980, 1023, 1066, 1089]) (k : ∀ q ∈ tl, lz_W E B q [] (nI i0) τ) (kd : lz_W E B 1103 [] (nI i0) τ) : lz_W E B 26 [] (nI i0) τ := by
  have h2048 := Cx.2.2.2.2.2
  have hbA : ¬ E.2.2.2.1.heap.size ≤ B.1 := Nat.not_le.mpr Cx.1.2.2.2.2.2.2.2.1
  intro H locs ls hP hS hl
  refine lv_aload_n Cx.1.1 Cx.1.2.1 dL_law_26 rfl (lv_at hl 0 rfl) ?_
  refine lv_iload_n Cx.1.1 Cx.1.2.1 dL_law_27 rfl (lv_at hl 3 rfl) ?_
  have hvp : vp_in (nI i0) B.2.1 := vp_in_nI (by omega) (by omega)
  refine va_sld (A := fun q : Nat => E.2.2.2.1.heap.size ≤ q) Cx.1.1 Cx.1.2.1 Cx.1.2.2.2.2.2.2.1 Cx.1.2.2.2.2.2.2.2.1 hbA hS hvp dL_law_28 ?_
  refine lv_bipush (v := nI 31) Cx.1.1 Cx.1.2.1 dL_law_29 (by decide) ?_
  refine lv_iand Cx.1.1 Cx.1.2.1 dL_law_31 ?_
  obtain ⟨j, hj, ej⟩ := pk_andE (B.2.2.1 (nI i0).toNatClampNeg) (m := nI 31) 5 (by decide)
  have hj : j < 32 := hj
  rw [ej]
  have hjt : (nI j).toInt = (j : Int) := nI_toInt (by omega)
  have key : ∀ j, j < 32 → ∃ (o : Int) (q : Nat), (#[144, 167, 180, 193, 216, 239, 272, 305, 328, 361, 384, 407, 440, 473, 516, 549, 592, 625, 668, 701, 724, 747, 770, 813, 836, 869, 892, 925, 948, 991, 1034, 1057] : Array Int)[j]? = some o ∧ [176, 199, 212, 225, 248, 271, 304, 337, 360, 393, 416, 439, 472, 505, 548, 581, 624, 657, 700, 733, 756, 779, 802, 845, 868, 901, 924, 957, 980, 1023, 1066, 1089][j]? = some q ∧ ((32 : Nat) : Int) + o = (q : Int) := by
    intro j hj
    have hd : ∀ j, j < 32 → ((32 : Nat) : Int) + ((#[144, 167, 180, 193, 216, 239, 272, 305, 328, 361, 384, 407, 440, 473, 516, 549, 592, 625, 668, 701, 724, 747, 770, 813, 836, 869, 892, 925, 948, 991, 1034, 1057] : Array Int)[j]?.getD 0) = (([176, 199, 212, 225, 248, 271, 304, 337, 360, 393, 416, 439, 472, 505, 548, 581, 624, 657, 700, 733, 756, 779, 802, 845, 868, 901, 924, 957, 980, 1023, 1066, 1089][j]?.getD 0 : Nat) : Int) := by decide
    have h1 := hd j hj
    have e1 : (#[144, 167, 180, 193, 216, 239, 272, 305, 328, 361, 384, 407, 440, 473, 516, 549, 592, 625, 668, 701, 724, 747, 770, 813, 836, 869, 892, 925, 948, 991, 1034, 1057] : Array Int)[j]? = some _ := Array.getElem?_eq_getElem (by simpa using hj)
    have e2 : ([176, 199, 212, 225, 248, 271, 304, 337, 360, 393, 416, 439, 472, 505, 548, 581, 624, 657, 700, 733, 756, 779, 802, 845, 868, 901, 924, 957, 980, 1023, 1066, 1089] : List Nat)[j]? = some _ := List.getElem?_eq_getElem (by simpa using hj)
    rw [e1, e2] at h1
    exact ⟨_, _, e1, e2, h1⟩
  obtain ⟨o, q, e1, e2, e3⟩ := key j hj
  refine lv_tableIn (tgt := q) Cx.1.1 Cx.1.2.1 dL_law_32 (by rw [hjt]; omega) (by rw [hjt]; omega) (by rw [hjt, show ((j : Int) - 0).toNat = j by omega]; exact e1) e3 ?_
  exact k q (by rw [htl]; exact List.mem_of_getElem? e2) H locs ls hP hS hl
end LZ
theorem wl_L_13 : Cond.methodLink RL 13 yX5_type ∈ ww_ws := ww_t1 227 rfl rfl
theorem wl_L_17 : Cond.methodLink RL 17 yX6_type ∈ ww_ws := ww_t5 52 rfl rfl
theorem wl_L_18 : Cond.methodLink RL 18 yX5_clear ∈ ww_ws := ww_t1 239 rfl rfl
theorem wl_L_22 : Cond.methodLink RL 22 yX6_clear ∈ ww_ws := ww_t5 57 rfl rfl
theorem wl_L_23 : Cond.methodLink RL 23 yX5_relators ∈ ww_ws := ww_t2 3 rfl rfl
theorem wl_L_26 : Cond.methodLink RL 26 yX6_relators ∈ ww_ws := ww_t5 61 rfl rfl
theorem wl_L_27 : Cond.methodLink RL 27 yX5_words ∈ ww_ws := ww_t2 155 rfl rfl
theorem wl_L_30 : Cond.methodLink RL 30 yX6_words ∈ ww_ws := ww_t5 118 rfl rfl
theorem wl_L_31 : Cond.methodLink RL 31 yX5_chooser ∈ ww_ws := ww_t2 163 rfl rfl
theorem wl_L_34 : Cond.methodLink RL 34 yX6_chooser ∈ ww_ws := ww_t4 112 rfl rfl
theorem wl_L_35 : Cond.methodLink RL 35 yX5_relator ∈ ww_ws := ww_t2 167 rfl rfl
theorem wl_L_39 : Cond.methodLink RL 39 yX6_relator ∈ ww_ws := ww_t4 40 rfl rfl
theorem wl_L_40 : Cond.methodLink RL 40 yX5_member ∈ ww_ws := ww_t2 171 rfl rfl
theorem wl_L_43 : Cond.methodLink RL 43 yX6_member ∈ ww_ws := ww_t4 79 rfl rfl
theorem wl_L_44 : Cond.methodLink RL 44 yX5_good ∈ ww_ws := ww_t2 184 rfl rfl
theorem wl_L_47 : Cond.methodLink RL 47 yX6_good ∈ ww_ws := ww_t4 87 rfl rfl
theorem wl_L_48 : Cond.methodLink RL 48 yX5_alike ∈ ww_ws := ww_t2 192 rfl rfl
theorem wl_L_51 : Cond.methodLink RL 51 yX6_alike ∈ ww_ws := ww_t4 96 rfl rfl
theorem wl_L_52 : Cond.methodLink RL 52 yX5_rank ∈ ww_ws := ww_t2 197 rfl rfl
theorem wl_L_55 : Cond.methodLink RL 55 yX6_rank ∈ ww_ws := ww_t4 100 rfl rfl
theorem wl_L_56 : Cond.methodLink RL 56 yX5_length ∈ ww_ws := ww_t2 220 rfl rfl
theorem wl_L_59 : Cond.methodLink RL 59 yX6_length ∈ ww_ws := ww_t4 117 rfl rfl
theorem wl_L_60 : Cond.methodLink RL 60 yX5_letter ∈ ww_ws := ww_t2 224 rfl rfl
theorem wl_L_63 : Cond.methodLink RL 63 yX6_letter ∈ ww_ws := ww_t4 125 rfl rfl
theorem wl_L_64 : Cond.methodLink RL 64 yX5_adds ∈ ww_ws := ww_t2 229 rfl rfl
theorem wl_L_67 : Cond.methodLink RL 67 yX6_adds ∈ ww_ws := ww_t4 129 rfl rfl
theorem wl_L_68 : Cond.methodLink RL 68 yX5_times ∈ ww_ws := ww_t2 238 rfl rfl
theorem wl_L_72 : Cond.methodLink RL 72 yX6_times ∈ ww_ws := ww_t4 161 rfl rfl
theorem wl_L_73 : Cond.methodLink RL 73 yX5_inverse ∈ ww_ws := ww_t3 6 rfl rfl
theorem wl_L_76 : Cond.methodLink RL 76 yX6_inverse ∈ ww_ws := ww_t4 165 rfl rfl
theorem wl_L_77 : Cond.methodLink RL 77 yX5_power ∈ ww_ws := ww_t3 12 rfl rfl
theorem wl_L_80 : Cond.methodLink RL 80 yX6_power ∈ ww_ws := ww_t4 173 rfl rfl
theorem wl_L_81 : Cond.methodLink RL 81 yX5_ring ∈ ww_ws := ww_t3 24 rfl rfl
theorem wl_L_84 : Cond.methodLink RL 84 yX6_ring ∈ ww_ws := ww_t4 178 rfl rfl
theorem wl_L_85 : Cond.methodLink RL 85 yX5_turn ∈ ww_ws := ww_t3 29 rfl rfl
theorem wl_L_88 : Cond.methodLink RL 88 yX6_turn ∈ ww_ws := ww_t4 186 rfl rfl
theorem wl_L_89 : Cond.methodLink RL 89 yX5_sum ∈ ww_ws := ww_t3 34 rfl rfl
theorem wl_L_92 : Cond.methodLink RL 92 yX6_sum ∈ ww_ws := ww_t4 195 rfl rfl
theorem wl_L_93 : Cond.methodLink RL 93 yX5_cuts ∈ ww_ws := ww_t3 39 rfl rfl
theorem wl_L_96 : Cond.methodLink RL 96 yX6_cuts ∈ ww_ws := ww_t4 200 rfl rfl
theorem wl_L_97 : Cond.methodLink RL 97 yX5_cut ∈ ww_ws := ww_t3 67 rfl rfl
theorem wl_L_100 : Cond.methodLink RL 100 yX6_cut ∈ ww_ws := ww_t4 219 rfl rfl
theorem wl_L_101 : Cond.methodLink RL 101 yX5_shorten ∈ ww_ws := ww_t3 81 rfl rfl
theorem wl_L_104 : Cond.methodLink RL 104 yX6_shorten ∈ ww_ws := ww_t4 227 rfl rfl
theorem wl_L_105 : Cond.methodLink RL 105 yX5_trail ∈ ww_ws := ww_t3 91 rfl rfl
theorem wl_L_108 : Cond.methodLink RL 108 yX6_trail ∈ ww_ws := ww_t4 236 rfl rfl
theorem wl_L_109 : Cond.methodLink RL 109 yX5_nothing ∈ ww_ws := ww_t3 99 rfl rfl
theorem wl_L_112 : Cond.methodLink RL 112 yX6_nothing ∈ ww_ws := ww_t5 0 rfl rfl
theorem wl_L_113 : Cond.methodLink RL 113 yX5_same ∈ ww_ws := ww_t3 103 rfl rfl
theorem wl_L_116 : Cond.methodLink RL 116 yX6_same ∈ ww_ws := ww_t5 8 rfl rfl
theorem wl_L_117 : Cond.methodLink RL 117 yX5_order ∈ ww_ws := ww_t3 107 rfl rfl
theorem wl_L_120 : Cond.methodLink RL 120 yX6_order ∈ ww_ws := ww_t5 12 rfl rfl
theorem wl_L_121 : Cond.methodLink RL 121 yX5_turned ∈ ww_ws := ww_t3 111 rfl rfl
theorem wl_L_124 : Cond.methodLink RL 124 yX6_turned ∈ ww_ws := ww_t5 16 rfl rfl
theorem wl_L_125 : Cond.methodLink RL 125 yX5_nothings ∈ ww_ws := ww_t3 130 rfl rfl
theorem wl_L_128 : Cond.methodLink RL 128 yX6_nothings ∈ ww_ws := ww_t5 28 rfl rfl
theorem wl_L_129 : Cond.methodLink RL 129 yX5_draw ∈ ww_ws := ww_t3 134 rfl rfl
theorem wl_L_132 : Cond.methodLink RL 132 yX6_draw ∈ ww_ws := ww_t5 32 rfl rfl
theorem wl_L_133 : Cond.methodLink RL 133 yX5_loops ∈ ww_ws := ww_t3 147 rfl rfl
theorem wl_L_136 : Cond.methodLink RL 136 yX6_loops ∈ ww_ws := ww_t5 46 rfl rfl
theorem wl_L_137 : Cond.methodLink RL 137 yX5_told ∈ ww_ws := ww_t3 156 rfl rfl
theorem wl_L_140 : Cond.methodLink RL 140 yX6_told ∈ ww_ws := ww_t5 122 rfl rfl
theorem wl_L_141 : Cond.methodLink RL 141 yX5_digest ∈ ww_ws := ww_t3 168 rfl rfl
theorem wl_L_145 : Cond.methodLink RL 145 yX6_digest ∈ ww_ws := ww_t5 134 rfl rfl
section ARMS
variable {E : ww_E} {B : lz_B} {τ : ww_M} {s : zS} {R : Nat → List Nat} {i0 : Nat}
theorem arm_0 (Cx : lz_Cx E B) (hi : i0 + 4 ≤ B.2.1) (hC : zC s R τ) (hM : zM s τ) (nx : lz_N E B i0) : lz_W E B 176 [] (nI i0) τ := by
  have h2048 := Cx.2.2.2.2.2
  refine lz_a1 (pc2 := 177) Cx dL_law_176 rfl ?_
  refine lz_arg (pc := 177) (k := 1) Cx hi (by omega) dL_law_177 dL_law_178 dL_law_179 dL_law_180 dL_law_181 ?_
  refine lz_callI (n := (0, 0)) (d' := mX5_type) (idx := 13) (pc := 182) [.inl (B.2.2.1 (i0 + 1))] Cx rfl dL_law_182 ⟨wi_X5, wc_X5_type, wp_X5_type, by decide, by decide⟩ wl_L_13 wn_X5_type we_X5_type (ww_i1 0 (by decide)) rfl rfl (Nat.le_of_ble_eq_true rfl) (cw_type hC (B.2.2.1 (i0 + 1))) (fun v τ1 hq => ?_)
  obtain ⟨rfl, ⟨R1, hC1⟩, hh1⟩ := hq
  refine lz_a2 (pc2 := 186) Cx dL_law_185 rfl ?_
  refine lz_arg (pc := 186) (k := 1) Cx hi (by omega) dL_law_186 dL_law_187 dL_law_188 dL_law_189 dL_law_190 ?_
  refine lz_callI (n := (30, 0)) (d' := mX6_type) (idx := 17) (pc := 191) [.inl (B.2.2.1 (i0 + 1))] Cx rfl dL_law_191 ⟨wi_X6, wc_X6_type, wp_X6_type, by decide, by decide⟩ wl_L_17 wn_X6_type we_X6_type (ww_i1 30 (by decide)) rfl rfl (Nat.le_of_ble_eq_true rfl) (mw_type (hM.hi hh1) (B.2.2.1 (i0 + 1))) (fun v τ2 hq => ?_)
  obtain ⟨rfl, hM2, hl2⟩ := hq
  refine lz_icmp (pc := 194) Cx dL_law_194 (by decide) ?_
  exact nx _ R1 _ (hC1.low hl2) hM2
theorem arm_1 (Cx : lz_Cx E B) (hi : i0 + 4 ≤ B.2.1) (hC : zC s R τ) (hM : zM s τ) (nx : lz_N E B i0) : lz_W E B 199 [] (nI i0) τ := by
  have h2048 := Cx.2.2.2.2.2
  refine lz_a1 (pc2 := 200) Cx dL_law_199 rfl ?_
  refine lz_callI (n := (0, 0)) (d' := mX5_clear) (idx := 18) (pc := 200) [] Cx rfl dL_law_200 ⟨wi_X5, wc_X5_clear, wp_X5_clear, by decide, by decide⟩ wl_L_18 wn_X5_clear we_X5_clear (ww_i1 0 (by decide)) rfl rfl (Nat.le_of_ble_eq_true rfl) (cw_clear hC) (fun v τ1 hq => ?_)
  obtain ⟨rfl, ⟨R1, hC1⟩, hh1⟩ := hq
  refine lz_a2 (pc2 := 204) Cx dL_law_203 rfl ?_
  refine lz_callI (n := (30, 0)) (d' := mX6_clear) (idx := 22) (pc := 204) [] Cx rfl dL_law_204 ⟨wi_X6, wc_X6_clear, wp_X6_clear, by decide, by decide⟩ wl_L_22 wn_X6_clear we_X6_clear (ww_i1 30 (by decide)) rfl rfl (Nat.le_of_ble_eq_true rfl) (mw_clear (hM.hi hh1)) (fun v τ2 hq => ?_)
  obtain ⟨rfl, hM2, hl2⟩ := hq
  refine lz_icmp (pc := 207) Cx dL_law_207 (by decide) ?_
  exact nx _ R1 _ (hC1.low hl2) hM2
theorem arm_2 (Cx : lz_Cx E B) (hi : i0 + 4 ≤ B.2.1) (hC : zC s R τ) (hM : zM s τ) (nx : lz_N E B i0) : lz_W E B 212 [] (nI i0) τ := by
  have h2048 := Cx.2.2.2.2.2
  refine lz_a1 (pc2 := 213) Cx dL_law_212 rfl ?_
  refine lz_callI (n := (0, 0)) (d' := mX5_relators) (idx := 23) (pc := 213) [] Cx rfl dL_law_213 ⟨wi_X5, wc_X5_relators, wp_X5_relators, by decide, by decide⟩ wl_L_23 wn_X5_relators we_X5_relators (ww_i1 0 (by decide)) rfl rfl (Nat.le_of_ble_eq_true rfl) (cw_relators hC) (fun v τ1 hq => ?_)
  obtain ⟨rfl, ⟨R1, hC1⟩, hh1⟩ := hq
  refine lz_a2 (pc2 := 217) Cx dL_law_216 rfl ?_
  refine lz_callI (n := (30, 0)) (d' := mX6_relators) (idx := 26) (pc := 217) [] Cx rfl dL_law_217 ⟨wi_X6, wc_X6_relators, wp_X6_relators, by decide, by decide⟩ wl_L_26 wn_X6_relators we_X6_relators (ww_i1 30 (by decide)) rfl rfl (Nat.le_of_ble_eq_true rfl) (mw_relators (hM.hi hh1)) (fun v τ2 hq => ?_)
  obtain ⟨rfl, hM2, hl2⟩ := hq
  refine lz_icmp (pc := 220) Cx dL_law_220 (by decide) ?_
  exact nx _ R1 _ (hC1.low hl2) hM2
theorem arm_3 (Cx : lz_Cx E B) (hi : i0 + 4 ≤ B.2.1) (hC : zC s R τ) (hM : zM s τ) (nx : lz_N E B i0) : lz_W E B 225 [] (nI i0) τ := by
  have h2048 := Cx.2.2.2.2.2
  refine lz_a1 (pc2 := 226) Cx dL_law_225 rfl ?_
  refine lz_arg (pc := 226) (k := 1) Cx hi (by omega) dL_law_226 dL_law_227 dL_law_228 dL_law_229 dL_law_230 ?_
  refine lz_callI (n := (0, 0)) (d' := mX5_words) (idx := 27) (pc := 231) [.inl (B.2.2.1 (i0 + 1))] Cx rfl dL_law_231 ⟨wi_X5, wc_X5_words, wp_X5_words, by decide, by decide⟩ wl_L_27 wn_X5_words we_X5_words (ww_i1 0 (by decide)) rfl rfl (Nat.le_of_ble_eq_true rfl) (cw_words hC (B.2.2.1 (i0 + 1))) (fun v τ1 hq => ?_)
  obtain ⟨rfl, ⟨R1, hC1⟩, hh1⟩ := hq
  refine lz_a2 (pc2 := 235) Cx dL_law_234 rfl ?_
  refine lz_arg (pc := 235) (k := 1) Cx hi (by omega) dL_law_235 dL_law_236 dL_law_237 dL_law_238 dL_law_239 ?_
  refine lz_callI (n := (30, 0)) (d' := mX6_words) (idx := 30) (pc := 240) [.inl (B.2.2.1 (i0 + 1))] Cx rfl dL_law_240 ⟨wi_X6, wc_X6_words, wp_X6_words, by decide, by decide⟩ wl_L_30 wn_X6_words we_X6_words (ww_i1 30 (by decide)) rfl rfl (Nat.le_of_ble_eq_true rfl) (mw_words (hM.hi hh1) (B.2.2.1 (i0 + 1))) (fun v τ2 hq => ?_)
  obtain ⟨rfl, hM2, hl2⟩ := hq
  refine lz_icmp (pc := 243) Cx dL_law_243 (by decide) ?_
  exact nx _ R1 _ (hC1.low hl2) hM2
theorem arm_4 (Cx : lz_Cx E B) (hi : i0 + 4 ≤ B.2.1) (hC : zC s R τ) (hM : zM s τ) (nx : lz_N E B i0) : lz_W E B 248 [] (nI i0) τ := by
  have h2048 := Cx.2.2.2.2.2
  refine lz_a1 (pc2 := 249) Cx dL_law_248 rfl ?_
  refine lz_arg (pc := 249) (k := 1) Cx hi (by omega) dL_law_249 dL_law_250 dL_law_251 dL_law_252 dL_law_253 ?_
  refine lz_callI (n := (0, 0)) (d' := mX5_chooser) (idx := 31) (pc := 254) [.inl (B.2.2.1 (i0 + 1))] Cx rfl dL_law_254 ⟨wi_X5, wc_X5_chooser, wp_X5_chooser, by decide, by decide⟩ wl_L_31 wn_X5_chooser we_X5_chooser (ww_i1 0 (by decide)) rfl rfl (Nat.le_of_ble_eq_true rfl) (cw_chooser hC (B.2.2.1 (i0 + 1))) (fun v τ1 hq => ?_)
  obtain ⟨rfl, ⟨R1, hC1⟩, hh1⟩ := hq
  refine lz_a2 (pc2 := 258) Cx dL_law_257 rfl ?_
  refine lz_arg (pc := 258) (k := 1) Cx hi (by omega) dL_law_258 dL_law_259 dL_law_260 dL_law_261 dL_law_262 ?_
  refine lz_callI (n := (30, 0)) (d' := mX6_chooser) (idx := 34) (pc := 263) [.inl (B.2.2.1 (i0 + 1))] Cx rfl dL_law_263 ⟨wi_X6, wc_X6_chooser, wp_X6_chooser, by decide, by decide⟩ wl_L_34 wn_X6_chooser we_X6_chooser (ww_i1 30 (by decide)) rfl rfl (Nat.le_of_ble_eq_true rfl) (mw_chooser (hM.hi hh1) (B.2.2.1 (i0 + 1))) (fun v τ2 hq => ?_)
  obtain ⟨rfl, hM2, hl2⟩ := hq
  refine lz_icmp (pc := 266) Cx dL_law_266 (by decide) ?_
  exact nx _ R1 _ (hC1.low hl2) hM2
theorem arm_5 (Cx : lz_Cx E B) (hi : i0 + 4 ≤ B.2.1) (hC : zC s R τ) (hM : zM s τ) (nx : lz_N E B i0) : lz_W E B 271 [] (nI i0) τ := by
  have h2048 := Cx.2.2.2.2.2
  refine lz_a1 (pc2 := 272) Cx dL_law_271 rfl ?_
  refine lz_arg (pc := 272) (k := 1) Cx hi (by omega) dL_law_272 dL_law_273 dL_law_274 dL_law_275 dL_law_276 ?_
  refine lz_arg (pc := 277) (k := 2) Cx hi (by omega) dL_law_277 dL_law_278 dL_law_279 dL_law_280 dL_law_281 ?_
  refine lz_callI (n := (0, 0)) (d' := mX5_relator) (idx := 35) (pc := 282) [.inl (B.2.2.1 (i0 + 1)), .inl (B.2.2.1 (i0 + 2))] Cx rfl dL_law_282 ⟨wi_X5, wc_X5_relator, wp_X5_relator, by decide, by decide⟩ wl_L_35 wn_X5_relator we_X5_relator (ww_i1 0 (by decide)) rfl rfl (Nat.le_of_ble_eq_true rfl) (cw_relator hC (B.2.2.1 (i0 + 1)) (B.2.2.1 (i0 + 2))) (fun v τ1 hq => ?_)
  obtain ⟨rfl, ⟨R1, hC1⟩, hh1⟩ := hq
  refine lz_a2 (pc2 := 286) Cx dL_law_285 rfl ?_
  refine lz_arg (pc := 286) (k := 1) Cx hi (by omega) dL_law_286 dL_law_287 dL_law_288 dL_law_289 dL_law_290 ?_
  refine lz_arg (pc := 291) (k := 2) Cx hi (by omega) dL_law_291 dL_law_292 dL_law_293 dL_law_294 dL_law_295 ?_
  refine lz_callI (n := (30, 0)) (d' := mX6_relator) (idx := 39) (pc := 296) [.inl (B.2.2.1 (i0 + 1)), .inl (B.2.2.1 (i0 + 2))] Cx rfl dL_law_296 ⟨wi_X6, wc_X6_relator, wp_X6_relator, by decide, by decide⟩ wl_L_39 wn_X6_relator we_X6_relator (ww_i1 30 (by decide)) rfl rfl (Nat.le_of_ble_eq_true rfl) (mw_relator (hM.hi hh1) (B.2.2.1 (i0 + 1)) (B.2.2.1 (i0 + 2))) (fun v τ2 hq => ?_)
  obtain ⟨rfl, hM2, hl2⟩ := hq
  refine lz_icmp (pc := 299) Cx dL_law_299 (by decide) ?_
  exact nx _ R1 _ (hC1.low hl2) hM2
theorem arm_6 (Cx : lz_Cx E B) (hi : i0 + 4 ≤ B.2.1) (hC : zC s R τ) (hM : zM s τ) (nx : lz_N E B i0) : lz_W E B 304 [] (nI i0) τ := by
  have h2048 := Cx.2.2.2.2.2
  refine lz_a1 (pc2 := 305) Cx dL_law_304 rfl ?_
  refine lz_arg (pc := 305) (k := 1) Cx hi (by omega) dL_law_305 dL_law_306 dL_law_307 dL_law_308 dL_law_309 ?_
  refine lz_arg (pc := 310) (k := 2) Cx hi (by omega) dL_law_310 dL_law_311 dL_law_312 dL_law_313 dL_law_314 ?_
  refine lz_callI (n := (0, 0)) (d' := mX5_member) (idx := 40) (pc := 315) [.inl (B.2.2.1 (i0 + 1)), .inl (B.2.2.1 (i0 + 2))] Cx rfl dL_law_315 ⟨wi_X5, wc_X5_member, wp_X5_member, by decide, by decide⟩ wl_L_40 wn_X5_member we_X5_member (ww_i1 0 (by decide)) rfl rfl (Nat.le_of_ble_eq_true rfl) (cw_member hC (B.2.2.1 (i0 + 1)) (B.2.2.1 (i0 + 2))) (fun v τ1 hq => ?_)
  obtain ⟨rfl, ⟨R1, hC1⟩, hh1⟩ := hq
  refine lz_a2 (pc2 := 319) Cx dL_law_318 rfl ?_
  refine lz_arg (pc := 319) (k := 1) Cx hi (by omega) dL_law_319 dL_law_320 dL_law_321 dL_law_322 dL_law_323 ?_
  refine lz_arg (pc := 324) (k := 2) Cx hi (by omega) dL_law_324 dL_law_325 dL_law_326 dL_law_327 dL_law_328 ?_
  refine lz_callI (n := (30, 0)) (d' := mX6_member) (idx := 43) (pc := 329) [.inl (B.2.2.1 (i0 + 1)), .inl (B.2.2.1 (i0 + 2))] Cx rfl dL_law_329 ⟨wi_X6, wc_X6_member, wp_X6_member, by decide, by decide⟩ wl_L_43 wn_X6_member we_X6_member (ww_i1 30 (by decide)) rfl rfl (Nat.le_of_ble_eq_true rfl) (mw_member (hM.hi hh1) (B.2.2.1 (i0 + 1)) (B.2.2.1 (i0 + 2))) (fun v τ2 hq => ?_)
  obtain ⟨rfl, hM2, hl2⟩ := hq
  refine lz_icmp (pc := 332) Cx dL_law_332 (by decide) ?_
  exact nx _ R1 _ (hC1.low hl2) hM2
theorem arm_7 (Cx : lz_Cx E B) (hi : i0 + 4 ≤ B.2.1) (hC : zC s R τ) (hM : zM s τ) (nx : lz_N E B i0) : lz_W E B 337 [] (nI i0) τ := by
  have h2048 := Cx.2.2.2.2.2
  refine lz_a1 (pc2 := 338) Cx dL_law_337 rfl ?_
  refine lz_arg (pc := 338) (k := 1) Cx hi (by omega) dL_law_338 dL_law_339 dL_law_340 dL_law_341 dL_law_342 ?_
  refine lz_callI (n := (0, 0)) (d' := mX5_good) (idx := 44) (pc := 343) [.inl (B.2.2.1 (i0 + 1))] Cx rfl dL_law_343 ⟨wi_X5, wc_X5_good, wp_X5_good, by decide, by decide⟩ wl_L_44 wn_X5_good we_X5_good (ww_i1 0 (by decide)) rfl rfl (Nat.le_of_ble_eq_true rfl) (cw_good hC (B.2.2.1 (i0 + 1))) (fun v τ1 hq => ?_)
  obtain ⟨rfl, ⟨R1, hC1⟩, hh1⟩ := hq
  refine lz_a2 (pc2 := 347) Cx dL_law_346 rfl ?_
  refine lz_arg (pc := 347) (k := 1) Cx hi (by omega) dL_law_347 dL_law_348 dL_law_349 dL_law_350 dL_law_351 ?_
  refine lz_callI (n := (30, 0)) (d' := mX6_good) (idx := 47) (pc := 352) [.inl (B.2.2.1 (i0 + 1))] Cx rfl dL_law_352 ⟨wi_X6, wc_X6_good, wp_X6_good, by decide, by decide⟩ wl_L_47 wn_X6_good we_X6_good (ww_i1 30 (by decide)) rfl rfl (Nat.le_of_ble_eq_true rfl) (mw_good (hM.hi hh1) (B.2.2.1 (i0 + 1))) (fun v τ2 hq => ?_)
  obtain ⟨rfl, hM2, hl2⟩ := hq
  refine lz_icmp (pc := 355) Cx dL_law_355 (by decide) ?_
  exact nx _ R1 _ (hC1.low hl2) hM2
theorem arm_8 (Cx : lz_Cx E B) (hi : i0 + 4 ≤ B.2.1) (hC : zC s R τ) (hM : zM s τ) (nx : lz_N E B i0) : lz_W E B 360 [] (nI i0) τ := by
  have h2048 := Cx.2.2.2.2.2
  refine lz_a1 (pc2 := 361) Cx dL_law_360 rfl ?_
  refine lz_arg (pc := 361) (k := 1) Cx hi (by omega) dL_law_361 dL_law_362 dL_law_363 dL_law_364 dL_law_365 ?_
  refine lz_arg (pc := 366) (k := 2) Cx hi (by omega) dL_law_366 dL_law_367 dL_law_368 dL_law_369 dL_law_370 ?_
  refine lz_callI (n := (0, 0)) (d' := mX5_alike) (idx := 48) (pc := 371) [.inl (B.2.2.1 (i0 + 1)), .inl (B.2.2.1 (i0 + 2))] Cx rfl dL_law_371 ⟨wi_X5, wc_X5_alike, wp_X5_alike, by decide, by decide⟩ wl_L_48 wn_X5_alike we_X5_alike (ww_i1 0 (by decide)) rfl rfl (Nat.le_of_ble_eq_true rfl) (cw_alike hC (B.2.2.1 (i0 + 1)) (B.2.2.1 (i0 + 2))) (fun v τ1 hq => ?_)
  obtain ⟨rfl, ⟨R1, hC1⟩, hh1⟩ := hq
  refine lz_a2 (pc2 := 375) Cx dL_law_374 rfl ?_
  refine lz_arg (pc := 375) (k := 1) Cx hi (by omega) dL_law_375 dL_law_376 dL_law_377 dL_law_378 dL_law_379 ?_
  refine lz_arg (pc := 380) (k := 2) Cx hi (by omega) dL_law_380 dL_law_381 dL_law_382 dL_law_383 dL_law_384 ?_
  refine lz_callI (n := (30, 0)) (d' := mX6_alike) (idx := 51) (pc := 385) [.inl (B.2.2.1 (i0 + 1)), .inl (B.2.2.1 (i0 + 2))] Cx rfl dL_law_385 ⟨wi_X6, wc_X6_alike, wp_X6_alike, by decide, by decide⟩ wl_L_51 wn_X6_alike we_X6_alike (ww_i1 30 (by decide)) rfl rfl (Nat.le_of_ble_eq_true rfl) (mw_alike (hM.hi hh1) (B.2.2.1 (i0 + 1)) (B.2.2.1 (i0 + 2))) (fun v τ2 hq => ?_)
  obtain ⟨rfl, hM2, hl2⟩ := hq
  refine lz_icmp (pc := 388) Cx dL_law_388 (by decide) ?_
  exact nx _ R1 _ (hC1.low hl2) hM2
theorem arm_9 (Cx : lz_Cx E B) (hi : i0 + 4 ≤ B.2.1) (hC : zC s R τ) (hM : zM s τ) (nx : lz_N E B i0) : lz_W E B 393 [] (nI i0) τ := by
  have h2048 := Cx.2.2.2.2.2
  refine lz_a1 (pc2 := 394) Cx dL_law_393 rfl ?_
  refine lz_arg (pc := 394) (k := 1) Cx hi (by omega) dL_law_394 dL_law_395 dL_law_396 dL_law_397 dL_law_398 ?_
  refine lz_callI (n := (0, 0)) (d' := mX5_rank) (idx := 52) (pc := 399) [.inl (B.2.2.1 (i0 + 1))] Cx rfl dL_law_399 ⟨wi_X5, wc_X5_rank, wp_X5_rank, by decide, by decide⟩ wl_L_52 wn_X5_rank we_X5_rank (ww_i1 0 (by decide)) rfl rfl (Nat.le_of_ble_eq_true rfl) (cw_rank hC (B.2.2.1 (i0 + 1))) (fun v τ1 hq => ?_)
  obtain ⟨rfl, ⟨R1, hC1⟩, hh1⟩ := hq
  refine lz_a2 (pc2 := 403) Cx dL_law_402 rfl ?_
  refine lz_arg (pc := 403) (k := 1) Cx hi (by omega) dL_law_403 dL_law_404 dL_law_405 dL_law_406 dL_law_407 ?_
  refine lz_callI (n := (30, 0)) (d' := mX6_rank) (idx := 55) (pc := 408) [.inl (B.2.2.1 (i0 + 1))] Cx rfl dL_law_408 ⟨wi_X6, wc_X6_rank, wp_X6_rank, by decide, by decide⟩ wl_L_55 wn_X6_rank we_X6_rank (ww_i1 30 (by decide)) rfl rfl (Nat.le_of_ble_eq_true rfl) (mw_rank (hM.hi hh1) (B.2.2.1 (i0 + 1))) (fun v τ2 hq => ?_)
  obtain ⟨rfl, hM2, hl2⟩ := hq
  refine lz_icmp (pc := 411) Cx dL_law_411 (by decide) ?_
  exact nx _ R1 _ (hC1.low hl2) hM2
theorem arm_10 (Cx : lz_Cx E B) (hi : i0 + 4 ≤ B.2.1) (hC : zC s R τ) (hM : zM s τ) (nx : lz_N E B i0) : lz_W E B 416 [] (nI i0) τ := by
  have h2048 := Cx.2.2.2.2.2
  refine lz_a1 (pc2 := 417) Cx dL_law_416 rfl ?_
  refine lz_arg (pc := 417) (k := 1) Cx hi (by omega) dL_law_417 dL_law_418 dL_law_419 dL_law_420 dL_law_421 ?_
  refine lz_callI (n := (0, 0)) (d' := mX5_length) (idx := 56) (pc := 422) [.inl (B.2.2.1 (i0 + 1))] Cx rfl dL_law_422 ⟨wi_X5, wc_X5_length, wp_X5_length, by decide, by decide⟩ wl_L_56 wn_X5_length we_X5_length (ww_i1 0 (by decide)) rfl rfl (Nat.le_of_ble_eq_true rfl) (cw_length hC (B.2.2.1 (i0 + 1))) (fun v τ1 hq => ?_)
  obtain ⟨rfl, ⟨R1, hC1⟩, hh1⟩ := hq
  refine lz_a2 (pc2 := 426) Cx dL_law_425 rfl ?_
  refine lz_arg (pc := 426) (k := 1) Cx hi (by omega) dL_law_426 dL_law_427 dL_law_428 dL_law_429 dL_law_430 ?_
  refine lz_callI (n := (30, 0)) (d' := mX6_length) (idx := 59) (pc := 431) [.inl (B.2.2.1 (i0 + 1))] Cx rfl dL_law_431 ⟨wi_X6, wc_X6_length, wp_X6_length, by decide, by decide⟩ wl_L_59 wn_X6_length we_X6_length (ww_i1 30 (by decide)) rfl rfl (Nat.le_of_ble_eq_true rfl) (mw_length (hM.hi hh1) (B.2.2.1 (i0 + 1))) (fun v τ2 hq => ?_)
  obtain ⟨rfl, hM2, hl2⟩ := hq
  refine lz_icmp (pc := 434) Cx dL_law_434 (by decide) ?_
  exact nx _ R1 _ (hC1.low hl2) hM2
theorem arm_11 (Cx : lz_Cx E B) (hi : i0 + 4 ≤ B.2.1) (hC : zC s R τ) (hM : zM s τ) (nx : lz_N E B i0) : lz_W E B 439 [] (nI i0) τ := by
  have h2048 := Cx.2.2.2.2.2
  refine lz_a1 (pc2 := 440) Cx dL_law_439 rfl ?_
  refine lz_arg (pc := 440) (k := 1) Cx hi (by omega) dL_law_440 dL_law_441 dL_law_442 dL_law_443 dL_law_444 ?_
  refine lz_arg (pc := 445) (k := 2) Cx hi (by omega) dL_law_445 dL_law_446 dL_law_447 dL_law_448 dL_law_449 ?_
  refine lz_callI (n := (0, 0)) (d' := mX5_letter) (idx := 60) (pc := 450) [.inl (B.2.2.1 (i0 + 1)), .inl (B.2.2.1 (i0 + 2))] Cx rfl dL_law_450 ⟨wi_X5, wc_X5_letter, wp_X5_letter, by decide, by decide⟩ wl_L_60 wn_X5_letter we_X5_letter (ww_i1 0 (by decide)) rfl rfl (Nat.le_of_ble_eq_true rfl) (cw_letter hC (B.2.2.1 (i0 + 1)) (B.2.2.1 (i0 + 2))) (fun v τ1 hq => ?_)
  obtain ⟨rfl, ⟨R1, hC1⟩, hh1⟩ := hq
  refine lz_a2 (pc2 := 454) Cx dL_law_453 rfl ?_
  refine lz_arg (pc := 454) (k := 1) Cx hi (by omega) dL_law_454 dL_law_455 dL_law_456 dL_law_457 dL_law_458 ?_
  refine lz_arg (pc := 459) (k := 2) Cx hi (by omega) dL_law_459 dL_law_460 dL_law_461 dL_law_462 dL_law_463 ?_
  refine lz_callI (n := (30, 0)) (d' := mX6_letter) (idx := 63) (pc := 464) [.inl (B.2.2.1 (i0 + 1)), .inl (B.2.2.1 (i0 + 2))] Cx rfl dL_law_464 ⟨wi_X6, wc_X6_letter, wp_X6_letter, by decide, by decide⟩ wl_L_63 wn_X6_letter we_X6_letter (ww_i1 30 (by decide)) rfl rfl (Nat.le_of_ble_eq_true rfl) (mw_letter (hM.hi hh1) (B.2.2.1 (i0 + 1)) (B.2.2.1 (i0 + 2))) (fun v τ2 hq => ?_)
  obtain ⟨rfl, hM2, hl2⟩ := hq
  refine lz_icmp (pc := 467) Cx dL_law_467 (by decide) ?_
  exact nx _ R1 _ (hC1.low hl2) hM2
theorem arm_12 (Cx : lz_Cx E B) (hi : i0 + 4 ≤ B.2.1) (hC : zC s R τ) (hM : zM s τ) (nx : lz_N E B i0) : lz_W E B 472 [] (nI i0) τ := by
  have h2048 := Cx.2.2.2.2.2
  refine lz_a1 (pc2 := 473) Cx dL_law_472 rfl ?_
  refine lz_arg (pc := 473) (k := 1) Cx hi (by omega) dL_law_473 dL_law_474 dL_law_475 dL_law_476 dL_law_477 ?_
  refine lz_arg (pc := 478) (k := 2) Cx hi (by omega) dL_law_478 dL_law_479 dL_law_480 dL_law_481 dL_law_482 ?_
  refine lz_callI (n := (0, 0)) (d' := mX5_adds) (idx := 64) (pc := 483) [.inl (B.2.2.1 (i0 + 1)), .inl (B.2.2.1 (i0 + 2))] Cx rfl dL_law_483 ⟨wi_X5, wc_X5_adds, wp_X5_adds, by decide, by decide⟩ wl_L_64 wn_X5_adds we_X5_adds (ww_i1 0 (by decide)) rfl rfl (Nat.le_of_ble_eq_true rfl) (cw_adds hC (B.2.2.1 (i0 + 1)) (B.2.2.1 (i0 + 2))) (fun v τ1 hq => ?_)
  obtain ⟨rfl, ⟨R1, hC1⟩, hh1⟩ := hq
  refine lz_a2 (pc2 := 487) Cx dL_law_486 rfl ?_
  refine lz_arg (pc := 487) (k := 1) Cx hi (by omega) dL_law_487 dL_law_488 dL_law_489 dL_law_490 dL_law_491 ?_
  refine lz_arg (pc := 492) (k := 2) Cx hi (by omega) dL_law_492 dL_law_493 dL_law_494 dL_law_495 dL_law_496 ?_
  refine lz_callI (n := (30, 0)) (d' := mX6_adds) (idx := 67) (pc := 497) [.inl (B.2.2.1 (i0 + 1)), .inl (B.2.2.1 (i0 + 2))] Cx rfl dL_law_497 ⟨wi_X6, wc_X6_adds, wp_X6_adds, by decide, by decide⟩ wl_L_67 wn_X6_adds we_X6_adds (ww_i1 30 (by decide)) rfl rfl (Nat.le_of_ble_eq_true rfl) (mw_adds (hM.hi hh1) (B.2.2.1 (i0 + 1)) (B.2.2.1 (i0 + 2))) (fun v τ2 hq => ?_)
  obtain ⟨rfl, hM2, hl2⟩ := hq
  refine lz_icmp (pc := 500) Cx dL_law_500 (by decide) ?_
  exact nx _ R1 _ (hC1.low hl2) hM2
theorem arm_13 (Cx : lz_Cx E B) (hi : i0 + 4 ≤ B.2.1) (hC : zC s R τ) (hM : zM s τ) (nx : lz_N E B i0) : lz_W E B 505 [] (nI i0) τ := by
  have h2048 := Cx.2.2.2.2.2
  refine lz_a1 (pc2 := 506) Cx dL_law_505 rfl ?_
  refine lz_arg (pc := 506) (k := 1) Cx hi (by omega) dL_law_506 dL_law_507 dL_law_508 dL_law_509 dL_law_510 ?_
  refine lz_arg (pc := 511) (k := 2) Cx hi (by omega) dL_law_511 dL_law_512 dL_law_513 dL_law_514 dL_law_515 ?_
  refine lz_arg (pc := 516) (k := 3) Cx hi (by omega) dL_law_516 dL_law_517 dL_law_518 dL_law_519 dL_law_520 ?_
  refine lz_callI (n := (0, 0)) (d' := mX5_times) (idx := 68) (pc := 521) [.inl (B.2.2.1 (i0 + 1)), .inl (B.2.2.1 (i0 + 2)), .inl (B.2.2.1 (i0 + 3))] Cx rfl dL_law_521 ⟨wi_X5, wc_X5_times, wp_X5_times, by decide, by decide⟩ wl_L_68 wn_X5_times we_X5_times (ww_i1 0 (by decide)) rfl rfl (Nat.le_of_ble_eq_true rfl) (cw_times hC (B.2.2.1 (i0 + 1)) (B.2.2.1 (i0 + 2)) (B.2.2.1 (i0 + 3))) (fun v τ1 hq => ?_)
  obtain ⟨rfl, ⟨R1, hC1⟩, hh1⟩ := hq
  refine lz_a2 (pc2 := 525) Cx dL_law_524 rfl ?_
  refine lz_arg (pc := 525) (k := 1) Cx hi (by omega) dL_law_525 dL_law_526 dL_law_527 dL_law_528 dL_law_529 ?_
  refine lz_arg (pc := 530) (k := 2) Cx hi (by omega) dL_law_530 dL_law_531 dL_law_532 dL_law_533 dL_law_534 ?_
  refine lz_arg (pc := 535) (k := 3) Cx hi (by omega) dL_law_535 dL_law_536 dL_law_537 dL_law_538 dL_law_539 ?_
  refine lz_callI (n := (30, 0)) (d' := mX6_times) (idx := 72) (pc := 540) [.inl (B.2.2.1 (i0 + 1)), .inl (B.2.2.1 (i0 + 2)), .inl (B.2.2.1 (i0 + 3))] Cx rfl dL_law_540 ⟨wi_X6, wc_X6_times, wp_X6_times, by decide, by decide⟩ wl_L_72 wn_X6_times we_X6_times (ww_i1 30 (by decide)) rfl rfl (Nat.le_of_ble_eq_true rfl) (mw_times (hM.hi hh1) (B.2.2.1 (i0 + 1)) (B.2.2.1 (i0 + 2)) (B.2.2.1 (i0 + 3))) (fun v τ2 hq => ?_)
  obtain ⟨rfl, hM2, hl2⟩ := hq
  refine lz_icmp (pc := 543) Cx dL_law_543 (by decide) ?_
  exact nx _ R1 _ (hC1.low hl2) hM2
theorem arm_14 (Cx : lz_Cx E B) (hi : i0 + 4 ≤ B.2.1) (hC : zC s R τ) (hM : zM s τ) (nx : lz_N E B i0) : lz_W E B 548 [] (nI i0) τ := by
  have h2048 := Cx.2.2.2.2.2
  refine lz_a1 (pc2 := 549) Cx dL_law_548 rfl ?_
  refine lz_arg (pc := 549) (k := 1) Cx hi (by omega) dL_law_549 dL_law_550 dL_law_551 dL_law_552 dL_law_553 ?_
  refine lz_arg (pc := 554) (k := 2) Cx hi (by omega) dL_law_554 dL_law_555 dL_law_556 dL_law_557 dL_law_558 ?_
  refine lz_callI (n := (0, 0)) (d' := mX5_inverse) (idx := 73) (pc := 559) [.inl (B.2.2.1 (i0 + 1)), .inl (B.2.2.1 (i0 + 2))] Cx rfl dL_law_559 ⟨wi_X5, wc_X5_inverse, wp_X5_inverse, by decide, by decide⟩ wl_L_73 wn_X5_inverse we_X5_inverse (ww_i1 0 (by decide)) rfl rfl (Nat.le_of_ble_eq_true rfl) (cw_inverse hC (B.2.2.1 (i0 + 1)) (B.2.2.1 (i0 + 2))) (fun v τ1 hq => ?_)
  obtain ⟨rfl, ⟨R1, hC1⟩, hh1⟩ := hq
  refine lz_a2 (pc2 := 563) Cx dL_law_562 rfl ?_
  refine lz_arg (pc := 563) (k := 1) Cx hi (by omega) dL_law_563 dL_law_564 dL_law_565 dL_law_566 dL_law_567 ?_
  refine lz_arg (pc := 568) (k := 2) Cx hi (by omega) dL_law_568 dL_law_569 dL_law_570 dL_law_571 dL_law_572 ?_
  refine lz_callI (n := (30, 0)) (d' := mX6_inverse) (idx := 76) (pc := 573) [.inl (B.2.2.1 (i0 + 1)), .inl (B.2.2.1 (i0 + 2))] Cx rfl dL_law_573 ⟨wi_X6, wc_X6_inverse, wp_X6_inverse, by decide, by decide⟩ wl_L_76 wn_X6_inverse we_X6_inverse (ww_i1 30 (by decide)) rfl rfl (Nat.le_of_ble_eq_true rfl) (mw_inverse (hM.hi hh1) (B.2.2.1 (i0 + 1)) (B.2.2.1 (i0 + 2))) (fun v τ2 hq => ?_)
  obtain ⟨rfl, hM2, hl2⟩ := hq
  refine lz_icmp (pc := 576) Cx dL_law_576 (by decide) ?_
  exact nx _ R1 _ (hC1.low hl2) hM2
theorem arm_15 (Cx : lz_Cx E B) (hi : i0 + 4 ≤ B.2.1) (hC : zC s R τ) (hM : zM s τ) (nx : lz_N E B i0) : lz_W E B 581 [] (nI i0) τ := by
  have h2048 := Cx.2.2.2.2.2
  refine lz_a1 (pc2 := 582) Cx dL_law_581 rfl ?_
  refine lz_arg (pc := 582) (k := 1) Cx hi (by omega) dL_law_582 dL_law_583 dL_law_584 dL_law_585 dL_law_586 ?_
  refine lz_arg (pc := 587) (k := 2) Cx hi (by omega) dL_law_587 dL_law_588 dL_law_589 dL_law_590 dL_law_591 ?_
  refine lz_arg (pc := 592) (k := 3) Cx hi (by omega) dL_law_592 dL_law_593 dL_law_594 dL_law_595 dL_law_596 ?_
  refine lz_callI (n := (0, 0)) (d' := mX5_power) (idx := 77) (pc := 597) [.inl (B.2.2.1 (i0 + 1)), .inl (B.2.2.1 (i0 + 2)), .inl (B.2.2.1 (i0 + 3))] Cx rfl dL_law_597 ⟨wi_X5, wc_X5_power, wp_X5_power, by decide, by decide⟩ wl_L_77 wn_X5_power we_X5_power (ww_i1 0 (by decide)) rfl rfl (Nat.le_of_ble_eq_true rfl) (cw_power hC (B.2.2.1 (i0 + 1)) (B.2.2.1 (i0 + 2)) (B.2.2.1 (i0 + 3))) (fun v τ1 hq => ?_)
  obtain ⟨rfl, ⟨R1, hC1⟩, hh1⟩ := hq
  refine lz_a2 (pc2 := 601) Cx dL_law_600 rfl ?_
  refine lz_arg (pc := 601) (k := 1) Cx hi (by omega) dL_law_601 dL_law_602 dL_law_603 dL_law_604 dL_law_605 ?_
  refine lz_arg (pc := 606) (k := 2) Cx hi (by omega) dL_law_606 dL_law_607 dL_law_608 dL_law_609 dL_law_610 ?_
  refine lz_arg (pc := 611) (k := 3) Cx hi (by omega) dL_law_611 dL_law_612 dL_law_613 dL_law_614 dL_law_615 ?_
  refine lz_callI (n := (30, 0)) (d' := mX6_power) (idx := 80) (pc := 616) [.inl (B.2.2.1 (i0 + 1)), .inl (B.2.2.1 (i0 + 2)), .inl (B.2.2.1 (i0 + 3))] Cx rfl dL_law_616 ⟨wi_X6, wc_X6_power, wp_X6_power, by decide, by decide⟩ wl_L_80 wn_X6_power we_X6_power (ww_i1 30 (by decide)) rfl rfl (Nat.le_of_ble_eq_true rfl) (mw_power (hM.hi hh1) (B.2.2.1 (i0 + 1)) (B.2.2.1 (i0 + 2)) (B.2.2.1 (i0 + 3))) (fun v τ2 hq => ?_)
  obtain ⟨rfl, hM2, hl2⟩ := hq
  refine lz_icmp (pc := 619) Cx dL_law_619 (by decide) ?_
  exact nx _ R1 _ (hC1.low hl2) hM2
theorem arm_16 (Cx : lz_Cx E B) (hi : i0 + 4 ≤ B.2.1) (hC : zC s R τ) (hM : zM s τ) (nx : lz_N E B i0) : lz_W E B 624 [] (nI i0) τ := by
  have h2048 := Cx.2.2.2.2.2
  refine lz_a1 (pc2 := 625) Cx dL_law_624 rfl ?_
  refine lz_arg (pc := 625) (k := 1) Cx hi (by omega) dL_law_625 dL_law_626 dL_law_627 dL_law_628 dL_law_629 ?_
  refine lz_arg (pc := 630) (k := 2) Cx hi (by omega) dL_law_630 dL_law_631 dL_law_632 dL_law_633 dL_law_634 ?_
  refine lz_callI (n := (0, 0)) (d' := mX5_ring) (idx := 81) (pc := 635) [.inl (B.2.2.1 (i0 + 1)), .inl (B.2.2.1 (i0 + 2))] Cx rfl dL_law_635 ⟨wi_X5, wc_X5_ring, wp_X5_ring, by decide, by decide⟩ wl_L_81 wn_X5_ring we_X5_ring (ww_i1 0 (by decide)) rfl rfl (Nat.le_of_ble_eq_true rfl) (cw_ring hC (B.2.2.1 (i0 + 1)) (B.2.2.1 (i0 + 2))) (fun v τ1 hq => ?_)
  obtain ⟨rfl, ⟨R1, hC1⟩, hh1⟩ := hq
  refine lz_a2 (pc2 := 639) Cx dL_law_638 rfl ?_
  refine lz_arg (pc := 639) (k := 1) Cx hi (by omega) dL_law_639 dL_law_640 dL_law_641 dL_law_642 dL_law_643 ?_
  refine lz_arg (pc := 644) (k := 2) Cx hi (by omega) dL_law_644 dL_law_645 dL_law_646 dL_law_647 dL_law_648 ?_
  refine lz_callI (n := (30, 0)) (d' := mX6_ring) (idx := 84) (pc := 649) [.inl (B.2.2.1 (i0 + 1)), .inl (B.2.2.1 (i0 + 2))] Cx rfl dL_law_649 ⟨wi_X6, wc_X6_ring, wp_X6_ring, by decide, by decide⟩ wl_L_84 wn_X6_ring we_X6_ring (ww_i1 30 (by decide)) rfl rfl (Nat.le_of_ble_eq_true rfl) (mw_ring (hM.hi hh1) (B.2.2.1 (i0 + 1)) (B.2.2.1 (i0 + 2))) (fun v τ2 hq => ?_)
  obtain ⟨rfl, hM2, hl2⟩ := hq
  refine lz_icmp (pc := 652) Cx dL_law_652 (by decide) ?_
  exact nx _ R1 _ (hC1.low hl2) hM2
theorem arm_17 (Cx : lz_Cx E B) (hi : i0 + 4 ≤ B.2.1) (hC : zC s R τ) (hM : zM s τ) (nx : lz_N E B i0) : lz_W E B 657 [] (nI i0) τ := by
  have h2048 := Cx.2.2.2.2.2
  refine lz_a1 (pc2 := 658) Cx dL_law_657 rfl ?_
  refine lz_arg (pc := 658) (k := 1) Cx hi (by omega) dL_law_658 dL_law_659 dL_law_660 dL_law_661 dL_law_662 ?_
  refine lz_arg (pc := 663) (k := 2) Cx hi (by omega) dL_law_663 dL_law_664 dL_law_665 dL_law_666 dL_law_667 ?_
  refine lz_arg (pc := 668) (k := 3) Cx hi (by omega) dL_law_668 dL_law_669 dL_law_670 dL_law_671 dL_law_672 ?_
  refine lz_callI (n := (0, 0)) (d' := mX5_turn) (idx := 85) (pc := 673) [.inl (B.2.2.1 (i0 + 1)), .inl (B.2.2.1 (i0 + 2)), .inl (B.2.2.1 (i0 + 3))] Cx rfl dL_law_673 ⟨wi_X5, wc_X5_turn, wp_X5_turn, by decide, by decide⟩ wl_L_85 wn_X5_turn we_X5_turn (ww_i1 0 (by decide)) rfl rfl (Nat.le_of_ble_eq_true rfl) (cw_turn hC (B.2.2.1 (i0 + 1)) (B.2.2.1 (i0 + 2)) (B.2.2.1 (i0 + 3))) (fun v τ1 hq => ?_)
  obtain ⟨rfl, ⟨R1, hC1⟩, hh1⟩ := hq
  refine lz_a2 (pc2 := 677) Cx dL_law_676 rfl ?_
  refine lz_arg (pc := 677) (k := 1) Cx hi (by omega) dL_law_677 dL_law_678 dL_law_679 dL_law_680 dL_law_681 ?_
  refine lz_arg (pc := 682) (k := 2) Cx hi (by omega) dL_law_682 dL_law_683 dL_law_684 dL_law_685 dL_law_686 ?_
  refine lz_arg (pc := 687) (k := 3) Cx hi (by omega) dL_law_687 dL_law_688 dL_law_689 dL_law_690 dL_law_691 ?_
  refine lz_callI (n := (30, 0)) (d' := mX6_turn) (idx := 88) (pc := 692) [.inl (B.2.2.1 (i0 + 1)), .inl (B.2.2.1 (i0 + 2)), .inl (B.2.2.1 (i0 + 3))] Cx rfl dL_law_692 ⟨wi_X6, wc_X6_turn, wp_X6_turn, by decide, by decide⟩ wl_L_88 wn_X6_turn we_X6_turn (ww_i1 30 (by decide)) rfl rfl (Nat.le_of_ble_eq_true rfl) (mw_turn (hM.hi hh1) (B.2.2.1 (i0 + 1)) (B.2.2.1 (i0 + 2)) (B.2.2.1 (i0 + 3))) (fun v τ2 hq => ?_)
  obtain ⟨rfl, hM2, hl2⟩ := hq
  refine lz_icmp (pc := 695) Cx dL_law_695 (by decide) ?_
  exact nx _ R1 _ (hC1.low hl2) hM2
theorem arm_18 (Cx : lz_Cx E B) (hi : i0 + 4 ≤ B.2.1) (hC : zC s R τ) (hM : zM s τ) (nx : lz_N E B i0) : lz_W E B 700 [] (nI i0) τ := by
  have h2048 := Cx.2.2.2.2.2
  refine lz_a1 (pc2 := 701) Cx dL_law_700 rfl ?_
  refine lz_arg (pc := 701) (k := 1) Cx hi (by omega) dL_law_701 dL_law_702 dL_law_703 dL_law_704 dL_law_705 ?_
  refine lz_arg (pc := 706) (k := 2) Cx hi (by omega) dL_law_706 dL_law_707 dL_law_708 dL_law_709 dL_law_710 ?_
  refine lz_callI (n := (0, 0)) (d' := mX5_sum) (idx := 89) (pc := 711) [.inl (B.2.2.1 (i0 + 1)), .inl (B.2.2.1 (i0 + 2))] Cx rfl dL_law_711 ⟨wi_X5, wc_X5_sum, wp_X5_sum, by decide, by decide⟩ wl_L_89 wn_X5_sum we_X5_sum (ww_i1 0 (by decide)) rfl rfl (Nat.le_of_ble_eq_true rfl) (cw_sum hC (B.2.2.1 (i0 + 1)) (B.2.2.1 (i0 + 2))) (fun v τ1 hq => ?_)
  obtain ⟨rfl, ⟨R1, hC1⟩, hh1⟩ := hq
  refine lz_a2 (pc2 := 715) Cx dL_law_714 rfl ?_
  refine lz_arg (pc := 715) (k := 1) Cx hi (by omega) dL_law_715 dL_law_716 dL_law_717 dL_law_718 dL_law_719 ?_
  refine lz_arg (pc := 720) (k := 2) Cx hi (by omega) dL_law_720 dL_law_721 dL_law_722 dL_law_723 dL_law_724 ?_
  refine lz_callI (n := (30, 0)) (d' := mX6_sum) (idx := 92) (pc := 725) [.inl (B.2.2.1 (i0 + 1)), .inl (B.2.2.1 (i0 + 2))] Cx rfl dL_law_725 ⟨wi_X6, wc_X6_sum, wp_X6_sum, by decide, by decide⟩ wl_L_92 wn_X6_sum we_X6_sum (ww_i1 30 (by decide)) rfl rfl (Nat.le_of_ble_eq_true rfl) (mw_sum (hM.hi hh1) (B.2.2.1 (i0 + 1)) (B.2.2.1 (i0 + 2))) (fun v τ2 hq => ?_)
  obtain ⟨rfl, hM2, hl2⟩ := hq
  refine lz_icmp (pc := 728) Cx dL_law_728 (by decide) ?_
  exact nx _ R1 _ (hC1.low hl2) hM2
theorem arm_19 (Cx : lz_Cx E B) (hi : i0 + 4 ≤ B.2.1) (hC : zC s R τ) (hM : zM s τ) (nx : lz_N E B i0) : lz_W E B 733 [] (nI i0) τ := by
  have h2048 := Cx.2.2.2.2.2
  refine lz_a1 (pc2 := 734) Cx dL_law_733 rfl ?_
  refine lz_arg (pc := 734) (k := 1) Cx hi (by omega) dL_law_734 dL_law_735 dL_law_736 dL_law_737 dL_law_738 ?_
  refine lz_callI (n := (0, 0)) (d' := mX5_cuts) (idx := 93) (pc := 739) [.inl (B.2.2.1 (i0 + 1))] Cx rfl dL_law_739 ⟨wi_X5, wc_X5_cuts, wp_X5_cuts, by decide, by decide⟩ wl_L_93 wn_X5_cuts we_X5_cuts (ww_i1 0 (by decide)) rfl rfl (Nat.le_of_ble_eq_true rfl) (cw_cuts hC (B.2.2.1 (i0 + 1))) (fun v τ1 hq => ?_)
  obtain ⟨rfl, ⟨R1, hC1⟩, hh1⟩ := hq
  refine lz_a2 (pc2 := 743) Cx dL_law_742 rfl ?_
  refine lz_arg (pc := 743) (k := 1) Cx hi (by omega) dL_law_743 dL_law_744 dL_law_745 dL_law_746 dL_law_747 ?_
  refine lz_callI (n := (30, 0)) (d' := mX6_cuts) (idx := 96) (pc := 748) [.inl (B.2.2.1 (i0 + 1))] Cx rfl dL_law_748 ⟨wi_X6, wc_X6_cuts, wp_X6_cuts, by decide, by decide⟩ wl_L_96 wn_X6_cuts we_X6_cuts (ww_i1 30 (by decide)) rfl rfl (Nat.le_of_ble_eq_true rfl) (mw_cuts (hM.hi hh1) (B.2.2.1 (i0 + 1))) (fun v τ2 hq => ?_)
  obtain ⟨rfl, hM2, hl2⟩ := hq
  refine lz_icmp (pc := 751) Cx dL_law_751 (by decide) ?_
  exact nx _ R1 _ (hC1.low hl2) hM2
theorem arm_20 (Cx : lz_Cx E B) (hi : i0 + 4 ≤ B.2.1) (hC : zC s R τ) (hM : zM s τ) (nx : lz_N E B i0) : lz_W E B 756 [] (nI i0) τ := by
  have h2048 := Cx.2.2.2.2.2
  refine lz_a1 (pc2 := 757) Cx dL_law_756 rfl ?_
  refine lz_arg (pc := 757) (k := 1) Cx hi (by omega) dL_law_757 dL_law_758 dL_law_759 dL_law_760 dL_law_761 ?_
  refine lz_callI (n := (0, 0)) (d' := mX5_cut) (idx := 97) (pc := 762) [.inl (B.2.2.1 (i0 + 1))] Cx rfl dL_law_762 ⟨wi_X5, wc_X5_cut, wp_X5_cut, by decide, by decide⟩ wl_L_97 wn_X5_cut we_X5_cut (ww_i1 0 (by decide)) rfl rfl (Nat.le_of_ble_eq_true rfl) (cw_cut hC (B.2.2.1 (i0 + 1))) (fun v τ1 hq => ?_)
  obtain ⟨rfl, ⟨R1, hC1⟩, hh1⟩ := hq
  refine lz_a2 (pc2 := 766) Cx dL_law_765 rfl ?_
  refine lz_arg (pc := 766) (k := 1) Cx hi (by omega) dL_law_766 dL_law_767 dL_law_768 dL_law_769 dL_law_770 ?_
  refine lz_callI (n := (30, 0)) (d' := mX6_cut) (idx := 100) (pc := 771) [.inl (B.2.2.1 (i0 + 1))] Cx rfl dL_law_771 ⟨wi_X6, wc_X6_cut, wp_X6_cut, by decide, by decide⟩ wl_L_100 wn_X6_cut we_X6_cut (ww_i1 30 (by decide)) rfl rfl (Nat.le_of_ble_eq_true rfl) (mw_cut (hM.hi hh1) (B.2.2.1 (i0 + 1))) (fun v τ2 hq => ?_)
  obtain ⟨rfl, hM2, hl2⟩ := hq
  refine lz_icmp (pc := 774) Cx dL_law_774 (by decide) ?_
  exact nx _ R1 _ (hC1.low hl2) hM2
theorem arm_21 (Cx : lz_Cx E B) (hi : i0 + 4 ≤ B.2.1) (hC : zC s R τ) (hM : zM s τ) (nx : lz_N E B i0) : lz_W E B 779 [] (nI i0) τ := by
  have h2048 := Cx.2.2.2.2.2
  refine lz_a1 (pc2 := 780) Cx dL_law_779 rfl ?_
  refine lz_arg (pc := 780) (k := 1) Cx hi (by omega) dL_law_780 dL_law_781 dL_law_782 dL_law_783 dL_law_784 ?_
  refine lz_callI (n := (0, 0)) (d' := mX5_shorten) (idx := 101) (pc := 785) [.inl (B.2.2.1 (i0 + 1))] Cx rfl dL_law_785 ⟨wi_X5, wc_X5_shorten, wp_X5_shorten, by decide, by decide⟩ wl_L_101 wn_X5_shorten we_X5_shorten (ww_i1 0 (by decide)) rfl rfl (Nat.le_of_ble_eq_true rfl) (cw_shorten hC (B.2.2.1 (i0 + 1))) (fun v τ1 hq => ?_)
  obtain ⟨rfl, ⟨R1, hC1⟩, hh1⟩ := hq
  refine lz_a2 (pc2 := 789) Cx dL_law_788 rfl ?_
  refine lz_arg (pc := 789) (k := 1) Cx hi (by omega) dL_law_789 dL_law_790 dL_law_791 dL_law_792 dL_law_793 ?_
  refine lz_callI (n := (30, 0)) (d' := mX6_shorten) (idx := 104) (pc := 794) [.inl (B.2.2.1 (i0 + 1))] Cx rfl dL_law_794 ⟨wi_X6, wc_X6_shorten, wp_X6_shorten, by decide, by decide⟩ wl_L_104 wn_X6_shorten we_X6_shorten (ww_i1 30 (by decide)) rfl rfl (Nat.le_of_ble_eq_true rfl) (mw_shorten (hM.hi hh1) (B.2.2.1 (i0 + 1))) (fun v τ2 hq => ?_)
  obtain ⟨rfl, hM2, hl2⟩ := hq
  refine lz_icmp (pc := 797) Cx dL_law_797 (by decide) ?_
  exact nx _ R1 _ (hC1.low hl2) hM2
theorem arm_22 (Cx : lz_Cx E B) (hi : i0 + 4 ≤ B.2.1) (hC : zC s R τ) (hM : zM s τ) (nx : lz_N E B i0) : lz_W E B 802 [] (nI i0) τ := by
  have h2048 := Cx.2.2.2.2.2
  refine lz_a1 (pc2 := 803) Cx dL_law_802 rfl ?_
  refine lz_arg (pc := 803) (k := 1) Cx hi (by omega) dL_law_803 dL_law_804 dL_law_805 dL_law_806 dL_law_807 ?_
  refine lz_arg (pc := 808) (k := 2) Cx hi (by omega) dL_law_808 dL_law_809 dL_law_810 dL_law_811 dL_law_812 ?_
  refine lz_arg (pc := 813) (k := 3) Cx hi (by omega) dL_law_813 dL_law_814 dL_law_815 dL_law_816 dL_law_817 ?_
  refine lz_callI (n := (0, 0)) (d' := mX5_trail) (idx := 105) (pc := 818) [.inl (B.2.2.1 (i0 + 1)), .inl (B.2.2.1 (i0 + 2)), .inl (B.2.2.1 (i0 + 3))] Cx rfl dL_law_818 ⟨wi_X5, wc_X5_trail, wp_X5_trail, by decide, by decide⟩ wl_L_105 wn_X5_trail we_X5_trail (ww_i1 0 (by decide)) rfl rfl (Nat.le_of_ble_eq_true rfl) (cw_trail hC (B.2.2.1 (i0 + 1)) (B.2.2.1 (i0 + 2)) (B.2.2.1 (i0 + 3))) (fun v τ1 hq => ?_)
  obtain ⟨rfl, ⟨R1, hC1⟩, hh1⟩ := hq
  refine lz_a2 (pc2 := 822) Cx dL_law_821 rfl ?_
  refine lz_arg (pc := 822) (k := 1) Cx hi (by omega) dL_law_822 dL_law_823 dL_law_824 dL_law_825 dL_law_826 ?_
  refine lz_arg (pc := 827) (k := 2) Cx hi (by omega) dL_law_827 dL_law_828 dL_law_829 dL_law_830 dL_law_831 ?_
  refine lz_arg (pc := 832) (k := 3) Cx hi (by omega) dL_law_832 dL_law_833 dL_law_834 dL_law_835 dL_law_836 ?_
  refine lz_callI (n := (30, 0)) (d' := mX6_trail) (idx := 108) (pc := 837) [.inl (B.2.2.1 (i0 + 1)), .inl (B.2.2.1 (i0 + 2)), .inl (B.2.2.1 (i0 + 3))] Cx rfl dL_law_837 ⟨wi_X6, wc_X6_trail, wp_X6_trail, by decide, by decide⟩ wl_L_108 wn_X6_trail we_X6_trail (ww_i1 30 (by decide)) rfl rfl (Nat.le_of_ble_eq_true rfl) (mw_trail (hM.hi hh1) (B.2.2.1 (i0 + 1)) (B.2.2.1 (i0 + 2)) (B.2.2.1 (i0 + 3))) (fun v τ2 hq => ?_)
  obtain ⟨rfl, hM2, hl2⟩ := hq
  refine lz_icmp (pc := 840) Cx dL_law_840 (by decide) ?_
  exact nx _ R1 _ (hC1.low hl2) hM2
theorem arm_23 (Cx : lz_Cx E B) (hi : i0 + 4 ≤ B.2.1) (hC : zC s R τ) (hM : zM s τ) (nx : lz_N E B i0) : lz_W E B 845 [] (nI i0) τ := by
  have h2048 := Cx.2.2.2.2.2
  refine lz_a1 (pc2 := 846) Cx dL_law_845 rfl ?_
  refine lz_arg (pc := 846) (k := 1) Cx hi (by omega) dL_law_846 dL_law_847 dL_law_848 dL_law_849 dL_law_850 ?_
  refine lz_callI (n := (0, 0)) (d' := mX5_nothing) (idx := 109) (pc := 851) [.inl (B.2.2.1 (i0 + 1))] Cx rfl dL_law_851 ⟨wi_X5, wc_X5_nothing, wp_X5_nothing, by decide, by decide⟩ wl_L_109 wn_X5_nothing we_X5_nothing (ww_i1 0 (by decide)) rfl rfl (Nat.le_of_ble_eq_true rfl) (cw_nothing hC (B.2.2.1 (i0 + 1))) (fun v τ1 hq => ?_)
  obtain ⟨rfl, ⟨R1, hC1⟩, hh1⟩ := hq
  refine lz_a2 (pc2 := 855) Cx dL_law_854 rfl ?_
  refine lz_arg (pc := 855) (k := 1) Cx hi (by omega) dL_law_855 dL_law_856 dL_law_857 dL_law_858 dL_law_859 ?_
  refine lz_callI (n := (30, 0)) (d' := mX6_nothing) (idx := 112) (pc := 860) [.inl (B.2.2.1 (i0 + 1))] Cx rfl dL_law_860 ⟨wi_X6, wc_X6_nothing, wp_X6_nothing, by decide, by decide⟩ wl_L_112 wn_X6_nothing we_X6_nothing (ww_i1 30 (by decide)) rfl rfl (Nat.le_of_ble_eq_true rfl) (mw_nothing (hM.hi hh1) (B.2.2.1 (i0 + 1))) (fun v τ2 hq => ?_)
  obtain ⟨rfl, hM2, hl2⟩ := hq
  refine lz_icmp (pc := 863) Cx dL_law_863 (by decide) ?_
  exact nx _ R1 _ (hC1.low hl2) hM2
theorem arm_24 (Cx : lz_Cx E B) (hi : i0 + 4 ≤ B.2.1) (hC : zC s R τ) (hM : zM s τ) (nx : lz_N E B i0) : lz_W E B 868 [] (nI i0) τ := by
  have h2048 := Cx.2.2.2.2.2
  refine lz_a1 (pc2 := 869) Cx dL_law_868 rfl ?_
  refine lz_arg (pc := 869) (k := 1) Cx hi (by omega) dL_law_869 dL_law_870 dL_law_871 dL_law_872 dL_law_873 ?_
  refine lz_arg (pc := 874) (k := 2) Cx hi (by omega) dL_law_874 dL_law_875 dL_law_876 dL_law_877 dL_law_878 ?_
  refine lz_callI (n := (0, 0)) (d' := mX5_same) (idx := 113) (pc := 879) [.inl (B.2.2.1 (i0 + 1)), .inl (B.2.2.1 (i0 + 2))] Cx rfl dL_law_879 ⟨wi_X5, wc_X5_same, wp_X5_same, by decide, by decide⟩ wl_L_113 wn_X5_same we_X5_same (ww_i1 0 (by decide)) rfl rfl (Nat.le_of_ble_eq_true rfl) (cw_same hC (B.2.2.1 (i0 + 1)) (B.2.2.1 (i0 + 2))) (fun v τ1 hq => ?_)
  obtain ⟨rfl, ⟨R1, hC1⟩, hh1⟩ := hq
  refine lz_a2 (pc2 := 883) Cx dL_law_882 rfl ?_
  refine lz_arg (pc := 883) (k := 1) Cx hi (by omega) dL_law_883 dL_law_884 dL_law_885 dL_law_886 dL_law_887 ?_
  refine lz_arg (pc := 888) (k := 2) Cx hi (by omega) dL_law_888 dL_law_889 dL_law_890 dL_law_891 dL_law_892 ?_
  refine lz_callI (n := (30, 0)) (d' := mX6_same) (idx := 116) (pc := 893) [.inl (B.2.2.1 (i0 + 1)), .inl (B.2.2.1 (i0 + 2))] Cx rfl dL_law_893 ⟨wi_X6, wc_X6_same, wp_X6_same, by decide, by decide⟩ wl_L_116 wn_X6_same we_X6_same (ww_i1 30 (by decide)) rfl rfl (Nat.le_of_ble_eq_true rfl) (mw_same (hM.hi hh1) (B.2.2.1 (i0 + 1)) (B.2.2.1 (i0 + 2))) (fun v τ2 hq => ?_)
  obtain ⟨rfl, hM2, hl2⟩ := hq
  refine lz_icmp (pc := 896) Cx dL_law_896 (by decide) ?_
  exact nx _ R1 _ (hC1.low hl2) hM2
theorem arm_25 (Cx : lz_Cx E B) (hi : i0 + 4 ≤ B.2.1) (hC : zC s R τ) (hM : zM s τ) (nx : lz_N E B i0) : lz_W E B 901 [] (nI i0) τ := by
  have h2048 := Cx.2.2.2.2.2
  refine lz_a1 (pc2 := 902) Cx dL_law_901 rfl ?_
  refine lz_arg (pc := 902) (k := 1) Cx hi (by omega) dL_law_902 dL_law_903 dL_law_904 dL_law_905 dL_law_906 ?_
  refine lz_callI (n := (0, 0)) (d' := mX5_order) (idx := 117) (pc := 907) [.inl (B.2.2.1 (i0 + 1))] Cx rfl dL_law_907 ⟨wi_X5, wc_X5_order, wp_X5_order, by decide, by decide⟩ wl_L_117 wn_X5_order we_X5_order (ww_i1 0 (by decide)) rfl rfl (Nat.le_of_ble_eq_true rfl) (cw_order hC (B.2.2.1 (i0 + 1))) (fun v τ1 hq => ?_)
  obtain ⟨rfl, ⟨R1, hC1⟩, hh1⟩ := hq
  refine lz_a2 (pc2 := 911) Cx dL_law_910 rfl ?_
  refine lz_arg (pc := 911) (k := 1) Cx hi (by omega) dL_law_911 dL_law_912 dL_law_913 dL_law_914 dL_law_915 ?_
  refine lz_callI (n := (30, 0)) (d' := mX6_order) (idx := 120) (pc := 916) [.inl (B.2.2.1 (i0 + 1))] Cx rfl dL_law_916 ⟨wi_X6, wc_X6_order, wp_X6_order, by decide, by decide⟩ wl_L_120 wn_X6_order we_X6_order (ww_i1 30 (by decide)) rfl rfl (Nat.le_of_ble_eq_true rfl) (mw_order (hM.hi hh1) (B.2.2.1 (i0 + 1))) (fun v τ2 hq => ?_)
  obtain ⟨rfl, hM2, hl2⟩ := hq
  refine lz_icmp (pc := 919) Cx dL_law_919 (by decide) ?_
  exact nx _ R1 _ (hC1.low hl2) hM2
theorem arm_26 (Cx : lz_Cx E B) (hi : i0 + 4 ≤ B.2.1) (hC : zC s R τ) (hM : zM s τ) (nx : lz_N E B i0) : lz_W E B 924 [] (nI i0) τ := by
  have h2048 := Cx.2.2.2.2.2
  refine lz_a1 (pc2 := 925) Cx dL_law_924 rfl ?_
  refine lz_arg (pc := 925) (k := 1) Cx hi (by omega) dL_law_925 dL_law_926 dL_law_927 dL_law_928 dL_law_929 ?_
  refine lz_arg (pc := 930) (k := 2) Cx hi (by omega) dL_law_930 dL_law_931 dL_law_932 dL_law_933 dL_law_934 ?_
  refine lz_callI (n := (0, 0)) (d' := mX5_turned) (idx := 121) (pc := 935) [.inl (B.2.2.1 (i0 + 1)), .inl (B.2.2.1 (i0 + 2))] Cx rfl dL_law_935 ⟨wi_X5, wc_X5_turned, wp_X5_turned, by decide, by decide⟩ wl_L_121 wn_X5_turned we_X5_turned (ww_i1 0 (by decide)) rfl rfl (Nat.le_of_ble_eq_true rfl) (cw_turned hC (B.2.2.1 (i0 + 1)) (B.2.2.1 (i0 + 2))) (fun v τ1 hq => ?_)
  obtain ⟨rfl, ⟨R1, hC1⟩, hh1⟩ := hq
  refine lz_a2 (pc2 := 939) Cx dL_law_938 rfl ?_
  refine lz_arg (pc := 939) (k := 1) Cx hi (by omega) dL_law_939 dL_law_940 dL_law_941 dL_law_942 dL_law_943 ?_
  refine lz_arg (pc := 944) (k := 2) Cx hi (by omega) dL_law_944 dL_law_945 dL_law_946 dL_law_947 dL_law_948 ?_
  refine lz_callI (n := (30, 0)) (d' := mX6_turned) (idx := 124) (pc := 949) [.inl (B.2.2.1 (i0 + 1)), .inl (B.2.2.1 (i0 + 2))] Cx rfl dL_law_949 ⟨wi_X6, wc_X6_turned, wp_X6_turned, by decide, by decide⟩ wl_L_124 wn_X6_turned we_X6_turned (ww_i1 30 (by decide)) rfl rfl (Nat.le_of_ble_eq_true rfl) (mw_turned (hM.hi hh1) (B.2.2.1 (i0 + 1)) (B.2.2.1 (i0 + 2))) (fun v τ2 hq => ?_)
  obtain ⟨rfl, hM2, hl2⟩ := hq
  refine lz_icmp (pc := 952) Cx dL_law_952 (by decide) ?_
  exact nx _ R1 _ (hC1.low hl2) hM2
theorem arm_27 (Cx : lz_Cx E B) (hi : i0 + 4 ≤ B.2.1) (hC : zC s R τ) (hM : zM s τ) (nx : lz_N E B i0) : lz_W E B 957 [] (nI i0) τ := by
  have h2048 := Cx.2.2.2.2.2
  refine lz_a1 (pc2 := 958) Cx dL_law_957 rfl ?_
  refine lz_arg (pc := 958) (k := 1) Cx hi (by omega) dL_law_958 dL_law_959 dL_law_960 dL_law_961 dL_law_962 ?_
  refine lz_callI (n := (0, 0)) (d' := mX5_nothings) (idx := 125) (pc := 963) [.inl (B.2.2.1 (i0 + 1))] Cx rfl dL_law_963 ⟨wi_X5, wc_X5_nothings, wp_X5_nothings, by decide, by decide⟩ wl_L_125 wn_X5_nothings we_X5_nothings (ww_i1 0 (by decide)) rfl rfl (Nat.le_of_ble_eq_true rfl) (cw_nothings hC (B.2.2.1 (i0 + 1))) (fun v τ1 hq => ?_)
  obtain ⟨rfl, ⟨R1, hC1⟩, hh1⟩ := hq
  refine lz_a2 (pc2 := 967) Cx dL_law_966 rfl ?_
  refine lz_arg (pc := 967) (k := 1) Cx hi (by omega) dL_law_967 dL_law_968 dL_law_969 dL_law_970 dL_law_971 ?_
  refine lz_callI (n := (30, 0)) (d' := mX6_nothings) (idx := 128) (pc := 972) [.inl (B.2.2.1 (i0 + 1))] Cx rfl dL_law_972 ⟨wi_X6, wc_X6_nothings, wp_X6_nothings, by decide, by decide⟩ wl_L_128 wn_X6_nothings we_X6_nothings (ww_i1 30 (by decide)) rfl rfl (Nat.le_of_ble_eq_true rfl) (mw_nothings (hM.hi hh1) (B.2.2.1 (i0 + 1))) (fun v τ2 hq => ?_)
  obtain ⟨rfl, hM2, hl2⟩ := hq
  refine lz_icmp (pc := 975) Cx dL_law_975 (by decide) ?_
  exact nx _ R1 _ (hC1.low hl2) hM2
theorem arm_28 (Cx : lz_Cx E B) (hi : i0 + 4 ≤ B.2.1) (hC : zC s R τ) (hM : zM s τ) (nx : lz_N E B i0) : lz_W E B 980 [] (nI i0) τ := by
  have h2048 := Cx.2.2.2.2.2
  refine lz_a1 (pc2 := 981) Cx dL_law_980 rfl ?_
  refine lz_arg (pc := 981) (k := 1) Cx hi (by omega) dL_law_981 dL_law_982 dL_law_983 dL_law_984 dL_law_985 ?_
  refine lz_arg (pc := 986) (k := 2) Cx hi (by omega) dL_law_986 dL_law_987 dL_law_988 dL_law_989 dL_law_990 ?_
  refine lz_arg (pc := 991) (k := 3) Cx hi (by omega) dL_law_991 dL_law_992 dL_law_993 dL_law_994 dL_law_995 ?_
  refine lz_callI (n := (0, 0)) (d' := mX5_draw) (idx := 129) (pc := 996) [.inl (B.2.2.1 (i0 + 1)), .inl (B.2.2.1 (i0 + 2)), .inl (B.2.2.1 (i0 + 3))] Cx rfl dL_law_996 ⟨wi_X5, wc_X5_draw, wp_X5_draw, by decide, by decide⟩ wl_L_129 wn_X5_draw we_X5_draw (ww_i1 0 (by decide)) rfl rfl (Nat.le_of_ble_eq_true rfl) (cw_draw hC (B.2.2.1 (i0 + 1)) (B.2.2.1 (i0 + 2)) (B.2.2.1 (i0 + 3))) (fun v τ1 hq => ?_)
  obtain ⟨rfl, ⟨R1, hC1⟩, hh1⟩ := hq
  refine lz_a2 (pc2 := 1000) Cx dL_law_999 rfl ?_
  refine lz_arg (pc := 1000) (k := 1) Cx hi (by omega) dL_law_1000 dL_law_1001 dL_law_1002 dL_law_1003 dL_law_1004 ?_
  refine lz_arg (pc := 1005) (k := 2) Cx hi (by omega) dL_law_1005 dL_law_1006 dL_law_1007 dL_law_1008 dL_law_1009 ?_
  refine lz_arg (pc := 1010) (k := 3) Cx hi (by omega) dL_law_1010 dL_law_1011 dL_law_1012 dL_law_1013 dL_law_1014 ?_
  refine lz_callI (n := (30, 0)) (d' := mX6_draw) (idx := 132) (pc := 1015) [.inl (B.2.2.1 (i0 + 1)), .inl (B.2.2.1 (i0 + 2)), .inl (B.2.2.1 (i0 + 3))] Cx rfl dL_law_1015 ⟨wi_X6, wc_X6_draw, wp_X6_draw, by decide, by decide⟩ wl_L_132 wn_X6_draw we_X6_draw (ww_i1 30 (by decide)) rfl rfl (Nat.le_of_ble_eq_true rfl) (mw_draw (hM.hi hh1) (B.2.2.1 (i0 + 1)) (B.2.2.1 (i0 + 2)) (B.2.2.1 (i0 + 3))) (fun v τ2 hq => ?_)
  obtain ⟨rfl, hM2, hl2⟩ := hq
  refine lz_icmp (pc := 1018) Cx dL_law_1018 (by decide) ?_
  exact nx _ R1 _ (hC1.low hl2) hM2
theorem arm_29 (Cx : lz_Cx E B) (hi : i0 + 4 ≤ B.2.1) (hC : zC s R τ) (hM : zM s τ) (nx : lz_N E B i0) : lz_W E B 1023 [] (nI i0) τ := by
  have h2048 := Cx.2.2.2.2.2
  refine lz_a1 (pc2 := 1024) Cx dL_law_1023 rfl ?_
  refine lz_arg (pc := 1024) (k := 1) Cx hi (by omega) dL_law_1024 dL_law_1025 dL_law_1026 dL_law_1027 dL_law_1028 ?_
  refine lz_arg (pc := 1029) (k := 2) Cx hi (by omega) dL_law_1029 dL_law_1030 dL_law_1031 dL_law_1032 dL_law_1033 ?_
  refine lz_arg (pc := 1034) (k := 3) Cx hi (by omega) dL_law_1034 dL_law_1035 dL_law_1036 dL_law_1037 dL_law_1038 ?_
  refine lz_callI (n := (0, 0)) (d' := mX5_loops) (idx := 133) (pc := 1039) [.inl (B.2.2.1 (i0 + 1)), .inl (B.2.2.1 (i0 + 2)), .inl (B.2.2.1 (i0 + 3))] Cx rfl dL_law_1039 ⟨wi_X5, wc_X5_loops, wp_X5_loops, by decide, by decide⟩ wl_L_133 wn_X5_loops we_X5_loops (ww_i1 0 (by decide)) rfl rfl (Nat.le_of_ble_eq_true rfl) (cw_loops hC (B.2.2.1 (i0 + 1)) (B.2.2.1 (i0 + 2)) (B.2.2.1 (i0 + 3))) (fun v τ1 hq => ?_)
  obtain ⟨rfl, ⟨R1, hC1⟩, hh1⟩ := hq
  refine lz_a2 (pc2 := 1043) Cx dL_law_1042 rfl ?_
  refine lz_arg (pc := 1043) (k := 1) Cx hi (by omega) dL_law_1043 dL_law_1044 dL_law_1045 dL_law_1046 dL_law_1047 ?_
  refine lz_arg (pc := 1048) (k := 2) Cx hi (by omega) dL_law_1048 dL_law_1049 dL_law_1050 dL_law_1051 dL_law_1052 ?_
  refine lz_arg (pc := 1053) (k := 3) Cx hi (by omega) dL_law_1053 dL_law_1054 dL_law_1055 dL_law_1056 dL_law_1057 ?_
  refine lz_callI (n := (30, 0)) (d' := mX6_loops) (idx := 136) (pc := 1058) [.inl (B.2.2.1 (i0 + 1)), .inl (B.2.2.1 (i0 + 2)), .inl (B.2.2.1 (i0 + 3))] Cx rfl dL_law_1058 ⟨wi_X6, wc_X6_loops, wp_X6_loops, by decide, by decide⟩ wl_L_136 wn_X6_loops we_X6_loops (ww_i1 30 (by decide)) rfl rfl (Nat.le_of_ble_eq_true rfl) (mw_loops (hM.hi hh1) (B.2.2.1 (i0 + 1)) (B.2.2.1 (i0 + 2)) (B.2.2.1 (i0 + 3))) (fun v τ2 hq => ?_)
  obtain ⟨rfl, hM2, hl2⟩ := hq
  refine lz_icmp (pc := 1061) Cx dL_law_1061 (by decide) ?_
  exact nx _ R1 _ (hC1.low hl2) hM2
theorem arm_30 (Cx : lz_Cx E B) (hi : i0 + 4 ≤ B.2.1) (hC : zC s R τ) (hM : zM s τ) (nx : lz_N E B i0) : lz_W E B 1066 [] (nI i0) τ := by
  have h2048 := Cx.2.2.2.2.2
  refine lz_a1 (pc2 := 1067) Cx dL_law_1066 rfl ?_
  refine lz_arg (pc := 1067) (k := 1) Cx hi (by omega) dL_law_1067 dL_law_1068 dL_law_1069 dL_law_1070 dL_law_1071 ?_
  refine lz_callI (n := (0, 0)) (d' := mX5_told) (idx := 137) (pc := 1072) [.inl (B.2.2.1 (i0 + 1))] Cx rfl dL_law_1072 ⟨wi_X5, wc_X5_told, wp_X5_told, by decide, by decide⟩ wl_L_137 wn_X5_told we_X5_told (ww_i1 0 (by decide)) rfl rfl (Nat.le_of_ble_eq_true rfl) (cw_told hC (B.2.2.1 (i0 + 1))) (fun v τ1 hq => ?_)
  obtain ⟨rfl, ⟨R1, hC1⟩, hh1⟩ := hq
  refine lz_a2 (pc2 := 1076) Cx dL_law_1075 rfl ?_
  refine lz_arg (pc := 1076) (k := 1) Cx hi (by omega) dL_law_1076 dL_law_1077 dL_law_1078 dL_law_1079 dL_law_1080 ?_
  refine lz_callI (n := (30, 0)) (d' := mX6_told) (idx := 140) (pc := 1081) [.inl (B.2.2.1 (i0 + 1))] Cx rfl dL_law_1081 ⟨wi_X6, wc_X6_told, wp_X6_told, by decide, by decide⟩ wl_L_140 wn_X6_told we_X6_told (ww_i1 30 (by decide)) rfl rfl (Nat.le_of_ble_eq_true rfl) (mw_told (hM.hi hh1) (B.2.2.1 (i0 + 1))) (fun v τ2 hq => ?_)
  obtain ⟨rfl, hM2, hl2⟩ := hq
  refine lz_icmp (pc := 1084) Cx dL_law_1084 (by decide) ?_
  exact nx _ R1 _ (hC1.low hl2) hM2
theorem arm_31 (Cx : lz_Cx E B) (hi : i0 + 4 ≤ B.2.1) (hC : zC s R τ) (hM : zM s τ) (nx : lz_N E B i0) : lz_W E B 1089 [] (nI i0) τ := by
  have h2048 := Cx.2.2.2.2.2
  refine lz_a1 (pc2 := 1090) Cx dL_law_1089 rfl ?_
  refine lz_callL (n := (0, 0)) (d' := mX5_digest) (idx := 141) (pc := 1090) [] Cx rfl dL_law_1090 ⟨wi_X5, wc_X5_digest, wp_X5_digest, by decide, by decide⟩ wl_L_141 wn_X5_digest we_X5_digest (ww_i1 0 (by decide)) rfl rfl (Nat.le_of_ble_eq_true rfl) (cw_digest hC) (fun v τ1 hq => ?_)
  obtain ⟨rfl, rfl⟩ := hq
  refine lz_a2 (pc2 := 1094) Cx dL_law_1093 rfl ?_
  refine lz_callL (n := (30, 0)) (d' := mX6_digest) (idx := 145) (pc := 1094) [] Cx rfl dL_law_1094 ⟨wi_X6, wc_X6_digest, wp_X6_digest, by decide, by decide⟩ wl_L_145 wn_X6_digest we_X6_digest (ww_i1 30 (by decide)) rfl rfl (Nat.le_of_ble_eq_true rfl) (mw_digest hM) (fun v τ2 hq => ?_)
  obtain ⟨rfl, rfl⟩ := hq
  refine lz_lcmp (pc := 1097) Cx dL_law_1097 dL_law_1098 (by decide) ?_
  exact nx s R _ hC hM
theorem law_loop (Cx : lz_Cx E B) : ∀ (n i0 : Nat) (s : zS) (R : Nat → List Nat) (τ : ww_M), i0 ≤ B.2.1 → B.2.1 + 1 ≤ i0 + n → zC s R τ → zM s τ → lz_W E B 18 [] (nI i0) τ := by
  have h2048 := Cx.2.2.2.2.2
  intro n
  induction n with
  | zero => intro i0 s R τ h1 h2; omega
  | succ n ih =>
    intro i0 s R τ h1 h2 hC hM
    refine lz_head Cx h1 (fun hi => ?_)
    have nx : lz_N E B i0 := lz_next Cx (fun s' R' τ' hi4 hC' hM' => ih (i0 + 4) s' R' τ' hi4 (by omega) hC' hM') hi
    refine lz_sw Cx hi [176, 199, 212, 225, 248, 271, 304, 337, 360, 393, 416, 439, 472, 505, 548, 581, 624, 657, 700, 733, 756, 779, 802, 845, 868, 901, 924, 957, 980, 1023, 1066, 1089] 1103 rfl (fun q hq => ?_) (nx s R τ hC hM)
    simp only [List.mem_cons, List.not_mem_nil, or_false] at hq
    rcases hq with rfl | rfl | rfl | rfl | rfl | rfl | rfl | rfl | rfl | rfl | rfl | rfl | rfl | rfl | rfl | rfl | rfl | rfl | rfl | rfl | rfl | rfl | rfl | rfl | rfl | rfl | rfl | rfl | rfl | rfl | rfl | rfl
    · exact arm_0 Cx hi hC hM nx
    · exact arm_1 Cx hi hC hM nx
    · exact arm_2 Cx hi hC hM nx
    · exact arm_3 Cx hi hC hM nx
    · exact arm_4 Cx hi hC hM nx
    · exact arm_5 Cx hi hC hM nx
    · exact arm_6 Cx hi hC hM nx
    · exact arm_7 Cx hi hC hM nx
    · exact arm_8 Cx hi hC hM nx
    · exact arm_9 Cx hi hC hM nx
    · exact arm_10 Cx hi hC hM nx
    · exact arm_11 Cx hi hC hM nx
    · exact arm_12 Cx hi hC hM nx
    · exact arm_13 Cx hi hC hM nx
    · exact arm_14 Cx hi hC hM nx
    · exact arm_15 Cx hi hC hM nx
    · exact arm_16 Cx hi hC hM nx
    · exact arm_17 Cx hi hC hM nx
    · exact arm_18 Cx hi hC hM nx
    · exact arm_19 Cx hi hC hM nx
    · exact arm_20 Cx hi hC hM nx
    · exact arm_21 Cx hi hC hM nx
    · exact arm_22 Cx hi hC hM nx
    · exact arm_23 Cx hi hC hM nx
    · exact arm_24 Cx hi hC hM nx
    · exact arm_25 Cx hi hC hM nx
    · exact arm_26 Cx hi hC hM nx
    · exact arm_27 Cx hi hC hM nx
    · exact arm_28 Cx hi hC hM nx
    · exact arm_29 Cx hi hC hM nx
    · exact arm_30 Cx hi hC hM nx
    · exact arm_31 Cx hi hC hM nx
end ARMS
