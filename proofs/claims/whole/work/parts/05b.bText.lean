theorem b_X4_accept {l : Launch} {g : ww_G} {τ : ww_M} {a1 : Int32} {Post : Int32 → ww_M → Prop}  (h : ∀ E : ww_E, ((τ (2, 0) 1 < nI 100 → (∃ j1 : Nat, τ (2, 0) 1 = nI j1 ∧ j1 < 100 ∧ ∀ τ2 : ww_M, τ2 = ww_up τ (3, 0) j1 a1 → (∀ τ3 : ww_M, τ3 = ww_up τ2 (2, 0) 1 ((τ2 (2, 0) 1) + (nI 1)) → Post (nI 1) τ3))) ∧ (¬ (τ (2, 0) 1 < nI 100) → Post (nI 0) τ))) : ww_T l g mX4_accept [.inr (.inr (2, 0)), .inl a1] τ (ww_QI Post) := by
  refine ww_enter (P := [some (.inr (.inr (2, 0))), some (.inl a1)]) (by decide) (Nat.le_of_ble_eq_true rfl) rfl (fun E => ?_)
  replace h := h E
  refine ww_aload_n 1 dX4_accept_0 rfl 0 rfl rfl ?_
  refine ww_getI 1 4 dX4_accept_1 wf_X4_15 (ww_i1 2 (by decide)) rfl rfl rfl ?_
  refine ww_aload_n 5 dX4_accept_4 rfl 0 rfl rfl ?_
  refine ww_getR 0 8 dX4_accept_5 wf_X4_9 (ww_i1 2 (by decide)) rfl rfl rfl ?_
  refine ww_alnI 9 dX4_accept_8 (ww_i1 3 (by decide)) rfl rfl ?_
  refine ww_ic_lt 14 12 dX4_accept_9 (by decide) rfl (fun c => ?_) (fun c => ?_)
  · replace h := h.1 c
    refine ww_aload_n 15 dX4_accept_14 rfl 0 rfl rfl ?_
    refine ww_getR 0 18 dX4_accept_15 wf_X4_9 (ww_i1 2 (by decide)) rfl rfl rfl ?_
    refine ww_aload_n 19 dX4_accept_18 rfl 0 rfl rfl ?_
    refine ww_getI 1 22 dX4_accept_19 wf_X4_15 (ww_i1 2 (by decide)) rfl rfl rfl ?_
    refine ww_iload_n 23 dX4_accept_22 rfl 1 rfl rfl ?_
    obtain ⟨j1, hij1, hj1, h⟩ := h
    refine ww_iast j1 24 dX4_accept_23 (ww_i1 3 (by decide)) rfl (by decide) hij1 hj1 rfl (fun τ2 eτ2 => ?_)
    replace h := h τ2 eτ2
    refine ww_aload_n 25 dX4_accept_24 rfl 0 rfl rfl ?_
    refine ww_dup 26 dX4_accept_25 rfl rfl ?_
    refine ww_getI 1 29 dX4_accept_26 wf_X4_15 (ww_i1 2 (by decide)) rfl rfl rfl ?_
    refine ww_iconst (v := nI 1) 30 dX4_accept_29 (by decide) rfl ?_
    refine ww_iadd 31 dX4_accept_30 rfl ?_
    refine ww_putI 1 34 dX4_accept_31 wf_X4_15 fp_X4_1 (ww_i1 2 (by decide)) rfl rfl rfl (fun τ3 eτ3 => ?_)
    replace h := h τ3 eτ3
    refine ww_iconst (v := nI 1) 35 dX4_accept_34 (by decide) rfl ?_
    exact ww_zret dX4_accept_35 rfl (Or.inr rfl) ⟨_, rfl, h⟩
  · replace h := h.2 c
    refine ww_iconst (v := nI 0) 13 dX4_accept_12 (by decide) rfl ?_
    exact ww_zret dX4_accept_13 rfl (Or.inl rfl) ⟨_, rfl, h⟩
theorem b_X4_byteAt {l : Launch} {g : ww_G} {τ : ww_M} {a1 : Int32} {Post : Int32 → ww_M → Prop}  (h : ∀ E : ww_E, ((a1 < nI 0 → Post (-1 : Int32) τ) ∧ (¬ (a1 < nI 0) → ((τ (2, 0) 1 ≤ a1 → Post (-1 : Int32) τ) ∧ (¬ (τ (2, 0) 1 ≤ a1) → ((nI 100 ≤ a1 → Post (-1 : Int32) τ) ∧ (¬ (nI 100 ≤ a1) → (∃ j1 : Nat, a1 = nI j1 ∧ j1 < 100 ∧ Post (τ (3, 0) j1) τ)))))))) : ww_T l g mX4_byteAt [.inr (.inr (2, 0)), .inl a1] τ (ww_QI Post) := by
  refine ww_enter (P := [some (.inr (.inr (2, 0))), some (.inl a1)]) (by decide) (Nat.le_of_ble_eq_true rfl) rfl (fun E => ?_)
  replace h := h E
  refine ww_iload_n 1 dX4_byteAt_0 rfl 1 rfl rfl ?_
  refine ww_if_lt 30 4 dX4_byteAt_1 (by decide) rfl (fun c => ?_) (fun c => ?_)
  · replace h := h.1 c
    refine ww_iconst (v := (-1 : Int32)) 31 dX4_byteAt_30 (by decide) rfl ?_
    exact ww_iret dX4_byteAt_31 rfl ⟨_, rfl, h⟩
  · replace h := h.2 c
    refine ww_iload_n 5 dX4_byteAt_4 rfl 1 rfl rfl ?_
    refine ww_aload_n 6 dX4_byteAt_5 rfl 0 rfl rfl ?_
    refine ww_getI 1 9 dX4_byteAt_6 wf_X4_15 (ww_i1 2 (by decide)) rfl rfl rfl ?_
    refine ww_ic_ge 30 12 dX4_byteAt_9 (by decide) rfl (fun c => ?_) (fun c => ?_)
    · replace h := h.1 c
      refine ww_iconst (v := (-1 : Int32)) 31 dX4_byteAt_30 (by decide) rfl ?_
      exact ww_iret dX4_byteAt_31 rfl ⟨_, rfl, h⟩
    · replace h := h.2 c
      refine ww_iload_n 13 dX4_byteAt_12 rfl 1 rfl rfl ?_
      refine ww_aload_n 14 dX4_byteAt_13 rfl 0 rfl rfl ?_
      refine ww_getR 0 17 dX4_byteAt_14 wf_X4_9 (ww_i1 2 (by decide)) rfl rfl rfl ?_
      refine ww_alnI 18 dX4_byteAt_17 (ww_i1 3 (by decide)) rfl rfl ?_
      refine ww_ic_ge 30 21 dX4_byteAt_18 (by decide) rfl (fun c => ?_) (fun c => ?_)
      · replace h := h.1 c
        refine ww_iconst (v := (-1 : Int32)) 31 dX4_byteAt_30 (by decide) rfl ?_
        exact ww_iret dX4_byteAt_31 rfl ⟨_, rfl, h⟩
      · replace h := h.2 c
        refine ww_aload_n 22 dX4_byteAt_21 rfl 0 rfl rfl ?_
        refine ww_getR 0 25 dX4_byteAt_22 wf_X4_9 (ww_i1 2 (by decide)) rfl rfl rfl ?_
        refine ww_iload_n 26 dX4_byteAt_25 rfl 1 rfl rfl ?_
        obtain ⟨j1, hij1, hj1, h⟩ := h
        refine ww_iald j1 27 dX4_byteAt_26 (ww_i1 3 (by decide)) rfl (by decide) hij1 hj1 rfl ?_
        refine ww_goto 31 dX4_byteAt_27 (by decide) ?_
        exact ww_iret dX4_byteAt_31 rfl ⟨_, rfl, h⟩
theorem b_X4_wrongPlace {l : Launch} {g : ww_G} {τ : ww_M}  {Post : Int32 → ww_M → Prop}  (h : ∀ E : ww_E, (∀ τ1 : ww_M, τ1 = ww_up τ (2, 0) 2 (nI 0) → (∀ τ2 : ww_M, τ2 = ww_up τ1 (2, 0) 3 (nI 0) → (∀ τ3 : ww_M, τ3 = ww_up τ2 (2, 0) 4 (nI 0) → (∀ τ4 : ww_M, τ4 = ww_up τ3 (2, 0) 5 (nI 0) → ww_W g mX4_wrongPlace E (ww_QI Post) 22 [some (.inr (.inr (2, 0))), some (.inl (nI 0))] [] τ4))))) : ww_T l g mX4_wrongPlace [.inr (.inr (2, 0))] τ (ww_QI Post) := by
  refine ww_enter (P := [some (.inr (.inr (2, 0))), none]) (by decide) (Nat.le_of_ble_eq_true rfl) rfl (fun E => ?_)
  replace h := h E
  refine ww_aload_n 1 dX4_wrongPlace_0 rfl 0 rfl rfl ?_
  refine ww_iconst (v := nI 0) 2 dX4_wrongPlace_1 (by decide) rfl ?_
  refine ww_putI 2 5 dX4_wrongPlace_2 wf_X4_19 fp_X4_2 (ww_i1 2 (by decide)) rfl rfl rfl (fun τ1 eτ1 => ?_)
  replace h := h τ1 eτ1
  refine ww_aload_n 6 dX4_wrongPlace_5 rfl 0 rfl rfl ?_
  refine ww_iconst (v := nI 0) 7 dX4_wrongPlace_6 (by decide) rfl ?_
  refine ww_putZ 3 10 dX4_wrongPlace_7 wf_X4_22 fp_X4_3 (ww_i1 2 (by decide)) rfl rfl rfl (Or.inl rfl) (fun τ2 eτ2 => ?_)
  replace h := h τ2 eτ2
  refine ww_aload_n 11 dX4_wrongPlace_10 rfl 0 rfl rfl ?_
  refine ww_iconst (v := nI 0) 12 dX4_wrongPlace_11 (by decide) rfl ?_
  refine ww_putZ 4 15 dX4_wrongPlace_12 wf_X4_26 fp_X4_4 (ww_i1 2 (by decide)) rfl rfl rfl (Or.inl rfl) (fun τ3 eτ3 => ?_)
  replace h := h τ3 eτ3
  refine ww_aload_n 16 dX4_wrongPlace_15 rfl 0 rfl rfl ?_
  refine ww_iconst (v := nI 0) 17 dX4_wrongPlace_16 (by decide) rfl ?_
  refine ww_putZ 5 20 dX4_wrongPlace_17 wf_X4_29 fp_X4_5 (ww_i1 2 (by decide)) rfl rfl rfl (Or.inl rfl) (fun τ4 eτ4 => ?_)
  replace h := h τ4 eτ4
  refine ww_iconst (v := nI 0) 21 dX4_wrongPlace_20 (by decide) rfl ?_
  refine ww_istore_n 22 dX4_wrongPlace_21 rfl 1 rfl (by decide) rfl [some (.inr (.inr (2, 0))), some (.inl (nI 0))] rfl ?_
  exact h
theorem b_X4_wrongPlace_22 {g : ww_G} {E : ww_E} {τ : ww_M} {x1 : Int32} {Post : Int32 → ww_M → Prop}  (h : ((τ (2, 0) 1 ≤ x1 → ((τ (2, 0) 5 = nI 0 → Post (τ (2, 0) 1) τ) ∧ (¬ τ (2, 0) 5 = nI 0 → ((¬ τ (2, 0) 2 = nI 0 → Post (τ (2, 0) 1) τ) ∧ (τ (2, 0) 2 = nI 0 → ((¬ τ (2, 0) 3 = nI 0 → Post (τ (2, 0) 1) τ) ∧ (τ (2, 0) 3 = nI 0 → Post (-1 : Int32) τ))))))) ∧ (¬ (τ (2, 0) 1 ≤ x1) → (∃ Q1 : Int32 → ww_M → Prop, ww_T E.2.1 g mX4_byteAt [.inr (.inr (2, 0)), .inl x1] τ (ww_QI Q1) ∧ ∀ (v2 : Int32) (τ3 : ww_M), Q1 v2 τ3 → (∃ Q4 : Int32 → ww_M → Prop, ww_T E.2.1 g mX4_standsNext [.inr (.inr (2, 0)), .inl v2] τ3 (ww_QI Q4) ∧ ∀ (v5 : Int32) (τ6 : ww_M), Q4 v5 τ6 → (¬ v5 = nI 0 → ww_W g mX4_wrongPlace E (ww_QI Post) 22 [some (.inr (.inr (2, 0))), some (.inl (x1 + nI 1))] [] τ6) ∧ (v5 = nI 0 → Post x1 τ6)))))) : ww_W g mX4_wrongPlace E (ww_QI Post) 22 [some (.inr (.inr (2, 0))), some (.inl x1)] [] τ := by
  refine ww_iload_n 23 dX4_wrongPlace_22 rfl 1 rfl rfl ?_
  refine ww_aload_n 24 dX4_wrongPlace_23 rfl 0 rfl rfl ?_
  refine ww_getI 1 27 dX4_wrongPlace_24 wf_X4_15 (ww_i1 2 (by decide)) rfl rfl rfl ?_
  refine ww_ic_ge 50 30 dX4_wrongPlace_27 (by decide) rfl (fun c => ?_) (fun c => ?_)
  · replace h := h.1 c
    refine ww_aload_n 51 dX4_wrongPlace_50 rfl 0 rfl rfl ?_
    refine ww_getI 5 54 dX4_wrongPlace_51 wf_X4_29 (ww_i1 2 (by decide)) rfl rfl rfl ?_
    refine ww_if_eq 75 57 dX4_wrongPlace_54 (by decide) rfl (fun c => ?_) (fun c => ?_)
    · replace h := h.1 c
      refine ww_aload_n 76 dX4_wrongPlace_75 rfl 0 rfl rfl ?_
      refine ww_getI 1 79 dX4_wrongPlace_76 wf_X4_15 (ww_i1 2 (by decide)) rfl rfl rfl ?_
      exact ww_iret dX4_wrongPlace_79 rfl ⟨_, rfl, h⟩
    · replace h := h.2 c
      refine ww_aload_n 58 dX4_wrongPlace_57 rfl 0 rfl rfl ?_
      refine ww_getI 2 61 dX4_wrongPlace_58 wf_X4_19 (ww_i1 2 (by decide)) rfl rfl rfl ?_
      refine ww_if_ne 75 64 dX4_wrongPlace_61 (by decide) rfl (fun c => ?_) (fun c => ?_)
      · replace h := h.1 c
        refine ww_aload_n 76 dX4_wrongPlace_75 rfl 0 rfl rfl ?_
        refine ww_getI 1 79 dX4_wrongPlace_76 wf_X4_15 (ww_i1 2 (by decide)) rfl rfl rfl ?_
        exact ww_iret dX4_wrongPlace_79 rfl ⟨_, rfl, h⟩
      · replace h := h.2 c
        refine ww_aload_n 65 dX4_wrongPlace_64 rfl 0 rfl rfl ?_
        refine ww_getI 3 68 dX4_wrongPlace_65 wf_X4_22 (ww_i1 2 (by decide)) rfl rfl rfl ?_
        refine ww_if_ne 75 71 dX4_wrongPlace_68 (by decide) rfl (fun c => ?_) (fun c => ?_)
        · replace h := h.1 c
          refine ww_aload_n 76 dX4_wrongPlace_75 rfl 0 rfl rfl ?_
          refine ww_getI 1 79 dX4_wrongPlace_76 wf_X4_15 (ww_i1 2 (by decide)) rfl rfl rfl ?_
          exact ww_iret dX4_wrongPlace_79 rfl ⟨_, rfl, h⟩
        · replace h := h.2 c
          refine ww_iconst (v := (-1 : Int32)) 72 dX4_wrongPlace_71 (by decide) rfl ?_
          refine ww_goto 79 dX4_wrongPlace_72 (by decide) ?_
          exact ww_iret dX4_wrongPlace_79 rfl ⟨_, rfl, h⟩
  · replace h := h.2 c
    refine ww_aload_n 31 dX4_wrongPlace_30 rfl 0 rfl rfl ?_
    refine ww_aload_n 32 dX4_wrongPlace_31 rfl 0 rfl rfl ?_
    refine ww_iload_n 33 dX4_wrongPlace_32 rfl 1 rfl rfl ?_
    obtain ⟨Q1, hT, h⟩ := h
    refine ww_invVI (d' := mX4_byteAt) [.inl x1] rfl 36 dX4_wrongPlace_33 ⟨wi_X4, wc_X4_byteAt, wp_X4_byteAt, by decide, by decide⟩ wl_X4_32 wn_X4_byteAt we_X4_byteAt (ww_i1 2 (by decide)) rfl rfl (Nat.le_of_ble_eq_true rfl) rfl hT (fun v2 τ3 hq => ?_)
    replace h := h v2 τ3 hq
    obtain ⟨Q4, hT, h⟩ := h
    refine ww_invVI (d' := mX4_standsNext) [.inl v2] rfl 39 dX4_wrongPlace_36 ⟨wi_X4, wc_X4_standsNext, wp_X4_standsNext, by decide, by decide⟩ wl_X4_36 wn_X4_standsNext we_X4_standsNext (ww_i1 2 (by decide)) rfl rfl (Nat.le_of_ble_eq_true rfl) rfl hT (fun v5 τ6 hq => ?_)
    replace h := h v5 τ6 hq
    refine ww_if_ne 44 42 dX4_wrongPlace_39 (by decide) rfl (fun c => ?_) (fun c => ?_)
    · replace h := h.1 c
      refine ww_iinc (nI 1) 47 1 dX4_wrongPlace_44 (by decide) rfl rfl (by decide) rfl [some (.inr (.inr (2, 0))), some (.inl (x1 + nI 1))] rfl ?_
      refine ww_goto 22 dX4_wrongPlace_47 (by decide) ?_
      exact h
    · replace h := h.2 c
      refine ww_iload_n 43 dX4_wrongPlace_42 rfl 1 rfl rfl ?_
      exact ww_iret dX4_wrongPlace_43 rfl ⟨_, rfl, h⟩
theorem b_X4_standsNext {l : Launch} {g : ww_G} {τ : ww_M} {a1 : Int32} {Post : Int32 → ww_M → Prop}  (h : ∀ E : ww_E, (∀ τ1 : ww_M, τ1 = ww_up τ (2, 0) 4 (nI 0) → (¬ a1 = nI 32 → (∃ Q2 : Int32 → ww_M → Prop, ww_T E.2.1 g mX4_figureFor [.inl a1] τ1 (ww_QI Q2) ∧ ∀ (v3 : Int32) (τ4 : ww_M), Q2 v3 τ4 → (v3 = (-1 : Int32) → (∃ Q5 : Int32 → ww_M → Prop, ww_T E.2.1 g mX4_letterFor [.inl a1] τ4 (ww_QI Q5) ∧ ∀ (v6 : Int32) (τ7 : ww_M), Q5 v6 τ7 → (v6 = (-1 : Int32) → ((a1 = nI 40 → (∃ Q8 : Int32 → ww_M → Prop, ww_T E.2.1 g mX4_bracketOpens [.inr (.inr (2, 0))] τ7 (ww_QI Q8) ∧ ∀ (v9 : Int32) (τ10 : ww_M), Q8 v9 τ10 → (v9 = nI 0 ∨ v9 = nI 1) ∧ Post v9 τ10)) ∧ (a1 = nI 41 → (∃ Q11 : Int32 → ww_M → Prop, ww_T E.2.1 g mX4_bracketCloses [.inr (.inr (2, 0))] τ7 (ww_QI Q11) ∧ ∀ (v12 : Int32) (τ13 : ww_M), Q11 v12 τ13 → (v12 = nI 0 ∨ v12 = nI 1) ∧ Post v12 τ13)) ∧ (a1 = nI 59 → (∃ Q14 : Int32 → ww_M → Prop, ww_T E.2.1 g mX4_wordEnds [.inr (.inr (2, 0))] τ7 (ww_QI Q14) ∧ ∀ (v15 : Int32) (τ16 : ww_M), Q14 v15 τ16 → (v15 = nI 0 ∨ v15 = nI 1) ∧ Post v15 τ16)) ∧ (¬ a1 = nI 40 → ¬ a1 = nI 41 → ¬ a1 = nI 59 → Post (nI 0) τ7))) ∧ (¬ v6 = (-1 : Int32) → (∃ Q17 : Int32 → ww_M → Prop, ww_T E.2.1 g mX4_factorEnds [.inr (.inr (2, 0))] τ7 (ww_QI Q17) ∧ ∀ (v18 : Int32) (τ19 : ww_M), Q17 v18 τ19 → (v18 = nI 0 ∨ v18 = nI 1) ∧ Post v18 τ19)))) ∧ (¬ v3 = (-1 : Int32) → ((τ (2, 0) 4 = nI 0 ∨ τ (2, 0) 4 = nI 1) ∧ Post (τ (2, 0) 4) τ4)))) ∧ (a1 = nI 32 → Post (nI 1) τ1))) : ww_T l g mX4_standsNext [.inr (.inr (2, 0)), .inl a1] τ (ww_QI Post) := by
  refine ww_enter (P := [some (.inr (.inr (2, 0))), some (.inl a1), none]) (by decide) (Nat.le_of_ble_eq_true rfl) rfl (fun E => ?_)
  replace h := h E
  refine ww_aload_n 1 dX4_standsNext_0 rfl 0 rfl rfl ?_
  refine ww_getI 4 4 dX4_standsNext_1 wf_X4_26 (ww_i1 2 (by decide)) rfl rfl rfl ?_
  refine ww_istore_n 5 dX4_standsNext_4 rfl 2 rfl (by decide) rfl [some (.inr (.inr (2, 0))), some (.inl a1), some (.inl (τ (2, 0) 4))] rfl ?_
  refine ww_aload_n 6 dX4_standsNext_5 rfl 0 rfl rfl ?_
  refine ww_iconst (v := nI 0) 7 dX4_standsNext_6 (by decide) rfl ?_
  refine ww_putZ 4 10 dX4_standsNext_7 wf_X4_26 fp_X4_4 (ww_i1 2 (by decide)) rfl rfl rfl (Or.inl rfl) (fun τ1 eτ1 => ?_)
  replace h := h τ1 eτ1
  refine ww_iload_n 11 dX4_standsNext_10 rfl 1 rfl rfl ?_
  refine ww_bipush (v := nI 32) 13 dX4_standsNext_11 (by decide) rfl ?_
  refine ww_ic_ne 18 16 dX4_standsNext_13 (by decide) rfl (fun c => ?_) (fun c => ?_)
  · replace h := h.1 c
    refine ww_iload_n 19 dX4_standsNext_18 rfl 1 rfl rfl ?_
    obtain ⟨Q2, hT, h⟩ := h
    refine ww_invSI (d' := mX4_figureFor) [.inl a1] rfl 22 dX4_standsNext_19 ⟨wi_X4, wc_X4_figureFor, wp_X4_figureFor, by decide, by decide⟩ (Or.inl wl_X4_40) wn_X4_figureFor (Nat.le_of_ble_eq_true rfl) rfl hT (fun v3 τ4 hq => ?_)
    replace h := h v3 τ4 hq
    refine ww_iconst (v := (-1 : Int32)) 23 dX4_standsNext_22 (by decide) rfl ?_
    refine ww_ic_eq 28 26 dX4_standsNext_23 (by decide) rfl (fun c => ?_) (fun c => ?_)
    · replace h := h.1 c
      refine ww_iload_n 29 dX4_standsNext_28 rfl 1 rfl rfl ?_
      obtain ⟨Q5, hT, h⟩ := h
      refine ww_invSI (d' := mX4_letterFor) [.inl a1] rfl 32 dX4_standsNext_29 ⟨wi_X4, wc_X4_letterFor, wp_X4_letterFor, by decide, by decide⟩ (Or.inl wl_X4_43) wn_X4_letterFor (Nat.le_of_ble_eq_true rfl) rfl hT (fun v6 τ7 hq => ?_)
      replace h := h v6 τ7 hq
      refine ww_iconst (v := (-1 : Int32)) 33 dX4_standsNext_32 (by decide) rfl ?_
      refine ww_ic_eq 41 36 dX4_standsNext_33 (by decide) rfl (fun c => ?_) (fun c => ?_)
      · replace h := h.1 c
        refine ww_iload_n 42 dX4_standsNext_41 rfl 1 rfl rfl ?_
        refine ww_lsw [(nI 40, 76), (nI 41, 81), (nI 59, 86)] 91 dX4_standsNext_42 (by decide) (by decide) (by decide) ?_ ?_
        · refine List.forall_mem_cons.mpr ⟨fun c => ?_, List.forall_mem_cons.mpr ⟨fun c => ?_, List.forall_mem_cons.mpr ⟨fun c => ?_, fun _ h9 => absurd h9 List.not_mem_nil⟩⟩⟩
          · replace h := h.1 c
            refine ww_aload_n 77 dX4_standsNext_76 rfl 0 rfl rfl ?_
            obtain ⟨Q8, hT, h⟩ := h
            refine ww_invVI (d' := mX4_bracketOpens) [] rfl 80 dX4_standsNext_77 ⟨wi_X4, wc_X4_bracketOpens, wp_X4_bracketOpens, by decide, by decide⟩ wl_X4_50 wn_X4_bracketOpens we_X4_bracketOpens (ww_i1 2 (by decide)) rfl rfl (Nat.le_of_ble_eq_true rfl) rfl hT (fun v9 τ10 hq => ?_)
            replace h := h v9 τ10 hq
            exact ww_zret dX4_standsNext_80 rfl h.1 ⟨_, rfl, h.2⟩
          · replace h := h.2.1 c
            refine ww_aload_n 82 dX4_standsNext_81 rfl 0 rfl rfl ?_
            obtain ⟨Q11, hT, h⟩ := h
            refine ww_invVI (d' := mX4_bracketCloses) [] rfl 85 dX4_standsNext_82 ⟨wi_X4, wc_X4_bracketCloses, wp_X4_bracketCloses, by decide, by decide⟩ wl_X4_53 wn_X4_bracketCloses we_X4_bracketCloses (ww_i1 2 (by decide)) rfl rfl (Nat.le_of_ble_eq_true rfl) rfl hT (fun v12 τ13 hq => ?_)
            replace h := h v12 τ13 hq
            exact ww_zret dX4_standsNext_85 rfl h.1 ⟨_, rfl, h.2⟩
          · replace h := h.2.2.1 c
            refine ww_aload_n 87 dX4_standsNext_86 rfl 0 rfl rfl ?_
            obtain ⟨Q14, hT, h⟩ := h
            refine ww_invVI (d' := mX4_wordEnds) [] rfl 90 dX4_standsNext_87 ⟨wi_X4, wc_X4_wordEnds, wp_X4_wordEnds, by decide, by decide⟩ wl_X4_56 wn_X4_wordEnds we_X4_wordEnds (ww_i1 2 (by decide)) rfl rfl (Nat.le_of_ble_eq_true rfl) rfl hT (fun v15 τ16 hq => ?_)
            replace h := h v15 τ16 hq
            exact ww_zret dX4_standsNext_90 rfl h.1 ⟨_, rfl, h.2⟩
        · intro c
          replace h := h.2.2.2 (c _ (List.mem_of_getElem? (i := 0) rfl)) (c _ (List.mem_of_getElem? (i := 1) rfl)) (c _ (List.mem_of_getElem? (i := 2) rfl))
          refine ww_iconst (v := nI 0) 92 dX4_standsNext_91 (by decide) rfl ?_
          exact ww_zret dX4_standsNext_92 rfl (Or.inl rfl) ⟨_, rfl, h⟩
      · replace h := h.2 c
        refine ww_aload_n 37 dX4_standsNext_36 rfl 0 rfl rfl ?_
        obtain ⟨Q17, hT, h⟩ := h
        refine ww_invVI (d' := mX4_factorEnds) [] rfl 40 dX4_standsNext_37 ⟨wi_X4, wc_X4_factorEnds, wp_X4_factorEnds, by decide, by decide⟩ wl_X4_46 wn_X4_factorEnds we_X4_factorEnds (ww_i1 2 (by decide)) rfl rfl (Nat.le_of_ble_eq_true rfl) rfl hT (fun v18 τ19 hq => ?_)
        replace h := h v18 τ19 hq
        exact ww_zret dX4_standsNext_40 rfl h.1 ⟨_, rfl, h.2⟩
    · replace h := h.2 c
      refine ww_iload_n 27 dX4_standsNext_26 rfl 2 rfl rfl ?_
      exact ww_zret dX4_standsNext_27 rfl h.1 ⟨_, rfl, h.2⟩
  · replace h := h.2 c
    refine ww_iconst (v := nI 1) 17 dX4_standsNext_16 (by decide) rfl ?_
    exact ww_zret dX4_standsNext_17 rfl (Or.inr rfl) ⟨_, rfl, h⟩
theorem b_X4_factorEnds {l : Launch} {g : ww_G} {τ : ww_M}  {Post : Int32 → ww_M → Prop}  (h : ∀ E : ww_E, (∀ τ1 : ww_M, τ1 = ww_up τ (2, 0) 3 (nI 1) → (∀ τ2 : ww_M, τ2 = ww_up τ1 (2, 0) 4 (nI 1) → Post (nI 1) τ2))) : ww_T l g mX4_factorEnds [.inr (.inr (2, 0))] τ (ww_QI Post) := by
  refine ww_enter (P := [some (.inr (.inr (2, 0)))]) (by decide) (Nat.le_of_ble_eq_true rfl) rfl (fun E => ?_)
  replace h := h E
  refine ww_aload_n 1 dX4_factorEnds_0 rfl 0 rfl rfl ?_
  refine ww_iconst (v := nI 1) 2 dX4_factorEnds_1 (by decide) rfl ?_
  refine ww_putZ 3 5 dX4_factorEnds_2 wf_X4_22 fp_X4_3 (ww_i1 2 (by decide)) rfl rfl rfl (Or.inr rfl) (fun τ1 eτ1 => ?_)
  replace h := h τ1 eτ1
  refine ww_aload_n 6 dX4_factorEnds_5 rfl 0 rfl rfl ?_
  refine ww_iconst (v := nI 1) 7 dX4_factorEnds_6 (by decide) rfl ?_
  refine ww_putZ 4 10 dX4_factorEnds_7 wf_X4_26 fp_X4_4 (ww_i1 2 (by decide)) rfl rfl rfl (Or.inr rfl) (fun τ2 eτ2 => ?_)
  replace h := h τ2 eτ2
  refine ww_iconst (v := nI 1) 11 dX4_factorEnds_10 (by decide) rfl ?_
  exact ww_zret dX4_factorEnds_11 rfl (Or.inr rfl) ⟨_, rfl, h⟩
theorem b_X4_bracketOpens {l : Launch} {g : ww_G} {τ : ww_M}  {Post : Int32 → ww_M → Prop}  (h : ∀ E : ww_E, ((τ (2, 0) 2 < nI 4 → (∀ τ1 : ww_M, τ1 = ww_up τ (2, 0) 2 ((τ (2, 0) 2) + (nI 1)) → (∀ τ2 : ww_M, τ2 = ww_up τ1 (2, 0) 3 (nI 0) → Post (nI 1) τ2))) ∧ (¬ (τ (2, 0) 2 < nI 4) → Post (nI 0) τ))) : ww_T l g mX4_bracketOpens [.inr (.inr (2, 0))] τ (ww_QI Post) := by
  refine ww_enter (P := [some (.inr (.inr (2, 0)))]) (by decide) (Nat.le_of_ble_eq_true rfl) rfl (fun E => ?_)
  replace h := h E
  refine ww_aload_n 1 dX4_bracketOpens_0 rfl 0 rfl rfl ?_
  refine ww_getI 2 4 dX4_bracketOpens_1 wf_X4_19 (ww_i1 2 (by decide)) rfl rfl rfl ?_
  refine ww_iconst (v := nI 4) 5 dX4_bracketOpens_4 (by decide) rfl ?_
  refine ww_ic_lt 10 8 dX4_bracketOpens_5 (by decide) rfl (fun c => ?_) (fun c => ?_)
  · replace h := h.1 c
    refine ww_aload_n 11 dX4_bracketOpens_10 rfl 0 rfl rfl ?_
    refine ww_dup 12 dX4_bracketOpens_11 rfl rfl ?_
    refine ww_getI 2 15 dX4_bracketOpens_12 wf_X4_19 (ww_i1 2 (by decide)) rfl rfl rfl ?_
    refine ww_iconst (v := nI 1) 16 dX4_bracketOpens_15 (by decide) rfl ?_
    refine ww_iadd 17 dX4_bracketOpens_16 rfl ?_
    refine ww_putI 2 20 dX4_bracketOpens_17 wf_X4_19 fp_X4_2 (ww_i1 2 (by decide)) rfl rfl rfl (fun τ1 eτ1 => ?_)
    replace h := h τ1 eτ1
    refine ww_aload_n 21 dX4_bracketOpens_20 rfl 0 rfl rfl ?_
    refine ww_iconst (v := nI 0) 22 dX4_bracketOpens_21 (by decide) rfl ?_
    refine ww_putZ 3 25 dX4_bracketOpens_22 wf_X4_22 fp_X4_3 (ww_i1 2 (by decide)) rfl rfl rfl (Or.inl rfl) (fun τ2 eτ2 => ?_)
    replace h := h τ2 eτ2
    refine ww_iconst (v := nI 1) 26 dX4_bracketOpens_25 (by decide) rfl ?_
    exact ww_zret dX4_bracketOpens_26 rfl (Or.inr rfl) ⟨_, rfl, h⟩
  · replace h := h.2 c
    refine ww_iconst (v := nI 0) 9 dX4_bracketOpens_8 (by decide) rfl ?_
    exact ww_zret dX4_bracketOpens_9 rfl (Or.inl rfl) ⟨_, rfl, h⟩
theorem b_X4_bracketCloses {l : Launch} {g : ww_G} {τ : ww_M}  {Post : Int32 → ww_M → Prop}  (h : ∀ E : ww_E, ((τ (2, 0) 2 = nI 0 → Post (nI 0) τ) ∧ (¬ τ (2, 0) 2 = nI 0 → ((¬ τ (2, 0) 3 = nI 0 → (∀ τ1 : ww_M, τ1 = ww_up τ (2, 0) 2 ((τ (2, 0) 2) - (nI 1)) → (∃ Q2 : Int32 → ww_M → Prop, ww_T E.2.1 g mX4_factorEnds [.inr (.inr (2, 0))] τ1 (ww_QI Q2) ∧ ∀ (v3 : Int32) (τ4 : ww_M), Q2 v3 τ4 → (v3 = nI 0 ∨ v3 = nI 1) ∧ Post v3 τ4))) ∧ (τ (2, 0) 3 = nI 0 → Post (nI 0) τ))))) : ww_T l g mX4_bracketCloses [.inr (.inr (2, 0))] τ (ww_QI Post) := by
  refine ww_enter (P := [some (.inr (.inr (2, 0)))]) (by decide) (Nat.le_of_ble_eq_true rfl) rfl (fun E => ?_)
  replace h := h E
  refine ww_aload_n 1 dX4_bracketCloses_0 rfl 0 rfl rfl ?_
  refine ww_getI 2 4 dX4_bracketCloses_1 wf_X4_19 (ww_i1 2 (by decide)) rfl rfl rfl ?_
  refine ww_if_eq 14 7 dX4_bracketCloses_4 (by decide) rfl (fun c => ?_) (fun c => ?_)
  · replace h := h.1 c
    refine ww_iconst (v := nI 0) 15 dX4_bracketCloses_14 (by decide) rfl ?_
    exact ww_zret dX4_bracketCloses_15 rfl (Or.inl rfl) ⟨_, rfl, h⟩
  · replace h := h.2 c
    refine ww_aload_n 8 dX4_bracketCloses_7 rfl 0 rfl rfl ?_
    refine ww_getI 3 11 dX4_bracketCloses_8 wf_X4_22 (ww_i1 2 (by decide)) rfl rfl rfl ?_
    refine ww_if_ne 16 14 dX4_bracketCloses_11 (by decide) rfl (fun c => ?_) (fun c => ?_)
    · replace h := h.1 c
      refine ww_aload_n 17 dX4_bracketCloses_16 rfl 0 rfl rfl ?_
      refine ww_dup 18 dX4_bracketCloses_17 rfl rfl ?_
      refine ww_getI 2 21 dX4_bracketCloses_18 wf_X4_19 (ww_i1 2 (by decide)) rfl rfl rfl ?_
      refine ww_iconst (v := nI 1) 22 dX4_bracketCloses_21 (by decide) rfl ?_
      refine ww_isub 23 dX4_bracketCloses_22 rfl ?_
      refine ww_putI 2 26 dX4_bracketCloses_23 wf_X4_19 fp_X4_2 (ww_i1 2 (by decide)) rfl rfl rfl (fun τ1 eτ1 => ?_)
      replace h := h τ1 eτ1
      refine ww_aload_n 27 dX4_bracketCloses_26 rfl 0 rfl rfl ?_
      obtain ⟨Q2, hT, h⟩ := h
      refine ww_invVI (d' := mX4_factorEnds) [] rfl 30 dX4_bracketCloses_27 ⟨wi_X4, wc_X4_factorEnds, wp_X4_factorEnds, by decide, by decide⟩ wl_X4_46 wn_X4_factorEnds we_X4_factorEnds (ww_i1 2 (by decide)) rfl rfl (Nat.le_of_ble_eq_true rfl) rfl hT (fun v3 τ4 hq => ?_)
      replace h := h v3 τ4 hq
      exact ww_zret dX4_bracketCloses_30 rfl h.1 ⟨_, rfl, h.2⟩
    · replace h := h.2 c
      refine ww_iconst (v := nI 0) 15 dX4_bracketCloses_14 (by decide) rfl ?_
      exact ww_zret dX4_bracketCloses_15 rfl (Or.inl rfl) ⟨_, rfl, h⟩
theorem b_X4_wordEnds {l : Launch} {g : ww_G} {τ : ww_M}  {Post : Int32 → ww_M → Prop}  (h : ∀ E : ww_E, ((nI 0 < τ (2, 0) 2 → Post (nI 0) τ) ∧ (¬ (nI 0 < τ (2, 0) 2) → ((¬ τ (2, 0) 3 = nI 0 → (∀ τ1 : ww_M, τ1 = ww_up τ (2, 0) 3 (nI 0) → (∀ τ2 : ww_M, τ2 = ww_up τ1 (2, 0) 5 (nI 1) → Post (nI 1) τ2))) ∧ (τ (2, 0) 3 = nI 0 → Post (nI 0) τ))))) : ww_T l g mX4_wordEnds [.inr (.inr (2, 0))] τ (ww_QI Post) := by
  refine ww_enter (P := [some (.inr (.inr (2, 0)))]) (by decide) (Nat.le_of_ble_eq_true rfl) rfl (fun E => ?_)
  replace h := h E
  refine ww_aload_n 1 dX4_wordEnds_0 rfl 0 rfl rfl ?_
  refine ww_getI 2 4 dX4_wordEnds_1 wf_X4_19 (ww_i1 2 (by decide)) rfl rfl rfl ?_
  refine ww_if_gt 14 7 dX4_wordEnds_4 (by decide) rfl (fun c => ?_) (fun c => ?_)
  · replace h := h.1 c
    refine ww_iconst (v := nI 0) 15 dX4_wordEnds_14 (by decide) rfl ?_
    exact ww_zret dX4_wordEnds_15 rfl (Or.inl rfl) ⟨_, rfl, h⟩
  · replace h := h.2 c
    refine ww_aload_n 8 dX4_wordEnds_7 rfl 0 rfl rfl ?_
    refine ww_getI 3 11 dX4_wordEnds_8 wf_X4_22 (ww_i1 2 (by decide)) rfl rfl rfl ?_
    refine ww_if_ne 16 14 dX4_wordEnds_11 (by decide) rfl (fun c => ?_) (fun c => ?_)
    · replace h := h.1 c
      refine ww_aload_n 17 dX4_wordEnds_16 rfl 0 rfl rfl ?_
      refine ww_iconst (v := nI 0) 18 dX4_wordEnds_17 (by decide) rfl ?_
      refine ww_putZ 3 21 dX4_wordEnds_18 wf_X4_22 fp_X4_3 (ww_i1 2 (by decide)) rfl rfl rfl (Or.inl rfl) (fun τ1 eτ1 => ?_)
      replace h := h τ1 eτ1
      refine ww_aload_n 22 dX4_wordEnds_21 rfl 0 rfl rfl ?_
      refine ww_iconst (v := nI 1) 23 dX4_wordEnds_22 (by decide) rfl ?_
      refine ww_putZ 5 26 dX4_wordEnds_23 wf_X4_29 fp_X4_5 (ww_i1 2 (by decide)) rfl rfl rfl (Or.inr rfl) (fun τ2 eτ2 => ?_)
      replace h := h τ2 eτ2
      refine ww_iconst (v := nI 1) 27 dX4_wordEnds_26 (by decide) rfl ?_
      exact ww_zret dX4_wordEnds_27 rfl (Or.inr rfl) ⟨_, rfl, h⟩
    · replace h := h.2 c
      refine ww_iconst (v := nI 0) 15 dX4_wordEnds_14 (by decide) rfl ?_
      exact ww_zret dX4_wordEnds_15 rfl (Or.inl rfl) ⟨_, rfl, h⟩
theorem b_X4_letterFor {l : Launch} {g : ww_G} {τ : ww_M} {a0 : Int32} {Post : Int32 → ww_M → Prop}  (h : ∀ E : ww_E, ((a0 < nI 97 → ww_W g mX4_letterFor E (ww_QI Post) 17 [some (.inl a0)] [] τ) ∧ (¬ (a0 < nI 97) → ((nI 100 < a0 → ww_W g mX4_letterFor E (ww_QI Post) 17 [some (.inl a0)] [] τ) ∧ (¬ (nI 100 < a0) → Post (a0 - (nI 97)) τ))))) : ww_T l g mX4_letterFor [.inl a0] τ (ww_QI Post) := by
  refine ww_enter (P := [some (.inl a0)]) (by decide) (Nat.le_of_ble_eq_true rfl) rfl (fun E => ?_)
  replace h := h E
  refine ww_iload_n 1 dX4_letterFor_0 rfl 0 rfl rfl ?_
  refine ww_bipush (v := nI 97) 3 dX4_letterFor_1 (by decide) rfl ?_
  refine ww_ic_lt 17 6 dX4_letterFor_3 (by decide) rfl (fun c => ?_) (fun c => ?_)
  · replace h := h.1 c
    exact h
  · replace h := h.2 c
    refine ww_iload_n 7 dX4_letterFor_6 rfl 0 rfl rfl ?_
    refine ww_bipush (v := nI 100) 9 dX4_letterFor_7 (by decide) rfl ?_
    refine ww_ic_gt 17 12 dX4_letterFor_9 (by decide) rfl (fun c => ?_) (fun c => ?_)
    · replace h := h.1 c
      exact h
    · replace h := h.2 c
      refine ww_iload_n 13 dX4_letterFor_12 rfl 0 rfl rfl ?_
      refine ww_bipush (v := nI 97) 15 dX4_letterFor_13 (by decide) rfl ?_
      refine ww_isub 16 dX4_letterFor_15 rfl ?_
      exact ww_iret dX4_letterFor_16 rfl ⟨_, rfl, h⟩
theorem b_X4_letterFor_17 {g : ww_G} {E : ww_E} {τ : ww_M} {x0 : Int32} {Post : Int32 → ww_M → Prop}  (h : ((x0 < nI 65 → Post (-1 : Int32) τ) ∧ (¬ (x0 < nI 65) → ((nI 68 < x0 → Post (-1 : Int32) τ) ∧ (¬ (nI 68 < x0) → Post ((x0 - (nI 65)) + (nI 4)) τ))))) : ww_W g mX4_letterFor E (ww_QI Post) 17 [some (.inl x0)] [] τ := by
  refine ww_iload_n 18 dX4_letterFor_17 rfl 0 rfl rfl ?_
  refine ww_bipush (v := nI 65) 20 dX4_letterFor_18 (by decide) rfl ?_
  refine ww_ic_lt 38 23 dX4_letterFor_20 (by decide) rfl (fun c => ?_) (fun c => ?_)
  · replace h := h.1 c
    refine ww_iconst (v := (-1 : Int32)) 39 dX4_letterFor_38 (by decide) rfl ?_
    exact ww_iret dX4_letterFor_39 rfl ⟨_, rfl, h⟩
  · replace h := h.2 c
    refine ww_iload_n 24 dX4_letterFor_23 rfl 0 rfl rfl ?_
    refine ww_bipush (v := nI 68) 26 dX4_letterFor_24 (by decide) rfl ?_
    refine ww_ic_gt 38 29 dX4_letterFor_26 (by decide) rfl (fun c => ?_) (fun c => ?_)
    · replace h := h.1 c
      refine ww_iconst (v := (-1 : Int32)) 39 dX4_letterFor_38 (by decide) rfl ?_
      exact ww_iret dX4_letterFor_39 rfl ⟨_, rfl, h⟩
    · replace h := h.2 c
      refine ww_iload_n 30 dX4_letterFor_29 rfl 0 rfl rfl ?_
      refine ww_bipush (v := nI 65) 32 dX4_letterFor_30 (by decide) rfl ?_
      refine ww_isub 33 dX4_letterFor_32 rfl ?_
      refine ww_iconst (v := nI 4) 34 dX4_letterFor_33 (by decide) rfl ?_
      refine ww_iadd 35 dX4_letterFor_34 rfl ?_
      refine ww_goto 39 dX4_letterFor_35 (by decide) ?_
      exact ww_iret dX4_letterFor_39 rfl ⟨_, rfl, h⟩
theorem b_X4_figureFor {l : Launch} {g : ww_G} {τ : ww_M} {a0 : Int32} {Post : Int32 → ww_M → Prop}  (h : ∀ E : ww_E, ((a0 < nI 49 → Post (-1 : Int32) τ) ∧ (¬ (a0 < nI 49) → ((nI 57 < a0 → Post (-1 : Int32) τ) ∧ (¬ (nI 57 < a0) → Post (a0 - (nI 48)) τ))))) : ww_T l g mX4_figureFor [.inl a0] τ (ww_QI Post) := by
  refine ww_enter (P := [some (.inl a0)]) (by decide) (Nat.le_of_ble_eq_true rfl) rfl (fun E => ?_)
  replace h := h E
  refine ww_iload_n 1 dX4_figureFor_0 rfl 0 rfl rfl ?_
  refine ww_bipush (v := nI 49) 3 dX4_figureFor_1 (by decide) rfl ?_
  refine ww_ic_lt 19 6 dX4_figureFor_3 (by decide) rfl (fun c => ?_) (fun c => ?_)
  · replace h := h.1 c
    refine ww_iconst (v := (-1 : Int32)) 20 dX4_figureFor_19 (by decide) rfl ?_
    exact ww_iret dX4_figureFor_20 rfl ⟨_, rfl, h⟩
  · replace h := h.2 c
    refine ww_iload_n 7 dX4_figureFor_6 rfl 0 rfl rfl ?_
    refine ww_bipush (v := nI 57) 9 dX4_figureFor_7 (by decide) rfl ?_
    refine ww_ic_gt 19 12 dX4_figureFor_9 (by decide) rfl (fun c => ?_) (fun c => ?_)
    · replace h := h.1 c
      refine ww_iconst (v := (-1 : Int32)) 20 dX4_figureFor_19 (by decide) rfl ?_
      exact ww_iret dX4_figureFor_20 rfl ⟨_, rfl, h⟩
    · replace h := h.2 c
      refine ww_iload_n 13 dX4_figureFor_12 rfl 0 rfl rfl ?_
      refine ww_bipush (v := nI 48) 15 dX4_figureFor_13 (by decide) rfl ?_
      refine ww_isub 16 dX4_figureFor_15 rfl ?_
      refine ww_goto 20 dX4_figureFor_16 (by decide) ?_
      exact ww_iret dX4_figureFor_20 rfl ⟨_, rfl, h⟩
