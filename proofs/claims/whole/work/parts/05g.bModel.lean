theorem b_X6_in {l : Launch} {g : ww_G} {τ : ww_M} {a0 : Int64} {a2 : Int64} {a4 : Int64} {Post : Int32 → ww_M → Prop}  (h : ∀ E : ww_E, ((lg_cmp a0 a2 < nI 0 → Post (nI 0) τ) ∧ (¬ (lg_cmp a0 a2 < nI 0) → ((nI 0 < lg_cmp a0 a4 → Post (nI 0) τ) ∧ (¬ (nI 0 < lg_cmp a0 a4) → Post (nI 1) τ))))) : ww_T l g mX6_in [.inr (.inl (a0)), .inr (.inl (a2)), .inr (.inl (a4))] τ (ww_QI Post) := by
  refine ww_enter (P := [some (.inr (.inl (a0))), none, some (.inr (.inl (a2))), none, some (.inr (.inl (a4))), none]) (by decide) (Nat.le_of_ble_eq_true rfl) rfl (fun E => ?_)
  replace h := h E
  refine ww_lload_n 1 dX6_in_0 rfl 0 rfl rfl ?_
  refine ww_lload_n 2 dX6_in_1 rfl 2 rfl rfl ?_
  refine ww_lcmp 3 dX6_in_2 rfl ?_
  refine ww_if_lt 17 6 dX6_in_3 (by decide) rfl (fun c => ?_) (fun c => ?_)
  · replace h := h.1 c
    refine ww_iconst (v := nI 0) 18 dX6_in_17 (by decide) rfl ?_
    exact ww_zret dX6_in_18 rfl (Or.inl rfl) ⟨_, rfl, h⟩
  · replace h := h.2 c
    refine ww_lload_n 7 dX6_in_6 rfl 0 rfl rfl ?_
    refine ww_lload 9 4 dX6_in_7 rfl rfl ?_
    refine ww_lcmp 10 dX6_in_9 rfl ?_
    refine ww_if_gt 17 13 dX6_in_10 (by decide) rfl (fun c => ?_) (fun c => ?_)
    · replace h := h.1 c
      refine ww_iconst (v := nI 0) 18 dX6_in_17 (by decide) rfl ?_
      exact ww_zret dX6_in_18 rfl (Or.inl rfl) ⟨_, rfl, h⟩
    · replace h := h.2 c
      refine ww_iconst (v := nI 1) 14 dX6_in_13 (by decide) rfl ?_
      refine ww_goto 18 dX6_in_14 (by decide) ?_
      exact ww_zret dX6_in_18 rfl (Or.inr rfl) ⟨_, rfl, h⟩
theorem b_X6_bad {l : Launch} {g : ww_G} {τ : ww_M}  {Post : Int32 → ww_M → Prop}  (h : ∀ E : ww_E, (∃ j1 : Nat, nI 0 = nI j1 ∧ j1 < 3 ∧ (∃ j2 : Nat, nI 0 = nI j2 ∧ j2 < 3 ∧ ∀ τ3 : ww_M, τ3 = ww_up τ (38, 0) j2 ((τ (38, 0) j1) + (nI 1)) → Post (-2 : Int32) τ3))) : ww_T l g mX6_bad [.inr (.inr (30, 0))] τ (ww_QI Post) := by
  refine ww_enter (P := [some (.inr (.inr (30, 0)))]) (by decide) (Nat.le_of_ble_eq_true rfl) rfl (fun E => ?_)
  replace h := h E
  refine ww_aload_n 1 dX6_bad_0 rfl 0 rfl rfl ?_
  refine ww_getR 9 4 dX6_bad_1 wf_X6_31 (ww_i1 30 (by decide)) rfl rfl rfl ?_
  refine ww_iconst (v := nI 0) 5 dX6_bad_4 (by decide) rfl ?_
  refine ww_dup2 6 dX6_bad_5 rfl rfl rfl ?_
  obtain ⟨j1, hij1, hj1, h⟩ := h
  refine ww_iald j1 7 dX6_bad_6 (ww_i1 38 (by decide)) rfl (by decide) hij1 hj1 rfl ?_
  refine ww_iconst (v := nI 1) 8 dX6_bad_7 (by decide) rfl ?_
  refine ww_iadd 9 dX6_bad_8 rfl ?_
  obtain ⟨j2, hij2, hj2, h⟩ := h
  refine ww_iast j2 10 dX6_bad_9 (ww_i1 38 (by decide)) rfl (by decide) hij2 hj2 rfl (fun τ3 eτ3 => ?_)
  replace h := h τ3 eτ3
  refine ww_bipush (v := (-2 : Int32)) 12 dX6_bad_10 (by decide) rfl ?_
  exact ww_iret dX6_bad_12 rfl ⟨_, rfl, h⟩
theorem b_X6_no {l : Launch} {g : ww_G} {τ : ww_M}  {Post : Int32 → ww_M → Prop}  (h : ∀ E : ww_E, (∃ j1 : Nat, nI 1 = nI j1 ∧ j1 < 3 ∧ (∃ j2 : Nat, nI 1 = nI j2 ∧ j2 < 3 ∧ ∀ τ3 : ww_M, τ3 = ww_up τ (38, 0) j2 ((τ (38, 0) j1) + (nI 1)) → Post (-3 : Int32) τ3))) : ww_T l g mX6_no [.inr (.inr (30, 0))] τ (ww_QI Post) := by
  refine ww_enter (P := [some (.inr (.inr (30, 0)))]) (by decide) (Nat.le_of_ble_eq_true rfl) rfl (fun E => ?_)
  replace h := h E
  refine ww_aload_n 1 dX6_no_0 rfl 0 rfl rfl ?_
  refine ww_getR 9 4 dX6_no_1 wf_X6_31 (ww_i1 30 (by decide)) rfl rfl rfl ?_
  refine ww_iconst (v := nI 1) 5 dX6_no_4 (by decide) rfl ?_
  refine ww_dup2 6 dX6_no_5 rfl rfl rfl ?_
  obtain ⟨j1, hij1, hj1, h⟩ := h
  refine ww_iald j1 7 dX6_no_6 (ww_i1 38 (by decide)) rfl (by decide) hij1 hj1 rfl ?_
  refine ww_iconst (v := nI 1) 8 dX6_no_7 (by decide) rfl ?_
  refine ww_iadd 9 dX6_no_8 rfl ?_
  obtain ⟨j2, hij2, hj2, h⟩ := h
  refine ww_iast j2 10 dX6_no_9 (ww_i1 38 (by decide)) rfl (by decide) hij2 hj2 rfl (fun τ3 eτ3 => ?_)
  replace h := h τ3 eτ3
  refine ww_bipush (v := (-3 : Int32)) 12 dX6_no_10 (by decide) rfl ?_
  exact ww_iret dX6_no_12 rfl ⟨_, rfl, h⟩
theorem b_X6_full {l : Launch} {g : ww_G} {τ : ww_M}  {Post : Int32 → ww_M → Prop}  (h : ∀ E : ww_E, (∃ j1 : Nat, nI 2 = nI j1 ∧ j1 < 3 ∧ (∃ j2 : Nat, nI 2 = nI j2 ∧ j2 < 3 ∧ ∀ τ3 : ww_M, τ3 = ww_up τ (38, 0) j2 ((τ (38, 0) j1) + (nI 1)) → Post (-4 : Int32) τ3))) : ww_T l g mX6_full [.inr (.inr (30, 0))] τ (ww_QI Post) := by
  refine ww_enter (P := [some (.inr (.inr (30, 0)))]) (by decide) (Nat.le_of_ble_eq_true rfl) rfl (fun E => ?_)
  replace h := h E
  refine ww_aload_n 1 dX6_full_0 rfl 0 rfl rfl ?_
  refine ww_getR 9 4 dX6_full_1 wf_X6_31 (ww_i1 30 (by decide)) rfl rfl rfl ?_
  refine ww_iconst (v := nI 2) 5 dX6_full_4 (by decide) rfl ?_
  refine ww_dup2 6 dX6_full_5 rfl rfl rfl ?_
  obtain ⟨j1, hij1, hj1, h⟩ := h
  refine ww_iald j1 7 dX6_full_6 (ww_i1 38 (by decide)) rfl (by decide) hij1 hj1 rfl ?_
  refine ww_iconst (v := nI 1) 8 dX6_full_7 (by decide) rfl ?_
  refine ww_iadd 9 dX6_full_8 rfl ?_
  obtain ⟨j2, hij2, hj2, h⟩ := h
  refine ww_iast j2 10 dX6_full_9 (ww_i1 38 (by decide)) rfl (by decide) hij2 hj2 rfl (fun τ3 eτ3 => ?_)
  replace h := h τ3 eτ3
  refine ww_bipush (v := (-4 : Int32)) 12 dX6_full_10 (by decide) rfl ?_
  exact ww_iret dX6_full_12 rfl ⟨_, rfl, h⟩
theorem b_X6_isWord {l : Launch} {g : ww_G} {τ : ww_M} {a0 : Int32} {Post : Int32 → ww_M → Prop}  (h : ∀ E : ww_E, (∃ Q1 : Int32 → ww_M → Prop, ww_T E.2.1 g mX6_in [.inr (.inl (a0.toInt64)), .inr (.inl (lN 0)), .inr (.inl (lN 5))] τ (ww_QI Q1) ∧ ∀ (v2 : Int32) (τ3 : ww_M), Q1 v2 τ3 → (v2 = nI 0 ∨ v2 = nI 1) ∧ Post v2 τ3)) : ww_T l g mX6_isWord [.inl a0] τ (ww_QI Post) := by
  refine ww_enter (P := [some (.inl a0)]) (by decide) (Nat.le_of_ble_eq_true rfl) rfl (fun E => ?_)
  replace h := h E
  refine ww_iload_n 1 dX6_isWord_0 rfl 0 rfl rfl ?_
  refine ww_i2l 2 dX6_isWord_1 rfl ?_
  refine ww_lconst (v := lN 0) 3 dX6_isWord_2 (by decide) rfl ?_
  refine ww_ldc2 6 dX6_isWord_3 rfl wk_X6_64 ?_
  obtain ⟨Q1, hT, h⟩ := h
  refine ww_invSI (d' := mX6_in) [.inr (.inl (a0.toInt64)), .inr (.inl (lN 0)), .inr (.inl (lN 5))] rfl 9 dX6_isWord_6 ⟨wi_X6, wc_X6_in, wp_X6_in, by decide, by decide⟩ (Or.inl wl_X6_66) wn_X6_in (Nat.le_of_ble_eq_true rfl) rfl hT (fun v2 τ3 hq => ?_)
  replace h := h v2 τ3 hq
  exact ww_zret dX6_isWord_9 rfl h.1 ⟨_, rfl, h.2⟩
theorem b_X6_isLetter {l : Launch} {g : ww_G} {τ : ww_M} {a0 : Int32} {Post : Int32 → ww_M → Prop}  (h : ∀ E : ww_E, (∃ Q1 : Int32 → ww_M → Prop, ww_T E.2.1 g mX6_in [.inr (.inl (a0.toInt64)), .inr (.inl (lN 0)), .inr (.inl (lN 7))] τ (ww_QI Q1) ∧ ∀ (v2 : Int32) (τ3 : ww_M), Q1 v2 τ3 → (v2 = nI 0 ∨ v2 = nI 1) ∧ Post v2 τ3)) : ww_T l g mX6_isLetter [.inl a0] τ (ww_QI Post) := by
  refine ww_enter (P := [some (.inl a0)]) (by decide) (Nat.le_of_ble_eq_true rfl) rfl (fun E => ?_)
  replace h := h E
  refine ww_iload_n 1 dX6_isLetter_0 rfl 0 rfl rfl ?_
  refine ww_i2l 2 dX6_isLetter_1 rfl ?_
  refine ww_lconst (v := lN 0) 3 dX6_isLetter_2 (by decide) rfl ?_
  refine ww_ldc2 6 dX6_isLetter_3 rfl wk_X6_70 ?_
  obtain ⟨Q1, hT, h⟩ := h
  refine ww_invSI (d' := mX6_in) [.inr (.inl (a0.toInt64)), .inr (.inl (lN 0)), .inr (.inl (lN 7))] rfl 9 dX6_isLetter_6 ⟨wi_X6, wc_X6_in, wp_X6_in, by decide, by decide⟩ (Or.inl wl_X6_66) wn_X6_in (Nat.le_of_ble_eq_true rfl) rfl hT (fun v2 τ3 hq => ?_)
  replace h := h v2 τ3 hq
  exact ww_zret dX6_isLetter_9 rfl h.1 ⟨_, rfl, h.2⟩
theorem b_X6_opposite {l : Launch} {g : ww_G} {τ : ww_M} {a0 : Int32} {Post : Int32 → ww_M → Prop}  (h : ∀ E : ww_E, ((nI 4 ≤ a0 → Post (a0 - (nI 4)) τ) ∧ (¬ (nI 4 ≤ a0) → Post (a0 + (nI 4)) τ))) : ww_T l g mX6_opposite [.inl a0] τ (ww_QI Post) := by
  refine ww_enter (P := [some (.inl a0)]) (by decide) (Nat.le_of_ble_eq_true rfl) rfl (fun E => ?_)
  replace h := h E
  refine ww_iload_n 1 dX6_opposite_0 rfl 0 rfl rfl ?_
  refine ww_iconst (v := nI 4) 2 dX6_opposite_1 (by decide) rfl ?_
  refine ww_ic_ge 11 5 dX6_opposite_2 (by decide) rfl (fun c => ?_) (fun c => ?_)
  · replace h := h.1 c
    refine ww_iload_n 12 dX6_opposite_11 rfl 0 rfl rfl ?_
    refine ww_iconst (v := nI 4) 13 dX6_opposite_12 (by decide) rfl ?_
    refine ww_isub 14 dX6_opposite_13 rfl ?_
    exact ww_iret dX6_opposite_14 rfl ⟨_, rfl, h⟩
  · replace h := h.2 c
    refine ww_iload_n 6 dX6_opposite_5 rfl 0 rfl rfl ?_
    refine ww_iconst (v := nI 4) 7 dX6_opposite_6 (by decide) rfl ?_
    refine ww_iadd 8 dX6_opposite_7 rfl ?_
    refine ww_goto 14 dX6_opposite_8 (by decide) ?_
    exact ww_iret dX6_opposite_14 rfl ⟨_, rfl, h⟩
theorem b_X6_push {l : Launch} {g : ww_G} {τ : ww_M} {a1 : Int32} {Post : ww_M → Prop}  (h : ∀ E : ww_E, ((τ (30, 0) 12 ≤ nI 0 → (∃ j1 : Nat, τ (30, 0) 12 = nI j1 ∧ j1 < 700 ∧ ∀ τ2 : ww_M, τ2 = ww_up τ (39, 0) j1 a1 → (∀ τ3 : ww_M, τ3 = ww_up τ2 (30, 0) 12 ((τ2 (30, 0) 12) + (nI 1)) → Post τ3))) ∧ (¬ (τ (30, 0) 12 ≤ nI 0) → (∃ j4 : Nat, (τ (30, 0) 12) - (nI 1) = nI j4 ∧ j4 < 700 ∧ (∃ Q5 : Int32 → ww_M → Prop, ww_T E.2.1 g mX6_opposite [.inl a1] τ (ww_QI Q5) ∧ ∀ (v6 : Int32) (τ7 : ww_M), Q5 v6 τ7 → (¬ τ (39, 0) j4 = v6 → (∃ j8 : Nat, τ7 (30, 0) 12 = nI j8 ∧ j8 < 700 ∧ ∀ τ9 : ww_M, τ9 = ww_up τ7 (39, 0) j8 a1 → (∀ τ10 : ww_M, τ10 = ww_up τ9 (30, 0) 12 ((τ9 (30, 0) 12) + (nI 1)) → Post τ10))) ∧ (τ (39, 0) j4 = v6 → (∀ τ11 : ww_M, τ11 = ww_up τ7 (30, 0) 12 ((τ7 (30, 0) 12) - (nI 1)) → Post τ11))))))) : ww_T l g mX6_push [.inr (.inr (30, 0)), .inl a1] τ (ww_QV Post) := by
  refine ww_enter (P := [some (.inr (.inr (30, 0))), some (.inl a1)]) (by decide) (Nat.le_of_ble_eq_true rfl) rfl (fun E => ?_)
  replace h := h E
  refine ww_aload_n 1 dX6_push_0 rfl 0 rfl rfl ?_
  refine ww_getI 12 4 dX6_push_1 wf_X6_72 (ww_i1 30 (by decide)) rfl rfl rfl ?_
  refine ww_if_le 38 7 dX6_push_4 (by decide) rfl (fun c => ?_) (fun c => ?_)
  · replace h := h.1 c
    refine ww_aload_n 39 dX6_push_38 rfl 0 rfl rfl ?_
    refine ww_getR 11 42 dX6_push_39 wf_X6_34 (ww_i1 30 (by decide)) rfl rfl rfl ?_
    refine ww_aload_n 43 dX6_push_42 rfl 0 rfl rfl ?_
    refine ww_getI 12 46 dX6_push_43 wf_X6_72 (ww_i1 30 (by decide)) rfl rfl rfl ?_
    refine ww_iload_n 47 dX6_push_46 rfl 1 rfl rfl ?_
    obtain ⟨j1, hij1, hj1, h⟩ := h
    refine ww_iast j1 48 dX6_push_47 (ww_i1 39 (by decide)) rfl (by decide) hij1 hj1 rfl (fun τ2 eτ2 => ?_)
    replace h := h τ2 eτ2
    refine ww_aload_n 49 dX6_push_48 rfl 0 rfl rfl ?_
    refine ww_dup 50 dX6_push_49 rfl rfl ?_
    refine ww_getI 12 53 dX6_push_50 wf_X6_72 (ww_i1 30 (by decide)) rfl rfl rfl ?_
    refine ww_iconst (v := nI 1) 54 dX6_push_53 (by decide) rfl ?_
    refine ww_iadd 55 dX6_push_54 rfl ?_
    refine ww_putI 12 58 dX6_push_55 wf_X6_72 fp_X6_12 (ww_i1 30 (by decide)) rfl rfl rfl (fun τ3 eτ3 => ?_)
    replace h := h τ3 eτ3
    exact ww_vret dX6_push_58 rfl ⟨rfl, h⟩
  · replace h := h.2 c
    refine ww_aload_n 8 dX6_push_7 rfl 0 rfl rfl ?_
    refine ww_getR 11 11 dX6_push_8 wf_X6_34 (ww_i1 30 (by decide)) rfl rfl rfl ?_
    refine ww_aload_n 12 dX6_push_11 rfl 0 rfl rfl ?_
    refine ww_getI 12 15 dX6_push_12 wf_X6_72 (ww_i1 30 (by decide)) rfl rfl rfl ?_
    refine ww_iconst (v := nI 1) 16 dX6_push_15 (by decide) rfl ?_
    refine ww_isub 17 dX6_push_16 rfl ?_
    obtain ⟨j4, hij4, hj4, h⟩ := h
    refine ww_iald j4 18 dX6_push_17 (ww_i1 39 (by decide)) rfl (by decide) hij4 hj4 rfl ?_
    refine ww_iload_n 19 dX6_push_18 rfl 1 rfl rfl ?_
    obtain ⟨Q5, hT, h⟩ := h
    refine ww_invSI (d' := mX6_opposite) [.inl a1] rfl 22 dX6_push_19 ⟨wi_X6, wc_X6_opposite, wp_X6_opposite, by decide, by decide⟩ (Or.inl wl_X6_76) wn_X6_opposite (Nat.le_of_ble_eq_true rfl) rfl hT (fun v6 τ7 hq => ?_)
    replace h := h v6 τ7 hq
    refine ww_ic_ne 38 25 dX6_push_22 (by decide) rfl (fun c => ?_) (fun c => ?_)
    · replace h := h.1 c
      refine ww_aload_n 39 dX6_push_38 rfl 0 rfl rfl ?_
      refine ww_getR 11 42 dX6_push_39 wf_X6_34 (ww_i1 30 (by decide)) rfl rfl rfl ?_
      refine ww_aload_n 43 dX6_push_42 rfl 0 rfl rfl ?_
      refine ww_getI 12 46 dX6_push_43 wf_X6_72 (ww_i1 30 (by decide)) rfl rfl rfl ?_
      refine ww_iload_n 47 dX6_push_46 rfl 1 rfl rfl ?_
      obtain ⟨j8, hij8, hj8, h⟩ := h
      refine ww_iast j8 48 dX6_push_47 (ww_i1 39 (by decide)) rfl (by decide) hij8 hj8 rfl (fun τ9 eτ9 => ?_)
      replace h := h τ9 eτ9
      refine ww_aload_n 49 dX6_push_48 rfl 0 rfl rfl ?_
      refine ww_dup 50 dX6_push_49 rfl rfl ?_
      refine ww_getI 12 53 dX6_push_50 wf_X6_72 (ww_i1 30 (by decide)) rfl rfl rfl ?_
      refine ww_iconst (v := nI 1) 54 dX6_push_53 (by decide) rfl ?_
      refine ww_iadd 55 dX6_push_54 rfl ?_
      refine ww_putI 12 58 dX6_push_55 wf_X6_72 fp_X6_12 (ww_i1 30 (by decide)) rfl rfl rfl (fun τ10 eτ10 => ?_)
      replace h := h τ10 eτ10
      exact ww_vret dX6_push_58 rfl ⟨rfl, h⟩
    · replace h := h.2 c
      refine ww_aload_n 26 dX6_push_25 rfl 0 rfl rfl ?_
      refine ww_dup 27 dX6_push_26 rfl rfl ?_
      refine ww_getI 12 30 dX6_push_27 wf_X6_72 (ww_i1 30 (by decide)) rfl rfl rfl ?_
      refine ww_iconst (v := nI 1) 31 dX6_push_30 (by decide) rfl ?_
      refine ww_isub 32 dX6_push_31 rfl ?_
      refine ww_putI 12 35 dX6_push_32 wf_X6_72 fp_X6_12 (ww_i1 30 (by decide)) rfl rfl rfl (fun τ11 eτ11 => ?_)
      replace h := h τ11 eτ11
      refine ww_goto 58 dX6_push_35 (by decide) ?_
      exact ww_vret dX6_push_58 rfl ⟨rfl, h⟩
theorem b_X6_pushWord {l : Launch} {g : ww_G} {τ : ww_M} {a1 : Int32} {Post : ww_M → Prop}  (h : ∀ E : ww_E, ww_W g mX6_pushWord E (ww_QV Post) 2 [some (.inr (.inr (30, 0))), some (.inl a1), some (.inl (nI 0))] [] τ) : ww_T l g mX6_pushWord [.inr (.inr (30, 0)), .inl a1] τ (ww_QV Post) := by
  refine ww_enter (P := [some (.inr (.inr (30, 0))), some (.inl a1), none]) (by decide) (Nat.le_of_ble_eq_true rfl) rfl (fun E => ?_)
  replace h := h E
  refine ww_iconst (v := nI 0) 1 dX6_pushWord_0 (by decide) rfl ?_
  refine ww_istore_n 2 dX6_pushWord_1 rfl 2 rfl (by decide) rfl [some (.inr (.inr (30, 0))), some (.inl a1), some (.inl (nI 0))] rfl ?_
  exact h
theorem b_X6_pushWord_2 {g : ww_G} {E : ww_E} {τ : ww_M} {x1 : Int32} {x2 : Int32} {Post : ww_M → Prop}  (h : (∃ j1 : Nat, x1 = nI j1 ∧ j1 < 6 ∧ (τ (37, 0) j1 ≤ x2 → Post τ) ∧ (¬ (τ (37, 0) j1 ≤ x2) → (∃ j2 : Nat, ((nI 60) * x1) + x2 = nI j2 ∧ j2 < 360 ∧ (∃ Q3 : ww_M → Prop, ww_T E.2.1 g mX6_push [.inr (.inr (30, 0)), .inl (τ (36, 0) j2)] τ (ww_QV Q3) ∧ ∀ (τ4 : ww_M), Q3 τ4 → ww_W g mX6_pushWord E (ww_QV Post) 2 [some (.inr (.inr (30, 0))), some (.inl x1), some (.inl (x2 + nI 1))] [] τ4))))) : ww_W g mX6_pushWord E (ww_QV Post) 2 [some (.inr (.inr (30, 0))), some (.inl x1), some (.inl x2)] [] τ := by
  refine ww_iload_n 3 dX6_pushWord_2 rfl 2 rfl rfl ?_
  refine ww_aload_n 4 dX6_pushWord_3 rfl 0 rfl rfl ?_
  refine ww_getR 8 7 dX6_pushWord_4 wf_X6_28 (ww_i1 30 (by decide)) rfl rfl rfl ?_
  refine ww_iload_n 8 dX6_pushWord_7 rfl 1 rfl rfl ?_
  obtain ⟨j1, hij1, hj1, h⟩ := h
  refine ww_iald j1 9 dX6_pushWord_8 (ww_i1 37 (by decide)) rfl (by decide) hij1 hj1 rfl ?_
  refine ww_ic_ge 33 12 dX6_pushWord_9 (by decide) rfl (fun c => ?_) (fun c => ?_)
  · replace h := h.1 c
    exact ww_vret dX6_pushWord_33 rfl ⟨rfl, h⟩
  · replace h := h.2 c
    refine ww_aload_n 13 dX6_pushWord_12 rfl 0 rfl rfl ?_
    refine ww_aload_n 14 dX6_pushWord_13 rfl 0 rfl rfl ?_
    refine ww_getR 7 17 dX6_pushWord_14 wf_X6_25 (ww_i1 30 (by decide)) rfl rfl rfl ?_
    refine ww_bipush (v := nI 60) 19 dX6_pushWord_17 (by decide) rfl ?_
    refine ww_iload_n 20 dX6_pushWord_19 rfl 1 rfl rfl ?_
    refine ww_imul 21 dX6_pushWord_20 rfl ?_
    refine ww_iload_n 22 dX6_pushWord_21 rfl 2 rfl rfl ?_
    refine ww_iadd 23 dX6_pushWord_22 rfl ?_
    obtain ⟨j2, hij2, hj2, h⟩ := h
    refine ww_iald j2 24 dX6_pushWord_23 (ww_i1 36 (by decide)) rfl (by decide) hij2 hj2 rfl ?_
    obtain ⟨Q3, hT, h⟩ := h
    refine ww_invVV (d' := mX6_push) [.inl (τ (36, 0) j2)] rfl 27 dX6_pushWord_24 ⟨wi_X6, wc_X6_push, wp_X6_push, by decide, by decide⟩ wl_X6_80 wn_X6_push we_X6_push (ww_i1 30 (by decide)) rfl rfl (Nat.le_of_ble_eq_true rfl) rfl hT (fun τ4 hq => ?_)
    replace h := h τ4 hq
    refine ww_iinc (nI 1) 30 2 dX6_pushWord_27 (by decide) rfl rfl (by decide) rfl [some (.inr (.inr (30, 0))), some (.inl x1), some (.inl (x2 + nI 1))] rfl ?_
    refine ww_goto 2 dX6_pushWord_30 (by decide) ?_
    exact h
theorem b_X6_pushInverse {l : Launch} {g : ww_G} {τ : ww_M} {a1 : Int32} {Post : ww_M → Prop}  (h : ∀ E : ww_E, (∃ j1 : Nat, a1 = nI j1 ∧ j1 < 6 ∧ ww_W g mX6_pushInverse E (ww_QV Post) 9 [some (.inr (.inr (30, 0))), some (.inl a1), some (.inl ((τ (37, 0) j1) - (nI 1)))] [] τ)) : ww_T l g mX6_pushInverse [.inr (.inr (30, 0)), .inl a1] τ (ww_QV Post) := by
  refine ww_enter (P := [some (.inr (.inr (30, 0))), some (.inl a1), none]) (by decide) (Nat.le_of_ble_eq_true rfl) rfl (fun E => ?_)
  replace h := h E
  refine ww_aload_n 1 dX6_pushInverse_0 rfl 0 rfl rfl ?_
  refine ww_getR 8 4 dX6_pushInverse_1 wf_X6_28 (ww_i1 30 (by decide)) rfl rfl rfl ?_
  refine ww_iload_n 5 dX6_pushInverse_4 rfl 1 rfl rfl ?_
  obtain ⟨j1, hij1, hj1, h⟩ := h
  refine ww_iald j1 6 dX6_pushInverse_5 (ww_i1 37 (by decide)) rfl (by decide) hij1 hj1 rfl ?_
  refine ww_iconst (v := nI 1) 7 dX6_pushInverse_6 (by decide) rfl ?_
  refine ww_isub 8 dX6_pushInverse_7 rfl ?_
  refine ww_istore_n 9 dX6_pushInverse_8 rfl 2 rfl (by decide) rfl [some (.inr (.inr (30, 0))), some (.inl a1), some (.inl ((τ (37, 0) j1) - (nI 1)))] rfl ?_
  exact h
theorem b_X6_pushInverse_9 {g : ww_G} {E : ww_E} {τ : ww_M} {x1 : Int32} {x2 : Int32} {Post : ww_M → Prop}  (h : ((x2 < nI 0 → Post τ) ∧ (¬ (x2 < nI 0) → (∃ j1 : Nat, ((nI 60) * x1) + x2 = nI j1 ∧ j1 < 360 ∧ (∃ Q2 : Int32 → ww_M → Prop, ww_T E.2.1 g mX6_opposite [.inl (τ (36, 0) j1)] τ (ww_QI Q2) ∧ ∀ (v3 : Int32) (τ4 : ww_M), Q2 v3 τ4 → (∃ Q5 : ww_M → Prop, ww_T E.2.1 g mX6_push [.inr (.inr (30, 0)), .inl v3] τ4 (ww_QV Q5) ∧ ∀ (τ6 : ww_M), Q5 τ6 → ww_W g mX6_pushInverse E (ww_QV Post) 9 [some (.inr (.inr (30, 0))), some (.inl x1), some (.inl (x2 + (-1 : Int32)))] [] τ6)))))) : ww_W g mX6_pushInverse E (ww_QV Post) 9 [some (.inr (.inr (30, 0))), some (.inl x1), some (.inl x2)] [] τ := by
  refine ww_iload_n 10 dX6_pushInverse_9 rfl 2 rfl rfl ?_
  refine ww_if_lt 37 13 dX6_pushInverse_10 (by decide) rfl (fun c => ?_) (fun c => ?_)
  · replace h := h.1 c
    exact ww_vret dX6_pushInverse_37 rfl ⟨rfl, h⟩
  · replace h := h.2 c
    refine ww_aload_n 14 dX6_pushInverse_13 rfl 0 rfl rfl ?_
    refine ww_aload_n 15 dX6_pushInverse_14 rfl 0 rfl rfl ?_
    refine ww_getR 7 18 dX6_pushInverse_15 wf_X6_25 (ww_i1 30 (by decide)) rfl rfl rfl ?_
    refine ww_bipush (v := nI 60) 20 dX6_pushInverse_18 (by decide) rfl ?_
    refine ww_iload_n 21 dX6_pushInverse_20 rfl 1 rfl rfl ?_
    refine ww_imul 22 dX6_pushInverse_21 rfl ?_
    refine ww_iload_n 23 dX6_pushInverse_22 rfl 2 rfl rfl ?_
    refine ww_iadd 24 dX6_pushInverse_23 rfl ?_
    obtain ⟨j1, hij1, hj1, h⟩ := h
    refine ww_iald j1 25 dX6_pushInverse_24 (ww_i1 36 (by decide)) rfl (by decide) hij1 hj1 rfl ?_
    obtain ⟨Q2, hT, h⟩ := h
    refine ww_invSI (d' := mX6_opposite) [.inl (τ (36, 0) j1)] rfl 28 dX6_pushInverse_25 ⟨wi_X6, wc_X6_opposite, wp_X6_opposite, by decide, by decide⟩ (Or.inl wl_X6_76) wn_X6_opposite (Nat.le_of_ble_eq_true rfl) rfl hT (fun v3 τ4 hq => ?_)
    replace h := h v3 τ4 hq
    obtain ⟨Q5, hT, h⟩ := h
    refine ww_invVV (d' := mX6_push) [.inl v3] rfl 31 dX6_pushInverse_28 ⟨wi_X6, wc_X6_push, wp_X6_push, by decide, by decide⟩ wl_X6_80 wn_X6_push we_X6_push (ww_i1 30 (by decide)) rfl rfl (Nat.le_of_ble_eq_true rfl) rfl hT (fun τ6 hq => ?_)
    replace h := h τ6 hq
    refine ww_iinc (-1 : Int32) 34 2 dX6_pushInverse_31 (by decide) rfl rfl (by decide) rfl [some (.inr (.inr (30, 0))), some (.inl x1), some (.inl (x2 + (-1 : Int32)))] rfl ?_
    refine ww_goto 9 dX6_pushInverse_34 (by decide) ?_
    exact h
theorem b_X6_handWord {l : Launch} {g : ww_G} {τ : ww_M} {a1 : Int32} {Post : ww_M → Prop}  (h : ∀ E : ww_E, (∀ τ1 : ww_M, τ1 = ww_up τ (30, 0) 12 (nI 0) → (∃ Q2 : ww_M → Prop, ww_T E.2.1 g mX6_pushWord [.inr (.inr (30, 0)), .inl a1] τ1 (ww_QV Q2) ∧ ∀ (τ3 : ww_M), Q2 τ3 → Post τ3))) : ww_T l g mX6_handWord [.inr (.inr (30, 0)), .inl a1] τ (ww_QV Post) := by
  refine ww_enter (P := [some (.inr (.inr (30, 0))), some (.inl a1)]) (by decide) (Nat.le_of_ble_eq_true rfl) rfl (fun E => ?_)
  replace h := h E
  refine ww_aload_n 1 dX6_handWord_0 rfl 0 rfl rfl ?_
  refine ww_iconst (v := nI 0) 2 dX6_handWord_1 (by decide) rfl ?_
  refine ww_putI 12 5 dX6_handWord_2 wf_X6_72 fp_X6_12 (ww_i1 30 (by decide)) rfl rfl rfl (fun τ1 eτ1 => ?_)
  replace h := h τ1 eτ1
  refine ww_aload_n 6 dX6_handWord_5 rfl 0 rfl rfl ?_
  refine ww_iload_n 7 dX6_handWord_6 rfl 1 rfl rfl ?_
  obtain ⟨Q2, hT, h⟩ := h
  refine ww_invVV (d' := mX6_pushWord) [.inl a1] rfl 10 dX6_handWord_7 ⟨wi_X6, wc_X6_pushWord, wp_X6_pushWord, by decide, by decide⟩ wl_X6_84 wn_X6_pushWord we_X6_pushWord (ww_i1 30 (by decide)) rfl rfl (Nat.le_of_ble_eq_true rfl) rfl hT (fun τ3 hq => ?_)
  replace h := h τ3 hq
  exact ww_vret dX6_handWord_10 rfl ⟨rfl, h⟩
theorem b_X6_layWord {l : Launch} {g : ww_G} {τ : ww_M} {a1 : Int32} {Post : Int32 → ww_M → Prop}  (h : ∀ E : ww_E, ww_W g mX6_layWord E (ww_QI Post) 2 [some (.inr (.inr (30, 0))), some (.inl a1), some (.inl (nI 0))] [] τ) : ww_T l g mX6_layWord [.inr (.inr (30, 0)), .inl a1] τ (ww_QI Post) := by
  refine ww_enter (P := [some (.inr (.inr (30, 0))), some (.inl a1), none]) (by decide) (Nat.le_of_ble_eq_true rfl) rfl (fun E => ?_)
  replace h := h E
  refine ww_iconst (v := nI 0) 1 dX6_layWord_0 (by decide) rfl ?_
  refine ww_istore_n 2 dX6_layWord_1 rfl 2 rfl (by decide) rfl [some (.inr (.inr (30, 0))), some (.inl a1), some (.inl (nI 0))] rfl ?_
  exact h
theorem b_X6_layWord_2 {g : ww_G} {E : ww_E} {τ : ww_M} {x1 : Int32} {x2 : Int32} {Post : Int32 → ww_M → Prop}  (h : ((τ (30, 0) 12 ≤ x2 → (∃ j1 : Nat, x1 = nI j1 ∧ j1 < 6 ∧ ∀ τ2 : ww_M, τ2 = ww_up τ (37, 0) j1 (τ (30, 0) 12) → Post (τ2 (30, 0) 12) τ2)) ∧ (¬ (τ (30, 0) 12 ≤ x2) → (∃ j3 : Nat, x2 = nI j3 ∧ j3 < 700 ∧ (∃ j4 : Nat, ((nI 60) * x1) + x2 = nI j4 ∧ j4 < 360 ∧ ∀ τ5 : ww_M, τ5 = ww_up τ (36, 0) j4 (τ (39, 0) j3) → ww_W g mX6_layWord E (ww_QI Post) 2 [some (.inr (.inr (30, 0))), some (.inl x1), some (.inl (x2 + nI 1))] [] τ5))))) : ww_W g mX6_layWord E (ww_QI Post) 2 [some (.inr (.inr (30, 0))), some (.inl x1), some (.inl x2)] [] τ := by
  refine ww_iload_n 3 dX6_layWord_2 rfl 2 rfl rfl ?_
  refine ww_aload_n 4 dX6_layWord_3 rfl 0 rfl rfl ?_
  refine ww_getI 12 7 dX6_layWord_4 wf_X6_72 (ww_i1 30 (by decide)) rfl rfl rfl ?_
  refine ww_ic_ge 33 10 dX6_layWord_7 (by decide) rfl (fun c => ?_) (fun c => ?_)
  · replace h := h.1 c
    refine ww_aload_n 34 dX6_layWord_33 rfl 0 rfl rfl ?_
    refine ww_getR 8 37 dX6_layWord_34 wf_X6_28 (ww_i1 30 (by decide)) rfl rfl rfl ?_
    refine ww_iload_n 38 dX6_layWord_37 rfl 1 rfl rfl ?_
    refine ww_aload_n 39 dX6_layWord_38 rfl 0 rfl rfl ?_
    refine ww_getI 12 42 dX6_layWord_39 wf_X6_72 (ww_i1 30 (by decide)) rfl rfl rfl ?_
    obtain ⟨j1, hij1, hj1, h⟩ := h
    refine ww_iast j1 43 dX6_layWord_42 (ww_i1 37 (by decide)) rfl (by decide) hij1 hj1 rfl (fun τ2 eτ2 => ?_)
    replace h := h τ2 eτ2
    refine ww_aload_n 44 dX6_layWord_43 rfl 0 rfl rfl ?_
    refine ww_getI 12 47 dX6_layWord_44 wf_X6_72 (ww_i1 30 (by decide)) rfl rfl rfl ?_
    exact ww_iret dX6_layWord_47 rfl ⟨_, rfl, h⟩
  · replace h := h.2 c
    refine ww_aload_n 11 dX6_layWord_10 rfl 0 rfl rfl ?_
    refine ww_getR 7 14 dX6_layWord_11 wf_X6_25 (ww_i1 30 (by decide)) rfl rfl rfl ?_
    refine ww_bipush (v := nI 60) 16 dX6_layWord_14 (by decide) rfl ?_
    refine ww_iload_n 17 dX6_layWord_16 rfl 1 rfl rfl ?_
    refine ww_imul 18 dX6_layWord_17 rfl ?_
    refine ww_iload_n 19 dX6_layWord_18 rfl 2 rfl rfl ?_
    refine ww_iadd 20 dX6_layWord_19 rfl ?_
    refine ww_aload_n 21 dX6_layWord_20 rfl 0 rfl rfl ?_
    refine ww_getR 11 24 dX6_layWord_21 wf_X6_34 (ww_i1 30 (by decide)) rfl rfl rfl ?_
    refine ww_iload_n 25 dX6_layWord_24 rfl 2 rfl rfl ?_
    obtain ⟨j3, hij3, hj3, h⟩ := h
    refine ww_iald j3 26 dX6_layWord_25 (ww_i1 39 (by decide)) rfl (by decide) hij3 hj3 rfl ?_
    obtain ⟨j4, hij4, hj4, h⟩ := h
    refine ww_iast j4 27 dX6_layWord_26 (ww_i1 36 (by decide)) rfl (by decide) hij4 hj4 rfl (fun τ5 eτ5 => ?_)
    replace h := h τ5 eτ5
    refine ww_iinc (nI 1) 30 2 dX6_layWord_27 (by decide) rfl rfl (by decide) rfl [some (.inr (.inr (30, 0))), some (.inl x1), some (.inl (x2 + nI 1))] rfl ?_
    refine ww_goto 2 dX6_layWord_30 (by decide) ?_
    exact h
theorem b_X6_layIfFits {l : Launch} {g : ww_G} {τ : ww_M} {a1 : Int32} {Post : Int32 → ww_M → Prop}  (h : ∀ E : ww_E, ((τ (30, 0) 12 ≤ nI 60 → (∃ Q1 : Int32 → ww_M → Prop, ww_T E.2.1 g mX6_layWord [.inr (.inr (30, 0)), .inl a1] τ (ww_QI Q1) ∧ ∀ (v2 : Int32) (τ3 : ww_M), Q1 v2 τ3 → Post v2 τ3)) ∧ (¬ (τ (30, 0) 12 ≤ nI 60) → (∃ Q4 : Int32 → ww_M → Prop, ww_T E.2.1 g mX6_full [.inr (.inr (30, 0))] τ (ww_QI Q4) ∧ ∀ (v5 : Int32) (τ6 : ww_M), Q4 v5 τ6 → Post v5 τ6)))) : ww_T l g mX6_layIfFits [.inr (.inr (30, 0)), .inl a1] τ (ww_QI Post) := by
  refine ww_enter (P := [some (.inr (.inr (30, 0))), some (.inl a1)]) (by decide) (Nat.le_of_ble_eq_true rfl) rfl (fun E => ?_)
  replace h := h E
  refine ww_aload_n 1 dX6_layIfFits_0 rfl 0 rfl rfl ?_
  refine ww_getI 12 4 dX6_layIfFits_1 wf_X6_72 (ww_i1 30 (by decide)) rfl rfl rfl ?_
  refine ww_bipush (v := nI 60) 6 dX6_layIfFits_4 (by decide) rfl ?_
  refine ww_ic_le 16 9 dX6_layIfFits_6 (by decide) rfl (fun c => ?_) (fun c => ?_)
  · replace h := h.1 c
    refine ww_aload_n 17 dX6_layIfFits_16 rfl 0 rfl rfl ?_
    refine ww_iload_n 18 dX6_layIfFits_17 rfl 1 rfl rfl ?_
    obtain ⟨Q1, hT, h⟩ := h
    refine ww_invVI (d' := mX6_layWord) [.inl a1] rfl 21 dX6_layIfFits_18 ⟨wi_X6, wc_X6_layWord, wp_X6_layWord, by decide, by decide⟩ wl_X6_91 wn_X6_layWord we_X6_layWord (ww_i1 30 (by decide)) rfl rfl (Nat.le_of_ble_eq_true rfl) rfl hT (fun v2 τ3 hq => ?_)
    replace h := h v2 τ3 hq
    exact ww_iret dX6_layIfFits_21 rfl ⟨_, rfl, h⟩
  · replace h := h.2 c
    refine ww_aload_n 10 dX6_layIfFits_9 rfl 0 rfl rfl ?_
    obtain ⟨Q4, hT, h⟩ := h
    refine ww_invVI (d' := mX6_full) [] rfl 13 dX6_layIfFits_10 ⟨wi_X6, wc_X6_full, wp_X6_full, by decide, by decide⟩ wl_X6_87 wn_X6_full we_X6_full (ww_i1 30 (by decide)) rfl rfl (Nat.le_of_ble_eq_true rfl) rfl hT (fun v5 τ6 hq => ?_)
    replace h := h v5 τ6 hq
    refine ww_goto 21 dX6_layIfFits_13 (by decide) ?_
    exact ww_iret dX6_layIfFits_21 rfl ⟨_, rfl, h⟩
theorem b_X6_ringHand {l : Launch} {g : ww_G} {τ : ww_M}  {Post : ww_M → Prop}  (h : ∀ E : ww_E, ww_W g mX6_ringHand E (ww_QV Post) 2 [some (.inr (.inr (30, 0))), some (.inl (nI 0)), none] [] τ) : ww_T l g mX6_ringHand [.inr (.inr (30, 0))] τ (ww_QV Post) := by
  refine ww_enter (P := [some (.inr (.inr (30, 0))), none, none]) (by decide) (Nat.le_of_ble_eq_true rfl) rfl (fun E => ?_)
  replace h := h E
  refine ww_iconst (v := nI 0) 1 dX6_ringHand_0 (by decide) rfl ?_
  refine ww_istore_n 2 dX6_ringHand_1 rfl 1 rfl (by decide) rfl [some (.inr (.inr (30, 0))), some (.inl (nI 0)), none] rfl ?_
  exact h
theorem b_X6_ringHand_2 {g : ww_G} {E : ww_E} {τ : ww_M} {x1 : Int32} {Post : ww_M → Prop}  (h : (((τ (30, 0) 12) - x1 ≤ nI 1 → ww_W g mX6_ringHand E (ww_QV Post) 53 [some (.inr (.inr (30, 0))), some (.inl x1), some (.inl x1)] [] τ) ∧ (¬ ((τ (30, 0) 12) - x1 ≤ nI 1) → (∃ j1 : Nat, x1 = nI j1 ∧ j1 < 700 ∧ (∃ j2 : Nat, (τ (30, 0) 12) - (nI 1) = nI j2 ∧ j2 < 700 ∧ (∃ Q3 : Int32 → ww_M → Prop, ww_T E.2.1 g mX6_opposite [.inl (τ (39, 0) j2)] τ (ww_QI Q3) ∧ ∀ (v4 : Int32) (τ5 : ww_M), Q3 v4 τ5 → (¬ τ (39, 0) j1 = v4 → ww_W g mX6_ringHand E (ww_QV Post) 53 [some (.inr (.inr (30, 0))), some (.inl x1), some (.inl x1)] [] τ5) ∧ (τ (39, 0) j1 = v4 → (∀ τ6 : ww_M, τ6 = ww_up τ5 (30, 0) 12 ((τ5 (30, 0) 12) - (nI 1)) → ww_W g mX6_ringHand E (ww_QV Post) 2 [some (.inr (.inr (30, 0))), some (.inl (x1 + nI 1)), none] [] τ6)))))))) : ww_W g mX6_ringHand E (ww_QV Post) 2 [some (.inr (.inr (30, 0))), some (.inl x1), none] [] τ := by
  refine ww_aload_n 3 dX6_ringHand_2 rfl 0 rfl rfl ?_
  refine ww_getI 12 6 dX6_ringHand_3 wf_X6_72 (ww_i1 30 (by decide)) rfl rfl rfl ?_
  refine ww_iload_n 7 dX6_ringHand_6 rfl 1 rfl rfl ?_
  refine ww_isub 8 dX6_ringHand_7 rfl ?_
  refine ww_iconst (v := nI 1) 9 dX6_ringHand_8 (by decide) rfl ?_
  refine ww_ic_le 51 12 dX6_ringHand_9 (by decide) rfl (fun c => ?_) (fun c => ?_)
  · replace h := h.1 c
    refine ww_iload_n 52 dX6_ringHand_51 rfl 1 rfl rfl ?_
    refine ww_istore_n 53 dX6_ringHand_52 rfl 2 rfl (by decide) rfl [some (.inr (.inr (30, 0))), some (.inl x1), some (.inl x1)] rfl ?_
    exact h
  · replace h := h.2 c
    refine ww_aload_n 13 dX6_ringHand_12 rfl 0 rfl rfl ?_
    refine ww_getR 11 16 dX6_ringHand_13 wf_X6_34 (ww_i1 30 (by decide)) rfl rfl rfl ?_
    refine ww_iload_n 17 dX6_ringHand_16 rfl 1 rfl rfl ?_
    obtain ⟨j1, hij1, hj1, h⟩ := h
    refine ww_iald j1 18 dX6_ringHand_17 (ww_i1 39 (by decide)) rfl (by decide) hij1 hj1 rfl ?_
    refine ww_aload_n 19 dX6_ringHand_18 rfl 0 rfl rfl ?_
    refine ww_getR 11 22 dX6_ringHand_19 wf_X6_34 (ww_i1 30 (by decide)) rfl rfl rfl ?_
    refine ww_aload_n 23 dX6_ringHand_22 rfl 0 rfl rfl ?_
    refine ww_getI 12 26 dX6_ringHand_23 wf_X6_72 (ww_i1 30 (by decide)) rfl rfl rfl ?_
    refine ww_iconst (v := nI 1) 27 dX6_ringHand_26 (by decide) rfl ?_
    refine ww_isub 28 dX6_ringHand_27 rfl ?_
    obtain ⟨j2, hij2, hj2, h⟩ := h
    refine ww_iald j2 29 dX6_ringHand_28 (ww_i1 39 (by decide)) rfl (by decide) hij2 hj2 rfl ?_
    obtain ⟨Q3, hT, h⟩ := h
    refine ww_invSI (d' := mX6_opposite) [.inl (τ (39, 0) j2)] rfl 32 dX6_ringHand_29 ⟨wi_X6, wc_X6_opposite, wp_X6_opposite, by decide, by decide⟩ (Or.inl wl_X6_76) wn_X6_opposite (Nat.le_of_ble_eq_true rfl) rfl hT (fun v4 τ5 hq => ?_)
    replace h := h v4 τ5 hq
    refine ww_ic_ne 51 35 dX6_ringHand_32 (by decide) rfl (fun c => ?_) (fun c => ?_)
    · replace h := h.1 c
      refine ww_iload_n 52 dX6_ringHand_51 rfl 1 rfl rfl ?_
      refine ww_istore_n 53 dX6_ringHand_52 rfl 2 rfl (by decide) rfl [some (.inr (.inr (30, 0))), some (.inl x1), some (.inl x1)] rfl ?_
      exact h
    · replace h := h.2 c
      refine ww_iinc (nI 1) 38 1 dX6_ringHand_35 (by decide) rfl rfl (by decide) rfl [some (.inr (.inr (30, 0))), some (.inl (x1 + nI 1)), none] rfl ?_
      refine ww_aload_n 39 dX6_ringHand_38 rfl 0 rfl rfl ?_
      refine ww_dup 40 dX6_ringHand_39 rfl rfl ?_
      refine ww_getI 12 43 dX6_ringHand_40 wf_X6_72 (ww_i1 30 (by decide)) rfl rfl rfl ?_
      refine ww_iconst (v := nI 1) 44 dX6_ringHand_43 (by decide) rfl ?_
      refine ww_isub 45 dX6_ringHand_44 rfl ?_
      refine ww_putI 12 48 dX6_ringHand_45 wf_X6_72 fp_X6_12 (ww_i1 30 (by decide)) rfl rfl rfl (fun τ6 eτ6 => ?_)
      replace h := h τ6 eτ6
      refine ww_goto 2 dX6_ringHand_48 (by decide) ?_
      exact h
theorem b_X6_ringHand_53 {g : ww_G} {E : ww_E} {τ : ww_M} {x1 : Int32} {x2 : Int32} {Post : ww_M → Prop}  (h : ((τ (30, 0) 12 ≤ x2 → (∀ τ1 : ww_M, τ1 = ww_up τ (30, 0) 12 ((τ (30, 0) 12) - x1) → Post τ1)) ∧ (¬ (τ (30, 0) 12 ≤ x2) → (∃ j2 : Nat, x2 = nI j2 ∧ j2 < 700 ∧ (∃ j3 : Nat, x2 - x1 = nI j3 ∧ j3 < 700 ∧ ∀ τ4 : ww_M, τ4 = ww_up τ (39, 0) j3 (τ (39, 0) j2) → ww_W g mX6_ringHand E (ww_QV Post) 53 [some (.inr (.inr (30, 0))), some (.inl x1), some (.inl (x2 + nI 1))] [] τ4))))) : ww_W g mX6_ringHand E (ww_QV Post) 53 [some (.inr (.inr (30, 0))), some (.inl x1), some (.inl x2)] [] τ := by
  refine ww_iload_n 54 dX6_ringHand_53 rfl 2 rfl rfl ?_
  refine ww_aload_n 55 dX6_ringHand_54 rfl 0 rfl rfl ?_
  refine ww_getI 12 58 dX6_ringHand_55 wf_X6_72 (ww_i1 30 (by decide)) rfl rfl rfl ?_
  refine ww_ic_ge 81 61 dX6_ringHand_58 (by decide) rfl (fun c => ?_) (fun c => ?_)
  · replace h := h.1 c
    refine ww_aload_n 82 dX6_ringHand_81 rfl 0 rfl rfl ?_
    refine ww_dup 83 dX6_ringHand_82 rfl rfl ?_
    refine ww_getI 12 86 dX6_ringHand_83 wf_X6_72 (ww_i1 30 (by decide)) rfl rfl rfl ?_
    refine ww_iload_n 87 dX6_ringHand_86 rfl 1 rfl rfl ?_
    refine ww_isub 88 dX6_ringHand_87 rfl ?_
    refine ww_putI 12 91 dX6_ringHand_88 wf_X6_72 fp_X6_12 (ww_i1 30 (by decide)) rfl rfl rfl (fun τ1 eτ1 => ?_)
    replace h := h τ1 eτ1
    exact ww_vret dX6_ringHand_91 rfl ⟨rfl, h⟩
  · replace h := h.2 c
    refine ww_aload_n 62 dX6_ringHand_61 rfl 0 rfl rfl ?_
    refine ww_getR 11 65 dX6_ringHand_62 wf_X6_34 (ww_i1 30 (by decide)) rfl rfl rfl ?_
    refine ww_iload_n 66 dX6_ringHand_65 rfl 2 rfl rfl ?_
    refine ww_iload_n 67 dX6_ringHand_66 rfl 1 rfl rfl ?_
    refine ww_isub 68 dX6_ringHand_67 rfl ?_
    refine ww_aload_n 69 dX6_ringHand_68 rfl 0 rfl rfl ?_
    refine ww_getR 11 72 dX6_ringHand_69 wf_X6_34 (ww_i1 30 (by decide)) rfl rfl rfl ?_
    refine ww_iload_n 73 dX6_ringHand_72 rfl 2 rfl rfl ?_
    obtain ⟨j2, hij2, hj2, h⟩ := h
    refine ww_iald j2 74 dX6_ringHand_73 (ww_i1 39 (by decide)) rfl (by decide) hij2 hj2 rfl ?_
    obtain ⟨j3, hij3, hj3, h⟩ := h
    refine ww_iast j3 75 dX6_ringHand_74 (ww_i1 39 (by decide)) rfl (by decide) hij3 hj3 rfl (fun τ4 eτ4 => ?_)
    replace h := h τ4 eτ4
    refine ww_iinc (nI 1) 78 2 dX6_ringHand_75 (by decide) rfl rfl (by decide) rfl [some (.inr (.inr (30, 0))), some (.inl x1), some (.inl (x2 + nI 1))] rfl ?_
    refine ww_goto 53 dX6_ringHand_78 (by decide) ?_
    exact h
theorem b_X6_relatorLetter {l : Launch} {g : ww_G} {τ : ww_M} {a1 : Int32} {a2 : Int32} {a3 : Int32} {a4 : Int32} {Post : Int32 → ww_M → Prop}  (h : ∀ E : ww_E, (∃ j1 : Nat, a1 = nI j1 ∧ j1 < 3 ∧ (¬ (τ (32, 0) j1) = nI 0 ∧ (a4 = nI 0 → (∃ j3 : Nat, ((nI 14) * a1) + ((a2 + a3) - (a2 + a3) / (τ (32, 0) j1) * (τ (32, 0) j1)) = nI j3 ∧ j3 < 42 ∧ Post (τ (31, 0) j3) τ)) ∧ (¬ a4 = nI 0 → (∃ j4 : Nat, ((((nI 14) * a1) + (τ (32, 0) j1)) - (nI 1)) - ((a2 + a3) - (a2 + a3) / (τ (32, 0) j1) * (τ (32, 0) j1)) = nI j4 ∧ j4 < 42 ∧ (∃ Q5 : Int32 → ww_M → Prop, ww_T E.2.1 g mX6_opposite [.inl (τ (31, 0) j4)] τ (ww_QI Q5) ∧ ∀ (v6 : Int32) (τ7 : ww_M), Q5 v6 τ7 → Post v6 τ7)))))) : ww_T l g mX6_relatorLetter [.inr (.inr (30, 0)), .inl a1, .inl a2, .inl a3, .inl a4] τ (ww_QI Post) := by
  refine ww_enter (P := [some (.inr (.inr (30, 0))), some (.inl a1), some (.inl a2), some (.inl a3), some (.inl a4), none, none]) (by decide) (Nat.le_of_ble_eq_true rfl) rfl (fun E => ?_)
  replace h := h E
  refine ww_aload_n 1 dX6_relatorLetter_0 rfl 0 rfl rfl ?_
  refine ww_getR 1 4 dX6_relatorLetter_1 wf_X6_13 (ww_i1 30 (by decide)) rfl rfl rfl ?_
  refine ww_iload_n 5 dX6_relatorLetter_4 rfl 1 rfl rfl ?_
  obtain ⟨j1, hij1, hj1, h⟩ := h
  refine ww_iald j1 6 dX6_relatorLetter_5 (ww_i1 32 (by decide)) rfl (by decide) hij1 hj1 rfl ?_
  refine ww_istore 8 5 dX6_relatorLetter_6 rfl (by decide) rfl [some (.inr (.inr (30, 0))), some (.inl a1), some (.inl a2), some (.inl a3), some (.inl a4), some (.inl (τ (32, 0) j1)), none] rfl ?_
  refine ww_iload_n 9 dX6_relatorLetter_8 rfl 2 rfl rfl ?_
  refine ww_iload_n 10 dX6_relatorLetter_9 rfl 3 rfl rfl ?_
  refine ww_iadd 11 dX6_relatorLetter_10 rfl ?_
  refine ww_iload 13 5 dX6_relatorLetter_11 rfl rfl ?_
  obtain ⟨hz2, h⟩ := h
  refine ww_irem 14 dX6_relatorLetter_13 rfl hz2 ?_
  refine ww_istore 16 6 dX6_relatorLetter_14 rfl (by decide) rfl [some (.inr (.inr (30, 0))), some (.inl a1), some (.inl a2), some (.inl a3), some (.inl a4), some (.inl (τ (32, 0) j1)), some (.inl ((a2 + a3) - (a2 + a3) / (τ (32, 0) j1) * (τ (32, 0) j1)))] rfl ?_
  refine ww_iload 18 4 dX6_relatorLetter_16 rfl rfl ?_
  refine ww_if_eq 44 21 dX6_relatorLetter_18 (by decide) rfl (fun c => ?_) (fun c => ?_)
  · replace h := h.1 c
    refine ww_aload_n 45 dX6_relatorLetter_44 rfl 0 rfl rfl ?_
    refine ww_getR 0 48 dX6_relatorLetter_45 wf_X6_7 (ww_i1 30 (by decide)) rfl rfl rfl ?_
    refine ww_bipush (v := nI 14) 50 dX6_relatorLetter_48 (by decide) rfl ?_
    refine ww_iload_n 51 dX6_relatorLetter_50 rfl 1 rfl rfl ?_
    refine ww_imul 52 dX6_relatorLetter_51 rfl ?_
    refine ww_iload 54 6 dX6_relatorLetter_52 rfl rfl ?_
    refine ww_iadd 55 dX6_relatorLetter_54 rfl ?_
    obtain ⟨j3, hij3, hj3, h⟩ := h
    refine ww_iald j3 56 dX6_relatorLetter_55 (ww_i1 31 (by decide)) rfl (by decide) hij3 hj3 rfl ?_
    exact ww_iret dX6_relatorLetter_56 rfl ⟨_, rfl, h⟩
  · replace h := h.2 c
    refine ww_aload_n 22 dX6_relatorLetter_21 rfl 0 rfl rfl ?_
    refine ww_getR 0 25 dX6_relatorLetter_22 wf_X6_7 (ww_i1 30 (by decide)) rfl rfl rfl ?_
    refine ww_bipush (v := nI 14) 27 dX6_relatorLetter_25 (by decide) rfl ?_
    refine ww_iload_n 28 dX6_relatorLetter_27 rfl 1 rfl rfl ?_
    refine ww_imul 29 dX6_relatorLetter_28 rfl ?_
    refine ww_iload 31 5 dX6_relatorLetter_29 rfl rfl ?_
    refine ww_iadd 32 dX6_relatorLetter_31 rfl ?_
    refine ww_iconst (v := nI 1) 33 dX6_relatorLetter_32 (by decide) rfl ?_
    refine ww_isub 34 dX6_relatorLetter_33 rfl ?_
    refine ww_iload 36 6 dX6_relatorLetter_34 rfl rfl ?_
    refine ww_isub 37 dX6_relatorLetter_36 rfl ?_
    obtain ⟨j4, hij4, hj4, h⟩ := h
    refine ww_iald j4 38 dX6_relatorLetter_37 (ww_i1 31 (by decide)) rfl (by decide) hij4 hj4 rfl ?_
    obtain ⟨Q5, hT, h⟩ := h
    refine ww_invSI (d' := mX6_opposite) [.inl (τ (31, 0) j4)] rfl 41 dX6_relatorLetter_38 ⟨wi_X6, wc_X6_opposite, wp_X6_opposite, by decide, by decide⟩ (Or.inl wl_X6_76) wn_X6_opposite (Nat.le_of_ble_eq_true rfl) rfl hT (fun v6 τ7 hq => ?_)
    replace h := h v6 τ7 hq
    refine ww_goto 56 dX6_relatorLetter_41 (by decide) ?_
    exact ww_iret dX6_relatorLetter_56 rfl ⟨_, rfl, h⟩
theorem b_X6_isTurn {l : Launch} {g : ww_G} {τ : ww_M} {a1 : Int32} {a2 : Int32} {a3 : Int32} {a4 : Int32} {Post : Int32 → ww_M → Prop}  (h : ∀ E : ww_E, (∃ j1 : Nat, a1 = nI j1 ∧ j1 < 84 ∧ (∃ j2 : Nat, a2 = nI j2 ∧ j2 < 3 ∧ (¬ τ (34, 0) j1 = τ (32, 0) j2 → ww_W g mX6_isTurn E (ww_QI Post) 25 [some (.inr (.inr (30, 0))), some (.inl a1), some (.inl a2), some (.inl a3), some (.inl a4), some (.inl (nI 0)), some (.inl (nI 0))] [] τ) ∧ (τ (34, 0) j1 = τ (32, 0) j2 → ww_W g mX6_isTurn E (ww_QI Post) 25 [some (.inr (.inr (30, 0))), some (.inl a1), some (.inl a2), some (.inl a3), some (.inl a4), some (.inl (nI 1)), some (.inl (nI 0))] [] τ)))) : ww_T l g mX6_isTurn [.inr (.inr (30, 0)), .inl a1, .inl a2, .inl a3, .inl a4] τ (ww_QI Post) := by
  refine ww_enter (P := [some (.inr (.inr (30, 0))), some (.inl a1), some (.inl a2), some (.inl a3), some (.inl a4), none, none]) (by decide) (Nat.le_of_ble_eq_true rfl) rfl (fun E => ?_)
  replace h := h E
  refine ww_aload_n 1 dX6_isTurn_0 rfl 0 rfl rfl ?_
  refine ww_getR 4 4 dX6_isTurn_1 wf_X6_19 (ww_i1 30 (by decide)) rfl rfl rfl ?_
  refine ww_iload_n 5 dX6_isTurn_4 rfl 1 rfl rfl ?_
  obtain ⟨j1, hij1, hj1, h⟩ := h
  refine ww_iald j1 6 dX6_isTurn_5 (ww_i1 34 (by decide)) rfl (by decide) hij1 hj1 rfl ?_
  refine ww_aload_n 7 dX6_isTurn_6 rfl 0 rfl rfl ?_
  refine ww_getR 1 10 dX6_isTurn_7 wf_X6_13 (ww_i1 30 (by decide)) rfl rfl rfl ?_
  refine ww_iload_n 11 dX6_isTurn_10 rfl 2 rfl rfl ?_
  obtain ⟨j2, hij2, hj2, h⟩ := h
  refine ww_iald j2 12 dX6_isTurn_11 (ww_i1 32 (by decide)) rfl (by decide) hij2 hj2 rfl ?_
  refine ww_ic_ne 19 15 dX6_isTurn_12 (by decide) rfl (fun c => ?_) (fun c => ?_)
  · replace h := h.1 c
    refine ww_iconst (v := nI 0) 20 dX6_isTurn_19 (by decide) rfl ?_
    refine ww_istore 22 5 dX6_isTurn_20 rfl (by decide) rfl [some (.inr (.inr (30, 0))), some (.inl a1), some (.inl a2), some (.inl a3), some (.inl a4), some (.inl (nI 0)), none] rfl ?_
    refine ww_iconst (v := nI 0) 23 dX6_isTurn_22 (by decide) rfl ?_
    refine ww_istore 25 6 dX6_isTurn_23 rfl (by decide) rfl [some (.inr (.inr (30, 0))), some (.inl a1), some (.inl a2), some (.inl a3), some (.inl a4), some (.inl (nI 0)), some (.inl (nI 0))] rfl ?_
    exact h
  · replace h := h.2 c
    refine ww_iconst (v := nI 1) 16 dX6_isTurn_15 (by decide) rfl ?_
    refine ww_goto 20 dX6_isTurn_16 (by decide) ?_
    refine ww_istore 22 5 dX6_isTurn_20 rfl (by decide) rfl [some (.inr (.inr (30, 0))), some (.inl a1), some (.inl a2), some (.inl a3), some (.inl a4), some (.inl (nI 1)), none] rfl ?_
    refine ww_iconst (v := nI 0) 23 dX6_isTurn_22 (by decide) rfl ?_
    refine ww_istore 25 6 dX6_isTurn_23 rfl (by decide) rfl [some (.inr (.inr (30, 0))), some (.inl a1), some (.inl a2), some (.inl a3), some (.inl a4), some (.inl (nI 1)), some (.inl (nI 0))] rfl ?_
    exact h
theorem b_X6_isTurn_25 {g : ww_G} {E : ww_E} {τ : ww_M} {x1 : Int32} {x2 : Int32} {x3 : Int32} {x4 : Int32} {x5 : Int32} {x6 : Int32} {Post : Int32 → ww_M → Prop}  (h : (∃ j1 : Nat, x2 = nI j1 ∧ j1 < 3 ∧ (τ (32, 0) j1 ≤ x6 → ((x5 = nI 0 ∨ x5 = nI 1) ∧ Post x5 τ)) ∧ (¬ (τ (32, 0) j1 ≤ x6) → ((x5 = nI 0 → ((x5 = nI 0 ∨ x5 = nI 1) ∧ Post x5 τ)) ∧ (¬ x5 = nI 0 → (∃ j2 : Nat, ((nI 14) * x1) + x6 = nI j2 ∧ j2 < 1176 ∧ (∃ Q3 : Int32 → ww_M → Prop, ww_T E.2.1 g mX6_relatorLetter [.inr (.inr (30, 0)), .inl x2, .inl x3, .inl x6, .inl x4] τ (ww_QI Q3) ∧ ∀ (v4 : Int32) (τ5 : ww_M), Q3 v4 τ5 → (¬ τ (33, 0) j2 = v4 → ww_W g mX6_isTurn E (ww_QI Post) 25 [some (.inr (.inr (30, 0))), some (.inl x1), some (.inl x2), some (.inl x3), some (.inl x4), some (.inl (nI 0)), some (.inl (x6 + nI 1))] [] τ5) ∧ (τ (33, 0) j2 = v4 → ww_W g mX6_isTurn E (ww_QI Post) 25 [some (.inr (.inr (30, 0))), some (.inl x1), some (.inl x2), some (.inl x3), some (.inl x4), some (.inl (nI 1)), some (.inl (x6 + nI 1))] [] τ5)))))))) : ww_W g mX6_isTurn E (ww_QI Post) 25 [some (.inr (.inr (30, 0))), some (.inl x1), some (.inl x2), some (.inl x3), some (.inl x4), some (.inl x5), some (.inl x6)] [] τ := by
  refine ww_iload 27 6 dX6_isTurn_25 rfl rfl ?_
  refine ww_aload_n 28 dX6_isTurn_27 rfl 0 rfl rfl ?_
  refine ww_getR 1 31 dX6_isTurn_28 wf_X6_13 (ww_i1 30 (by decide)) rfl rfl rfl ?_
  refine ww_iload_n 32 dX6_isTurn_31 rfl 2 rfl rfl ?_
  obtain ⟨j1, hij1, hj1, h⟩ := h
  refine ww_iald j1 33 dX6_isTurn_32 (ww_i1 32 (by decide)) rfl (by decide) hij1 hj1 rfl ?_
  refine ww_ic_ge 79 36 dX6_isTurn_33 (by decide) rfl (fun c => ?_) (fun c => ?_)
  · replace h := h.1 c
    refine ww_iload 81 5 dX6_isTurn_79 rfl rfl ?_
    exact ww_zret dX6_isTurn_81 rfl h.1 ⟨_, rfl, h.2⟩
  · replace h := h.2 c
    refine ww_iload 38 5 dX6_isTurn_36 rfl rfl ?_
    refine ww_if_eq 79 41 dX6_isTurn_38 (by decide) rfl (fun c => ?_) (fun c => ?_)
    · replace h := h.1 c
      refine ww_iload 81 5 dX6_isTurn_79 rfl rfl ?_
      exact ww_zret dX6_isTurn_81 rfl h.1 ⟨_, rfl, h.2⟩
    · replace h := h.2 c
      refine ww_aload_n 42 dX6_isTurn_41 rfl 0 rfl rfl ?_
      refine ww_getR 3 45 dX6_isTurn_42 wf_X6_16 (ww_i1 30 (by decide)) rfl rfl rfl ?_
      refine ww_bipush (v := nI 14) 47 dX6_isTurn_45 (by decide) rfl ?_
      refine ww_iload_n 48 dX6_isTurn_47 rfl 1 rfl rfl ?_
      refine ww_imul 49 dX6_isTurn_48 rfl ?_
      refine ww_iload 51 6 dX6_isTurn_49 rfl rfl ?_
      refine ww_iadd 52 dX6_isTurn_51 rfl ?_
      obtain ⟨j2, hij2, hj2, h⟩ := h
      refine ww_iald j2 53 dX6_isTurn_52 (ww_i1 33 (by decide)) rfl (by decide) hij2 hj2 rfl ?_
      refine ww_aload_n 54 dX6_isTurn_53 rfl 0 rfl rfl ?_
      refine ww_iload_n 55 dX6_isTurn_54 rfl 2 rfl rfl ?_
      refine ww_iload_n 56 dX6_isTurn_55 rfl 3 rfl rfl ?_
      refine ww_iload 58 6 dX6_isTurn_56 rfl rfl ?_
      refine ww_iload 60 4 dX6_isTurn_58 rfl rfl ?_
      obtain ⟨Q3, hT, h⟩ := h
      refine ww_invVI (d' := mX6_relatorLetter) [.inl x2, .inl x3, .inl x6, .inl x4] rfl 63 dX6_isTurn_60 ⟨wi_X6, wc_X6_relatorLetter, wp_X6_relatorLetter, by decide, by decide⟩ wl_X6_94 wn_X6_relatorLetter we_X6_relatorLetter (ww_i1 30 (by decide)) rfl rfl (Nat.le_of_ble_eq_true rfl) rfl hT (fun v4 τ5 hq => ?_)
      replace h := h v4 τ5 hq
      refine ww_ic_ne 70 66 dX6_isTurn_63 (by decide) rfl (fun c => ?_) (fun c => ?_)
      · replace h := h.1 c
        refine ww_iconst (v := nI 0) 71 dX6_isTurn_70 (by decide) rfl ?_
        refine ww_istore 73 5 dX6_isTurn_71 rfl (by decide) rfl [some (.inr (.inr (30, 0))), some (.inl x1), some (.inl x2), some (.inl x3), some (.inl x4), some (.inl (nI 0)), some (.inl x6)] rfl ?_
        refine ww_iinc (nI 1) 76 6 dX6_isTurn_73 (by decide) rfl rfl (by decide) rfl [some (.inr (.inr (30, 0))), some (.inl x1), some (.inl x2), some (.inl x3), some (.inl x4), some (.inl (nI 0)), some (.inl (x6 + nI 1))] rfl ?_
        refine ww_goto 25 dX6_isTurn_76 (by decide) ?_
        exact h
      · replace h := h.2 c
        refine ww_iconst (v := nI 1) 67 dX6_isTurn_66 (by decide) rfl ?_
        refine ww_goto 71 dX6_isTurn_67 (by decide) ?_
        refine ww_istore 73 5 dX6_isTurn_71 rfl (by decide) rfl [some (.inr (.inr (30, 0))), some (.inl x1), some (.inl x2), some (.inl x3), some (.inl x4), some (.inl (nI 1)), some (.inl x6)] rfl ?_
        refine ww_iinc (nI 1) 76 6 dX6_isTurn_73 (by decide) rfl rfl (by decide) rfl [some (.inr (.inr (30, 0))), some (.inl x1), some (.inl x2), some (.inl x3), some (.inl x4), some (.inl (nI 1)), some (.inl (x6 + nI 1))] rfl ?_
        refine ww_goto 25 dX6_isTurn_76 (by decide) ?_
        exact h
theorem b_X6_isListed {l : Launch} {g : ww_G} {τ : ww_M} {a1 : Int32} {a2 : Int32} {a3 : Int32} {Post : Int32 → ww_M → Prop}  (h : ∀ E : ww_E, ww_W g mX6_isListed E (ww_QI Post) 6 [some (.inr (.inr (30, 0))), some (.inl a1), some (.inl a2), some (.inl a3), some (.inl (nI 0)), some (.inl (nI 0))] [] τ) : ww_T l g mX6_isListed [.inr (.inr (30, 0)), .inl a1, .inl a2, .inl a3] τ (ww_QI Post) := by
  refine ww_enter (P := [some (.inr (.inr (30, 0))), some (.inl a1), some (.inl a2), some (.inl a3), none, none]) (by decide) (Nat.le_of_ble_eq_true rfl) rfl (fun E => ?_)
  replace h := h E
  refine ww_iconst (v := nI 0) 1 dX6_isListed_0 (by decide) rfl ?_
  refine ww_istore 3 4 dX6_isListed_1 rfl (by decide) rfl [some (.inr (.inr (30, 0))), some (.inl a1), some (.inl a2), some (.inl a3), some (.inl (nI 0)), none] rfl ?_
  refine ww_iconst (v := nI 0) 4 dX6_isListed_3 (by decide) rfl ?_
  refine ww_istore 6 5 dX6_isListed_4 rfl (by decide) rfl [some (.inr (.inr (30, 0))), some (.inl a1), some (.inl a2), some (.inl a3), some (.inl (nI 0)), some (.inl (nI 0))] rfl ?_
  exact h
theorem b_X6_isListed_6 {g : ww_G} {E : ww_E} {τ : ww_M} {x1 : Int32} {x2 : Int32} {x3 : Int32} {x4 : Int32} {x5 : Int32} {Post : Int32 → ww_M → Prop}  (h : ((τ (30, 0) 6 ≤ x5 → ((x4 = nI 0 ∨ x4 = nI 1) ∧ Post x4 τ)) ∧ (¬ (τ (30, 0) 6 ≤ x5) → ((¬ x4 = nI 0 → ((x4 = nI 0 ∨ x4 = nI 1) ∧ Post x4 τ)) ∧ (x4 = nI 0 → (∃ Q1 : Int32 → ww_M → Prop, ww_T E.2.1 g mX6_isTurn [.inr (.inr (30, 0)), .inl x5, .inl x1, .inl x2, .inl x3] τ (ww_QI Q1) ∧ ∀ (v2 : Int32) (τ3 : ww_M), Q1 v2 τ3 → ww_W g mX6_isListed E (ww_QI Post) 6 [some (.inr (.inr (30, 0))), some (.inl x1), some (.inl x2), some (.inl x3), some (.inl v2), some (.inl (x5 + nI 1))] [] τ3)))))) : ww_W g mX6_isListed E (ww_QI Post) 6 [some (.inr (.inr (30, 0))), some (.inl x1), some (.inl x2), some (.inl x3), some (.inl x4), some (.inl x5)] [] τ := by
  refine ww_iload 8 5 dX6_isListed_6 rfl rfl ?_
  refine ww_aload_n 9 dX6_isListed_8 rfl 0 rfl rfl ?_
  refine ww_getI 6 12 dX6_isListed_9 wf_X6_98 (ww_i1 30 (by decide)) rfl rfl rfl ?_
  refine ww_ic_ge 37 15 dX6_isListed_12 (by decide) rfl (fun c => ?_) (fun c => ?_)
  · replace h := h.1 c
    refine ww_iload 39 4 dX6_isListed_37 rfl rfl ?_
    exact ww_zret dX6_isListed_39 rfl h.1 ⟨_, rfl, h.2⟩
  · replace h := h.2 c
    refine ww_iload 17 4 dX6_isListed_15 rfl rfl ?_
    refine ww_if_ne 37 20 dX6_isListed_17 (by decide) rfl (fun c => ?_) (fun c => ?_)
    · replace h := h.1 c
      refine ww_iload 39 4 dX6_isListed_37 rfl rfl ?_
      exact ww_zret dX6_isListed_39 rfl h.1 ⟨_, rfl, h.2⟩
    · replace h := h.2 c
      refine ww_aload_n 21 dX6_isListed_20 rfl 0 rfl rfl ?_
      refine ww_iload 23 5 dX6_isListed_21 rfl rfl ?_
      refine ww_iload_n 24 dX6_isListed_23 rfl 1 rfl rfl ?_
      refine ww_iload_n 25 dX6_isListed_24 rfl 2 rfl rfl ?_
      refine ww_iload_n 26 dX6_isListed_25 rfl 3 rfl rfl ?_
      obtain ⟨Q1, hT, h⟩ := h
      refine ww_invVI (d' := mX6_isTurn) [.inl x5, .inl x1, .inl x2, .inl x3] rfl 29 dX6_isListed_26 ⟨wi_X6, wc_X6_isTurn, wp_X6_isTurn, by decide, by decide⟩ wl_X6_101 wn_X6_isTurn we_X6_isTurn (ww_i1 30 (by decide)) rfl rfl (Nat.le_of_ble_eq_true rfl) rfl hT (fun v2 τ3 hq => ?_)
      replace h := h v2 τ3 hq
      refine ww_istore 31 4 dX6_isListed_29 rfl (by decide) rfl [some (.inr (.inr (30, 0))), some (.inl x1), some (.inl x2), some (.inl x3), some (.inl v2), some (.inl x5)] rfl ?_
      refine ww_iinc (nI 1) 34 5 dX6_isListed_31 (by decide) rfl rfl (by decide) rfl [some (.inr (.inr (30, 0))), some (.inl x1), some (.inl x2), some (.inl x3), some (.inl v2), some (.inl (x5 + nI 1))] rfl ?_
      refine ww_goto 6 dX6_isListed_34 (by decide) ?_
      exact h
theorem b_X6_listTurns {l : Launch} {g : ww_G} {τ : ww_M} {a1 : Int32} {a2 : Int32} {Post : ww_M → Prop}  (h : ∀ E : ww_E, ww_W g mX6_listTurns E (ww_QV Post) 2 [some (.inr (.inr (30, 0))), some (.inl a1), some (.inl a2), some (.inl (nI 0)), none] [] τ) : ww_T l g mX6_listTurns [.inr (.inr (30, 0)), .inl a1, .inl a2] τ (ww_QV Post) := by
  refine ww_enter (P := [some (.inr (.inr (30, 0))), some (.inl a1), some (.inl a2), none, none]) (by decide) (Nat.le_of_ble_eq_true rfl) rfl (fun E => ?_)
  replace h := h E
  refine ww_iconst (v := nI 0) 1 dX6_listTurns_0 (by decide) rfl ?_
  refine ww_istore_n 2 dX6_listTurns_1 rfl 3 rfl (by decide) rfl [some (.inr (.inr (30, 0))), some (.inl a1), some (.inl a2), some (.inl (nI 0)), none] rfl ?_
  exact h
theorem b_X6_listTurns_2 {g : ww_G} {E : ww_E} {τ : ww_M} {x1 : Int32} {x2 : Int32} {x3 : Int32} {Post : ww_M → Prop}  (h : (∃ j1 : Nat, x1 = nI j1 ∧ j1 < 3 ∧ (τ (32, 0) j1 ≤ x3 → Post τ) ∧ (¬ (τ (32, 0) j1 ≤ x3) → (∃ Q2 : Int32 → ww_M → Prop, ww_T E.2.1 g mX6_isListed [.inr (.inr (30, 0)), .inl x1, .inl x3, .inl x2] τ (ww_QI Q2) ∧ ∀ (v3 : Int32) (τ4 : ww_M), Q2 v3 τ4 → (¬ v3 = nI 0 → ww_W g mX6_listTurns E (ww_QV Post) 2 [some (.inr (.inr (30, 0))), some (.inl x1), some (.inl x2), some (.inl (x3 + nI 1)), none] [] τ4) ∧ (v3 = nI 0 → ww_W g mX6_listTurns E (ww_QV Post) 25 [some (.inr (.inr (30, 0))), some (.inl x1), some (.inl x2), some (.inl x3), some (.inl (nI 0))] [] τ4))))) : ww_W g mX6_listTurns E (ww_QV Post) 2 [some (.inr (.inr (30, 0))), some (.inl x1), some (.inl x2), some (.inl x3), none] [] τ := by
  refine ww_iload_n 3 dX6_listTurns_2 rfl 3 rfl rfl ?_
  refine ww_aload_n 4 dX6_listTurns_3 rfl 0 rfl rfl ?_
  refine ww_getR 1 7 dX6_listTurns_4 wf_X6_13 (ww_i1 30 (by decide)) rfl rfl rfl ?_
  refine ww_iload_n 8 dX6_listTurns_7 rfl 1 rfl rfl ?_
  obtain ⟨j1, hij1, hj1, h⟩ := h
  refine ww_iald j1 9 dX6_listTurns_8 (ww_i1 32 (by decide)) rfl (by decide) hij1 hj1 rfl ?_
  refine ww_ic_ge 107 12 dX6_listTurns_9 (by decide) rfl (fun c => ?_) (fun c => ?_)
  · replace h := h.1 c
    exact ww_vret dX6_listTurns_107 rfl ⟨rfl, h⟩
  · replace h := h.2 c
    refine ww_aload_n 13 dX6_listTurns_12 rfl 0 rfl rfl ?_
    refine ww_iload_n 14 dX6_listTurns_13 rfl 1 rfl rfl ?_
    refine ww_iload_n 15 dX6_listTurns_14 rfl 3 rfl rfl ?_
    refine ww_iload_n 16 dX6_listTurns_15 rfl 2 rfl rfl ?_
    obtain ⟨Q2, hT, h⟩ := h
    refine ww_invVI (d' := mX6_isListed) [.inl x1, .inl x3, .inl x2] rfl 19 dX6_listTurns_16 ⟨wi_X6, wc_X6_isListed, wp_X6_isListed, by decide, by decide⟩ wl_X6_105 wn_X6_isListed we_X6_isListed (ww_i1 30 (by decide)) rfl rfl (Nat.le_of_ble_eq_true rfl) rfl hT (fun v3 τ4 hq => ?_)
    replace h := h v3 τ4 hq
    refine ww_if_ne 101 22 dX6_listTurns_19 (by decide) rfl (fun c => ?_) (fun c => ?_)
    · replace h := h.1 c
      refine ww_iinc (nI 1) 104 3 dX6_listTurns_101 (by decide) rfl rfl (by decide) rfl [some (.inr (.inr (30, 0))), some (.inl x1), some (.inl x2), some (.inl (x3 + nI 1)), none] rfl ?_
      refine ww_goto 2 dX6_listTurns_104 (by decide) ?_
      exact h
    · replace h := h.2 c
      refine ww_iconst (v := nI 0) 23 dX6_listTurns_22 (by decide) rfl ?_
      refine ww_istore 25 4 dX6_listTurns_23 rfl (by decide) rfl [some (.inr (.inr (30, 0))), some (.inl x1), some (.inl x2), some (.inl x3), some (.inl (nI 0))] rfl ?_
      exact h
theorem b_X6_listTurns_25 {g : ww_G} {E : ww_E} {τ : ww_M} {x1 : Int32} {x2 : Int32} {x3 : Int32} {x4 : Int32} {Post : ww_M → Prop}  (h : (∃ j1 : Nat, x1 = nI j1 ∧ j1 < 3 ∧ (τ (32, 0) j1 ≤ x4 → (∃ j2 : Nat, x1 = nI j2 ∧ j2 < 3 ∧ (∃ j3 : Nat, τ (30, 0) 6 = nI j3 ∧ j3 < 84 ∧ ∀ τ4 : ww_M, τ4 = ww_up τ (34, 0) j3 (τ (32, 0) j2) → (∃ j5 : Nat, τ4 (30, 0) 6 = nI j5 ∧ j5 < 84 ∧ ∀ τ6 : ww_M, τ6 = ww_up τ4 (35, 0) j5 x1 → (∀ τ7 : ww_M, τ7 = ww_up τ6 (30, 0) 6 ((τ6 (30, 0) 6) + (nI 1)) → ww_W g mX6_listTurns E (ww_QV Post) 2 [some (.inr (.inr (30, 0))), some (.inl x1), some (.inl x2), some (.inl (x3 + nI 1)), none] [] τ7))))) ∧ (¬ (τ (32, 0) j1 ≤ x4) → (∃ Q8 : Int32 → ww_M → Prop, ww_T E.2.1 g mX6_relatorLetter [.inr (.inr (30, 0)), .inl x1, .inl x3, .inl x4, .inl x2] τ (ww_QI Q8) ∧ ∀ (v9 : Int32) (τ10 : ww_M), Q8 v9 τ10 → (∃ j11 : Nat, ((nI 14) * (τ (30, 0) 6)) + x4 = nI j11 ∧ j11 < 1176 ∧ ∀ τ12 : ww_M, τ12 = ww_up τ10 (33, 0) j11 v9 → ww_W g mX6_listTurns E (ww_QV Post) 25 [some (.inr (.inr (30, 0))), some (.inl x1), some (.inl x2), some (.inl x3), some (.inl (x4 + nI 1))] [] τ12))))) : ww_W g mX6_listTurns E (ww_QV Post) 25 [some (.inr (.inr (30, 0))), some (.inl x1), some (.inl x2), some (.inl x3), some (.inl x4)] [] τ := by
  refine ww_iload 27 4 dX6_listTurns_25 rfl rfl ?_
  refine ww_aload_n 28 dX6_listTurns_27 rfl 0 rfl rfl ?_
  refine ww_getR 1 31 dX6_listTurns_28 wf_X6_13 (ww_i1 30 (by decide)) rfl rfl rfl ?_
  refine ww_iload_n 32 dX6_listTurns_31 rfl 1 rfl rfl ?_
  obtain ⟨j1, hij1, hj1, h⟩ := h
  refine ww_iald j1 33 dX6_listTurns_32 (ww_i1 32 (by decide)) rfl (by decide) hij1 hj1 rfl ?_
  refine ww_ic_ge 66 36 dX6_listTurns_33 (by decide) rfl (fun c => ?_) (fun c => ?_)
  · replace h := h.1 c
    refine ww_aload_n 67 dX6_listTurns_66 rfl 0 rfl rfl ?_
    refine ww_getR 4 70 dX6_listTurns_67 wf_X6_19 (ww_i1 30 (by decide)) rfl rfl rfl ?_
    refine ww_aload_n 71 dX6_listTurns_70 rfl 0 rfl rfl ?_
    refine ww_getI 6 74 dX6_listTurns_71 wf_X6_98 (ww_i1 30 (by decide)) rfl rfl rfl ?_
    refine ww_aload_n 75 dX6_listTurns_74 rfl 0 rfl rfl ?_
    refine ww_getR 1 78 dX6_listTurns_75 wf_X6_13 (ww_i1 30 (by decide)) rfl rfl rfl ?_
    refine ww_iload_n 79 dX6_listTurns_78 rfl 1 rfl rfl ?_
    obtain ⟨j2, hij2, hj2, h⟩ := h
    refine ww_iald j2 80 dX6_listTurns_79 (ww_i1 32 (by decide)) rfl (by decide) hij2 hj2 rfl ?_
    obtain ⟨j3, hij3, hj3, h⟩ := h
    refine ww_iast j3 81 dX6_listTurns_80 (ww_i1 34 (by decide)) rfl (by decide) hij3 hj3 rfl (fun τ4 eτ4 => ?_)
    replace h := h τ4 eτ4
    refine ww_aload_n 82 dX6_listTurns_81 rfl 0 rfl rfl ?_
    refine ww_getR 5 85 dX6_listTurns_82 wf_X6_22 (ww_i1 30 (by decide)) rfl rfl rfl ?_
    refine ww_aload_n 86 dX6_listTurns_85 rfl 0 rfl rfl ?_
    refine ww_getI 6 89 dX6_listTurns_86 wf_X6_98 (ww_i1 30 (by decide)) rfl rfl rfl ?_
    refine ww_iload_n 90 dX6_listTurns_89 rfl 1 rfl rfl ?_
    obtain ⟨j5, hij5, hj5, h⟩ := h
    refine ww_iast j5 91 dX6_listTurns_90 (ww_i1 35 (by decide)) rfl (by decide) hij5 hj5 rfl (fun τ6 eτ6 => ?_)
    replace h := h τ6 eτ6
    refine ww_aload_n 92 dX6_listTurns_91 rfl 0 rfl rfl ?_
    refine ww_dup 93 dX6_listTurns_92 rfl rfl ?_
    refine ww_getI 6 96 dX6_listTurns_93 wf_X6_98 (ww_i1 30 (by decide)) rfl rfl rfl ?_
    refine ww_iconst (v := nI 1) 97 dX6_listTurns_96 (by decide) rfl ?_
    refine ww_iadd 98 dX6_listTurns_97 rfl ?_
    refine ww_putI 6 101 dX6_listTurns_98 wf_X6_98 fp_X6_6 (ww_i1 30 (by decide)) rfl rfl rfl (fun τ7 eτ7 => ?_)
    replace h := h τ7 eτ7
    refine ww_iinc (nI 1) 104 3 dX6_listTurns_101 (by decide) rfl rfl (by decide) rfl [some (.inr (.inr (30, 0))), some (.inl x1), some (.inl x2), some (.inl (x3 + nI 1)), some (.inl x4)] rfl ?_
    refine ww_goto 2 dX6_listTurns_104 (by decide) ?_
    exact ww_weak (ww_le_s (ww_le_s (ww_le_s (ww_le_s (ww_le_n (ww_le_nil _)))))) h
  · replace h := h.2 c
    refine ww_aload_n 37 dX6_listTurns_36 rfl 0 rfl rfl ?_
    refine ww_getR 3 40 dX6_listTurns_37 wf_X6_16 (ww_i1 30 (by decide)) rfl rfl rfl ?_
    refine ww_bipush (v := nI 14) 42 dX6_listTurns_40 (by decide) rfl ?_
    refine ww_aload_n 43 dX6_listTurns_42 rfl 0 rfl rfl ?_
    refine ww_getI 6 46 dX6_listTurns_43 wf_X6_98 (ww_i1 30 (by decide)) rfl rfl rfl ?_
    refine ww_imul 47 dX6_listTurns_46 rfl ?_
    refine ww_iload 49 4 dX6_listTurns_47 rfl rfl ?_
    refine ww_iadd 50 dX6_listTurns_49 rfl ?_
    refine ww_aload_n 51 dX6_listTurns_50 rfl 0 rfl rfl ?_
    refine ww_iload_n 52 dX6_listTurns_51 rfl 1 rfl rfl ?_
    refine ww_iload_n 53 dX6_listTurns_52 rfl 3 rfl rfl ?_
    refine ww_iload 55 4 dX6_listTurns_53 rfl rfl ?_
    refine ww_iload_n 56 dX6_listTurns_55 rfl 2 rfl rfl ?_
    obtain ⟨Q8, hT, h⟩ := h
    refine ww_invVI (d' := mX6_relatorLetter) [.inl x1, .inl x3, .inl x4, .inl x2] rfl 59 dX6_listTurns_56 ⟨wi_X6, wc_X6_relatorLetter, wp_X6_relatorLetter, by decide, by decide⟩ wl_X6_94 wn_X6_relatorLetter we_X6_relatorLetter (ww_i1 30 (by decide)) rfl rfl (Nat.le_of_ble_eq_true rfl) rfl hT (fun v9 τ10 hq => ?_)
    replace h := h v9 τ10 hq
    obtain ⟨j11, hij11, hj11, h⟩ := h
    refine ww_iast j11 60 dX6_listTurns_59 (ww_i1 33 (by decide)) rfl (by decide) hij11 hj11 rfl (fun τ12 eτ12 => ?_)
    replace h := h τ12 eτ12
    refine ww_iinc (nI 1) 63 4 dX6_listTurns_60 (by decide) rfl rfl (by decide) rfl [some (.inr (.inr (30, 0))), some (.inl x1), some (.inl x2), some (.inl x3), some (.inl (x4 + nI 1))] rfl ?_
    refine ww_goto 25 dX6_listTurns_63 (by decide) ?_
    exact h
theorem b_X6_listMembers {l : Launch} {g : ww_G} {τ : ww_M}  {Post : ww_M → Prop}  (h : ∀ E : ww_E, (∀ τ1 : ww_M, τ1 = ww_up τ (30, 0) 6 (nI 0) → ww_W g mX6_listMembers E (ww_QV Post) 7 [some (.inr (.inr (30, 0))), some (.inl (nI 0))] [] τ1)) : ww_T l g mX6_listMembers [.inr (.inr (30, 0))] τ (ww_QV Post) := by
  refine ww_enter (P := [some (.inr (.inr (30, 0))), none]) (by decide) (Nat.le_of_ble_eq_true rfl) rfl (fun E => ?_)
  replace h := h E
  refine ww_aload_n 1 dX6_listMembers_0 rfl 0 rfl rfl ?_
  refine ww_iconst (v := nI 0) 2 dX6_listMembers_1 (by decide) rfl ?_
  refine ww_putI 6 5 dX6_listMembers_2 wf_X6_98 fp_X6_6 (ww_i1 30 (by decide)) rfl rfl rfl (fun τ1 eτ1 => ?_)
  replace h := h τ1 eτ1
  refine ww_iconst (v := nI 0) 6 dX6_listMembers_5 (by decide) rfl ?_
  refine ww_istore_n 7 dX6_listMembers_6 rfl 1 rfl (by decide) rfl [some (.inr (.inr (30, 0))), some (.inl (nI 0))] rfl ?_
  exact h
theorem b_X6_listMembers_7 {g : ww_G} {E : ww_E} {τ : ww_M} {x1 : Int32} {Post : ww_M → Prop}  (h : ((τ (30, 0) 2 ≤ x1 → Post τ) ∧ (¬ (τ (30, 0) 2 ≤ x1) → (∃ Q1 : ww_M → Prop, ww_T E.2.1 g mX6_listTurns [.inr (.inr (30, 0)), .inl x1, .inl (nI 0)] τ (ww_QV Q1) ∧ ∀ (τ2 : ww_M), Q1 τ2 → (∃ Q3 : ww_M → Prop, ww_T E.2.1 g mX6_listTurns [.inr (.inr (30, 0)), .inl x1, .inl (nI 1)] τ2 (ww_QV Q3) ∧ ∀ (τ4 : ww_M), Q3 τ4 → ww_W g mX6_listMembers E (ww_QV Post) 7 [some (.inr (.inr (30, 0))), some (.inl (x1 + nI 1))] [] τ4))))) : ww_W g mX6_listMembers E (ww_QV Post) 7 [some (.inr (.inr (30, 0))), some (.inl x1)] [] τ := by
  refine ww_iload_n 8 dX6_listMembers_7 rfl 1 rfl rfl ?_
  refine ww_aload_n 9 dX6_listMembers_8 rfl 0 rfl rfl ?_
  refine ww_getI 2 12 dX6_listMembers_9 wf_X6_109 (ww_i1 30 (by decide)) rfl rfl rfl ?_
  refine ww_ic_ge 33 15 dX6_listMembers_12 (by decide) rfl (fun c => ?_) (fun c => ?_)
  · replace h := h.1 c
    exact ww_vret dX6_listMembers_33 rfl ⟨rfl, h⟩
  · replace h := h.2 c
    refine ww_aload_n 16 dX6_listMembers_15 rfl 0 rfl rfl ?_
    refine ww_iload_n 17 dX6_listMembers_16 rfl 1 rfl rfl ?_
    refine ww_iconst (v := nI 0) 18 dX6_listMembers_17 (by decide) rfl ?_
    obtain ⟨Q1, hT, h⟩ := h
    refine ww_invVV (d' := mX6_listTurns) [.inl x1, .inl (nI 0)] rfl 21 dX6_listMembers_18 ⟨wi_X6, wc_X6_listTurns, wp_X6_listTurns, by decide, by decide⟩ wl_X6_112 wn_X6_listTurns we_X6_listTurns (ww_i1 30 (by decide)) rfl rfl (Nat.le_of_ble_eq_true rfl) rfl hT (fun τ2 hq => ?_)
    replace h := h τ2 hq
    refine ww_aload_n 22 dX6_listMembers_21 rfl 0 rfl rfl ?_
    refine ww_iload_n 23 dX6_listMembers_22 rfl 1 rfl rfl ?_
    refine ww_iconst (v := nI 1) 24 dX6_listMembers_23 (by decide) rfl ?_
    obtain ⟨Q3, hT, h⟩ := h
    refine ww_invVV (d' := mX6_listTurns) [.inl x1, .inl (nI 1)] rfl 27 dX6_listMembers_24 ⟨wi_X6, wc_X6_listTurns, wp_X6_listTurns, by decide, by decide⟩ wl_X6_112 wn_X6_listTurns we_X6_listTurns (ww_i1 30 (by decide)) rfl rfl (Nat.le_of_ble_eq_true rfl) rfl hT (fun τ4 hq => ?_)
    replace h := h τ4 hq
    refine ww_iinc (nI 1) 30 1 dX6_listMembers_27 (by decide) rfl rfl (by decide) rfl [some (.inr (.inr (30, 0))), some (.inl (x1 + nI 1))] rfl ?_
    refine ww_goto 7 dX6_listMembers_30 (by decide) ?_
    exact h
theorem b_X6_isMember {l : Launch} {g : ww_G} {τ : ww_M} {a1 : Int32} {Post : Int32 → ww_M → Prop}  (h : ∀ E : ww_E, (∃ Q1 : Int32 → ww_M → Prop, ww_T E.2.1 g mX6_in [.inr (.inl (a1.toInt64)), .inr (.inl (lN 0)), .inr (.inl (((τ (30, 0) 6) - (nI 1)).toInt64))] τ (ww_QI Q1) ∧ ∀ (v2 : Int32) (τ3 : ww_M), Q1 v2 τ3 → (v2 = nI 0 ∨ v2 = nI 1) ∧ Post v2 τ3)) : ww_T l g mX6_isMember [.inr (.inr (30, 0)), .inl a1] τ (ww_QI Post) := by
  refine ww_enter (P := [some (.inr (.inr (30, 0))), some (.inl a1)]) (by decide) (Nat.le_of_ble_eq_true rfl) rfl (fun E => ?_)
  replace h := h E
  refine ww_iload_n 1 dX6_isMember_0 rfl 1 rfl rfl ?_
  refine ww_i2l 2 dX6_isMember_1 rfl ?_
  refine ww_lconst (v := lN 0) 3 dX6_isMember_2 (by decide) rfl ?_
  refine ww_aload_n 4 dX6_isMember_3 rfl 0 rfl rfl ?_
  refine ww_getI 6 7 dX6_isMember_4 wf_X6_98 (ww_i1 30 (by decide)) rfl rfl rfl ?_
  refine ww_iconst (v := nI 1) 8 dX6_isMember_7 (by decide) rfl ?_
  refine ww_isub 9 dX6_isMember_8 rfl ?_
  refine ww_i2l 10 dX6_isMember_9 rfl ?_
  obtain ⟨Q1, hT, h⟩ := h
  refine ww_invSI (d' := mX6_in) [.inr (.inl (a1.toInt64)), .inr (.inl (lN 0)), .inr (.inl (((τ (30, 0) 6) - (nI 1)).toInt64))] rfl 13 dX6_isMember_10 ⟨wi_X6, wc_X6_in, wp_X6_in, by decide, by decide⟩ (Or.inl wl_X6_66) wn_X6_in (Nat.le_of_ble_eq_true rfl) rfl hT (fun v2 τ3 hq => ?_)
  replace h := h v2 τ3 hq
  exact ww_zret dX6_isMember_13 rfl h.1 ⟨_, rfl, h.2⟩
theorem b_X6_isRelator {l : Launch} {g : ww_G} {τ : ww_M} {a1 : Int32} {Post : Int32 → ww_M → Prop}  (h : ∀ E : ww_E, (∃ Q1 : Int32 → ww_M → Prop, ww_T E.2.1 g mX6_in [.inr (.inl (a1.toInt64)), .inr (.inl (lN 0)), .inr (.inl (((τ (30, 0) 2) - (nI 1)).toInt64))] τ (ww_QI Q1) ∧ ∀ (v2 : Int32) (τ3 : ww_M), Q1 v2 τ3 → (v2 = nI 0 ∨ v2 = nI 1) ∧ Post v2 τ3)) : ww_T l g mX6_isRelator [.inr (.inr (30, 0)), .inl a1] τ (ww_QI Post) := by
  refine ww_enter (P := [some (.inr (.inr (30, 0))), some (.inl a1)]) (by decide) (Nat.le_of_ble_eq_true rfl) rfl (fun E => ?_)
  replace h := h E
  refine ww_iload_n 1 dX6_isRelator_0 rfl 1 rfl rfl ?_
  refine ww_i2l 2 dX6_isRelator_1 rfl ?_
  refine ww_lconst (v := lN 0) 3 dX6_isRelator_2 (by decide) rfl ?_
  refine ww_aload_n 4 dX6_isRelator_3 rfl 0 rfl rfl ?_
  refine ww_getI 2 7 dX6_isRelator_4 wf_X6_109 (ww_i1 30 (by decide)) rfl rfl rfl ?_
  refine ww_iconst (v := nI 1) 8 dX6_isRelator_7 (by decide) rfl ?_
  refine ww_isub 9 dX6_isRelator_8 rfl ?_
  refine ww_i2l 10 dX6_isRelator_9 rfl ?_
  obtain ⟨Q1, hT, h⟩ := h
  refine ww_invSI (d' := mX6_in) [.inr (.inl (a1.toInt64)), .inr (.inl (lN 0)), .inr (.inl (((τ (30, 0) 2) - (nI 1)).toInt64))] rfl 13 dX6_isRelator_10 ⟨wi_X6, wc_X6_in, wp_X6_in, by decide, by decide⟩ (Or.inl wl_X6_66) wn_X6_in (Nat.le_of_ble_eq_true rfl) rfl hT (fun v2 τ3 hq => ?_)
  replace h := h v2 τ3 hq
  exact ww_zret dX6_isRelator_13 rfl h.1 ⟨_, rfl, h.2⟩
theorem b_X6_beginAlike {l : Launch} {g : ww_G} {τ : ww_M} {a1 : Int32} {a2 : Int32} {Post : Int32 → ww_M → Prop}  (h : ∀ E : ww_E, ww_W g mX6_beginAlike E (ww_QI Post) 2 [some (.inr (.inr (30, 0))), some (.inl a1), some (.inl a2), some (.inl (nI 0))] [] τ) : ww_T l g mX6_beginAlike [.inr (.inr (30, 0)), .inl a1, .inl a2] τ (ww_QI Post) := by
  refine ww_enter (P := [some (.inr (.inr (30, 0))), some (.inl a1), some (.inl a2), none]) (by decide) (Nat.le_of_ble_eq_true rfl) rfl (fun E => ?_)
  replace h := h E
  refine ww_iconst (v := nI 0) 1 dX6_beginAlike_0 (by decide) rfl ?_
  refine ww_istore_n 2 dX6_beginAlike_1 rfl 3 rfl (by decide) rfl [some (.inr (.inr (30, 0))), some (.inl a1), some (.inl a2), some (.inl (nI 0))] rfl ?_
  exact h
theorem b_X6_beginAlike_2 {g : ww_G} {E : ww_E} {τ : ww_M} {x1 : Int32} {x2 : Int32} {x3 : Int32} {Post : Int32 → ww_M → Prop}  (h : (∃ j1 : Nat, x1 = nI j1 ∧ j1 < 84 ∧ (τ (34, 0) j1 ≤ x3 → Post x3 τ) ∧ (¬ (τ (34, 0) j1 ≤ x3) → (∃ j2 : Nat, x2 = nI j2 ∧ j2 < 84 ∧ (τ (34, 0) j2 ≤ x3 → Post x3 τ) ∧ (¬ (τ (34, 0) j2 ≤ x3) → (∃ j3 : Nat, ((nI 14) * x1) + x3 = nI j3 ∧ j3 < 1176 ∧ (∃ j4 : Nat, ((nI 14) * x2) + x3 = nI j4 ∧ j4 < 1176 ∧ (¬ τ (33, 0) j3 = τ (33, 0) j4 → Post x3 τ) ∧ (τ (33, 0) j3 = τ (33, 0) j4 → ww_W g mX6_beginAlike E (ww_QI Post) 2 [some (.inr (.inr (30, 0))), some (.inl x1), some (.inl x2), some (.inl (x3 + nI 1))] [] τ)))))))) : ww_W g mX6_beginAlike E (ww_QI Post) 2 [some (.inr (.inr (30, 0))), some (.inl x1), some (.inl x2), some (.inl x3)] [] τ := by
  refine ww_iload_n 3 dX6_beginAlike_2 rfl 3 rfl rfl ?_
  refine ww_aload_n 4 dX6_beginAlike_3 rfl 0 rfl rfl ?_
  refine ww_getR 4 7 dX6_beginAlike_4 wf_X6_19 (ww_i1 30 (by decide)) rfl rfl rfl ?_
  refine ww_iload_n 8 dX6_beginAlike_7 rfl 1 rfl rfl ?_
  obtain ⟨j1, hij1, hj1, h⟩ := h
  refine ww_iald j1 9 dX6_beginAlike_8 (ww_i1 34 (by decide)) rfl (by decide) hij1 hj1 rfl ?_
  refine ww_ic_ge 53 12 dX6_beginAlike_9 (by decide) rfl (fun c => ?_) (fun c => ?_)
  · replace h := h.1 c
    refine ww_iload_n 54 dX6_beginAlike_53 rfl 3 rfl rfl ?_
    exact ww_iret dX6_beginAlike_54 rfl ⟨_, rfl, h⟩
  · replace h := h.2 c
    refine ww_iload_n 13 dX6_beginAlike_12 rfl 3 rfl rfl ?_
    refine ww_aload_n 14 dX6_beginAlike_13 rfl 0 rfl rfl ?_
    refine ww_getR 4 17 dX6_beginAlike_14 wf_X6_19 (ww_i1 30 (by decide)) rfl rfl rfl ?_
    refine ww_iload_n 18 dX6_beginAlike_17 rfl 2 rfl rfl ?_
    obtain ⟨j2, hij2, hj2, h⟩ := h
    refine ww_iald j2 19 dX6_beginAlike_18 (ww_i1 34 (by decide)) rfl (by decide) hij2 hj2 rfl ?_
    refine ww_ic_ge 53 22 dX6_beginAlike_19 (by decide) rfl (fun c => ?_) (fun c => ?_)
    · replace h := h.1 c
      refine ww_iload_n 54 dX6_beginAlike_53 rfl 3 rfl rfl ?_
      exact ww_iret dX6_beginAlike_54 rfl ⟨_, rfl, h⟩
    · replace h := h.2 c
      refine ww_aload_n 23 dX6_beginAlike_22 rfl 0 rfl rfl ?_
      refine ww_getR 3 26 dX6_beginAlike_23 wf_X6_16 (ww_i1 30 (by decide)) rfl rfl rfl ?_
      refine ww_bipush (v := nI 14) 28 dX6_beginAlike_26 (by decide) rfl ?_
      refine ww_iload_n 29 dX6_beginAlike_28 rfl 1 rfl rfl ?_
      refine ww_imul 30 dX6_beginAlike_29 rfl ?_
      refine ww_iload_n 31 dX6_beginAlike_30 rfl 3 rfl rfl ?_
      refine ww_iadd 32 dX6_beginAlike_31 rfl ?_
      obtain ⟨j3, hij3, hj3, h⟩ := h
      refine ww_iald j3 33 dX6_beginAlike_32 (ww_i1 33 (by decide)) rfl (by decide) hij3 hj3 rfl ?_
      refine ww_aload_n 34 dX6_beginAlike_33 rfl 0 rfl rfl ?_
      refine ww_getR 3 37 dX6_beginAlike_34 wf_X6_16 (ww_i1 30 (by decide)) rfl rfl rfl ?_
      refine ww_bipush (v := nI 14) 39 dX6_beginAlike_37 (by decide) rfl ?_
      refine ww_iload_n 40 dX6_beginAlike_39 rfl 2 rfl rfl ?_
      refine ww_imul 41 dX6_beginAlike_40 rfl ?_
      refine ww_iload_n 42 dX6_beginAlike_41 rfl 3 rfl rfl ?_
      refine ww_iadd 43 dX6_beginAlike_42 rfl ?_
      obtain ⟨j4, hij4, hj4, h⟩ := h
      refine ww_iald j4 44 dX6_beginAlike_43 (ww_i1 33 (by decide)) rfl (by decide) hij4 hj4 rfl ?_
      refine ww_ic_ne 53 47 dX6_beginAlike_44 (by decide) rfl (fun c => ?_) (fun c => ?_)
      · replace h := h.1 c
        refine ww_iload_n 54 dX6_beginAlike_53 rfl 3 rfl rfl ?_
        exact ww_iret dX6_beginAlike_54 rfl ⟨_, rfl, h⟩
      · replace h := h.2 c
        refine ww_iinc (nI 1) 50 3 dX6_beginAlike_47 (by decide) rfl rfl (by decide) rfl [some (.inr (.inr (30, 0))), some (.inl x1), some (.inl x2), some (.inl (x3 + nI 1))] rfl ?_
        refine ww_goto 2 dX6_beginAlike_50 (by decide) ?_
        exact h
theorem b_X6_isOf {l : Launch} {g : ww_G} {τ : ww_M} {a1 : Int32} {a2 : Int32} {Post : Int32 → ww_M → Prop}  (h : ∀ E : ww_E, ww_W g mX6_isOf E (ww_QI Post) 5 [some (.inr (.inr (30, 0))), some (.inl a1), some (.inl a2), some (.inl (nI 0)), some (.inl (nI 0))] [] τ) : ww_T l g mX6_isOf [.inr (.inr (30, 0)), .inl a1, .inl a2] τ (ww_QI Post) := by
  refine ww_enter (P := [some (.inr (.inr (30, 0))), some (.inl a1), some (.inl a2), none, none]) (by decide) (Nat.le_of_ble_eq_true rfl) rfl (fun E => ?_)
  replace h := h E
  refine ww_iconst (v := nI 0) 1 dX6_isOf_0 (by decide) rfl ?_
  refine ww_istore_n 2 dX6_isOf_1 rfl 3 rfl (by decide) rfl [some (.inr (.inr (30, 0))), some (.inl a1), some (.inl a2), some (.inl (nI 0)), none] rfl ?_
  refine ww_iconst (v := nI 0) 3 dX6_isOf_2 (by decide) rfl ?_
  refine ww_istore 5 4 dX6_isOf_3 rfl (by decide) rfl [some (.inr (.inr (30, 0))), some (.inl a1), some (.inl a2), some (.inl (nI 0)), some (.inl (nI 0))] rfl ?_
  exact h
theorem b_X6_isOf_5 {g : ww_G} {E : ww_E} {τ : ww_M} {x1 : Int32} {x2 : Int32} {x3 : Int32} {x4 : Int32} {Post : Int32 → ww_M → Prop}  (h : (∃ j1 : Nat, x2 = nI j1 ∧ j1 < 3 ∧ (τ (32, 0) j1 ≤ x4 → ((x3 = nI 0 ∨ x3 = nI 1) ∧ Post x3 τ)) ∧ (¬ (τ (32, 0) j1 ≤ x4) → ((¬ x3 = nI 0 → ((x3 = nI 0 ∨ x3 = nI 1) ∧ Post x3 τ)) ∧ (x3 = nI 0 → (∃ Q2 : Int32 → ww_M → Prop, ww_T E.2.1 g mX6_isTurn [.inr (.inr (30, 0)), .inl x1, .inl x2, .inl x4, .inl (nI 0)] τ (ww_QI Q2) ∧ ∀ (v3 : Int32) (τ4 : ww_M), Q2 v3 τ4 → (¬ v3 = nI 0 → ww_W g mX6_isOf E (ww_QI Post) 5 [some (.inr (.inr (30, 0))), some (.inl x1), some (.inl x2), some (.inl (nI 1)), some (.inl (x4 + nI 1))] [] τ4) ∧ (v3 = nI 0 → (∃ Q5 : Int32 → ww_M → Prop, ww_T E.2.1 g mX6_isTurn [.inr (.inr (30, 0)), .inl x1, .inl x2, .inl x4, .inl (nI 1)] τ4 (ww_QI Q5) ∧ ∀ (v6 : Int32) (τ7 : ww_M), Q5 v6 τ7 → (v6 = nI 0 → ww_W g mX6_isOf E (ww_QI Post) 5 [some (.inr (.inr (30, 0))), some (.inl x1), some (.inl x2), some (.inl (nI 0)), some (.inl (x4 + nI 1))] [] τ7) ∧ (¬ v6 = nI 0 → ww_W g mX6_isOf E (ww_QI Post) 5 [some (.inr (.inr (30, 0))), some (.inl x1), some (.inl x2), some (.inl (nI 1)), some (.inl (x4 + nI 1))] [] τ7))))))))) : ww_W g mX6_isOf E (ww_QI Post) 5 [some (.inr (.inr (30, 0))), some (.inl x1), some (.inl x2), some (.inl x3), some (.inl x4)] [] τ := by
  refine ww_iload 7 4 dX6_isOf_5 rfl rfl ?_
  refine ww_aload_n 8 dX6_isOf_7 rfl 0 rfl rfl ?_
  refine ww_getR 1 11 dX6_isOf_8 wf_X6_13 (ww_i1 30 (by decide)) rfl rfl rfl ?_
  refine ww_iload_n 12 dX6_isOf_11 rfl 2 rfl rfl ?_
  obtain ⟨j1, hij1, hj1, h⟩ := h
  refine ww_iald j1 13 dX6_isOf_12 (ww_i1 32 (by decide)) rfl (by decide) hij1 hj1 rfl ?_
  refine ww_ic_ge 56 16 dX6_isOf_13 (by decide) rfl (fun c => ?_) (fun c => ?_)
  · replace h := h.1 c
    refine ww_iload_n 57 dX6_isOf_56 rfl 3 rfl rfl ?_
    exact ww_zret dX6_isOf_57 rfl h.1 ⟨_, rfl, h.2⟩
  · replace h := h.2 c
    refine ww_iload_n 17 dX6_isOf_16 rfl 3 rfl rfl ?_
    refine ww_if_ne 56 20 dX6_isOf_17 (by decide) rfl (fun c => ?_) (fun c => ?_)
    · replace h := h.1 c
      refine ww_iload_n 57 dX6_isOf_56 rfl 3 rfl rfl ?_
      exact ww_zret dX6_isOf_57 rfl h.1 ⟨_, rfl, h.2⟩
    · replace h := h.2 c
      refine ww_aload_n 21 dX6_isOf_20 rfl 0 rfl rfl ?_
      refine ww_iload_n 22 dX6_isOf_21 rfl 1 rfl rfl ?_
      refine ww_iload_n 23 dX6_isOf_22 rfl 2 rfl rfl ?_
      refine ww_iload 25 4 dX6_isOf_23 rfl rfl ?_
      refine ww_iconst (v := nI 0) 26 dX6_isOf_25 (by decide) rfl ?_
      obtain ⟨Q2, hT, h⟩ := h
      refine ww_invVI (d' := mX6_isTurn) [.inl x1, .inl x2, .inl x4, .inl (nI 0)] rfl 29 dX6_isOf_26 ⟨wi_X6, wc_X6_isTurn, wp_X6_isTurn, by decide, by decide⟩ wl_X6_101 wn_X6_isTurn we_X6_isTurn (ww_i1 30 (by decide)) rfl rfl (Nat.le_of_ble_eq_true rfl) rfl hT (fun v3 τ4 hq => ?_)
      replace h := h v3 τ4 hq
      refine ww_if_ne 44 32 dX6_isOf_29 (by decide) rfl (fun c => ?_) (fun c => ?_)
      · replace h := h.1 c
        refine ww_iconst (v := nI 1) 45 dX6_isOf_44 (by decide) rfl ?_
        refine ww_goto 49 dX6_isOf_45 (by decide) ?_
        refine ww_istore_n 50 dX6_isOf_49 rfl 3 rfl (by decide) rfl [some (.inr (.inr (30, 0))), some (.inl x1), some (.inl x2), some (.inl (nI 1)), some (.inl x4)] rfl ?_
        refine ww_iinc (nI 1) 53 4 dX6_isOf_50 (by decide) rfl rfl (by decide) rfl [some (.inr (.inr (30, 0))), some (.inl x1), some (.inl x2), some (.inl (nI 1)), some (.inl (x4 + nI 1))] rfl ?_
        refine ww_goto 5 dX6_isOf_53 (by decide) ?_
        exact h
      · replace h := h.2 c
        refine ww_aload_n 33 dX6_isOf_32 rfl 0 rfl rfl ?_
        refine ww_iload_n 34 dX6_isOf_33 rfl 1 rfl rfl ?_
        refine ww_iload_n 35 dX6_isOf_34 rfl 2 rfl rfl ?_
        refine ww_iload 37 4 dX6_isOf_35 rfl rfl ?_
        refine ww_iconst (v := nI 1) 38 dX6_isOf_37 (by decide) rfl ?_
        obtain ⟨Q5, hT, h⟩ := h
        refine ww_invVI (d' := mX6_isTurn) [.inl x1, .inl x2, .inl x4, .inl (nI 1)] rfl 41 dX6_isOf_38 ⟨wi_X6, wc_X6_isTurn, wp_X6_isTurn, by decide, by decide⟩ wl_X6_101 wn_X6_isTurn we_X6_isTurn (ww_i1 30 (by decide)) rfl rfl (Nat.le_of_ble_eq_true rfl) rfl hT (fun v6 τ7 hq => ?_)
        replace h := h v6 τ7 hq
        refine ww_if_eq 48 44 dX6_isOf_41 (by decide) rfl (fun c => ?_) (fun c => ?_)
        · replace h := h.1 c
          refine ww_iconst (v := nI 0) 49 dX6_isOf_48 (by decide) rfl ?_
          refine ww_istore_n 50 dX6_isOf_49 rfl 3 rfl (by decide) rfl [some (.inr (.inr (30, 0))), some (.inl x1), some (.inl x2), some (.inl (nI 0)), some (.inl x4)] rfl ?_
          refine ww_iinc (nI 1) 53 4 dX6_isOf_50 (by decide) rfl rfl (by decide) rfl [some (.inr (.inr (30, 0))), some (.inl x1), some (.inl x2), some (.inl (nI 0)), some (.inl (x4 + nI 1))] rfl ?_
          refine ww_goto 5 dX6_isOf_53 (by decide) ?_
          exact h
        · replace h := h.2 c
          refine ww_iconst (v := nI 1) 45 dX6_isOf_44 (by decide) rfl ?_
          refine ww_goto 49 dX6_isOf_45 (by decide) ?_
          refine ww_istore_n 50 dX6_isOf_49 rfl 3 rfl (by decide) rfl [some (.inr (.inr (30, 0))), some (.inl x1), some (.inl x2), some (.inl (nI 1)), some (.inl x4)] rfl ?_
          refine ww_iinc (nI 1) 53 4 dX6_isOf_50 (by decide) rfl rfl (by decide) rfl [some (.inr (.inr (30, 0))), some (.inl x1), some (.inl x2), some (.inl (nI 1)), some (.inl (x4 + nI 1))] rfl ?_
          refine ww_goto 5 dX6_isOf_53 (by decide) ?_
          exact h
theorem b_X6_pieceOf {l : Launch} {g : ww_G} {τ : ww_M} {a1 : Int32} {Post : Int32 → ww_M → Prop}  (h : ∀ E : ww_E, ww_W g mX6_pieceOf E (ww_QI Post) 4 [some (.inr (.inr (30, 0))), some (.inl a1), some (.inl (nI 0)), some (.inl (nI 0)), none, none] [] τ) : ww_T l g mX6_pieceOf [.inr (.inr (30, 0)), .inl a1] τ (ww_QI Post) := by
  refine ww_enter (P := [some (.inr (.inr (30, 0))), some (.inl a1), none, none, none, none]) (by decide) (Nat.le_of_ble_eq_true rfl) rfl (fun E => ?_)
  replace h := h E
  refine ww_iconst (v := nI 0) 1 dX6_pieceOf_0 (by decide) rfl ?_
  refine ww_istore_n 2 dX6_pieceOf_1 rfl 2 rfl (by decide) rfl [some (.inr (.inr (30, 0))), some (.inl a1), some (.inl (nI 0)), none, none, none] rfl ?_
  refine ww_iconst (v := nI 0) 3 dX6_pieceOf_2 (by decide) rfl ?_
  refine ww_istore_n 4 dX6_pieceOf_3 rfl 3 rfl (by decide) rfl [some (.inr (.inr (30, 0))), some (.inl a1), some (.inl (nI 0)), some (.inl (nI 0)), none, none] rfl ?_
  exact h
theorem b_X6_pieceOf_4 {g : ww_G} {E : ww_E} {τ : ww_M} {x1 : Int32} {x2 : Int32} {x3 : Int32} {Post : Int32 → ww_M → Prop}  (h : ((τ (30, 0) 6 ≤ x3 → Post x2 τ) ∧ (¬ (τ (30, 0) 6 ≤ x3) → (∃ Q1 : Int32 → ww_M → Prop, ww_T E.2.1 g mX6_isOf [.inr (.inr (30, 0)), .inl x3, .inl x1] τ (ww_QI Q1) ∧ ∀ (v2 : Int32) (τ3 : ww_M), Q1 v2 τ3 → (v2 = nI 0 → ww_W g mX6_pieceOf E (ww_QI Post) 4 [some (.inr (.inr (30, 0))), some (.inl x1), some (.inl x2), some (.inl (x3 + nI 1)), none, none] [] τ3) ∧ (¬ v2 = nI 0 → ww_W g mX6_pieceOf E (ww_QI Post) 24 [some (.inr (.inr (30, 0))), some (.inl x1), some (.inl x2), some (.inl x3), some (.inl (nI 0)), none] [] τ3))))) : ww_W g mX6_pieceOf E (ww_QI Post) 4 [some (.inr (.inr (30, 0))), some (.inl x1), some (.inl x2), some (.inl x3), none, none] [] τ := by
  refine ww_iload_n 5 dX6_pieceOf_4 rfl 3 rfl rfl ?_
  refine ww_aload_n 6 dX6_pieceOf_5 rfl 0 rfl rfl ?_
  refine ww_getI 6 9 dX6_pieceOf_6 wf_X6_98 (ww_i1 30 (by decide)) rfl rfl rfl ?_
  refine ww_ic_ge 77 12 dX6_pieceOf_9 (by decide) rfl (fun c => ?_) (fun c => ?_)
  · replace h := h.1 c
    refine ww_iload_n 78 dX6_pieceOf_77 rfl 2 rfl rfl ?_
    exact ww_iret dX6_pieceOf_78 rfl ⟨_, rfl, h⟩
  · replace h := h.2 c
    refine ww_aload_n 13 dX6_pieceOf_12 rfl 0 rfl rfl ?_
    refine ww_iload_n 14 dX6_pieceOf_13 rfl 3 rfl rfl ?_
    refine ww_iload_n 15 dX6_pieceOf_14 rfl 1 rfl rfl ?_
    obtain ⟨Q1, hT, h⟩ := h
    refine ww_invVI (d' := mX6_isOf) [.inl x3, .inl x1] rfl 18 dX6_pieceOf_15 ⟨wi_X6, wc_X6_isOf, wp_X6_isOf, by decide, by decide⟩ wl_X6_116 wn_X6_isOf we_X6_isOf (ww_i1 30 (by decide)) rfl rfl (Nat.le_of_ble_eq_true rfl) rfl hT (fun v2 τ3 hq => ?_)
    replace h := h v2 τ3 hq
    refine ww_if_eq 71 21 dX6_pieceOf_18 (by decide) rfl (fun c => ?_) (fun c => ?_)
    · replace h := h.1 c
      refine ww_iinc (nI 1) 74 3 dX6_pieceOf_71 (by decide) rfl rfl (by decide) rfl [some (.inr (.inr (30, 0))), some (.inl x1), some (.inl x2), some (.inl (x3 + nI 1)), none, none] rfl ?_
      refine ww_goto 4 dX6_pieceOf_74 (by decide) ?_
      exact h
    · replace h := h.2 c
      refine ww_iconst (v := nI 0) 22 dX6_pieceOf_21 (by decide) rfl ?_
      refine ww_istore 24 4 dX6_pieceOf_22 rfl (by decide) rfl [some (.inr (.inr (30, 0))), some (.inl x1), some (.inl x2), some (.inl x3), some (.inl (nI 0)), none] rfl ?_
      exact h
theorem b_X6_pieceOf_24 {g : ww_G} {E : ww_E} {τ : ww_M} {x1 : Int32} {x2 : Int32} {x3 : Int32} {x4 : Int32} {Post : Int32 → ww_M → Prop}  (h : ((τ (30, 0) 6 ≤ x4 → ww_W g mX6_pieceOf E (ww_QI Post) 4 [some (.inr (.inr (30, 0))), some (.inl x1), some (.inl x2), some (.inl (x3 + nI 1)), none, none] [] τ) ∧ (¬ (τ (30, 0) 6 ≤ x4) → ((¬ x4 = x3 → (∃ Q1 : Int32 → ww_M → Prop, ww_T E.2.1 g mX6_beginAlike [.inr (.inr (30, 0)), .inl x3, .inl x4] τ (ww_QI Q1) ∧ ∀ (v2 : Int32) (τ3 : ww_M), Q1 v2 τ3 → ww_W g mX6_pieceOf E (ww_QI Post) 50 [some (.inr (.inr (30, 0))), some (.inl x1), some (.inl x2), some (.inl x3), some (.inl x4), none] [.inl v2] τ3)) ∧ (x4 = x3 → ww_W g mX6_pieceOf E (ww_QI Post) 50 [some (.inr (.inr (30, 0))), some (.inl x1), some (.inl x2), some (.inl x3), some (.inl x4), none] [.inl (nI 0)] τ))))) : ww_W g mX6_pieceOf E (ww_QI Post) 24 [some (.inr (.inr (30, 0))), some (.inl x1), some (.inl x2), some (.inl x3), some (.inl x4), none] [] τ := by
  refine ww_iload 26 4 dX6_pieceOf_24 rfl rfl ?_
  refine ww_aload_n 27 dX6_pieceOf_26 rfl 0 rfl rfl ?_
  refine ww_getI 6 30 dX6_pieceOf_27 wf_X6_98 (ww_i1 30 (by decide)) rfl rfl rfl ?_
  refine ww_ic_ge 71 33 dX6_pieceOf_30 (by decide) rfl (fun c => ?_) (fun c => ?_)
  · replace h := h.1 c
    refine ww_iinc (nI 1) 74 3 dX6_pieceOf_71 (by decide) rfl rfl (by decide) rfl [some (.inr (.inr (30, 0))), some (.inl x1), some (.inl x2), some (.inl (x3 + nI 1)), some (.inl x4), none] rfl ?_
    refine ww_goto 4 dX6_pieceOf_74 (by decide) ?_
    exact ww_weak (ww_le_s (ww_le_s (ww_le_s (ww_le_s (ww_le_n (ww_le_n (ww_le_nil _))))))) h
  · replace h := h.2 c
    refine ww_iload 35 4 dX6_pieceOf_33 rfl rfl ?_
    refine ww_iload_n 36 dX6_pieceOf_35 rfl 3 rfl rfl ?_
    refine ww_ic_ne 43 39 dX6_pieceOf_36 (by decide) rfl (fun c => ?_) (fun c => ?_)
    · replace h := h.1 c
      refine ww_aload_n 44 dX6_pieceOf_43 rfl 0 rfl rfl ?_
      refine ww_iload_n 45 dX6_pieceOf_44 rfl 3 rfl rfl ?_
      refine ww_iload 47 4 dX6_pieceOf_45 rfl rfl ?_
      obtain ⟨Q1, hT, h⟩ := h
      refine ww_invVI (d' := mX6_beginAlike) [.inl x3, .inl x4] rfl 50 dX6_pieceOf_47 ⟨wi_X6, wc_X6_beginAlike, wp_X6_beginAlike, by decide, by decide⟩ wl_X6_120 wn_X6_beginAlike we_X6_beginAlike (ww_i1 30 (by decide)) rfl rfl (Nat.le_of_ble_eq_true rfl) rfl hT (fun v2 τ3 hq => ?_)
      replace h := h v2 τ3 hq
      exact h
    · replace h := h.2 c
      refine ww_iconst (v := nI 0) 40 dX6_pieceOf_39 (by decide) rfl ?_
      refine ww_goto 50 dX6_pieceOf_40 (by decide) ?_
      exact h
theorem b_X6_pieceOf_50 {g : ww_G} {E : ww_E} {τ : ww_M} {x1 : Int32} {x2 : Int32} {x3 : Int32} {x4 : Int32} {y0 : Int32} {Post : Int32 → ww_M → Prop}  (h : ((y0 ≤ x2 → ww_W g mX6_pieceOf E (ww_QI Post) 24 [some (.inr (.inr (30, 0))), some (.inl x1), some (.inl x2), some (.inl x3), some (.inl (x4 + nI 1)), none] [] τ) ∧ (¬ (y0 ≤ x2) → ww_W g mX6_pieceOf E (ww_QI Post) 24 [some (.inr (.inr (30, 0))), some (.inl x1), some (.inl y0), some (.inl x3), some (.inl (x4 + nI 1)), none] [] τ))) : ww_W g mX6_pieceOf E (ww_QI Post) 50 [some (.inr (.inr (30, 0))), some (.inl x1), some (.inl x2), some (.inl x3), some (.inl x4), none] [.inl y0] τ := by
  refine ww_istore 52 5 dX6_pieceOf_50 rfl (by decide) rfl [some (.inr (.inr (30, 0))), some (.inl x1), some (.inl x2), some (.inl x3), some (.inl x4), some (.inl y0)] rfl ?_
  refine ww_iload 54 5 dX6_pieceOf_52 rfl rfl ?_
  refine ww_iload_n 55 dX6_pieceOf_54 rfl 2 rfl rfl ?_
  refine ww_ic_le 63 58 dX6_pieceOf_55 (by decide) rfl (fun c => ?_) (fun c => ?_)
  · replace h := h.1 c
    refine ww_iload_n 64 dX6_pieceOf_63 rfl 2 rfl rfl ?_
    refine ww_istore_n 65 dX6_pieceOf_64 rfl 2 rfl (by decide) rfl [some (.inr (.inr (30, 0))), some (.inl x1), some (.inl x2), some (.inl x3), some (.inl x4), some (.inl y0)] rfl ?_
    refine ww_iinc (nI 1) 68 4 dX6_pieceOf_65 (by decide) rfl rfl (by decide) rfl [some (.inr (.inr (30, 0))), some (.inl x1), some (.inl x2), some (.inl x3), some (.inl (x4 + nI 1)), some (.inl y0)] rfl ?_
    refine ww_goto 24 dX6_pieceOf_68 (by decide) ?_
    exact ww_weak (ww_le_s (ww_le_s (ww_le_s (ww_le_s (ww_le_s (ww_le_n (ww_le_nil _))))))) h
  · replace h := h.2 c
    refine ww_iload 60 5 dX6_pieceOf_58 rfl rfl ?_
    refine ww_goto 64 dX6_pieceOf_60 (by decide) ?_
    refine ww_istore_n 65 dX6_pieceOf_64 rfl 2 rfl (by decide) rfl [some (.inr (.inr (30, 0))), some (.inl x1), some (.inl y0), some (.inl x3), some (.inl x4), some (.inl y0)] rfl ?_
    refine ww_iinc (nI 1) 68 4 dX6_pieceOf_65 (by decide) rfl rfl (by decide) rfl [some (.inr (.inr (30, 0))), some (.inl x1), some (.inl y0), some (.inl x3), some (.inl (x4 + nI 1)), some (.inl y0)] rfl ?_
    refine ww_goto 24 dX6_pieceOf_68 (by decide) ?_
    exact ww_weak (ww_le_s (ww_le_s (ww_le_s (ww_le_s (ww_le_s (ww_le_n (ww_le_nil _))))))) h
theorem b_X6_isGood {l : Launch} {g : ww_G} {τ : ww_M} {a1 : Int32} {Post : Int32 → ww_M → Prop}  (h : ∀ E : ww_E, ww_W g mX6_isGood E (ww_QI Post) 4 [some (.inr (.inr (30, 0))), some (.inl a1), some (.inl (nI 1)), some (.inl (nI 0))] [] τ) : ww_T l g mX6_isGood [.inr (.inr (30, 0)), .inl a1] τ (ww_QI Post) := by
  refine ww_enter (P := [some (.inr (.inr (30, 0))), some (.inl a1), none, none]) (by decide) (Nat.le_of_ble_eq_true rfl) rfl (fun E => ?_)
  replace h := h E
  refine ww_iconst (v := nI 1) 1 dX6_isGood_0 (by decide) rfl ?_
  refine ww_istore_n 2 dX6_isGood_1 rfl 2 rfl (by decide) rfl [some (.inr (.inr (30, 0))), some (.inl a1), some (.inl (nI 1)), none] rfl ?_
  refine ww_iconst (v := nI 0) 3 dX6_isGood_2 (by decide) rfl ?_
  refine ww_istore_n 4 dX6_isGood_3 rfl 3 rfl (by decide) rfl [some (.inr (.inr (30, 0))), some (.inl a1), some (.inl (nI 1)), some (.inl (nI 0))] rfl ?_
  exact h
theorem b_X6_isGood_4 {g : ww_G} {E : ww_E} {τ : ww_M} {x1 : Int32} {x2 : Int32} {x3 : Int32} {Post : Int32 → ww_M → Prop}  (h : ((τ (30, 0) 2 ≤ x3 → ((x2 = nI 0 ∨ x2 = nI 1) ∧ Post x2 τ)) ∧ (¬ (τ (30, 0) 2 ≤ x3) → ((x2 = nI 0 → ww_W g mX6_isGood E (ww_QI Post) 4 [some (.inr (.inr (30, 0))), some (.inl x1), some (.inl (nI 0)), some (.inl (x3 + nI 1))] [] τ) ∧ (¬ x2 = nI 0 → (∃ Q1 : Int32 → ww_M → Prop, ww_T E.2.1 g mX6_pieceOf [.inr (.inr (30, 0)), .inl x3] τ (ww_QI Q1) ∧ ∀ (v2 : Int32) (τ3 : ww_M), Q1 v2 τ3 → (∃ j4 : Nat, x3 = nI j4 ∧ j4 < 3 ∧ (τ3 (32, 0) j4 ≤ x1 * v2 → ww_W g mX6_isGood E (ww_QI Post) 4 [some (.inr (.inr (30, 0))), some (.inl x1), some (.inl (nI 0)), some (.inl (x3 + nI 1))] [] τ3) ∧ (¬ (τ3 (32, 0) j4 ≤ x1 * v2) → ww_W g mX6_isGood E (ww_QI Post) 4 [some (.inr (.inr (30, 0))), some (.inl x1), some (.inl (nI 1)), some (.inl (x3 + nI 1))] [] τ3)))))))) : ww_W g mX6_isGood E (ww_QI Post) 4 [some (.inr (.inr (30, 0))), some (.inl x1), some (.inl x2), some (.inl x3)] [] τ := by
  refine ww_iload_n 5 dX6_isGood_4 rfl 3 rfl rfl ?_
  refine ww_aload_n 6 dX6_isGood_5 rfl 0 rfl rfl ?_
  refine ww_getI 2 9 dX6_isGood_6 wf_X6_109 (ww_i1 30 (by decide)) rfl rfl rfl ?_
  refine ww_ic_ge 44 12 dX6_isGood_9 (by decide) rfl (fun c => ?_) (fun c => ?_)
  · replace h := h.1 c
    refine ww_iload_n 45 dX6_isGood_44 rfl 2 rfl rfl ?_
    exact ww_zret dX6_isGood_45 rfl h.1 ⟨_, rfl, h.2⟩
  · replace h := h.2 c
    refine ww_iload_n 13 dX6_isGood_12 rfl 2 rfl rfl ?_
    refine ww_if_eq 36 16 dX6_isGood_13 (by decide) rfl (fun c => ?_) (fun c => ?_)
    · replace h := h.1 c
      refine ww_iconst (v := nI 0) 37 dX6_isGood_36 (by decide) rfl ?_
      refine ww_istore_n 38 dX6_isGood_37 rfl 2 rfl (by decide) rfl [some (.inr (.inr (30, 0))), some (.inl x1), some (.inl (nI 0)), some (.inl x3)] rfl ?_
      refine ww_iinc (nI 1) 41 3 dX6_isGood_38 (by decide) rfl rfl (by decide) rfl [some (.inr (.inr (30, 0))), some (.inl x1), some (.inl (nI 0)), some (.inl (x3 + nI 1))] rfl ?_
      refine ww_goto 4 dX6_isGood_41 (by decide) ?_
      exact h
    · replace h := h.2 c
      refine ww_iload_n 17 dX6_isGood_16 rfl 1 rfl rfl ?_
      refine ww_aload_n 18 dX6_isGood_17 rfl 0 rfl rfl ?_
      refine ww_iload_n 19 dX6_isGood_18 rfl 3 rfl rfl ?_
      obtain ⟨Q1, hT, h⟩ := h
      refine ww_invVI (d' := mX6_pieceOf) [.inl x3] rfl 22 dX6_isGood_19 ⟨wi_X6, wc_X6_pieceOf, wp_X6_pieceOf, by decide, by decide⟩ wl_X6_124 wn_X6_pieceOf we_X6_pieceOf (ww_i1 30 (by decide)) rfl rfl (Nat.le_of_ble_eq_true rfl) rfl hT (fun v2 τ3 hq => ?_)
      replace h := h v2 τ3 hq
      refine ww_imul 23 dX6_isGood_22 rfl ?_
      refine ww_aload_n 24 dX6_isGood_23 rfl 0 rfl rfl ?_
      refine ww_getR 1 27 dX6_isGood_24 wf_X6_13 (ww_i1 30 (by decide)) rfl rfl rfl ?_
      refine ww_iload_n 28 dX6_isGood_27 rfl 3 rfl rfl ?_
      obtain ⟨j4, hij4, hj4, h⟩ := h
      refine ww_iald j4 29 dX6_isGood_28 (ww_i1 32 (by decide)) rfl (by decide) hij4 hj4 rfl ?_
      refine ww_ic_ge 36 32 dX6_isGood_29 (by decide) rfl (fun c => ?_) (fun c => ?_)
      · replace h := h.1 c
        refine ww_iconst (v := nI 0) 37 dX6_isGood_36 (by decide) rfl ?_
        refine ww_istore_n 38 dX6_isGood_37 rfl 2 rfl (by decide) rfl [some (.inr (.inr (30, 0))), some (.inl x1), some (.inl (nI 0)), some (.inl x3)] rfl ?_
        refine ww_iinc (nI 1) 41 3 dX6_isGood_38 (by decide) rfl rfl (by decide) rfl [some (.inr (.inr (30, 0))), some (.inl x1), some (.inl (nI 0)), some (.inl (x3 + nI 1))] rfl ?_
        refine ww_goto 4 dX6_isGood_41 (by decide) ?_
        exact h
      · replace h := h.2 c
        refine ww_iconst (v := nI 1) 33 dX6_isGood_32 (by decide) rfl ?_
        refine ww_goto 37 dX6_isGood_33 (by decide) ?_
        refine ww_istore_n 38 dX6_isGood_37 rfl 2 rfl (by decide) rfl [some (.inr (.inr (30, 0))), some (.inl x1), some (.inl (nI 1)), some (.inl x3)] rfl ?_
        refine ww_iinc (nI 1) 41 3 dX6_isGood_38 (by decide) rfl rfl (by decide) rfl [some (.inr (.inr (30, 0))), some (.inl x1), some (.inl (nI 1)), some (.inl (x3 + nI 1))] rfl ?_
        refine ww_goto 4 dX6_isGood_41 (by decide) ?_
        exact h
theorem b_X6_relator {l : Launch} {g : ww_G} {τ : ww_M} {a1 : Int32} {a2 : Int32} {Post : Int32 → ww_M → Prop}  (h : ∀ E : ww_E, (∃ Q1 : Int32 → ww_M → Prop, ww_T E.2.1 g mX6_isRelator [.inr (.inr (30, 0)), .inl a1] τ (ww_QI Q1) ∧ ∀ (v2 : Int32) (τ3 : ww_M), Q1 v2 τ3 → (v2 = nI 0 → (∃ Q4 : Int32 → ww_M → Prop, ww_T E.2.1 g mX6_bad [.inr (.inr (30, 0))] τ3 (ww_QI Q4) ∧ ∀ (v5 : Int32) (τ6 : ww_M), Q4 v5 τ6 → Post v5 τ6)) ∧ (¬ v2 = nI 0 → (∃ Q7 : Int32 → ww_M → Prop, ww_T E.2.1 g mX6_in [.inr (.inl (a2.toInt64)), .inr (.inl (lN 0)), .inr (.inl (lN 2))] τ3 (ww_QI Q7) ∧ ∀ (v8 : Int32) (τ9 : ww_M), Q7 v8 τ9 → (¬ v8 = nI 0 → ww_W g mX6_relator E (ww_QI Post) 30 [some (.inr (.inr (30, 0))), some (.inl a1), some (.inl a2), some (.inl (nI 0)), some (.inl (nI 0))] [] τ9) ∧ (v8 = nI 0 → (∃ Q10 : Int32 → ww_M → Prop, ww_T E.2.1 g mX6_bad [.inr (.inr (30, 0))] τ9 (ww_QI Q10) ∧ ∀ (v11 : Int32) (τ12 : ww_M), Q10 v11 τ12 → Post v11 τ12)))))) : ww_T l g mX6_relator [.inr (.inr (30, 0)), .inl a1, .inl a2] τ (ww_QI Post) := by
  refine ww_enter (P := [some (.inr (.inr (30, 0))), some (.inl a1), some (.inl a2), none, none]) (by decide) (Nat.le_of_ble_eq_true rfl) rfl (fun E => ?_)
  replace h := h E
  refine ww_aload_n 1 dX6_relator_0 rfl 0 rfl rfl ?_
  refine ww_iload_n 2 dX6_relator_1 rfl 1 rfl rfl ?_
  obtain ⟨Q1, hT, h⟩ := h
  refine ww_invVI (d' := mX6_isRelator) [.inl a1] rfl 5 dX6_relator_2 ⟨wi_X6, wc_X6_isRelator, wp_X6_isRelator, by decide, by decide⟩ wl_X6_127 wn_X6_isRelator we_X6_isRelator (ww_i1 30 (by decide)) rfl rfl (Nat.le_of_ble_eq_true rfl) rfl hT (fun v2 τ3 hq => ?_)
  replace h := h v2 τ3 hq
  refine ww_if_eq 20 8 dX6_relator_5 (by decide) rfl (fun c => ?_) (fun c => ?_)
  · replace h := h.1 c
    refine ww_aload_n 21 dX6_relator_20 rfl 0 rfl rfl ?_
    obtain ⟨Q4, hT, h⟩ := h
    refine ww_invVI (d' := mX6_bad) [] rfl 24 dX6_relator_21 ⟨wi_X6, wc_X6_bad, wp_X6_bad, by decide, by decide⟩ wl_X6_133 wn_X6_bad we_X6_bad (ww_i1 30 (by decide)) rfl rfl (Nat.le_of_ble_eq_true rfl) rfl hT (fun v5 τ6 hq => ?_)
    replace h := h v5 τ6 hq
    exact ww_iret dX6_relator_24 rfl ⟨_, rfl, h⟩
  · replace h := h.2 c
    refine ww_iload_n 9 dX6_relator_8 rfl 2 rfl rfl ?_
    refine ww_i2l 10 dX6_relator_9 rfl ?_
    refine ww_lconst (v := lN 0) 11 dX6_relator_10 (by decide) rfl ?_
    refine ww_ldc2 14 dX6_relator_11 rfl wk_X6_131 ?_
    obtain ⟨Q7, hT, h⟩ := h
    refine ww_invSI (d' := mX6_in) [.inr (.inl (a2.toInt64)), .inr (.inl (lN 0)), .inr (.inl (lN 2))] rfl 17 dX6_relator_14 ⟨wi_X6, wc_X6_in, wp_X6_in, by decide, by decide⟩ (Or.inl wl_X6_66) wn_X6_in (Nat.le_of_ble_eq_true rfl) rfl hT (fun v8 τ9 hq => ?_)
    replace h := h v8 τ9 hq
    refine ww_if_ne 25 20 dX6_relator_17 (by decide) rfl (fun c => ?_) (fun c => ?_)
    · replace h := h.1 c
      refine ww_iconst (v := nI 0) 26 dX6_relator_25 (by decide) rfl ?_
      refine ww_istore_n 27 dX6_relator_26 rfl 3 rfl (by decide) rfl [some (.inr (.inr (30, 0))), some (.inl a1), some (.inl a2), some (.inl (nI 0)), none] rfl ?_
      refine ww_iconst (v := nI 0) 28 dX6_relator_27 (by decide) rfl ?_
      refine ww_istore 30 4 dX6_relator_28 rfl (by decide) rfl [some (.inr (.inr (30, 0))), some (.inl a1), some (.inl a2), some (.inl (nI 0)), some (.inl (nI 0))] rfl ?_
      exact h
    · replace h := h.2 c
      refine ww_aload_n 21 dX6_relator_20 rfl 0 rfl rfl ?_
      obtain ⟨Q10, hT, h⟩ := h
      refine ww_invVI (d' := mX6_bad) [] rfl 24 dX6_relator_21 ⟨wi_X6, wc_X6_bad, wp_X6_bad, by decide, by decide⟩ wl_X6_133 wn_X6_bad we_X6_bad (ww_i1 30 (by decide)) rfl rfl (Nat.le_of_ble_eq_true rfl) rfl hT (fun v11 τ12 hq => ?_)
      replace h := h v11 τ12 hq
      exact ww_iret dX6_relator_24 rfl ⟨_, rfl, h⟩
theorem b_X6_relator_30 {g : ww_G} {E : ww_E} {τ : ww_M} {x1 : Int32} {x2 : Int32} {x3 : Int32} {x4 : Int32} {Post : Int32 → ww_M → Prop}  (h : ((τ (30, 0) 6 ≤ x4 → ((¬ x2 = nI 0 → ((¬ x2 = nI 1 → Post x3 τ) ∧ (x2 = nI 1 → (∃ Q1 : Int32 → ww_M → Prop, ww_T E.2.1 g mX6_pieceOf [.inr (.inr (30, 0)), .inl x1] τ (ww_QI Q1) ∧ ∀ (v2 : Int32) (τ3 : ww_M), Q1 v2 τ3 → Post v2 τ3)))) ∧ (x2 = nI 0 → (∃ j4 : Nat, x1 = nI j4 ∧ j4 < 3 ∧ Post (τ (32, 0) j4) τ)))) ∧ (¬ (τ (30, 0) 6 ≤ x4) → (∃ j5 : Nat, x4 = nI j5 ∧ j5 < 84 ∧ (¬ τ (35, 0) j5 = x1 → ww_W g mX6_relator E (ww_QI Post) 30 [some (.inr (.inr (30, 0))), some (.inl x1), some (.inl x2), some (.inl (x3 + (nI 0))), some (.inl (x4 + nI 1))] [] τ) ∧ (τ (35, 0) j5 = x1 → ww_W g mX6_relator E (ww_QI Post) 30 [some (.inr (.inr (30, 0))), some (.inl x1), some (.inl x2), some (.inl (x3 + (nI 1))), some (.inl (x4 + nI 1))] [] τ))))) : ww_W g mX6_relator E (ww_QI Post) 30 [some (.inr (.inr (30, 0))), some (.inl x1), some (.inl x2), some (.inl x3), some (.inl x4)] [] τ := by
  refine ww_iload 32 4 dX6_relator_30 rfl rfl ?_
  refine ww_aload_n 33 dX6_relator_32 rfl 0 rfl rfl ?_
  refine ww_getI 6 36 dX6_relator_33 wf_X6_98 (ww_i1 30 (by decide)) rfl rfl rfl ?_
  refine ww_ic_ge 64 39 dX6_relator_36 (by decide) rfl (fun c => ?_) (fun c => ?_)
  · replace h := h.1 c
    refine ww_iload_n 65 dX6_relator_64 rfl 2 rfl rfl ?_
    refine ww_if_ne 77 68 dX6_relator_65 (by decide) rfl (fun c => ?_) (fun c => ?_)
    · replace h := h.1 c
      refine ww_iload_n 78 dX6_relator_77 rfl 2 rfl rfl ?_
      refine ww_iconst (v := nI 1) 79 dX6_relator_78 (by decide) rfl ?_
      refine ww_ic_ne 90 82 dX6_relator_79 (by decide) rfl (fun c => ?_) (fun c => ?_)
      · replace h := h.1 c
        refine ww_iload_n 91 dX6_relator_90 rfl 3 rfl rfl ?_
        exact ww_iret dX6_relator_91 rfl ⟨_, rfl, h⟩
      · replace h := h.2 c
        refine ww_aload_n 83 dX6_relator_82 rfl 0 rfl rfl ?_
        refine ww_iload_n 84 dX6_relator_83 rfl 1 rfl rfl ?_
        obtain ⟨Q1, hT, h⟩ := h
        refine ww_invVI (d' := mX6_pieceOf) [.inl x1] rfl 87 dX6_relator_84 ⟨wi_X6, wc_X6_pieceOf, wp_X6_pieceOf, by decide, by decide⟩ wl_X6_124 wn_X6_pieceOf we_X6_pieceOf (ww_i1 30 (by decide)) rfl rfl (Nat.le_of_ble_eq_true rfl) rfl hT (fun v2 τ3 hq => ?_)
        replace h := h v2 τ3 hq
        refine ww_goto 91 dX6_relator_87 (by decide) ?_
        exact ww_iret dX6_relator_91 rfl ⟨_, rfl, h⟩
    · replace h := h.2 c
      refine ww_aload_n 69 dX6_relator_68 rfl 0 rfl rfl ?_
      refine ww_getR 1 72 dX6_relator_69 wf_X6_13 (ww_i1 30 (by decide)) rfl rfl rfl ?_
      refine ww_iload_n 73 dX6_relator_72 rfl 1 rfl rfl ?_
      obtain ⟨j4, hij4, hj4, h⟩ := h
      refine ww_iald j4 74 dX6_relator_73 (ww_i1 32 (by decide)) rfl (by decide) hij4 hj4 rfl ?_
      refine ww_goto 91 dX6_relator_74 (by decide) ?_
      exact ww_iret dX6_relator_91 rfl ⟨_, rfl, h⟩
  · replace h := h.2 c
    refine ww_iload_n 40 dX6_relator_39 rfl 3 rfl rfl ?_
    refine ww_aload_n 41 dX6_relator_40 rfl 0 rfl rfl ?_
    refine ww_getR 5 44 dX6_relator_41 wf_X6_22 (ww_i1 30 (by decide)) rfl rfl rfl ?_
    refine ww_iload 46 4 dX6_relator_44 rfl rfl ?_
    obtain ⟨j5, hij5, hj5, h⟩ := h
    refine ww_iald j5 47 dX6_relator_46 (ww_i1 35 (by decide)) rfl (by decide) hij5 hj5 rfl ?_
    refine ww_iload_n 48 dX6_relator_47 rfl 1 rfl rfl ?_
    refine ww_ic_ne 55 51 dX6_relator_48 (by decide) rfl (fun c => ?_) (fun c => ?_)
    · replace h := h.1 c
      refine ww_iconst (v := nI 0) 56 dX6_relator_55 (by decide) rfl ?_
      refine ww_iadd 57 dX6_relator_56 rfl ?_
      refine ww_istore_n 58 dX6_relator_57 rfl 3 rfl (by decide) rfl [some (.inr (.inr (30, 0))), some (.inl x1), some (.inl x2), some (.inl (x3 + (nI 0))), some (.inl x4)] rfl ?_
      refine ww_iinc (nI 1) 61 4 dX6_relator_58 (by decide) rfl rfl (by decide) rfl [some (.inr (.inr (30, 0))), some (.inl x1), some (.inl x2), some (.inl (x3 + (nI 0))), some (.inl (x4 + nI 1))] rfl ?_
      refine ww_goto 30 dX6_relator_61 (by decide) ?_
      exact h
    · replace h := h.2 c
      refine ww_iconst (v := nI 1) 52 dX6_relator_51 (by decide) rfl ?_
      refine ww_goto 56 dX6_relator_52 (by decide) ?_
      refine ww_iadd 57 dX6_relator_56 rfl ?_
      refine ww_istore_n 58 dX6_relator_57 rfl 3 rfl (by decide) rfl [some (.inr (.inr (30, 0))), some (.inl x1), some (.inl x2), some (.inl (x3 + (nI 1))), some (.inl x4)] rfl ?_
      refine ww_iinc (nI 1) 61 4 dX6_relator_58 (by decide) rfl rfl (by decide) rfl [some (.inr (.inr (30, 0))), some (.inl x1), some (.inl x2), some (.inl (x3 + (nI 1))), some (.inl (x4 + nI 1))] rfl ?_
      refine ww_goto 30 dX6_relator_61 (by decide) ?_
      exact h
theorem b_X6_member {l : Launch} {g : ww_G} {τ : ww_M} {a1 : Int32} {a2 : Int32} {Post : Int32 → ww_M → Prop}  (h : ∀ E : ww_E, (∃ Q1 : Int32 → ww_M → Prop, ww_T E.2.1 g mX6_isMember [.inr (.inr (30, 0)), .inl a1] τ (ww_QI Q1) ∧ ∀ (v2 : Int32) (τ3 : ww_M), Q1 v2 τ3 → (v2 = nI 0 → (∃ Q4 : Int32 → ww_M → Prop, ww_T E.2.1 g mX6_bad [.inr (.inr (30, 0))] τ3 (ww_QI Q4) ∧ ∀ (v5 : Int32) (τ6 : ww_M), Q4 v5 τ6 → Post v5 τ6)) ∧ (¬ v2 = nI 0 → (((-1 : Int32) ≤ a2 → ((¬ a2 = (-1 : Int32) → (∃ j7 : Nat, a1 = nI j7 ∧ j7 < 84 ∧ (τ3 (34, 0) j7 ≤ a2 → Post (-1 : Int32) τ3) ∧ (¬ (τ3 (34, 0) j7 ≤ a2) → (∃ j8 : Nat, ((nI 14) * a1) + a2 = nI j8 ∧ j8 < 1176 ∧ Post (τ3 (33, 0) j8) τ3)))) ∧ (a2 = (-1 : Int32) → (∃ j9 : Nat, a1 = nI j9 ∧ j9 < 84 ∧ Post (τ3 (34, 0) j9) τ3)))) ∧ (¬ ((-1 : Int32) ≤ a2) → (∃ Q10 : Int32 → ww_M → Prop, ww_T E.2.1 g mX6_bad [.inr (.inr (30, 0))] τ3 (ww_QI Q10) ∧ ∀ (v11 : Int32) (τ12 : ww_M), Q10 v11 τ12 → Post v11 τ12)))))) : ww_T l g mX6_member [.inr (.inr (30, 0)), .inl a1, .inl a2] τ (ww_QI Post) := by
  refine ww_enter (P := [some (.inr (.inr (30, 0))), some (.inl a1), some (.inl a2)]) (by decide) (Nat.le_of_ble_eq_true rfl) rfl (fun E => ?_)
  replace h := h E
  refine ww_aload_n 1 dX6_member_0 rfl 0 rfl rfl ?_
  refine ww_iload_n 2 dX6_member_1 rfl 1 rfl rfl ?_
  obtain ⟨Q1, hT, h⟩ := h
  refine ww_invVI (d' := mX6_isMember) [.inl a1] rfl 5 dX6_member_2 ⟨wi_X6, wc_X6_isMember, wp_X6_isMember, by decide, by decide⟩ wl_X6_136 wn_X6_isMember we_X6_isMember (ww_i1 30 (by decide)) rfl rfl (Nat.le_of_ble_eq_true rfl) rfl hT (fun v2 τ3 hq => ?_)
  replace h := h v2 τ3 hq
  refine ww_if_eq 13 8 dX6_member_5 (by decide) rfl (fun c => ?_) (fun c => ?_)
  · replace h := h.1 c
    refine ww_aload_n 14 dX6_member_13 rfl 0 rfl rfl ?_
    obtain ⟨Q4, hT, h⟩ := h
    refine ww_invVI (d' := mX6_bad) [] rfl 17 dX6_member_14 ⟨wi_X6, wc_X6_bad, wp_X6_bad, by decide, by decide⟩ wl_X6_133 wn_X6_bad we_X6_bad (ww_i1 30 (by decide)) rfl rfl (Nat.le_of_ble_eq_true rfl) rfl hT (fun v5 τ6 hq => ?_)
    replace h := h v5 τ6 hq
    exact ww_iret dX6_member_17 rfl ⟨_, rfl, h⟩
  · replace h := h.2 c
    refine ww_iload_n 9 dX6_member_8 rfl 2 rfl rfl ?_
    refine ww_iconst (v := (-1 : Int32)) 10 dX6_member_9 (by decide) rfl ?_
    refine ww_ic_ge 18 13 dX6_member_10 (by decide) rfl (fun c => ?_) (fun c => ?_)
    · replace h := h.1 c
      refine ww_iload_n 19 dX6_member_18 rfl 2 rfl rfl ?_
      refine ww_iconst (v := (-1 : Int32)) 20 dX6_member_19 (by decide) rfl ?_
      refine ww_ic_ne 32 23 dX6_member_20 (by decide) rfl (fun c => ?_) (fun c => ?_)
      · replace h := h.1 c
        refine ww_iload_n 33 dX6_member_32 rfl 2 rfl rfl ?_
        refine ww_aload_n 34 dX6_member_33 rfl 0 rfl rfl ?_
        refine ww_getR 4 37 dX6_member_34 wf_X6_19 (ww_i1 30 (by decide)) rfl rfl rfl ?_
        refine ww_iload_n 38 dX6_member_37 rfl 1 rfl rfl ?_
        obtain ⟨j7, hij7, hj7, h⟩ := h
        refine ww_iald j7 39 dX6_member_38 (ww_i1 34 (by decide)) rfl (by decide) hij7 hj7 rfl ?_
        refine ww_ic_ge 56 42 dX6_member_39 (by decide) rfl (fun c => ?_) (fun c => ?_)
        · replace h := h.1 c
          refine ww_iconst (v := (-1 : Int32)) 57 dX6_member_56 (by decide) rfl ?_
          exact ww_iret dX6_member_57 rfl ⟨_, rfl, h⟩
        · replace h := h.2 c
          refine ww_aload_n 43 dX6_member_42 rfl 0 rfl rfl ?_
          refine ww_getR 3 46 dX6_member_43 wf_X6_16 (ww_i1 30 (by decide)) rfl rfl rfl ?_
          refine ww_bipush (v := nI 14) 48 dX6_member_46 (by decide) rfl ?_
          refine ww_iload_n 49 dX6_member_48 rfl 1 rfl rfl ?_
          refine ww_imul 50 dX6_member_49 rfl ?_
          refine ww_iload_n 51 dX6_member_50 rfl 2 rfl rfl ?_
          refine ww_iadd 52 dX6_member_51 rfl ?_
          obtain ⟨j8, hij8, hj8, h⟩ := h
          refine ww_iald j8 53 dX6_member_52 (ww_i1 33 (by decide)) rfl (by decide) hij8 hj8 rfl ?_
          refine ww_goto 57 dX6_member_53 (by decide) ?_
          exact ww_iret dX6_member_57 rfl ⟨_, rfl, h⟩
      · replace h := h.2 c
        refine ww_aload_n 24 dX6_member_23 rfl 0 rfl rfl ?_
        refine ww_getR 4 27 dX6_member_24 wf_X6_19 (ww_i1 30 (by decide)) rfl rfl rfl ?_
        refine ww_iload_n 28 dX6_member_27 rfl 1 rfl rfl ?_
        obtain ⟨j9, hij9, hj9, h⟩ := h
        refine ww_iald j9 29 dX6_member_28 (ww_i1 34 (by decide)) rfl (by decide) hij9 hj9 rfl ?_
        refine ww_goto 57 dX6_member_29 (by decide) ?_
        exact ww_iret dX6_member_57 rfl ⟨_, rfl, h⟩
    · replace h := h.2 c
      refine ww_aload_n 14 dX6_member_13 rfl 0 rfl rfl ?_
      obtain ⟨Q10, hT, h⟩ := h
      refine ww_invVI (d' := mX6_bad) [] rfl 17 dX6_member_14 ⟨wi_X6, wc_X6_bad, wp_X6_bad, by decide, by decide⟩ wl_X6_133 wn_X6_bad we_X6_bad (ww_i1 30 (by decide)) rfl rfl (Nat.le_of_ble_eq_true rfl) rfl hT (fun v11 τ12 hq => ?_)
      replace h := h v11 τ12 hq
      exact ww_iret dX6_member_17 rfl ⟨_, rfl, h⟩
theorem b_X6_good {l : Launch} {g : ww_G} {τ : ww_M} {a1 : Int32} {Post : Int32 → ww_M → Prop}  (h : ∀ E : ww_E, (∃ Q1 : Int32 → ww_M → Prop, ww_T E.2.1 g mX6_in [.inr (.inl (a1.toInt64)), .inr (.inl (lN 1)), .inr (.inl (lN 9))] τ (ww_QI Q1) ∧ ∀ (v2 : Int32) (τ3 : ww_M), Q1 v2 τ3 → (¬ v2 = nI 0 → (∃ Q4 : Int32 → ww_M → Prop, ww_T E.2.1 g mX6_isGood [.inr (.inr (30, 0)), .inl a1] τ3 (ww_QI Q4) ∧ ∀ (v5 : Int32) (τ6 : ww_M), Q4 v5 τ6 → (v5 = nI 0 → Post (nI 0) τ6) ∧ (¬ v5 = nI 0 → Post (nI 1) τ6))) ∧ (v2 = nI 0 → (∃ Q7 : Int32 → ww_M → Prop, ww_T E.2.1 g mX6_bad [.inr (.inr (30, 0))] τ3 (ww_QI Q7) ∧ ∀ (v8 : Int32) (τ9 : ww_M), Q7 v8 τ9 → Post v8 τ9)))) : ww_T l g mX6_good [.inr (.inr (30, 0)), .inl a1] τ (ww_QI Post) := by
  refine ww_enter (P := [some (.inr (.inr (30, 0))), some (.inl a1)]) (by decide) (Nat.le_of_ble_eq_true rfl) rfl (fun E => ?_)
  replace h := h E
  refine ww_iload_n 1 dX6_good_0 rfl 1 rfl rfl ?_
  refine ww_i2l 2 dX6_good_1 rfl ?_
  refine ww_lconst (v := lN 1) 3 dX6_good_2 (by decide) rfl ?_
  refine ww_ldc2 6 dX6_good_3 rfl wk_X6_139 ?_
  obtain ⟨Q1, hT, h⟩ := h
  refine ww_invSI (d' := mX6_in) [.inr (.inl (a1.toInt64)), .inr (.inl (lN 1)), .inr (.inl (lN 9))] rfl 9 dX6_good_6 ⟨wi_X6, wc_X6_in, wp_X6_in, by decide, by decide⟩ (Or.inl wl_X6_66) wn_X6_in (Nat.le_of_ble_eq_true rfl) rfl hT (fun v2 τ3 hq => ?_)
  replace h := h v2 τ3 hq
  refine ww_if_ne 17 12 dX6_good_9 (by decide) rfl (fun c => ?_) (fun c => ?_)
  · replace h := h.1 c
    refine ww_aload_n 18 dX6_good_17 rfl 0 rfl rfl ?_
    refine ww_iload_n 19 dX6_good_18 rfl 1 rfl rfl ?_
    obtain ⟨Q4, hT, h⟩ := h
    refine ww_invVI (d' := mX6_isGood) [.inl a1] rfl 22 dX6_good_19 ⟨wi_X6, wc_X6_isGood, wp_X6_isGood, by decide, by decide⟩ wl_X6_141 wn_X6_isGood we_X6_isGood (ww_i1 30 (by decide)) rfl rfl (Nat.le_of_ble_eq_true rfl) rfl hT (fun v5 τ6 hq => ?_)
    replace h := h v5 τ6 hq
    refine ww_if_eq 29 25 dX6_good_22 (by decide) rfl (fun c => ?_) (fun c => ?_)
    · replace h := h.1 c
      refine ww_iconst (v := nI 0) 30 dX6_good_29 (by decide) rfl ?_
      exact ww_iret dX6_good_30 rfl ⟨_, rfl, h⟩
    · replace h := h.2 c
      refine ww_iconst (v := nI 1) 26 dX6_good_25 (by decide) rfl ?_
      refine ww_goto 30 dX6_good_26 (by decide) ?_
      exact ww_iret dX6_good_30 rfl ⟨_, rfl, h⟩
  · replace h := h.2 c
    refine ww_aload_n 13 dX6_good_12 rfl 0 rfl rfl ?_
    obtain ⟨Q7, hT, h⟩ := h
    refine ww_invVI (d' := mX6_bad) [] rfl 16 dX6_good_13 ⟨wi_X6, wc_X6_bad, wp_X6_bad, by decide, by decide⟩ wl_X6_133 wn_X6_bad we_X6_bad (ww_i1 30 (by decide)) rfl rfl (Nat.le_of_ble_eq_true rfl) rfl hT (fun v8 τ9 hq => ?_)
    replace h := h v8 τ9 hq
    exact ww_iret dX6_good_16 rfl ⟨_, rfl, h⟩
theorem b_X6_alike {l : Launch} {g : ww_G} {τ : ww_M} {a1 : Int32} {a2 : Int32} {Post : Int32 → ww_M → Prop}  (h : ∀ E : ww_E, (∃ Q1 : Int32 → ww_M → Prop, ww_T E.2.1 g mX6_isMember [.inr (.inr (30, 0)), .inl a1] τ (ww_QI Q1) ∧ ∀ (v2 : Int32) (τ3 : ww_M), Q1 v2 τ3 → (v2 = nI 0 → (∃ Q4 : Int32 → ww_M → Prop, ww_T E.2.1 g mX6_bad [.inr (.inr (30, 0))] τ3 (ww_QI Q4) ∧ ∀ (v5 : Int32) (τ6 : ww_M), Q4 v5 τ6 → Post v5 τ6)) ∧ (¬ v2 = nI 0 → (∃ Q7 : Int32 → ww_M → Prop, ww_T E.2.1 g mX6_isMember [.inr (.inr (30, 0)), .inl a2] τ3 (ww_QI Q7) ∧ ∀ (v8 : Int32) (τ9 : ww_M), Q7 v8 τ9 → (v8 = nI 0 → (∃ Q10 : Int32 → ww_M → Prop, ww_T E.2.1 g mX6_bad [.inr (.inr (30, 0))] τ9 (ww_QI Q10) ∧ ∀ (v11 : Int32) (τ12 : ww_M), Q10 v11 τ12 → Post v11 τ12)) ∧ (¬ v8 = nI 0 → (∃ Q13 : Int32 → ww_M → Prop, ww_T E.2.1 g mX6_beginAlike [.inr (.inr (30, 0)), .inl a1, .inl a2] τ9 (ww_QI Q13) ∧ ∀ (v14 : Int32) (τ15 : ww_M), Q13 v14 τ15 → Post v14 τ15)))))) : ww_T l g mX6_alike [.inr (.inr (30, 0)), .inl a1, .inl a2] τ (ww_QI Post) := by
  refine ww_enter (P := [some (.inr (.inr (30, 0))), some (.inl a1), some (.inl a2)]) (by decide) (Nat.le_of_ble_eq_true rfl) rfl (fun E => ?_)
  replace h := h E
  refine ww_aload_n 1 dX6_alike_0 rfl 0 rfl rfl ?_
  refine ww_iload_n 2 dX6_alike_1 rfl 1 rfl rfl ?_
  obtain ⟨Q1, hT, h⟩ := h
  refine ww_invVI (d' := mX6_isMember) [.inl a1] rfl 5 dX6_alike_2 ⟨wi_X6, wc_X6_isMember, wp_X6_isMember, by decide, by decide⟩ wl_X6_136 wn_X6_isMember we_X6_isMember (ww_i1 30 (by decide)) rfl rfl (Nat.le_of_ble_eq_true rfl) rfl hT (fun v2 τ3 hq => ?_)
  replace h := h v2 τ3 hq
  refine ww_if_eq 25 8 dX6_alike_5 (by decide) rfl (fun c => ?_) (fun c => ?_)
  · replace h := h.1 c
    refine ww_aload_n 26 dX6_alike_25 rfl 0 rfl rfl ?_
    obtain ⟨Q4, hT, h⟩ := h
    refine ww_invVI (d' := mX6_bad) [] rfl 29 dX6_alike_26 ⟨wi_X6, wc_X6_bad, wp_X6_bad, by decide, by decide⟩ wl_X6_133 wn_X6_bad we_X6_bad (ww_i1 30 (by decide)) rfl rfl (Nat.le_of_ble_eq_true rfl) rfl hT (fun v5 τ6 hq => ?_)
    replace h := h v5 τ6 hq
    exact ww_iret dX6_alike_29 rfl ⟨_, rfl, h⟩
  · replace h := h.2 c
    refine ww_aload_n 9 dX6_alike_8 rfl 0 rfl rfl ?_
    refine ww_iload_n 10 dX6_alike_9 rfl 2 rfl rfl ?_
    obtain ⟨Q7, hT, h⟩ := h
    refine ww_invVI (d' := mX6_isMember) [.inl a2] rfl 13 dX6_alike_10 ⟨wi_X6, wc_X6_isMember, wp_X6_isMember, by decide, by decide⟩ wl_X6_136 wn_X6_isMember we_X6_isMember (ww_i1 30 (by decide)) rfl rfl (Nat.le_of_ble_eq_true rfl) rfl hT (fun v8 τ9 hq => ?_)
    replace h := h v8 τ9 hq
    refine ww_if_eq 25 16 dX6_alike_13 (by decide) rfl (fun c => ?_) (fun c => ?_)
    · replace h := h.1 c
      refine ww_aload_n 26 dX6_alike_25 rfl 0 rfl rfl ?_
      obtain ⟨Q10, hT, h⟩ := h
      refine ww_invVI (d' := mX6_bad) [] rfl 29 dX6_alike_26 ⟨wi_X6, wc_X6_bad, wp_X6_bad, by decide, by decide⟩ wl_X6_133 wn_X6_bad we_X6_bad (ww_i1 30 (by decide)) rfl rfl (Nat.le_of_ble_eq_true rfl) rfl hT (fun v11 τ12 hq => ?_)
      replace h := h v11 τ12 hq
      exact ww_iret dX6_alike_29 rfl ⟨_, rfl, h⟩
    · replace h := h.2 c
      refine ww_aload_n 17 dX6_alike_16 rfl 0 rfl rfl ?_
      refine ww_iload_n 18 dX6_alike_17 rfl 1 rfl rfl ?_
      refine ww_iload_n 19 dX6_alike_18 rfl 2 rfl rfl ?_
      obtain ⟨Q13, hT, h⟩ := h
      refine ww_invVI (d' := mX6_beginAlike) [.inl a1, .inl a2] rfl 22 dX6_alike_19 ⟨wi_X6, wc_X6_beginAlike, wp_X6_beginAlike, by decide, by decide⟩ wl_X6_120 wn_X6_beginAlike we_X6_beginAlike (ww_i1 30 (by decide)) rfl rfl (Nat.le_of_ble_eq_true rfl) rfl hT (fun v14 τ15 hq => ?_)
      replace h := h v14 τ15 hq
      refine ww_goto 29 dX6_alike_22 (by decide) ?_
      exact ww_iret dX6_alike_29 rfl ⟨_, rfl, h⟩
theorem b_X6_layMatrix {l : Launch} {g : ww_G} {τ : ww_M} {a1 : Int32} {Post : ww_M → Prop}  (h : ∀ E : ww_E, ww_W g mX6_layMatrix E (ww_QV Post) 2 [some (.inr (.inr (30, 0))), some (.inl a1), some (.inl (nI 0)), none, none] [] τ) : ww_T l g mX6_layMatrix [.inr (.inr (30, 0)), .inl a1] τ (ww_QV Post) := by
  refine ww_enter (P := [some (.inr (.inr (30, 0))), some (.inl a1), none, none, none]) (by decide) (Nat.le_of_ble_eq_true rfl) rfl (fun E => ?_)
  replace h := h E
  refine ww_iconst (v := nI 0) 1 dX6_layMatrix_0 (by decide) rfl ?_
  refine ww_istore_n 2 dX6_layMatrix_1 rfl 2 rfl (by decide) rfl [some (.inr (.inr (30, 0))), some (.inl a1), some (.inl (nI 0)), none, none] rfl ?_
  exact h
theorem b_X6_layMatrix_2 {g : ww_G} {E : ww_E} {τ : ww_M} {x1 : Int32} {x2 : Int32} {Post : ww_M → Prop}  (h : ((nI 12 ≤ x2 → ww_W g mX6_layMatrix E (ww_QV Post) 23 [some (.inr (.inr (30, 0))), some (.inl x1), some (.inl (nI 0)), none, none] [] τ) ∧ (¬ (nI 12 ≤ x2) → (∃ j1 : Nat, x2 = nI j1 ∧ j1 < 12 ∧ ∀ τ2 : ww_M, τ2 = ww_up τ (40, 0) j1 (nI 0) → ww_W g mX6_layMatrix E (ww_QV Post) 2 [some (.inr (.inr (30, 0))), some (.inl x1), some (.inl (x2 + nI 1)), none, none] [] τ2)))) : ww_W g mX6_layMatrix E (ww_QV Post) 2 [some (.inr (.inr (30, 0))), some (.inl x1), some (.inl x2), none, none] [] τ := by
  refine ww_iload_n 3 dX6_layMatrix_2 rfl 2 rfl rfl ?_
  refine ww_bipush (v := nI 12) 5 dX6_layMatrix_3 (by decide) rfl ?_
  refine ww_ic_ge 21 8 dX6_layMatrix_5 (by decide) rfl (fun c => ?_) (fun c => ?_)
  · replace h := h.1 c
    refine ww_iconst (v := nI 0) 22 dX6_layMatrix_21 (by decide) rfl ?_
    refine ww_istore_n 23 dX6_layMatrix_22 rfl 2 rfl (by decide) rfl [some (.inr (.inr (30, 0))), some (.inl x1), some (.inl (nI 0)), none, none] rfl ?_
    exact h
  · replace h := h.2 c
    refine ww_aload_n 9 dX6_layMatrix_8 rfl 0 rfl rfl ?_
    refine ww_getR 13 12 dX6_layMatrix_9 wf_X6_37 (ww_i1 30 (by decide)) rfl rfl rfl ?_
    refine ww_iload_n 13 dX6_layMatrix_12 rfl 2 rfl rfl ?_
    refine ww_iconst (v := nI 0) 14 dX6_layMatrix_13 (by decide) rfl ?_
    obtain ⟨j1, hij1, hj1, h⟩ := h
    refine ww_iast j1 15 dX6_layMatrix_14 (ww_i1 40 (by decide)) rfl (by decide) hij1 hj1 rfl (fun τ2 eτ2 => ?_)
    replace h := h τ2 eτ2
    refine ww_iinc (nI 1) 18 2 dX6_layMatrix_15 (by decide) rfl rfl (by decide) rfl [some (.inr (.inr (30, 0))), some (.inl x1), some (.inl (x2 + nI 1)), none, none] rfl ?_
    refine ww_goto 2 dX6_layMatrix_18 (by decide) ?_
    exact h
theorem b_X6_layMatrix_23 {g : ww_G} {E : ww_E} {τ : ww_M} {x1 : Int32} {x2 : Int32} {Post : ww_M → Prop}  (h : ((τ (30, 0) 2 ≤ x2 → ww_W g mX6_layMatrix E (ww_QV Post) 99 [some (.inr (.inr (30, 0))), some (.inl x1), some (.inl (nI 0)), none, none] [] τ) ∧ (¬ (τ (30, 0) 2 ≤ x2) → ww_W g mX6_layMatrix E (ww_QV Post) 33 [some (.inr (.inr (30, 0))), some (.inl x1), some (.inl x2), some (.inl (nI 0)), none] [] τ))) : ww_W g mX6_layMatrix E (ww_QV Post) 23 [some (.inr (.inr (30, 0))), some (.inl x1), some (.inl x2), none, none] [] τ := by
  refine ww_iload_n 24 dX6_layMatrix_23 rfl 2 rfl rfl ?_
  refine ww_aload_n 25 dX6_layMatrix_24 rfl 0 rfl rfl ?_
  refine ww_getI 2 28 dX6_layMatrix_25 wf_X6_109 (ww_i1 30 (by decide)) rfl rfl rfl ?_
  refine ww_ic_ge 97 31 dX6_layMatrix_28 (by decide) rfl (fun c => ?_) (fun c => ?_)
  · replace h := h.1 c
    refine ww_iconst (v := nI 0) 98 dX6_layMatrix_97 (by decide) rfl ?_
    refine ww_istore_n 99 dX6_layMatrix_98 rfl 2 rfl (by decide) rfl [some (.inr (.inr (30, 0))), some (.inl x1), some (.inl (nI 0)), none, none] rfl ?_
    exact h
  · replace h := h.2 c
    refine ww_iconst (v := nI 0) 32 dX6_layMatrix_31 (by decide) rfl ?_
    refine ww_istore_n 33 dX6_layMatrix_32 rfl 3 rfl (by decide) rfl [some (.inr (.inr (30, 0))), some (.inl x1), some (.inl x2), some (.inl (nI 0)), none] rfl ?_
    exact h
theorem b_X6_layMatrix_33 {g : ww_G} {E : ww_E} {τ : ww_M} {x1 : Int32} {x2 : Int32} {x3 : Int32} {Post : ww_M → Prop}  (h : (∃ j1 : Nat, x2 = nI j1 ∧ j1 < 3 ∧ (τ (32, 0) j1 ≤ x3 → ww_W g mX6_layMatrix E (ww_QV Post) 23 [some (.inr (.inr (30, 0))), some (.inl x1), some (.inl (x2 + nI 1)), none, none] [] τ) ∧ (¬ (τ (32, 0) j1 ≤ x3) → (∃ j2 : Nat, ((nI 14) * x2) + x3 = nI j2 ∧ j2 < 42 ∧ (∃ j3 : Nat, ((nI 4) * x2) + ((τ (31, 0) j2) - (τ (31, 0) j2) / (nI 4) * (nI 4)) = nI j3 ∧ j3 < 12 ∧ (nI 4 ≤ τ (31, 0) j2 → (∃ j4 : Nat, ((nI 4) * x2) + ((τ (31, 0) j2) - (τ (31, 0) j2) / (nI 4) * (nI 4)) = nI j4 ∧ j4 < 12 ∧ ∀ τ5 : ww_M, τ5 = ww_up τ (40, 0) j4 ((τ (40, 0) j3) + (x1 - (nI 1))) → ww_W g mX6_layMatrix E (ww_QV Post) 33 [some (.inr (.inr (30, 0))), some (.inl x1), some (.inl x2), some (.inl (x3 + nI 1)), none] [] τ5)) ∧ (¬ (nI 4 ≤ τ (31, 0) j2) → (∃ j6 : Nat, ((nI 4) * x2) + ((τ (31, 0) j2) - (τ (31, 0) j2) / (nI 4) * (nI 4)) = nI j6 ∧ j6 < 12 ∧ ∀ τ7 : ww_M, τ7 = ww_up τ (40, 0) j6 ((τ (40, 0) j3) + (nI 1)) → ww_W g mX6_layMatrix E (ww_QV Post) 33 [some (.inr (.inr (30, 0))), some (.inl x1), some (.inl x2), some (.inl (x3 + nI 1)), none] [] τ7))))))) : ww_W g mX6_layMatrix E (ww_QV Post) 33 [some (.inr (.inr (30, 0))), some (.inl x1), some (.inl x2), some (.inl x3), none] [] τ := by
  refine ww_iload_n 34 dX6_layMatrix_33 rfl 3 rfl rfl ?_
  refine ww_aload_n 35 dX6_layMatrix_34 rfl 0 rfl rfl ?_
  refine ww_getR 1 38 dX6_layMatrix_35 wf_X6_13 (ww_i1 30 (by decide)) rfl rfl rfl ?_
  refine ww_iload_n 39 dX6_layMatrix_38 rfl 2 rfl rfl ?_
  obtain ⟨j1, hij1, hj1, h⟩ := h
  refine ww_iald j1 40 dX6_layMatrix_39 (ww_i1 32 (by decide)) rfl (by decide) hij1 hj1 rfl ?_
  refine ww_ic_ge 91 43 dX6_layMatrix_40 (by decide) rfl (fun c => ?_) (fun c => ?_)
  · replace h := h.1 c
    refine ww_iinc (nI 1) 94 2 dX6_layMatrix_91 (by decide) rfl rfl (by decide) rfl [some (.inr (.inr (30, 0))), some (.inl x1), some (.inl (x2 + nI 1)), some (.inl x3), none] rfl ?_
    refine ww_goto 23 dX6_layMatrix_94 (by decide) ?_
    exact ww_weak (ww_le_s (ww_le_s (ww_le_s (ww_le_n (ww_le_n (ww_le_nil _)))))) h
  · replace h := h.2 c
    refine ww_aload_n 44 dX6_layMatrix_43 rfl 0 rfl rfl ?_
    refine ww_getR 0 47 dX6_layMatrix_44 wf_X6_7 (ww_i1 30 (by decide)) rfl rfl rfl ?_
    refine ww_bipush (v := nI 14) 49 dX6_layMatrix_47 (by decide) rfl ?_
    refine ww_iload_n 50 dX6_layMatrix_49 rfl 2 rfl rfl ?_
    refine ww_imul 51 dX6_layMatrix_50 rfl ?_
    refine ww_iload_n 52 dX6_layMatrix_51 rfl 3 rfl rfl ?_
    refine ww_iadd 53 dX6_layMatrix_52 rfl ?_
    obtain ⟨j2, hij2, hj2, h⟩ := h
    refine ww_iald j2 54 dX6_layMatrix_53 (ww_i1 31 (by decide)) rfl (by decide) hij2 hj2 rfl ?_
    refine ww_istore 56 4 dX6_layMatrix_54 rfl (by decide) rfl [some (.inr (.inr (30, 0))), some (.inl x1), some (.inl x2), some (.inl x3), some (.inl (τ (31, 0) j2))] rfl ?_
    refine ww_aload_n 57 dX6_layMatrix_56 rfl 0 rfl rfl ?_
    refine ww_getR 13 60 dX6_layMatrix_57 wf_X6_37 (ww_i1 30 (by decide)) rfl rfl rfl ?_
    refine ww_iconst (v := nI 4) 61 dX6_layMatrix_60 (by decide) rfl ?_
    refine ww_iload_n 62 dX6_layMatrix_61 rfl 2 rfl rfl ?_
    refine ww_imul 63 dX6_layMatrix_62 rfl ?_
    refine ww_iload 65 4 dX6_layMatrix_63 rfl rfl ?_
    refine ww_iconst (v := nI 4) 66 dX6_layMatrix_65 (by decide) rfl ?_
    refine ww_irem 67 dX6_layMatrix_66 rfl (by decide) ?_
    refine ww_iadd 68 dX6_layMatrix_67 rfl ?_
    refine ww_dup2 69 dX6_layMatrix_68 rfl rfl rfl ?_
    obtain ⟨j3, hij3, hj3, h⟩ := h
    refine ww_iald j3 70 dX6_layMatrix_69 (ww_i1 40 (by decide)) rfl (by decide) hij3 hj3 rfl ?_
    refine ww_iload 72 4 dX6_layMatrix_70 rfl rfl ?_
    refine ww_iconst (v := nI 4) 73 dX6_layMatrix_72 (by decide) rfl ?_
    refine ww_ic_ge 80 76 dX6_layMatrix_73 (by decide) rfl (fun c => ?_) (fun c => ?_)
    · replace h := h.1 c
      refine ww_iload_n 81 dX6_layMatrix_80 rfl 1 rfl rfl ?_
      refine ww_iconst (v := nI 1) 82 dX6_layMatrix_81 (by decide) rfl ?_
      refine ww_isub 83 dX6_layMatrix_82 rfl ?_
      refine ww_iadd 84 dX6_layMatrix_83 rfl ?_
      obtain ⟨j4, hij4, hj4, h⟩ := h
      refine ww_iast j4 85 dX6_layMatrix_84 (ww_i1 40 (by decide)) rfl (by decide) hij4 hj4 rfl (fun τ5 eτ5 => ?_)
      replace h := h τ5 eτ5
      refine ww_iinc (nI 1) 88 3 dX6_layMatrix_85 (by decide) rfl rfl (by decide) rfl [some (.inr (.inr (30, 0))), some (.inl x1), some (.inl x2), some (.inl (x3 + nI 1)), some (.inl (τ (31, 0) j2))] rfl ?_
      refine ww_goto 33 dX6_layMatrix_88 (by decide) ?_
      exact ww_weak (ww_le_s (ww_le_s (ww_le_s (ww_le_s (ww_le_n (ww_le_nil _)))))) h
    · replace h := h.2 c
      refine ww_iconst (v := nI 1) 77 dX6_layMatrix_76 (by decide) rfl ?_
      refine ww_goto 83 dX6_layMatrix_77 (by decide) ?_
      refine ww_iadd 84 dX6_layMatrix_83 rfl ?_
      obtain ⟨j6, hij6, hj6, h⟩ := h
      refine ww_iast j6 85 dX6_layMatrix_84 (ww_i1 40 (by decide)) rfl (by decide) hij6 hj6 rfl (fun τ7 eτ7 => ?_)
      replace h := h τ7 eτ7
      refine ww_iinc (nI 1) 88 3 dX6_layMatrix_85 (by decide) rfl rfl (by decide) rfl [some (.inr (.inr (30, 0))), some (.inl x1), some (.inl x2), some (.inl (x3 + nI 1)), some (.inl (τ (31, 0) j2))] rfl ?_
      refine ww_goto 33 dX6_layMatrix_88 (by decide) ?_
      exact ww_weak (ww_le_s (ww_le_s (ww_le_s (ww_le_s (ww_le_n (ww_le_nil _)))))) h
theorem b_X6_layMatrix_99 {g : ww_G} {E : ww_E} {τ : ww_M} {x1 : Int32} {x2 : Int32} {Post : ww_M → Prop}  (h : ((nI 12 ≤ x2 → Post τ) ∧ (¬ (nI 12 ≤ x2) → (∃ j1 : Nat, x2 = nI j1 ∧ j1 < 12 ∧ (¬ x1 = nI 0 ∧ (∃ j3 : Nat, x2 = nI j3 ∧ j3 < 12 ∧ ∀ τ4 : ww_M, τ4 = ww_up τ (40, 0) j3 ((τ (40, 0) j1) - (τ (40, 0) j1) / x1 * x1) → ww_W g mX6_layMatrix E (ww_QV Post) 99 [some (.inr (.inr (30, 0))), some (.inl x1), some (.inl (x2 + nI 1)), none, none] [] τ4)))))) : ww_W g mX6_layMatrix E (ww_QV Post) 99 [some (.inr (.inr (30, 0))), some (.inl x1), some (.inl x2), none, none] [] τ := by
  refine ww_iload_n 100 dX6_layMatrix_99 rfl 2 rfl rfl ?_
  refine ww_bipush (v := nI 12) 102 dX6_layMatrix_100 (by decide) rfl ?_
  refine ww_ic_ge 121 105 dX6_layMatrix_102 (by decide) rfl (fun c => ?_) (fun c => ?_)
  · replace h := h.1 c
    exact ww_vret dX6_layMatrix_121 rfl ⟨rfl, h⟩
  · replace h := h.2 c
    refine ww_aload_n 106 dX6_layMatrix_105 rfl 0 rfl rfl ?_
    refine ww_getR 13 109 dX6_layMatrix_106 wf_X6_37 (ww_i1 30 (by decide)) rfl rfl rfl ?_
    refine ww_iload_n 110 dX6_layMatrix_109 rfl 2 rfl rfl ?_
    refine ww_dup2 111 dX6_layMatrix_110 rfl rfl rfl ?_
    obtain ⟨j1, hij1, hj1, h⟩ := h
    refine ww_iald j1 112 dX6_layMatrix_111 (ww_i1 40 (by decide)) rfl (by decide) hij1 hj1 rfl ?_
    refine ww_iload_n 113 dX6_layMatrix_112 rfl 1 rfl rfl ?_
    obtain ⟨hz2, h⟩ := h
    refine ww_irem 114 dX6_layMatrix_113 rfl hz2 ?_
    obtain ⟨j3, hij3, hj3, h⟩ := h
    refine ww_iast j3 115 dX6_layMatrix_114 (ww_i1 40 (by decide)) rfl (by decide) hij3 hj3 rfl (fun τ4 eτ4 => ?_)
    replace h := h τ4 eτ4
    refine ww_iinc (nI 1) 118 2 dX6_layMatrix_115 (by decide) rfl rfl (by decide) rfl [some (.inr (.inr (30, 0))), some (.inl x1), some (.inl (x2 + nI 1)), none, none] rfl ?_
    refine ww_goto 99 dX6_layMatrix_118 (by decide) ?_
    exact h
theorem b_X6_swapRows {l : Launch} {g : ww_G} {τ : ww_M} {a1 : Int32} {a2 : Int32} {Post : ww_M → Prop}  (h : ∀ E : ww_E, ww_W g mX6_swapRows E (ww_QV Post) 2 [some (.inr (.inr (30, 0))), some (.inl a1), some (.inl a2), some (.inl (nI 0)), none] [] τ) : ww_T l g mX6_swapRows [.inr (.inr (30, 0)), .inl a1, .inl a2] τ (ww_QV Post) := by
  refine ww_enter (P := [some (.inr (.inr (30, 0))), some (.inl a1), some (.inl a2), none, none]) (by decide) (Nat.le_of_ble_eq_true rfl) rfl (fun E => ?_)
  replace h := h E
  refine ww_iconst (v := nI 0) 1 dX6_swapRows_0 (by decide) rfl ?_
  refine ww_istore_n 2 dX6_swapRows_1 rfl 3 rfl (by decide) rfl [some (.inr (.inr (30, 0))), some (.inl a1), some (.inl a2), some (.inl (nI 0)), none] rfl ?_
  exact h
theorem b_X6_swapRows_2 {g : ww_G} {E : ww_E} {τ : ww_M} {x1 : Int32} {x2 : Int32} {x3 : Int32} {Post : ww_M → Prop}  (h : ((nI 4 ≤ x3 → Post τ) ∧ (¬ (nI 4 ≤ x3) → (∃ j1 : Nat, ((nI 4) * x1) + x3 = nI j1 ∧ j1 < 12 ∧ (∃ j2 : Nat, ((nI 4) * x2) + x3 = nI j2 ∧ j2 < 12 ∧ (∃ j3 : Nat, ((nI 4) * x1) + x3 = nI j3 ∧ j3 < 12 ∧ ∀ τ4 : ww_M, τ4 = ww_up τ (40, 0) j3 (τ (40, 0) j2) → (∃ j5 : Nat, ((nI 4) * x2) + x3 = nI j5 ∧ j5 < 12 ∧ ∀ τ6 : ww_M, τ6 = ww_up τ4 (40, 0) j5 (τ (40, 0) j1) → ww_W g mX6_swapRows E (ww_QV Post) 2 [some (.inr (.inr (30, 0))), some (.inl x1), some (.inl x2), some (.inl (x3 + nI 1)), none] [] τ6))))))) : ww_W g mX6_swapRows E (ww_QV Post) 2 [some (.inr (.inr (30, 0))), some (.inl x1), some (.inl x2), some (.inl x3), none] [] τ := by
  refine ww_iload_n 3 dX6_swapRows_2 rfl 3 rfl rfl ?_
  refine ww_iconst (v := nI 4) 4 dX6_swapRows_3 (by decide) rfl ?_
  refine ww_ic_ge 57 7 dX6_swapRows_4 (by decide) rfl (fun c => ?_) (fun c => ?_)
  · replace h := h.1 c
    exact ww_vret dX6_swapRows_57 rfl ⟨rfl, h⟩
  · replace h := h.2 c
    refine ww_aload_n 8 dX6_swapRows_7 rfl 0 rfl rfl ?_
    refine ww_getR 13 11 dX6_swapRows_8 wf_X6_37 (ww_i1 30 (by decide)) rfl rfl rfl ?_
    refine ww_iconst (v := nI 4) 12 dX6_swapRows_11 (by decide) rfl ?_
    refine ww_iload_n 13 dX6_swapRows_12 rfl 1 rfl rfl ?_
    refine ww_imul 14 dX6_swapRows_13 rfl ?_
    refine ww_iload_n 15 dX6_swapRows_14 rfl 3 rfl rfl ?_
    refine ww_iadd 16 dX6_swapRows_15 rfl ?_
    obtain ⟨j1, hij1, hj1, h⟩ := h
    refine ww_iald j1 17 dX6_swapRows_16 (ww_i1 40 (by decide)) rfl (by decide) hij1 hj1 rfl ?_
    refine ww_istore 19 4 dX6_swapRows_17 rfl (by decide) rfl [some (.inr (.inr (30, 0))), some (.inl x1), some (.inl x2), some (.inl x3), some (.inl (τ (40, 0) j1))] rfl ?_
    refine ww_aload_n 20 dX6_swapRows_19 rfl 0 rfl rfl ?_
    refine ww_getR 13 23 dX6_swapRows_20 wf_X6_37 (ww_i1 30 (by decide)) rfl rfl rfl ?_
    refine ww_iconst (v := nI 4) 24 dX6_swapRows_23 (by decide) rfl ?_
    refine ww_iload_n 25 dX6_swapRows_24 rfl 1 rfl rfl ?_
    refine ww_imul 26 dX6_swapRows_25 rfl ?_
    refine ww_iload_n 27 dX6_swapRows_26 rfl 3 rfl rfl ?_
    refine ww_iadd 28 dX6_swapRows_27 rfl ?_
    refine ww_aload_n 29 dX6_swapRows_28 rfl 0 rfl rfl ?_
    refine ww_getR 13 32 dX6_swapRows_29 wf_X6_37 (ww_i1 30 (by decide)) rfl rfl rfl ?_
    refine ww_iconst (v := nI 4) 33 dX6_swapRows_32 (by decide) rfl ?_
    refine ww_iload_n 34 dX6_swapRows_33 rfl 2 rfl rfl ?_
    refine ww_imul 35 dX6_swapRows_34 rfl ?_
    refine ww_iload_n 36 dX6_swapRows_35 rfl 3 rfl rfl ?_
    refine ww_iadd 37 dX6_swapRows_36 rfl ?_
    obtain ⟨j2, hij2, hj2, h⟩ := h
    refine ww_iald j2 38 dX6_swapRows_37 (ww_i1 40 (by decide)) rfl (by decide) hij2 hj2 rfl ?_
    obtain ⟨j3, hij3, hj3, h⟩ := h
    refine ww_iast j3 39 dX6_swapRows_38 (ww_i1 40 (by decide)) rfl (by decide) hij3 hj3 rfl (fun τ4 eτ4 => ?_)
    replace h := h τ4 eτ4
    refine ww_aload_n 40 dX6_swapRows_39 rfl 0 rfl rfl ?_
    refine ww_getR 13 43 dX6_swapRows_40 wf_X6_37 (ww_i1 30 (by decide)) rfl rfl rfl ?_
    refine ww_iconst (v := nI 4) 44 dX6_swapRows_43 (by decide) rfl ?_
    refine ww_iload_n 45 dX6_swapRows_44 rfl 2 rfl rfl ?_
    refine ww_imul 46 dX6_swapRows_45 rfl ?_
    refine ww_iload_n 47 dX6_swapRows_46 rfl 3 rfl rfl ?_
    refine ww_iadd 48 dX6_swapRows_47 rfl ?_
    refine ww_iload 50 4 dX6_swapRows_48 rfl rfl ?_
    obtain ⟨j5, hij5, hj5, h⟩ := h
    refine ww_iast j5 51 dX6_swapRows_50 (ww_i1 40 (by decide)) rfl (by decide) hij5 hj5 rfl (fun τ6 eτ6 => ?_)
    replace h := h τ6 eτ6
    refine ww_iinc (nI 1) 54 3 dX6_swapRows_51 (by decide) rfl rfl (by decide) rfl [some (.inr (.inr (30, 0))), some (.inl x1), some (.inl x2), some (.inl (x3 + nI 1)), some (.inl (τ (40, 0) j1))] rfl ?_
    refine ww_goto 2 dX6_swapRows_54 (by decide) ?_
    exact ww_weak (ww_le_s (ww_le_s (ww_le_s (ww_le_s (ww_le_n (ww_le_nil _)))))) h
theorem b_X6_rank {l : Launch} {g : ww_G} {τ : ww_M} {a1 : Int32} {Post : Int32 → ww_M → Prop}  (h : ∀ E : ww_E, ((a1 = nI 2 → (∃ Q1 : ww_M → Prop, ww_T E.2.1 g mX6_layMatrix [.inr (.inr (30, 0)), .inl a1] τ (ww_QV Q1) ∧ ∀ (τ2 : ww_M), Q1 τ2 → ww_W g mX6_rank E (ww_QI Post) 35 [some (.inr (.inr (30, 0))), some (.inl a1), some (.inl (nI 0)), some (.inl (nI 0)), none, none, none, none] [] τ2)) ∧ (¬ a1 = nI 2 → ((a1 = nI 3 → (∃ Q3 : ww_M → Prop, ww_T E.2.1 g mX6_layMatrix [.inr (.inr (30, 0)), .inl a1] τ (ww_QV Q3) ∧ ∀ (τ4 : ww_M), Q3 τ4 → ww_W g mX6_rank E (ww_QI Post) 35 [some (.inr (.inr (30, 0))), some (.inl a1), some (.inl (nI 0)), some (.inl (nI 0)), none, none, none, none] [] τ4)) ∧ (¬ a1 = nI 3 → ((a1 = nI 5 → (∃ Q5 : ww_M → Prop, ww_T E.2.1 g mX6_layMatrix [.inr (.inr (30, 0)), .inl a1] τ (ww_QV Q5) ∧ ∀ (τ6 : ww_M), Q5 τ6 → ww_W g mX6_rank E (ww_QI Post) 35 [some (.inr (.inr (30, 0))), some (.inl a1), some (.inl (nI 0)), some (.inl (nI 0)), none, none, none, none] [] τ6)) ∧ (¬ a1 = nI 5 → ((a1 = nI 7 → (∃ Q7 : ww_M → Prop, ww_T E.2.1 g mX6_layMatrix [.inr (.inr (30, 0)), .inl a1] τ (ww_QV Q7) ∧ ∀ (τ8 : ww_M), Q7 τ8 → ww_W g mX6_rank E (ww_QI Post) 35 [some (.inr (.inr (30, 0))), some (.inl a1), some (.inl (nI 0)), some (.inl (nI 0)), none, none, none, none] [] τ8)) ∧ (¬ a1 = nI 7 → (∃ Q9 : Int32 → ww_M → Prop, ww_T E.2.1 g mX6_bad [.inr (.inr (30, 0))] τ (ww_QI Q9) ∧ ∀ (v10 : Int32) (τ11 : ww_M), Q9 v10 τ11 → Post v10 τ11)))))))))) : ww_T l g mX6_rank [.inr (.inr (30, 0)), .inl a1] τ (ww_QI Post) := by
  refine ww_enter (P := [some (.inr (.inr (30, 0))), some (.inl a1), none, none, none, none, none, none]) (by decide) (Nat.le_of_ble_eq_true rfl) rfl (fun E => ?_)
  replace h := h E
  refine ww_iload_n 1 dX6_rank_0 rfl 1 rfl rfl ?_
  refine ww_iconst (v := nI 2) 2 dX6_rank_1 (by decide) rfl ?_
  refine ww_ic_eq 26 5 dX6_rank_2 (by decide) rfl (fun c => ?_) (fun c => ?_)
  · replace h := h.1 c
    refine ww_aload_n 27 dX6_rank_26 rfl 0 rfl rfl ?_
    refine ww_iload_n 28 dX6_rank_27 rfl 1 rfl rfl ?_
    obtain ⟨Q1, hT, h⟩ := h
    refine ww_invVV (d' := mX6_layMatrix) [.inl a1] rfl 31 dX6_rank_28 ⟨wi_X6, wc_X6_layMatrix, wp_X6_layMatrix, by decide, by decide⟩ wl_X6_144 wn_X6_layMatrix we_X6_layMatrix (ww_i1 30 (by decide)) rfl rfl (Nat.le_of_ble_eq_true rfl) rfl hT (fun τ2 hq => ?_)
    replace h := h τ2 hq
    refine ww_iconst (v := nI 0) 32 dX6_rank_31 (by decide) rfl ?_
    refine ww_istore_n 33 dX6_rank_32 rfl 2 rfl (by decide) rfl [some (.inr (.inr (30, 0))), some (.inl a1), some (.inl (nI 0)), none, none, none, none, none] rfl ?_
    refine ww_iconst (v := nI 0) 34 dX6_rank_33 (by decide) rfl ?_
    refine ww_istore_n 35 dX6_rank_34 rfl 3 rfl (by decide) rfl [some (.inr (.inr (30, 0))), some (.inl a1), some (.inl (nI 0)), some (.inl (nI 0)), none, none, none, none] rfl ?_
    exact h
  · replace h := h.2 c
    refine ww_iload_n 6 dX6_rank_5 rfl 1 rfl rfl ?_
    refine ww_iconst (v := nI 3) 7 dX6_rank_6 (by decide) rfl ?_
    refine ww_ic_eq 26 10 dX6_rank_7 (by decide) rfl (fun c => ?_) (fun c => ?_)
    · replace h := h.1 c
      refine ww_aload_n 27 dX6_rank_26 rfl 0 rfl rfl ?_
      refine ww_iload_n 28 dX6_rank_27 rfl 1 rfl rfl ?_
      obtain ⟨Q3, hT, h⟩ := h
      refine ww_invVV (d' := mX6_layMatrix) [.inl a1] rfl 31 dX6_rank_28 ⟨wi_X6, wc_X6_layMatrix, wp_X6_layMatrix, by decide, by decide⟩ wl_X6_144 wn_X6_layMatrix we_X6_layMatrix (ww_i1 30 (by decide)) rfl rfl (Nat.le_of_ble_eq_true rfl) rfl hT (fun τ4 hq => ?_)
      replace h := h τ4 hq
      refine ww_iconst (v := nI 0) 32 dX6_rank_31 (by decide) rfl ?_
      refine ww_istore_n 33 dX6_rank_32 rfl 2 rfl (by decide) rfl [some (.inr (.inr (30, 0))), some (.inl a1), some (.inl (nI 0)), none, none, none, none, none] rfl ?_
      refine ww_iconst (v := nI 0) 34 dX6_rank_33 (by decide) rfl ?_
      refine ww_istore_n 35 dX6_rank_34 rfl 3 rfl (by decide) rfl [some (.inr (.inr (30, 0))), some (.inl a1), some (.inl (nI 0)), some (.inl (nI 0)), none, none, none, none] rfl ?_
      exact h
    · replace h := h.2 c
      refine ww_iload_n 11 dX6_rank_10 rfl 1 rfl rfl ?_
      refine ww_iconst (v := nI 5) 12 dX6_rank_11 (by decide) rfl ?_
      refine ww_ic_eq 26 15 dX6_rank_12 (by decide) rfl (fun c => ?_) (fun c => ?_)
      · replace h := h.1 c
        refine ww_aload_n 27 dX6_rank_26 rfl 0 rfl rfl ?_
        refine ww_iload_n 28 dX6_rank_27 rfl 1 rfl rfl ?_
        obtain ⟨Q5, hT, h⟩ := h
        refine ww_invVV (d' := mX6_layMatrix) [.inl a1] rfl 31 dX6_rank_28 ⟨wi_X6, wc_X6_layMatrix, wp_X6_layMatrix, by decide, by decide⟩ wl_X6_144 wn_X6_layMatrix we_X6_layMatrix (ww_i1 30 (by decide)) rfl rfl (Nat.le_of_ble_eq_true rfl) rfl hT (fun τ6 hq => ?_)
        replace h := h τ6 hq
        refine ww_iconst (v := nI 0) 32 dX6_rank_31 (by decide) rfl ?_
        refine ww_istore_n 33 dX6_rank_32 rfl 2 rfl (by decide) rfl [some (.inr (.inr (30, 0))), some (.inl a1), some (.inl (nI 0)), none, none, none, none, none] rfl ?_
        refine ww_iconst (v := nI 0) 34 dX6_rank_33 (by decide) rfl ?_
        refine ww_istore_n 35 dX6_rank_34 rfl 3 rfl (by decide) rfl [some (.inr (.inr (30, 0))), some (.inl a1), some (.inl (nI 0)), some (.inl (nI 0)), none, none, none, none] rfl ?_
        exact h
      · replace h := h.2 c
        refine ww_iload_n 16 dX6_rank_15 rfl 1 rfl rfl ?_
        refine ww_bipush (v := nI 7) 18 dX6_rank_16 (by decide) rfl ?_
        refine ww_ic_eq 26 21 dX6_rank_18 (by decide) rfl (fun c => ?_) (fun c => ?_)
        · replace h := h.1 c
          refine ww_aload_n 27 dX6_rank_26 rfl 0 rfl rfl ?_
          refine ww_iload_n 28 dX6_rank_27 rfl 1 rfl rfl ?_
          obtain ⟨Q7, hT, h⟩ := h
          refine ww_invVV (d' := mX6_layMatrix) [.inl a1] rfl 31 dX6_rank_28 ⟨wi_X6, wc_X6_layMatrix, wp_X6_layMatrix, by decide, by decide⟩ wl_X6_144 wn_X6_layMatrix we_X6_layMatrix (ww_i1 30 (by decide)) rfl rfl (Nat.le_of_ble_eq_true rfl) rfl hT (fun τ8 hq => ?_)
          replace h := h τ8 hq
          refine ww_iconst (v := nI 0) 32 dX6_rank_31 (by decide) rfl ?_
          refine ww_istore_n 33 dX6_rank_32 rfl 2 rfl (by decide) rfl [some (.inr (.inr (30, 0))), some (.inl a1), some (.inl (nI 0)), none, none, none, none, none] rfl ?_
          refine ww_iconst (v := nI 0) 34 dX6_rank_33 (by decide) rfl ?_
          refine ww_istore_n 35 dX6_rank_34 rfl 3 rfl (by decide) rfl [some (.inr (.inr (30, 0))), some (.inl a1), some (.inl (nI 0)), some (.inl (nI 0)), none, none, none, none] rfl ?_
          exact h
        · replace h := h.2 c
          refine ww_aload_n 22 dX6_rank_21 rfl 0 rfl rfl ?_
          obtain ⟨Q9, hT, h⟩ := h
          refine ww_invVI (d' := mX6_bad) [] rfl 25 dX6_rank_22 ⟨wi_X6, wc_X6_bad, wp_X6_bad, by decide, by decide⟩ wl_X6_133 wn_X6_bad we_X6_bad (ww_i1 30 (by decide)) rfl rfl (Nat.le_of_ble_eq_true rfl) rfl hT (fun v10 τ11 hq => ?_)
          replace h := h v10 τ11 hq
          exact ww_iret dX6_rank_25 rfl ⟨_, rfl, h⟩
theorem b_X6_rank_35 {g : ww_G} {E : ww_E} {τ : ww_M} {x1 : Int32} {x2 : Int32} {x3 : Int32} {Post : Int32 → ww_M → Prop}  (h : ((nI 4 ≤ x3 → Post x2 τ) ∧ (¬ (nI 4 ≤ x3) → ((τ (30, 0) 2 ≤ x2 → Post x2 τ) ∧ (¬ (τ (30, 0) 2 ≤ x2) → ww_W g mX6_rank E (ww_QI Post) 51 [some (.inr (.inr (30, 0))), some (.inl x1), some (.inl x2), some (.inl x3), some (.inl x2), none, none, none] [] τ))))) : ww_W g mX6_rank E (ww_QI Post) 35 [some (.inr (.inr (30, 0))), some (.inl x1), some (.inl x2), some (.inl x3), none, none, none, none] [] τ := by
  refine ww_iload_n 36 dX6_rank_35 rfl 3 rfl rfl ?_
  refine ww_iconst (v := nI 4) 37 dX6_rank_36 (by decide) rfl ?_
  refine ww_ic_ge 207 40 dX6_rank_37 (by decide) rfl (fun c => ?_) (fun c => ?_)
  · replace h := h.1 c
    refine ww_iload_n 208 dX6_rank_207 rfl 2 rfl rfl ?_
    exact ww_iret dX6_rank_208 rfl ⟨_, rfl, h⟩
  · replace h := h.2 c
    refine ww_iload_n 41 dX6_rank_40 rfl 2 rfl rfl ?_
    refine ww_aload_n 42 dX6_rank_41 rfl 0 rfl rfl ?_
    refine ww_getI 2 45 dX6_rank_42 wf_X6_109 (ww_i1 30 (by decide)) rfl rfl rfl ?_
    refine ww_ic_ge 207 48 dX6_rank_45 (by decide) rfl (fun c => ?_) (fun c => ?_)
    · replace h := h.1 c
      refine ww_iload_n 208 dX6_rank_207 rfl 2 rfl rfl ?_
      exact ww_iret dX6_rank_208 rfl ⟨_, rfl, h⟩
    · replace h := h.2 c
      refine ww_iload_n 49 dX6_rank_48 rfl 2 rfl rfl ?_
      refine ww_istore 51 4 dX6_rank_49 rfl (by decide) rfl [some (.inr (.inr (30, 0))), some (.inl x1), some (.inl x2), some (.inl x3), some (.inl x2), none, none, none] rfl ?_
      exact h
theorem b_X6_rank_51 {g : ww_G} {E : ww_E} {τ : ww_M} {x1 : Int32} {x2 : Int32} {x3 : Int32} {x4 : Int32} {Post : Int32 → ww_M → Prop}  (h : ((τ (30, 0) 2 ≤ x4 → ww_W g mX6_rank E (ww_QI Post) 80 [some (.inr (.inr (30, 0))), some (.inl x1), some (.inl x2), some (.inl x3), some (.inl x4), none, none, none] [] τ) ∧ (¬ (τ (30, 0) 2 ≤ x4) → (∃ j1 : Nat, ((nI 4) * x4) + x3 = nI j1 ∧ j1 < 12 ∧ (¬ τ (40, 0) j1 = nI 0 → ww_W g mX6_rank E (ww_QI Post) 80 [some (.inr (.inr (30, 0))), some (.inl x1), some (.inl x2), some (.inl x3), some (.inl x4), none, none, none] [] τ) ∧ (τ (40, 0) j1 = nI 0 → ww_W g mX6_rank E (ww_QI Post) 51 [some (.inr (.inr (30, 0))), some (.inl x1), some (.inl x2), some (.inl x3), some (.inl (x4 + nI 1)), none, none, none] [] τ))))) : ww_W g mX6_rank E (ww_QI Post) 51 [some (.inr (.inr (30, 0))), some (.inl x1), some (.inl x2), some (.inl x3), some (.inl x4), none, none, none] [] τ := by
  refine ww_iload 53 4 dX6_rank_51 rfl rfl ?_
  refine ww_aload_n 54 dX6_rank_53 rfl 0 rfl rfl ?_
  refine ww_getI 2 57 dX6_rank_54 wf_X6_109 (ww_i1 30 (by decide)) rfl rfl rfl ?_
  refine ww_ic_ge 80 60 dX6_rank_57 (by decide) rfl (fun c => ?_) (fun c => ?_)
  · replace h := h.1 c
    exact h
  · replace h := h.2 c
    refine ww_aload_n 61 dX6_rank_60 rfl 0 rfl rfl ?_
    refine ww_getR 13 64 dX6_rank_61 wf_X6_37 (ww_i1 30 (by decide)) rfl rfl rfl ?_
    refine ww_iconst (v := nI 4) 65 dX6_rank_64 (by decide) rfl ?_
    refine ww_iload 67 4 dX6_rank_65 rfl rfl ?_
    refine ww_imul 68 dX6_rank_67 rfl ?_
    refine ww_iload_n 69 dX6_rank_68 rfl 3 rfl rfl ?_
    refine ww_iadd 70 dX6_rank_69 rfl ?_
    obtain ⟨j1, hij1, hj1, h⟩ := h
    refine ww_iald j1 71 dX6_rank_70 (ww_i1 40 (by decide)) rfl (by decide) hij1 hj1 rfl ?_
    refine ww_if_ne 80 74 dX6_rank_71 (by decide) rfl (fun c => ?_) (fun c => ?_)
    · replace h := h.1 c
      exact h
    · replace h := h.2 c
      refine ww_iinc (nI 1) 77 4 dX6_rank_74 (by decide) rfl rfl (by decide) rfl [some (.inr (.inr (30, 0))), some (.inl x1), some (.inl x2), some (.inl x3), some (.inl (x4 + nI 1)), none, none, none] rfl ?_
      refine ww_goto 51 dX6_rank_77 (by decide) ?_
      exact h
theorem b_X6_rank_80 {g : ww_G} {E : ww_E} {τ : ww_M} {x1 : Int32} {x2 : Int32} {x3 : Int32} {x4 : Int32} {Post : Int32 → ww_M → Prop}  (h : ((τ (30, 0) 2 ≤ x4 → ww_W g mX6_rank E (ww_QI Post) 35 [some (.inr (.inr (30, 0))), some (.inl x1), some (.inl x2), some (.inl (x3 + nI 1)), none, none, none, none] [] τ) ∧ (¬ (τ (30, 0) 2 ≤ x4) → (∃ Q1 : ww_M → Prop, ww_T E.2.1 g mX6_swapRows [.inr (.inr (30, 0)), .inl x2, .inl x4] τ (ww_QV Q1) ∧ ∀ (τ2 : ww_M), Q1 τ2 → ww_W g mX6_rank E (ww_QI Post) 101 [some (.inr (.inr (30, 0))), some (.inl x1), some (.inl x2), some (.inl x3), none, some (.inl (x2 + (nI 1))), none, none] [] τ2)))) : ww_W g mX6_rank E (ww_QI Post) 80 [some (.inr (.inr (30, 0))), some (.inl x1), some (.inl x2), some (.inl x3), some (.inl x4), none, none, none] [] τ := by
  refine ww_iload 82 4 dX6_rank_80 rfl rfl ?_
  refine ww_aload_n 83 dX6_rank_82 rfl 0 rfl rfl ?_
  refine ww_getI 2 86 dX6_rank_83 wf_X6_109 (ww_i1 30 (by decide)) rfl rfl rfl ?_
  refine ww_ic_ge 201 89 dX6_rank_86 (by decide) rfl (fun c => ?_) (fun c => ?_)
  · replace h := h.1 c
    refine ww_iinc (nI 1) 204 3 dX6_rank_201 (by decide) rfl rfl (by decide) rfl [some (.inr (.inr (30, 0))), some (.inl x1), some (.inl x2), some (.inl (x3 + nI 1)), some (.inl x4), none, none, none] rfl ?_
    refine ww_goto 35 dX6_rank_204 (by decide) ?_
    exact ww_weak (ww_le_s (ww_le_s (ww_le_s (ww_le_s (ww_le_n (ww_le_n (ww_le_n (ww_le_n (ww_le_nil _))))))))) h
  · replace h := h.2 c
    refine ww_aload_n 90 dX6_rank_89 rfl 0 rfl rfl ?_
    refine ww_iload_n 91 dX6_rank_90 rfl 2 rfl rfl ?_
    refine ww_iload 93 4 dX6_rank_91 rfl rfl ?_
    obtain ⟨Q1, hT, h⟩ := h
    refine ww_invVV (d' := mX6_swapRows) [.inl x2, .inl x4] rfl 96 dX6_rank_93 ⟨wi_X6, wc_X6_swapRows, wp_X6_swapRows, by decide, by decide⟩ wl_X6_147 wn_X6_swapRows we_X6_swapRows (ww_i1 30 (by decide)) rfl rfl (Nat.le_of_ble_eq_true rfl) rfl hT (fun τ2 hq => ?_)
    replace h := h τ2 hq
    refine ww_iload_n 97 dX6_rank_96 rfl 2 rfl rfl ?_
    refine ww_iconst (v := nI 1) 98 dX6_rank_97 (by decide) rfl ?_
    refine ww_iadd 99 dX6_rank_98 rfl ?_
    refine ww_istore 101 5 dX6_rank_99 rfl (by decide) rfl [some (.inr (.inr (30, 0))), some (.inl x1), some (.inl x2), some (.inl x3), some (.inl x4), some (.inl (x2 + (nI 1))), none, none] rfl ?_
    exact ww_weak (ww_le_s (ww_le_s (ww_le_s (ww_le_s (ww_le_n (ww_le_s (ww_le_n (ww_le_n (ww_le_nil _))))))))) h
theorem b_X6_rank_101 {g : ww_G} {E : ww_E} {τ : ww_M} {x1 : Int32} {x2 : Int32} {x3 : Int32} {x5 : Int32} {Post : Int32 → ww_M → Prop}  (h : ((τ (30, 0) 2 ≤ x5 → ww_W g mX6_rank E (ww_QI Post) 35 [some (.inr (.inr (30, 0))), some (.inl x1), some (.inl (x2 + nI 1)), some (.inl (x3 + nI 1)), none, none, none, none] [] τ) ∧ (¬ (τ (30, 0) 2 ≤ x5) → (∃ j1 : Nat, ((nI 4) * x5) + x3 = nI j1 ∧ j1 < 12 ∧ ww_W g mX6_rank E (ww_QI Post) 126 [some (.inr (.inr (30, 0))), some (.inl x1), some (.inl x2), some (.inl x3), none, some (.inl x5), some (.inl (τ (40, 0) j1)), some (.inl (nI 0))] [] τ)))) : ww_W g mX6_rank E (ww_QI Post) 101 [some (.inr (.inr (30, 0))), some (.inl x1), some (.inl x2), some (.inl x3), none, some (.inl x5), none, none] [] τ := by
  refine ww_iload 103 5 dX6_rank_101 rfl rfl ?_
  refine ww_aload_n 104 dX6_rank_103 rfl 0 rfl rfl ?_
  refine ww_getI 2 107 dX6_rank_104 wf_X6_109 (ww_i1 30 (by decide)) rfl rfl rfl ?_
  refine ww_ic_ge 198 110 dX6_rank_107 (by decide) rfl (fun c => ?_) (fun c => ?_)
  · replace h := h.1 c
    refine ww_iinc (nI 1) 201 2 dX6_rank_198 (by decide) rfl rfl (by decide) rfl [some (.inr (.inr (30, 0))), some (.inl x1), some (.inl (x2 + nI 1)), some (.inl x3), none, some (.inl x5), none, none] rfl ?_
    refine ww_iinc (nI 1) 204 3 dX6_rank_201 (by decide) rfl rfl (by decide) rfl [some (.inr (.inr (30, 0))), some (.inl x1), some (.inl (x2 + nI 1)), some (.inl (x3 + nI 1)), none, some (.inl x5), none, none] rfl ?_
    refine ww_goto 35 dX6_rank_204 (by decide) ?_
    exact ww_weak (ww_le_s (ww_le_s (ww_le_s (ww_le_s (ww_le_n (ww_le_n (ww_le_n (ww_le_n (ww_le_nil _))))))))) h
  · replace h := h.2 c
    refine ww_aload_n 111 dX6_rank_110 rfl 0 rfl rfl ?_
    refine ww_getR 13 114 dX6_rank_111 wf_X6_37 (ww_i1 30 (by decide)) rfl rfl rfl ?_
    refine ww_iconst (v := nI 4) 115 dX6_rank_114 (by decide) rfl ?_
    refine ww_iload 117 5 dX6_rank_115 rfl rfl ?_
    refine ww_imul 118 dX6_rank_117 rfl ?_
    refine ww_iload_n 119 dX6_rank_118 rfl 3 rfl rfl ?_
    refine ww_iadd 120 dX6_rank_119 rfl ?_
    obtain ⟨j1, hij1, hj1, h⟩ := h
    refine ww_iald j1 121 dX6_rank_120 (ww_i1 40 (by decide)) rfl (by decide) hij1 hj1 rfl ?_
    refine ww_istore 123 6 dX6_rank_121 rfl (by decide) rfl [some (.inr (.inr (30, 0))), some (.inl x1), some (.inl x2), some (.inl x3), none, some (.inl x5), some (.inl (τ (40, 0) j1)), none] rfl ?_
    refine ww_iconst (v := nI 0) 124 dX6_rank_123 (by decide) rfl ?_
    refine ww_istore 126 7 dX6_rank_124 rfl (by decide) rfl [some (.inr (.inr (30, 0))), some (.inl x1), some (.inl x2), some (.inl x3), none, some (.inl x5), some (.inl (τ (40, 0) j1)), some (.inl (nI 0))] rfl ?_
    exact h
theorem b_X6_rank_126 {g : ww_G} {E : ww_E} {τ : ww_M} {x1 : Int32} {x2 : Int32} {x3 : Int32} {x5 : Int32} {x6 : Int32} {x7 : Int32} {Post : Int32 → ww_M → Prop}  (h : ((nI 4 ≤ x7 → ww_W g mX6_rank E (ww_QI Post) 101 [some (.inr (.inr (30, 0))), some (.inl x1), some (.inl x2), some (.inl x3), none, some (.inl (x5 + nI 1)), none, none] [] τ) ∧ (¬ (nI 4 ≤ x7) → (∃ j1 : Nat, ((nI 4) * x5) + x7 = nI j1 ∧ j1 < 12 ∧ (∃ j2 : Nat, ((nI 4) * x2) + x3 = nI j2 ∧ j2 < 12 ∧ (∃ j3 : Nat, ((nI 4) * x2) + x7 = nI j3 ∧ j3 < 12 ∧ (¬ x1 = nI 0 ∧ (∃ j5 : Nat, ((nI 4) * x5) + x7 = nI j5 ∧ j5 < 12 ∧ ∀ τ6 : ww_M, τ6 = ww_up τ (40, 0) j5 ((((τ (40, 0) j1) * (τ (40, 0) j2)) + ((x1 - x6) * (τ (40, 0) j3))) - (((τ (40, 0) j1) * (τ (40, 0) j2)) + ((x1 - x6) * (τ (40, 0) j3))) / x1 * x1) → ww_W g mX6_rank E (ww_QI Post) 126 [some (.inr (.inr (30, 0))), some (.inl x1), some (.inl x2), some (.inl x3), none, some (.inl x5), some (.inl x6), some (.inl (x7 + nI 1))] [] τ6)))))))) : ww_W g mX6_rank E (ww_QI Post) 126 [some (.inr (.inr (30, 0))), some (.inl x1), some (.inl x2), some (.inl x3), none, some (.inl x5), some (.inl x6), some (.inl x7)] [] τ := by
  refine ww_iload 128 7 dX6_rank_126 rfl rfl ?_
  refine ww_iconst (v := nI 4) 129 dX6_rank_128 (by decide) rfl ?_
  refine ww_ic_ge 192 132 dX6_rank_129 (by decide) rfl (fun c => ?_) (fun c => ?_)
  · replace h := h.1 c
    refine ww_iinc (nI 1) 195 5 dX6_rank_192 (by decide) rfl rfl (by decide) rfl [some (.inr (.inr (30, 0))), some (.inl x1), some (.inl x2), some (.inl x3), none, some (.inl (x5 + nI 1)), some (.inl x6), some (.inl x7)] rfl ?_
    refine ww_goto 101 dX6_rank_195 (by decide) ?_
    exact ww_weak (ww_le_s (ww_le_s (ww_le_s (ww_le_s (ww_le_n (ww_le_s (ww_le_n (ww_le_n (ww_le_nil _))))))))) h
  · replace h := h.2 c
    refine ww_aload_n 133 dX6_rank_132 rfl 0 rfl rfl ?_
    refine ww_getR 13 136 dX6_rank_133 wf_X6_37 (ww_i1 30 (by decide)) rfl rfl rfl ?_
    refine ww_iconst (v := nI 4) 137 dX6_rank_136 (by decide) rfl ?_
    refine ww_iload 139 5 dX6_rank_137 rfl rfl ?_
    refine ww_imul 140 dX6_rank_139 rfl ?_
    refine ww_iload 142 7 dX6_rank_140 rfl rfl ?_
    refine ww_iadd 143 dX6_rank_142 rfl ?_
    refine ww_aload_n 144 dX6_rank_143 rfl 0 rfl rfl ?_
    refine ww_getR 13 147 dX6_rank_144 wf_X6_37 (ww_i1 30 (by decide)) rfl rfl rfl ?_
    refine ww_iconst (v := nI 4) 148 dX6_rank_147 (by decide) rfl ?_
    refine ww_iload 150 5 dX6_rank_148 rfl rfl ?_
    refine ww_imul 151 dX6_rank_150 rfl ?_
    refine ww_iload 153 7 dX6_rank_151 rfl rfl ?_
    refine ww_iadd 154 dX6_rank_153 rfl ?_
    obtain ⟨j1, hij1, hj1, h⟩ := h
    refine ww_iald j1 155 dX6_rank_154 (ww_i1 40 (by decide)) rfl (by decide) hij1 hj1 rfl ?_
    refine ww_aload_n 156 dX6_rank_155 rfl 0 rfl rfl ?_
    refine ww_getR 13 159 dX6_rank_156 wf_X6_37 (ww_i1 30 (by decide)) rfl rfl rfl ?_
    refine ww_iconst (v := nI 4) 160 dX6_rank_159 (by decide) rfl ?_
    refine ww_iload_n 161 dX6_rank_160 rfl 2 rfl rfl ?_
    refine ww_imul 162 dX6_rank_161 rfl ?_
    refine ww_iload_n 163 dX6_rank_162 rfl 3 rfl rfl ?_
    refine ww_iadd 164 dX6_rank_163 rfl ?_
    obtain ⟨j2, hij2, hj2, h⟩ := h
    refine ww_iald j2 165 dX6_rank_164 (ww_i1 40 (by decide)) rfl (by decide) hij2 hj2 rfl ?_
    refine ww_imul 166 dX6_rank_165 rfl ?_
    refine ww_iload_n 167 dX6_rank_166 rfl 1 rfl rfl ?_
    refine ww_iload 169 6 dX6_rank_167 rfl rfl ?_
    refine ww_isub 170 dX6_rank_169 rfl ?_
    refine ww_aload_n 171 dX6_rank_170 rfl 0 rfl rfl ?_
    refine ww_getR 13 174 dX6_rank_171 wf_X6_37 (ww_i1 30 (by decide)) rfl rfl rfl ?_
    refine ww_iconst (v := nI 4) 175 dX6_rank_174 (by decide) rfl ?_
    refine ww_iload_n 176 dX6_rank_175 rfl 2 rfl rfl ?_
    refine ww_imul 177 dX6_rank_176 rfl ?_
    refine ww_iload 179 7 dX6_rank_177 rfl rfl ?_
    refine ww_iadd 180 dX6_rank_179 rfl ?_
    obtain ⟨j3, hij3, hj3, h⟩ := h
    refine ww_iald j3 181 dX6_rank_180 (ww_i1 40 (by decide)) rfl (by decide) hij3 hj3 rfl ?_
    refine ww_imul 182 dX6_rank_181 rfl ?_
    refine ww_iadd 183 dX6_rank_182 rfl ?_
    refine ww_iload_n 184 dX6_rank_183 rfl 1 rfl rfl ?_
    obtain ⟨hz4, h⟩ := h
    refine ww_irem 185 dX6_rank_184 rfl hz4 ?_
    obtain ⟨j5, hij5, hj5, h⟩ := h
    refine ww_iast j5 186 dX6_rank_185 (ww_i1 40 (by decide)) rfl (by decide) hij5 hj5 rfl (fun τ6 eτ6 => ?_)
    replace h := h τ6 eτ6
    refine ww_iinc (nI 1) 189 7 dX6_rank_186 (by decide) rfl rfl (by decide) rfl [some (.inr (.inr (30, 0))), some (.inl x1), some (.inl x2), some (.inl x3), none, some (.inl x5), some (.inl x6), some (.inl (x7 + nI 1))] rfl ?_
    refine ww_goto 126 dX6_rank_189 (by decide) ?_
    exact h
theorem b_X6_chooser {l : Launch} {g : ww_G} {τ : ww_M} {a1 : Int32} {Post : Int32 → ww_M → Prop}  (h : ∀ E : ww_E, (∃ Q1 : Int32 → ww_M → Prop, ww_T E.2.1 g mX6_in [.inr (.inl (a1.toInt64)), .inr (.inl (lN 0)), .inr (.inl (lN 4))] τ (ww_QI Q1) ∧ ∀ (v2 : Int32) (τ3 : ww_M), Q1 v2 τ3 → (¬ v2 = nI 0 → (∀ τ4 : ww_M, τ4 = ww_up τ3 (30, 0) 10 a1 → Post (τ3 (30, 0) 10) τ4)) ∧ (v2 = nI 0 → (∃ Q5 : Int32 → ww_M → Prop, ww_T E.2.1 g mX6_bad [.inr (.inr (30, 0))] τ3 (ww_QI Q5) ∧ ∀ (v6 : Int32) (τ7 : ww_M), Q5 v6 τ7 → Post v6 τ7)))) : ww_T l g mX6_chooser [.inr (.inr (30, 0)), .inl a1] τ (ww_QI Post) := by
  refine ww_enter (P := [some (.inr (.inr (30, 0))), some (.inl a1), none]) (by decide) (Nat.le_of_ble_eq_true rfl) rfl (fun E => ?_)
  replace h := h E
  refine ww_iload_n 1 dX6_chooser_0 rfl 1 rfl rfl ?_
  refine ww_i2l 2 dX6_chooser_1 rfl ?_
  refine ww_lconst (v := lN 0) 3 dX6_chooser_2 (by decide) rfl ?_
  refine ww_ldc2 6 dX6_chooser_3 rfl wk_X6_151 ?_
  obtain ⟨Q1, hT, h⟩ := h
  refine ww_invSI (d' := mX6_in) [.inr (.inl (a1.toInt64)), .inr (.inl (lN 0)), .inr (.inl (lN 4))] rfl 9 dX6_chooser_6 ⟨wi_X6, wc_X6_in, wp_X6_in, by decide, by decide⟩ (Or.inl wl_X6_66) wn_X6_in (Nat.le_of_ble_eq_true rfl) rfl hT (fun v2 τ3 hq => ?_)
  replace h := h v2 τ3 hq
  refine ww_if_ne 17 12 dX6_chooser_9 (by decide) rfl (fun c => ?_) (fun c => ?_)
  · replace h := h.1 c
    refine ww_aload_n 18 dX6_chooser_17 rfl 0 rfl rfl ?_
    refine ww_getI 10 21 dX6_chooser_18 wf_X6_153 (ww_i1 30 (by decide)) rfl rfl rfl ?_
    refine ww_istore_n 22 dX6_chooser_21 rfl 2 rfl (by decide) rfl [some (.inr (.inr (30, 0))), some (.inl a1), some (.inl (τ3 (30, 0) 10))] rfl ?_
    refine ww_aload_n 23 dX6_chooser_22 rfl 0 rfl rfl ?_
    refine ww_iload_n 24 dX6_chooser_23 rfl 1 rfl rfl ?_
    refine ww_putI 10 27 dX6_chooser_24 wf_X6_153 fp_X6_10 (ww_i1 30 (by decide)) rfl rfl rfl (fun τ4 eτ4 => ?_)
    replace h := h τ4 eτ4
    refine ww_iload_n 28 dX6_chooser_27 rfl 2 rfl rfl ?_
    exact ww_iret dX6_chooser_28 rfl ⟨_, rfl, h⟩
  · replace h := h.2 c
    refine ww_aload_n 13 dX6_chooser_12 rfl 0 rfl rfl ?_
    obtain ⟨Q5, hT, h⟩ := h
    refine ww_invVI (d' := mX6_bad) [] rfl 16 dX6_chooser_13 ⟨wi_X6, wc_X6_bad, wp_X6_bad, by decide, by decide⟩ wl_X6_133 wn_X6_bad we_X6_bad (ww_i1 30 (by decide)) rfl rfl (Nat.le_of_ble_eq_true rfl) rfl hT (fun v6 τ7 hq => ?_)
    replace h := h v6 τ7 hq
    exact ww_iret dX6_chooser_16 rfl ⟨_, rfl, h⟩
theorem b_X6_length {l : Launch} {g : ww_G} {τ : ww_M} {a1 : Int32} {Post : Int32 → ww_M → Prop}  (h : ∀ E : ww_E, (∃ Q1 : Int32 → ww_M → Prop, ww_T E.2.1 g mX6_isWord [.inl a1] τ (ww_QI Q1) ∧ ∀ (v2 : Int32) (τ3 : ww_M), Q1 v2 τ3 → (v2 = nI 0 → (∃ Q4 : Int32 → ww_M → Prop, ww_T E.2.1 g mX6_bad [.inr (.inr (30, 0))] τ3 (ww_QI Q4) ∧ ∀ (v5 : Int32) (τ6 : ww_M), Q4 v5 τ6 → Post v5 τ6)) ∧ (¬ v2 = nI 0 → (∃ j7 : Nat, a1 = nI j7 ∧ j7 < 6 ∧ Post (τ3 (37, 0) j7) τ3)))) : ww_T l g mX6_length [.inr (.inr (30, 0)), .inl a1] τ (ww_QI Post) := by
  refine ww_enter (P := [some (.inr (.inr (30, 0))), some (.inl a1)]) (by decide) (Nat.le_of_ble_eq_true rfl) rfl (fun E => ?_)
  replace h := h E
  refine ww_iload_n 1 dX6_length_0 rfl 1 rfl rfl ?_
  obtain ⟨Q1, hT, h⟩ := h
  refine ww_invSI (d' := mX6_isWord) [.inl a1] rfl 4 dX6_length_1 ⟨wi_X6, wc_X6_isWord, wp_X6_isWord, by decide, by decide⟩ (Or.inl wl_X6_156) wn_X6_isWord (Nat.le_of_ble_eq_true rfl) rfl hT (fun v2 τ3 hq => ?_)
  replace h := h v2 τ3 hq
  refine ww_if_eq 16 7 dX6_length_4 (by decide) rfl (fun c => ?_) (fun c => ?_)
  · replace h := h.1 c
    refine ww_aload_n 17 dX6_length_16 rfl 0 rfl rfl ?_
    obtain ⟨Q4, hT, h⟩ := h
    refine ww_invVI (d' := mX6_bad) [] rfl 20 dX6_length_17 ⟨wi_X6, wc_X6_bad, wp_X6_bad, by decide, by decide⟩ wl_X6_133 wn_X6_bad we_X6_bad (ww_i1 30 (by decide)) rfl rfl (Nat.le_of_ble_eq_true rfl) rfl hT (fun v5 τ6 hq => ?_)
    replace h := h v5 τ6 hq
    exact ww_iret dX6_length_20 rfl ⟨_, rfl, h⟩
  · replace h := h.2 c
    refine ww_aload_n 8 dX6_length_7 rfl 0 rfl rfl ?_
    refine ww_getR 8 11 dX6_length_8 wf_X6_28 (ww_i1 30 (by decide)) rfl rfl rfl ?_
    refine ww_iload_n 12 dX6_length_11 rfl 1 rfl rfl ?_
    obtain ⟨j7, hij7, hj7, h⟩ := h
    refine ww_iald j7 13 dX6_length_12 (ww_i1 37 (by decide)) rfl (by decide) hij7 hj7 rfl ?_
    refine ww_goto 20 dX6_length_13 (by decide) ?_
    exact ww_iret dX6_length_20 rfl ⟨_, rfl, h⟩
theorem b_X6_letter {l : Launch} {g : ww_G} {τ : ww_M} {a1 : Int32} {a2 : Int32} {Post : Int32 → ww_M → Prop}  (h : ∀ E : ww_E, (∃ Q1 : Int32 → ww_M → Prop, ww_T E.2.1 g mX6_isWord [.inl a1] τ (ww_QI Q1) ∧ ∀ (v2 : Int32) (τ3 : ww_M), Q1 v2 τ3 → (v2 = nI 0 → (∃ Q4 : Int32 → ww_M → Prop, ww_T E.2.1 g mX6_bad [.inr (.inr (30, 0))] τ3 (ww_QI Q4) ∧ ∀ (v5 : Int32) (τ6 : ww_M), Q4 v5 τ6 → Post v5 τ6)) ∧ (¬ v2 = nI 0 → ((nI 0 ≤ a2 → (∃ j7 : Nat, a1 = nI j7 ∧ j7 < 6 ∧ (τ3 (37, 0) j7 ≤ a2 → Post (-1 : Int32) τ3) ∧ (¬ (τ3 (37, 0) j7 ≤ a2) → (∃ j8 : Nat, ((nI 60) * a1) + a2 = nI j8 ∧ j8 < 360 ∧ Post (τ3 (36, 0) j8) τ3)))) ∧ (¬ (nI 0 ≤ a2) → (∃ Q9 : Int32 → ww_M → Prop, ww_T E.2.1 g mX6_bad [.inr (.inr (30, 0))] τ3 (ww_QI Q9) ∧ ∀ (v10 : Int32) (τ11 : ww_M), Q9 v10 τ11 → Post v10 τ11)))))) : ww_T l g mX6_letter [.inr (.inr (30, 0)), .inl a1, .inl a2] τ (ww_QI Post) := by
  refine ww_enter (P := [some (.inr (.inr (30, 0))), some (.inl a1), some (.inl a2)]) (by decide) (Nat.le_of_ble_eq_true rfl) rfl (fun E => ?_)
  replace h := h E
  refine ww_iload_n 1 dX6_letter_0 rfl 1 rfl rfl ?_
  obtain ⟨Q1, hT, h⟩ := h
  refine ww_invSI (d' := mX6_isWord) [.inl a1] rfl 4 dX6_letter_1 ⟨wi_X6, wc_X6_isWord, wp_X6_isWord, by decide, by decide⟩ (Or.inl wl_X6_156) wn_X6_isWord (Nat.le_of_ble_eq_true rfl) rfl hT (fun v2 τ3 hq => ?_)
  replace h := h v2 τ3 hq
  refine ww_if_eq 11 7 dX6_letter_4 (by decide) rfl (fun c => ?_) (fun c => ?_)
  · replace h := h.1 c
    refine ww_aload_n 12 dX6_letter_11 rfl 0 rfl rfl ?_
    obtain ⟨Q4, hT, h⟩ := h
    refine ww_invVI (d' := mX6_bad) [] rfl 15 dX6_letter_12 ⟨wi_X6, wc_X6_bad, wp_X6_bad, by decide, by decide⟩ wl_X6_133 wn_X6_bad we_X6_bad (ww_i1 30 (by decide)) rfl rfl (Nat.le_of_ble_eq_true rfl) rfl hT (fun v5 τ6 hq => ?_)
    replace h := h v5 τ6 hq
    exact ww_iret dX6_letter_15 rfl ⟨_, rfl, h⟩
  · replace h := h.2 c
    refine ww_iload_n 8 dX6_letter_7 rfl 2 rfl rfl ?_
    refine ww_if_ge 16 11 dX6_letter_8 (by decide) rfl (fun c => ?_) (fun c => ?_)
    · replace h := h.1 c
      refine ww_iload_n 17 dX6_letter_16 rfl 2 rfl rfl ?_
      refine ww_aload_n 18 dX6_letter_17 rfl 0 rfl rfl ?_
      refine ww_getR 8 21 dX6_letter_18 wf_X6_28 (ww_i1 30 (by decide)) rfl rfl rfl ?_
      refine ww_iload_n 22 dX6_letter_21 rfl 1 rfl rfl ?_
      obtain ⟨j7, hij7, hj7, h⟩ := h
      refine ww_iald j7 23 dX6_letter_22 (ww_i1 37 (by decide)) rfl (by decide) hij7 hj7 rfl ?_
      refine ww_ic_ge 40 26 dX6_letter_23 (by decide) rfl (fun c => ?_) (fun c => ?_)
      · replace h := h.1 c
        refine ww_iconst (v := (-1 : Int32)) 41 dX6_letter_40 (by decide) rfl ?_
        exact ww_iret dX6_letter_41 rfl ⟨_, rfl, h⟩
      · replace h := h.2 c
        refine ww_aload_n 27 dX6_letter_26 rfl 0 rfl rfl ?_
        refine ww_getR 7 30 dX6_letter_27 wf_X6_25 (ww_i1 30 (by decide)) rfl rfl rfl ?_
        refine ww_bipush (v := nI 60) 32 dX6_letter_30 (by decide) rfl ?_
        refine ww_iload_n 33 dX6_letter_32 rfl 1 rfl rfl ?_
        refine ww_imul 34 dX6_letter_33 rfl ?_
        refine ww_iload_n 35 dX6_letter_34 rfl 2 rfl rfl ?_
        refine ww_iadd 36 dX6_letter_35 rfl ?_
        obtain ⟨j8, hij8, hj8, h⟩ := h
        refine ww_iald j8 37 dX6_letter_36 (ww_i1 36 (by decide)) rfl (by decide) hij8 hj8 rfl ?_
        refine ww_goto 41 dX6_letter_37 (by decide) ?_
        exact ww_iret dX6_letter_41 rfl ⟨_, rfl, h⟩
    · replace h := h.2 c
      refine ww_aload_n 12 dX6_letter_11 rfl 0 rfl rfl ?_
      obtain ⟨Q9, hT, h⟩ := h
      refine ww_invVI (d' := mX6_bad) [] rfl 15 dX6_letter_12 ⟨wi_X6, wc_X6_bad, wp_X6_bad, by decide, by decide⟩ wl_X6_133 wn_X6_bad we_X6_bad (ww_i1 30 (by decide)) rfl rfl (Nat.le_of_ble_eq_true rfl) rfl hT (fun v10 τ11 hq => ?_)
      replace h := h v10 τ11 hq
      exact ww_iret dX6_letter_15 rfl ⟨_, rfl, h⟩
theorem b_X6_adds {l : Launch} {g : ww_G} {τ : ww_M} {a1 : Int32} {a2 : Int32} {Post : Int32 → ww_M → Prop}  (h : ∀ E : ww_E, (∃ Q1 : Int32 → ww_M → Prop, ww_T E.2.1 g mX6_isWord [.inl a1] τ (ww_QI Q1) ∧ ∀ (v2 : Int32) (τ3 : ww_M), Q1 v2 τ3 → (v2 = nI 0 → (∃ Q4 : Int32 → ww_M → Prop, ww_T E.2.1 g mX6_bad [.inr (.inr (30, 0))] τ3 (ww_QI Q4) ∧ ∀ (v5 : Int32) (τ6 : ww_M), Q4 v5 τ6 → Post v5 τ6)) ∧ (¬ v2 = nI 0 → (∃ Q7 : Int32 → ww_M → Prop, ww_T E.2.1 g mX6_isLetter [.inl a2] τ3 (ww_QI Q7) ∧ ∀ (v8 : Int32) (τ9 : ww_M), Q7 v8 τ9 → (¬ v8 = nI 0 → (∃ Q10 : ww_M → Prop, ww_T E.2.1 g mX6_handWord [.inr (.inr (30, 0)), .inl a1] τ9 (ww_QV Q10) ∧ ∀ (τ11 : ww_M), Q10 τ11 → (∃ Q12 : ww_M → Prop, ww_T E.2.1 g mX6_push [.inr (.inr (30, 0)), .inl a2] τ11 (ww_QV Q12) ∧ ∀ (τ13 : ww_M), Q12 τ13 → (∃ Q14 : Int32 → ww_M → Prop, ww_T E.2.1 g mX6_layIfFits [.inr (.inr (30, 0)), .inl a1] τ13 (ww_QI Q14) ∧ ∀ (v15 : Int32) (τ16 : ww_M), Q14 v15 τ16 → Post v15 τ16)))) ∧ (v8 = nI 0 → (∃ Q17 : Int32 → ww_M → Prop, ww_T E.2.1 g mX6_bad [.inr (.inr (30, 0))] τ9 (ww_QI Q17) ∧ ∀ (v18 : Int32) (τ19 : ww_M), Q17 v18 τ19 → Post v18 τ19)))))) : ww_T l g mX6_adds [.inr (.inr (30, 0)), .inl a1, .inl a2] τ (ww_QI Post) := by
  refine ww_enter (P := [some (.inr (.inr (30, 0))), some (.inl a1), some (.inl a2)]) (by decide) (Nat.le_of_ble_eq_true rfl) rfl (fun E => ?_)
  replace h := h E
  refine ww_iload_n 1 dX6_adds_0 rfl 1 rfl rfl ?_
  obtain ⟨Q1, hT, h⟩ := h
  refine ww_invSI (d' := mX6_isWord) [.inl a1] rfl 4 dX6_adds_1 ⟨wi_X6, wc_X6_isWord, wp_X6_isWord, by decide, by decide⟩ (Or.inl wl_X6_156) wn_X6_isWord (Nat.le_of_ble_eq_true rfl) rfl hT (fun v2 τ3 hq => ?_)
  replace h := h v2 τ3 hq
  refine ww_if_eq 14 7 dX6_adds_4 (by decide) rfl (fun c => ?_) (fun c => ?_)
  · replace h := h.1 c
    refine ww_aload_n 15 dX6_adds_14 rfl 0 rfl rfl ?_
    obtain ⟨Q4, hT, h⟩ := h
    refine ww_invVI (d' := mX6_bad) [] rfl 18 dX6_adds_15 ⟨wi_X6, wc_X6_bad, wp_X6_bad, by decide, by decide⟩ wl_X6_133 wn_X6_bad we_X6_bad (ww_i1 30 (by decide)) rfl rfl (Nat.le_of_ble_eq_true rfl) rfl hT (fun v5 τ6 hq => ?_)
    replace h := h v5 τ6 hq
    exact ww_iret dX6_adds_18 rfl ⟨_, rfl, h⟩
  · replace h := h.2 c
    refine ww_iload_n 8 dX6_adds_7 rfl 2 rfl rfl ?_
    obtain ⟨Q7, hT, h⟩ := h
    refine ww_invSI (d' := mX6_isLetter) [.inl a2] rfl 11 dX6_adds_8 ⟨wi_X6, wc_X6_isLetter, wp_X6_isLetter, by decide, by decide⟩ (Or.inl wl_X6_159) wn_X6_isLetter (Nat.le_of_ble_eq_true rfl) rfl hT (fun v8 τ9 hq => ?_)
    replace h := h v8 τ9 hq
    refine ww_if_ne 19 14 dX6_adds_11 (by decide) rfl (fun c => ?_) (fun c => ?_)
    · replace h := h.1 c
      refine ww_aload_n 20 dX6_adds_19 rfl 0 rfl rfl ?_
      refine ww_iload_n 21 dX6_adds_20 rfl 1 rfl rfl ?_
      obtain ⟨Q10, hT, h⟩ := h
      refine ww_invVV (d' := mX6_handWord) [.inl a1] rfl 24 dX6_adds_21 ⟨wi_X6, wc_X6_handWord, wp_X6_handWord, by decide, by decide⟩ wl_X6_162 wn_X6_handWord we_X6_handWord (ww_i1 30 (by decide)) rfl rfl (Nat.le_of_ble_eq_true rfl) rfl hT (fun τ11 hq => ?_)
      replace h := h τ11 hq
      refine ww_aload_n 25 dX6_adds_24 rfl 0 rfl rfl ?_
      refine ww_iload_n 26 dX6_adds_25 rfl 2 rfl rfl ?_
      obtain ⟨Q12, hT, h⟩ := h
      refine ww_invVV (d' := mX6_push) [.inl a2] rfl 29 dX6_adds_26 ⟨wi_X6, wc_X6_push, wp_X6_push, by decide, by decide⟩ wl_X6_80 wn_X6_push we_X6_push (ww_i1 30 (by decide)) rfl rfl (Nat.le_of_ble_eq_true rfl) rfl hT (fun τ13 hq => ?_)
      replace h := h τ13 hq
      refine ww_aload_n 30 dX6_adds_29 rfl 0 rfl rfl ?_
      refine ww_iload_n 31 dX6_adds_30 rfl 1 rfl rfl ?_
      obtain ⟨Q14, hT, h⟩ := h
      refine ww_invVI (d' := mX6_layIfFits) [.inl a1] rfl 34 dX6_adds_31 ⟨wi_X6, wc_X6_layIfFits, wp_X6_layIfFits, by decide, by decide⟩ wl_X6_165 wn_X6_layIfFits we_X6_layIfFits (ww_i1 30 (by decide)) rfl rfl (Nat.le_of_ble_eq_true rfl) rfl hT (fun v15 τ16 hq => ?_)
      replace h := h v15 τ16 hq
      exact ww_iret dX6_adds_34 rfl ⟨_, rfl, h⟩
    · replace h := h.2 c
      refine ww_aload_n 15 dX6_adds_14 rfl 0 rfl rfl ?_
      obtain ⟨Q17, hT, h⟩ := h
      refine ww_invVI (d' := mX6_bad) [] rfl 18 dX6_adds_15 ⟨wi_X6, wc_X6_bad, wp_X6_bad, by decide, by decide⟩ wl_X6_133 wn_X6_bad we_X6_bad (ww_i1 30 (by decide)) rfl rfl (Nat.le_of_ble_eq_true rfl) rfl hT (fun v18 τ19 hq => ?_)
      replace h := h v18 τ19 hq
      exact ww_iret dX6_adds_18 rfl ⟨_, rfl, h⟩
theorem b_X6_times {l : Launch} {g : ww_G} {τ : ww_M} {a1 : Int32} {a2 : Int32} {a3 : Int32} {Post : Int32 → ww_M → Prop}  (h : ∀ E : ww_E, (∃ Q1 : Int32 → ww_M → Prop, ww_T E.2.1 g mX6_isWord [.inl a1] τ (ww_QI Q1) ∧ ∀ (v2 : Int32) (τ3 : ww_M), Q1 v2 τ3 → (v2 = nI 0 → (∃ Q4 : Int32 → ww_M → Prop, ww_T E.2.1 g mX6_bad [.inr (.inr (30, 0))] τ3 (ww_QI Q4) ∧ ∀ (v5 : Int32) (τ6 : ww_M), Q4 v5 τ6 → Post v5 τ6)) ∧ (¬ v2 = nI 0 → (∃ Q7 : Int32 → ww_M → Prop, ww_T E.2.1 g mX6_isWord [.inl a2] τ3 (ww_QI Q7) ∧ ∀ (v8 : Int32) (τ9 : ww_M), Q7 v8 τ9 → (v8 = nI 0 → (∃ Q10 : Int32 → ww_M → Prop, ww_T E.2.1 g mX6_bad [.inr (.inr (30, 0))] τ9 (ww_QI Q10) ∧ ∀ (v11 : Int32) (τ12 : ww_M), Q10 v11 τ12 → Post v11 τ12)) ∧ (¬ v8 = nI 0 → (∃ Q13 : Int32 → ww_M → Prop, ww_T E.2.1 g mX6_isWord [.inl a3] τ9 (ww_QI Q13) ∧ ∀ (v14 : Int32) (τ15 : ww_M), Q13 v14 τ15 → (¬ v14 = nI 0 → (∃ Q16 : ww_M → Prop, ww_T E.2.1 g mX6_handWord [.inr (.inr (30, 0)), .inl a1] τ15 (ww_QV Q16) ∧ ∀ (τ17 : ww_M), Q16 τ17 → (∃ Q18 : ww_M → Prop, ww_T E.2.1 g mX6_pushWord [.inr (.inr (30, 0)), .inl a2] τ17 (ww_QV Q18) ∧ ∀ (τ19 : ww_M), Q18 τ19 → (∃ Q20 : Int32 → ww_M → Prop, ww_T E.2.1 g mX6_layIfFits [.inr (.inr (30, 0)), .inl a3] τ19 (ww_QI Q20) ∧ ∀ (v21 : Int32) (τ22 : ww_M), Q20 v21 τ22 → Post v21 τ22)))) ∧ (v14 = nI 0 → (∃ Q23 : Int32 → ww_M → Prop, ww_T E.2.1 g mX6_bad [.inr (.inr (30, 0))] τ15 (ww_QI Q23) ∧ ∀ (v24 : Int32) (τ25 : ww_M), Q23 v24 τ25 → Post v24 τ25)))))))) : ww_T l g mX6_times [.inr (.inr (30, 0)), .inl a1, .inl a2, .inl a3] τ (ww_QI Post) := by
  refine ww_enter (P := [some (.inr (.inr (30, 0))), some (.inl a1), some (.inl a2), some (.inl a3)]) (by decide) (Nat.le_of_ble_eq_true rfl) rfl (fun E => ?_)
  replace h := h E
  refine ww_iload_n 1 dX6_times_0 rfl 1 rfl rfl ?_
  obtain ⟨Q1, hT, h⟩ := h
  refine ww_invSI (d' := mX6_isWord) [.inl a1] rfl 4 dX6_times_1 ⟨wi_X6, wc_X6_isWord, wp_X6_isWord, by decide, by decide⟩ (Or.inl wl_X6_156) wn_X6_isWord (Nat.le_of_ble_eq_true rfl) rfl hT (fun v2 τ3 hq => ?_)
  replace h := h v2 τ3 hq
  refine ww_if_eq 21 7 dX6_times_4 (by decide) rfl (fun c => ?_) (fun c => ?_)
  · replace h := h.1 c
    refine ww_aload_n 22 dX6_times_21 rfl 0 rfl rfl ?_
    obtain ⟨Q4, hT, h⟩ := h
    refine ww_invVI (d' := mX6_bad) [] rfl 25 dX6_times_22 ⟨wi_X6, wc_X6_bad, wp_X6_bad, by decide, by decide⟩ wl_X6_133 wn_X6_bad we_X6_bad (ww_i1 30 (by decide)) rfl rfl (Nat.le_of_ble_eq_true rfl) rfl hT (fun v5 τ6 hq => ?_)
    replace h := h v5 τ6 hq
    exact ww_iret dX6_times_25 rfl ⟨_, rfl, h⟩
  · replace h := h.2 c
    refine ww_iload_n 8 dX6_times_7 rfl 2 rfl rfl ?_
    obtain ⟨Q7, hT, h⟩ := h
    refine ww_invSI (d' := mX6_isWord) [.inl a2] rfl 11 dX6_times_8 ⟨wi_X6, wc_X6_isWord, wp_X6_isWord, by decide, by decide⟩ (Or.inl wl_X6_156) wn_X6_isWord (Nat.le_of_ble_eq_true rfl) rfl hT (fun v8 τ9 hq => ?_)
    replace h := h v8 τ9 hq
    refine ww_if_eq 21 14 dX6_times_11 (by decide) rfl (fun c => ?_) (fun c => ?_)
    · replace h := h.1 c
      refine ww_aload_n 22 dX6_times_21 rfl 0 rfl rfl ?_
      obtain ⟨Q10, hT, h⟩ := h
      refine ww_invVI (d' := mX6_bad) [] rfl 25 dX6_times_22 ⟨wi_X6, wc_X6_bad, wp_X6_bad, by decide, by decide⟩ wl_X6_133 wn_X6_bad we_X6_bad (ww_i1 30 (by decide)) rfl rfl (Nat.le_of_ble_eq_true rfl) rfl hT (fun v11 τ12 hq => ?_)
      replace h := h v11 τ12 hq
      exact ww_iret dX6_times_25 rfl ⟨_, rfl, h⟩
    · replace h := h.2 c
      refine ww_iload_n 15 dX6_times_14 rfl 3 rfl rfl ?_
      obtain ⟨Q13, hT, h⟩ := h
      refine ww_invSI (d' := mX6_isWord) [.inl a3] rfl 18 dX6_times_15 ⟨wi_X6, wc_X6_isWord, wp_X6_isWord, by decide, by decide⟩ (Or.inl wl_X6_156) wn_X6_isWord (Nat.le_of_ble_eq_true rfl) rfl hT (fun v14 τ15 hq => ?_)
      replace h := h v14 τ15 hq
      refine ww_if_ne 26 21 dX6_times_18 (by decide) rfl (fun c => ?_) (fun c => ?_)
      · replace h := h.1 c
        refine ww_aload_n 27 dX6_times_26 rfl 0 rfl rfl ?_
        refine ww_iload_n 28 dX6_times_27 rfl 1 rfl rfl ?_
        obtain ⟨Q16, hT, h⟩ := h
        refine ww_invVV (d' := mX6_handWord) [.inl a1] rfl 31 dX6_times_28 ⟨wi_X6, wc_X6_handWord, wp_X6_handWord, by decide, by decide⟩ wl_X6_162 wn_X6_handWord we_X6_handWord (ww_i1 30 (by decide)) rfl rfl (Nat.le_of_ble_eq_true rfl) rfl hT (fun τ17 hq => ?_)
        replace h := h τ17 hq
        refine ww_aload_n 32 dX6_times_31 rfl 0 rfl rfl ?_
        refine ww_iload_n 33 dX6_times_32 rfl 2 rfl rfl ?_
        obtain ⟨Q18, hT, h⟩ := h
        refine ww_invVV (d' := mX6_pushWord) [.inl a2] rfl 36 dX6_times_33 ⟨wi_X6, wc_X6_pushWord, wp_X6_pushWord, by decide, by decide⟩ wl_X6_84 wn_X6_pushWord we_X6_pushWord (ww_i1 30 (by decide)) rfl rfl (Nat.le_of_ble_eq_true rfl) rfl hT (fun τ19 hq => ?_)
        replace h := h τ19 hq
        refine ww_aload_n 37 dX6_times_36 rfl 0 rfl rfl ?_
        refine ww_iload_n 38 dX6_times_37 rfl 3 rfl rfl ?_
        obtain ⟨Q20, hT, h⟩ := h
        refine ww_invVI (d' := mX6_layIfFits) [.inl a3] rfl 41 dX6_times_38 ⟨wi_X6, wc_X6_layIfFits, wp_X6_layIfFits, by decide, by decide⟩ wl_X6_165 wn_X6_layIfFits we_X6_layIfFits (ww_i1 30 (by decide)) rfl rfl (Nat.le_of_ble_eq_true rfl) rfl hT (fun v21 τ22 hq => ?_)
        replace h := h v21 τ22 hq
        exact ww_iret dX6_times_41 rfl ⟨_, rfl, h⟩
      · replace h := h.2 c
        refine ww_aload_n 22 dX6_times_21 rfl 0 rfl rfl ?_
        obtain ⟨Q23, hT, h⟩ := h
        refine ww_invVI (d' := mX6_bad) [] rfl 25 dX6_times_22 ⟨wi_X6, wc_X6_bad, wp_X6_bad, by decide, by decide⟩ wl_X6_133 wn_X6_bad we_X6_bad (ww_i1 30 (by decide)) rfl rfl (Nat.le_of_ble_eq_true rfl) rfl hT (fun v24 τ25 hq => ?_)
        replace h := h v24 τ25 hq
        exact ww_iret dX6_times_25 rfl ⟨_, rfl, h⟩
theorem b_X6_inverse {l : Launch} {g : ww_G} {τ : ww_M} {a1 : Int32} {a2 : Int32} {Post : Int32 → ww_M → Prop}  (h : ∀ E : ww_E, (∃ Q1 : Int32 → ww_M → Prop, ww_T E.2.1 g mX6_isWord [.inl a1] τ (ww_QI Q1) ∧ ∀ (v2 : Int32) (τ3 : ww_M), Q1 v2 τ3 → (v2 = nI 0 → (∃ Q4 : Int32 → ww_M → Prop, ww_T E.2.1 g mX6_bad [.inr (.inr (30, 0))] τ3 (ww_QI Q4) ∧ ∀ (v5 : Int32) (τ6 : ww_M), Q4 v5 τ6 → Post v5 τ6)) ∧ (¬ v2 = nI 0 → (∃ Q7 : Int32 → ww_M → Prop, ww_T E.2.1 g mX6_isWord [.inl a2] τ3 (ww_QI Q7) ∧ ∀ (v8 : Int32) (τ9 : ww_M), Q7 v8 τ9 → (¬ v8 = nI 0 → (∀ τ10 : ww_M, τ10 = ww_up τ9 (30, 0) 12 (nI 0) → (∃ Q11 : ww_M → Prop, ww_T E.2.1 g mX6_pushInverse [.inr (.inr (30, 0)), .inl a1] τ10 (ww_QV Q11) ∧ ∀ (τ12 : ww_M), Q11 τ12 → (∃ Q13 : Int32 → ww_M → Prop, ww_T E.2.1 g mX6_layWord [.inr (.inr (30, 0)), .inl a2] τ12 (ww_QI Q13) ∧ ∀ (v14 : Int32) (τ15 : ww_M), Q13 v14 τ15 → Post v14 τ15)))) ∧ (v8 = nI 0 → (∃ Q16 : Int32 → ww_M → Prop, ww_T E.2.1 g mX6_bad [.inr (.inr (30, 0))] τ9 (ww_QI Q16) ∧ ∀ (v17 : Int32) (τ18 : ww_M), Q16 v17 τ18 → Post v17 τ18)))))) : ww_T l g mX6_inverse [.inr (.inr (30, 0)), .inl a1, .inl a2] τ (ww_QI Post) := by
  refine ww_enter (P := [some (.inr (.inr (30, 0))), some (.inl a1), some (.inl a2)]) (by decide) (Nat.le_of_ble_eq_true rfl) rfl (fun E => ?_)
  replace h := h E
  refine ww_iload_n 1 dX6_inverse_0 rfl 1 rfl rfl ?_
  obtain ⟨Q1, hT, h⟩ := h
  refine ww_invSI (d' := mX6_isWord) [.inl a1] rfl 4 dX6_inverse_1 ⟨wi_X6, wc_X6_isWord, wp_X6_isWord, by decide, by decide⟩ (Or.inl wl_X6_156) wn_X6_isWord (Nat.le_of_ble_eq_true rfl) rfl hT (fun v2 τ3 hq => ?_)
  replace h := h v2 τ3 hq
  refine ww_if_eq 14 7 dX6_inverse_4 (by decide) rfl (fun c => ?_) (fun c => ?_)
  · replace h := h.1 c
    refine ww_aload_n 15 dX6_inverse_14 rfl 0 rfl rfl ?_
    obtain ⟨Q4, hT, h⟩ := h
    refine ww_invVI (d' := mX6_bad) [] rfl 18 dX6_inverse_15 ⟨wi_X6, wc_X6_bad, wp_X6_bad, by decide, by decide⟩ wl_X6_133 wn_X6_bad we_X6_bad (ww_i1 30 (by decide)) rfl rfl (Nat.le_of_ble_eq_true rfl) rfl hT (fun v5 τ6 hq => ?_)
    replace h := h v5 τ6 hq
    exact ww_iret dX6_inverse_18 rfl ⟨_, rfl, h⟩
  · replace h := h.2 c
    refine ww_iload_n 8 dX6_inverse_7 rfl 2 rfl rfl ?_
    obtain ⟨Q7, hT, h⟩ := h
    refine ww_invSI (d' := mX6_isWord) [.inl a2] rfl 11 dX6_inverse_8 ⟨wi_X6, wc_X6_isWord, wp_X6_isWord, by decide, by decide⟩ (Or.inl wl_X6_156) wn_X6_isWord (Nat.le_of_ble_eq_true rfl) rfl hT (fun v8 τ9 hq => ?_)
    replace h := h v8 τ9 hq
    refine ww_if_ne 19 14 dX6_inverse_11 (by decide) rfl (fun c => ?_) (fun c => ?_)
    · replace h := h.1 c
      refine ww_aload_n 20 dX6_inverse_19 rfl 0 rfl rfl ?_
      refine ww_iconst (v := nI 0) 21 dX6_inverse_20 (by decide) rfl ?_
      refine ww_putI 12 24 dX6_inverse_21 wf_X6_72 fp_X6_12 (ww_i1 30 (by decide)) rfl rfl rfl (fun τ10 eτ10 => ?_)
      replace h := h τ10 eτ10
      refine ww_aload_n 25 dX6_inverse_24 rfl 0 rfl rfl ?_
      refine ww_iload_n 26 dX6_inverse_25 rfl 1 rfl rfl ?_
      obtain ⟨Q11, hT, h⟩ := h
      refine ww_invVV (d' := mX6_pushInverse) [.inl a1] rfl 29 dX6_inverse_26 ⟨wi_X6, wc_X6_pushInverse, wp_X6_pushInverse, by decide, by decide⟩ wl_X6_168 wn_X6_pushInverse we_X6_pushInverse (ww_i1 30 (by decide)) rfl rfl (Nat.le_of_ble_eq_true rfl) rfl hT (fun τ12 hq => ?_)
      replace h := h τ12 hq
      refine ww_aload_n 30 dX6_inverse_29 rfl 0 rfl rfl ?_
      refine ww_iload_n 31 dX6_inverse_30 rfl 2 rfl rfl ?_
      obtain ⟨Q13, hT, h⟩ := h
      refine ww_invVI (d' := mX6_layWord) [.inl a2] rfl 34 dX6_inverse_31 ⟨wi_X6, wc_X6_layWord, wp_X6_layWord, by decide, by decide⟩ wl_X6_91 wn_X6_layWord we_X6_layWord (ww_i1 30 (by decide)) rfl rfl (Nat.le_of_ble_eq_true rfl) rfl hT (fun v14 τ15 hq => ?_)
      replace h := h v14 τ15 hq
      exact ww_iret dX6_inverse_34 rfl ⟨_, rfl, h⟩
    · replace h := h.2 c
      refine ww_aload_n 15 dX6_inverse_14 rfl 0 rfl rfl ?_
      obtain ⟨Q16, hT, h⟩ := h
      refine ww_invVI (d' := mX6_bad) [] rfl 18 dX6_inverse_15 ⟨wi_X6, wc_X6_bad, wp_X6_bad, by decide, by decide⟩ wl_X6_133 wn_X6_bad we_X6_bad (ww_i1 30 (by decide)) rfl rfl (Nat.le_of_ble_eq_true rfl) rfl hT (fun v17 τ18 hq => ?_)
      replace h := h v17 τ18 hq
      exact ww_iret dX6_inverse_18 rfl ⟨_, rfl, h⟩
theorem b_X6_power {l : Launch} {g : ww_G} {τ : ww_M} {a1 : Int32} {a2 : Int32} {a3 : Int32} {Post : Int32 → ww_M → Prop}  (h : ∀ E : ww_E, (∃ Q1 : Int32 → ww_M → Prop, ww_T E.2.1 g mX6_isWord [.inl a1] τ (ww_QI Q1) ∧ ∀ (v2 : Int32) (τ3 : ww_M), Q1 v2 τ3 → (v2 = nI 0 → (∃ Q4 : Int32 → ww_M → Prop, ww_T E.2.1 g mX6_bad [.inr (.inr (30, 0))] τ3 (ww_QI Q4) ∧ ∀ (v5 : Int32) (τ6 : ww_M), Q4 v5 τ6 → Post v5 τ6)) ∧ (¬ v2 = nI 0 → (∃ Q7 : Int32 → ww_M → Prop, ww_T E.2.1 g mX6_in [.inr (.inl (a2.toInt64)), .inr (.inl ((-9 : Int64))), .inr (.inl (lN 9))] τ3 (ww_QI Q7) ∧ ∀ (v8 : Int32) (τ9 : ww_M), Q7 v8 τ9 → (v8 = nI 0 → (∃ Q10 : Int32 → ww_M → Prop, ww_T E.2.1 g mX6_bad [.inr (.inr (30, 0))] τ9 (ww_QI Q10) ∧ ∀ (v11 : Int32) (τ12 : ww_M), Q10 v11 τ12 → Post v11 τ12)) ∧ (¬ v8 = nI 0 → (∃ Q13 : Int32 → ww_M → Prop, ww_T E.2.1 g mX6_isWord [.inl a3] τ9 (ww_QI Q13) ∧ ∀ (v14 : Int32) (τ15 : ww_M), Q13 v14 τ15 → (¬ v14 = nI 0 → (∀ τ16 : ww_M, τ16 = ww_up τ15 (30, 0) 12 (nI 0) → ww_W g mX6_power E (ww_QI Post) 41 [some (.inr (.inr (30, 0))), some (.inl a1), some (.inl a2), some (.inl a3), some (.inl (nI 0))] [] τ16)) ∧ (v14 = nI 0 → (∃ Q17 : Int32 → ww_M → Prop, ww_T E.2.1 g mX6_bad [.inr (.inr (30, 0))] τ15 (ww_QI Q17) ∧ ∀ (v18 : Int32) (τ19 : ww_M), Q17 v18 τ19 → Post v18 τ19)))))))) : ww_T l g mX6_power [.inr (.inr (30, 0)), .inl a1, .inl a2, .inl a3] τ (ww_QI Post) := by
  refine ww_enter (P := [some (.inr (.inr (30, 0))), some (.inl a1), some (.inl a2), some (.inl a3), none]) (by decide) (Nat.le_of_ble_eq_true rfl) rfl (fun E => ?_)
  replace h := h E
  refine ww_iload_n 1 dX6_power_0 rfl 1 rfl rfl ?_
  obtain ⟨Q1, hT, h⟩ := h
  refine ww_invSI (d' := mX6_isWord) [.inl a1] rfl 4 dX6_power_1 ⟨wi_X6, wc_X6_isWord, wp_X6_isWord, by decide, by decide⟩ (Or.inl wl_X6_156) wn_X6_isWord (Nat.le_of_ble_eq_true rfl) rfl hT (fun v2 τ3 hq => ?_)
  replace h := h v2 τ3 hq
  refine ww_if_eq 28 7 dX6_power_4 (by decide) rfl (fun c => ?_) (fun c => ?_)
  · replace h := h.1 c
    refine ww_aload_n 29 dX6_power_28 rfl 0 rfl rfl ?_
    obtain ⟨Q4, hT, h⟩ := h
    refine ww_invVI (d' := mX6_bad) [] rfl 32 dX6_power_29 ⟨wi_X6, wc_X6_bad, wp_X6_bad, by decide, by decide⟩ wl_X6_133 wn_X6_bad we_X6_bad (ww_i1 30 (by decide)) rfl rfl (Nat.le_of_ble_eq_true rfl) rfl hT (fun v5 τ6 hq => ?_)
    replace h := h v5 τ6 hq
    exact ww_iret dX6_power_32 rfl ⟨_, rfl, h⟩
  · replace h := h.2 c
    refine ww_iload_n 8 dX6_power_7 rfl 2 rfl rfl ?_
    refine ww_i2l 9 dX6_power_8 rfl ?_
    refine ww_ldc2 12 dX6_power_9 rfl wk_X6_171 ?_
    refine ww_ldc2 15 dX6_power_12 rfl wk_X6_139 ?_
    obtain ⟨Q7, hT, h⟩ := h
    refine ww_invSI (d' := mX6_in) [.inr (.inl (a2.toInt64)), .inr (.inl ((-9 : Int64))), .inr (.inl (lN 9))] rfl 18 dX6_power_15 ⟨wi_X6, wc_X6_in, wp_X6_in, by decide, by decide⟩ (Or.inl wl_X6_66) wn_X6_in (Nat.le_of_ble_eq_true rfl) rfl hT (fun v8 τ9 hq => ?_)
    replace h := h v8 τ9 hq
    refine ww_if_eq 28 21 dX6_power_18 (by decide) rfl (fun c => ?_) (fun c => ?_)
    · replace h := h.1 c
      refine ww_aload_n 29 dX6_power_28 rfl 0 rfl rfl ?_
      obtain ⟨Q10, hT, h⟩ := h
      refine ww_invVI (d' := mX6_bad) [] rfl 32 dX6_power_29 ⟨wi_X6, wc_X6_bad, wp_X6_bad, by decide, by decide⟩ wl_X6_133 wn_X6_bad we_X6_bad (ww_i1 30 (by decide)) rfl rfl (Nat.le_of_ble_eq_true rfl) rfl hT (fun v11 τ12 hq => ?_)
      replace h := h v11 τ12 hq
      exact ww_iret dX6_power_32 rfl ⟨_, rfl, h⟩
    · replace h := h.2 c
      refine ww_iload_n 22 dX6_power_21 rfl 3 rfl rfl ?_
      obtain ⟨Q13, hT, h⟩ := h
      refine ww_invSI (d' := mX6_isWord) [.inl a3] rfl 25 dX6_power_22 ⟨wi_X6, wc_X6_isWord, wp_X6_isWord, by decide, by decide⟩ (Or.inl wl_X6_156) wn_X6_isWord (Nat.le_of_ble_eq_true rfl) rfl hT (fun v14 τ15 hq => ?_)
      replace h := h v14 τ15 hq
      refine ww_if_ne 33 28 dX6_power_25 (by decide) rfl (fun c => ?_) (fun c => ?_)
      · replace h := h.1 c
        refine ww_aload_n 34 dX6_power_33 rfl 0 rfl rfl ?_
        refine ww_iconst (v := nI 0) 35 dX6_power_34 (by decide) rfl ?_
        refine ww_putI 12 38 dX6_power_35 wf_X6_72 fp_X6_12 (ww_i1 30 (by decide)) rfl rfl rfl (fun τ16 eτ16 => ?_)
        replace h := h τ16 eτ16
        refine ww_iconst (v := nI 0) 39 dX6_power_38 (by decide) rfl ?_
        refine ww_istore 41 4 dX6_power_39 rfl (by decide) rfl [some (.inr (.inr (30, 0))), some (.inl a1), some (.inl a2), some (.inl a3), some (.inl (nI 0))] rfl ?_
        exact h
      · replace h := h.2 c
        refine ww_aload_n 29 dX6_power_28 rfl 0 rfl rfl ?_
        obtain ⟨Q17, hT, h⟩ := h
        refine ww_invVI (d' := mX6_bad) [] rfl 32 dX6_power_29 ⟨wi_X6, wc_X6_bad, wp_X6_bad, by decide, by decide⟩ wl_X6_133 wn_X6_bad we_X6_bad (ww_i1 30 (by decide)) rfl rfl (Nat.le_of_ble_eq_true rfl) rfl hT (fun v18 τ19 hq => ?_)
        replace h := h v18 τ19 hq
        exact ww_iret dX6_power_32 rfl ⟨_, rfl, h⟩
theorem b_X6_power_41 {g : ww_G} {E : ww_E} {τ : ww_M} {x1 : Int32} {x2 : Int32} {x3 : Int32} {x4 : Int32} {Post : Int32 → ww_M → Prop}  (h : ((nI 0 ≤ x2 → ww_W g mX6_power E (ww_QI Post) 53 [some (.inr (.inr (30, 0))), some (.inl x1), some (.inl x2), some (.inl x3), some (.inl x4)] [.inl x2, .inl x4] τ) ∧ (¬ (nI 0 ≤ x2) → ww_W g mX6_power E (ww_QI Post) 53 [some (.inr (.inr (30, 0))), some (.inl x1), some (.inl x2), some (.inl x3), some (.inl x4)] [.inl (0 - x2), .inl x4] τ))) : ww_W g mX6_power E (ww_QI Post) 41 [some (.inr (.inr (30, 0))), some (.inl x1), some (.inl x2), some (.inl x3), some (.inl x4)] [] τ := by
  refine ww_iload 43 4 dX6_power_41 rfl rfl ?_
  refine ww_iload_n 44 dX6_power_43 rfl 2 rfl rfl ?_
  refine ww_if_ge 52 47 dX6_power_44 (by decide) rfl (fun c => ?_) (fun c => ?_)
  · replace h := h.1 c
    refine ww_iload_n 53 dX6_power_52 rfl 2 rfl rfl ?_
    exact h
  · replace h := h.2 c
    refine ww_iload_n 48 dX6_power_47 rfl 2 rfl rfl ?_
    refine ww_ineg 49 dX6_power_48 rfl ?_
    refine ww_goto 53 dX6_power_49 (by decide) ?_
    exact h
theorem b_X6_power_53 {g : ww_G} {E : ww_E} {τ : ww_M} {x1 : Int32} {x2 : Int32} {x3 : Int32} {x4 : Int32} {y0 : Int32} {y1 : Int32} {Post : Int32 → ww_M → Prop}  (h : ((y0 ≤ y1 → (∃ Q1 : Int32 → ww_M → Prop, ww_T E.2.1 g mX6_layIfFits [.inr (.inr (30, 0)), .inl x3] τ (ww_QI Q1) ∧ ∀ (v2 : Int32) (τ3 : ww_M), Q1 v2 τ3 → Post v2 τ3)) ∧ (¬ (y0 ≤ y1) → ((nI 0 ≤ x2 → (∃ Q4 : ww_M → Prop, ww_T E.2.1 g mX6_pushWord [.inr (.inr (30, 0)), .inl x1] τ (ww_QV Q4) ∧ ∀ (τ5 : ww_M), Q4 τ5 → ww_W g mX6_power E (ww_QI Post) 41 [some (.inr (.inr (30, 0))), some (.inl x1), some (.inl x2), some (.inl x3), some (.inl (x4 + nI 1))] [] τ5)) ∧ (¬ (nI 0 ≤ x2) → (∃ Q6 : ww_M → Prop, ww_T E.2.1 g mX6_pushInverse [.inr (.inr (30, 0)), .inl x1] τ (ww_QV Q6) ∧ ∀ (τ7 : ww_M), Q6 τ7 → ww_W g mX6_power E (ww_QI Post) 41 [some (.inr (.inr (30, 0))), some (.inl x1), some (.inl x2), some (.inl x3), some (.inl (x4 + nI 1))] [] τ7)))))) : ww_W g mX6_power E (ww_QI Post) 53 [some (.inr (.inr (30, 0))), some (.inl x1), some (.inl x2), some (.inl x3), some (.inl x4)] [.inl y0, .inl y1] τ := by
  refine ww_ic_ge 79 56 dX6_power_53 (by decide) rfl (fun c => ?_) (fun c => ?_)
  · replace h := h.1 c
    refine ww_aload_n 80 dX6_power_79 rfl 0 rfl rfl ?_
    refine ww_iload_n 81 dX6_power_80 rfl 3 rfl rfl ?_
    obtain ⟨Q1, hT, h⟩ := h
    refine ww_invVI (d' := mX6_layIfFits) [.inl x3] rfl 84 dX6_power_81 ⟨wi_X6, wc_X6_layIfFits, wp_X6_layIfFits, by decide, by decide⟩ wl_X6_165 wn_X6_layIfFits we_X6_layIfFits (ww_i1 30 (by decide)) rfl rfl (Nat.le_of_ble_eq_true rfl) rfl hT (fun v2 τ3 hq => ?_)
    replace h := h v2 τ3 hq
    exact ww_iret dX6_power_84 rfl ⟨_, rfl, h⟩
  · replace h := h.2 c
    refine ww_iload_n 57 dX6_power_56 rfl 2 rfl rfl ?_
    refine ww_if_ge 68 60 dX6_power_57 (by decide) rfl (fun c => ?_) (fun c => ?_)
    · replace h := h.1 c
      refine ww_aload_n 69 dX6_power_68 rfl 0 rfl rfl ?_
      refine ww_iload_n 70 dX6_power_69 rfl 1 rfl rfl ?_
      obtain ⟨Q4, hT, h⟩ := h
      refine ww_invVV (d' := mX6_pushWord) [.inl x1] rfl 73 dX6_power_70 ⟨wi_X6, wc_X6_pushWord, wp_X6_pushWord, by decide, by decide⟩ wl_X6_84 wn_X6_pushWord we_X6_pushWord (ww_i1 30 (by decide)) rfl rfl (Nat.le_of_ble_eq_true rfl) rfl hT (fun τ5 hq => ?_)
      replace h := h τ5 hq
      refine ww_iinc (nI 1) 76 4 dX6_power_73 (by decide) rfl rfl (by decide) rfl [some (.inr (.inr (30, 0))), some (.inl x1), some (.inl x2), some (.inl x3), some (.inl (x4 + nI 1))] rfl ?_
      refine ww_goto 41 dX6_power_76 (by decide) ?_
      exact h
    · replace h := h.2 c
      refine ww_aload_n 61 dX6_power_60 rfl 0 rfl rfl ?_
      refine ww_iload_n 62 dX6_power_61 rfl 1 rfl rfl ?_
      obtain ⟨Q6, hT, h⟩ := h
      refine ww_invVV (d' := mX6_pushInverse) [.inl x1] rfl 65 dX6_power_62 ⟨wi_X6, wc_X6_pushInverse, wp_X6_pushInverse, by decide, by decide⟩ wl_X6_168 wn_X6_pushInverse we_X6_pushInverse (ww_i1 30 (by decide)) rfl rfl (Nat.le_of_ble_eq_true rfl) rfl hT (fun τ7 hq => ?_)
      replace h := h τ7 hq
      refine ww_goto 73 dX6_power_65 (by decide) ?_
      refine ww_iinc (nI 1) 76 4 dX6_power_73 (by decide) rfl rfl (by decide) rfl [some (.inr (.inr (30, 0))), some (.inl x1), some (.inl x2), some (.inl x3), some (.inl (x4 + nI 1))] rfl ?_
      refine ww_goto 41 dX6_power_76 (by decide) ?_
      exact h
theorem b_X6_ring {l : Launch} {g : ww_G} {τ : ww_M} {a1 : Int32} {a2 : Int32} {Post : Int32 → ww_M → Prop}  (h : ∀ E : ww_E, (∃ Q1 : Int32 → ww_M → Prop, ww_T E.2.1 g mX6_isWord [.inl a1] τ (ww_QI Q1) ∧ ∀ (v2 : Int32) (τ3 : ww_M), Q1 v2 τ3 → (v2 = nI 0 → (∃ Q4 : Int32 → ww_M → Prop, ww_T E.2.1 g mX6_bad [.inr (.inr (30, 0))] τ3 (ww_QI Q4) ∧ ∀ (v5 : Int32) (τ6 : ww_M), Q4 v5 τ6 → Post v5 τ6)) ∧ (¬ v2 = nI 0 → (∃ Q7 : Int32 → ww_M → Prop, ww_T E.2.1 g mX6_isWord [.inl a2] τ3 (ww_QI Q7) ∧ ∀ (v8 : Int32) (τ9 : ww_M), Q7 v8 τ9 → (¬ v8 = nI 0 → (∃ Q10 : ww_M → Prop, ww_T E.2.1 g mX6_handWord [.inr (.inr (30, 0)), .inl a1] τ9 (ww_QV Q10) ∧ ∀ (τ11 : ww_M), Q10 τ11 → (∃ Q12 : ww_M → Prop, ww_T E.2.1 g mX6_ringHand [.inr (.inr (30, 0))] τ11 (ww_QV Q12) ∧ ∀ (τ13 : ww_M), Q12 τ13 → (∃ Q14 : Int32 → ww_M → Prop, ww_T E.2.1 g mX6_layWord [.inr (.inr (30, 0)), .inl a2] τ13 (ww_QI Q14) ∧ ∀ (v15 : Int32) (τ16 : ww_M), Q14 v15 τ16 → Post v15 τ16)))) ∧ (v8 = nI 0 → (∃ Q17 : Int32 → ww_M → Prop, ww_T E.2.1 g mX6_bad [.inr (.inr (30, 0))] τ9 (ww_QI Q17) ∧ ∀ (v18 : Int32) (τ19 : ww_M), Q17 v18 τ19 → Post v18 τ19)))))) : ww_T l g mX6_ring [.inr (.inr (30, 0)), .inl a1, .inl a2] τ (ww_QI Post) := by
  refine ww_enter (P := [some (.inr (.inr (30, 0))), some (.inl a1), some (.inl a2)]) (by decide) (Nat.le_of_ble_eq_true rfl) rfl (fun E => ?_)
  replace h := h E
  refine ww_iload_n 1 dX6_ring_0 rfl 1 rfl rfl ?_
  obtain ⟨Q1, hT, h⟩ := h
  refine ww_invSI (d' := mX6_isWord) [.inl a1] rfl 4 dX6_ring_1 ⟨wi_X6, wc_X6_isWord, wp_X6_isWord, by decide, by decide⟩ (Or.inl wl_X6_156) wn_X6_isWord (Nat.le_of_ble_eq_true rfl) rfl hT (fun v2 τ3 hq => ?_)
  replace h := h v2 τ3 hq
  refine ww_if_eq 14 7 dX6_ring_4 (by decide) rfl (fun c => ?_) (fun c => ?_)
  · replace h := h.1 c
    refine ww_aload_n 15 dX6_ring_14 rfl 0 rfl rfl ?_
    obtain ⟨Q4, hT, h⟩ := h
    refine ww_invVI (d' := mX6_bad) [] rfl 18 dX6_ring_15 ⟨wi_X6, wc_X6_bad, wp_X6_bad, by decide, by decide⟩ wl_X6_133 wn_X6_bad we_X6_bad (ww_i1 30 (by decide)) rfl rfl (Nat.le_of_ble_eq_true rfl) rfl hT (fun v5 τ6 hq => ?_)
    replace h := h v5 τ6 hq
    exact ww_iret dX6_ring_18 rfl ⟨_, rfl, h⟩
  · replace h := h.2 c
    refine ww_iload_n 8 dX6_ring_7 rfl 2 rfl rfl ?_
    obtain ⟨Q7, hT, h⟩ := h
    refine ww_invSI (d' := mX6_isWord) [.inl a2] rfl 11 dX6_ring_8 ⟨wi_X6, wc_X6_isWord, wp_X6_isWord, by decide, by decide⟩ (Or.inl wl_X6_156) wn_X6_isWord (Nat.le_of_ble_eq_true rfl) rfl hT (fun v8 τ9 hq => ?_)
    replace h := h v8 τ9 hq
    refine ww_if_ne 19 14 dX6_ring_11 (by decide) rfl (fun c => ?_) (fun c => ?_)
    · replace h := h.1 c
      refine ww_aload_n 20 dX6_ring_19 rfl 0 rfl rfl ?_
      refine ww_iload_n 21 dX6_ring_20 rfl 1 rfl rfl ?_
      obtain ⟨Q10, hT, h⟩ := h
      refine ww_invVV (d' := mX6_handWord) [.inl a1] rfl 24 dX6_ring_21 ⟨wi_X6, wc_X6_handWord, wp_X6_handWord, by decide, by decide⟩ wl_X6_162 wn_X6_handWord we_X6_handWord (ww_i1 30 (by decide)) rfl rfl (Nat.le_of_ble_eq_true rfl) rfl hT (fun τ11 hq => ?_)
      replace h := h τ11 hq
      refine ww_aload_n 25 dX6_ring_24 rfl 0 rfl rfl ?_
      obtain ⟨Q12, hT, h⟩ := h
      refine ww_invVV (d' := mX6_ringHand) [] rfl 28 dX6_ring_25 ⟨wi_X6, wc_X6_ringHand, wp_X6_ringHand, by decide, by decide⟩ wl_X6_173 wn_X6_ringHand we_X6_ringHand (ww_i1 30 (by decide)) rfl rfl (Nat.le_of_ble_eq_true rfl) rfl hT (fun τ13 hq => ?_)
      replace h := h τ13 hq
      refine ww_aload_n 29 dX6_ring_28 rfl 0 rfl rfl ?_
      refine ww_iload_n 30 dX6_ring_29 rfl 2 rfl rfl ?_
      obtain ⟨Q14, hT, h⟩ := h
      refine ww_invVI (d' := mX6_layWord) [.inl a2] rfl 33 dX6_ring_30 ⟨wi_X6, wc_X6_layWord, wp_X6_layWord, by decide, by decide⟩ wl_X6_91 wn_X6_layWord we_X6_layWord (ww_i1 30 (by decide)) rfl rfl (Nat.le_of_ble_eq_true rfl) rfl hT (fun v15 τ16 hq => ?_)
      replace h := h v15 τ16 hq
      exact ww_iret dX6_ring_33 rfl ⟨_, rfl, h⟩
    · replace h := h.2 c
      refine ww_aload_n 15 dX6_ring_14 rfl 0 rfl rfl ?_
      obtain ⟨Q17, hT, h⟩ := h
      refine ww_invVI (d' := mX6_bad) [] rfl 18 dX6_ring_15 ⟨wi_X6, wc_X6_bad, wp_X6_bad, by decide, by decide⟩ wl_X6_133 wn_X6_bad we_X6_bad (ww_i1 30 (by decide)) rfl rfl (Nat.le_of_ble_eq_true rfl) rfl hT (fun v18 τ19 hq => ?_)
      replace h := h v18 τ19 hq
      exact ww_iret dX6_ring_18 rfl ⟨_, rfl, h⟩
theorem b_X6_turn {l : Launch} {g : ww_G} {τ : ww_M} {a1 : Int32} {a2 : Int32} {a3 : Int32} {Post : Int32 → ww_M → Prop}  (h : ∀ E : ww_E, (∃ Q1 : Int32 → ww_M → Prop, ww_T E.2.1 g mX6_isWord [.inl a1] τ (ww_QI Q1) ∧ ∀ (v2 : Int32) (τ3 : ww_M), Q1 v2 τ3 → (v2 = nI 0 → (∃ Q4 : Int32 → ww_M → Prop, ww_T E.2.1 g mX6_bad [.inr (.inr (30, 0))] τ3 (ww_QI Q4) ∧ ∀ (v5 : Int32) (τ6 : ww_M), Q4 v5 τ6 → Post v5 τ6)) ∧ (¬ v2 = nI 0 → (∃ Q7 : Int32 → ww_M → Prop, ww_T E.2.1 g mX6_in [.inr (.inl (a2.toInt64)), .inr (.inl (lN 0)), .inr (.inl (lN 59))] τ3 (ww_QI Q7) ∧ ∀ (v8 : Int32) (τ9 : ww_M), Q7 v8 τ9 → (v8 = nI 0 → (∃ Q10 : Int32 → ww_M → Prop, ww_T E.2.1 g mX6_bad [.inr (.inr (30, 0))] τ9 (ww_QI Q10) ∧ ∀ (v11 : Int32) (τ12 : ww_M), Q10 v11 τ12 → Post v11 τ12)) ∧ (¬ v8 = nI 0 → (∃ Q13 : Int32 → ww_M → Prop, ww_T E.2.1 g mX6_isWord [.inl a3] τ9 (ww_QI Q13) ∧ ∀ (v14 : Int32) (τ15 : ww_M), Q13 v14 τ15 → (¬ v14 = nI 0 → (∃ j16 : Nat, a1 = nI j16 ∧ j16 < 6 ∧ (a2 < τ15 (37, 0) j16 → (∀ τ17 : ww_M, τ17 = ww_up τ15 (30, 0) 12 (nI 0) → ww_W g mX6_turn E (ww_QI Post) 54 [some (.inr (.inr (30, 0))), some (.inl a1), some (.inl a2), some (.inl a3), some (.inl (nI 0))] [] τ17)) ∧ (¬ (a2 < τ15 (37, 0) j16) → (∃ Q18 : Int32 → ww_M → Prop, ww_T E.2.1 g mX6_no [.inr (.inr (30, 0))] τ15 (ww_QI Q18) ∧ ∀ (v19 : Int32) (τ20 : ww_M), Q18 v19 τ20 → Post v19 τ20)))) ∧ (v14 = nI 0 → (∃ Q21 : Int32 → ww_M → Prop, ww_T E.2.1 g mX6_bad [.inr (.inr (30, 0))] τ15 (ww_QI Q21) ∧ ∀ (v22 : Int32) (τ23 : ww_M), Q21 v22 τ23 → Post v22 τ23)))))))) : ww_T l g mX6_turn [.inr (.inr (30, 0)), .inl a1, .inl a2, .inl a3] τ (ww_QI Post) := by
  refine ww_enter (P := [some (.inr (.inr (30, 0))), some (.inl a1), some (.inl a2), some (.inl a3), none]) (by decide) (Nat.le_of_ble_eq_true rfl) rfl (fun E => ?_)
  replace h := h E
  refine ww_iload_n 1 dX6_turn_0 rfl 1 rfl rfl ?_
  obtain ⟨Q1, hT, h⟩ := h
  refine ww_invSI (d' := mX6_isWord) [.inl a1] rfl 4 dX6_turn_1 ⟨wi_X6, wc_X6_isWord, wp_X6_isWord, by decide, by decide⟩ (Or.inl wl_X6_156) wn_X6_isWord (Nat.le_of_ble_eq_true rfl) rfl hT (fun v2 τ3 hq => ?_)
  replace h := h v2 τ3 hq
  refine ww_if_eq 26 7 dX6_turn_4 (by decide) rfl (fun c => ?_) (fun c => ?_)
  · replace h := h.1 c
    refine ww_aload_n 27 dX6_turn_26 rfl 0 rfl rfl ?_
    obtain ⟨Q4, hT, h⟩ := h
    refine ww_invVI (d' := mX6_bad) [] rfl 30 dX6_turn_27 ⟨wi_X6, wc_X6_bad, wp_X6_bad, by decide, by decide⟩ wl_X6_133 wn_X6_bad we_X6_bad (ww_i1 30 (by decide)) rfl rfl (Nat.le_of_ble_eq_true rfl) rfl hT (fun v5 τ6 hq => ?_)
    replace h := h v5 τ6 hq
    exact ww_iret dX6_turn_30 rfl ⟨_, rfl, h⟩
  · replace h := h.2 c
    refine ww_iload_n 8 dX6_turn_7 rfl 2 rfl rfl ?_
    refine ww_i2l 9 dX6_turn_8 rfl ?_
    refine ww_lconst (v := lN 0) 10 dX6_turn_9 (by decide) rfl ?_
    refine ww_ldc2 13 dX6_turn_10 rfl wk_X6_176 ?_
    obtain ⟨Q7, hT, h⟩ := h
    refine ww_invSI (d' := mX6_in) [.inr (.inl (a2.toInt64)), .inr (.inl (lN 0)), .inr (.inl (lN 59))] rfl 16 dX6_turn_13 ⟨wi_X6, wc_X6_in, wp_X6_in, by decide, by decide⟩ (Or.inl wl_X6_66) wn_X6_in (Nat.le_of_ble_eq_true rfl) rfl hT (fun v8 τ9 hq => ?_)
    replace h := h v8 τ9 hq
    refine ww_if_eq 26 19 dX6_turn_16 (by decide) rfl (fun c => ?_) (fun c => ?_)
    · replace h := h.1 c
      refine ww_aload_n 27 dX6_turn_26 rfl 0 rfl rfl ?_
      obtain ⟨Q10, hT, h⟩ := h
      refine ww_invVI (d' := mX6_bad) [] rfl 30 dX6_turn_27 ⟨wi_X6, wc_X6_bad, wp_X6_bad, by decide, by decide⟩ wl_X6_133 wn_X6_bad we_X6_bad (ww_i1 30 (by decide)) rfl rfl (Nat.le_of_ble_eq_true rfl) rfl hT (fun v11 τ12 hq => ?_)
      replace h := h v11 τ12 hq
      exact ww_iret dX6_turn_30 rfl ⟨_, rfl, h⟩
    · replace h := h.2 c
      refine ww_iload_n 20 dX6_turn_19 rfl 3 rfl rfl ?_
      obtain ⟨Q13, hT, h⟩ := h
      refine ww_invSI (d' := mX6_isWord) [.inl a3] rfl 23 dX6_turn_20 ⟨wi_X6, wc_X6_isWord, wp_X6_isWord, by decide, by decide⟩ (Or.inl wl_X6_156) wn_X6_isWord (Nat.le_of_ble_eq_true rfl) rfl hT (fun v14 τ15 hq => ?_)
      replace h := h v14 τ15 hq
      refine ww_if_ne 31 26 dX6_turn_23 (by decide) rfl (fun c => ?_) (fun c => ?_)
      · replace h := h.1 c
        refine ww_aload_n 32 dX6_turn_31 rfl 0 rfl rfl ?_
        refine ww_getR 8 35 dX6_turn_32 wf_X6_28 (ww_i1 30 (by decide)) rfl rfl rfl ?_
        refine ww_iload_n 36 dX6_turn_35 rfl 1 rfl rfl ?_
        obtain ⟨j16, hij16, hj16, h⟩ := h
        refine ww_iald j16 37 dX6_turn_36 (ww_i1 37 (by decide)) rfl (by decide) hij16 hj16 rfl ?_
        refine ww_iload_n 38 dX6_turn_37 rfl 2 rfl rfl ?_
        refine ww_ic_gt 46 41 dX6_turn_38 (by decide) rfl (fun c => ?_) (fun c => ?_)
        · replace h := h.1 c
          refine ww_aload_n 47 dX6_turn_46 rfl 0 rfl rfl ?_
          refine ww_iconst (v := nI 0) 48 dX6_turn_47 (by decide) rfl ?_
          refine ww_putI 12 51 dX6_turn_48 wf_X6_72 fp_X6_12 (ww_i1 30 (by decide)) rfl rfl rfl (fun τ17 eτ17 => ?_)
          replace h := h τ17 eτ17
          refine ww_iconst (v := nI 0) 52 dX6_turn_51 (by decide) rfl ?_
          refine ww_istore 54 4 dX6_turn_52 rfl (by decide) rfl [some (.inr (.inr (30, 0))), some (.inl a1), some (.inl a2), some (.inl a3), some (.inl (nI 0))] rfl ?_
          exact h
        · replace h := h.2 c
          refine ww_aload_n 42 dX6_turn_41 rfl 0 rfl rfl ?_
          obtain ⟨Q18, hT, h⟩ := h
          refine ww_invVI (d' := mX6_no) [] rfl 45 dX6_turn_42 ⟨wi_X6, wc_X6_no, wp_X6_no, by decide, by decide⟩ wl_X6_178 wn_X6_no we_X6_no (ww_i1 30 (by decide)) rfl rfl (Nat.le_of_ble_eq_true rfl) rfl hT (fun v19 τ20 hq => ?_)
          replace h := h v19 τ20 hq
          exact ww_iret dX6_turn_45 rfl ⟨_, rfl, h⟩
      · replace h := h.2 c
        refine ww_aload_n 27 dX6_turn_26 rfl 0 rfl rfl ?_
        obtain ⟨Q21, hT, h⟩ := h
        refine ww_invVI (d' := mX6_bad) [] rfl 30 dX6_turn_27 ⟨wi_X6, wc_X6_bad, wp_X6_bad, by decide, by decide⟩ wl_X6_133 wn_X6_bad we_X6_bad (ww_i1 30 (by decide)) rfl rfl (Nat.le_of_ble_eq_true rfl) rfl hT (fun v22 τ23 hq => ?_)
        replace h := h v22 τ23 hq
        exact ww_iret dX6_turn_30 rfl ⟨_, rfl, h⟩
theorem b_X6_turn_54 {g : ww_G} {E : ww_E} {τ : ww_M} {x1 : Int32} {x2 : Int32} {x3 : Int32} {x4 : Int32} {Post : Int32 → ww_M → Prop}  (h : (∃ j1 : Nat, x1 = nI j1 ∧ j1 < 6 ∧ (τ (37, 0) j1 ≤ x4 → (∃ Q2 : Int32 → ww_M → Prop, ww_T E.2.1 g mX6_layWord [.inr (.inr (30, 0)), .inl x3] τ (ww_QI Q2) ∧ ∀ (v3 : Int32) (τ4 : ww_M), Q2 v3 τ4 → Post v3 τ4)) ∧ (¬ (τ (37, 0) j1 ≤ x4) → (∃ j5 : Nat, x1 = nI j5 ∧ j5 < 6 ∧ (¬ (τ (37, 0) j5) = nI 0 ∧ (∃ j7 : Nat, ((nI 60) * x1) + ((x2 + x4) - (x2 + x4) / (τ (37, 0) j5) * (τ (37, 0) j5)) = nI j7 ∧ j7 < 360 ∧ (∃ Q8 : ww_M → Prop, ww_T E.2.1 g mX6_push [.inr (.inr (30, 0)), .inl (τ (36, 0) j7)] τ (ww_QV Q8) ∧ ∀ (τ9 : ww_M), Q8 τ9 → ww_W g mX6_turn E (ww_QI Post) 54 [some (.inr (.inr (30, 0))), some (.inl x1), some (.inl x2), some (.inl x3), some (.inl (x4 + nI 1))] [] τ9))))))) : ww_W g mX6_turn E (ww_QI Post) 54 [some (.inr (.inr (30, 0))), some (.inl x1), some (.inl x2), some (.inl x3), some (.inl x4)] [] τ := by
  refine ww_iload 56 4 dX6_turn_54 rfl rfl ?_
  refine ww_aload_n 57 dX6_turn_56 rfl 0 rfl rfl ?_
  refine ww_getR 8 60 dX6_turn_57 wf_X6_28 (ww_i1 30 (by decide)) rfl rfl rfl ?_
  refine ww_iload_n 61 dX6_turn_60 rfl 1 rfl rfl ?_
  obtain ⟨j1, hij1, hj1, h⟩ := h
  refine ww_iald j1 62 dX6_turn_61 (ww_i1 37 (by decide)) rfl (by decide) hij1 hj1 rfl ?_
  refine ww_ic_ge 96 65 dX6_turn_62 (by decide) rfl (fun c => ?_) (fun c => ?_)
  · replace h := h.1 c
    refine ww_aload_n 97 dX6_turn_96 rfl 0 rfl rfl ?_
    refine ww_iload_n 98 dX6_turn_97 rfl 3 rfl rfl ?_
    obtain ⟨Q2, hT, h⟩ := h
    refine ww_invVI (d' := mX6_layWord) [.inl x3] rfl 101 dX6_turn_98 ⟨wi_X6, wc_X6_layWord, wp_X6_layWord, by decide, by decide⟩ wl_X6_91 wn_X6_layWord we_X6_layWord (ww_i1 30 (by decide)) rfl rfl (Nat.le_of_ble_eq_true rfl) rfl hT (fun v3 τ4 hq => ?_)
    replace h := h v3 τ4 hq
    exact ww_iret dX6_turn_101 rfl ⟨_, rfl, h⟩
  · replace h := h.2 c
    refine ww_aload_n 66 dX6_turn_65 rfl 0 rfl rfl ?_
    refine ww_aload_n 67 dX6_turn_66 rfl 0 rfl rfl ?_
    refine ww_getR 7 70 dX6_turn_67 wf_X6_25 (ww_i1 30 (by decide)) rfl rfl rfl ?_
    refine ww_bipush (v := nI 60) 72 dX6_turn_70 (by decide) rfl ?_
    refine ww_iload_n 73 dX6_turn_72 rfl 1 rfl rfl ?_
    refine ww_imul 74 dX6_turn_73 rfl ?_
    refine ww_iload_n 75 dX6_turn_74 rfl 2 rfl rfl ?_
    refine ww_iload 77 4 dX6_turn_75 rfl rfl ?_
    refine ww_iadd 78 dX6_turn_77 rfl ?_
    refine ww_aload_n 79 dX6_turn_78 rfl 0 rfl rfl ?_
    refine ww_getR 8 82 dX6_turn_79 wf_X6_28 (ww_i1 30 (by decide)) rfl rfl rfl ?_
    refine ww_iload_n 83 dX6_turn_82 rfl 1 rfl rfl ?_
    obtain ⟨j5, hij5, hj5, h⟩ := h
    refine ww_iald j5 84 dX6_turn_83 (ww_i1 37 (by decide)) rfl (by decide) hij5 hj5 rfl ?_
    obtain ⟨hz6, h⟩ := h
    refine ww_irem 85 dX6_turn_84 rfl hz6 ?_
    refine ww_iadd 86 dX6_turn_85 rfl ?_
    obtain ⟨j7, hij7, hj7, h⟩ := h
    refine ww_iald j7 87 dX6_turn_86 (ww_i1 36 (by decide)) rfl (by decide) hij7 hj7 rfl ?_
    obtain ⟨Q8, hT, h⟩ := h
    refine ww_invVV (d' := mX6_push) [.inl (τ (36, 0) j7)] rfl 90 dX6_turn_87 ⟨wi_X6, wc_X6_push, wp_X6_push, by decide, by decide⟩ wl_X6_80 wn_X6_push we_X6_push (ww_i1 30 (by decide)) rfl rfl (Nat.le_of_ble_eq_true rfl) rfl hT (fun τ9 hq => ?_)
    replace h := h τ9 hq
    refine ww_iinc (nI 1) 93 4 dX6_turn_90 (by decide) rfl rfl (by decide) rfl [some (.inr (.inr (30, 0))), some (.inl x1), some (.inl x2), some (.inl x3), some (.inl (x4 + nI 1))] rfl ?_
    refine ww_goto 54 dX6_turn_93 (by decide) ?_
    exact h
theorem b_X6_sum {l : Launch} {g : ww_G} {τ : ww_M} {a1 : Int32} {a2 : Int32} {Post : Int32 → ww_M → Prop}  (h : ∀ E : ww_E, (∃ Q1 : Int32 → ww_M → Prop, ww_T E.2.1 g mX6_isWord [.inl a1] τ (ww_QI Q1) ∧ ∀ (v2 : Int32) (τ3 : ww_M), Q1 v2 τ3 → (v2 = nI 0 → (∃ Q4 : Int32 → ww_M → Prop, ww_T E.2.1 g mX6_bad [.inr (.inr (30, 0))] τ3 (ww_QI Q4) ∧ ∀ (v5 : Int32) (τ6 : ww_M), Q4 v5 τ6 → Post v5 τ6)) ∧ (¬ v2 = nI 0 → (∃ Q7 : Int32 → ww_M → Prop, ww_T E.2.1 g mX6_in [.inr (.inl (a2.toInt64)), .inr (.inl (lN 0)), .inr (.inl (lN 3))] τ3 (ww_QI Q7) ∧ ∀ (v8 : Int32) (τ9 : ww_M), Q7 v8 τ9 → (¬ v8 = nI 0 → ww_W g mX6_sum E (ww_QI Post) 29 [some (.inr (.inr (30, 0))), some (.inl a1), some (.inl a2), some (.inl (nI 0)), some (.inl (nI 0)), none] [] τ9) ∧ (v8 = nI 0 → (∃ Q10 : Int32 → ww_M → Prop, ww_T E.2.1 g mX6_bad [.inr (.inr (30, 0))] τ9 (ww_QI Q10) ∧ ∀ (v11 : Int32) (τ12 : ww_M), Q10 v11 τ12 → Post v11 τ12)))))) : ww_T l g mX6_sum [.inr (.inr (30, 0)), .inl a1, .inl a2] τ (ww_QI Post) := by
  refine ww_enter (P := [some (.inr (.inr (30, 0))), some (.inl a1), some (.inl a2), none, none, none]) (by decide) (Nat.le_of_ble_eq_true rfl) rfl (fun E => ?_)
  replace h := h E
  refine ww_iload_n 1 dX6_sum_0 rfl 1 rfl rfl ?_
  obtain ⟨Q1, hT, h⟩ := h
  refine ww_invSI (d' := mX6_isWord) [.inl a1] rfl 4 dX6_sum_1 ⟨wi_X6, wc_X6_isWord, wp_X6_isWord, by decide, by decide⟩ (Or.inl wl_X6_156) wn_X6_isWord (Nat.le_of_ble_eq_true rfl) rfl hT (fun v2 τ3 hq => ?_)
  replace h := h v2 τ3 hq
  refine ww_if_eq 19 7 dX6_sum_4 (by decide) rfl (fun c => ?_) (fun c => ?_)
  · replace h := h.1 c
    refine ww_aload_n 20 dX6_sum_19 rfl 0 rfl rfl ?_
    obtain ⟨Q4, hT, h⟩ := h
    refine ww_invVI (d' := mX6_bad) [] rfl 23 dX6_sum_20 ⟨wi_X6, wc_X6_bad, wp_X6_bad, by decide, by decide⟩ wl_X6_133 wn_X6_bad we_X6_bad (ww_i1 30 (by decide)) rfl rfl (Nat.le_of_ble_eq_true rfl) rfl hT (fun v5 τ6 hq => ?_)
    replace h := h v5 τ6 hq
    exact ww_iret dX6_sum_23 rfl ⟨_, rfl, h⟩
  · replace h := h.2 c
    refine ww_iload_n 8 dX6_sum_7 rfl 2 rfl rfl ?_
    refine ww_i2l 9 dX6_sum_8 rfl ?_
    refine ww_lconst (v := lN 0) 10 dX6_sum_9 (by decide) rfl ?_
    refine ww_ldc2 13 dX6_sum_10 rfl wk_X6_181 ?_
    obtain ⟨Q7, hT, h⟩ := h
    refine ww_invSI (d' := mX6_in) [.inr (.inl (a2.toInt64)), .inr (.inl (lN 0)), .inr (.inl (lN 3))] rfl 16 dX6_sum_13 ⟨wi_X6, wc_X6_in, wp_X6_in, by decide, by decide⟩ (Or.inl wl_X6_66) wn_X6_in (Nat.le_of_ble_eq_true rfl) rfl hT (fun v8 τ9 hq => ?_)
    replace h := h v8 τ9 hq
    refine ww_if_ne 24 19 dX6_sum_16 (by decide) rfl (fun c => ?_) (fun c => ?_)
    · replace h := h.1 c
      refine ww_iconst (v := nI 0) 25 dX6_sum_24 (by decide) rfl ?_
      refine ww_istore_n 26 dX6_sum_25 rfl 3 rfl (by decide) rfl [some (.inr (.inr (30, 0))), some (.inl a1), some (.inl a2), some (.inl (nI 0)), none, none] rfl ?_
      refine ww_iconst (v := nI 0) 27 dX6_sum_26 (by decide) rfl ?_
      refine ww_istore 29 4 dX6_sum_27 rfl (by decide) rfl [some (.inr (.inr (30, 0))), some (.inl a1), some (.inl a2), some (.inl (nI 0)), some (.inl (nI 0)), none] rfl ?_
      exact h
    · replace h := h.2 c
      refine ww_aload_n 20 dX6_sum_19 rfl 0 rfl rfl ?_
      obtain ⟨Q10, hT, h⟩ := h
      refine ww_invVI (d' := mX6_bad) [] rfl 23 dX6_sum_20 ⟨wi_X6, wc_X6_bad, wp_X6_bad, by decide, by decide⟩ wl_X6_133 wn_X6_bad we_X6_bad (ww_i1 30 (by decide)) rfl rfl (Nat.le_of_ble_eq_true rfl) rfl hT (fun v11 τ12 hq => ?_)
      replace h := h v11 τ12 hq
      exact ww_iret dX6_sum_23 rfl ⟨_, rfl, h⟩
theorem b_X6_sum_29 {g : ww_G} {E : ww_E} {τ : ww_M} {x1 : Int32} {x2 : Int32} {x3 : Int32} {x4 : Int32} {Post : Int32 → ww_M → Prop}  (h : (∃ j1 : Nat, x1 = nI j1 ∧ j1 < 6 ∧ (τ (37, 0) j1 ≤ x4 → Post x3 τ) ∧ (¬ (τ (37, 0) j1 ≤ x4) → (∃ j2 : Nat, ((nI 60) * x1) + x4 = nI j2 ∧ j2 < 360 ∧ (¬ τ (36, 0) j2 = x2 → ((¬ τ (36, 0) j2 = x2 + (nI 4) → ww_W g mX6_sum E (ww_QI Post) 29 [some (.inr (.inr (30, 0))), some (.inl x1), some (.inl x2), some (.inl (x3 + (nI 0))), some (.inl (x4 + nI 1)), none] [] τ) ∧ (τ (36, 0) j2 = x2 + (nI 4) → ww_W g mX6_sum E (ww_QI Post) 29 [some (.inr (.inr (30, 0))), some (.inl x1), some (.inl x2), some (.inl (x3 + (-1 : Int32))), some (.inl (x4 + nI 1)), none] [] τ))) ∧ (τ (36, 0) j2 = x2 → ww_W g mX6_sum E (ww_QI Post) 29 [some (.inr (.inr (30, 0))), some (.inl x1), some (.inl x2), some (.inl (x3 + (nI 1))), some (.inl (x4 + nI 1)), none] [] τ))))) : ww_W g mX6_sum E (ww_QI Post) 29 [some (.inr (.inr (30, 0))), some (.inl x1), some (.inl x2), some (.inl x3), some (.inl x4), none] [] τ := by
  refine ww_iload 31 4 dX6_sum_29 rfl rfl ?_
  refine ww_aload_n 32 dX6_sum_31 rfl 0 rfl rfl ?_
  refine ww_getR 8 35 dX6_sum_32 wf_X6_28 (ww_i1 30 (by decide)) rfl rfl rfl ?_
  refine ww_iload_n 36 dX6_sum_35 rfl 1 rfl rfl ?_
  obtain ⟨j1, hij1, hj1, h⟩ := h
  refine ww_iald j1 37 dX6_sum_36 (ww_i1 37 (by decide)) rfl (by decide) hij1 hj1 rfl ?_
  refine ww_ic_ge 86 40 dX6_sum_37 (by decide) rfl (fun c => ?_) (fun c => ?_)
  · replace h := h.1 c
    refine ww_iload_n 87 dX6_sum_86 rfl 3 rfl rfl ?_
    exact ww_iret dX6_sum_87 rfl ⟨_, rfl, h⟩
  · replace h := h.2 c
    refine ww_aload_n 41 dX6_sum_40 rfl 0 rfl rfl ?_
    refine ww_getR 7 44 dX6_sum_41 wf_X6_25 (ww_i1 30 (by decide)) rfl rfl rfl ?_
    refine ww_bipush (v := nI 60) 46 dX6_sum_44 (by decide) rfl ?_
    refine ww_iload_n 47 dX6_sum_46 rfl 1 rfl rfl ?_
    refine ww_imul 48 dX6_sum_47 rfl ?_
    refine ww_iload 50 4 dX6_sum_48 rfl rfl ?_
    refine ww_iadd 51 dX6_sum_50 rfl ?_
    obtain ⟨j2, hij2, hj2, h⟩ := h
    refine ww_iald j2 52 dX6_sum_51 (ww_i1 36 (by decide)) rfl (by decide) hij2 hj2 rfl ?_
    refine ww_istore 54 5 dX6_sum_52 rfl (by decide) rfl [some (.inr (.inr (30, 0))), some (.inl x1), some (.inl x2), some (.inl x3), some (.inl x4), some (.inl (τ (36, 0) j2))] rfl ?_
    refine ww_iload_n 55 dX6_sum_54 rfl 3 rfl rfl ?_
    refine ww_iload 57 5 dX6_sum_55 rfl rfl ?_
    refine ww_iload_n 58 dX6_sum_57 rfl 2 rfl rfl ?_
    refine ww_ic_ne 65 61 dX6_sum_58 (by decide) rfl (fun c => ?_) (fun c => ?_)
    · replace h := h.1 c
      refine ww_iload 67 5 dX6_sum_65 rfl rfl ?_
      refine ww_iload_n 68 dX6_sum_67 rfl 2 rfl rfl ?_
      refine ww_iconst (v := nI 4) 69 dX6_sum_68 (by decide) rfl ?_
      refine ww_iadd 70 dX6_sum_69 rfl ?_
      refine ww_ic_ne 77 73 dX6_sum_70 (by decide) rfl (fun c => ?_) (fun c => ?_)
      · replace h := h.1 c
        refine ww_iconst (v := nI 0) 78 dX6_sum_77 (by decide) rfl ?_
        refine ww_iadd 79 dX6_sum_78 rfl ?_
        refine ww_istore_n 80 dX6_sum_79 rfl 3 rfl (by decide) rfl [some (.inr (.inr (30, 0))), some (.inl x1), some (.inl x2), some (.inl (x3 + (nI 0))), some (.inl x4), some (.inl (τ (36, 0) j2))] rfl ?_
        refine ww_iinc (nI 1) 83 4 dX6_sum_80 (by decide) rfl rfl (by decide) rfl [some (.inr (.inr (30, 0))), some (.inl x1), some (.inl x2), some (.inl (x3 + (nI 0))), some (.inl (x4 + nI 1)), some (.inl (τ (36, 0) j2))] rfl ?_
        refine ww_goto 29 dX6_sum_83 (by decide) ?_
        exact ww_weak (ww_le_s (ww_le_s (ww_le_s (ww_le_s (ww_le_s (ww_le_n (ww_le_nil _))))))) h
      · replace h := h.2 c
        refine ww_iconst (v := (-1 : Int32)) 74 dX6_sum_73 (by decide) rfl ?_
        refine ww_goto 78 dX6_sum_74 (by decide) ?_
        refine ww_iadd 79 dX6_sum_78 rfl ?_
        refine ww_istore_n 80 dX6_sum_79 rfl 3 rfl (by decide) rfl [some (.inr (.inr (30, 0))), some (.inl x1), some (.inl x2), some (.inl (x3 + (-1 : Int32))), some (.inl x4), some (.inl (τ (36, 0) j2))] rfl ?_
        refine ww_iinc (nI 1) 83 4 dX6_sum_80 (by decide) rfl rfl (by decide) rfl [some (.inr (.inr (30, 0))), some (.inl x1), some (.inl x2), some (.inl (x3 + (-1 : Int32))), some (.inl (x4 + nI 1)), some (.inl (τ (36, 0) j2))] rfl ?_
        refine ww_goto 29 dX6_sum_83 (by decide) ?_
        exact ww_weak (ww_le_s (ww_le_s (ww_le_s (ww_le_s (ww_le_s (ww_le_n (ww_le_nil _))))))) h
    · replace h := h.2 c
      refine ww_iconst (v := nI 1) 62 dX6_sum_61 (by decide) rfl ?_
      refine ww_goto 78 dX6_sum_62 (by decide) ?_
      refine ww_iadd 79 dX6_sum_78 rfl ?_
      refine ww_istore_n 80 dX6_sum_79 rfl 3 rfl (by decide) rfl [some (.inr (.inr (30, 0))), some (.inl x1), some (.inl x2), some (.inl (x3 + (nI 1))), some (.inl x4), some (.inl (τ (36, 0) j2))] rfl ?_
      refine ww_iinc (nI 1) 83 4 dX6_sum_80 (by decide) rfl rfl (by decide) rfl [some (.inr (.inr (30, 0))), some (.inl x1), some (.inl x2), some (.inl (x3 + (nI 1))), some (.inl (x4 + nI 1)), some (.inl (τ (36, 0) j2))] rfl ?_
      refine ww_goto 29 dX6_sum_83 (by decide) ?_
      exact ww_weak (ww_le_s (ww_le_s (ww_le_s (ww_le_s (ww_le_s (ww_le_n (ww_le_nil _))))))) h
theorem b_X6_matches {l : Launch} {g : ww_G} {τ : ww_M} {a1 : Int32} {a2 : Int32} {Post : Int32 → ww_M → Prop}  (h : ∀ E : ww_E, ww_W g mX6_matches E (ww_QI Post) 2 [some (.inr (.inr (30, 0))), some (.inl a1), some (.inl a2), some (.inl (nI 0))] [] τ) : ww_T l g mX6_matches [.inr (.inr (30, 0)), .inl a1, .inl a2] τ (ww_QI Post) := by
  refine ww_enter (P := [some (.inr (.inr (30, 0))), some (.inl a1), some (.inl a2), none]) (by decide) (Nat.le_of_ble_eq_true rfl) rfl (fun E => ?_)
  replace h := h E
  refine ww_iconst (v := nI 0) 1 dX6_matches_0 (by decide) rfl ?_
  refine ww_istore_n 2 dX6_matches_1 rfl 3 rfl (by decide) rfl [some (.inr (.inr (30, 0))), some (.inl a1), some (.inl a2), some (.inl (nI 0))] rfl ?_
  exact h
theorem b_X6_matches_2 {g : ww_G} {E : ww_E} {τ : ww_M} {x1 : Int32} {x2 : Int32} {x3 : Int32} {Post : Int32 → ww_M → Prop}  (h : (∃ j1 : Nat, x2 = nI j1 ∧ j1 < 84 ∧ (τ (34, 0) j1 ≤ x3 → Post x3 τ) ∧ (¬ (τ (34, 0) j1 ≤ x3) → ((τ (30, 0) 12 ≤ x1 + x3 → Post x3 τ) ∧ (¬ (τ (30, 0) 12 ≤ x1 + x3) → (∃ j2 : Nat, x1 + x3 = nI j2 ∧ j2 < 700 ∧ (∃ j3 : Nat, ((nI 14) * x2) + x3 = nI j3 ∧ j3 < 1176 ∧ (¬ τ (39, 0) j2 = τ (33, 0) j3 → Post x3 τ) ∧ (τ (39, 0) j2 = τ (33, 0) j3 → ww_W g mX6_matches E (ww_QI Post) 2 [some (.inr (.inr (30, 0))), some (.inl x1), some (.inl x2), some (.inl (x3 + nI 1))] [] τ)))))))) : ww_W g mX6_matches E (ww_QI Post) 2 [some (.inr (.inr (30, 0))), some (.inl x1), some (.inl x2), some (.inl x3)] [] τ := by
  refine ww_iload_n 3 dX6_matches_2 rfl 3 rfl rfl ?_
  refine ww_aload_n 4 dX6_matches_3 rfl 0 rfl rfl ?_
  refine ww_getR 4 7 dX6_matches_4 wf_X6_19 (ww_i1 30 (by decide)) rfl rfl rfl ?_
  refine ww_iload_n 8 dX6_matches_7 rfl 2 rfl rfl ?_
  obtain ⟨j1, hij1, hj1, h⟩ := h
  refine ww_iald j1 9 dX6_matches_8 (ww_i1 34 (by decide)) rfl (by decide) hij1 hj1 rfl ?_
  refine ww_ic_ge 50 12 dX6_matches_9 (by decide) rfl (fun c => ?_) (fun c => ?_)
  · replace h := h.1 c
    refine ww_iload_n 51 dX6_matches_50 rfl 3 rfl rfl ?_
    exact ww_iret dX6_matches_51 rfl ⟨_, rfl, h⟩
  · replace h := h.2 c
    refine ww_iload_n 13 dX6_matches_12 rfl 1 rfl rfl ?_
    refine ww_iload_n 14 dX6_matches_13 rfl 3 rfl rfl ?_
    refine ww_iadd 15 dX6_matches_14 rfl ?_
    refine ww_aload_n 16 dX6_matches_15 rfl 0 rfl rfl ?_
    refine ww_getI 12 19 dX6_matches_16 wf_X6_72 (ww_i1 30 (by decide)) rfl rfl rfl ?_
    refine ww_ic_ge 50 22 dX6_matches_19 (by decide) rfl (fun c => ?_) (fun c => ?_)
    · replace h := h.1 c
      refine ww_iload_n 51 dX6_matches_50 rfl 3 rfl rfl ?_
      exact ww_iret dX6_matches_51 rfl ⟨_, rfl, h⟩
    · replace h := h.2 c
      refine ww_aload_n 23 dX6_matches_22 rfl 0 rfl rfl ?_
      refine ww_getR 11 26 dX6_matches_23 wf_X6_34 (ww_i1 30 (by decide)) rfl rfl rfl ?_
      refine ww_iload_n 27 dX6_matches_26 rfl 1 rfl rfl ?_
      refine ww_iload_n 28 dX6_matches_27 rfl 3 rfl rfl ?_
      refine ww_iadd 29 dX6_matches_28 rfl ?_
      obtain ⟨j2, hij2, hj2, h⟩ := h
      refine ww_iald j2 30 dX6_matches_29 (ww_i1 39 (by decide)) rfl (by decide) hij2 hj2 rfl ?_
      refine ww_aload_n 31 dX6_matches_30 rfl 0 rfl rfl ?_
      refine ww_getR 3 34 dX6_matches_31 wf_X6_16 (ww_i1 30 (by decide)) rfl rfl rfl ?_
      refine ww_bipush (v := nI 14) 36 dX6_matches_34 (by decide) rfl ?_
      refine ww_iload_n 37 dX6_matches_36 rfl 2 rfl rfl ?_
      refine ww_imul 38 dX6_matches_37 rfl ?_
      refine ww_iload_n 39 dX6_matches_38 rfl 3 rfl rfl ?_
      refine ww_iadd 40 dX6_matches_39 rfl ?_
      obtain ⟨j3, hij3, hj3, h⟩ := h
      refine ww_iald j3 41 dX6_matches_40 (ww_i1 33 (by decide)) rfl (by decide) hij3 hj3 rfl ?_
      refine ww_ic_ne 50 44 dX6_matches_41 (by decide) rfl (fun c => ?_) (fun c => ?_)
      · replace h := h.1 c
        refine ww_iload_n 51 dX6_matches_50 rfl 3 rfl rfl ?_
        exact ww_iret dX6_matches_51 rfl ⟨_, rfl, h⟩
      · replace h := h.2 c
        refine ww_iinc (nI 1) 47 3 dX6_matches_44 (by decide) rfl rfl (by decide) rfl [some (.inr (.inr (30, 0))), some (.inl x1), some (.inl x2), some (.inl (x3 + nI 1))] rfl ?_
        refine ww_goto 2 dX6_matches_47 (by decide) ?_
        exact h
theorem b_X6_saves {l : Launch} {g : ww_G} {τ : ww_M} {a0 : Int32} {a1 : Int32} {Post : Int32 → ww_M → Prop}  (h : ∀ E : ww_E, Post ((a0 + a0) - a1) τ) : ww_T l g mX6_saves [.inl a0, .inl a1] τ (ww_QI Post) := by
  refine ww_enter (P := [some (.inl a0), some (.inl a1)]) (by decide) (Nat.le_of_ble_eq_true rfl) rfl (fun E => ?_)
  replace h := h E
  refine ww_iload_n 1 dX6_saves_0 rfl 0 rfl rfl ?_
  refine ww_iload_n 2 dX6_saves_1 rfl 0 rfl rfl ?_
  refine ww_iadd 3 dX6_saves_2 rfl ?_
  refine ww_iload_n 4 dX6_saves_3 rfl 1 rfl rfl ?_
  refine ww_isub 5 dX6_saves_4 rfl ?_
  exact ww_iret dX6_saves_5 rfl ⟨_, rfl, h⟩
theorem b_X6_isBetter {l : Launch} {g : ww_G} {τ : ww_M} {a1 : Int32} {a2 : Int32} {a3 : Int32} {Post : Int32 → ww_M → Prop}  (h : ∀ E : ww_E, ((¬ a1 = τ (30, 0) 14 → ww_W g mX6_isBetter E (ww_QI Post) 21 [some (.inr (.inr (30, 0))), some (.inl a1), some (.inl a2), some (.inl a3), none, none] [.inl (nI 0)] τ) ∧ (a1 = τ (30, 0) 14 → ((a3 ≤ τ (30, 0) 16 → ww_W g mX6_isBetter E (ww_QI Post) 21 [some (.inr (.inr (30, 0))), some (.inl a1), some (.inl a2), some (.inl a3), none, none] [.inl (nI 0)] τ) ∧ (¬ (a3 ≤ τ (30, 0) 16) → ww_W g mX6_isBetter E (ww_QI Post) 21 [some (.inr (.inr (30, 0))), some (.inl a1), some (.inl a2), some (.inl a3), none, none] [.inl (nI 1)] τ))))) : ww_T l g mX6_isBetter [.inr (.inr (30, 0)), .inl a1, .inl a2, .inl a3] τ (ww_QI Post) := by
  refine ww_enter (P := [some (.inr (.inr (30, 0))), some (.inl a1), some (.inl a2), some (.inl a3), none, none]) (by decide) (Nat.le_of_ble_eq_true rfl) rfl (fun E => ?_)
  replace h := h E
  refine ww_iload_n 1 dX6_isBetter_0 rfl 1 rfl rfl ?_
  refine ww_aload_n 2 dX6_isBetter_1 rfl 0 rfl rfl ?_
  refine ww_getI 14 5 dX6_isBetter_2 wf_X6_183 (ww_i1 30 (by decide)) rfl rfl rfl ?_
  refine ww_ic_ne 20 8 dX6_isBetter_5 (by decide) rfl (fun c => ?_) (fun c => ?_)
  · replace h := h.1 c
    refine ww_iconst (v := nI 0) 21 dX6_isBetter_20 (by decide) rfl ?_
    exact h
  · replace h := h.2 c
    refine ww_iload_n 9 dX6_isBetter_8 rfl 3 rfl rfl ?_
    refine ww_aload_n 10 dX6_isBetter_9 rfl 0 rfl rfl ?_
    refine ww_getI 16 13 dX6_isBetter_10 wf_X6_186 (ww_i1 30 (by decide)) rfl rfl rfl ?_
    refine ww_ic_le 20 16 dX6_isBetter_13 (by decide) rfl (fun c => ?_) (fun c => ?_)
    · replace h := h.1 c
      refine ww_iconst (v := nI 0) 21 dX6_isBetter_20 (by decide) rfl ?_
      exact h
    · replace h := h.2 c
      refine ww_iconst (v := nI 1) 17 dX6_isBetter_16 (by decide) rfl ?_
      refine ww_goto 21 dX6_isBetter_17 (by decide) ?_
      exact h
theorem b_X6_isBetter_21 {g : ww_G} {E : ww_E} {τ : ww_M} {x1 : Int32} {x2 : Int32} {x3 : Int32} {y0 : Int32} {Post : Int32 → ww_M → Prop}  (h : (∃ j1 : Nat, x2 = nI j1 ∧ j1 < 84 ∧ (∃ Q2 : Int32 → ww_M → Prop, ww_T E.2.1 g mX6_saves [.inl x3, .inl (τ (34, 0) j1)] τ (ww_QI Q2) ∧ ∀ (v3 : Int32) (τ4 : ww_M), Q2 v3 τ4 → (∃ j5 : Nat, τ4 (30, 0) 15 = nI j5 ∧ j5 < 84 ∧ (∃ Q6 : Int32 → ww_M → Prop, ww_T E.2.1 g mX6_saves [.inl (τ4 (30, 0) 16), .inl (τ4 (34, 0) j5)] τ4 (ww_QI Q6) ∧ ∀ (v7 : Int32) (τ8 : ww_M), Q6 v7 τ8 → (τ8 (30, 0) 10 = nI 1 → ((τ8 (30, 0) 14 < x1 → Post (nI 1) τ8) ∧ (¬ (τ8 (30, 0) 14 < x1) → ((y0 = nI 0 → Post (nI 0) τ8) ∧ (¬ y0 = nI 0 → Post (nI 1) τ8))))) ∧ (τ8 (30, 0) 10 = nI 2 → ((v3 - v7 ≤ nI 0 → Post (nI 0) τ8) ∧ (¬ (v3 - v7 ≤ nI 0) → Post (nI 1) τ8))) ∧ (τ8 (30, 0) 10 = nI 3 → ((nI 0 ≤ v3 - v7 → Post (nI 0) τ8) ∧ (¬ (nI 0 ≤ v3 - v7) → Post (nI 1) τ8))) ∧ (τ8 (30, 0) 10 = nI 4 → ((x3 ≤ τ8 (30, 0) 16 → Post (nI 0) τ8) ∧ (¬ (x3 ≤ τ8 (30, 0) 16) → Post (nI 1) τ8))) ∧ (¬ τ8 (30, 0) 10 = nI 1 → ¬ τ8 (30, 0) 10 = nI 2 → ¬ τ8 (30, 0) 10 = nI 3 → ¬ τ8 (30, 0) 10 = nI 4 → ((y0 = nI 0 ∨ y0 = nI 1) ∧ Post y0 τ8))))))) : ww_W g mX6_isBetter E (ww_QI Post) 21 [some (.inr (.inr (30, 0))), some (.inl x1), some (.inl x2), some (.inl x3), none, none] [.inl y0] τ := by
  refine ww_istore 23 4 dX6_isBetter_21 rfl (by decide) rfl [some (.inr (.inr (30, 0))), some (.inl x1), some (.inl x2), some (.inl x3), some (.inl y0), none] rfl ?_
  refine ww_iload_n 24 dX6_isBetter_23 rfl 3 rfl rfl ?_
  refine ww_aload_n 25 dX6_isBetter_24 rfl 0 rfl rfl ?_
  refine ww_getR 4 28 dX6_isBetter_25 wf_X6_19 (ww_i1 30 (by decide)) rfl rfl rfl ?_
  refine ww_iload_n 29 dX6_isBetter_28 rfl 2 rfl rfl ?_
  obtain ⟨j1, hij1, hj1, h⟩ := h
  refine ww_iald j1 30 dX6_isBetter_29 (ww_i1 34 (by decide)) rfl (by decide) hij1 hj1 rfl ?_
  obtain ⟨Q2, hT, h⟩ := h
  refine ww_invSI (d' := mX6_saves) [.inl x3, .inl (τ (34, 0) j1)] rfl 33 dX6_isBetter_30 ⟨wi_X6, wc_X6_saves, wp_X6_saves, by decide, by decide⟩ (Or.inl wl_X6_189) wn_X6_saves (Nat.le_of_ble_eq_true rfl) rfl hT (fun v3 τ4 hq => ?_)
  replace h := h v3 τ4 hq
  refine ww_aload_n 34 dX6_isBetter_33 rfl 0 rfl rfl ?_
  refine ww_getI 16 37 dX6_isBetter_34 wf_X6_186 (ww_i1 30 (by decide)) rfl rfl rfl ?_
  refine ww_aload_n 38 dX6_isBetter_37 rfl 0 rfl rfl ?_
  refine ww_getR 4 41 dX6_isBetter_38 wf_X6_19 (ww_i1 30 (by decide)) rfl rfl rfl ?_
  refine ww_aload_n 42 dX6_isBetter_41 rfl 0 rfl rfl ?_
  refine ww_getI 15 45 dX6_isBetter_42 wf_X6_192 (ww_i1 30 (by decide)) rfl rfl rfl ?_
  obtain ⟨j5, hij5, hj5, h⟩ := h
  refine ww_iald j5 46 dX6_isBetter_45 (ww_i1 34 (by decide)) rfl (by decide) hij5 hj5 rfl ?_
  obtain ⟨Q6, hT, h⟩ := h
  refine ww_invSI (d' := mX6_saves) [.inl (τ4 (30, 0) 16), .inl (τ4 (34, 0) j5)] rfl 49 dX6_isBetter_46 ⟨wi_X6, wc_X6_saves, wp_X6_saves, by decide, by decide⟩ (Or.inl wl_X6_189) wn_X6_saves (Nat.le_of_ble_eq_true rfl) rfl hT (fun v7 τ8 hq => ?_)
  replace h := h v7 τ8 hq
  refine ww_isub 50 dX6_isBetter_49 rfl ?_
  refine ww_istore 52 5 dX6_isBetter_50 rfl (by decide) rfl [some (.inr (.inr (30, 0))), some (.inl x1), some (.inl x2), some (.inl x3), some (.inl y0), some (.inl (v3 - v7))] rfl ?_
  refine ww_aload_n 53 dX6_isBetter_52 rfl 0 rfl rfl ?_
  refine ww_getI 10 56 dX6_isBetter_53 wf_X6_153 (ww_i1 30 (by decide)) rfl rfl rfl ?_
  refine ww_tsw [(nI 1, 88), (nI 2, 107), (nI 3, 118), (nI 4, 129)] 143 dX6_isBetter_56 (by decide) ?_ ?_
  · refine List.forall_mem_cons.mpr ⟨fun c => ?_, List.forall_mem_cons.mpr ⟨fun c => ?_, List.forall_mem_cons.mpr ⟨fun c => ?_, List.forall_mem_cons.mpr ⟨fun c => ?_, fun _ h9 => absurd h9 List.not_mem_nil⟩⟩⟩⟩
    · replace h := h.1 c
      refine ww_iload_n 89 dX6_isBetter_88 rfl 1 rfl rfl ?_
      refine ww_aload_n 90 dX6_isBetter_89 rfl 0 rfl rfl ?_
      refine ww_getI 14 93 dX6_isBetter_90 wf_X6_183 (ww_i1 30 (by decide)) rfl rfl rfl ?_
      refine ww_ic_gt 101 96 dX6_isBetter_93 (by decide) rfl (fun c => ?_) (fun c => ?_)
      · replace h := h.1 c
        refine ww_iconst (v := nI 1) 102 dX6_isBetter_101 (by decide) rfl ?_
        refine ww_goto 106 dX6_isBetter_102 (by decide) ?_
        exact ww_zret dX6_isBetter_106 rfl (Or.inr rfl) ⟨_, rfl, h⟩
      · replace h := h.2 c
        refine ww_iload 98 4 dX6_isBetter_96 rfl rfl ?_
        refine ww_if_eq 105 101 dX6_isBetter_98 (by decide) rfl (fun c => ?_) (fun c => ?_)
        · replace h := h.1 c
          refine ww_iconst (v := nI 0) 106 dX6_isBetter_105 (by decide) rfl ?_
          exact ww_zret dX6_isBetter_106 rfl (Or.inl rfl) ⟨_, rfl, h⟩
        · replace h := h.2 c
          refine ww_iconst (v := nI 1) 102 dX6_isBetter_101 (by decide) rfl ?_
          refine ww_goto 106 dX6_isBetter_102 (by decide) ?_
          exact ww_zret dX6_isBetter_106 rfl (Or.inr rfl) ⟨_, rfl, h⟩
    · replace h := h.2.1 c
      refine ww_iload 109 5 dX6_isBetter_107 rfl rfl ?_
      refine ww_if_le 116 112 dX6_isBetter_109 (by decide) rfl (fun c => ?_) (fun c => ?_)
      · replace h := h.1 c
        refine ww_iconst (v := nI 0) 117 dX6_isBetter_116 (by decide) rfl ?_
        exact ww_zret dX6_isBetter_117 rfl (Or.inl rfl) ⟨_, rfl, h⟩
      · replace h := h.2 c
        refine ww_iconst (v := nI 1) 113 dX6_isBetter_112 (by decide) rfl ?_
        refine ww_goto 117 dX6_isBetter_113 (by decide) ?_
        exact ww_zret dX6_isBetter_117 rfl (Or.inr rfl) ⟨_, rfl, h⟩
    · replace h := h.2.2.1 c
      refine ww_iload 120 5 dX6_isBetter_118 rfl rfl ?_
      refine ww_if_ge 127 123 dX6_isBetter_120 (by decide) rfl (fun c => ?_) (fun c => ?_)
      · replace h := h.1 c
        refine ww_iconst (v := nI 0) 128 dX6_isBetter_127 (by decide) rfl ?_
        exact ww_zret dX6_isBetter_128 rfl (Or.inl rfl) ⟨_, rfl, h⟩
      · replace h := h.2 c
        refine ww_iconst (v := nI 1) 124 dX6_isBetter_123 (by decide) rfl ?_
        refine ww_goto 128 dX6_isBetter_124 (by decide) ?_
        exact ww_zret dX6_isBetter_128 rfl (Or.inr rfl) ⟨_, rfl, h⟩
    · replace h := h.2.2.2.1 c
      refine ww_iload_n 130 dX6_isBetter_129 rfl 3 rfl rfl ?_
      refine ww_aload_n 131 dX6_isBetter_130 rfl 0 rfl rfl ?_
      refine ww_getI 16 134 dX6_isBetter_131 wf_X6_186 (ww_i1 30 (by decide)) rfl rfl rfl ?_
      refine ww_ic_le 141 137 dX6_isBetter_134 (by decide) rfl (fun c => ?_) (fun c => ?_)
      · replace h := h.1 c
        refine ww_iconst (v := nI 0) 142 dX6_isBetter_141 (by decide) rfl ?_
        exact ww_zret dX6_isBetter_142 rfl (Or.inl rfl) ⟨_, rfl, h⟩
      · replace h := h.2 c
        refine ww_iconst (v := nI 1) 138 dX6_isBetter_137 (by decide) rfl ?_
        refine ww_goto 142 dX6_isBetter_138 (by decide) ?_
        exact ww_zret dX6_isBetter_142 rfl (Or.inr rfl) ⟨_, rfl, h⟩
  · intro c
    replace h := h.2.2.2.2 (c _ (List.mem_of_getElem? (i := 0) rfl)) (c _ (List.mem_of_getElem? (i := 1) rfl)) (c _ (List.mem_of_getElem? (i := 2) rfl)) (c _ (List.mem_of_getElem? (i := 3) rfl))
    refine ww_iload 145 4 dX6_isBetter_143 rfl rfl ?_
    exact ww_zret dX6_isBetter_145 rfl h.1 ⟨_, rfl, h.2⟩
theorem b_X6_findCut {l : Launch} {g : ww_G} {τ : ww_M}  {Post : ww_M → Prop}  (h : ∀ E : ww_E, (∀ τ1 : ww_M, τ1 = ww_up τ (30, 0) 14 (-1 : Int32) → (∀ τ2 : ww_M, τ2 = ww_up τ1 (30, 0) 17 (nI 0) → ww_W g mX6_findCut E (ww_QV Post) 12 [some (.inr (.inr (30, 0))), some (.inl (nI 0)), none, none] [] τ2))) : ww_T l g mX6_findCut [.inr (.inr (30, 0))] τ (ww_QV Post) := by
  refine ww_enter (P := [some (.inr (.inr (30, 0))), none, none, none]) (by decide) (Nat.le_of_ble_eq_true rfl) rfl (fun E => ?_)
  replace h := h E
  refine ww_aload_n 1 dX6_findCut_0 rfl 0 rfl rfl ?_
  refine ww_iconst (v := (-1 : Int32)) 2 dX6_findCut_1 (by decide) rfl ?_
  refine ww_putI 14 5 dX6_findCut_2 wf_X6_183 fp_X6_14 (ww_i1 30 (by decide)) rfl rfl rfl (fun τ1 eτ1 => ?_)
  replace h := h τ1 eτ1
  refine ww_aload_n 6 dX6_findCut_5 rfl 0 rfl rfl ?_
  refine ww_iconst (v := nI 0) 7 dX6_findCut_6 (by decide) rfl ?_
  refine ww_putI 17 10 dX6_findCut_7 wf_X6_195 fp_X6_17 (ww_i1 30 (by decide)) rfl rfl rfl (fun τ2 eτ2 => ?_)
  replace h := h τ2 eτ2
  refine ww_iconst (v := nI 0) 11 dX6_findCut_10 (by decide) rfl ?_
  refine ww_istore_n 12 dX6_findCut_11 rfl 1 rfl (by decide) rfl [some (.inr (.inr (30, 0))), some (.inl (nI 0)), none, none] rfl ?_
  exact h
theorem b_X6_findCut_12 {g : ww_G} {E : ww_E} {τ : ww_M} {x1 : Int32} {Post : ww_M → Prop}  (h : ((τ (30, 0) 12 ≤ x1 → Post τ) ∧ (¬ (τ (30, 0) 12 ≤ x1) → ww_W g mX6_findCut E (ww_QV Post) 22 [some (.inr (.inr (30, 0))), some (.inl x1), some (.inl (nI 0)), none] [] τ))) : ww_W g mX6_findCut E (ww_QV Post) 12 [some (.inr (.inr (30, 0))), some (.inl x1), none, none] [] τ := by
  refine ww_iload_n 13 dX6_findCut_12 rfl 1 rfl rfl ?_
  refine ww_aload_n 14 dX6_findCut_13 rfl 0 rfl rfl ?_
  refine ww_getI 12 17 dX6_findCut_14 wf_X6_72 (ww_i1 30 (by decide)) rfl rfl rfl ?_
  refine ww_ic_ge 104 20 dX6_findCut_17 (by decide) rfl (fun c => ?_) (fun c => ?_)
  · replace h := h.1 c
    exact ww_vret dX6_findCut_104 rfl ⟨rfl, h⟩
  · replace h := h.2 c
    refine ww_iconst (v := nI 0) 21 dX6_findCut_20 (by decide) rfl ?_
    refine ww_istore_n 22 dX6_findCut_21 rfl 2 rfl (by decide) rfl [some (.inr (.inr (30, 0))), some (.inl x1), some (.inl (nI 0)), none] rfl ?_
    exact h
theorem b_X6_findCut_22 {g : ww_G} {E : ww_E} {τ : ww_M} {x1 : Int32} {x2 : Int32} {Post : ww_M → Prop}  (h : ((τ (30, 0) 6 ≤ x2 → ww_W g mX6_findCut E (ww_QV Post) 12 [some (.inr (.inr (30, 0))), some (.inl (x1 + nI 1)), none, none] [] τ) ∧ (¬ (τ (30, 0) 6 ≤ x2) → (∃ Q1 : Int32 → ww_M → Prop, ww_T E.2.1 g mX6_matches [.inr (.inr (30, 0)), .inl x1, .inl x2] τ (ww_QI Q1) ∧ ∀ (v2 : Int32) (τ3 : ww_M), Q1 v2 τ3 → (∃ j4 : Nat, x2 = nI j4 ∧ j4 < 84 ∧ (∃ Q5 : Int32 → ww_M → Prop, ww_T E.2.1 g mX6_saves [.inl v2, .inl (τ3 (34, 0) j4)] τ3 (ww_QI Q5) ∧ ∀ (v6 : Int32) (τ7 : ww_M), Q5 v6 τ7 → (v6 ≤ nI 0 → ww_W g mX6_findCut E (ww_QV Post) 22 [some (.inr (.inr (30, 0))), some (.inl x1), some (.inl (x2 + nI 1)), none] [] τ7) ∧ (¬ (v6 ≤ nI 0) → (∀ τ8 : ww_M, τ8 = ww_up τ7 (30, 0) 17 ((τ7 (30, 0) 17) + (nI 1)) → (τ8 (30, 0) 14 < nI 0 → (∀ τ9 : ww_M, τ9 = ww_up τ8 (30, 0) 14 x1 → (∀ τ10 : ww_M, τ10 = ww_up τ9 (30, 0) 15 x2 → (∀ τ11 : ww_M, τ11 = ww_up τ10 (30, 0) 16 v2 → ww_W g mX6_findCut E (ww_QV Post) 22 [some (.inr (.inr (30, 0))), some (.inl x1), some (.inl (x2 + nI 1)), none] [] τ11)))) ∧ (¬ (τ8 (30, 0) 14 < nI 0) → (∃ Q12 : Int32 → ww_M → Prop, ww_T E.2.1 g mX6_isBetter [.inr (.inr (30, 0)), .inl x1, .inl x2, .inl v2] τ8 (ww_QI Q12) ∧ ∀ (v13 : Int32) (τ14 : ww_M), Q12 v13 τ14 → (v13 = nI 0 → ww_W g mX6_findCut E (ww_QV Post) 22 [some (.inr (.inr (30, 0))), some (.inl x1), some (.inl (x2 + nI 1)), none] [] τ14) ∧ (¬ v13 = nI 0 → (∀ τ15 : ww_M, τ15 = ww_up τ14 (30, 0) 14 x1 → (∀ τ16 : ww_M, τ16 = ww_up τ15 (30, 0) 15 x2 → (∀ τ17 : ww_M, τ17 = ww_up τ16 (30, 0) 16 v2 → ww_W g mX6_findCut E (ww_QV Post) 22 [some (.inr (.inr (30, 0))), some (.inl x1), some (.inl (x2 + nI 1)), none] [] τ17)))))))))))))) : ww_W g mX6_findCut E (ww_QV Post) 22 [some (.inr (.inr (30, 0))), some (.inl x1), some (.inl x2), none] [] τ := by
  refine ww_iload_n 23 dX6_findCut_22 rfl 2 rfl rfl ?_
  refine ww_aload_n 24 dX6_findCut_23 rfl 0 rfl rfl ?_
  refine ww_getI 6 27 dX6_findCut_24 wf_X6_98 (ww_i1 30 (by decide)) rfl rfl rfl ?_
  refine ww_ic_ge 98 30 dX6_findCut_27 (by decide) rfl (fun c => ?_) (fun c => ?_)
  · replace h := h.1 c
    refine ww_iinc (nI 1) 101 1 dX6_findCut_98 (by decide) rfl rfl (by decide) rfl [some (.inr (.inr (30, 0))), some (.inl (x1 + nI 1)), some (.inl x2), none] rfl ?_
    refine ww_goto 12 dX6_findCut_101 (by decide) ?_
    exact ww_weak (ww_le_s (ww_le_s (ww_le_n (ww_le_n (ww_le_nil _))))) h
  · replace h := h.2 c
    refine ww_aload_n 31 dX6_findCut_30 rfl 0 rfl rfl ?_
    refine ww_iload_n 32 dX6_findCut_31 rfl 1 rfl rfl ?_
    refine ww_iload_n 33 dX6_findCut_32 rfl 2 rfl rfl ?_
    obtain ⟨Q1, hT, h⟩ := h
    refine ww_invVI (d' := mX6_matches) [.inl x1, .inl x2] rfl 36 dX6_findCut_33 ⟨wi_X6, wc_X6_matches, wp_X6_matches, by decide, by decide⟩ wl_X6_198 wn_X6_matches we_X6_matches (ww_i1 30 (by decide)) rfl rfl (Nat.le_of_ble_eq_true rfl) rfl hT (fun v2 τ3 hq => ?_)
    replace h := h v2 τ3 hq
    refine ww_istore_n 37 dX6_findCut_36 rfl 3 rfl (by decide) rfl [some (.inr (.inr (30, 0))), some (.inl x1), some (.inl x2), some (.inl v2)] rfl ?_
    refine ww_iload_n 38 dX6_findCut_37 rfl 3 rfl rfl ?_
    refine ww_aload_n 39 dX6_findCut_38 rfl 0 rfl rfl ?_
    refine ww_getR 4 42 dX6_findCut_39 wf_X6_19 (ww_i1 30 (by decide)) rfl rfl rfl ?_
    refine ww_iload_n 43 dX6_findCut_42 rfl 2 rfl rfl ?_
    obtain ⟨j4, hij4, hj4, h⟩ := h
    refine ww_iald j4 44 dX6_findCut_43 (ww_i1 34 (by decide)) rfl (by decide) hij4 hj4 rfl ?_
    obtain ⟨Q5, hT, h⟩ := h
    refine ww_invSI (d' := mX6_saves) [.inl v2, .inl (τ3 (34, 0) j4)] rfl 47 dX6_findCut_44 ⟨wi_X6, wc_X6_saves, wp_X6_saves, by decide, by decide⟩ (Or.inl wl_X6_189) wn_X6_saves (Nat.le_of_ble_eq_true rfl) rfl hT (fun v6 τ7 hq => ?_)
    replace h := h v6 τ7 hq
    refine ww_if_le 92 50 dX6_findCut_47 (by decide) rfl (fun c => ?_) (fun c => ?_)
    · replace h := h.1 c
      refine ww_iinc (nI 1) 95 2 dX6_findCut_92 (by decide) rfl rfl (by decide) rfl [some (.inr (.inr (30, 0))), some (.inl x1), some (.inl (x2 + nI 1)), some (.inl v2)] rfl ?_
      refine ww_goto 22 dX6_findCut_95 (by decide) ?_
      exact ww_weak (ww_le_s (ww_le_s (ww_le_s (ww_le_n (ww_le_nil _))))) h
    · replace h := h.2 c
      refine ww_aload_n 51 dX6_findCut_50 rfl 0 rfl rfl ?_
      refine ww_dup 52 dX6_findCut_51 rfl rfl ?_
      refine ww_getI 17 55 dX6_findCut_52 wf_X6_195 (ww_i1 30 (by decide)) rfl rfl rfl ?_
      refine ww_iconst (v := nI 1) 56 dX6_findCut_55 (by decide) rfl ?_
      refine ww_iadd 57 dX6_findCut_56 rfl ?_
      refine ww_putI 17 60 dX6_findCut_57 wf_X6_195 fp_X6_17 (ww_i1 30 (by decide)) rfl rfl rfl (fun τ8 eτ8 => ?_)
      replace h := h τ8 eτ8
      refine ww_aload_n 61 dX6_findCut_60 rfl 0 rfl rfl ?_
      refine ww_getI 14 64 dX6_findCut_61 wf_X6_183 (ww_i1 30 (by decide)) rfl rfl rfl ?_
      refine ww_if_lt 77 67 dX6_findCut_64 (by decide) rfl (fun c => ?_) (fun c => ?_)
      · replace h := h.1 c
        refine ww_aload_n 78 dX6_findCut_77 rfl 0 rfl rfl ?_
        refine ww_iload_n 79 dX6_findCut_78 rfl 1 rfl rfl ?_
        refine ww_putI 14 82 dX6_findCut_79 wf_X6_183 fp_X6_14 (ww_i1 30 (by decide)) rfl rfl rfl (fun τ9 eτ9 => ?_)
        replace h := h τ9 eτ9
        refine ww_aload_n 83 dX6_findCut_82 rfl 0 rfl rfl ?_
        refine ww_iload_n 84 dX6_findCut_83 rfl 2 rfl rfl ?_
        refine ww_putI 15 87 dX6_findCut_84 wf_X6_192 fp_X6_15 (ww_i1 30 (by decide)) rfl rfl rfl (fun τ10 eτ10 => ?_)
        replace h := h τ10 eτ10
        refine ww_aload_n 88 dX6_findCut_87 rfl 0 rfl rfl ?_
        refine ww_iload_n 89 dX6_findCut_88 rfl 3 rfl rfl ?_
        refine ww_putI 16 92 dX6_findCut_89 wf_X6_186 fp_X6_16 (ww_i1 30 (by decide)) rfl rfl rfl (fun τ11 eτ11 => ?_)
        replace h := h τ11 eτ11
        refine ww_iinc (nI 1) 95 2 dX6_findCut_92 (by decide) rfl rfl (by decide) rfl [some (.inr (.inr (30, 0))), some (.inl x1), some (.inl (x2 + nI 1)), some (.inl v2)] rfl ?_
        refine ww_goto 22 dX6_findCut_95 (by decide) ?_
        exact ww_weak (ww_le_s (ww_le_s (ww_le_s (ww_le_n (ww_le_nil _))))) h
      · replace h := h.2 c
        refine ww_aload_n 68 dX6_findCut_67 rfl 0 rfl rfl ?_
        refine ww_iload_n 69 dX6_findCut_68 rfl 1 rfl rfl ?_
        refine ww_iload_n 70 dX6_findCut_69 rfl 2 rfl rfl ?_
        refine ww_iload_n 71 dX6_findCut_70 rfl 3 rfl rfl ?_
        obtain ⟨Q12, hT, h⟩ := h
        refine ww_invVI (d' := mX6_isBetter) [.inl x1, .inl x2, .inl v2] rfl 74 dX6_findCut_71 ⟨wi_X6, wc_X6_isBetter, wp_X6_isBetter, by decide, by decide⟩ wl_X6_201 wn_X6_isBetter we_X6_isBetter (ww_i1 30 (by decide)) rfl rfl (Nat.le_of_ble_eq_true rfl) rfl hT (fun v13 τ14 hq => ?_)
        replace h := h v13 τ14 hq
        refine ww_if_eq 92 77 dX6_findCut_74 (by decide) rfl (fun c => ?_) (fun c => ?_)
        · replace h := h.1 c
          refine ww_iinc (nI 1) 95 2 dX6_findCut_92 (by decide) rfl rfl (by decide) rfl [some (.inr (.inr (30, 0))), some (.inl x1), some (.inl (x2 + nI 1)), some (.inl v2)] rfl ?_
          refine ww_goto 22 dX6_findCut_95 (by decide) ?_
          exact ww_weak (ww_le_s (ww_le_s (ww_le_s (ww_le_n (ww_le_nil _))))) h
        · replace h := h.2 c
          refine ww_aload_n 78 dX6_findCut_77 rfl 0 rfl rfl ?_
          refine ww_iload_n 79 dX6_findCut_78 rfl 1 rfl rfl ?_
          refine ww_putI 14 82 dX6_findCut_79 wf_X6_183 fp_X6_14 (ww_i1 30 (by decide)) rfl rfl rfl (fun τ15 eτ15 => ?_)
          replace h := h τ15 eτ15
          refine ww_aload_n 83 dX6_findCut_82 rfl 0 rfl rfl ?_
          refine ww_iload_n 84 dX6_findCut_83 rfl 2 rfl rfl ?_
          refine ww_putI 15 87 dX6_findCut_84 wf_X6_192 fp_X6_15 (ww_i1 30 (by decide)) rfl rfl rfl (fun τ16 eτ16 => ?_)
          replace h := h τ16 eτ16
          refine ww_aload_n 88 dX6_findCut_87 rfl 0 rfl rfl ?_
          refine ww_iload_n 89 dX6_findCut_88 rfl 3 rfl rfl ?_
          refine ww_putI 16 92 dX6_findCut_89 wf_X6_186 fp_X6_16 (ww_i1 30 (by decide)) rfl rfl rfl (fun τ17 eτ17 => ?_)
          replace h := h τ17 eτ17
          refine ww_iinc (nI 1) 95 2 dX6_findCut_92 (by decide) rfl rfl (by decide) rfl [some (.inr (.inr (30, 0))), some (.inl x1), some (.inl (x2 + nI 1)), some (.inl v2)] rfl ?_
          refine ww_goto 22 dX6_findCut_95 (by decide) ?_
          exact ww_weak (ww_le_s (ww_le_s (ww_le_s (ww_le_n (ww_le_nil _))))) h
theorem b_X6_doCut {l : Launch} {g : ww_G} {τ : ww_M}  {Post : ww_M → Prop}  (h : ∀ E : ww_E, ww_W g mX6_doCut E (ww_QV Post) 19 [some (.inr (.inr (30, 0))), some (.inl ((τ (30, 0) 14) + (τ (30, 0) 16))), some (.inl ((τ (30, 0) 12) - ((τ (30, 0) 14) + (τ (30, 0) 16)))), some (.inl (nI 0))] [] τ) : ww_T l g mX6_doCut [.inr (.inr (30, 0))] τ (ww_QV Post) := by
  refine ww_enter (P := [some (.inr (.inr (30, 0))), none, none, none]) (by decide) (Nat.le_of_ble_eq_true rfl) rfl (fun E => ?_)
  replace h := h E
  refine ww_aload_n 1 dX6_doCut_0 rfl 0 rfl rfl ?_
  refine ww_getI 14 4 dX6_doCut_1 wf_X6_183 (ww_i1 30 (by decide)) rfl rfl rfl ?_
  refine ww_aload_n 5 dX6_doCut_4 rfl 0 rfl rfl ?_
  refine ww_getI 16 8 dX6_doCut_5 wf_X6_186 (ww_i1 30 (by decide)) rfl rfl rfl ?_
  refine ww_iadd 9 dX6_doCut_8 rfl ?_
  refine ww_istore_n 10 dX6_doCut_9 rfl 1 rfl (by decide) rfl [some (.inr (.inr (30, 0))), some (.inl ((τ (30, 0) 14) + (τ (30, 0) 16))), none, none] rfl ?_
  refine ww_aload_n 11 dX6_doCut_10 rfl 0 rfl rfl ?_
  refine ww_getI 12 14 dX6_doCut_11 wf_X6_72 (ww_i1 30 (by decide)) rfl rfl rfl ?_
  refine ww_iload_n 15 dX6_doCut_14 rfl 1 rfl rfl ?_
  refine ww_isub 16 dX6_doCut_15 rfl ?_
  refine ww_istore_n 17 dX6_doCut_16 rfl 2 rfl (by decide) rfl [some (.inr (.inr (30, 0))), some (.inl ((τ (30, 0) 14) + (τ (30, 0) 16))), some (.inl ((τ (30, 0) 12) - ((τ (30, 0) 14) + (τ (30, 0) 16)))), none] rfl ?_
  refine ww_iconst (v := nI 0) 18 dX6_doCut_17 (by decide) rfl ?_
  refine ww_istore_n 19 dX6_doCut_18 rfl 3 rfl (by decide) rfl [some (.inr (.inr (30, 0))), some (.inl ((τ (30, 0) 14) + (τ (30, 0) 16))), some (.inl ((τ (30, 0) 12) - ((τ (30, 0) 14) + (τ (30, 0) 16)))), some (.inl (nI 0))] rfl ?_
  exact h
theorem b_X6_doCut_19 {g : ww_G} {E : ww_E} {τ : ww_M} {x1 : Int32} {x2 : Int32} {x3 : Int32} {Post : ww_M → Prop}  (h : ((x2 ≤ x3 → (∀ τ1 : ww_M, τ1 = ww_up τ (30, 0) 12 (τ (30, 0) 14) → (∃ j2 : Nat, τ1 (30, 0) 15 = nI j2 ∧ j2 < 84 ∧ ww_W g mX6_doCut E (ww_QV Post) 64 [some (.inr (.inr (30, 0))), none, some (.inl x2), some (.inl ((τ1 (34, 0) j2) - (nI 1)))] [] τ1))) ∧ (¬ (x2 ≤ x3) → (∃ j3 : Nat, x1 + x3 = nI j3 ∧ j3 < 700 ∧ (∃ j4 : Nat, x3 = nI j4 ∧ j4 < 700 ∧ ∀ τ5 : ww_M, τ5 = ww_up τ (41, 0) j4 (τ (39, 0) j3) → ww_W g mX6_doCut E (ww_QV Post) 19 [some (.inr (.inr (30, 0))), some (.inl x1), some (.inl x2), some (.inl (x3 + nI 1))] [] τ5))))) : ww_W g mX6_doCut E (ww_QV Post) 19 [some (.inr (.inr (30, 0))), some (.inl x1), some (.inl x2), some (.inl x3)] [] τ := by
  refine ww_iload_n 20 dX6_doCut_19 rfl 3 rfl rfl ?_
  refine ww_iload_n 21 dX6_doCut_20 rfl 2 rfl rfl ?_
  refine ww_ic_ge 44 24 dX6_doCut_21 (by decide) rfl (fun c => ?_) (fun c => ?_)
  · replace h := h.1 c
    refine ww_aload_n 45 dX6_doCut_44 rfl 0 rfl rfl ?_
    refine ww_aload_n 46 dX6_doCut_45 rfl 0 rfl rfl ?_
    refine ww_getI 14 49 dX6_doCut_46 wf_X6_183 (ww_i1 30 (by decide)) rfl rfl rfl ?_
    refine ww_putI 12 52 dX6_doCut_49 wf_X6_72 fp_X6_12 (ww_i1 30 (by decide)) rfl rfl rfl (fun τ1 eτ1 => ?_)
    replace h := h τ1 eτ1
    refine ww_aload_n 53 dX6_doCut_52 rfl 0 rfl rfl ?_
    refine ww_getR 4 56 dX6_doCut_53 wf_X6_19 (ww_i1 30 (by decide)) rfl rfl rfl ?_
    refine ww_aload_n 57 dX6_doCut_56 rfl 0 rfl rfl ?_
    refine ww_getI 15 60 dX6_doCut_57 wf_X6_192 (ww_i1 30 (by decide)) rfl rfl rfl ?_
    obtain ⟨j2, hij2, hj2, h⟩ := h
    refine ww_iald j2 61 dX6_doCut_60 (ww_i1 34 (by decide)) rfl (by decide) hij2 hj2 rfl ?_
    refine ww_iconst (v := nI 1) 62 dX6_doCut_61 (by decide) rfl ?_
    refine ww_isub 63 dX6_doCut_62 rfl ?_
    refine ww_istore_n 64 dX6_doCut_63 rfl 3 rfl (by decide) rfl [some (.inr (.inr (30, 0))), some (.inl x1), some (.inl x2), some (.inl ((τ1 (34, 0) j2) - (nI 1)))] rfl ?_
    exact ww_weak (ww_le_s (ww_le_n (ww_le_s (ww_le_s (ww_le_nil _))))) h
  · replace h := h.2 c
    refine ww_aload_n 25 dX6_doCut_24 rfl 0 rfl rfl ?_
    refine ww_getR 18 28 dX6_doCut_25 wf_X6_40 (ww_i1 30 (by decide)) rfl rfl rfl ?_
    refine ww_iload_n 29 dX6_doCut_28 rfl 3 rfl rfl ?_
    refine ww_aload_n 30 dX6_doCut_29 rfl 0 rfl rfl ?_
    refine ww_getR 11 33 dX6_doCut_30 wf_X6_34 (ww_i1 30 (by decide)) rfl rfl rfl ?_
    refine ww_iload_n 34 dX6_doCut_33 rfl 1 rfl rfl ?_
    refine ww_iload_n 35 dX6_doCut_34 rfl 3 rfl rfl ?_
    refine ww_iadd 36 dX6_doCut_35 rfl ?_
    obtain ⟨j3, hij3, hj3, h⟩ := h
    refine ww_iald j3 37 dX6_doCut_36 (ww_i1 39 (by decide)) rfl (by decide) hij3 hj3 rfl ?_
    obtain ⟨j4, hij4, hj4, h⟩ := h
    refine ww_iast j4 38 dX6_doCut_37 (ww_i1 41 (by decide)) rfl (by decide) hij4 hj4 rfl (fun τ5 eτ5 => ?_)
    replace h := h τ5 eτ5
    refine ww_iinc (nI 1) 41 3 dX6_doCut_38 (by decide) rfl rfl (by decide) rfl [some (.inr (.inr (30, 0))), some (.inl x1), some (.inl x2), some (.inl (x3 + nI 1))] rfl ?_
    refine ww_goto 19 dX6_doCut_41 (by decide) ?_
    exact h
theorem b_X6_doCut_64 {g : ww_G} {E : ww_E} {τ : ww_M} {x2 : Int32} {x3 : Int32} {Post : ww_M → Prop}  (h : ((x3 < τ (30, 0) 16 → ww_W g mX6_doCut E (ww_QV Post) 101 [some (.inr (.inr (30, 0))), none, some (.inl x2), some (.inl (nI 0))] [] τ) ∧ (¬ (x3 < τ (30, 0) 16) → (∃ j1 : Nat, ((nI 14) * (τ (30, 0) 15)) + x3 = nI j1 ∧ j1 < 1176 ∧ (∃ Q2 : Int32 → ww_M → Prop, ww_T E.2.1 g mX6_opposite [.inl (τ (33, 0) j1)] τ (ww_QI Q2) ∧ ∀ (v3 : Int32) (τ4 : ww_M), Q2 v3 τ4 → (∃ Q5 : ww_M → Prop, ww_T E.2.1 g mX6_push [.inr (.inr (30, 0)), .inl v3] τ4 (ww_QV Q5) ∧ ∀ (τ6 : ww_M), Q5 τ6 → ww_W g mX6_doCut E (ww_QV Post) 64 [some (.inr (.inr (30, 0))), none, some (.inl x2), some (.inl (x3 + (-1 : Int32)))] [] τ6)))))) : ww_W g mX6_doCut E (ww_QV Post) 64 [some (.inr (.inr (30, 0))), none, some (.inl x2), some (.inl x3)] [] τ := by
  refine ww_iload_n 65 dX6_doCut_64 rfl 3 rfl rfl ?_
  refine ww_aload_n 66 dX6_doCut_65 rfl 0 rfl rfl ?_
  refine ww_getI 16 69 dX6_doCut_66 wf_X6_186 (ww_i1 30 (by decide)) rfl rfl rfl ?_
  refine ww_ic_lt 99 72 dX6_doCut_69 (by decide) rfl (fun c => ?_) (fun c => ?_)
  · replace h := h.1 c
    refine ww_iconst (v := nI 0) 100 dX6_doCut_99 (by decide) rfl ?_
    refine ww_istore_n 101 dX6_doCut_100 rfl 3 rfl (by decide) rfl [some (.inr (.inr (30, 0))), none, some (.inl x2), some (.inl (nI 0))] rfl ?_
    exact h
  · replace h := h.2 c
    refine ww_aload_n 73 dX6_doCut_72 rfl 0 rfl rfl ?_
    refine ww_aload_n 74 dX6_doCut_73 rfl 0 rfl rfl ?_
    refine ww_getR 3 77 dX6_doCut_74 wf_X6_16 (ww_i1 30 (by decide)) rfl rfl rfl ?_
    refine ww_bipush (v := nI 14) 79 dX6_doCut_77 (by decide) rfl ?_
    refine ww_aload_n 80 dX6_doCut_79 rfl 0 rfl rfl ?_
    refine ww_getI 15 83 dX6_doCut_80 wf_X6_192 (ww_i1 30 (by decide)) rfl rfl rfl ?_
    refine ww_imul 84 dX6_doCut_83 rfl ?_
    refine ww_iload_n 85 dX6_doCut_84 rfl 3 rfl rfl ?_
    refine ww_iadd 86 dX6_doCut_85 rfl ?_
    obtain ⟨j1, hij1, hj1, h⟩ := h
    refine ww_iald j1 87 dX6_doCut_86 (ww_i1 33 (by decide)) rfl (by decide) hij1 hj1 rfl ?_
    obtain ⟨Q2, hT, h⟩ := h
    refine ww_invSI (d' := mX6_opposite) [.inl (τ (33, 0) j1)] rfl 90 dX6_doCut_87 ⟨wi_X6, wc_X6_opposite, wp_X6_opposite, by decide, by decide⟩ (Or.inl wl_X6_76) wn_X6_opposite (Nat.le_of_ble_eq_true rfl) rfl hT (fun v3 τ4 hq => ?_)
    replace h := h v3 τ4 hq
    obtain ⟨Q5, hT, h⟩ := h
    refine ww_invVV (d' := mX6_push) [.inl v3] rfl 93 dX6_doCut_90 ⟨wi_X6, wc_X6_push, wp_X6_push, by decide, by decide⟩ wl_X6_80 wn_X6_push we_X6_push (ww_i1 30 (by decide)) rfl rfl (Nat.le_of_ble_eq_true rfl) rfl hT (fun τ6 hq => ?_)
    replace h := h τ6 hq
    refine ww_iinc (-1 : Int32) 96 3 dX6_doCut_93 (by decide) rfl rfl (by decide) rfl [some (.inr (.inr (30, 0))), none, some (.inl x2), some (.inl (x3 + (-1 : Int32)))] rfl ?_
    refine ww_goto 64 dX6_doCut_96 (by decide) ?_
    exact h
theorem b_X6_doCut_101 {g : ww_G} {E : ww_E} {τ : ww_M} {x2 : Int32} {x3 : Int32} {Post : ww_M → Prop}  (h : ((x2 ≤ x3 → Post τ) ∧ (¬ (x2 ≤ x3) → (∃ j1 : Nat, x3 = nI j1 ∧ j1 < 700 ∧ (∃ Q2 : ww_M → Prop, ww_T E.2.1 g mX6_push [.inr (.inr (30, 0)), .inl (τ (41, 0) j1)] τ (ww_QV Q2) ∧ ∀ (τ3 : ww_M), Q2 τ3 → ww_W g mX6_doCut E (ww_QV Post) 101 [some (.inr (.inr (30, 0))), none, some (.inl x2), some (.inl (x3 + nI 1))] [] τ3))))) : ww_W g mX6_doCut E (ww_QV Post) 101 [some (.inr (.inr (30, 0))), none, some (.inl x2), some (.inl x3)] [] τ := by
  refine ww_iload_n 102 dX6_doCut_101 rfl 3 rfl rfl ?_
  refine ww_iload_n 103 dX6_doCut_102 rfl 2 rfl rfl ?_
  refine ww_ic_ge 122 106 dX6_doCut_103 (by decide) rfl (fun c => ?_) (fun c => ?_)
  · replace h := h.1 c
    exact ww_vret dX6_doCut_122 rfl ⟨rfl, h⟩
  · replace h := h.2 c
    refine ww_aload_n 107 dX6_doCut_106 rfl 0 rfl rfl ?_
    refine ww_aload_n 108 dX6_doCut_107 rfl 0 rfl rfl ?_
    refine ww_getR 18 111 dX6_doCut_108 wf_X6_40 (ww_i1 30 (by decide)) rfl rfl rfl ?_
    refine ww_iload_n 112 dX6_doCut_111 rfl 3 rfl rfl ?_
    obtain ⟨j1, hij1, hj1, h⟩ := h
    refine ww_iald j1 113 dX6_doCut_112 (ww_i1 41 (by decide)) rfl (by decide) hij1 hj1 rfl ?_
    obtain ⟨Q2, hT, h⟩ := h
    refine ww_invVV (d' := mX6_push) [.inl (τ (41, 0) j1)] rfl 116 dX6_doCut_113 ⟨wi_X6, wc_X6_push, wp_X6_push, by decide, by decide⟩ wl_X6_80 wn_X6_push we_X6_push (ww_i1 30 (by decide)) rfl rfl (Nat.le_of_ble_eq_true rfl) rfl hT (fun τ3 hq => ?_)
    replace h := h τ3 hq
    refine ww_iinc (nI 1) 119 3 dX6_doCut_116 (by decide) rfl rfl (by decide) rfl [some (.inr (.inr (30, 0))), none, some (.inl x2), some (.inl (x3 + nI 1))] rfl ?_
    refine ww_goto 101 dX6_doCut_119 (by decide) ?_
    exact h
theorem b_X6_shortenHand {l : Launch} {g : ww_G} {τ : ww_M} {a1 : Int32} {Post : Int32 → ww_M → Prop}  (h : ∀ E : ww_E, (∃ Q1 : ww_M → Prop, ww_T E.2.1 g mX6_findCut [.inr (.inr (30, 0))] τ (ww_QV Q1) ∧ ∀ (τ2 : ww_M), Q1 τ2 → ww_W g mX6_shortenHand E (ww_QI Post) 6 [some (.inr (.inr (30, 0))), some (.inl a1), some (.inl (nI 0))] [] τ2)) : ww_T l g mX6_shortenHand [.inr (.inr (30, 0)), .inl a1] τ (ww_QI Post) := by
  refine ww_enter (P := [some (.inr (.inr (30, 0))), some (.inl a1), none]) (by decide) (Nat.le_of_ble_eq_true rfl) rfl (fun E => ?_)
  replace h := h E
  refine ww_iconst (v := nI 0) 1 dX6_shortenHand_0 (by decide) rfl ?_
  refine ww_istore_n 2 dX6_shortenHand_1 rfl 2 rfl (by decide) rfl [some (.inr (.inr (30, 0))), some (.inl a1), some (.inl (nI 0))] rfl ?_
  refine ww_aload_n 3 dX6_shortenHand_2 rfl 0 rfl rfl ?_
  obtain ⟨Q1, hT, h⟩ := h
  refine ww_invVV (d' := mX6_findCut) [] rfl 6 dX6_shortenHand_3 ⟨wi_X6, wc_X6_findCut, wp_X6_findCut, by decide, by decide⟩ wl_X6_205 wn_X6_findCut we_X6_findCut (ww_i1 30 (by decide)) rfl rfl (Nat.le_of_ble_eq_true rfl) rfl hT (fun τ2 hq => ?_)
  replace h := h τ2 hq
  exact h
theorem b_X6_shortenHand_6 {g : ww_G} {E : ww_E} {τ : ww_M} {x1 : Int32} {x2 : Int32} {Post : Int32 → ww_M → Prop}  (h : ((τ (30, 0) 14 < nI 0 → Post x2 τ) ∧ (¬ (τ (30, 0) 14 < nI 0) → ((x1 ≤ x2 → Post x2 τ) ∧ (¬ (x1 ≤ x2) → (∃ Q1 : ww_M → Prop, ww_T E.2.1 g mX6_doCut [.inr (.inr (30, 0))] τ (ww_QV Q1) ∧ ∀ (τ2 : ww_M), Q1 τ2 → (∃ Q3 : ww_M → Prop, ww_T E.2.1 g mX6_findCut [.inr (.inr (30, 0))] τ2 (ww_QV Q3) ∧ ∀ (τ4 : ww_M), Q3 τ4 → ww_W g mX6_shortenHand E (ww_QI Post) 6 [some (.inr (.inr (30, 0))), some (.inl x1), some (.inl (x2 + nI 1))] [] τ4))))))) : ww_W g mX6_shortenHand E (ww_QI Post) 6 [some (.inr (.inr (30, 0))), some (.inl x1), some (.inl x2)] [] τ := by
  refine ww_aload_n 7 dX6_shortenHand_6 rfl 0 rfl rfl ?_
  refine ww_getI 14 10 dX6_shortenHand_7 wf_X6_183 (ww_i1 30 (by decide)) rfl rfl rfl ?_
  refine ww_if_lt 32 13 dX6_shortenHand_10 (by decide) rfl (fun c => ?_) (fun c => ?_)
  · replace h := h.1 c
    refine ww_iload_n 33 dX6_shortenHand_32 rfl 2 rfl rfl ?_
    exact ww_iret dX6_shortenHand_33 rfl ⟨_, rfl, h⟩
  · replace h := h.2 c
    refine ww_iload_n 14 dX6_shortenHand_13 rfl 2 rfl rfl ?_
    refine ww_iload_n 15 dX6_shortenHand_14 rfl 1 rfl rfl ?_
    refine ww_ic_ge 32 18 dX6_shortenHand_15 (by decide) rfl (fun c => ?_) (fun c => ?_)
    · replace h := h.1 c
      refine ww_iload_n 33 dX6_shortenHand_32 rfl 2 rfl rfl ?_
      exact ww_iret dX6_shortenHand_33 rfl ⟨_, rfl, h⟩
    · replace h := h.2 c
      refine ww_aload_n 19 dX6_shortenHand_18 rfl 0 rfl rfl ?_
      obtain ⟨Q1, hT, h⟩ := h
      refine ww_invVV (d' := mX6_doCut) [] rfl 22 dX6_shortenHand_19 ⟨wi_X6, wc_X6_doCut, wp_X6_doCut, by decide, by decide⟩ wl_X6_208 wn_X6_doCut we_X6_doCut (ww_i1 30 (by decide)) rfl rfl (Nat.le_of_ble_eq_true rfl) rfl hT (fun τ2 hq => ?_)
      replace h := h τ2 hq
      refine ww_iinc (nI 1) 25 2 dX6_shortenHand_22 (by decide) rfl rfl (by decide) rfl [some (.inr (.inr (30, 0))), some (.inl x1), some (.inl (x2 + nI 1))] rfl ?_
      refine ww_aload_n 26 dX6_shortenHand_25 rfl 0 rfl rfl ?_
      obtain ⟨Q3, hT, h⟩ := h
      refine ww_invVV (d' := mX6_findCut) [] rfl 29 dX6_shortenHand_26 ⟨wi_X6, wc_X6_findCut, wp_X6_findCut, by decide, by decide⟩ wl_X6_205 wn_X6_findCut we_X6_findCut (ww_i1 30 (by decide)) rfl rfl (Nat.le_of_ble_eq_true rfl) rfl hT (fun τ4 hq => ?_)
      replace h := h τ4 hq
      refine ww_goto 6 dX6_shortenHand_29 (by decide) ?_
      exact h
theorem b_X6_isNothing {l : Launch} {g : ww_G} {τ : ww_M}  {Post : Int32 → ww_M → Prop}  (h : ∀ E : ww_E, (∃ Q1 : Int32 → ww_M → Prop, ww_T E.2.1 g mX6_shortenHand [.inr (.inr (30, 0)), .inl (nI 1000000)] τ (ww_QI Q1) ∧ ∀ (v2 : Int32) (τ3 : ww_M), Q1 v2 τ3 → (¬ τ3 (30, 0) 12 = nI 0 → Post (nI 0) τ3) ∧ (τ3 (30, 0) 12 = nI 0 → Post (nI 1) τ3))) : ww_T l g mX6_isNothing [.inr (.inr (30, 0))] τ (ww_QI Post) := by
  refine ww_enter (P := [some (.inr (.inr (30, 0))), none]) (by decide) (Nat.le_of_ble_eq_true rfl) rfl (fun E => ?_)
  replace h := h E
  refine ww_aload_n 1 dX6_isNothing_0 rfl 0 rfl rfl ?_
  refine ww_ldc 3 dX6_isNothing_1 rfl wk_X6_211 ?_
  obtain ⟨Q1, hT, h⟩ := h
  refine ww_invVI (d' := mX6_shortenHand) [.inl (nI 1000000)] rfl 6 dX6_isNothing_3 ⟨wi_X6, wc_X6_shortenHand, wp_X6_shortenHand, by decide, by decide⟩ wl_X6_212 wn_X6_shortenHand we_X6_shortenHand (ww_i1 30 (by decide)) rfl rfl (Nat.le_of_ble_eq_true rfl) rfl hT (fun v2 τ3 hq => ?_)
  replace h := h v2 τ3 hq
  refine ww_istore_n 7 dX6_isNothing_6 rfl 1 rfl (by decide) rfl [some (.inr (.inr (30, 0))), some (.inl v2)] rfl ?_
  refine ww_aload_n 8 dX6_isNothing_7 rfl 0 rfl rfl ?_
  refine ww_getI 12 11 dX6_isNothing_8 wf_X6_72 (ww_i1 30 (by decide)) rfl rfl rfl ?_
  refine ww_if_ne 18 14 dX6_isNothing_11 (by decide) rfl (fun c => ?_) (fun c => ?_)
  · replace h := h.1 c
    refine ww_iconst (v := nI 0) 19 dX6_isNothing_18 (by decide) rfl ?_
    exact ww_zret dX6_isNothing_19 rfl (Or.inl rfl) ⟨_, rfl, h⟩
  · replace h := h.2 c
    refine ww_iconst (v := nI 1) 15 dX6_isNothing_14 (by decide) rfl ?_
    refine ww_goto 19 dX6_isNothing_15 (by decide) ?_
    exact ww_zret dX6_isNothing_19 rfl (Or.inr rfl) ⟨_, rfl, h⟩
theorem b_X6_cuts {l : Launch} {g : ww_G} {τ : ww_M} {a1 : Int32} {Post : Int32 → ww_M → Prop}  (h : ∀ E : ww_E, (∃ Q1 : Int32 → ww_M → Prop, ww_T E.2.1 g mX6_isWord [.inl a1] τ (ww_QI Q1) ∧ ∀ (v2 : Int32) (τ3 : ww_M), Q1 v2 τ3 → (¬ v2 = nI 0 → (∃ Q4 : ww_M → Prop, ww_T E.2.1 g mX6_handWord [.inr (.inr (30, 0)), .inl a1] τ3 (ww_QV Q4) ∧ ∀ (τ5 : ww_M), Q4 τ5 → (∃ Q6 : ww_M → Prop, ww_T E.2.1 g mX6_findCut [.inr (.inr (30, 0))] τ5 (ww_QV Q6) ∧ ∀ (τ7 : ww_M), Q6 τ7 → Post (τ7 (30, 0) 17) τ7))) ∧ (v2 = nI 0 → (∃ Q8 : Int32 → ww_M → Prop, ww_T E.2.1 g mX6_bad [.inr (.inr (30, 0))] τ3 (ww_QI Q8) ∧ ∀ (v9 : Int32) (τ10 : ww_M), Q8 v9 τ10 → Post v9 τ10)))) : ww_T l g mX6_cuts [.inr (.inr (30, 0)), .inl a1] τ (ww_QI Post) := by
  refine ww_enter (P := [some (.inr (.inr (30, 0))), some (.inl a1)]) (by decide) (Nat.le_of_ble_eq_true rfl) rfl (fun E => ?_)
  replace h := h E
  refine ww_iload_n 1 dX6_cuts_0 rfl 1 rfl rfl ?_
  obtain ⟨Q1, hT, h⟩ := h
  refine ww_invSI (d' := mX6_isWord) [.inl a1] rfl 4 dX6_cuts_1 ⟨wi_X6, wc_X6_isWord, wp_X6_isWord, by decide, by decide⟩ (Or.inl wl_X6_156) wn_X6_isWord (Nat.le_of_ble_eq_true rfl) rfl hT (fun v2 τ3 hq => ?_)
  replace h := h v2 τ3 hq
  refine ww_if_ne 12 7 dX6_cuts_4 (by decide) rfl (fun c => ?_) (fun c => ?_)
  · replace h := h.1 c
    refine ww_aload_n 13 dX6_cuts_12 rfl 0 rfl rfl ?_
    refine ww_iload_n 14 dX6_cuts_13 rfl 1 rfl rfl ?_
    obtain ⟨Q4, hT, h⟩ := h
    refine ww_invVV (d' := mX6_handWord) [.inl a1] rfl 17 dX6_cuts_14 ⟨wi_X6, wc_X6_handWord, wp_X6_handWord, by decide, by decide⟩ wl_X6_162 wn_X6_handWord we_X6_handWord (ww_i1 30 (by decide)) rfl rfl (Nat.le_of_ble_eq_true rfl) rfl hT (fun τ5 hq => ?_)
    replace h := h τ5 hq
    refine ww_aload_n 18 dX6_cuts_17 rfl 0 rfl rfl ?_
    obtain ⟨Q6, hT, h⟩ := h
    refine ww_invVV (d' := mX6_findCut) [] rfl 21 dX6_cuts_18 ⟨wi_X6, wc_X6_findCut, wp_X6_findCut, by decide, by decide⟩ wl_X6_205 wn_X6_findCut we_X6_findCut (ww_i1 30 (by decide)) rfl rfl (Nat.le_of_ble_eq_true rfl) rfl hT (fun τ7 hq => ?_)
    replace h := h τ7 hq
    refine ww_aload_n 22 dX6_cuts_21 rfl 0 rfl rfl ?_
    refine ww_getI 17 25 dX6_cuts_22 wf_X6_195 (ww_i1 30 (by decide)) rfl rfl rfl ?_
    exact ww_iret dX6_cuts_25 rfl ⟨_, rfl, h⟩
  · replace h := h.2 c
    refine ww_aload_n 8 dX6_cuts_7 rfl 0 rfl rfl ?_
    obtain ⟨Q8, hT, h⟩ := h
    refine ww_invVI (d' := mX6_bad) [] rfl 11 dX6_cuts_8 ⟨wi_X6, wc_X6_bad, wp_X6_bad, by decide, by decide⟩ wl_X6_133 wn_X6_bad we_X6_bad (ww_i1 30 (by decide)) rfl rfl (Nat.le_of_ble_eq_true rfl) rfl hT (fun v9 τ10 hq => ?_)
    replace h := h v9 τ10 hq
    exact ww_iret dX6_cuts_11 rfl ⟨_, rfl, h⟩
theorem b_X6_cut {l : Launch} {g : ww_G} {τ : ww_M} {a1 : Int32} {Post : Int32 → ww_M → Prop}  (h : ∀ E : ww_E, (∃ Q1 : Int32 → ww_M → Prop, ww_T E.2.1 g mX6_isWord [.inl a1] τ (ww_QI Q1) ∧ ∀ (v2 : Int32) (τ3 : ww_M), Q1 v2 τ3 → (¬ v2 = nI 0 → (∃ Q4 : ww_M → Prop, ww_T E.2.1 g mX6_handWord [.inr (.inr (30, 0)), .inl a1] τ3 (ww_QV Q4) ∧ ∀ (τ5 : ww_M), Q4 τ5 → (∃ Q6 : ww_M → Prop, ww_T E.2.1 g mX6_findCut [.inr (.inr (30, 0))] τ5 (ww_QV Q6) ∧ ∀ (τ7 : ww_M), Q6 τ7 → (nI 0 ≤ τ7 (30, 0) 14 → (∃ Q8 : ww_M → Prop, ww_T E.2.1 g mX6_doCut [.inr (.inr (30, 0))] τ7 (ww_QV Q8) ∧ ∀ (τ9 : ww_M), Q8 τ9 → (∃ Q10 : Int32 → ww_M → Prop, ww_T E.2.1 g mX6_layWord [.inr (.inr (30, 0)), .inl a1] τ9 (ww_QI Q10) ∧ ∀ (v11 : Int32) (τ12 : ww_M), Q10 v11 τ12 → Post v11 τ12))) ∧ (¬ (nI 0 ≤ τ7 (30, 0) 14) → (∃ Q13 : Int32 → ww_M → Prop, ww_T E.2.1 g mX6_no [.inr (.inr (30, 0))] τ7 (ww_QI Q13) ∧ ∀ (v14 : Int32) (τ15 : ww_M), Q13 v14 τ15 → Post v14 τ15))))) ∧ (v2 = nI 0 → (∃ Q16 : Int32 → ww_M → Prop, ww_T E.2.1 g mX6_bad [.inr (.inr (30, 0))] τ3 (ww_QI Q16) ∧ ∀ (v17 : Int32) (τ18 : ww_M), Q16 v17 τ18 → Post v17 τ18)))) : ww_T l g mX6_cut [.inr (.inr (30, 0)), .inl a1] τ (ww_QI Post) := by
  refine ww_enter (P := [some (.inr (.inr (30, 0))), some (.inl a1)]) (by decide) (Nat.le_of_ble_eq_true rfl) rfl (fun E => ?_)
  replace h := h E
  refine ww_iload_n 1 dX6_cut_0 rfl 1 rfl rfl ?_
  obtain ⟨Q1, hT, h⟩ := h
  refine ww_invSI (d' := mX6_isWord) [.inl a1] rfl 4 dX6_cut_1 ⟨wi_X6, wc_X6_isWord, wp_X6_isWord, by decide, by decide⟩ (Or.inl wl_X6_156) wn_X6_isWord (Nat.le_of_ble_eq_true rfl) rfl hT (fun v2 τ3 hq => ?_)
  replace h := h v2 τ3 hq
  refine ww_if_ne 12 7 dX6_cut_4 (by decide) rfl (fun c => ?_) (fun c => ?_)
  · replace h := h.1 c
    refine ww_aload_n 13 dX6_cut_12 rfl 0 rfl rfl ?_
    refine ww_iload_n 14 dX6_cut_13 rfl 1 rfl rfl ?_
    obtain ⟨Q4, hT, h⟩ := h
    refine ww_invVV (d' := mX6_handWord) [.inl a1] rfl 17 dX6_cut_14 ⟨wi_X6, wc_X6_handWord, wp_X6_handWord, by decide, by decide⟩ wl_X6_162 wn_X6_handWord we_X6_handWord (ww_i1 30 (by decide)) rfl rfl (Nat.le_of_ble_eq_true rfl) rfl hT (fun τ5 hq => ?_)
    replace h := h τ5 hq
    refine ww_aload_n 18 dX6_cut_17 rfl 0 rfl rfl ?_
    obtain ⟨Q6, hT, h⟩ := h
    refine ww_invVV (d' := mX6_findCut) [] rfl 21 dX6_cut_18 ⟨wi_X6, wc_X6_findCut, wp_X6_findCut, by decide, by decide⟩ wl_X6_205 wn_X6_findCut we_X6_findCut (ww_i1 30 (by decide)) rfl rfl (Nat.le_of_ble_eq_true rfl) rfl hT (fun τ7 hq => ?_)
    replace h := h τ7 hq
    refine ww_aload_n 22 dX6_cut_21 rfl 0 rfl rfl ?_
    refine ww_getI 14 25 dX6_cut_22 wf_X6_183 (ww_i1 30 (by decide)) rfl rfl rfl ?_
    refine ww_if_ge 33 28 dX6_cut_25 (by decide) rfl (fun c => ?_) (fun c => ?_)
    · replace h := h.1 c
      refine ww_aload_n 34 dX6_cut_33 rfl 0 rfl rfl ?_
      obtain ⟨Q8, hT, h⟩ := h
      refine ww_invVV (d' := mX6_doCut) [] rfl 37 dX6_cut_34 ⟨wi_X6, wc_X6_doCut, wp_X6_doCut, by decide, by decide⟩ wl_X6_208 wn_X6_doCut we_X6_doCut (ww_i1 30 (by decide)) rfl rfl (Nat.le_of_ble_eq_true rfl) rfl hT (fun τ9 hq => ?_)
      replace h := h τ9 hq
      refine ww_aload_n 38 dX6_cut_37 rfl 0 rfl rfl ?_
      refine ww_iload_n 39 dX6_cut_38 rfl 1 rfl rfl ?_
      obtain ⟨Q10, hT, h⟩ := h
      refine ww_invVI (d' := mX6_layWord) [.inl a1] rfl 42 dX6_cut_39 ⟨wi_X6, wc_X6_layWord, wp_X6_layWord, by decide, by decide⟩ wl_X6_91 wn_X6_layWord we_X6_layWord (ww_i1 30 (by decide)) rfl rfl (Nat.le_of_ble_eq_true rfl) rfl hT (fun v11 τ12 hq => ?_)
      replace h := h v11 τ12 hq
      exact ww_iret dX6_cut_42 rfl ⟨_, rfl, h⟩
    · replace h := h.2 c
      refine ww_aload_n 29 dX6_cut_28 rfl 0 rfl rfl ?_
      obtain ⟨Q13, hT, h⟩ := h
      refine ww_invVI (d' := mX6_no) [] rfl 32 dX6_cut_29 ⟨wi_X6, wc_X6_no, wp_X6_no, by decide, by decide⟩ wl_X6_178 wn_X6_no we_X6_no (ww_i1 30 (by decide)) rfl rfl (Nat.le_of_ble_eq_true rfl) rfl hT (fun v14 τ15 hq => ?_)
      replace h := h v14 τ15 hq
      exact ww_iret dX6_cut_32 rfl ⟨_, rfl, h⟩
  · replace h := h.2 c
    refine ww_aload_n 8 dX6_cut_7 rfl 0 rfl rfl ?_
    obtain ⟨Q16, hT, h⟩ := h
    refine ww_invVI (d' := mX6_bad) [] rfl 11 dX6_cut_8 ⟨wi_X6, wc_X6_bad, wp_X6_bad, by decide, by decide⟩ wl_X6_133 wn_X6_bad we_X6_bad (ww_i1 30 (by decide)) rfl rfl (Nat.le_of_ble_eq_true rfl) rfl hT (fun v17 τ18 hq => ?_)
    replace h := h v17 τ18 hq
    exact ww_iret dX6_cut_11 rfl ⟨_, rfl, h⟩
theorem b_X6_shorten {l : Launch} {g : ww_G} {τ : ww_M} {a1 : Int32} {Post : Int32 → ww_M → Prop}  (h : ∀ E : ww_E, (∃ Q1 : Int32 → ww_M → Prop, ww_T E.2.1 g mX6_isWord [.inl a1] τ (ww_QI Q1) ∧ ∀ (v2 : Int32) (τ3 : ww_M), Q1 v2 τ3 → (¬ v2 = nI 0 → (∃ Q4 : ww_M → Prop, ww_T E.2.1 g mX6_handWord [.inr (.inr (30, 0)), .inl a1] τ3 (ww_QV Q4) ∧ ∀ (τ5 : ww_M), Q4 τ5 → (∃ Q6 : Int32 → ww_M → Prop, ww_T E.2.1 g mX6_shortenHand [.inr (.inr (30, 0)), .inl (nI 1000000)] τ5 (ww_QI Q6) ∧ ∀ (v7 : Int32) (τ8 : ww_M), Q6 v7 τ8 → (∃ Q9 : Int32 → ww_M → Prop, ww_T E.2.1 g mX6_layWord [.inr (.inr (30, 0)), .inl a1] τ8 (ww_QI Q9) ∧ ∀ (v10 : Int32) (τ11 : ww_M), Q9 v10 τ11 → Post v7 τ11)))) ∧ (v2 = nI 0 → (∃ Q12 : Int32 → ww_M → Prop, ww_T E.2.1 g mX6_bad [.inr (.inr (30, 0))] τ3 (ww_QI Q12) ∧ ∀ (v13 : Int32) (τ14 : ww_M), Q12 v13 τ14 → Post v13 τ14)))) : ww_T l g mX6_shorten [.inr (.inr (30, 0)), .inl a1] τ (ww_QI Post) := by
  refine ww_enter (P := [some (.inr (.inr (30, 0))), some (.inl a1), none, none]) (by decide) (Nat.le_of_ble_eq_true rfl) rfl (fun E => ?_)
  replace h := h E
  refine ww_iload_n 1 dX6_shorten_0 rfl 1 rfl rfl ?_
  obtain ⟨Q1, hT, h⟩ := h
  refine ww_invSI (d' := mX6_isWord) [.inl a1] rfl 4 dX6_shorten_1 ⟨wi_X6, wc_X6_isWord, wp_X6_isWord, by decide, by decide⟩ (Or.inl wl_X6_156) wn_X6_isWord (Nat.le_of_ble_eq_true rfl) rfl hT (fun v2 τ3 hq => ?_)
  replace h := h v2 τ3 hq
  refine ww_if_ne 12 7 dX6_shorten_4 (by decide) rfl (fun c => ?_) (fun c => ?_)
  · replace h := h.1 c
    refine ww_aload_n 13 dX6_shorten_12 rfl 0 rfl rfl ?_
    refine ww_iload_n 14 dX6_shorten_13 rfl 1 rfl rfl ?_
    obtain ⟨Q4, hT, h⟩ := h
    refine ww_invVV (d' := mX6_handWord) [.inl a1] rfl 17 dX6_shorten_14 ⟨wi_X6, wc_X6_handWord, wp_X6_handWord, by decide, by decide⟩ wl_X6_162 wn_X6_handWord we_X6_handWord (ww_i1 30 (by decide)) rfl rfl (Nat.le_of_ble_eq_true rfl) rfl hT (fun τ5 hq => ?_)
    replace h := h τ5 hq
    refine ww_aload_n 18 dX6_shorten_17 rfl 0 rfl rfl ?_
    refine ww_ldc 20 dX6_shorten_18 rfl wk_X6_211 ?_
    obtain ⟨Q6, hT, h⟩ := h
    refine ww_invVI (d' := mX6_shortenHand) [.inl (nI 1000000)] rfl 23 dX6_shorten_20 ⟨wi_X6, wc_X6_shortenHand, wp_X6_shortenHand, by decide, by decide⟩ wl_X6_212 wn_X6_shortenHand we_X6_shortenHand (ww_i1 30 (by decide)) rfl rfl (Nat.le_of_ble_eq_true rfl) rfl hT (fun v7 τ8 hq => ?_)
    replace h := h v7 τ8 hq
    refine ww_istore_n 24 dX6_shorten_23 rfl 2 rfl (by decide) rfl [some (.inr (.inr (30, 0))), some (.inl a1), some (.inl v7), none] rfl ?_
    refine ww_aload_n 25 dX6_shorten_24 rfl 0 rfl rfl ?_
    refine ww_iload_n 26 dX6_shorten_25 rfl 1 rfl rfl ?_
    obtain ⟨Q9, hT, h⟩ := h
    refine ww_invVI (d' := mX6_layWord) [.inl a1] rfl 29 dX6_shorten_26 ⟨wi_X6, wc_X6_layWord, wp_X6_layWord, by decide, by decide⟩ wl_X6_91 wn_X6_layWord we_X6_layWord (ww_i1 30 (by decide)) rfl rfl (Nat.le_of_ble_eq_true rfl) rfl hT (fun v10 τ11 hq => ?_)
    replace h := h v10 τ11 hq
    refine ww_istore_n 30 dX6_shorten_29 rfl 3 rfl (by decide) rfl [some (.inr (.inr (30, 0))), some (.inl a1), some (.inl v7), some (.inl v10)] rfl ?_
    refine ww_iload_n 31 dX6_shorten_30 rfl 2 rfl rfl ?_
    exact ww_iret dX6_shorten_31 rfl ⟨_, rfl, h⟩
  · replace h := h.2 c
    refine ww_aload_n 8 dX6_shorten_7 rfl 0 rfl rfl ?_
    obtain ⟨Q12, hT, h⟩ := h
    refine ww_invVI (d' := mX6_bad) [] rfl 11 dX6_shorten_8 ⟨wi_X6, wc_X6_bad, wp_X6_bad, by decide, by decide⟩ wl_X6_133 wn_X6_bad we_X6_bad (ww_i1 30 (by decide)) rfl rfl (Nat.le_of_ble_eq_true rfl) rfl hT (fun v13 τ14 hq => ?_)
    replace h := h v13 τ14 hq
    exact ww_iret dX6_shorten_11 rfl ⟨_, rfl, h⟩
theorem b_X6_trail {l : Launch} {g : ww_G} {τ : ww_M} {a1 : Int32} {a2 : Int32} {a3 : Int32} {Post : Int32 → ww_M → Prop}  (h : ∀ E : ww_E, (∃ Q1 : Int32 → ww_M → Prop, ww_T E.2.1 g mX6_isWord [.inl a1] τ (ww_QI Q1) ∧ ∀ (v2 : Int32) (τ3 : ww_M), Q1 v2 τ3 → (v2 = nI 0 → (∃ Q4 : Int32 → ww_M → Prop, ww_T E.2.1 g mX6_bad [.inr (.inr (30, 0))] τ3 (ww_QI Q4) ∧ ∀ (v5 : Int32) (τ6 : ww_M), Q4 v5 τ6 → Post v5 τ6)) ∧ (¬ v2 = nI 0 → ((a2 < nI 0 → (∃ Q7 : Int32 → ww_M → Prop, ww_T E.2.1 g mX6_bad [.inr (.inr (30, 0))] τ3 (ww_QI Q7) ∧ ∀ (v8 : Int32) (τ9 : ww_M), Q7 v8 τ9 → Post v8 τ9)) ∧ (¬ (a2 < nI 0) → (∃ Q10 : Int32 → ww_M → Prop, ww_T E.2.1 g mX6_in [.inr (.inl (a3.toInt64)), .inr (.inl (lN 0)), .inr (.inl (lN 3))] τ3 (ww_QI Q10) ∧ ∀ (v11 : Int32) (τ12 : ww_M), Q10 v11 τ12 → (¬ v11 = nI 0 → (∃ Q13 : ww_M → Prop, ww_T E.2.1 g mX6_handWord [.inr (.inr (30, 0)), .inl a1] τ12 (ww_QV Q13) ∧ ∀ (τ14 : ww_M), Q13 τ14 → (∃ Q15 : Int32 → ww_M → Prop, ww_T E.2.1 g mX6_shortenHand [.inr (.inr (30, 0)), .inl a2] τ14 (ww_QI Q15) ∧ ∀ (v16 : Int32) (τ17 : ww_M), Q15 v16 τ17 → (nI 0 ≤ τ17 (30, 0) 14 → ((¬ a3 = nI 0 → ((¬ a3 = nI 1 → (∃ Q18 : ww_M → Prop, ww_T E.2.1 g mX6_doCut [.inr (.inr (30, 0))] τ17 (ww_QV Q18) ∧ ∀ (τ19 : ww_M), Q18 τ19 → (¬ a3 = nI 3 → Post (τ17 (30, 0) 16) τ19) ∧ (a3 = nI 3 → Post (τ19 (30, 0) 12) τ19))) ∧ (a3 = nI 1 → (∃ Q20 : ww_M → Prop, ww_T E.2.1 g mX6_doCut [.inr (.inr (30, 0))] τ17 (ww_QV Q20) ∧ ∀ (τ21 : ww_M), Q20 τ21 → (¬ a3 = nI 3 → Post (τ17 (30, 0) 15) τ21) ∧ (a3 = nI 3 → Post (τ21 (30, 0) 12) τ21))))) ∧ (a3 = nI 0 → (∃ Q22 : ww_M → Prop, ww_T E.2.1 g mX6_doCut [.inr (.inr (30, 0))] τ17 (ww_QV Q22) ∧ ∀ (τ23 : ww_M), Q22 τ23 → (¬ a3 = nI 3 → Post (τ17 (30, 0) 14) τ23) ∧ (a3 = nI 3 → Post (τ23 (30, 0) 12) τ23))))) ∧ (¬ (nI 0 ≤ τ17 (30, 0) 14) → Post (-1 : Int32) τ17)))) ∧ (v11 = nI 0 → (∃ Q24 : Int32 → ww_M → Prop, ww_T E.2.1 g mX6_bad [.inr (.inr (30, 0))] τ12 (ww_QI Q24) ∧ ∀ (v25 : Int32) (τ26 : ww_M), Q24 v25 τ26 → Post v25 τ26)))))))) : ww_T l g mX6_trail [.inr (.inr (30, 0)), .inl a1, .inl a2, .inl a3] τ (ww_QI Post) := by
  refine ww_enter (P := [some (.inr (.inr (30, 0))), some (.inl a1), some (.inl a2), some (.inl a3), none, none]) (by decide) (Nat.le_of_ble_eq_true rfl) rfl (fun E => ?_)
  replace h := h E
  refine ww_iload_n 1 dX6_trail_0 rfl 1 rfl rfl ?_
  obtain ⟨Q1, hT, h⟩ := h
  refine ww_invSI (d' := mX6_isWord) [.inl a1] rfl 4 dX6_trail_1 ⟨wi_X6, wc_X6_isWord, wp_X6_isWord, by decide, by decide⟩ (Or.inl wl_X6_156) wn_X6_isWord (Nat.le_of_ble_eq_true rfl) rfl hT (fun v2 τ3 hq => ?_)
  replace h := h v2 τ3 hq
  refine ww_if_eq 23 7 dX6_trail_4 (by decide) rfl (fun c => ?_) (fun c => ?_)
  · replace h := h.1 c
    refine ww_aload_n 24 dX6_trail_23 rfl 0 rfl rfl ?_
    obtain ⟨Q4, hT, h⟩ := h
    refine ww_invVI (d' := mX6_bad) [] rfl 27 dX6_trail_24 ⟨wi_X6, wc_X6_bad, wp_X6_bad, by decide, by decide⟩ wl_X6_133 wn_X6_bad we_X6_bad (ww_i1 30 (by decide)) rfl rfl (Nat.le_of_ble_eq_true rfl) rfl hT (fun v5 τ6 hq => ?_)
    replace h := h v5 τ6 hq
    exact ww_iret dX6_trail_27 rfl ⟨_, rfl, h⟩
  · replace h := h.2 c
    refine ww_iload_n 8 dX6_trail_7 rfl 2 rfl rfl ?_
    refine ww_if_lt 23 11 dX6_trail_8 (by decide) rfl (fun c => ?_) (fun c => ?_)
    · replace h := h.1 c
      refine ww_aload_n 24 dX6_trail_23 rfl 0 rfl rfl ?_
      obtain ⟨Q7, hT, h⟩ := h
      refine ww_invVI (d' := mX6_bad) [] rfl 27 dX6_trail_24 ⟨wi_X6, wc_X6_bad, wp_X6_bad, by decide, by decide⟩ wl_X6_133 wn_X6_bad we_X6_bad (ww_i1 30 (by decide)) rfl rfl (Nat.le_of_ble_eq_true rfl) rfl hT (fun v8 τ9 hq => ?_)
      replace h := h v8 τ9 hq
      exact ww_iret dX6_trail_27 rfl ⟨_, rfl, h⟩
    · replace h := h.2 c
      refine ww_iload_n 12 dX6_trail_11 rfl 3 rfl rfl ?_
      refine ww_i2l 13 dX6_trail_12 rfl ?_
      refine ww_lconst (v := lN 0) 14 dX6_trail_13 (by decide) rfl ?_
      refine ww_ldc2 17 dX6_trail_14 rfl wk_X6_181 ?_
      obtain ⟨Q10, hT, h⟩ := h
      refine ww_invSI (d' := mX6_in) [.inr (.inl (a3.toInt64)), .inr (.inl (lN 0)), .inr (.inl (lN 3))] rfl 20 dX6_trail_17 ⟨wi_X6, wc_X6_in, wp_X6_in, by decide, by decide⟩ (Or.inl wl_X6_66) wn_X6_in (Nat.le_of_ble_eq_true rfl) rfl hT (fun v11 τ12 hq => ?_)
      replace h := h v11 τ12 hq
      refine ww_if_ne 28 23 dX6_trail_20 (by decide) rfl (fun c => ?_) (fun c => ?_)
      · replace h := h.1 c
        refine ww_aload_n 29 dX6_trail_28 rfl 0 rfl rfl ?_
        refine ww_iload_n 30 dX6_trail_29 rfl 1 rfl rfl ?_
        obtain ⟨Q13, hT, h⟩ := h
        refine ww_invVV (d' := mX6_handWord) [.inl a1] rfl 33 dX6_trail_30 ⟨wi_X6, wc_X6_handWord, wp_X6_handWord, by decide, by decide⟩ wl_X6_162 wn_X6_handWord we_X6_handWord (ww_i1 30 (by decide)) rfl rfl (Nat.le_of_ble_eq_true rfl) rfl hT (fun τ14 hq => ?_)
        replace h := h τ14 hq
        refine ww_aload_n 34 dX6_trail_33 rfl 0 rfl rfl ?_
        refine ww_iload_n 35 dX6_trail_34 rfl 2 rfl rfl ?_
        obtain ⟨Q15, hT, h⟩ := h
        refine ww_invVI (d' := mX6_shortenHand) [.inl a2] rfl 38 dX6_trail_35 ⟨wi_X6, wc_X6_shortenHand, wp_X6_shortenHand, by decide, by decide⟩ wl_X6_212 wn_X6_shortenHand we_X6_shortenHand (ww_i1 30 (by decide)) rfl rfl (Nat.le_of_ble_eq_true rfl) rfl hT (fun v16 τ17 hq => ?_)
        replace h := h v16 τ17 hq
        refine ww_istore 40 4 dX6_trail_38 rfl (by decide) rfl [some (.inr (.inr (30, 0))), some (.inl a1), some (.inl a2), some (.inl a3), some (.inl v16), none] rfl ?_
        refine ww_aload_n 41 dX6_trail_40 rfl 0 rfl rfl ?_
        refine ww_getI 14 44 dX6_trail_41 wf_X6_183 (ww_i1 30 (by decide)) rfl rfl rfl ?_
        refine ww_if_ge 49 47 dX6_trail_44 (by decide) rfl (fun c => ?_) (fun c => ?_)
        · replace h := h.1 c
          refine ww_iload_n 50 dX6_trail_49 rfl 3 rfl rfl ?_
          refine ww_if_ne 60 53 dX6_trail_50 (by decide) rfl (fun c => ?_) (fun c => ?_)
          · replace h := h.1 c
            refine ww_iload_n 61 dX6_trail_60 rfl 3 rfl rfl ?_
            refine ww_iconst (v := nI 1) 62 dX6_trail_61 (by decide) rfl ?_
            refine ww_ic_ne 72 65 dX6_trail_62 (by decide) rfl (fun c => ?_) (fun c => ?_)
            · replace h := h.1 c
              refine ww_aload_n 73 dX6_trail_72 rfl 0 rfl rfl ?_
              refine ww_getI 16 76 dX6_trail_73 wf_X6_186 (ww_i1 30 (by decide)) rfl rfl rfl ?_
              refine ww_istore 78 5 dX6_trail_76 rfl (by decide) rfl [some (.inr (.inr (30, 0))), some (.inl a1), some (.inl a2), some (.inl a3), some (.inl v16), some (.inl (τ17 (30, 0) 16))] rfl ?_
              refine ww_aload_n 79 dX6_trail_78 rfl 0 rfl rfl ?_
              obtain ⟨Q18, hT, h⟩ := h
              refine ww_invVV (d' := mX6_doCut) [] rfl 82 dX6_trail_79 ⟨wi_X6, wc_X6_doCut, wp_X6_doCut, by decide, by decide⟩ wl_X6_208 wn_X6_doCut we_X6_doCut (ww_i1 30 (by decide)) rfl rfl (Nat.le_of_ble_eq_true rfl) rfl hT (fun τ19 hq => ?_)
              replace h := h τ19 hq
              refine ww_iload_n 83 dX6_trail_82 rfl 3 rfl rfl ?_
              refine ww_iconst (v := nI 3) 84 dX6_trail_83 (by decide) rfl ?_
              refine ww_ic_ne 94 87 dX6_trail_84 (by decide) rfl (fun c => ?_) (fun c => ?_)
              · replace h := h.1 c
                refine ww_iload 96 5 dX6_trail_94 rfl rfl ?_
                exact ww_iret dX6_trail_96 rfl ⟨_, rfl, h⟩
              · replace h := h.2 c
                refine ww_aload_n 88 dX6_trail_87 rfl 0 rfl rfl ?_
                refine ww_getI 12 91 dX6_trail_88 wf_X6_72 (ww_i1 30 (by decide)) rfl rfl rfl ?_
                refine ww_goto 96 dX6_trail_91 (by decide) ?_
                exact ww_iret dX6_trail_96 rfl ⟨_, rfl, h⟩
            · replace h := h.2 c
              refine ww_aload_n 66 dX6_trail_65 rfl 0 rfl rfl ?_
              refine ww_getI 15 69 dX6_trail_66 wf_X6_192 (ww_i1 30 (by decide)) rfl rfl rfl ?_
              refine ww_goto 76 dX6_trail_69 (by decide) ?_
              refine ww_istore 78 5 dX6_trail_76 rfl (by decide) rfl [some (.inr (.inr (30, 0))), some (.inl a1), some (.inl a2), some (.inl a3), some (.inl v16), some (.inl (τ17 (30, 0) 15))] rfl ?_
              refine ww_aload_n 79 dX6_trail_78 rfl 0 rfl rfl ?_
              obtain ⟨Q20, hT, h⟩ := h
              refine ww_invVV (d' := mX6_doCut) [] rfl 82 dX6_trail_79 ⟨wi_X6, wc_X6_doCut, wp_X6_doCut, by decide, by decide⟩ wl_X6_208 wn_X6_doCut we_X6_doCut (ww_i1 30 (by decide)) rfl rfl (Nat.le_of_ble_eq_true rfl) rfl hT (fun τ21 hq => ?_)
              replace h := h τ21 hq
              refine ww_iload_n 83 dX6_trail_82 rfl 3 rfl rfl ?_
              refine ww_iconst (v := nI 3) 84 dX6_trail_83 (by decide) rfl ?_
              refine ww_ic_ne 94 87 dX6_trail_84 (by decide) rfl (fun c => ?_) (fun c => ?_)
              · replace h := h.1 c
                refine ww_iload 96 5 dX6_trail_94 rfl rfl ?_
                exact ww_iret dX6_trail_96 rfl ⟨_, rfl, h⟩
              · replace h := h.2 c
                refine ww_aload_n 88 dX6_trail_87 rfl 0 rfl rfl ?_
                refine ww_getI 12 91 dX6_trail_88 wf_X6_72 (ww_i1 30 (by decide)) rfl rfl rfl ?_
                refine ww_goto 96 dX6_trail_91 (by decide) ?_
                exact ww_iret dX6_trail_96 rfl ⟨_, rfl, h⟩
          · replace h := h.2 c
            refine ww_aload_n 54 dX6_trail_53 rfl 0 rfl rfl ?_
            refine ww_getI 14 57 dX6_trail_54 wf_X6_183 (ww_i1 30 (by decide)) rfl rfl rfl ?_
            refine ww_goto 76 dX6_trail_57 (by decide) ?_
            refine ww_istore 78 5 dX6_trail_76 rfl (by decide) rfl [some (.inr (.inr (30, 0))), some (.inl a1), some (.inl a2), some (.inl a3), some (.inl v16), some (.inl (τ17 (30, 0) 14))] rfl ?_
            refine ww_aload_n 79 dX6_trail_78 rfl 0 rfl rfl ?_
            obtain ⟨Q22, hT, h⟩ := h
            refine ww_invVV (d' := mX6_doCut) [] rfl 82 dX6_trail_79 ⟨wi_X6, wc_X6_doCut, wp_X6_doCut, by decide, by decide⟩ wl_X6_208 wn_X6_doCut we_X6_doCut (ww_i1 30 (by decide)) rfl rfl (Nat.le_of_ble_eq_true rfl) rfl hT (fun τ23 hq => ?_)
            replace h := h τ23 hq
            refine ww_iload_n 83 dX6_trail_82 rfl 3 rfl rfl ?_
            refine ww_iconst (v := nI 3) 84 dX6_trail_83 (by decide) rfl ?_
            refine ww_ic_ne 94 87 dX6_trail_84 (by decide) rfl (fun c => ?_) (fun c => ?_)
            · replace h := h.1 c
              refine ww_iload 96 5 dX6_trail_94 rfl rfl ?_
              exact ww_iret dX6_trail_96 rfl ⟨_, rfl, h⟩
            · replace h := h.2 c
              refine ww_aload_n 88 dX6_trail_87 rfl 0 rfl rfl ?_
              refine ww_getI 12 91 dX6_trail_88 wf_X6_72 (ww_i1 30 (by decide)) rfl rfl rfl ?_
              refine ww_goto 96 dX6_trail_91 (by decide) ?_
              exact ww_iret dX6_trail_96 rfl ⟨_, rfl, h⟩
        · replace h := h.2 c
          refine ww_iconst (v := (-1 : Int32)) 48 dX6_trail_47 (by decide) rfl ?_
          exact ww_iret dX6_trail_48 rfl ⟨_, rfl, h⟩
      · replace h := h.2 c
        refine ww_aload_n 24 dX6_trail_23 rfl 0 rfl rfl ?_
        obtain ⟨Q24, hT, h⟩ := h
        refine ww_invVI (d' := mX6_bad) [] rfl 27 dX6_trail_24 ⟨wi_X6, wc_X6_bad, wp_X6_bad, by decide, by decide⟩ wl_X6_133 wn_X6_bad we_X6_bad (ww_i1 30 (by decide)) rfl rfl (Nat.le_of_ble_eq_true rfl) rfl hT (fun v25 τ26 hq => ?_)
        replace h := h v25 τ26 hq
        exact ww_iret dX6_trail_27 rfl ⟨_, rfl, h⟩
theorem b_X6_nothing {l : Launch} {g : ww_G} {τ : ww_M} {a1 : Int32} {Post : Int32 → ww_M → Prop}  (h : ∀ E : ww_E, (∃ Q1 : Int32 → ww_M → Prop, ww_T E.2.1 g mX6_isWord [.inl a1] τ (ww_QI Q1) ∧ ∀ (v2 : Int32) (τ3 : ww_M), Q1 v2 τ3 → (¬ v2 = nI 0 → (∃ Q4 : Int32 → ww_M → Prop, ww_T E.2.1 g mX6_isGood [.inr (.inr (30, 0)), .inl (nI 6)] τ3 (ww_QI Q4) ∧ ∀ (v5 : Int32) (τ6 : ww_M), Q4 v5 τ6 → (¬ v5 = nI 0 → (∃ Q7 : ww_M → Prop, ww_T E.2.1 g mX6_handWord [.inr (.inr (30, 0)), .inl a1] τ6 (ww_QV Q7) ∧ ∀ (τ8 : ww_M), Q7 τ8 → (∃ Q9 : Int32 → ww_M → Prop, ww_T E.2.1 g mX6_isNothing [.inr (.inr (30, 0))] τ8 (ww_QI Q9) ∧ ∀ (v10 : Int32) (τ11 : ww_M), Q9 v10 τ11 → (v10 = nI 0 → Post (nI 0) τ11) ∧ (¬ v10 = nI 0 → Post (nI 1) τ11)))) ∧ (v5 = nI 0 → (∃ Q12 : Int32 → ww_M → Prop, ww_T E.2.1 g mX6_no [.inr (.inr (30, 0))] τ6 (ww_QI Q12) ∧ ∀ (v13 : Int32) (τ14 : ww_M), Q12 v13 τ14 → Post v13 τ14)))) ∧ (v2 = nI 0 → (∃ Q15 : Int32 → ww_M → Prop, ww_T E.2.1 g mX6_bad [.inr (.inr (30, 0))] τ3 (ww_QI Q15) ∧ ∀ (v16 : Int32) (τ17 : ww_M), Q15 v16 τ17 → Post v16 τ17)))) : ww_T l g mX6_nothing [.inr (.inr (30, 0)), .inl a1] τ (ww_QI Post) := by
  refine ww_enter (P := [some (.inr (.inr (30, 0))), some (.inl a1)]) (by decide) (Nat.le_of_ble_eq_true rfl) rfl (fun E => ?_)
  replace h := h E
  refine ww_iload_n 1 dX6_nothing_0 rfl 1 rfl rfl ?_
  obtain ⟨Q1, hT, h⟩ := h
  refine ww_invSI (d' := mX6_isWord) [.inl a1] rfl 4 dX6_nothing_1 ⟨wi_X6, wc_X6_isWord, wp_X6_isWord, by decide, by decide⟩ (Or.inl wl_X6_156) wn_X6_isWord (Nat.le_of_ble_eq_true rfl) rfl hT (fun v2 τ3 hq => ?_)
  replace h := h v2 τ3 hq
  refine ww_if_ne 12 7 dX6_nothing_4 (by decide) rfl (fun c => ?_) (fun c => ?_)
  · replace h := h.1 c
    refine ww_aload_n 13 dX6_nothing_12 rfl 0 rfl rfl ?_
    refine ww_bipush (v := nI 6) 15 dX6_nothing_13 (by decide) rfl ?_
    obtain ⟨Q4, hT, h⟩ := h
    refine ww_invVI (d' := mX6_isGood) [.inl (nI 6)] rfl 18 dX6_nothing_15 ⟨wi_X6, wc_X6_isGood, wp_X6_isGood, by decide, by decide⟩ wl_X6_141 wn_X6_isGood we_X6_isGood (ww_i1 30 (by decide)) rfl rfl (Nat.le_of_ble_eq_true rfl) rfl hT (fun v5 τ6 hq => ?_)
    replace h := h v5 τ6 hq
    refine ww_if_ne 26 21 dX6_nothing_18 (by decide) rfl (fun c => ?_) (fun c => ?_)
    · replace h := h.1 c
      refine ww_aload_n 27 dX6_nothing_26 rfl 0 rfl rfl ?_
      refine ww_iload_n 28 dX6_nothing_27 rfl 1 rfl rfl ?_
      obtain ⟨Q7, hT, h⟩ := h
      refine ww_invVV (d' := mX6_handWord) [.inl a1] rfl 31 dX6_nothing_28 ⟨wi_X6, wc_X6_handWord, wp_X6_handWord, by decide, by decide⟩ wl_X6_162 wn_X6_handWord we_X6_handWord (ww_i1 30 (by decide)) rfl rfl (Nat.le_of_ble_eq_true rfl) rfl hT (fun τ8 hq => ?_)
      replace h := h τ8 hq
      refine ww_aload_n 32 dX6_nothing_31 rfl 0 rfl rfl ?_
      obtain ⟨Q9, hT, h⟩ := h
      refine ww_invVI (d' := mX6_isNothing) [] rfl 35 dX6_nothing_32 ⟨wi_X6, wc_X6_isNothing, wp_X6_isNothing, by decide, by decide⟩ wl_X6_215 wn_X6_isNothing we_X6_isNothing (ww_i1 30 (by decide)) rfl rfl (Nat.le_of_ble_eq_true rfl) rfl hT (fun v10 τ11 hq => ?_)
      replace h := h v10 τ11 hq
      refine ww_if_eq 42 38 dX6_nothing_35 (by decide) rfl (fun c => ?_) (fun c => ?_)
      · replace h := h.1 c
        refine ww_iconst (v := nI 0) 43 dX6_nothing_42 (by decide) rfl ?_
        exact ww_iret dX6_nothing_43 rfl ⟨_, rfl, h⟩
      · replace h := h.2 c
        refine ww_iconst (v := nI 1) 39 dX6_nothing_38 (by decide) rfl ?_
        refine ww_goto 43 dX6_nothing_39 (by decide) ?_
        exact ww_iret dX6_nothing_43 rfl ⟨_, rfl, h⟩
    · replace h := h.2 c
      refine ww_aload_n 22 dX6_nothing_21 rfl 0 rfl rfl ?_
      obtain ⟨Q12, hT, h⟩ := h
      refine ww_invVI (d' := mX6_no) [] rfl 25 dX6_nothing_22 ⟨wi_X6, wc_X6_no, wp_X6_no, by decide, by decide⟩ wl_X6_178 wn_X6_no we_X6_no (ww_i1 30 (by decide)) rfl rfl (Nat.le_of_ble_eq_true rfl) rfl hT (fun v13 τ14 hq => ?_)
      replace h := h v13 τ14 hq
      exact ww_iret dX6_nothing_25 rfl ⟨_, rfl, h⟩
  · replace h := h.2 c
    refine ww_aload_n 8 dX6_nothing_7 rfl 0 rfl rfl ?_
    obtain ⟨Q15, hT, h⟩ := h
    refine ww_invVI (d' := mX6_bad) [] rfl 11 dX6_nothing_8 ⟨wi_X6, wc_X6_bad, wp_X6_bad, by decide, by decide⟩ wl_X6_133 wn_X6_bad we_X6_bad (ww_i1 30 (by decide)) rfl rfl (Nat.le_of_ble_eq_true rfl) rfl hT (fun v16 τ17 hq => ?_)
    replace h := h v16 τ17 hq
    exact ww_iret dX6_nothing_11 rfl ⟨_, rfl, h⟩
theorem b_X6_same {l : Launch} {g : ww_G} {τ : ww_M} {a1 : Int32} {a2 : Int32} {Post : Int32 → ww_M → Prop}  (h : ∀ E : ww_E, (∃ Q1 : Int32 → ww_M → Prop, ww_T E.2.1 g mX6_isWord [.inl a1] τ (ww_QI Q1) ∧ ∀ (v2 : Int32) (τ3 : ww_M), Q1 v2 τ3 → (v2 = nI 0 → (∃ Q4 : Int32 → ww_M → Prop, ww_T E.2.1 g mX6_bad [.inr (.inr (30, 0))] τ3 (ww_QI Q4) ∧ ∀ (v5 : Int32) (τ6 : ww_M), Q4 v5 τ6 → Post v5 τ6)) ∧ (¬ v2 = nI 0 → (∃ Q7 : Int32 → ww_M → Prop, ww_T E.2.1 g mX6_isWord [.inl a2] τ3 (ww_QI Q7) ∧ ∀ (v8 : Int32) (τ9 : ww_M), Q7 v8 τ9 → (¬ v8 = nI 0 → (∃ Q10 : Int32 → ww_M → Prop, ww_T E.2.1 g mX6_isGood [.inr (.inr (30, 0)), .inl (nI 6)] τ9 (ww_QI Q10) ∧ ∀ (v11 : Int32) (τ12 : ww_M), Q10 v11 τ12 → (¬ v11 = nI 0 → (∃ Q13 : ww_M → Prop, ww_T E.2.1 g mX6_handWord [.inr (.inr (30, 0)), .inl a1] τ12 (ww_QV Q13) ∧ ∀ (τ14 : ww_M), Q13 τ14 → (∃ Q15 : ww_M → Prop, ww_T E.2.1 g mX6_pushInverse [.inr (.inr (30, 0)), .inl a2] τ14 (ww_QV Q15) ∧ ∀ (τ16 : ww_M), Q15 τ16 → (τ16 (30, 0) 12 ≤ nI 60 → (∃ Q17 : Int32 → ww_M → Prop, ww_T E.2.1 g mX6_isNothing [.inr (.inr (30, 0))] τ16 (ww_QI Q17) ∧ ∀ (v18 : Int32) (τ19 : ww_M), Q17 v18 τ19 → (v18 = nI 0 → Post (nI 0) τ19) ∧ (¬ v18 = nI 0 → Post (nI 1) τ19))) ∧ (¬ (τ16 (30, 0) 12 ≤ nI 60) → (∃ Q20 : Int32 → ww_M → Prop, ww_T E.2.1 g mX6_full [.inr (.inr (30, 0))] τ16 (ww_QI Q20) ∧ ∀ (v21 : Int32) (τ22 : ww_M), Q20 v21 τ22 → Post v21 τ22))))) ∧ (v11 = nI 0 → (∃ Q23 : Int32 → ww_M → Prop, ww_T E.2.1 g mX6_no [.inr (.inr (30, 0))] τ12 (ww_QI Q23) ∧ ∀ (v24 : Int32) (τ25 : ww_M), Q23 v24 τ25 → Post v24 τ25)))) ∧ (v8 = nI 0 → (∃ Q26 : Int32 → ww_M → Prop, ww_T E.2.1 g mX6_bad [.inr (.inr (30, 0))] τ9 (ww_QI Q26) ∧ ∀ (v27 : Int32) (τ28 : ww_M), Q26 v27 τ28 → Post v27 τ28)))))) : ww_T l g mX6_same [.inr (.inr (30, 0)), .inl a1, .inl a2] τ (ww_QI Post) := by
  refine ww_enter (P := [some (.inr (.inr (30, 0))), some (.inl a1), some (.inl a2)]) (by decide) (Nat.le_of_ble_eq_true rfl) rfl (fun E => ?_)
  replace h := h E
  refine ww_iload_n 1 dX6_same_0 rfl 1 rfl rfl ?_
  obtain ⟨Q1, hT, h⟩ := h
  refine ww_invSI (d' := mX6_isWord) [.inl a1] rfl 4 dX6_same_1 ⟨wi_X6, wc_X6_isWord, wp_X6_isWord, by decide, by decide⟩ (Or.inl wl_X6_156) wn_X6_isWord (Nat.le_of_ble_eq_true rfl) rfl hT (fun v2 τ3 hq => ?_)
  replace h := h v2 τ3 hq
  refine ww_if_eq 14 7 dX6_same_4 (by decide) rfl (fun c => ?_) (fun c => ?_)
  · replace h := h.1 c
    refine ww_aload_n 15 dX6_same_14 rfl 0 rfl rfl ?_
    obtain ⟨Q4, hT, h⟩ := h
    refine ww_invVI (d' := mX6_bad) [] rfl 18 dX6_same_15 ⟨wi_X6, wc_X6_bad, wp_X6_bad, by decide, by decide⟩ wl_X6_133 wn_X6_bad we_X6_bad (ww_i1 30 (by decide)) rfl rfl (Nat.le_of_ble_eq_true rfl) rfl hT (fun v5 τ6 hq => ?_)
    replace h := h v5 τ6 hq
    exact ww_iret dX6_same_18 rfl ⟨_, rfl, h⟩
  · replace h := h.2 c
    refine ww_iload_n 8 dX6_same_7 rfl 2 rfl rfl ?_
    obtain ⟨Q7, hT, h⟩ := h
    refine ww_invSI (d' := mX6_isWord) [.inl a2] rfl 11 dX6_same_8 ⟨wi_X6, wc_X6_isWord, wp_X6_isWord, by decide, by decide⟩ (Or.inl wl_X6_156) wn_X6_isWord (Nat.le_of_ble_eq_true rfl) rfl hT (fun v8 τ9 hq => ?_)
    replace h := h v8 τ9 hq
    refine ww_if_ne 19 14 dX6_same_11 (by decide) rfl (fun c => ?_) (fun c => ?_)
    · replace h := h.1 c
      refine ww_aload_n 20 dX6_same_19 rfl 0 rfl rfl ?_
      refine ww_bipush (v := nI 6) 22 dX6_same_20 (by decide) rfl ?_
      obtain ⟨Q10, hT, h⟩ := h
      refine ww_invVI (d' := mX6_isGood) [.inl (nI 6)] rfl 25 dX6_same_22 ⟨wi_X6, wc_X6_isGood, wp_X6_isGood, by decide, by decide⟩ wl_X6_141 wn_X6_isGood we_X6_isGood (ww_i1 30 (by decide)) rfl rfl (Nat.le_of_ble_eq_true rfl) rfl hT (fun v11 τ12 hq => ?_)
      replace h := h v11 τ12 hq
      refine ww_if_ne 33 28 dX6_same_25 (by decide) rfl (fun c => ?_) (fun c => ?_)
      · replace h := h.1 c
        refine ww_aload_n 34 dX6_same_33 rfl 0 rfl rfl ?_
        refine ww_iload_n 35 dX6_same_34 rfl 1 rfl rfl ?_
        obtain ⟨Q13, hT, h⟩ := h
        refine ww_invVV (d' := mX6_handWord) [.inl a1] rfl 38 dX6_same_35 ⟨wi_X6, wc_X6_handWord, wp_X6_handWord, by decide, by decide⟩ wl_X6_162 wn_X6_handWord we_X6_handWord (ww_i1 30 (by decide)) rfl rfl (Nat.le_of_ble_eq_true rfl) rfl hT (fun τ14 hq => ?_)
        replace h := h τ14 hq
        refine ww_aload_n 39 dX6_same_38 rfl 0 rfl rfl ?_
        refine ww_iload_n 40 dX6_same_39 rfl 2 rfl rfl ?_
        obtain ⟨Q15, hT, h⟩ := h
        refine ww_invVV (d' := mX6_pushInverse) [.inl a2] rfl 43 dX6_same_40 ⟨wi_X6, wc_X6_pushInverse, wp_X6_pushInverse, by decide, by decide⟩ wl_X6_168 wn_X6_pushInverse we_X6_pushInverse (ww_i1 30 (by decide)) rfl rfl (Nat.le_of_ble_eq_true rfl) rfl hT (fun τ16 hq => ?_)
        replace h := h τ16 hq
        refine ww_aload_n 44 dX6_same_43 rfl 0 rfl rfl ?_
        refine ww_getI 12 47 dX6_same_44 wf_X6_72 (ww_i1 30 (by decide)) rfl rfl rfl ?_
        refine ww_bipush (v := nI 60) 49 dX6_same_47 (by decide) rfl ?_
        refine ww_ic_le 57 52 dX6_same_49 (by decide) rfl (fun c => ?_) (fun c => ?_)
        · replace h := h.1 c
          refine ww_aload_n 58 dX6_same_57 rfl 0 rfl rfl ?_
          obtain ⟨Q17, hT, h⟩ := h
          refine ww_invVI (d' := mX6_isNothing) [] rfl 61 dX6_same_58 ⟨wi_X6, wc_X6_isNothing, wp_X6_isNothing, by decide, by decide⟩ wl_X6_215 wn_X6_isNothing we_X6_isNothing (ww_i1 30 (by decide)) rfl rfl (Nat.le_of_ble_eq_true rfl) rfl hT (fun v18 τ19 hq => ?_)
          replace h := h v18 τ19 hq
          refine ww_if_eq 68 64 dX6_same_61 (by decide) rfl (fun c => ?_) (fun c => ?_)
          · replace h := h.1 c
            refine ww_iconst (v := nI 0) 69 dX6_same_68 (by decide) rfl ?_
            exact ww_iret dX6_same_69 rfl ⟨_, rfl, h⟩
          · replace h := h.2 c
            refine ww_iconst (v := nI 1) 65 dX6_same_64 (by decide) rfl ?_
            refine ww_goto 69 dX6_same_65 (by decide) ?_
            exact ww_iret dX6_same_69 rfl ⟨_, rfl, h⟩
        · replace h := h.2 c
          refine ww_aload_n 53 dX6_same_52 rfl 0 rfl rfl ?_
          obtain ⟨Q20, hT, h⟩ := h
          refine ww_invVI (d' := mX6_full) [] rfl 56 dX6_same_53 ⟨wi_X6, wc_X6_full, wp_X6_full, by decide, by decide⟩ wl_X6_87 wn_X6_full we_X6_full (ww_i1 30 (by decide)) rfl rfl (Nat.le_of_ble_eq_true rfl) rfl hT (fun v21 τ22 hq => ?_)
          replace h := h v21 τ22 hq
          exact ww_iret dX6_same_56 rfl ⟨_, rfl, h⟩
      · replace h := h.2 c
        refine ww_aload_n 29 dX6_same_28 rfl 0 rfl rfl ?_
        obtain ⟨Q23, hT, h⟩ := h
        refine ww_invVI (d' := mX6_no) [] rfl 32 dX6_same_29 ⟨wi_X6, wc_X6_no, wp_X6_no, by decide, by decide⟩ wl_X6_178 wn_X6_no we_X6_no (ww_i1 30 (by decide)) rfl rfl (Nat.le_of_ble_eq_true rfl) rfl hT (fun v24 τ25 hq => ?_)
        replace h := h v24 τ25 hq
        exact ww_iret dX6_same_32 rfl ⟨_, rfl, h⟩
    · replace h := h.2 c
      refine ww_aload_n 15 dX6_same_14 rfl 0 rfl rfl ?_
      obtain ⟨Q26, hT, h⟩ := h
      refine ww_invVI (d' := mX6_bad) [] rfl 18 dX6_same_15 ⟨wi_X6, wc_X6_bad, wp_X6_bad, by decide, by decide⟩ wl_X6_133 wn_X6_bad we_X6_bad (ww_i1 30 (by decide)) rfl rfl (Nat.le_of_ble_eq_true rfl) rfl hT (fun v27 τ28 hq => ?_)
      replace h := h v27 τ28 hq
      exact ww_iret dX6_same_18 rfl ⟨_, rfl, h⟩
theorem b_X6_order {l : Launch} {g : ww_G} {τ : ww_M} {a1 : Int32} {Post : Int32 → ww_M → Prop}  (h : ∀ E : ww_E, (∃ Q1 : Int32 → ww_M → Prop, ww_T E.2.1 g mX6_isWord [.inl a1] τ (ww_QI Q1) ∧ ∀ (v2 : Int32) (τ3 : ww_M), Q1 v2 τ3 → (¬ v2 = nI 0 → (∃ Q4 : Int32 → ww_M → Prop, ww_T E.2.1 g mX6_isGood [.inr (.inr (30, 0)), .inl (nI 6)] τ3 (ww_QI Q4) ∧ ∀ (v5 : Int32) (τ6 : ww_M), Q4 v5 τ6 → (¬ v5 = nI 0 → ww_W g mX6_order E (ww_QI Post) 28 [some (.inr (.inr (30, 0))), some (.inl a1), some (.inl (nI 1)), none] [] τ6) ∧ (v5 = nI 0 → (∃ Q7 : Int32 → ww_M → Prop, ww_T E.2.1 g mX6_no [.inr (.inr (30, 0))] τ6 (ww_QI Q7) ∧ ∀ (v8 : Int32) (τ9 : ww_M), Q7 v8 τ9 → Post v8 τ9)))) ∧ (v2 = nI 0 → (∃ Q10 : Int32 → ww_M → Prop, ww_T E.2.1 g mX6_bad [.inr (.inr (30, 0))] τ3 (ww_QI Q10) ∧ ∀ (v11 : Int32) (τ12 : ww_M), Q10 v11 τ12 → Post v11 τ12)))) : ww_T l g mX6_order [.inr (.inr (30, 0)), .inl a1] τ (ww_QI Post) := by
  refine ww_enter (P := [some (.inr (.inr (30, 0))), some (.inl a1), none, none]) (by decide) (Nat.le_of_ble_eq_true rfl) rfl (fun E => ?_)
  replace h := h E
  refine ww_iload_n 1 dX6_order_0 rfl 1 rfl rfl ?_
  obtain ⟨Q1, hT, h⟩ := h
  refine ww_invSI (d' := mX6_isWord) [.inl a1] rfl 4 dX6_order_1 ⟨wi_X6, wc_X6_isWord, wp_X6_isWord, by decide, by decide⟩ (Or.inl wl_X6_156) wn_X6_isWord (Nat.le_of_ble_eq_true rfl) rfl hT (fun v2 τ3 hq => ?_)
  replace h := h v2 τ3 hq
  refine ww_if_ne 12 7 dX6_order_4 (by decide) rfl (fun c => ?_) (fun c => ?_)
  · replace h := h.1 c
    refine ww_aload_n 13 dX6_order_12 rfl 0 rfl rfl ?_
    refine ww_bipush (v := nI 6) 15 dX6_order_13 (by decide) rfl ?_
    obtain ⟨Q4, hT, h⟩ := h
    refine ww_invVI (d' := mX6_isGood) [.inl (nI 6)] rfl 18 dX6_order_15 ⟨wi_X6, wc_X6_isGood, wp_X6_isGood, by decide, by decide⟩ wl_X6_141 wn_X6_isGood we_X6_isGood (ww_i1 30 (by decide)) rfl rfl (Nat.le_of_ble_eq_true rfl) rfl hT (fun v5 τ6 hq => ?_)
    replace h := h v5 τ6 hq
    refine ww_if_ne 26 21 dX6_order_18 (by decide) rfl (fun c => ?_) (fun c => ?_)
    · replace h := h.1 c
      refine ww_iconst (v := nI 1) 27 dX6_order_26 (by decide) rfl ?_
      refine ww_istore_n 28 dX6_order_27 rfl 2 rfl (by decide) rfl [some (.inr (.inr (30, 0))), some (.inl a1), some (.inl (nI 1)), none] rfl ?_
      exact h
    · replace h := h.2 c
      refine ww_aload_n 22 dX6_order_21 rfl 0 rfl rfl ?_
      obtain ⟨Q7, hT, h⟩ := h
      refine ww_invVI (d' := mX6_no) [] rfl 25 dX6_order_22 ⟨wi_X6, wc_X6_no, wp_X6_no, by decide, by decide⟩ wl_X6_178 wn_X6_no we_X6_no (ww_i1 30 (by decide)) rfl rfl (Nat.le_of_ble_eq_true rfl) rfl hT (fun v8 τ9 hq => ?_)
      replace h := h v8 τ9 hq
      exact ww_iret dX6_order_25 rfl ⟨_, rfl, h⟩
  · replace h := h.2 c
    refine ww_aload_n 8 dX6_order_7 rfl 0 rfl rfl ?_
    obtain ⟨Q10, hT, h⟩ := h
    refine ww_invVI (d' := mX6_bad) [] rfl 11 dX6_order_8 ⟨wi_X6, wc_X6_bad, wp_X6_bad, by decide, by decide⟩ wl_X6_133 wn_X6_bad we_X6_bad (ww_i1 30 (by decide)) rfl rfl (Nat.le_of_ble_eq_true rfl) rfl hT (fun v11 τ12 hq => ?_)
    replace h := h v11 τ12 hq
    exact ww_iret dX6_order_11 rfl ⟨_, rfl, h⟩
theorem b_X6_order_28 {g : ww_G} {E : ww_E} {τ : ww_M} {x1 : Int32} {x2 : Int32} {Post : Int32 → ww_M → Prop}  (h : ((nI 7 ≤ x2 → Post (-1 : Int32) τ) ∧ (¬ (nI 7 ≤ x2) → (∀ τ1 : ww_M, τ1 = ww_up τ (30, 0) 12 (nI 0) → ww_W g mX6_order E (ww_QI Post) 41 [some (.inr (.inr (30, 0))), some (.inl x1), some (.inl x2), some (.inl (nI 0))] [] τ1)))) : ww_W g mX6_order E (ww_QI Post) 28 [some (.inr (.inr (30, 0))), some (.inl x1), some (.inl x2), none] [] τ := by
  refine ww_iload_n 29 dX6_order_28 rfl 2 rfl rfl ?_
  refine ww_bipush (v := nI 7) 31 dX6_order_29 (by decide) rfl ?_
  refine ww_ic_ge 83 34 dX6_order_31 (by decide) rfl (fun c => ?_) (fun c => ?_)
  · replace h := h.1 c
    refine ww_iconst (v := (-1 : Int32)) 84 dX6_order_83 (by decide) rfl ?_
    exact ww_iret dX6_order_84 rfl ⟨_, rfl, h⟩
  · replace h := h.2 c
    refine ww_aload_n 35 dX6_order_34 rfl 0 rfl rfl ?_
    refine ww_iconst (v := nI 0) 36 dX6_order_35 (by decide) rfl ?_
    refine ww_putI 12 39 dX6_order_36 wf_X6_72 fp_X6_12 (ww_i1 30 (by decide)) rfl rfl rfl (fun τ1 eτ1 => ?_)
    replace h := h τ1 eτ1
    refine ww_iconst (v := nI 0) 40 dX6_order_39 (by decide) rfl ?_
    refine ww_istore_n 41 dX6_order_40 rfl 3 rfl (by decide) rfl [some (.inr (.inr (30, 0))), some (.inl x1), some (.inl x2), some (.inl (nI 0))] rfl ?_
    exact h
theorem b_X6_order_41 {g : ww_G} {E : ww_E} {τ : ww_M} {x1 : Int32} {x2 : Int32} {x3 : Int32} {Post : Int32 → ww_M → Prop}  (h : ((x2 ≤ x3 → ((τ (30, 0) 12 ≤ nI 60 → (∃ Q1 : Int32 → ww_M → Prop, ww_T E.2.1 g mX6_isNothing [.inr (.inr (30, 0))] τ (ww_QI Q1) ∧ ∀ (v2 : Int32) (τ3 : ww_M), Q1 v2 τ3 → (v2 = nI 0 → ww_W g mX6_order E (ww_QI Post) 28 [some (.inr (.inr (30, 0))), some (.inl x1), some (.inl (x2 + nI 1)), none] [] τ3) ∧ (¬ v2 = nI 0 → Post x2 τ3))) ∧ (¬ (τ (30, 0) 12 ≤ nI 60) → Post (-1 : Int32) τ))) ∧ (¬ (x2 ≤ x3) → (∃ Q4 : ww_M → Prop, ww_T E.2.1 g mX6_pushWord [.inr (.inr (30, 0)), .inl x1] τ (ww_QV Q4) ∧ ∀ (τ5 : ww_M), Q4 τ5 → ww_W g mX6_order E (ww_QI Post) 41 [some (.inr (.inr (30, 0))), some (.inl x1), some (.inl x2), some (.inl (x3 + nI 1))] [] τ5)))) : ww_W g mX6_order E (ww_QI Post) 41 [some (.inr (.inr (30, 0))), some (.inl x1), some (.inl x2), some (.inl x3)] [] τ := by
  refine ww_iload_n 42 dX6_order_41 rfl 3 rfl rfl ?_
  refine ww_iload_n 43 dX6_order_42 rfl 2 rfl rfl ?_
  refine ww_ic_ge 57 46 dX6_order_43 (by decide) rfl (fun c => ?_) (fun c => ?_)
  · replace h := h.1 c
    refine ww_aload_n 58 dX6_order_57 rfl 0 rfl rfl ?_
    refine ww_getI 12 61 dX6_order_58 wf_X6_72 (ww_i1 30 (by decide)) rfl rfl rfl ?_
    refine ww_bipush (v := nI 60) 63 dX6_order_61 (by decide) rfl ?_
    refine ww_ic_le 68 66 dX6_order_63 (by decide) rfl (fun c => ?_) (fun c => ?_)
    · replace h := h.1 c
      refine ww_aload_n 69 dX6_order_68 rfl 0 rfl rfl ?_
      obtain ⟨Q1, hT, h⟩ := h
      refine ww_invVI (d' := mX6_isNothing) [] rfl 72 dX6_order_69 ⟨wi_X6, wc_X6_isNothing, wp_X6_isNothing, by decide, by decide⟩ wl_X6_215 wn_X6_isNothing we_X6_isNothing (ww_i1 30 (by decide)) rfl rfl (Nat.le_of_ble_eq_true rfl) rfl hT (fun v2 τ3 hq => ?_)
      replace h := h v2 τ3 hq
      refine ww_if_eq 77 75 dX6_order_72 (by decide) rfl (fun c => ?_) (fun c => ?_)
      · replace h := h.1 c
        refine ww_iinc (nI 1) 80 2 dX6_order_77 (by decide) rfl rfl (by decide) rfl [some (.inr (.inr (30, 0))), some (.inl x1), some (.inl (x2 + nI 1)), some (.inl x3)] rfl ?_
        refine ww_goto 28 dX6_order_80 (by decide) ?_
        exact ww_weak (ww_le_s (ww_le_s (ww_le_s (ww_le_n (ww_le_nil _))))) h
      · replace h := h.2 c
        refine ww_iload_n 76 dX6_order_75 rfl 2 rfl rfl ?_
        exact ww_iret dX6_order_76 rfl ⟨_, rfl, h⟩
    · replace h := h.2 c
      refine ww_iconst (v := (-1 : Int32)) 67 dX6_order_66 (by decide) rfl ?_
      exact ww_iret dX6_order_67 rfl ⟨_, rfl, h⟩
  · replace h := h.2 c
    refine ww_aload_n 47 dX6_order_46 rfl 0 rfl rfl ?_
    refine ww_iload_n 48 dX6_order_47 rfl 1 rfl rfl ?_
    obtain ⟨Q4, hT, h⟩ := h
    refine ww_invVV (d' := mX6_pushWord) [.inl x1] rfl 51 dX6_order_48 ⟨wi_X6, wc_X6_pushWord, wp_X6_pushWord, by decide, by decide⟩ wl_X6_84 wn_X6_pushWord we_X6_pushWord (ww_i1 30 (by decide)) rfl rfl (Nat.le_of_ble_eq_true rfl) rfl hT (fun τ5 hq => ?_)
    replace h := h τ5 hq
    refine ww_iinc (nI 1) 54 3 dX6_order_51 (by decide) rfl rfl (by decide) rfl [some (.inr (.inr (30, 0))), some (.inl x1), some (.inl x2), some (.inl (x3 + nI 1))] rfl ?_
    refine ww_goto 41 dX6_order_54 (by decide) ?_
    exact h
theorem b_X6_layRings {l : Launch} {g : ww_G} {τ : ww_M} {a1 : Int32} {a2 : Int32} {Post : ww_M → Prop}  (h : ∀ E : ww_E, (∃ Q1 : ww_M → Prop, ww_T E.2.1 g mX6_handWord [.inr (.inr (30, 0)), .inl a1] τ (ww_QV Q1) ∧ ∀ (τ2 : ww_M), Q1 τ2 → (∃ Q3 : ww_M → Prop, ww_T E.2.1 g mX6_ringHand [.inr (.inr (30, 0))] τ2 (ww_QV Q3) ∧ ∀ (τ4 : ww_M), Q3 τ4 → (∀ τ5 : ww_M, τ5 = ww_up τ4 (30, 0) 21 (τ4 (30, 0) 12) → ww_W g mX6_layRings E (ww_QV Post) 19 [some (.inr (.inr (30, 0))), none, some (.inl a2), some (.inl (nI 0))] [] τ5)))) : ww_T l g mX6_layRings [.inr (.inr (30, 0)), .inl a1, .inl a2] τ (ww_QV Post) := by
  refine ww_enter (P := [some (.inr (.inr (30, 0))), some (.inl a1), some (.inl a2), none]) (by decide) (Nat.le_of_ble_eq_true rfl) rfl (fun E => ?_)
  replace h := h E
  refine ww_aload_n 1 dX6_layRings_0 rfl 0 rfl rfl ?_
  refine ww_iload_n 2 dX6_layRings_1 rfl 1 rfl rfl ?_
  obtain ⟨Q1, hT, h⟩ := h
  refine ww_invVV (d' := mX6_handWord) [.inl a1] rfl 5 dX6_layRings_2 ⟨wi_X6, wc_X6_handWord, wp_X6_handWord, by decide, by decide⟩ wl_X6_162 wn_X6_handWord we_X6_handWord (ww_i1 30 (by decide)) rfl rfl (Nat.le_of_ble_eq_true rfl) rfl hT (fun τ2 hq => ?_)
  replace h := h τ2 hq
  refine ww_aload_n 6 dX6_layRings_5 rfl 0 rfl rfl ?_
  obtain ⟨Q3, hT, h⟩ := h
  refine ww_invVV (d' := mX6_ringHand) [] rfl 9 dX6_layRings_6 ⟨wi_X6, wc_X6_ringHand, wp_X6_ringHand, by decide, by decide⟩ wl_X6_173 wn_X6_ringHand we_X6_ringHand (ww_i1 30 (by decide)) rfl rfl (Nat.le_of_ble_eq_true rfl) rfl hT (fun τ4 hq => ?_)
  replace h := h τ4 hq
  refine ww_aload_n 10 dX6_layRings_9 rfl 0 rfl rfl ?_
  refine ww_aload_n 11 dX6_layRings_10 rfl 0 rfl rfl ?_
  refine ww_getI 12 14 dX6_layRings_11 wf_X6_72 (ww_i1 30 (by decide)) rfl rfl rfl ?_
  refine ww_putI 21 17 dX6_layRings_14 wf_X6_219 fp_X6_21 (ww_i1 30 (by decide)) rfl rfl rfl (fun τ5 eτ5 => ?_)
  replace h := h τ5 eτ5
  refine ww_iconst (v := nI 0) 18 dX6_layRings_17 (by decide) rfl ?_
  refine ww_istore_n 19 dX6_layRings_18 rfl 3 rfl (by decide) rfl [some (.inr (.inr (30, 0))), some (.inl a1), some (.inl a2), some (.inl (nI 0))] rfl ?_
  exact ww_weak (ww_le_s (ww_le_n (ww_le_s (ww_le_s (ww_le_nil _))))) h
theorem b_X6_layRings_19 {g : ww_G} {E : ww_E} {τ : ww_M} {x2 : Int32} {x3 : Int32} {Post : ww_M → Prop}  (h : ((τ (30, 0) 12 ≤ x3 → (∃ Q1 : ww_M → Prop, ww_T E.2.1 g mX6_handWord [.inr (.inr (30, 0)), .inl x2] τ (ww_QV Q1) ∧ ∀ (τ2 : ww_M), Q1 τ2 → (∃ Q3 : ww_M → Prop, ww_T E.2.1 g mX6_ringHand [.inr (.inr (30, 0))] τ2 (ww_QV Q3) ∧ ∀ (τ4 : ww_M), Q3 τ4 → (∀ τ5 : ww_M, τ5 = ww_up τ4 (30, 0) 22 (τ4 (30, 0) 12) → ww_W g mX6_layRings E (ww_QV Post) 64 [some (.inr (.inr (30, 0))), none, none, some (.inl (nI 0))] [] τ5)))) ∧ (¬ (τ (30, 0) 12 ≤ x3) → (∃ j6 : Nat, x3 = nI j6 ∧ j6 < 700 ∧ (∃ j7 : Nat, x3 = nI j7 ∧ j7 < 60 ∧ ∀ τ8 : ww_M, τ8 = ww_up τ (42, 0) j7 (τ (39, 0) j6) → ww_W g mX6_layRings E (ww_QV Post) 19 [some (.inr (.inr (30, 0))), none, some (.inl x2), some (.inl (x3 + nI 1))] [] τ8))))) : ww_W g mX6_layRings E (ww_QV Post) 19 [some (.inr (.inr (30, 0))), none, some (.inl x2), some (.inl x3)] [] τ := by
  refine ww_iload_n 20 dX6_layRings_19 rfl 3 rfl rfl ?_
  refine ww_aload_n 21 dX6_layRings_20 rfl 0 rfl rfl ?_
  refine ww_getI 12 24 dX6_layRings_21 wf_X6_72 (ww_i1 30 (by decide)) rfl rfl rfl ?_
  refine ww_ic_ge 45 27 dX6_layRings_24 (by decide) rfl (fun c => ?_) (fun c => ?_)
  · replace h := h.1 c
    refine ww_aload_n 46 dX6_layRings_45 rfl 0 rfl rfl ?_
    refine ww_iload_n 47 dX6_layRings_46 rfl 2 rfl rfl ?_
    obtain ⟨Q1, hT, h⟩ := h
    refine ww_invVV (d' := mX6_handWord) [.inl x2] rfl 50 dX6_layRings_47 ⟨wi_X6, wc_X6_handWord, wp_X6_handWord, by decide, by decide⟩ wl_X6_162 wn_X6_handWord we_X6_handWord (ww_i1 30 (by decide)) rfl rfl (Nat.le_of_ble_eq_true rfl) rfl hT (fun τ2 hq => ?_)
    replace h := h τ2 hq
    refine ww_aload_n 51 dX6_layRings_50 rfl 0 rfl rfl ?_
    obtain ⟨Q3, hT, h⟩ := h
    refine ww_invVV (d' := mX6_ringHand) [] rfl 54 dX6_layRings_51 ⟨wi_X6, wc_X6_ringHand, wp_X6_ringHand, by decide, by decide⟩ wl_X6_173 wn_X6_ringHand we_X6_ringHand (ww_i1 30 (by decide)) rfl rfl (Nat.le_of_ble_eq_true rfl) rfl hT (fun τ4 hq => ?_)
    replace h := h τ4 hq
    refine ww_aload_n 55 dX6_layRings_54 rfl 0 rfl rfl ?_
    refine ww_aload_n 56 dX6_layRings_55 rfl 0 rfl rfl ?_
    refine ww_getI 12 59 dX6_layRings_56 wf_X6_72 (ww_i1 30 (by decide)) rfl rfl rfl ?_
    refine ww_putI 22 62 dX6_layRings_59 wf_X6_222 fp_X6_22 (ww_i1 30 (by decide)) rfl rfl rfl (fun τ5 eτ5 => ?_)
    replace h := h τ5 eτ5
    refine ww_iconst (v := nI 0) 63 dX6_layRings_62 (by decide) rfl ?_
    refine ww_istore_n 64 dX6_layRings_63 rfl 3 rfl (by decide) rfl [some (.inr (.inr (30, 0))), none, some (.inl x2), some (.inl (nI 0))] rfl ?_
    exact ww_weak (ww_le_s (ww_le_n (ww_le_n (ww_le_s (ww_le_nil _))))) h
  · replace h := h.2 c
    refine ww_aload_n 28 dX6_layRings_27 rfl 0 rfl rfl ?_
    refine ww_getR 19 31 dX6_layRings_28 wf_X6_43 (ww_i1 30 (by decide)) rfl rfl rfl ?_
    refine ww_iload_n 32 dX6_layRings_31 rfl 3 rfl rfl ?_
    refine ww_aload_n 33 dX6_layRings_32 rfl 0 rfl rfl ?_
    refine ww_getR 11 36 dX6_layRings_33 wf_X6_34 (ww_i1 30 (by decide)) rfl rfl rfl ?_
    refine ww_iload_n 37 dX6_layRings_36 rfl 3 rfl rfl ?_
    obtain ⟨j6, hij6, hj6, h⟩ := h
    refine ww_iald j6 38 dX6_layRings_37 (ww_i1 39 (by decide)) rfl (by decide) hij6 hj6 rfl ?_
    obtain ⟨j7, hij7, hj7, h⟩ := h
    refine ww_iast j7 39 dX6_layRings_38 (ww_i1 42 (by decide)) rfl (by decide) hij7 hj7 rfl (fun τ8 eτ8 => ?_)
    replace h := h τ8 eτ8
    refine ww_iinc (nI 1) 42 3 dX6_layRings_39 (by decide) rfl rfl (by decide) rfl [some (.inr (.inr (30, 0))), none, some (.inl x2), some (.inl (x3 + nI 1))] rfl ?_
    refine ww_goto 19 dX6_layRings_42 (by decide) ?_
    exact h
theorem b_X6_layRings_64 {g : ww_G} {E : ww_E} {τ : ww_M} {x3 : Int32} {Post : ww_M → Prop}  (h : ((τ (30, 0) 12 ≤ x3 → Post τ) ∧ (¬ (τ (30, 0) 12 ≤ x3) → (∃ j1 : Nat, x3 = nI j1 ∧ j1 < 700 ∧ (∃ j2 : Nat, x3 = nI j2 ∧ j2 < 60 ∧ ∀ τ3 : ww_M, τ3 = ww_up τ (43, 0) j2 (τ (39, 0) j1) → ww_W g mX6_layRings E (ww_QV Post) 64 [some (.inr (.inr (30, 0))), none, none, some (.inl (x3 + nI 1))] [] τ3))))) : ww_W g mX6_layRings E (ww_QV Post) 64 [some (.inr (.inr (30, 0))), none, none, some (.inl x3)] [] τ := by
  refine ww_iload_n 65 dX6_layRings_64 rfl 3 rfl rfl ?_
  refine ww_aload_n 66 dX6_layRings_65 rfl 0 rfl rfl ?_
  refine ww_getI 12 69 dX6_layRings_66 wf_X6_72 (ww_i1 30 (by decide)) rfl rfl rfl ?_
  refine ww_ic_ge 90 72 dX6_layRings_69 (by decide) rfl (fun c => ?_) (fun c => ?_)
  · replace h := h.1 c
    exact ww_vret dX6_layRings_90 rfl ⟨rfl, h⟩
  · replace h := h.2 c
    refine ww_aload_n 73 dX6_layRings_72 rfl 0 rfl rfl ?_
    refine ww_getR 20 76 dX6_layRings_73 wf_X6_46 (ww_i1 30 (by decide)) rfl rfl rfl ?_
    refine ww_iload_n 77 dX6_layRings_76 rfl 3 rfl rfl ?_
    refine ww_aload_n 78 dX6_layRings_77 rfl 0 rfl rfl ?_
    refine ww_getR 11 81 dX6_layRings_78 wf_X6_34 (ww_i1 30 (by decide)) rfl rfl rfl ?_
    refine ww_iload_n 82 dX6_layRings_81 rfl 3 rfl rfl ?_
    obtain ⟨j1, hij1, hj1, h⟩ := h
    refine ww_iald j1 83 dX6_layRings_82 (ww_i1 39 (by decide)) rfl (by decide) hij1 hj1 rfl ?_
    obtain ⟨j2, hij2, hj2, h⟩ := h
    refine ww_iast j2 84 dX6_layRings_83 (ww_i1 43 (by decide)) rfl (by decide) hij2 hj2 rfl (fun τ3 eτ3 => ?_)
    replace h := h τ3 eτ3
    refine ww_iinc (nI 1) 87 3 dX6_layRings_84 (by decide) rfl rfl (by decide) rfl [some (.inr (.inr (30, 0))), none, none, some (.inl (x3 + nI 1))] rfl ?_
    refine ww_goto 64 dX6_layRings_87 (by decide) ?_
    exact h
theorem b_X6_turnsBy {l : Launch} {g : ww_G} {τ : ww_M} {a1 : Int32} {a2 : Int32} {a3 : Int32} {Post : Int32 → ww_M → Prop}  (h : ∀ E : ww_E, (∀ τ1 : ww_M, τ1 = ww_up τ (30, 0) 12 (nI 0) → ww_W g mX6_turnsBy E (ww_QI Post) 8 [some (.inr (.inr (30, 0))), some (.inl a1), some (.inl a2), some (.inl a3), some (.inl (nI 0))] [] τ1)) : ww_T l g mX6_turnsBy [.inr (.inr (30, 0)), .inl a1, .inl a2, .inl a3] τ (ww_QI Post) := by
  refine ww_enter (P := [some (.inr (.inr (30, 0))), some (.inl a1), some (.inl a2), some (.inl a3), none]) (by decide) (Nat.le_of_ble_eq_true rfl) rfl (fun E => ?_)
  replace h := h E
  refine ww_aload_n 1 dX6_turnsBy_0 rfl 0 rfl rfl ?_
  refine ww_iconst (v := nI 0) 2 dX6_turnsBy_1 (by decide) rfl ?_
  refine ww_putI 12 5 dX6_turnsBy_2 wf_X6_72 fp_X6_12 (ww_i1 30 (by decide)) rfl rfl rfl (fun τ1 eτ1 => ?_)
  replace h := h τ1 eτ1
  refine ww_iconst (v := nI 0) 6 dX6_turnsBy_5 (by decide) rfl ?_
  refine ww_istore 8 4 dX6_turnsBy_6 rfl (by decide) rfl [some (.inr (.inr (30, 0))), some (.inl a1), some (.inl a2), some (.inl a3), some (.inl (nI 0))] rfl ?_
  exact h
theorem b_X6_turnsBy_8 {g : ww_G} {E : ww_E} {τ : ww_M} {x1 : Int32} {x2 : Int32} {x3 : Int32} {x4 : Int32} {Post : Int32 → ww_M → Prop}  (h : ((τ (30, 0) 21 ≤ x4 → ww_W g mX6_turnsBy E (ww_QI Post) 44 [some (.inr (.inr (30, 0))), none, some (.inl x2), some (.inl x3), some (.inl (nI 0))] [] τ) ∧ (¬ (τ (30, 0) 21 ≤ x4) → (¬ (τ (30, 0) 21) = nI 0 ∧ (∃ j2 : Nat, (x1 + x4) - (x1 + x4) / (τ (30, 0) 21) * (τ (30, 0) 21) = nI j2 ∧ j2 < 60 ∧ (∃ Q3 : ww_M → Prop, ww_T E.2.1 g mX6_push [.inr (.inr (30, 0)), .inl (τ (42, 0) j2)] τ (ww_QV Q3) ∧ ∀ (τ4 : ww_M), Q3 τ4 → ww_W g mX6_turnsBy E (ww_QI Post) 8 [some (.inr (.inr (30, 0))), some (.inl x1), some (.inl x2), some (.inl x3), some (.inl (x4 + nI 1))] [] τ4)))))) : ww_W g mX6_turnsBy E (ww_QI Post) 8 [some (.inr (.inr (30, 0))), some (.inl x1), some (.inl x2), some (.inl x3), some (.inl x4)] [] τ := by
  refine ww_iload 10 4 dX6_turnsBy_8 rfl rfl ?_
  refine ww_aload_n 11 dX6_turnsBy_10 rfl 0 rfl rfl ?_
  refine ww_getI 21 14 dX6_turnsBy_11 wf_X6_219 (ww_i1 30 (by decide)) rfl rfl rfl ?_
  refine ww_ic_ge 41 17 dX6_turnsBy_14 (by decide) rfl (fun c => ?_) (fun c => ?_)
  · replace h := h.1 c
    refine ww_iconst (v := nI 0) 42 dX6_turnsBy_41 (by decide) rfl ?_
    refine ww_istore 44 4 dX6_turnsBy_42 rfl (by decide) rfl [some (.inr (.inr (30, 0))), some (.inl x1), some (.inl x2), some (.inl x3), some (.inl (nI 0))] rfl ?_
    exact ww_weak (ww_le_s (ww_le_n (ww_le_s (ww_le_s (ww_le_s (ww_le_nil _)))))) h
  · replace h := h.2 c
    refine ww_aload_n 18 dX6_turnsBy_17 rfl 0 rfl rfl ?_
    refine ww_aload_n 19 dX6_turnsBy_18 rfl 0 rfl rfl ?_
    refine ww_getR 19 22 dX6_turnsBy_19 wf_X6_43 (ww_i1 30 (by decide)) rfl rfl rfl ?_
    refine ww_iload_n 23 dX6_turnsBy_22 rfl 1 rfl rfl ?_
    refine ww_iload 25 4 dX6_turnsBy_23 rfl rfl ?_
    refine ww_iadd 26 dX6_turnsBy_25 rfl ?_
    refine ww_aload_n 27 dX6_turnsBy_26 rfl 0 rfl rfl ?_
    refine ww_getI 21 30 dX6_turnsBy_27 wf_X6_219 (ww_i1 30 (by decide)) rfl rfl rfl ?_
    obtain ⟨hz1, h⟩ := h
    refine ww_irem 31 dX6_turnsBy_30 rfl hz1 ?_
    obtain ⟨j2, hij2, hj2, h⟩ := h
    refine ww_iald j2 32 dX6_turnsBy_31 (ww_i1 42 (by decide)) rfl (by decide) hij2 hj2 rfl ?_
    obtain ⟨Q3, hT, h⟩ := h
    refine ww_invVV (d' := mX6_push) [.inl (τ (42, 0) j2)] rfl 35 dX6_turnsBy_32 ⟨wi_X6, wc_X6_push, wp_X6_push, by decide, by decide⟩ wl_X6_80 wn_X6_push we_X6_push (ww_i1 30 (by decide)) rfl rfl (Nat.le_of_ble_eq_true rfl) rfl hT (fun τ4 hq => ?_)
    replace h := h τ4 hq
    refine ww_iinc (nI 1) 38 4 dX6_turnsBy_35 (by decide) rfl rfl (by decide) rfl [some (.inr (.inr (30, 0))), some (.inl x1), some (.inl x2), some (.inl x3), some (.inl (x4 + nI 1))] rfl ?_
    refine ww_goto 8 dX6_turnsBy_38 (by decide) ?_
    exact h
theorem b_X6_turnsBy_44 {g : ww_G} {E : ww_E} {τ : ww_M} {x2 : Int32} {x3 : Int32} {x4 : Int32} {Post : Int32 → ww_M → Prop}  (h : ((x3 ≤ x4 → ww_W g mX6_turnsBy E (ww_QI Post) 80 [some (.inr (.inr (30, 0))), none, some (.inl x2), some (.inl x3), some (.inl ((τ (30, 0) 22) - (nI 1)))] [] τ) ∧ (¬ (x3 ≤ x4) → (∃ j1 : Nat, ((nI 14) * x2) + x4 = nI j1 ∧ j1 < 1176 ∧ (∃ Q2 : ww_M → Prop, ww_T E.2.1 g mX6_push [.inr (.inr (30, 0)), .inl (τ (33, 0) j1)] τ (ww_QV Q2) ∧ ∀ (τ3 : ww_M), Q2 τ3 → ww_W g mX6_turnsBy E (ww_QI Post) 44 [some (.inr (.inr (30, 0))), none, some (.inl x2), some (.inl x3), some (.inl (x4 + nI 1))] [] τ3))))) : ww_W g mX6_turnsBy E (ww_QI Post) 44 [some (.inr (.inr (30, 0))), none, some (.inl x2), some (.inl x3), some (.inl x4)] [] τ := by
  refine ww_iload 46 4 dX6_turnsBy_44 rfl rfl ?_
  refine ww_iload_n 47 dX6_turnsBy_46 rfl 3 rfl rfl ?_
  refine ww_ic_ge 72 50 dX6_turnsBy_47 (by decide) rfl (fun c => ?_) (fun c => ?_)
  · replace h := h.1 c
    refine ww_aload_n 73 dX6_turnsBy_72 rfl 0 rfl rfl ?_
    refine ww_getI 22 76 dX6_turnsBy_73 wf_X6_222 (ww_i1 30 (by decide)) rfl rfl rfl ?_
    refine ww_iconst (v := nI 1) 77 dX6_turnsBy_76 (by decide) rfl ?_
    refine ww_isub 78 dX6_turnsBy_77 rfl ?_
    refine ww_istore 80 4 dX6_turnsBy_78 rfl (by decide) rfl [some (.inr (.inr (30, 0))), none, some (.inl x2), some (.inl x3), some (.inl ((τ (30, 0) 22) - (nI 1)))] rfl ?_
    exact h
  · replace h := h.2 c
    refine ww_aload_n 51 dX6_turnsBy_50 rfl 0 rfl rfl ?_
    refine ww_aload_n 52 dX6_turnsBy_51 rfl 0 rfl rfl ?_
    refine ww_getR 3 55 dX6_turnsBy_52 wf_X6_16 (ww_i1 30 (by decide)) rfl rfl rfl ?_
    refine ww_bipush (v := nI 14) 57 dX6_turnsBy_55 (by decide) rfl ?_
    refine ww_iload_n 58 dX6_turnsBy_57 rfl 2 rfl rfl ?_
    refine ww_imul 59 dX6_turnsBy_58 rfl ?_
    refine ww_iload 61 4 dX6_turnsBy_59 rfl rfl ?_
    refine ww_iadd 62 dX6_turnsBy_61 rfl ?_
    obtain ⟨j1, hij1, hj1, h⟩ := h
    refine ww_iald j1 63 dX6_turnsBy_62 (ww_i1 33 (by decide)) rfl (by decide) hij1 hj1 rfl ?_
    obtain ⟨Q2, hT, h⟩ := h
    refine ww_invVV (d' := mX6_push) [.inl (τ (33, 0) j1)] rfl 66 dX6_turnsBy_63 ⟨wi_X6, wc_X6_push, wp_X6_push, by decide, by decide⟩ wl_X6_80 wn_X6_push we_X6_push (ww_i1 30 (by decide)) rfl rfl (Nat.le_of_ble_eq_true rfl) rfl hT (fun τ3 hq => ?_)
    replace h := h τ3 hq
    refine ww_iinc (nI 1) 69 4 dX6_turnsBy_66 (by decide) rfl rfl (by decide) rfl [some (.inr (.inr (30, 0))), none, some (.inl x2), some (.inl x3), some (.inl (x4 + nI 1))] rfl ?_
    refine ww_goto 44 dX6_turnsBy_69 (by decide) ?_
    exact h
theorem b_X6_turnsBy_80 {g : ww_G} {E : ww_E} {τ : ww_M} {x2 : Int32} {x3 : Int32} {x4 : Int32} {Post : Int32 → ww_M → Prop}  (h : ((x4 < nI 0 → ww_W g mX6_turnsBy E (ww_QI Post) 110 [some (.inr (.inr (30, 0))), none, some (.inl x2), none, some (.inl (x3 - (nI 1)))] [] τ) ∧ (¬ (x4 < nI 0) → (∃ j1 : Nat, x4 = nI j1 ∧ j1 < 60 ∧ (∃ Q2 : Int32 → ww_M → Prop, ww_T E.2.1 g mX6_opposite [.inl (τ (43, 0) j1)] τ (ww_QI Q2) ∧ ∀ (v3 : Int32) (τ4 : ww_M), Q2 v3 τ4 → (∃ Q5 : ww_M → Prop, ww_T E.2.1 g mX6_push [.inr (.inr (30, 0)), .inl v3] τ4 (ww_QV Q5) ∧ ∀ (τ6 : ww_M), Q5 τ6 → ww_W g mX6_turnsBy E (ww_QI Post) 80 [some (.inr (.inr (30, 0))), none, some (.inl x2), some (.inl x3), some (.inl (x4 + (-1 : Int32)))] [] τ6)))))) : ww_W g mX6_turnsBy E (ww_QI Post) 80 [some (.inr (.inr (30, 0))), none, some (.inl x2), some (.inl x3), some (.inl x4)] [] τ := by
  refine ww_iload 82 4 dX6_turnsBy_80 rfl rfl ?_
  refine ww_if_lt 105 85 dX6_turnsBy_82 (by decide) rfl (fun c => ?_) (fun c => ?_)
  · replace h := h.1 c
    refine ww_iload_n 106 dX6_turnsBy_105 rfl 3 rfl rfl ?_
    refine ww_iconst (v := nI 1) 107 dX6_turnsBy_106 (by decide) rfl ?_
    refine ww_isub 108 dX6_turnsBy_107 rfl ?_
    refine ww_istore 110 4 dX6_turnsBy_108 rfl (by decide) rfl [some (.inr (.inr (30, 0))), none, some (.inl x2), some (.inl x3), some (.inl (x3 - (nI 1)))] rfl ?_
    exact ww_weak (ww_le_s (ww_le_n (ww_le_s (ww_le_n (ww_le_s (ww_le_nil _)))))) h
  · replace h := h.2 c
    refine ww_aload_n 86 dX6_turnsBy_85 rfl 0 rfl rfl ?_
    refine ww_aload_n 87 dX6_turnsBy_86 rfl 0 rfl rfl ?_
    refine ww_getR 20 90 dX6_turnsBy_87 wf_X6_46 (ww_i1 30 (by decide)) rfl rfl rfl ?_
    refine ww_iload 92 4 dX6_turnsBy_90 rfl rfl ?_
    obtain ⟨j1, hij1, hj1, h⟩ := h
    refine ww_iald j1 93 dX6_turnsBy_92 (ww_i1 43 (by decide)) rfl (by decide) hij1 hj1 rfl ?_
    obtain ⟨Q2, hT, h⟩ := h
    refine ww_invSI (d' := mX6_opposite) [.inl (τ (43, 0) j1)] rfl 96 dX6_turnsBy_93 ⟨wi_X6, wc_X6_opposite, wp_X6_opposite, by decide, by decide⟩ (Or.inl wl_X6_76) wn_X6_opposite (Nat.le_of_ble_eq_true rfl) rfl hT (fun v3 τ4 hq => ?_)
    replace h := h v3 τ4 hq
    obtain ⟨Q5, hT, h⟩ := h
    refine ww_invVV (d' := mX6_push) [.inl v3] rfl 99 dX6_turnsBy_96 ⟨wi_X6, wc_X6_push, wp_X6_push, by decide, by decide⟩ wl_X6_80 wn_X6_push we_X6_push (ww_i1 30 (by decide)) rfl rfl (Nat.le_of_ble_eq_true rfl) rfl hT (fun τ6 hq => ?_)
    replace h := h τ6 hq
    refine ww_iinc (-1 : Int32) 102 4 dX6_turnsBy_99 (by decide) rfl rfl (by decide) rfl [some (.inr (.inr (30, 0))), none, some (.inl x2), some (.inl x3), some (.inl (x4 + (-1 : Int32)))] rfl ?_
    refine ww_goto 80 dX6_turnsBy_102 (by decide) ?_
    exact h
theorem b_X6_turnsBy_110 {g : ww_G} {E : ww_E} {τ : ww_M} {x2 : Int32} {x4 : Int32} {Post : Int32 → ww_M → Prop}  (h : ((x4 < nI 0 → (∃ Q1 : Int32 → ww_M → Prop, ww_T E.2.1 g mX6_isNothing [.inr (.inr (30, 0))] τ (ww_QI Q1) ∧ ∀ (v2 : Int32) (τ3 : ww_M), Q1 v2 τ3 → (v2 = nI 0 ∨ v2 = nI 1) ∧ Post v2 τ3)) ∧ (¬ (x4 < nI 0) → (∃ j4 : Nat, ((nI 14) * x2) + x4 = nI j4 ∧ j4 < 1176 ∧ (∃ Q5 : Int32 → ww_M → Prop, ww_T E.2.1 g mX6_opposite [.inl (τ (33, 0) j4)] τ (ww_QI Q5) ∧ ∀ (v6 : Int32) (τ7 : ww_M), Q5 v6 τ7 → (∃ Q8 : ww_M → Prop, ww_T E.2.1 g mX6_push [.inr (.inr (30, 0)), .inl v6] τ7 (ww_QV Q8) ∧ ∀ (τ9 : ww_M), Q8 τ9 → ww_W g mX6_turnsBy E (ww_QI Post) 110 [some (.inr (.inr (30, 0))), none, some (.inl x2), none, some (.inl (x4 + (-1 : Int32)))] [] τ9)))))) : ww_W g mX6_turnsBy E (ww_QI Post) 110 [some (.inr (.inr (30, 0))), none, some (.inl x2), none, some (.inl x4)] [] τ := by
  refine ww_iload 112 4 dX6_turnsBy_110 rfl rfl ?_
  refine ww_if_lt 140 115 dX6_turnsBy_112 (by decide) rfl (fun c => ?_) (fun c => ?_)
  · replace h := h.1 c
    refine ww_aload_n 141 dX6_turnsBy_140 rfl 0 rfl rfl ?_
    obtain ⟨Q1, hT, h⟩ := h
    refine ww_invVI (d' := mX6_isNothing) [] rfl 144 dX6_turnsBy_141 ⟨wi_X6, wc_X6_isNothing, wp_X6_isNothing, by decide, by decide⟩ wl_X6_215 wn_X6_isNothing we_X6_isNothing (ww_i1 30 (by decide)) rfl rfl (Nat.le_of_ble_eq_true rfl) rfl hT (fun v2 τ3 hq => ?_)
    replace h := h v2 τ3 hq
    exact ww_zret dX6_turnsBy_144 rfl h.1 ⟨_, rfl, h.2⟩
  · replace h := h.2 c
    refine ww_aload_n 116 dX6_turnsBy_115 rfl 0 rfl rfl ?_
    refine ww_aload_n 117 dX6_turnsBy_116 rfl 0 rfl rfl ?_
    refine ww_getR 3 120 dX6_turnsBy_117 wf_X6_16 (ww_i1 30 (by decide)) rfl rfl rfl ?_
    refine ww_bipush (v := nI 14) 122 dX6_turnsBy_120 (by decide) rfl ?_
    refine ww_iload_n 123 dX6_turnsBy_122 rfl 2 rfl rfl ?_
    refine ww_imul 124 dX6_turnsBy_123 rfl ?_
    refine ww_iload 126 4 dX6_turnsBy_124 rfl rfl ?_
    refine ww_iadd 127 dX6_turnsBy_126 rfl ?_
    obtain ⟨j4, hij4, hj4, h⟩ := h
    refine ww_iald j4 128 dX6_turnsBy_127 (ww_i1 33 (by decide)) rfl (by decide) hij4 hj4 rfl ?_
    obtain ⟨Q5, hT, h⟩ := h
    refine ww_invSI (d' := mX6_opposite) [.inl (τ (33, 0) j4)] rfl 131 dX6_turnsBy_128 ⟨wi_X6, wc_X6_opposite, wp_X6_opposite, by decide, by decide⟩ (Or.inl wl_X6_76) wn_X6_opposite (Nat.le_of_ble_eq_true rfl) rfl hT (fun v6 τ7 hq => ?_)
    replace h := h v6 τ7 hq
    obtain ⟨Q8, hT, h⟩ := h
    refine ww_invVV (d' := mX6_push) [.inl v6] rfl 134 dX6_turnsBy_131 ⟨wi_X6, wc_X6_push, wp_X6_push, by decide, by decide⟩ wl_X6_80 wn_X6_push we_X6_push (ww_i1 30 (by decide)) rfl rfl (Nat.le_of_ble_eq_true rfl) rfl hT (fun τ9 hq => ?_)
    replace h := h τ9 hq
    refine ww_iinc (-1 : Int32) 137 4 dX6_turnsBy_134 (by decide) rfl rfl (by decide) rfl [some (.inr (.inr (30, 0))), none, some (.inl x2), none, some (.inl (x4 + (-1 : Int32)))] rfl ?_
    refine ww_goto 110 dX6_turnsBy_137 (by decide) ?_
    exact h
theorem b_X6_turned {l : Launch} {g : ww_G} {τ : ww_M} {a1 : Int32} {a2 : Int32} {Post : Int32 → ww_M → Prop}  (h : ∀ E : ww_E, (∃ Q1 : Int32 → ww_M → Prop, ww_T E.2.1 g mX6_isWord [.inl a1] τ (ww_QI Q1) ∧ ∀ (v2 : Int32) (τ3 : ww_M), Q1 v2 τ3 → (v2 = nI 0 → (∃ Q4 : Int32 → ww_M → Prop, ww_T E.2.1 g mX6_bad [.inr (.inr (30, 0))] τ3 (ww_QI Q4) ∧ ∀ (v5 : Int32) (τ6 : ww_M), Q4 v5 τ6 → Post v5 τ6)) ∧ (¬ v2 = nI 0 → (∃ Q7 : Int32 → ww_M → Prop, ww_T E.2.1 g mX6_isWord [.inl a2] τ3 (ww_QI Q7) ∧ ∀ (v8 : Int32) (τ9 : ww_M), Q7 v8 τ9 → (¬ v8 = nI 0 → (∃ Q10 : ww_M → Prop, ww_T E.2.1 g mX6_layRings [.inr (.inr (30, 0)), .inl a1, .inl a2] τ9 (ww_QV Q10) ∧ ∀ (τ11 : ww_M), Q10 τ11 → (∃ Q12 : Int32 → ww_M → Prop, ww_T E.2.1 g mX6_isGood [.inr (.inr (30, 0)), .inl (nI 6)] τ11 (ww_QI Q12) ∧ ∀ (v13 : Int32) (τ14 : ww_M), Q12 v13 τ14 → (v13 = nI 0 → (∃ Q15 : Int32 → ww_M → Prop, ww_T E.2.1 g mX6_no [.inr (.inr (30, 0))] τ14 (ww_QI Q15) ∧ ∀ (v16 : Int32) (τ17 : ww_M), Q15 v16 τ17 → Post v16 τ17)) ∧ (¬ v13 = nI 0 → ((nI 8 < τ14 (30, 0) 21 → (∃ Q18 : Int32 → ww_M → Prop, ww_T E.2.1 g mX6_no [.inr (.inr (30, 0))] τ14 (ww_QI Q18) ∧ ∀ (v19 : Int32) (τ20 : ww_M), Q18 v19 τ20 → Post v19 τ20)) ∧ (¬ (nI 8 < τ14 (30, 0) 21) → ((τ14 (30, 0) 22 ≤ nI 8 → ww_W g mX6_turned E (ww_QI Post) 59 [some (.inr (.inr (30, 0))), none, none, some (.inl (nI 0)), none, none] [] τ14) ∧ (¬ (τ14 (30, 0) 22 ≤ nI 8) → (∃ Q21 : Int32 → ww_M → Prop, ww_T E.2.1 g mX6_no [.inr (.inr (30, 0))] τ14 (ww_QI Q21) ∧ ∀ (v22 : Int32) (τ23 : ww_M), Q21 v22 τ23 → Post v22 τ23))))))))) ∧ (v8 = nI 0 → (∃ Q24 : Int32 → ww_M → Prop, ww_T E.2.1 g mX6_bad [.inr (.inr (30, 0))] τ9 (ww_QI Q24) ∧ ∀ (v25 : Int32) (τ26 : ww_M), Q24 v25 τ26 → Post v25 τ26)))))) : ww_T l g mX6_turned [.inr (.inr (30, 0)), .inl a1, .inl a2] τ (ww_QI Post) := by
  refine ww_enter (P := [some (.inr (.inr (30, 0))), some (.inl a1), some (.inl a2), none, none, none]) (by decide) (Nat.le_of_ble_eq_true rfl) rfl (fun E => ?_)
  replace h := h E
  refine ww_iload_n 1 dX6_turned_0 rfl 1 rfl rfl ?_
  obtain ⟨Q1, hT, h⟩ := h
  refine ww_invSI (d' := mX6_isWord) [.inl a1] rfl 4 dX6_turned_1 ⟨wi_X6, wc_X6_isWord, wp_X6_isWord, by decide, by decide⟩ (Or.inl wl_X6_156) wn_X6_isWord (Nat.le_of_ble_eq_true rfl) rfl hT (fun v2 τ3 hq => ?_)
  replace h := h v2 τ3 hq
  refine ww_if_eq 14 7 dX6_turned_4 (by decide) rfl (fun c => ?_) (fun c => ?_)
  · replace h := h.1 c
    refine ww_aload_n 15 dX6_turned_14 rfl 0 rfl rfl ?_
    obtain ⟨Q4, hT, h⟩ := h
    refine ww_invVI (d' := mX6_bad) [] rfl 18 dX6_turned_15 ⟨wi_X6, wc_X6_bad, wp_X6_bad, by decide, by decide⟩ wl_X6_133 wn_X6_bad we_X6_bad (ww_i1 30 (by decide)) rfl rfl (Nat.le_of_ble_eq_true rfl) rfl hT (fun v5 τ6 hq => ?_)
    replace h := h v5 τ6 hq
    exact ww_iret dX6_turned_18 rfl ⟨_, rfl, h⟩
  · replace h := h.2 c
    refine ww_iload_n 8 dX6_turned_7 rfl 2 rfl rfl ?_
    obtain ⟨Q7, hT, h⟩ := h
    refine ww_invSI (d' := mX6_isWord) [.inl a2] rfl 11 dX6_turned_8 ⟨wi_X6, wc_X6_isWord, wp_X6_isWord, by decide, by decide⟩ (Or.inl wl_X6_156) wn_X6_isWord (Nat.le_of_ble_eq_true rfl) rfl hT (fun v8 τ9 hq => ?_)
    replace h := h v8 τ9 hq
    refine ww_if_ne 19 14 dX6_turned_11 (by decide) rfl (fun c => ?_) (fun c => ?_)
    · replace h := h.1 c
      refine ww_aload_n 20 dX6_turned_19 rfl 0 rfl rfl ?_
      refine ww_iload_n 21 dX6_turned_20 rfl 1 rfl rfl ?_
      refine ww_iload_n 22 dX6_turned_21 rfl 2 rfl rfl ?_
      obtain ⟨Q10, hT, h⟩ := h
      refine ww_invVV (d' := mX6_layRings) [.inl a1, .inl a2] rfl 25 dX6_turned_22 ⟨wi_X6, wc_X6_layRings, wp_X6_layRings, by decide, by decide⟩ wl_X6_225 wn_X6_layRings we_X6_layRings (ww_i1 30 (by decide)) rfl rfl (Nat.le_of_ble_eq_true rfl) rfl hT (fun τ11 hq => ?_)
      replace h := h τ11 hq
      refine ww_aload_n 26 dX6_turned_25 rfl 0 rfl rfl ?_
      refine ww_bipush (v := nI 6) 28 dX6_turned_26 (by decide) rfl ?_
      obtain ⟨Q12, hT, h⟩ := h
      refine ww_invVI (d' := mX6_isGood) [.inl (nI 6)] rfl 31 dX6_turned_28 ⟨wi_X6, wc_X6_isGood, wp_X6_isGood, by decide, by decide⟩ wl_X6_141 wn_X6_isGood we_X6_isGood (ww_i1 30 (by decide)) rfl rfl (Nat.le_of_ble_eq_true rfl) rfl hT (fun v13 τ14 hq => ?_)
      replace h := h v13 τ14 hq
      refine ww_if_eq 52 34 dX6_turned_31 (by decide) rfl (fun c => ?_) (fun c => ?_)
      · replace h := h.1 c
        refine ww_aload_n 53 dX6_turned_52 rfl 0 rfl rfl ?_
        obtain ⟨Q15, hT, h⟩ := h
        refine ww_invVI (d' := mX6_no) [] rfl 56 dX6_turned_53 ⟨wi_X6, wc_X6_no, wp_X6_no, by decide, by decide⟩ wl_X6_178 wn_X6_no we_X6_no (ww_i1 30 (by decide)) rfl rfl (Nat.le_of_ble_eq_true rfl) rfl hT (fun v16 τ17 hq => ?_)
        replace h := h v16 τ17 hq
        exact ww_iret dX6_turned_56 rfl ⟨_, rfl, h⟩
      · replace h := h.2 c
        refine ww_aload_n 35 dX6_turned_34 rfl 0 rfl rfl ?_
        refine ww_getI 21 38 dX6_turned_35 wf_X6_219 (ww_i1 30 (by decide)) rfl rfl rfl ?_
        refine ww_bipush (v := nI 8) 40 dX6_turned_38 (by decide) rfl ?_
        refine ww_ic_gt 52 43 dX6_turned_40 (by decide) rfl (fun c => ?_) (fun c => ?_)
        · replace h := h.1 c
          refine ww_aload_n 53 dX6_turned_52 rfl 0 rfl rfl ?_
          obtain ⟨Q18, hT, h⟩ := h
          refine ww_invVI (d' := mX6_no) [] rfl 56 dX6_turned_53 ⟨wi_X6, wc_X6_no, wp_X6_no, by decide, by decide⟩ wl_X6_178 wn_X6_no we_X6_no (ww_i1 30 (by decide)) rfl rfl (Nat.le_of_ble_eq_true rfl) rfl hT (fun v19 τ20 hq => ?_)
          replace h := h v19 τ20 hq
          exact ww_iret dX6_turned_56 rfl ⟨_, rfl, h⟩
        · replace h := h.2 c
          refine ww_aload_n 44 dX6_turned_43 rfl 0 rfl rfl ?_
          refine ww_getI 22 47 dX6_turned_44 wf_X6_222 (ww_i1 30 (by decide)) rfl rfl rfl ?_
          refine ww_bipush (v := nI 8) 49 dX6_turned_47 (by decide) rfl ?_
          refine ww_ic_le 57 52 dX6_turned_49 (by decide) rfl (fun c => ?_) (fun c => ?_)
          · replace h := h.1 c
            refine ww_iconst (v := nI 0) 58 dX6_turned_57 (by decide) rfl ?_
            refine ww_istore_n 59 dX6_turned_58 rfl 3 rfl (by decide) rfl [some (.inr (.inr (30, 0))), some (.inl a1), some (.inl a2), some (.inl (nI 0)), none, none] rfl ?_
            exact ww_weak (ww_le_s (ww_le_n (ww_le_n (ww_le_s (ww_le_n (ww_le_n (ww_le_nil _))))))) h
          · replace h := h.2 c
            refine ww_aload_n 53 dX6_turned_52 rfl 0 rfl rfl ?_
            obtain ⟨Q21, hT, h⟩ := h
            refine ww_invVI (d' := mX6_no) [] rfl 56 dX6_turned_53 ⟨wi_X6, wc_X6_no, wp_X6_no, by decide, by decide⟩ wl_X6_178 wn_X6_no we_X6_no (ww_i1 30 (by decide)) rfl rfl (Nat.le_of_ble_eq_true rfl) rfl hT (fun v22 τ23 hq => ?_)
            replace h := h v22 τ23 hq
            exact ww_iret dX6_turned_56 rfl ⟨_, rfl, h⟩
    · replace h := h.2 c
      refine ww_aload_n 15 dX6_turned_14 rfl 0 rfl rfl ?_
      obtain ⟨Q24, hT, h⟩ := h
      refine ww_invVI (d' := mX6_bad) [] rfl 18 dX6_turned_15 ⟨wi_X6, wc_X6_bad, wp_X6_bad, by decide, by decide⟩ wl_X6_133 wn_X6_bad we_X6_bad (ww_i1 30 (by decide)) rfl rfl (Nat.le_of_ble_eq_true rfl) rfl hT (fun v25 τ26 hq => ?_)
      replace h := h v25 τ26 hq
      exact ww_iret dX6_turned_18 rfl ⟨_, rfl, h⟩
theorem b_X6_turned_59 {g : ww_G} {E : ww_E} {τ : ww_M} {x3 : Int32} {Post : Int32 → ww_M → Prop}  (h : ((¬ τ (30, 0) 21 = nI 0 → ww_W g mX6_turned E (ww_QI Post) 75 [some (.inr (.inr (30, 0))), none, none, some (.inl x3), none, none] [.inl (τ (30, 0) 21), .inl x3] τ) ∧ (τ (30, 0) 21 = nI 0 → ww_W g mX6_turned E (ww_QI Post) 75 [some (.inr (.inr (30, 0))), none, none, some (.inl x3), none, none] [.inl (nI 1), .inl x3] τ))) : ww_W g mX6_turned E (ww_QI Post) 59 [some (.inr (.inr (30, 0))), none, none, some (.inl x3), none, none] [] τ := by
  refine ww_iload_n 60 dX6_turned_59 rfl 3 rfl rfl ?_
  refine ww_aload_n 61 dX6_turned_60 rfl 0 rfl rfl ?_
  refine ww_getI 21 64 dX6_turned_61 wf_X6_219 (ww_i1 30 (by decide)) rfl rfl rfl ?_
  refine ww_if_ne 71 67 dX6_turned_64 (by decide) rfl (fun c => ?_) (fun c => ?_)
  · replace h := h.1 c
    refine ww_aload_n 72 dX6_turned_71 rfl 0 rfl rfl ?_
    refine ww_getI 21 75 dX6_turned_72 wf_X6_219 (ww_i1 30 (by decide)) rfl rfl rfl ?_
    exact h
  · replace h := h.2 c
    refine ww_iconst (v := nI 1) 68 dX6_turned_67 (by decide) rfl ?_
    refine ww_goto 75 dX6_turned_68 (by decide) ?_
    exact h
theorem b_X6_turned_75 {g : ww_G} {E : ww_E} {τ : ww_M} {x3 : Int32} {y0 : Int32} {y1 : Int32} {Post : Int32 → ww_M → Prop}  (h : ((y0 ≤ y1 → Post (-1 : Int32) τ) ∧ (¬ (y0 ≤ y1) → (∃ Q1 : Int32 → ww_M → Prop, ww_T E.2.1 g mX6_turnsBy [.inr (.inr (30, 0)), .inl x3, .inl (nI 0), .inl (nI 0)] τ (ww_QI Q1) ∧ ∀ (v2 : Int32) (τ3 : ww_M), Q1 v2 τ3 → (v2 = nI 0 → ww_W g mX6_turned E (ww_QI Post) 96 [some (.inr (.inr (30, 0))), none, none, some (.inl x3), some (.inl (nI 1)), none] [] τ3) ∧ (¬ v2 = nI 0 → Post ((nI 100) * x3) τ3))))) : ww_W g mX6_turned E (ww_QI Post) 75 [some (.inr (.inr (30, 0))), none, none, some (.inl x3), none, none] [.inl y0, .inl y1] τ := by
  refine ww_ic_ge 164 78 dX6_turned_75 (by decide) rfl (fun c => ?_) (fun c => ?_)
  · replace h := h.1 c
    refine ww_iconst (v := (-1 : Int32)) 165 dX6_turned_164 (by decide) rfl ?_
    exact ww_iret dX6_turned_165 rfl ⟨_, rfl, h⟩
  · replace h := h.2 c
    refine ww_aload_n 79 dX6_turned_78 rfl 0 rfl rfl ?_
    refine ww_iload_n 80 dX6_turned_79 rfl 3 rfl rfl ?_
    refine ww_iconst (v := nI 0) 81 dX6_turned_80 (by decide) rfl ?_
    refine ww_iconst (v := nI 0) 82 dX6_turned_81 (by decide) rfl ?_
    obtain ⟨Q1, hT, h⟩ := h
    refine ww_invVI (d' := mX6_turnsBy) [.inl x3, .inl (nI 0), .inl (nI 0)] rfl 85 dX6_turned_82 ⟨wi_X6, wc_X6_turnsBy, wp_X6_turnsBy, by decide, by decide⟩ wl_X6_228 wn_X6_turnsBy we_X6_turnsBy (ww_i1 30 (by decide)) rfl rfl (Nat.le_of_ble_eq_true rfl) rfl hT (fun v2 τ3 hq => ?_)
    replace h := h v2 τ3 hq
    refine ww_if_eq 93 88 dX6_turned_85 (by decide) rfl (fun c => ?_) (fun c => ?_)
    · replace h := h.1 c
      refine ww_iconst (v := nI 1) 94 dX6_turned_93 (by decide) rfl ?_
      refine ww_istore 96 4 dX6_turned_94 rfl (by decide) rfl [some (.inr (.inr (30, 0))), none, none, some (.inl x3), some (.inl (nI 1)), none] rfl ?_
      exact h
    · replace h := h.2 c
      refine ww_bipush (v := nI 100) 90 dX6_turned_88 (by decide) rfl ?_
      refine ww_iload_n 91 dX6_turned_90 rfl 3 rfl rfl ?_
      refine ww_imul 92 dX6_turned_91 rfl ?_
      exact ww_iret dX6_turned_92 rfl ⟨_, rfl, h⟩
theorem b_X6_turned_96 {g : ww_G} {E : ww_E} {τ : ww_M} {x3 : Int32} {x4 : Int32} {Post : Int32 → ww_M → Prop}  (h : ((nI 3 ≤ x4 → ww_W g mX6_turned E (ww_QI Post) 59 [some (.inr (.inr (30, 0))), none, none, some (.inl (x3 + nI 1)), none, none] [] τ) ∧ (¬ (nI 3 ≤ x4) → ww_W g mX6_turned E (ww_QI Post) 105 [some (.inr (.inr (30, 0))), none, none, some (.inl x3), some (.inl x4), some (.inl (nI 0))] [] τ))) : ww_W g mX6_turned E (ww_QI Post) 96 [some (.inr (.inr (30, 0))), none, none, some (.inl x3), some (.inl x4), none] [] τ := by
  refine ww_iload 98 4 dX6_turned_96 rfl rfl ?_
  refine ww_iconst (v := nI 3) 99 dX6_turned_98 (by decide) rfl ?_
  refine ww_ic_ge 158 102 dX6_turned_99 (by decide) rfl (fun c => ?_) (fun c => ?_)
  · replace h := h.1 c
    refine ww_iinc (nI 1) 161 3 dX6_turned_158 (by decide) rfl rfl (by decide) rfl [some (.inr (.inr (30, 0))), none, none, some (.inl (x3 + nI 1)), some (.inl x4), none] rfl ?_
    refine ww_goto 59 dX6_turned_161 (by decide) ?_
    exact ww_weak (ww_le_s (ww_le_n (ww_le_n (ww_le_s (ww_le_n (ww_le_n (ww_le_nil _))))))) h
  · replace h := h.2 c
    refine ww_iconst (v := nI 0) 103 dX6_turned_102 (by decide) rfl ?_
    refine ww_istore 105 5 dX6_turned_103 rfl (by decide) rfl [some (.inr (.inr (30, 0))), none, none, some (.inl x3), some (.inl x4), some (.inl (nI 0))] rfl ?_
    exact h
theorem b_X6_turned_105 {g : ww_G} {E : ww_E} {τ : ww_M} {x3 : Int32} {x4 : Int32} {x5 : Int32} {Post : Int32 → ww_M → Prop}  (h : ((τ (30, 0) 6 ≤ x5 → ww_W g mX6_turned E (ww_QI Post) 96 [some (.inr (.inr (30, 0))), none, none, some (.inl x3), some (.inl (x4 + nI 1)), none] [] τ) ∧ (¬ (τ (30, 0) 6 ≤ x5) → (∃ j1 : Nat, x5 = nI j1 ∧ j1 < 84 ∧ (τ (34, 0) j1 < x4 → ww_W g mX6_turned E (ww_QI Post) 105 [some (.inr (.inr (30, 0))), none, none, some (.inl x3), some (.inl x4), some (.inl (x5 + nI 1))] [] τ) ∧ (¬ (τ (34, 0) j1 < x4) → (∃ Q2 : Int32 → ww_M → Prop, ww_T E.2.1 g mX6_turnsBy [.inr (.inr (30, 0)), .inl x3, .inl x5, .inl x4] τ (ww_QI Q2) ∧ ∀ (v3 : Int32) (τ4 : ww_M), Q2 v3 τ4 → (v3 = nI 0 → ww_W g mX6_turned E (ww_QI Post) 105 [some (.inr (.inr (30, 0))), none, none, some (.inl x3), some (.inl x4), some (.inl (x5 + nI 1))] [] τ4) ∧ (¬ v3 = nI 0 → Post (((nI 100) * x3) + x4) τ4))))))) : ww_W g mX6_turned E (ww_QI Post) 105 [some (.inr (.inr (30, 0))), none, none, some (.inl x3), some (.inl x4), some (.inl x5)] [] τ := by
  refine ww_iload 107 5 dX6_turned_105 rfl rfl ?_
  refine ww_aload_n 108 dX6_turned_107 rfl 0 rfl rfl ?_
  refine ww_getI 6 111 dX6_turned_108 wf_X6_98 (ww_i1 30 (by decide)) rfl rfl rfl ?_
  refine ww_ic_ge 152 114 dX6_turned_111 (by decide) rfl (fun c => ?_) (fun c => ?_)
  · replace h := h.1 c
    refine ww_iinc (nI 1) 155 4 dX6_turned_152 (by decide) rfl rfl (by decide) rfl [some (.inr (.inr (30, 0))), none, none, some (.inl x3), some (.inl (x4 + nI 1)), some (.inl x5)] rfl ?_
    refine ww_goto 96 dX6_turned_155 (by decide) ?_
    exact ww_weak (ww_le_s (ww_le_n (ww_le_n (ww_le_s (ww_le_s (ww_le_n (ww_le_nil _))))))) h
  · replace h := h.2 c
    refine ww_aload_n 115 dX6_turned_114 rfl 0 rfl rfl ?_
    refine ww_getR 4 118 dX6_turned_115 wf_X6_19 (ww_i1 30 (by decide)) rfl rfl rfl ?_
    refine ww_iload 120 5 dX6_turned_118 rfl rfl ?_
    obtain ⟨j1, hij1, hj1, h⟩ := h
    refine ww_iald j1 121 dX6_turned_120 (ww_i1 34 (by decide)) rfl (by decide) hij1 hj1 rfl ?_
    refine ww_iload 123 4 dX6_turned_121 rfl rfl ?_
    refine ww_ic_lt 146 126 dX6_turned_123 (by decide) rfl (fun c => ?_) (fun c => ?_)
    · replace h := h.1 c
      refine ww_iinc (nI 1) 149 5 dX6_turned_146 (by decide) rfl rfl (by decide) rfl [some (.inr (.inr (30, 0))), none, none, some (.inl x3), some (.inl x4), some (.inl (x5 + nI 1))] rfl ?_
      refine ww_goto 105 dX6_turned_149 (by decide) ?_
      exact h
    · replace h := h.2 c
      refine ww_aload_n 127 dX6_turned_126 rfl 0 rfl rfl ?_
      refine ww_iload_n 128 dX6_turned_127 rfl 3 rfl rfl ?_
      refine ww_iload 130 5 dX6_turned_128 rfl rfl ?_
      refine ww_iload 132 4 dX6_turned_130 rfl rfl ?_
      obtain ⟨Q2, hT, h⟩ := h
      refine ww_invVI (d' := mX6_turnsBy) [.inl x3, .inl x5, .inl x4] rfl 135 dX6_turned_132 ⟨wi_X6, wc_X6_turnsBy, wp_X6_turnsBy, by decide, by decide⟩ wl_X6_228 wn_X6_turnsBy we_X6_turnsBy (ww_i1 30 (by decide)) rfl rfl (Nat.le_of_ble_eq_true rfl) rfl hT (fun v3 τ4 hq => ?_)
      replace h := h v3 τ4 hq
      refine ww_if_eq 146 138 dX6_turned_135 (by decide) rfl (fun c => ?_) (fun c => ?_)
      · replace h := h.1 c
        refine ww_iinc (nI 1) 149 5 dX6_turned_146 (by decide) rfl rfl (by decide) rfl [some (.inr (.inr (30, 0))), none, none, some (.inl x3), some (.inl x4), some (.inl (x5 + nI 1))] rfl ?_
        refine ww_goto 105 dX6_turned_149 (by decide) ?_
        exact h
      · replace h := h.2 c
        refine ww_bipush (v := nI 100) 140 dX6_turned_138 (by decide) rfl ?_
        refine ww_iload_n 141 dX6_turned_140 rfl 3 rfl rfl ?_
        refine ww_imul 142 dX6_turned_141 rfl ?_
        refine ww_iload 144 4 dX6_turned_142 rfl rfl ?_
        refine ww_iadd 145 dX6_turned_144 rfl ?_
        exact ww_iret dX6_turned_145 rfl ⟨_, rfl, h⟩
theorem b_X6_nothings {l : Launch} {g : ww_G} {τ : ww_M} {a1 : Int32} {Post : Int32 → ww_M → Prop}  (h : ∀ E : ww_E, (∃ Q1 : Int32 → ww_M → Prop, ww_T E.2.1 g mX6_in [.inr (.inl (a1.toInt64)), .inr (.inl (lN 1)), .inr (.inl (lN 4))] τ (ww_QI Q1) ∧ ∀ (v2 : Int32) (τ3 : ww_M), Q1 v2 τ3 → (¬ v2 = nI 0 → (∃ Q4 : Int32 → ww_M → Prop, ww_T E.2.1 g mX6_isGood [.inr (.inr (30, 0)), .inl (nI 6)] τ3 (ww_QI Q4) ∧ ∀ (v5 : Int32) (τ6 : ww_M), Q4 v5 τ6 → (¬ v5 = nI 0 → ww_W g mX6_nothings E (ww_QI Post) 35 [some (.inr (.inr (30, 0))), some (.inl a1), some (.inl (nI 0)), some (.inl (nI 0)), none] [] τ6) ∧ (v5 = nI 0 → (∃ Q7 : Int32 → ww_M → Prop, ww_T E.2.1 g mX6_no [.inr (.inr (30, 0))] τ6 (ww_QI Q7) ∧ ∀ (v8 : Int32) (τ9 : ww_M), Q7 v8 τ9 → Post v8 τ9)))) ∧ (v2 = nI 0 → (∃ Q10 : Int32 → ww_M → Prop, ww_T E.2.1 g mX6_bad [.inr (.inr (30, 0))] τ3 (ww_QI Q10) ∧ ∀ (v11 : Int32) (τ12 : ww_M), Q10 v11 τ12 → Post v11 τ12)))) : ww_T l g mX6_nothings [.inr (.inr (30, 0)), .inl a1] τ (ww_QI Post) := by
  refine ww_enter (P := [some (.inr (.inr (30, 0))), some (.inl a1), none, none, none]) (by decide) (Nat.le_of_ble_eq_true rfl) rfl (fun E => ?_)
  replace h := h E
  refine ww_iload_n 1 dX6_nothings_0 rfl 1 rfl rfl ?_
  refine ww_i2l 2 dX6_nothings_1 rfl ?_
  refine ww_lconst (v := lN 1) 3 dX6_nothings_2 (by decide) rfl ?_
  refine ww_ldc2 6 dX6_nothings_3 rfl wk_X6_151 ?_
  obtain ⟨Q1, hT, h⟩ := h
  refine ww_invSI (d' := mX6_in) [.inr (.inl (a1.toInt64)), .inr (.inl (lN 1)), .inr (.inl (lN 4))] rfl 9 dX6_nothings_6 ⟨wi_X6, wc_X6_in, wp_X6_in, by decide, by decide⟩ (Or.inl wl_X6_66) wn_X6_in (Nat.le_of_ble_eq_true rfl) rfl hT (fun v2 τ3 hq => ?_)
  replace h := h v2 τ3 hq
  refine ww_if_ne 17 12 dX6_nothings_9 (by decide) rfl (fun c => ?_) (fun c => ?_)
  · replace h := h.1 c
    refine ww_aload_n 18 dX6_nothings_17 rfl 0 rfl rfl ?_
    refine ww_bipush (v := nI 6) 20 dX6_nothings_18 (by decide) rfl ?_
    obtain ⟨Q4, hT, h⟩ := h
    refine ww_invVI (d' := mX6_isGood) [.inl (nI 6)] rfl 23 dX6_nothings_20 ⟨wi_X6, wc_X6_isGood, wp_X6_isGood, by decide, by decide⟩ wl_X6_141 wn_X6_isGood we_X6_isGood (ww_i1 30 (by decide)) rfl rfl (Nat.le_of_ble_eq_true rfl) rfl hT (fun v5 τ6 hq => ?_)
    replace h := h v5 τ6 hq
    refine ww_if_ne 31 26 dX6_nothings_23 (by decide) rfl (fun c => ?_) (fun c => ?_)
    · replace h := h.1 c
      refine ww_iconst (v := nI 0) 32 dX6_nothings_31 (by decide) rfl ?_
      refine ww_istore_n 33 dX6_nothings_32 rfl 2 rfl (by decide) rfl [some (.inr (.inr (30, 0))), some (.inl a1), some (.inl (nI 0)), none, none] rfl ?_
      refine ww_iconst (v := nI 0) 34 dX6_nothings_33 (by decide) rfl ?_
      refine ww_istore_n 35 dX6_nothings_34 rfl 3 rfl (by decide) rfl [some (.inr (.inr (30, 0))), some (.inl a1), some (.inl (nI 0)), some (.inl (nI 0)), none] rfl ?_
      exact h
    · replace h := h.2 c
      refine ww_aload_n 27 dX6_nothings_26 rfl 0 rfl rfl ?_
      obtain ⟨Q7, hT, h⟩ := h
      refine ww_invVI (d' := mX6_no) [] rfl 30 dX6_nothings_27 ⟨wi_X6, wc_X6_no, wp_X6_no, by decide, by decide⟩ wl_X6_178 wn_X6_no we_X6_no (ww_i1 30 (by decide)) rfl rfl (Nat.le_of_ble_eq_true rfl) rfl hT (fun v8 τ9 hq => ?_)
      replace h := h v8 τ9 hq
      exact ww_iret dX6_nothings_30 rfl ⟨_, rfl, h⟩
  · replace h := h.2 c
    refine ww_aload_n 13 dX6_nothings_12 rfl 0 rfl rfl ?_
    obtain ⟨Q10, hT, h⟩ := h
    refine ww_invVI (d' := mX6_bad) [] rfl 16 dX6_nothings_13 ⟨wi_X6, wc_X6_bad, wp_X6_bad, by decide, by decide⟩ wl_X6_133 wn_X6_bad we_X6_bad (ww_i1 30 (by decide)) rfl rfl (Nat.le_of_ble_eq_true rfl) rfl hT (fun v11 τ12 hq => ?_)
    replace h := h v11 τ12 hq
    exact ww_iret dX6_nothings_16 rfl ⟨_, rfl, h⟩
theorem b_X6_nothings_35 {g : ww_G} {E : ww_E} {τ : ww_M} {x1 : Int32} {x2 : Int32} {x3 : Int32} {Post : Int32 → ww_M → Prop}  (h : (((nI 1) <<< (((nI 3) * x1) &&& 31) ≤ x3 → Post x2 τ) ∧ (¬ ((nI 1) <<< (((nI 3) * x1) &&& 31) ≤ x3) → (∀ τ1 : ww_M, τ1 = ww_up τ (30, 0) 12 (nI 0) → ww_W g mX6_nothings E (ww_QI Post) 52 [some (.inr (.inr (30, 0))), some (.inl x1), some (.inl x2), some (.inl x3), some (.inl (nI 0))] [] τ1)))) : ww_W g mX6_nothings E (ww_QI Post) 35 [some (.inr (.inr (30, 0))), some (.inl x1), some (.inl x2), some (.inl x3), none] [] τ := by
  refine ww_iload_n 36 dX6_nothings_35 rfl 3 rfl rfl ?_
  refine ww_iconst (v := nI 1) 37 dX6_nothings_36 (by decide) rfl ?_
  refine ww_iconst (v := nI 3) 38 dX6_nothings_37 (by decide) rfl ?_
  refine ww_iload_n 39 dX6_nothings_38 rfl 1 rfl rfl ?_
  refine ww_imul 40 dX6_nothings_39 rfl ?_
  refine ww_ishl 41 dX6_nothings_40 rfl ?_
  refine ww_ic_ge 106 44 dX6_nothings_41 (by decide) rfl (fun c => ?_) (fun c => ?_)
  · replace h := h.1 c
    refine ww_iload_n 107 dX6_nothings_106 rfl 2 rfl rfl ?_
    exact ww_iret dX6_nothings_107 rfl ⟨_, rfl, h⟩
  · replace h := h.2 c
    refine ww_aload_n 45 dX6_nothings_44 rfl 0 rfl rfl ?_
    refine ww_iconst (v := nI 0) 46 dX6_nothings_45 (by decide) rfl ?_
    refine ww_putI 12 49 dX6_nothings_46 wf_X6_72 fp_X6_12 (ww_i1 30 (by decide)) rfl rfl rfl (fun τ1 eτ1 => ?_)
    replace h := h τ1 eτ1
    refine ww_iconst (v := nI 0) 50 dX6_nothings_49 (by decide) rfl ?_
    refine ww_istore 52 4 dX6_nothings_50 rfl (by decide) rfl [some (.inr (.inr (30, 0))), some (.inl x1), some (.inl x2), some (.inl x3), some (.inl (nI 0))] rfl ?_
    exact h
theorem b_X6_nothings_52 {g : ww_G} {E : ww_E} {τ : ww_M} {x1 : Int32} {x2 : Int32} {x3 : Int32} {x4 : Int32} {Post : Int32 → ww_M → Prop}  (h : ((x1 ≤ x4 → ((¬ τ (30, 0) 12 = x1 → ww_W g mX6_nothings E (ww_QI Post) 35 [some (.inr (.inr (30, 0))), some (.inl x1), some (.inl (x2 + (nI 0))), some (.inl (x3 + nI 1)), none] [] τ) ∧ (τ (30, 0) 12 = x1 → (∃ Q1 : Int32 → ww_M → Prop, ww_T E.2.1 g mX6_isNothing [.inr (.inr (30, 0))] τ (ww_QI Q1) ∧ ∀ (v2 : Int32) (τ3 : ww_M), Q1 v2 τ3 → (v2 = nI 0 → ww_W g mX6_nothings E (ww_QI Post) 35 [some (.inr (.inr (30, 0))), some (.inl x1), some (.inl (x2 + (nI 0))), some (.inl (x3 + nI 1)), none] [] τ3) ∧ (¬ v2 = nI 0 → ww_W g mX6_nothings E (ww_QI Post) 35 [some (.inr (.inr (30, 0))), some (.inl x1), some (.inl (x2 + (nI 1))), some (.inl (x3 + nI 1)), none] [] τ3))))) ∧ (¬ (x1 ≤ x4) → (∃ Q4 : ww_M → Prop, ww_T E.2.1 g mX6_push [.inr (.inr (30, 0)), .inl ((x3 >>> (((nI 3) * x4) &&& 31)) &&& (nI 7))] τ (ww_QV Q4) ∧ ∀ (τ5 : ww_M), Q4 τ5 → ww_W g mX6_nothings E (ww_QI Post) 52 [some (.inr (.inr (30, 0))), some (.inl x1), some (.inl x2), some (.inl x3), some (.inl (x4 + nI 1))] [] τ5)))) : ww_W g mX6_nothings E (ww_QI Post) 52 [some (.inr (.inr (30, 0))), some (.inl x1), some (.inl x2), some (.inl x3), some (.inl x4)] [] τ := by
  refine ww_iload 54 4 dX6_nothings_52 rfl rfl ?_
  refine ww_iload_n 55 dX6_nothings_54 rfl 1 rfl rfl ?_
  refine ww_ic_ge 77 58 dX6_nothings_55 (by decide) rfl (fun c => ?_) (fun c => ?_)
  · replace h := h.1 c
    refine ww_iload_n 78 dX6_nothings_77 rfl 2 rfl rfl ?_
    refine ww_aload_n 79 dX6_nothings_78 rfl 0 rfl rfl ?_
    refine ww_getI 12 82 dX6_nothings_79 wf_X6_72 (ww_i1 30 (by decide)) rfl rfl rfl ?_
    refine ww_iload_n 83 dX6_nothings_82 rfl 1 rfl rfl ?_
    refine ww_ic_ne 97 86 dX6_nothings_83 (by decide) rfl (fun c => ?_) (fun c => ?_)
    · replace h := h.1 c
      refine ww_iconst (v := nI 0) 98 dX6_nothings_97 (by decide) rfl ?_
      refine ww_iadd 99 dX6_nothings_98 rfl ?_
      refine ww_istore_n 100 dX6_nothings_99 rfl 2 rfl (by decide) rfl [some (.inr (.inr (30, 0))), some (.inl x1), some (.inl (x2 + (nI 0))), some (.inl x3), some (.inl x4)] rfl ?_
      refine ww_iinc (nI 1) 103 3 dX6_nothings_100 (by decide) rfl rfl (by decide) rfl [some (.inr (.inr (30, 0))), some (.inl x1), some (.inl (x2 + (nI 0))), some (.inl (x3 + nI 1)), some (.inl x4)] rfl ?_
      refine ww_goto 35 dX6_nothings_103 (by decide) ?_
      exact ww_weak (ww_le_s (ww_le_s (ww_le_s (ww_le_s (ww_le_n (ww_le_nil _)))))) h
    · replace h := h.2 c
      refine ww_aload_n 87 dX6_nothings_86 rfl 0 rfl rfl ?_
      obtain ⟨Q1, hT, h⟩ := h
      refine ww_invVI (d' := mX6_isNothing) [] rfl 90 dX6_nothings_87 ⟨wi_X6, wc_X6_isNothing, wp_X6_isNothing, by decide, by decide⟩ wl_X6_215 wn_X6_isNothing we_X6_isNothing (ww_i1 30 (by decide)) rfl rfl (Nat.le_of_ble_eq_true rfl) rfl hT (fun v2 τ3 hq => ?_)
      replace h := h v2 τ3 hq
      refine ww_if_eq 97 93 dX6_nothings_90 (by decide) rfl (fun c => ?_) (fun c => ?_)
      · replace h := h.1 c
        refine ww_iconst (v := nI 0) 98 dX6_nothings_97 (by decide) rfl ?_
        refine ww_iadd 99 dX6_nothings_98 rfl ?_
        refine ww_istore_n 100 dX6_nothings_99 rfl 2 rfl (by decide) rfl [some (.inr (.inr (30, 0))), some (.inl x1), some (.inl (x2 + (nI 0))), some (.inl x3), some (.inl x4)] rfl ?_
        refine ww_iinc (nI 1) 103 3 dX6_nothings_100 (by decide) rfl rfl (by decide) rfl [some (.inr (.inr (30, 0))), some (.inl x1), some (.inl (x2 + (nI 0))), some (.inl (x3 + nI 1)), some (.inl x4)] rfl ?_
        refine ww_goto 35 dX6_nothings_103 (by decide) ?_
        exact ww_weak (ww_le_s (ww_le_s (ww_le_s (ww_le_s (ww_le_n (ww_le_nil _)))))) h
      · replace h := h.2 c
        refine ww_iconst (v := nI 1) 94 dX6_nothings_93 (by decide) rfl ?_
        refine ww_goto 98 dX6_nothings_94 (by decide) ?_
        refine ww_iadd 99 dX6_nothings_98 rfl ?_
        refine ww_istore_n 100 dX6_nothings_99 rfl 2 rfl (by decide) rfl [some (.inr (.inr (30, 0))), some (.inl x1), some (.inl (x2 + (nI 1))), some (.inl x3), some (.inl x4)] rfl ?_
        refine ww_iinc (nI 1) 103 3 dX6_nothings_100 (by decide) rfl rfl (by decide) rfl [some (.inr (.inr (30, 0))), some (.inl x1), some (.inl (x2 + (nI 1))), some (.inl (x3 + nI 1)), some (.inl x4)] rfl ?_
        refine ww_goto 35 dX6_nothings_103 (by decide) ?_
        exact ww_weak (ww_le_s (ww_le_s (ww_le_s (ww_le_s (ww_le_n (ww_le_nil _)))))) h
  · replace h := h.2 c
    refine ww_aload_n 59 dX6_nothings_58 rfl 0 rfl rfl ?_
    refine ww_iload_n 60 dX6_nothings_59 rfl 3 rfl rfl ?_
    refine ww_iconst (v := nI 3) 61 dX6_nothings_60 (by decide) rfl ?_
    refine ww_iload 63 4 dX6_nothings_61 rfl rfl ?_
    refine ww_imul 64 dX6_nothings_63 rfl ?_
    refine ww_ishr 65 dX6_nothings_64 rfl ?_
    refine ww_bipush (v := nI 7) 67 dX6_nothings_65 (by decide) rfl ?_
    refine ww_iand 68 dX6_nothings_67 rfl ?_
    obtain ⟨Q4, hT, h⟩ := h
    refine ww_invVV (d' := mX6_push) [.inl ((x3 >>> (((nI 3) * x4) &&& 31)) &&& (nI 7))] rfl 71 dX6_nothings_68 ⟨wi_X6, wc_X6_push, wp_X6_push, by decide, by decide⟩ wl_X6_80 wn_X6_push we_X6_push (ww_i1 30 (by decide)) rfl rfl (Nat.le_of_ble_eq_true rfl) rfl hT (fun τ5 hq => ?_)
    replace h := h τ5 hq
    refine ww_iinc (nI 1) 74 4 dX6_nothings_71 (by decide) rfl rfl (by decide) rfl [some (.inr (.inr (30, 0))), some (.inl x1), some (.inl x2), some (.inl x3), some (.inl (x4 + nI 1))] rfl ?_
    refine ww_goto 52 dX6_nothings_74 (by decide) ?_
    exact h
theorem b_X6_drawn {l : Launch} {g : ww_G} {τ : ww_M} {a0 : Int64} {Post : Int64 → ww_M → Prop}  (h : ∀ E : ww_E, Post (((a0 * (lN 1103515245)) + (lN 12345)) - ((a0 * (lN 1103515245)) + (lN 12345)) / (lN 2147483648) * (lN 2147483648)) τ) : ww_T l g mX6_drawn [.inr (.inl (a0))] τ (ww_QL Post) := by
  refine ww_enter (P := [some (.inr (.inl (a0))), none]) (by decide) (Nat.le_of_ble_eq_true rfl) rfl (fun E => ?_)
  replace h := h E
  refine ww_lload_n 1 dX6_drawn_0 rfl 0 rfl rfl ?_
  refine ww_ldc2 4 dX6_drawn_1 rfl wk_X6_231 ?_
  refine ww_lmul 5 dX6_drawn_4 rfl ?_
  refine ww_ldc2 8 dX6_drawn_5 rfl wk_X6_233 ?_
  refine ww_ladd 9 dX6_drawn_8 rfl ?_
  refine ww_ldc2 12 dX6_drawn_9 rfl wk_X6_235 ?_
  refine ww_lrem 13 dX6_drawn_12 rfl (by decide) ?_
  exact ww_lret dX6_drawn_13 rfl ⟨_, rfl, h⟩
theorem b_X6_draw {l : Launch} {g : ww_G} {τ : ww_M} {a1 : Int32} {a2 : Int32} {a3 : Int32} {Post : Int32 → ww_M → Prop}  (h : ∀ E : ww_E, (∃ Q1 : Int32 → ww_M → Prop, ww_T E.2.1 g mX6_in [.inr (.inl (a1.toInt64)), .inr (.inl (lN 0)), .inr (.inl (lN 999999))] τ (ww_QI Q1) ∧ ∀ (v2 : Int32) (τ3 : ww_M), Q1 v2 τ3 → (v2 = nI 0 → (∃ Q4 : Int32 → ww_M → Prop, ww_T E.2.1 g mX6_bad [.inr (.inr (30, 0))] τ3 (ww_QI Q4) ∧ ∀ (v5 : Int32) (τ6 : ww_M), Q4 v5 τ6 → Post v5 τ6)) ∧ (¬ v2 = nI 0 → (∃ Q7 : Int32 → ww_M → Prop, ww_T E.2.1 g mX6_in [.inr (.inl (a2.toInt64)), .inr (.inl (lN 0)), .inr (.inl (lN 60))] τ3 (ww_QI Q7) ∧ ∀ (v8 : Int32) (τ9 : ww_M), Q7 v8 τ9 → (v8 = nI 0 → (∃ Q10 : Int32 → ww_M → Prop, ww_T E.2.1 g mX6_bad [.inr (.inr (30, 0))] τ9 (ww_QI Q10) ∧ ∀ (v11 : Int32) (τ12 : ww_M), Q10 v11 τ12 → Post v11 τ12)) ∧ (¬ v8 = nI 0 → (∃ Q13 : Int32 → ww_M → Prop, ww_T E.2.1 g mX6_isWord [.inl a3] τ9 (ww_QI Q13) ∧ ∀ (v14 : Int32) (τ15 : ww_M), Q13 v14 τ15 → (¬ v14 = nI 0 → (∀ τ16 : ww_M, τ16 = ww_up τ15 (30, 0) 12 (nI 0) → ww_W g mX6_draw E (ww_QI Post) 48 [some (.inr (.inr (30, 0))), none, some (.inl a2), some (.inl a3), some (.inr (.inl (a1.toInt64))), none, some (.inl (nI 0))] [] τ16)) ∧ (v14 = nI 0 → (∃ Q17 : Int32 → ww_M → Prop, ww_T E.2.1 g mX6_bad [.inr (.inr (30, 0))] τ15 (ww_QI Q17) ∧ ∀ (v18 : Int32) (τ19 : ww_M), Q17 v18 τ19 → Post v18 τ19)))))))) : ww_T l g mX6_draw [.inr (.inr (30, 0)), .inl a1, .inl a2, .inl a3] τ (ww_QI Post) := by
  refine ww_enter (P := [some (.inr (.inr (30, 0))), some (.inl a1), some (.inl a2), some (.inl a3), none, none, none]) (by decide) (Nat.le_of_ble_eq_true rfl) rfl (fun E => ?_)
  replace h := h E
  refine ww_iload_n 1 dX6_draw_0 rfl 1 rfl rfl ?_
  refine ww_i2l 2 dX6_draw_1 rfl ?_
  refine ww_lconst (v := lN 0) 3 dX6_draw_2 (by decide) rfl ?_
  refine ww_ldc2 6 dX6_draw_3 rfl wk_X6_237 ?_
  obtain ⟨Q1, hT, h⟩ := h
  refine ww_invSI (d' := mX6_in) [.inr (.inl (a1.toInt64)), .inr (.inl (lN 0)), .inr (.inl (lN 999999))] rfl 9 dX6_draw_6 ⟨wi_X6, wc_X6_in, wp_X6_in, by decide, by decide⟩ (Or.inl wl_X6_66) wn_X6_in (Nat.le_of_ble_eq_true rfl) rfl hT (fun v2 τ3 hq => ?_)
  replace h := h v2 τ3 hq
  refine ww_if_eq 31 12 dX6_draw_9 (by decide) rfl (fun c => ?_) (fun c => ?_)
  · replace h := h.1 c
    refine ww_aload_n 32 dX6_draw_31 rfl 0 rfl rfl ?_
    obtain ⟨Q4, hT, h⟩ := h
    refine ww_invVI (d' := mX6_bad) [] rfl 35 dX6_draw_32 ⟨wi_X6, wc_X6_bad, wp_X6_bad, by decide, by decide⟩ wl_X6_133 wn_X6_bad we_X6_bad (ww_i1 30 (by decide)) rfl rfl (Nat.le_of_ble_eq_true rfl) rfl hT (fun v5 τ6 hq => ?_)
    replace h := h v5 τ6 hq
    exact ww_iret dX6_draw_35 rfl ⟨_, rfl, h⟩
  · replace h := h.2 c
    refine ww_iload_n 13 dX6_draw_12 rfl 2 rfl rfl ?_
    refine ww_i2l 14 dX6_draw_13 rfl ?_
    refine ww_lconst (v := lN 0) 15 dX6_draw_14 (by decide) rfl ?_
    refine ww_ldc2 18 dX6_draw_15 rfl wk_X6_239 ?_
    obtain ⟨Q7, hT, h⟩ := h
    refine ww_invSI (d' := mX6_in) [.inr (.inl (a2.toInt64)), .inr (.inl (lN 0)), .inr (.inl (lN 60))] rfl 21 dX6_draw_18 ⟨wi_X6, wc_X6_in, wp_X6_in, by decide, by decide⟩ (Or.inl wl_X6_66) wn_X6_in (Nat.le_of_ble_eq_true rfl) rfl hT (fun v8 τ9 hq => ?_)
    replace h := h v8 τ9 hq
    refine ww_if_eq 31 24 dX6_draw_21 (by decide) rfl (fun c => ?_) (fun c => ?_)
    · replace h := h.1 c
      refine ww_aload_n 32 dX6_draw_31 rfl 0 rfl rfl ?_
      obtain ⟨Q10, hT, h⟩ := h
      refine ww_invVI (d' := mX6_bad) [] rfl 35 dX6_draw_32 ⟨wi_X6, wc_X6_bad, wp_X6_bad, by decide, by decide⟩ wl_X6_133 wn_X6_bad we_X6_bad (ww_i1 30 (by decide)) rfl rfl (Nat.le_of_ble_eq_true rfl) rfl hT (fun v11 τ12 hq => ?_)
      replace h := h v11 τ12 hq
      exact ww_iret dX6_draw_35 rfl ⟨_, rfl, h⟩
    · replace h := h.2 c
      refine ww_iload_n 25 dX6_draw_24 rfl 3 rfl rfl ?_
      obtain ⟨Q13, hT, h⟩ := h
      refine ww_invSI (d' := mX6_isWord) [.inl a3] rfl 28 dX6_draw_25 ⟨wi_X6, wc_X6_isWord, wp_X6_isWord, by decide, by decide⟩ (Or.inl wl_X6_156) wn_X6_isWord (Nat.le_of_ble_eq_true rfl) rfl hT (fun v14 τ15 hq => ?_)
      replace h := h v14 τ15 hq
      refine ww_if_ne 36 31 dX6_draw_28 (by decide) rfl (fun c => ?_) (fun c => ?_)
      · replace h := h.1 c
        refine ww_iload_n 37 dX6_draw_36 rfl 1 rfl rfl ?_
        refine ww_i2l 38 dX6_draw_37 rfl ?_
        refine ww_lstore 40 4 dX6_draw_38 rfl (by decide) rfl [some (.inr (.inr (30, 0))), some (.inl a1), some (.inl a2), some (.inl a3), some (.inr (.inl (a1.toInt64))), none, none] rfl ?_
        refine ww_aload_n 41 dX6_draw_40 rfl 0 rfl rfl ?_
        refine ww_iconst (v := nI 0) 42 dX6_draw_41 (by decide) rfl ?_
        refine ww_putI 12 45 dX6_draw_42 wf_X6_72 fp_X6_12 (ww_i1 30 (by decide)) rfl rfl rfl (fun τ16 eτ16 => ?_)
        replace h := h τ16 eτ16
        refine ww_iconst (v := nI 0) 46 dX6_draw_45 (by decide) rfl ?_
        refine ww_istore 48 6 dX6_draw_46 rfl (by decide) rfl [some (.inr (.inr (30, 0))), some (.inl a1), some (.inl a2), some (.inl a3), some (.inr (.inl (a1.toInt64))), none, some (.inl (nI 0))] rfl ?_
        exact ww_weak (ww_le_s (ww_le_n (ww_le_s (ww_le_s (ww_le_s (ww_le_n (ww_le_s (ww_le_nil _)))))))) h
      · replace h := h.2 c
        refine ww_aload_n 32 dX6_draw_31 rfl 0 rfl rfl ?_
        obtain ⟨Q17, hT, h⟩ := h
        refine ww_invVI (d' := mX6_bad) [] rfl 35 dX6_draw_32 ⟨wi_X6, wc_X6_bad, wp_X6_bad, by decide, by decide⟩ wl_X6_133 wn_X6_bad we_X6_bad (ww_i1 30 (by decide)) rfl rfl (Nat.le_of_ble_eq_true rfl) rfl hT (fun v18 τ19 hq => ?_)
        replace h := h v18 τ19 hq
        exact ww_iret dX6_draw_35 rfl ⟨_, rfl, h⟩
theorem b_X6_draw_48 {g : ww_G} {E : ww_E} {τ : ww_M} {x2 : Int32} {x3 : Int32} {x4 : Int64} {x6 : Int32} {Post : Int32 → ww_M → Prop}  (h : ((x2 ≤ x6 → (∃ Q1 : Int32 → ww_M → Prop, ww_T E.2.1 g mX6_layWord [.inr (.inr (30, 0)), .inl x3] τ (ww_QI Q1) ∧ ∀ (v2 : Int32) (τ3 : ww_M), Q1 v2 τ3 → Post v2 τ3)) ∧ (¬ (x2 ≤ x6) → (∃ Q4 : Int64 → ww_M → Prop, ww_T E.2.1 g mX6_drawn [.inr (.inl (x4))] τ (ww_QL Q4) ∧ ∀ (v5 : Int64) (τ6 : ww_M), Q4 v5 τ6 → (∃ Q7 : ww_M → Prop, ww_T E.2.1 g mX6_push [.inr (.inr (30, 0)), .inl (((v5 / (lN 65536)) - (v5 / (lN 65536)) / (lN 8) * (lN 8)).toInt32)] τ6 (ww_QV Q7) ∧ ∀ (τ8 : ww_M), Q7 τ8 → ww_W g mX6_draw E (ww_QI Post) 48 [some (.inr (.inr (30, 0))), none, some (.inl x2), some (.inl x3), some (.inr (.inl (v5))), none, some (.inl (x6 + nI 1))] [] τ8))))) : ww_W g mX6_draw E (ww_QI Post) 48 [some (.inr (.inr (30, 0))), none, some (.inl x2), some (.inl x3), some (.inr (.inl (x4))), none, some (.inl x6)] [] τ := by
  refine ww_iload 50 6 dX6_draw_48 rfl rfl ?_
  refine ww_iload_n 51 dX6_draw_50 rfl 2 rfl rfl ?_
  refine ww_ic_ge 82 54 dX6_draw_51 (by decide) rfl (fun c => ?_) (fun c => ?_)
  · replace h := h.1 c
    refine ww_aload_n 83 dX6_draw_82 rfl 0 rfl rfl ?_
    refine ww_iload_n 84 dX6_draw_83 rfl 3 rfl rfl ?_
    obtain ⟨Q1, hT, h⟩ := h
    refine ww_invVI (d' := mX6_layWord) [.inl x3] rfl 87 dX6_draw_84 ⟨wi_X6, wc_X6_layWord, wp_X6_layWord, by decide, by decide⟩ wl_X6_91 wn_X6_layWord we_X6_layWord (ww_i1 30 (by decide)) rfl rfl (Nat.le_of_ble_eq_true rfl) rfl hT (fun v2 τ3 hq => ?_)
    replace h := h v2 τ3 hq
    exact ww_iret dX6_draw_87 rfl ⟨_, rfl, h⟩
  · replace h := h.2 c
    refine ww_lload 56 4 dX6_draw_54 rfl rfl ?_
    obtain ⟨Q4, hT, h⟩ := h
    refine ww_invSL (d' := mX6_drawn) [.inr (.inl (x4))] rfl 59 dX6_draw_56 ⟨wi_X6, wc_X6_drawn, wp_X6_drawn, by decide, by decide⟩ (Or.inl wl_X6_241) wn_X6_drawn (Nat.le_of_ble_eq_true rfl) rfl hT (fun v5 τ6 hq => ?_)
    replace h := h v5 τ6 hq
    refine ww_lstore 61 4 dX6_draw_59 rfl (by decide) rfl [some (.inr (.inr (30, 0))), none, some (.inl x2), some (.inl x3), some (.inr (.inl (v5))), none, some (.inl x6)] rfl ?_
    refine ww_aload_n 62 dX6_draw_61 rfl 0 rfl rfl ?_
    refine ww_lload 64 4 dX6_draw_62 rfl rfl ?_
    refine ww_ldc2 67 dX6_draw_64 rfl wk_X6_245 ?_
    refine ww_ldiv 68 dX6_draw_67 rfl (by decide) ?_
    refine ww_ldc2 71 dX6_draw_68 rfl wk_X6_247 ?_
    refine ww_lrem 72 dX6_draw_71 rfl (by decide) ?_
    refine ww_l2i 73 dX6_draw_72 rfl ?_
    obtain ⟨Q7, hT, h⟩ := h
    refine ww_invVV (d' := mX6_push) [.inl (((v5 / (lN 65536)) - (v5 / (lN 65536)) / (lN 8) * (lN 8)).toInt32)] rfl 76 dX6_draw_73 ⟨wi_X6, wc_X6_push, wp_X6_push, by decide, by decide⟩ wl_X6_80 wn_X6_push we_X6_push (ww_i1 30 (by decide)) rfl rfl (Nat.le_of_ble_eq_true rfl) rfl hT (fun τ8 hq => ?_)
    replace h := h τ8 hq
    refine ww_iinc (nI 1) 79 6 dX6_draw_76 (by decide) rfl rfl (by decide) rfl [some (.inr (.inr (30, 0))), none, some (.inl x2), some (.inl x3), some (.inr (.inl (v5))), none, some (.inl (x6 + nI 1))] rfl ?_
    refine ww_goto 48 dX6_draw_79 (by decide) ?_
    exact h
theorem b_X6_loops {l : Launch} {g : ww_G} {τ : ww_M} {a1 : Int32} {a2 : Int32} {a3 : Int32} {Post : Int32 → ww_M → Prop}  (h : ∀ E : ww_E, (∃ Q1 : Int32 → ww_M → Prop, ww_T E.2.1 g mX6_in [.inr (.inl (a1.toInt64)), .inr (.inl (lN 0)), .inr (.inl (lN 999999))] τ (ww_QI Q1) ∧ ∀ (v2 : Int32) (τ3 : ww_M), Q1 v2 τ3 → (v2 = nI 0 → (∃ Q4 : Int32 → ww_M → Prop, ww_T E.2.1 g mX6_bad [.inr (.inr (30, 0))] τ3 (ww_QI Q4) ∧ ∀ (v5 : Int32) (τ6 : ww_M), Q4 v5 τ6 → Post v5 τ6)) ∧ (¬ v2 = nI 0 → (∃ Q7 : Int32 → ww_M → Prop, ww_T E.2.1 g mX6_in [.inr (.inl (a2.toInt64)), .inr (.inl (lN 0)), .inr (.inl (lN 6))] τ3 (ww_QI Q7) ∧ ∀ (v8 : Int32) (τ9 : ww_M), Q7 v8 τ9 → (v8 = nI 0 → (∃ Q10 : Int32 → ww_M → Prop, ww_T E.2.1 g mX6_bad [.inr (.inr (30, 0))] τ9 (ww_QI Q10) ∧ ∀ (v11 : Int32) (τ12 : ww_M), Q10 v11 τ12 → Post v11 τ12)) ∧ (¬ v8 = nI 0 → (∃ Q13 : Int32 → ww_M → Prop, ww_T E.2.1 g mX6_isWord [.inl a3] τ9 (ww_QI Q13) ∧ ∀ (v14 : Int32) (τ15 : ww_M), Q13 v14 τ15 → (¬ v14 = nI 0 → ((¬ τ15 (30, 0) 2 = nI 0 → (∀ τ16 : ww_M, τ16 = ww_up τ15 (30, 0) 12 (nI 0) → ww_W g mX6_loops E (ww_QI Post) 60 [some (.inr (.inr (30, 0))), none, some (.inl a2), some (.inl a3), some (.inr (.inl (a1.toInt64))), none, some (.inl (nI 0)), none, none, none] [] τ16)) ∧ (τ15 (30, 0) 2 = nI 0 → (∃ Q17 : Int32 → ww_M → Prop, ww_T E.2.1 g mX6_no [.inr (.inr (30, 0))] τ15 (ww_QI Q17) ∧ ∀ (v18 : Int32) (τ19 : ww_M), Q17 v18 τ19 → Post v18 τ19)))) ∧ (v14 = nI 0 → (∃ Q20 : Int32 → ww_M → Prop, ww_T E.2.1 g mX6_bad [.inr (.inr (30, 0))] τ15 (ww_QI Q20) ∧ ∀ (v21 : Int32) (τ22 : ww_M), Q20 v21 τ22 → Post v21 τ22)))))))) : ww_T l g mX6_loops [.inr (.inr (30, 0)), .inl a1, .inl a2, .inl a3] τ (ww_QI Post) := by
  refine ww_enter (P := [some (.inr (.inr (30, 0))), some (.inl a1), some (.inl a2), some (.inl a3), none, none, none, none, none, none]) (by decide) (Nat.le_of_ble_eq_true rfl) rfl (fun E => ?_)
  replace h := h E
  refine ww_iload_n 1 dX6_loops_0 rfl 1 rfl rfl ?_
  refine ww_i2l 2 dX6_loops_1 rfl ?_
  refine ww_lconst (v := lN 0) 3 dX6_loops_2 (by decide) rfl ?_
  refine ww_ldc2 6 dX6_loops_3 rfl wk_X6_237 ?_
  obtain ⟨Q1, hT, h⟩ := h
  refine ww_invSI (d' := mX6_in) [.inr (.inl (a1.toInt64)), .inr (.inl (lN 0)), .inr (.inl (lN 999999))] rfl 9 dX6_loops_6 ⟨wi_X6, wc_X6_in, wp_X6_in, by decide, by decide⟩ (Or.inl wl_X6_66) wn_X6_in (Nat.le_of_ble_eq_true rfl) rfl hT (fun v2 τ3 hq => ?_)
  replace h := h v2 τ3 hq
  refine ww_if_eq 31 12 dX6_loops_9 (by decide) rfl (fun c => ?_) (fun c => ?_)
  · replace h := h.1 c
    refine ww_aload_n 32 dX6_loops_31 rfl 0 rfl rfl ?_
    obtain ⟨Q4, hT, h⟩ := h
    refine ww_invVI (d' := mX6_bad) [] rfl 35 dX6_loops_32 ⟨wi_X6, wc_X6_bad, wp_X6_bad, by decide, by decide⟩ wl_X6_133 wn_X6_bad we_X6_bad (ww_i1 30 (by decide)) rfl rfl (Nat.le_of_ble_eq_true rfl) rfl hT (fun v5 τ6 hq => ?_)
    replace h := h v5 τ6 hq
    exact ww_iret dX6_loops_35 rfl ⟨_, rfl, h⟩
  · replace h := h.2 c
    refine ww_iload_n 13 dX6_loops_12 rfl 2 rfl rfl ?_
    refine ww_i2l 14 dX6_loops_13 rfl ?_
    refine ww_lconst (v := lN 0) 15 dX6_loops_14 (by decide) rfl ?_
    refine ww_ldc2 18 dX6_loops_15 rfl wk_X6_249 ?_
    obtain ⟨Q7, hT, h⟩ := h
    refine ww_invSI (d' := mX6_in) [.inr (.inl (a2.toInt64)), .inr (.inl (lN 0)), .inr (.inl (lN 6))] rfl 21 dX6_loops_18 ⟨wi_X6, wc_X6_in, wp_X6_in, by decide, by decide⟩ (Or.inl wl_X6_66) wn_X6_in (Nat.le_of_ble_eq_true rfl) rfl hT (fun v8 τ9 hq => ?_)
    replace h := h v8 τ9 hq
    refine ww_if_eq 31 24 dX6_loops_21 (by decide) rfl (fun c => ?_) (fun c => ?_)
    · replace h := h.1 c
      refine ww_aload_n 32 dX6_loops_31 rfl 0 rfl rfl ?_
      obtain ⟨Q10, hT, h⟩ := h
      refine ww_invVI (d' := mX6_bad) [] rfl 35 dX6_loops_32 ⟨wi_X6, wc_X6_bad, wp_X6_bad, by decide, by decide⟩ wl_X6_133 wn_X6_bad we_X6_bad (ww_i1 30 (by decide)) rfl rfl (Nat.le_of_ble_eq_true rfl) rfl hT (fun v11 τ12 hq => ?_)
      replace h := h v11 τ12 hq
      exact ww_iret dX6_loops_35 rfl ⟨_, rfl, h⟩
    · replace h := h.2 c
      refine ww_iload_n 25 dX6_loops_24 rfl 3 rfl rfl ?_
      obtain ⟨Q13, hT, h⟩ := h
      refine ww_invSI (d' := mX6_isWord) [.inl a3] rfl 28 dX6_loops_25 ⟨wi_X6, wc_X6_isWord, wp_X6_isWord, by decide, by decide⟩ (Or.inl wl_X6_156) wn_X6_isWord (Nat.le_of_ble_eq_true rfl) rfl hT (fun v14 τ15 hq => ?_)
      replace h := h v14 τ15 hq
      refine ww_if_ne 36 31 dX6_loops_28 (by decide) rfl (fun c => ?_) (fun c => ?_)
      · replace h := h.1 c
        refine ww_aload_n 37 dX6_loops_36 rfl 0 rfl rfl ?_
        refine ww_getI 2 40 dX6_loops_37 wf_X6_109 (ww_i1 30 (by decide)) rfl rfl rfl ?_
        refine ww_if_ne 48 43 dX6_loops_40 (by decide) rfl (fun c => ?_) (fun c => ?_)
        · replace h := h.1 c
          refine ww_iload_n 49 dX6_loops_48 rfl 1 rfl rfl ?_
          refine ww_i2l 50 dX6_loops_49 rfl ?_
          refine ww_lstore 52 4 dX6_loops_50 rfl (by decide) rfl [some (.inr (.inr (30, 0))), some (.inl a1), some (.inl a2), some (.inl a3), some (.inr (.inl (a1.toInt64))), none, none, none, none, none] rfl ?_
          refine ww_aload_n 53 dX6_loops_52 rfl 0 rfl rfl ?_
          refine ww_iconst (v := nI 0) 54 dX6_loops_53 (by decide) rfl ?_
          refine ww_putI 12 57 dX6_loops_54 wf_X6_72 fp_X6_12 (ww_i1 30 (by decide)) rfl rfl rfl (fun τ16 eτ16 => ?_)
          replace h := h τ16 eτ16
          refine ww_iconst (v := nI 0) 58 dX6_loops_57 (by decide) rfl ?_
          refine ww_istore 60 6 dX6_loops_58 rfl (by decide) rfl [some (.inr (.inr (30, 0))), some (.inl a1), some (.inl a2), some (.inl a3), some (.inr (.inl (a1.toInt64))), none, some (.inl (nI 0)), none, none, none] rfl ?_
          exact ww_weak (ww_le_s (ww_le_n (ww_le_s (ww_le_s (ww_le_s (ww_le_n (ww_le_s (ww_le_n (ww_le_n (ww_le_n (ww_le_nil _))))))))))) h
        · replace h := h.2 c
          refine ww_aload_n 44 dX6_loops_43 rfl 0 rfl rfl ?_
          obtain ⟨Q17, hT, h⟩ := h
          refine ww_invVI (d' := mX6_no) [] rfl 47 dX6_loops_44 ⟨wi_X6, wc_X6_no, wp_X6_no, by decide, by decide⟩ wl_X6_178 wn_X6_no we_X6_no (ww_i1 30 (by decide)) rfl rfl (Nat.le_of_ble_eq_true rfl) rfl hT (fun v18 τ19 hq => ?_)
          replace h := h v18 τ19 hq
          exact ww_iret dX6_loops_47 rfl ⟨_, rfl, h⟩
      · replace h := h.2 c
        refine ww_aload_n 32 dX6_loops_31 rfl 0 rfl rfl ?_
        obtain ⟨Q20, hT, h⟩ := h
        refine ww_invVI (d' := mX6_bad) [] rfl 35 dX6_loops_32 ⟨wi_X6, wc_X6_bad, wp_X6_bad, by decide, by decide⟩ wl_X6_133 wn_X6_bad we_X6_bad (ww_i1 30 (by decide)) rfl rfl (Nat.le_of_ble_eq_true rfl) rfl hT (fun v21 τ22 hq => ?_)
        replace h := h v21 τ22 hq
        exact ww_iret dX6_loops_35 rfl ⟨_, rfl, h⟩
theorem b_X6_loops_60 {g : ww_G} {E : ww_E} {τ : ww_M} {x2 : Int32} {x3 : Int32} {x4 : Int64} {x6 : Int32} {Post : Int32 → ww_M → Prop}  (h : ((x2 ≤ x6 → (∃ Q1 : Int32 → ww_M → Prop, ww_T E.2.1 g mX6_layIfFits [.inr (.inr (30, 0)), .inl x3] τ (ww_QI Q1) ∧ ∀ (v2 : Int32) (τ3 : ww_M), Q1 v2 τ3 → Post v2 τ3)) ∧ (¬ (x2 ≤ x6) → ((nI 60 < τ (30, 0) 12 → (∃ Q4 : Int32 → ww_M → Prop, ww_T E.2.1 g mX6_layIfFits [.inr (.inr (30, 0)), .inl x3] τ (ww_QI Q4) ∧ ∀ (v5 : Int32) (τ6 : ww_M), Q4 v5 τ6 → Post v5 τ6)) ∧ (¬ (nI 60 < τ (30, 0) 12) → (∃ Q7 : Int64 → ww_M → Prop, ww_T E.2.1 g mX6_drawn [.inr (.inl (x4))] τ (ww_QL Q7) ∧ ∀ (v8 : Int64) (τ9 : ww_M), Q7 v8 τ9 → (¬ ((τ9 (30, 0) 6).toInt64) = lN 0 ∧ (∃ Q11 : ww_M → Prop, ww_T E.2.1 g mX6_push [.inr (.inr (30, 0)), .inl (((v8 / (lN 1024)) - (v8 / (lN 1024)) / (lN 8) * (lN 8)).toInt32)] τ9 (ww_QV Q11) ∧ ∀ (τ12 : ww_M), Q11 τ12 → ww_W g mX6_loops E (ww_QI Post) 119 [some (.inr (.inr (30, 0))), none, some (.inl x2), some (.inl x3), some (.inr (.inl (v8))), none, some (.inl x6), some (.inl (((v8 / (lN 65536)) - (v8 / (lN 65536)) / ((τ9 (30, 0) 6).toInt64) * ((τ9 (30, 0) 6).toInt64)).toInt32)), some (.inl (((v8 / (lN 1024)) - (v8 / (lN 1024)) / (lN 8) * (lN 8)).toInt32)), some (.inl (nI 0))] [] τ12)))))))) : ww_W g mX6_loops E (ww_QI Post) 60 [some (.inr (.inr (30, 0))), none, some (.inl x2), some (.inl x3), some (.inr (.inl (x4))), none, some (.inl x6), none, none, none] [] τ := by
  refine ww_iload 62 6 dX6_loops_60 rfl rfl ?_
  refine ww_iload_n 63 dX6_loops_62 rfl 2 rfl rfl ?_
  refine ww_ic_ge 169 66 dX6_loops_63 (by decide) rfl (fun c => ?_) (fun c => ?_)
  · replace h := h.1 c
    refine ww_aload_n 170 dX6_loops_169 rfl 0 rfl rfl ?_
    refine ww_iload_n 171 dX6_loops_170 rfl 3 rfl rfl ?_
    obtain ⟨Q1, hT, h⟩ := h
    refine ww_invVI (d' := mX6_layIfFits) [.inl x3] rfl 174 dX6_loops_171 ⟨wi_X6, wc_X6_layIfFits, wp_X6_layIfFits, by decide, by decide⟩ wl_X6_165 wn_X6_layIfFits we_X6_layIfFits (ww_i1 30 (by decide)) rfl rfl (Nat.le_of_ble_eq_true rfl) rfl hT (fun v2 τ3 hq => ?_)
    replace h := h v2 τ3 hq
    exact ww_iret dX6_loops_174 rfl ⟨_, rfl, h⟩
  · replace h := h.2 c
    refine ww_aload_n 67 dX6_loops_66 rfl 0 rfl rfl ?_
    refine ww_getI 12 70 dX6_loops_67 wf_X6_72 (ww_i1 30 (by decide)) rfl rfl rfl ?_
    refine ww_bipush (v := nI 60) 72 dX6_loops_70 (by decide) rfl ?_
    refine ww_ic_gt 169 75 dX6_loops_72 (by decide) rfl (fun c => ?_) (fun c => ?_)
    · replace h := h.1 c
      refine ww_aload_n 170 dX6_loops_169 rfl 0 rfl rfl ?_
      refine ww_iload_n 171 dX6_loops_170 rfl 3 rfl rfl ?_
      obtain ⟨Q4, hT, h⟩ := h
      refine ww_invVI (d' := mX6_layIfFits) [.inl x3] rfl 174 dX6_loops_171 ⟨wi_X6, wc_X6_layIfFits, wp_X6_layIfFits, by decide, by decide⟩ wl_X6_165 wn_X6_layIfFits we_X6_layIfFits (ww_i1 30 (by decide)) rfl rfl (Nat.le_of_ble_eq_true rfl) rfl hT (fun v5 τ6 hq => ?_)
      replace h := h v5 τ6 hq
      exact ww_iret dX6_loops_174 rfl ⟨_, rfl, h⟩
    · replace h := h.2 c
      refine ww_lload 77 4 dX6_loops_75 rfl rfl ?_
      obtain ⟨Q7, hT, h⟩ := h
      refine ww_invSL (d' := mX6_drawn) [.inr (.inl (x4))] rfl 80 dX6_loops_77 ⟨wi_X6, wc_X6_drawn, wp_X6_drawn, by decide, by decide⟩ (Or.inl wl_X6_241) wn_X6_drawn (Nat.le_of_ble_eq_true rfl) rfl hT (fun v8 τ9 hq => ?_)
      replace h := h v8 τ9 hq
      refine ww_lstore 82 4 dX6_loops_80 rfl (by decide) rfl [some (.inr (.inr (30, 0))), none, some (.inl x2), some (.inl x3), some (.inr (.inl (v8))), none, some (.inl x6), none, none, none] rfl ?_
      refine ww_lload 84 4 dX6_loops_82 rfl rfl ?_
      refine ww_ldc2 87 dX6_loops_84 rfl wk_X6_245 ?_
      refine ww_ldiv 88 dX6_loops_87 rfl (by decide) ?_
      refine ww_aload_n 89 dX6_loops_88 rfl 0 rfl rfl ?_
      refine ww_getI 6 92 dX6_loops_89 wf_X6_98 (ww_i1 30 (by decide)) rfl rfl rfl ?_
      refine ww_i2l 93 dX6_loops_92 rfl ?_
      obtain ⟨hz10, h⟩ := h
      refine ww_lrem 94 dX6_loops_93 rfl hz10 ?_
      refine ww_l2i 95 dX6_loops_94 rfl ?_
      refine ww_istore 97 7 dX6_loops_95 rfl (by decide) rfl [some (.inr (.inr (30, 0))), none, some (.inl x2), some (.inl x3), some (.inr (.inl (v8))), none, some (.inl x6), some (.inl (((v8 / (lN 65536)) - (v8 / (lN 65536)) / ((τ9 (30, 0) 6).toInt64) * ((τ9 (30, 0) 6).toInt64)).toInt32)), none, none] rfl ?_
      refine ww_lload 99 4 dX6_loops_97 rfl rfl ?_
      refine ww_ldc2 102 dX6_loops_99 rfl wk_X6_251 ?_
      refine ww_ldiv 103 dX6_loops_102 rfl (by decide) ?_
      refine ww_ldc2 106 dX6_loops_103 rfl wk_X6_247 ?_
      refine ww_lrem 107 dX6_loops_106 rfl (by decide) ?_
      refine ww_l2i 108 dX6_loops_107 rfl ?_
      refine ww_istore 110 8 dX6_loops_108 rfl (by decide) rfl [some (.inr (.inr (30, 0))), none, some (.inl x2), some (.inl x3), some (.inr (.inl (v8))), none, some (.inl x6), some (.inl (((v8 / (lN 65536)) - (v8 / (lN 65536)) / ((τ9 (30, 0) 6).toInt64) * ((τ9 (30, 0) 6).toInt64)).toInt32)), some (.inl (((v8 / (lN 1024)) - (v8 / (lN 1024)) / (lN 8) * (lN 8)).toInt32)), none] rfl ?_
      refine ww_aload_n 111 dX6_loops_110 rfl 0 rfl rfl ?_
      refine ww_iload 113 8 dX6_loops_111 rfl rfl ?_
      obtain ⟨Q11, hT, h⟩ := h
      refine ww_invVV (d' := mX6_push) [.inl (((v8 / (lN 1024)) - (v8 / (lN 1024)) / (lN 8) * (lN 8)).toInt32)] rfl 116 dX6_loops_113 ⟨wi_X6, wc_X6_push, wp_X6_push, by decide, by decide⟩ wl_X6_80 wn_X6_push we_X6_push (ww_i1 30 (by decide)) rfl rfl (Nat.le_of_ble_eq_true rfl) rfl hT (fun τ12 hq => ?_)
      replace h := h τ12 hq
      refine ww_iconst (v := nI 0) 117 dX6_loops_116 (by decide) rfl ?_
      refine ww_istore 119 9 dX6_loops_117 rfl (by decide) rfl [some (.inr (.inr (30, 0))), none, some (.inl x2), some (.inl x3), some (.inr (.inl (v8))), none, some (.inl x6), some (.inl (((v8 / (lN 65536)) - (v8 / (lN 65536)) / ((τ9 (30, 0) 6).toInt64) * ((τ9 (30, 0) 6).toInt64)).toInt32)), some (.inl (((v8 / (lN 1024)) - (v8 / (lN 1024)) / (lN 8) * (lN 8)).toInt32)), some (.inl (nI 0))] rfl ?_
      exact h
theorem b_X6_loops_119 {g : ww_G} {E : ww_E} {τ : ww_M} {x2 : Int32} {x3 : Int32} {x4 : Int64} {x6 : Int32} {x7 : Int32} {x8 : Int32} {x9 : Int32} {Post : Int32 → ww_M → Prop}  (h : (∃ j1 : Nat, x7 = nI j1 ∧ j1 < 84 ∧ (τ (34, 0) j1 ≤ x9 → (∃ Q2 : Int32 → ww_M → Prop, ww_T E.2.1 g mX6_opposite [.inl x8] τ (ww_QI Q2) ∧ ∀ (v3 : Int32) (τ4 : ww_M), Q2 v3 τ4 → (∃ Q5 : ww_M → Prop, ww_T E.2.1 g mX6_push [.inr (.inr (30, 0)), .inl v3] τ4 (ww_QV Q5) ∧ ∀ (τ6 : ww_M), Q5 τ6 → ww_W g mX6_loops E (ww_QI Post) 60 [some (.inr (.inr (30, 0))), none, some (.inl x2), some (.inl x3), some (.inr (.inl (x4))), none, some (.inl (x6 + nI 1)), none, none, none] [] τ6))) ∧ (¬ (τ (34, 0) j1 ≤ x9) → (∃ j7 : Nat, ((nI 14) * x7) + x9 = nI j7 ∧ j7 < 1176 ∧ (∃ Q8 : ww_M → Prop, ww_T E.2.1 g mX6_push [.inr (.inr (30, 0)), .inl (τ (33, 0) j7)] τ (ww_QV Q8) ∧ ∀ (τ9 : ww_M), Q8 τ9 → ww_W g mX6_loops E (ww_QI Post) 119 [some (.inr (.inr (30, 0))), none, some (.inl x2), some (.inl x3), some (.inr (.inl (x4))), none, some (.inl x6), some (.inl x7), some (.inl x8), some (.inl (x9 + nI 1))] [] τ9))))) : ww_W g mX6_loops E (ww_QI Post) 119 [some (.inr (.inr (30, 0))), none, some (.inl x2), some (.inl x3), some (.inr (.inl (x4))), none, some (.inl x6), some (.inl x7), some (.inl x8), some (.inl x9)] [] τ := by
  refine ww_iload 121 9 dX6_loops_119 rfl rfl ?_
  refine ww_aload_n 122 dX6_loops_121 rfl 0 rfl rfl ?_
  refine ww_getR 4 125 dX6_loops_122 wf_X6_19 (ww_i1 30 (by decide)) rfl rfl rfl ?_
  refine ww_iload 127 7 dX6_loops_125 rfl rfl ?_
  obtain ⟨j1, hij1, hj1, h⟩ := h
  refine ww_iald j1 128 dX6_loops_127 (ww_i1 34 (by decide)) rfl (by decide) hij1 hj1 rfl ?_
  refine ww_ic_ge 154 131 dX6_loops_128 (by decide) rfl (fun c => ?_) (fun c => ?_)
  · replace h := h.1 c
    refine ww_aload_n 155 dX6_loops_154 rfl 0 rfl rfl ?_
    refine ww_iload 157 8 dX6_loops_155 rfl rfl ?_
    obtain ⟨Q2, hT, h⟩ := h
    refine ww_invSI (d' := mX6_opposite) [.inl x8] rfl 160 dX6_loops_157 ⟨wi_X6, wc_X6_opposite, wp_X6_opposite, by decide, by decide⟩ (Or.inl wl_X6_76) wn_X6_opposite (Nat.le_of_ble_eq_true rfl) rfl hT (fun v3 τ4 hq => ?_)
    replace h := h v3 τ4 hq
    obtain ⟨Q5, hT, h⟩ := h
    refine ww_invVV (d' := mX6_push) [.inl v3] rfl 163 dX6_loops_160 ⟨wi_X6, wc_X6_push, wp_X6_push, by decide, by decide⟩ wl_X6_80 wn_X6_push we_X6_push (ww_i1 30 (by decide)) rfl rfl (Nat.le_of_ble_eq_true rfl) rfl hT (fun τ6 hq => ?_)
    replace h := h τ6 hq
    refine ww_iinc (nI 1) 166 6 dX6_loops_163 (by decide) rfl rfl (by decide) rfl [some (.inr (.inr (30, 0))), none, some (.inl x2), some (.inl x3), some (.inr (.inl (x4))), none, some (.inl (x6 + nI 1)), some (.inl x7), some (.inl x8), some (.inl x9)] rfl ?_
    refine ww_goto 60 dX6_loops_166 (by decide) ?_
    exact ww_weak (ww_le_s (ww_le_n (ww_le_s (ww_le_s (ww_le_s (ww_le_n (ww_le_s (ww_le_n (ww_le_n (ww_le_n (ww_le_nil _))))))))))) h
  · replace h := h.2 c
    refine ww_aload_n 132 dX6_loops_131 rfl 0 rfl rfl ?_
    refine ww_aload_n 133 dX6_loops_132 rfl 0 rfl rfl ?_
    refine ww_getR 3 136 dX6_loops_133 wf_X6_16 (ww_i1 30 (by decide)) rfl rfl rfl ?_
    refine ww_bipush (v := nI 14) 138 dX6_loops_136 (by decide) rfl ?_
    refine ww_iload 140 7 dX6_loops_138 rfl rfl ?_
    refine ww_imul 141 dX6_loops_140 rfl ?_
    refine ww_iload 143 9 dX6_loops_141 rfl rfl ?_
    refine ww_iadd 144 dX6_loops_143 rfl ?_
    obtain ⟨j7, hij7, hj7, h⟩ := h
    refine ww_iald j7 145 dX6_loops_144 (ww_i1 33 (by decide)) rfl (by decide) hij7 hj7 rfl ?_
    obtain ⟨Q8, hT, h⟩ := h
    refine ww_invVV (d' := mX6_push) [.inl (τ (33, 0) j7)] rfl 148 dX6_loops_145 ⟨wi_X6, wc_X6_push, wp_X6_push, by decide, by decide⟩ wl_X6_80 wn_X6_push we_X6_push (ww_i1 30 (by decide)) rfl rfl (Nat.le_of_ble_eq_true rfl) rfl hT (fun τ9 hq => ?_)
    replace h := h τ9 hq
    refine ww_iinc (nI 1) 151 9 dX6_loops_148 (by decide) rfl rfl (by decide) rfl [some (.inr (.inr (30, 0))), none, some (.inl x2), some (.inl x3), some (.inr (.inl (x4))), none, some (.inl x6), some (.inl x7), some (.inl x8), some (.inl (x9 + nI 1))] rfl ?_
    refine ww_goto 119 dX6_loops_151 (by decide) ?_
    exact h
theorem b_X6_type {l : Launch} {g : ww_G} {τ : ww_M} {a1 : Int32} {Post : Int32 → ww_M → Prop}  (h : ∀ E : ww_E, (∃ Q1 : Int32 → ww_M → Prop, ww_T E.2.1 g mX6_in [.inr (.inl (a1.toInt64)), .inr (.inl (lN 0)), .inr (.inl (lN 127))] τ (ww_QI Q1) ∧ ∀ (v2 : Int32) (τ3 : ww_M), Q1 v2 τ3 → (¬ v2 = nI 0 → ((¬ τ3 (30, 0) 24 = nI 100 → (∃ j4 : Nat, τ3 (30, 0) 24 = nI j4 ∧ j4 < 100 ∧ ∀ τ5 : ww_M, τ5 = ww_up τ3 (44, 0) j4 a1 → (∀ τ6 : ww_M, τ6 = ww_up τ5 (30, 0) 24 ((τ5 (30, 0) 24) + (nI 1)) → Post (τ6 (30, 0) 24) τ6))) ∧ (τ3 (30, 0) 24 = nI 100 → (∃ Q7 : Int32 → ww_M → Prop, ww_T E.2.1 g mX6_full [.inr (.inr (30, 0))] τ3 (ww_QI Q7) ∧ ∀ (v8 : Int32) (τ9 : ww_M), Q7 v8 τ9 → Post v8 τ9)))) ∧ (v2 = nI 0 → (∃ Q10 : Int32 → ww_M → Prop, ww_T E.2.1 g mX6_bad [.inr (.inr (30, 0))] τ3 (ww_QI Q10) ∧ ∀ (v11 : Int32) (τ12 : ww_M), Q10 v11 τ12 → Post v11 τ12)))) : ww_T l g mX6_type [.inr (.inr (30, 0)), .inl a1] τ (ww_QI Post) := by
  refine ww_enter (P := [some (.inr (.inr (30, 0))), some (.inl a1)]) (by decide) (Nat.le_of_ble_eq_true rfl) rfl (fun E => ?_)
  replace h := h E
  refine ww_iload_n 1 dX6_type_0 rfl 1 rfl rfl ?_
  refine ww_i2l 2 dX6_type_1 rfl ?_
  refine ww_lconst (v := lN 0) 3 dX6_type_2 (by decide) rfl ?_
  refine ww_ldc2 6 dX6_type_3 rfl wk_X6_253 ?_
  obtain ⟨Q1, hT, h⟩ := h
  refine ww_invSI (d' := mX6_in) [.inr (.inl (a1.toInt64)), .inr (.inl (lN 0)), .inr (.inl (lN 127))] rfl 9 dX6_type_6 ⟨wi_X6, wc_X6_in, wp_X6_in, by decide, by decide⟩ (Or.inl wl_X6_66) wn_X6_in (Nat.le_of_ble_eq_true rfl) rfl hT (fun v2 τ3 hq => ?_)
  replace h := h v2 τ3 hq
  refine ww_if_ne 17 12 dX6_type_9 (by decide) rfl (fun c => ?_) (fun c => ?_)
  · replace h := h.1 c
    refine ww_aload_n 18 dX6_type_17 rfl 0 rfl rfl ?_
    refine ww_getI 24 21 dX6_type_18 wf_X6_255 (ww_i1 30 (by decide)) rfl rfl rfl ?_
    refine ww_bipush (v := nI 100) 23 dX6_type_21 (by decide) rfl ?_
    refine ww_ic_ne 31 26 dX6_type_23 (by decide) rfl (fun c => ?_) (fun c => ?_)
    · replace h := h.1 c
      refine ww_aload_n 32 dX6_type_31 rfl 0 rfl rfl ?_
      refine ww_getR 23 35 dX6_type_32 wf_X6_49 (ww_i1 30 (by decide)) rfl rfl rfl ?_
      refine ww_aload_n 36 dX6_type_35 rfl 0 rfl rfl ?_
      refine ww_getI 24 39 dX6_type_36 wf_X6_255 (ww_i1 30 (by decide)) rfl rfl rfl ?_
      refine ww_iload_n 40 dX6_type_39 rfl 1 rfl rfl ?_
      obtain ⟨j4, hij4, hj4, h⟩ := h
      refine ww_iast j4 41 dX6_type_40 (ww_i1 44 (by decide)) rfl (by decide) hij4 hj4 rfl (fun τ5 eτ5 => ?_)
      replace h := h τ5 eτ5
      refine ww_aload_n 42 dX6_type_41 rfl 0 rfl rfl ?_
      refine ww_dup 43 dX6_type_42 rfl rfl ?_
      refine ww_getI 24 46 dX6_type_43 wf_X6_255 (ww_i1 30 (by decide)) rfl rfl rfl ?_
      refine ww_iconst (v := nI 1) 47 dX6_type_46 (by decide) rfl ?_
      refine ww_iadd 48 dX6_type_47 rfl ?_
      refine ww_putI 24 51 dX6_type_48 wf_X6_255 fp_X6_24 (ww_i1 30 (by decide)) rfl rfl rfl (fun τ6 eτ6 => ?_)
      replace h := h τ6 eτ6
      refine ww_aload_n 52 dX6_type_51 rfl 0 rfl rfl ?_
      refine ww_getI 24 55 dX6_type_52 wf_X6_255 (ww_i1 30 (by decide)) rfl rfl rfl ?_
      exact ww_iret dX6_type_55 rfl ⟨_, rfl, h⟩
    · replace h := h.2 c
      refine ww_aload_n 27 dX6_type_26 rfl 0 rfl rfl ?_
      obtain ⟨Q7, hT, h⟩ := h
      refine ww_invVI (d' := mX6_full) [] rfl 30 dX6_type_27 ⟨wi_X6, wc_X6_full, wp_X6_full, by decide, by decide⟩ wl_X6_87 wn_X6_full we_X6_full (ww_i1 30 (by decide)) rfl rfl (Nat.le_of_ble_eq_true rfl) rfl hT (fun v8 τ9 hq => ?_)
      replace h := h v8 τ9 hq
      exact ww_iret dX6_type_30 rfl ⟨_, rfl, h⟩
  · replace h := h.2 c
    refine ww_aload_n 13 dX6_type_12 rfl 0 rfl rfl ?_
    obtain ⟨Q10, hT, h⟩ := h
    refine ww_invVI (d' := mX6_bad) [] rfl 16 dX6_type_13 ⟨wi_X6, wc_X6_bad, wp_X6_bad, by decide, by decide⟩ wl_X6_133 wn_X6_bad we_X6_bad (ww_i1 30 (by decide)) rfl rfl (Nat.le_of_ble_eq_true rfl) rfl hT (fun v11 τ12 hq => ?_)
    replace h := h v11 τ12 hq
    exact ww_iret dX6_type_16 rfl ⟨_, rfl, h⟩
theorem b_X6_clear {l : Launch} {g : ww_G} {τ : ww_M}  {Post : Int32 → ww_M → Prop}  (h : ∀ E : ww_E, (∀ τ1 : ww_M, τ1 = ww_up τ (30, 0) 24 (nI 0) → Post (τ (30, 0) 24) τ1)) : ww_T l g mX6_clear [.inr (.inr (30, 0))] τ (ww_QI Post) := by
  refine ww_enter (P := [some (.inr (.inr (30, 0))), none]) (by decide) (Nat.le_of_ble_eq_true rfl) rfl (fun E => ?_)
  replace h := h E
  refine ww_aload_n 1 dX6_clear_0 rfl 0 rfl rfl ?_
  refine ww_getI 24 4 dX6_clear_1 wf_X6_255 (ww_i1 30 (by decide)) rfl rfl rfl ?_
  refine ww_istore_n 5 dX6_clear_4 rfl 1 rfl (by decide) rfl [some (.inr (.inr (30, 0))), some (.inl (τ (30, 0) 24))] rfl ?_
  refine ww_aload_n 6 dX6_clear_5 rfl 0 rfl rfl ?_
  refine ww_iconst (v := nI 0) 7 dX6_clear_6 (by decide) rfl ?_
  refine ww_putI 24 10 dX6_clear_7 wf_X6_255 fp_X6_24 (ww_i1 30 (by decide)) rfl rfl rfl (fun τ1 eτ1 => ?_)
  replace h := h τ1 eτ1
  refine ww_iload_n 11 dX6_clear_10 rfl 1 rfl rfl ?_
  exact ww_iret dX6_clear_11 rfl ⟨_, rfl, h⟩
theorem b_X6_isBlank {l : Launch} {g : ww_G} {τ : ww_M} {a0 : Int32} {Post : Int32 → ww_M → Prop}  (h : ∀ E : ww_E, ((¬ a0 = nI 32 → Post (nI 0) τ) ∧ (a0 = nI 32 → Post (nI 1) τ))) : ww_T l g mX6_isBlank [.inl a0] τ (ww_QI Post) := by
  refine ww_enter (P := [some (.inl a0)]) (by decide) (Nat.le_of_ble_eq_true rfl) rfl (fun E => ?_)
  replace h := h E
  refine ww_iload_n 1 dX6_isBlank_0 rfl 0 rfl rfl ?_
  refine ww_bipush (v := nI 32) 3 dX6_isBlank_1 (by decide) rfl ?_
  refine ww_ic_ne 10 6 dX6_isBlank_3 (by decide) rfl (fun c => ?_) (fun c => ?_)
  · replace h := h.1 c
    refine ww_iconst (v := nI 0) 11 dX6_isBlank_10 (by decide) rfl ?_
    exact ww_zret dX6_isBlank_11 rfl (Or.inl rfl) ⟨_, rfl, h⟩
  · replace h := h.2 c
    refine ww_iconst (v := nI 1) 7 dX6_isBlank_6 (by decide) rfl ?_
    refine ww_goto 11 dX6_isBlank_7 (by decide) ?_
    exact ww_zret dX6_isBlank_11 rfl (Or.inr rfl) ⟨_, rfl, h⟩
theorem b_X6_letterBy {l : Launch} {g : ww_G} {τ : ww_M} {a0 : Int32} {Post : Int32 → ww_M → Prop}  (h : ∀ E : ww_E, (∃ Q1 : Int32 → ww_M → Prop, ww_T E.2.1 g mX6_in [.inr (.inl (a0.toInt64)), .inr (.inl (lN 97)), .inr (.inl (lN 100))] τ (ww_QI Q1) ∧ ∀ (v2 : Int32) (τ3 : ww_M), Q1 v2 τ3 → (v2 = nI 0 → (∃ Q4 : Int32 → ww_M → Prop, ww_T E.2.1 g mX6_in [.inr (.inl (a0.toInt64)), .inr (.inl (lN 65)), .inr (.inl (lN 68))] τ3 (ww_QI Q4) ∧ ∀ (v5 : Int32) (τ6 : ww_M), Q4 v5 τ6 → (v5 = nI 0 → Post (-1 : Int32) τ6) ∧ (¬ v5 = nI 0 → Post ((a0 - (nI 65)) + (nI 4)) τ6))) ∧ (¬ v2 = nI 0 → Post (a0 - (nI 97)) τ3))) : ww_T l g mX6_letterBy [.inl a0] τ (ww_QI Post) := by
  refine ww_enter (P := [some (.inl a0)]) (by decide) (Nat.le_of_ble_eq_true rfl) rfl (fun E => ?_)
  replace h := h E
  refine ww_iload_n 1 dX6_letterBy_0 rfl 0 rfl rfl ?_
  refine ww_i2l 2 dX6_letterBy_1 rfl ?_
  refine ww_ldc2 5 dX6_letterBy_2 rfl wk_X6_258 ?_
  refine ww_ldc2 8 dX6_letterBy_5 rfl wk_X6_260 ?_
  obtain ⟨Q1, hT, h⟩ := h
  refine ww_invSI (d' := mX6_in) [.inr (.inl (a0.toInt64)), .inr (.inl (lN 97)), .inr (.inl (lN 100))] rfl 11 dX6_letterBy_8 ⟨wi_X6, wc_X6_in, wp_X6_in, by decide, by decide⟩ (Or.inl wl_X6_66) wn_X6_in (Nat.le_of_ble_eq_true rfl) rfl hT (fun v2 τ3 hq => ?_)
  replace h := h v2 τ3 hq
  refine ww_if_eq 21 14 dX6_letterBy_11 (by decide) rfl (fun c => ?_) (fun c => ?_)
  · replace h := h.1 c
    refine ww_iload_n 22 dX6_letterBy_21 rfl 0 rfl rfl ?_
    refine ww_i2l 23 dX6_letterBy_22 rfl ?_
    refine ww_ldc2 26 dX6_letterBy_23 rfl wk_X6_262 ?_
    refine ww_ldc2 29 dX6_letterBy_26 rfl wk_X6_264 ?_
    obtain ⟨Q4, hT, h⟩ := h
    refine ww_invSI (d' := mX6_in) [.inr (.inl (a0.toInt64)), .inr (.inl (lN 65)), .inr (.inl (lN 68))] rfl 32 dX6_letterBy_29 ⟨wi_X6, wc_X6_in, wp_X6_in, by decide, by decide⟩ (Or.inl wl_X6_66) wn_X6_in (Nat.le_of_ble_eq_true rfl) rfl hT (fun v5 τ6 hq => ?_)
    replace h := h v5 τ6 hq
    refine ww_if_eq 44 35 dX6_letterBy_32 (by decide) rfl (fun c => ?_) (fun c => ?_)
    · replace h := h.1 c
      refine ww_iconst (v := (-1 : Int32)) 45 dX6_letterBy_44 (by decide) rfl ?_
      exact ww_iret dX6_letterBy_45 rfl ⟨_, rfl, h⟩
    · replace h := h.2 c
      refine ww_iload_n 36 dX6_letterBy_35 rfl 0 rfl rfl ?_
      refine ww_bipush (v := nI 65) 38 dX6_letterBy_36 (by decide) rfl ?_
      refine ww_isub 39 dX6_letterBy_38 rfl ?_
      refine ww_iconst (v := nI 4) 40 dX6_letterBy_39 (by decide) rfl ?_
      refine ww_iadd 41 dX6_letterBy_40 rfl ?_
      refine ww_goto 45 dX6_letterBy_41 (by decide) ?_
      exact ww_iret dX6_letterBy_45 rfl ⟨_, rfl, h⟩
  · replace h := h.2 c
    refine ww_iload_n 15 dX6_letterBy_14 rfl 0 rfl rfl ?_
    refine ww_bipush (v := nI 97) 17 dX6_letterBy_15 (by decide) rfl ?_
    refine ww_isub 18 dX6_letterBy_17 rfl ?_
    refine ww_goto 45 dX6_letterBy_18 (by decide) ?_
    exact ww_iret dX6_letterBy_45 rfl ⟨_, rfl, h⟩
theorem b_X6_isFigure {l : Launch} {g : ww_G} {τ : ww_M} {a1 : Int32} {Post : Int32 → ww_M → Prop}  (h : ∀ E : ww_E, ((τ (30, 0) 24 ≤ a1 → Post (nI 0) τ) ∧ (¬ (τ (30, 0) 24 ≤ a1) → (∃ j1 : Nat, a1 = nI j1 ∧ j1 < 100 ∧ (∃ Q2 : Int32 → ww_M → Prop, ww_T E.2.1 g mX6_in [.inr (.inl ((τ (44, 0) j1).toInt64)), .inr (.inl (lN 49)), .inr (.inl (lN 57))] τ (ww_QI Q2) ∧ ∀ (v3 : Int32) (τ4 : ww_M), Q2 v3 τ4 → (v3 = nI 0 → Post (nI 0) τ4) ∧ (¬ v3 = nI 0 → Post (nI 1) τ4)))))) : ww_T l g mX6_isFigure [.inr (.inr (30, 0)), .inl a1] τ (ww_QI Post) := by
  refine ww_enter (P := [some (.inr (.inr (30, 0))), some (.inl a1)]) (by decide) (Nat.le_of_ble_eq_true rfl) rfl (fun E => ?_)
  replace h := h E
  refine ww_iload_n 1 dX6_isFigure_0 rfl 1 rfl rfl ?_
  refine ww_aload_n 2 dX6_isFigure_1 rfl 0 rfl rfl ?_
  refine ww_getI 24 5 dX6_isFigure_2 wf_X6_255 (ww_i1 30 (by decide)) rfl rfl rfl ?_
  refine ww_ic_ge 31 8 dX6_isFigure_5 (by decide) rfl (fun c => ?_) (fun c => ?_)
  · replace h := h.1 c
    refine ww_iconst (v := nI 0) 32 dX6_isFigure_31 (by decide) rfl ?_
    exact ww_zret dX6_isFigure_32 rfl (Or.inl rfl) ⟨_, rfl, h⟩
  · replace h := h.2 c
    refine ww_aload_n 9 dX6_isFigure_8 rfl 0 rfl rfl ?_
    refine ww_getR 23 12 dX6_isFigure_9 wf_X6_49 (ww_i1 30 (by decide)) rfl rfl rfl ?_
    refine ww_iload_n 13 dX6_isFigure_12 rfl 1 rfl rfl ?_
    obtain ⟨j1, hij1, hj1, h⟩ := h
    refine ww_iald j1 14 dX6_isFigure_13 (ww_i1 44 (by decide)) rfl (by decide) hij1 hj1 rfl ?_
    refine ww_i2l 15 dX6_isFigure_14 rfl ?_
    refine ww_ldc2 18 dX6_isFigure_15 rfl wk_X6_266 ?_
    refine ww_ldc2 21 dX6_isFigure_18 rfl wk_X6_268 ?_
    obtain ⟨Q2, hT, h⟩ := h
    refine ww_invSI (d' := mX6_in) [.inr (.inl ((τ (44, 0) j1).toInt64)), .inr (.inl (lN 49)), .inr (.inl (lN 57))] rfl 24 dX6_isFigure_21 ⟨wi_X6, wc_X6_in, wp_X6_in, by decide, by decide⟩ (Or.inl wl_X6_66) wn_X6_in (Nat.le_of_ble_eq_true rfl) rfl hT (fun v3 τ4 hq => ?_)
    replace h := h v3 τ4 hq
    refine ww_if_eq 31 27 dX6_isFigure_24 (by decide) rfl (fun c => ?_) (fun c => ?_)
    · replace h := h.1 c
      refine ww_iconst (v := nI 0) 32 dX6_isFigure_31 (by decide) rfl ?_
      exact ww_zret dX6_isFigure_32 rfl (Or.inl rfl) ⟨_, rfl, h⟩
    · replace h := h.2 c
      refine ww_iconst (v := nI 1) 28 dX6_isFigure_27 (by decide) rfl ?_
      refine ww_goto 32 dX6_isFigure_28 (by decide) ?_
      exact ww_zret dX6_isFigure_32 rfl (Or.inr rfl) ⟨_, rfl, h⟩
theorem b_X6_syntax {l : Launch} {g : ww_G} {τ : ww_M}  {Post : Int32 → ww_M → Prop}  (h : ∀ E : ww_E, (∀ τ1 : ww_M, τ1 = ww_up τ (30, 0) 25 (nI 0) → ww_W g mX6_syntax E (ww_QI Post) 14 [some (.inr (.inr (30, 0))), some (.inl (nI 0)), some (.inl (nI 0)), some (.inl (nI 0)), some (.inl (nI 0)), none, none, none] [] τ1)) : ww_T l g mX6_syntax [.inr (.inr (30, 0))] τ (ww_QI Post) := by
  refine ww_enter (P := [some (.inr (.inr (30, 0))), none, none, none, none, none, none, none]) (by decide) (Nat.le_of_ble_eq_true rfl) rfl (fun E => ?_)
  replace h := h E
  refine ww_iconst (v := nI 0) 1 dX6_syntax_0 (by decide) rfl ?_
  refine ww_istore_n 2 dX6_syntax_1 rfl 1 rfl (by decide) rfl [some (.inr (.inr (30, 0))), some (.inl (nI 0)), none, none, none, none, none, none] rfl ?_
  refine ww_iconst (v := nI 0) 3 dX6_syntax_2 (by decide) rfl ?_
  refine ww_istore_n 4 dX6_syntax_3 rfl 2 rfl (by decide) rfl [some (.inr (.inr (30, 0))), some (.inl (nI 0)), some (.inl (nI 0)), none, none, none, none, none] rfl ?_
  refine ww_iconst (v := nI 0) 5 dX6_syntax_4 (by decide) rfl ?_
  refine ww_istore_n 6 dX6_syntax_5 rfl 3 rfl (by decide) rfl [some (.inr (.inr (30, 0))), some (.inl (nI 0)), some (.inl (nI 0)), some (.inl (nI 0)), none, none, none, none] rfl ?_
  refine ww_aload_n 7 dX6_syntax_6 rfl 0 rfl rfl ?_
  refine ww_iconst (v := nI 0) 8 dX6_syntax_7 (by decide) rfl ?_
  refine ww_putI 25 11 dX6_syntax_8 wf_X6_270 fp_X6_25 (ww_i1 30 (by decide)) rfl rfl rfl (fun τ1 eτ1 => ?_)
  replace h := h τ1 eτ1
  refine ww_iconst (v := nI 0) 12 dX6_syntax_11 (by decide) rfl ?_
  refine ww_istore 14 4 dX6_syntax_12 rfl (by decide) rfl [some (.inr (.inr (30, 0))), some (.inl (nI 0)), some (.inl (nI 0)), some (.inl (nI 0)), some (.inl (nI 0)), none, none, none] rfl ?_
  exact h
theorem b_X6_syntax_14 {g : ww_G} {E : ww_E} {τ : ww_M} {x1 : Int32} {x2 : Int32} {x3 : Int32} {x4 : Int32} {Post : Int32 → ww_M → Prop}  (h : ((τ (30, 0) 24 ≤ x4 → ((nI 0 < x1 → Post (τ (30, 0) 24) τ) ∧ (¬ (nI 0 < x1) → ((¬ x2 = nI 0 → Post (τ (30, 0) 24) τ) ∧ (x2 = nI 0 → ((¬ τ (30, 0) 25 = nI 0 → Post (-1 : Int32) τ) ∧ (τ (30, 0) 25 = nI 0 → Post (τ (30, 0) 24) τ))))))) ∧ (¬ (τ (30, 0) 24 ≤ x4) → (∃ j1 : Nat, x4 = nI j1 ∧ j1 < 100 ∧ (∃ Q2 : Int32 → ww_M → Prop, ww_T E.2.1 g mX6_letterBy [.inl (τ (44, 0) j1)] τ (ww_QI Q2) ∧ ∀ (v3 : Int32) (τ4 : ww_M), Q2 v3 τ4 → (v3 = (-1 : Int32) → ww_W g mX6_syntax E (ww_QI Post) 46 [some (.inr (.inr (30, 0))), some (.inl x1), some (.inl x2), some (.inl x3), some (.inl x4), some (.inl (τ (44, 0) j1)), none, none] [.inl (nI 0)] τ4) ∧ (¬ v3 = (-1 : Int32) → ww_W g mX6_syntax E (ww_QI Post) 46 [some (.inr (.inr (30, 0))), some (.inl x1), some (.inl x2), some (.inl x3), some (.inl x4), some (.inl (τ (44, 0) j1)), none, none] [.inl (nI 1)] τ4)))))) : ww_W g mX6_syntax E (ww_QI Post) 14 [some (.inr (.inr (30, 0))), some (.inl x1), some (.inl x2), some (.inl x3), some (.inl x4), none, none, none] [] τ := by
  refine ww_iload 16 4 dX6_syntax_14 rfl rfl ?_
  refine ww_aload_n 17 dX6_syntax_16 rfl 0 rfl rfl ?_
  refine ww_getI 24 20 dX6_syntax_17 wf_X6_255 (ww_i1 30 (by decide)) rfl rfl rfl ?_
  refine ww_ic_ge 238 23 dX6_syntax_20 (by decide) rfl (fun c => ?_) (fun c => ?_)
  · replace h := h.1 c
    refine ww_iload_n 239 dX6_syntax_238 rfl 1 rfl rfl ?_
    refine ww_if_gt 253 242 dX6_syntax_239 (by decide) rfl (fun c => ?_) (fun c => ?_)
    · replace h := h.1 c
      refine ww_aload_n 254 dX6_syntax_253 rfl 0 rfl rfl ?_
      refine ww_getI 24 257 dX6_syntax_254 wf_X6_255 (ww_i1 30 (by decide)) rfl rfl rfl ?_
      refine ww_goto 261 dX6_syntax_257 (by decide) ?_
      exact ww_iret dX6_syntax_261 rfl ⟨_, rfl, h⟩
    · replace h := h.2 c
      refine ww_iload_n 243 dX6_syntax_242 rfl 2 rfl rfl ?_
      refine ww_if_ne 253 246 dX6_syntax_243 (by decide) rfl (fun c => ?_) (fun c => ?_)
      · replace h := h.1 c
        refine ww_aload_n 254 dX6_syntax_253 rfl 0 rfl rfl ?_
        refine ww_getI 24 257 dX6_syntax_254 wf_X6_255 (ww_i1 30 (by decide)) rfl rfl rfl ?_
        refine ww_goto 261 dX6_syntax_257 (by decide) ?_
        exact ww_iret dX6_syntax_261 rfl ⟨_, rfl, h⟩
      · replace h := h.2 c
        refine ww_aload_n 247 dX6_syntax_246 rfl 0 rfl rfl ?_
        refine ww_getI 25 250 dX6_syntax_247 wf_X6_270 (ww_i1 30 (by decide)) rfl rfl rfl ?_
        refine ww_if_ne 260 253 dX6_syntax_250 (by decide) rfl (fun c => ?_) (fun c => ?_)
        · replace h := h.1 c
          refine ww_iconst (v := (-1 : Int32)) 261 dX6_syntax_260 (by decide) rfl ?_
          exact ww_iret dX6_syntax_261 rfl ⟨_, rfl, h⟩
        · replace h := h.2 c
          refine ww_aload_n 254 dX6_syntax_253 rfl 0 rfl rfl ?_
          refine ww_getI 24 257 dX6_syntax_254 wf_X6_255 (ww_i1 30 (by decide)) rfl rfl rfl ?_
          refine ww_goto 261 dX6_syntax_257 (by decide) ?_
          exact ww_iret dX6_syntax_261 rfl ⟨_, rfl, h⟩
  · replace h := h.2 c
    refine ww_aload_n 24 dX6_syntax_23 rfl 0 rfl rfl ?_
    refine ww_getR 23 27 dX6_syntax_24 wf_X6_49 (ww_i1 30 (by decide)) rfl rfl rfl ?_
    refine ww_iload 29 4 dX6_syntax_27 rfl rfl ?_
    obtain ⟨j1, hij1, hj1, h⟩ := h
    refine ww_iald j1 30 dX6_syntax_29 (ww_i1 44 (by decide)) rfl (by decide) hij1 hj1 rfl ?_
    refine ww_istore 32 5 dX6_syntax_30 rfl (by decide) rfl [some (.inr (.inr (30, 0))), some (.inl x1), some (.inl x2), some (.inl x3), some (.inl x4), some (.inl (τ (44, 0) j1)), none, none] rfl ?_
    refine ww_iload 34 5 dX6_syntax_32 rfl rfl ?_
    obtain ⟨Q2, hT, h⟩ := h
    refine ww_invSI (d' := mX6_letterBy) [.inl (τ (44, 0) j1)] rfl 37 dX6_syntax_34 ⟨wi_X6, wc_X6_letterBy, wp_X6_letterBy, by decide, by decide⟩ (Or.inl wl_X6_273) wn_X6_letterBy (Nat.le_of_ble_eq_true rfl) rfl hT (fun v3 τ4 hq => ?_)
    replace h := h v3 τ4 hq
    refine ww_iconst (v := (-1 : Int32)) 38 dX6_syntax_37 (by decide) rfl ?_
    refine ww_ic_eq 45 41 dX6_syntax_38 (by decide) rfl (fun c => ?_) (fun c => ?_)
    · replace h := h.1 c
      refine ww_iconst (v := nI 0) 46 dX6_syntax_45 (by decide) rfl ?_
      exact h
    · replace h := h.2 c
      refine ww_iconst (v := nI 1) 42 dX6_syntax_41 (by decide) rfl ?_
      refine ww_goto 46 dX6_syntax_42 (by decide) ?_
      exact h
theorem b_X6_syntax_46 {g : ww_G} {E : ww_E} {τ : ww_M} {x1 : Int32} {x2 : Int32} {x3 : Int32} {x4 : Int32} {x5 : Int32} {y0 : Int32} {Post : Int32 → ww_M → Prop}  (h : (∃ Q1 : Int32 → ww_M → Prop, ww_T E.2.1 g mX6_isBlank [.inl x5] τ (ww_QI Q1) ∧ ∀ (v2 : Int32) (τ3 : ww_M), Q1 v2 τ3 → (¬ v2 = nI 0 → ww_W g mX6_syntax E (ww_QI Post) 121 [some (.inr (.inr (30, 0))), some (.inl x1), some (.inl x2), none, some (.inl x4), some (.inl x5), some (.inl y0), none] [.inl (nI 1)] τ3) ∧ (v2 = nI 0 → ((¬ y0 = nI 0 → ww_W g mX6_syntax E (ww_QI Post) 121 [some (.inr (.inr (30, 0))), some (.inl x1), some (.inl x2), none, some (.inl x4), some (.inl x5), some (.inl y0), none] [.inl (nI 1)] τ3) ∧ (y0 = nI 0 → ((¬ x5 = nI 40 → ((¬ x5 = nI 41 → ww_W g mX6_syntax E (ww_QI Post) 88 [some (.inr (.inr (30, 0))), some (.inl x1), some (.inl x2), some (.inl x3), some (.inl x4), some (.inl x5), some (.inl y0), none] [] τ3) ∧ (x5 = nI 41 → ((x1 ≤ nI 0 → ww_W g mX6_syntax E (ww_QI Post) 88 [some (.inr (.inr (30, 0))), some (.inl x1), some (.inl x2), some (.inl x3), some (.inl x4), some (.inl x5), some (.inl y0), none] [] τ3) ∧ (¬ (x1 ≤ nI 0) → ((¬ x2 = nI 0 → ww_W g mX6_syntax E (ww_QI Post) 121 [some (.inr (.inr (30, 0))), some (.inl x1), some (.inl x2), none, some (.inl x4), some (.inl x5), some (.inl y0), none] [.inl (nI 1)] τ3) ∧ (x2 = nI 0 → ww_W g mX6_syntax E (ww_QI Post) 88 [some (.inr (.inr (30, 0))), some (.inl x1), some (.inl x2), some (.inl x3), some (.inl x4), some (.inl x5), some (.inl y0), none] [] τ3))))))) ∧ (x5 = nI 40 → ((x1 < nI 4 → ww_W g mX6_syntax E (ww_QI Post) 121 [some (.inr (.inr (30, 0))), some (.inl x1), some (.inl x2), none, some (.inl x4), some (.inl x5), some (.inl y0), none] [.inl (nI 1)] τ3) ∧ (¬ (x1 < nI 4) → ((¬ x5 = nI 41 → ww_W g mX6_syntax E (ww_QI Post) 88 [some (.inr (.inr (30, 0))), some (.inl x1), some (.inl x2), some (.inl x3), some (.inl x4), some (.inl x5), some (.inl y0), none] [] τ3) ∧ (x5 = nI 41 → ((x1 ≤ nI 0 → ww_W g mX6_syntax E (ww_QI Post) 88 [some (.inr (.inr (30, 0))), some (.inl x1), some (.inl x2), some (.inl x3), some (.inl x4), some (.inl x5), some (.inl y0), none] [] τ3) ∧ (¬ (x1 ≤ nI 0) → ((¬ x2 = nI 0 → ww_W g mX6_syntax E (ww_QI Post) 121 [some (.inr (.inr (30, 0))), some (.inl x1), some (.inl x2), none, some (.inl x4), some (.inl x5), some (.inl y0), none] [.inl (nI 1)] τ3) ∧ (x2 = nI 0 → ww_W g mX6_syntax E (ww_QI Post) 88 [some (.inr (.inr (30, 0))), some (.inl x1), some (.inl x2), some (.inl x3), some (.inl x4), some (.inl x5), some (.inl y0), none] [] τ3))))))))))))))) : ww_W g mX6_syntax E (ww_QI Post) 46 [some (.inr (.inr (30, 0))), some (.inl x1), some (.inl x2), some (.inl x3), some (.inl x4), some (.inl x5), none, none] [.inl y0] τ := by
  refine ww_istore 48 6 dX6_syntax_46 rfl (by decide) rfl [some (.inr (.inr (30, 0))), some (.inl x1), some (.inl x2), some (.inl x3), some (.inl x4), some (.inl x5), some (.inl y0), none] rfl ?_
  refine ww_iload 50 5 dX6_syntax_48 rfl rfl ?_
  obtain ⟨Q1, hT, h⟩ := h
  refine ww_invSI (d' := mX6_isBlank) [.inl x5] rfl 53 dX6_syntax_50 ⟨wi_X6, wc_X6_isBlank, wp_X6_isBlank, by decide, by decide⟩ (Or.inl wl_X6_276) wn_X6_isBlank (Nat.le_of_ble_eq_true rfl) rfl hT (fun v2 τ3 hq => ?_)
  replace h := h v2 τ3 hq
  refine ww_if_ne 116 56 dX6_syntax_53 (by decide) rfl (fun c => ?_) (fun c => ?_)
  · replace h := h.1 c
    refine ww_iconst (v := nI 1) 117 dX6_syntax_116 (by decide) rfl ?_
    refine ww_goto 121 dX6_syntax_117 (by decide) ?_
    exact ww_weak (ww_le_s (ww_le_s (ww_le_s (ww_le_n (ww_le_s (ww_le_s (ww_le_s (ww_le_n (ww_le_nil _))))))))) h
  · replace h := h.2 c
    refine ww_iload 58 6 dX6_syntax_56 rfl rfl ?_
    refine ww_if_ne 116 61 dX6_syntax_58 (by decide) rfl (fun c => ?_) (fun c => ?_)
    · replace h := h.1 c
      refine ww_iconst (v := nI 1) 117 dX6_syntax_116 (by decide) rfl ?_
      refine ww_goto 121 dX6_syntax_117 (by decide) ?_
      exact ww_weak (ww_le_s (ww_le_s (ww_le_s (ww_le_n (ww_le_s (ww_le_s (ww_le_s (ww_le_n (ww_le_nil _))))))))) h
    · replace h := h.2 c
      refine ww_iload 63 5 dX6_syntax_61 rfl rfl ?_
      refine ww_bipush (v := nI 40) 65 dX6_syntax_63 (by decide) rfl ?_
      refine ww_ic_ne 73 68 dX6_syntax_65 (by decide) rfl (fun c => ?_) (fun c => ?_)
      · replace h := h.1 c
        refine ww_iload 75 5 dX6_syntax_73 rfl rfl ?_
        refine ww_bipush (v := nI 41) 77 dX6_syntax_75 (by decide) rfl ?_
        refine ww_ic_ne 88 80 dX6_syntax_77 (by decide) rfl (fun c => ?_) (fun c => ?_)
        · replace h := h.1 c
          exact h
        · replace h := h.2 c
          refine ww_iload_n 81 dX6_syntax_80 rfl 1 rfl rfl ?_
          refine ww_if_le 88 84 dX6_syntax_81 (by decide) rfl (fun c => ?_) (fun c => ?_)
          · replace h := h.1 c
            exact h
          · replace h := h.2 c
            refine ww_iload_n 85 dX6_syntax_84 rfl 2 rfl rfl ?_
            refine ww_if_ne 116 88 dX6_syntax_85 (by decide) rfl (fun c => ?_) (fun c => ?_)
            · replace h := h.1 c
              refine ww_iconst (v := nI 1) 117 dX6_syntax_116 (by decide) rfl ?_
              refine ww_goto 121 dX6_syntax_117 (by decide) ?_
              exact ww_weak (ww_le_s (ww_le_s (ww_le_s (ww_le_n (ww_le_s (ww_le_s (ww_le_s (ww_le_n (ww_le_nil _))))))))) h
            · replace h := h.2 c
              exact h
      · replace h := h.2 c
        refine ww_iload_n 69 dX6_syntax_68 rfl 1 rfl rfl ?_
        refine ww_iconst (v := nI 4) 70 dX6_syntax_69 (by decide) rfl ?_
        refine ww_ic_lt 116 73 dX6_syntax_70 (by decide) rfl (fun c => ?_) (fun c => ?_)
        · replace h := h.1 c
          refine ww_iconst (v := nI 1) 117 dX6_syntax_116 (by decide) rfl ?_
          refine ww_goto 121 dX6_syntax_117 (by decide) ?_
          exact ww_weak (ww_le_s (ww_le_s (ww_le_s (ww_le_n (ww_le_s (ww_le_s (ww_le_s (ww_le_n (ww_le_nil _))))))))) h
        · replace h := h.2 c
          refine ww_iload 75 5 dX6_syntax_73 rfl rfl ?_
          refine ww_bipush (v := nI 41) 77 dX6_syntax_75 (by decide) rfl ?_
          refine ww_ic_ne 88 80 dX6_syntax_77 (by decide) rfl (fun c => ?_) (fun c => ?_)
          · replace h := h.1 c
            exact h
          · replace h := h.2 c
            refine ww_iload_n 81 dX6_syntax_80 rfl 1 rfl rfl ?_
            refine ww_if_le 88 84 dX6_syntax_81 (by decide) rfl (fun c => ?_) (fun c => ?_)
            · replace h := h.1 c
              exact h
            · replace h := h.2 c
              refine ww_iload_n 85 dX6_syntax_84 rfl 2 rfl rfl ?_
              refine ww_if_ne 116 88 dX6_syntax_85 (by decide) rfl (fun c => ?_) (fun c => ?_)
              · replace h := h.1 c
                refine ww_iconst (v := nI 1) 117 dX6_syntax_116 (by decide) rfl ?_
                refine ww_goto 121 dX6_syntax_117 (by decide) ?_
                exact ww_weak (ww_le_s (ww_le_s (ww_le_s (ww_le_n (ww_le_s (ww_le_s (ww_le_s (ww_le_n (ww_le_nil _))))))))) h
              · replace h := h.2 c
                exact h
theorem b_X6_syntax_88 {g : ww_G} {E : ww_E} {τ : ww_M} {x1 : Int32} {x2 : Int32} {x3 : Int32} {x4 : Int32} {x5 : Int32} {x6 : Int32} {Post : Int32 → ww_M → Prop}  (h : ((¬ x5 = nI 59 → ((x3 = nI 0 → ww_W g mX6_syntax E (ww_QI Post) 121 [some (.inr (.inr (30, 0))), some (.inl x1), some (.inl x2), none, some (.inl x4), some (.inl x5), some (.inl x6), none] [.inl (nI 0)] τ) ∧ (¬ x3 = nI 0 → (∃ Q1 : Int32 → ww_M → Prop, ww_T E.2.1 g mX6_isFigure [.inr (.inr (30, 0)), .inl x4] τ (ww_QI Q1) ∧ ∀ (v2 : Int32) (τ3 : ww_M), Q1 v2 τ3 → (v2 = nI 0 → ww_W g mX6_syntax E (ww_QI Post) 121 [some (.inr (.inr (30, 0))), some (.inl x1), some (.inl x2), none, some (.inl x4), some (.inl x5), some (.inl x6), none] [.inl (nI 0)] τ3) ∧ (¬ v2 = nI 0 → ww_W g mX6_syntax E (ww_QI Post) 121 [some (.inr (.inr (30, 0))), some (.inl x1), some (.inl x2), none, some (.inl x4), some (.inl x5), some (.inl x6), none] [.inl (nI 1)] τ3))))) ∧ (x5 = nI 59 → ((¬ x1 = nI 0 → ((x3 = nI 0 → ww_W g mX6_syntax E (ww_QI Post) 121 [some (.inr (.inr (30, 0))), some (.inl x1), some (.inl x2), none, some (.inl x4), some (.inl x5), some (.inl x6), none] [.inl (nI 0)] τ) ∧ (¬ x3 = nI 0 → (∃ Q4 : Int32 → ww_M → Prop, ww_T E.2.1 g mX6_isFigure [.inr (.inr (30, 0)), .inl x4] τ (ww_QI Q4) ∧ ∀ (v5 : Int32) (τ6 : ww_M), Q4 v5 τ6 → (v5 = nI 0 → ww_W g mX6_syntax E (ww_QI Post) 121 [some (.inr (.inr (30, 0))), some (.inl x1), some (.inl x2), none, some (.inl x4), some (.inl x5), some (.inl x6), none] [.inl (nI 0)] τ6) ∧ (¬ v5 = nI 0 → ww_W g mX6_syntax E (ww_QI Post) 121 [some (.inr (.inr (30, 0))), some (.inl x1), some (.inl x2), none, some (.inl x4), some (.inl x5), some (.inl x6), none] [.inl (nI 1)] τ6))))) ∧ (x1 = nI 0 → ((¬ x2 = nI 0 → ww_W g mX6_syntax E (ww_QI Post) 121 [some (.inr (.inr (30, 0))), some (.inl x1), some (.inl x2), none, some (.inl x4), some (.inl x5), some (.inl x6), none] [.inl (nI 1)] τ) ∧ (x2 = nI 0 → ((x3 = nI 0 → ww_W g mX6_syntax E (ww_QI Post) 121 [some (.inr (.inr (30, 0))), some (.inl x1), some (.inl x2), none, some (.inl x4), some (.inl x5), some (.inl x6), none] [.inl (nI 0)] τ) ∧ (¬ x3 = nI 0 → (∃ Q7 : Int32 → ww_M → Prop, ww_T E.2.1 g mX6_isFigure [.inr (.inr (30, 0)), .inl x4] τ (ww_QI Q7) ∧ ∀ (v8 : Int32) (τ9 : ww_M), Q7 v8 τ9 → (v8 = nI 0 → ww_W g mX6_syntax E (ww_QI Post) 121 [some (.inr (.inr (30, 0))), some (.inl x1), some (.inl x2), none, some (.inl x4), some (.inl x5), some (.inl x6), none] [.inl (nI 0)] τ9) ∧ (¬ v8 = nI 0 → ww_W g mX6_syntax E (ww_QI Post) 121 [some (.inr (.inr (30, 0))), some (.inl x1), some (.inl x2), none, some (.inl x4), some (.inl x5), some (.inl x6), none] [.inl (nI 1)] τ9))))))))))) : ww_W g mX6_syntax E (ww_QI Post) 88 [some (.inr (.inr (30, 0))), some (.inl x1), some (.inl x2), some (.inl x3), some (.inl x4), some (.inl x5), some (.inl x6), none] [] τ := by
  refine ww_iload 90 5 dX6_syntax_88 rfl rfl ?_
  refine ww_bipush (v := nI 59) 92 dX6_syntax_90 (by decide) rfl ?_
  refine ww_ic_ne 103 95 dX6_syntax_92 (by decide) rfl (fun c => ?_) (fun c => ?_)
  · replace h := h.1 c
    refine ww_iload_n 104 dX6_syntax_103 rfl 3 rfl rfl ?_
    refine ww_if_eq 120 107 dX6_syntax_104 (by decide) rfl (fun c => ?_) (fun c => ?_)
    · replace h := h.1 c
      refine ww_iconst (v := nI 0) 121 dX6_syntax_120 (by decide) rfl ?_
      exact ww_weak (ww_le_s (ww_le_s (ww_le_s (ww_le_n (ww_le_s (ww_le_s (ww_le_s (ww_le_n (ww_le_nil _))))))))) h
    · replace h := h.2 c
      refine ww_aload_n 108 dX6_syntax_107 rfl 0 rfl rfl ?_
      refine ww_iload 110 4 dX6_syntax_108 rfl rfl ?_
      obtain ⟨Q1, hT, h⟩ := h
      refine ww_invVI (d' := mX6_isFigure) [.inl x4] rfl 113 dX6_syntax_110 ⟨wi_X6, wc_X6_isFigure, wp_X6_isFigure, by decide, by decide⟩ wl_X6_279 wn_X6_isFigure we_X6_isFigure (ww_i1 30 (by decide)) rfl rfl (Nat.le_of_ble_eq_true rfl) rfl hT (fun v2 τ3 hq => ?_)
      replace h := h v2 τ3 hq
      refine ww_if_eq 120 116 dX6_syntax_113 (by decide) rfl (fun c => ?_) (fun c => ?_)
      · replace h := h.1 c
        refine ww_iconst (v := nI 0) 121 dX6_syntax_120 (by decide) rfl ?_
        exact ww_weak (ww_le_s (ww_le_s (ww_le_s (ww_le_n (ww_le_s (ww_le_s (ww_le_s (ww_le_n (ww_le_nil _))))))))) h
      · replace h := h.2 c
        refine ww_iconst (v := nI 1) 117 dX6_syntax_116 (by decide) rfl ?_
        refine ww_goto 121 dX6_syntax_117 (by decide) ?_
        exact ww_weak (ww_le_s (ww_le_s (ww_le_s (ww_le_n (ww_le_s (ww_le_s (ww_le_s (ww_le_n (ww_le_nil _))))))))) h
  · replace h := h.2 c
    refine ww_iload_n 96 dX6_syntax_95 rfl 1 rfl rfl ?_
    refine ww_if_ne 103 99 dX6_syntax_96 (by decide) rfl (fun c => ?_) (fun c => ?_)
    · replace h := h.1 c
      refine ww_iload_n 104 dX6_syntax_103 rfl 3 rfl rfl ?_
      refine ww_if_eq 120 107 dX6_syntax_104 (by decide) rfl (fun c => ?_) (fun c => ?_)
      · replace h := h.1 c
        refine ww_iconst (v := nI 0) 121 dX6_syntax_120 (by decide) rfl ?_
        exact ww_weak (ww_le_s (ww_le_s (ww_le_s (ww_le_n (ww_le_s (ww_le_s (ww_le_s (ww_le_n (ww_le_nil _))))))))) h
      · replace h := h.2 c
        refine ww_aload_n 108 dX6_syntax_107 rfl 0 rfl rfl ?_
        refine ww_iload 110 4 dX6_syntax_108 rfl rfl ?_
        obtain ⟨Q4, hT, h⟩ := h
        refine ww_invVI (d' := mX6_isFigure) [.inl x4] rfl 113 dX6_syntax_110 ⟨wi_X6, wc_X6_isFigure, wp_X6_isFigure, by decide, by decide⟩ wl_X6_279 wn_X6_isFigure we_X6_isFigure (ww_i1 30 (by decide)) rfl rfl (Nat.le_of_ble_eq_true rfl) rfl hT (fun v5 τ6 hq => ?_)
        replace h := h v5 τ6 hq
        refine ww_if_eq 120 116 dX6_syntax_113 (by decide) rfl (fun c => ?_) (fun c => ?_)
        · replace h := h.1 c
          refine ww_iconst (v := nI 0) 121 dX6_syntax_120 (by decide) rfl ?_
          exact ww_weak (ww_le_s (ww_le_s (ww_le_s (ww_le_n (ww_le_s (ww_le_s (ww_le_s (ww_le_n (ww_le_nil _))))))))) h
        · replace h := h.2 c
          refine ww_iconst (v := nI 1) 117 dX6_syntax_116 (by decide) rfl ?_
          refine ww_goto 121 dX6_syntax_117 (by decide) ?_
          exact ww_weak (ww_le_s (ww_le_s (ww_le_s (ww_le_n (ww_le_s (ww_le_s (ww_le_s (ww_le_n (ww_le_nil _))))))))) h
    · replace h := h.2 c
      refine ww_iload_n 100 dX6_syntax_99 rfl 2 rfl rfl ?_
      refine ww_if_ne 116 103 dX6_syntax_100 (by decide) rfl (fun c => ?_) (fun c => ?_)
      · replace h := h.1 c
        refine ww_iconst (v := nI 1) 117 dX6_syntax_116 (by decide) rfl ?_
        refine ww_goto 121 dX6_syntax_117 (by decide) ?_
        exact ww_weak (ww_le_s (ww_le_s (ww_le_s (ww_le_n (ww_le_s (ww_le_s (ww_le_s (ww_le_n (ww_le_nil _))))))))) h
      · replace h := h.2 c
        refine ww_iload_n 104 dX6_syntax_103 rfl 3 rfl rfl ?_
        refine ww_if_eq 120 107 dX6_syntax_104 (by decide) rfl (fun c => ?_) (fun c => ?_)
        · replace h := h.1 c
          refine ww_iconst (v := nI 0) 121 dX6_syntax_120 (by decide) rfl ?_
          exact ww_weak (ww_le_s (ww_le_s (ww_le_s (ww_le_n (ww_le_s (ww_le_s (ww_le_s (ww_le_n (ww_le_nil _))))))))) h
        · replace h := h.2 c
          refine ww_aload_n 108 dX6_syntax_107 rfl 0 rfl rfl ?_
          refine ww_iload 110 4 dX6_syntax_108 rfl rfl ?_
          obtain ⟨Q7, hT, h⟩ := h
          refine ww_invVI (d' := mX6_isFigure) [.inl x4] rfl 113 dX6_syntax_110 ⟨wi_X6, wc_X6_isFigure, wp_X6_isFigure, by decide, by decide⟩ wl_X6_279 wn_X6_isFigure we_X6_isFigure (ww_i1 30 (by decide)) rfl rfl (Nat.le_of_ble_eq_true rfl) rfl hT (fun v8 τ9 hq => ?_)
          replace h := h v8 τ9 hq
          refine ww_if_eq 120 116 dX6_syntax_113 (by decide) rfl (fun c => ?_) (fun c => ?_)
          · replace h := h.1 c
            refine ww_iconst (v := nI 0) 121 dX6_syntax_120 (by decide) rfl ?_
            exact ww_weak (ww_le_s (ww_le_s (ww_le_s (ww_le_n (ww_le_s (ww_le_s (ww_le_s (ww_le_n (ww_le_nil _))))))))) h
          · replace h := h.2 c
            refine ww_iconst (v := nI 1) 117 dX6_syntax_116 (by decide) rfl ?_
            refine ww_goto 121 dX6_syntax_117 (by decide) ?_
            exact ww_weak (ww_le_s (ww_le_s (ww_le_s (ww_le_n (ww_le_s (ww_le_s (ww_le_s (ww_le_n (ww_le_nil _))))))))) h
theorem b_X6_syntax_121 {g : ww_G} {E : ww_E} {τ : ww_M} {x1 : Int32} {x2 : Int32} {x4 : Int32} {x5 : Int32} {x6 : Int32} {y0 : Int32} {Post : Int32 → ww_M → Prop}  (h : ((¬ y0 = nI 0 → ((¬ x5 = nI 40 → ((¬ x5 = nI 41 → ((¬ x5 = nI 59 → ww_W g mX6_syntax E (ww_QI Post) 174 [some (.inr (.inr (30, 0))), some (.inl (x1 + (nI 0))), some (.inl x2), none, some (.inl x4), some (.inl x5), some (.inl x6), none] [.inl (nI 0), .inl (τ (30, 0) 25), .inr (.inr (30, 0))] τ) ∧ (x5 = nI 59 → ww_W g mX6_syntax E (ww_QI Post) 174 [some (.inr (.inr (30, 0))), some (.inl (x1 + (nI 0))), some (.inl x2), none, some (.inl x4), some (.inl x5), some (.inl x6), none] [.inl (nI 1), .inl (τ (30, 0) 25), .inr (.inr (30, 0))] τ))) ∧ (x5 = nI 41 → ((¬ x5 = nI 59 → ww_W g mX6_syntax E (ww_QI Post) 174 [some (.inr (.inr (30, 0))), some (.inl (x1 + (-1 : Int32))), some (.inl x2), none, some (.inl x4), some (.inl x5), some (.inl x6), none] [.inl (nI 0), .inl (τ (30, 0) 25), .inr (.inr (30, 0))] τ) ∧ (x5 = nI 59 → ww_W g mX6_syntax E (ww_QI Post) 174 [some (.inr (.inr (30, 0))), some (.inl (x1 + (-1 : Int32))), some (.inl x2), none, some (.inl x4), some (.inl x5), some (.inl x6), none] [.inl (nI 1), .inl (τ (30, 0) 25), .inr (.inr (30, 0))] τ))))) ∧ (x5 = nI 40 → ((¬ x5 = nI 59 → ww_W g mX6_syntax E (ww_QI Post) 174 [some (.inr (.inr (30, 0))), some (.inl (x1 + (nI 1))), some (.inl x2), none, some (.inl x4), some (.inl x5), some (.inl x6), none] [.inl (nI 0), .inl (τ (30, 0) 25), .inr (.inr (30, 0))] τ) ∧ (x5 = nI 59 → ww_W g mX6_syntax E (ww_QI Post) 174 [some (.inr (.inr (30, 0))), some (.inl (x1 + (nI 1))), some (.inl x2), none, some (.inl x4), some (.inl x5), some (.inl x6), none] [.inl (nI 1), .inl (τ (30, 0) 25), .inr (.inr (30, 0))] τ))))) ∧ (y0 = nI 0 → Post x4 τ))) : ww_W g mX6_syntax E (ww_QI Post) 121 [some (.inr (.inr (30, 0))), some (.inl x1), some (.inl x2), none, some (.inl x4), some (.inl x5), some (.inl x6), none] [.inl y0] τ := by
  refine ww_istore 123 7 dX6_syntax_121 rfl (by decide) rfl [some (.inr (.inr (30, 0))), some (.inl x1), some (.inl x2), none, some (.inl x4), some (.inl x5), some (.inl x6), some (.inl y0)] rfl ?_
  refine ww_iload 125 7 dX6_syntax_123 rfl rfl ?_
  refine ww_if_ne 131 128 dX6_syntax_125 (by decide) rfl (fun c => ?_) (fun c => ?_)
  · replace h := h.1 c
    refine ww_iload_n 132 dX6_syntax_131 rfl 1 rfl rfl ?_
    refine ww_iload 134 5 dX6_syntax_132 rfl rfl ?_
    refine ww_bipush (v := nI 40) 136 dX6_syntax_134 (by decide) rfl ?_
    refine ww_ic_ne 143 139 dX6_syntax_136 (by decide) rfl (fun c => ?_) (fun c => ?_)
    · replace h := h.1 c
      refine ww_iload 145 5 dX6_syntax_143 rfl rfl ?_
      refine ww_bipush (v := nI 41) 147 dX6_syntax_145 (by decide) rfl ?_
      refine ww_ic_ne 154 150 dX6_syntax_147 (by decide) rfl (fun c => ?_) (fun c => ?_)
      · replace h := h.1 c
        refine ww_iconst (v := nI 0) 155 dX6_syntax_154 (by decide) rfl ?_
        refine ww_iadd 156 dX6_syntax_155 rfl ?_
        refine ww_istore_n 157 dX6_syntax_156 rfl 1 rfl (by decide) rfl [some (.inr (.inr (30, 0))), some (.inl (x1 + (nI 0))), some (.inl x2), none, some (.inl x4), some (.inl x5), some (.inl x6), some (.inl y0)] rfl ?_
        refine ww_aload_n 158 dX6_syntax_157 rfl 0 rfl rfl ?_
        refine ww_dup 159 dX6_syntax_158 rfl rfl ?_
        refine ww_getI 25 162 dX6_syntax_159 wf_X6_270 (ww_i1 30 (by decide)) rfl rfl rfl ?_
        refine ww_iload 164 5 dX6_syntax_162 rfl rfl ?_
        refine ww_bipush (v := nI 59) 166 dX6_syntax_164 (by decide) rfl ?_
        refine ww_ic_ne 173 169 dX6_syntax_166 (by decide) rfl (fun c => ?_) (fun c => ?_)
        · replace h := h.1 c
          refine ww_iconst (v := nI 0) 174 dX6_syntax_173 (by decide) rfl ?_
          exact ww_weak (ww_le_s (ww_le_s (ww_le_s (ww_le_n (ww_le_s (ww_le_s (ww_le_s (ww_le_n (ww_le_nil _))))))))) h
        · replace h := h.2 c
          refine ww_iconst (v := nI 1) 170 dX6_syntax_169 (by decide) rfl ?_
          refine ww_goto 174 dX6_syntax_170 (by decide) ?_
          exact ww_weak (ww_le_s (ww_le_s (ww_le_s (ww_le_n (ww_le_s (ww_le_s (ww_le_s (ww_le_n (ww_le_nil _))))))))) h
      · replace h := h.2 c
        refine ww_iconst (v := (-1 : Int32)) 151 dX6_syntax_150 (by decide) rfl ?_
        refine ww_goto 155 dX6_syntax_151 (by decide) ?_
        refine ww_iadd 156 dX6_syntax_155 rfl ?_
        refine ww_istore_n 157 dX6_syntax_156 rfl 1 rfl (by decide) rfl [some (.inr (.inr (30, 0))), some (.inl (x1 + (-1 : Int32))), some (.inl x2), none, some (.inl x4), some (.inl x5), some (.inl x6), some (.inl y0)] rfl ?_
        refine ww_aload_n 158 dX6_syntax_157 rfl 0 rfl rfl ?_
        refine ww_dup 159 dX6_syntax_158 rfl rfl ?_
        refine ww_getI 25 162 dX6_syntax_159 wf_X6_270 (ww_i1 30 (by decide)) rfl rfl rfl ?_
        refine ww_iload 164 5 dX6_syntax_162 rfl rfl ?_
        refine ww_bipush (v := nI 59) 166 dX6_syntax_164 (by decide) rfl ?_
        refine ww_ic_ne 173 169 dX6_syntax_166 (by decide) rfl (fun c => ?_) (fun c => ?_)
        · replace h := h.1 c
          refine ww_iconst (v := nI 0) 174 dX6_syntax_173 (by decide) rfl ?_
          exact ww_weak (ww_le_s (ww_le_s (ww_le_s (ww_le_n (ww_le_s (ww_le_s (ww_le_s (ww_le_n (ww_le_nil _))))))))) h
        · replace h := h.2 c
          refine ww_iconst (v := nI 1) 170 dX6_syntax_169 (by decide) rfl ?_
          refine ww_goto 174 dX6_syntax_170 (by decide) ?_
          exact ww_weak (ww_le_s (ww_le_s (ww_le_s (ww_le_n (ww_le_s (ww_le_s (ww_le_s (ww_le_n (ww_le_nil _))))))))) h
    · replace h := h.2 c
      refine ww_iconst (v := nI 1) 140 dX6_syntax_139 (by decide) rfl ?_
      refine ww_goto 155 dX6_syntax_140 (by decide) ?_
      refine ww_iadd 156 dX6_syntax_155 rfl ?_
      refine ww_istore_n 157 dX6_syntax_156 rfl 1 rfl (by decide) rfl [some (.inr (.inr (30, 0))), some (.inl (x1 + (nI 1))), some (.inl x2), none, some (.inl x4), some (.inl x5), some (.inl x6), some (.inl y0)] rfl ?_
      refine ww_aload_n 158 dX6_syntax_157 rfl 0 rfl rfl ?_
      refine ww_dup 159 dX6_syntax_158 rfl rfl ?_
      refine ww_getI 25 162 dX6_syntax_159 wf_X6_270 (ww_i1 30 (by decide)) rfl rfl rfl ?_
      refine ww_iload 164 5 dX6_syntax_162 rfl rfl ?_
      refine ww_bipush (v := nI 59) 166 dX6_syntax_164 (by decide) rfl ?_
      refine ww_ic_ne 173 169 dX6_syntax_166 (by decide) rfl (fun c => ?_) (fun c => ?_)
      · replace h := h.1 c
        refine ww_iconst (v := nI 0) 174 dX6_syntax_173 (by decide) rfl ?_
        exact ww_weak (ww_le_s (ww_le_s (ww_le_s (ww_le_n (ww_le_s (ww_le_s (ww_le_s (ww_le_n (ww_le_nil _))))))))) h
      · replace h := h.2 c
        refine ww_iconst (v := nI 1) 170 dX6_syntax_169 (by decide) rfl ?_
        refine ww_goto 174 dX6_syntax_170 (by decide) ?_
        exact ww_weak (ww_le_s (ww_le_s (ww_le_s (ww_le_n (ww_le_s (ww_le_s (ww_le_s (ww_le_n (ww_le_nil _))))))))) h
  · replace h := h.2 c
    refine ww_iload 130 4 dX6_syntax_128 rfl rfl ?_
    exact ww_iret dX6_syntax_130 rfl ⟨_, rfl, h⟩
theorem b_X6_syntax_174 {g : ww_G} {E : ww_E} {τ : ww_M} {x1 : Int32} {x2 : Int32} {x4 : Int32} {x5 : Int32} {x6 : Int32} {y0 : Int32} {y1 : Int32} {Post : Int32 → ww_M → Prop}  (h : (∀ τ1 : ww_M, τ1 = ww_up τ (30, 0) 25 (y1 + y0) → (¬ x6 = nI 0 → ww_W g mX6_syntax E (ww_QI Post) 213 [some (.inr (.inr (30, 0))), some (.inl x1), none, none, some (.inl x4), some (.inl x5), some (.inl x6), none] [.inl (nI 1)] τ1) ∧ (x6 = nI 0 → ((x5 = nI 41 → ww_W g mX6_syntax E (ww_QI Post) 213 [some (.inr (.inr (30, 0))), some (.inl x1), none, none, some (.inl x4), some (.inl x5), some (.inl x6), none] [.inl (nI 1)] τ1) ∧ (¬ x5 = nI 41 → ((x2 = nI 0 → ww_W g mX6_syntax E (ww_QI Post) 213 [some (.inr (.inr (30, 0))), some (.inl x1), none, none, some (.inl x4), some (.inl x5), some (.inl x6), none] [.inl (nI 0)] τ1) ∧ (¬ x2 = nI 0 → ((x5 = nI 40 → ww_W g mX6_syntax E (ww_QI Post) 213 [some (.inr (.inr (30, 0))), some (.inl x1), none, none, some (.inl x4), some (.inl x5), some (.inl x6), none] [.inl (nI 0)] τ1) ∧ (¬ x5 = nI 40 → ((x5 = nI 59 → ww_W g mX6_syntax E (ww_QI Post) 213 [some (.inr (.inr (30, 0))), some (.inl x1), none, none, some (.inl x4), some (.inl x5), some (.inl x6), none] [.inl (nI 0)] τ1) ∧ (¬ x5 = nI 59 → ww_W g mX6_syntax E (ww_QI Post) 213 [some (.inr (.inr (30, 0))), some (.inl x1), none, none, some (.inl x4), some (.inl x5), some (.inl x6), none] [.inl (nI 1)] τ1))))))))))) : ww_W g mX6_syntax E (ww_QI Post) 174 [some (.inr (.inr (30, 0))), some (.inl x1), some (.inl x2), none, some (.inl x4), some (.inl x5), some (.inl x6), none] [.inl y0, .inl y1, .inr (.inr (30, 0))] τ := by
  refine ww_iadd 175 dX6_syntax_174 rfl ?_
  refine ww_putI 25 178 dX6_syntax_175 wf_X6_270 fp_X6_25 (ww_i1 30 (by decide)) rfl rfl rfl (fun τ1 eτ1 => ?_)
  replace h := h τ1 eτ1
  refine ww_iload 180 6 dX6_syntax_178 rfl rfl ?_
  refine ww_if_ne 208 183 dX6_syntax_180 (by decide) rfl (fun c => ?_) (fun c => ?_)
  · replace h := h.1 c
    refine ww_iconst (v := nI 1) 209 dX6_syntax_208 (by decide) rfl ?_
    refine ww_goto 213 dX6_syntax_209 (by decide) ?_
    exact ww_weak (ww_le_s (ww_le_s (ww_le_n (ww_le_n (ww_le_s (ww_le_s (ww_le_s (ww_le_n (ww_le_nil _))))))))) h
  · replace h := h.2 c
    refine ww_iload 185 5 dX6_syntax_183 rfl rfl ?_
    refine ww_bipush (v := nI 41) 187 dX6_syntax_185 (by decide) rfl ?_
    refine ww_ic_eq 208 190 dX6_syntax_187 (by decide) rfl (fun c => ?_) (fun c => ?_)
    · replace h := h.1 c
      refine ww_iconst (v := nI 1) 209 dX6_syntax_208 (by decide) rfl ?_
      refine ww_goto 213 dX6_syntax_209 (by decide) ?_
      exact ww_weak (ww_le_s (ww_le_s (ww_le_n (ww_le_n (ww_le_s (ww_le_s (ww_le_s (ww_le_n (ww_le_nil _))))))))) h
    · replace h := h.2 c
      refine ww_iload_n 191 dX6_syntax_190 rfl 2 rfl rfl ?_
      refine ww_if_eq 212 194 dX6_syntax_191 (by decide) rfl (fun c => ?_) (fun c => ?_)
      · replace h := h.1 c
        refine ww_iconst (v := nI 0) 213 dX6_syntax_212 (by decide) rfl ?_
        exact ww_weak (ww_le_s (ww_le_s (ww_le_n (ww_le_n (ww_le_s (ww_le_s (ww_le_s (ww_le_n (ww_le_nil _))))))))) h
      · replace h := h.2 c
        refine ww_iload 196 5 dX6_syntax_194 rfl rfl ?_
        refine ww_bipush (v := nI 40) 198 dX6_syntax_196 (by decide) rfl ?_
        refine ww_ic_eq 212 201 dX6_syntax_198 (by decide) rfl (fun c => ?_) (fun c => ?_)
        · replace h := h.1 c
          refine ww_iconst (v := nI 0) 213 dX6_syntax_212 (by decide) rfl ?_
          exact ww_weak (ww_le_s (ww_le_s (ww_le_n (ww_le_n (ww_le_s (ww_le_s (ww_le_s (ww_le_n (ww_le_nil _))))))))) h
        · replace h := h.2 c
          refine ww_iload 203 5 dX6_syntax_201 rfl rfl ?_
          refine ww_bipush (v := nI 59) 205 dX6_syntax_203 (by decide) rfl ?_
          refine ww_ic_eq 212 208 dX6_syntax_205 (by decide) rfl (fun c => ?_) (fun c => ?_)
          · replace h := h.1 c
            refine ww_iconst (v := nI 0) 213 dX6_syntax_212 (by decide) rfl ?_
            exact ww_weak (ww_le_s (ww_le_s (ww_le_n (ww_le_n (ww_le_s (ww_le_s (ww_le_s (ww_le_n (ww_le_nil _))))))))) h
          · replace h := h.2 c
            refine ww_iconst (v := nI 1) 209 dX6_syntax_208 (by decide) rfl ?_
            refine ww_goto 213 dX6_syntax_209 (by decide) ?_
            exact ww_weak (ww_le_s (ww_le_s (ww_le_n (ww_le_n (ww_le_s (ww_le_s (ww_le_s (ww_le_n (ww_le_nil _))))))))) h
theorem b_X6_syntax_213 {g : ww_G} {E : ww_E} {τ : ww_M} {x1 : Int32} {x4 : Int32} {x5 : Int32} {x6 : Int32} {y0 : Int32} {Post : Int32 → ww_M → Prop}  (h : ((¬ x6 = nI 0 → ww_W g mX6_syntax E (ww_QI Post) 14 [some (.inr (.inr (30, 0))), some (.inl x1), some (.inl y0), some (.inl (nI 1)), some (.inl (x4 + nI 1)), none, none, none] [] τ) ∧ (x6 = nI 0 → ((¬ x5 = nI 41 → ww_W g mX6_syntax E (ww_QI Post) 14 [some (.inr (.inr (30, 0))), some (.inl x1), some (.inl y0), some (.inl (nI 0)), some (.inl (x4 + nI 1)), none, none, none] [] τ) ∧ (x5 = nI 41 → ww_W g mX6_syntax E (ww_QI Post) 14 [some (.inr (.inr (30, 0))), some (.inl x1), some (.inl y0), some (.inl (nI 1)), some (.inl (x4 + nI 1)), none, none, none] [] τ))))) : ww_W g mX6_syntax E (ww_QI Post) 213 [some (.inr (.inr (30, 0))), some (.inl x1), none, none, some (.inl x4), some (.inl x5), some (.inl x6), none] [.inl y0] τ := by
  refine ww_istore_n 214 dX6_syntax_213 rfl 2 rfl (by decide) rfl [some (.inr (.inr (30, 0))), some (.inl x1), some (.inl y0), none, some (.inl x4), some (.inl x5), some (.inl x6), none] rfl ?_
  refine ww_iload 216 6 dX6_syntax_214 rfl rfl ?_
  refine ww_if_ne 226 219 dX6_syntax_216 (by decide) rfl (fun c => ?_) (fun c => ?_)
  · replace h := h.1 c
    refine ww_iconst (v := nI 1) 227 dX6_syntax_226 (by decide) rfl ?_
    refine ww_goto 231 dX6_syntax_227 (by decide) ?_
    refine ww_istore_n 232 dX6_syntax_231 rfl 3 rfl (by decide) rfl [some (.inr (.inr (30, 0))), some (.inl x1), some (.inl y0), some (.inl (nI 1)), some (.inl x4), some (.inl x5), some (.inl x6), none] rfl ?_
    refine ww_iinc (nI 1) 235 4 dX6_syntax_232 (by decide) rfl rfl (by decide) rfl [some (.inr (.inr (30, 0))), some (.inl x1), some (.inl y0), some (.inl (nI 1)), some (.inl (x4 + nI 1)), some (.inl x5), some (.inl x6), none] rfl ?_
    refine ww_goto 14 dX6_syntax_235 (by decide) ?_
    exact ww_weak (ww_le_s (ww_le_s (ww_le_s (ww_le_s (ww_le_s (ww_le_n (ww_le_n (ww_le_n (ww_le_nil _))))))))) h
  · replace h := h.2 c
    refine ww_iload 221 5 dX6_syntax_219 rfl rfl ?_
    refine ww_bipush (v := nI 41) 223 dX6_syntax_221 (by decide) rfl ?_
    refine ww_ic_ne 230 226 dX6_syntax_223 (by decide) rfl (fun c => ?_) (fun c => ?_)
    · replace h := h.1 c
      refine ww_iconst (v := nI 0) 231 dX6_syntax_230 (by decide) rfl ?_
      refine ww_istore_n 232 dX6_syntax_231 rfl 3 rfl (by decide) rfl [some (.inr (.inr (30, 0))), some (.inl x1), some (.inl y0), some (.inl (nI 0)), some (.inl x4), some (.inl x5), some (.inl x6), none] rfl ?_
      refine ww_iinc (nI 1) 235 4 dX6_syntax_232 (by decide) rfl rfl (by decide) rfl [some (.inr (.inr (30, 0))), some (.inl x1), some (.inl y0), some (.inl (nI 0)), some (.inl (x4 + nI 1)), some (.inl x5), some (.inl x6), none] rfl ?_
      refine ww_goto 14 dX6_syntax_235 (by decide) ?_
      exact ww_weak (ww_le_s (ww_le_s (ww_le_s (ww_le_s (ww_le_s (ww_le_n (ww_le_n (ww_le_n (ww_le_nil _))))))))) h
    · replace h := h.2 c
      refine ww_iconst (v := nI 1) 227 dX6_syntax_226 (by decide) rfl ?_
      refine ww_goto 231 dX6_syntax_227 (by decide) ?_
      refine ww_istore_n 232 dX6_syntax_231 rfl 3 rfl (by decide) rfl [some (.inr (.inr (30, 0))), some (.inl x1), some (.inl y0), some (.inl (nI 1)), some (.inl x4), some (.inl x5), some (.inl x6), none] rfl ?_
      refine ww_iinc (nI 1) 235 4 dX6_syntax_232 (by decide) rfl rfl (by decide) rfl [some (.inr (.inr (30, 0))), some (.inl x1), some (.inl y0), some (.inl (nI 1)), some (.inl (x4 + nI 1)), some (.inl x5), some (.inl x6), none] rfl ?_
      refine ww_goto 14 dX6_syntax_235 (by decide) ?_
      exact ww_weak (ww_le_s (ww_le_s (ww_le_s (ww_le_s (ww_le_s (ww_le_n (ww_le_n (ww_le_n (ww_le_nil _))))))))) h
theorem b_X6_put {l : Launch} {g : ww_G} {τ : ww_M} {a1 : Int32} {Post : ww_M → Prop}  (h : ∀ E : ww_E, ((nI 61 ≤ τ (30, 0) 28 → Post τ) ∧ (¬ (nI 61 ≤ τ (30, 0) 28) → (∃ j1 : Nat, τ (30, 0) 28 = nI j1 ∧ j1 < 61 ∧ ∀ τ2 : ww_M, τ2 = ww_up τ (46, 0) j1 a1 → (∀ τ3 : ww_M, τ3 = ww_up τ2 (30, 0) 28 ((τ2 (30, 0) 28) + (nI 1)) → Post τ3))))) : ww_T l g mX6_put [.inr (.inr (30, 0)), .inl a1] τ (ww_QV Post) := by
  refine ww_enter (P := [some (.inr (.inr (30, 0))), some (.inl a1)]) (by decide) (Nat.le_of_ble_eq_true rfl) rfl (fun E => ?_)
  replace h := h E
  refine ww_aload_n 1 dX6_put_0 rfl 0 rfl rfl ?_
  refine ww_getI 28 4 dX6_put_1 wf_X6_282 (ww_i1 30 (by decide)) rfl rfl rfl ?_
  refine ww_bipush (v := nI 61) 6 dX6_put_4 (by decide) rfl ?_
  refine ww_ic_ge 29 9 dX6_put_6 (by decide) rfl (fun c => ?_) (fun c => ?_)
  · replace h := h.1 c
    exact ww_vret dX6_put_29 rfl ⟨rfl, h⟩
  · replace h := h.2 c
    refine ww_aload_n 10 dX6_put_9 rfl 0 rfl rfl ?_
    refine ww_getR 27 13 dX6_put_10 wf_X6_55 (ww_i1 30 (by decide)) rfl rfl rfl ?_
    refine ww_aload_n 14 dX6_put_13 rfl 0 rfl rfl ?_
    refine ww_getI 28 17 dX6_put_14 wf_X6_282 (ww_i1 30 (by decide)) rfl rfl rfl ?_
    refine ww_iload_n 18 dX6_put_17 rfl 1 rfl rfl ?_
    obtain ⟨j1, hij1, hj1, h⟩ := h
    refine ww_iast j1 19 dX6_put_18 (ww_i1 46 (by decide)) rfl (by decide) hij1 hj1 rfl (fun τ2 eτ2 => ?_)
    replace h := h τ2 eτ2
    refine ww_aload_n 20 dX6_put_19 rfl 0 rfl rfl ?_
    refine ww_dup 21 dX6_put_20 rfl rfl ?_
    refine ww_getI 28 24 dX6_put_21 wf_X6_282 (ww_i1 30 (by decide)) rfl rfl rfl ?_
    refine ww_iconst (v := nI 1) 25 dX6_put_24 (by decide) rfl ?_
    refine ww_iadd 26 dX6_put_25 rfl ?_
    refine ww_putI 28 29 dX6_put_26 wf_X6_282 fp_X6_28 (ww_i1 30 (by decide)) rfl rfl rfl (fun τ3 eτ3 => ?_)
    replace h := h τ3 eτ3
    exact ww_vret dX6_put_29 rfl ⟨rfl, h⟩
theorem b_X6_repeat {l : Launch} {g : ww_G} {τ : ww_M} {a1 : Int32} {a2 : Int32} {Post : ww_M → Prop}  (h : ∀ E : ww_E, ww_W g mX6_repeat E (ww_QV Post) 10 [some (.inr (.inr (30, 0))), some (.inl a1), some (.inl a2), some (.inl ((τ (30, 0) 28) - a1)), some (.inl (nI 0))] [] τ) : ww_T l g mX6_repeat [.inr (.inr (30, 0)), .inl a1, .inl a2] τ (ww_QV Post) := by
  refine ww_enter (P := [some (.inr (.inr (30, 0))), some (.inl a1), some (.inl a2), none, none]) (by decide) (Nat.le_of_ble_eq_true rfl) rfl (fun E => ?_)
  replace h := h E
  refine ww_aload_n 1 dX6_repeat_0 rfl 0 rfl rfl ?_
  refine ww_getI 28 4 dX6_repeat_1 wf_X6_282 (ww_i1 30 (by decide)) rfl rfl rfl ?_
  refine ww_iload_n 5 dX6_repeat_4 rfl 1 rfl rfl ?_
  refine ww_isub 6 dX6_repeat_5 rfl ?_
  refine ww_istore_n 7 dX6_repeat_6 rfl 3 rfl (by decide) rfl [some (.inr (.inr (30, 0))), some (.inl a1), some (.inl a2), some (.inl ((τ (30, 0) 28) - a1)), none] rfl ?_
  refine ww_iconst (v := nI 0) 8 dX6_repeat_7 (by decide) rfl ?_
  refine ww_istore 10 4 dX6_repeat_8 rfl (by decide) rfl [some (.inr (.inr (30, 0))), some (.inl a1), some (.inl a2), some (.inl ((τ (30, 0) 28) - a1)), some (.inl (nI 0))] rfl ?_
  exact h
theorem b_X6_repeat_10 {g : ww_G} {E : ww_E} {τ : ww_M} {x1 : Int32} {x2 : Int32} {x3 : Int32} {x4 : Int32} {Post : ww_M → Prop}  (h : ((x3 * (x2 - (nI 1)) ≤ x4 → Post τ) ∧ (¬ (x3 * (x2 - (nI 1)) ≤ x4) → (¬ x3 = nI 0 ∧ (∃ j2 : Nat, x1 + (x4 - x4 / x3 * x3) = nI j2 ∧ j2 < 61 ∧ (∃ Q3 : ww_M → Prop, ww_T E.2.1 g mX6_put [.inr (.inr (30, 0)), .inl (τ (46, 0) j2)] τ (ww_QV Q3) ∧ ∀ (τ4 : ww_M), Q3 τ4 → ww_W g mX6_repeat E (ww_QV Post) 10 [some (.inr (.inr (30, 0))), some (.inl x1), some (.inl x2), some (.inl x3), some (.inl (x4 + nI 1))] [] τ4)))))) : ww_W g mX6_repeat E (ww_QV Post) 10 [some (.inr (.inr (30, 0))), some (.inl x1), some (.inl x2), some (.inl x3), some (.inl x4)] [] τ := by
  refine ww_iload 12 4 dX6_repeat_10 rfl rfl ?_
  refine ww_iload_n 13 dX6_repeat_12 rfl 3 rfl rfl ?_
  refine ww_iload_n 14 dX6_repeat_13 rfl 2 rfl rfl ?_
  refine ww_iconst (v := nI 1) 15 dX6_repeat_14 (by decide) rfl ?_
  refine ww_isub 16 dX6_repeat_15 rfl ?_
  refine ww_imul 17 dX6_repeat_16 rfl ?_
  refine ww_ic_ge 41 20 dX6_repeat_17 (by decide) rfl (fun c => ?_) (fun c => ?_)
  · replace h := h.1 c
    exact ww_vret dX6_repeat_41 rfl ⟨rfl, h⟩
  · replace h := h.2 c
    refine ww_aload_n 21 dX6_repeat_20 rfl 0 rfl rfl ?_
    refine ww_aload_n 22 dX6_repeat_21 rfl 0 rfl rfl ?_
    refine ww_getR 27 25 dX6_repeat_22 wf_X6_55 (ww_i1 30 (by decide)) rfl rfl rfl ?_
    refine ww_iload_n 26 dX6_repeat_25 rfl 1 rfl rfl ?_
    refine ww_iload 28 4 dX6_repeat_26 rfl rfl ?_
    refine ww_iload_n 29 dX6_repeat_28 rfl 3 rfl rfl ?_
    obtain ⟨hz1, h⟩ := h
    refine ww_irem 30 dX6_repeat_29 rfl hz1 ?_
    refine ww_iadd 31 dX6_repeat_30 rfl ?_
    obtain ⟨j2, hij2, hj2, h⟩ := h
    refine ww_iald j2 32 dX6_repeat_31 (ww_i1 46 (by decide)) rfl (by decide) hij2 hj2 rfl ?_
    obtain ⟨Q3, hT, h⟩ := h
    refine ww_invVV (d' := mX6_put) [.inl (τ (46, 0) j2)] rfl 35 dX6_repeat_32 ⟨wi_X6, wc_X6_put, wp_X6_put, by decide, by decide⟩ wl_X6_285 wn_X6_put we_X6_put (ww_i1 30 (by decide)) rfl rfl (Nat.le_of_ble_eq_true rfl) rfl hT (fun τ4 hq => ?_)
    replace h := h τ4 hq
    refine ww_iinc (nI 1) 38 4 dX6_repeat_35 (by decide) rfl rfl (by decide) rfl [some (.inr (.inr (30, 0))), some (.inl x1), some (.inl x2), some (.inl x3), some (.inl (x4 + nI 1))] rfl ?_
    refine ww_goto 10 dX6_repeat_38 (by decide) ?_
    exact h
theorem b_X6_tellWord {l : Launch} {g : ww_G} {τ : ww_M}  {Post : ww_M → Prop}  (h : ∀ E : ww_E, (∀ τ1 : ww_M, τ1 = ww_up τ (30, 0) 28 (nI 0) → ww_W g mX6_tellWord E (ww_QV Post) 9 [some (.inr (.inr (30, 0))), some (.inl (nI 0)), some (.inl (nI 0)), none] [] τ1)) : ww_T l g mX6_tellWord [.inr (.inr (30, 0))] τ (ww_QV Post) := by
  refine ww_enter (P := [some (.inr (.inr (30, 0))), none, none, none]) (by decide) (Nat.le_of_ble_eq_true rfl) rfl (fun E => ?_)
  replace h := h E
  refine ww_iconst (v := nI 0) 1 dX6_tellWord_0 (by decide) rfl ?_
  refine ww_istore_n 2 dX6_tellWord_1 rfl 1 rfl (by decide) rfl [some (.inr (.inr (30, 0))), some (.inl (nI 0)), none, none] rfl ?_
  refine ww_iconst (v := nI 0) 3 dX6_tellWord_2 (by decide) rfl ?_
  refine ww_istore_n 4 dX6_tellWord_3 rfl 2 rfl (by decide) rfl [some (.inr (.inr (30, 0))), some (.inl (nI 0)), some (.inl (nI 0)), none] rfl ?_
  refine ww_aload_n 5 dX6_tellWord_4 rfl 0 rfl rfl ?_
  refine ww_iconst (v := nI 0) 6 dX6_tellWord_5 (by decide) rfl ?_
  refine ww_putI 28 9 dX6_tellWord_6 wf_X6_282 fp_X6_28 (ww_i1 30 (by decide)) rfl rfl rfl (fun τ1 eτ1 => ?_)
  replace h := h τ1 eτ1
  exact h
theorem b_X6_tellWord_9 {g : ww_G} {E : ww_E} {τ : ww_M} {x1 : Int32} {x2 : Int32} {Post : ww_M → Prop}  (h : (∃ j1 : Nat, τ (30, 0) 29 = nI j1 ∧ j1 < 100 ∧ (τ (44, 0) j1 = nI 59 → (∀ τ2 : ww_M, τ2 = ww_up τ (30, 0) 29 ((τ (30, 0) 29) + (nI 1)) → Post τ2)) ∧ (¬ τ (44, 0) j1 = nI 59 → (∃ j3 : Nat, τ (30, 0) 29 = nI j3 ∧ j3 < 100 ∧ (¬ τ (44, 0) j3 = nI 40 → (∃ Q4 : Int32 → ww_M → Prop, ww_T E.2.1 g mX6_isBlank [.inl (τ (44, 0) j3)] τ (ww_QI Q4) ∧ ∀ (v5 : Int32) (τ6 : ww_M), Q4 v5 τ6 → (v5 = nI 0 → (∃ Q7 : Int32 → ww_M → Prop, ww_T E.2.1 g mX6_in [.inr (.inl ((τ (44, 0) j3).toInt64)), .inr (.inl (lN 49)), .inr (.inl (lN 57))] τ6 (ww_QI Q7) ∧ ∀ (v8 : Int32) (τ9 : ww_M), Q7 v8 τ9 → (v8 = nI 0 → ((¬ τ (44, 0) j3 = nI 41 → (∃ Q10 : Int32 → ww_M → Prop, ww_T E.2.1 g mX6_letterBy [.inl (τ (44, 0) j3)] τ9 (ww_QI Q10) ∧ ∀ (v11 : Int32) (τ12 : ww_M), Q10 v11 τ12 → (∃ Q13 : ww_M → Prop, ww_T E.2.1 g mX6_put [.inr (.inr (30, 0)), .inl v11] τ12 (ww_QV Q13) ∧ ∀ (τ14 : ww_M), Q13 τ14 → (∀ τ15 : ww_M, τ15 = ww_up τ14 (30, 0) 29 ((τ14 (30, 0) 29) + (nI 1)) → ww_W g mX6_tellWord E (ww_QV Post) 9 [some (.inr (.inr (30, 0))), some (.inl x1), some (.inl (τ9 (30, 0) 28)), none] [] τ15)))) ∧ (τ (44, 0) j3 = nI 41 → (∃ j16 : Nat, x1 = nI j16 ∧ j16 < 5 ∧ (∀ τ17 : ww_M, τ17 = ww_up τ9 (30, 0) 29 ((τ9 (30, 0) 29) + (nI 1)) → ww_W g mX6_tellWord E (ww_QV Post) 9 [some (.inr (.inr (30, 0))), some (.inl (x1 + (-1 : Int32))), some (.inl (τ9 (45, 0) j16)), none] [] τ17))))) ∧ (¬ v8 = nI 0 → (∃ Q18 : ww_M → Prop, ww_T E.2.1 g mX6_repeat [.inr (.inr (30, 0)), .inl x2, .inl ((τ (44, 0) j3) - (nI 48))] τ9 (ww_QV Q18) ∧ ∀ (τ19 : ww_M), Q18 τ19 → (∀ τ20 : ww_M, τ20 = ww_up τ19 (30, 0) 29 ((τ19 (30, 0) 29) + (nI 1)) → ww_W g mX6_tellWord E (ww_QV Post) 9 [some (.inr (.inr (30, 0))), some (.inl x1), some (.inl x2), none] [] τ20))))) ∧ (¬ v5 = nI 0 → (∀ τ21 : ww_M, τ21 = ww_up τ6 (30, 0) 29 ((τ6 (30, 0) 29) + (nI 1)) → ww_W g mX6_tellWord E (ww_QV Post) 9 [some (.inr (.inr (30, 0))), some (.inl x1), some (.inl (τ6 (30, 0) 28)), none] [] τ21)))) ∧ (τ (44, 0) j3 = nI 40 → (∃ j22 : Nat, x1 + nI 1 = nI j22 ∧ j22 < 5 ∧ ∀ τ23 : ww_M, τ23 = ww_up τ (45, 0) j22 (τ (30, 0) 28) → (∀ τ24 : ww_M, τ24 = ww_up τ23 (30, 0) 29 ((τ23 (30, 0) 29) + (nI 1)) → ww_W g mX6_tellWord E (ww_QV Post) 9 [some (.inr (.inr (30, 0))), some (.inl (x1 + nI 1)), some (.inl x2), none] [] τ24))))))) : ww_W g mX6_tellWord E (ww_QV Post) 9 [some (.inr (.inr (30, 0))), some (.inl x1), some (.inl x2), none] [] τ := by
  refine ww_aload_n 10 dX6_tellWord_9 rfl 0 rfl rfl ?_
  refine ww_getR 23 13 dX6_tellWord_10 wf_X6_49 (ww_i1 30 (by decide)) rfl rfl rfl ?_
  refine ww_aload_n 14 dX6_tellWord_13 rfl 0 rfl rfl ?_
  refine ww_getI 29 17 dX6_tellWord_14 wf_X6_288 (ww_i1 30 (by decide)) rfl rfl rfl ?_
  obtain ⟨j1, hij1, hj1, h⟩ := h
  refine ww_iald j1 18 dX6_tellWord_17 (ww_i1 44 (by decide)) rfl (by decide) hij1 hj1 rfl ?_
  refine ww_bipush (v := nI 59) 20 dX6_tellWord_18 (by decide) rfl ?_
  refine ww_ic_eq 141 23 dX6_tellWord_20 (by decide) rfl (fun c => ?_) (fun c => ?_)
  · replace h := h.1 c
    refine ww_aload_n 142 dX6_tellWord_141 rfl 0 rfl rfl ?_
    refine ww_dup 143 dX6_tellWord_142 rfl rfl ?_
    refine ww_getI 29 146 dX6_tellWord_143 wf_X6_288 (ww_i1 30 (by decide)) rfl rfl rfl ?_
    refine ww_iconst (v := nI 1) 147 dX6_tellWord_146 (by decide) rfl ?_
    refine ww_iadd 148 dX6_tellWord_147 rfl ?_
    refine ww_putI 29 151 dX6_tellWord_148 wf_X6_288 fp_X6_29 (ww_i1 30 (by decide)) rfl rfl rfl (fun τ2 eτ2 => ?_)
    replace h := h τ2 eτ2
    exact ww_vret dX6_tellWord_151 rfl ⟨rfl, h⟩
  · replace h := h.2 c
    refine ww_aload_n 24 dX6_tellWord_23 rfl 0 rfl rfl ?_
    refine ww_getR 23 27 dX6_tellWord_24 wf_X6_49 (ww_i1 30 (by decide)) rfl rfl rfl ?_
    refine ww_aload_n 28 dX6_tellWord_27 rfl 0 rfl rfl ?_
    refine ww_getI 29 31 dX6_tellWord_28 wf_X6_288 (ww_i1 30 (by decide)) rfl rfl rfl ?_
    obtain ⟨j3, hij3, hj3, h⟩ := h
    refine ww_iald j3 32 dX6_tellWord_31 (ww_i1 44 (by decide)) rfl (by decide) hij3 hj3 rfl ?_
    refine ww_istore_n 33 dX6_tellWord_32 rfl 3 rfl (by decide) rfl [some (.inr (.inr (30, 0))), some (.inl x1), some (.inl x2), some (.inl (τ (44, 0) j3))] rfl ?_
    refine ww_iload_n 34 dX6_tellWord_33 rfl 3 rfl rfl ?_
    refine ww_bipush (v := nI 40) 36 dX6_tellWord_34 (by decide) rfl ?_
    refine ww_ic_ne 55 39 dX6_tellWord_36 (by decide) rfl (fun c => ?_) (fun c => ?_)
    · replace h := h.1 c
      refine ww_iload_n 56 dX6_tellWord_55 rfl 3 rfl rfl ?_
      obtain ⟨Q4, hT, h⟩ := h
      refine ww_invSI (d' := mX6_isBlank) [.inl (τ (44, 0) j3)] rfl 59 dX6_tellWord_56 ⟨wi_X6, wc_X6_isBlank, wp_X6_isBlank, by decide, by decide⟩ (Or.inl wl_X6_276) wn_X6_isBlank (Nat.le_of_ble_eq_true rfl) rfl hT (fun v5 τ6 hq => ?_)
      replace h := h v5 τ6 hq
      refine ww_if_eq 70 62 dX6_tellWord_59 (by decide) rfl (fun c => ?_) (fun c => ?_)
      · replace h := h.1 c
        refine ww_iload_n 71 dX6_tellWord_70 rfl 3 rfl rfl ?_
        refine ww_i2l 72 dX6_tellWord_71 rfl ?_
        refine ww_ldc2 75 dX6_tellWord_72 rfl wk_X6_266 ?_
        refine ww_ldc2 78 dX6_tellWord_75 rfl wk_X6_268 ?_
        obtain ⟨Q7, hT, h⟩ := h
        refine ww_invSI (d' := mX6_in) [.inr (.inl ((τ (44, 0) j3).toInt64)), .inr (.inl (lN 49)), .inr (.inl (lN 57))] rfl 81 dX6_tellWord_78 ⟨wi_X6, wc_X6_in, wp_X6_in, by decide, by decide⟩ (Or.inl wl_X6_66) wn_X6_in (Nat.le_of_ble_eq_true rfl) rfl hT (fun v8 τ9 hq => ?_)
        replace h := h v8 τ9 hq
        refine ww_if_eq 96 84 dX6_tellWord_81 (by decide) rfl (fun c => ?_) (fun c => ?_)
        · replace h := h.1 c
          refine ww_iload_n 97 dX6_tellWord_96 rfl 3 rfl rfl ?_
          refine ww_bipush (v := nI 41) 99 dX6_tellWord_97 (by decide) rfl ?_
          refine ww_ic_ne 115 102 dX6_tellWord_99 (by decide) rfl (fun c => ?_) (fun c => ?_)
          · replace h := h.1 c
            refine ww_aload_n 116 dX6_tellWord_115 rfl 0 rfl rfl ?_
            refine ww_getI 28 119 dX6_tellWord_116 wf_X6_282 (ww_i1 30 (by decide)) rfl rfl rfl ?_
            refine ww_istore_n 120 dX6_tellWord_119 rfl 2 rfl (by decide) rfl [some (.inr (.inr (30, 0))), some (.inl x1), some (.inl (τ9 (30, 0) 28)), some (.inl (τ (44, 0) j3))] rfl ?_
            refine ww_aload_n 121 dX6_tellWord_120 rfl 0 rfl rfl ?_
            refine ww_iload_n 122 dX6_tellWord_121 rfl 3 rfl rfl ?_
            obtain ⟨Q10, hT, h⟩ := h
            refine ww_invSI (d' := mX6_letterBy) [.inl (τ (44, 0) j3)] rfl 125 dX6_tellWord_122 ⟨wi_X6, wc_X6_letterBy, wp_X6_letterBy, by decide, by decide⟩ (Or.inl wl_X6_273) wn_X6_letterBy (Nat.le_of_ble_eq_true rfl) rfl hT (fun v11 τ12 hq => ?_)
            replace h := h v11 τ12 hq
            obtain ⟨Q13, hT, h⟩ := h
            refine ww_invVV (d' := mX6_put) [.inl v11] rfl 128 dX6_tellWord_125 ⟨wi_X6, wc_X6_put, wp_X6_put, by decide, by decide⟩ wl_X6_285 wn_X6_put we_X6_put (ww_i1 30 (by decide)) rfl rfl (Nat.le_of_ble_eq_true rfl) rfl hT (fun τ14 hq => ?_)
            replace h := h τ14 hq
            refine ww_aload_n 129 dX6_tellWord_128 rfl 0 rfl rfl ?_
            refine ww_dup 130 dX6_tellWord_129 rfl rfl ?_
            refine ww_getI 29 133 dX6_tellWord_130 wf_X6_288 (ww_i1 30 (by decide)) rfl rfl rfl ?_
            refine ww_iconst (v := nI 1) 134 dX6_tellWord_133 (by decide) rfl ?_
            refine ww_iadd 135 dX6_tellWord_134 rfl ?_
            refine ww_putI 29 138 dX6_tellWord_135 wf_X6_288 fp_X6_29 (ww_i1 30 (by decide)) rfl rfl rfl (fun τ15 eτ15 => ?_)
            replace h := h τ15 eτ15
            refine ww_goto 9 dX6_tellWord_138 (by decide) ?_
            exact ww_weak (ww_le_s (ww_le_s (ww_le_s (ww_le_n (ww_le_nil _))))) h
          · replace h := h.2 c
            refine ww_aload_n 103 dX6_tellWord_102 rfl 0 rfl rfl ?_
            refine ww_getR 26 106 dX6_tellWord_103 wf_X6_52 (ww_i1 30 (by decide)) rfl rfl rfl ?_
            refine ww_iload_n 107 dX6_tellWord_106 rfl 1 rfl rfl ?_
            obtain ⟨j16, hij16, hj16, h⟩ := h
            refine ww_iald j16 108 dX6_tellWord_107 (ww_i1 45 (by decide)) rfl (by decide) hij16 hj16 rfl ?_
            refine ww_istore_n 109 dX6_tellWord_108 rfl 2 rfl (by decide) rfl [some (.inr (.inr (30, 0))), some (.inl x1), some (.inl (τ9 (45, 0) j16)), some (.inl (τ (44, 0) j3))] rfl ?_
            refine ww_iinc (-1 : Int32) 112 1 dX6_tellWord_109 (by decide) rfl rfl (by decide) rfl [some (.inr (.inr (30, 0))), some (.inl (x1 + (-1 : Int32))), some (.inl (τ9 (45, 0) j16)), some (.inl (τ (44, 0) j3))] rfl ?_
            refine ww_goto 128 dX6_tellWord_112 (by decide) ?_
            refine ww_aload_n 129 dX6_tellWord_128 rfl 0 rfl rfl ?_
            refine ww_dup 130 dX6_tellWord_129 rfl rfl ?_
            refine ww_getI 29 133 dX6_tellWord_130 wf_X6_288 (ww_i1 30 (by decide)) rfl rfl rfl ?_
            refine ww_iconst (v := nI 1) 134 dX6_tellWord_133 (by decide) rfl ?_
            refine ww_iadd 135 dX6_tellWord_134 rfl ?_
            refine ww_putI 29 138 dX6_tellWord_135 wf_X6_288 fp_X6_29 (ww_i1 30 (by decide)) rfl rfl rfl (fun τ17 eτ17 => ?_)
            replace h := h τ17 eτ17
            refine ww_goto 9 dX6_tellWord_138 (by decide) ?_
            exact ww_weak (ww_le_s (ww_le_s (ww_le_s (ww_le_n (ww_le_nil _))))) h
        · replace h := h.2 c
          refine ww_aload_n 85 dX6_tellWord_84 rfl 0 rfl rfl ?_
          refine ww_iload_n 86 dX6_tellWord_85 rfl 2 rfl rfl ?_
          refine ww_iload_n 87 dX6_tellWord_86 rfl 3 rfl rfl ?_
          refine ww_bipush (v := nI 48) 89 dX6_tellWord_87 (by decide) rfl ?_
          refine ww_isub 90 dX6_tellWord_89 rfl ?_
          obtain ⟨Q18, hT, h⟩ := h
          refine ww_invVV (d' := mX6_repeat) [.inl x2, .inl ((τ (44, 0) j3) - (nI 48))] rfl 93 dX6_tellWord_90 ⟨wi_X6, wc_X6_repeat, wp_X6_repeat, by decide, by decide⟩ wl_X6_291 wn_X6_repeat we_X6_repeat (ww_i1 30 (by decide)) rfl rfl (Nat.le_of_ble_eq_true rfl) rfl hT (fun τ19 hq => ?_)
          replace h := h τ19 hq
          refine ww_goto 128 dX6_tellWord_93 (by decide) ?_
          refine ww_aload_n 129 dX6_tellWord_128 rfl 0 rfl rfl ?_
          refine ww_dup 130 dX6_tellWord_129 rfl rfl ?_
          refine ww_getI 29 133 dX6_tellWord_130 wf_X6_288 (ww_i1 30 (by decide)) rfl rfl rfl ?_
          refine ww_iconst (v := nI 1) 134 dX6_tellWord_133 (by decide) rfl ?_
          refine ww_iadd 135 dX6_tellWord_134 rfl ?_
          refine ww_putI 29 138 dX6_tellWord_135 wf_X6_288 fp_X6_29 (ww_i1 30 (by decide)) rfl rfl rfl (fun τ20 eτ20 => ?_)
          replace h := h τ20 eτ20
          refine ww_goto 9 dX6_tellWord_138 (by decide) ?_
          exact ww_weak (ww_le_s (ww_le_s (ww_le_s (ww_le_n (ww_le_nil _))))) h
      · replace h := h.2 c
        refine ww_aload_n 63 dX6_tellWord_62 rfl 0 rfl rfl ?_
        refine ww_getI 28 66 dX6_tellWord_63 wf_X6_282 (ww_i1 30 (by decide)) rfl rfl rfl ?_
        refine ww_istore_n 67 dX6_tellWord_66 rfl 2 rfl (by decide) rfl [some (.inr (.inr (30, 0))), some (.inl x1), some (.inl (τ6 (30, 0) 28)), some (.inl (τ (44, 0) j3))] rfl ?_
        refine ww_goto 128 dX6_tellWord_67 (by decide) ?_
        refine ww_aload_n 129 dX6_tellWord_128 rfl 0 rfl rfl ?_
        refine ww_dup 130 dX6_tellWord_129 rfl rfl ?_
        refine ww_getI 29 133 dX6_tellWord_130 wf_X6_288 (ww_i1 30 (by decide)) rfl rfl rfl ?_
        refine ww_iconst (v := nI 1) 134 dX6_tellWord_133 (by decide) rfl ?_
        refine ww_iadd 135 dX6_tellWord_134 rfl ?_
        refine ww_putI 29 138 dX6_tellWord_135 wf_X6_288 fp_X6_29 (ww_i1 30 (by decide)) rfl rfl rfl (fun τ21 eτ21 => ?_)
        replace h := h τ21 eτ21
        refine ww_goto 9 dX6_tellWord_138 (by decide) ?_
        exact ww_weak (ww_le_s (ww_le_s (ww_le_s (ww_le_n (ww_le_nil _))))) h
    · replace h := h.2 c
      refine ww_iinc (nI 1) 42 1 dX6_tellWord_39 (by decide) rfl rfl (by decide) rfl [some (.inr (.inr (30, 0))), some (.inl (x1 + nI 1)), some (.inl x2), some (.inl (τ (44, 0) j3))] rfl ?_
      refine ww_aload_n 43 dX6_tellWord_42 rfl 0 rfl rfl ?_
      refine ww_getR 26 46 dX6_tellWord_43 wf_X6_52 (ww_i1 30 (by decide)) rfl rfl rfl ?_
      refine ww_iload_n 47 dX6_tellWord_46 rfl 1 rfl rfl ?_
      refine ww_aload_n 48 dX6_tellWord_47 rfl 0 rfl rfl ?_
      refine ww_getI 28 51 dX6_tellWord_48 wf_X6_282 (ww_i1 30 (by decide)) rfl rfl rfl ?_
      obtain ⟨j22, hij22, hj22, h⟩ := h
      refine ww_iast j22 52 dX6_tellWord_51 (ww_i1 45 (by decide)) rfl (by decide) hij22 hj22 rfl (fun τ23 eτ23 => ?_)
      replace h := h τ23 eτ23
      refine ww_goto 128 dX6_tellWord_52 (by decide) ?_
      refine ww_aload_n 129 dX6_tellWord_128 rfl 0 rfl rfl ?_
      refine ww_dup 130 dX6_tellWord_129 rfl rfl ?_
      refine ww_getI 29 133 dX6_tellWord_130 wf_X6_288 (ww_i1 30 (by decide)) rfl rfl rfl ?_
      refine ww_iconst (v := nI 1) 134 dX6_tellWord_133 (by decide) rfl ?_
      refine ww_iadd 135 dX6_tellWord_134 rfl ?_
      refine ww_putI 29 138 dX6_tellWord_135 wf_X6_288 fp_X6_29 (ww_i1 30 (by decide)) rfl rfl rfl (fun τ24 eτ24 => ?_)
      replace h := h τ24 eτ24
      refine ww_goto 9 dX6_tellWord_138 (by decide) ?_
      exact ww_weak (ww_le_s (ww_le_s (ww_le_s (ww_le_n (ww_le_nil _))))) h
theorem b_X6_skip {l : Launch} {g : ww_G} {τ : ww_M}  {Post : ww_M → Prop}  (h : ∀ E : ww_E, ww_W g mX6_skip E (ww_QV Post) 0 [some (.inr (.inr (30, 0)))] [] τ) : ww_T l g mX6_skip [.inr (.inr (30, 0))] τ (ww_QV Post) := by
  refine ww_enter (P := [some (.inr (.inr (30, 0)))]) (by decide) (Nat.le_of_ble_eq_true rfl) rfl (fun E => ?_)
  replace h := h E
  exact h
theorem b_X6_skip_0 {g : ww_G} {E : ww_E} {τ : ww_M}  {Post : ww_M → Prop}  (h : ((τ (30, 0) 24 ≤ τ (30, 0) 29 → Post τ) ∧ (¬ (τ (30, 0) 24 ≤ τ (30, 0) 29) → (∃ j1 : Nat, τ (30, 0) 29 = nI j1 ∧ j1 < 100 ∧ (∃ Q2 : Int32 → ww_M → Prop, ww_T E.2.1 g mX6_isBlank [.inl (τ (44, 0) j1)] τ (ww_QI Q2) ∧ ∀ (v3 : Int32) (τ4 : ww_M), Q2 v3 τ4 → (v3 = nI 0 → Post τ4) ∧ (¬ v3 = nI 0 → (∀ τ5 : ww_M, τ5 = ww_up τ4 (30, 0) 29 ((τ4 (30, 0) 29) + (nI 1)) → ww_W g mX6_skip E (ww_QV Post) 0 [some (.inr (.inr (30, 0)))] [] τ5))))))) : ww_W g mX6_skip E (ww_QV Post) 0 [some (.inr (.inr (30, 0)))] [] τ := by
  refine ww_aload_n 1 dX6_skip_0 rfl 0 rfl rfl ?_
  refine ww_getI 29 4 dX6_skip_1 wf_X6_288 (ww_i1 30 (by decide)) rfl rfl rfl ?_
  refine ww_aload_n 5 dX6_skip_4 rfl 0 rfl rfl ?_
  refine ww_getI 24 8 dX6_skip_5 wf_X6_255 (ww_i1 30 (by decide)) rfl rfl rfl ?_
  refine ww_ic_ge 39 11 dX6_skip_8 (by decide) rfl (fun c => ?_) (fun c => ?_)
  · replace h := h.1 c
    exact ww_vret dX6_skip_39 rfl ⟨rfl, h⟩
  · replace h := h.2 c
    refine ww_aload_n 12 dX6_skip_11 rfl 0 rfl rfl ?_
    refine ww_getR 23 15 dX6_skip_12 wf_X6_49 (ww_i1 30 (by decide)) rfl rfl rfl ?_
    refine ww_aload_n 16 dX6_skip_15 rfl 0 rfl rfl ?_
    refine ww_getI 29 19 dX6_skip_16 wf_X6_288 (ww_i1 30 (by decide)) rfl rfl rfl ?_
    obtain ⟨j1, hij1, hj1, h⟩ := h
    refine ww_iald j1 20 dX6_skip_19 (ww_i1 44 (by decide)) rfl (by decide) hij1 hj1 rfl ?_
    obtain ⟨Q2, hT, h⟩ := h
    refine ww_invSI (d' := mX6_isBlank) [.inl (τ (44, 0) j1)] rfl 23 dX6_skip_20 ⟨wi_X6, wc_X6_isBlank, wp_X6_isBlank, by decide, by decide⟩ (Or.inl wl_X6_276) wn_X6_isBlank (Nat.le_of_ble_eq_true rfl) rfl hT (fun v3 τ4 hq => ?_)
    replace h := h v3 τ4 hq
    refine ww_if_eq 39 26 dX6_skip_23 (by decide) rfl (fun c => ?_) (fun c => ?_)
    · replace h := h.1 c
      exact ww_vret dX6_skip_39 rfl ⟨rfl, h⟩
    · replace h := h.2 c
      refine ww_aload_n 27 dX6_skip_26 rfl 0 rfl rfl ?_
      refine ww_dup 28 dX6_skip_27 rfl rfl ?_
      refine ww_getI 29 31 dX6_skip_28 wf_X6_288 (ww_i1 30 (by decide)) rfl rfl rfl ?_
      refine ww_iconst (v := nI 1) 32 dX6_skip_31 (by decide) rfl ?_
      refine ww_iadd 33 dX6_skip_32 rfl ?_
      refine ww_putI 29 36 dX6_skip_33 wf_X6_288 fp_X6_29 (ww_i1 30 (by decide)) rfl rfl rfl (fun τ5 eτ5 => ?_)
      replace h := h τ5 eτ5
      refine ww_goto 0 dX6_skip_36 (by decide) ?_
      exact h
theorem b_X6_tellWords {l : Launch} {g : ww_G} {τ : ww_M} {a1 : Int32} {a2 : Int32} {Post : Int32 → ww_M → Prop}  (h : ∀ E : ww_E, (∃ Q1 : Int32 → ww_M → Prop, ww_T E.2.1 g mX6_syntax [.inr (.inr (30, 0))] τ (ww_QI Q1) ∧ ∀ (v2 : Int32) (τ3 : ww_M), Q1 v2 τ3 → (v2 = (-1 : Int32) → (∀ τ4 : ww_M, τ4 = ww_up τ3 (30, 0) 29 (nI 0) → ww_W g mX6_tellWords E (ww_QI Post) 23 [some (.inr (.inr (30, 0))), some (.inl a1), some (.inl a2), none, some (.inl (nI 0)), none, none] [] τ4)) ∧ (¬ v2 = (-1 : Int32) → Post ((-10 : Int32) - v2) τ3))) : ww_T l g mX6_tellWords [.inr (.inr (30, 0)), .inl a1, .inl a2] τ (ww_QI Post) := by
  refine ww_enter (P := [some (.inr (.inr (30, 0))), some (.inl a1), some (.inl a2), none, none, none, none]) (by decide) (Nat.le_of_ble_eq_true rfl) rfl (fun E => ?_)
  replace h := h E
  refine ww_aload_n 1 dX6_tellWords_0 rfl 0 rfl rfl ?_
  obtain ⟨Q1, hT, h⟩ := h
  refine ww_invVI (d' := mX6_syntax) [] rfl 4 dX6_tellWords_1 ⟨wi_X6, wc_X6_syntax, wp_X6_syntax, by decide, by decide⟩ wl_X6_294 wn_X6_syntax we_X6_syntax (ww_i1 30 (by decide)) rfl rfl (Nat.le_of_ble_eq_true rfl) rfl hT (fun v2 τ3 hq => ?_)
  replace h := h v2 τ3 hq
  refine ww_istore_n 5 dX6_tellWords_4 rfl 3 rfl (by decide) rfl [some (.inr (.inr (30, 0))), some (.inl a1), some (.inl a2), some (.inl v2), none, none, none] rfl ?_
  refine ww_iload_n 6 dX6_tellWords_5 rfl 3 rfl rfl ?_
  refine ww_iconst (v := (-1 : Int32)) 7 dX6_tellWords_6 (by decide) rfl ?_
  refine ww_ic_eq 15 10 dX6_tellWords_7 (by decide) rfl (fun c => ?_) (fun c => ?_)
  · replace h := h.1 c
    refine ww_aload_n 16 dX6_tellWords_15 rfl 0 rfl rfl ?_
    refine ww_iconst (v := nI 0) 17 dX6_tellWords_16 (by decide) rfl ?_
    refine ww_putI 29 20 dX6_tellWords_17 wf_X6_288 fp_X6_29 (ww_i1 30 (by decide)) rfl rfl rfl (fun τ4 eτ4 => ?_)
    replace h := h τ4 eτ4
    refine ww_iconst (v := nI 0) 21 dX6_tellWords_20 (by decide) rfl ?_
    refine ww_istore 23 4 dX6_tellWords_21 rfl (by decide) rfl [some (.inr (.inr (30, 0))), some (.inl a1), some (.inl a2), some (.inl v2), some (.inl (nI 0)), none, none] rfl ?_
    exact ww_weak (ww_le_s (ww_le_s (ww_le_s (ww_le_n (ww_le_s (ww_le_n (ww_le_n (ww_le_nil _)))))))) h
  · replace h := h.2 c
    refine ww_bipush (v := (-10 : Int32)) 12 dX6_tellWords_10 (by decide) rfl ?_
    refine ww_iload_n 13 dX6_tellWords_12 rfl 3 rfl rfl ?_
    refine ww_isub 14 dX6_tellWords_13 rfl ?_
    exact ww_iret dX6_tellWords_14 rfl ⟨_, rfl, h⟩
theorem b_X6_tellWords_23 {g : ww_G} {E : ww_E} {τ : ww_M} {x1 : Int32} {x2 : Int32} {x4 : Int32} {Post : Int32 → ww_M → Prop}  (h : ((τ (30, 0) 25 ≤ x4 → Post (-1 : Int32) τ) ∧ (¬ (τ (30, 0) 25 ≤ x4) → (∃ Q1 : ww_M → Prop, ww_T E.2.1 g mX6_skip [.inr (.inr (30, 0))] τ (ww_QV Q1) ∧ ∀ (τ2 : ww_M), Q1 τ2 → (∃ Q3 : ww_M → Prop, ww_T E.2.1 g mX6_tellWord [.inr (.inr (30, 0))] τ2 (ww_QV Q3) ∧ ∀ (τ4 : ww_M), Q3 τ4 → (∀ τ5 : ww_M, τ5 = ww_up τ4 (30, 0) 12 (nI 0) → ww_W g mX6_tellWords E (ww_QI Post) 54 [some (.inr (.inr (30, 0))), some (.inl x1), some (.inl x2), none, some (.inl x4), some (.inl (τ2 (30, 0) 29)), some (.inl (nI 0))] [] τ5)))))) : ww_W g mX6_tellWords E (ww_QI Post) 23 [some (.inr (.inr (30, 0))), some (.inl x1), some (.inl x2), none, some (.inl x4), none, none] [] τ := by
  refine ww_iload 25 4 dX6_tellWords_23 rfl rfl ?_
  refine ww_aload_n 26 dX6_tellWords_25 rfl 0 rfl rfl ?_
  refine ww_getI 25 29 dX6_tellWords_26 wf_X6_270 (ww_i1 30 (by decide)) rfl rfl rfl ?_
  refine ww_ic_ge 183 32 dX6_tellWords_29 (by decide) rfl (fun c => ?_) (fun c => ?_)
  · replace h := h.1 c
    refine ww_iconst (v := (-1 : Int32)) 184 dX6_tellWords_183 (by decide) rfl ?_
    exact ww_iret dX6_tellWords_184 rfl ⟨_, rfl, h⟩
  · replace h := h.2 c
    refine ww_aload_n 33 dX6_tellWords_32 rfl 0 rfl rfl ?_
    obtain ⟨Q1, hT, h⟩ := h
    refine ww_invVV (d' := mX6_skip) [] rfl 36 dX6_tellWords_33 ⟨wi_X6, wc_X6_skip, wp_X6_skip, by decide, by decide⟩ wl_X6_297 wn_X6_skip we_X6_skip (ww_i1 30 (by decide)) rfl rfl (Nat.le_of_ble_eq_true rfl) rfl hT (fun τ2 hq => ?_)
    replace h := h τ2 hq
    refine ww_aload_n 37 dX6_tellWords_36 rfl 0 rfl rfl ?_
    refine ww_getI 29 40 dX6_tellWords_37 wf_X6_288 (ww_i1 30 (by decide)) rfl rfl rfl ?_
    refine ww_istore 42 5 dX6_tellWords_40 rfl (by decide) rfl [some (.inr (.inr (30, 0))), some (.inl x1), some (.inl x2), none, some (.inl x4), some (.inl (τ2 (30, 0) 29)), none] rfl ?_
    refine ww_aload_n 43 dX6_tellWords_42 rfl 0 rfl rfl ?_
    obtain ⟨Q3, hT, h⟩ := h
    refine ww_invVV (d' := mX6_tellWord) [] rfl 46 dX6_tellWords_43 ⟨wi_X6, wc_X6_tellWord, wp_X6_tellWord, by decide, by decide⟩ wl_X6_300 wn_X6_tellWord we_X6_tellWord (ww_i1 30 (by decide)) rfl rfl (Nat.le_of_ble_eq_true rfl) rfl hT (fun τ4 hq => ?_)
    replace h := h τ4 hq
    refine ww_aload_n 47 dX6_tellWords_46 rfl 0 rfl rfl ?_
    refine ww_iconst (v := nI 0) 48 dX6_tellWords_47 (by decide) rfl ?_
    refine ww_putI 12 51 dX6_tellWords_48 wf_X6_72 fp_X6_12 (ww_i1 30 (by decide)) rfl rfl rfl (fun τ5 eτ5 => ?_)
    replace h := h τ5 eτ5
    refine ww_iconst (v := nI 0) 52 dX6_tellWords_51 (by decide) rfl ?_
    refine ww_istore 54 6 dX6_tellWords_52 rfl (by decide) rfl [some (.inr (.inr (30, 0))), some (.inl x1), some (.inl x2), none, some (.inl x4), some (.inl (τ2 (30, 0) 29)), some (.inl (nI 0))] rfl ?_
    exact h
theorem b_X6_tellWords_54 {g : ww_G} {E : ww_E} {τ : ww_M} {x1 : Int32} {x2 : Int32} {x4 : Int32} {x5 : Int32} {x6 : Int32} {Post : Int32 → ww_M → Prop}  (h : ((τ (30, 0) 28 ≤ x6 → ((x2 = nI 0 → ww_W g mX6_tellWords E (ww_QI Post) 88 [some (.inr (.inr (30, 0))), some (.inl x1), some (.inl x2), none, some (.inl x4), some (.inl x5), none] [] τ) ∧ (¬ x2 = nI 0 → (∃ Q1 : ww_M → Prop, ww_T E.2.1 g mX6_ringHand [.inr (.inr (30, 0))] τ (ww_QV Q1) ∧ ∀ (τ2 : ww_M), Q1 τ2 → ww_W g mX6_tellWords E (ww_QI Post) 88 [some (.inr (.inr (30, 0))), some (.inl x1), some (.inl x2), none, some (.inl x4), some (.inl x5), none] [] τ2)))) ∧ (¬ (τ (30, 0) 28 ≤ x6) → (∃ j3 : Nat, x6 = nI j3 ∧ j3 < 61 ∧ (∃ Q4 : ww_M → Prop, ww_T E.2.1 g mX6_push [.inr (.inr (30, 0)), .inl (τ (46, 0) j3)] τ (ww_QV Q4) ∧ ∀ (τ5 : ww_M), Q4 τ5 → ww_W g mX6_tellWords E (ww_QI Post) 54 [some (.inr (.inr (30, 0))), some (.inl x1), some (.inl x2), none, some (.inl x4), some (.inl x5), some (.inl (x6 + nI 1))] [] τ5))))) : ww_W g mX6_tellWords E (ww_QI Post) 54 [some (.inr (.inr (30, 0))), some (.inl x1), some (.inl x2), none, some (.inl x4), some (.inl x5), some (.inl x6)] [] τ := by
  refine ww_iload 56 6 dX6_tellWords_54 rfl rfl ?_
  refine ww_aload_n 57 dX6_tellWords_56 rfl 0 rfl rfl ?_
  refine ww_getI 28 60 dX6_tellWords_57 wf_X6_282 (ww_i1 30 (by decide)) rfl rfl rfl ?_
  refine ww_ic_ge 80 63 dX6_tellWords_60 (by decide) rfl (fun c => ?_) (fun c => ?_)
  · replace h := h.1 c
    refine ww_iload_n 81 dX6_tellWords_80 rfl 2 rfl rfl ?_
    refine ww_if_eq 88 84 dX6_tellWords_81 (by decide) rfl (fun c => ?_) (fun c => ?_)
    · replace h := h.1 c
      exact ww_weak (ww_le_s (ww_le_s (ww_le_s (ww_le_n (ww_le_s (ww_le_s (ww_le_n (ww_le_nil _)))))))) h
    · replace h := h.2 c
      refine ww_aload_n 85 dX6_tellWords_84 rfl 0 rfl rfl ?_
      obtain ⟨Q1, hT, h⟩ := h
      refine ww_invVV (d' := mX6_ringHand) [] rfl 88 dX6_tellWords_85 ⟨wi_X6, wc_X6_ringHand, wp_X6_ringHand, by decide, by decide⟩ wl_X6_173 wn_X6_ringHand we_X6_ringHand (ww_i1 30 (by decide)) rfl rfl (Nat.le_of_ble_eq_true rfl) rfl hT (fun τ2 hq => ?_)
      replace h := h τ2 hq
      exact ww_weak (ww_le_s (ww_le_s (ww_le_s (ww_le_n (ww_le_s (ww_le_s (ww_le_n (ww_le_nil _)))))))) h
  · replace h := h.2 c
    refine ww_aload_n 64 dX6_tellWords_63 rfl 0 rfl rfl ?_
    refine ww_aload_n 65 dX6_tellWords_64 rfl 0 rfl rfl ?_
    refine ww_getR 27 68 dX6_tellWords_65 wf_X6_55 (ww_i1 30 (by decide)) rfl rfl rfl ?_
    refine ww_iload 70 6 dX6_tellWords_68 rfl rfl ?_
    obtain ⟨j3, hij3, hj3, h⟩ := h
    refine ww_iald j3 71 dX6_tellWords_70 (ww_i1 46 (by decide)) rfl (by decide) hij3 hj3 rfl ?_
    obtain ⟨Q4, hT, h⟩ := h
    refine ww_invVV (d' := mX6_push) [.inl (τ (46, 0) j3)] rfl 74 dX6_tellWords_71 ⟨wi_X6, wc_X6_push, wp_X6_push, by decide, by decide⟩ wl_X6_80 wn_X6_push we_X6_push (ww_i1 30 (by decide)) rfl rfl (Nat.le_of_ble_eq_true rfl) rfl hT (fun τ5 hq => ?_)
    replace h := h τ5 hq
    refine ww_iinc (nI 1) 77 6 dX6_tellWords_74 (by decide) rfl rfl (by decide) rfl [some (.inr (.inr (30, 0))), some (.inl x1), some (.inl x2), none, some (.inl x4), some (.inl x5), some (.inl (x6 + nI 1))] rfl ?_
    refine ww_goto 54 dX6_tellWords_77 (by decide) ?_
    exact h
theorem b_X6_tellWords_88 {g : ww_G} {E : ww_E} {τ : ww_M} {x1 : Int32} {x2 : Int32} {x4 : Int32} {x5 : Int32} {Post : Int32 → ww_M → Prop}  (h : ((nI 60 < τ (30, 0) 28 → Post ((-10 : Int32) - x5) τ) ∧ (¬ (nI 60 < τ (30, 0) 28) → ((x4 = x1 → Post ((-10 : Int32) - x5) τ) ∧ (¬ x4 = x1 → ((x2 = nI 0 → (∃ j1 : Nat, x4 = nI j1 ∧ j1 < 6 ∧ ∀ τ2 : ww_M, τ2 = ww_up τ (48, 0) j1 (τ (30, 0) 12) → ww_W g mX6_tellWords E (ww_QI Post) 142 [some (.inr (.inr (30, 0))), some (.inl x1), some (.inl x2), none, some (.inl x4), none, some (.inl (nI 0))] [] τ2)) ∧ (¬ x2 = nI 0 → (∃ Q3 : Int32 → ww_M → Prop, ww_T E.2.1 g mX6_in [.inr (.inl ((τ (30, 0) 12).toInt64)), .inr (.inl (lN 1)), .inr (.inl (lN 14))] τ (ww_QI Q3) ∧ ∀ (v4 : Int32) (τ5 : ww_M), Q3 v4 τ5 → (¬ v4 = nI 0 → (∃ j6 : Nat, x4 = nI j6 ∧ j6 < 6 ∧ ∀ τ7 : ww_M, τ7 = ww_up τ5 (48, 0) j6 (τ5 (30, 0) 12) → ww_W g mX6_tellWords E (ww_QI Post) 142 [some (.inr (.inr (30, 0))), some (.inl x1), some (.inl x2), none, some (.inl x4), none, some (.inl (nI 0))] [] τ7)) ∧ (v4 = nI 0 → Post ((-10 : Int32) - x5) τ5))))))))) : ww_W g mX6_tellWords E (ww_QI Post) 88 [some (.inr (.inr (30, 0))), some (.inl x1), some (.inl x2), none, some (.inl x4), some (.inl x5), none] [] τ := by
  refine ww_aload_n 89 dX6_tellWords_88 rfl 0 rfl rfl ?_
  refine ww_getI 28 92 dX6_tellWords_89 wf_X6_282 (ww_i1 30 (by decide)) rfl rfl rfl ?_
  refine ww_bipush (v := nI 60) 94 dX6_tellWords_92 (by decide) rfl ?_
  refine ww_ic_gt 122 97 dX6_tellWords_94 (by decide) rfl (fun c => ?_) (fun c => ?_)
  · replace h := h.1 c
    refine ww_bipush (v := (-10 : Int32)) 124 dX6_tellWords_122 (by decide) rfl ?_
    refine ww_iload 126 5 dX6_tellWords_124 rfl rfl ?_
    refine ww_isub 127 dX6_tellWords_126 rfl ?_
    exact ww_iret dX6_tellWords_127 rfl ⟨_, rfl, h⟩
  · replace h := h.2 c
    refine ww_iload 99 4 dX6_tellWords_97 rfl rfl ?_
    refine ww_iload_n 100 dX6_tellWords_99 rfl 1 rfl rfl ?_
    refine ww_ic_eq 122 103 dX6_tellWords_100 (by decide) rfl (fun c => ?_) (fun c => ?_)
    · replace h := h.1 c
      refine ww_bipush (v := (-10 : Int32)) 124 dX6_tellWords_122 (by decide) rfl ?_
      refine ww_iload 126 5 dX6_tellWords_124 rfl rfl ?_
      refine ww_isub 127 dX6_tellWords_126 rfl ?_
      exact ww_iret dX6_tellWords_127 rfl ⟨_, rfl, h⟩
    · replace h := h.2 c
      refine ww_iload_n 104 dX6_tellWords_103 rfl 2 rfl rfl ?_
      refine ww_if_eq 128 107 dX6_tellWords_104 (by decide) rfl (fun c => ?_) (fun c => ?_)
      · replace h := h.1 c
        refine ww_aload_n 129 dX6_tellWords_128 rfl 0 rfl rfl ?_
        refine ww_getR 31 132 dX6_tellWords_129 wf_X6_61 (ww_i1 30 (by decide)) rfl rfl rfl ?_
        refine ww_iload 134 4 dX6_tellWords_132 rfl rfl ?_
        refine ww_aload_n 135 dX6_tellWords_134 rfl 0 rfl rfl ?_
        refine ww_getI 12 138 dX6_tellWords_135 wf_X6_72 (ww_i1 30 (by decide)) rfl rfl rfl ?_
        obtain ⟨j1, hij1, hj1, h⟩ := h
        refine ww_iast j1 139 dX6_tellWords_138 (ww_i1 48 (by decide)) rfl (by decide) hij1 hj1 rfl (fun τ2 eτ2 => ?_)
        replace h := h τ2 eτ2
        refine ww_iconst (v := nI 0) 140 dX6_tellWords_139 (by decide) rfl ?_
        refine ww_istore 142 6 dX6_tellWords_140 rfl (by decide) rfl [some (.inr (.inr (30, 0))), some (.inl x1), some (.inl x2), none, some (.inl x4), some (.inl x5), some (.inl (nI 0))] rfl ?_
        exact ww_weak (ww_le_s (ww_le_s (ww_le_s (ww_le_n (ww_le_s (ww_le_n (ww_le_s (ww_le_nil _)))))))) h
      · replace h := h.2 c
        refine ww_aload_n 108 dX6_tellWords_107 rfl 0 rfl rfl ?_
        refine ww_getI 12 111 dX6_tellWords_108 wf_X6_72 (ww_i1 30 (by decide)) rfl rfl rfl ?_
        refine ww_i2l 112 dX6_tellWords_111 rfl ?_
        refine ww_lconst (v := lN 1) 113 dX6_tellWords_112 (by decide) rfl ?_
        refine ww_ldc2 116 dX6_tellWords_113 rfl wk_X6_303 ?_
        obtain ⟨Q3, hT, h⟩ := h
        refine ww_invSI (d' := mX6_in) [.inr (.inl ((τ (30, 0) 12).toInt64)), .inr (.inl (lN 1)), .inr (.inl (lN 14))] rfl 119 dX6_tellWords_116 ⟨wi_X6, wc_X6_in, wp_X6_in, by decide, by decide⟩ (Or.inl wl_X6_66) wn_X6_in (Nat.le_of_ble_eq_true rfl) rfl hT (fun v4 τ5 hq => ?_)
        replace h := h v4 τ5 hq
        refine ww_if_ne 128 122 dX6_tellWords_119 (by decide) rfl (fun c => ?_) (fun c => ?_)
        · replace h := h.1 c
          refine ww_aload_n 129 dX6_tellWords_128 rfl 0 rfl rfl ?_
          refine ww_getR 31 132 dX6_tellWords_129 wf_X6_61 (ww_i1 30 (by decide)) rfl rfl rfl ?_
          refine ww_iload 134 4 dX6_tellWords_132 rfl rfl ?_
          refine ww_aload_n 135 dX6_tellWords_134 rfl 0 rfl rfl ?_
          refine ww_getI 12 138 dX6_tellWords_135 wf_X6_72 (ww_i1 30 (by decide)) rfl rfl rfl ?_
          obtain ⟨j6, hij6, hj6, h⟩ := h
          refine ww_iast j6 139 dX6_tellWords_138 (ww_i1 48 (by decide)) rfl (by decide) hij6 hj6 rfl (fun τ7 eτ7 => ?_)
          replace h := h τ7 eτ7
          refine ww_iconst (v := nI 0) 140 dX6_tellWords_139 (by decide) rfl ?_
          refine ww_istore 142 6 dX6_tellWords_140 rfl (by decide) rfl [some (.inr (.inr (30, 0))), some (.inl x1), some (.inl x2), none, some (.inl x4), some (.inl x5), some (.inl (nI 0))] rfl ?_
          exact ww_weak (ww_le_s (ww_le_s (ww_le_s (ww_le_n (ww_le_s (ww_le_n (ww_le_s (ww_le_nil _)))))))) h
        · replace h := h.2 c
          refine ww_bipush (v := (-10 : Int32)) 124 dX6_tellWords_122 (by decide) rfl ?_
          refine ww_iload 126 5 dX6_tellWords_124 rfl rfl ?_
          refine ww_isub 127 dX6_tellWords_126 rfl ?_
          exact ww_iret dX6_tellWords_127 rfl ⟨_, rfl, h⟩
theorem b_X6_tellWords_142 {g : ww_G} {E : ww_E} {τ : ww_M} {x1 : Int32} {x2 : Int32} {x4 : Int32} {x6 : Int32} {Post : Int32 → ww_M → Prop}  (h : ((τ (30, 0) 12 ≤ x6 → ww_W g mX6_tellWords E (ww_QI Post) 23 [some (.inr (.inr (30, 0))), some (.inl x1), some (.inl x2), none, some (.inl (x4 + nI 1)), none, none] [] τ) ∧ (¬ (τ (30, 0) 12 ≤ x6) → (∃ j1 : Nat, x6 = nI j1 ∧ j1 < 700 ∧ (∃ j2 : Nat, ((nI 60) * x4) + x6 = nI j2 ∧ j2 < 360 ∧ ∀ τ3 : ww_M, τ3 = ww_up τ (47, 0) j2 (τ (39, 0) j1) → ww_W g mX6_tellWords E (ww_QI Post) 142 [some (.inr (.inr (30, 0))), some (.inl x1), some (.inl x2), none, some (.inl x4), none, some (.inl (x6 + nI 1))] [] τ3))))) : ww_W g mX6_tellWords E (ww_QI Post) 142 [some (.inr (.inr (30, 0))), some (.inl x1), some (.inl x2), none, some (.inl x4), none, some (.inl x6)] [] τ := by
  refine ww_iload 144 6 dX6_tellWords_142 rfl rfl ?_
  refine ww_aload_n 145 dX6_tellWords_144 rfl 0 rfl rfl ?_
  refine ww_getI 12 148 dX6_tellWords_145 wf_X6_72 (ww_i1 30 (by decide)) rfl rfl rfl ?_
  refine ww_ic_ge 177 151 dX6_tellWords_148 (by decide) rfl (fun c => ?_) (fun c => ?_)
  · replace h := h.1 c
    refine ww_iinc (nI 1) 180 4 dX6_tellWords_177 (by decide) rfl rfl (by decide) rfl [some (.inr (.inr (30, 0))), some (.inl x1), some (.inl x2), none, some (.inl (x4 + nI 1)), none, some (.inl x6)] rfl ?_
    refine ww_goto 23 dX6_tellWords_180 (by decide) ?_
    exact ww_weak (ww_le_s (ww_le_s (ww_le_s (ww_le_n (ww_le_s (ww_le_n (ww_le_n (ww_le_nil _)))))))) h
  · replace h := h.2 c
    refine ww_aload_n 152 dX6_tellWords_151 rfl 0 rfl rfl ?_
    refine ww_getR 30 155 dX6_tellWords_152 wf_X6_58 (ww_i1 30 (by decide)) rfl rfl rfl ?_
    refine ww_bipush (v := nI 60) 157 dX6_tellWords_155 (by decide) rfl ?_
    refine ww_iload 159 4 dX6_tellWords_157 rfl rfl ?_
    refine ww_imul 160 dX6_tellWords_159 rfl ?_
    refine ww_iload 162 6 dX6_tellWords_160 rfl rfl ?_
    refine ww_iadd 163 dX6_tellWords_162 rfl ?_
    refine ww_aload_n 164 dX6_tellWords_163 rfl 0 rfl rfl ?_
    refine ww_getR 11 167 dX6_tellWords_164 wf_X6_34 (ww_i1 30 (by decide)) rfl rfl rfl ?_
    refine ww_iload 169 6 dX6_tellWords_167 rfl rfl ?_
    obtain ⟨j1, hij1, hj1, h⟩ := h
    refine ww_iald j1 170 dX6_tellWords_169 (ww_i1 39 (by decide)) rfl (by decide) hij1 hj1 rfl ?_
    obtain ⟨j2, hij2, hj2, h⟩ := h
    refine ww_iast j2 171 dX6_tellWords_170 (ww_i1 47 (by decide)) rfl (by decide) hij2 hj2 rfl (fun τ3 eτ3 => ?_)
    replace h := h τ3 eτ3
    refine ww_iinc (nI 1) 174 6 dX6_tellWords_171 (by decide) rfl rfl (by decide) rfl [some (.inr (.inr (30, 0))), some (.inl x1), some (.inl x2), none, some (.inl x4), none, some (.inl (x6 + nI 1))] rfl ?_
    refine ww_goto 142 dX6_tellWords_174 (by decide) ?_
    exact h
theorem b_X6_relators {l : Launch} {g : ww_G} {τ : ww_M}  {Post : Int32 → ww_M → Prop}  (h : ∀ E : ww_E, (∃ Q1 : Int32 → ww_M → Prop, ww_T E.2.1 g mX6_tellWords [.inr (.inr (30, 0)), .inl (nI 3), .inl (nI 1)] τ (ww_QI Q1) ∧ ∀ (v2 : Int32) (τ3 : ww_M), Q1 v2 τ3 → (v2 = (-1 : Int32) → (∀ τ4 : ww_M, τ4 = ww_up τ3 (30, 0) 2 (τ3 (30, 0) 25) → ww_W g mX6_relators E (ww_QI Post) 24 [some (.inr (.inr (30, 0))), none, some (.inl (nI 0)), none] [] τ4)) ∧ (¬ v2 = (-1 : Int32) → Post v2 τ3))) : ww_T l g mX6_relators [.inr (.inr (30, 0))] τ (ww_QI Post) := by
  refine ww_enter (P := [some (.inr (.inr (30, 0))), none, none, none]) (by decide) (Nat.le_of_ble_eq_true rfl) rfl (fun E => ?_)
  replace h := h E
  refine ww_aload_n 1 dX6_relators_0 rfl 0 rfl rfl ?_
  refine ww_iconst (v := nI 3) 2 dX6_relators_1 (by decide) rfl ?_
  refine ww_iconst (v := nI 1) 3 dX6_relators_2 (by decide) rfl ?_
  obtain ⟨Q1, hT, h⟩ := h
  refine ww_invVI (d' := mX6_tellWords) [.inl (nI 3), .inl (nI 1)] rfl 6 dX6_relators_3 ⟨wi_X6, wc_X6_tellWords, wp_X6_tellWords, by decide, by decide⟩ wl_X6_305 wn_X6_tellWords we_X6_tellWords (ww_i1 30 (by decide)) rfl rfl (Nat.le_of_ble_eq_true rfl) rfl hT (fun v2 τ3 hq => ?_)
  replace h := h v2 τ3 hq
  refine ww_istore_n 7 dX6_relators_6 rfl 1 rfl (by decide) rfl [some (.inr (.inr (30, 0))), some (.inl v2), none, none] rfl ?_
  refine ww_iload_n 8 dX6_relators_7 rfl 1 rfl rfl ?_
  refine ww_iconst (v := (-1 : Int32)) 9 dX6_relators_8 (by decide) rfl ?_
  refine ww_ic_eq 14 12 dX6_relators_9 (by decide) rfl (fun c => ?_) (fun c => ?_)
  · replace h := h.1 c
    refine ww_aload_n 15 dX6_relators_14 rfl 0 rfl rfl ?_
    refine ww_aload_n 16 dX6_relators_15 rfl 0 rfl rfl ?_
    refine ww_getI 25 19 dX6_relators_16 wf_X6_270 (ww_i1 30 (by decide)) rfl rfl rfl ?_
    refine ww_putI 2 22 dX6_relators_19 wf_X6_109 fp_X6_2 (ww_i1 30 (by decide)) rfl rfl rfl (fun τ4 eτ4 => ?_)
    replace h := h τ4 eτ4
    refine ww_iconst (v := nI 0) 23 dX6_relators_22 (by decide) rfl ?_
    refine ww_istore_n 24 dX6_relators_23 rfl 2 rfl (by decide) rfl [some (.inr (.inr (30, 0))), some (.inl v2), some (.inl (nI 0)), none] rfl ?_
    exact ww_weak (ww_le_s (ww_le_n (ww_le_s (ww_le_n (ww_le_nil _))))) h
  · replace h := h.2 c
    refine ww_iload_n 13 dX6_relators_12 rfl 1 rfl rfl ?_
    exact ww_iret dX6_relators_13 rfl ⟨_, rfl, h⟩
theorem b_X6_relators_24 {g : ww_G} {E : ww_E} {τ : ww_M} {x2 : Int32} {Post : Int32 → ww_M → Prop}  (h : ((τ (30, 0) 25 ≤ x2 → (∃ Q1 : ww_M → Prop, ww_T E.2.1 g mX6_listMembers [.inr (.inr (30, 0))] τ (ww_QV Q1) ∧ ∀ (τ2 : ww_M), Q1 τ2 → Post (τ2 (30, 0) 2) τ2)) ∧ (¬ (τ (30, 0) 25 ≤ x2) → (∃ j3 : Nat, x2 = nI j3 ∧ j3 < 6 ∧ (∃ j4 : Nat, x2 = nI j4 ∧ j4 < 3 ∧ ∀ τ5 : ww_M, τ5 = ww_up τ (32, 0) j4 (τ (48, 0) j3) → ww_W g mX6_relators E (ww_QI Post) 46 [some (.inr (.inr (30, 0))), none, some (.inl x2), some (.inl (nI 0))] [] τ5))))) : ww_W g mX6_relators E (ww_QI Post) 24 [some (.inr (.inr (30, 0))), none, some (.inl x2), none] [] τ := by
  refine ww_iload_n 25 dX6_relators_24 rfl 2 rfl rfl ?_
  refine ww_aload_n 26 dX6_relators_25 rfl 0 rfl rfl ?_
  refine ww_getI 25 29 dX6_relators_26 wf_X6_270 (ww_i1 30 (by decide)) rfl rfl rfl ?_
  refine ww_ic_ge 90 32 dX6_relators_29 (by decide) rfl (fun c => ?_) (fun c => ?_)
  · replace h := h.1 c
    refine ww_aload_n 91 dX6_relators_90 rfl 0 rfl rfl ?_
    obtain ⟨Q1, hT, h⟩ := h
    refine ww_invVV (d' := mX6_listMembers) [] rfl 94 dX6_relators_91 ⟨wi_X6, wc_X6_listMembers, wp_X6_listMembers, by decide, by decide⟩ wl_X6_309 wn_X6_listMembers we_X6_listMembers (ww_i1 30 (by decide)) rfl rfl (Nat.le_of_ble_eq_true rfl) rfl hT (fun τ2 hq => ?_)
    replace h := h τ2 hq
    refine ww_aload_n 95 dX6_relators_94 rfl 0 rfl rfl ?_
    refine ww_getI 2 98 dX6_relators_95 wf_X6_109 (ww_i1 30 (by decide)) rfl rfl rfl ?_
    exact ww_iret dX6_relators_98 rfl ⟨_, rfl, h⟩
  · replace h := h.2 c
    refine ww_aload_n 33 dX6_relators_32 rfl 0 rfl rfl ?_
    refine ww_getR 1 36 dX6_relators_33 wf_X6_13 (ww_i1 30 (by decide)) rfl rfl rfl ?_
    refine ww_iload_n 37 dX6_relators_36 rfl 2 rfl rfl ?_
    refine ww_aload_n 38 dX6_relators_37 rfl 0 rfl rfl ?_
    refine ww_getR 31 41 dX6_relators_38 wf_X6_61 (ww_i1 30 (by decide)) rfl rfl rfl ?_
    refine ww_iload_n 42 dX6_relators_41 rfl 2 rfl rfl ?_
    obtain ⟨j3, hij3, hj3, h⟩ := h
    refine ww_iald j3 43 dX6_relators_42 (ww_i1 48 (by decide)) rfl (by decide) hij3 hj3 rfl ?_
    obtain ⟨j4, hij4, hj4, h⟩ := h
    refine ww_iast j4 44 dX6_relators_43 (ww_i1 32 (by decide)) rfl (by decide) hij4 hj4 rfl (fun τ5 eτ5 => ?_)
    replace h := h τ5 eτ5
    refine ww_iconst (v := nI 0) 45 dX6_relators_44 (by decide) rfl ?_
    refine ww_istore_n 46 dX6_relators_45 rfl 3 rfl (by decide) rfl [some (.inr (.inr (30, 0))), none, some (.inl x2), some (.inl (nI 0))] rfl ?_
    exact h
theorem b_X6_relators_46 {g : ww_G} {E : ww_E} {τ : ww_M} {x2 : Int32} {x3 : Int32} {Post : Int32 → ww_M → Prop}  (h : (∃ j1 : Nat, x2 = nI j1 ∧ j1 < 6 ∧ (τ (48, 0) j1 ≤ x3 → ww_W g mX6_relators E (ww_QI Post) 24 [some (.inr (.inr (30, 0))), none, some (.inl (x2 + nI 1)), none] [] τ) ∧ (¬ (τ (48, 0) j1 ≤ x3) → (∃ j2 : Nat, ((nI 60) * x2) + x3 = nI j2 ∧ j2 < 360 ∧ (∃ j3 : Nat, ((nI 14) * x2) + x3 = nI j3 ∧ j3 < 42 ∧ ∀ τ4 : ww_M, τ4 = ww_up τ (31, 0) j3 (τ (47, 0) j2) → ww_W g mX6_relators E (ww_QI Post) 46 [some (.inr (.inr (30, 0))), none, some (.inl x2), some (.inl (x3 + nI 1))] [] τ4))))) : ww_W g mX6_relators E (ww_QI Post) 46 [some (.inr (.inr (30, 0))), none, some (.inl x2), some (.inl x3)] [] τ := by
  refine ww_iload_n 47 dX6_relators_46 rfl 3 rfl rfl ?_
  refine ww_aload_n 48 dX6_relators_47 rfl 0 rfl rfl ?_
  refine ww_getR 31 51 dX6_relators_48 wf_X6_61 (ww_i1 30 (by decide)) rfl rfl rfl ?_
  refine ww_iload_n 52 dX6_relators_51 rfl 2 rfl rfl ?_
  obtain ⟨j1, hij1, hj1, h⟩ := h
  refine ww_iald j1 53 dX6_relators_52 (ww_i1 48 (by decide)) rfl (by decide) hij1 hj1 rfl ?_
  refine ww_ic_ge 84 56 dX6_relators_53 (by decide) rfl (fun c => ?_) (fun c => ?_)
  · replace h := h.1 c
    refine ww_iinc (nI 1) 87 2 dX6_relators_84 (by decide) rfl rfl (by decide) rfl [some (.inr (.inr (30, 0))), none, some (.inl (x2 + nI 1)), some (.inl x3)] rfl ?_
    refine ww_goto 24 dX6_relators_87 (by decide) ?_
    exact ww_weak (ww_le_s (ww_le_n (ww_le_s (ww_le_n (ww_le_nil _))))) h
  · replace h := h.2 c
    refine ww_aload_n 57 dX6_relators_56 rfl 0 rfl rfl ?_
    refine ww_getR 0 60 dX6_relators_57 wf_X6_7 (ww_i1 30 (by decide)) rfl rfl rfl ?_
    refine ww_bipush (v := nI 14) 62 dX6_relators_60 (by decide) rfl ?_
    refine ww_iload_n 63 dX6_relators_62 rfl 2 rfl rfl ?_
    refine ww_imul 64 dX6_relators_63 rfl ?_
    refine ww_iload_n 65 dX6_relators_64 rfl 3 rfl rfl ?_
    refine ww_iadd 66 dX6_relators_65 rfl ?_
    refine ww_aload_n 67 dX6_relators_66 rfl 0 rfl rfl ?_
    refine ww_getR 30 70 dX6_relators_67 wf_X6_58 (ww_i1 30 (by decide)) rfl rfl rfl ?_
    refine ww_bipush (v := nI 60) 72 dX6_relators_70 (by decide) rfl ?_
    refine ww_iload_n 73 dX6_relators_72 rfl 2 rfl rfl ?_
    refine ww_imul 74 dX6_relators_73 rfl ?_
    refine ww_iload_n 75 dX6_relators_74 rfl 3 rfl rfl ?_
    refine ww_iadd 76 dX6_relators_75 rfl ?_
    obtain ⟨j2, hij2, hj2, h⟩ := h
    refine ww_iald j2 77 dX6_relators_76 (ww_i1 47 (by decide)) rfl (by decide) hij2 hj2 rfl ?_
    obtain ⟨j3, hij3, hj3, h⟩ := h
    refine ww_iast j3 78 dX6_relators_77 (ww_i1 31 (by decide)) rfl (by decide) hij3 hj3 rfl (fun τ4 eτ4 => ?_)
    replace h := h τ4 eτ4
    refine ww_iinc (nI 1) 81 3 dX6_relators_78 (by decide) rfl rfl (by decide) rfl [some (.inr (.inr (30, 0))), none, some (.inl x2), some (.inl (x3 + nI 1))] rfl ?_
    refine ww_goto 46 dX6_relators_81 (by decide) ?_
    exact h
theorem b_X6_words {l : Launch} {g : ww_G} {τ : ww_M} {a1 : Int32} {Post : Int32 → ww_M → Prop}  (h : ∀ E : ww_E, (∃ Q1 : Int32 → ww_M → Prop, ww_T E.2.1 g mX6_isWord [.inl a1] τ (ww_QI Q1) ∧ ∀ (v2 : Int32) (τ3 : ww_M), Q1 v2 τ3 → (¬ v2 = nI 0 → (∃ Q4 : Int32 → ww_M → Prop, ww_T E.2.1 g mX6_tellWords [.inr (.inr (30, 0)), .inl ((nI 6) - a1), .inl (nI 0)] τ3 (ww_QI Q4) ∧ ∀ (v5 : Int32) (τ6 : ww_M), Q4 v5 τ6 → (v5 = (-1 : Int32) → ww_W g mX6_words E (ww_QI Post) 31 [some (.inr (.inr (30, 0))), some (.inl a1), none, some (.inl (nI 0)), none] [] τ6) ∧ (¬ v5 = (-1 : Int32) → Post v5 τ6))) ∧ (v2 = nI 0 → (∃ Q7 : Int32 → ww_M → Prop, ww_T E.2.1 g mX6_bad [.inr (.inr (30, 0))] τ3 (ww_QI Q7) ∧ ∀ (v8 : Int32) (τ9 : ww_M), Q7 v8 τ9 → Post v8 τ9)))) : ww_T l g mX6_words [.inr (.inr (30, 0)), .inl a1] τ (ww_QI Post) := by
  refine ww_enter (P := [some (.inr (.inr (30, 0))), some (.inl a1), none, none, none]) (by decide) (Nat.le_of_ble_eq_true rfl) rfl (fun E => ?_)
  replace h := h E
  refine ww_iload_n 1 dX6_words_0 rfl 1 rfl rfl ?_
  obtain ⟨Q1, hT, h⟩ := h
  refine ww_invSI (d' := mX6_isWord) [.inl a1] rfl 4 dX6_words_1 ⟨wi_X6, wc_X6_isWord, wp_X6_isWord, by decide, by decide⟩ (Or.inl wl_X6_156) wn_X6_isWord (Nat.le_of_ble_eq_true rfl) rfl hT (fun v2 τ3 hq => ?_)
  replace h := h v2 τ3 hq
  refine ww_if_ne 12 7 dX6_words_4 (by decide) rfl (fun c => ?_) (fun c => ?_)
  · replace h := h.1 c
    refine ww_aload_n 13 dX6_words_12 rfl 0 rfl rfl ?_
    refine ww_bipush (v := nI 6) 15 dX6_words_13 (by decide) rfl ?_
    refine ww_iload_n 16 dX6_words_15 rfl 1 rfl rfl ?_
    refine ww_isub 17 dX6_words_16 rfl ?_
    refine ww_iconst (v := nI 0) 18 dX6_words_17 (by decide) rfl ?_
    obtain ⟨Q4, hT, h⟩ := h
    refine ww_invVI (d' := mX6_tellWords) [.inl ((nI 6) - a1), .inl (nI 0)] rfl 21 dX6_words_18 ⟨wi_X6, wc_X6_tellWords, wp_X6_tellWords, by decide, by decide⟩ wl_X6_305 wn_X6_tellWords we_X6_tellWords (ww_i1 30 (by decide)) rfl rfl (Nat.le_of_ble_eq_true rfl) rfl hT (fun v5 τ6 hq => ?_)
    replace h := h v5 τ6 hq
    refine ww_istore_n 22 dX6_words_21 rfl 2 rfl (by decide) rfl [some (.inr (.inr (30, 0))), some (.inl a1), some (.inl v5), none, none] rfl ?_
    refine ww_iload_n 23 dX6_words_22 rfl 2 rfl rfl ?_
    refine ww_iconst (v := (-1 : Int32)) 24 dX6_words_23 (by decide) rfl ?_
    refine ww_ic_eq 29 27 dX6_words_24 (by decide) rfl (fun c => ?_) (fun c => ?_)
    · replace h := h.1 c
      refine ww_iconst (v := nI 0) 30 dX6_words_29 (by decide) rfl ?_
      refine ww_istore_n 31 dX6_words_30 rfl 3 rfl (by decide) rfl [some (.inr (.inr (30, 0))), some (.inl a1), some (.inl v5), some (.inl (nI 0)), none] rfl ?_
      exact ww_weak (ww_le_s (ww_le_s (ww_le_n (ww_le_s (ww_le_n (ww_le_nil _)))))) h
    · replace h := h.2 c
      refine ww_iload_n 28 dX6_words_27 rfl 2 rfl rfl ?_
      exact ww_iret dX6_words_28 rfl ⟨_, rfl, h⟩
  · replace h := h.2 c
    refine ww_aload_n 8 dX6_words_7 rfl 0 rfl rfl ?_
    obtain ⟨Q7, hT, h⟩ := h
    refine ww_invVI (d' := mX6_bad) [] rfl 11 dX6_words_8 ⟨wi_X6, wc_X6_bad, wp_X6_bad, by decide, by decide⟩ wl_X6_133 wn_X6_bad we_X6_bad (ww_i1 30 (by decide)) rfl rfl (Nat.le_of_ble_eq_true rfl) rfl hT (fun v8 τ9 hq => ?_)
    replace h := h v8 τ9 hq
    exact ww_iret dX6_words_11 rfl ⟨_, rfl, h⟩
theorem b_X6_words_31 {g : ww_G} {E : ww_E} {τ : ww_M} {x1 : Int32} {x3 : Int32} {Post : Int32 → ww_M → Prop}  (h : ((τ (30, 0) 25 ≤ x3 → Post (τ (30, 0) 25) τ) ∧ (¬ (τ (30, 0) 25 ≤ x3) → (∃ j1 : Nat, x3 = nI j1 ∧ j1 < 6 ∧ (∃ j2 : Nat, x1 + x3 = nI j2 ∧ j2 < 6 ∧ ∀ τ3 : ww_M, τ3 = ww_up τ (37, 0) j2 (τ (48, 0) j1) → ww_W g mX6_words E (ww_QI Post) 56 [some (.inr (.inr (30, 0))), some (.inl x1), none, some (.inl x3), some (.inl (nI 0))] [] τ3))))) : ww_W g mX6_words E (ww_QI Post) 31 [some (.inr (.inr (30, 0))), some (.inl x1), none, some (.inl x3), none] [] τ := by
  refine ww_iload_n 32 dX6_words_31 rfl 3 rfl rfl ?_
  refine ww_aload_n 33 dX6_words_32 rfl 0 rfl rfl ?_
  refine ww_getI 25 36 dX6_words_33 wf_X6_270 (ww_i1 30 (by decide)) rfl rfl rfl ?_
  refine ww_ic_ge 105 39 dX6_words_36 (by decide) rfl (fun c => ?_) (fun c => ?_)
  · replace h := h.1 c
    refine ww_aload_n 106 dX6_words_105 rfl 0 rfl rfl ?_
    refine ww_getI 25 109 dX6_words_106 wf_X6_270 (ww_i1 30 (by decide)) rfl rfl rfl ?_
    exact ww_iret dX6_words_109 rfl ⟨_, rfl, h⟩
  · replace h := h.2 c
    refine ww_aload_n 40 dX6_words_39 rfl 0 rfl rfl ?_
    refine ww_getR 8 43 dX6_words_40 wf_X6_28 (ww_i1 30 (by decide)) rfl rfl rfl ?_
    refine ww_iload_n 44 dX6_words_43 rfl 1 rfl rfl ?_
    refine ww_iload_n 45 dX6_words_44 rfl 3 rfl rfl ?_
    refine ww_iadd 46 dX6_words_45 rfl ?_
    refine ww_aload_n 47 dX6_words_46 rfl 0 rfl rfl ?_
    refine ww_getR 31 50 dX6_words_47 wf_X6_61 (ww_i1 30 (by decide)) rfl rfl rfl ?_
    refine ww_iload_n 51 dX6_words_50 rfl 3 rfl rfl ?_
    obtain ⟨j1, hij1, hj1, h⟩ := h
    refine ww_iald j1 52 dX6_words_51 (ww_i1 48 (by decide)) rfl (by decide) hij1 hj1 rfl ?_
    obtain ⟨j2, hij2, hj2, h⟩ := h
    refine ww_iast j2 53 dX6_words_52 (ww_i1 37 (by decide)) rfl (by decide) hij2 hj2 rfl (fun τ3 eτ3 => ?_)
    replace h := h τ3 eτ3
    refine ww_iconst (v := nI 0) 54 dX6_words_53 (by decide) rfl ?_
    refine ww_istore 56 4 dX6_words_54 rfl (by decide) rfl [some (.inr (.inr (30, 0))), some (.inl x1), none, some (.inl x3), some (.inl (nI 0))] rfl ?_
    exact h
theorem b_X6_words_56 {g : ww_G} {E : ww_E} {τ : ww_M} {x1 : Int32} {x3 : Int32} {x4 : Int32} {Post : Int32 → ww_M → Prop}  (h : (∃ j1 : Nat, x3 = nI j1 ∧ j1 < 6 ∧ (τ (48, 0) j1 ≤ x4 → ww_W g mX6_words E (ww_QI Post) 31 [some (.inr (.inr (30, 0))), some (.inl x1), none, some (.inl (x3 + nI 1)), none] [] τ) ∧ (¬ (τ (48, 0) j1 ≤ x4) → (∃ j2 : Nat, ((nI 60) * x3) + x4 = nI j2 ∧ j2 < 360 ∧ (∃ j3 : Nat, ((nI 60) * (x1 + x3)) + x4 = nI j3 ∧ j3 < 360 ∧ ∀ τ4 : ww_M, τ4 = ww_up τ (36, 0) j3 (τ (47, 0) j2) → ww_W g mX6_words E (ww_QI Post) 56 [some (.inr (.inr (30, 0))), some (.inl x1), none, some (.inl x3), some (.inl (x4 + nI 1))] [] τ4))))) : ww_W g mX6_words E (ww_QI Post) 56 [some (.inr (.inr (30, 0))), some (.inl x1), none, some (.inl x3), some (.inl x4)] [] τ := by
  refine ww_iload 58 4 dX6_words_56 rfl rfl ?_
  refine ww_aload_n 59 dX6_words_58 rfl 0 rfl rfl ?_
  refine ww_getR 31 62 dX6_words_59 wf_X6_61 (ww_i1 30 (by decide)) rfl rfl rfl ?_
  refine ww_iload_n 63 dX6_words_62 rfl 3 rfl rfl ?_
  obtain ⟨j1, hij1, hj1, h⟩ := h
  refine ww_iald j1 64 dX6_words_63 (ww_i1 48 (by decide)) rfl (by decide) hij1 hj1 rfl ?_
  refine ww_ic_ge 99 67 dX6_words_64 (by decide) rfl (fun c => ?_) (fun c => ?_)
  · replace h := h.1 c
    refine ww_iinc (nI 1) 102 3 dX6_words_99 (by decide) rfl rfl (by decide) rfl [some (.inr (.inr (30, 0))), some (.inl x1), none, some (.inl (x3 + nI 1)), some (.inl x4)] rfl ?_
    refine ww_goto 31 dX6_words_102 (by decide) ?_
    exact ww_weak (ww_le_s (ww_le_s (ww_le_n (ww_le_s (ww_le_n (ww_le_nil _)))))) h
  · replace h := h.2 c
    refine ww_aload_n 68 dX6_words_67 rfl 0 rfl rfl ?_
    refine ww_getR 7 71 dX6_words_68 wf_X6_25 (ww_i1 30 (by decide)) rfl rfl rfl ?_
    refine ww_bipush (v := nI 60) 73 dX6_words_71 (by decide) rfl ?_
    refine ww_iload_n 74 dX6_words_73 rfl 1 rfl rfl ?_
    refine ww_iload_n 75 dX6_words_74 rfl 3 rfl rfl ?_
    refine ww_iadd 76 dX6_words_75 rfl ?_
    refine ww_imul 77 dX6_words_76 rfl ?_
    refine ww_iload 79 4 dX6_words_77 rfl rfl ?_
    refine ww_iadd 80 dX6_words_79 rfl ?_
    refine ww_aload_n 81 dX6_words_80 rfl 0 rfl rfl ?_
    refine ww_getR 30 84 dX6_words_81 wf_X6_58 (ww_i1 30 (by decide)) rfl rfl rfl ?_
    refine ww_bipush (v := nI 60) 86 dX6_words_84 (by decide) rfl ?_
    refine ww_iload_n 87 dX6_words_86 rfl 3 rfl rfl ?_
    refine ww_imul 88 dX6_words_87 rfl ?_
    refine ww_iload 90 4 dX6_words_88 rfl rfl ?_
    refine ww_iadd 91 dX6_words_90 rfl ?_
    obtain ⟨j2, hij2, hj2, h⟩ := h
    refine ww_iald j2 92 dX6_words_91 (ww_i1 47 (by decide)) rfl (by decide) hij2 hj2 rfl ?_
    obtain ⟨j3, hij3, hj3, h⟩ := h
    refine ww_iast j3 93 dX6_words_92 (ww_i1 36 (by decide)) rfl (by decide) hij3 hj3 rfl (fun τ4 eτ4 => ?_)
    replace h := h τ4 eτ4
    refine ww_iinc (nI 1) 96 4 dX6_words_93 (by decide) rfl rfl (by decide) rfl [some (.inr (.inr (30, 0))), some (.inl x1), none, some (.inl x3), some (.inl (x4 + nI 1))] rfl ?_
    refine ww_goto 56 dX6_words_96 (by decide) ?_
    exact h
theorem b_X6_lettersOfAll {l : Launch} {g : ww_G} {τ : ww_M}  {Post : Int32 → ww_M → Prop}  (h : ∀ E : ww_E, ww_W g mX6_lettersOfAll E (ww_QI Post) 4 [some (.inr (.inr (30, 0))), some (.inl (nI 0)), some (.inl (nI 0))] [] τ) : ww_T l g mX6_lettersOfAll [.inr (.inr (30, 0))] τ (ww_QI Post) := by
  refine ww_enter (P := [some (.inr (.inr (30, 0))), none, none]) (by decide) (Nat.le_of_ble_eq_true rfl) rfl (fun E => ?_)
  replace h := h E
  refine ww_iconst (v := nI 0) 1 dX6_lettersOfAll_0 (by decide) rfl ?_
  refine ww_istore_n 2 dX6_lettersOfAll_1 rfl 1 rfl (by decide) rfl [some (.inr (.inr (30, 0))), some (.inl (nI 0)), none] rfl ?_
  refine ww_iconst (v := nI 0) 3 dX6_lettersOfAll_2 (by decide) rfl ?_
  refine ww_istore_n 4 dX6_lettersOfAll_3 rfl 2 rfl (by decide) rfl [some (.inr (.inr (30, 0))), some (.inl (nI 0)), some (.inl (nI 0))] rfl ?_
  exact h
theorem b_X6_lettersOfAll_4 {g : ww_G} {E : ww_E} {τ : ww_M} {x1 : Int32} {x2 : Int32} {Post : Int32 → ww_M → Prop}  (h : ((nI 6 ≤ x2 → Post x1 τ) ∧ (¬ (nI 6 ≤ x2) → (∃ j1 : Nat, x2 = nI j1 ∧ j1 < 6 ∧ ww_W g mX6_lettersOfAll E (ww_QI Post) 4 [some (.inr (.inr (30, 0))), some (.inl (x1 + (τ (37, 0) j1))), some (.inl (x2 + nI 1))] [] τ)))) : ww_W g mX6_lettersOfAll E (ww_QI Post) 4 [some (.inr (.inr (30, 0))), some (.inl x1), some (.inl x2)] [] τ := by
  refine ww_iload_n 5 dX6_lettersOfAll_4 rfl 2 rfl rfl ?_
  refine ww_bipush (v := nI 6) 7 dX6_lettersOfAll_5 (by decide) rfl ?_
  refine ww_ic_ge 25 10 dX6_lettersOfAll_7 (by decide) rfl (fun c => ?_) (fun c => ?_)
  · replace h := h.1 c
    refine ww_iload_n 26 dX6_lettersOfAll_25 rfl 1 rfl rfl ?_
    exact ww_iret dX6_lettersOfAll_26 rfl ⟨_, rfl, h⟩
  · replace h := h.2 c
    refine ww_iload_n 11 dX6_lettersOfAll_10 rfl 1 rfl rfl ?_
    refine ww_aload_n 12 dX6_lettersOfAll_11 rfl 0 rfl rfl ?_
    refine ww_getR 8 15 dX6_lettersOfAll_12 wf_X6_28 (ww_i1 30 (by decide)) rfl rfl rfl ?_
    refine ww_iload_n 16 dX6_lettersOfAll_15 rfl 2 rfl rfl ?_
    obtain ⟨j1, hij1, hj1, h⟩ := h
    refine ww_iald j1 17 dX6_lettersOfAll_16 (ww_i1 37 (by decide)) rfl (by decide) hij1 hj1 rfl ?_
    refine ww_iadd 18 dX6_lettersOfAll_17 rfl ?_
    refine ww_istore_n 19 dX6_lettersOfAll_18 rfl 1 rfl (by decide) rfl [some (.inr (.inr (30, 0))), some (.inl (x1 + (τ (37, 0) j1))), some (.inl x2)] rfl ?_
    refine ww_iinc (nI 1) 22 2 dX6_lettersOfAll_19 (by decide) rfl rfl (by decide) rfl [some (.inr (.inr (30, 0))), some (.inl (x1 + (τ (37, 0) j1))), some (.inl (x2 + nI 1))] rfl ?_
    refine ww_goto 4 dX6_lettersOfAll_22 (by decide) ?_
    exact h
theorem b_X6_toldOf {l : Launch} {g : ww_G} {τ : ww_M} {a1 : Int32} {Post : Int32 → ww_M → Prop}  (h : ∀ E : ww_E, ((a1 = nI 3 → Post (τ (30, 0) 24) τ) ∧ (a1 = nI 4 → Post (τ (30, 0) 2) τ) ∧ (a1 = nI 5 → Post (τ (30, 0) 6) τ) ∧ (a1 = nI 6 → Post (τ (30, 0) 10) τ) ∧ (a1 = nI 7 → (∃ Q1 : Int32 → ww_M → Prop, ww_T E.2.1 g mX6_lettersOfAll [.inr (.inr (30, 0))] τ (ww_QI Q1) ∧ ∀ (v2 : Int32) (τ3 : ww_M), Q1 v2 τ3 → Post v2 τ3)) ∧ (¬ a1 = nI 3 → ¬ a1 = nI 4 → ¬ a1 = nI 5 → ¬ a1 = nI 6 → ¬ a1 = nI 7 → (∃ j4 : Nat, a1 = nI j4 ∧ j4 < 3 ∧ Post (τ (38, 0) j4) τ)))) : ww_T l g mX6_toldOf [.inr (.inr (30, 0)), .inl a1] τ (ww_QI Post) := by
  refine ww_enter (P := [some (.inr (.inr (30, 0))), some (.inl a1)]) (by decide) (Nat.le_of_ble_eq_true rfl) rfl (fun E => ?_)
  replace h := h E
  refine ww_iload_n 1 dX6_toldOf_0 rfl 1 rfl rfl ?_
  refine ww_tsw [(nI 3, 36), (nI 4, 41), (nI 5, 46), (nI 6, 51), (nI 7, 56)] 61 dX6_toldOf_1 (by decide) ?_ ?_
  · refine List.forall_mem_cons.mpr ⟨fun c => ?_, List.forall_mem_cons.mpr ⟨fun c => ?_, List.forall_mem_cons.mpr ⟨fun c => ?_, List.forall_mem_cons.mpr ⟨fun c => ?_, List.forall_mem_cons.mpr ⟨fun c => ?_, fun _ h9 => absurd h9 List.not_mem_nil⟩⟩⟩⟩⟩
    · replace h := h.1 c
      refine ww_aload_n 37 dX6_toldOf_36 rfl 0 rfl rfl ?_
      refine ww_getI 24 40 dX6_toldOf_37 wf_X6_255 (ww_i1 30 (by decide)) rfl rfl rfl ?_
      exact ww_iret dX6_toldOf_40 rfl ⟨_, rfl, h⟩
    · replace h := h.2.1 c
      refine ww_aload_n 42 dX6_toldOf_41 rfl 0 rfl rfl ?_
      refine ww_getI 2 45 dX6_toldOf_42 wf_X6_109 (ww_i1 30 (by decide)) rfl rfl rfl ?_
      exact ww_iret dX6_toldOf_45 rfl ⟨_, rfl, h⟩
    · replace h := h.2.2.1 c
      refine ww_aload_n 47 dX6_toldOf_46 rfl 0 rfl rfl ?_
      refine ww_getI 6 50 dX6_toldOf_47 wf_X6_98 (ww_i1 30 (by decide)) rfl rfl rfl ?_
      exact ww_iret dX6_toldOf_50 rfl ⟨_, rfl, h⟩
    · replace h := h.2.2.2.1 c
      refine ww_aload_n 52 dX6_toldOf_51 rfl 0 rfl rfl ?_
      refine ww_getI 10 55 dX6_toldOf_52 wf_X6_153 (ww_i1 30 (by decide)) rfl rfl rfl ?_
      exact ww_iret dX6_toldOf_55 rfl ⟨_, rfl, h⟩
    · replace h := h.2.2.2.2.1 c
      refine ww_aload_n 57 dX6_toldOf_56 rfl 0 rfl rfl ?_
      obtain ⟨Q1, hT, h⟩ := h
      refine ww_invVI (d' := mX6_lettersOfAll) [] rfl 60 dX6_toldOf_57 ⟨wi_X6, wc_X6_lettersOfAll, wp_X6_lettersOfAll, by decide, by decide⟩ wl_X6_312 wn_X6_lettersOfAll we_X6_lettersOfAll (ww_i1 30 (by decide)) rfl rfl (Nat.le_of_ble_eq_true rfl) rfl hT (fun v2 τ3 hq => ?_)
      replace h := h v2 τ3 hq
      exact ww_iret dX6_toldOf_60 rfl ⟨_, rfl, h⟩
  · intro c
    replace h := h.2.2.2.2.2 (c _ (List.mem_of_getElem? (i := 0) rfl)) (c _ (List.mem_of_getElem? (i := 1) rfl)) (c _ (List.mem_of_getElem? (i := 2) rfl)) (c _ (List.mem_of_getElem? (i := 3) rfl)) (c _ (List.mem_of_getElem? (i := 4) rfl))
    refine ww_aload_n 62 dX6_toldOf_61 rfl 0 rfl rfl ?_
    refine ww_getR 9 65 dX6_toldOf_62 wf_X6_31 (ww_i1 30 (by decide)) rfl rfl rfl ?_
    refine ww_iload_n 66 dX6_toldOf_65 rfl 1 rfl rfl ?_
    obtain ⟨j4, hij4, hj4, h⟩ := h
    refine ww_iald j4 67 dX6_toldOf_66 (ww_i1 38 (by decide)) rfl (by decide) hij4 hj4 rfl ?_
    exact ww_iret dX6_toldOf_67 rfl ⟨_, rfl, h⟩
theorem b_X6_told {l : Launch} {g : ww_G} {τ : ww_M} {a1 : Int32} {Post : Int32 → ww_M → Prop}  (h : ∀ E : ww_E, (∃ Q1 : Int32 → ww_M → Prop, ww_T E.2.1 g mX6_in [.inr (.inl (a1.toInt64)), .inr (.inl (lN 0)), .inr (.inl (lN 7))] τ (ww_QI Q1) ∧ ∀ (v2 : Int32) (τ3 : ww_M), Q1 v2 τ3 → (v2 = nI 0 → (∃ Q4 : Int32 → ww_M → Prop, ww_T E.2.1 g mX6_bad [.inr (.inr (30, 0))] τ3 (ww_QI Q4) ∧ ∀ (v5 : Int32) (τ6 : ww_M), Q4 v5 τ6 → Post v5 τ6)) ∧ (¬ v2 = nI 0 → (∃ Q7 : Int32 → ww_M → Prop, ww_T E.2.1 g mX6_toldOf [.inr (.inr (30, 0)), .inl a1] τ3 (ww_QI Q7) ∧ ∀ (v8 : Int32) (τ9 : ww_M), Q7 v8 τ9 → Post v8 τ9)))) : ww_T l g mX6_told [.inr (.inr (30, 0)), .inl a1] τ (ww_QI Post) := by
  refine ww_enter (P := [some (.inr (.inr (30, 0))), some (.inl a1)]) (by decide) (Nat.le_of_ble_eq_true rfl) rfl (fun E => ?_)
  replace h := h E
  refine ww_iload_n 1 dX6_told_0 rfl 1 rfl rfl ?_
  refine ww_i2l 2 dX6_told_1 rfl ?_
  refine ww_lconst (v := lN 0) 3 dX6_told_2 (by decide) rfl ?_
  refine ww_ldc2 6 dX6_told_3 rfl wk_X6_70 ?_
  obtain ⟨Q1, hT, h⟩ := h
  refine ww_invSI (d' := mX6_in) [.inr (.inl (a1.toInt64)), .inr (.inl (lN 0)), .inr (.inl (lN 7))] rfl 9 dX6_told_6 ⟨wi_X6, wc_X6_in, wp_X6_in, by decide, by decide⟩ (Or.inl wl_X6_66) wn_X6_in (Nat.le_of_ble_eq_true rfl) rfl hT (fun v2 τ3 hq => ?_)
  replace h := h v2 τ3 hq
  refine ww_if_eq 20 12 dX6_told_9 (by decide) rfl (fun c => ?_) (fun c => ?_)
  · replace h := h.1 c
    refine ww_aload_n 21 dX6_told_20 rfl 0 rfl rfl ?_
    obtain ⟨Q4, hT, h⟩ := h
    refine ww_invVI (d' := mX6_bad) [] rfl 24 dX6_told_21 ⟨wi_X6, wc_X6_bad, wp_X6_bad, by decide, by decide⟩ wl_X6_133 wn_X6_bad we_X6_bad (ww_i1 30 (by decide)) rfl rfl (Nat.le_of_ble_eq_true rfl) rfl hT (fun v5 τ6 hq => ?_)
    replace h := h v5 τ6 hq
    exact ww_iret dX6_told_24 rfl ⟨_, rfl, h⟩
  · replace h := h.2 c
    refine ww_aload_n 13 dX6_told_12 rfl 0 rfl rfl ?_
    refine ww_iload_n 14 dX6_told_13 rfl 1 rfl rfl ?_
    obtain ⟨Q7, hT, h⟩ := h
    refine ww_invVI (d' := mX6_toldOf) [.inl a1] rfl 17 dX6_told_14 ⟨wi_X6, wc_X6_toldOf, wp_X6_toldOf, by decide, by decide⟩ wl_X6_315 wn_X6_toldOf we_X6_toldOf (ww_i1 30 (by decide)) rfl rfl (Nat.le_of_ble_eq_true rfl) rfl hT (fun v8 τ9 hq => ?_)
    replace h := h v8 τ9 hq
    refine ww_goto 24 dX6_told_17 (by decide) ?_
    exact ww_iret dX6_told_24 rfl ⟨_, rfl, h⟩
theorem b_X6_sums {l : Launch} {g : ww_G} {τ : ww_M} {a0 : Int64} {n2 : ww_N} {len_n2 : Nat} {a3 : Int32} {a4 : Int32} {Post : Int64 → ww_M → Prop} (hn_n2 : ww_in n2) (hs_n2 : ww_sh n2 = .inr (.inl len_n2)) (hl_n2 : len_n2 < 2147483648) (h : ∀ E : ww_E, ww_W g mX6_sums E (ww_QL Post) 14 [none, none, some (.inr (.inr n2)), some (.inl a3), some (.inl a4), some (.inr (.inl (((lN 31) * a0) + a4.toInt64))), none, some (.inl (nI 0))] [] τ) : ww_T l g mX6_sums [.inr (.inl (a0)), .inr (.inr n2), .inl a3, .inl a4] τ (ww_QL Post) := by
  refine ww_enter (P := [some (.inr (.inl (a0))), none, some (.inr (.inr n2)), some (.inl a3), some (.inl a4), none, none, none]) (by decide) (Nat.le_of_ble_eq_true rfl) rfl (fun E => ?_)
  replace h := h E
  refine ww_ldc2 3 dX6_sums_0 rfl wk_X6_318 ?_
  refine ww_lload_n 4 dX6_sums_3 rfl 0 rfl rfl ?_
  refine ww_lmul 5 dX6_sums_4 rfl ?_
  refine ww_iload 7 4 dX6_sums_5 rfl rfl ?_
  refine ww_i2l 8 dX6_sums_7 rfl ?_
  refine ww_ladd 9 dX6_sums_8 rfl ?_
  refine ww_lstore 11 5 dX6_sums_9 rfl (by decide) rfl [some (.inr (.inl (a0))), none, some (.inr (.inr n2)), some (.inl a3), some (.inl a4), some (.inr (.inl (((lN 31) * a0) + a4.toInt64))), none, none] rfl ?_
  refine ww_iconst (v := nI 0) 12 dX6_sums_11 (by decide) rfl ?_
  refine ww_istore 14 7 dX6_sums_12 rfl (by decide) rfl [some (.inr (.inl (a0))), none, some (.inr (.inr n2)), some (.inl a3), some (.inl a4), some (.inr (.inl (((lN 31) * a0) + a4.toInt64))), none, some (.inl (nI 0))] rfl ?_
  exact ww_weak (ww_le_n (ww_le_n (ww_le_s (ww_le_s (ww_le_s (ww_le_s (ww_le_n (ww_le_s (ww_le_nil _))))))))) h
theorem b_X6_sums_14 {g : ww_G} {E : ww_E} {τ : ww_M} {n2 : ww_N} {len_n2 : Nat} {x3 : Int32} {x4 : Int32} {x5 : Int64} {x7 : Int32} {Post : Int64 → ww_M → Prop} (hn_n2 : ww_in n2) (hs_n2 : ww_sh n2 = .inr (.inl len_n2)) (hl_n2 : len_n2 < 2147483648) (h : ((x4 ≤ x7 → Post x5 τ) ∧ (¬ (x4 ≤ x7) → (∃ j1 : Nat, x3 + x7 = nI j1 ∧ j1 < len_n2 ∧ ww_W g mX6_sums E (ww_QL Post) 14 [none, none, some (.inr (.inr n2)), some (.inl x3), some (.inl x4), some (.inr (.inl (((lN 31) * x5) + ((τ n2 j1).toInt64)))), none, some (.inl (x7 + nI 1))] [] τ)))) : ww_W g mX6_sums E (ww_QL Post) 14 [none, none, some (.inr (.inr n2)), some (.inl x3), some (.inl x4), some (.inr (.inl (x5))), none, some (.inl x7)] [] τ := by
  refine ww_iload 16 7 dX6_sums_14 rfl rfl ?_
  refine ww_iload 18 4 dX6_sums_16 rfl rfl ?_
  refine ww_ic_ge 43 21 dX6_sums_18 (by decide) rfl (fun c => ?_) (fun c => ?_)
  · replace h := h.1 c
    refine ww_lload 45 5 dX6_sums_43 rfl rfl ?_
    exact ww_lret dX6_sums_45 rfl ⟨_, rfl, h⟩
  · replace h := h.2 c
    refine ww_ldc2 24 dX6_sums_21 rfl wk_X6_318 ?_
    refine ww_lload 26 5 dX6_sums_24 rfl rfl ?_
    refine ww_lmul 27 dX6_sums_26 rfl ?_
    refine ww_aload_n 28 dX6_sums_27 rfl 2 rfl rfl ?_
    refine ww_iload_n 29 dX6_sums_28 rfl 3 rfl rfl ?_
    refine ww_iload 31 7 dX6_sums_29 rfl rfl ?_
    refine ww_iadd 32 dX6_sums_31 rfl ?_
    obtain ⟨j1, hij1, hj1, h⟩ := h
    refine ww_iald j1 33 dX6_sums_32 hn_n2 hs_n2 hl_n2 hij1 hj1 rfl ?_
    refine ww_i2l 34 dX6_sums_33 rfl ?_
    refine ww_ladd 35 dX6_sums_34 rfl ?_
    refine ww_lstore 37 5 dX6_sums_35 rfl (by decide) rfl [none, none, some (.inr (.inr n2)), some (.inl x3), some (.inl x4), some (.inr (.inl (((lN 31) * x5) + ((τ n2 j1).toInt64)))), none, some (.inl x7)] rfl ?_
    refine ww_iinc (nI 1) 40 7 dX6_sums_37 (by decide) rfl rfl (by decide) rfl [none, none, some (.inr (.inr n2)), some (.inl x3), some (.inl x4), some (.inr (.inl (((lN 31) * x5) + ((τ n2 j1).toInt64)))), none, some (.inl (x7 + nI 1))] rfl ?_
    refine ww_goto 14 dX6_sums_40 (by decide) ?_
    exact h
theorem b_X6_digest {l : Launch} {g : ww_G} {τ : ww_M}  {Post : Int64 → ww_M → Prop}  (h : ∀ E : ww_E, ww_W g mX6_digest E (ww_QL Post) 6 [some (.inr (.inr (30, 0))), some (.inr (.inl (lN 1907))), none, some (.inl (nI 0))] [] τ) : ww_T l g mX6_digest [.inr (.inr (30, 0))] τ (ww_QL Post) := by
  refine ww_enter (P := [some (.inr (.inr (30, 0))), none, none, none]) (by decide) (Nat.le_of_ble_eq_true rfl) rfl (fun E => ?_)
  replace h := h E
  refine ww_ldc2 3 dX6_digest_0 rfl wk_X6_320 ?_
  refine ww_lstore_n 4 dX6_digest_3 rfl 1 rfl (by decide) rfl [some (.inr (.inr (30, 0))), some (.inr (.inl (lN 1907))), none, none] rfl ?_
  refine ww_iconst (v := nI 0) 5 dX6_digest_4 (by decide) rfl ?_
  refine ww_istore_n 6 dX6_digest_5 rfl 3 rfl (by decide) rfl [some (.inr (.inr (30, 0))), some (.inr (.inl (lN 1907))), none, some (.inl (nI 0))] rfl ?_
  exact h
theorem b_X6_digest_6 {g : ww_G} {E : ww_E} {τ : ww_M} {x1 : Int64} {x3 : Int32} {Post : Int64 → ww_M → Prop}  (h : ((nI 8 ≤ x3 → ww_W g mX6_digest E (ww_QL Post) 33 [some (.inr (.inr (30, 0))), some (.inr (.inl (x1))), none, some (.inl (nI 0))] [] τ) ∧ (¬ (nI 8 ≤ x3) → (∃ Q1 : Int32 → ww_M → Prop, ww_T E.2.1 g mX6_toldOf [.inr (.inr (30, 0)), .inl x3] τ (ww_QI Q1) ∧ ∀ (v2 : Int32) (τ3 : ww_M), Q1 v2 τ3 → ww_W g mX6_digest E (ww_QL Post) 6 [some (.inr (.inr (30, 0))), some (.inr (.inl (((lN 31) * x1) + v2.toInt64))), none, some (.inl (x3 + nI 1))] [] τ3)))) : ww_W g mX6_digest E (ww_QL Post) 6 [some (.inr (.inr (30, 0))), some (.inr (.inl (x1))), none, some (.inl x3)] [] τ := by
  refine ww_iload_n 7 dX6_digest_6 rfl 3 rfl rfl ?_
  refine ww_bipush (v := nI 8) 9 dX6_digest_7 (by decide) rfl ?_
  refine ww_ic_ge 31 12 dX6_digest_9 (by decide) rfl (fun c => ?_) (fun c => ?_)
  · replace h := h.1 c
    refine ww_iconst (v := nI 0) 32 dX6_digest_31 (by decide) rfl ?_
    refine ww_istore_n 33 dX6_digest_32 rfl 3 rfl (by decide) rfl [some (.inr (.inr (30, 0))), some (.inr (.inl (x1))), none, some (.inl (nI 0))] rfl ?_
    exact h
  · replace h := h.2 c
    refine ww_ldc2 15 dX6_digest_12 rfl wk_X6_318 ?_
    refine ww_lload_n 16 dX6_digest_15 rfl 1 rfl rfl ?_
    refine ww_lmul 17 dX6_digest_16 rfl ?_
    refine ww_aload_n 18 dX6_digest_17 rfl 0 rfl rfl ?_
    refine ww_iload_n 19 dX6_digest_18 rfl 3 rfl rfl ?_
    obtain ⟨Q1, hT, h⟩ := h
    refine ww_invVI (d' := mX6_toldOf) [.inl x3] rfl 22 dX6_digest_19 ⟨wi_X6, wc_X6_toldOf, wp_X6_toldOf, by decide, by decide⟩ wl_X6_315 wn_X6_toldOf we_X6_toldOf (ww_i1 30 (by decide)) rfl rfl (Nat.le_of_ble_eq_true rfl) rfl hT (fun v2 τ3 hq => ?_)
    replace h := h v2 τ3 hq
    refine ww_i2l 23 dX6_digest_22 rfl ?_
    refine ww_ladd 24 dX6_digest_23 rfl ?_
    refine ww_lstore_n 25 dX6_digest_24 rfl 1 rfl (by decide) rfl [some (.inr (.inr (30, 0))), some (.inr (.inl (((lN 31) * x1) + v2.toInt64))), none, some (.inl x3)] rfl ?_
    refine ww_iinc (nI 1) 28 3 dX6_digest_25 (by decide) rfl rfl (by decide) rfl [some (.inr (.inr (30, 0))), some (.inr (.inl (((lN 31) * x1) + v2.toInt64))), none, some (.inl (x3 + nI 1))] rfl ?_
    refine ww_goto 6 dX6_digest_28 (by decide) ?_
    exact h
theorem b_X6_digest_33 {g : ww_G} {E : ww_E} {τ : ww_M} {x1 : Int64} {x3 : Int32} {Post : Int64 → ww_M → Prop}  (h : ((τ (30, 0) 2 ≤ x3 → ww_W g mX6_digest E (ww_QL Post) 68 [some (.inr (.inr (30, 0))), some (.inr (.inl (x1))), none, some (.inl (nI 0))] [] τ) ∧ (¬ (τ (30, 0) 2 ≤ x3) → (∃ j1 : Nat, x3 = nI j1 ∧ j1 < 3 ∧ (∃ Q2 : Int64 → ww_M → Prop, ww_T E.2.1 g mX6_sums [.inr (.inl (x1)), .inr (.inr (31, 0)), .inl ((nI 14) * x3), .inl (τ (32, 0) j1)] τ (ww_QL Q2) ∧ ∀ (v3 : Int64) (τ4 : ww_M), Q2 v3 τ4 → ww_W g mX6_digest E (ww_QL Post) 33 [some (.inr (.inr (30, 0))), some (.inr (.inl (v3))), none, some (.inl (x3 + nI 1))] [] τ4))))) : ww_W g mX6_digest E (ww_QL Post) 33 [some (.inr (.inr (30, 0))), some (.inr (.inl (x1))), none, some (.inl x3)] [] τ := by
  refine ww_iload_n 34 dX6_digest_33 rfl 3 rfl rfl ?_
  refine ww_aload_n 35 dX6_digest_34 rfl 0 rfl rfl ?_
  refine ww_getI 2 38 dX6_digest_35 wf_X6_109 (ww_i1 30 (by decide)) rfl rfl rfl ?_
  refine ww_ic_ge 66 41 dX6_digest_38 (by decide) rfl (fun c => ?_) (fun c => ?_)
  · replace h := h.1 c
    refine ww_iconst (v := nI 0) 67 dX6_digest_66 (by decide) rfl ?_
    refine ww_istore_n 68 dX6_digest_67 rfl 3 rfl (by decide) rfl [some (.inr (.inr (30, 0))), some (.inr (.inl (x1))), none, some (.inl (nI 0))] rfl ?_
    exact h
  · replace h := h.2 c
    refine ww_lload_n 42 dX6_digest_41 rfl 1 rfl rfl ?_
    refine ww_aload_n 43 dX6_digest_42 rfl 0 rfl rfl ?_
    refine ww_getR 0 46 dX6_digest_43 wf_X6_7 (ww_i1 30 (by decide)) rfl rfl rfl ?_
    refine ww_bipush (v := nI 14) 48 dX6_digest_46 (by decide) rfl ?_
    refine ww_iload_n 49 dX6_digest_48 rfl 3 rfl rfl ?_
    refine ww_imul 50 dX6_digest_49 rfl ?_
    refine ww_aload_n 51 dX6_digest_50 rfl 0 rfl rfl ?_
    refine ww_getR 1 54 dX6_digest_51 wf_X6_13 (ww_i1 30 (by decide)) rfl rfl rfl ?_
    refine ww_iload_n 55 dX6_digest_54 rfl 3 rfl rfl ?_
    obtain ⟨j1, hij1, hj1, h⟩ := h
    refine ww_iald j1 56 dX6_digest_55 (ww_i1 32 (by decide)) rfl (by decide) hij1 hj1 rfl ?_
    obtain ⟨Q2, hT, h⟩ := h
    refine ww_invSL (d' := mX6_sums) [.inr (.inl (x1)), .inr (.inr (31, 0)), .inl ((nI 14) * x3), .inl (τ (32, 0) j1)] rfl 59 dX6_digest_56 ⟨wi_X6, wc_X6_sums, wp_X6_sums, by decide, by decide⟩ (Or.inl wl_X6_322) wn_X6_sums (Nat.le_of_ble_eq_true rfl) rfl hT (fun v3 τ4 hq => ?_)
    replace h := h v3 τ4 hq
    refine ww_lstore_n 60 dX6_digest_59 rfl 1 rfl (by decide) rfl [some (.inr (.inr (30, 0))), some (.inr (.inl (v3))), none, some (.inl x3)] rfl ?_
    refine ww_iinc (nI 1) 63 3 dX6_digest_60 (by decide) rfl rfl (by decide) rfl [some (.inr (.inr (30, 0))), some (.inr (.inl (v3))), none, some (.inl (x3 + nI 1))] rfl ?_
    refine ww_goto 33 dX6_digest_63 (by decide) ?_
    exact h
theorem b_X6_digest_68 {g : ww_G} {E : ww_E} {τ : ww_M} {x1 : Int64} {x3 : Int32} {Post : Int64 → ww_M → Prop}  (h : ((nI 6 ≤ x3 → Post x1 τ) ∧ (¬ (nI 6 ≤ x3) → (∃ j1 : Nat, x3 = nI j1 ∧ j1 < 6 ∧ (∃ Q2 : Int64 → ww_M → Prop, ww_T E.2.1 g mX6_sums [.inr (.inl (x1)), .inr (.inr (36, 0)), .inl ((nI 60) * x3), .inl (τ (37, 0) j1)] τ (ww_QL Q2) ∧ ∀ (v3 : Int64) (τ4 : ww_M), Q2 v3 τ4 → ww_W g mX6_digest E (ww_QL Post) 68 [some (.inr (.inr (30, 0))), some (.inr (.inl (v3))), none, some (.inl (x3 + nI 1))] [] τ4))))) : ww_W g mX6_digest E (ww_QL Post) 68 [some (.inr (.inr (30, 0))), some (.inr (.inl (x1))), none, some (.inl x3)] [] τ := by
  refine ww_iload_n 69 dX6_digest_68 rfl 3 rfl rfl ?_
  refine ww_bipush (v := nI 6) 71 dX6_digest_69 (by decide) rfl ?_
  refine ww_ic_ge 99 74 dX6_digest_71 (by decide) rfl (fun c => ?_) (fun c => ?_)
  · replace h := h.1 c
    refine ww_lload_n 100 dX6_digest_99 rfl 1 rfl rfl ?_
    exact ww_lret dX6_digest_100 rfl ⟨_, rfl, h⟩
  · replace h := h.2 c
    refine ww_lload_n 75 dX6_digest_74 rfl 1 rfl rfl ?_
    refine ww_aload_n 76 dX6_digest_75 rfl 0 rfl rfl ?_
    refine ww_getR 7 79 dX6_digest_76 wf_X6_25 (ww_i1 30 (by decide)) rfl rfl rfl ?_
    refine ww_bipush (v := nI 60) 81 dX6_digest_79 (by decide) rfl ?_
    refine ww_iload_n 82 dX6_digest_81 rfl 3 rfl rfl ?_
    refine ww_imul 83 dX6_digest_82 rfl ?_
    refine ww_aload_n 84 dX6_digest_83 rfl 0 rfl rfl ?_
    refine ww_getR 8 87 dX6_digest_84 wf_X6_28 (ww_i1 30 (by decide)) rfl rfl rfl ?_
    refine ww_iload_n 88 dX6_digest_87 rfl 3 rfl rfl ?_
    obtain ⟨j1, hij1, hj1, h⟩ := h
    refine ww_iald j1 89 dX6_digest_88 (ww_i1 37 (by decide)) rfl (by decide) hij1 hj1 rfl ?_
    obtain ⟨Q2, hT, h⟩ := h
    refine ww_invSL (d' := mX6_sums) [.inr (.inl (x1)), .inr (.inr (36, 0)), .inl ((nI 60) * x3), .inl (τ (37, 0) j1)] rfl 92 dX6_digest_89 ⟨wi_X6, wc_X6_sums, wp_X6_sums, by decide, by decide⟩ (Or.inl wl_X6_322) wn_X6_sums (Nat.le_of_ble_eq_true rfl) rfl hT (fun v3 τ4 hq => ?_)
    replace h := h v3 τ4 hq
    refine ww_lstore_n 93 dX6_digest_92 rfl 1 rfl (by decide) rfl [some (.inr (.inr (30, 0))), some (.inr (.inl (v3))), none, some (.inl x3)] rfl ?_
    refine ww_iinc (nI 1) 96 3 dX6_digest_93 (by decide) rfl rfl (by decide) rfl [some (.inr (.inr (30, 0))), some (.inr (.inl (v3))), none, some (.inl (x3 + nI 1))] rfl ?_
    refine ww_goto 68 dX6_digest_96 (by decide) ?_
    exact h
