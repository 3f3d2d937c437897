theorem b_X5_type {l : Launch} {g : ww_G} {τ : ww_M} {a1 : Int32} {Post : Int32 → ww_M → Prop}  (h : ∀ E : ww_E, ((a1 < nI 0 → (∃ Q1 : Int32 → ww_M → Prop, ww_T E.2.1 g mX5_refuse [.inr (.inr (0, 0)), .inl (-2 : Int32)] τ (ww_QI Q1) ∧ ∀ (v2 : Int32) (τ3 : ww_M), Q1 v2 τ3 → Post v2 τ3)) ∧ (¬ (a1 < nI 0) → ((a1 ≤ nI 127 → (∃ Q4 : Int32 → ww_M → Prop, ww_T E.2.1 g mX4_accept [.inr (.inr (2, 0)), .inl a1] τ (ww_QI Q4) ∧ ∀ (v5 : Int32) (τ6 : ww_M), Q4 v5 τ6 → (v5 = nI 0 → (∃ Q7 : Int32 → ww_M → Prop, ww_T E.2.1 g mX5_refuse [.inr (.inr (0, 0)), .inl (-4 : Int32)] τ6 (ww_QI Q7) ∧ ∀ (v8 : Int32) (τ9 : ww_M), Q7 v8 τ9 → Post v8 τ9)) ∧ (¬ v5 = nI 0 → Post (τ6 (2, 0) 1) τ6))) ∧ (¬ (a1 ≤ nI 127) → (∃ Q10 : Int32 → ww_M → Prop, ww_T E.2.1 g mX5_refuse [.inr (.inr (0, 0)), .inl (-2 : Int32)] τ (ww_QI Q10) ∧ ∀ (v11 : Int32) (τ12 : ww_M), Q10 v11 τ12 → Post v11 τ12)))))) : ww_T l g mX5_type [.inr (.inr (0, 0)), .inl a1] τ (ww_QI Post) := by
  refine ww_enter (P := [some (.inr (.inr (0, 0))), some (.inl a1)]) (by decide) (Nat.le_of_ble_eq_true rfl) rfl (fun E => ?_)
  replace h := h E
  refine ww_iload_n 1 dX5_type_0 rfl 1 rfl rfl ?_
  refine ww_if_lt 10 4 dX5_type_1 (by decide) rfl (fun c => ?_) (fun c => ?_)
  · replace h := h.1 c
    refine ww_aload_n 11 dX5_type_10 rfl 0 rfl rfl ?_
    refine ww_bipush (v := (-2 : Int32)) 13 dX5_type_11 (by decide) rfl ?_
    obtain ⟨Q1, hT, h⟩ := h
    refine ww_invVI (d' := mX5_refuse) [.inl (-2 : Int32)] rfl 16 dX5_type_13 ⟨wi_X5, wc_X5_refuse, wp_X5_refuse, by decide, by decide⟩ wl_X5_58 wn_X5_refuse we_X5_refuse (ww_i1 0 (by decide)) rfl rfl (Nat.le_of_ble_eq_true rfl) rfl hT (fun v2 τ3 hq => ?_)
    replace h := h v2 τ3 hq
    exact ww_iret dX5_type_16 rfl ⟨_, rfl, h⟩
  · replace h := h.2 c
    refine ww_iload_n 5 dX5_type_4 rfl 1 rfl rfl ?_
    refine ww_bipush (v := nI 127) 7 dX5_type_5 (by decide) rfl ?_
    refine ww_ic_le 17 10 dX5_type_7 (by decide) rfl (fun c => ?_) (fun c => ?_)
    · replace h := h.1 c
      refine ww_aload_n 18 dX5_type_17 rfl 0 rfl rfl ?_
      refine ww_getR 1 21 dX5_type_18 wf_X5_21 (ww_i1 0 (by decide)) rfl rfl rfl ?_
      refine ww_iload_n 22 dX5_type_21 rfl 1 rfl rfl ?_
      obtain ⟨Q4, hT, h⟩ := h
      refine ww_invVI (d' := mX4_accept) [.inl a1] rfl 25 dX5_type_22 ⟨wi_X4, wc_X4_accept, wp_X4_accept, by decide, by decide⟩ wl_X5_62 wn_X4_accept we_X4_accept (ww_i1 2 (by decide)) rfl rfl (Nat.le_of_ble_eq_true rfl) rfl hT (fun v5 τ6 hq => ?_)
      replace h := h v5 τ6 hq
      refine ww_if_eq 38 28 dX5_type_25 (by decide) rfl (fun c => ?_) (fun c => ?_)
      · replace h := h.1 c
        refine ww_aload_n 39 dX5_type_38 rfl 0 rfl rfl ?_
        refine ww_bipush (v := (-4 : Int32)) 41 dX5_type_39 (by decide) rfl ?_
        obtain ⟨Q7, hT, h⟩ := h
        refine ww_invVI (d' := mX5_refuse) [.inl (-4 : Int32)] rfl 44 dX5_type_41 ⟨wi_X5, wc_X5_refuse, wp_X5_refuse, by decide, by decide⟩ wl_X5_58 wn_X5_refuse we_X5_refuse (ww_i1 0 (by decide)) rfl rfl (Nat.le_of_ble_eq_true rfl) rfl hT (fun v8 τ9 hq => ?_)
        replace h := h v8 τ9 hq
        exact ww_iret dX5_type_44 rfl ⟨_, rfl, h⟩
      · replace h := h.2 c
        refine ww_aload_n 29 dX5_type_28 rfl 0 rfl rfl ?_
        refine ww_getR 1 32 dX5_type_29 wf_X5_21 (ww_i1 0 (by decide)) rfl rfl rfl ?_
        refine ww_getI 1 35 dX5_type_32 wf_X5_66 (ww_i1 2 (by decide)) rfl rfl rfl ?_
        refine ww_goto 44 dX5_type_35 (by decide) ?_
        exact ww_iret dX5_type_44 rfl ⟨_, rfl, h⟩
    · replace h := h.2 c
      refine ww_aload_n 11 dX5_type_10 rfl 0 rfl rfl ?_
      refine ww_bipush (v := (-2 : Int32)) 13 dX5_type_11 (by decide) rfl ?_
      obtain ⟨Q10, hT, h⟩ := h
      refine ww_invVI (d' := mX5_refuse) [.inl (-2 : Int32)] rfl 16 dX5_type_13 ⟨wi_X5, wc_X5_refuse, wp_X5_refuse, by decide, by decide⟩ wl_X5_58 wn_X5_refuse we_X5_refuse (ww_i1 0 (by decide)) rfl rfl (Nat.le_of_ble_eq_true rfl) rfl hT (fun v11 τ12 hq => ?_)
      replace h := h v11 τ12 hq
      exact ww_iret dX5_type_16 rfl ⟨_, rfl, h⟩
theorem b_X5_clear {l : Launch} {g : ww_G} {τ : ww_M}  {Post : Int32 → ww_M → Prop}  (h : ∀ E : ww_E, (∀ τ1 : ww_M, τ1 = ww_up τ (2, 0) 1 (nI 0) → Post (τ (2, 0) 1) τ1)) : ww_T l g mX5_clear [.inr (.inr (0, 0))] τ (ww_QI Post) := by
  refine ww_enter (P := [some (.inr (.inr (0, 0))), none]) (by decide) (Nat.le_of_ble_eq_true rfl) rfl (fun E => ?_)
  replace h := h E
  refine ww_aload_n 1 dX5_clear_0 rfl 0 rfl rfl ?_
  refine ww_getR 1 4 dX5_clear_1 wf_X5_21 (ww_i1 0 (by decide)) rfl rfl rfl ?_
  refine ww_getI 1 7 dX5_clear_4 wf_X5_66 (ww_i1 2 (by decide)) rfl rfl rfl ?_
  refine ww_istore_n 8 dX5_clear_7 rfl 1 rfl (by decide) rfl [some (.inr (.inr (0, 0))), some (.inl (τ (2, 0) 1))] rfl ?_
  refine ww_aload_n 9 dX5_clear_8 rfl 0 rfl rfl ?_
  refine ww_getR 1 12 dX5_clear_9 wf_X5_21 (ww_i1 0 (by decide)) rfl rfl rfl ?_
  refine ww_iconst (v := nI 0) 13 dX5_clear_12 (by decide) rfl ?_
  refine ww_putI 1 16 dX5_clear_13 wf_X5_66 fp_X4_1 (ww_i1 2 (by decide)) rfl rfl rfl (fun τ1 eτ1 => ?_)
  replace h := h τ1 eτ1
  refine ww_iload_n 17 dX5_clear_16 rfl 1 rfl rfl ?_
  exact ww_iret dX5_clear_17 rfl ⟨_, rfl, h⟩
theorem b_X5_relators {l : Launch} {g : ww_G} {τ : ww_M}  {Post : Int32 → ww_M → Prop}  (h : ∀ E : ww_E, (∃ Q1 : Int32 → ww_M → Prop, ww_T E.2.1 g mX5_readText [.inr (.inr (0, 0)), .inl (nI 3), .inl (nI 1)] τ (ww_QI Q1) ∧ ∀ (v2 : Int32) (τ3 : ww_M), Q1 v2 τ3 → (v2 = (-1 : Int32) → (∃ Q4 : ww_M → Prop, ww_T E.2.1 g mX0_become [.inr (.inr (8, 0)), .inr (.inr (4, 0))] τ3 (ww_QV Q4) ∧ ∀ (τ5 : ww_M), Q4 τ5 → Post (τ5 (4, 0) 1) τ5)) ∧ (¬ v2 = (-1 : Int32) → Post ((-10 : Int32) - v2) τ3))) : ww_T l g mX5_relators [.inr (.inr (0, 0))] τ (ww_QI Post) := by
  refine ww_enter (P := [some (.inr (.inr (0, 0))), none]) (by decide) (Nat.le_of_ble_eq_true rfl) rfl (fun E => ?_)
  replace h := h E
  refine ww_aload_n 1 dX5_relators_0 rfl 0 rfl rfl ?_
  refine ww_iconst (v := nI 3) 2 dX5_relators_1 (by decide) rfl ?_
  refine ww_iconst (v := nI 1) 3 dX5_relators_2 (by decide) rfl ?_
  obtain ⟨Q1, hT, h⟩ := h
  refine ww_invVI (d' := mX5_readText) [.inl (nI 3), .inl (nI 1)] rfl 6 dX5_relators_3 ⟨wi_X5, wc_X5_readText, wp_X5_readText, by decide, by decide⟩ wl_X5_70 wn_X5_readText we_X5_readText (ww_i1 0 (by decide)) rfl rfl (Nat.le_of_ble_eq_true rfl) rfl hT (fun v2 τ3 hq => ?_)
  replace h := h v2 τ3 hq
  refine ww_istore_n 7 dX5_relators_6 rfl 1 rfl (by decide) rfl [some (.inr (.inr (0, 0))), some (.inl v2)] rfl ?_
  refine ww_iload_n 8 dX5_relators_7 rfl 1 rfl rfl ?_
  refine ww_iconst (v := (-1 : Int32)) 9 dX5_relators_8 (by decide) rfl ?_
  refine ww_ic_eq 17 12 dX5_relators_9 (by decide) rfl (fun c => ?_) (fun c => ?_)
  · replace h := h.1 c
    refine ww_aload_n 18 dX5_relators_17 rfl 0 rfl rfl ?_
    refine ww_getR 3 21 dX5_relators_18 wf_X5_35 (ww_i1 0 (by decide)) rfl rfl rfl ?_
    refine ww_aload_n 22 dX5_relators_21 rfl 0 rfl rfl ?_
    refine ww_getR 2 25 dX5_relators_22 wf_X5_28 (ww_i1 0 (by decide)) rfl rfl rfl ?_
    obtain ⟨Q4, hT, h⟩ := h
    refine ww_invVV (d' := mX0_become) [.inr (.inr (4, 0))] rfl 28 dX5_relators_25 ⟨wi_X0, wc_X0_become, wp_X0_become, by decide, by decide⟩ wl_X5_74 wn_X0_become we_X0_become (ww_i1 8 (by decide)) rfl rfl (Nat.le_of_ble_eq_true rfl) rfl hT (fun τ5 hq => ?_)
    replace h := h τ5 hq
    refine ww_aload_n 29 dX5_relators_28 rfl 0 rfl rfl ?_
    refine ww_getR 2 32 dX5_relators_29 wf_X5_28 (ww_i1 0 (by decide)) rfl rfl rfl ?_
    refine ww_getI 1 35 dX5_relators_32 wf_X5_78 (ww_i1 4 (by decide)) rfl rfl rfl ?_
    exact ww_iret dX5_relators_35 rfl ⟨_, rfl, h⟩
  · replace h := h.2 c
    refine ww_bipush (v := (-10 : Int32)) 14 dX5_relators_12 (by decide) rfl ?_
    refine ww_iload_n 15 dX5_relators_14 rfl 1 rfl rfl ?_
    refine ww_isub 16 dX5_relators_15 rfl ?_
    exact ww_iret dX5_relators_16 rfl ⟨_, rfl, h⟩
theorem b_X5_words {l : Launch} {g : ww_G} {τ : ww_M} {a1 : Int32} {Post : Int32 → ww_M → Prop}  (h : ∀ E : ww_E, (∃ Q1 : Int32 → ww_M → Prop, ww_T E.2.1 g mX5_isWord [.inl a1] τ (ww_QI Q1) ∧ ∀ (v2 : Int32) (τ3 : ww_M), Q1 v2 τ3 → (¬ v2 = nI 0 → (∃ Q4 : Int32 → ww_M → Prop, ww_T E.2.1 g mX5_readText [.inr (.inr (0, 0)), .inl ((nI 6) - a1), .inl (nI 0)] τ3 (ww_QI Q4) ∧ ∀ (v5 : Int32) (τ6 : ww_M), Q4 v5 τ6 → (v5 = (-1 : Int32) → ww_W g mX5_words E (ww_QI Post) 36 [some (.inr (.inr (0, 0))), some (.inl a1), none, some (.inl (nI 0))] [] τ6) ∧ (¬ v5 = (-1 : Int32) → Post ((-10 : Int32) - v5) τ6))) ∧ (v2 = nI 0 → (∃ Q7 : Int32 → ww_M → Prop, ww_T E.2.1 g mX5_refuse [.inr (.inr (0, 0)), .inl (-2 : Int32)] τ3 (ww_QI Q7) ∧ ∀ (v8 : Int32) (τ9 : ww_M), Q7 v8 τ9 → Post v8 τ9)))) : ww_T l g mX5_words [.inr (.inr (0, 0)), .inl a1] τ (ww_QI Post) := by
  refine ww_enter (P := [some (.inr (.inr (0, 0))), some (.inl a1), none, none]) (by decide) (Nat.le_of_ble_eq_true rfl) rfl (fun E => ?_)
  replace h := h E
  refine ww_iload_n 1 dX5_words_0 rfl 1 rfl rfl ?_
  obtain ⟨Q1, hT, h⟩ := h
  refine ww_invSI (d' := mX5_isWord) [.inl a1] rfl 4 dX5_words_1 ⟨wi_X5, wc_X5_isWord, wp_X5_isWord, by decide, by decide⟩ (Or.inl wl_X5_81) wn_X5_isWord (Nat.le_of_ble_eq_true rfl) rfl hT (fun v2 τ3 hq => ?_)
  replace h := h v2 τ3 hq
  refine ww_if_ne 14 7 dX5_words_4 (by decide) rfl (fun c => ?_) (fun c => ?_)
  · replace h := h.1 c
    refine ww_aload_n 15 dX5_words_14 rfl 0 rfl rfl ?_
    refine ww_bipush (v := nI 6) 17 dX5_words_15 (by decide) rfl ?_
    refine ww_iload_n 18 dX5_words_17 rfl 1 rfl rfl ?_
    refine ww_isub 19 dX5_words_18 rfl ?_
    refine ww_iconst (v := nI 0) 20 dX5_words_19 (by decide) rfl ?_
    obtain ⟨Q4, hT, h⟩ := h
    refine ww_invVI (d' := mX5_readText) [.inl ((nI 6) - a1), .inl (nI 0)] rfl 23 dX5_words_20 ⟨wi_X5, wc_X5_readText, wp_X5_readText, by decide, by decide⟩ wl_X5_70 wn_X5_readText we_X5_readText (ww_i1 0 (by decide)) rfl rfl (Nat.le_of_ble_eq_true rfl) rfl hT (fun v5 τ6 hq => ?_)
    replace h := h v5 τ6 hq
    refine ww_istore_n 24 dX5_words_23 rfl 2 rfl (by decide) rfl [some (.inr (.inr (0, 0))), some (.inl a1), some (.inl v5), none] rfl ?_
    refine ww_iload_n 25 dX5_words_24 rfl 2 rfl rfl ?_
    refine ww_iconst (v := (-1 : Int32)) 26 dX5_words_25 (by decide) rfl ?_
    refine ww_ic_eq 34 29 dX5_words_26 (by decide) rfl (fun c => ?_) (fun c => ?_)
    · replace h := h.1 c
      refine ww_iconst (v := nI 0) 35 dX5_words_34 (by decide) rfl ?_
      refine ww_istore_n 36 dX5_words_35 rfl 3 rfl (by decide) rfl [some (.inr (.inr (0, 0))), some (.inl a1), some (.inl v5), some (.inl (nI 0))] rfl ?_
      exact ww_weak (ww_le_s (ww_le_s (ww_le_n (ww_le_s (ww_le_nil _))))) h
    · replace h := h.2 c
      refine ww_bipush (v := (-10 : Int32)) 31 dX5_words_29 (by decide) rfl ?_
      refine ww_iload_n 32 dX5_words_31 rfl 2 rfl rfl ?_
      refine ww_isub 33 dX5_words_32 rfl ?_
      exact ww_iret dX5_words_33 rfl ⟨_, rfl, h⟩
  · replace h := h.2 c
    refine ww_aload_n 8 dX5_words_7 rfl 0 rfl rfl ?_
    refine ww_bipush (v := (-2 : Int32)) 10 dX5_words_8 (by decide) rfl ?_
    obtain ⟨Q7, hT, h⟩ := h
    refine ww_invVI (d' := mX5_refuse) [.inl (-2 : Int32)] rfl 13 dX5_words_10 ⟨wi_X5, wc_X5_refuse, wp_X5_refuse, by decide, by decide⟩ wl_X5_58 wn_X5_refuse we_X5_refuse (ww_i1 0 (by decide)) rfl rfl (Nat.le_of_ble_eq_true rfl) rfl hT (fun v8 τ9 hq => ?_)
    replace h := h v8 τ9 hq
    exact ww_iret dX5_words_13 rfl ⟨_, rfl, h⟩
theorem b_X5_words_36 {g : ww_G} {E : ww_E} {τ : ww_M} {x1 : Int32} {x3 : Int32} {Post : Int32 → ww_M → Prop}  (h : ((τ (4, 0) 1 ≤ x3 → Post (τ (4, 0) 1) τ) ∧ (¬ (τ (4, 0) 1 ≤ x3) → ((nI 6 ≤ x1 + x3 → Post (τ (4, 0) 1) τ) ∧ (¬ (nI 6 ≤ x1 + x3) → (∃ j1 : Nat, x1 + x3 = nI j1 ∧ j1 < 6 ∧ (∃ j2 : Nat, x3 = nI j2 ∧ j2 < 6 ∧ (∃ Q3 : ww_M → Prop, ww_T E.2.1 g mX2_copy [.inr (.inr (21, j1)), .inr (.inr (21, 6 + j2))] τ (ww_QV Q3) ∧ ∀ (τ4 : ww_M), Q3 τ4 → ww_W g mX5_words E (ww_QI Post) 36 [some (.inr (.inr (0, 0))), some (.inl x1), none, some (.inl (x3 + nI 1))] [] τ4)))))))) : ww_W g mX5_words E (ww_QI Post) 36 [some (.inr (.inr (0, 0))), some (.inl x1), none, some (.inl x3)] [] τ := by
  refine ww_iload_n 37 dX5_words_36 rfl 3 rfl rfl ?_
  refine ww_aload_n 38 dX5_words_37 rfl 0 rfl rfl ?_
  refine ww_getR 2 41 dX5_words_38 wf_X5_28 (ww_i1 0 (by decide)) rfl rfl rfl ?_
  refine ww_getI 1 44 dX5_words_41 wf_X5_78 (ww_i1 4 (by decide)) rfl rfl rfl ?_
  refine ww_ic_ge 81 47 dX5_words_44 (by decide) rfl (fun c => ?_) (fun c => ?_)
  · replace h := h.1 c
    refine ww_aload_n 82 dX5_words_81 rfl 0 rfl rfl ?_
    refine ww_getR 2 85 dX5_words_82 wf_X5_28 (ww_i1 0 (by decide)) rfl rfl rfl ?_
    refine ww_getI 1 88 dX5_words_85 wf_X5_78 (ww_i1 4 (by decide)) rfl rfl rfl ?_
    exact ww_iret dX5_words_88 rfl ⟨_, rfl, h⟩
  · replace h := h.2 c
    refine ww_iload_n 48 dX5_words_47 rfl 1 rfl rfl ?_
    refine ww_iload_n 49 dX5_words_48 rfl 3 rfl rfl ?_
    refine ww_iadd 50 dX5_words_49 rfl ?_
    refine ww_bipush (v := nI 6) 52 dX5_words_50 (by decide) rfl ?_
    refine ww_ic_ge 81 55 dX5_words_52 (by decide) rfl (fun c => ?_) (fun c => ?_)
    · replace h := h.1 c
      refine ww_aload_n 82 dX5_words_81 rfl 0 rfl rfl ?_
      refine ww_getR 2 85 dX5_words_82 wf_X5_28 (ww_i1 0 (by decide)) rfl rfl rfl ?_
      refine ww_getI 1 88 dX5_words_85 wf_X5_78 (ww_i1 4 (by decide)) rfl rfl rfl ?_
      exact ww_iret dX5_words_88 rfl ⟨_, rfl, h⟩
    · replace h := h.2 c
      refine ww_aload_n 56 dX5_words_55 rfl 0 rfl rfl ?_
      refine ww_getR 0 59 dX5_words_56 wf_X5_11 (ww_i1 0 (by decide)) rfl rfl rfl ?_
      refine ww_iload_n 60 dX5_words_59 rfl 1 rfl rfl ?_
      refine ww_iload_n 61 dX5_words_60 rfl 3 rfl rfl ?_
      refine ww_iadd 62 dX5_words_61 rfl ?_
      obtain ⟨j1, hij1, hj1, h⟩ := h
      refine ww_aald j1 63 dX5_words_62 (ww_i1 1 (by decide)) rfl (Or.inl rfl) (by decide) hij1 hj1 rfl ?_
      refine ww_aload_n 64 dX5_words_63 rfl 0 rfl rfl ?_
      refine ww_getR 2 67 dX5_words_64 wf_X5_28 (ww_i1 0 (by decide)) rfl rfl rfl ?_
      refine ww_getR 0 70 dX5_words_67 wf_X5_84 (ww_i1 4 (by decide)) rfl rfl rfl ?_
      refine ww_iload_n 71 dX5_words_70 rfl 3 rfl rfl ?_
      obtain ⟨j2, hij2, hj2, h⟩ := h
      refine ww_aald j2 72 dX5_words_71 (ww_i1 5 (by decide)) rfl (Or.inl rfl) (by decide) hij2 hj2 rfl ?_
      obtain ⟨Q3, hT, h⟩ := h
      refine ww_invVV (d' := mX2_copy) [.inr (.inr (21, 6 + j2))] rfl 75 dX5_words_72 ⟨wi_X2, wc_X2_copy, wp_X2_copy, by decide, by decide⟩ wl_X5_87 wn_X2_copy we_X2_copy (show ww_in (21, j1) from (show j1 < 104 by omega)) rfl rfl (Nat.le_of_ble_eq_true rfl) rfl hT (fun τ4 hq => ?_)
      replace h := h τ4 hq
      refine ww_iinc (nI 1) 78 3 dX5_words_75 (by decide) rfl rfl (by decide) rfl [some (.inr (.inr (0, 0))), some (.inl x1), none, some (.inl (x3 + nI 1))] rfl ?_
      refine ww_goto 36 dX5_words_78 (by decide) ?_
      exact h
theorem b_X5_chooser {l : Launch} {g : ww_G} {τ : ww_M} {a1 : Int32} {Post : Int32 → ww_M → Prop}  (h : ∀ E : ww_E, ((a1 < nI 0 → (∃ Q1 : Int32 → ww_M → Prop, ww_T E.2.1 g mX5_refuse [.inr (.inr (0, 0)), .inl (-2 : Int32)] τ (ww_QI Q1) ∧ ∀ (v2 : Int32) (τ3 : ww_M), Q1 v2 τ3 → Post v2 τ3)) ∧ (¬ (a1 < nI 0) → ((a1 ≤ nI 4 → (∀ τ4 : ww_M, τ4 = ww_up τ (20, 0) 2 a1 → Post (τ (20, 0) 2) τ4)) ∧ (¬ (a1 ≤ nI 4) → (∃ Q5 : Int32 → ww_M → Prop, ww_T E.2.1 g mX5_refuse [.inr (.inr (0, 0)), .inl (-2 : Int32)] τ (ww_QI Q5) ∧ ∀ (v6 : Int32) (τ7 : ww_M), Q5 v6 τ7 → Post v6 τ7)))))) : ww_T l g mX5_chooser [.inr (.inr (0, 0)), .inl a1] τ (ww_QI Post) := by
  refine ww_enter (P := [some (.inr (.inr (0, 0))), some (.inl a1), none]) (by decide) (Nat.le_of_ble_eq_true rfl) rfl (fun E => ?_)
  replace h := h E
  refine ww_iload_n 1 dX5_chooser_0 rfl 1 rfl rfl ?_
  refine ww_if_lt 9 4 dX5_chooser_1 (by decide) rfl (fun c => ?_) (fun c => ?_)
  · replace h := h.1 c
    refine ww_aload_n 10 dX5_chooser_9 rfl 0 rfl rfl ?_
    refine ww_bipush (v := (-2 : Int32)) 12 dX5_chooser_10 (by decide) rfl ?_
    obtain ⟨Q1, hT, h⟩ := h
    refine ww_invVI (d' := mX5_refuse) [.inl (-2 : Int32)] rfl 15 dX5_chooser_12 ⟨wi_X5, wc_X5_refuse, wp_X5_refuse, by decide, by decide⟩ wl_X5_58 wn_X5_refuse we_X5_refuse (ww_i1 0 (by decide)) rfl rfl (Nat.le_of_ble_eq_true rfl) rfl hT (fun v2 τ3 hq => ?_)
    replace h := h v2 τ3 hq
    exact ww_iret dX5_chooser_15 rfl ⟨_, rfl, h⟩
  · replace h := h.2 c
    refine ww_iload_n 5 dX5_chooser_4 rfl 1 rfl rfl ?_
    refine ww_iconst (v := nI 4) 6 dX5_chooser_5 (by decide) rfl ?_
    refine ww_ic_le 16 9 dX5_chooser_6 (by decide) rfl (fun c => ?_) (fun c => ?_)
    · replace h := h.1 c
      refine ww_aload_n 17 dX5_chooser_16 rfl 0 rfl rfl ?_
      refine ww_getR 4 20 dX5_chooser_17 wf_X5_44 (ww_i1 0 (by decide)) rfl rfl rfl ?_
      refine ww_getI 2 23 dX5_chooser_20 wf_X5_91 (ww_i1 20 (by decide)) rfl rfl rfl ?_
      refine ww_istore_n 24 dX5_chooser_23 rfl 2 rfl (by decide) rfl [some (.inr (.inr (0, 0))), some (.inl a1), some (.inl (τ (20, 0) 2))] rfl ?_
      refine ww_aload_n 25 dX5_chooser_24 rfl 0 rfl rfl ?_
      refine ww_getR 4 28 dX5_chooser_25 wf_X5_44 (ww_i1 0 (by decide)) rfl rfl rfl ?_
      refine ww_iload_n 29 dX5_chooser_28 rfl 1 rfl rfl ?_
      refine ww_putI 2 32 dX5_chooser_29 wf_X5_91 fp_X3_2 (ww_i1 20 (by decide)) rfl rfl rfl (fun τ4 eτ4 => ?_)
      replace h := h τ4 eτ4
      refine ww_iload_n 33 dX5_chooser_32 rfl 2 rfl rfl ?_
      exact ww_iret dX5_chooser_33 rfl ⟨_, rfl, h⟩
    · replace h := h.2 c
      refine ww_aload_n 10 dX5_chooser_9 rfl 0 rfl rfl ?_
      refine ww_bipush (v := (-2 : Int32)) 12 dX5_chooser_10 (by decide) rfl ?_
      obtain ⟨Q5, hT, h⟩ := h
      refine ww_invVI (d' := mX5_refuse) [.inl (-2 : Int32)] rfl 15 dX5_chooser_12 ⟨wi_X5, wc_X5_refuse, wp_X5_refuse, by decide, by decide⟩ wl_X5_58 wn_X5_refuse we_X5_refuse (ww_i1 0 (by decide)) rfl rfl (Nat.le_of_ble_eq_true rfl) rfl hT (fun v6 τ7 hq => ?_)
      replace h := h v6 τ7 hq
      exact ww_iret dX5_chooser_15 rfl ⟨_, rfl, h⟩
theorem b_X5_relator {l : Launch} {g : ww_G} {τ : ww_M} {a1 : Int32} {a2 : Int32} {Post : Int32 → ww_M → Prop}  (h : ∀ E : ww_E, ((a1 < nI 0 → (∃ Q1 : Int32 → ww_M → Prop, ww_T E.2.1 g mX5_refuse [.inr (.inr (0, 0)), .inl (-2 : Int32)] τ (ww_QI Q1) ∧ ∀ (v2 : Int32) (τ3 : ww_M), Q1 v2 τ3 → Post v2 τ3)) ∧ (¬ (a1 < nI 0) → ((τ (8, 0) 1 ≤ a1 → (∃ Q4 : Int32 → ww_M → Prop, ww_T E.2.1 g mX5_refuse [.inr (.inr (0, 0)), .inl (-2 : Int32)] τ (ww_QI Q4) ∧ ∀ (v5 : Int32) (τ6 : ww_M), Q4 v5 τ6 → Post v5 τ6)) ∧ (¬ (τ (8, 0) 1 ≤ a1) → ((a2 < nI 0 → (∃ Q7 : Int32 → ww_M → Prop, ww_T E.2.1 g mX5_refuse [.inr (.inr (0, 0)), .inl (-2 : Int32)] τ (ww_QI Q7) ∧ ∀ (v8 : Int32) (τ9 : ww_M), Q7 v8 τ9 → Post v8 τ9)) ∧ (¬ (a2 < nI 0) → ((a2 ≤ nI 2 → ((a2 = nI 0 → (∃ j10 : Nat, a1 = nI j10 ∧ j10 < 3 ∧ Post (τ (21, 12 + j10) 1) τ)) ∧ (a2 = nI 1 → (∃ j11 : Nat, a1 = nI j11 ∧ j11 < 3 ∧ Post (τ (10, 0) j11) τ)) ∧ (¬ a2 = nI 0 → ¬ a2 = nI 1 → (∃ j12 : Nat, a1 = nI j12 ∧ j12 < 3 ∧ Post (τ (11, 0) j12) τ)))) ∧ (¬ (a2 ≤ nI 2) → (∃ Q13 : Int32 → ww_M → Prop, ww_T E.2.1 g mX5_refuse [.inr (.inr (0, 0)), .inl (-2 : Int32)] τ (ww_QI Q13) ∧ ∀ (v14 : Int32) (τ15 : ww_M), Q13 v14 τ15 → Post v14 τ15)))))))))) : ww_T l g mX5_relator [.inr (.inr (0, 0)), .inl a1, .inl a2] τ (ww_QI Post) := by
  refine ww_enter (P := [some (.inr (.inr (0, 0))), some (.inl a1), some (.inl a2)]) (by decide) (Nat.le_of_ble_eq_true rfl) rfl (fun E => ?_)
  replace h := h E
  refine ww_iload_n 1 dX5_relator_0 rfl 1 rfl rfl ?_
  refine ww_if_lt 24 4 dX5_relator_1 (by decide) rfl (fun c => ?_) (fun c => ?_)
  · replace h := h.1 c
    refine ww_aload_n 25 dX5_relator_24 rfl 0 rfl rfl ?_
    refine ww_bipush (v := (-2 : Int32)) 27 dX5_relator_25 (by decide) rfl ?_
    obtain ⟨Q1, hT, h⟩ := h
    refine ww_invVI (d' := mX5_refuse) [.inl (-2 : Int32)] rfl 30 dX5_relator_27 ⟨wi_X5, wc_X5_refuse, wp_X5_refuse, by decide, by decide⟩ wl_X5_58 wn_X5_refuse we_X5_refuse (ww_i1 0 (by decide)) rfl rfl (Nat.le_of_ble_eq_true rfl) rfl hT (fun v2 τ3 hq => ?_)
    replace h := h v2 τ3 hq
    exact ww_iret dX5_relator_30 rfl ⟨_, rfl, h⟩
  · replace h := h.2 c
    refine ww_iload_n 5 dX5_relator_4 rfl 1 rfl rfl ?_
    refine ww_aload_n 6 dX5_relator_5 rfl 0 rfl rfl ?_
    refine ww_getR 3 9 dX5_relator_6 wf_X5_35 (ww_i1 0 (by decide)) rfl rfl rfl ?_
    refine ww_getI 1 12 dX5_relator_9 wf_X5_94 (ww_i1 8 (by decide)) rfl rfl rfl ?_
    refine ww_ic_ge 24 15 dX5_relator_12 (by decide) rfl (fun c => ?_) (fun c => ?_)
    · replace h := h.1 c
      refine ww_aload_n 25 dX5_relator_24 rfl 0 rfl rfl ?_
      refine ww_bipush (v := (-2 : Int32)) 27 dX5_relator_25 (by decide) rfl ?_
      obtain ⟨Q4, hT, h⟩ := h
      refine ww_invVI (d' := mX5_refuse) [.inl (-2 : Int32)] rfl 30 dX5_relator_27 ⟨wi_X5, wc_X5_refuse, wp_X5_refuse, by decide, by decide⟩ wl_X5_58 wn_X5_refuse we_X5_refuse (ww_i1 0 (by decide)) rfl rfl (Nat.le_of_ble_eq_true rfl) rfl hT (fun v5 τ6 hq => ?_)
      replace h := h v5 τ6 hq
      exact ww_iret dX5_relator_30 rfl ⟨_, rfl, h⟩
    · replace h := h.2 c
      refine ww_iload_n 16 dX5_relator_15 rfl 2 rfl rfl ?_
      refine ww_if_lt 24 19 dX5_relator_16 (by decide) rfl (fun c => ?_) (fun c => ?_)
      · replace h := h.1 c
        refine ww_aload_n 25 dX5_relator_24 rfl 0 rfl rfl ?_
        refine ww_bipush (v := (-2 : Int32)) 27 dX5_relator_25 (by decide) rfl ?_
        obtain ⟨Q7, hT, h⟩ := h
        refine ww_invVI (d' := mX5_refuse) [.inl (-2 : Int32)] rfl 30 dX5_relator_27 ⟨wi_X5, wc_X5_refuse, wp_X5_refuse, by decide, by decide⟩ wl_X5_58 wn_X5_refuse we_X5_refuse (ww_i1 0 (by decide)) rfl rfl (Nat.le_of_ble_eq_true rfl) rfl hT (fun v8 τ9 hq => ?_)
        replace h := h v8 τ9 hq
        exact ww_iret dX5_relator_30 rfl ⟨_, rfl, h⟩
      · replace h := h.2 c
        refine ww_iload_n 20 dX5_relator_19 rfl 2 rfl rfl ?_
        refine ww_iconst (v := nI 2) 21 dX5_relator_20 (by decide) rfl ?_
        refine ww_ic_le 31 24 dX5_relator_21 (by decide) rfl (fun c => ?_) (fun c => ?_)
        · replace h := h.1 c
          refine ww_iload_n 32 dX5_relator_31 rfl 2 rfl rfl ?_
          refine ww_lsw [(nI 0, 60), (nI 1, 73)] 83 dX5_relator_32 (by decide) (by decide) (by decide) ?_ ?_
          · refine List.forall_mem_cons.mpr ⟨fun c => ?_, List.forall_mem_cons.mpr ⟨fun c => ?_, fun _ h9 => absurd h9 List.not_mem_nil⟩⟩
            · replace h := h.1 c
              refine ww_aload_n 61 dX5_relator_60 rfl 0 rfl rfl ?_
              refine ww_getR 3 64 dX5_relator_61 wf_X5_35 (ww_i1 0 (by decide)) rfl rfl rfl ?_
              refine ww_getR 0 67 dX5_relator_64 wf_X5_97 (ww_i1 8 (by decide)) rfl rfl rfl ?_
              refine ww_iload_n 68 dX5_relator_67 rfl 1 rfl rfl ?_
              obtain ⟨j10, hij10, hj10, h⟩ := h
              refine ww_aald j10 69 dX5_relator_68 (ww_i1 9 (by decide)) rfl (Or.inl rfl) (by decide) hij10 hj10 rfl ?_
              refine ww_getI 1 72 dX5_relator_69 wf_X5_100 (show ww_in (21, 12 + j10) from (show 12 + j10 < 104 by omega)) rfl rfl rfl ?_
              exact ww_iret dX5_relator_72 rfl ⟨_, rfl, h⟩
            · replace h := h.2.1 c
              refine ww_aload_n 74 dX5_relator_73 rfl 0 rfl rfl ?_
              refine ww_getR 3 77 dX5_relator_74 wf_X5_35 (ww_i1 0 (by decide)) rfl rfl rfl ?_
              refine ww_getR 2 80 dX5_relator_77 wf_X5_101 (ww_i1 8 (by decide)) rfl rfl rfl ?_
              refine ww_iload_n 81 dX5_relator_80 rfl 1 rfl rfl ?_
              obtain ⟨j11, hij11, hj11, h⟩ := h
              refine ww_iald j11 82 dX5_relator_81 (ww_i1 10 (by decide)) rfl (by decide) hij11 hj11 rfl ?_
              exact ww_iret dX5_relator_82 rfl ⟨_, rfl, h⟩
          · intro c
            replace h := h.2.2 (c _ (List.mem_of_getElem? (i := 0) rfl)) (c _ (List.mem_of_getElem? (i := 1) rfl))
            refine ww_aload_n 84 dX5_relator_83 rfl 0 rfl rfl ?_
            refine ww_getR 3 87 dX5_relator_84 wf_X5_35 (ww_i1 0 (by decide)) rfl rfl rfl ?_
            refine ww_getR 3 90 dX5_relator_87 wf_X5_105 (ww_i1 8 (by decide)) rfl rfl rfl ?_
            refine ww_iload_n 91 dX5_relator_90 rfl 1 rfl rfl ?_
            obtain ⟨j12, hij12, hj12, h⟩ := h
            refine ww_iald j12 92 dX5_relator_91 (ww_i1 11 (by decide)) rfl (by decide) hij12 hj12 rfl ?_
            exact ww_iret dX5_relator_92 rfl ⟨_, rfl, h⟩
        · replace h := h.2 c
          refine ww_aload_n 25 dX5_relator_24 rfl 0 rfl rfl ?_
          refine ww_bipush (v := (-2 : Int32)) 27 dX5_relator_25 (by decide) rfl ?_
          obtain ⟨Q13, hT, h⟩ := h
          refine ww_invVI (d' := mX5_refuse) [.inl (-2 : Int32)] rfl 30 dX5_relator_27 ⟨wi_X5, wc_X5_refuse, wp_X5_refuse, by decide, by decide⟩ wl_X5_58 wn_X5_refuse we_X5_refuse (ww_i1 0 (by decide)) rfl rfl (Nat.le_of_ble_eq_true rfl) rfl hT (fun v14 τ15 hq => ?_)
          replace h := h v14 τ15 hq
          exact ww_iret dX5_relator_30 rfl ⟨_, rfl, h⟩
theorem b_X5_member {l : Launch} {g : ww_G} {τ : ww_M} {a1 : Int32} {a2 : Int32} {Post : Int32 → ww_M → Prop}  (h : ∀ E : ww_E, (∃ Q1 : Int32 → ww_M → Prop, ww_T E.2.1 g mX0_has [.inr (.inr (8, 0)), .inl a1] τ (ww_QI Q1) ∧ ∀ (v2 : Int32) (τ3 : ww_M), Q1 v2 τ3 → (v2 = nI 0 → (∃ Q4 : Int32 → ww_M → Prop, ww_T E.2.1 g mX5_refuse [.inr (.inr (0, 0)), .inl (-2 : Int32)] τ3 (ww_QI Q4) ∧ ∀ (v5 : Int32) (τ6 : ww_M), Q4 v5 τ6 → Post v5 τ6)) ∧ (¬ v2 = nI 0 → (((-1 : Int32) ≤ a2 → ((¬ a2 = (-1 : Int32) → (∃ Q7 : Int32 → ww_M → Prop, ww_T E.2.1 g mX0_letterOf [.inr (.inr (8, 0)), .inl a1, .inl a2] τ3 (ww_QI Q7) ∧ ∀ (v8 : Int32) (τ9 : ww_M), Q7 v8 τ9 → Post v8 τ9)) ∧ (a2 = (-1 : Int32) → (∃ Q10 : Int32 → ww_M → Prop, ww_T E.2.1 g mX0_sizeOf [.inr (.inr (8, 0)), .inl a1] τ3 (ww_QI Q10) ∧ ∀ (v11 : Int32) (τ12 : ww_M), Q10 v11 τ12 → Post v11 τ12)))) ∧ (¬ ((-1 : Int32) ≤ a2) → (∃ Q13 : Int32 → ww_M → Prop, ww_T E.2.1 g mX5_refuse [.inr (.inr (0, 0)), .inl (-2 : Int32)] τ3 (ww_QI Q13) ∧ ∀ (v14 : Int32) (τ15 : ww_M), Q13 v14 τ15 → Post v14 τ15)))))) : ww_T l g mX5_member [.inr (.inr (0, 0)), .inl a1, .inl a2] τ (ww_QI Post) := by
  refine ww_enter (P := [some (.inr (.inr (0, 0))), some (.inl a1), some (.inl a2)]) (by decide) (Nat.le_of_ble_eq_true rfl) rfl (fun E => ?_)
  replace h := h E
  refine ww_aload_n 1 dX5_member_0 rfl 0 rfl rfl ?_
  refine ww_getR 3 4 dX5_member_1 wf_X5_35 (ww_i1 0 (by decide)) rfl rfl rfl ?_
  refine ww_iload_n 5 dX5_member_4 rfl 1 rfl rfl ?_
  obtain ⟨Q1, hT, h⟩ := h
  refine ww_invVI (d' := mX0_has) [.inl a1] rfl 8 dX5_member_5 ⟨wi_X0, wc_X0_has, wp_X0_has, by decide, by decide⟩ wl_X5_108 wn_X0_has we_X0_has (ww_i1 8 (by decide)) rfl rfl (Nat.le_of_ble_eq_true rfl) rfl hT (fun v2 τ3 hq => ?_)
  replace h := h v2 τ3 hq
  refine ww_if_eq 16 11 dX5_member_8 (by decide) rfl (fun c => ?_) (fun c => ?_)
  · replace h := h.1 c
    refine ww_aload_n 17 dX5_member_16 rfl 0 rfl rfl ?_
    refine ww_bipush (v := (-2 : Int32)) 19 dX5_member_17 (by decide) rfl ?_
    obtain ⟨Q4, hT, h⟩ := h
    refine ww_invVI (d' := mX5_refuse) [.inl (-2 : Int32)] rfl 22 dX5_member_19 ⟨wi_X5, wc_X5_refuse, wp_X5_refuse, by decide, by decide⟩ wl_X5_58 wn_X5_refuse we_X5_refuse (ww_i1 0 (by decide)) rfl rfl (Nat.le_of_ble_eq_true rfl) rfl hT (fun v5 τ6 hq => ?_)
    replace h := h v5 τ6 hq
    exact ww_iret dX5_member_22 rfl ⟨_, rfl, h⟩
  · replace h := h.2 c
    refine ww_iload_n 12 dX5_member_11 rfl 2 rfl rfl ?_
    refine ww_iconst (v := (-1 : Int32)) 13 dX5_member_12 (by decide) rfl ?_
    refine ww_ic_ge 23 16 dX5_member_13 (by decide) rfl (fun c => ?_) (fun c => ?_)
    · replace h := h.1 c
      refine ww_iload_n 24 dX5_member_23 rfl 2 rfl rfl ?_
      refine ww_iconst (v := (-1 : Int32)) 25 dX5_member_24 (by decide) rfl ?_
      refine ww_ic_ne 39 28 dX5_member_25 (by decide) rfl (fun c => ?_) (fun c => ?_)
      · replace h := h.1 c
        refine ww_aload_n 40 dX5_member_39 rfl 0 rfl rfl ?_
        refine ww_getR 3 43 dX5_member_40 wf_X5_35 (ww_i1 0 (by decide)) rfl rfl rfl ?_
        refine ww_iload_n 44 dX5_member_43 rfl 1 rfl rfl ?_
        refine ww_iload_n 45 dX5_member_44 rfl 2 rfl rfl ?_
        obtain ⟨Q7, hT, h⟩ := h
        refine ww_invVI (d' := mX0_letterOf) [.inl a1, .inl a2] rfl 48 dX5_member_45 ⟨wi_X0, wc_X0_letterOf, wp_X0_letterOf, by decide, by decide⟩ wl_X5_114 wn_X0_letterOf we_X0_letterOf (ww_i1 8 (by decide)) rfl rfl (Nat.le_of_ble_eq_true rfl) rfl hT (fun v8 τ9 hq => ?_)
        replace h := h v8 τ9 hq
        exact ww_iret dX5_member_48 rfl ⟨_, rfl, h⟩
      · replace h := h.2 c
        refine ww_aload_n 29 dX5_member_28 rfl 0 rfl rfl ?_
        refine ww_getR 3 32 dX5_member_29 wf_X5_35 (ww_i1 0 (by decide)) rfl rfl rfl ?_
        refine ww_iload_n 33 dX5_member_32 rfl 1 rfl rfl ?_
        obtain ⟨Q10, hT, h⟩ := h
        refine ww_invVI (d' := mX0_sizeOf) [.inl a1] rfl 36 dX5_member_33 ⟨wi_X0, wc_X0_sizeOf, wp_X0_sizeOf, by decide, by decide⟩ wl_X5_111 wn_X0_sizeOf we_X0_sizeOf (ww_i1 8 (by decide)) rfl rfl (Nat.le_of_ble_eq_true rfl) rfl hT (fun v11 τ12 hq => ?_)
        replace h := h v11 τ12 hq
        refine ww_goto 48 dX5_member_36 (by decide) ?_
        exact ww_iret dX5_member_48 rfl ⟨_, rfl, h⟩
    · replace h := h.2 c
      refine ww_aload_n 17 dX5_member_16 rfl 0 rfl rfl ?_
      refine ww_bipush (v := (-2 : Int32)) 19 dX5_member_17 (by decide) rfl ?_
      obtain ⟨Q13, hT, h⟩ := h
      refine ww_invVI (d' := mX5_refuse) [.inl (-2 : Int32)] rfl 22 dX5_member_19 ⟨wi_X5, wc_X5_refuse, wp_X5_refuse, by decide, by decide⟩ wl_X5_58 wn_X5_refuse we_X5_refuse (ww_i1 0 (by decide)) rfl rfl (Nat.le_of_ble_eq_true rfl) rfl hT (fun v14 τ15 hq => ?_)
      replace h := h v14 τ15 hq
      exact ww_iret dX5_member_22 rfl ⟨_, rfl, h⟩
theorem b_X5_good {l : Launch} {g : ww_G} {τ : ww_M} {a1 : Int32} {Post : Int32 → ww_M → Prop}  (h : ∀ E : ww_E, ((a1 < nI 1 → (∃ Q1 : Int32 → ww_M → Prop, ww_T E.2.1 g mX5_refuse [.inr (.inr (0, 0)), .inl (-2 : Int32)] τ (ww_QI Q1) ∧ ∀ (v2 : Int32) (τ3 : ww_M), Q1 v2 τ3 → Post v2 τ3)) ∧ (¬ (a1 < nI 1) → ((a1 ≤ nI 9 → (∃ Q4 : Int32 → ww_M → Prop, ww_T E.2.1 g mX0_areGood [.inr (.inr (8, 0)), .inl a1] τ (ww_QI Q4) ∧ ∀ (v5 : Int32) (τ6 : ww_M), Q4 v5 τ6 → (v5 = nI 0 → Post (nI 0) τ6) ∧ (¬ v5 = nI 0 → Post (nI 1) τ6))) ∧ (¬ (a1 ≤ nI 9) → (∃ Q7 : Int32 → ww_M → Prop, ww_T E.2.1 g mX5_refuse [.inr (.inr (0, 0)), .inl (-2 : Int32)] τ (ww_QI Q7) ∧ ∀ (v8 : Int32) (τ9 : ww_M), Q7 v8 τ9 → Post v8 τ9)))))) : ww_T l g mX5_good [.inr (.inr (0, 0)), .inl a1] τ (ww_QI Post) := by
  refine ww_enter (P := [some (.inr (.inr (0, 0))), some (.inl a1)]) (by decide) (Nat.le_of_ble_eq_true rfl) rfl (fun E => ?_)
  replace h := h E
  refine ww_iload_n 1 dX5_good_0 rfl 1 rfl rfl ?_
  refine ww_iconst (v := nI 1) 2 dX5_good_1 (by decide) rfl ?_
  refine ww_ic_lt 11 5 dX5_good_2 (by decide) rfl (fun c => ?_) (fun c => ?_)
  · replace h := h.1 c
    refine ww_aload_n 12 dX5_good_11 rfl 0 rfl rfl ?_
    refine ww_bipush (v := (-2 : Int32)) 14 dX5_good_12 (by decide) rfl ?_
    obtain ⟨Q1, hT, h⟩ := h
    refine ww_invVI (d' := mX5_refuse) [.inl (-2 : Int32)] rfl 17 dX5_good_14 ⟨wi_X5, wc_X5_refuse, wp_X5_refuse, by decide, by decide⟩ wl_X5_58 wn_X5_refuse we_X5_refuse (ww_i1 0 (by decide)) rfl rfl (Nat.le_of_ble_eq_true rfl) rfl hT (fun v2 τ3 hq => ?_)
    replace h := h v2 τ3 hq
    exact ww_iret dX5_good_17 rfl ⟨_, rfl, h⟩
  · replace h := h.2 c
    refine ww_iload_n 6 dX5_good_5 rfl 1 rfl rfl ?_
    refine ww_bipush (v := nI 9) 8 dX5_good_6 (by decide) rfl ?_
    refine ww_ic_le 18 11 dX5_good_8 (by decide) rfl (fun c => ?_) (fun c => ?_)
    · replace h := h.1 c
      refine ww_aload_n 19 dX5_good_18 rfl 0 rfl rfl ?_
      refine ww_getR 3 22 dX5_good_19 wf_X5_35 (ww_i1 0 (by decide)) rfl rfl rfl ?_
      refine ww_iload_n 23 dX5_good_22 rfl 1 rfl rfl ?_
      obtain ⟨Q4, hT, h⟩ := h
      refine ww_invVI (d' := mX0_areGood) [.inl a1] rfl 26 dX5_good_23 ⟨wi_X0, wc_X0_areGood, wp_X0_areGood, by decide, by decide⟩ wl_X5_118 wn_X0_areGood we_X0_areGood (ww_i1 8 (by decide)) rfl rfl (Nat.le_of_ble_eq_true rfl) rfl hT (fun v5 τ6 hq => ?_)
      replace h := h v5 τ6 hq
      refine ww_if_eq 33 29 dX5_good_26 (by decide) rfl (fun c => ?_) (fun c => ?_)
      · replace h := h.1 c
        refine ww_iconst (v := nI 0) 34 dX5_good_33 (by decide) rfl ?_
        exact ww_iret dX5_good_34 rfl ⟨_, rfl, h⟩
      · replace h := h.2 c
        refine ww_iconst (v := nI 1) 30 dX5_good_29 (by decide) rfl ?_
        refine ww_goto 34 dX5_good_30 (by decide) ?_
        exact ww_iret dX5_good_34 rfl ⟨_, rfl, h⟩
    · replace h := h.2 c
      refine ww_aload_n 12 dX5_good_11 rfl 0 rfl rfl ?_
      refine ww_bipush (v := (-2 : Int32)) 14 dX5_good_12 (by decide) rfl ?_
      obtain ⟨Q7, hT, h⟩ := h
      refine ww_invVI (d' := mX5_refuse) [.inl (-2 : Int32)] rfl 17 dX5_good_14 ⟨wi_X5, wc_X5_refuse, wp_X5_refuse, by decide, by decide⟩ wl_X5_58 wn_X5_refuse we_X5_refuse (ww_i1 0 (by decide)) rfl rfl (Nat.le_of_ble_eq_true rfl) rfl hT (fun v8 τ9 hq => ?_)
      replace h := h v8 τ9 hq
      exact ww_iret dX5_good_17 rfl ⟨_, rfl, h⟩
theorem b_X5_alike {l : Launch} {g : ww_G} {τ : ww_M} {a1 : Int32} {a2 : Int32} {Post : Int32 → ww_M → Prop}  (h : ∀ E : ww_E, (∃ Q1 : Int32 → ww_M → Prop, ww_T E.2.1 g mX0_has [.inr (.inr (8, 0)), .inl a1] τ (ww_QI Q1) ∧ ∀ (v2 : Int32) (τ3 : ww_M), Q1 v2 τ3 → (v2 = nI 0 → (∃ Q4 : Int32 → ww_M → Prop, ww_T E.2.1 g mX5_refuse [.inr (.inr (0, 0)), .inl (-2 : Int32)] τ3 (ww_QI Q4) ∧ ∀ (v5 : Int32) (τ6 : ww_M), Q4 v5 τ6 → Post v5 τ6)) ∧ (¬ v2 = nI 0 → (∃ Q7 : Int32 → ww_M → Prop, ww_T E.2.1 g mX0_has [.inr (.inr (8, 0)), .inl a2] τ3 (ww_QI Q7) ∧ ∀ (v8 : Int32) (τ9 : ww_M), Q7 v8 τ9 → (¬ v8 = nI 0 → (∃ Q10 : Int32 → ww_M → Prop, ww_T E.2.1 g mX0_sharedStart [.inr (.inr (8, 0)), .inl a1, .inl a2] τ9 (ww_QI Q10) ∧ ∀ (v11 : Int32) (τ12 : ww_M), Q10 v11 τ12 → Post v11 τ12)) ∧ (v8 = nI 0 → (∃ Q13 : Int32 → ww_M → Prop, ww_T E.2.1 g mX5_refuse [.inr (.inr (0, 0)), .inl (-2 : Int32)] τ9 (ww_QI Q13) ∧ ∀ (v14 : Int32) (τ15 : ww_M), Q13 v14 τ15 → Post v14 τ15)))))) : ww_T l g mX5_alike [.inr (.inr (0, 0)), .inl a1, .inl a2] τ (ww_QI Post) := by
  refine ww_enter (P := [some (.inr (.inr (0, 0))), some (.inl a1), some (.inl a2)]) (by decide) (Nat.le_of_ble_eq_true rfl) rfl (fun E => ?_)
  replace h := h E
  refine ww_aload_n 1 dX5_alike_0 rfl 0 rfl rfl ?_
  refine ww_getR 3 4 dX5_alike_1 wf_X5_35 (ww_i1 0 (by decide)) rfl rfl rfl ?_
  refine ww_iload_n 5 dX5_alike_4 rfl 1 rfl rfl ?_
  obtain ⟨Q1, hT, h⟩ := h
  refine ww_invVI (d' := mX0_has) [.inl a1] rfl 8 dX5_alike_5 ⟨wi_X0, wc_X0_has, wp_X0_has, by decide, by decide⟩ wl_X5_108 wn_X0_has we_X0_has (ww_i1 8 (by decide)) rfl rfl (Nat.le_of_ble_eq_true rfl) rfl hT (fun v2 τ3 hq => ?_)
  replace h := h v2 τ3 hq
  refine ww_if_eq 22 11 dX5_alike_8 (by decide) rfl (fun c => ?_) (fun c => ?_)
  · replace h := h.1 c
    refine ww_aload_n 23 dX5_alike_22 rfl 0 rfl rfl ?_
    refine ww_bipush (v := (-2 : Int32)) 25 dX5_alike_23 (by decide) rfl ?_
    obtain ⟨Q4, hT, h⟩ := h
    refine ww_invVI (d' := mX5_refuse) [.inl (-2 : Int32)] rfl 28 dX5_alike_25 ⟨wi_X5, wc_X5_refuse, wp_X5_refuse, by decide, by decide⟩ wl_X5_58 wn_X5_refuse we_X5_refuse (ww_i1 0 (by decide)) rfl rfl (Nat.le_of_ble_eq_true rfl) rfl hT (fun v5 τ6 hq => ?_)
    replace h := h v5 τ6 hq
    exact ww_iret dX5_alike_28 rfl ⟨_, rfl, h⟩
  · replace h := h.2 c
    refine ww_aload_n 12 dX5_alike_11 rfl 0 rfl rfl ?_
    refine ww_getR 3 15 dX5_alike_12 wf_X5_35 (ww_i1 0 (by decide)) rfl rfl rfl ?_
    refine ww_iload_n 16 dX5_alike_15 rfl 2 rfl rfl ?_
    obtain ⟨Q7, hT, h⟩ := h
    refine ww_invVI (d' := mX0_has) [.inl a2] rfl 19 dX5_alike_16 ⟨wi_X0, wc_X0_has, wp_X0_has, by decide, by decide⟩ wl_X5_108 wn_X0_has we_X0_has (ww_i1 8 (by decide)) rfl rfl (Nat.le_of_ble_eq_true rfl) rfl hT (fun v8 τ9 hq => ?_)
    replace h := h v8 τ9 hq
    refine ww_if_ne 29 22 dX5_alike_19 (by decide) rfl (fun c => ?_) (fun c => ?_)
    · replace h := h.1 c
      refine ww_aload_n 30 dX5_alike_29 rfl 0 rfl rfl ?_
      refine ww_getR 3 33 dX5_alike_30 wf_X5_35 (ww_i1 0 (by decide)) rfl rfl rfl ?_
      refine ww_iload_n 34 dX5_alike_33 rfl 1 rfl rfl ?_
      refine ww_iload_n 35 dX5_alike_34 rfl 2 rfl rfl ?_
      obtain ⟨Q10, hT, h⟩ := h
      refine ww_invVI (d' := mX0_sharedStart) [.inl a1, .inl a2] rfl 38 dX5_alike_35 ⟨wi_X0, wc_X0_sharedStart, wp_X0_sharedStart, by decide, by decide⟩ wl_X5_121 wn_X0_sharedStart we_X0_sharedStart (ww_i1 8 (by decide)) rfl rfl (Nat.le_of_ble_eq_true rfl) rfl hT (fun v11 τ12 hq => ?_)
      replace h := h v11 τ12 hq
      exact ww_iret dX5_alike_38 rfl ⟨_, rfl, h⟩
    · replace h := h.2 c
      refine ww_aload_n 23 dX5_alike_22 rfl 0 rfl rfl ?_
      refine ww_bipush (v := (-2 : Int32)) 25 dX5_alike_23 (by decide) rfl ?_
      obtain ⟨Q13, hT, h⟩ := h
      refine ww_invVI (d' := mX5_refuse) [.inl (-2 : Int32)] rfl 28 dX5_alike_25 ⟨wi_X5, wc_X5_refuse, wp_X5_refuse, by decide, by decide⟩ wl_X5_58 wn_X5_refuse we_X5_refuse (ww_i1 0 (by decide)) rfl rfl (Nat.le_of_ble_eq_true rfl) rfl hT (fun v14 τ15 hq => ?_)
      replace h := h v14 τ15 hq
      exact ww_iret dX5_alike_28 rfl ⟨_, rfl, h⟩
theorem b_X5_rank {l : Launch} {g : ww_G} {τ : ww_M} {a1 : Int32} {Post : Int32 → ww_M → Prop}  (h : ∀ E : ww_E, ((a1 = nI 2 → (∃ Q1 : Int32 → ww_M → Prop, ww_T E.2.1 g mX0_rankBy [.inr (.inr (8, 0)), .inl a1] τ (ww_QI Q1) ∧ ∀ (v2 : Int32) (τ3 : ww_M), Q1 v2 τ3 → Post v2 τ3)) ∧ (¬ a1 = nI 2 → ((a1 = nI 3 → (∃ Q4 : Int32 → ww_M → Prop, ww_T E.2.1 g mX0_rankBy [.inr (.inr (8, 0)), .inl a1] τ (ww_QI Q4) ∧ ∀ (v5 : Int32) (τ6 : ww_M), Q4 v5 τ6 → Post v5 τ6)) ∧ (¬ a1 = nI 3 → ((a1 = nI 5 → (∃ Q7 : Int32 → ww_M → Prop, ww_T E.2.1 g mX0_rankBy [.inr (.inr (8, 0)), .inl a1] τ (ww_QI Q7) ∧ ∀ (v8 : Int32) (τ9 : ww_M), Q7 v8 τ9 → Post v8 τ9)) ∧ (¬ a1 = nI 5 → ((a1 = nI 7 → (∃ Q10 : Int32 → ww_M → Prop, ww_T E.2.1 g mX0_rankBy [.inr (.inr (8, 0)), .inl a1] τ (ww_QI Q10) ∧ ∀ (v11 : Int32) (τ12 : ww_M), Q10 v11 τ12 → Post v11 τ12)) ∧ (¬ a1 = nI 7 → (∃ Q13 : Int32 → ww_M → Prop, ww_T E.2.1 g mX5_refuse [.inr (.inr (0, 0)), .inl (-2 : Int32)] τ (ww_QI Q13) ∧ ∀ (v14 : Int32) (τ15 : ww_M), Q13 v14 τ15 → Post v14 τ15)))))))))) : ww_T l g mX5_rank [.inr (.inr (0, 0)), .inl a1] τ (ww_QI Post) := by
  refine ww_enter (P := [some (.inr (.inr (0, 0))), some (.inl a1)]) (by decide) (Nat.le_of_ble_eq_true rfl) rfl (fun E => ?_)
  replace h := h E
  refine ww_iload_n 1 dX5_rank_0 rfl 1 rfl rfl ?_
  refine ww_iconst (v := nI 2) 2 dX5_rank_1 (by decide) rfl ?_
  refine ww_ic_eq 28 5 dX5_rank_2 (by decide) rfl (fun c => ?_) (fun c => ?_)
  · replace h := h.1 c
    refine ww_aload_n 29 dX5_rank_28 rfl 0 rfl rfl ?_
    refine ww_getR 3 32 dX5_rank_29 wf_X5_35 (ww_i1 0 (by decide)) rfl rfl rfl ?_
    refine ww_iload_n 33 dX5_rank_32 rfl 1 rfl rfl ?_
    obtain ⟨Q1, hT, h⟩ := h
    refine ww_invVI (d' := mX0_rankBy) [.inl a1] rfl 36 dX5_rank_33 ⟨wi_X0, wc_X0_rankBy, wp_X0_rankBy, by decide, by decide⟩ wl_X5_124 wn_X0_rankBy we_X0_rankBy (ww_i1 8 (by decide)) rfl rfl (Nat.le_of_ble_eq_true rfl) rfl hT (fun v2 τ3 hq => ?_)
    replace h := h v2 τ3 hq
    exact ww_iret dX5_rank_36 rfl ⟨_, rfl, h⟩
  · replace h := h.2 c
    refine ww_iload_n 6 dX5_rank_5 rfl 1 rfl rfl ?_
    refine ww_iconst (v := nI 3) 7 dX5_rank_6 (by decide) rfl ?_
    refine ww_ic_eq 28 10 dX5_rank_7 (by decide) rfl (fun c => ?_) (fun c => ?_)
    · replace h := h.1 c
      refine ww_aload_n 29 dX5_rank_28 rfl 0 rfl rfl ?_
      refine ww_getR 3 32 dX5_rank_29 wf_X5_35 (ww_i1 0 (by decide)) rfl rfl rfl ?_
      refine ww_iload_n 33 dX5_rank_32 rfl 1 rfl rfl ?_
      obtain ⟨Q4, hT, h⟩ := h
      refine ww_invVI (d' := mX0_rankBy) [.inl a1] rfl 36 dX5_rank_33 ⟨wi_X0, wc_X0_rankBy, wp_X0_rankBy, by decide, by decide⟩ wl_X5_124 wn_X0_rankBy we_X0_rankBy (ww_i1 8 (by decide)) rfl rfl (Nat.le_of_ble_eq_true rfl) rfl hT (fun v5 τ6 hq => ?_)
      replace h := h v5 τ6 hq
      exact ww_iret dX5_rank_36 rfl ⟨_, rfl, h⟩
    · replace h := h.2 c
      refine ww_iload_n 11 dX5_rank_10 rfl 1 rfl rfl ?_
      refine ww_iconst (v := nI 5) 12 dX5_rank_11 (by decide) rfl ?_
      refine ww_ic_eq 28 15 dX5_rank_12 (by decide) rfl (fun c => ?_) (fun c => ?_)
      · replace h := h.1 c
        refine ww_aload_n 29 dX5_rank_28 rfl 0 rfl rfl ?_
        refine ww_getR 3 32 dX5_rank_29 wf_X5_35 (ww_i1 0 (by decide)) rfl rfl rfl ?_
        refine ww_iload_n 33 dX5_rank_32 rfl 1 rfl rfl ?_
        obtain ⟨Q7, hT, h⟩ := h
        refine ww_invVI (d' := mX0_rankBy) [.inl a1] rfl 36 dX5_rank_33 ⟨wi_X0, wc_X0_rankBy, wp_X0_rankBy, by decide, by decide⟩ wl_X5_124 wn_X0_rankBy we_X0_rankBy (ww_i1 8 (by decide)) rfl rfl (Nat.le_of_ble_eq_true rfl) rfl hT (fun v8 τ9 hq => ?_)
        replace h := h v8 τ9 hq
        exact ww_iret dX5_rank_36 rfl ⟨_, rfl, h⟩
      · replace h := h.2 c
        refine ww_iload_n 16 dX5_rank_15 rfl 1 rfl rfl ?_
        refine ww_bipush (v := nI 7) 18 dX5_rank_16 (by decide) rfl ?_
        refine ww_ic_eq 28 21 dX5_rank_18 (by decide) rfl (fun c => ?_) (fun c => ?_)
        · replace h := h.1 c
          refine ww_aload_n 29 dX5_rank_28 rfl 0 rfl rfl ?_
          refine ww_getR 3 32 dX5_rank_29 wf_X5_35 (ww_i1 0 (by decide)) rfl rfl rfl ?_
          refine ww_iload_n 33 dX5_rank_32 rfl 1 rfl rfl ?_
          obtain ⟨Q10, hT, h⟩ := h
          refine ww_invVI (d' := mX0_rankBy) [.inl a1] rfl 36 dX5_rank_33 ⟨wi_X0, wc_X0_rankBy, wp_X0_rankBy, by decide, by decide⟩ wl_X5_124 wn_X0_rankBy we_X0_rankBy (ww_i1 8 (by decide)) rfl rfl (Nat.le_of_ble_eq_true rfl) rfl hT (fun v11 τ12 hq => ?_)
          replace h := h v11 τ12 hq
          exact ww_iret dX5_rank_36 rfl ⟨_, rfl, h⟩
        · replace h := h.2 c
          refine ww_aload_n 22 dX5_rank_21 rfl 0 rfl rfl ?_
          refine ww_bipush (v := (-2 : Int32)) 24 dX5_rank_22 (by decide) rfl ?_
          obtain ⟨Q13, hT, h⟩ := h
          refine ww_invVI (d' := mX5_refuse) [.inl (-2 : Int32)] rfl 27 dX5_rank_24 ⟨wi_X5, wc_X5_refuse, wp_X5_refuse, by decide, by decide⟩ wl_X5_58 wn_X5_refuse we_X5_refuse (ww_i1 0 (by decide)) rfl rfl (Nat.le_of_ble_eq_true rfl) rfl hT (fun v14 τ15 hq => ?_)
          replace h := h v14 τ15 hq
          exact ww_iret dX5_rank_27 rfl ⟨_, rfl, h⟩
theorem b_X5_length {l : Launch} {g : ww_G} {τ : ww_M} {a1 : Int32} {Post : Int32 → ww_M → Prop}  (h : ∀ E : ww_E, (∃ Q1 : Int32 → ww_M → Prop, ww_T E.2.1 g mX5_isWord [.inl a1] τ (ww_QI Q1) ∧ ∀ (v2 : Int32) (τ3 : ww_M), Q1 v2 τ3 → (v2 = nI 0 → (∃ Q4 : Int32 → ww_M → Prop, ww_T E.2.1 g mX5_refuse [.inr (.inr (0, 0)), .inl (-2 : Int32)] τ3 (ww_QI Q4) ∧ ∀ (v5 : Int32) (τ6 : ww_M), Q4 v5 τ6 → Post v5 τ6)) ∧ (¬ v2 = nI 0 → (∃ j7 : Nat, a1 = nI j7 ∧ j7 < 6 ∧ Post (τ3 (21, j7) 1) τ3)))) : ww_T l g mX5_length [.inr (.inr (0, 0)), .inl a1] τ (ww_QI Post) := by
  refine ww_enter (P := [some (.inr (.inr (0, 0))), some (.inl a1)]) (by decide) (Nat.le_of_ble_eq_true rfl) rfl (fun E => ?_)
  replace h := h E
  refine ww_iload_n 1 dX5_length_0 rfl 1 rfl rfl ?_
  obtain ⟨Q1, hT, h⟩ := h
  refine ww_invSI (d' := mX5_isWord) [.inl a1] rfl 4 dX5_length_1 ⟨wi_X5, wc_X5_isWord, wp_X5_isWord, by decide, by decide⟩ (Or.inl wl_X5_81) wn_X5_isWord (Nat.le_of_ble_eq_true rfl) rfl hT (fun v2 τ3 hq => ?_)
  replace h := h v2 τ3 hq
  refine ww_if_eq 19 7 dX5_length_4 (by decide) rfl (fun c => ?_) (fun c => ?_)
  · replace h := h.1 c
    refine ww_aload_n 20 dX5_length_19 rfl 0 rfl rfl ?_
    refine ww_bipush (v := (-2 : Int32)) 22 dX5_length_20 (by decide) rfl ?_
    obtain ⟨Q4, hT, h⟩ := h
    refine ww_invVI (d' := mX5_refuse) [.inl (-2 : Int32)] rfl 25 dX5_length_22 ⟨wi_X5, wc_X5_refuse, wp_X5_refuse, by decide, by decide⟩ wl_X5_58 wn_X5_refuse we_X5_refuse (ww_i1 0 (by decide)) rfl rfl (Nat.le_of_ble_eq_true rfl) rfl hT (fun v5 τ6 hq => ?_)
    replace h := h v5 τ6 hq
    exact ww_iret dX5_length_25 rfl ⟨_, rfl, h⟩
  · replace h := h.2 c
    refine ww_aload_n 8 dX5_length_7 rfl 0 rfl rfl ?_
    refine ww_getR 0 11 dX5_length_8 wf_X5_11 (ww_i1 0 (by decide)) rfl rfl rfl ?_
    refine ww_iload_n 12 dX5_length_11 rfl 1 rfl rfl ?_
    obtain ⟨j7, hij7, hj7, h⟩ := h
    refine ww_aald j7 13 dX5_length_12 (ww_i1 1 (by decide)) rfl (Or.inl rfl) (by decide) hij7 hj7 rfl ?_
    refine ww_getI 1 16 dX5_length_13 wf_X5_100 (show ww_in (21, j7) from (show j7 < 104 by omega)) rfl rfl rfl ?_
    refine ww_goto 25 dX5_length_16 (by decide) ?_
    exact ww_iret dX5_length_25 rfl ⟨_, rfl, h⟩
theorem b_X5_letter {l : Launch} {g : ww_G} {τ : ww_M} {a1 : Int32} {a2 : Int32} {Post : Int32 → ww_M → Prop}  (h : ∀ E : ww_E, (∃ Q1 : Int32 → ww_M → Prop, ww_T E.2.1 g mX5_isWord [.inl a1] τ (ww_QI Q1) ∧ ∀ (v2 : Int32) (τ3 : ww_M), Q1 v2 τ3 → (v2 = nI 0 → (∃ Q4 : Int32 → ww_M → Prop, ww_T E.2.1 g mX5_refuse [.inr (.inr (0, 0)), .inl (-2 : Int32)] τ3 (ww_QI Q4) ∧ ∀ (v5 : Int32) (τ6 : ww_M), Q4 v5 τ6 → Post v5 τ6)) ∧ (¬ v2 = nI 0 → ((nI 0 ≤ a2 → (∃ j7 : Nat, a1 = nI j7 ∧ j7 < 6 ∧ (∃ Q8 : Int32 → ww_M → Prop, ww_T E.2.1 g mX2_at [.inr (.inr (21, j7)), .inl a2] τ3 (ww_QI Q8) ∧ ∀ (v9 : Int32) (τ10 : ww_M), Q8 v9 τ10 → Post v9 τ10))) ∧ (¬ (nI 0 ≤ a2) → (∃ Q11 : Int32 → ww_M → Prop, ww_T E.2.1 g mX5_refuse [.inr (.inr (0, 0)), .inl (-2 : Int32)] τ3 (ww_QI Q11) ∧ ∀ (v12 : Int32) (τ13 : ww_M), Q11 v12 τ13 → Post v12 τ13)))))) : ww_T l g mX5_letter [.inr (.inr (0, 0)), .inl a1, .inl a2] τ (ww_QI Post) := by
  refine ww_enter (P := [some (.inr (.inr (0, 0))), some (.inl a1), some (.inl a2)]) (by decide) (Nat.le_of_ble_eq_true rfl) rfl (fun E => ?_)
  replace h := h E
  refine ww_iload_n 1 dX5_letter_0 rfl 1 rfl rfl ?_
  obtain ⟨Q1, hT, h⟩ := h
  refine ww_invSI (d' := mX5_isWord) [.inl a1] rfl 4 dX5_letter_1 ⟨wi_X5, wc_X5_isWord, wp_X5_isWord, by decide, by decide⟩ (Or.inl wl_X5_81) wn_X5_isWord (Nat.le_of_ble_eq_true rfl) rfl hT (fun v2 τ3 hq => ?_)
  replace h := h v2 τ3 hq
  refine ww_if_eq 11 7 dX5_letter_4 (by decide) rfl (fun c => ?_) (fun c => ?_)
  · replace h := h.1 c
    refine ww_aload_n 12 dX5_letter_11 rfl 0 rfl rfl ?_
    refine ww_bipush (v := (-2 : Int32)) 14 dX5_letter_12 (by decide) rfl ?_
    obtain ⟨Q4, hT, h⟩ := h
    refine ww_invVI (d' := mX5_refuse) [.inl (-2 : Int32)] rfl 17 dX5_letter_14 ⟨wi_X5, wc_X5_refuse, wp_X5_refuse, by decide, by decide⟩ wl_X5_58 wn_X5_refuse we_X5_refuse (ww_i1 0 (by decide)) rfl rfl (Nat.le_of_ble_eq_true rfl) rfl hT (fun v5 τ6 hq => ?_)
    replace h := h v5 τ6 hq
    exact ww_iret dX5_letter_17 rfl ⟨_, rfl, h⟩
  · replace h := h.2 c
    refine ww_iload_n 8 dX5_letter_7 rfl 2 rfl rfl ?_
    refine ww_if_ge 18 11 dX5_letter_8 (by decide) rfl (fun c => ?_) (fun c => ?_)
    · replace h := h.1 c
      refine ww_aload_n 19 dX5_letter_18 rfl 0 rfl rfl ?_
      refine ww_getR 0 22 dX5_letter_19 wf_X5_11 (ww_i1 0 (by decide)) rfl rfl rfl ?_
      refine ww_iload_n 23 dX5_letter_22 rfl 1 rfl rfl ?_
      obtain ⟨j7, hij7, hj7, h⟩ := h
      refine ww_aald j7 24 dX5_letter_23 (ww_i1 1 (by decide)) rfl (Or.inl rfl) (by decide) hij7 hj7 rfl ?_
      refine ww_iload_n 25 dX5_letter_24 rfl 2 rfl rfl ?_
      obtain ⟨Q8, hT, h⟩ := h
      refine ww_invVI (d' := mX2_at) [.inl a2] rfl 28 dX5_letter_25 ⟨wi_X2, wc_X2_at, wp_X2_at, by decide, by decide⟩ wl_X5_127 wn_X2_at we_X2_at (show ww_in (21, j7) from (show j7 < 104 by omega)) rfl rfl (Nat.le_of_ble_eq_true rfl) rfl hT (fun v9 τ10 hq => ?_)
      replace h := h v9 τ10 hq
      exact ww_iret dX5_letter_28 rfl ⟨_, rfl, h⟩
    · replace h := h.2 c
      refine ww_aload_n 12 dX5_letter_11 rfl 0 rfl rfl ?_
      refine ww_bipush (v := (-2 : Int32)) 14 dX5_letter_12 (by decide) rfl ?_
      obtain ⟨Q11, hT, h⟩ := h
      refine ww_invVI (d' := mX5_refuse) [.inl (-2 : Int32)] rfl 17 dX5_letter_14 ⟨wi_X5, wc_X5_refuse, wp_X5_refuse, by decide, by decide⟩ wl_X5_58 wn_X5_refuse we_X5_refuse (ww_i1 0 (by decide)) rfl rfl (Nat.le_of_ble_eq_true rfl) rfl hT (fun v12 τ13 hq => ?_)
      replace h := h v12 τ13 hq
      exact ww_iret dX5_letter_17 rfl ⟨_, rfl, h⟩
theorem b_X5_adds {l : Launch} {g : ww_G} {τ : ww_M} {a1 : Int32} {a2 : Int32} {Post : Int32 → ww_M → Prop}  (h : ∀ E : ww_E, (∃ Q1 : Int32 → ww_M → Prop, ww_T E.2.1 g mX5_isWord [.inl a1] τ (ww_QI Q1) ∧ ∀ (v2 : Int32) (τ3 : ww_M), Q1 v2 τ3 → (v2 = nI 0 → (∃ Q4 : Int32 → ww_M → Prop, ww_T E.2.1 g mX5_refuse [.inr (.inr (0, 0)), .inl (-2 : Int32)] τ3 (ww_QI Q4) ∧ ∀ (v5 : Int32) (τ6 : ww_M), Q4 v5 τ6 → Post v5 τ6)) ∧ (¬ v2 = nI 0 → ((a2 < nI 0 → (∃ Q7 : Int32 → ww_M → Prop, ww_T E.2.1 g mX5_refuse [.inr (.inr (0, 0)), .inl (-2 : Int32)] τ3 (ww_QI Q7) ∧ ∀ (v8 : Int32) (τ9 : ww_M), Q7 v8 τ9 → Post v8 τ9)) ∧ (¬ (a2 < nI 0) → ((a2 < nI 8 → (∃ j10 : Nat, a1 = nI j10 ∧ j10 < 6 ∧ (∃ Q11 : ww_M → Prop, ww_T E.2.1 g mX2_copy [.inr (.inr (21, 16)), .inr (.inr (21, j10))] τ3 (ww_QV Q11) ∧ ∀ (τ12 : ww_M), Q11 τ12 → (∃ Q13 : ww_M → Prop, ww_T E.2.1 g mX2_put [.inr (.inr (21, 16)), .inl a2] τ12 (ww_QV Q13) ∧ ∀ (τ14 : ww_M), Q13 τ14 → (∃ Q15 : Int32 → ww_M → Prop, ww_T E.2.1 g mX5_keep [.inr (.inr (0, 0)), .inl a1] τ14 (ww_QI Q15) ∧ ∀ (v16 : Int32) (τ17 : ww_M), Q15 v16 τ17 → Post v16 τ17))))) ∧ (¬ (a2 < nI 8) → (∃ Q18 : Int32 → ww_M → Prop, ww_T E.2.1 g mX5_refuse [.inr (.inr (0, 0)), .inl (-2 : Int32)] τ3 (ww_QI Q18) ∧ ∀ (v19 : Int32) (τ20 : ww_M), Q18 v19 τ20 → Post v19 τ20)))))))) : ww_T l g mX5_adds [.inr (.inr (0, 0)), .inl a1, .inl a2] τ (ww_QI Post) := by
  refine ww_enter (P := [some (.inr (.inr (0, 0))), some (.inl a1), some (.inl a2)]) (by decide) (Nat.le_of_ble_eq_true rfl) rfl (fun E => ?_)
  replace h := h E
  refine ww_iload_n 1 dX5_adds_0 rfl 1 rfl rfl ?_
  obtain ⟨Q1, hT, h⟩ := h
  refine ww_invSI (d' := mX5_isWord) [.inl a1] rfl 4 dX5_adds_1 ⟨wi_X5, wc_X5_isWord, wp_X5_isWord, by decide, by decide⟩ (Or.inl wl_X5_81) wn_X5_isWord (Nat.le_of_ble_eq_true rfl) rfl hT (fun v2 τ3 hq => ?_)
  replace h := h v2 τ3 hq
  refine ww_if_eq 17 7 dX5_adds_4 (by decide) rfl (fun c => ?_) (fun c => ?_)
  · replace h := h.1 c
    refine ww_aload_n 18 dX5_adds_17 rfl 0 rfl rfl ?_
    refine ww_bipush (v := (-2 : Int32)) 20 dX5_adds_18 (by decide) rfl ?_
    obtain ⟨Q4, hT, h⟩ := h
    refine ww_invVI (d' := mX5_refuse) [.inl (-2 : Int32)] rfl 23 dX5_adds_20 ⟨wi_X5, wc_X5_refuse, wp_X5_refuse, by decide, by decide⟩ wl_X5_58 wn_X5_refuse we_X5_refuse (ww_i1 0 (by decide)) rfl rfl (Nat.le_of_ble_eq_true rfl) rfl hT (fun v5 τ6 hq => ?_)
    replace h := h v5 τ6 hq
    exact ww_iret dX5_adds_23 rfl ⟨_, rfl, h⟩
  · replace h := h.2 c
    refine ww_iload_n 8 dX5_adds_7 rfl 2 rfl rfl ?_
    refine ww_if_lt 17 11 dX5_adds_8 (by decide) rfl (fun c => ?_) (fun c => ?_)
    · replace h := h.1 c
      refine ww_aload_n 18 dX5_adds_17 rfl 0 rfl rfl ?_
      refine ww_bipush (v := (-2 : Int32)) 20 dX5_adds_18 (by decide) rfl ?_
      obtain ⟨Q7, hT, h⟩ := h
      refine ww_invVI (d' := mX5_refuse) [.inl (-2 : Int32)] rfl 23 dX5_adds_20 ⟨wi_X5, wc_X5_refuse, wp_X5_refuse, by decide, by decide⟩ wl_X5_58 wn_X5_refuse we_X5_refuse (ww_i1 0 (by decide)) rfl rfl (Nat.le_of_ble_eq_true rfl) rfl hT (fun v8 τ9 hq => ?_)
      replace h := h v8 τ9 hq
      exact ww_iret dX5_adds_23 rfl ⟨_, rfl, h⟩
    · replace h := h.2 c
      refine ww_iload_n 12 dX5_adds_11 rfl 2 rfl rfl ?_
      refine ww_bipush (v := nI 8) 14 dX5_adds_12 (by decide) rfl ?_
      refine ww_ic_lt 24 17 dX5_adds_14 (by decide) rfl (fun c => ?_) (fun c => ?_)
      · replace h := h.1 c
        refine ww_aload_n 25 dX5_adds_24 rfl 0 rfl rfl ?_
        refine ww_getR 5 28 dX5_adds_25 wf_X5_48 (ww_i1 0 (by decide)) rfl rfl rfl ?_
        refine ww_aload_n 29 dX5_adds_28 rfl 0 rfl rfl ?_
        refine ww_getR 0 32 dX5_adds_29 wf_X5_11 (ww_i1 0 (by decide)) rfl rfl rfl ?_
        refine ww_iload_n 33 dX5_adds_32 rfl 1 rfl rfl ?_
        obtain ⟨j10, hij10, hj10, h⟩ := h
        refine ww_aald j10 34 dX5_adds_33 (ww_i1 1 (by decide)) rfl (Or.inl rfl) (by decide) hij10 hj10 rfl ?_
        obtain ⟨Q11, hT, h⟩ := h
        refine ww_invVV (d' := mX2_copy) [.inr (.inr (21, j10))] rfl 37 dX5_adds_34 ⟨wi_X2, wc_X2_copy, wp_X2_copy, by decide, by decide⟩ wl_X5_87 wn_X2_copy we_X2_copy (show ww_in (21, 16) from (show 16 < 104 by omega)) rfl rfl (Nat.le_of_ble_eq_true rfl) rfl hT (fun τ12 hq => ?_)
        replace h := h τ12 hq
        refine ww_aload_n 38 dX5_adds_37 rfl 0 rfl rfl ?_
        refine ww_getR 5 41 dX5_adds_38 wf_X5_48 (ww_i1 0 (by decide)) rfl rfl rfl ?_
        refine ww_iload_n 42 dX5_adds_41 rfl 2 rfl rfl ?_
        obtain ⟨Q13, hT, h⟩ := h
        refine ww_invVV (d' := mX2_put) [.inl a2] rfl 45 dX5_adds_42 ⟨wi_X2, wc_X2_put, wp_X2_put, by decide, by decide⟩ wl_X5_130 wn_X2_put we_X2_put (show ww_in (21, 16) from (show 16 < 104 by omega)) rfl rfl (Nat.le_of_ble_eq_true rfl) rfl hT (fun τ14 hq => ?_)
        replace h := h τ14 hq
        refine ww_aload_n 46 dX5_adds_45 rfl 0 rfl rfl ?_
        refine ww_iload_n 47 dX5_adds_46 rfl 1 rfl rfl ?_
        obtain ⟨Q15, hT, h⟩ := h
        refine ww_invVI (d' := mX5_keep) [.inl a1] rfl 50 dX5_adds_47 ⟨wi_X5, wc_X5_keep, wp_X5_keep, by decide, by decide⟩ wl_X5_133 wn_X5_keep we_X5_keep (ww_i1 0 (by decide)) rfl rfl (Nat.le_of_ble_eq_true rfl) rfl hT (fun v16 τ17 hq => ?_)
        replace h := h v16 τ17 hq
        exact ww_iret dX5_adds_50 rfl ⟨_, rfl, h⟩
      · replace h := h.2 c
        refine ww_aload_n 18 dX5_adds_17 rfl 0 rfl rfl ?_
        refine ww_bipush (v := (-2 : Int32)) 20 dX5_adds_18 (by decide) rfl ?_
        obtain ⟨Q18, hT, h⟩ := h
        refine ww_invVI (d' := mX5_refuse) [.inl (-2 : Int32)] rfl 23 dX5_adds_20 ⟨wi_X5, wc_X5_refuse, wp_X5_refuse, by decide, by decide⟩ wl_X5_58 wn_X5_refuse we_X5_refuse (ww_i1 0 (by decide)) rfl rfl (Nat.le_of_ble_eq_true rfl) rfl hT (fun v19 τ20 hq => ?_)
        replace h := h v19 τ20 hq
        exact ww_iret dX5_adds_23 rfl ⟨_, rfl, h⟩
theorem b_X5_times {l : Launch} {g : ww_G} {τ : ww_M} {a1 : Int32} {a2 : Int32} {a3 : Int32} {Post : Int32 → ww_M → Prop}  (h : ∀ E : ww_E, (∃ Q1 : Int32 → ww_M → Prop, ww_T E.2.1 g mX5_isWord [.inl a1] τ (ww_QI Q1) ∧ ∀ (v2 : Int32) (τ3 : ww_M), Q1 v2 τ3 → (v2 = nI 0 → (∃ Q4 : Int32 → ww_M → Prop, ww_T E.2.1 g mX5_refuse [.inr (.inr (0, 0)), .inl (-2 : Int32)] τ3 (ww_QI Q4) ∧ ∀ (v5 : Int32) (τ6 : ww_M), Q4 v5 τ6 → Post v5 τ6)) ∧ (¬ v2 = nI 0 → (∃ Q7 : Int32 → ww_M → Prop, ww_T E.2.1 g mX5_isWord [.inl a2] τ3 (ww_QI Q7) ∧ ∀ (v8 : Int32) (τ9 : ww_M), Q7 v8 τ9 → (v8 = nI 0 → (∃ Q10 : Int32 → ww_M → Prop, ww_T E.2.1 g mX5_refuse [.inr (.inr (0, 0)), .inl (-2 : Int32)] τ9 (ww_QI Q10) ∧ ∀ (v11 : Int32) (τ12 : ww_M), Q10 v11 τ12 → Post v11 τ12)) ∧ (¬ v8 = nI 0 → (∃ Q13 : Int32 → ww_M → Prop, ww_T E.2.1 g mX5_isWord [.inl a3] τ9 (ww_QI Q13) ∧ ∀ (v14 : Int32) (τ15 : ww_M), Q13 v14 τ15 → (¬ v14 = nI 0 → (∃ j16 : Nat, a1 = nI j16 ∧ j16 < 6 ∧ (∃ Q17 : ww_M → Prop, ww_T E.2.1 g mX2_copy [.inr (.inr (21, 16)), .inr (.inr (21, j16))] τ15 (ww_QV Q17) ∧ ∀ (τ18 : ww_M), Q17 τ18 → (∃ j19 : Nat, a2 = nI j19 ∧ j19 < 6 ∧ (∃ Q20 : ww_M → Prop, ww_T E.2.1 g mX2_putRow [.inr (.inr (21, 16)), .inr (.inr (21, j19))] τ18 (ww_QV Q20) ∧ ∀ (τ21 : ww_M), Q20 τ21 → (∃ Q22 : Int32 → ww_M → Prop, ww_T E.2.1 g mX5_keep [.inr (.inr (0, 0)), .inl a3] τ21 (ww_QI Q22) ∧ ∀ (v23 : Int32) (τ24 : ww_M), Q22 v23 τ24 → Post v23 τ24)))))) ∧ (v14 = nI 0 → (∃ Q25 : Int32 → ww_M → Prop, ww_T E.2.1 g mX5_refuse [.inr (.inr (0, 0)), .inl (-2 : Int32)] τ15 (ww_QI Q25) ∧ ∀ (v26 : Int32) (τ27 : ww_M), Q25 v26 τ27 → Post v26 τ27)))))))) : ww_T l g mX5_times [.inr (.inr (0, 0)), .inl a1, .inl a2, .inl a3] τ (ww_QI Post) := by
  refine ww_enter (P := [some (.inr (.inr (0, 0))), some (.inl a1), some (.inl a2), some (.inl a3)]) (by decide) (Nat.le_of_ble_eq_true rfl) rfl (fun E => ?_)
  replace h := h E
  refine ww_iload_n 1 dX5_times_0 rfl 1 rfl rfl ?_
  obtain ⟨Q1, hT, h⟩ := h
  refine ww_invSI (d' := mX5_isWord) [.inl a1] rfl 4 dX5_times_1 ⟨wi_X5, wc_X5_isWord, wp_X5_isWord, by decide, by decide⟩ (Or.inl wl_X5_81) wn_X5_isWord (Nat.le_of_ble_eq_true rfl) rfl hT (fun v2 τ3 hq => ?_)
  replace h := h v2 τ3 hq
  refine ww_if_eq 21 7 dX5_times_4 (by decide) rfl (fun c => ?_) (fun c => ?_)
  · replace h := h.1 c
    refine ww_aload_n 22 dX5_times_21 rfl 0 rfl rfl ?_
    refine ww_bipush (v := (-2 : Int32)) 24 dX5_times_22 (by decide) rfl ?_
    obtain ⟨Q4, hT, h⟩ := h
    refine ww_invVI (d' := mX5_refuse) [.inl (-2 : Int32)] rfl 27 dX5_times_24 ⟨wi_X5, wc_X5_refuse, wp_X5_refuse, by decide, by decide⟩ wl_X5_58 wn_X5_refuse we_X5_refuse (ww_i1 0 (by decide)) rfl rfl (Nat.le_of_ble_eq_true rfl) rfl hT (fun v5 τ6 hq => ?_)
    replace h := h v5 τ6 hq
    exact ww_iret dX5_times_27 rfl ⟨_, rfl, h⟩
  · replace h := h.2 c
    refine ww_iload_n 8 dX5_times_7 rfl 2 rfl rfl ?_
    obtain ⟨Q7, hT, h⟩ := h
    refine ww_invSI (d' := mX5_isWord) [.inl a2] rfl 11 dX5_times_8 ⟨wi_X5, wc_X5_isWord, wp_X5_isWord, by decide, by decide⟩ (Or.inl wl_X5_81) wn_X5_isWord (Nat.le_of_ble_eq_true rfl) rfl hT (fun v8 τ9 hq => ?_)
    replace h := h v8 τ9 hq
    refine ww_if_eq 21 14 dX5_times_11 (by decide) rfl (fun c => ?_) (fun c => ?_)
    · replace h := h.1 c
      refine ww_aload_n 22 dX5_times_21 rfl 0 rfl rfl ?_
      refine ww_bipush (v := (-2 : Int32)) 24 dX5_times_22 (by decide) rfl ?_
      obtain ⟨Q10, hT, h⟩ := h
      refine ww_invVI (d' := mX5_refuse) [.inl (-2 : Int32)] rfl 27 dX5_times_24 ⟨wi_X5, wc_X5_refuse, wp_X5_refuse, by decide, by decide⟩ wl_X5_58 wn_X5_refuse we_X5_refuse (ww_i1 0 (by decide)) rfl rfl (Nat.le_of_ble_eq_true rfl) rfl hT (fun v11 τ12 hq => ?_)
      replace h := h v11 τ12 hq
      exact ww_iret dX5_times_27 rfl ⟨_, rfl, h⟩
    · replace h := h.2 c
      refine ww_iload_n 15 dX5_times_14 rfl 3 rfl rfl ?_
      obtain ⟨Q13, hT, h⟩ := h
      refine ww_invSI (d' := mX5_isWord) [.inl a3] rfl 18 dX5_times_15 ⟨wi_X5, wc_X5_isWord, wp_X5_isWord, by decide, by decide⟩ (Or.inl wl_X5_81) wn_X5_isWord (Nat.le_of_ble_eq_true rfl) rfl hT (fun v14 τ15 hq => ?_)
      replace h := h v14 τ15 hq
      refine ww_if_ne 28 21 dX5_times_18 (by decide) rfl (fun c => ?_) (fun c => ?_)
      · replace h := h.1 c
        refine ww_aload_n 29 dX5_times_28 rfl 0 rfl rfl ?_
        refine ww_getR 5 32 dX5_times_29 wf_X5_48 (ww_i1 0 (by decide)) rfl rfl rfl ?_
        refine ww_aload_n 33 dX5_times_32 rfl 0 rfl rfl ?_
        refine ww_getR 0 36 dX5_times_33 wf_X5_11 (ww_i1 0 (by decide)) rfl rfl rfl ?_
        refine ww_iload_n 37 dX5_times_36 rfl 1 rfl rfl ?_
        obtain ⟨j16, hij16, hj16, h⟩ := h
        refine ww_aald j16 38 dX5_times_37 (ww_i1 1 (by decide)) rfl (Or.inl rfl) (by decide) hij16 hj16 rfl ?_
        obtain ⟨Q17, hT, h⟩ := h
        refine ww_invVV (d' := mX2_copy) [.inr (.inr (21, j16))] rfl 41 dX5_times_38 ⟨wi_X2, wc_X2_copy, wp_X2_copy, by decide, by decide⟩ wl_X5_87 wn_X2_copy we_X2_copy (show ww_in (21, 16) from (show 16 < 104 by omega)) rfl rfl (Nat.le_of_ble_eq_true rfl) rfl hT (fun τ18 hq => ?_)
        replace h := h τ18 hq
        refine ww_aload_n 42 dX5_times_41 rfl 0 rfl rfl ?_
        refine ww_getR 5 45 dX5_times_42 wf_X5_48 (ww_i1 0 (by decide)) rfl rfl rfl ?_
        refine ww_aload_n 46 dX5_times_45 rfl 0 rfl rfl ?_
        refine ww_getR 0 49 dX5_times_46 wf_X5_11 (ww_i1 0 (by decide)) rfl rfl rfl ?_
        refine ww_iload_n 50 dX5_times_49 rfl 2 rfl rfl ?_
        obtain ⟨j19, hij19, hj19, h⟩ := h
        refine ww_aald j19 51 dX5_times_50 (ww_i1 1 (by decide)) rfl (Or.inl rfl) (by decide) hij19 hj19 rfl ?_
        obtain ⟨Q20, hT, h⟩ := h
        refine ww_invVV (d' := mX2_putRow) [.inr (.inr (21, j19))] rfl 54 dX5_times_51 ⟨wi_X2, wc_X2_putRow, wp_X2_putRow, by decide, by decide⟩ wl_X5_136 wn_X2_putRow we_X2_putRow (show ww_in (21, 16) from (show 16 < 104 by omega)) rfl rfl (Nat.le_of_ble_eq_true rfl) rfl hT (fun τ21 hq => ?_)
        replace h := h τ21 hq
        refine ww_aload_n 55 dX5_times_54 rfl 0 rfl rfl ?_
        refine ww_iload_n 56 dX5_times_55 rfl 3 rfl rfl ?_
        obtain ⟨Q22, hT, h⟩ := h
        refine ww_invVI (d' := mX5_keep) [.inl a3] rfl 59 dX5_times_56 ⟨wi_X5, wc_X5_keep, wp_X5_keep, by decide, by decide⟩ wl_X5_133 wn_X5_keep we_X5_keep (ww_i1 0 (by decide)) rfl rfl (Nat.le_of_ble_eq_true rfl) rfl hT (fun v23 τ24 hq => ?_)
        replace h := h v23 τ24 hq
        exact ww_iret dX5_times_59 rfl ⟨_, rfl, h⟩
      · replace h := h.2 c
        refine ww_aload_n 22 dX5_times_21 rfl 0 rfl rfl ?_
        refine ww_bipush (v := (-2 : Int32)) 24 dX5_times_22 (by decide) rfl ?_
        obtain ⟨Q25, hT, h⟩ := h
        refine ww_invVI (d' := mX5_refuse) [.inl (-2 : Int32)] rfl 27 dX5_times_24 ⟨wi_X5, wc_X5_refuse, wp_X5_refuse, by decide, by decide⟩ wl_X5_58 wn_X5_refuse we_X5_refuse (ww_i1 0 (by decide)) rfl rfl (Nat.le_of_ble_eq_true rfl) rfl hT (fun v26 τ27 hq => ?_)
        replace h := h v26 τ27 hq
        exact ww_iret dX5_times_27 rfl ⟨_, rfl, h⟩
theorem b_X5_inverse {l : Launch} {g : ww_G} {τ : ww_M} {a1 : Int32} {a2 : Int32} {Post : Int32 → ww_M → Prop}  (h : ∀ E : ww_E, (∃ Q1 : Int32 → ww_M → Prop, ww_T E.2.1 g mX5_isWord [.inl a1] τ (ww_QI Q1) ∧ ∀ (v2 : Int32) (τ3 : ww_M), Q1 v2 τ3 → (v2 = nI 0 → (∃ Q4 : Int32 → ww_M → Prop, ww_T E.2.1 g mX5_refuse [.inr (.inr (0, 0)), .inl (-2 : Int32)] τ3 (ww_QI Q4) ∧ ∀ (v5 : Int32) (τ6 : ww_M), Q4 v5 τ6 → Post v5 τ6)) ∧ (¬ v2 = nI 0 → (∃ Q7 : Int32 → ww_M → Prop, ww_T E.2.1 g mX5_isWord [.inl a2] τ3 (ww_QI Q7) ∧ ∀ (v8 : Int32) (τ9 : ww_M), Q7 v8 τ9 → (¬ v8 = nI 0 → (∃ Q10 : ww_M → Prop, ww_T E.2.1 g mX2_wipe [.inr (.inr (21, 16))] τ9 (ww_QV Q10) ∧ ∀ (τ11 : ww_M), Q10 τ11 → (∃ j12 : Nat, a1 = nI j12 ∧ j12 < 6 ∧ (∃ Q13 : ww_M → Prop, ww_T E.2.1 g mX2_putInverse [.inr (.inr (21, 16)), .inr (.inr (21, j12))] τ11 (ww_QV Q13) ∧ ∀ (τ14 : ww_M), Q13 τ14 → (∃ Q15 : Int32 → ww_M → Prop, ww_T E.2.1 g mX5_keep [.inr (.inr (0, 0)), .inl a2] τ14 (ww_QI Q15) ∧ ∀ (v16 : Int32) (τ17 : ww_M), Q15 v16 τ17 → Post v16 τ17))))) ∧ (v8 = nI 0 → (∃ Q18 : Int32 → ww_M → Prop, ww_T E.2.1 g mX5_refuse [.inr (.inr (0, 0)), .inl (-2 : Int32)] τ9 (ww_QI Q18) ∧ ∀ (v19 : Int32) (τ20 : ww_M), Q18 v19 τ20 → Post v19 τ20)))))) : ww_T l g mX5_inverse [.inr (.inr (0, 0)), .inl a1, .inl a2] τ (ww_QI Post) := by
  refine ww_enter (P := [some (.inr (.inr (0, 0))), some (.inl a1), some (.inl a2)]) (by decide) (Nat.le_of_ble_eq_true rfl) rfl (fun E => ?_)
  replace h := h E
  refine ww_iload_n 1 dX5_inverse_0 rfl 1 rfl rfl ?_
  obtain ⟨Q1, hT, h⟩ := h
  refine ww_invSI (d' := mX5_isWord) [.inl a1] rfl 4 dX5_inverse_1 ⟨wi_X5, wc_X5_isWord, wp_X5_isWord, by decide, by decide⟩ (Or.inl wl_X5_81) wn_X5_isWord (Nat.le_of_ble_eq_true rfl) rfl hT (fun v2 τ3 hq => ?_)
  replace h := h v2 τ3 hq
  refine ww_if_eq 14 7 dX5_inverse_4 (by decide) rfl (fun c => ?_) (fun c => ?_)
  · replace h := h.1 c
    refine ww_aload_n 15 dX5_inverse_14 rfl 0 rfl rfl ?_
    refine ww_bipush (v := (-2 : Int32)) 17 dX5_inverse_15 (by decide) rfl ?_
    obtain ⟨Q4, hT, h⟩ := h
    refine ww_invVI (d' := mX5_refuse) [.inl (-2 : Int32)] rfl 20 dX5_inverse_17 ⟨wi_X5, wc_X5_refuse, wp_X5_refuse, by decide, by decide⟩ wl_X5_58 wn_X5_refuse we_X5_refuse (ww_i1 0 (by decide)) rfl rfl (Nat.le_of_ble_eq_true rfl) rfl hT (fun v5 τ6 hq => ?_)
    replace h := h v5 τ6 hq
    exact ww_iret dX5_inverse_20 rfl ⟨_, rfl, h⟩
  · replace h := h.2 c
    refine ww_iload_n 8 dX5_inverse_7 rfl 2 rfl rfl ?_
    obtain ⟨Q7, hT, h⟩ := h
    refine ww_invSI (d' := mX5_isWord) [.inl a2] rfl 11 dX5_inverse_8 ⟨wi_X5, wc_X5_isWord, wp_X5_isWord, by decide, by decide⟩ (Or.inl wl_X5_81) wn_X5_isWord (Nat.le_of_ble_eq_true rfl) rfl hT (fun v8 τ9 hq => ?_)
    replace h := h v8 τ9 hq
    refine ww_if_ne 21 14 dX5_inverse_11 (by decide) rfl (fun c => ?_) (fun c => ?_)
    · replace h := h.1 c
      refine ww_aload_n 22 dX5_inverse_21 rfl 0 rfl rfl ?_
      refine ww_getR 5 25 dX5_inverse_22 wf_X5_48 (ww_i1 0 (by decide)) rfl rfl rfl ?_
      obtain ⟨Q10, hT, h⟩ := h
      refine ww_invVV (d' := mX2_wipe) [] rfl 28 dX5_inverse_25 ⟨wi_X2, wc_X2_wipe, wp_X2_wipe, by decide, by decide⟩ wl_X5_139 wn_X2_wipe we_X2_wipe (show ww_in (21, 16) from (show 16 < 104 by omega)) rfl rfl (Nat.le_of_ble_eq_true rfl) rfl hT (fun τ11 hq => ?_)
      replace h := h τ11 hq
      refine ww_aload_n 29 dX5_inverse_28 rfl 0 rfl rfl ?_
      refine ww_getR 5 32 dX5_inverse_29 wf_X5_48 (ww_i1 0 (by decide)) rfl rfl rfl ?_
      refine ww_aload_n 33 dX5_inverse_32 rfl 0 rfl rfl ?_
      refine ww_getR 0 36 dX5_inverse_33 wf_X5_11 (ww_i1 0 (by decide)) rfl rfl rfl ?_
      refine ww_iload_n 37 dX5_inverse_36 rfl 1 rfl rfl ?_
      obtain ⟨j12, hij12, hj12, h⟩ := h
      refine ww_aald j12 38 dX5_inverse_37 (ww_i1 1 (by decide)) rfl (Or.inl rfl) (by decide) hij12 hj12 rfl ?_
      obtain ⟨Q13, hT, h⟩ := h
      refine ww_invVV (d' := mX2_putInverse) [.inr (.inr (21, j12))] rfl 41 dX5_inverse_38 ⟨wi_X2, wc_X2_putInverse, wp_X2_putInverse, by decide, by decide⟩ wl_X5_142 wn_X2_putInverse we_X2_putInverse (show ww_in (21, 16) from (show 16 < 104 by omega)) rfl rfl (Nat.le_of_ble_eq_true rfl) rfl hT (fun τ14 hq => ?_)
      replace h := h τ14 hq
      refine ww_aload_n 42 dX5_inverse_41 rfl 0 rfl rfl ?_
      refine ww_iload_n 43 dX5_inverse_42 rfl 2 rfl rfl ?_
      obtain ⟨Q15, hT, h⟩ := h
      refine ww_invVI (d' := mX5_keep) [.inl a2] rfl 46 dX5_inverse_43 ⟨wi_X5, wc_X5_keep, wp_X5_keep, by decide, by decide⟩ wl_X5_133 wn_X5_keep we_X5_keep (ww_i1 0 (by decide)) rfl rfl (Nat.le_of_ble_eq_true rfl) rfl hT (fun v16 τ17 hq => ?_)
      replace h := h v16 τ17 hq
      exact ww_iret dX5_inverse_46 rfl ⟨_, rfl, h⟩
    · replace h := h.2 c
      refine ww_aload_n 15 dX5_inverse_14 rfl 0 rfl rfl ?_
      refine ww_bipush (v := (-2 : Int32)) 17 dX5_inverse_15 (by decide) rfl ?_
      obtain ⟨Q18, hT, h⟩ := h
      refine ww_invVI (d' := mX5_refuse) [.inl (-2 : Int32)] rfl 20 dX5_inverse_17 ⟨wi_X5, wc_X5_refuse, wp_X5_refuse, by decide, by decide⟩ wl_X5_58 wn_X5_refuse we_X5_refuse (ww_i1 0 (by decide)) rfl rfl (Nat.le_of_ble_eq_true rfl) rfl hT (fun v19 τ20 hq => ?_)
      replace h := h v19 τ20 hq
      exact ww_iret dX5_inverse_20 rfl ⟨_, rfl, h⟩
theorem b_X5_power {l : Launch} {g : ww_G} {τ : ww_M} {a1 : Int32} {a2 : Int32} {a3 : Int32} {Post : Int32 → ww_M → Prop}  (h : ∀ E : ww_E, (∃ Q1 : Int32 → ww_M → Prop, ww_T E.2.1 g mX5_isWord [.inl a1] τ (ww_QI Q1) ∧ ∀ (v2 : Int32) (τ3 : ww_M), Q1 v2 τ3 → (v2 = nI 0 → (∃ Q4 : Int32 → ww_M → Prop, ww_T E.2.1 g mX5_refuse [.inr (.inr (0, 0)), .inl (-2 : Int32)] τ3 (ww_QI Q4) ∧ ∀ (v5 : Int32) (τ6 : ww_M), Q4 v5 τ6 → Post v5 τ6)) ∧ (¬ v2 = nI 0 → ((a2 < (-9 : Int32) → (∃ Q7 : Int32 → ww_M → Prop, ww_T E.2.1 g mX5_refuse [.inr (.inr (0, 0)), .inl (-2 : Int32)] τ3 (ww_QI Q7) ∧ ∀ (v8 : Int32) (τ9 : ww_M), Q7 v8 τ9 → Post v8 τ9)) ∧ (¬ (a2 < (-9 : Int32)) → ((nI 9 < a2 → (∃ Q10 : Int32 → ww_M → Prop, ww_T E.2.1 g mX5_refuse [.inr (.inr (0, 0)), .inl (-2 : Int32)] τ3 (ww_QI Q10) ∧ ∀ (v11 : Int32) (τ12 : ww_M), Q10 v11 τ12 → Post v11 τ12)) ∧ (¬ (nI 9 < a2) → (∃ Q13 : Int32 → ww_M → Prop, ww_T E.2.1 g mX5_isWord [.inl a3] τ3 (ww_QI Q13) ∧ ∀ (v14 : Int32) (τ15 : ww_M), Q13 v14 τ15 → (¬ v14 = nI 0 → (∃ Q16 : ww_M → Prop, ww_T E.2.1 g mX5_makePower [.inr (.inr (0, 0)), .inl a1, .inl a2] τ15 (ww_QV Q16) ∧ ∀ (τ17 : ww_M), Q16 τ17 → (∃ Q18 : Int32 → ww_M → Prop, ww_T E.2.1 g mX5_keep [.inr (.inr (0, 0)), .inl a3] τ17 (ww_QI Q18) ∧ ∀ (v19 : Int32) (τ20 : ww_M), Q18 v19 τ20 → Post v19 τ20))) ∧ (v14 = nI 0 → (∃ Q21 : Int32 → ww_M → Prop, ww_T E.2.1 g mX5_refuse [.inr (.inr (0, 0)), .inl (-2 : Int32)] τ15 (ww_QI Q21) ∧ ∀ (v22 : Int32) (τ23 : ww_M), Q21 v22 τ23 → Post v22 τ23)))))))))) : ww_T l g mX5_power [.inr (.inr (0, 0)), .inl a1, .inl a2, .inl a3] τ (ww_QI Post) := by
  refine ww_enter (P := [some (.inr (.inr (0, 0))), some (.inl a1), some (.inl a2), some (.inl a3)]) (by decide) (Nat.le_of_ble_eq_true rfl) rfl (fun E => ?_)
  replace h := h E
  refine ww_iload_n 1 dX5_power_0 rfl 1 rfl rfl ?_
  obtain ⟨Q1, hT, h⟩ := h
  refine ww_invSI (d' := mX5_isWord) [.inl a1] rfl 4 dX5_power_1 ⟨wi_X5, wc_X5_isWord, wp_X5_isWord, by decide, by decide⟩ (Or.inl wl_X5_81) wn_X5_isWord (Nat.le_of_ble_eq_true rfl) rfl hT (fun v2 τ3 hq => ?_)
  replace h := h v2 τ3 hq
  refine ww_if_eq 26 7 dX5_power_4 (by decide) rfl (fun c => ?_) (fun c => ?_)
  · replace h := h.1 c
    refine ww_aload_n 27 dX5_power_26 rfl 0 rfl rfl ?_
    refine ww_bipush (v := (-2 : Int32)) 29 dX5_power_27 (by decide) rfl ?_
    obtain ⟨Q4, hT, h⟩ := h
    refine ww_invVI (d' := mX5_refuse) [.inl (-2 : Int32)] rfl 32 dX5_power_29 ⟨wi_X5, wc_X5_refuse, wp_X5_refuse, by decide, by decide⟩ wl_X5_58 wn_X5_refuse we_X5_refuse (ww_i1 0 (by decide)) rfl rfl (Nat.le_of_ble_eq_true rfl) rfl hT (fun v5 τ6 hq => ?_)
    replace h := h v5 τ6 hq
    exact ww_iret dX5_power_32 rfl ⟨_, rfl, h⟩
  · replace h := h.2 c
    refine ww_iload_n 8 dX5_power_7 rfl 2 rfl rfl ?_
    refine ww_bipush (v := (-9 : Int32)) 10 dX5_power_8 (by decide) rfl ?_
    refine ww_ic_lt 26 13 dX5_power_10 (by decide) rfl (fun c => ?_) (fun c => ?_)
    · replace h := h.1 c
      refine ww_aload_n 27 dX5_power_26 rfl 0 rfl rfl ?_
      refine ww_bipush (v := (-2 : Int32)) 29 dX5_power_27 (by decide) rfl ?_
      obtain ⟨Q7, hT, h⟩ := h
      refine ww_invVI (d' := mX5_refuse) [.inl (-2 : Int32)] rfl 32 dX5_power_29 ⟨wi_X5, wc_X5_refuse, wp_X5_refuse, by decide, by decide⟩ wl_X5_58 wn_X5_refuse we_X5_refuse (ww_i1 0 (by decide)) rfl rfl (Nat.le_of_ble_eq_true rfl) rfl hT (fun v8 τ9 hq => ?_)
      replace h := h v8 τ9 hq
      exact ww_iret dX5_power_32 rfl ⟨_, rfl, h⟩
    · replace h := h.2 c
      refine ww_iload_n 14 dX5_power_13 rfl 2 rfl rfl ?_
      refine ww_bipush (v := nI 9) 16 dX5_power_14 (by decide) rfl ?_
      refine ww_ic_gt 26 19 dX5_power_16 (by decide) rfl (fun c => ?_) (fun c => ?_)
      · replace h := h.1 c
        refine ww_aload_n 27 dX5_power_26 rfl 0 rfl rfl ?_
        refine ww_bipush (v := (-2 : Int32)) 29 dX5_power_27 (by decide) rfl ?_
        obtain ⟨Q10, hT, h⟩ := h
        refine ww_invVI (d' := mX5_refuse) [.inl (-2 : Int32)] rfl 32 dX5_power_29 ⟨wi_X5, wc_X5_refuse, wp_X5_refuse, by decide, by decide⟩ wl_X5_58 wn_X5_refuse we_X5_refuse (ww_i1 0 (by decide)) rfl rfl (Nat.le_of_ble_eq_true rfl) rfl hT (fun v11 τ12 hq => ?_)
        replace h := h v11 τ12 hq
        exact ww_iret dX5_power_32 rfl ⟨_, rfl, h⟩
      · replace h := h.2 c
        refine ww_iload_n 20 dX5_power_19 rfl 3 rfl rfl ?_
        obtain ⟨Q13, hT, h⟩ := h
        refine ww_invSI (d' := mX5_isWord) [.inl a3] rfl 23 dX5_power_20 ⟨wi_X5, wc_X5_isWord, wp_X5_isWord, by decide, by decide⟩ (Or.inl wl_X5_81) wn_X5_isWord (Nat.le_of_ble_eq_true rfl) rfl hT (fun v14 τ15 hq => ?_)
        replace h := h v14 τ15 hq
        refine ww_if_ne 33 26 dX5_power_23 (by decide) rfl (fun c => ?_) (fun c => ?_)
        · replace h := h.1 c
          refine ww_aload_n 34 dX5_power_33 rfl 0 rfl rfl ?_
          refine ww_iload_n 35 dX5_power_34 rfl 1 rfl rfl ?_
          refine ww_iload_n 36 dX5_power_35 rfl 2 rfl rfl ?_
          obtain ⟨Q16, hT, h⟩ := h
          refine ww_invVV (d' := mX5_makePower) [.inl a1, .inl a2] rfl 39 dX5_power_36 ⟨wi_X5, wc_X5_makePower, wp_X5_makePower, by decide, by decide⟩ wl_X5_145 wn_X5_makePower we_X5_makePower (ww_i1 0 (by decide)) rfl rfl (Nat.le_of_ble_eq_true rfl) rfl hT (fun τ17 hq => ?_)
          replace h := h τ17 hq
          refine ww_aload_n 40 dX5_power_39 rfl 0 rfl rfl ?_
          refine ww_iload_n 41 dX5_power_40 rfl 3 rfl rfl ?_
          obtain ⟨Q18, hT, h⟩ := h
          refine ww_invVI (d' := mX5_keep) [.inl a3] rfl 44 dX5_power_41 ⟨wi_X5, wc_X5_keep, wp_X5_keep, by decide, by decide⟩ wl_X5_133 wn_X5_keep we_X5_keep (ww_i1 0 (by decide)) rfl rfl (Nat.le_of_ble_eq_true rfl) rfl hT (fun v19 τ20 hq => ?_)
          replace h := h v19 τ20 hq
          exact ww_iret dX5_power_44 rfl ⟨_, rfl, h⟩
        · replace h := h.2 c
          refine ww_aload_n 27 dX5_power_26 rfl 0 rfl rfl ?_
          refine ww_bipush (v := (-2 : Int32)) 29 dX5_power_27 (by decide) rfl ?_
          obtain ⟨Q21, hT, h⟩ := h
          refine ww_invVI (d' := mX5_refuse) [.inl (-2 : Int32)] rfl 32 dX5_power_29 ⟨wi_X5, wc_X5_refuse, wp_X5_refuse, by decide, by decide⟩ wl_X5_58 wn_X5_refuse we_X5_refuse (ww_i1 0 (by decide)) rfl rfl (Nat.le_of_ble_eq_true rfl) rfl hT (fun v22 τ23 hq => ?_)
          replace h := h v22 τ23 hq
          exact ww_iret dX5_power_32 rfl ⟨_, rfl, h⟩
theorem b_X5_ring {l : Launch} {g : ww_G} {τ : ww_M} {a1 : Int32} {a2 : Int32} {Post : Int32 → ww_M → Prop}  (h : ∀ E : ww_E, (∃ Q1 : Int32 → ww_M → Prop, ww_T E.2.1 g mX5_isWord [.inl a1] τ (ww_QI Q1) ∧ ∀ (v2 : Int32) (τ3 : ww_M), Q1 v2 τ3 → (v2 = nI 0 → (∃ Q4 : Int32 → ww_M → Prop, ww_T E.2.1 g mX5_refuse [.inr (.inr (0, 0)), .inl (-2 : Int32)] τ3 (ww_QI Q4) ∧ ∀ (v5 : Int32) (τ6 : ww_M), Q4 v5 τ6 → Post v5 τ6)) ∧ (¬ v2 = nI 0 → (∃ Q7 : Int32 → ww_M → Prop, ww_T E.2.1 g mX5_isWord [.inl a2] τ3 (ww_QI Q7) ∧ ∀ (v8 : Int32) (τ9 : ww_M), Q7 v8 τ9 → (¬ v8 = nI 0 → (∃ j10 : Nat, a1 = nI j10 ∧ j10 < 6 ∧ (∃ Q11 : ww_M → Prop, ww_T E.2.1 g mX2_copy [.inr (.inr (21, 16)), .inr (.inr (21, j10))] τ9 (ww_QV Q11) ∧ ∀ (τ12 : ww_M), Q11 τ12 → (∃ Q13 : ww_M → Prop, ww_T E.2.1 g mX2_cutToRing [.inr (.inr (21, 16))] τ12 (ww_QV Q13) ∧ ∀ (τ14 : ww_M), Q13 τ14 → (∃ Q15 : Int32 → ww_M → Prop, ww_T E.2.1 g mX5_keep [.inr (.inr (0, 0)), .inl a2] τ14 (ww_QI Q15) ∧ ∀ (v16 : Int32) (τ17 : ww_M), Q15 v16 τ17 → Post v16 τ17))))) ∧ (v8 = nI 0 → (∃ Q18 : Int32 → ww_M → Prop, ww_T E.2.1 g mX5_refuse [.inr (.inr (0, 0)), .inl (-2 : Int32)] τ9 (ww_QI Q18) ∧ ∀ (v19 : Int32) (τ20 : ww_M), Q18 v19 τ20 → Post v19 τ20)))))) : ww_T l g mX5_ring [.inr (.inr (0, 0)), .inl a1, .inl a2] τ (ww_QI Post) := by
  refine ww_enter (P := [some (.inr (.inr (0, 0))), some (.inl a1), some (.inl a2)]) (by decide) (Nat.le_of_ble_eq_true rfl) rfl (fun E => ?_)
  replace h := h E
  refine ww_iload_n 1 dX5_ring_0 rfl 1 rfl rfl ?_
  obtain ⟨Q1, hT, h⟩ := h
  refine ww_invSI (d' := mX5_isWord) [.inl a1] rfl 4 dX5_ring_1 ⟨wi_X5, wc_X5_isWord, wp_X5_isWord, by decide, by decide⟩ (Or.inl wl_X5_81) wn_X5_isWord (Nat.le_of_ble_eq_true rfl) rfl hT (fun v2 τ3 hq => ?_)
  replace h := h v2 τ3 hq
  refine ww_if_eq 14 7 dX5_ring_4 (by decide) rfl (fun c => ?_) (fun c => ?_)
  · replace h := h.1 c
    refine ww_aload_n 15 dX5_ring_14 rfl 0 rfl rfl ?_
    refine ww_bipush (v := (-2 : Int32)) 17 dX5_ring_15 (by decide) rfl ?_
    obtain ⟨Q4, hT, h⟩ := h
    refine ww_invVI (d' := mX5_refuse) [.inl (-2 : Int32)] rfl 20 dX5_ring_17 ⟨wi_X5, wc_X5_refuse, wp_X5_refuse, by decide, by decide⟩ wl_X5_58 wn_X5_refuse we_X5_refuse (ww_i1 0 (by decide)) rfl rfl (Nat.le_of_ble_eq_true rfl) rfl hT (fun v5 τ6 hq => ?_)
    replace h := h v5 τ6 hq
    exact ww_iret dX5_ring_20 rfl ⟨_, rfl, h⟩
  · replace h := h.2 c
    refine ww_iload_n 8 dX5_ring_7 rfl 2 rfl rfl ?_
    obtain ⟨Q7, hT, h⟩ := h
    refine ww_invSI (d' := mX5_isWord) [.inl a2] rfl 11 dX5_ring_8 ⟨wi_X5, wc_X5_isWord, wp_X5_isWord, by decide, by decide⟩ (Or.inl wl_X5_81) wn_X5_isWord (Nat.le_of_ble_eq_true rfl) rfl hT (fun v8 τ9 hq => ?_)
    replace h := h v8 τ9 hq
    refine ww_if_ne 21 14 dX5_ring_11 (by decide) rfl (fun c => ?_) (fun c => ?_)
    · replace h := h.1 c
      refine ww_aload_n 22 dX5_ring_21 rfl 0 rfl rfl ?_
      refine ww_getR 5 25 dX5_ring_22 wf_X5_48 (ww_i1 0 (by decide)) rfl rfl rfl ?_
      refine ww_aload_n 26 dX5_ring_25 rfl 0 rfl rfl ?_
      refine ww_getR 0 29 dX5_ring_26 wf_X5_11 (ww_i1 0 (by decide)) rfl rfl rfl ?_
      refine ww_iload_n 30 dX5_ring_29 rfl 1 rfl rfl ?_
      obtain ⟨j10, hij10, hj10, h⟩ := h
      refine ww_aald j10 31 dX5_ring_30 (ww_i1 1 (by decide)) rfl (Or.inl rfl) (by decide) hij10 hj10 rfl ?_
      obtain ⟨Q11, hT, h⟩ := h
      refine ww_invVV (d' := mX2_copy) [.inr (.inr (21, j10))] rfl 34 dX5_ring_31 ⟨wi_X2, wc_X2_copy, wp_X2_copy, by decide, by decide⟩ wl_X5_87 wn_X2_copy we_X2_copy (show ww_in (21, 16) from (show 16 < 104 by omega)) rfl rfl (Nat.le_of_ble_eq_true rfl) rfl hT (fun τ12 hq => ?_)
      replace h := h τ12 hq
      refine ww_aload_n 35 dX5_ring_34 rfl 0 rfl rfl ?_
      refine ww_getR 5 38 dX5_ring_35 wf_X5_48 (ww_i1 0 (by decide)) rfl rfl rfl ?_
      obtain ⟨Q13, hT, h⟩ := h
      refine ww_invVV (d' := mX2_cutToRing) [] rfl 41 dX5_ring_38 ⟨wi_X2, wc_X2_cutToRing, wp_X2_cutToRing, by decide, by decide⟩ wl_X5_149 wn_X2_cutToRing we_X2_cutToRing (show ww_in (21, 16) from (show 16 < 104 by omega)) rfl rfl (Nat.le_of_ble_eq_true rfl) rfl hT (fun τ14 hq => ?_)
      replace h := h τ14 hq
      refine ww_aload_n 42 dX5_ring_41 rfl 0 rfl rfl ?_
      refine ww_iload_n 43 dX5_ring_42 rfl 2 rfl rfl ?_
      obtain ⟨Q15, hT, h⟩ := h
      refine ww_invVI (d' := mX5_keep) [.inl a2] rfl 46 dX5_ring_43 ⟨wi_X5, wc_X5_keep, wp_X5_keep, by decide, by decide⟩ wl_X5_133 wn_X5_keep we_X5_keep (ww_i1 0 (by decide)) rfl rfl (Nat.le_of_ble_eq_true rfl) rfl hT (fun v16 τ17 hq => ?_)
      replace h := h v16 τ17 hq
      exact ww_iret dX5_ring_46 rfl ⟨_, rfl, h⟩
    · replace h := h.2 c
      refine ww_aload_n 15 dX5_ring_14 rfl 0 rfl rfl ?_
      refine ww_bipush (v := (-2 : Int32)) 17 dX5_ring_15 (by decide) rfl ?_
      obtain ⟨Q18, hT, h⟩ := h
      refine ww_invVI (d' := mX5_refuse) [.inl (-2 : Int32)] rfl 20 dX5_ring_17 ⟨wi_X5, wc_X5_refuse, wp_X5_refuse, by decide, by decide⟩ wl_X5_58 wn_X5_refuse we_X5_refuse (ww_i1 0 (by decide)) rfl rfl (Nat.le_of_ble_eq_true rfl) rfl hT (fun v19 τ20 hq => ?_)
      replace h := h v19 τ20 hq
      exact ww_iret dX5_ring_20 rfl ⟨_, rfl, h⟩
theorem b_X5_turn {l : Launch} {g : ww_G} {τ : ww_M} {a1 : Int32} {a2 : Int32} {a3 : Int32} {Post : Int32 → ww_M → Prop}  (h : ∀ E : ww_E, (∃ Q1 : Int32 → ww_M → Prop, ww_T E.2.1 g mX5_isWord [.inl a1] τ (ww_QI Q1) ∧ ∀ (v2 : Int32) (τ3 : ww_M), Q1 v2 τ3 → (v2 = nI 0 → (∃ Q4 : Int32 → ww_M → Prop, ww_T E.2.1 g mX5_refuse [.inr (.inr (0, 0)), .inl (-2 : Int32)] τ3 (ww_QI Q4) ∧ ∀ (v5 : Int32) (τ6 : ww_M), Q4 v5 τ6 → Post v5 τ6)) ∧ (¬ v2 = nI 0 → ((a2 < nI 0 → (∃ Q7 : Int32 → ww_M → Prop, ww_T E.2.1 g mX5_refuse [.inr (.inr (0, 0)), .inl (-2 : Int32)] τ3 (ww_QI Q7) ∧ ∀ (v8 : Int32) (τ9 : ww_M), Q7 v8 τ9 → Post v8 τ9)) ∧ (¬ (a2 < nI 0) → ((nI 60 ≤ a2 → (∃ Q10 : Int32 → ww_M → Prop, ww_T E.2.1 g mX5_refuse [.inr (.inr (0, 0)), .inl (-2 : Int32)] τ3 (ww_QI Q10) ∧ ∀ (v11 : Int32) (τ12 : ww_M), Q10 v11 τ12 → Post v11 τ12)) ∧ (¬ (nI 60 ≤ a2) → (∃ Q13 : Int32 → ww_M → Prop, ww_T E.2.1 g mX5_isWord [.inl a3] τ3 (ww_QI Q13) ∧ ∀ (v14 : Int32) (τ15 : ww_M), Q13 v14 τ15 → (¬ v14 = nI 0 → (∃ j16 : Nat, a1 = nI j16 ∧ j16 < 6 ∧ (a2 < τ15 (21, j16) 1 → (∃ Q17 : ww_M → Prop, ww_T E.2.1 g mX2_wipe [.inr (.inr (21, 16))] τ15 (ww_QV Q17) ∧ ∀ (τ18 : ww_M), Q17 τ18 → (∃ j19 : Nat, a1 = nI j19 ∧ j19 < 6 ∧ (∃ Q20 : ww_M → Prop, ww_T E.2.1 g mX2_putTurn [.inr (.inr (21, 16)), .inr (.inr (21, j19)), .inl a2] τ18 (ww_QV Q20) ∧ ∀ (τ21 : ww_M), Q20 τ21 → (∃ Q22 : Int32 → ww_M → Prop, ww_T E.2.1 g mX5_keep [.inr (.inr (0, 0)), .inl a3] τ21 (ww_QI Q22) ∧ ∀ (v23 : Int32) (τ24 : ww_M), Q22 v23 τ24 → Post v23 τ24))))) ∧ (¬ (a2 < τ15 (21, j16) 1) → (∃ Q25 : Int32 → ww_M → Prop, ww_T E.2.1 g mX5_refuse [.inr (.inr (0, 0)), .inl (-3 : Int32)] τ15 (ww_QI Q25) ∧ ∀ (v26 : Int32) (τ27 : ww_M), Q25 v26 τ27 → Post v26 τ27)))) ∧ (v14 = nI 0 → (∃ Q28 : Int32 → ww_M → Prop, ww_T E.2.1 g mX5_refuse [.inr (.inr (0, 0)), .inl (-2 : Int32)] τ15 (ww_QI Q28) ∧ ∀ (v29 : Int32) (τ30 : ww_M), Q28 v29 τ30 → Post v29 τ30)))))))))) : ww_T l g mX5_turn [.inr (.inr (0, 0)), .inl a1, .inl a2, .inl a3] τ (ww_QI Post) := by
  refine ww_enter (P := [some (.inr (.inr (0, 0))), some (.inl a1), some (.inl a2), some (.inl a3)]) (by decide) (Nat.le_of_ble_eq_true rfl) rfl (fun E => ?_)
  replace h := h E
  refine ww_iload_n 1 dX5_turn_0 rfl 1 rfl rfl ?_
  obtain ⟨Q1, hT, h⟩ := h
  refine ww_invSI (d' := mX5_isWord) [.inl a1] rfl 4 dX5_turn_1 ⟨wi_X5, wc_X5_isWord, wp_X5_isWord, by decide, by decide⟩ (Or.inl wl_X5_81) wn_X5_isWord (Nat.le_of_ble_eq_true rfl) rfl hT (fun v2 τ3 hq => ?_)
  replace h := h v2 τ3 hq
  refine ww_if_eq 24 7 dX5_turn_4 (by decide) rfl (fun c => ?_) (fun c => ?_)
  · replace h := h.1 c
    refine ww_aload_n 25 dX5_turn_24 rfl 0 rfl rfl ?_
    refine ww_bipush (v := (-2 : Int32)) 27 dX5_turn_25 (by decide) rfl ?_
    obtain ⟨Q4, hT, h⟩ := h
    refine ww_invVI (d' := mX5_refuse) [.inl (-2 : Int32)] rfl 30 dX5_turn_27 ⟨wi_X5, wc_X5_refuse, wp_X5_refuse, by decide, by decide⟩ wl_X5_58 wn_X5_refuse we_X5_refuse (ww_i1 0 (by decide)) rfl rfl (Nat.le_of_ble_eq_true rfl) rfl hT (fun v5 τ6 hq => ?_)
    replace h := h v5 τ6 hq
    exact ww_iret dX5_turn_30 rfl ⟨_, rfl, h⟩
  · replace h := h.2 c
    refine ww_iload_n 8 dX5_turn_7 rfl 2 rfl rfl ?_
    refine ww_if_lt 24 11 dX5_turn_8 (by decide) rfl (fun c => ?_) (fun c => ?_)
    · replace h := h.1 c
      refine ww_aload_n 25 dX5_turn_24 rfl 0 rfl rfl ?_
      refine ww_bipush (v := (-2 : Int32)) 27 dX5_turn_25 (by decide) rfl ?_
      obtain ⟨Q7, hT, h⟩ := h
      refine ww_invVI (d' := mX5_refuse) [.inl (-2 : Int32)] rfl 30 dX5_turn_27 ⟨wi_X5, wc_X5_refuse, wp_X5_refuse, by decide, by decide⟩ wl_X5_58 wn_X5_refuse we_X5_refuse (ww_i1 0 (by decide)) rfl rfl (Nat.le_of_ble_eq_true rfl) rfl hT (fun v8 τ9 hq => ?_)
      replace h := h v8 τ9 hq
      exact ww_iret dX5_turn_30 rfl ⟨_, rfl, h⟩
    · replace h := h.2 c
      refine ww_iload_n 12 dX5_turn_11 rfl 2 rfl rfl ?_
      refine ww_bipush (v := nI 60) 14 dX5_turn_12 (by decide) rfl ?_
      refine ww_ic_ge 24 17 dX5_turn_14 (by decide) rfl (fun c => ?_) (fun c => ?_)
      · replace h := h.1 c
        refine ww_aload_n 25 dX5_turn_24 rfl 0 rfl rfl ?_
        refine ww_bipush (v := (-2 : Int32)) 27 dX5_turn_25 (by decide) rfl ?_
        obtain ⟨Q10, hT, h⟩ := h
        refine ww_invVI (d' := mX5_refuse) [.inl (-2 : Int32)] rfl 30 dX5_turn_27 ⟨wi_X5, wc_X5_refuse, wp_X5_refuse, by decide, by decide⟩ wl_X5_58 wn_X5_refuse we_X5_refuse (ww_i1 0 (by decide)) rfl rfl (Nat.le_of_ble_eq_true rfl) rfl hT (fun v11 τ12 hq => ?_)
        replace h := h v11 τ12 hq
        exact ww_iret dX5_turn_30 rfl ⟨_, rfl, h⟩
      · replace h := h.2 c
        refine ww_iload_n 18 dX5_turn_17 rfl 3 rfl rfl ?_
        obtain ⟨Q13, hT, h⟩ := h
        refine ww_invSI (d' := mX5_isWord) [.inl a3] rfl 21 dX5_turn_18 ⟨wi_X5, wc_X5_isWord, wp_X5_isWord, by decide, by decide⟩ (Or.inl wl_X5_81) wn_X5_isWord (Nat.le_of_ble_eq_true rfl) rfl hT (fun v14 τ15 hq => ?_)
        replace h := h v14 τ15 hq
        refine ww_if_ne 31 24 dX5_turn_21 (by decide) rfl (fun c => ?_) (fun c => ?_)
        · replace h := h.1 c
          refine ww_aload_n 32 dX5_turn_31 rfl 0 rfl rfl ?_
          refine ww_getR 0 35 dX5_turn_32 wf_X5_11 (ww_i1 0 (by decide)) rfl rfl rfl ?_
          refine ww_iload_n 36 dX5_turn_35 rfl 1 rfl rfl ?_
          obtain ⟨j16, hij16, hj16, h⟩ := h
          refine ww_aald j16 37 dX5_turn_36 (ww_i1 1 (by decide)) rfl (Or.inl rfl) (by decide) hij16 hj16 rfl ?_
          refine ww_getI 1 40 dX5_turn_37 wf_X5_100 (show ww_in (21, j16) from (show j16 < 104 by omega)) rfl rfl rfl ?_
          refine ww_iload_n 41 dX5_turn_40 rfl 2 rfl rfl ?_
          refine ww_ic_gt 51 44 dX5_turn_41 (by decide) rfl (fun c => ?_) (fun c => ?_)
          · replace h := h.1 c
            refine ww_aload_n 52 dX5_turn_51 rfl 0 rfl rfl ?_
            refine ww_getR 5 55 dX5_turn_52 wf_X5_48 (ww_i1 0 (by decide)) rfl rfl rfl ?_
            obtain ⟨Q17, hT, h⟩ := h
            refine ww_invVV (d' := mX2_wipe) [] rfl 58 dX5_turn_55 ⟨wi_X2, wc_X2_wipe, wp_X2_wipe, by decide, by decide⟩ wl_X5_139 wn_X2_wipe we_X2_wipe (show ww_in (21, 16) from (show 16 < 104 by omega)) rfl rfl (Nat.le_of_ble_eq_true rfl) rfl hT (fun τ18 hq => ?_)
            replace h := h τ18 hq
            refine ww_aload_n 59 dX5_turn_58 rfl 0 rfl rfl ?_
            refine ww_getR 5 62 dX5_turn_59 wf_X5_48 (ww_i1 0 (by decide)) rfl rfl rfl ?_
            refine ww_aload_n 63 dX5_turn_62 rfl 0 rfl rfl ?_
            refine ww_getR 0 66 dX5_turn_63 wf_X5_11 (ww_i1 0 (by decide)) rfl rfl rfl ?_
            refine ww_iload_n 67 dX5_turn_66 rfl 1 rfl rfl ?_
            obtain ⟨j19, hij19, hj19, h⟩ := h
            refine ww_aald j19 68 dX5_turn_67 (ww_i1 1 (by decide)) rfl (Or.inl rfl) (by decide) hij19 hj19 rfl ?_
            refine ww_iload_n 69 dX5_turn_68 rfl 2 rfl rfl ?_
            obtain ⟨Q20, hT, h⟩ := h
            refine ww_invVV (d' := mX2_putTurn) [.inr (.inr (21, j19)), .inl a2] rfl 72 dX5_turn_69 ⟨wi_X2, wc_X2_putTurn, wp_X2_putTurn, by decide, by decide⟩ wl_X5_152 wn_X2_putTurn we_X2_putTurn (show ww_in (21, 16) from (show 16 < 104 by omega)) rfl rfl (Nat.le_of_ble_eq_true rfl) rfl hT (fun τ21 hq => ?_)
            replace h := h τ21 hq
            refine ww_aload_n 73 dX5_turn_72 rfl 0 rfl rfl ?_
            refine ww_iload_n 74 dX5_turn_73 rfl 3 rfl rfl ?_
            obtain ⟨Q22, hT, h⟩ := h
            refine ww_invVI (d' := mX5_keep) [.inl a3] rfl 77 dX5_turn_74 ⟨wi_X5, wc_X5_keep, wp_X5_keep, by decide, by decide⟩ wl_X5_133 wn_X5_keep we_X5_keep (ww_i1 0 (by decide)) rfl rfl (Nat.le_of_ble_eq_true rfl) rfl hT (fun v23 τ24 hq => ?_)
            replace h := h v23 τ24 hq
            exact ww_iret dX5_turn_77 rfl ⟨_, rfl, h⟩
          · replace h := h.2 c
            refine ww_aload_n 45 dX5_turn_44 rfl 0 rfl rfl ?_
            refine ww_bipush (v := (-3 : Int32)) 47 dX5_turn_45 (by decide) rfl ?_
            obtain ⟨Q25, hT, h⟩ := h
            refine ww_invVI (d' := mX5_refuse) [.inl (-3 : Int32)] rfl 50 dX5_turn_47 ⟨wi_X5, wc_X5_refuse, wp_X5_refuse, by decide, by decide⟩ wl_X5_58 wn_X5_refuse we_X5_refuse (ww_i1 0 (by decide)) rfl rfl (Nat.le_of_ble_eq_true rfl) rfl hT (fun v26 τ27 hq => ?_)
            replace h := h v26 τ27 hq
            exact ww_iret dX5_turn_50 rfl ⟨_, rfl, h⟩
        · replace h := h.2 c
          refine ww_aload_n 25 dX5_turn_24 rfl 0 rfl rfl ?_
          refine ww_bipush (v := (-2 : Int32)) 27 dX5_turn_25 (by decide) rfl ?_
          obtain ⟨Q28, hT, h⟩ := h
          refine ww_invVI (d' := mX5_refuse) [.inl (-2 : Int32)] rfl 30 dX5_turn_27 ⟨wi_X5, wc_X5_refuse, wp_X5_refuse, by decide, by decide⟩ wl_X5_58 wn_X5_refuse we_X5_refuse (ww_i1 0 (by decide)) rfl rfl (Nat.le_of_ble_eq_true rfl) rfl hT (fun v29 τ30 hq => ?_)
          replace h := h v29 τ30 hq
          exact ww_iret dX5_turn_30 rfl ⟨_, rfl, h⟩
theorem b_X5_sum {l : Launch} {g : ww_G} {τ : ww_M} {a1 : Int32} {a2 : Int32} {Post : Int32 → ww_M → Prop}  (h : ∀ E : ww_E, (∃ Q1 : Int32 → ww_M → Prop, ww_T E.2.1 g mX5_isWord [.inl a1] τ (ww_QI Q1) ∧ ∀ (v2 : Int32) (τ3 : ww_M), Q1 v2 τ3 → (v2 = nI 0 → (∃ Q4 : Int32 → ww_M → Prop, ww_T E.2.1 g mX5_refuse [.inr (.inr (0, 0)), .inl (-2 : Int32)] τ3 (ww_QI Q4) ∧ ∀ (v5 : Int32) (τ6 : ww_M), Q4 v5 τ6 → Post v5 τ6)) ∧ (¬ v2 = nI 0 → ((a2 < nI 0 → (∃ Q7 : Int32 → ww_M → Prop, ww_T E.2.1 g mX5_refuse [.inr (.inr (0, 0)), .inl (-2 : Int32)] τ3 (ww_QI Q7) ∧ ∀ (v8 : Int32) (τ9 : ww_M), Q7 v8 τ9 → Post v8 τ9)) ∧ (¬ (a2 < nI 0) → ((a2 < nI 4 → (∃ j10 : Nat, a1 = nI j10 ∧ j10 < 6 ∧ (∃ Q11 : Int32 → ww_M → Prop, ww_T E.2.1 g mX2_surplusOf [.inr (.inr (21, j10)), .inl a2] τ3 (ww_QI Q11) ∧ ∀ (v12 : Int32) (τ13 : ww_M), Q11 v12 τ13 → Post v12 τ13))) ∧ (¬ (a2 < nI 4) → (∃ Q14 : Int32 → ww_M → Prop, ww_T E.2.1 g mX5_refuse [.inr (.inr (0, 0)), .inl (-2 : Int32)] τ3 (ww_QI Q14) ∧ ∀ (v15 : Int32) (τ16 : ww_M), Q14 v15 τ16 → Post v15 τ16)))))))) : ww_T l g mX5_sum [.inr (.inr (0, 0)), .inl a1, .inl a2] τ (ww_QI Post) := by
  refine ww_enter (P := [some (.inr (.inr (0, 0))), some (.inl a1), some (.inl a2)]) (by decide) (Nat.le_of_ble_eq_true rfl) rfl (fun E => ?_)
  replace h := h E
  refine ww_iload_n 1 dX5_sum_0 rfl 1 rfl rfl ?_
  obtain ⟨Q1, hT, h⟩ := h
  refine ww_invSI (d' := mX5_isWord) [.inl a1] rfl 4 dX5_sum_1 ⟨wi_X5, wc_X5_isWord, wp_X5_isWord, by decide, by decide⟩ (Or.inl wl_X5_81) wn_X5_isWord (Nat.le_of_ble_eq_true rfl) rfl hT (fun v2 τ3 hq => ?_)
  replace h := h v2 τ3 hq
  refine ww_if_eq 16 7 dX5_sum_4 (by decide) rfl (fun c => ?_) (fun c => ?_)
  · replace h := h.1 c
    refine ww_aload_n 17 dX5_sum_16 rfl 0 rfl rfl ?_
    refine ww_bipush (v := (-2 : Int32)) 19 dX5_sum_17 (by decide) rfl ?_
    obtain ⟨Q4, hT, h⟩ := h
    refine ww_invVI (d' := mX5_refuse) [.inl (-2 : Int32)] rfl 22 dX5_sum_19 ⟨wi_X5, wc_X5_refuse, wp_X5_refuse, by decide, by decide⟩ wl_X5_58 wn_X5_refuse we_X5_refuse (ww_i1 0 (by decide)) rfl rfl (Nat.le_of_ble_eq_true rfl) rfl hT (fun v5 τ6 hq => ?_)
    replace h := h v5 τ6 hq
    exact ww_iret dX5_sum_22 rfl ⟨_, rfl, h⟩
  · replace h := h.2 c
    refine ww_iload_n 8 dX5_sum_7 rfl 2 rfl rfl ?_
    refine ww_if_lt 16 11 dX5_sum_8 (by decide) rfl (fun c => ?_) (fun c => ?_)
    · replace h := h.1 c
      refine ww_aload_n 17 dX5_sum_16 rfl 0 rfl rfl ?_
      refine ww_bipush (v := (-2 : Int32)) 19 dX5_sum_17 (by decide) rfl ?_
      obtain ⟨Q7, hT, h⟩ := h
      refine ww_invVI (d' := mX5_refuse) [.inl (-2 : Int32)] rfl 22 dX5_sum_19 ⟨wi_X5, wc_X5_refuse, wp_X5_refuse, by decide, by decide⟩ wl_X5_58 wn_X5_refuse we_X5_refuse (ww_i1 0 (by decide)) rfl rfl (Nat.le_of_ble_eq_true rfl) rfl hT (fun v8 τ9 hq => ?_)
      replace h := h v8 τ9 hq
      exact ww_iret dX5_sum_22 rfl ⟨_, rfl, h⟩
    · replace h := h.2 c
      refine ww_iload_n 12 dX5_sum_11 rfl 2 rfl rfl ?_
      refine ww_iconst (v := nI 4) 13 dX5_sum_12 (by decide) rfl ?_
      refine ww_ic_lt 23 16 dX5_sum_13 (by decide) rfl (fun c => ?_) (fun c => ?_)
      · replace h := h.1 c
        refine ww_aload_n 24 dX5_sum_23 rfl 0 rfl rfl ?_
        refine ww_getR 0 27 dX5_sum_24 wf_X5_11 (ww_i1 0 (by decide)) rfl rfl rfl ?_
        refine ww_iload_n 28 dX5_sum_27 rfl 1 rfl rfl ?_
        obtain ⟨j10, hij10, hj10, h⟩ := h
        refine ww_aald j10 29 dX5_sum_28 (ww_i1 1 (by decide)) rfl (Or.inl rfl) (by decide) hij10 hj10 rfl ?_
        refine ww_iload_n 30 dX5_sum_29 rfl 2 rfl rfl ?_
        obtain ⟨Q11, hT, h⟩ := h
        refine ww_invVI (d' := mX2_surplusOf) [.inl a2] rfl 33 dX5_sum_30 ⟨wi_X2, wc_X2_surplusOf, wp_X2_surplusOf, by decide, by decide⟩ wl_X5_156 wn_X2_surplusOf we_X2_surplusOf (show ww_in (21, j10) from (show j10 < 104 by omega)) rfl rfl (Nat.le_of_ble_eq_true rfl) rfl hT (fun v12 τ13 hq => ?_)
        replace h := h v12 τ13 hq
        exact ww_iret dX5_sum_33 rfl ⟨_, rfl, h⟩
      · replace h := h.2 c
        refine ww_aload_n 17 dX5_sum_16 rfl 0 rfl rfl ?_
        refine ww_bipush (v := (-2 : Int32)) 19 dX5_sum_17 (by decide) rfl ?_
        obtain ⟨Q14, hT, h⟩ := h
        refine ww_invVI (d' := mX5_refuse) [.inl (-2 : Int32)] rfl 22 dX5_sum_19 ⟨wi_X5, wc_X5_refuse, wp_X5_refuse, by decide, by decide⟩ wl_X5_58 wn_X5_refuse we_X5_refuse (ww_i1 0 (by decide)) rfl rfl (Nat.le_of_ble_eq_true rfl) rfl hT (fun v15 τ16 hq => ?_)
        replace h := h v15 τ16 hq
        exact ww_iret dX5_sum_22 rfl ⟨_, rfl, h⟩
theorem b_X5_cuts {l : Launch} {g : ww_G} {τ : ww_M} {a1 : Int32} {Post : Int32 → ww_M → Prop}  (h : ∀ E : ww_E, (∃ Q1 : Int32 → ww_M → Prop, ww_T E.2.1 g mX5_isWord [.inl a1] τ (ww_QI Q1) ∧ ∀ (v2 : Int32) (τ3 : ww_M), Q1 v2 τ3 → (v2 = nI 0 → (∃ Q4 : Int32 → ww_M → Prop, ww_T E.2.1 g mX5_refuse [.inr (.inr (0, 0)), .inl (-2 : Int32)] τ3 (ww_QI Q4) ∧ ∀ (v5 : Int32) (τ6 : ww_M), Q4 v5 τ6 → Post v5 τ6)) ∧ (¬ v2 = nI 0 → (∃ j7 : Nat, a1 = nI j7 ∧ j7 < 6 ∧ (∃ Q8 : Int32 → ww_M → Prop, ww_T E.2.1 g mX3_seek [.inr (.inr (20, 0)), .inr (.inr (21, j7))] τ3 (ww_QI Q8) ∧ ∀ (v9 : Int32) (τ10 : ww_M), Q8 v9 τ10 → Post v9 τ10))))) : ww_T l g mX5_cuts [.inr (.inr (0, 0)), .inl a1] τ (ww_QI Post) := by
  refine ww_enter (P := [some (.inr (.inr (0, 0))), some (.inl a1)]) (by decide) (Nat.le_of_ble_eq_true rfl) rfl (fun E => ?_)
  replace h := h E
  refine ww_iload_n 1 dX5_cuts_0 rfl 1 rfl rfl ?_
  obtain ⟨Q1, hT, h⟩ := h
  refine ww_invSI (d' := mX5_isWord) [.inl a1] rfl 4 dX5_cuts_1 ⟨wi_X5, wc_X5_isWord, wp_X5_isWord, by decide, by decide⟩ (Or.inl wl_X5_81) wn_X5_isWord (Nat.le_of_ble_eq_true rfl) rfl hT (fun v2 τ3 hq => ?_)
  replace h := h v2 τ3 hq
  refine ww_if_eq 23 7 dX5_cuts_4 (by decide) rfl (fun c => ?_) (fun c => ?_)
  · replace h := h.1 c
    refine ww_aload_n 24 dX5_cuts_23 rfl 0 rfl rfl ?_
    refine ww_bipush (v := (-2 : Int32)) 26 dX5_cuts_24 (by decide) rfl ?_
    obtain ⟨Q4, hT, h⟩ := h
    refine ww_invVI (d' := mX5_refuse) [.inl (-2 : Int32)] rfl 29 dX5_cuts_26 ⟨wi_X5, wc_X5_refuse, wp_X5_refuse, by decide, by decide⟩ wl_X5_58 wn_X5_refuse we_X5_refuse (ww_i1 0 (by decide)) rfl rfl (Nat.le_of_ble_eq_true rfl) rfl hT (fun v5 τ6 hq => ?_)
    replace h := h v5 τ6 hq
    exact ww_iret dX5_cuts_29 rfl ⟨_, rfl, h⟩
  · replace h := h.2 c
    refine ww_aload_n 8 dX5_cuts_7 rfl 0 rfl rfl ?_
    refine ww_getR 4 11 dX5_cuts_8 wf_X5_44 (ww_i1 0 (by decide)) rfl rfl rfl ?_
    refine ww_aload_n 12 dX5_cuts_11 rfl 0 rfl rfl ?_
    refine ww_getR 0 15 dX5_cuts_12 wf_X5_11 (ww_i1 0 (by decide)) rfl rfl rfl ?_
    refine ww_iload_n 16 dX5_cuts_15 rfl 1 rfl rfl ?_
    obtain ⟨j7, hij7, hj7, h⟩ := h
    refine ww_aald j7 17 dX5_cuts_16 (ww_i1 1 (by decide)) rfl (Or.inl rfl) (by decide) hij7 hj7 rfl ?_
    obtain ⟨Q8, hT, h⟩ := h
    refine ww_invVI (d' := mX3_seek) [.inr (.inr (21, j7))] rfl 20 dX5_cuts_17 ⟨wi_X3, wc_X3_seek, wp_X3_seek, by decide, by decide⟩ wl_X5_159 wn_X3_seek we_X3_seek (ww_i1 20 (by decide)) rfl rfl (Nat.le_of_ble_eq_true rfl) rfl hT (fun v9 τ10 hq => ?_)
    replace h := h v9 τ10 hq
    refine ww_goto 29 dX5_cuts_20 (by decide) ?_
    exact ww_iret dX5_cuts_29 rfl ⟨_, rfl, h⟩
theorem b_X5_cut {l : Launch} {g : ww_G} {τ : ww_M} {a1 : Int32} {Post : Int32 → ww_M → Prop}  (h : ∀ E : ww_E, (∃ Q1 : Int32 → ww_M → Prop, ww_T E.2.1 g mX5_isWord [.inl a1] τ (ww_QI Q1) ∧ ∀ (v2 : Int32) (τ3 : ww_M), Q1 v2 τ3 → (¬ v2 = nI 0 → (∃ j4 : Nat, a1 = nI j4 ∧ j4 < 6 ∧ (∃ Q5 : Int32 → ww_M → Prop, ww_T E.2.1 g mX3_seek [.inr (.inr (20, 0)), .inr (.inr (21, j4))] τ3 (ww_QI Q5) ∧ ∀ (v6 : Int32) (τ7 : ww_M), Q5 v6 τ7 → (¬ v6 = nI 0 → (∃ j8 : Nat, a1 = nI j8 ∧ j8 < 6 ∧ (∃ Q9 : ww_M → Prop, ww_T E.2.1 g mX3_doCut [.inr (.inr (20, 0)), .inr (.inr (21, j8))] τ7 (ww_QV Q9) ∧ ∀ (τ10 : ww_M), Q9 τ10 → (∃ j11 : Nat, a1 = nI j11 ∧ j11 < 6 ∧ Post (τ10 (21, j11) 1) τ10)))) ∧ (v6 = nI 0 → (∃ Q12 : Int32 → ww_M → Prop, ww_T E.2.1 g mX5_refuse [.inr (.inr (0, 0)), .inl (-3 : Int32)] τ7 (ww_QI Q12) ∧ ∀ (v13 : Int32) (τ14 : ww_M), Q12 v13 τ14 → Post v13 τ14))))) ∧ (v2 = nI 0 → (∃ Q15 : Int32 → ww_M → Prop, ww_T E.2.1 g mX5_refuse [.inr (.inr (0, 0)), .inl (-2 : Int32)] τ3 (ww_QI Q15) ∧ ∀ (v16 : Int32) (τ17 : ww_M), Q15 v16 τ17 → Post v16 τ17)))) : ww_T l g mX5_cut [.inr (.inr (0, 0)), .inl a1] τ (ww_QI Post) := by
  refine ww_enter (P := [some (.inr (.inr (0, 0))), some (.inl a1)]) (by decide) (Nat.le_of_ble_eq_true rfl) rfl (fun E => ?_)
  replace h := h E
  refine ww_iload_n 1 dX5_cut_0 rfl 1 rfl rfl ?_
  obtain ⟨Q1, hT, h⟩ := h
  refine ww_invSI (d' := mX5_isWord) [.inl a1] rfl 4 dX5_cut_1 ⟨wi_X5, wc_X5_isWord, wp_X5_isWord, by decide, by decide⟩ (Or.inl wl_X5_81) wn_X5_isWord (Nat.le_of_ble_eq_true rfl) rfl hT (fun v2 τ3 hq => ?_)
  replace h := h v2 τ3 hq
  refine ww_if_ne 14 7 dX5_cut_4 (by decide) rfl (fun c => ?_) (fun c => ?_)
  · replace h := h.1 c
    refine ww_aload_n 15 dX5_cut_14 rfl 0 rfl rfl ?_
    refine ww_getR 4 18 dX5_cut_15 wf_X5_44 (ww_i1 0 (by decide)) rfl rfl rfl ?_
    refine ww_aload_n 19 dX5_cut_18 rfl 0 rfl rfl ?_
    refine ww_getR 0 22 dX5_cut_19 wf_X5_11 (ww_i1 0 (by decide)) rfl rfl rfl ?_
    refine ww_iload_n 23 dX5_cut_22 rfl 1 rfl rfl ?_
    obtain ⟨j4, hij4, hj4, h⟩ := h
    refine ww_aald j4 24 dX5_cut_23 (ww_i1 1 (by decide)) rfl (Or.inl rfl) (by decide) hij4 hj4 rfl ?_
    obtain ⟨Q5, hT, h⟩ := h
    refine ww_invVI (d' := mX3_seek) [.inr (.inr (21, j4))] rfl 27 dX5_cut_24 ⟨wi_X3, wc_X3_seek, wp_X3_seek, by decide, by decide⟩ wl_X5_159 wn_X3_seek we_X3_seek (ww_i1 20 (by decide)) rfl rfl (Nat.le_of_ble_eq_true rfl) rfl hT (fun v6 τ7 hq => ?_)
    replace h := h v6 τ7 hq
    refine ww_if_ne 37 30 dX5_cut_27 (by decide) rfl (fun c => ?_) (fun c => ?_)
    · replace h := h.1 c
      refine ww_aload_n 38 dX5_cut_37 rfl 0 rfl rfl ?_
      refine ww_getR 4 41 dX5_cut_38 wf_X5_44 (ww_i1 0 (by decide)) rfl rfl rfl ?_
      refine ww_aload_n 42 dX5_cut_41 rfl 0 rfl rfl ?_
      refine ww_getR 0 45 dX5_cut_42 wf_X5_11 (ww_i1 0 (by decide)) rfl rfl rfl ?_
      refine ww_iload_n 46 dX5_cut_45 rfl 1 rfl rfl ?_
      obtain ⟨j8, hij8, hj8, h⟩ := h
      refine ww_aald j8 47 dX5_cut_46 (ww_i1 1 (by decide)) rfl (Or.inl rfl) (by decide) hij8 hj8 rfl ?_
      obtain ⟨Q9, hT, h⟩ := h
      refine ww_invVV (d' := mX3_doCut) [.inr (.inr (21, j8))] rfl 50 dX5_cut_47 ⟨wi_X3, wc_X3_doCut, wp_X3_doCut, by decide, by decide⟩ wl_X5_163 wn_X3_doCut we_X3_doCut (ww_i1 20 (by decide)) rfl rfl (Nat.le_of_ble_eq_true rfl) rfl hT (fun τ10 hq => ?_)
      replace h := h τ10 hq
      refine ww_aload_n 51 dX5_cut_50 rfl 0 rfl rfl ?_
      refine ww_getR 0 54 dX5_cut_51 wf_X5_11 (ww_i1 0 (by decide)) rfl rfl rfl ?_
      refine ww_iload_n 55 dX5_cut_54 rfl 1 rfl rfl ?_
      obtain ⟨j11, hij11, hj11, h⟩ := h
      refine ww_aald j11 56 dX5_cut_55 (ww_i1 1 (by decide)) rfl (Or.inl rfl) (by decide) hij11 hj11 rfl ?_
      refine ww_getI 1 59 dX5_cut_56 wf_X5_100 (show ww_in (21, j11) from (show j11 < 104 by omega)) rfl rfl rfl ?_
      exact ww_iret dX5_cut_59 rfl ⟨_, rfl, h⟩
    · replace h := h.2 c
      refine ww_aload_n 31 dX5_cut_30 rfl 0 rfl rfl ?_
      refine ww_bipush (v := (-3 : Int32)) 33 dX5_cut_31 (by decide) rfl ?_
      obtain ⟨Q12, hT, h⟩ := h
      refine ww_invVI (d' := mX5_refuse) [.inl (-3 : Int32)] rfl 36 dX5_cut_33 ⟨wi_X5, wc_X5_refuse, wp_X5_refuse, by decide, by decide⟩ wl_X5_58 wn_X5_refuse we_X5_refuse (ww_i1 0 (by decide)) rfl rfl (Nat.le_of_ble_eq_true rfl) rfl hT (fun v13 τ14 hq => ?_)
      replace h := h v13 τ14 hq
      exact ww_iret dX5_cut_36 rfl ⟨_, rfl, h⟩
  · replace h := h.2 c
    refine ww_aload_n 8 dX5_cut_7 rfl 0 rfl rfl ?_
    refine ww_bipush (v := (-2 : Int32)) 10 dX5_cut_8 (by decide) rfl ?_
    obtain ⟨Q15, hT, h⟩ := h
    refine ww_invVI (d' := mX5_refuse) [.inl (-2 : Int32)] rfl 13 dX5_cut_10 ⟨wi_X5, wc_X5_refuse, wp_X5_refuse, by decide, by decide⟩ wl_X5_58 wn_X5_refuse we_X5_refuse (ww_i1 0 (by decide)) rfl rfl (Nat.le_of_ble_eq_true rfl) rfl hT (fun v16 τ17 hq => ?_)
    replace h := h v16 τ17 hq
    exact ww_iret dX5_cut_13 rfl ⟨_, rfl, h⟩
theorem b_X5_shorten {l : Launch} {g : ww_G} {τ : ww_M} {a1 : Int32} {Post : Int32 → ww_M → Prop}  (h : ∀ E : ww_E, (∃ Q1 : Int32 → ww_M → Prop, ww_T E.2.1 g mX5_isWord [.inl a1] τ (ww_QI Q1) ∧ ∀ (v2 : Int32) (τ3 : ww_M), Q1 v2 τ3 → (v2 = nI 0 → (∃ Q4 : Int32 → ww_M → Prop, ww_T E.2.1 g mX5_refuse [.inr (.inr (0, 0)), .inl (-2 : Int32)] τ3 (ww_QI Q4) ∧ ∀ (v5 : Int32) (τ6 : ww_M), Q4 v5 τ6 → Post v5 τ6)) ∧ (¬ v2 = nI 0 → (∃ j7 : Nat, a1 = nI j7 ∧ j7 < 6 ∧ (∃ Q8 : Int32 → ww_M → Prop, ww_T E.2.1 g mX3_doAll [.inr (.inr (20, 0)), .inr (.inr (21, j7))] τ3 (ww_QI Q8) ∧ ∀ (v9 : Int32) (τ10 : ww_M), Q8 v9 τ10 → Post v9 τ10))))) : ww_T l g mX5_shorten [.inr (.inr (0, 0)), .inl a1] τ (ww_QI Post) := by
  refine ww_enter (P := [some (.inr (.inr (0, 0))), some (.inl a1)]) (by decide) (Nat.le_of_ble_eq_true rfl) rfl (fun E => ?_)
  replace h := h E
  refine ww_iload_n 1 dX5_shorten_0 rfl 1 rfl rfl ?_
  obtain ⟨Q1, hT, h⟩ := h
  refine ww_invSI (d' := mX5_isWord) [.inl a1] rfl 4 dX5_shorten_1 ⟨wi_X5, wc_X5_isWord, wp_X5_isWord, by decide, by decide⟩ (Or.inl wl_X5_81) wn_X5_isWord (Nat.le_of_ble_eq_true rfl) rfl hT (fun v2 τ3 hq => ?_)
  replace h := h v2 τ3 hq
  refine ww_if_eq 23 7 dX5_shorten_4 (by decide) rfl (fun c => ?_) (fun c => ?_)
  · replace h := h.1 c
    refine ww_aload_n 24 dX5_shorten_23 rfl 0 rfl rfl ?_
    refine ww_bipush (v := (-2 : Int32)) 26 dX5_shorten_24 (by decide) rfl ?_
    obtain ⟨Q4, hT, h⟩ := h
    refine ww_invVI (d' := mX5_refuse) [.inl (-2 : Int32)] rfl 29 dX5_shorten_26 ⟨wi_X5, wc_X5_refuse, wp_X5_refuse, by decide, by decide⟩ wl_X5_58 wn_X5_refuse we_X5_refuse (ww_i1 0 (by decide)) rfl rfl (Nat.le_of_ble_eq_true rfl) rfl hT (fun v5 τ6 hq => ?_)
    replace h := h v5 τ6 hq
    exact ww_iret dX5_shorten_29 rfl ⟨_, rfl, h⟩
  · replace h := h.2 c
    refine ww_aload_n 8 dX5_shorten_7 rfl 0 rfl rfl ?_
    refine ww_getR 4 11 dX5_shorten_8 wf_X5_44 (ww_i1 0 (by decide)) rfl rfl rfl ?_
    refine ww_aload_n 12 dX5_shorten_11 rfl 0 rfl rfl ?_
    refine ww_getR 0 15 dX5_shorten_12 wf_X5_11 (ww_i1 0 (by decide)) rfl rfl rfl ?_
    refine ww_iload_n 16 dX5_shorten_15 rfl 1 rfl rfl ?_
    obtain ⟨j7, hij7, hj7, h⟩ := h
    refine ww_aald j7 17 dX5_shorten_16 (ww_i1 1 (by decide)) rfl (Or.inl rfl) (by decide) hij7 hj7 rfl ?_
    obtain ⟨Q8, hT, h⟩ := h
    refine ww_invVI (d' := mX3_doAll) [.inr (.inr (21, j7))] rfl 20 dX5_shorten_17 ⟨wi_X3, wc_X3_doAll, wp_X3_doAll, by decide, by decide⟩ wl_X5_166 wn_X3_doAll we_X3_doAll (ww_i1 20 (by decide)) rfl rfl (Nat.le_of_ble_eq_true rfl) rfl hT (fun v9 τ10 hq => ?_)
    replace h := h v9 τ10 hq
    refine ww_goto 29 dX5_shorten_20 (by decide) ?_
    exact ww_iret dX5_shorten_29 rfl ⟨_, rfl, h⟩
theorem b_X5_trail {l : Launch} {g : ww_G} {τ : ww_M} {a1 : Int32} {a2 : Int32} {a3 : Int32} {Post : Int32 → ww_M → Prop}  (h : ∀ E : ww_E, (∃ Q1 : Int32 → ww_M → Prop, ww_T E.2.1 g mX5_isWord [.inl a1] τ (ww_QI Q1) ∧ ∀ (v2 : Int32) (τ3 : ww_M), Q1 v2 τ3 → (v2 = nI 0 → (∃ Q4 : Int32 → ww_M → Prop, ww_T E.2.1 g mX5_refuse [.inr (.inr (0, 0)), .inl (-2 : Int32)] τ3 (ww_QI Q4) ∧ ∀ (v5 : Int32) (τ6 : ww_M), Q4 v5 τ6 → Post v5 τ6)) ∧ (¬ v2 = nI 0 → ((a2 < nI 0 → (∃ Q7 : Int32 → ww_M → Prop, ww_T E.2.1 g mX5_refuse [.inr (.inr (0, 0)), .inl (-2 : Int32)] τ3 (ww_QI Q7) ∧ ∀ (v8 : Int32) (τ9 : ww_M), Q7 v8 τ9 → Post v8 τ9)) ∧ (¬ (a2 < nI 0) → ((a3 < nI 0 → (∃ Q10 : Int32 → ww_M → Prop, ww_T E.2.1 g mX5_refuse [.inr (.inr (0, 0)), .inl (-2 : Int32)] τ3 (ww_QI Q10) ∧ ∀ (v11 : Int32) (τ12 : ww_M), Q10 v11 τ12 → Post v11 τ12)) ∧ (¬ (a3 < nI 0) → ((a3 ≤ nI 3 → (∃ j13 : Nat, a1 = nI j13 ∧ j13 < 6 ∧ (∃ Q14 : ww_M → Prop, ww_T E.2.1 g mX2_copy [.inr (.inr (21, 16)), .inr (.inr (21, j13))] τ3 (ww_QV Q14) ∧ ∀ (τ15 : ww_M), Q14 τ15 → (∃ Q16 : Int32 → ww_M → Prop, ww_T E.2.1 g mX3_doThrough [.inr (.inr (20, 0)), .inr (.inr (21, 16)), .inl a2] τ15 (ww_QI Q16) ∧ ∀ (v17 : Int32) (τ18 : ww_M), Q16 v17 τ18 → (¬ v17 = nI 0 → ((a3 = nI 0 → Post (τ18 (20, 0) 3) τ18) ∧ (a3 = nI 1 → Post (τ18 (20, 0) 4) τ18) ∧ (a3 = nI 2 → Post (τ18 (20, 0) 5) τ18) ∧ (¬ a3 = nI 0 → ¬ a3 = nI 1 → ¬ a3 = nI 2 → Post (τ18 (21, 16) 1) τ18))) ∧ (v17 = nI 0 → Post (-1 : Int32) τ18))))) ∧ (¬ (a3 ≤ nI 3) → (∃ Q19 : Int32 → ww_M → Prop, ww_T E.2.1 g mX5_refuse [.inr (.inr (0, 0)), .inl (-2 : Int32)] τ3 (ww_QI Q19) ∧ ∀ (v20 : Int32) (τ21 : ww_M), Q19 v20 τ21 → Post v20 τ21)))))))))) : ww_T l g mX5_trail [.inr (.inr (0, 0)), .inl a1, .inl a2, .inl a3] τ (ww_QI Post) := by
  refine ww_enter (P := [some (.inr (.inr (0, 0))), some (.inl a1), some (.inl a2), some (.inl a3)]) (by decide) (Nat.le_of_ble_eq_true rfl) rfl (fun E => ?_)
  replace h := h E
  refine ww_iload_n 1 dX5_trail_0 rfl 1 rfl rfl ?_
  obtain ⟨Q1, hT, h⟩ := h
  refine ww_invSI (d' := mX5_isWord) [.inl a1] rfl 4 dX5_trail_1 ⟨wi_X5, wc_X5_isWord, wp_X5_isWord, by decide, by decide⟩ (Or.inl wl_X5_81) wn_X5_isWord (Nat.le_of_ble_eq_true rfl) rfl hT (fun v2 τ3 hq => ?_)
  replace h := h v2 τ3 hq
  refine ww_if_eq 20 7 dX5_trail_4 (by decide) rfl (fun c => ?_) (fun c => ?_)
  · replace h := h.1 c
    refine ww_aload_n 21 dX5_trail_20 rfl 0 rfl rfl ?_
    refine ww_bipush (v := (-2 : Int32)) 23 dX5_trail_21 (by decide) rfl ?_
    obtain ⟨Q4, hT, h⟩ := h
    refine ww_invVI (d' := mX5_refuse) [.inl (-2 : Int32)] rfl 26 dX5_trail_23 ⟨wi_X5, wc_X5_refuse, wp_X5_refuse, by decide, by decide⟩ wl_X5_58 wn_X5_refuse we_X5_refuse (ww_i1 0 (by decide)) rfl rfl (Nat.le_of_ble_eq_true rfl) rfl hT (fun v5 τ6 hq => ?_)
    replace h := h v5 τ6 hq
    exact ww_iret dX5_trail_26 rfl ⟨_, rfl, h⟩
  · replace h := h.2 c
    refine ww_iload_n 8 dX5_trail_7 rfl 2 rfl rfl ?_
    refine ww_if_lt 20 11 dX5_trail_8 (by decide) rfl (fun c => ?_) (fun c => ?_)
    · replace h := h.1 c
      refine ww_aload_n 21 dX5_trail_20 rfl 0 rfl rfl ?_
      refine ww_bipush (v := (-2 : Int32)) 23 dX5_trail_21 (by decide) rfl ?_
      obtain ⟨Q7, hT, h⟩ := h
      refine ww_invVI (d' := mX5_refuse) [.inl (-2 : Int32)] rfl 26 dX5_trail_23 ⟨wi_X5, wc_X5_refuse, wp_X5_refuse, by decide, by decide⟩ wl_X5_58 wn_X5_refuse we_X5_refuse (ww_i1 0 (by decide)) rfl rfl (Nat.le_of_ble_eq_true rfl) rfl hT (fun v8 τ9 hq => ?_)
      replace h := h v8 τ9 hq
      exact ww_iret dX5_trail_26 rfl ⟨_, rfl, h⟩
    · replace h := h.2 c
      refine ww_iload_n 12 dX5_trail_11 rfl 3 rfl rfl ?_
      refine ww_if_lt 20 15 dX5_trail_12 (by decide) rfl (fun c => ?_) (fun c => ?_)
      · replace h := h.1 c
        refine ww_aload_n 21 dX5_trail_20 rfl 0 rfl rfl ?_
        refine ww_bipush (v := (-2 : Int32)) 23 dX5_trail_21 (by decide) rfl ?_
        obtain ⟨Q10, hT, h⟩ := h
        refine ww_invVI (d' := mX5_refuse) [.inl (-2 : Int32)] rfl 26 dX5_trail_23 ⟨wi_X5, wc_X5_refuse, wp_X5_refuse, by decide, by decide⟩ wl_X5_58 wn_X5_refuse we_X5_refuse (ww_i1 0 (by decide)) rfl rfl (Nat.le_of_ble_eq_true rfl) rfl hT (fun v11 τ12 hq => ?_)
        replace h := h v11 τ12 hq
        exact ww_iret dX5_trail_26 rfl ⟨_, rfl, h⟩
      · replace h := h.2 c
        refine ww_iload_n 16 dX5_trail_15 rfl 3 rfl rfl ?_
        refine ww_iconst (v := nI 3) 17 dX5_trail_16 (by decide) rfl ?_
        refine ww_ic_le 27 20 dX5_trail_17 (by decide) rfl (fun c => ?_) (fun c => ?_)
        · replace h := h.1 c
          refine ww_aload_n 28 dX5_trail_27 rfl 0 rfl rfl ?_
          refine ww_getR 5 31 dX5_trail_28 wf_X5_48 (ww_i1 0 (by decide)) rfl rfl rfl ?_
          refine ww_aload_n 32 dX5_trail_31 rfl 0 rfl rfl ?_
          refine ww_getR 0 35 dX5_trail_32 wf_X5_11 (ww_i1 0 (by decide)) rfl rfl rfl ?_
          refine ww_iload_n 36 dX5_trail_35 rfl 1 rfl rfl ?_
          obtain ⟨j13, hij13, hj13, h⟩ := h
          refine ww_aald j13 37 dX5_trail_36 (ww_i1 1 (by decide)) rfl (Or.inl rfl) (by decide) hij13 hj13 rfl ?_
          obtain ⟨Q14, hT, h⟩ := h
          refine ww_invVV (d' := mX2_copy) [.inr (.inr (21, j13))] rfl 40 dX5_trail_37 ⟨wi_X2, wc_X2_copy, wp_X2_copy, by decide, by decide⟩ wl_X5_87 wn_X2_copy we_X2_copy (show ww_in (21, 16) from (show 16 < 104 by omega)) rfl rfl (Nat.le_of_ble_eq_true rfl) rfl hT (fun τ15 hq => ?_)
          replace h := h τ15 hq
          refine ww_aload_n 41 dX5_trail_40 rfl 0 rfl rfl ?_
          refine ww_getR 4 44 dX5_trail_41 wf_X5_44 (ww_i1 0 (by decide)) rfl rfl rfl ?_
          refine ww_aload_n 45 dX5_trail_44 rfl 0 rfl rfl ?_
          refine ww_getR 5 48 dX5_trail_45 wf_X5_48 (ww_i1 0 (by decide)) rfl rfl rfl ?_
          refine ww_iload_n 49 dX5_trail_48 rfl 2 rfl rfl ?_
          obtain ⟨Q16, hT, h⟩ := h
          refine ww_invVI (d' := mX3_doThrough) [.inr (.inr (21, 16)), .inl a2] rfl 52 dX5_trail_49 ⟨wi_X3, wc_X3_doThrough, wp_X3_doThrough, by decide, by decide⟩ wl_X5_169 wn_X3_doThrough we_X3_doThrough (ww_i1 20 (by decide)) rfl rfl (Nat.le_of_ble_eq_true rfl) rfl hT (fun v17 τ18 hq => ?_)
          replace h := h v17 τ18 hq
          refine ww_if_ne 57 55 dX5_trail_52 (by decide) rfl (fun c => ?_) (fun c => ?_)
          · replace h := h.1 c
            refine ww_iload_n 58 dX5_trail_57 rfl 3 rfl rfl ?_
            refine ww_tsw [(nI 0, 84), (nI 1, 92), (nI 2, 100)] 108 dX5_trail_58 (by decide) ?_ ?_
            · refine List.forall_mem_cons.mpr ⟨fun c => ?_, List.forall_mem_cons.mpr ⟨fun c => ?_, List.forall_mem_cons.mpr ⟨fun c => ?_, fun _ h9 => absurd h9 List.not_mem_nil⟩⟩⟩
              · replace h := h.1 c
                refine ww_aload_n 85 dX5_trail_84 rfl 0 rfl rfl ?_
                refine ww_getR 4 88 dX5_trail_85 wf_X5_44 (ww_i1 0 (by decide)) rfl rfl rfl ?_
                refine ww_getI 3 91 dX5_trail_88 wf_X5_173 (ww_i1 20 (by decide)) rfl rfl rfl ?_
                exact ww_iret dX5_trail_91 rfl ⟨_, rfl, h⟩
              · replace h := h.2.1 c
                refine ww_aload_n 93 dX5_trail_92 rfl 0 rfl rfl ?_
                refine ww_getR 4 96 dX5_trail_93 wf_X5_44 (ww_i1 0 (by decide)) rfl rfl rfl ?_
                refine ww_getI 4 99 dX5_trail_96 wf_X5_176 (ww_i1 20 (by decide)) rfl rfl rfl ?_
                exact ww_iret dX5_trail_99 rfl ⟨_, rfl, h⟩
              · replace h := h.2.2.1 c
                refine ww_aload_n 101 dX5_trail_100 rfl 0 rfl rfl ?_
                refine ww_getR 4 104 dX5_trail_101 wf_X5_44 (ww_i1 0 (by decide)) rfl rfl rfl ?_
                refine ww_getI 5 107 dX5_trail_104 wf_X5_179 (ww_i1 20 (by decide)) rfl rfl rfl ?_
                exact ww_iret dX5_trail_107 rfl ⟨_, rfl, h⟩
            · intro c
              replace h := h.2.2.2 (c _ (List.mem_of_getElem? (i := 0) rfl)) (c _ (List.mem_of_getElem? (i := 1) rfl)) (c _ (List.mem_of_getElem? (i := 2) rfl))
              refine ww_aload_n 109 dX5_trail_108 rfl 0 rfl rfl ?_
              refine ww_getR 5 112 dX5_trail_109 wf_X5_48 (ww_i1 0 (by decide)) rfl rfl rfl ?_
              refine ww_getI 1 115 dX5_trail_112 wf_X5_100 (show ww_in (21, 16) from (show 16 < 104 by omega)) rfl rfl rfl ?_
              exact ww_iret dX5_trail_115 rfl ⟨_, rfl, h⟩
          · replace h := h.2 c
            refine ww_iconst (v := (-1 : Int32)) 56 dX5_trail_55 (by decide) rfl ?_
            exact ww_iret dX5_trail_56 rfl ⟨_, rfl, h⟩
        · replace h := h.2 c
          refine ww_aload_n 21 dX5_trail_20 rfl 0 rfl rfl ?_
          refine ww_bipush (v := (-2 : Int32)) 23 dX5_trail_21 (by decide) rfl ?_
          obtain ⟨Q19, hT, h⟩ := h
          refine ww_invVI (d' := mX5_refuse) [.inl (-2 : Int32)] rfl 26 dX5_trail_23 ⟨wi_X5, wc_X5_refuse, wp_X5_refuse, by decide, by decide⟩ wl_X5_58 wn_X5_refuse we_X5_refuse (ww_i1 0 (by decide)) rfl rfl (Nat.le_of_ble_eq_true rfl) rfl hT (fun v20 τ21 hq => ?_)
          replace h := h v20 τ21 hq
          exact ww_iret dX5_trail_26 rfl ⟨_, rfl, h⟩
theorem b_X5_nothing {l : Launch} {g : ww_G} {τ : ww_M} {a1 : Int32} {Post : Int32 → ww_M → Prop}  (h : ∀ E : ww_E, (∃ Q1 : Int32 → ww_M → Prop, ww_T E.2.1 g mX5_isWord [.inl a1] τ (ww_QI Q1) ∧ ∀ (v2 : Int32) (τ3 : ww_M), Q1 v2 τ3 → (¬ v2 = nI 0 → (∃ Q4 : Int32 → ww_M → Prop, ww_T E.2.1 g mX0_areGood [.inr (.inr (8, 0)), .inl (nI 6)] τ3 (ww_QI Q4) ∧ ∀ (v5 : Int32) (τ6 : ww_M), Q4 v5 τ6 → (¬ v5 = nI 0 → (∃ j7 : Nat, a1 = nI j7 ∧ j7 < 6 ∧ (∃ Q8 : ww_M → Prop, ww_T E.2.1 g mX2_copy [.inr (.inr (21, 16)), .inr (.inr (21, j7))] τ6 (ww_QV Q8) ∧ ∀ (τ9 : ww_M), Q8 τ9 → (∃ Q10 : Int32 → ww_M → Prop, ww_T E.2.1 g mX3_doAll [.inr (.inr (20, 0)), .inr (.inr (21, 16))] τ9 (ww_QI Q10) ∧ ∀ (v11 : Int32) (τ12 : ww_M), Q10 v11 τ12 → (¬ τ12 (21, 16) 1 = nI 0 → Post (nI 0) τ12) ∧ (τ12 (21, 16) 1 = nI 0 → Post (nI 1) τ12))))) ∧ (v5 = nI 0 → (∃ Q13 : Int32 → ww_M → Prop, ww_T E.2.1 g mX5_refuse [.inr (.inr (0, 0)), .inl (-3 : Int32)] τ6 (ww_QI Q13) ∧ ∀ (v14 : Int32) (τ15 : ww_M), Q13 v14 τ15 → Post v14 τ15)))) ∧ (v2 = nI 0 → (∃ Q16 : Int32 → ww_M → Prop, ww_T E.2.1 g mX5_refuse [.inr (.inr (0, 0)), .inl (-2 : Int32)] τ3 (ww_QI Q16) ∧ ∀ (v17 : Int32) (τ18 : ww_M), Q16 v17 τ18 → Post v17 τ18)))) : ww_T l g mX5_nothing [.inr (.inr (0, 0)), .inl a1] τ (ww_QI Post) := by
  refine ww_enter (P := [some (.inr (.inr (0, 0))), some (.inl a1)]) (by decide) (Nat.le_of_ble_eq_true rfl) rfl (fun E => ?_)
  replace h := h E
  refine ww_iload_n 1 dX5_nothing_0 rfl 1 rfl rfl ?_
  obtain ⟨Q1, hT, h⟩ := h
  refine ww_invSI (d' := mX5_isWord) [.inl a1] rfl 4 dX5_nothing_1 ⟨wi_X5, wc_X5_isWord, wp_X5_isWord, by decide, by decide⟩ (Or.inl wl_X5_81) wn_X5_isWord (Nat.le_of_ble_eq_true rfl) rfl hT (fun v2 τ3 hq => ?_)
  replace h := h v2 τ3 hq
  refine ww_if_ne 14 7 dX5_nothing_4 (by decide) rfl (fun c => ?_) (fun c => ?_)
  · replace h := h.1 c
    refine ww_aload_n 15 dX5_nothing_14 rfl 0 rfl rfl ?_
    refine ww_getR 3 18 dX5_nothing_15 wf_X5_35 (ww_i1 0 (by decide)) rfl rfl rfl ?_
    refine ww_bipush (v := nI 6) 20 dX5_nothing_18 (by decide) rfl ?_
    obtain ⟨Q4, hT, h⟩ := h
    refine ww_invVI (d' := mX0_areGood) [.inl (nI 6)] rfl 23 dX5_nothing_20 ⟨wi_X0, wc_X0_areGood, wp_X0_areGood, by decide, by decide⟩ wl_X5_118 wn_X0_areGood we_X0_areGood (ww_i1 8 (by decide)) rfl rfl (Nat.le_of_ble_eq_true rfl) rfl hT (fun v5 τ6 hq => ?_)
    replace h := h v5 τ6 hq
    refine ww_if_ne 33 26 dX5_nothing_23 (by decide) rfl (fun c => ?_) (fun c => ?_)
    · replace h := h.1 c
      refine ww_aload_n 34 dX5_nothing_33 rfl 0 rfl rfl ?_
      refine ww_getR 5 37 dX5_nothing_34 wf_X5_48 (ww_i1 0 (by decide)) rfl rfl rfl ?_
      refine ww_aload_n 38 dX5_nothing_37 rfl 0 rfl rfl ?_
      refine ww_getR 0 41 dX5_nothing_38 wf_X5_11 (ww_i1 0 (by decide)) rfl rfl rfl ?_
      refine ww_iload_n 42 dX5_nothing_41 rfl 1 rfl rfl ?_
      obtain ⟨j7, hij7, hj7, h⟩ := h
      refine ww_aald j7 43 dX5_nothing_42 (ww_i1 1 (by decide)) rfl (Or.inl rfl) (by decide) hij7 hj7 rfl ?_
      obtain ⟨Q8, hT, h⟩ := h
      refine ww_invVV (d' := mX2_copy) [.inr (.inr (21, j7))] rfl 46 dX5_nothing_43 ⟨wi_X2, wc_X2_copy, wp_X2_copy, by decide, by decide⟩ wl_X5_87 wn_X2_copy we_X2_copy (show ww_in (21, 16) from (show 16 < 104 by omega)) rfl rfl (Nat.le_of_ble_eq_true rfl) rfl hT (fun τ9 hq => ?_)
      replace h := h τ9 hq
      refine ww_aload_n 47 dX5_nothing_46 rfl 0 rfl rfl ?_
      refine ww_getR 4 50 dX5_nothing_47 wf_X5_44 (ww_i1 0 (by decide)) rfl rfl rfl ?_
      refine ww_aload_n 51 dX5_nothing_50 rfl 0 rfl rfl ?_
      refine ww_getR 5 54 dX5_nothing_51 wf_X5_48 (ww_i1 0 (by decide)) rfl rfl rfl ?_
      obtain ⟨Q10, hT, h⟩ := h
      refine ww_invVI (d' := mX3_doAll) [.inr (.inr (21, 16))] rfl 57 dX5_nothing_54 ⟨wi_X3, wc_X3_doAll, wp_X3_doAll, by decide, by decide⟩ wl_X5_166 wn_X3_doAll we_X3_doAll (ww_i1 20 (by decide)) rfl rfl (Nat.le_of_ble_eq_true rfl) rfl hT (fun v11 τ12 hq => ?_)
      replace h := h v11 τ12 hq
      refine ww_pop 58 dX5_nothing_57 rfl rfl ?_
      refine ww_aload_n 59 dX5_nothing_58 rfl 0 rfl rfl ?_
      refine ww_getR 5 62 dX5_nothing_59 wf_X5_48 (ww_i1 0 (by decide)) rfl rfl rfl ?_
      refine ww_getI 1 65 dX5_nothing_62 wf_X5_100 (show ww_in (21, 16) from (show 16 < 104 by omega)) rfl rfl rfl ?_
      refine ww_if_ne 72 68 dX5_nothing_65 (by decide) rfl (fun c => ?_) (fun c => ?_)
      · replace h := h.1 c
        refine ww_iconst (v := nI 0) 73 dX5_nothing_72 (by decide) rfl ?_
        exact ww_iret dX5_nothing_73 rfl ⟨_, rfl, h⟩
      · replace h := h.2 c
        refine ww_iconst (v := nI 1) 69 dX5_nothing_68 (by decide) rfl ?_
        refine ww_goto 73 dX5_nothing_69 (by decide) ?_
        exact ww_iret dX5_nothing_73 rfl ⟨_, rfl, h⟩
    · replace h := h.2 c
      refine ww_aload_n 27 dX5_nothing_26 rfl 0 rfl rfl ?_
      refine ww_bipush (v := (-3 : Int32)) 29 dX5_nothing_27 (by decide) rfl ?_
      obtain ⟨Q13, hT, h⟩ := h
      refine ww_invVI (d' := mX5_refuse) [.inl (-3 : Int32)] rfl 32 dX5_nothing_29 ⟨wi_X5, wc_X5_refuse, wp_X5_refuse, by decide, by decide⟩ wl_X5_58 wn_X5_refuse we_X5_refuse (ww_i1 0 (by decide)) rfl rfl (Nat.le_of_ble_eq_true rfl) rfl hT (fun v14 τ15 hq => ?_)
      replace h := h v14 τ15 hq
      exact ww_iret dX5_nothing_32 rfl ⟨_, rfl, h⟩
  · replace h := h.2 c
    refine ww_aload_n 8 dX5_nothing_7 rfl 0 rfl rfl ?_
    refine ww_bipush (v := (-2 : Int32)) 10 dX5_nothing_8 (by decide) rfl ?_
    obtain ⟨Q16, hT, h⟩ := h
    refine ww_invVI (d' := mX5_refuse) [.inl (-2 : Int32)] rfl 13 dX5_nothing_10 ⟨wi_X5, wc_X5_refuse, wp_X5_refuse, by decide, by decide⟩ wl_X5_58 wn_X5_refuse we_X5_refuse (ww_i1 0 (by decide)) rfl rfl (Nat.le_of_ble_eq_true rfl) rfl hT (fun v17 τ18 hq => ?_)
    replace h := h v17 τ18 hq
    exact ww_iret dX5_nothing_13 rfl ⟨_, rfl, h⟩
theorem b_X5_same {l : Launch} {g : ww_G} {τ : ww_M} {a1 : Int32} {a2 : Int32} {Post : Int32 → ww_M → Prop}  (h : ∀ E : ww_E, (∃ Q1 : Int32 → ww_M → Prop, ww_T E.2.1 g mX5_isWord [.inl a1] τ (ww_QI Q1) ∧ ∀ (v2 : Int32) (τ3 : ww_M), Q1 v2 τ3 → (v2 = nI 0 → (∃ Q4 : Int32 → ww_M → Prop, ww_T E.2.1 g mX5_refuse [.inr (.inr (0, 0)), .inl (-2 : Int32)] τ3 (ww_QI Q4) ∧ ∀ (v5 : Int32) (τ6 : ww_M), Q4 v5 τ6 → Post v5 τ6)) ∧ (¬ v2 = nI 0 → (∃ Q7 : Int32 → ww_M → Prop, ww_T E.2.1 g mX5_isWord [.inl a2] τ3 (ww_QI Q7) ∧ ∀ (v8 : Int32) (τ9 : ww_M), Q7 v8 τ9 → (¬ v8 = nI 0 → (∃ Q10 : Int32 → ww_M → Prop, ww_T E.2.1 g mX0_areGood [.inr (.inr (8, 0)), .inl (nI 6)] τ9 (ww_QI Q10) ∧ ∀ (v11 : Int32) (τ12 : ww_M), Q10 v11 τ12 → (¬ v11 = nI 0 → (∃ j13 : Nat, a1 = nI j13 ∧ j13 < 6 ∧ (∃ Q14 : ww_M → Prop, ww_T E.2.1 g mX2_copy [.inr (.inr (21, 16)), .inr (.inr (21, j13))] τ12 (ww_QV Q14) ∧ ∀ (τ15 : ww_M), Q14 τ15 → (∃ j16 : Nat, a2 = nI j16 ∧ j16 < 6 ∧ (∃ Q17 : ww_M → Prop, ww_T E.2.1 g mX2_putInverse [.inr (.inr (21, 16)), .inr (.inr (21, j16))] τ15 (ww_QV Q17) ∧ ∀ (τ18 : ww_M), Q17 τ18 → (τ18 (21, 16) 1 ≤ nI 60 → (∃ Q19 : Int32 → ww_M → Prop, ww_T E.2.1 g mX3_doAll [.inr (.inr (20, 0)), .inr (.inr (21, 16))] τ18 (ww_QI Q19) ∧ ∀ (v20 : Int32) (τ21 : ww_M), Q19 v20 τ21 → (¬ τ21 (21, 16) 1 = nI 0 → Post (nI 0) τ21) ∧ (τ21 (21, 16) 1 = nI 0 → Post (nI 1) τ21))) ∧ (¬ (τ18 (21, 16) 1 ≤ nI 60) → (∃ Q22 : Int32 → ww_M → Prop, ww_T E.2.1 g mX5_refuse [.inr (.inr (0, 0)), .inl (-4 : Int32)] τ18 (ww_QI Q22) ∧ ∀ (v23 : Int32) (τ24 : ww_M), Q22 v23 τ24 → Post v23 τ24))))))) ∧ (v11 = nI 0 → (∃ Q25 : Int32 → ww_M → Prop, ww_T E.2.1 g mX5_refuse [.inr (.inr (0, 0)), .inl (-3 : Int32)] τ12 (ww_QI Q25) ∧ ∀ (v26 : Int32) (τ27 : ww_M), Q25 v26 τ27 → Post v26 τ27)))) ∧ (v8 = nI 0 → (∃ Q28 : Int32 → ww_M → Prop, ww_T E.2.1 g mX5_refuse [.inr (.inr (0, 0)), .inl (-2 : Int32)] τ9 (ww_QI Q28) ∧ ∀ (v29 : Int32) (τ30 : ww_M), Q28 v29 τ30 → Post v29 τ30)))))) : ww_T l g mX5_same [.inr (.inr (0, 0)), .inl a1, .inl a2] τ (ww_QI Post) := by
  refine ww_enter (P := [some (.inr (.inr (0, 0))), some (.inl a1), some (.inl a2)]) (by decide) (Nat.le_of_ble_eq_true rfl) rfl (fun E => ?_)
  replace h := h E
  refine ww_iload_n 1 dX5_same_0 rfl 1 rfl rfl ?_
  obtain ⟨Q1, hT, h⟩ := h
  refine ww_invSI (d' := mX5_isWord) [.inl a1] rfl 4 dX5_same_1 ⟨wi_X5, wc_X5_isWord, wp_X5_isWord, by decide, by decide⟩ (Or.inl wl_X5_81) wn_X5_isWord (Nat.le_of_ble_eq_true rfl) rfl hT (fun v2 τ3 hq => ?_)
  replace h := h v2 τ3 hq
  refine ww_if_eq 14 7 dX5_same_4 (by decide) rfl (fun c => ?_) (fun c => ?_)
  · replace h := h.1 c
    refine ww_aload_n 15 dX5_same_14 rfl 0 rfl rfl ?_
    refine ww_bipush (v := (-2 : Int32)) 17 dX5_same_15 (by decide) rfl ?_
    obtain ⟨Q4, hT, h⟩ := h
    refine ww_invVI (d' := mX5_refuse) [.inl (-2 : Int32)] rfl 20 dX5_same_17 ⟨wi_X5, wc_X5_refuse, wp_X5_refuse, by decide, by decide⟩ wl_X5_58 wn_X5_refuse we_X5_refuse (ww_i1 0 (by decide)) rfl rfl (Nat.le_of_ble_eq_true rfl) rfl hT (fun v5 τ6 hq => ?_)
    replace h := h v5 τ6 hq
    exact ww_iret dX5_same_20 rfl ⟨_, rfl, h⟩
  · replace h := h.2 c
    refine ww_iload_n 8 dX5_same_7 rfl 2 rfl rfl ?_
    obtain ⟨Q7, hT, h⟩ := h
    refine ww_invSI (d' := mX5_isWord) [.inl a2] rfl 11 dX5_same_8 ⟨wi_X5, wc_X5_isWord, wp_X5_isWord, by decide, by decide⟩ (Or.inl wl_X5_81) wn_X5_isWord (Nat.le_of_ble_eq_true rfl) rfl hT (fun v8 τ9 hq => ?_)
    replace h := h v8 τ9 hq
    refine ww_if_ne 21 14 dX5_same_11 (by decide) rfl (fun c => ?_) (fun c => ?_)
    · replace h := h.1 c
      refine ww_aload_n 22 dX5_same_21 rfl 0 rfl rfl ?_
      refine ww_getR 3 25 dX5_same_22 wf_X5_35 (ww_i1 0 (by decide)) rfl rfl rfl ?_
      refine ww_bipush (v := nI 6) 27 dX5_same_25 (by decide) rfl ?_
      obtain ⟨Q10, hT, h⟩ := h
      refine ww_invVI (d' := mX0_areGood) [.inl (nI 6)] rfl 30 dX5_same_27 ⟨wi_X0, wc_X0_areGood, wp_X0_areGood, by decide, by decide⟩ wl_X5_118 wn_X0_areGood we_X0_areGood (ww_i1 8 (by decide)) rfl rfl (Nat.le_of_ble_eq_true rfl) rfl hT (fun v11 τ12 hq => ?_)
      replace h := h v11 τ12 hq
      refine ww_if_ne 40 33 dX5_same_30 (by decide) rfl (fun c => ?_) (fun c => ?_)
      · replace h := h.1 c
        refine ww_aload_n 41 dX5_same_40 rfl 0 rfl rfl ?_
        refine ww_getR 5 44 dX5_same_41 wf_X5_48 (ww_i1 0 (by decide)) rfl rfl rfl ?_
        refine ww_aload_n 45 dX5_same_44 rfl 0 rfl rfl ?_
        refine ww_getR 0 48 dX5_same_45 wf_X5_11 (ww_i1 0 (by decide)) rfl rfl rfl ?_
        refine ww_iload_n 49 dX5_same_48 rfl 1 rfl rfl ?_
        obtain ⟨j13, hij13, hj13, h⟩ := h
        refine ww_aald j13 50 dX5_same_49 (ww_i1 1 (by decide)) rfl (Or.inl rfl) (by decide) hij13 hj13 rfl ?_
        obtain ⟨Q14, hT, h⟩ := h
        refine ww_invVV (d' := mX2_copy) [.inr (.inr (21, j13))] rfl 53 dX5_same_50 ⟨wi_X2, wc_X2_copy, wp_X2_copy, by decide, by decide⟩ wl_X5_87 wn_X2_copy we_X2_copy (show ww_in (21, 16) from (show 16 < 104 by omega)) rfl rfl (Nat.le_of_ble_eq_true rfl) rfl hT (fun τ15 hq => ?_)
        replace h := h τ15 hq
        refine ww_aload_n 54 dX5_same_53 rfl 0 rfl rfl ?_
        refine ww_getR 5 57 dX5_same_54 wf_X5_48 (ww_i1 0 (by decide)) rfl rfl rfl ?_
        refine ww_aload_n 58 dX5_same_57 rfl 0 rfl rfl ?_
        refine ww_getR 0 61 dX5_same_58 wf_X5_11 (ww_i1 0 (by decide)) rfl rfl rfl ?_
        refine ww_iload_n 62 dX5_same_61 rfl 2 rfl rfl ?_
        obtain ⟨j16, hij16, hj16, h⟩ := h
        refine ww_aald j16 63 dX5_same_62 (ww_i1 1 (by decide)) rfl (Or.inl rfl) (by decide) hij16 hj16 rfl ?_
        obtain ⟨Q17, hT, h⟩ := h
        refine ww_invVV (d' := mX2_putInverse) [.inr (.inr (21, j16))] rfl 66 dX5_same_63 ⟨wi_X2, wc_X2_putInverse, wp_X2_putInverse, by decide, by decide⟩ wl_X5_142 wn_X2_putInverse we_X2_putInverse (show ww_in (21, 16) from (show 16 < 104 by omega)) rfl rfl (Nat.le_of_ble_eq_true rfl) rfl hT (fun τ18 hq => ?_)
        replace h := h τ18 hq
        refine ww_aload_n 67 dX5_same_66 rfl 0 rfl rfl ?_
        refine ww_getR 5 70 dX5_same_67 wf_X5_48 (ww_i1 0 (by decide)) rfl rfl rfl ?_
        refine ww_getI 1 73 dX5_same_70 wf_X5_100 (show ww_in (21, 16) from (show 16 < 104 by omega)) rfl rfl rfl ?_
        refine ww_bipush (v := nI 60) 75 dX5_same_73 (by decide) rfl ?_
        refine ww_ic_le 85 78 dX5_same_75 (by decide) rfl (fun c => ?_) (fun c => ?_)
        · replace h := h.1 c
          refine ww_aload_n 86 dX5_same_85 rfl 0 rfl rfl ?_
          refine ww_getR 4 89 dX5_same_86 wf_X5_44 (ww_i1 0 (by decide)) rfl rfl rfl ?_
          refine ww_aload_n 90 dX5_same_89 rfl 0 rfl rfl ?_
          refine ww_getR 5 93 dX5_same_90 wf_X5_48 (ww_i1 0 (by decide)) rfl rfl rfl ?_
          obtain ⟨Q19, hT, h⟩ := h
          refine ww_invVI (d' := mX3_doAll) [.inr (.inr (21, 16))] rfl 96 dX5_same_93 ⟨wi_X3, wc_X3_doAll, wp_X3_doAll, by decide, by decide⟩ wl_X5_166 wn_X3_doAll we_X3_doAll (ww_i1 20 (by decide)) rfl rfl (Nat.le_of_ble_eq_true rfl) rfl hT (fun v20 τ21 hq => ?_)
          replace h := h v20 τ21 hq
          refine ww_pop 97 dX5_same_96 rfl rfl ?_
          refine ww_aload_n 98 dX5_same_97 rfl 0 rfl rfl ?_
          refine ww_getR 5 101 dX5_same_98 wf_X5_48 (ww_i1 0 (by decide)) rfl rfl rfl ?_
          refine ww_getI 1 104 dX5_same_101 wf_X5_100 (show ww_in (21, 16) from (show 16 < 104 by omega)) rfl rfl rfl ?_
          refine ww_if_ne 111 107 dX5_same_104 (by decide) rfl (fun c => ?_) (fun c => ?_)
          · replace h := h.1 c
            refine ww_iconst (v := nI 0) 112 dX5_same_111 (by decide) rfl ?_
            exact ww_iret dX5_same_112 rfl ⟨_, rfl, h⟩
          · replace h := h.2 c
            refine ww_iconst (v := nI 1) 108 dX5_same_107 (by decide) rfl ?_
            refine ww_goto 112 dX5_same_108 (by decide) ?_
            exact ww_iret dX5_same_112 rfl ⟨_, rfl, h⟩
        · replace h := h.2 c
          refine ww_aload_n 79 dX5_same_78 rfl 0 rfl rfl ?_
          refine ww_bipush (v := (-4 : Int32)) 81 dX5_same_79 (by decide) rfl ?_
          obtain ⟨Q22, hT, h⟩ := h
          refine ww_invVI (d' := mX5_refuse) [.inl (-4 : Int32)] rfl 84 dX5_same_81 ⟨wi_X5, wc_X5_refuse, wp_X5_refuse, by decide, by decide⟩ wl_X5_58 wn_X5_refuse we_X5_refuse (ww_i1 0 (by decide)) rfl rfl (Nat.le_of_ble_eq_true rfl) rfl hT (fun v23 τ24 hq => ?_)
          replace h := h v23 τ24 hq
          exact ww_iret dX5_same_84 rfl ⟨_, rfl, h⟩
      · replace h := h.2 c
        refine ww_aload_n 34 dX5_same_33 rfl 0 rfl rfl ?_
        refine ww_bipush (v := (-3 : Int32)) 36 dX5_same_34 (by decide) rfl ?_
        obtain ⟨Q25, hT, h⟩ := h
        refine ww_invVI (d' := mX5_refuse) [.inl (-3 : Int32)] rfl 39 dX5_same_36 ⟨wi_X5, wc_X5_refuse, wp_X5_refuse, by decide, by decide⟩ wl_X5_58 wn_X5_refuse we_X5_refuse (ww_i1 0 (by decide)) rfl rfl (Nat.le_of_ble_eq_true rfl) rfl hT (fun v26 τ27 hq => ?_)
        replace h := h v26 τ27 hq
        exact ww_iret dX5_same_39 rfl ⟨_, rfl, h⟩
    · replace h := h.2 c
      refine ww_aload_n 15 dX5_same_14 rfl 0 rfl rfl ?_
      refine ww_bipush (v := (-2 : Int32)) 17 dX5_same_15 (by decide) rfl ?_
      obtain ⟨Q28, hT, h⟩ := h
      refine ww_invVI (d' := mX5_refuse) [.inl (-2 : Int32)] rfl 20 dX5_same_17 ⟨wi_X5, wc_X5_refuse, wp_X5_refuse, by decide, by decide⟩ wl_X5_58 wn_X5_refuse we_X5_refuse (ww_i1 0 (by decide)) rfl rfl (Nat.le_of_ble_eq_true rfl) rfl hT (fun v29 τ30 hq => ?_)
      replace h := h v29 τ30 hq
      exact ww_iret dX5_same_20 rfl ⟨_, rfl, h⟩
theorem b_X5_order {l : Launch} {g : ww_G} {τ : ww_M} {a1 : Int32} {Post : Int32 → ww_M → Prop}  (h : ∀ E : ww_E, (∃ Q1 : Int32 → ww_M → Prop, ww_T E.2.1 g mX5_isWord [.inl a1] τ (ww_QI Q1) ∧ ∀ (v2 : Int32) (τ3 : ww_M), Q1 v2 τ3 → (¬ v2 = nI 0 → (∃ Q4 : Int32 → ww_M → Prop, ww_T E.2.1 g mX0_areGood [.inr (.inr (8, 0)), .inl (nI 6)] τ3 (ww_QI Q4) ∧ ∀ (v5 : Int32) (τ6 : ww_M), Q4 v5 τ6 → (¬ v5 = nI 0 → ww_W g mX5_order E (ww_QI Post) 35 [some (.inr (.inr (0, 0))), some (.inl a1), some (.inl (nI 1))] [] τ6) ∧ (v5 = nI 0 → (∃ Q7 : Int32 → ww_M → Prop, ww_T E.2.1 g mX5_refuse [.inr (.inr (0, 0)), .inl (-3 : Int32)] τ6 (ww_QI Q7) ∧ ∀ (v8 : Int32) (τ9 : ww_M), Q7 v8 τ9 → Post v8 τ9)))) ∧ (v2 = nI 0 → (∃ Q10 : Int32 → ww_M → Prop, ww_T E.2.1 g mX5_refuse [.inr (.inr (0, 0)), .inl (-2 : Int32)] τ3 (ww_QI Q10) ∧ ∀ (v11 : Int32) (τ12 : ww_M), Q10 v11 τ12 → Post v11 τ12)))) : ww_T l g mX5_order [.inr (.inr (0, 0)), .inl a1] τ (ww_QI Post) := by
  refine ww_enter (P := [some (.inr (.inr (0, 0))), some (.inl a1), none]) (by decide) (Nat.le_of_ble_eq_true rfl) rfl (fun E => ?_)
  replace h := h E
  refine ww_iload_n 1 dX5_order_0 rfl 1 rfl rfl ?_
  obtain ⟨Q1, hT, h⟩ := h
  refine ww_invSI (d' := mX5_isWord) [.inl a1] rfl 4 dX5_order_1 ⟨wi_X5, wc_X5_isWord, wp_X5_isWord, by decide, by decide⟩ (Or.inl wl_X5_81) wn_X5_isWord (Nat.le_of_ble_eq_true rfl) rfl hT (fun v2 τ3 hq => ?_)
  replace h := h v2 τ3 hq
  refine ww_if_ne 14 7 dX5_order_4 (by decide) rfl (fun c => ?_) (fun c => ?_)
  · replace h := h.1 c
    refine ww_aload_n 15 dX5_order_14 rfl 0 rfl rfl ?_
    refine ww_getR 3 18 dX5_order_15 wf_X5_35 (ww_i1 0 (by decide)) rfl rfl rfl ?_
    refine ww_bipush (v := nI 6) 20 dX5_order_18 (by decide) rfl ?_
    obtain ⟨Q4, hT, h⟩ := h
    refine ww_invVI (d' := mX0_areGood) [.inl (nI 6)] rfl 23 dX5_order_20 ⟨wi_X0, wc_X0_areGood, wp_X0_areGood, by decide, by decide⟩ wl_X5_118 wn_X0_areGood we_X0_areGood (ww_i1 8 (by decide)) rfl rfl (Nat.le_of_ble_eq_true rfl) rfl hT (fun v5 τ6 hq => ?_)
    replace h := h v5 τ6 hq
    refine ww_if_ne 33 26 dX5_order_23 (by decide) rfl (fun c => ?_) (fun c => ?_)
    · replace h := h.1 c
      refine ww_iconst (v := nI 1) 34 dX5_order_33 (by decide) rfl ?_
      refine ww_istore_n 35 dX5_order_34 rfl 2 rfl (by decide) rfl [some (.inr (.inr (0, 0))), some (.inl a1), some (.inl (nI 1))] rfl ?_
      exact h
    · replace h := h.2 c
      refine ww_aload_n 27 dX5_order_26 rfl 0 rfl rfl ?_
      refine ww_bipush (v := (-3 : Int32)) 29 dX5_order_27 (by decide) rfl ?_
      obtain ⟨Q7, hT, h⟩ := h
      refine ww_invVI (d' := mX5_refuse) [.inl (-3 : Int32)] rfl 32 dX5_order_29 ⟨wi_X5, wc_X5_refuse, wp_X5_refuse, by decide, by decide⟩ wl_X5_58 wn_X5_refuse we_X5_refuse (ww_i1 0 (by decide)) rfl rfl (Nat.le_of_ble_eq_true rfl) rfl hT (fun v8 τ9 hq => ?_)
      replace h := h v8 τ9 hq
      exact ww_iret dX5_order_32 rfl ⟨_, rfl, h⟩
  · replace h := h.2 c
    refine ww_aload_n 8 dX5_order_7 rfl 0 rfl rfl ?_
    refine ww_bipush (v := (-2 : Int32)) 10 dX5_order_8 (by decide) rfl ?_
    obtain ⟨Q10, hT, h⟩ := h
    refine ww_invVI (d' := mX5_refuse) [.inl (-2 : Int32)] rfl 13 dX5_order_10 ⟨wi_X5, wc_X5_refuse, wp_X5_refuse, by decide, by decide⟩ wl_X5_58 wn_X5_refuse we_X5_refuse (ww_i1 0 (by decide)) rfl rfl (Nat.le_of_ble_eq_true rfl) rfl hT (fun v11 τ12 hq => ?_)
    replace h := h v11 τ12 hq
    exact ww_iret dX5_order_13 rfl ⟨_, rfl, h⟩
theorem b_X5_order_35 {g : ww_G} {E : ww_E} {τ : ww_M} {x1 : Int32} {x2 : Int32} {Post : Int32 → ww_M → Prop}  (h : ((nI 6 < x2 → Post (-1 : Int32) τ) ∧ (¬ (nI 6 < x2) → (∃ Q1 : ww_M → Prop, ww_T E.2.1 g mX5_makePower [.inr (.inr (0, 0)), .inl x1, .inl x2] τ (ww_QV Q1) ∧ ∀ (τ2 : ww_M), Q1 τ2 → (τ2 (21, 16) 1 ≤ nI 60 → (∃ Q3 : Int32 → ww_M → Prop, ww_T E.2.1 g mX3_doAll [.inr (.inr (20, 0)), .inr (.inr (21, 16))] τ2 (ww_QI Q3) ∧ ∀ (v4 : Int32) (τ5 : ww_M), Q3 v4 τ5 → (¬ τ5 (21, 16) 1 = nI 0 → ww_W g mX5_order E (ww_QI Post) 35 [some (.inr (.inr (0, 0))), some (.inl x1), some (.inl (x2 + nI 1))] [] τ5) ∧ (τ5 (21, 16) 1 = nI 0 → Post x2 τ5))) ∧ (¬ (τ2 (21, 16) 1 ≤ nI 60) → Post (-1 : Int32) τ2))))) : ww_W g mX5_order E (ww_QI Post) 35 [some (.inr (.inr (0, 0))), some (.inl x1), some (.inl x2)] [] τ := by
  refine ww_iload_n 36 dX5_order_35 rfl 2 rfl rfl ?_
  refine ww_bipush (v := nI 6) 38 dX5_order_36 (by decide) rfl ?_
  refine ww_ic_gt 91 41 dX5_order_38 (by decide) rfl (fun c => ?_) (fun c => ?_)
  · replace h := h.1 c
    refine ww_iconst (v := (-1 : Int32)) 92 dX5_order_91 (by decide) rfl ?_
    exact ww_iret dX5_order_92 rfl ⟨_, rfl, h⟩
  · replace h := h.2 c
    refine ww_aload_n 42 dX5_order_41 rfl 0 rfl rfl ?_
    refine ww_iload_n 43 dX5_order_42 rfl 1 rfl rfl ?_
    refine ww_iload_n 44 dX5_order_43 rfl 2 rfl rfl ?_
    obtain ⟨Q1, hT, h⟩ := h
    refine ww_invVV (d' := mX5_makePower) [.inl x1, .inl x2] rfl 47 dX5_order_44 ⟨wi_X5, wc_X5_makePower, wp_X5_makePower, by decide, by decide⟩ wl_X5_145 wn_X5_makePower we_X5_makePower (ww_i1 0 (by decide)) rfl rfl (Nat.le_of_ble_eq_true rfl) rfl hT (fun τ2 hq => ?_)
    replace h := h τ2 hq
    refine ww_aload_n 48 dX5_order_47 rfl 0 rfl rfl ?_
    refine ww_getR 5 51 dX5_order_48 wf_X5_48 (ww_i1 0 (by decide)) rfl rfl rfl ?_
    refine ww_getI 1 54 dX5_order_51 wf_X5_100 (show ww_in (21, 16) from (show 16 < 104 by omega)) rfl rfl rfl ?_
    refine ww_bipush (v := nI 60) 56 dX5_order_54 (by decide) rfl ?_
    refine ww_ic_le 61 59 dX5_order_56 (by decide) rfl (fun c => ?_) (fun c => ?_)
    · replace h := h.1 c
      refine ww_aload_n 62 dX5_order_61 rfl 0 rfl rfl ?_
      refine ww_getR 4 65 dX5_order_62 wf_X5_44 (ww_i1 0 (by decide)) rfl rfl rfl ?_
      refine ww_aload_n 66 dX5_order_65 rfl 0 rfl rfl ?_
      refine ww_getR 5 69 dX5_order_66 wf_X5_48 (ww_i1 0 (by decide)) rfl rfl rfl ?_
      obtain ⟨Q3, hT, h⟩ := h
      refine ww_invVI (d' := mX3_doAll) [.inr (.inr (21, 16))] rfl 72 dX5_order_69 ⟨wi_X3, wc_X3_doAll, wp_X3_doAll, by decide, by decide⟩ wl_X5_166 wn_X3_doAll we_X3_doAll (ww_i1 20 (by decide)) rfl rfl (Nat.le_of_ble_eq_true rfl) rfl hT (fun v4 τ5 hq => ?_)
      replace h := h v4 τ5 hq
      refine ww_pop 73 dX5_order_72 rfl rfl ?_
      refine ww_aload_n 74 dX5_order_73 rfl 0 rfl rfl ?_
      refine ww_getR 5 77 dX5_order_74 wf_X5_48 (ww_i1 0 (by decide)) rfl rfl rfl ?_
      refine ww_getI 1 80 dX5_order_77 wf_X5_100 (show ww_in (21, 16) from (show 16 < 104 by omega)) rfl rfl rfl ?_
      refine ww_if_ne 85 83 dX5_order_80 (by decide) rfl (fun c => ?_) (fun c => ?_)
      · replace h := h.1 c
        refine ww_iinc (nI 1) 88 2 dX5_order_85 (by decide) rfl rfl (by decide) rfl [some (.inr (.inr (0, 0))), some (.inl x1), some (.inl (x2 + nI 1))] rfl ?_
        refine ww_goto 35 dX5_order_88 (by decide) ?_
        exact h
      · replace h := h.2 c
        refine ww_iload_n 84 dX5_order_83 rfl 2 rfl rfl ?_
        exact ww_iret dX5_order_84 rfl ⟨_, rfl, h⟩
    · replace h := h.2 c
      refine ww_iconst (v := (-1 : Int32)) 60 dX5_order_59 (by decide) rfl ?_
      exact ww_iret dX5_order_60 rfl ⟨_, rfl, h⟩
theorem b_X5_turned {l : Launch} {g : ww_G} {τ : ww_M} {a1 : Int32} {a2 : Int32} {Post : Int32 → ww_M → Prop}  (h : ∀ E : ww_E, (∃ Q1 : Int32 → ww_M → Prop, ww_T E.2.1 g mX5_isWord [.inl a1] τ (ww_QI Q1) ∧ ∀ (v2 : Int32) (τ3 : ww_M), Q1 v2 τ3 → (v2 = nI 0 → (∃ Q4 : Int32 → ww_M → Prop, ww_T E.2.1 g mX5_refuse [.inr (.inr (0, 0)), .inl (-2 : Int32)] τ3 (ww_QI Q4) ∧ ∀ (v5 : Int32) (τ6 : ww_M), Q4 v5 τ6 → Post v5 τ6)) ∧ (¬ v2 = nI 0 → (∃ Q7 : Int32 → ww_M → Prop, ww_T E.2.1 g mX5_isWord [.inl a2] τ3 (ww_QI Q7) ∧ ∀ (v8 : Int32) (τ9 : ww_M), Q7 v8 τ9 → (¬ v8 = nI 0 → (∃ j10 : Nat, a1 = nI j10 ∧ j10 < 6 ∧ (∃ Q11 : ww_M → Prop, ww_T E.2.1 g mX2_copy [.inr (.inr (21, 17)), .inr (.inr (21, j10))] τ9 (ww_QV Q11) ∧ ∀ (τ12 : ww_M), Q11 τ12 → (∃ Q13 : ww_M → Prop, ww_T E.2.1 g mX2_cutToRing [.inr (.inr (21, 17))] τ12 (ww_QV Q13) ∧ ∀ (τ14 : ww_M), Q13 τ14 → (∃ j15 : Nat, a2 = nI j15 ∧ j15 < 6 ∧ (∃ Q16 : ww_M → Prop, ww_T E.2.1 g mX2_copy [.inr (.inr (21, 18)), .inr (.inr (21, j15))] τ14 (ww_QV Q16) ∧ ∀ (τ17 : ww_M), Q16 τ17 → (∃ Q18 : ww_M → Prop, ww_T E.2.1 g mX2_cutToRing [.inr (.inr (21, 18))] τ17 (ww_QV Q18) ∧ ∀ (τ19 : ww_M), Q18 τ19 → (∃ Q20 : Int32 → ww_M → Prop, ww_T E.2.1 g mX0_areGood [.inr (.inr (8, 0)), .inl (nI 6)] τ19 (ww_QI Q20) ∧ ∀ (v21 : Int32) (τ22 : ww_M), Q20 v21 τ22 → (v21 = nI 0 → (∃ Q23 : Int32 → ww_M → Prop, ww_T E.2.1 g mX5_refuse [.inr (.inr (0, 0)), .inl (-3 : Int32)] τ22 (ww_QI Q23) ∧ ∀ (v24 : Int32) (τ25 : ww_M), Q23 v24 τ25 → Post v24 τ25)) ∧ (¬ v21 = nI 0 → ((nI 8 < τ22 (21, 17) 1 → (∃ Q26 : Int32 → ww_M → Prop, ww_T E.2.1 g mX5_refuse [.inr (.inr (0, 0)), .inl (-3 : Int32)] τ22 (ww_QI Q26) ∧ ∀ (v27 : Int32) (τ28 : ww_M), Q26 v27 τ28 → Post v27 τ28)) ∧ (¬ (nI 8 < τ22 (21, 17) 1) → ((τ22 (21, 18) 1 ≤ nI 8 → ww_W g mX5_turned E (ww_QI Post) 119 [some (.inr (.inr (0, 0))), none, none, some (.inl (if nI 1 < τ22 (21, 17) 1 then τ22 (21, 17) 1 else nI 1)), some (.inl (nI 0)), none] [] τ22) ∧ (¬ (τ22 (21, 18) 1 ≤ nI 8) → (∃ Q29 : Int32 → ww_M → Prop, ww_T E.2.1 g mX5_refuse [.inr (.inr (0, 0)), .inl (-3 : Int32)] τ22 (ww_QI Q29) ∧ ∀ (v30 : Int32) (τ31 : ww_M), Q29 v30 τ31 → Post v30 τ31)))))))))))))) ∧ (v8 = nI 0 → (∃ Q32 : Int32 → ww_M → Prop, ww_T E.2.1 g mX5_refuse [.inr (.inr (0, 0)), .inl (-2 : Int32)] τ9 (ww_QI Q32) ∧ ∀ (v33 : Int32) (τ34 : ww_M), Q32 v33 τ34 → Post v33 τ34)))))) : ww_T l g mX5_turned [.inr (.inr (0, 0)), .inl a1, .inl a2] τ (ww_QI Post) := by
  refine ww_enter (P := [some (.inr (.inr (0, 0))), some (.inl a1), some (.inl a2), none, none, none]) (by decide) (Nat.le_of_ble_eq_true rfl) rfl (fun E => ?_)
  replace h := h E
  refine ww_iload_n 1 dX5_turned_0 rfl 1 rfl rfl ?_
  obtain ⟨Q1, hT, h⟩ := h
  refine ww_invSI (d' := mX5_isWord) [.inl a1] rfl 4 dX5_turned_1 ⟨wi_X5, wc_X5_isWord, wp_X5_isWord, by decide, by decide⟩ (Or.inl wl_X5_81) wn_X5_isWord (Nat.le_of_ble_eq_true rfl) rfl hT (fun v2 τ3 hq => ?_)
  replace h := h v2 τ3 hq
  refine ww_if_eq 14 7 dX5_turned_4 (by decide) rfl (fun c => ?_) (fun c => ?_)
  · replace h := h.1 c
    refine ww_aload_n 15 dX5_turned_14 rfl 0 rfl rfl ?_
    refine ww_bipush (v := (-2 : Int32)) 17 dX5_turned_15 (by decide) rfl ?_
    obtain ⟨Q4, hT, h⟩ := h
    refine ww_invVI (d' := mX5_refuse) [.inl (-2 : Int32)] rfl 20 dX5_turned_17 ⟨wi_X5, wc_X5_refuse, wp_X5_refuse, by decide, by decide⟩ wl_X5_58 wn_X5_refuse we_X5_refuse (ww_i1 0 (by decide)) rfl rfl (Nat.le_of_ble_eq_true rfl) rfl hT (fun v5 τ6 hq => ?_)
    replace h := h v5 τ6 hq
    exact ww_iret dX5_turned_20 rfl ⟨_, rfl, h⟩
  · replace h := h.2 c
    refine ww_iload_n 8 dX5_turned_7 rfl 2 rfl rfl ?_
    obtain ⟨Q7, hT, h⟩ := h
    refine ww_invSI (d' := mX5_isWord) [.inl a2] rfl 11 dX5_turned_8 ⟨wi_X5, wc_X5_isWord, wp_X5_isWord, by decide, by decide⟩ (Or.inl wl_X5_81) wn_X5_isWord (Nat.le_of_ble_eq_true rfl) rfl hT (fun v8 τ9 hq => ?_)
    replace h := h v8 τ9 hq
    refine ww_if_ne 21 14 dX5_turned_11 (by decide) rfl (fun c => ?_) (fun c => ?_)
    · replace h := h.1 c
      refine ww_aload_n 22 dX5_turned_21 rfl 0 rfl rfl ?_
      refine ww_getR 6 25 dX5_turned_22 wf_X5_52 (ww_i1 0 (by decide)) rfl rfl rfl ?_
      refine ww_aload_n 26 dX5_turned_25 rfl 0 rfl rfl ?_
      refine ww_getR 0 29 dX5_turned_26 wf_X5_11 (ww_i1 0 (by decide)) rfl rfl rfl ?_
      refine ww_iload_n 30 dX5_turned_29 rfl 1 rfl rfl ?_
      obtain ⟨j10, hij10, hj10, h⟩ := h
      refine ww_aald j10 31 dX5_turned_30 (ww_i1 1 (by decide)) rfl (Or.inl rfl) (by decide) hij10 hj10 rfl ?_
      obtain ⟨Q11, hT, h⟩ := h
      refine ww_invVV (d' := mX2_copy) [.inr (.inr (21, j10))] rfl 34 dX5_turned_31 ⟨wi_X2, wc_X2_copy, wp_X2_copy, by decide, by decide⟩ wl_X5_87 wn_X2_copy we_X2_copy (show ww_in (21, 17) from (show 17 < 104 by omega)) rfl rfl (Nat.le_of_ble_eq_true rfl) rfl hT (fun τ12 hq => ?_)
      replace h := h τ12 hq
      refine ww_aload_n 35 dX5_turned_34 rfl 0 rfl rfl ?_
      refine ww_getR 6 38 dX5_turned_35 wf_X5_52 (ww_i1 0 (by decide)) rfl rfl rfl ?_
      obtain ⟨Q13, hT, h⟩ := h
      refine ww_invVV (d' := mX2_cutToRing) [] rfl 41 dX5_turned_38 ⟨wi_X2, wc_X2_cutToRing, wp_X2_cutToRing, by decide, by decide⟩ wl_X5_149 wn_X2_cutToRing we_X2_cutToRing (show ww_in (21, 17) from (show 17 < 104 by omega)) rfl rfl (Nat.le_of_ble_eq_true rfl) rfl hT (fun τ14 hq => ?_)
      replace h := h τ14 hq
      refine ww_aload_n 42 dX5_turned_41 rfl 0 rfl rfl ?_
      refine ww_getR 7 45 dX5_turned_42 wf_X5_55 (ww_i1 0 (by decide)) rfl rfl rfl ?_
      refine ww_aload_n 46 dX5_turned_45 rfl 0 rfl rfl ?_
      refine ww_getR 0 49 dX5_turned_46 wf_X5_11 (ww_i1 0 (by decide)) rfl rfl rfl ?_
      refine ww_iload_n 50 dX5_turned_49 rfl 2 rfl rfl ?_
      obtain ⟨j15, hij15, hj15, h⟩ := h
      refine ww_aald j15 51 dX5_turned_50 (ww_i1 1 (by decide)) rfl (Or.inl rfl) (by decide) hij15 hj15 rfl ?_
      obtain ⟨Q16, hT, h⟩ := h
      refine ww_invVV (d' := mX2_copy) [.inr (.inr (21, j15))] rfl 54 dX5_turned_51 ⟨wi_X2, wc_X2_copy, wp_X2_copy, by decide, by decide⟩ wl_X5_87 wn_X2_copy we_X2_copy (show ww_in (21, 18) from (show 18 < 104 by omega)) rfl rfl (Nat.le_of_ble_eq_true rfl) rfl hT (fun τ17 hq => ?_)
      replace h := h τ17 hq
      refine ww_aload_n 55 dX5_turned_54 rfl 0 rfl rfl ?_
      refine ww_getR 7 58 dX5_turned_55 wf_X5_55 (ww_i1 0 (by decide)) rfl rfl rfl ?_
      obtain ⟨Q18, hT, h⟩ := h
      refine ww_invVV (d' := mX2_cutToRing) [] rfl 61 dX5_turned_58 ⟨wi_X2, wc_X2_cutToRing, wp_X2_cutToRing, by decide, by decide⟩ wl_X5_149 wn_X2_cutToRing we_X2_cutToRing (show ww_in (21, 18) from (show 18 < 104 by omega)) rfl rfl (Nat.le_of_ble_eq_true rfl) rfl hT (fun τ19 hq => ?_)
      replace h := h τ19 hq
      refine ww_aload_n 62 dX5_turned_61 rfl 0 rfl rfl ?_
      refine ww_getR 3 65 dX5_turned_62 wf_X5_35 (ww_i1 0 (by decide)) rfl rfl rfl ?_
      refine ww_bipush (v := nI 6) 67 dX5_turned_65 (by decide) rfl ?_
      obtain ⟨Q20, hT, h⟩ := h
      refine ww_invVI (d' := mX0_areGood) [.inl (nI 6)] rfl 70 dX5_turned_67 ⟨wi_X0, wc_X0_areGood, wp_X0_areGood, by decide, by decide⟩ wl_X5_118 wn_X0_areGood we_X0_areGood (ww_i1 8 (by decide)) rfl rfl (Nat.le_of_ble_eq_true rfl) rfl hT (fun v21 τ22 hq => ?_)
      replace h := h v21 τ22 hq
      refine ww_if_eq 97 73 dX5_turned_70 (by decide) rfl (fun c => ?_) (fun c => ?_)
      · replace h := h.1 c
        refine ww_aload_n 98 dX5_turned_97 rfl 0 rfl rfl ?_
        refine ww_bipush (v := (-3 : Int32)) 100 dX5_turned_98 (by decide) rfl ?_
        obtain ⟨Q23, hT, h⟩ := h
        refine ww_invVI (d' := mX5_refuse) [.inl (-3 : Int32)] rfl 103 dX5_turned_100 ⟨wi_X5, wc_X5_refuse, wp_X5_refuse, by decide, by decide⟩ wl_X5_58 wn_X5_refuse we_X5_refuse (ww_i1 0 (by decide)) rfl rfl (Nat.le_of_ble_eq_true rfl) rfl hT (fun v24 τ25 hq => ?_)
        replace h := h v24 τ25 hq
        exact ww_iret dX5_turned_103 rfl ⟨_, rfl, h⟩
      · replace h := h.2 c
        refine ww_aload_n 74 dX5_turned_73 rfl 0 rfl rfl ?_
        refine ww_getR 6 77 dX5_turned_74 wf_X5_52 (ww_i1 0 (by decide)) rfl rfl rfl ?_
        refine ww_getI 1 80 dX5_turned_77 wf_X5_100 (show ww_in (21, 17) from (show 17 < 104 by omega)) rfl rfl rfl ?_
        refine ww_bipush (v := nI 8) 82 dX5_turned_80 (by decide) rfl ?_
        refine ww_ic_gt 97 85 dX5_turned_82 (by decide) rfl (fun c => ?_) (fun c => ?_)
        · replace h := h.1 c
          refine ww_aload_n 98 dX5_turned_97 rfl 0 rfl rfl ?_
          refine ww_bipush (v := (-3 : Int32)) 100 dX5_turned_98 (by decide) rfl ?_
          obtain ⟨Q26, hT, h⟩ := h
          refine ww_invVI (d' := mX5_refuse) [.inl (-3 : Int32)] rfl 103 dX5_turned_100 ⟨wi_X5, wc_X5_refuse, wp_X5_refuse, by decide, by decide⟩ wl_X5_58 wn_X5_refuse we_X5_refuse (ww_i1 0 (by decide)) rfl rfl (Nat.le_of_ble_eq_true rfl) rfl hT (fun v27 τ28 hq => ?_)
          replace h := h v27 τ28 hq
          exact ww_iret dX5_turned_103 rfl ⟨_, rfl, h⟩
        · replace h := h.2 c
          refine ww_aload_n 86 dX5_turned_85 rfl 0 rfl rfl ?_
          refine ww_getR 7 89 dX5_turned_86 wf_X5_55 (ww_i1 0 (by decide)) rfl rfl rfl ?_
          refine ww_getI 1 92 dX5_turned_89 wf_X5_100 (show ww_in (21, 18) from (show 18 < 104 by omega)) rfl rfl rfl ?_
          refine ww_bipush (v := nI 8) 94 dX5_turned_92 (by decide) rfl ?_
          refine ww_ic_le 104 97 dX5_turned_94 (by decide) rfl (fun c => ?_) (fun c => ?_)
          · replace h := h.1 c
            refine ww_iconst (v := nI 1) 105 dX5_turned_104 (by decide) rfl ?_
            refine ww_aload_n 106 dX5_turned_105 rfl 0 rfl rfl ?_
            refine ww_getR 6 109 dX5_turned_106 wf_X5_52 (ww_i1 0 (by decide)) rfl rfl rfl ?_
            refine ww_getI 1 112 dX5_turned_109 wf_X5_100 (show ww_in (21, 17) from (show 17 < 104 by omega)) rfl rfl rfl ?_
            refine ww_mmax 115 dX5_turned_112 wl_X5_182 ws_Math_max wi_J9 wc_Math_max (by decide) (Nat.le_of_ble_eq_true rfl) rfl ?_
            refine ww_istore_n 116 dX5_turned_115 rfl 3 rfl (by decide) rfl [some (.inr (.inr (0, 0))), some (.inl a1), some (.inl a2), some (.inl (if nI 1 < τ22 (21, 17) 1 then τ22 (21, 17) 1 else nI 1)), none, none] rfl ?_
            refine ww_iconst (v := nI 0) 117 dX5_turned_116 (by decide) rfl ?_
            refine ww_istore 119 4 dX5_turned_117 rfl (by decide) rfl [some (.inr (.inr (0, 0))), some (.inl a1), some (.inl a2), some (.inl (if nI 1 < τ22 (21, 17) 1 then τ22 (21, 17) 1 else nI 1)), some (.inl (nI 0)), none] rfl ?_
            exact ww_weak (ww_le_s (ww_le_n (ww_le_n (ww_le_s (ww_le_s (ww_le_n (ww_le_nil _))))))) h
          · replace h := h.2 c
            refine ww_aload_n 98 dX5_turned_97 rfl 0 rfl rfl ?_
            refine ww_bipush (v := (-3 : Int32)) 100 dX5_turned_98 (by decide) rfl ?_
            obtain ⟨Q29, hT, h⟩ := h
            refine ww_invVI (d' := mX5_refuse) [.inl (-3 : Int32)] rfl 103 dX5_turned_100 ⟨wi_X5, wc_X5_refuse, wp_X5_refuse, by decide, by decide⟩ wl_X5_58 wn_X5_refuse we_X5_refuse (ww_i1 0 (by decide)) rfl rfl (Nat.le_of_ble_eq_true rfl) rfl hT (fun v30 τ31 hq => ?_)
            replace h := h v30 τ31 hq
            exact ww_iret dX5_turned_103 rfl ⟨_, rfl, h⟩
    · replace h := h.2 c
      refine ww_aload_n 15 dX5_turned_14 rfl 0 rfl rfl ?_
      refine ww_bipush (v := (-2 : Int32)) 17 dX5_turned_15 (by decide) rfl ?_
      obtain ⟨Q32, hT, h⟩ := h
      refine ww_invVI (d' := mX5_refuse) [.inl (-2 : Int32)] rfl 20 dX5_turned_17 ⟨wi_X5, wc_X5_refuse, wp_X5_refuse, by decide, by decide⟩ wl_X5_58 wn_X5_refuse we_X5_refuse (ww_i1 0 (by decide)) rfl rfl (Nat.le_of_ble_eq_true rfl) rfl hT (fun v33 τ34 hq => ?_)
      replace h := h v33 τ34 hq
      exact ww_iret dX5_turned_20 rfl ⟨_, rfl, h⟩
theorem b_X5_turned_119 {g : ww_G} {E : ww_E} {τ : ww_M} {x3 : Int32} {x4 : Int32} {Post : Int32 → ww_M → Prop}  (h : ((x3 ≤ x4 → Post (-1 : Int32) τ) ∧ (¬ (x3 ≤ x4) → ww_W g mX5_turned E (ww_QI Post) 128 [some (.inr (.inr (0, 0))), none, none, some (.inl x3), some (.inl x4), some (.inl (nI 0))] [] τ))) : ww_W g mX5_turned E (ww_QI Post) 119 [some (.inr (.inr (0, 0))), none, none, some (.inl x3), some (.inl x4), none] [] τ := by
  refine ww_iload 121 4 dX5_turned_119 rfl rfl ?_
  refine ww_iload_n 122 dX5_turned_121 rfl 3 rfl rfl ?_
  refine ww_ic_ge 166 125 dX5_turned_122 (by decide) rfl (fun c => ?_) (fun c => ?_)
  · replace h := h.1 c
    refine ww_iconst (v := (-1 : Int32)) 167 dX5_turned_166 (by decide) rfl ?_
    exact ww_iret dX5_turned_167 rfl ⟨_, rfl, h⟩
  · replace h := h.2 c
    refine ww_iconst (v := nI 0) 126 dX5_turned_125 (by decide) rfl ?_
    refine ww_istore 128 5 dX5_turned_126 rfl (by decide) rfl [some (.inr (.inr (0, 0))), none, none, some (.inl x3), some (.inl x4), some (.inl (nI 0))] rfl ?_
    exact h
theorem b_X5_turned_128 {g : ww_G} {E : ww_E} {τ : ww_M} {x3 : Int32} {x4 : Int32} {x5 : Int32} {Post : Int32 → ww_M → Prop}  (h : ((nI 2 < x5 → ww_W g mX5_turned E (ww_QI Post) 119 [some (.inr (.inr (0, 0))), none, none, some (.inl x3), some (.inl (x4 + nI 1)), none] [] τ) ∧ (¬ (nI 2 < x5) → (∃ Q1 : Int32 → ww_M → Prop, ww_T E.2.1 g mX5_someBeginningTurns [.inr (.inr (0, 0)), .inl x4, .inl x5] τ (ww_QI Q1) ∧ ∀ (v2 : Int32) (τ3 : ww_M), Q1 v2 τ3 → (v2 = nI 0 → ww_W g mX5_turned E (ww_QI Post) 128 [some (.inr (.inr (0, 0))), none, none, some (.inl x3), some (.inl x4), some (.inl (x5 + nI 1))] [] τ3) ∧ (¬ v2 = nI 0 → Post (((nI 100) * x4) + x5) τ3))))) : ww_W g mX5_turned E (ww_QI Post) 128 [some (.inr (.inr (0, 0))), none, none, some (.inl x3), some (.inl x4), some (.inl x5)] [] τ := by
  refine ww_iload 130 5 dX5_turned_128 rfl rfl ?_
  refine ww_iconst (v := nI 2) 131 dX5_turned_130 (by decide) rfl ?_
  refine ww_ic_gt 160 134 dX5_turned_131 (by decide) rfl (fun c => ?_) (fun c => ?_)
  · replace h := h.1 c
    refine ww_iinc (nI 1) 163 4 dX5_turned_160 (by decide) rfl rfl (by decide) rfl [some (.inr (.inr (0, 0))), none, none, some (.inl x3), some (.inl (x4 + nI 1)), some (.inl x5)] rfl ?_
    refine ww_goto 119 dX5_turned_163 (by decide) ?_
    exact ww_weak (ww_le_s (ww_le_n (ww_le_n (ww_le_s (ww_le_s (ww_le_n (ww_le_nil _))))))) h
  · replace h := h.2 c
    refine ww_aload_n 135 dX5_turned_134 rfl 0 rfl rfl ?_
    refine ww_iload 137 4 dX5_turned_135 rfl rfl ?_
    refine ww_iload 139 5 dX5_turned_137 rfl rfl ?_
    obtain ⟨Q1, hT, h⟩ := h
    refine ww_invVI (d' := mX5_someBeginningTurns) [.inl x4, .inl x5] rfl 142 dX5_turned_139 ⟨wi_X5, wc_X5_someBeginningTurns, wp_X5_someBeginningTurns, by decide, by decide⟩ wl_X5_187 wn_X5_someBeginningTurns we_X5_someBeginningTurns (ww_i1 0 (by decide)) rfl rfl (Nat.le_of_ble_eq_true rfl) rfl hT (fun v2 τ3 hq => ?_)
    replace h := h v2 τ3 hq
    refine ww_if_eq 154 145 dX5_turned_142 (by decide) rfl (fun c => ?_) (fun c => ?_)
    · replace h := h.1 c
      refine ww_iinc (nI 1) 157 5 dX5_turned_154 (by decide) rfl rfl (by decide) rfl [some (.inr (.inr (0, 0))), none, none, some (.inl x3), some (.inl x4), some (.inl (x5 + nI 1))] rfl ?_
      refine ww_goto 128 dX5_turned_157 (by decide) ?_
      exact h
    · replace h := h.2 c
      refine ww_bipush (v := nI 100) 147 dX5_turned_145 (by decide) rfl ?_
      refine ww_iload 149 4 dX5_turned_147 rfl rfl ?_
      refine ww_imul 150 dX5_turned_149 rfl ?_
      refine ww_iload 152 5 dX5_turned_150 rfl rfl ?_
      refine ww_iadd 153 dX5_turned_152 rfl ?_
      exact ww_iret dX5_turned_153 rfl ⟨_, rfl, h⟩
theorem b_X5_nothings {l : Launch} {g : ww_G} {τ : ww_M} {a1 : Int32} {Post : Int32 → ww_M → Prop}  (h : ∀ E : ww_E, ((a1 < nI 1 → (∃ Q1 : Int32 → ww_M → Prop, ww_T E.2.1 g mX5_refuse [.inr (.inr (0, 0)), .inl (-2 : Int32)] τ (ww_QI Q1) ∧ ∀ (v2 : Int32) (τ3 : ww_M), Q1 v2 τ3 → Post v2 τ3)) ∧ (¬ (a1 < nI 1) → ((a1 ≤ nI 4 → (∃ Q4 : Int32 → ww_M → Prop, ww_T E.2.1 g mX0_areGood [.inr (.inr (8, 0)), .inl (nI 6)] τ (ww_QI Q4) ∧ ∀ (v5 : Int32) (τ6 : ww_M), Q4 v5 τ6 → (¬ v5 = nI 0 → ww_W g mX5_nothings E (ww_QI Post) 47 [some (.inr (.inr (0, 0))), some (.inl a1), some (.inl (nI 0)), some (.inl ((nI 1) <<< (((nI 3) * a1) &&& 31))), some (.inl (nI 0)), none] [] τ6) ∧ (v5 = nI 0 → (∃ Q7 : Int32 → ww_M → Prop, ww_T E.2.1 g mX5_refuse [.inr (.inr (0, 0)), .inl (-3 : Int32)] τ6 (ww_QI Q7) ∧ ∀ (v8 : Int32) (τ9 : ww_M), Q7 v8 τ9 → Post v8 τ9)))) ∧ (¬ (a1 ≤ nI 4) → (∃ Q10 : Int32 → ww_M → Prop, ww_T E.2.1 g mX5_refuse [.inr (.inr (0, 0)), .inl (-2 : Int32)] τ (ww_QI Q10) ∧ ∀ (v11 : Int32) (τ12 : ww_M), Q10 v11 τ12 → Post v11 τ12)))))) : ww_T l g mX5_nothings [.inr (.inr (0, 0)), .inl a1] τ (ww_QI Post) := by
  refine ww_enter (P := [some (.inr (.inr (0, 0))), some (.inl a1), none, none, none, none]) (by decide) (Nat.le_of_ble_eq_true rfl) rfl (fun E => ?_)
  replace h := h E
  refine ww_iload_n 1 dX5_nothings_0 rfl 1 rfl rfl ?_
  refine ww_iconst (v := nI 1) 2 dX5_nothings_1 (by decide) rfl ?_
  refine ww_ic_lt 10 5 dX5_nothings_2 (by decide) rfl (fun c => ?_) (fun c => ?_)
  · replace h := h.1 c
    refine ww_aload_n 11 dX5_nothings_10 rfl 0 rfl rfl ?_
    refine ww_bipush (v := (-2 : Int32)) 13 dX5_nothings_11 (by decide) rfl ?_
    obtain ⟨Q1, hT, h⟩ := h
    refine ww_invVI (d' := mX5_refuse) [.inl (-2 : Int32)] rfl 16 dX5_nothings_13 ⟨wi_X5, wc_X5_refuse, wp_X5_refuse, by decide, by decide⟩ wl_X5_58 wn_X5_refuse we_X5_refuse (ww_i1 0 (by decide)) rfl rfl (Nat.le_of_ble_eq_true rfl) rfl hT (fun v2 τ3 hq => ?_)
    replace h := h v2 τ3 hq
    exact ww_iret dX5_nothings_16 rfl ⟨_, rfl, h⟩
  · replace h := h.2 c
    refine ww_iload_n 6 dX5_nothings_5 rfl 1 rfl rfl ?_
    refine ww_iconst (v := nI 4) 7 dX5_nothings_6 (by decide) rfl ?_
    refine ww_ic_le 17 10 dX5_nothings_7 (by decide) rfl (fun c => ?_) (fun c => ?_)
    · replace h := h.1 c
      refine ww_aload_n 18 dX5_nothings_17 rfl 0 rfl rfl ?_
      refine ww_getR 3 21 dX5_nothings_18 wf_X5_35 (ww_i1 0 (by decide)) rfl rfl rfl ?_
      refine ww_bipush (v := nI 6) 23 dX5_nothings_21 (by decide) rfl ?_
      obtain ⟨Q4, hT, h⟩ := h
      refine ww_invVI (d' := mX0_areGood) [.inl (nI 6)] rfl 26 dX5_nothings_23 ⟨wi_X0, wc_X0_areGood, wp_X0_areGood, by decide, by decide⟩ wl_X5_118 wn_X0_areGood we_X0_areGood (ww_i1 8 (by decide)) rfl rfl (Nat.le_of_ble_eq_true rfl) rfl hT (fun v5 τ6 hq => ?_)
      replace h := h v5 τ6 hq
      refine ww_if_ne 36 29 dX5_nothings_26 (by decide) rfl (fun c => ?_) (fun c => ?_)
      · replace h := h.1 c
        refine ww_iconst (v := nI 0) 37 dX5_nothings_36 (by decide) rfl ?_
        refine ww_istore_n 38 dX5_nothings_37 rfl 2 rfl (by decide) rfl [some (.inr (.inr (0, 0))), some (.inl a1), some (.inl (nI 0)), none, none, none] rfl ?_
        refine ww_iconst (v := nI 1) 39 dX5_nothings_38 (by decide) rfl ?_
        refine ww_iconst (v := nI 3) 40 dX5_nothings_39 (by decide) rfl ?_
        refine ww_iload_n 41 dX5_nothings_40 rfl 1 rfl rfl ?_
        refine ww_imul 42 dX5_nothings_41 rfl ?_
        refine ww_ishl 43 dX5_nothings_42 rfl ?_
        refine ww_istore_n 44 dX5_nothings_43 rfl 3 rfl (by decide) rfl [some (.inr (.inr (0, 0))), some (.inl a1), some (.inl (nI 0)), some (.inl ((nI 1) <<< (((nI 3) * a1) &&& 31))), none, none] rfl ?_
        refine ww_iconst (v := nI 0) 45 dX5_nothings_44 (by decide) rfl ?_
        refine ww_istore 47 4 dX5_nothings_45 rfl (by decide) rfl [some (.inr (.inr (0, 0))), some (.inl a1), some (.inl (nI 0)), some (.inl ((nI 1) <<< (((nI 3) * a1) &&& 31))), some (.inl (nI 0)), none] rfl ?_
        exact h
      · replace h := h.2 c
        refine ww_aload_n 30 dX5_nothings_29 rfl 0 rfl rfl ?_
        refine ww_bipush (v := (-3 : Int32)) 32 dX5_nothings_30 (by decide) rfl ?_
        obtain ⟨Q7, hT, h⟩ := h
        refine ww_invVI (d' := mX5_refuse) [.inl (-3 : Int32)] rfl 35 dX5_nothings_32 ⟨wi_X5, wc_X5_refuse, wp_X5_refuse, by decide, by decide⟩ wl_X5_58 wn_X5_refuse we_X5_refuse (ww_i1 0 (by decide)) rfl rfl (Nat.le_of_ble_eq_true rfl) rfl hT (fun v8 τ9 hq => ?_)
        replace h := h v8 τ9 hq
        exact ww_iret dX5_nothings_35 rfl ⟨_, rfl, h⟩
    · replace h := h.2 c
      refine ww_aload_n 11 dX5_nothings_10 rfl 0 rfl rfl ?_
      refine ww_bipush (v := (-2 : Int32)) 13 dX5_nothings_11 (by decide) rfl ?_
      obtain ⟨Q10, hT, h⟩ := h
      refine ww_invVI (d' := mX5_refuse) [.inl (-2 : Int32)] rfl 16 dX5_nothings_13 ⟨wi_X5, wc_X5_refuse, wp_X5_refuse, by decide, by decide⟩ wl_X5_58 wn_X5_refuse we_X5_refuse (ww_i1 0 (by decide)) rfl rfl (Nat.le_of_ble_eq_true rfl) rfl hT (fun v11 τ12 hq => ?_)
      replace h := h v11 τ12 hq
      exact ww_iret dX5_nothings_16 rfl ⟨_, rfl, h⟩
theorem b_X5_nothings_47 {g : ww_G} {E : ww_E} {τ : ww_M} {x1 : Int32} {x2 : Int32} {x3 : Int32} {x4 : Int32} {Post : Int32 → ww_M → Prop}  (h : ((x3 ≤ x4 → Post x2 τ) ∧ (¬ (x3 ≤ x4) → (∃ Q1 : ww_M → Prop, ww_T E.2.1 g mX2_wipe [.inr (.inr (21, 16))] τ (ww_QV Q1) ∧ ∀ (τ2 : ww_M), Q1 τ2 → ww_W g mX5_nothings E (ww_QI Post) 63 [some (.inr (.inr (0, 0))), some (.inl x1), some (.inl x2), some (.inl x3), some (.inl x4), some (.inl (nI 0))] [] τ2)))) : ww_W g mX5_nothings E (ww_QI Post) 47 [some (.inr (.inr (0, 0))), some (.inl x1), some (.inl x2), some (.inl x3), some (.inl x4), none] [] τ := by
  refine ww_iload 49 4 dX5_nothings_47 rfl rfl ?_
  refine ww_iload_n 50 dX5_nothings_49 rfl 3 rfl rfl ?_
  refine ww_ic_ge 146 53 dX5_nothings_50 (by decide) rfl (fun c => ?_) (fun c => ?_)
  · replace h := h.1 c
    refine ww_iload_n 147 dX5_nothings_146 rfl 2 rfl rfl ?_
    exact ww_iret dX5_nothings_147 rfl ⟨_, rfl, h⟩
  · replace h := h.2 c
    refine ww_aload_n 54 dX5_nothings_53 rfl 0 rfl rfl ?_
    refine ww_getR 5 57 dX5_nothings_54 wf_X5_48 (ww_i1 0 (by decide)) rfl rfl rfl ?_
    obtain ⟨Q1, hT, h⟩ := h
    refine ww_invVV (d' := mX2_wipe) [] rfl 60 dX5_nothings_57 ⟨wi_X2, wc_X2_wipe, wp_X2_wipe, by decide, by decide⟩ wl_X5_139 wn_X2_wipe we_X2_wipe (show ww_in (21, 16) from (show 16 < 104 by omega)) rfl rfl (Nat.le_of_ble_eq_true rfl) rfl hT (fun τ2 hq => ?_)
    replace h := h τ2 hq
    refine ww_iconst (v := nI 0) 61 dX5_nothings_60 (by decide) rfl ?_
    refine ww_istore 63 5 dX5_nothings_61 rfl (by decide) rfl [some (.inr (.inr (0, 0))), some (.inl x1), some (.inl x2), some (.inl x3), some (.inl x4), some (.inl (nI 0))] rfl ?_
    exact h
theorem b_X5_nothings_63 {g : ww_G} {E : ww_E} {τ : ww_M} {x1 : Int32} {x2 : Int32} {x3 : Int32} {x4 : Int32} {x5 : Int32} {Post : Int32 → ww_M → Prop}  (h : ((x1 ≤ x5 → ((¬ τ (21, 16) 1 = x1 → ww_W g mX5_nothings E (ww_QI Post) 108 [some (.inr (.inr (0, 0))), some (.inl x1), some (.inl x2), some (.inl x3), some (.inl x4), none] [.inl (nI 0)] τ) ∧ (τ (21, 16) 1 = x1 → ww_W g mX5_nothings E (ww_QI Post) 108 [some (.inr (.inr (0, 0))), some (.inl x1), some (.inl x2), some (.inl x3), some (.inl x4), none] [.inl (nI 1)] τ))) ∧ (¬ (x1 ≤ x5) → (∃ Q1 : ww_M → Prop, ww_T E.2.1 g mX2_put [.inr (.inr (21, 16)), .inl ((x4 >>> (((nI 3) * x5) &&& 31)) &&& (nI 7))] τ (ww_QV Q1) ∧ ∀ (τ2 : ww_M), Q1 τ2 → ww_W g mX5_nothings E (ww_QI Post) 63 [some (.inr (.inr (0, 0))), some (.inl x1), some (.inl x2), some (.inl x3), some (.inl x4), some (.inl (x5 + nI 1))] [] τ2)))) : ww_W g mX5_nothings E (ww_QI Post) 63 [some (.inr (.inr (0, 0))), some (.inl x1), some (.inl x2), some (.inl x3), some (.inl x4), some (.inl x5)] [] τ := by
  refine ww_iload 65 5 dX5_nothings_63 rfl rfl ?_
  refine ww_iload_n 66 dX5_nothings_65 rfl 1 rfl rfl ?_
  refine ww_ic_ge 92 69 dX5_nothings_66 (by decide) rfl (fun c => ?_) (fun c => ?_)
  · replace h := h.1 c
    refine ww_aload_n 93 dX5_nothings_92 rfl 0 rfl rfl ?_
    refine ww_getR 5 96 dX5_nothings_93 wf_X5_48 (ww_i1 0 (by decide)) rfl rfl rfl ?_
    refine ww_getI 1 99 dX5_nothings_96 wf_X5_100 (show ww_in (21, 16) from (show 16 < 104 by omega)) rfl rfl rfl ?_
    refine ww_iload_n 100 dX5_nothings_99 rfl 1 rfl rfl ?_
    refine ww_ic_ne 107 103 dX5_nothings_100 (by decide) rfl (fun c => ?_) (fun c => ?_)
    · replace h := h.1 c
      refine ww_iconst (v := nI 0) 108 dX5_nothings_107 (by decide) rfl ?_
      exact ww_weak (ww_le_s (ww_le_s (ww_le_s (ww_le_s (ww_le_s (ww_le_n (ww_le_nil _))))))) h
    · replace h := h.2 c
      refine ww_iconst (v := nI 1) 104 dX5_nothings_103 (by decide) rfl ?_
      refine ww_goto 108 dX5_nothings_104 (by decide) ?_
      exact ww_weak (ww_le_s (ww_le_s (ww_le_s (ww_le_s (ww_le_s (ww_le_n (ww_le_nil _))))))) h
  · replace h := h.2 c
    refine ww_aload_n 70 dX5_nothings_69 rfl 0 rfl rfl ?_
    refine ww_getR 5 73 dX5_nothings_70 wf_X5_48 (ww_i1 0 (by decide)) rfl rfl rfl ?_
    refine ww_iload 75 4 dX5_nothings_73 rfl rfl ?_
    refine ww_iconst (v := nI 3) 76 dX5_nothings_75 (by decide) rfl ?_
    refine ww_iload 78 5 dX5_nothings_76 rfl rfl ?_
    refine ww_imul 79 dX5_nothings_78 rfl ?_
    refine ww_ishr 80 dX5_nothings_79 rfl ?_
    refine ww_bipush (v := nI 7) 82 dX5_nothings_80 (by decide) rfl ?_
    refine ww_iand 83 dX5_nothings_82 rfl ?_
    obtain ⟨Q1, hT, h⟩ := h
    refine ww_invVV (d' := mX2_put) [.inl ((x4 >>> (((nI 3) * x5) &&& 31)) &&& (nI 7))] rfl 86 dX5_nothings_83 ⟨wi_X2, wc_X2_put, wp_X2_put, by decide, by decide⟩ wl_X5_130 wn_X2_put we_X2_put (show ww_in (21, 16) from (show 16 < 104 by omega)) rfl rfl (Nat.le_of_ble_eq_true rfl) rfl hT (fun τ2 hq => ?_)
    replace h := h τ2 hq
    refine ww_iinc (nI 1) 89 5 dX5_nothings_86 (by decide) rfl rfl (by decide) rfl [some (.inr (.inr (0, 0))), some (.inl x1), some (.inl x2), some (.inl x3), some (.inl x4), some (.inl (x5 + nI 1))] rfl ?_
    refine ww_goto 63 dX5_nothings_89 (by decide) ?_
    exact h
theorem b_X5_nothings_108 {g : ww_G} {E : ww_E} {τ : ww_M} {x1 : Int32} {x2 : Int32} {x3 : Int32} {x4 : Int32} {y0 : Int32} {Post : Int32 → ww_M → Prop}  (h : (∃ Q1 : Int32 → ww_M → Prop, ww_T E.2.1 g mX3_doAll [.inr (.inr (20, 0)), .inr (.inr (21, 16))] τ (ww_QI Q1) ∧ ∀ (v2 : Int32) (τ3 : ww_M), Q1 v2 τ3 → (y0 = nI 0 → ww_W g mX5_nothings E (ww_QI Post) 47 [some (.inr (.inr (0, 0))), some (.inl x1), some (.inl x2), some (.inl x3), some (.inl (x4 + nI 1)), none] [] τ3) ∧ (¬ y0 = nI 0 → ((¬ τ3 (21, 16) 1 = nI 0 → ww_W g mX5_nothings E (ww_QI Post) 47 [some (.inr (.inr (0, 0))), some (.inl x1), some (.inl x2), some (.inl x3), some (.inl (x4 + nI 1)), none] [] τ3) ∧ (τ3 (21, 16) 1 = nI 0 → ww_W g mX5_nothings E (ww_QI Post) 47 [some (.inr (.inr (0, 0))), some (.inl x1), some (.inl (x2 + nI 1)), some (.inl x3), some (.inl (x4 + nI 1)), none] [] τ3))))) : ww_W g mX5_nothings E (ww_QI Post) 108 [some (.inr (.inr (0, 0))), some (.inl x1), some (.inl x2), some (.inl x3), some (.inl x4), none] [.inl y0] τ := by
  refine ww_istore 110 5 dX5_nothings_108 rfl (by decide) rfl [some (.inr (.inr (0, 0))), some (.inl x1), some (.inl x2), some (.inl x3), some (.inl x4), some (.inl y0)] rfl ?_
  refine ww_aload_n 111 dX5_nothings_110 rfl 0 rfl rfl ?_
  refine ww_getR 4 114 dX5_nothings_111 wf_X5_44 (ww_i1 0 (by decide)) rfl rfl rfl ?_
  refine ww_aload_n 115 dX5_nothings_114 rfl 0 rfl rfl ?_
  refine ww_getR 5 118 dX5_nothings_115 wf_X5_48 (ww_i1 0 (by decide)) rfl rfl rfl ?_
  obtain ⟨Q1, hT, h⟩ := h
  refine ww_invVI (d' := mX3_doAll) [.inr (.inr (21, 16))] rfl 121 dX5_nothings_118 ⟨wi_X3, wc_X3_doAll, wp_X3_doAll, by decide, by decide⟩ wl_X5_166 wn_X3_doAll we_X3_doAll (ww_i1 20 (by decide)) rfl rfl (Nat.le_of_ble_eq_true rfl) rfl hT (fun v2 τ3 hq => ?_)
  replace h := h v2 τ3 hq
  refine ww_pop 122 dX5_nothings_121 rfl rfl ?_
  refine ww_iload 124 5 dX5_nothings_122 rfl rfl ?_
  refine ww_if_eq 140 127 dX5_nothings_124 (by decide) rfl (fun c => ?_) (fun c => ?_)
  · replace h := h.1 c
    refine ww_iinc (nI 1) 143 4 dX5_nothings_140 (by decide) rfl rfl (by decide) rfl [some (.inr (.inr (0, 0))), some (.inl x1), some (.inl x2), some (.inl x3), some (.inl (x4 + nI 1)), some (.inl y0)] rfl ?_
    refine ww_goto 47 dX5_nothings_143 (by decide) ?_
    exact ww_weak (ww_le_s (ww_le_s (ww_le_s (ww_le_s (ww_le_s (ww_le_n (ww_le_nil _))))))) h
  · replace h := h.2 c
    refine ww_aload_n 128 dX5_nothings_127 rfl 0 rfl rfl ?_
    refine ww_getR 5 131 dX5_nothings_128 wf_X5_48 (ww_i1 0 (by decide)) rfl rfl rfl ?_
    refine ww_getI 1 134 dX5_nothings_131 wf_X5_100 (show ww_in (21, 16) from (show 16 < 104 by omega)) rfl rfl rfl ?_
    refine ww_if_ne 140 137 dX5_nothings_134 (by decide) rfl (fun c => ?_) (fun c => ?_)
    · replace h := h.1 c
      refine ww_iinc (nI 1) 143 4 dX5_nothings_140 (by decide) rfl rfl (by decide) rfl [some (.inr (.inr (0, 0))), some (.inl x1), some (.inl x2), some (.inl x3), some (.inl (x4 + nI 1)), some (.inl y0)] rfl ?_
      refine ww_goto 47 dX5_nothings_143 (by decide) ?_
      exact ww_weak (ww_le_s (ww_le_s (ww_le_s (ww_le_s (ww_le_s (ww_le_n (ww_le_nil _))))))) h
    · replace h := h.2 c
      refine ww_iinc (nI 1) 140 2 dX5_nothings_137 (by decide) rfl rfl (by decide) rfl [some (.inr (.inr (0, 0))), some (.inl x1), some (.inl (x2 + nI 1)), some (.inl x3), some (.inl x4), some (.inl y0)] rfl ?_
      refine ww_iinc (nI 1) 143 4 dX5_nothings_140 (by decide) rfl rfl (by decide) rfl [some (.inr (.inr (0, 0))), some (.inl x1), some (.inl (x2 + nI 1)), some (.inl x3), some (.inl (x4 + nI 1)), some (.inl y0)] rfl ?_
      refine ww_goto 47 dX5_nothings_143 (by decide) ?_
      exact ww_weak (ww_le_s (ww_le_s (ww_le_s (ww_le_s (ww_le_s (ww_le_n (ww_le_nil _))))))) h
theorem b_X5_draw {l : Launch} {g : ww_G} {τ : ww_M} {a1 : Int32} {a2 : Int32} {a3 : Int32} {Post : Int32 → ww_M → Prop}  (h : ∀ E : ww_E, ((a1 < nI 0 → (∃ Q1 : Int32 → ww_M → Prop, ww_T E.2.1 g mX5_refuse [.inr (.inr (0, 0)), .inl (-2 : Int32)] τ (ww_QI Q1) ∧ ∀ (v2 : Int32) (τ3 : ww_M), Q1 v2 τ3 → Post v2 τ3)) ∧ (¬ (a1 < nI 0) → ((nI 999999 < a1 → (∃ Q4 : Int32 → ww_M → Prop, ww_T E.2.1 g mX5_refuse [.inr (.inr (0, 0)), .inl (-2 : Int32)] τ (ww_QI Q4) ∧ ∀ (v5 : Int32) (τ6 : ww_M), Q4 v5 τ6 → Post v5 τ6)) ∧ (¬ (nI 999999 < a1) → ((a2 < nI 0 → (∃ Q7 : Int32 → ww_M → Prop, ww_T E.2.1 g mX5_refuse [.inr (.inr (0, 0)), .inl (-2 : Int32)] τ (ww_QI Q7) ∧ ∀ (v8 : Int32) (τ9 : ww_M), Q7 v8 τ9 → Post v8 τ9)) ∧ (¬ (a2 < nI 0) → ((nI 60 < a2 → (∃ Q10 : Int32 → ww_M → Prop, ww_T E.2.1 g mX5_refuse [.inr (.inr (0, 0)), .inl (-2 : Int32)] τ (ww_QI Q10) ∧ ∀ (v11 : Int32) (τ12 : ww_M), Q10 v11 τ12 → Post v11 τ12)) ∧ (¬ (nI 60 < a2) → (∃ Q13 : Int32 → ww_M → Prop, ww_T E.2.1 g mX5_isWord [.inl a3] τ (ww_QI Q13) ∧ ∀ (v14 : Int32) (τ15 : ww_M), Q13 v14 τ15 → (¬ v14 = nI 0 → (∃ Q16 : ww_M → Prop, ww_T E.2.1 g mX2_wipe [.inr (.inr (21, 16))] τ15 (ww_QV Q16) ∧ ∀ (τ17 : ww_M), Q16 τ17 → ww_W g mX5_draw E (ww_QI Post) 48 [some (.inr (.inr (0, 0))), none, some (.inl a2), some (.inl a3), some (.inr (.inl (a1.toInt64))), none, some (.inl (nI 0))] [] τ17)) ∧ (v14 = nI 0 → (∃ Q18 : Int32 → ww_M → Prop, ww_T E.2.1 g mX5_refuse [.inr (.inr (0, 0)), .inl (-2 : Int32)] τ15 (ww_QI Q18) ∧ ∀ (v19 : Int32) (τ20 : ww_M), Q18 v19 τ20 → Post v19 τ20)))))))))))) : ww_T l g mX5_draw [.inr (.inr (0, 0)), .inl a1, .inl a2, .inl a3] τ (ww_QI Post) := by
  refine ww_enter (P := [some (.inr (.inr (0, 0))), some (.inl a1), some (.inl a2), some (.inl a3), none, none, none]) (by decide) (Nat.le_of_ble_eq_true rfl) rfl (fun E => ?_)
  replace h := h E
  refine ww_iload_n 1 dX5_draw_0 rfl 1 rfl rfl ?_
  refine ww_if_lt 27 4 dX5_draw_1 (by decide) rfl (fun c => ?_) (fun c => ?_)
  · replace h := h.1 c
    refine ww_aload_n 28 dX5_draw_27 rfl 0 rfl rfl ?_
    refine ww_bipush (v := (-2 : Int32)) 30 dX5_draw_28 (by decide) rfl ?_
    obtain ⟨Q1, hT, h⟩ := h
    refine ww_invVI (d' := mX5_refuse) [.inl (-2 : Int32)] rfl 33 dX5_draw_30 ⟨wi_X5, wc_X5_refuse, wp_X5_refuse, by decide, by decide⟩ wl_X5_58 wn_X5_refuse we_X5_refuse (ww_i1 0 (by decide)) rfl rfl (Nat.le_of_ble_eq_true rfl) rfl hT (fun v2 τ3 hq => ?_)
    replace h := h v2 τ3 hq
    exact ww_iret dX5_draw_33 rfl ⟨_, rfl, h⟩
  · replace h := h.2 c
    refine ww_iload_n 5 dX5_draw_4 rfl 1 rfl rfl ?_
    refine ww_ldc 7 dX5_draw_5 rfl wk_X5_191 ?_
    refine ww_ic_gt 27 10 dX5_draw_7 (by decide) rfl (fun c => ?_) (fun c => ?_)
    · replace h := h.1 c
      refine ww_aload_n 28 dX5_draw_27 rfl 0 rfl rfl ?_
      refine ww_bipush (v := (-2 : Int32)) 30 dX5_draw_28 (by decide) rfl ?_
      obtain ⟨Q4, hT, h⟩ := h
      refine ww_invVI (d' := mX5_refuse) [.inl (-2 : Int32)] rfl 33 dX5_draw_30 ⟨wi_X5, wc_X5_refuse, wp_X5_refuse, by decide, by decide⟩ wl_X5_58 wn_X5_refuse we_X5_refuse (ww_i1 0 (by decide)) rfl rfl (Nat.le_of_ble_eq_true rfl) rfl hT (fun v5 τ6 hq => ?_)
      replace h := h v5 τ6 hq
      exact ww_iret dX5_draw_33 rfl ⟨_, rfl, h⟩
    · replace h := h.2 c
      refine ww_iload_n 11 dX5_draw_10 rfl 2 rfl rfl ?_
      refine ww_if_lt 27 14 dX5_draw_11 (by decide) rfl (fun c => ?_) (fun c => ?_)
      · replace h := h.1 c
        refine ww_aload_n 28 dX5_draw_27 rfl 0 rfl rfl ?_
        refine ww_bipush (v := (-2 : Int32)) 30 dX5_draw_28 (by decide) rfl ?_
        obtain ⟨Q7, hT, h⟩ := h
        refine ww_invVI (d' := mX5_refuse) [.inl (-2 : Int32)] rfl 33 dX5_draw_30 ⟨wi_X5, wc_X5_refuse, wp_X5_refuse, by decide, by decide⟩ wl_X5_58 wn_X5_refuse we_X5_refuse (ww_i1 0 (by decide)) rfl rfl (Nat.le_of_ble_eq_true rfl) rfl hT (fun v8 τ9 hq => ?_)
        replace h := h v8 τ9 hq
        exact ww_iret dX5_draw_33 rfl ⟨_, rfl, h⟩
      · replace h := h.2 c
        refine ww_iload_n 15 dX5_draw_14 rfl 2 rfl rfl ?_
        refine ww_bipush (v := nI 60) 17 dX5_draw_15 (by decide) rfl ?_
        refine ww_ic_gt 27 20 dX5_draw_17 (by decide) rfl (fun c => ?_) (fun c => ?_)
        · replace h := h.1 c
          refine ww_aload_n 28 dX5_draw_27 rfl 0 rfl rfl ?_
          refine ww_bipush (v := (-2 : Int32)) 30 dX5_draw_28 (by decide) rfl ?_
          obtain ⟨Q10, hT, h⟩ := h
          refine ww_invVI (d' := mX5_refuse) [.inl (-2 : Int32)] rfl 33 dX5_draw_30 ⟨wi_X5, wc_X5_refuse, wp_X5_refuse, by decide, by decide⟩ wl_X5_58 wn_X5_refuse we_X5_refuse (ww_i1 0 (by decide)) rfl rfl (Nat.le_of_ble_eq_true rfl) rfl hT (fun v11 τ12 hq => ?_)
          replace h := h v11 τ12 hq
          exact ww_iret dX5_draw_33 rfl ⟨_, rfl, h⟩
        · replace h := h.2 c
          refine ww_iload_n 21 dX5_draw_20 rfl 3 rfl rfl ?_
          obtain ⟨Q13, hT, h⟩ := h
          refine ww_invSI (d' := mX5_isWord) [.inl a3] rfl 24 dX5_draw_21 ⟨wi_X5, wc_X5_isWord, wp_X5_isWord, by decide, by decide⟩ (Or.inl wl_X5_81) wn_X5_isWord (Nat.le_of_ble_eq_true rfl) rfl hT (fun v14 τ15 hq => ?_)
          replace h := h v14 τ15 hq
          refine ww_if_ne 34 27 dX5_draw_24 (by decide) rfl (fun c => ?_) (fun c => ?_)
          · replace h := h.1 c
            refine ww_aload_n 35 dX5_draw_34 rfl 0 rfl rfl ?_
            refine ww_getR 5 38 dX5_draw_35 wf_X5_48 (ww_i1 0 (by decide)) rfl rfl rfl ?_
            obtain ⟨Q16, hT, h⟩ := h
            refine ww_invVV (d' := mX2_wipe) [] rfl 41 dX5_draw_38 ⟨wi_X2, wc_X2_wipe, wp_X2_wipe, by decide, by decide⟩ wl_X5_139 wn_X2_wipe we_X2_wipe (show ww_in (21, 16) from (show 16 < 104 by omega)) rfl rfl (Nat.le_of_ble_eq_true rfl) rfl hT (fun τ17 hq => ?_)
            replace h := h τ17 hq
            refine ww_iload_n 42 dX5_draw_41 rfl 1 rfl rfl ?_
            refine ww_i2l 43 dX5_draw_42 rfl ?_
            refine ww_lstore 45 4 dX5_draw_43 rfl (by decide) rfl [some (.inr (.inr (0, 0))), some (.inl a1), some (.inl a2), some (.inl a3), some (.inr (.inl (a1.toInt64))), none, none] rfl ?_
            refine ww_iconst (v := nI 0) 46 dX5_draw_45 (by decide) rfl ?_
            refine ww_istore 48 6 dX5_draw_46 rfl (by decide) rfl [some (.inr (.inr (0, 0))), some (.inl a1), some (.inl a2), some (.inl a3), some (.inr (.inl (a1.toInt64))), none, some (.inl (nI 0))] rfl ?_
            exact ww_weak (ww_le_s (ww_le_n (ww_le_s (ww_le_s (ww_le_s (ww_le_n (ww_le_s (ww_le_nil _)))))))) h
          · replace h := h.2 c
            refine ww_aload_n 28 dX5_draw_27 rfl 0 rfl rfl ?_
            refine ww_bipush (v := (-2 : Int32)) 30 dX5_draw_28 (by decide) rfl ?_
            obtain ⟨Q18, hT, h⟩ := h
            refine ww_invVI (d' := mX5_refuse) [.inl (-2 : Int32)] rfl 33 dX5_draw_30 ⟨wi_X5, wc_X5_refuse, wp_X5_refuse, by decide, by decide⟩ wl_X5_58 wn_X5_refuse we_X5_refuse (ww_i1 0 (by decide)) rfl rfl (Nat.le_of_ble_eq_true rfl) rfl hT (fun v19 τ20 hq => ?_)
            replace h := h v19 τ20 hq
            exact ww_iret dX5_draw_33 rfl ⟨_, rfl, h⟩
theorem b_X5_draw_48 {g : ww_G} {E : ww_E} {τ : ww_M} {x2 : Int32} {x3 : Int32} {x4 : Int64} {x6 : Int32} {Post : Int32 → ww_M → Prop}  (h : ((x2 ≤ x6 → (∃ Q1 : Int32 → ww_M → Prop, ww_T E.2.1 g mX5_keep [.inr (.inr (0, 0)), .inl x3] τ (ww_QI Q1) ∧ ∀ (v2 : Int32) (τ3 : ww_M), Q1 v2 τ3 → Post v2 τ3)) ∧ (¬ (x2 ≤ x6) → (∃ Q4 : Int64 → ww_M → Prop, ww_T E.2.1 g mX5_nextDraw [.inr (.inl (x4))] τ (ww_QL Q4) ∧ ∀ (v5 : Int64) (τ6 : ww_M), Q4 v5 τ6 → (∃ Q7 : ww_M → Prop, ww_T E.2.1 g mX2_put [.inr (.inr (21, 16)), .inl (((v5 / (lN 65536)) - (v5 / (lN 65536)) / (lN 8) * (lN 8)).toInt32)] τ6 (ww_QV Q7) ∧ ∀ (τ8 : ww_M), Q7 τ8 → ww_W g mX5_draw E (ww_QI Post) 48 [some (.inr (.inr (0, 0))), none, some (.inl x2), some (.inl x3), some (.inr (.inl (v5))), none, some (.inl (x6 + nI 1))] [] τ8))))) : ww_W g mX5_draw E (ww_QI Post) 48 [some (.inr (.inr (0, 0))), none, some (.inl x2), some (.inl x3), some (.inr (.inl (x4))), none, some (.inl x6)] [] τ := by
  refine ww_iload 50 6 dX5_draw_48 rfl rfl ?_
  refine ww_iload_n 51 dX5_draw_50 rfl 2 rfl rfl ?_
  refine ww_ic_ge 85 54 dX5_draw_51 (by decide) rfl (fun c => ?_) (fun c => ?_)
  · replace h := h.1 c
    refine ww_aload_n 86 dX5_draw_85 rfl 0 rfl rfl ?_
    refine ww_iload_n 87 dX5_draw_86 rfl 3 rfl rfl ?_
    obtain ⟨Q1, hT, h⟩ := h
    refine ww_invVI (d' := mX5_keep) [.inl x3] rfl 90 dX5_draw_87 ⟨wi_X5, wc_X5_keep, wp_X5_keep, by decide, by decide⟩ wl_X5_133 wn_X5_keep we_X5_keep (ww_i1 0 (by decide)) rfl rfl (Nat.le_of_ble_eq_true rfl) rfl hT (fun v2 τ3 hq => ?_)
    replace h := h v2 τ3 hq
    exact ww_iret dX5_draw_90 rfl ⟨_, rfl, h⟩
  · replace h := h.2 c
    refine ww_lload 56 4 dX5_draw_54 rfl rfl ?_
    obtain ⟨Q4, hT, h⟩ := h
    refine ww_invSL (d' := mX5_nextDraw) [.inr (.inl (x4))] rfl 59 dX5_draw_56 ⟨wi_X5, wc_X5_nextDraw, wp_X5_nextDraw, by decide, by decide⟩ (Or.inl wl_X5_192) wn_X5_nextDraw (Nat.le_of_ble_eq_true rfl) rfl hT (fun v5 τ6 hq => ?_)
    replace h := h v5 τ6 hq
    refine ww_lstore 61 4 dX5_draw_59 rfl (by decide) rfl [some (.inr (.inr (0, 0))), none, some (.inl x2), some (.inl x3), some (.inr (.inl (v5))), none, some (.inl x6)] rfl ?_
    refine ww_aload_n 62 dX5_draw_61 rfl 0 rfl rfl ?_
    refine ww_getR 5 65 dX5_draw_62 wf_X5_48 (ww_i1 0 (by decide)) rfl rfl rfl ?_
    refine ww_lload 67 4 dX5_draw_65 rfl rfl ?_
    refine ww_ldc2 70 dX5_draw_67 rfl wk_X5_196 ?_
    refine ww_ldiv 71 dX5_draw_70 rfl (by decide) ?_
    refine ww_ldc2 74 dX5_draw_71 rfl wk_X5_198 ?_
    refine ww_lrem 75 dX5_draw_74 rfl (by decide) ?_
    refine ww_l2i 76 dX5_draw_75 rfl ?_
    obtain ⟨Q7, hT, h⟩ := h
    refine ww_invVV (d' := mX2_put) [.inl (((v5 / (lN 65536)) - (v5 / (lN 65536)) / (lN 8) * (lN 8)).toInt32)] rfl 79 dX5_draw_76 ⟨wi_X2, wc_X2_put, wp_X2_put, by decide, by decide⟩ wl_X5_130 wn_X2_put we_X2_put (show ww_in (21, 16) from (show 16 < 104 by omega)) rfl rfl (Nat.le_of_ble_eq_true rfl) rfl hT (fun τ8 hq => ?_)
    replace h := h τ8 hq
    refine ww_iinc (nI 1) 82 6 dX5_draw_79 (by decide) rfl rfl (by decide) rfl [some (.inr (.inr (0, 0))), none, some (.inl x2), some (.inl x3), some (.inr (.inl (v5))), none, some (.inl (x6 + nI 1))] rfl ?_
    refine ww_goto 48 dX5_draw_82 (by decide) ?_
    exact h
theorem b_X5_loops {l : Launch} {g : ww_G} {τ : ww_M} {a1 : Int32} {a2 : Int32} {a3 : Int32} {Post : Int32 → ww_M → Prop}  (h : ∀ E : ww_E, ((a1 < nI 0 → (∃ Q1 : Int32 → ww_M → Prop, ww_T E.2.1 g mX5_refuse [.inr (.inr (0, 0)), .inl (-2 : Int32)] τ (ww_QI Q1) ∧ ∀ (v2 : Int32) (τ3 : ww_M), Q1 v2 τ3 → Post v2 τ3)) ∧ (¬ (a1 < nI 0) → ((nI 999999 < a1 → (∃ Q4 : Int32 → ww_M → Prop, ww_T E.2.1 g mX5_refuse [.inr (.inr (0, 0)), .inl (-2 : Int32)] τ (ww_QI Q4) ∧ ∀ (v5 : Int32) (τ6 : ww_M), Q4 v5 τ6 → Post v5 τ6)) ∧ (¬ (nI 999999 < a1) → ((a2 < nI 0 → (∃ Q7 : Int32 → ww_M → Prop, ww_T E.2.1 g mX5_refuse [.inr (.inr (0, 0)), .inl (-2 : Int32)] τ (ww_QI Q7) ∧ ∀ (v8 : Int32) (τ9 : ww_M), Q7 v8 τ9 → Post v8 τ9)) ∧ (¬ (a2 < nI 0) → ((nI 6 < a2 → (∃ Q10 : Int32 → ww_M → Prop, ww_T E.2.1 g mX5_refuse [.inr (.inr (0, 0)), .inl (-2 : Int32)] τ (ww_QI Q10) ∧ ∀ (v11 : Int32) (τ12 : ww_M), Q10 v11 τ12 → Post v11 τ12)) ∧ (¬ (nI 6 < a2) → (∃ Q13 : Int32 → ww_M → Prop, ww_T E.2.1 g mX5_isWord [.inl a3] τ (ww_QI Q13) ∧ ∀ (v14 : Int32) (τ15 : ww_M), Q13 v14 τ15 → (¬ v14 = nI 0 → ((¬ τ15 (8, 0) 6 = nI 0 → (∃ Q16 : ww_M → Prop, ww_T E.2.1 g mX2_wipe [.inr (.inr (21, 16))] τ15 (ww_QV Q16) ∧ ∀ (τ17 : ww_M), Q16 τ17 → ww_W g mX5_loops E (ww_QI Post) 65 [some (.inr (.inr (0, 0))), none, some (.inl a2), some (.inl a3), some (.inr (.inl (a1.toInt64))), none, some (.inl (nI 0))] [] τ17)) ∧ (τ15 (8, 0) 6 = nI 0 → (∃ Q18 : Int32 → ww_M → Prop, ww_T E.2.1 g mX5_refuse [.inr (.inr (0, 0)), .inl (-3 : Int32)] τ15 (ww_QI Q18) ∧ ∀ (v19 : Int32) (τ20 : ww_M), Q18 v19 τ20 → Post v19 τ20)))) ∧ (v14 = nI 0 → (∃ Q21 : Int32 → ww_M → Prop, ww_T E.2.1 g mX5_refuse [.inr (.inr (0, 0)), .inl (-2 : Int32)] τ15 (ww_QI Q21) ∧ ∀ (v22 : Int32) (τ23 : ww_M), Q21 v22 τ23 → Post v22 τ23)))))))))))) : ww_T l g mX5_loops [.inr (.inr (0, 0)), .inl a1, .inl a2, .inl a3] τ (ww_QI Post) := by
  refine ww_enter (P := [some (.inr (.inr (0, 0))), some (.inl a1), some (.inl a2), some (.inl a3), none, none, none]) (by decide) (Nat.le_of_ble_eq_true rfl) rfl (fun E => ?_)
  replace h := h E
  refine ww_iload_n 1 dX5_loops_0 rfl 1 rfl rfl ?_
  refine ww_if_lt 27 4 dX5_loops_1 (by decide) rfl (fun c => ?_) (fun c => ?_)
  · replace h := h.1 c
    refine ww_aload_n 28 dX5_loops_27 rfl 0 rfl rfl ?_
    refine ww_bipush (v := (-2 : Int32)) 30 dX5_loops_28 (by decide) rfl ?_
    obtain ⟨Q1, hT, h⟩ := h
    refine ww_invVI (d' := mX5_refuse) [.inl (-2 : Int32)] rfl 33 dX5_loops_30 ⟨wi_X5, wc_X5_refuse, wp_X5_refuse, by decide, by decide⟩ wl_X5_58 wn_X5_refuse we_X5_refuse (ww_i1 0 (by decide)) rfl rfl (Nat.le_of_ble_eq_true rfl) rfl hT (fun v2 τ3 hq => ?_)
    replace h := h v2 τ3 hq
    exact ww_iret dX5_loops_33 rfl ⟨_, rfl, h⟩
  · replace h := h.2 c
    refine ww_iload_n 5 dX5_loops_4 rfl 1 rfl rfl ?_
    refine ww_ldc 7 dX5_loops_5 rfl wk_X5_191 ?_
    refine ww_ic_gt 27 10 dX5_loops_7 (by decide) rfl (fun c => ?_) (fun c => ?_)
    · replace h := h.1 c
      refine ww_aload_n 28 dX5_loops_27 rfl 0 rfl rfl ?_
      refine ww_bipush (v := (-2 : Int32)) 30 dX5_loops_28 (by decide) rfl ?_
      obtain ⟨Q4, hT, h⟩ := h
      refine ww_invVI (d' := mX5_refuse) [.inl (-2 : Int32)] rfl 33 dX5_loops_30 ⟨wi_X5, wc_X5_refuse, wp_X5_refuse, by decide, by decide⟩ wl_X5_58 wn_X5_refuse we_X5_refuse (ww_i1 0 (by decide)) rfl rfl (Nat.le_of_ble_eq_true rfl) rfl hT (fun v5 τ6 hq => ?_)
      replace h := h v5 τ6 hq
      exact ww_iret dX5_loops_33 rfl ⟨_, rfl, h⟩
    · replace h := h.2 c
      refine ww_iload_n 11 dX5_loops_10 rfl 2 rfl rfl ?_
      refine ww_if_lt 27 14 dX5_loops_11 (by decide) rfl (fun c => ?_) (fun c => ?_)
      · replace h := h.1 c
        refine ww_aload_n 28 dX5_loops_27 rfl 0 rfl rfl ?_
        refine ww_bipush (v := (-2 : Int32)) 30 dX5_loops_28 (by decide) rfl ?_
        obtain ⟨Q7, hT, h⟩ := h
        refine ww_invVI (d' := mX5_refuse) [.inl (-2 : Int32)] rfl 33 dX5_loops_30 ⟨wi_X5, wc_X5_refuse, wp_X5_refuse, by decide, by decide⟩ wl_X5_58 wn_X5_refuse we_X5_refuse (ww_i1 0 (by decide)) rfl rfl (Nat.le_of_ble_eq_true rfl) rfl hT (fun v8 τ9 hq => ?_)
        replace h := h v8 τ9 hq
        exact ww_iret dX5_loops_33 rfl ⟨_, rfl, h⟩
      · replace h := h.2 c
        refine ww_iload_n 15 dX5_loops_14 rfl 2 rfl rfl ?_
        refine ww_bipush (v := nI 6) 17 dX5_loops_15 (by decide) rfl ?_
        refine ww_ic_gt 27 20 dX5_loops_17 (by decide) rfl (fun c => ?_) (fun c => ?_)
        · replace h := h.1 c
          refine ww_aload_n 28 dX5_loops_27 rfl 0 rfl rfl ?_
          refine ww_bipush (v := (-2 : Int32)) 30 dX5_loops_28 (by decide) rfl ?_
          obtain ⟨Q10, hT, h⟩ := h
          refine ww_invVI (d' := mX5_refuse) [.inl (-2 : Int32)] rfl 33 dX5_loops_30 ⟨wi_X5, wc_X5_refuse, wp_X5_refuse, by decide, by decide⟩ wl_X5_58 wn_X5_refuse we_X5_refuse (ww_i1 0 (by decide)) rfl rfl (Nat.le_of_ble_eq_true rfl) rfl hT (fun v11 τ12 hq => ?_)
          replace h := h v11 τ12 hq
          exact ww_iret dX5_loops_33 rfl ⟨_, rfl, h⟩
        · replace h := h.2 c
          refine ww_iload_n 21 dX5_loops_20 rfl 3 rfl rfl ?_
          obtain ⟨Q13, hT, h⟩ := h
          refine ww_invSI (d' := mX5_isWord) [.inl a3] rfl 24 dX5_loops_21 ⟨wi_X5, wc_X5_isWord, wp_X5_isWord, by decide, by decide⟩ (Or.inl wl_X5_81) wn_X5_isWord (Nat.le_of_ble_eq_true rfl) rfl hT (fun v14 τ15 hq => ?_)
          replace h := h v14 τ15 hq
          refine ww_if_ne 34 27 dX5_loops_24 (by decide) rfl (fun c => ?_) (fun c => ?_)
          · replace h := h.1 c
            refine ww_aload_n 35 dX5_loops_34 rfl 0 rfl rfl ?_
            refine ww_getR 3 38 dX5_loops_35 wf_X5_35 (ww_i1 0 (by decide)) rfl rfl rfl ?_
            refine ww_getI 6 41 dX5_loops_38 wf_X5_200 (ww_i1 8 (by decide)) rfl rfl rfl ?_
            refine ww_if_ne 51 44 dX5_loops_41 (by decide) rfl (fun c => ?_) (fun c => ?_)
            · replace h := h.1 c
              refine ww_aload_n 52 dX5_loops_51 rfl 0 rfl rfl ?_
              refine ww_getR 5 55 dX5_loops_52 wf_X5_48 (ww_i1 0 (by decide)) rfl rfl rfl ?_
              obtain ⟨Q16, hT, h⟩ := h
              refine ww_invVV (d' := mX2_wipe) [] rfl 58 dX5_loops_55 ⟨wi_X2, wc_X2_wipe, wp_X2_wipe, by decide, by decide⟩ wl_X5_139 wn_X2_wipe we_X2_wipe (show ww_in (21, 16) from (show 16 < 104 by omega)) rfl rfl (Nat.le_of_ble_eq_true rfl) rfl hT (fun τ17 hq => ?_)
              replace h := h τ17 hq
              refine ww_iload_n 59 dX5_loops_58 rfl 1 rfl rfl ?_
              refine ww_i2l 60 dX5_loops_59 rfl ?_
              refine ww_lstore 62 4 dX5_loops_60 rfl (by decide) rfl [some (.inr (.inr (0, 0))), some (.inl a1), some (.inl a2), some (.inl a3), some (.inr (.inl (a1.toInt64))), none, none] rfl ?_
              refine ww_iconst (v := nI 0) 63 dX5_loops_62 (by decide) rfl ?_
              refine ww_istore 65 6 dX5_loops_63 rfl (by decide) rfl [some (.inr (.inr (0, 0))), some (.inl a1), some (.inl a2), some (.inl a3), some (.inr (.inl (a1.toInt64))), none, some (.inl (nI 0))] rfl ?_
              exact ww_weak (ww_le_s (ww_le_n (ww_le_s (ww_le_s (ww_le_s (ww_le_n (ww_le_s (ww_le_nil _)))))))) h
            · replace h := h.2 c
              refine ww_aload_n 45 dX5_loops_44 rfl 0 rfl rfl ?_
              refine ww_bipush (v := (-3 : Int32)) 47 dX5_loops_45 (by decide) rfl ?_
              obtain ⟨Q18, hT, h⟩ := h
              refine ww_invVI (d' := mX5_refuse) [.inl (-3 : Int32)] rfl 50 dX5_loops_47 ⟨wi_X5, wc_X5_refuse, wp_X5_refuse, by decide, by decide⟩ wl_X5_58 wn_X5_refuse we_X5_refuse (ww_i1 0 (by decide)) rfl rfl (Nat.le_of_ble_eq_true rfl) rfl hT (fun v19 τ20 hq => ?_)
              replace h := h v19 τ20 hq
              exact ww_iret dX5_loops_50 rfl ⟨_, rfl, h⟩
          · replace h := h.2 c
            refine ww_aload_n 28 dX5_loops_27 rfl 0 rfl rfl ?_
            refine ww_bipush (v := (-2 : Int32)) 30 dX5_loops_28 (by decide) rfl ?_
            obtain ⟨Q21, hT, h⟩ := h
            refine ww_invVI (d' := mX5_refuse) [.inl (-2 : Int32)] rfl 33 dX5_loops_30 ⟨wi_X5, wc_X5_refuse, wp_X5_refuse, by decide, by decide⟩ wl_X5_58 wn_X5_refuse we_X5_refuse (ww_i1 0 (by decide)) rfl rfl (Nat.le_of_ble_eq_true rfl) rfl hT (fun v22 τ23 hq => ?_)
            replace h := h v22 τ23 hq
            exact ww_iret dX5_loops_33 rfl ⟨_, rfl, h⟩
theorem b_X5_loops_65 {g : ww_G} {E : ww_E} {τ : ww_M} {x2 : Int32} {x3 : Int32} {x4 : Int64} {x6 : Int32} {Post : Int32 → ww_M → Prop}  (h : ((x2 ≤ x6 → (∃ Q1 : Int32 → ww_M → Prop, ww_T E.2.1 g mX5_keep [.inr (.inr (0, 0)), .inl x3] τ (ww_QI Q1) ∧ ∀ (v2 : Int32) (τ3 : ww_M), Q1 v2 τ3 → Post v2 τ3)) ∧ (¬ (x2 ≤ x6) → ((nI 60 < τ (21, 16) 1 → (∃ Q4 : Int32 → ww_M → Prop, ww_T E.2.1 g mX5_keep [.inr (.inr (0, 0)), .inl x3] τ (ww_QI Q4) ∧ ∀ (v5 : Int32) (τ6 : ww_M), Q4 v5 τ6 → Post v5 τ6)) ∧ (¬ (nI 60 < τ (21, 16) 1) → (∃ Q7 : Int64 → ww_M → Prop, ww_T E.2.1 g mX5_nextDraw [.inr (.inl (x4))] τ (ww_QL Q7) ∧ ∀ (v8 : Int64) (τ9 : ww_M), Q7 v8 τ9 → (¬ ((τ9 (8, 0) 6).toInt64) = lN 0 ∧ (∃ Q11 : ww_M → Prop, ww_T E.2.1 g mX5_putLoop [.inr (.inr (0, 0)), .inl (((v8 / (lN 65536)) - (v8 / (lN 65536)) / ((τ9 (8, 0) 6).toInt64) * ((τ9 (8, 0) 6).toInt64)).toInt32), .inl (((v8 / (lN 1024)) - (v8 / (lN 1024)) / (lN 8) * (lN 8)).toInt32)] τ9 (ww_QV Q11) ∧ ∀ (τ12 : ww_M), Q11 τ12 → ww_W g mX5_loops E (ww_QI Post) 65 [some (.inr (.inr (0, 0))), none, some (.inl x2), some (.inl x3), some (.inr (.inl (v8))), none, some (.inl (x6 + nI 1))] [] τ12)))))))) : ww_W g mX5_loops E (ww_QI Post) 65 [some (.inr (.inr (0, 0))), none, some (.inl x2), some (.inl x3), some (.inr (.inl (x4))), none, some (.inl x6)] [] τ := by
  refine ww_iload 67 6 dX5_loops_65 rfl rfl ?_
  refine ww_iload_n 68 dX5_loops_67 rfl 2 rfl rfl ?_
  refine ww_ic_ge 127 71 dX5_loops_68 (by decide) rfl (fun c => ?_) (fun c => ?_)
  · replace h := h.1 c
    refine ww_aload_n 128 dX5_loops_127 rfl 0 rfl rfl ?_
    refine ww_iload_n 129 dX5_loops_128 rfl 3 rfl rfl ?_
    obtain ⟨Q1, hT, h⟩ := h
    refine ww_invVI (d' := mX5_keep) [.inl x3] rfl 132 dX5_loops_129 ⟨wi_X5, wc_X5_keep, wp_X5_keep, by decide, by decide⟩ wl_X5_133 wn_X5_keep we_X5_keep (ww_i1 0 (by decide)) rfl rfl (Nat.le_of_ble_eq_true rfl) rfl hT (fun v2 τ3 hq => ?_)
    replace h := h v2 τ3 hq
    exact ww_iret dX5_loops_132 rfl ⟨_, rfl, h⟩
  · replace h := h.2 c
    refine ww_aload_n 72 dX5_loops_71 rfl 0 rfl rfl ?_
    refine ww_getR 5 75 dX5_loops_72 wf_X5_48 (ww_i1 0 (by decide)) rfl rfl rfl ?_
    refine ww_getI 1 78 dX5_loops_75 wf_X5_100 (show ww_in (21, 16) from (show 16 < 104 by omega)) rfl rfl rfl ?_
    refine ww_bipush (v := nI 60) 80 dX5_loops_78 (by decide) rfl ?_
    refine ww_ic_gt 127 83 dX5_loops_80 (by decide) rfl (fun c => ?_) (fun c => ?_)
    · replace h := h.1 c
      refine ww_aload_n 128 dX5_loops_127 rfl 0 rfl rfl ?_
      refine ww_iload_n 129 dX5_loops_128 rfl 3 rfl rfl ?_
      obtain ⟨Q4, hT, h⟩ := h
      refine ww_invVI (d' := mX5_keep) [.inl x3] rfl 132 dX5_loops_129 ⟨wi_X5, wc_X5_keep, wp_X5_keep, by decide, by decide⟩ wl_X5_133 wn_X5_keep we_X5_keep (ww_i1 0 (by decide)) rfl rfl (Nat.le_of_ble_eq_true rfl) rfl hT (fun v5 τ6 hq => ?_)
      replace h := h v5 τ6 hq
      exact ww_iret dX5_loops_132 rfl ⟨_, rfl, h⟩
    · replace h := h.2 c
      refine ww_lload 85 4 dX5_loops_83 rfl rfl ?_
      obtain ⟨Q7, hT, h⟩ := h
      refine ww_invSL (d' := mX5_nextDraw) [.inr (.inl (x4))] rfl 88 dX5_loops_85 ⟨wi_X5, wc_X5_nextDraw, wp_X5_nextDraw, by decide, by decide⟩ (Or.inl wl_X5_192) wn_X5_nextDraw (Nat.le_of_ble_eq_true rfl) rfl hT (fun v8 τ9 hq => ?_)
      replace h := h v8 τ9 hq
      refine ww_lstore 90 4 dX5_loops_88 rfl (by decide) rfl [some (.inr (.inr (0, 0))), none, some (.inl x2), some (.inl x3), some (.inr (.inl (v8))), none, some (.inl x6)] rfl ?_
      refine ww_aload_n 91 dX5_loops_90 rfl 0 rfl rfl ?_
      refine ww_lload 93 4 dX5_loops_91 rfl rfl ?_
      refine ww_ldc2 96 dX5_loops_93 rfl wk_X5_196 ?_
      refine ww_ldiv 97 dX5_loops_96 rfl (by decide) ?_
      refine ww_aload_n 98 dX5_loops_97 rfl 0 rfl rfl ?_
      refine ww_getR 3 101 dX5_loops_98 wf_X5_35 (ww_i1 0 (by decide)) rfl rfl rfl ?_
      refine ww_getI 6 104 dX5_loops_101 wf_X5_200 (ww_i1 8 (by decide)) rfl rfl rfl ?_
      refine ww_i2l 105 dX5_loops_104 rfl ?_
      obtain ⟨hz10, h⟩ := h
      refine ww_lrem 106 dX5_loops_105 rfl hz10 ?_
      refine ww_l2i 107 dX5_loops_106 rfl ?_
      refine ww_lload 109 4 dX5_loops_107 rfl rfl ?_
      refine ww_ldc2 112 dX5_loops_109 rfl wk_X5_201 ?_
      refine ww_ldiv 113 dX5_loops_112 rfl (by decide) ?_
      refine ww_ldc2 116 dX5_loops_113 rfl wk_X5_198 ?_
      refine ww_lrem 117 dX5_loops_116 rfl (by decide) ?_
      refine ww_l2i 118 dX5_loops_117 rfl ?_
      obtain ⟨Q11, hT, h⟩ := h
      refine ww_invVV (d' := mX5_putLoop) [.inl (((v8 / (lN 65536)) - (v8 / (lN 65536)) / ((τ9 (8, 0) 6).toInt64) * ((τ9 (8, 0) 6).toInt64)).toInt32), .inl (((v8 / (lN 1024)) - (v8 / (lN 1024)) / (lN 8) * (lN 8)).toInt32)] rfl 121 dX5_loops_118 ⟨wi_X5, wc_X5_putLoop, wp_X5_putLoop, by decide, by decide⟩ wl_X5_203 wn_X5_putLoop we_X5_putLoop (ww_i1 0 (by decide)) rfl rfl (Nat.le_of_ble_eq_true rfl) rfl hT (fun τ12 hq => ?_)
      replace h := h τ12 hq
      refine ww_iinc (nI 1) 124 6 dX5_loops_121 (by decide) rfl rfl (by decide) rfl [some (.inr (.inr (0, 0))), none, some (.inl x2), some (.inl x3), some (.inr (.inl (v8))), none, some (.inl (x6 + nI 1))] rfl ?_
      refine ww_goto 65 dX5_loops_124 (by decide) ?_
      exact h
theorem b_X5_told {l : Launch} {g : ww_G} {τ : ww_M} {a1 : Int32} {Post : Int32 → ww_M → Prop}  (h : ∀ E : ww_E, ((a1 < nI 0 → (∃ Q1 : Int32 → ww_M → Prop, ww_T E.2.1 g mX5_refuse [.inr (.inr (0, 0)), .inl (-2 : Int32)] τ (ww_QI Q1) ∧ ∀ (v2 : Int32) (τ3 : ww_M), Q1 v2 τ3 → Post v2 τ3)) ∧ (¬ (a1 < nI 0) → ((a1 < nI 8 → (∃ Q4 : Int32 → ww_M → Prop, ww_T E.2.1 g mX5_tell [.inr (.inr (0, 0)), .inl a1] τ (ww_QI Q4) ∧ ∀ (v5 : Int32) (τ6 : ww_M), Q4 v5 τ6 → Post v5 τ6)) ∧ (¬ (a1 < nI 8) → (∃ Q7 : Int32 → ww_M → Prop, ww_T E.2.1 g mX5_refuse [.inr (.inr (0, 0)), .inl (-2 : Int32)] τ (ww_QI Q7) ∧ ∀ (v8 : Int32) (τ9 : ww_M), Q7 v8 τ9 → Post v8 τ9)))))) : ww_T l g mX5_told [.inr (.inr (0, 0)), .inl a1] τ (ww_QI Post) := by
  refine ww_enter (P := [some (.inr (.inr (0, 0))), some (.inl a1)]) (by decide) (Nat.le_of_ble_eq_true rfl) rfl (fun E => ?_)
  replace h := h E
  refine ww_iload_n 1 dX5_told_0 rfl 1 rfl rfl ?_
  refine ww_if_lt 10 4 dX5_told_1 (by decide) rfl (fun c => ?_) (fun c => ?_)
  · replace h := h.1 c
    refine ww_aload_n 11 dX5_told_10 rfl 0 rfl rfl ?_
    refine ww_bipush (v := (-2 : Int32)) 13 dX5_told_11 (by decide) rfl ?_
    obtain ⟨Q1, hT, h⟩ := h
    refine ww_invVI (d' := mX5_refuse) [.inl (-2 : Int32)] rfl 16 dX5_told_13 ⟨wi_X5, wc_X5_refuse, wp_X5_refuse, by decide, by decide⟩ wl_X5_58 wn_X5_refuse we_X5_refuse (ww_i1 0 (by decide)) rfl rfl (Nat.le_of_ble_eq_true rfl) rfl hT (fun v2 τ3 hq => ?_)
    replace h := h v2 τ3 hq
    refine ww_goto 24 dX5_told_16 (by decide) ?_
    exact ww_iret dX5_told_24 rfl ⟨_, rfl, h⟩
  · replace h := h.2 c
    refine ww_iload_n 5 dX5_told_4 rfl 1 rfl rfl ?_
    refine ww_bipush (v := nI 8) 7 dX5_told_5 (by decide) rfl ?_
    refine ww_ic_lt 19 10 dX5_told_7 (by decide) rfl (fun c => ?_) (fun c => ?_)
    · replace h := h.1 c
      refine ww_aload_n 20 dX5_told_19 rfl 0 rfl rfl ?_
      refine ww_iload_n 21 dX5_told_20 rfl 1 rfl rfl ?_
      obtain ⟨Q4, hT, h⟩ := h
      refine ww_invVI (d' := mX5_tell) [.inl a1] rfl 24 dX5_told_21 ⟨wi_X5, wc_X5_tell, wp_X5_tell, by decide, by decide⟩ wl_X5_206 wn_X5_tell we_X5_tell (ww_i1 0 (by decide)) rfl rfl (Nat.le_of_ble_eq_true rfl) rfl hT (fun v5 τ6 hq => ?_)
      replace h := h v5 τ6 hq
      exact ww_iret dX5_told_24 rfl ⟨_, rfl, h⟩
    · replace h := h.2 c
      refine ww_aload_n 11 dX5_told_10 rfl 0 rfl rfl ?_
      refine ww_bipush (v := (-2 : Int32)) 13 dX5_told_11 (by decide) rfl ?_
      obtain ⟨Q7, hT, h⟩ := h
      refine ww_invVI (d' := mX5_refuse) [.inl (-2 : Int32)] rfl 16 dX5_told_13 ⟨wi_X5, wc_X5_refuse, wp_X5_refuse, by decide, by decide⟩ wl_X5_58 wn_X5_refuse we_X5_refuse (ww_i1 0 (by decide)) rfl rfl (Nat.le_of_ble_eq_true rfl) rfl hT (fun v8 τ9 hq => ?_)
      replace h := h v8 τ9 hq
      refine ww_goto 24 dX5_told_16 (by decide) ?_
      exact ww_iret dX5_told_24 rfl ⟨_, rfl, h⟩
theorem b_X5_digest {l : Launch} {g : ww_G} {τ : ww_M}  {Post : Int64 → ww_M → Prop}  (h : ∀ E : ww_E, ww_W g mX5_digest E (ww_QL Post) 6 [some (.inr (.inr (0, 0))), some (.inr (.inl (lN 1907))), none, some (.inl (nI 0))] [] τ) : ww_T l g mX5_digest [.inr (.inr (0, 0))] τ (ww_QL Post) := by
  refine ww_enter (P := [some (.inr (.inr (0, 0))), none, none, none]) (by decide) (Nat.le_of_ble_eq_true rfl) rfl (fun E => ?_)
  replace h := h E
  refine ww_ldc2 3 dX5_digest_0 rfl wk_X5_209 ?_
  refine ww_lstore_n 4 dX5_digest_3 rfl 1 rfl (by decide) rfl [some (.inr (.inr (0, 0))), some (.inr (.inl (lN 1907))), none, none] rfl ?_
  refine ww_iconst (v := nI 0) 5 dX5_digest_4 (by decide) rfl ?_
  refine ww_istore_n 6 dX5_digest_5 rfl 3 rfl (by decide) rfl [some (.inr (.inr (0, 0))), some (.inr (.inl (lN 1907))), none, some (.inl (nI 0))] rfl ?_
  exact h
theorem b_X5_digest_6 {g : ww_G} {E : ww_E} {τ : ww_M} {x1 : Int64} {x3 : Int32} {Post : Int64 → ww_M → Prop}  (h : ((nI 8 ≤ x3 → ww_W g mX5_digest E (ww_QL Post) 33 [some (.inr (.inr (0, 0))), some (.inr (.inl (x1))), none, some (.inl (nI 0))] [] τ) ∧ (¬ (nI 8 ≤ x3) → (∃ Q1 : Int32 → ww_M → Prop, ww_T E.2.1 g mX5_tell [.inr (.inr (0, 0)), .inl x3] τ (ww_QI Q1) ∧ ∀ (v2 : Int32) (τ3 : ww_M), Q1 v2 τ3 → ww_W g mX5_digest E (ww_QL Post) 6 [some (.inr (.inr (0, 0))), some (.inr (.inl (((lN 31) * x1) + v2.toInt64))), none, some (.inl (x3 + nI 1))] [] τ3)))) : ww_W g mX5_digest E (ww_QL Post) 6 [some (.inr (.inr (0, 0))), some (.inr (.inl (x1))), none, some (.inl x3)] [] τ := by
  refine ww_iload_n 7 dX5_digest_6 rfl 3 rfl rfl ?_
  refine ww_bipush (v := nI 8) 9 dX5_digest_7 (by decide) rfl ?_
  refine ww_ic_ge 31 12 dX5_digest_9 (by decide) rfl (fun c => ?_) (fun c => ?_)
  · replace h := h.1 c
    refine ww_iconst (v := nI 0) 32 dX5_digest_31 (by decide) rfl ?_
    refine ww_istore_n 33 dX5_digest_32 rfl 3 rfl (by decide) rfl [some (.inr (.inr (0, 0))), some (.inr (.inl (x1))), none, some (.inl (nI 0))] rfl ?_
    exact h
  · replace h := h.2 c
    refine ww_ldc2 15 dX5_digest_12 rfl wk_X5_211 ?_
    refine ww_lload_n 16 dX5_digest_15 rfl 1 rfl rfl ?_
    refine ww_lmul 17 dX5_digest_16 rfl ?_
    refine ww_aload_n 18 dX5_digest_17 rfl 0 rfl rfl ?_
    refine ww_iload_n 19 dX5_digest_18 rfl 3 rfl rfl ?_
    obtain ⟨Q1, hT, h⟩ := h
    refine ww_invVI (d' := mX5_tell) [.inl x3] rfl 22 dX5_digest_19 ⟨wi_X5, wc_X5_tell, wp_X5_tell, by decide, by decide⟩ wl_X5_206 wn_X5_tell we_X5_tell (ww_i1 0 (by decide)) rfl rfl (Nat.le_of_ble_eq_true rfl) rfl hT (fun v2 τ3 hq => ?_)
    replace h := h v2 τ3 hq
    refine ww_i2l 23 dX5_digest_22 rfl ?_
    refine ww_ladd 24 dX5_digest_23 rfl ?_
    refine ww_lstore_n 25 dX5_digest_24 rfl 1 rfl (by decide) rfl [some (.inr (.inr (0, 0))), some (.inr (.inl (((lN 31) * x1) + v2.toInt64))), none, some (.inl x3)] rfl ?_
    refine ww_iinc (nI 1) 28 3 dX5_digest_25 (by decide) rfl rfl (by decide) rfl [some (.inr (.inr (0, 0))), some (.inr (.inl (((lN 31) * x1) + v2.toInt64))), none, some (.inl (x3 + nI 1))] rfl ?_
    refine ww_goto 6 dX5_digest_28 (by decide) ?_
    exact h
theorem b_X5_digest_33 {g : ww_G} {E : ww_E} {τ : ww_M} {x1 : Int64} {x3 : Int32} {Post : Int64 → ww_M → Prop}  (h : ((τ (8, 0) 1 ≤ x3 → ww_W g mX5_digest E (ww_QL Post) 66 [some (.inr (.inr (0, 0))), some (.inr (.inl (x1))), none, some (.inl (nI 0))] [] τ) ∧ (¬ (τ (8, 0) 1 ≤ x3) → (∃ j1 : Nat, x3 = nI j1 ∧ j1 < 3 ∧ (∃ Q2 : Int64 → ww_M → Prop, ww_T E.2.1 g mX5_digestOf [.inr (.inr (21, 12 + j1)), .inr (.inl (x1))] τ (ww_QL Q2) ∧ ∀ (v3 : Int64) (τ4 : ww_M), Q2 v3 τ4 → ww_W g mX5_digest E (ww_QL Post) 33 [some (.inr (.inr (0, 0))), some (.inr (.inl (v3))), none, some (.inl (x3 + nI 1))] [] τ4))))) : ww_W g mX5_digest E (ww_QL Post) 33 [some (.inr (.inr (0, 0))), some (.inr (.inl (x1))), none, some (.inl x3)] [] τ := by
  refine ww_iload_n 34 dX5_digest_33 rfl 3 rfl rfl ?_
  refine ww_aload_n 35 dX5_digest_34 rfl 0 rfl rfl ?_
  refine ww_getR 3 38 dX5_digest_35 wf_X5_35 (ww_i1 0 (by decide)) rfl rfl rfl ?_
  refine ww_getI 1 41 dX5_digest_38 wf_X5_94 (ww_i1 8 (by decide)) rfl rfl rfl ?_
  refine ww_ic_ge 64 44 dX5_digest_41 (by decide) rfl (fun c => ?_) (fun c => ?_)
  · replace h := h.1 c
    refine ww_iconst (v := nI 0) 65 dX5_digest_64 (by decide) rfl ?_
    refine ww_istore_n 66 dX5_digest_65 rfl 3 rfl (by decide) rfl [some (.inr (.inr (0, 0))), some (.inr (.inl (x1))), none, some (.inl (nI 0))] rfl ?_
    exact h
  · replace h := h.2 c
    refine ww_aload_n 45 dX5_digest_44 rfl 0 rfl rfl ?_
    refine ww_getR 3 48 dX5_digest_45 wf_X5_35 (ww_i1 0 (by decide)) rfl rfl rfl ?_
    refine ww_getR 0 51 dX5_digest_48 wf_X5_97 (ww_i1 8 (by decide)) rfl rfl rfl ?_
    refine ww_iload_n 52 dX5_digest_51 rfl 3 rfl rfl ?_
    obtain ⟨j1, hij1, hj1, h⟩ := h
    refine ww_aald j1 53 dX5_digest_52 (ww_i1 9 (by decide)) rfl (Or.inl rfl) (by decide) hij1 hj1 rfl ?_
    refine ww_lload_n 54 dX5_digest_53 rfl 1 rfl rfl ?_
    obtain ⟨Q2, hT, h⟩ := h
    refine ww_invSL (d' := mX5_digestOf) [.inr (.inr (21, 12 + j1)), .inr (.inl (x1))] rfl 57 dX5_digest_54 ⟨wi_X5, wc_X5_digestOf, wp_X5_digestOf, by decide, by decide⟩ (Or.inl wl_X5_213) wn_X5_digestOf (Nat.le_of_ble_eq_true rfl) rfl hT (fun v3 τ4 hq => ?_)
    replace h := h v3 τ4 hq
    refine ww_lstore_n 58 dX5_digest_57 rfl 1 rfl (by decide) rfl [some (.inr (.inr (0, 0))), some (.inr (.inl (v3))), none, some (.inl x3)] rfl ?_
    refine ww_iinc (nI 1) 61 3 dX5_digest_58 (by decide) rfl rfl (by decide) rfl [some (.inr (.inr (0, 0))), some (.inr (.inl (v3))), none, some (.inl (x3 + nI 1))] rfl ?_
    refine ww_goto 33 dX5_digest_61 (by decide) ?_
    exact h
theorem b_X5_digest_66 {g : ww_G} {E : ww_E} {τ : ww_M} {x1 : Int64} {x3 : Int32} {Post : Int64 → ww_M → Prop}  (h : ((nI 6 ≤ x3 → Post x1 τ) ∧ (¬ (nI 6 ≤ x3) → (∃ j1 : Nat, x3 = nI j1 ∧ j1 < 6 ∧ (∃ Q2 : Int64 → ww_M → Prop, ww_T E.2.1 g mX5_digestOf [.inr (.inr (21, j1)), .inr (.inl (x1))] τ (ww_QL Q2) ∧ ∀ (v3 : Int64) (τ4 : ww_M), Q2 v3 τ4 → ww_W g mX5_digest E (ww_QL Post) 66 [some (.inr (.inr (0, 0))), some (.inr (.inl (v3))), none, some (.inl (x3 + nI 1))] [] τ4))))) : ww_W g mX5_digest E (ww_QL Post) 66 [some (.inr (.inr (0, 0))), some (.inr (.inl (x1))), none, some (.inl x3)] [] τ := by
  refine ww_iload_n 67 dX5_digest_66 rfl 3 rfl rfl ?_
  refine ww_bipush (v := nI 6) 69 dX5_digest_67 (by decide) rfl ?_
  refine ww_ic_ge 89 72 dX5_digest_69 (by decide) rfl (fun c => ?_) (fun c => ?_)
  · replace h := h.1 c
    refine ww_lload_n 90 dX5_digest_89 rfl 1 rfl rfl ?_
    exact ww_lret dX5_digest_90 rfl ⟨_, rfl, h⟩
  · replace h := h.2 c
    refine ww_aload_n 73 dX5_digest_72 rfl 0 rfl rfl ?_
    refine ww_getR 0 76 dX5_digest_73 wf_X5_11 (ww_i1 0 (by decide)) rfl rfl rfl ?_
    refine ww_iload_n 77 dX5_digest_76 rfl 3 rfl rfl ?_
    obtain ⟨j1, hij1, hj1, h⟩ := h
    refine ww_aald j1 78 dX5_digest_77 (ww_i1 1 (by decide)) rfl (Or.inl rfl) (by decide) hij1 hj1 rfl ?_
    refine ww_lload_n 79 dX5_digest_78 rfl 1 rfl rfl ?_
    obtain ⟨Q2, hT, h⟩ := h
    refine ww_invSL (d' := mX5_digestOf) [.inr (.inr (21, j1)), .inr (.inl (x1))] rfl 82 dX5_digest_79 ⟨wi_X5, wc_X5_digestOf, wp_X5_digestOf, by decide, by decide⟩ (Or.inl wl_X5_213) wn_X5_digestOf (Nat.le_of_ble_eq_true rfl) rfl hT (fun v3 τ4 hq => ?_)
    replace h := h v3 τ4 hq
    refine ww_lstore_n 83 dX5_digest_82 rfl 1 rfl (by decide) rfl [some (.inr (.inr (0, 0))), some (.inr (.inl (v3))), none, some (.inl x3)] rfl ?_
    refine ww_iinc (nI 1) 86 3 dX5_digest_83 (by decide) rfl rfl (by decide) rfl [some (.inr (.inr (0, 0))), some (.inr (.inl (v3))), none, some (.inl (x3 + nI 1))] rfl ?_
    refine ww_goto 66 dX5_digest_86 (by decide) ?_
    exact h
theorem b_X5_isWord {l : Launch} {g : ww_G} {τ : ww_M} {a0 : Int32} {Post : Int32 → ww_M → Prop}  (h : ∀ E : ww_E, ((a0 < nI 0 → Post (nI 0) τ) ∧ (¬ (a0 < nI 0) → ((nI 6 ≤ a0 → Post (nI 0) τ) ∧ (¬ (nI 6 ≤ a0) → Post (nI 1) τ))))) : ww_T l g mX5_isWord [.inl a0] τ (ww_QI Post) := by
  refine ww_enter (P := [some (.inl a0)]) (by decide) (Nat.le_of_ble_eq_true rfl) rfl (fun E => ?_)
  replace h := h E
  refine ww_iload_n 1 dX5_isWord_0 rfl 0 rfl rfl ?_
  refine ww_if_lt 14 4 dX5_isWord_1 (by decide) rfl (fun c => ?_) (fun c => ?_)
  · replace h := h.1 c
    refine ww_iconst (v := nI 0) 15 dX5_isWord_14 (by decide) rfl ?_
    exact ww_zret dX5_isWord_15 rfl (Or.inl rfl) ⟨_, rfl, h⟩
  · replace h := h.2 c
    refine ww_iload_n 5 dX5_isWord_4 rfl 0 rfl rfl ?_
    refine ww_bipush (v := nI 6) 7 dX5_isWord_5 (by decide) rfl ?_
    refine ww_ic_ge 14 10 dX5_isWord_7 (by decide) rfl (fun c => ?_) (fun c => ?_)
    · replace h := h.1 c
      refine ww_iconst (v := nI 0) 15 dX5_isWord_14 (by decide) rfl ?_
      exact ww_zret dX5_isWord_15 rfl (Or.inl rfl) ⟨_, rfl, h⟩
    · replace h := h.2 c
      refine ww_iconst (v := nI 1) 11 dX5_isWord_10 (by decide) rfl ?_
      refine ww_goto 15 dX5_isWord_11 (by decide) ?_
      exact ww_zret dX5_isWord_15 rfl (Or.inr rfl) ⟨_, rfl, h⟩
theorem b_X5_refuse {l : Launch} {g : ww_G} {τ : ww_M} {a1 : Int32} {Post : Int32 → ww_M → Prop}  (h : ∀ E : ww_E, ((a1 = (-3 : Int32) → (∀ τ1 : ww_M, τ1 = ww_up τ (0, 0) 9 ((τ (0, 0) 9) + (nI 1)) → Post a1 τ1)) ∧ (a1 = (-2 : Int32) → (∀ τ2 : ww_M, τ2 = ww_up τ (0, 0) 8 ((τ (0, 0) 8) + (nI 1)) → Post a1 τ2)) ∧ (¬ a1 = (-3 : Int32) → ¬ a1 = (-2 : Int32) → (∀ τ3 : ww_M, τ3 = ww_up τ (0, 0) 10 ((τ (0, 0) 10) + (nI 1)) → Post a1 τ3)))) : ww_T l g mX5_refuse [.inr (.inr (0, 0)), .inl a1] τ (ww_QI Post) := by
  refine ww_enter (P := [some (.inr (.inr (0, 0))), some (.inl a1)]) (by decide) (Nat.le_of_ble_eq_true rfl) rfl (fun E => ?_)
  replace h := h E
  refine ww_iload_n 1 dX5_refuse_0 rfl 1 rfl rfl ?_
  refine ww_lsw [((-3 : Int32), 41), ((-2 : Int32), 28)] 54 dX5_refuse_1 (by decide) (by decide) (by decide) ?_ ?_
  · refine List.forall_mem_cons.mpr ⟨fun c => ?_, List.forall_mem_cons.mpr ⟨fun c => ?_, fun _ h9 => absurd h9 List.not_mem_nil⟩⟩
    · replace h := h.1 c
      refine ww_aload_n 42 dX5_refuse_41 rfl 0 rfl rfl ?_
      refine ww_dup 43 dX5_refuse_42 rfl rfl ?_
      refine ww_getI 9 46 dX5_refuse_43 wf_X5_220 (ww_i1 0 (by decide)) rfl rfl rfl ?_
      refine ww_iconst (v := nI 1) 47 dX5_refuse_46 (by decide) rfl ?_
      refine ww_iadd 48 dX5_refuse_47 rfl ?_
      refine ww_putI 9 51 dX5_refuse_48 wf_X5_220 fp_X5_9 (ww_i1 0 (by decide)) rfl rfl rfl (fun τ1 eτ1 => ?_)
      replace h := h τ1 eτ1
      refine ww_goto 64 dX5_refuse_51 (by decide) ?_
      refine ww_iload_n 65 dX5_refuse_64 rfl 1 rfl rfl ?_
      exact ww_iret dX5_refuse_65 rfl ⟨_, rfl, h⟩
    · replace h := h.2.1 c
      refine ww_aload_n 29 dX5_refuse_28 rfl 0 rfl rfl ?_
      refine ww_dup 30 dX5_refuse_29 rfl rfl ?_
      refine ww_getI 8 33 dX5_refuse_30 wf_X5_217 (ww_i1 0 (by decide)) rfl rfl rfl ?_
      refine ww_iconst (v := nI 1) 34 dX5_refuse_33 (by decide) rfl ?_
      refine ww_iadd 35 dX5_refuse_34 rfl ?_
      refine ww_putI 8 38 dX5_refuse_35 wf_X5_217 fp_X5_8 (ww_i1 0 (by decide)) rfl rfl rfl (fun τ2 eτ2 => ?_)
      replace h := h τ2 eτ2
      refine ww_goto 64 dX5_refuse_38 (by decide) ?_
      refine ww_iload_n 65 dX5_refuse_64 rfl 1 rfl rfl ?_
      exact ww_iret dX5_refuse_65 rfl ⟨_, rfl, h⟩
  · intro c
    replace h := h.2.2 (c _ (List.mem_of_getElem? (i := 0) rfl)) (c _ (List.mem_of_getElem? (i := 1) rfl))
    refine ww_aload_n 55 dX5_refuse_54 rfl 0 rfl rfl ?_
    refine ww_dup 56 dX5_refuse_55 rfl rfl ?_
    refine ww_getI 10 59 dX5_refuse_56 wf_X5_223 (ww_i1 0 (by decide)) rfl rfl rfl ?_
    refine ww_iconst (v := nI 1) 60 dX5_refuse_59 (by decide) rfl ?_
    refine ww_iadd 61 dX5_refuse_60 rfl ?_
    refine ww_putI 10 64 dX5_refuse_61 wf_X5_223 fp_X5_10 (ww_i1 0 (by decide)) rfl rfl rfl (fun τ3 eτ3 => ?_)
    replace h := h τ3 eτ3
    refine ww_iload_n 65 dX5_refuse_64 rfl 1 rfl rfl ?_
    exact ww_iret dX5_refuse_65 rfl ⟨_, rfl, h⟩
theorem b_X5_keep {l : Launch} {g : ww_G} {τ : ww_M} {a1 : Int32} {Post : Int32 → ww_M → Prop}  (h : ∀ E : ww_E, ((τ (21, 16) 1 ≤ nI 60 → (∃ Q1 : Int32 → ww_M → Prop, ww_T E.2.1 g mX5_isWord [.inl a1] τ (ww_QI Q1) ∧ ∀ (v2 : Int32) (τ3 : ww_M), Q1 v2 τ3 → (v2 = nI 0 → Post (τ3 (21, 16) 1) τ3) ∧ (¬ v2 = nI 0 → (∃ j4 : Nat, a1 = nI j4 ∧ j4 < 6 ∧ (∃ Q5 : ww_M → Prop, ww_T E.2.1 g mX2_copy [.inr (.inr (21, j4)), .inr (.inr (21, 16))] τ3 (ww_QV Q5) ∧ ∀ (τ6 : ww_M), Q5 τ6 → Post (τ6 (21, 16) 1) τ6))))) ∧ (¬ (τ (21, 16) 1 ≤ nI 60) → (∃ Q7 : Int32 → ww_M → Prop, ww_T E.2.1 g mX5_refuse [.inr (.inr (0, 0)), .inl (-4 : Int32)] τ (ww_QI Q7) ∧ ∀ (v8 : Int32) (τ9 : ww_M), Q7 v8 τ9 → Post v8 τ9)))) : ww_T l g mX5_keep [.inr (.inr (0, 0)), .inl a1] τ (ww_QI Post) := by
  refine ww_enter (P := [some (.inr (.inr (0, 0))), some (.inl a1)]) (by decide) (Nat.le_of_ble_eq_true rfl) rfl (fun E => ?_)
  replace h := h E
  refine ww_aload_n 1 dX5_keep_0 rfl 0 rfl rfl ?_
  refine ww_getR 5 4 dX5_keep_1 wf_X5_48 (ww_i1 0 (by decide)) rfl rfl rfl ?_
  refine ww_getI 1 7 dX5_keep_4 wf_X5_100 (show ww_in (21, 16) from (show 16 < 104 by omega)) rfl rfl rfl ?_
  refine ww_bipush (v := nI 60) 9 dX5_keep_7 (by decide) rfl ?_
  refine ww_ic_le 19 12 dX5_keep_9 (by decide) rfl (fun c => ?_) (fun c => ?_)
  · replace h := h.1 c
    refine ww_iload_n 20 dX5_keep_19 rfl 1 rfl rfl ?_
    obtain ⟨Q1, hT, h⟩ := h
    refine ww_invSI (d' := mX5_isWord) [.inl a1] rfl 23 dX5_keep_20 ⟨wi_X5, wc_X5_isWord, wp_X5_isWord, by decide, by decide⟩ (Or.inl wl_X5_81) wn_X5_isWord (Nat.le_of_ble_eq_true rfl) rfl hT (fun v2 τ3 hq => ?_)
    replace h := h v2 τ3 hq
    refine ww_if_eq 39 26 dX5_keep_23 (by decide) rfl (fun c => ?_) (fun c => ?_)
    · replace h := h.1 c
      refine ww_aload_n 40 dX5_keep_39 rfl 0 rfl rfl ?_
      refine ww_getR 5 43 dX5_keep_40 wf_X5_48 (ww_i1 0 (by decide)) rfl rfl rfl ?_
      refine ww_getI 1 46 dX5_keep_43 wf_X5_100 (show ww_in (21, 16) from (show 16 < 104 by omega)) rfl rfl rfl ?_
      exact ww_iret dX5_keep_46 rfl ⟨_, rfl, h⟩
    · replace h := h.2 c
      refine ww_aload_n 27 dX5_keep_26 rfl 0 rfl rfl ?_
      refine ww_getR 0 30 dX5_keep_27 wf_X5_11 (ww_i1 0 (by decide)) rfl rfl rfl ?_
      refine ww_iload_n 31 dX5_keep_30 rfl 1 rfl rfl ?_
      obtain ⟨j4, hij4, hj4, h⟩ := h
      refine ww_aald j4 32 dX5_keep_31 (ww_i1 1 (by decide)) rfl (Or.inl rfl) (by decide) hij4 hj4 rfl ?_
      refine ww_aload_n 33 dX5_keep_32 rfl 0 rfl rfl ?_
      refine ww_getR 5 36 dX5_keep_33 wf_X5_48 (ww_i1 0 (by decide)) rfl rfl rfl ?_
      obtain ⟨Q5, hT, h⟩ := h
      refine ww_invVV (d' := mX2_copy) [.inr (.inr (21, 16))] rfl 39 dX5_keep_36 ⟨wi_X2, wc_X2_copy, wp_X2_copy, by decide, by decide⟩ wl_X5_87 wn_X2_copy we_X2_copy (show ww_in (21, j4) from (show j4 < 104 by omega)) rfl rfl (Nat.le_of_ble_eq_true rfl) rfl hT (fun τ6 hq => ?_)
      replace h := h τ6 hq
      refine ww_aload_n 40 dX5_keep_39 rfl 0 rfl rfl ?_
      refine ww_getR 5 43 dX5_keep_40 wf_X5_48 (ww_i1 0 (by decide)) rfl rfl rfl ?_
      refine ww_getI 1 46 dX5_keep_43 wf_X5_100 (show ww_in (21, 16) from (show 16 < 104 by omega)) rfl rfl rfl ?_
      exact ww_iret dX5_keep_46 rfl ⟨_, rfl, h⟩
  · replace h := h.2 c
    refine ww_aload_n 13 dX5_keep_12 rfl 0 rfl rfl ?_
    refine ww_bipush (v := (-4 : Int32)) 15 dX5_keep_13 (by decide) rfl ?_
    obtain ⟨Q7, hT, h⟩ := h
    refine ww_invVI (d' := mX5_refuse) [.inl (-4 : Int32)] rfl 18 dX5_keep_15 ⟨wi_X5, wc_X5_refuse, wp_X5_refuse, by decide, by decide⟩ wl_X5_58 wn_X5_refuse we_X5_refuse (ww_i1 0 (by decide)) rfl rfl (Nat.le_of_ble_eq_true rfl) rfl hT (fun v8 τ9 hq => ?_)
    replace h := h v8 τ9 hq
    exact ww_iret dX5_keep_18 rfl ⟨_, rfl, h⟩
theorem b_X5_readText {l : Launch} {g : ww_G} {τ : ww_M} {a1 : Int32} {a2 : Int32} {Post : Int32 → ww_M → Prop}  (h : ∀ E : ww_E, (∃ Q1 : Int32 → ww_M → Prop, ww_T E.2.1 g mX4_wrongPlace [.inr (.inr (2, 0))] τ (ww_QI Q1) ∧ ∀ (v2 : Int32) (τ3 : ww_M), Q1 v2 τ3 → (v2 = (-1 : Int32) → (∃ Q4 : Int32 → ww_M → Prop, ww_T E.2.1 g mX1_readAll [.inr (.inr (4, 0)), .inr (.inr (2, 0)), .inl a1, .inl a2] τ3 (ww_QI Q4) ∧ ∀ (v5 : Int32) (τ6 : ww_M), Q4 v5 τ6 → Post v5 τ6)) ∧ (¬ v2 = (-1 : Int32) → Post v2 τ3))) : ww_T l g mX5_readText [.inr (.inr (0, 0)), .inl a1, .inl a2] τ (ww_QI Post) := by
  refine ww_enter (P := [some (.inr (.inr (0, 0))), some (.inl a1), some (.inl a2), none]) (by decide) (Nat.le_of_ble_eq_true rfl) rfl (fun E => ?_)
  replace h := h E
  refine ww_aload_n 1 dX5_readText_0 rfl 0 rfl rfl ?_
  refine ww_getR 1 4 dX5_readText_1 wf_X5_21 (ww_i1 0 (by decide)) rfl rfl rfl ?_
  obtain ⟨Q1, hT, h⟩ := h
  refine ww_invVI (d' := mX4_wrongPlace) [] rfl 7 dX5_readText_4 ⟨wi_X4, wc_X4_wrongPlace, wp_X4_wrongPlace, by decide, by decide⟩ wl_X5_226 wn_X4_wrongPlace we_X4_wrongPlace (ww_i1 2 (by decide)) rfl rfl (Nat.le_of_ble_eq_true rfl) rfl hT (fun v2 τ3 hq => ?_)
  replace h := h v2 τ3 hq
  refine ww_istore_n 8 dX5_readText_7 rfl 3 rfl (by decide) rfl [some (.inr (.inr (0, 0))), some (.inl a1), some (.inl a2), some (.inl v2)] rfl ?_
  refine ww_iload_n 9 dX5_readText_8 rfl 3 rfl rfl ?_
  refine ww_iconst (v := (-1 : Int32)) 10 dX5_readText_9 (by decide) rfl ?_
  refine ww_ic_eq 17 13 dX5_readText_10 (by decide) rfl (fun c => ?_) (fun c => ?_)
  · replace h := h.1 c
    refine ww_aload_n 18 dX5_readText_17 rfl 0 rfl rfl ?_
    refine ww_getR 2 21 dX5_readText_18 wf_X5_28 (ww_i1 0 (by decide)) rfl rfl rfl ?_
    refine ww_aload_n 22 dX5_readText_21 rfl 0 rfl rfl ?_
    refine ww_getR 1 25 dX5_readText_22 wf_X5_21 (ww_i1 0 (by decide)) rfl rfl rfl ?_
    refine ww_iload_n 26 dX5_readText_25 rfl 1 rfl rfl ?_
    refine ww_iload_n 27 dX5_readText_26 rfl 2 rfl rfl ?_
    obtain ⟨Q4, hT, h⟩ := h
    refine ww_invVI (d' := mX1_readAll) [.inr (.inr (2, 0)), .inl a1, .inl a2] rfl 30 dX5_readText_27 ⟨wi_X1, wc_X1_readAll, wp_X1_readAll, by decide, by decide⟩ wl_X5_230 wn_X1_readAll we_X1_readAll (ww_i1 4 (by decide)) rfl rfl (Nat.le_of_ble_eq_true rfl) rfl hT (fun v5 τ6 hq => ?_)
    replace h := h v5 τ6 hq
    exact ww_iret dX5_readText_30 rfl ⟨_, rfl, h⟩
  · replace h := h.2 c
    refine ww_iload_n 14 dX5_readText_13 rfl 3 rfl rfl ?_
    refine ww_goto 30 dX5_readText_14 (by decide) ?_
    exact ww_iret dX5_readText_30 rfl ⟨_, rfl, h⟩
theorem b_X5_makePower {l : Launch} {g : ww_G} {τ : ww_M} {a1 : Int32} {a2 : Int32} {Post : ww_M → Prop}  (h : ∀ E : ww_E, (∃ Q1 : ww_M → Prop, ww_T E.2.1 g mX2_wipe [.inr (.inr (21, 16))] τ (ww_QV Q1) ∧ ∀ (τ2 : ww_M), Q1 τ2 → ww_W g mX5_makePower E (ww_QV Post) 20 [some (.inr (.inr (0, 0))), some (.inl a1), some (.inl a2), some (.inl (if nI 9 < (if 0 ≤ a2 then a2 else 0 - a2) then nI 9 else (if 0 ≤ a2 then a2 else 0 - a2))), some (.inl (nI 0))] [] τ2)) : ww_T l g mX5_makePower [.inr (.inr (0, 0)), .inl a1, .inl a2] τ (ww_QV Post) := by
  refine ww_enter (P := [some (.inr (.inr (0, 0))), some (.inl a1), some (.inl a2), none, none]) (by decide) (Nat.le_of_ble_eq_true rfl) rfl (fun E => ?_)
  replace h := h E
  refine ww_aload_n 1 dX5_makePower_0 rfl 0 rfl rfl ?_
  refine ww_getR 5 4 dX5_makePower_1 wf_X5_48 (ww_i1 0 (by decide)) rfl rfl rfl ?_
  obtain ⟨Q1, hT, h⟩ := h
  refine ww_invVV (d' := mX2_wipe) [] rfl 7 dX5_makePower_4 ⟨wi_X2, wc_X2_wipe, wp_X2_wipe, by decide, by decide⟩ wl_X5_139 wn_X2_wipe we_X2_wipe (show ww_in (21, 16) from (show 16 < 104 by omega)) rfl rfl (Nat.le_of_ble_eq_true rfl) rfl hT (fun τ2 hq => ?_)
  replace h := h τ2 hq
  refine ww_iload_n 8 dX5_makePower_7 rfl 2 rfl rfl ?_
  refine ww_mabs 11 dX5_makePower_8 wl_X5_234 ws_Math_abs wi_J9 wc_Math_abs (by decide) (Nat.le_of_ble_eq_true rfl) rfl ?_
  refine ww_bipush (v := nI 9) 13 dX5_makePower_11 (by decide) rfl ?_
  refine ww_mmin 16 dX5_makePower_13 wl_X5_237 ws_Math_min wi_J9 wc_Math_min (by decide) (Nat.le_of_ble_eq_true rfl) rfl ?_
  refine ww_istore_n 17 dX5_makePower_16 rfl 3 rfl (by decide) rfl [some (.inr (.inr (0, 0))), some (.inl a1), some (.inl a2), some (.inl (if nI 9 < (if 0 ≤ a2 then a2 else 0 - a2) then nI 9 else (if 0 ≤ a2 then a2 else 0 - a2))), none] rfl ?_
  refine ww_iconst (v := nI 0) 18 dX5_makePower_17 (by decide) rfl ?_
  refine ww_istore 20 4 dX5_makePower_18 rfl (by decide) rfl [some (.inr (.inr (0, 0))), some (.inl a1), some (.inl a2), some (.inl (if nI 9 < (if 0 ≤ a2 then a2 else 0 - a2) then nI 9 else (if 0 ≤ a2 then a2 else 0 - a2))), some (.inl (nI 0))] rfl ?_
  exact h
theorem b_X5_makePower_20 {g : ww_G} {E : ww_E} {τ : ww_M} {x1 : Int32} {x2 : Int32} {x3 : Int32} {x4 : Int32} {Post : ww_M → Prop}  (h : ((x3 ≤ x4 → Post τ) ∧ (¬ (x3 ≤ x4) → (∃ Q1 : Int32 → ww_M → Prop, ww_T E.2.1 g mX5_isWord [.inl x1] τ (ww_QI Q1) ∧ ∀ (v2 : Int32) (τ3 : ww_M), Q1 v2 τ3 → (v2 = nI 0 → Post τ3) ∧ (¬ v2 = nI 0 → ((x2 ≤ nI 0 → (∃ j4 : Nat, x1 = nI j4 ∧ j4 < 6 ∧ (∃ Q5 : ww_M → Prop, ww_T E.2.1 g mX2_putInverse [.inr (.inr (21, 16)), .inr (.inr (21, j4))] τ3 (ww_QV Q5) ∧ ∀ (τ6 : ww_M), Q5 τ6 → ww_W g mX5_makePower E (ww_QV Post) 20 [some (.inr (.inr (0, 0))), some (.inl x1), some (.inl x2), some (.inl x3), some (.inl (x4 + nI 1))] [] τ6))) ∧ (¬ (x2 ≤ nI 0) → (∃ j7 : Nat, x1 = nI j7 ∧ j7 < 6 ∧ (∃ Q8 : ww_M → Prop, ww_T E.2.1 g mX2_putRow [.inr (.inr (21, 16)), .inr (.inr (21, j7))] τ3 (ww_QV Q8) ∧ ∀ (τ9 : ww_M), Q8 τ9 → ww_W g mX5_makePower E (ww_QV Post) 20 [some (.inr (.inr (0, 0))), some (.inl x1), some (.inl x2), some (.inl x3), some (.inl (x4 + nI 1))] [] τ9))))))))) : ww_W g mX5_makePower E (ww_QV Post) 20 [some (.inr (.inr (0, 0))), some (.inl x1), some (.inl x2), some (.inl x3), some (.inl x4)] [] τ := by
  refine ww_iload 22 4 dX5_makePower_20 rfl rfl ?_
  refine ww_iload_n 23 dX5_makePower_22 rfl 3 rfl rfl ?_
  refine ww_ic_ge 72 26 dX5_makePower_23 (by decide) rfl (fun c => ?_) (fun c => ?_)
  · replace h := h.1 c
    exact ww_vret dX5_makePower_72 rfl ⟨rfl, h⟩
  · replace h := h.2 c
    refine ww_iload_n 27 dX5_makePower_26 rfl 1 rfl rfl ?_
    obtain ⟨Q1, hT, h⟩ := h
    refine ww_invSI (d' := mX5_isWord) [.inl x1] rfl 30 dX5_makePower_27 ⟨wi_X5, wc_X5_isWord, wp_X5_isWord, by decide, by decide⟩ (Or.inl wl_X5_81) wn_X5_isWord (Nat.le_of_ble_eq_true rfl) rfl hT (fun v2 τ3 hq => ?_)
    replace h := h v2 τ3 hq
    refine ww_if_eq 72 33 dX5_makePower_30 (by decide) rfl (fun c => ?_) (fun c => ?_)
    · replace h := h.1 c
      exact ww_vret dX5_makePower_72 rfl ⟨rfl, h⟩
    · replace h := h.2 c
      refine ww_iload_n 34 dX5_makePower_33 rfl 2 rfl rfl ?_
      refine ww_if_le 53 37 dX5_makePower_34 (by decide) rfl (fun c => ?_) (fun c => ?_)
      · replace h := h.1 c
        refine ww_aload_n 54 dX5_makePower_53 rfl 0 rfl rfl ?_
        refine ww_getR 5 57 dX5_makePower_54 wf_X5_48 (ww_i1 0 (by decide)) rfl rfl rfl ?_
        refine ww_aload_n 58 dX5_makePower_57 rfl 0 rfl rfl ?_
        refine ww_getR 0 61 dX5_makePower_58 wf_X5_11 (ww_i1 0 (by decide)) rfl rfl rfl ?_
        refine ww_iload_n 62 dX5_makePower_61 rfl 1 rfl rfl ?_
        obtain ⟨j4, hij4, hj4, h⟩ := h
        refine ww_aald j4 63 dX5_makePower_62 (ww_i1 1 (by decide)) rfl (Or.inl rfl) (by decide) hij4 hj4 rfl ?_
        obtain ⟨Q5, hT, h⟩ := h
        refine ww_invVV (d' := mX2_putInverse) [.inr (.inr (21, j4))] rfl 66 dX5_makePower_63 ⟨wi_X2, wc_X2_putInverse, wp_X2_putInverse, by decide, by decide⟩ wl_X5_142 wn_X2_putInverse we_X2_putInverse (show ww_in (21, 16) from (show 16 < 104 by omega)) rfl rfl (Nat.le_of_ble_eq_true rfl) rfl hT (fun τ6 hq => ?_)
        replace h := h τ6 hq
        refine ww_iinc (nI 1) 69 4 dX5_makePower_66 (by decide) rfl rfl (by decide) rfl [some (.inr (.inr (0, 0))), some (.inl x1), some (.inl x2), some (.inl x3), some (.inl (x4 + nI 1))] rfl ?_
        refine ww_goto 20 dX5_makePower_69 (by decide) ?_
        exact h
      · replace h := h.2 c
        refine ww_aload_n 38 dX5_makePower_37 rfl 0 rfl rfl ?_
        refine ww_getR 5 41 dX5_makePower_38 wf_X5_48 (ww_i1 0 (by decide)) rfl rfl rfl ?_
        refine ww_aload_n 42 dX5_makePower_41 rfl 0 rfl rfl ?_
        refine ww_getR 0 45 dX5_makePower_42 wf_X5_11 (ww_i1 0 (by decide)) rfl rfl rfl ?_
        refine ww_iload_n 46 dX5_makePower_45 rfl 1 rfl rfl ?_
        obtain ⟨j7, hij7, hj7, h⟩ := h
        refine ww_aald j7 47 dX5_makePower_46 (ww_i1 1 (by decide)) rfl (Or.inl rfl) (by decide) hij7 hj7 rfl ?_
        obtain ⟨Q8, hT, h⟩ := h
        refine ww_invVV (d' := mX2_putRow) [.inr (.inr (21, j7))] rfl 50 dX5_makePower_47 ⟨wi_X2, wc_X2_putRow, wp_X2_putRow, by decide, by decide⟩ wl_X5_136 wn_X2_putRow we_X2_putRow (show ww_in (21, 16) from (show 16 < 104 by omega)) rfl rfl (Nat.le_of_ble_eq_true rfl) rfl hT (fun τ9 hq => ?_)
        replace h := h τ9 hq
        refine ww_goto 66 dX5_makePower_50 (by decide) ?_
        refine ww_iinc (nI 1) 69 4 dX5_makePower_66 (by decide) rfl rfl (by decide) rfl [some (.inr (.inr (0, 0))), some (.inl x1), some (.inl x2), some (.inl x3), some (.inl (x4 + nI 1))] rfl ?_
        refine ww_goto 20 dX5_makePower_69 (by decide) ?_
        exact h
theorem b_X5_someBeginningTurns {l : Launch} {g : ww_G} {τ : ww_M} {a1 : Int32} {a2 : Int32} {Post : Int32 → ww_M → Prop}  (h : ∀ E : ww_E, ((¬ a2 = nI 0 → ww_W g mX5_someBeginningTurns E (ww_QI Post) 14 [some (.inr (.inr (0, 0))), some (.inl a1), some (.inl a2), some (.inl (nI 0))] [] τ) ∧ (a2 = nI 0 → (∃ Q1 : Int32 → ww_M → Prop, ww_T E.2.1 g mX5_beginningTurns [.inr (.inr (0, 0)), .inl a1, .inl (-1 : Int32), .inl (nI 0)] τ (ww_QI Q1) ∧ ∀ (v2 : Int32) (τ3 : ww_M), Q1 v2 τ3 → (v2 = nI 0 ∨ v2 = nI 1) ∧ Post v2 τ3)))) : ww_T l g mX5_someBeginningTurns [.inr (.inr (0, 0)), .inl a1, .inl a2] τ (ww_QI Post) := by
  refine ww_enter (P := [some (.inr (.inr (0, 0))), some (.inl a1), some (.inl a2), none]) (by decide) (Nat.le_of_ble_eq_true rfl) rfl (fun E => ?_)
  replace h := h E
  refine ww_iload_n 1 dX5_someBeginningTurns_0 rfl 2 rfl rfl ?_
  refine ww_if_ne 12 4 dX5_someBeginningTurns_1 (by decide) rfl (fun c => ?_) (fun c => ?_)
  · replace h := h.1 c
    refine ww_iconst (v := nI 0) 13 dX5_someBeginningTurns_12 (by decide) rfl ?_
    refine ww_istore_n 14 dX5_someBeginningTurns_13 rfl 3 rfl (by decide) rfl [some (.inr (.inr (0, 0))), some (.inl a1), some (.inl a2), some (.inl (nI 0))] rfl ?_
    exact h
  · replace h := h.2 c
    refine ww_aload_n 5 dX5_someBeginningTurns_4 rfl 0 rfl rfl ?_
    refine ww_iload_n 6 dX5_someBeginningTurns_5 rfl 1 rfl rfl ?_
    refine ww_iconst (v := (-1 : Int32)) 7 dX5_someBeginningTurns_6 (by decide) rfl ?_
    refine ww_iconst (v := nI 0) 8 dX5_someBeginningTurns_7 (by decide) rfl ?_
    obtain ⟨Q1, hT, h⟩ := h
    refine ww_invVI (d' := mX5_beginningTurns) [.inl a1, .inl (-1 : Int32), .inl (nI 0)] rfl 11 dX5_someBeginningTurns_8 ⟨wi_X5, wc_X5_beginningTurns, wp_X5_beginningTurns, by decide, by decide⟩ wl_X5_240 wn_X5_beginningTurns we_X5_beginningTurns (ww_i1 0 (by decide)) rfl rfl (Nat.le_of_ble_eq_true rfl) rfl hT (fun v2 τ3 hq => ?_)
    replace h := h v2 τ3 hq
    exact ww_zret dX5_someBeginningTurns_11 rfl h.1 ⟨_, rfl, h.2⟩
theorem b_X5_someBeginningTurns_14 {g : ww_G} {E : ww_E} {τ : ww_M} {x1 : Int32} {x2 : Int32} {x3 : Int32} {Post : Int32 → ww_M → Prop}  (h : ((τ (8, 0) 6 ≤ x3 → Post (nI 0) τ) ∧ (¬ (τ (8, 0) 6 ≤ x3) → (∃ Q1 : Int32 → ww_M → Prop, ww_T E.2.1 g mX0_beginsFresh [.inr (.inr (8, 0)), .inl x3, .inl x2] τ (ww_QI Q1) ∧ ∀ (v2 : Int32) (τ3 : ww_M), Q1 v2 τ3 → (v2 = nI 0 → ww_W g mX5_someBeginningTurns E (ww_QI Post) 14 [some (.inr (.inr (0, 0))), some (.inl x1), some (.inl x2), some (.inl (x3 + nI 1))] [] τ3) ∧ (¬ v2 = nI 0 → (∃ Q4 : Int32 → ww_M → Prop, ww_T E.2.1 g mX5_beginningTurns [.inr (.inr (0, 0)), .inl x1, .inl x3, .inl x2] τ3 (ww_QI Q4) ∧ ∀ (v5 : Int32) (τ6 : ww_M), Q4 v5 τ6 → (v5 = nI 0 → ww_W g mX5_someBeginningTurns E (ww_QI Post) 14 [some (.inr (.inr (0, 0))), some (.inl x1), some (.inl x2), some (.inl (x3 + nI 1))] [] τ6) ∧ (¬ v5 = nI 0 → Post (nI 1) τ6))))))) : ww_W g mX5_someBeginningTurns E (ww_QI Post) 14 [some (.inr (.inr (0, 0))), some (.inl x1), some (.inl x2), some (.inl x3)] [] τ := by
  refine ww_iload_n 15 dX5_someBeginningTurns_14 rfl 3 rfl rfl ?_
  refine ww_aload_n 16 dX5_someBeginningTurns_15 rfl 0 rfl rfl ?_
  refine ww_getR 3 19 dX5_someBeginningTurns_16 wf_X5_35 (ww_i1 0 (by decide)) rfl rfl rfl ?_
  refine ww_getI 6 22 dX5_someBeginningTurns_19 wf_X5_200 (ww_i1 8 (by decide)) rfl rfl rfl ?_
  refine ww_ic_ge 55 25 dX5_someBeginningTurns_22 (by decide) rfl (fun c => ?_) (fun c => ?_)
  · replace h := h.1 c
    refine ww_iconst (v := nI 0) 56 dX5_someBeginningTurns_55 (by decide) rfl ?_
    exact ww_zret dX5_someBeginningTurns_56 rfl (Or.inl rfl) ⟨_, rfl, h⟩
  · replace h := h.2 c
    refine ww_aload_n 26 dX5_someBeginningTurns_25 rfl 0 rfl rfl ?_
    refine ww_getR 3 29 dX5_someBeginningTurns_26 wf_X5_35 (ww_i1 0 (by decide)) rfl rfl rfl ?_
    refine ww_iload_n 30 dX5_someBeginningTurns_29 rfl 3 rfl rfl ?_
    refine ww_iload_n 31 dX5_someBeginningTurns_30 rfl 2 rfl rfl ?_
    obtain ⟨Q1, hT, h⟩ := h
    refine ww_invVI (d' := mX0_beginsFresh) [.inl x3, .inl x2] rfl 34 dX5_someBeginningTurns_31 ⟨wi_X0, wc_X0_beginsFresh, wp_X0_beginsFresh, by decide, by decide⟩ wl_X5_244 wn_X0_beginsFresh we_X0_beginsFresh (ww_i1 8 (by decide)) rfl rfl (Nat.le_of_ble_eq_true rfl) rfl hT (fun v2 τ3 hq => ?_)
    replace h := h v2 τ3 hq
    refine ww_if_eq 49 37 dX5_someBeginningTurns_34 (by decide) rfl (fun c => ?_) (fun c => ?_)
    · replace h := h.1 c
      refine ww_iinc (nI 1) 52 3 dX5_someBeginningTurns_49 (by decide) rfl rfl (by decide) rfl [some (.inr (.inr (0, 0))), some (.inl x1), some (.inl x2), some (.inl (x3 + nI 1))] rfl ?_
      refine ww_goto 14 dX5_someBeginningTurns_52 (by decide) ?_
      exact h
    · replace h := h.2 c
      refine ww_aload_n 38 dX5_someBeginningTurns_37 rfl 0 rfl rfl ?_
      refine ww_iload_n 39 dX5_someBeginningTurns_38 rfl 1 rfl rfl ?_
      refine ww_iload_n 40 dX5_someBeginningTurns_39 rfl 3 rfl rfl ?_
      refine ww_iload_n 41 dX5_someBeginningTurns_40 rfl 2 rfl rfl ?_
      obtain ⟨Q4, hT, h⟩ := h
      refine ww_invVI (d' := mX5_beginningTurns) [.inl x1, .inl x3, .inl x2] rfl 44 dX5_someBeginningTurns_41 ⟨wi_X5, wc_X5_beginningTurns, wp_X5_beginningTurns, by decide, by decide⟩ wl_X5_240 wn_X5_beginningTurns we_X5_beginningTurns (ww_i1 0 (by decide)) rfl rfl (Nat.le_of_ble_eq_true rfl) rfl hT (fun v5 τ6 hq => ?_)
      replace h := h v5 τ6 hq
      refine ww_if_eq 49 47 dX5_someBeginningTurns_44 (by decide) rfl (fun c => ?_) (fun c => ?_)
      · replace h := h.1 c
        refine ww_iinc (nI 1) 52 3 dX5_someBeginningTurns_49 (by decide) rfl rfl (by decide) rfl [some (.inr (.inr (0, 0))), some (.inl x1), some (.inl x2), some (.inl (x3 + nI 1))] rfl ?_
        refine ww_goto 14 dX5_someBeginningTurns_52 (by decide) ?_
        exact h
      · replace h := h.2 c
        refine ww_iconst (v := nI 1) 48 dX5_someBeginningTurns_47 (by decide) rfl ?_
        exact ww_zret dX5_someBeginningTurns_48 rfl (Or.inr rfl) ⟨_, rfl, h⟩
theorem b_X5_beginningTurns {l : Launch} {g : ww_G} {τ : ww_M} {a1 : Int32} {a2 : Int32} {a3 : Int32} {Post : Int32 → ww_M → Prop}  (h : ∀ E : ww_E, (∃ Q1 : ww_M → Prop, ww_T E.2.1 g mX2_wipe [.inr (.inr (21, 16))] τ (ww_QV Q1) ∧ ∀ (τ2 : ww_M), Q1 τ2 → (∃ Q3 : ww_M → Prop, ww_T E.2.1 g mX2_putTurn [.inr (.inr (21, 16)), .inr (.inr (21, 17)), .inl a1] τ2 (ww_QV Q3) ∧ ∀ (τ4 : ww_M), Q3 τ4 → ww_W g mX5_beginningTurns E (ww_QI Post) 22 [some (.inr (.inr (0, 0))), none, some (.inl a2), some (.inl a3), some (.inl (nI 0))] [] τ4))) : ww_T l g mX5_beginningTurns [.inr (.inr (0, 0)), .inl a1, .inl a2, .inl a3] τ (ww_QI Post) := by
  refine ww_enter (P := [some (.inr (.inr (0, 0))), some (.inl a1), some (.inl a2), some (.inl a3), none]) (by decide) (Nat.le_of_ble_eq_true rfl) rfl (fun E => ?_)
  replace h := h E
  refine ww_aload_n 1 dX5_beginningTurns_0 rfl 0 rfl rfl ?_
  refine ww_getR 5 4 dX5_beginningTurns_1 wf_X5_48 (ww_i1 0 (by decide)) rfl rfl rfl ?_
  obtain ⟨Q1, hT, h⟩ := h
  refine ww_invVV (d' := mX2_wipe) [] rfl 7 dX5_beginningTurns_4 ⟨wi_X2, wc_X2_wipe, wp_X2_wipe, by decide, by decide⟩ wl_X5_139 wn_X2_wipe we_X2_wipe (show ww_in (21, 16) from (show 16 < 104 by omega)) rfl rfl (Nat.le_of_ble_eq_true rfl) rfl hT (fun τ2 hq => ?_)
  replace h := h τ2 hq
  refine ww_aload_n 8 dX5_beginningTurns_7 rfl 0 rfl rfl ?_
  refine ww_getR 5 11 dX5_beginningTurns_8 wf_X5_48 (ww_i1 0 (by decide)) rfl rfl rfl ?_
  refine ww_aload_n 12 dX5_beginningTurns_11 rfl 0 rfl rfl ?_
  refine ww_getR 6 15 dX5_beginningTurns_12 wf_X5_52 (ww_i1 0 (by decide)) rfl rfl rfl ?_
  refine ww_iload_n 16 dX5_beginningTurns_15 rfl 1 rfl rfl ?_
  obtain ⟨Q3, hT, h⟩ := h
  refine ww_invVV (d' := mX2_putTurn) [.inr (.inr (21, 17)), .inl a1] rfl 19 dX5_beginningTurns_16 ⟨wi_X2, wc_X2_putTurn, wp_X2_putTurn, by decide, by decide⟩ wl_X5_152 wn_X2_putTurn we_X2_putTurn (show ww_in (21, 16) from (show 16 < 104 by omega)) rfl rfl (Nat.le_of_ble_eq_true rfl) rfl hT (fun τ4 hq => ?_)
  replace h := h τ4 hq
  refine ww_iconst (v := nI 0) 20 dX5_beginningTurns_19 (by decide) rfl ?_
  refine ww_istore 22 4 dX5_beginningTurns_20 rfl (by decide) rfl [some (.inr (.inr (0, 0))), some (.inl a1), some (.inl a2), some (.inl a3), some (.inl (nI 0))] rfl ?_
  exact ww_weak (ww_le_s (ww_le_n (ww_le_s (ww_le_s (ww_le_s (ww_le_nil _)))))) h
theorem b_X5_beginningTurns_22 {g : ww_G} {E : ww_E} {τ : ww_M} {x2 : Int32} {x3 : Int32} {x4 : Int32} {Post : Int32 → ww_M → Prop}  (h : ((x3 ≤ x4 → (∃ Q1 : ww_M → Prop, ww_T E.2.1 g mX2_putInverse [.inr (.inr (21, 16)), .inr (.inr (21, 18))] τ (ww_QV Q1) ∧ ∀ (τ2 : ww_M), Q1 τ2 → ww_W g mX5_beginningTurns E (ww_QI Post) 67 [some (.inr (.inr (0, 0))), none, some (.inl x2), none, some (.inl (x3 - (nI 1)))] [] τ2)) ∧ (¬ (x3 ≤ x4) → (∃ Q3 : Int32 → ww_M → Prop, ww_T E.2.1 g mX0_letterOf [.inr (.inr (8, 0)), .inl x2, .inl x4] τ (ww_QI Q3) ∧ ∀ (v4 : Int32) (τ5 : ww_M), Q3 v4 τ5 → (∃ Q6 : ww_M → Prop, ww_T E.2.1 g mX2_put [.inr (.inr (21, 16)), .inl v4] τ5 (ww_QV Q6) ∧ ∀ (τ7 : ww_M), Q6 τ7 → ww_W g mX5_beginningTurns E (ww_QI Post) 22 [some (.inr (.inr (0, 0))), none, some (.inl x2), some (.inl x3), some (.inl (x4 + nI 1))] [] τ7))))) : ww_W g mX5_beginningTurns E (ww_QI Post) 22 [some (.inr (.inr (0, 0))), none, some (.inl x2), some (.inl x3), some (.inl x4)] [] τ := by
  refine ww_iload 24 4 dX5_beginningTurns_22 rfl rfl ?_
  refine ww_iload_n 25 dX5_beginningTurns_24 rfl 3 rfl rfl ?_
  refine ww_ic_ge 51 28 dX5_beginningTurns_25 (by decide) rfl (fun c => ?_) (fun c => ?_)
  · replace h := h.1 c
    refine ww_aload_n 52 dX5_beginningTurns_51 rfl 0 rfl rfl ?_
    refine ww_getR 5 55 dX5_beginningTurns_52 wf_X5_48 (ww_i1 0 (by decide)) rfl rfl rfl ?_
    refine ww_aload_n 56 dX5_beginningTurns_55 rfl 0 rfl rfl ?_
    refine ww_getR 7 59 dX5_beginningTurns_56 wf_X5_55 (ww_i1 0 (by decide)) rfl rfl rfl ?_
    obtain ⟨Q1, hT, h⟩ := h
    refine ww_invVV (d' := mX2_putInverse) [.inr (.inr (21, 18))] rfl 62 dX5_beginningTurns_59 ⟨wi_X2, wc_X2_putInverse, wp_X2_putInverse, by decide, by decide⟩ wl_X5_142 wn_X2_putInverse we_X2_putInverse (show ww_in (21, 16) from (show 16 < 104 by omega)) rfl rfl (Nat.le_of_ble_eq_true rfl) rfl hT (fun τ2 hq => ?_)
    replace h := h τ2 hq
    refine ww_iload_n 63 dX5_beginningTurns_62 rfl 3 rfl rfl ?_
    refine ww_iconst (v := nI 1) 64 dX5_beginningTurns_63 (by decide) rfl ?_
    refine ww_isub 65 dX5_beginningTurns_64 rfl ?_
    refine ww_istore 67 4 dX5_beginningTurns_65 rfl (by decide) rfl [some (.inr (.inr (0, 0))), none, some (.inl x2), some (.inl x3), some (.inl (x3 - (nI 1)))] rfl ?_
    exact ww_weak (ww_le_s (ww_le_n (ww_le_s (ww_le_n (ww_le_s (ww_le_nil _)))))) h
  · replace h := h.2 c
    refine ww_aload_n 29 dX5_beginningTurns_28 rfl 0 rfl rfl ?_
    refine ww_getR 5 32 dX5_beginningTurns_29 wf_X5_48 (ww_i1 0 (by decide)) rfl rfl rfl ?_
    refine ww_aload_n 33 dX5_beginningTurns_32 rfl 0 rfl rfl ?_
    refine ww_getR 3 36 dX5_beginningTurns_33 wf_X5_35 (ww_i1 0 (by decide)) rfl rfl rfl ?_
    refine ww_iload_n 37 dX5_beginningTurns_36 rfl 2 rfl rfl ?_
    refine ww_iload 39 4 dX5_beginningTurns_37 rfl rfl ?_
    obtain ⟨Q3, hT, h⟩ := h
    refine ww_invVI (d' := mX0_letterOf) [.inl x2, .inl x4] rfl 42 dX5_beginningTurns_39 ⟨wi_X0, wc_X0_letterOf, wp_X0_letterOf, by decide, by decide⟩ wl_X5_114 wn_X0_letterOf we_X0_letterOf (ww_i1 8 (by decide)) rfl rfl (Nat.le_of_ble_eq_true rfl) rfl hT (fun v4 τ5 hq => ?_)
    replace h := h v4 τ5 hq
    obtain ⟨Q6, hT, h⟩ := h
    refine ww_invVV (d' := mX2_put) [.inl v4] rfl 45 dX5_beginningTurns_42 ⟨wi_X2, wc_X2_put, wp_X2_put, by decide, by decide⟩ wl_X5_130 wn_X2_put we_X2_put (show ww_in (21, 16) from (show 16 < 104 by omega)) rfl rfl (Nat.le_of_ble_eq_true rfl) rfl hT (fun τ7 hq => ?_)
    replace h := h τ7 hq
    refine ww_iinc (nI 1) 48 4 dX5_beginningTurns_45 (by decide) rfl rfl (by decide) rfl [some (.inr (.inr (0, 0))), none, some (.inl x2), some (.inl x3), some (.inl (x4 + nI 1))] rfl ?_
    refine ww_goto 22 dX5_beginningTurns_48 (by decide) ?_
    exact h
theorem b_X5_beginningTurns_67 {g : ww_G} {E : ww_E} {τ : ww_M} {x2 : Int32} {x4 : Int32} {Post : Int32 → ww_M → Prop}  (h : ((x4 < nI 0 → (∃ Q1 : Int32 → ww_M → Prop, ww_T E.2.1 g mX3_doAll [.inr (.inr (20, 0)), .inr (.inr (21, 16))] τ (ww_QI Q1) ∧ ∀ (v2 : Int32) (τ3 : ww_M), Q1 v2 τ3 → (¬ τ3 (21, 16) 1 = nI 0 → Post (nI 0) τ3) ∧ (τ3 (21, 16) 1 = nI 0 → Post (nI 1) τ3))) ∧ (¬ (x4 < nI 0) → (∃ Q4 : Int32 → ww_M → Prop, ww_T E.2.1 g mX0_letterOf [.inr (.inr (8, 0)), .inl x2, .inl x4] τ (ww_QI Q4) ∧ ∀ (v5 : Int32) (τ6 : ww_M), Q4 v5 τ6 → (∃ Q7 : Int32 → ww_M → Prop, ww_T E.2.1 g mX5_opposite [.inl v5] τ6 (ww_QI Q7) ∧ ∀ (v8 : Int32) (τ9 : ww_M), Q7 v8 τ9 → (∃ Q10 : ww_M → Prop, ww_T E.2.1 g mX2_put [.inr (.inr (21, 16)), .inl v8] τ9 (ww_QV Q10) ∧ ∀ (τ11 : ww_M), Q10 τ11 → ww_W g mX5_beginningTurns E (ww_QI Post) 67 [some (.inr (.inr (0, 0))), none, some (.inl x2), none, some (.inl (x4 + (-1 : Int32)))] [] τ11)))))) : ww_W g mX5_beginningTurns E (ww_QI Post) 67 [some (.inr (.inr (0, 0))), none, some (.inl x2), none, some (.inl x4)] [] τ := by
  refine ww_iload 69 4 dX5_beginningTurns_67 rfl rfl ?_
  refine ww_if_lt 98 72 dX5_beginningTurns_69 (by decide) rfl (fun c => ?_) (fun c => ?_)
  · replace h := h.1 c
    refine ww_aload_n 99 dX5_beginningTurns_98 rfl 0 rfl rfl ?_
    refine ww_getR 4 102 dX5_beginningTurns_99 wf_X5_44 (ww_i1 0 (by decide)) rfl rfl rfl ?_
    refine ww_aload_n 103 dX5_beginningTurns_102 rfl 0 rfl rfl ?_
    refine ww_getR 5 106 dX5_beginningTurns_103 wf_X5_48 (ww_i1 0 (by decide)) rfl rfl rfl ?_
    obtain ⟨Q1, hT, h⟩ := h
    refine ww_invVI (d' := mX3_doAll) [.inr (.inr (21, 16))] rfl 109 dX5_beginningTurns_106 ⟨wi_X3, wc_X3_doAll, wp_X3_doAll, by decide, by decide⟩ wl_X5_166 wn_X3_doAll we_X3_doAll (ww_i1 20 (by decide)) rfl rfl (Nat.le_of_ble_eq_true rfl) rfl hT (fun v2 τ3 hq => ?_)
    replace h := h v2 τ3 hq
    refine ww_pop 110 dX5_beginningTurns_109 rfl rfl ?_
    refine ww_aload_n 111 dX5_beginningTurns_110 rfl 0 rfl rfl ?_
    refine ww_getR 5 114 dX5_beginningTurns_111 wf_X5_48 (ww_i1 0 (by decide)) rfl rfl rfl ?_
    refine ww_getI 1 117 dX5_beginningTurns_114 wf_X5_100 (show ww_in (21, 16) from (show 16 < 104 by omega)) rfl rfl rfl ?_
    refine ww_if_ne 124 120 dX5_beginningTurns_117 (by decide) rfl (fun c => ?_) (fun c => ?_)
    · replace h := h.1 c
      refine ww_iconst (v := nI 0) 125 dX5_beginningTurns_124 (by decide) rfl ?_
      exact ww_zret dX5_beginningTurns_125 rfl (Or.inl rfl) ⟨_, rfl, h⟩
    · replace h := h.2 c
      refine ww_iconst (v := nI 1) 121 dX5_beginningTurns_120 (by decide) rfl ?_
      refine ww_goto 125 dX5_beginningTurns_121 (by decide) ?_
      exact ww_zret dX5_beginningTurns_125 rfl (Or.inr rfl) ⟨_, rfl, h⟩
  · replace h := h.2 c
    refine ww_aload_n 73 dX5_beginningTurns_72 rfl 0 rfl rfl ?_
    refine ww_getR 5 76 dX5_beginningTurns_73 wf_X5_48 (ww_i1 0 (by decide)) rfl rfl rfl ?_
    refine ww_aload_n 77 dX5_beginningTurns_76 rfl 0 rfl rfl ?_
    refine ww_getR 3 80 dX5_beginningTurns_77 wf_X5_35 (ww_i1 0 (by decide)) rfl rfl rfl ?_
    refine ww_iload_n 81 dX5_beginningTurns_80 rfl 2 rfl rfl ?_
    refine ww_iload 83 4 dX5_beginningTurns_81 rfl rfl ?_
    obtain ⟨Q4, hT, h⟩ := h
    refine ww_invVI (d' := mX0_letterOf) [.inl x2, .inl x4] rfl 86 dX5_beginningTurns_83 ⟨wi_X0, wc_X0_letterOf, wp_X0_letterOf, by decide, by decide⟩ wl_X5_114 wn_X0_letterOf we_X0_letterOf (ww_i1 8 (by decide)) rfl rfl (Nat.le_of_ble_eq_true rfl) rfl hT (fun v5 τ6 hq => ?_)
    replace h := h v5 τ6 hq
    obtain ⟨Q7, hT, h⟩ := h
    refine ww_invSI (d' := mX5_opposite) [.inl v5] rfl 89 dX5_beginningTurns_86 ⟨wi_X5, wc_X5_opposite, wp_X5_opposite, by decide, by decide⟩ (Or.inl wl_X5_247) wn_X5_opposite (Nat.le_of_ble_eq_true rfl) rfl hT (fun v8 τ9 hq => ?_)
    replace h := h v8 τ9 hq
    obtain ⟨Q10, hT, h⟩ := h
    refine ww_invVV (d' := mX2_put) [.inl v8] rfl 92 dX5_beginningTurns_89 ⟨wi_X2, wc_X2_put, wp_X2_put, by decide, by decide⟩ wl_X5_130 wn_X2_put we_X2_put (show ww_in (21, 16) from (show 16 < 104 by omega)) rfl rfl (Nat.le_of_ble_eq_true rfl) rfl hT (fun τ11 hq => ?_)
    replace h := h τ11 hq
    refine ww_iinc (-1 : Int32) 95 4 dX5_beginningTurns_92 (by decide) rfl rfl (by decide) rfl [some (.inr (.inr (0, 0))), none, some (.inl x2), none, some (.inl (x4 + (-1 : Int32)))] rfl ?_
    refine ww_goto 67 dX5_beginningTurns_95 (by decide) ?_
    exact h
theorem b_X5_putLoop {l : Launch} {g : ww_G} {τ : ww_M} {a1 : Int32} {a2 : Int32} {Post : ww_M → Prop}  (h : ∀ E : ww_E, (∃ Q1 : ww_M → Prop, ww_T E.2.1 g mX2_put [.inr (.inr (21, 16)), .inl a2] τ (ww_QV Q1) ∧ ∀ (τ2 : ww_M), Q1 τ2 → ww_W g mX5_putLoop E (ww_QV Post) 10 [some (.inr (.inr (0, 0))), some (.inl a1), some (.inl a2), some (.inl (nI 0))] [] τ2)) : ww_T l g mX5_putLoop [.inr (.inr (0, 0)), .inl a1, .inl a2] τ (ww_QV Post) := by
  refine ww_enter (P := [some (.inr (.inr (0, 0))), some (.inl a1), some (.inl a2), none]) (by decide) (Nat.le_of_ble_eq_true rfl) rfl (fun E => ?_)
  replace h := h E
  refine ww_aload_n 1 dX5_putLoop_0 rfl 0 rfl rfl ?_
  refine ww_getR 5 4 dX5_putLoop_1 wf_X5_48 (ww_i1 0 (by decide)) rfl rfl rfl ?_
  refine ww_iload_n 5 dX5_putLoop_4 rfl 2 rfl rfl ?_
  obtain ⟨Q1, hT, h⟩ := h
  refine ww_invVV (d' := mX2_put) [.inl a2] rfl 8 dX5_putLoop_5 ⟨wi_X2, wc_X2_put, wp_X2_put, by decide, by decide⟩ wl_X5_130 wn_X2_put we_X2_put (show ww_in (21, 16) from (show 16 < 104 by omega)) rfl rfl (Nat.le_of_ble_eq_true rfl) rfl hT (fun τ2 hq => ?_)
  replace h := h τ2 hq
  refine ww_iconst (v := nI 0) 9 dX5_putLoop_8 (by decide) rfl ?_
  refine ww_istore_n 10 dX5_putLoop_9 rfl 3 rfl (by decide) rfl [some (.inr (.inr (0, 0))), some (.inl a1), some (.inl a2), some (.inl (nI 0))] rfl ?_
  exact h
theorem b_X5_putLoop_10 {g : ww_G} {E : ww_E} {τ : ww_M} {x1 : Int32} {x2 : Int32} {x3 : Int32} {Post : ww_M → Prop}  (h : (∃ Q1 : Int32 → ww_M → Prop, ww_T E.2.1 g mX0_sizeOf [.inr (.inr (8, 0)), .inl x1] τ (ww_QI Q1) ∧ ∀ (v2 : Int32) (τ3 : ww_M), Q1 v2 τ3 → (v2 ≤ x3 → (∃ Q4 : Int32 → ww_M → Prop, ww_T E.2.1 g mX5_opposite [.inl x2] τ3 (ww_QI Q4) ∧ ∀ (v5 : Int32) (τ6 : ww_M), Q4 v5 τ6 → (∃ Q7 : ww_M → Prop, ww_T E.2.1 g mX2_put [.inr (.inr (21, 16)), .inl v5] τ6 (ww_QV Q7) ∧ ∀ (τ8 : ww_M), Q7 τ8 → Post τ8))) ∧ (¬ (v2 ≤ x3) → (∃ Q9 : Int32 → ww_M → Prop, ww_T E.2.1 g mX0_letterOf [.inr (.inr (8, 0)), .inl x1, .inl x3] τ3 (ww_QI Q9) ∧ ∀ (v10 : Int32) (τ11 : ww_M), Q9 v10 τ11 → (∃ Q12 : ww_M → Prop, ww_T E.2.1 g mX2_put [.inr (.inr (21, 16)), .inl v10] τ11 (ww_QV Q12) ∧ ∀ (τ13 : ww_M), Q12 τ13 → ww_W g mX5_putLoop E (ww_QV Post) 10 [some (.inr (.inr (0, 0))), some (.inl x1), some (.inl x2), some (.inl (x3 + nI 1))] [] τ13))))) : ww_W g mX5_putLoop E (ww_QV Post) 10 [some (.inr (.inr (0, 0))), some (.inl x1), some (.inl x2), some (.inl x3)] [] τ := by
  refine ww_iload_n 11 dX5_putLoop_10 rfl 3 rfl rfl ?_
  refine ww_aload_n 12 dX5_putLoop_11 rfl 0 rfl rfl ?_
  refine ww_getR 3 15 dX5_putLoop_12 wf_X5_35 (ww_i1 0 (by decide)) rfl rfl rfl ?_
  refine ww_iload_n 16 dX5_putLoop_15 rfl 1 rfl rfl ?_
  obtain ⟨Q1, hT, h⟩ := h
  refine ww_invVI (d' := mX0_sizeOf) [.inl x1] rfl 19 dX5_putLoop_16 ⟨wi_X0, wc_X0_sizeOf, wp_X0_sizeOf, by decide, by decide⟩ wl_X5_111 wn_X0_sizeOf we_X0_sizeOf (ww_i1 8 (by decide)) rfl rfl (Nat.le_of_ble_eq_true rfl) rfl hT (fun v2 τ3 hq => ?_)
  replace h := h v2 τ3 hq
  refine ww_ic_ge 44 22 dX5_putLoop_19 (by decide) rfl (fun c => ?_) (fun c => ?_)
  · replace h := h.1 c
    refine ww_aload_n 45 dX5_putLoop_44 rfl 0 rfl rfl ?_
    refine ww_getR 5 48 dX5_putLoop_45 wf_X5_48 (ww_i1 0 (by decide)) rfl rfl rfl ?_
    refine ww_iload_n 49 dX5_putLoop_48 rfl 2 rfl rfl ?_
    obtain ⟨Q4, hT, h⟩ := h
    refine ww_invSI (d' := mX5_opposite) [.inl x2] rfl 52 dX5_putLoop_49 ⟨wi_X5, wc_X5_opposite, wp_X5_opposite, by decide, by decide⟩ (Or.inl wl_X5_247) wn_X5_opposite (Nat.le_of_ble_eq_true rfl) rfl hT (fun v5 τ6 hq => ?_)
    replace h := h v5 τ6 hq
    obtain ⟨Q7, hT, h⟩ := h
    refine ww_invVV (d' := mX2_put) [.inl v5] rfl 55 dX5_putLoop_52 ⟨wi_X2, wc_X2_put, wp_X2_put, by decide, by decide⟩ wl_X5_130 wn_X2_put we_X2_put (show ww_in (21, 16) from (show 16 < 104 by omega)) rfl rfl (Nat.le_of_ble_eq_true rfl) rfl hT (fun τ8 hq => ?_)
    replace h := h τ8 hq
    exact ww_vret dX5_putLoop_55 rfl ⟨rfl, h⟩
  · replace h := h.2 c
    refine ww_aload_n 23 dX5_putLoop_22 rfl 0 rfl rfl ?_
    refine ww_getR 5 26 dX5_putLoop_23 wf_X5_48 (ww_i1 0 (by decide)) rfl rfl rfl ?_
    refine ww_aload_n 27 dX5_putLoop_26 rfl 0 rfl rfl ?_
    refine ww_getR 3 30 dX5_putLoop_27 wf_X5_35 (ww_i1 0 (by decide)) rfl rfl rfl ?_
    refine ww_iload_n 31 dX5_putLoop_30 rfl 1 rfl rfl ?_
    refine ww_iload_n 32 dX5_putLoop_31 rfl 3 rfl rfl ?_
    obtain ⟨Q9, hT, h⟩ := h
    refine ww_invVI (d' := mX0_letterOf) [.inl x1, .inl x3] rfl 35 dX5_putLoop_32 ⟨wi_X0, wc_X0_letterOf, wp_X0_letterOf, by decide, by decide⟩ wl_X5_114 wn_X0_letterOf we_X0_letterOf (ww_i1 8 (by decide)) rfl rfl (Nat.le_of_ble_eq_true rfl) rfl hT (fun v10 τ11 hq => ?_)
    replace h := h v10 τ11 hq
    obtain ⟨Q12, hT, h⟩ := h
    refine ww_invVV (d' := mX2_put) [.inl v10] rfl 38 dX5_putLoop_35 ⟨wi_X2, wc_X2_put, wp_X2_put, by decide, by decide⟩ wl_X5_130 wn_X2_put we_X2_put (show ww_in (21, 16) from (show 16 < 104 by omega)) rfl rfl (Nat.le_of_ble_eq_true rfl) rfl hT (fun τ13 hq => ?_)
    replace h := h τ13 hq
    refine ww_iinc (nI 1) 41 3 dX5_putLoop_38 (by decide) rfl rfl (by decide) rfl [some (.inr (.inr (0, 0))), some (.inl x1), some (.inl x2), some (.inl (x3 + nI 1))] rfl ?_
    refine ww_goto 10 dX5_putLoop_41 (by decide) ?_
    exact h
theorem b_X5_tell {l : Launch} {g : ww_G} {τ : ww_M} {a1 : Int32} {Post : Int32 → ww_M → Prop}  (h : ∀ E : ww_E, ((a1 = nI 0 → Post (τ (0, 0) 8) τ) ∧ (a1 = nI 1 → Post (τ (0, 0) 9) τ) ∧ (a1 = nI 2 → Post (τ (0, 0) 10) τ) ∧ (a1 = nI 3 → Post (τ (2, 0) 1) τ) ∧ (a1 = nI 4 → Post (τ (8, 0) 1) τ) ∧ (a1 = nI 5 → Post (τ (8, 0) 6) τ) ∧ (a1 = nI 6 → Post (τ (20, 0) 2) τ) ∧ (¬ a1 = nI 0 → ¬ a1 = nI 1 → ¬ a1 = nI 2 → ¬ a1 = nI 3 → ¬ a1 = nI 4 → ¬ a1 = nI 5 → ¬ a1 = nI 6 → (∃ Q1 : Int32 → ww_M → Prop, ww_T E.2.1 g mX5_lettersOfAll [.inr (.inr (0, 0))] τ (ww_QI Q1) ∧ ∀ (v2 : Int32) (τ3 : ww_M), Q1 v2 τ3 → Post v2 τ3)))) : ww_T l g mX5_tell [.inr (.inr (0, 0)), .inl a1] τ (ww_QI Post) := by
  refine ww_enter (P := [some (.inr (.inr (0, 0))), some (.inl a1)]) (by decide) (Nat.le_of_ble_eq_true rfl) rfl (fun E => ?_)
  replace h := h E
  refine ww_iload_n 1 dX5_tell_0 rfl 1 rfl rfl ?_
  refine ww_tsw [(nI 0, 44), (nI 1, 49), (nI 2, 54), (nI 3, 59), (nI 4, 67), (nI 5, 75), (nI 6, 83)] 91 dX5_tell_1 (by decide) ?_ ?_
  · refine List.forall_mem_cons.mpr ⟨fun c => ?_, List.forall_mem_cons.mpr ⟨fun c => ?_, List.forall_mem_cons.mpr ⟨fun c => ?_, List.forall_mem_cons.mpr ⟨fun c => ?_, List.forall_mem_cons.mpr ⟨fun c => ?_, List.forall_mem_cons.mpr ⟨fun c => ?_, List.forall_mem_cons.mpr ⟨fun c => ?_, fun _ h9 => absurd h9 List.not_mem_nil⟩⟩⟩⟩⟩⟩⟩
    · replace h := h.1 c
      refine ww_aload_n 45 dX5_tell_44 rfl 0 rfl rfl ?_
      refine ww_getI 8 48 dX5_tell_45 wf_X5_217 (ww_i1 0 (by decide)) rfl rfl rfl ?_
      exact ww_iret dX5_tell_48 rfl ⟨_, rfl, h⟩
    · replace h := h.2.1 c
      refine ww_aload_n 50 dX5_tell_49 rfl 0 rfl rfl ?_
      refine ww_getI 9 53 dX5_tell_50 wf_X5_220 (ww_i1 0 (by decide)) rfl rfl rfl ?_
      exact ww_iret dX5_tell_53 rfl ⟨_, rfl, h⟩
    · replace h := h.2.2.1 c
      refine ww_aload_n 55 dX5_tell_54 rfl 0 rfl rfl ?_
      refine ww_getI 10 58 dX5_tell_55 wf_X5_223 (ww_i1 0 (by decide)) rfl rfl rfl ?_
      exact ww_iret dX5_tell_58 rfl ⟨_, rfl, h⟩
    · replace h := h.2.2.2.1 c
      refine ww_aload_n 60 dX5_tell_59 rfl 0 rfl rfl ?_
      refine ww_getR 1 63 dX5_tell_60 wf_X5_21 (ww_i1 0 (by decide)) rfl rfl rfl ?_
      refine ww_getI 1 66 dX5_tell_63 wf_X5_66 (ww_i1 2 (by decide)) rfl rfl rfl ?_
      exact ww_iret dX5_tell_66 rfl ⟨_, rfl, h⟩
    · replace h := h.2.2.2.2.1 c
      refine ww_aload_n 68 dX5_tell_67 rfl 0 rfl rfl ?_
      refine ww_getR 3 71 dX5_tell_68 wf_X5_35 (ww_i1 0 (by decide)) rfl rfl rfl ?_
      refine ww_getI 1 74 dX5_tell_71 wf_X5_94 (ww_i1 8 (by decide)) rfl rfl rfl ?_
      exact ww_iret dX5_tell_74 rfl ⟨_, rfl, h⟩
    · replace h := h.2.2.2.2.2.1 c
      refine ww_aload_n 76 dX5_tell_75 rfl 0 rfl rfl ?_
      refine ww_getR 3 79 dX5_tell_76 wf_X5_35 (ww_i1 0 (by decide)) rfl rfl rfl ?_
      refine ww_getI 6 82 dX5_tell_79 wf_X5_200 (ww_i1 8 (by decide)) rfl rfl rfl ?_
      exact ww_iret dX5_tell_82 rfl ⟨_, rfl, h⟩
    · replace h := h.2.2.2.2.2.2.1 c
      refine ww_aload_n 84 dX5_tell_83 rfl 0 rfl rfl ?_
      refine ww_getR 4 87 dX5_tell_84 wf_X5_44 (ww_i1 0 (by decide)) rfl rfl rfl ?_
      refine ww_getI 2 90 dX5_tell_87 wf_X5_91 (ww_i1 20 (by decide)) rfl rfl rfl ?_
      exact ww_iret dX5_tell_90 rfl ⟨_, rfl, h⟩
  · intro c
    replace h := h.2.2.2.2.2.2.2 (c _ (List.mem_of_getElem? (i := 0) rfl)) (c _ (List.mem_of_getElem? (i := 1) rfl)) (c _ (List.mem_of_getElem? (i := 2) rfl)) (c _ (List.mem_of_getElem? (i := 3) rfl)) (c _ (List.mem_of_getElem? (i := 4) rfl)) (c _ (List.mem_of_getElem? (i := 5) rfl)) (c _ (List.mem_of_getElem? (i := 6) rfl))
    refine ww_aload_n 92 dX5_tell_91 rfl 0 rfl rfl ?_
    obtain ⟨Q1, hT, h⟩ := h
    refine ww_invVI (d' := mX5_lettersOfAll) [] rfl 95 dX5_tell_92 ⟨wi_X5, wc_X5_lettersOfAll, wp_X5_lettersOfAll, by decide, by decide⟩ wl_X5_250 wn_X5_lettersOfAll we_X5_lettersOfAll (ww_i1 0 (by decide)) rfl rfl (Nat.le_of_ble_eq_true rfl) rfl hT (fun v2 τ3 hq => ?_)
    replace h := h v2 τ3 hq
    exact ww_iret dX5_tell_95 rfl ⟨_, rfl, h⟩
theorem b_X5_lettersOfAll {l : Launch} {g : ww_G} {τ : ww_M}  {Post : Int32 → ww_M → Prop}  (h : ∀ E : ww_E, ww_W g mX5_lettersOfAll E (ww_QI Post) 4 [some (.inr (.inr (0, 0))), some (.inl (nI 0)), some (.inl (nI 0))] [] τ) : ww_T l g mX5_lettersOfAll [.inr (.inr (0, 0))] τ (ww_QI Post) := by
  refine ww_enter (P := [some (.inr (.inr (0, 0))), none, none]) (by decide) (Nat.le_of_ble_eq_true rfl) rfl (fun E => ?_)
  replace h := h E
  refine ww_iconst (v := nI 0) 1 dX5_lettersOfAll_0 (by decide) rfl ?_
  refine ww_istore_n 2 dX5_lettersOfAll_1 rfl 1 rfl (by decide) rfl [some (.inr (.inr (0, 0))), some (.inl (nI 0)), none] rfl ?_
  refine ww_iconst (v := nI 0) 3 dX5_lettersOfAll_2 (by decide) rfl ?_
  refine ww_istore_n 4 dX5_lettersOfAll_3 rfl 2 rfl (by decide) rfl [some (.inr (.inr (0, 0))), some (.inl (nI 0)), some (.inl (nI 0))] rfl ?_
  exact h
theorem b_X5_lettersOfAll_4 {g : ww_G} {E : ww_E} {τ : ww_M} {x1 : Int32} {x2 : Int32} {Post : Int32 → ww_M → Prop}  (h : ((nI 6 ≤ x2 → Post x1 τ) ∧ (¬ (nI 6 ≤ x2) → (∃ j1 : Nat, x2 = nI j1 ∧ j1 < 6 ∧ ww_W g mX5_lettersOfAll E (ww_QI Post) 4 [some (.inr (.inr (0, 0))), some (.inl (x1 + (τ (21, j1) 1))), some (.inl (x2 + nI 1))] [] τ)))) : ww_W g mX5_lettersOfAll E (ww_QI Post) 4 [some (.inr (.inr (0, 0))), some (.inl x1), some (.inl x2)] [] τ := by
  refine ww_iload_n 5 dX5_lettersOfAll_4 rfl 2 rfl rfl ?_
  refine ww_bipush (v := nI 6) 7 dX5_lettersOfAll_5 (by decide) rfl ?_
  refine ww_ic_ge 28 10 dX5_lettersOfAll_7 (by decide) rfl (fun c => ?_) (fun c => ?_)
  · replace h := h.1 c
    refine ww_iload_n 29 dX5_lettersOfAll_28 rfl 1 rfl rfl ?_
    exact ww_iret dX5_lettersOfAll_29 rfl ⟨_, rfl, h⟩
  · replace h := h.2 c
    refine ww_iload_n 11 dX5_lettersOfAll_10 rfl 1 rfl rfl ?_
    refine ww_aload_n 12 dX5_lettersOfAll_11 rfl 0 rfl rfl ?_
    refine ww_getR 0 15 dX5_lettersOfAll_12 wf_X5_11 (ww_i1 0 (by decide)) rfl rfl rfl ?_
    refine ww_iload_n 16 dX5_lettersOfAll_15 rfl 2 rfl rfl ?_
    obtain ⟨j1, hij1, hj1, h⟩ := h
    refine ww_aald j1 17 dX5_lettersOfAll_16 (ww_i1 1 (by decide)) rfl (Or.inl rfl) (by decide) hij1 hj1 rfl ?_
    refine ww_getI 1 20 dX5_lettersOfAll_17 wf_X5_100 (show ww_in (21, j1) from (show j1 < 104 by omega)) rfl rfl rfl ?_
    refine ww_iadd 21 dX5_lettersOfAll_20 rfl ?_
    refine ww_istore_n 22 dX5_lettersOfAll_21 rfl 1 rfl (by decide) rfl [some (.inr (.inr (0, 0))), some (.inl (x1 + (τ (21, j1) 1))), some (.inl x2)] rfl ?_
    refine ww_iinc (nI 1) 25 2 dX5_lettersOfAll_22 (by decide) rfl rfl (by decide) rfl [some (.inr (.inr (0, 0))), some (.inl (x1 + (τ (21, j1) 1))), some (.inl (x2 + nI 1))] rfl ?_
    refine ww_goto 4 dX5_lettersOfAll_25 (by decide) ?_
    exact h
theorem b_X5_digestOf {l : Launch} {g : ww_G} {τ : ww_M} {r0 : Nat} {a1 : Int64} {Post : Int64 → ww_M → Prop} (hr0 : r0 < 104) (h : ∀ E : ww_E, ww_W g mX5_digestOf E (ww_QL Post) 15 [some (.inr (.inr (21, r0))), none, none, some (.inr (.inl (((lN 31) * a1) + ((τ (21, r0) 1).toInt64)))), none, some (.inl (nI 0))] [] τ) : ww_T l g mX5_digestOf [.inr (.inr (21, r0)), .inr (.inl (a1))] τ (ww_QL Post) := by
  refine ww_enter (P := [some (.inr (.inr (21, r0))), some (.inr (.inl (a1))), none, none, none, none]) (by decide) (Nat.le_of_ble_eq_true rfl) rfl (fun E => ?_)
  replace h := h E
  refine ww_ldc2 3 dX5_digestOf_0 rfl wk_X5_211 ?_
  refine ww_lload_n 4 dX5_digestOf_3 rfl 1 rfl rfl ?_
  refine ww_lmul 5 dX5_digestOf_4 rfl ?_
  refine ww_aload_n 6 dX5_digestOf_5 rfl 0 rfl rfl ?_
  refine ww_getI 1 9 dX5_digestOf_6 wf_X5_100 (show ww_in (21, r0) from (show r0 < 104 by omega)) rfl rfl rfl ?_
  refine ww_i2l 10 dX5_digestOf_9 rfl ?_
  refine ww_ladd 11 dX5_digestOf_10 rfl ?_
  refine ww_lstore_n 12 dX5_digestOf_11 rfl 3 rfl (by decide) rfl [some (.inr (.inr (21, r0))), some (.inr (.inl (a1))), none, some (.inr (.inl (((lN 31) * a1) + ((τ (21, r0) 1).toInt64)))), none, none] rfl ?_
  refine ww_iconst (v := nI 0) 13 dX5_digestOf_12 (by decide) rfl ?_
  refine ww_istore 15 5 dX5_digestOf_13 rfl (by decide) rfl [some (.inr (.inr (21, r0))), some (.inr (.inl (a1))), none, some (.inr (.inl (((lN 31) * a1) + ((τ (21, r0) 1).toInt64)))), none, some (.inl (nI 0))] rfl ?_
  exact ww_weak (ww_le_s (ww_le_n (ww_le_n (ww_le_s (ww_le_n (ww_le_s (ww_le_nil _))))))) h
theorem b_X5_digestOf_15 {g : ww_G} {E : ww_E} {τ : ww_M} {r0 : Nat} {x3 : Int64} {x5 : Int32} {Post : Int64 → ww_M → Prop} (hr0 : r0 < 104) (h : ((τ (21, r0) 1 ≤ x5 → Post x3 τ) ∧ (¬ (τ (21, r0) 1 ≤ x5) → (∃ Q1 : Int32 → ww_M → Prop, ww_T E.2.1 g mX2_at [.inr (.inr (21, r0)), .inl x5] τ (ww_QI Q1) ∧ ∀ (v2 : Int32) (τ3 : ww_M), Q1 v2 τ3 → ww_W g mX5_digestOf E (ww_QL Post) 15 [some (.inr (.inr (21, r0))), none, none, some (.inr (.inl (((lN 31) * x3) + v2.toInt64))), none, some (.inl (x5 + nI 1))] [] τ3)))) : ww_W g mX5_digestOf E (ww_QL Post) 15 [some (.inr (.inr (21, r0))), none, none, some (.inr (.inl (x3))), none, some (.inl x5)] [] τ := by
  refine ww_iload 17 5 dX5_digestOf_15 rfl rfl ?_
  refine ww_aload_n 18 dX5_digestOf_17 rfl 0 rfl rfl ?_
  refine ww_getI 1 21 dX5_digestOf_18 wf_X5_100 (show ww_in (21, r0) from (show r0 < 104 by omega)) rfl rfl rfl ?_
  refine ww_ic_ge 44 24 dX5_digestOf_21 (by decide) rfl (fun c => ?_) (fun c => ?_)
  · replace h := h.1 c
    refine ww_lload_n 45 dX5_digestOf_44 rfl 3 rfl rfl ?_
    exact ww_lret dX5_digestOf_45 rfl ⟨_, rfl, h⟩
  · replace h := h.2 c
    refine ww_ldc2 27 dX5_digestOf_24 rfl wk_X5_211 ?_
    refine ww_lload_n 28 dX5_digestOf_27 rfl 3 rfl rfl ?_
    refine ww_lmul 29 dX5_digestOf_28 rfl ?_
    refine ww_aload_n 30 dX5_digestOf_29 rfl 0 rfl rfl ?_
    refine ww_iload 32 5 dX5_digestOf_30 rfl rfl ?_
    obtain ⟨Q1, hT, h⟩ := h
    refine ww_invVI (d' := mX2_at) [.inl x5] rfl 35 dX5_digestOf_32 ⟨wi_X2, wc_X2_at, wp_X2_at, by decide, by decide⟩ wl_X5_127 wn_X2_at we_X2_at (show ww_in (21, r0) from (show r0 < 104 by omega)) rfl rfl (Nat.le_of_ble_eq_true rfl) rfl hT (fun v2 τ3 hq => ?_)
    replace h := h v2 τ3 hq
    refine ww_i2l 36 dX5_digestOf_35 rfl ?_
    refine ww_ladd 37 dX5_digestOf_36 rfl ?_
    refine ww_lstore_n 38 dX5_digestOf_37 rfl 3 rfl (by decide) rfl [some (.inr (.inr (21, r0))), none, none, some (.inr (.inl (((lN 31) * x3) + v2.toInt64))), none, some (.inl x5)] rfl ?_
    refine ww_iinc (nI 1) 41 5 dX5_digestOf_38 (by decide) rfl rfl (by decide) rfl [some (.inr (.inr (21, r0))), none, none, some (.inr (.inl (((lN 31) * x3) + v2.toInt64))), none, some (.inl (x5 + nI 1))] rfl ?_
    refine ww_goto 15 dX5_digestOf_41 (by decide) ?_
    exact h
theorem b_X5_nextDraw {l : Launch} {g : ww_G} {τ : ww_M} {a0 : Int64} {Post : Int64 → ww_M → Prop}  (h : ∀ E : ww_E, Post (((a0 * (lN 1103515245)) + (lN 12345)) - ((a0 * (lN 1103515245)) + (lN 12345)) / (lN 2147483648) * (lN 2147483648)) τ) : ww_T l g mX5_nextDraw [.inr (.inl (a0))] τ (ww_QL Post) := by
  refine ww_enter (P := [some (.inr (.inl (a0))), none]) (by decide) (Nat.le_of_ble_eq_true rfl) rfl (fun E => ?_)
  replace h := h E
  refine ww_lload_n 1 dX5_nextDraw_0 rfl 0 rfl rfl ?_
  refine ww_ldc2 4 dX5_nextDraw_1 rfl wk_X5_253 ?_
  refine ww_lmul 5 dX5_nextDraw_4 rfl ?_
  refine ww_ldc2 8 dX5_nextDraw_5 rfl wk_X5_255 ?_
  refine ww_ladd 9 dX5_nextDraw_8 rfl ?_
  refine ww_ldc2 12 dX5_nextDraw_9 rfl wk_X5_257 ?_
  refine ww_lrem 13 dX5_nextDraw_12 rfl (by decide) ?_
  exact ww_lret dX5_nextDraw_13 rfl ⟨_, rfl, h⟩
