theorem b_X0_become {l : Launch} {g : ww_G} {τ : ww_M}  {Post : ww_M → Prop}  (h : ∀ E : ww_E, (∀ τ1 : ww_M, τ1 = ww_up τ (8, 0) 1 (if nI 3 < τ (4, 0) 1 then nI 3 else τ (4, 0) 1) → (∀ τ2 : ww_M, τ2 = ww_up τ1 (8, 0) 6 (nI 0) → (∀ τ3 : ww_M, τ3 = ww_up τ2 (8, 0) 7 (nI 14) → ww_W g mX0_become E (ww_QV Post) 25 [some (.inr (.inr (8, 0))), some (.inr (.inr (4, 0))), some (.inl (nI 0))] [] τ3)))) : ww_T l g mX0_become [.inr (.inr (8, 0)), .inr (.inr (4, 0))] τ (ww_QV Post) := by
  refine ww_enter (P := [some (.inr (.inr (8, 0))), some (.inr (.inr (4, 0))), none]) (by decide) (Nat.le_of_ble_eq_true rfl) rfl (fun E => ?_)
  replace h := h E
  refine ww_aload_n 1 dX0_become_0 rfl 0 rfl rfl ?_
  refine ww_aload_n 2 dX0_become_1 rfl 1 rfl rfl ?_
  refine ww_getI 1 5 dX0_become_2 wf_X0_55 (ww_i1 4 (by decide)) rfl rfl rfl ?_
  refine ww_iconst (v := nI 3) 6 dX0_become_5 (by decide) rfl ?_
  refine ww_mmin 9 dX0_become_6 wl_X0_60 ws_Math_min wi_J9 wc_Math_min (by decide) (Nat.le_of_ble_eq_true rfl) rfl ?_
  refine ww_putI 1 12 dX0_become_9 wf_X0_66 fp_X0_1 (ww_i1 8 (by decide)) rfl rfl rfl (fun τ1 eτ1 => ?_)
  replace h := h τ1 eτ1
  refine ww_aload_n 13 dX0_become_12 rfl 0 rfl rfl ?_
  refine ww_iconst (v := nI 0) 14 dX0_become_13 (by decide) rfl ?_
  refine ww_putI 6 17 dX0_become_14 wf_X0_69 fp_X0_6 (ww_i1 8 (by decide)) rfl rfl rfl (fun τ2 eτ2 => ?_)
  replace h := h τ2 eτ2
  refine ww_aload_n 18 dX0_become_17 rfl 0 rfl rfl ?_
  refine ww_bipush (v := nI 14) 20 dX0_become_18 (by decide) rfl ?_
  refine ww_putI 7 23 dX0_become_20 wf_X0_27 fp_X0_7 (ww_i1 8 (by decide)) rfl rfl rfl (fun τ3 eτ3 => ?_)
  replace h := h τ3 eτ3
  refine ww_iconst (v := nI 0) 24 dX0_become_23 (by decide) rfl ?_
  refine ww_istore_n 25 dX0_become_24 rfl 2 rfl (by decide) rfl [some (.inr (.inr (8, 0))), some (.inr (.inr (4, 0))), some (.inl (nI 0))] rfl ?_
  exact h
theorem b_X0_become_25 {g : ww_G} {E : ww_E} {τ : ww_M} {x2 : Int32} {Post : ww_M → Prop}  (h : ((nI 8 ≤ x2 → ww_W g mX0_become E (ww_QV Post) 46 [some (.inr (.inr (8, 0))), some (.inr (.inr (4, 0))), some (.inl (nI 0))] [] τ) ∧ (¬ (nI 8 ≤ x2) → (∃ j1 : Nat, x2 = nI j1 ∧ j1 < 8 ∧ ∀ τ2 : ww_M, τ2 = ww_up τ (17, 0) j1 (nI 0) → ww_W g mX0_become E (ww_QV Post) 25 [some (.inr (.inr (8, 0))), some (.inr (.inr (4, 0))), some (.inl (x2 + nI 1))] [] τ2)))) : ww_W g mX0_become E (ww_QV Post) 25 [some (.inr (.inr (8, 0))), some (.inr (.inr (4, 0))), some (.inl x2)] [] τ := by
  refine ww_iload_n 26 dX0_become_25 rfl 2 rfl rfl ?_
  refine ww_bipush (v := nI 8) 28 dX0_become_26 (by decide) rfl ?_
  refine ww_ic_ge 44 31 dX0_become_28 (by decide) rfl (fun c => ?_) (fun c => ?_)
  · replace h := h.1 c
    refine ww_iconst (v := nI 0) 45 dX0_become_44 (by decide) rfl ?_
    refine ww_istore_n 46 dX0_become_45 rfl 2 rfl (by decide) rfl [some (.inr (.inr (8, 0))), some (.inr (.inr (4, 0))), some (.inl (nI 0))] rfl ?_
    exact h
  · replace h := h.2 c
    refine ww_aload_n 32 dX0_become_31 rfl 0 rfl rfl ?_
    refine ww_getR 11 35 dX0_become_32 wf_X0_42 (ww_i1 8 (by decide)) rfl rfl rfl ?_
    refine ww_iload_n 36 dX0_become_35 rfl 2 rfl rfl ?_
    refine ww_iconst (v := nI 0) 37 dX0_become_36 (by decide) rfl ?_
    obtain ⟨j1, hij1, hj1, h⟩ := h
    refine ww_iast j1 38 dX0_become_37 (ww_i1 17 (by decide)) rfl (by decide) hij1 hj1 rfl (fun τ2 eτ2 => ?_)
    replace h := h τ2 eτ2
    refine ww_iinc (nI 1) 41 2 dX0_become_38 (by decide) rfl rfl (by decide) rfl [some (.inr (.inr (8, 0))), some (.inr (.inr (4, 0))), some (.inl (x2 + nI 1))] rfl ?_
    refine ww_goto 25 dX0_become_41 (by decide) ?_
    exact h
theorem b_X0_become_46 {g : ww_G} {E : ww_E} {τ : ww_M} {x2 : Int32} {Post : ww_M → Prop}  (h : ((τ (8, 0) 1 ≤ x2 → (∃ Q1 : ww_M → Prop, ww_T E.2.1 g mX0_measure [.inr (.inr (8, 0))] τ (ww_QV Q1) ∧ ∀ (τ2 : ww_M), Q1 τ2 → Post τ2)) ∧ (¬ (τ (8, 0) 1 ≤ x2) → (∃ j3 : Nat, x2 = nI j3 ∧ j3 < 3 ∧ ∀ τ4 : ww_M, τ4 = ww_up τ (10, 0) j3 (nI 0) → (∃ j5 : Nat, x2 = nI j5 ∧ j5 < 3 ∧ ∀ τ6 : ww_M, τ6 = ww_up τ4 (11, 0) j5 (nI 0) → (∃ j7 : Nat, x2 = nI j7 ∧ j7 < 3 ∧ (∃ j8 : Nat, x2 = nI j8 ∧ j8 < 6 ∧ (∃ Q9 : ww_M → Prop, ww_T E.2.1 g mX2_copy [.inr (.inr (21, 12 + j7)), .inr (.inr (21, 6 + j8))] τ6 (ww_QV Q9) ∧ ∀ (τ10 : ww_M), Q9 τ10 → (∃ j11 : Nat, x2 = nI j11 ∧ j11 < 3 ∧ (∃ Q12 : ww_M → Prop, ww_T E.2.1 g mX0_addTurns [.inr (.inr (8, 0)), .inl x2, .inr (.inr (21, 12 + j11))] τ10 (ww_QV Q12) ∧ ∀ (τ13 : ww_M), Q12 τ13 → (∃ Q14 : ww_M → Prop, ww_T E.2.1 g mX2_wipe [.inr (.inr (21, 15))] τ13 (ww_QV Q14) ∧ ∀ (τ15 : ww_M), Q14 τ15 → (∃ j16 : Nat, x2 = nI j16 ∧ j16 < 3 ∧ (∃ Q17 : ww_M → Prop, ww_T E.2.1 g mX2_putInverse [.inr (.inr (21, 15)), .inr (.inr (21, 12 + j16))] τ15 (ww_QV Q17) ∧ ∀ (τ18 : ww_M), Q17 τ18 → (∃ Q19 : ww_M → Prop, ww_T E.2.1 g mX0_addTurns [.inr (.inr (8, 0)), .inl x2, .inr (.inr (21, 15))] τ18 (ww_QV Q19) ∧ ∀ (τ20 : ww_M), Q19 τ20 → ww_W g mX0_become E (ww_QV Post) 46 [some (.inr (.inr (8, 0))), some (.inr (.inr (4, 0))), some (.inl (x2 + nI 1))] [] τ20)))))))))))))) : ww_W g mX0_become E (ww_QV Post) 46 [some (.inr (.inr (8, 0))), some (.inr (.inr (4, 0))), some (.inl x2)] [] τ := by
  refine ww_iload_n 47 dX0_become_46 rfl 2 rfl rfl ?_
  refine ww_aload_n 48 dX0_become_47 rfl 0 rfl rfl ?_
  refine ww_getI 1 51 dX0_become_48 wf_X0_66 (ww_i1 8 (by decide)) rfl rfl rfl ?_
  refine ww_ic_ge 129 54 dX0_become_51 (by decide) rfl (fun c => ?_) (fun c => ?_)
  · replace h := h.1 c
    refine ww_aload_n 130 dX0_become_129 rfl 0 rfl rfl ?_
    obtain ⟨Q1, hT, h⟩ := h
    refine ww_invVV (d' := mX0_measure) [] rfl 133 dX0_become_130 ⟨wi_X0, wc_X0_measure, wp_X0_measure, by decide, by decide⟩ wl_X0_87 wn_X0_measure we_X0_measure (ww_i1 8 (by decide)) rfl rfl (Nat.le_of_ble_eq_true rfl) rfl hT (fun τ2 hq => ?_)
    replace h := h τ2 hq
    exact ww_vret dX0_become_133 rfl ⟨rfl, h⟩
  · replace h := h.2 c
    refine ww_aload_n 55 dX0_become_54 rfl 0 rfl rfl ?_
    refine ww_getR 2 58 dX0_become_55 wf_X0_9 (ww_i1 8 (by decide)) rfl rfl rfl ?_
    refine ww_iload_n 59 dX0_become_58 rfl 2 rfl rfl ?_
    refine ww_iconst (v := nI 0) 60 dX0_become_59 (by decide) rfl ?_
    obtain ⟨j3, hij3, hj3, h⟩ := h
    refine ww_iast j3 61 dX0_become_60 (ww_i1 10 (by decide)) rfl (by decide) hij3 hj3 rfl (fun τ4 eτ4 => ?_)
    replace h := h τ4 eτ4
    refine ww_aload_n 62 dX0_become_61 rfl 0 rfl rfl ?_
    refine ww_getR 3 65 dX0_become_62 wf_X0_15 (ww_i1 8 (by decide)) rfl rfl rfl ?_
    refine ww_iload_n 66 dX0_become_65 rfl 2 rfl rfl ?_
    refine ww_iconst (v := nI 0) 67 dX0_become_66 (by decide) rfl ?_
    obtain ⟨j5, hij5, hj5, h⟩ := h
    refine ww_iast j5 68 dX0_become_67 (ww_i1 11 (by decide)) rfl (by decide) hij5 hj5 rfl (fun τ6 eτ6 => ?_)
    replace h := h τ6 eτ6
    refine ww_aload_n 69 dX0_become_68 rfl 0 rfl rfl ?_
    refine ww_getR 0 72 dX0_become_69 wf_X0_48 (ww_i1 8 (by decide)) rfl rfl rfl ?_
    refine ww_iload_n 73 dX0_become_72 rfl 2 rfl rfl ?_
    obtain ⟨j7, hij7, hj7, h⟩ := h
    refine ww_aald j7 74 dX0_become_73 (ww_i1 9 (by decide)) rfl (Or.inl rfl) (by decide) hij7 hj7 rfl ?_
    refine ww_aload_n 75 dX0_become_74 rfl 1 rfl rfl ?_
    refine ww_getR 0 78 dX0_become_75 wf_X0_70 (ww_i1 4 (by decide)) rfl rfl rfl ?_
    refine ww_iload_n 79 dX0_become_78 rfl 2 rfl rfl ?_
    obtain ⟨j8, hij8, hj8, h⟩ := h
    refine ww_aald j8 80 dX0_become_79 (ww_i1 5 (by decide)) rfl (Or.inl rfl) (by decide) hij8 hj8 rfl ?_
    obtain ⟨Q9, hT, h⟩ := h
    refine ww_invVV (d' := mX2_copy) [.inr (.inr (21, 6 + j8))] rfl 83 dX0_become_80 ⟨wi_X2, wc_X2_copy, wp_X2_copy, by decide, by decide⟩ wl_X0_73 wn_X2_copy we_X2_copy (show ww_in (21, 12 + j7) from (show 12 + j7 < 104 by omega)) rfl rfl (Nat.le_of_ble_eq_true rfl) rfl hT (fun τ10 hq => ?_)
    replace h := h τ10 hq
    refine ww_aload_n 84 dX0_become_83 rfl 0 rfl rfl ?_
    refine ww_iload_n 85 dX0_become_84 rfl 2 rfl rfl ?_
    refine ww_aload_n 86 dX0_become_85 rfl 0 rfl rfl ?_
    refine ww_getR 0 89 dX0_become_86 wf_X0_48 (ww_i1 8 (by decide)) rfl rfl rfl ?_
    refine ww_iload_n 90 dX0_become_89 rfl 2 rfl rfl ?_
    obtain ⟨j11, hij11, hj11, h⟩ := h
    refine ww_aald j11 91 dX0_become_90 (ww_i1 9 (by decide)) rfl (Or.inl rfl) (by decide) hij11 hj11 rfl ?_
    obtain ⟨Q12, hT, h⟩ := h
    refine ww_invVV (d' := mX0_addTurns) [.inl x2, .inr (.inr (21, 12 + j11))] rfl 94 dX0_become_91 ⟨wi_X0, wc_X0_addTurns, wp_X0_addTurns, by decide, by decide⟩ wl_X0_77 wn_X0_addTurns we_X0_addTurns (ww_i1 8 (by decide)) rfl rfl (Nat.le_of_ble_eq_true rfl) rfl hT (fun τ13 hq => ?_)
    replace h := h τ13 hq
    refine ww_aload_n 95 dX0_become_94 rfl 0 rfl rfl ?_
    refine ww_getR 4 98 dX0_become_95 wf_X0_23 (ww_i1 8 (by decide)) rfl rfl rfl ?_
    obtain ⟨Q14, hT, h⟩ := h
    refine ww_invVV (d' := mX2_wipe) [] rfl 101 dX0_become_98 ⟨wi_X2, wc_X2_wipe, wp_X2_wipe, by decide, by decide⟩ wl_X0_81 wn_X2_wipe we_X2_wipe (show ww_in (21, 15) from (show 15 < 104 by omega)) rfl rfl (Nat.le_of_ble_eq_true rfl) rfl hT (fun τ15 hq => ?_)
    replace h := h τ15 hq
    refine ww_aload_n 102 dX0_become_101 rfl 0 rfl rfl ?_
    refine ww_getR 4 105 dX0_become_102 wf_X0_23 (ww_i1 8 (by decide)) rfl rfl rfl ?_
    refine ww_aload_n 106 dX0_become_105 rfl 0 rfl rfl ?_
    refine ww_getR 0 109 dX0_become_106 wf_X0_48 (ww_i1 8 (by decide)) rfl rfl rfl ?_
    refine ww_iload_n 110 dX0_become_109 rfl 2 rfl rfl ?_
    obtain ⟨j16, hij16, hj16, h⟩ := h
    refine ww_aald j16 111 dX0_become_110 (ww_i1 9 (by decide)) rfl (Or.inl rfl) (by decide) hij16 hj16 rfl ?_
    obtain ⟨Q17, hT, h⟩ := h
    refine ww_invVV (d' := mX2_putInverse) [.inr (.inr (21, 12 + j16))] rfl 114 dX0_become_111 ⟨wi_X2, wc_X2_putInverse, wp_X2_putInverse, by decide, by decide⟩ wl_X0_84 wn_X2_putInverse we_X2_putInverse (show ww_in (21, 15) from (show 15 < 104 by omega)) rfl rfl (Nat.le_of_ble_eq_true rfl) rfl hT (fun τ18 hq => ?_)
    replace h := h τ18 hq
    refine ww_aload_n 115 dX0_become_114 rfl 0 rfl rfl ?_
    refine ww_iload_n 116 dX0_become_115 rfl 2 rfl rfl ?_
    refine ww_aload_n 117 dX0_become_116 rfl 0 rfl rfl ?_
    refine ww_getR 4 120 dX0_become_117 wf_X0_23 (ww_i1 8 (by decide)) rfl rfl rfl ?_
    obtain ⟨Q19, hT, h⟩ := h
    refine ww_invVV (d' := mX0_addTurns) [.inl x2, .inr (.inr (21, 15))] rfl 123 dX0_become_120 ⟨wi_X0, wc_X0_addTurns, wp_X0_addTurns, by decide, by decide⟩ wl_X0_77 wn_X0_addTurns we_X0_addTurns (ww_i1 8 (by decide)) rfl rfl (Nat.le_of_ble_eq_true rfl) rfl hT (fun τ20 hq => ?_)
    replace h := h τ20 hq
    refine ww_iinc (nI 1) 126 2 dX0_become_123 (by decide) rfl rfl (by decide) rfl [some (.inr (.inr (8, 0))), some (.inr (.inr (4, 0))), some (.inl (x2 + nI 1))] rfl ?_
    refine ww_goto 46 dX0_become_126 (by decide) ?_
    exact h
theorem b_X0_addTurns {l : Launch} {g : ww_G} {τ : ww_M} {a1 : Int32} {r2 : Nat} {Post : ww_M → Prop} (hr2 : r2 < 104) (h : ∀ E : ww_E, ww_W g mX0_addTurns E (ww_QV Post) 2 [some (.inr (.inr (8, 0))), some (.inl a1), some (.inr (.inr (21, r2))), some (.inl (nI 0)), none, none] [] τ) : ww_T l g mX0_addTurns [.inr (.inr (8, 0)), .inl a1, .inr (.inr (21, r2))] τ (ww_QV Post) := by
  refine ww_enter (P := [some (.inr (.inr (8, 0))), some (.inl a1), some (.inr (.inr (21, r2))), none, none, none]) (by decide) (Nat.le_of_ble_eq_true rfl) rfl (fun E => ?_)
  replace h := h E
  refine ww_iconst (v := nI 0) 1 dX0_addTurns_0 (by decide) rfl ?_
  refine ww_istore_n 2 dX0_addTurns_1 rfl 3 rfl (by decide) rfl [some (.inr (.inr (8, 0))), some (.inl a1), some (.inr (.inr (21, r2))), some (.inl (nI 0)), none, none] rfl ?_
  exact h
theorem b_X0_addTurns_2 {g : ww_G} {E : ww_E} {τ : ww_M} {x1 : Int32} {r2 : Nat} {x3 : Int32} {Post : ww_M → Prop} (hr2 : r2 < 104) (h : ((τ (21, r2) 1 ≤ x3 → Post τ) ∧ (¬ (τ (21, r2) 1 ≤ x3) → ((nI 84 ≤ τ (8, 0) 6 → Post τ) ∧ (¬ (nI 84 ≤ τ (8, 0) 6) → (∃ j1 : Nat, τ (8, 0) 6 = nI j1 ∧ j1 < 84 ∧ (∃ Q2 : ww_M → Prop, ww_T E.2.1 g mX2_wipe [.inr (.inr (21, 20 + j1))] τ (ww_QV Q2) ∧ ∀ (τ3 : ww_M), Q2 τ3 → (∃ Q4 : ww_M → Prop, ww_T E.2.1 g mX2_putTurn [.inr (.inr (21, 20 + j1)), .inr (.inr (21, r2)), .inl x3] τ3 (ww_QV Q4) ∧ ∀ (τ5 : ww_M), Q4 τ5 → (∃ Q6 : Int32 → ww_M → Prop, ww_T E.2.1 g mX0_earlierLike [.inr (.inr (8, 0)), .inr (.inr (21, 20 + j1))] τ5 (ww_QI Q6) ∧ ∀ (v7 : Int32) (τ8 : ww_M), Q6 v7 τ8 → (v7 = (-1 : Int32) → (∃ j9 : Nat, τ8 (8, 0) 6 = nI j9 ∧ j9 < 84 ∧ ∀ τ10 : ww_M, τ10 = ww_up τ8 (13, 0) j9 ((nI 1) <<< (x1 &&& 31)) → (∃ j11 : Nat, x1 = nI j11 ∧ j11 < 3 ∧ (∃ j12 : Nat, x1 = nI j12 ∧ j12 < 3 ∧ ∀ τ13 : ww_M, τ13 = ww_up τ10 (11, 0) j12 ((τ10 (11, 0) j11) + (nI 1)) → (∃ Q14 : Int32 → ww_M → Prop, ww_T E.2.1 g mX2_at [.inr (.inr (21, 20 + j1)), .inl (nI 0)] τ13 (ww_QI Q14) ∧ ∀ (v15 : Int32) (τ16 : ww_M), Q14 v15 τ16 → (∃ Q17 : ww_M → Prop, ww_T E.2.1 g mX0_listByFirstLetter [.inr (.inr (8, 0)), .inl v15] τ16 (ww_QV Q17) ∧ ∀ (τ18 : ww_M), Q17 τ18 → (∀ τ19 : ww_M, τ19 = ww_up τ18 (8, 0) 7 (if τ18 (21, 20 + j1) 1 < τ18 (8, 0) 7 then τ18 (21, 20 + j1) 1 else τ18 (8, 0) 7) → (∀ τ20 : ww_M, τ20 = ww_up τ19 (8, 0) 6 ((τ19 (8, 0) 6) + (nI 1)) → ww_W g mX0_addTurns E (ww_QV Post) 2 [some (.inr (.inr (8, 0))), some (.inl x1), some (.inr (.inr (21, r2))), some (.inl (x3 + nI 1)), none, none] [] τ20)))))))) ∧ (¬ v7 = (-1 : Int32) → (∃ j21 : Nat, v7 = nI j21 ∧ j21 < 84 ∧ (∃ j22 : Nat, v7 = nI j22 ∧ j22 < 84 ∧ ∀ τ23 : ww_M, τ23 = ww_up τ8 (13, 0) j22 ((τ8 (13, 0) j21) ||| ((nI 1) <<< (x1 &&& 31))) → ww_W g mX0_addTurns E (ww_QV Post) 2 [some (.inr (.inr (8, 0))), some (.inl x1), some (.inr (.inr (21, r2))), some (.inl (x3 + nI 1)), none, none] [] τ23)))))))))))) : ww_W g mX0_addTurns E (ww_QV Post) 2 [some (.inr (.inr (8, 0))), some (.inl x1), some (.inr (.inr (21, r2))), some (.inl x3), none, none] [] τ := by
  refine ww_iload_n 3 dX0_addTurns_2 rfl 3 rfl rfl ?_
  refine ww_aload_n 4 dX0_addTurns_3 rfl 2 rfl rfl ?_
  refine ww_getI 1 7 dX0_addTurns_4 wf_X0_90 (show ww_in (21, r2) from (show r2 < 104 by omega)) rfl rfl rfl ?_
  refine ww_ic_ge 136 10 dX0_addTurns_7 (by decide) rfl (fun c => ?_) (fun c => ?_)
  · replace h := h.1 c
    exact ww_vret dX0_addTurns_136 rfl ⟨rfl, h⟩
  · replace h := h.2 c
    refine ww_aload_n 11 dX0_addTurns_10 rfl 0 rfl rfl ?_
    refine ww_getI 6 14 dX0_addTurns_11 wf_X0_69 (ww_i1 8 (by decide)) rfl rfl rfl ?_
    refine ww_bipush (v := nI 84) 16 dX0_addTurns_14 (by decide) rfl ?_
    refine ww_ic_ge 136 19 dX0_addTurns_16 (by decide) rfl (fun c => ?_) (fun c => ?_)
    · replace h := h.1 c
      exact ww_vret dX0_addTurns_136 rfl ⟨rfl, h⟩
    · replace h := h.2 c
      refine ww_aload_n 20 dX0_addTurns_19 rfl 0 rfl rfl ?_
      refine ww_getR 5 23 dX0_addTurns_20 wf_X0_52 (ww_i1 8 (by decide)) rfl rfl rfl ?_
      refine ww_aload_n 24 dX0_addTurns_23 rfl 0 rfl rfl ?_
      refine ww_getI 6 27 dX0_addTurns_24 wf_X0_69 (ww_i1 8 (by decide)) rfl rfl rfl ?_
      obtain ⟨j1, hij1, hj1, h⟩ := h
      refine ww_aald j1 28 dX0_addTurns_27 (ww_i1 12 (by decide)) rfl (Or.inl rfl) (by decide) hij1 hj1 rfl ?_
      refine ww_astore 30 4 dX0_addTurns_28 rfl (by decide) rfl [some (.inr (.inr (8, 0))), some (.inl x1), some (.inr (.inr (21, r2))), some (.inl x3), some (.inr (.inr (21, 20 + j1))), none] rfl ?_
      refine ww_aload 32 4 dX0_addTurns_30 rfl rfl ?_
      obtain ⟨Q2, hT, h⟩ := h
      refine ww_invVV (d' := mX2_wipe) [] rfl 35 dX0_addTurns_32 ⟨wi_X2, wc_X2_wipe, wp_X2_wipe, by decide, by decide⟩ wl_X0_81 wn_X2_wipe we_X2_wipe (show ww_in (21, 20 + j1) from (show 20 + j1 < 104 by omega)) rfl rfl (Nat.le_of_ble_eq_true rfl) rfl hT (fun τ3 hq => ?_)
      replace h := h τ3 hq
      refine ww_aload 37 4 dX0_addTurns_35 rfl rfl ?_
      refine ww_aload_n 38 dX0_addTurns_37 rfl 2 rfl rfl ?_
      refine ww_iload_n 39 dX0_addTurns_38 rfl 3 rfl rfl ?_
      obtain ⟨Q4, hT, h⟩ := h
      refine ww_invVV (d' := mX2_putTurn) [.inr (.inr (21, r2)), .inl x3] rfl 42 dX0_addTurns_39 ⟨wi_X2, wc_X2_putTurn, wp_X2_putTurn, by decide, by decide⟩ wl_X0_91 wn_X2_putTurn we_X2_putTurn (show ww_in (21, 20 + j1) from (show 20 + j1 < 104 by omega)) rfl rfl (Nat.le_of_ble_eq_true rfl) rfl hT (fun τ5 hq => ?_)
      replace h := h τ5 hq
      refine ww_aload_n 43 dX0_addTurns_42 rfl 0 rfl rfl ?_
      refine ww_aload 45 4 dX0_addTurns_43 rfl rfl ?_
      obtain ⟨Q6, hT, h⟩ := h
      refine ww_invVI (d' := mX0_earlierLike) [.inr (.inr (21, 20 + j1))] rfl 48 dX0_addTurns_45 ⟨wi_X0, wc_X0_earlierLike, wp_X0_earlierLike, by decide, by decide⟩ wl_X0_95 wn_X0_earlierLike we_X0_earlierLike (ww_i1 8 (by decide)) rfl rfl (Nat.le_of_ble_eq_true rfl) rfl hT (fun v7 τ8 hq => ?_)
      replace h := h v7 τ8 hq
      refine ww_istore 50 5 dX0_addTurns_48 rfl (by decide) rfl [some (.inr (.inr (8, 0))), some (.inl x1), some (.inr (.inr (21, r2))), some (.inl x3), some (.inr (.inr (21, 20 + j1))), some (.inl v7)] rfl ?_
      refine ww_iload 52 5 dX0_addTurns_50 rfl rfl ?_
      refine ww_iconst (v := (-1 : Int32)) 53 dX0_addTurns_52 (by decide) rfl ?_
      refine ww_ic_eq 72 56 dX0_addTurns_53 (by decide) rfl (fun c => ?_) (fun c => ?_)
      · replace h := h.1 c
        refine ww_aload_n 73 dX0_addTurns_72 rfl 0 rfl rfl ?_
        refine ww_getR 8 76 dX0_addTurns_73 wf_X0_31 (ww_i1 8 (by decide)) rfl rfl rfl ?_
        refine ww_aload_n 77 dX0_addTurns_76 rfl 0 rfl rfl ?_
        refine ww_getI 6 80 dX0_addTurns_77 wf_X0_69 (ww_i1 8 (by decide)) rfl rfl rfl ?_
        refine ww_iconst (v := nI 1) 81 dX0_addTurns_80 (by decide) rfl ?_
        refine ww_iload_n 82 dX0_addTurns_81 rfl 1 rfl rfl ?_
        refine ww_ishl 83 dX0_addTurns_82 rfl ?_
        obtain ⟨j9, hij9, hj9, h⟩ := h
        refine ww_iast j9 84 dX0_addTurns_83 (ww_i1 13 (by decide)) rfl (by decide) hij9 hj9 rfl (fun τ10 eτ10 => ?_)
        replace h := h τ10 eτ10
        refine ww_aload_n 85 dX0_addTurns_84 rfl 0 rfl rfl ?_
        refine ww_getR 3 88 dX0_addTurns_85 wf_X0_15 (ww_i1 8 (by decide)) rfl rfl rfl ?_
        refine ww_iload_n 89 dX0_addTurns_88 rfl 1 rfl rfl ?_
        refine ww_dup2 90 dX0_addTurns_89 rfl rfl rfl ?_
        obtain ⟨j11, hij11, hj11, h⟩ := h
        refine ww_iald j11 91 dX0_addTurns_90 (ww_i1 11 (by decide)) rfl (by decide) hij11 hj11 rfl ?_
        refine ww_iconst (v := nI 1) 92 dX0_addTurns_91 (by decide) rfl ?_
        refine ww_iadd 93 dX0_addTurns_92 rfl ?_
        obtain ⟨j12, hij12, hj12, h⟩ := h
        refine ww_iast j12 94 dX0_addTurns_93 (ww_i1 11 (by decide)) rfl (by decide) hij12 hj12 rfl (fun τ13 eτ13 => ?_)
        replace h := h τ13 eτ13
        refine ww_aload_n 95 dX0_addTurns_94 rfl 0 rfl rfl ?_
        refine ww_aload 97 4 dX0_addTurns_95 rfl rfl ?_
        refine ww_iconst (v := nI 0) 98 dX0_addTurns_97 (by decide) rfl ?_
        obtain ⟨Q14, hT, h⟩ := h
        refine ww_invVI (d' := mX2_at) [.inl (nI 0)] rfl 101 dX0_addTurns_98 ⟨wi_X2, wc_X2_at, wp_X2_at, by decide, by decide⟩ wl_X0_99 wn_X2_at we_X2_at (show ww_in (21, 20 + j1) from (show 20 + j1 < 104 by omega)) rfl rfl (Nat.le_of_ble_eq_true rfl) rfl hT (fun v15 τ16 hq => ?_)
        replace h := h v15 τ16 hq
        obtain ⟨Q17, hT, h⟩ := h
        refine ww_invVV (d' := mX0_listByFirstLetter) [.inl v15] rfl 104 dX0_addTurns_101 ⟨wi_X0, wc_X0_listByFirstLetter, wp_X0_listByFirstLetter, by decide, by decide⟩ wl_X0_103 wn_X0_listByFirstLetter we_X0_listByFirstLetter (ww_i1 8 (by decide)) rfl rfl (Nat.le_of_ble_eq_true rfl) rfl hT (fun τ18 hq => ?_)
        replace h := h τ18 hq
        refine ww_aload_n 105 dX0_addTurns_104 rfl 0 rfl rfl ?_
        refine ww_aload_n 106 dX0_addTurns_105 rfl 0 rfl rfl ?_
        refine ww_getI 7 109 dX0_addTurns_106 wf_X0_27 (ww_i1 8 (by decide)) rfl rfl rfl ?_
        refine ww_aload 111 4 dX0_addTurns_109 rfl rfl ?_
        refine ww_getI 1 114 dX0_addTurns_111 wf_X0_90 (show ww_in (21, 20 + j1) from (show 20 + j1 < 104 by omega)) rfl rfl rfl ?_
        refine ww_mmin 117 dX0_addTurns_114 wl_X0_60 ws_Math_min wi_J9 wc_Math_min (by decide) (Nat.le_of_ble_eq_true rfl) rfl ?_
        refine ww_putI 7 120 dX0_addTurns_117 wf_X0_27 fp_X0_7 (ww_i1 8 (by decide)) rfl rfl rfl (fun τ19 eτ19 => ?_)
        replace h := h τ19 eτ19
        refine ww_aload_n 121 dX0_addTurns_120 rfl 0 rfl rfl ?_
        refine ww_dup 122 dX0_addTurns_121 rfl rfl ?_
        refine ww_getI 6 125 dX0_addTurns_122 wf_X0_69 (ww_i1 8 (by decide)) rfl rfl rfl ?_
        refine ww_iconst (v := nI 1) 126 dX0_addTurns_125 (by decide) rfl ?_
        refine ww_iadd 127 dX0_addTurns_126 rfl ?_
        refine ww_putI 6 130 dX0_addTurns_127 wf_X0_69 fp_X0_6 (ww_i1 8 (by decide)) rfl rfl rfl (fun τ20 eτ20 => ?_)
        replace h := h τ20 eτ20
        refine ww_iinc (nI 1) 133 3 dX0_addTurns_130 (by decide) rfl rfl (by decide) rfl [some (.inr (.inr (8, 0))), some (.inl x1), some (.inr (.inr (21, r2))), some (.inl (x3 + nI 1)), some (.inr (.inr (21, 20 + j1))), some (.inl v7)] rfl ?_
        refine ww_goto 2 dX0_addTurns_133 (by decide) ?_
        exact ww_weak (ww_le_s (ww_le_s (ww_le_s (ww_le_s (ww_le_n (ww_le_n (ww_le_nil _))))))) h
      · replace h := h.2 c
        refine ww_aload_n 57 dX0_addTurns_56 rfl 0 rfl rfl ?_
        refine ww_getR 8 60 dX0_addTurns_57 wf_X0_31 (ww_i1 8 (by decide)) rfl rfl rfl ?_
        refine ww_iload 62 5 dX0_addTurns_60 rfl rfl ?_
        refine ww_dup2 63 dX0_addTurns_62 rfl rfl rfl ?_
        obtain ⟨j21, hij21, hj21, h⟩ := h
        refine ww_iald j21 64 dX0_addTurns_63 (ww_i1 13 (by decide)) rfl (by decide) hij21 hj21 rfl ?_
        refine ww_iconst (v := nI 1) 65 dX0_addTurns_64 (by decide) rfl ?_
        refine ww_iload_n 66 dX0_addTurns_65 rfl 1 rfl rfl ?_
        refine ww_ishl 67 dX0_addTurns_66 rfl ?_
        refine ww_ior 68 dX0_addTurns_67 rfl ?_
        obtain ⟨j22, hij22, hj22, h⟩ := h
        refine ww_iast j22 69 dX0_addTurns_68 (ww_i1 13 (by decide)) rfl (by decide) hij22 hj22 rfl (fun τ23 eτ23 => ?_)
        replace h := h τ23 eτ23
        refine ww_goto 130 dX0_addTurns_69 (by decide) ?_
        refine ww_iinc (nI 1) 133 3 dX0_addTurns_130 (by decide) rfl rfl (by decide) rfl [some (.inr (.inr (8, 0))), some (.inl x1), some (.inr (.inr (21, r2))), some (.inl (x3 + nI 1)), some (.inr (.inr (21, 20 + j1))), some (.inl v7)] rfl ?_
        refine ww_goto 2 dX0_addTurns_133 (by decide) ?_
        exact ww_weak (ww_le_s (ww_le_s (ww_le_s (ww_le_s (ww_le_n (ww_le_n (ww_le_nil _))))))) h
theorem b_X0_earlierLike {l : Launch} {g : ww_G} {τ : ww_M} {r1 : Nat} {Post : Int32 → ww_M → Prop} (hr1 : r1 < 104) (h : ∀ E : ww_E, ww_W g mX0_earlierLike E (ww_QI Post) 2 [some (.inr (.inr (8, 0))), some (.inr (.inr (21, r1))), some (.inl (nI 0))] [] τ) : ww_T l g mX0_earlierLike [.inr (.inr (8, 0)), .inr (.inr (21, r1))] τ (ww_QI Post) := by
  refine ww_enter (P := [some (.inr (.inr (8, 0))), some (.inr (.inr (21, r1))), none]) (by decide) (Nat.le_of_ble_eq_true rfl) rfl (fun E => ?_)
  replace h := h E
  refine ww_iconst (v := nI 0) 1 dX0_earlierLike_0 (by decide) rfl ?_
  refine ww_istore_n 2 dX0_earlierLike_1 rfl 2 rfl (by decide) rfl [some (.inr (.inr (8, 0))), some (.inr (.inr (21, r1))), some (.inl (nI 0))] rfl ?_
  exact h
theorem b_X0_earlierLike_2 {g : ww_G} {E : ww_E} {τ : ww_M} {r1 : Nat} {x2 : Int32} {Post : Int32 → ww_M → Prop} (hr1 : r1 < 104) (h : ((τ (8, 0) 6 ≤ x2 → Post (-1 : Int32) τ) ∧ (¬ (τ (8, 0) 6 ≤ x2) → ((nI 84 ≤ x2 → Post (-1 : Int32) τ) ∧ (¬ (nI 84 ≤ x2) → (∃ j1 : Nat, x2 = nI j1 ∧ j1 < 84 ∧ (¬ τ (21, 20 + j1) 1 = τ (21, r1) 1 → ww_W g mX0_earlierLike E (ww_QI Post) 2 [some (.inr (.inr (8, 0))), some (.inr (.inr (21, r1))), some (.inl (x2 + nI 1))] [] τ) ∧ (τ (21, 20 + j1) 1 = τ (21, r1) 1 → (∃ Q2 : Int32 → ww_M → Prop, ww_T E.2.1 g mX0_matchAt [.inr (.inr (8, 0)), .inr (.inr (21, r1)), .inl (nI 0), .inl x2] τ (ww_QI Q2) ∧ ∀ (v3 : Int32) (τ4 : ww_M), Q2 v3 τ4 → (¬ v3 = τ4 (21, r1) 1 → ww_W g mX0_earlierLike E (ww_QI Post) 2 [some (.inr (.inr (8, 0))), some (.inr (.inr (21, r1))), some (.inl (x2 + nI 1))] [] τ4) ∧ (v3 = τ4 (21, r1) 1 → Post x2 τ4))))))))) : ww_W g mX0_earlierLike E (ww_QI Post) 2 [some (.inr (.inr (8, 0))), some (.inr (.inr (21, r1))), some (.inl x2)] [] τ := by
  refine ww_iload_n 3 dX0_earlierLike_2 rfl 2 rfl rfl ?_
  refine ww_aload_n 4 dX0_earlierLike_3 rfl 0 rfl rfl ?_
  refine ww_getI 6 7 dX0_earlierLike_4 wf_X0_69 (ww_i1 8 (by decide)) rfl rfl rfl ?_
  refine ww_ic_ge 54 10 dX0_earlierLike_7 (by decide) rfl (fun c => ?_) (fun c => ?_)
  · replace h := h.1 c
    refine ww_iconst (v := (-1 : Int32)) 55 dX0_earlierLike_54 (by decide) rfl ?_
    exact ww_iret dX0_earlierLike_55 rfl ⟨_, rfl, h⟩
  · replace h := h.2 c
    refine ww_iload_n 11 dX0_earlierLike_10 rfl 2 rfl rfl ?_
    refine ww_bipush (v := nI 84) 13 dX0_earlierLike_11 (by decide) rfl ?_
    refine ww_ic_ge 54 16 dX0_earlierLike_13 (by decide) rfl (fun c => ?_) (fun c => ?_)
    · replace h := h.1 c
      refine ww_iconst (v := (-1 : Int32)) 55 dX0_earlierLike_54 (by decide) rfl ?_
      exact ww_iret dX0_earlierLike_55 rfl ⟨_, rfl, h⟩
    · replace h := h.2 c
      refine ww_aload_n 17 dX0_earlierLike_16 rfl 0 rfl rfl ?_
      refine ww_getR 5 20 dX0_earlierLike_17 wf_X0_52 (ww_i1 8 (by decide)) rfl rfl rfl ?_
      refine ww_iload_n 21 dX0_earlierLike_20 rfl 2 rfl rfl ?_
      obtain ⟨j1, hij1, hj1, h⟩ := h
      refine ww_aald j1 22 dX0_earlierLike_21 (ww_i1 12 (by decide)) rfl (Or.inl rfl) (by decide) hij1 hj1 rfl ?_
      refine ww_getI 1 25 dX0_earlierLike_22 wf_X0_90 (show ww_in (21, 20 + j1) from (show 20 + j1 < 104 by omega)) rfl rfl rfl ?_
      refine ww_aload_n 26 dX0_earlierLike_25 rfl 1 rfl rfl ?_
      refine ww_getI 1 29 dX0_earlierLike_26 wf_X0_90 (show ww_in (21, r1) from (show r1 < 104 by omega)) rfl rfl rfl ?_
      refine ww_ic_ne 48 32 dX0_earlierLike_29 (by decide) rfl (fun c => ?_) (fun c => ?_)
      · replace h := h.1 c
        refine ww_iinc (nI 1) 51 2 dX0_earlierLike_48 (by decide) rfl rfl (by decide) rfl [some (.inr (.inr (8, 0))), some (.inr (.inr (21, r1))), some (.inl (x2 + nI 1))] rfl ?_
        refine ww_goto 2 dX0_earlierLike_51 (by decide) ?_
        exact h
      · replace h := h.2 c
        refine ww_aload_n 33 dX0_earlierLike_32 rfl 0 rfl rfl ?_
        refine ww_aload_n 34 dX0_earlierLike_33 rfl 1 rfl rfl ?_
        refine ww_iconst (v := nI 0) 35 dX0_earlierLike_34 (by decide) rfl ?_
        refine ww_iload_n 36 dX0_earlierLike_35 rfl 2 rfl rfl ?_
        obtain ⟨Q2, hT, h⟩ := h
        refine ww_invVI (d' := mX0_matchAt) [.inr (.inr (21, r1)), .inl (nI 0), .inl x2] rfl 39 dX0_earlierLike_36 ⟨wi_X0, wc_X0_matchAt, wp_X0_matchAt, by decide, by decide⟩ wl_X0_106 wn_X0_matchAt we_X0_matchAt (ww_i1 8 (by decide)) rfl rfl (Nat.le_of_ble_eq_true rfl) rfl hT (fun v3 τ4 hq => ?_)
        replace h := h v3 τ4 hq
        refine ww_aload_n 40 dX0_earlierLike_39 rfl 1 rfl rfl ?_
        refine ww_getI 1 43 dX0_earlierLike_40 wf_X0_90 (show ww_in (21, r1) from (show r1 < 104 by omega)) rfl rfl rfl ?_
        refine ww_ic_ne 48 46 dX0_earlierLike_43 (by decide) rfl (fun c => ?_) (fun c => ?_)
        · replace h := h.1 c
          refine ww_iinc (nI 1) 51 2 dX0_earlierLike_48 (by decide) rfl rfl (by decide) rfl [some (.inr (.inr (8, 0))), some (.inr (.inr (21, r1))), some (.inl (x2 + nI 1))] rfl ?_
          refine ww_goto 2 dX0_earlierLike_51 (by decide) ?_
          exact h
        · replace h := h.2 c
          refine ww_iload_n 47 dX0_earlierLike_46 rfl 2 rfl rfl ?_
          exact ww_iret dX0_earlierLike_47 rfl ⟨_, rfl, h⟩
theorem b_X0_listByFirstLetter {l : Launch} {g : ww_G} {τ : ww_M} {a1 : Int32} {Post : ww_M → Prop}  (h : ∀ E : ww_E, ((a1 < nI 0 → Post τ) ∧ (¬ (a1 < nI 0) → ((nI 8 ≤ a1 → Post τ) ∧ (¬ (nI 8 ≤ a1) → (∃ j1 : Nat, a1 = nI j1 ∧ j1 < 8 ∧ (nI 84 ≤ τ (17, 0) j1 → Post τ) ∧ (¬ (nI 84 ≤ τ (17, 0) j1) → (∃ j2 : Nat, a1 = nI j2 ∧ j2 < 8 ∧ (∃ j3 : Nat, a1 = nI j3 ∧ j3 < 8 ∧ (∃ j4 : Nat, τ (17, 0) j3 = nI j4 ∧ j4 < 84 ∧ ∀ τ5 : ww_M, τ5 = ww_up τ (16, j2) j4 (τ (8, 0) 6) → (∃ j6 : Nat, a1 = nI j6 ∧ j6 < 8 ∧ (∃ j7 : Nat, a1 = nI j7 ∧ j7 < 8 ∧ ∀ τ8 : ww_M, τ8 = ww_up τ5 (17, 0) j7 ((τ5 (17, 0) j6) + (nI 1)) → Post τ8)))))))))))) : ww_T l g mX0_listByFirstLetter [.inr (.inr (8, 0)), .inl a1] τ (ww_QV Post) := by
  refine ww_enter (P := [some (.inr (.inr (8, 0))), some (.inl a1)]) (by decide) (Nat.le_of_ble_eq_true rfl) rfl (fun E => ?_)
  replace h := h E
  refine ww_iload_n 1 dX0_listByFirstLetter_0 rfl 1 rfl rfl ?_
  refine ww_if_lt 48 4 dX0_listByFirstLetter_1 (by decide) rfl (fun c => ?_) (fun c => ?_)
  · replace h := h.1 c
    exact ww_vret dX0_listByFirstLetter_48 rfl ⟨rfl, h⟩
  · replace h := h.2 c
    refine ww_iload_n 5 dX0_listByFirstLetter_4 rfl 1 rfl rfl ?_
    refine ww_bipush (v := nI 8) 7 dX0_listByFirstLetter_5 (by decide) rfl ?_
    refine ww_ic_ge 48 10 dX0_listByFirstLetter_7 (by decide) rfl (fun c => ?_) (fun c => ?_)
    · replace h := h.1 c
      exact ww_vret dX0_listByFirstLetter_48 rfl ⟨rfl, h⟩
    · replace h := h.2 c
      refine ww_aload_n 11 dX0_listByFirstLetter_10 rfl 0 rfl rfl ?_
      refine ww_getR 11 14 dX0_listByFirstLetter_11 wf_X0_42 (ww_i1 8 (by decide)) rfl rfl rfl ?_
      refine ww_iload_n 15 dX0_listByFirstLetter_14 rfl 1 rfl rfl ?_
      obtain ⟨j1, hij1, hj1, h⟩ := h
      refine ww_iald j1 16 dX0_listByFirstLetter_15 (ww_i1 17 (by decide)) rfl (by decide) hij1 hj1 rfl ?_
      refine ww_bipush (v := nI 84) 18 dX0_listByFirstLetter_16 (by decide) rfl ?_
      refine ww_ic_ge 48 21 dX0_listByFirstLetter_18 (by decide) rfl (fun c => ?_) (fun c => ?_)
      · replace h := h.1 c
        exact ww_vret dX0_listByFirstLetter_48 rfl ⟨rfl, h⟩
      · replace h := h.2 c
        refine ww_aload_n 22 dX0_listByFirstLetter_21 rfl 0 rfl rfl ?_
        refine ww_getR 10 25 dX0_listByFirstLetter_22 wf_X0_39 (ww_i1 8 (by decide)) rfl rfl rfl ?_
        refine ww_iload_n 26 dX0_listByFirstLetter_25 rfl 1 rfl rfl ?_
        obtain ⟨j2, hij2, hj2, h⟩ := h
        refine ww_aald j2 27 dX0_listByFirstLetter_26 (ww_i1 15 (by decide)) rfl (Or.inr rfl) (by decide) hij2 hj2 rfl ?_
        refine ww_aload_n 28 dX0_listByFirstLetter_27 rfl 0 rfl rfl ?_
        refine ww_getR 11 31 dX0_listByFirstLetter_28 wf_X0_42 (ww_i1 8 (by decide)) rfl rfl rfl ?_
        refine ww_iload_n 32 dX0_listByFirstLetter_31 rfl 1 rfl rfl ?_
        obtain ⟨j3, hij3, hj3, h⟩ := h
        refine ww_iald j3 33 dX0_listByFirstLetter_32 (ww_i1 17 (by decide)) rfl (by decide) hij3 hj3 rfl ?_
        refine ww_aload_n 34 dX0_listByFirstLetter_33 rfl 0 rfl rfl ?_
        refine ww_getI 6 37 dX0_listByFirstLetter_34 wf_X0_69 (ww_i1 8 (by decide)) rfl rfl rfl ?_
        obtain ⟨j4, hij4, hj4, h⟩ := h
        refine ww_iast j4 38 dX0_listByFirstLetter_37 (show ww_in (16, j2) from (show j2 < 8 by omega)) rfl (by decide) hij4 hj4 rfl (fun τ5 eτ5 => ?_)
        replace h := h τ5 eτ5
        refine ww_aload_n 39 dX0_listByFirstLetter_38 rfl 0 rfl rfl ?_
        refine ww_getR 11 42 dX0_listByFirstLetter_39 wf_X0_42 (ww_i1 8 (by decide)) rfl rfl rfl ?_
        refine ww_iload_n 43 dX0_listByFirstLetter_42 rfl 1 rfl rfl ?_
        refine ww_dup2 44 dX0_listByFirstLetter_43 rfl rfl rfl ?_
        obtain ⟨j6, hij6, hj6, h⟩ := h
        refine ww_iald j6 45 dX0_listByFirstLetter_44 (ww_i1 17 (by decide)) rfl (by decide) hij6 hj6 rfl ?_
        refine ww_iconst (v := nI 1) 46 dX0_listByFirstLetter_45 (by decide) rfl ?_
        refine ww_iadd 47 dX0_listByFirstLetter_46 rfl ?_
        obtain ⟨j7, hij7, hj7, h⟩ := h
        refine ww_iast j7 48 dX0_listByFirstLetter_47 (ww_i1 17 (by decide)) rfl (by decide) hij7 hj7 rfl (fun τ8 eτ8 => ?_)
        replace h := h τ8 eτ8
        exact ww_vret dX0_listByFirstLetter_48 rfl ⟨rfl, h⟩
theorem b_X0_measure {l : Launch} {g : ww_G} {τ : ww_M}  {Post : ww_M → Prop}  (h : ∀ E : ww_E, ww_W g mX0_measure E (ww_QV Post) 2 [some (.inr (.inr (8, 0))), some (.inl (nI 0)), none, none] [] τ) : ww_T l g mX0_measure [.inr (.inr (8, 0))] τ (ww_QV Post) := by
  refine ww_enter (P := [some (.inr (.inr (8, 0))), none, none, none]) (by decide) (Nat.le_of_ble_eq_true rfl) rfl (fun E => ?_)
  replace h := h E
  refine ww_iconst (v := nI 0) 1 dX0_measure_0 (by decide) rfl ?_
  refine ww_istore_n 2 dX0_measure_1 rfl 1 rfl (by decide) rfl [some (.inr (.inr (8, 0))), some (.inl (nI 0)), none, none] rfl ?_
  exact h
theorem b_X0_measure_2 {g : ww_G} {E : ww_E} {τ : ww_M} {x1 : Int32} {Post : ww_M → Prop}  (h : ((τ (8, 0) 6 ≤ x1 → Post τ) ∧ (¬ (τ (8, 0) 6 ≤ x1) → (∃ j1 : Nat, x1 = nI j1 ∧ j1 < 84 ∧ ∀ τ2 : ww_M, τ2 = ww_up τ (14, 0) j1 (nI 0) → ww_W g mX0_measure E (ww_QV Post) 19 [some (.inr (.inr (8, 0))), some (.inl x1), some (.inl (nI 0)), none] [] τ2)))) : ww_W g mX0_measure E (ww_QV Post) 2 [some (.inr (.inr (8, 0))), some (.inl x1), none, none] [] τ := by
  refine ww_iload_n 3 dX0_measure_2 rfl 1 rfl rfl ?_
  refine ww_aload_n 4 dX0_measure_3 rfl 0 rfl rfl ?_
  refine ww_getI 6 7 dX0_measure_4 wf_X0_69 (ww_i1 8 (by decide)) rfl rfl rfl ?_
  refine ww_ic_ge 77 10 dX0_measure_7 (by decide) rfl (fun c => ?_) (fun c => ?_)
  · replace h := h.1 c
    exact ww_vret dX0_measure_77 rfl ⟨rfl, h⟩
  · replace h := h.2 c
    refine ww_aload_n 11 dX0_measure_10 rfl 0 rfl rfl ?_
    refine ww_getR 9 14 dX0_measure_11 wf_X0_34 (ww_i1 8 (by decide)) rfl rfl rfl ?_
    refine ww_iload_n 15 dX0_measure_14 rfl 1 rfl rfl ?_
    refine ww_iconst (v := nI 0) 16 dX0_measure_15 (by decide) rfl ?_
    obtain ⟨j1, hij1, hj1, h⟩ := h
    refine ww_iast j1 17 dX0_measure_16 (ww_i1 14 (by decide)) rfl (by decide) hij1 hj1 rfl (fun τ2 eτ2 => ?_)
    replace h := h τ2 eτ2
    refine ww_iconst (v := nI 0) 18 dX0_measure_17 (by decide) rfl ?_
    refine ww_istore_n 19 dX0_measure_18 rfl 2 rfl (by decide) rfl [some (.inr (.inr (8, 0))), some (.inl x1), some (.inl (nI 0)), none] rfl ?_
    exact h
theorem b_X0_measure_19 {g : ww_G} {E : ww_E} {τ : ww_M} {x1 : Int32} {x2 : Int32} {Post : ww_M → Prop}  (h : ((x1 ≤ x2 → ww_W g mX0_measure E (ww_QV Post) 2 [some (.inr (.inr (8, 0))), some (.inl (x1 + nI 1)), none, none] [] τ) ∧ (¬ (x1 ≤ x2) → (∃ Q1 : Int32 → ww_M → Prop, ww_T E.2.1 g mX0_sharedStart [.inr (.inr (8, 0)), .inl x2, .inl x1] τ (ww_QI Q1) ∧ ∀ (v2 : Int32) (τ3 : ww_M), Q1 v2 τ3 → (∃ j4 : Nat, x1 = nI j4 ∧ j4 < 84 ∧ (∃ j5 : Nat, x1 = nI j5 ∧ j5 < 84 ∧ ∀ τ6 : ww_M, τ6 = ww_up τ3 (14, 0) j5 (if τ3 (14, 0) j4 < v2 then v2 else τ3 (14, 0) j4) → (∃ j7 : Nat, x2 = nI j7 ∧ j7 < 84 ∧ (∃ j8 : Nat, x1 = nI j8 ∧ j8 < 84 ∧ (∃ Q9 : ww_M → Prop, ww_T E.2.1 g mX0_notePiece [.inr (.inr (8, 0)), .inl ((τ6 (13, 0) j7) ||| (τ6 (13, 0) j8)), .inl v2] τ6 (ww_QV Q9) ∧ ∀ (τ10 : ww_M), Q9 τ10 → ww_W g mX0_measure E (ww_QV Post) 19 [some (.inr (.inr (8, 0))), some (.inl x1), some (.inl (x2 + nI 1)), none] [] τ10))))))))) : ww_W g mX0_measure E (ww_QV Post) 19 [some (.inr (.inr (8, 0))), some (.inl x1), some (.inl x2), none] [] τ := by
  refine ww_iload_n 20 dX0_measure_19 rfl 2 rfl rfl ?_
  refine ww_iload_n 21 dX0_measure_20 rfl 1 rfl rfl ?_
  refine ww_ic_ge 71 24 dX0_measure_21 (by decide) rfl (fun c => ?_) (fun c => ?_)
  · replace h := h.1 c
    refine ww_iinc (nI 1) 74 1 dX0_measure_71 (by decide) rfl rfl (by decide) rfl [some (.inr (.inr (8, 0))), some (.inl (x1 + nI 1)), some (.inl x2), none] rfl ?_
    refine ww_goto 2 dX0_measure_74 (by decide) ?_
    exact ww_weak (ww_le_s (ww_le_s (ww_le_n (ww_le_n (ww_le_nil _))))) h
  · replace h := h.2 c
    refine ww_aload_n 25 dX0_measure_24 rfl 0 rfl rfl ?_
    refine ww_iload_n 26 dX0_measure_25 rfl 2 rfl rfl ?_
    refine ww_iload_n 27 dX0_measure_26 rfl 1 rfl rfl ?_
    obtain ⟨Q1, hT, h⟩ := h
    refine ww_invVI (d' := mX0_sharedStart) [.inl x2, .inl x1] rfl 30 dX0_measure_27 ⟨wi_X0, wc_X0_sharedStart, wp_X0_sharedStart, by decide, by decide⟩ wl_X0_110 wn_X0_sharedStart we_X0_sharedStart (ww_i1 8 (by decide)) rfl rfl (Nat.le_of_ble_eq_true rfl) rfl hT (fun v2 τ3 hq => ?_)
    replace h := h v2 τ3 hq
    refine ww_istore_n 31 dX0_measure_30 rfl 3 rfl (by decide) rfl [some (.inr (.inr (8, 0))), some (.inl x1), some (.inl x2), some (.inl v2)] rfl ?_
    refine ww_aload_n 32 dX0_measure_31 rfl 0 rfl rfl ?_
    refine ww_getR 9 35 dX0_measure_32 wf_X0_34 (ww_i1 8 (by decide)) rfl rfl rfl ?_
    refine ww_iload_n 36 dX0_measure_35 rfl 1 rfl rfl ?_
    refine ww_aload_n 37 dX0_measure_36 rfl 0 rfl rfl ?_
    refine ww_getR 9 40 dX0_measure_37 wf_X0_34 (ww_i1 8 (by decide)) rfl rfl rfl ?_
    refine ww_iload_n 41 dX0_measure_40 rfl 1 rfl rfl ?_
    obtain ⟨j4, hij4, hj4, h⟩ := h
    refine ww_iald j4 42 dX0_measure_41 (ww_i1 14 (by decide)) rfl (by decide) hij4 hj4 rfl ?_
    refine ww_iload_n 43 dX0_measure_42 rfl 3 rfl rfl ?_
    refine ww_mmax 46 dX0_measure_43 wl_X0_113 ws_Math_max wi_J9 wc_Math_max (by decide) (Nat.le_of_ble_eq_true rfl) rfl ?_
    obtain ⟨j5, hij5, hj5, h⟩ := h
    refine ww_iast j5 47 dX0_measure_46 (ww_i1 14 (by decide)) rfl (by decide) hij5 hj5 rfl (fun τ6 eτ6 => ?_)
    replace h := h τ6 eτ6
    refine ww_aload_n 48 dX0_measure_47 rfl 0 rfl rfl ?_
    refine ww_aload_n 49 dX0_measure_48 rfl 0 rfl rfl ?_
    refine ww_getR 8 52 dX0_measure_49 wf_X0_31 (ww_i1 8 (by decide)) rfl rfl rfl ?_
    refine ww_iload_n 53 dX0_measure_52 rfl 2 rfl rfl ?_
    obtain ⟨j7, hij7, hj7, h⟩ := h
    refine ww_iald j7 54 dX0_measure_53 (ww_i1 13 (by decide)) rfl (by decide) hij7 hj7 rfl ?_
    refine ww_aload_n 55 dX0_measure_54 rfl 0 rfl rfl ?_
    refine ww_getR 8 58 dX0_measure_55 wf_X0_31 (ww_i1 8 (by decide)) rfl rfl rfl ?_
    refine ww_iload_n 59 dX0_measure_58 rfl 1 rfl rfl ?_
    obtain ⟨j8, hij8, hj8, h⟩ := h
    refine ww_iald j8 60 dX0_measure_59 (ww_i1 13 (by decide)) rfl (by decide) hij8 hj8 rfl ?_
    refine ww_ior 61 dX0_measure_60 rfl ?_
    refine ww_iload_n 62 dX0_measure_61 rfl 3 rfl rfl ?_
    obtain ⟨Q9, hT, h⟩ := h
    refine ww_invVV (d' := mX0_notePiece) [.inl ((τ6 (13, 0) j7) ||| (τ6 (13, 0) j8)), .inl v2] rfl 65 dX0_measure_62 ⟨wi_X0, wc_X0_notePiece, wp_X0_notePiece, by decide, by decide⟩ wl_X0_116 wn_X0_notePiece we_X0_notePiece (ww_i1 8 (by decide)) rfl rfl (Nat.le_of_ble_eq_true rfl) rfl hT (fun τ10 hq => ?_)
    replace h := h τ10 hq
    refine ww_iinc (nI 1) 68 2 dX0_measure_65 (by decide) rfl rfl (by decide) rfl [some (.inr (.inr (8, 0))), some (.inl x1), some (.inl (x2 + nI 1)), some (.inl v2)] rfl ?_
    refine ww_goto 19 dX0_measure_68 (by decide) ?_
    exact ww_weak (ww_le_s (ww_le_s (ww_le_s (ww_le_n (ww_le_nil _))))) h
theorem b_X0_notePiece {l : Launch} {g : ww_G} {τ : ww_M} {a1 : Int32} {a2 : Int32} {Post : ww_M → Prop}  (h : ∀ E : ww_E, ww_W g mX0_notePiece E (ww_QV Post) 2 [some (.inr (.inr (8, 0))), some (.inl a1), some (.inl a2), some (.inl (nI 0))] [] τ) : ww_T l g mX0_notePiece [.inr (.inr (8, 0)), .inl a1, .inl a2] τ (ww_QV Post) := by
  refine ww_enter (P := [some (.inr (.inr (8, 0))), some (.inl a1), some (.inl a2), none]) (by decide) (Nat.le_of_ble_eq_true rfl) rfl (fun E => ?_)
  replace h := h E
  refine ww_iconst (v := nI 0) 1 dX0_notePiece_0 (by decide) rfl ?_
  refine ww_istore_n 2 dX0_notePiece_1 rfl 3 rfl (by decide) rfl [some (.inr (.inr (8, 0))), some (.inl a1), some (.inl a2), some (.inl (nI 0))] rfl ?_
  exact h
theorem b_X0_notePiece_2 {g : ww_G} {E : ww_E} {τ : ww_M} {x1 : Int32} {x2 : Int32} {x3 : Int32} {Post : ww_M → Prop}  (h : ((τ (8, 0) 1 ≤ x3 → Post τ) ∧ (¬ (τ (8, 0) 1 ≤ x3) → ((¬ (x1 >>> (x3 &&& 31)) &&& (nI 1) = nI 1 → ww_W g mX0_notePiece E (ww_QV Post) 2 [some (.inr (.inr (8, 0))), some (.inl x1), some (.inl x2), some (.inl (x3 + nI 1))] [] τ) ∧ ((x1 >>> (x3 &&& 31)) &&& (nI 1) = nI 1 → (∃ j1 : Nat, x3 = nI j1 ∧ j1 < 3 ∧ (∃ j2 : Nat, x3 = nI j2 ∧ j2 < 3 ∧ ∀ τ3 : ww_M, τ3 = ww_up τ (10, 0) j2 (if τ (10, 0) j1 < x2 then x2 else τ (10, 0) j1) → ww_W g mX0_notePiece E (ww_QV Post) 2 [some (.inr (.inr (8, 0))), some (.inl x1), some (.inl x2), some (.inl (x3 + nI 1))] [] τ3))))))) : ww_W g mX0_notePiece E (ww_QV Post) 2 [some (.inr (.inr (8, 0))), some (.inl x1), some (.inl x2), some (.inl x3)] [] τ := by
  refine ww_iload_n 3 dX0_notePiece_2 rfl 3 rfl rfl ?_
  refine ww_aload_n 4 dX0_notePiece_3 rfl 0 rfl rfl ?_
  refine ww_getI 1 7 dX0_notePiece_4 wf_X0_66 (ww_i1 8 (by decide)) rfl rfl rfl ?_
  refine ww_ic_ge 41 10 dX0_notePiece_7 (by decide) rfl (fun c => ?_) (fun c => ?_)
  · replace h := h.1 c
    exact ww_vret dX0_notePiece_41 rfl ⟨rfl, h⟩
  · replace h := h.2 c
    refine ww_iload_n 11 dX0_notePiece_10 rfl 1 rfl rfl ?_
    refine ww_iload_n 12 dX0_notePiece_11 rfl 3 rfl rfl ?_
    refine ww_ishr 13 dX0_notePiece_12 rfl ?_
    refine ww_iconst (v := nI 1) 14 dX0_notePiece_13 (by decide) rfl ?_
    refine ww_iand 15 dX0_notePiece_14 rfl ?_
    refine ww_iconst (v := nI 1) 16 dX0_notePiece_15 (by decide) rfl ?_
    refine ww_ic_ne 35 19 dX0_notePiece_16 (by decide) rfl (fun c => ?_) (fun c => ?_)
    · replace h := h.1 c
      refine ww_iinc (nI 1) 38 3 dX0_notePiece_35 (by decide) rfl rfl (by decide) rfl [some (.inr (.inr (8, 0))), some (.inl x1), some (.inl x2), some (.inl (x3 + nI 1))] rfl ?_
      refine ww_goto 2 dX0_notePiece_38 (by decide) ?_
      exact h
    · replace h := h.2 c
      refine ww_aload_n 20 dX0_notePiece_19 rfl 0 rfl rfl ?_
      refine ww_getR 2 23 dX0_notePiece_20 wf_X0_9 (ww_i1 8 (by decide)) rfl rfl rfl ?_
      refine ww_iload_n 24 dX0_notePiece_23 rfl 3 rfl rfl ?_
      refine ww_aload_n 25 dX0_notePiece_24 rfl 0 rfl rfl ?_
      refine ww_getR 2 28 dX0_notePiece_25 wf_X0_9 (ww_i1 8 (by decide)) rfl rfl rfl ?_
      refine ww_iload_n 29 dX0_notePiece_28 rfl 3 rfl rfl ?_
      obtain ⟨j1, hij1, hj1, h⟩ := h
      refine ww_iald j1 30 dX0_notePiece_29 (ww_i1 10 (by decide)) rfl (by decide) hij1 hj1 rfl ?_
      refine ww_iload_n 31 dX0_notePiece_30 rfl 2 rfl rfl ?_
      refine ww_mmax 34 dX0_notePiece_31 wl_X0_113 ws_Math_max wi_J9 wc_Math_max (by decide) (Nat.le_of_ble_eq_true rfl) rfl ?_
      obtain ⟨j2, hij2, hj2, h⟩ := h
      refine ww_iast j2 35 dX0_notePiece_34 (ww_i1 10 (by decide)) rfl (by decide) hij2 hj2 rfl (fun τ3 eτ3 => ?_)
      replace h := h τ3 eτ3
      refine ww_iinc (nI 1) 38 3 dX0_notePiece_35 (by decide) rfl rfl (by decide) rfl [some (.inr (.inr (8, 0))), some (.inl x1), some (.inl x2), some (.inl (x3 + nI 1))] rfl ?_
      refine ww_goto 2 dX0_notePiece_38 (by decide) ?_
      exact h
theorem b_X0_has {l : Launch} {g : ww_G} {τ : ww_M} {a1 : Int32} {Post : Int32 → ww_M → Prop}  (h : ∀ E : ww_E, ((a1 < nI 0 → Post (nI 0) τ) ∧ (¬ (a1 < nI 0) → ((τ (8, 0) 6 ≤ a1 → Post (nI 0) τ) ∧ (¬ (τ (8, 0) 6 ≤ a1) → Post (nI 1) τ))))) : ww_T l g mX0_has [.inr (.inr (8, 0)), .inl a1] τ (ww_QI Post) := by
  refine ww_enter (P := [some (.inr (.inr (8, 0))), some (.inl a1)]) (by decide) (Nat.le_of_ble_eq_true rfl) rfl (fun E => ?_)
  replace h := h E
  refine ww_iload_n 1 dX0_has_0 rfl 1 rfl rfl ?_
  refine ww_if_lt 16 4 dX0_has_1 (by decide) rfl (fun c => ?_) (fun c => ?_)
  · replace h := h.1 c
    refine ww_iconst (v := nI 0) 17 dX0_has_16 (by decide) rfl ?_
    exact ww_zret dX0_has_17 rfl (Or.inl rfl) ⟨_, rfl, h⟩
  · replace h := h.2 c
    refine ww_iload_n 5 dX0_has_4 rfl 1 rfl rfl ?_
    refine ww_aload_n 6 dX0_has_5 rfl 0 rfl rfl ?_
    refine ww_getI 6 9 dX0_has_6 wf_X0_69 (ww_i1 8 (by decide)) rfl rfl rfl ?_
    refine ww_ic_ge 16 12 dX0_has_9 (by decide) rfl (fun c => ?_) (fun c => ?_)
    · replace h := h.1 c
      refine ww_iconst (v := nI 0) 17 dX0_has_16 (by decide) rfl ?_
      exact ww_zret dX0_has_17 rfl (Or.inl rfl) ⟨_, rfl, h⟩
    · replace h := h.2 c
      refine ww_iconst (v := nI 1) 13 dX0_has_12 (by decide) rfl ?_
      refine ww_goto 17 dX0_has_13 (by decide) ?_
      exact ww_zret dX0_has_17 rfl (Or.inr rfl) ⟨_, rfl, h⟩
theorem b_X0_sizeOf {l : Launch} {g : ww_G} {τ : ww_M} {a1 : Int32} {Post : Int32 → ww_M → Prop}  (h : ∀ E : ww_E, (∃ Q1 : Int32 → ww_M → Prop, ww_T E.2.1 g mX0_has [.inr (.inr (8, 0)), .inl a1] τ (ww_QI Q1) ∧ ∀ (v2 : Int32) (τ3 : ww_M), Q1 v2 τ3 → (v2 = nI 0 → Post (nI 0) τ3) ∧ (¬ v2 = nI 0 → (∃ j4 : Nat, a1 = nI j4 ∧ j4 < 84 ∧ Post (τ3 (21, 20 + j4) 1) τ3)))) : ww_T l g mX0_sizeOf [.inr (.inr (8, 0)), .inl a1] τ (ww_QI Post) := by
  refine ww_enter (P := [some (.inr (.inr (8, 0))), some (.inl a1)]) (by decide) (Nat.le_of_ble_eq_true rfl) rfl (fun E => ?_)
  replace h := h E
  refine ww_aload_n 1 dX0_sizeOf_0 rfl 0 rfl rfl ?_
  refine ww_iload_n 2 dX0_sizeOf_1 rfl 1 rfl rfl ?_
  obtain ⟨Q1, hT, h⟩ := h
  refine ww_invVI (d' := mX0_has) [.inl a1] rfl 5 dX0_sizeOf_2 ⟨wi_X0, wc_X0_has, wp_X0_has, by decide, by decide⟩ wl_X0_120 wn_X0_has we_X0_has (ww_i1 8 (by decide)) rfl rfl (Nat.le_of_ble_eq_true rfl) rfl hT (fun v2 τ3 hq => ?_)
  replace h := h v2 τ3 hq
  refine ww_if_eq 20 8 dX0_sizeOf_5 (by decide) rfl (fun c => ?_) (fun c => ?_)
  · replace h := h.1 c
    refine ww_iconst (v := nI 0) 21 dX0_sizeOf_20 (by decide) rfl ?_
    exact ww_iret dX0_sizeOf_21 rfl ⟨_, rfl, h⟩
  · replace h := h.2 c
    refine ww_aload_n 9 dX0_sizeOf_8 rfl 0 rfl rfl ?_
    refine ww_getR 5 12 dX0_sizeOf_9 wf_X0_52 (ww_i1 8 (by decide)) rfl rfl rfl ?_
    refine ww_iload_n 13 dX0_sizeOf_12 rfl 1 rfl rfl ?_
    obtain ⟨j4, hij4, hj4, h⟩ := h
    refine ww_aald j4 14 dX0_sizeOf_13 (ww_i1 12 (by decide)) rfl (Or.inl rfl) (by decide) hij4 hj4 rfl ?_
    refine ww_getI 1 17 dX0_sizeOf_14 wf_X0_90 (show ww_in (21, 20 + j4) from (show 20 + j4 < 104 by omega)) rfl rfl rfl ?_
    refine ww_goto 21 dX0_sizeOf_17 (by decide) ?_
    exact ww_iret dX0_sizeOf_21 rfl ⟨_, rfl, h⟩
theorem b_X0_letterOf {l : Launch} {g : ww_G} {τ : ww_M} {a1 : Int32} {a2 : Int32} {Post : Int32 → ww_M → Prop}  (h : ∀ E : ww_E, (∃ Q1 : Int32 → ww_M → Prop, ww_T E.2.1 g mX0_has [.inr (.inr (8, 0)), .inl a1] τ (ww_QI Q1) ∧ ∀ (v2 : Int32) (τ3 : ww_M), Q1 v2 τ3 → (v2 = nI 0 → Post (-1 : Int32) τ3) ∧ (¬ v2 = nI 0 → (∃ j4 : Nat, a1 = nI j4 ∧ j4 < 84 ∧ (∃ Q5 : Int32 → ww_M → Prop, ww_T E.2.1 g mX2_at [.inr (.inr (21, 20 + j4)), .inl a2] τ3 (ww_QI Q5) ∧ ∀ (v6 : Int32) (τ7 : ww_M), Q5 v6 τ7 → Post v6 τ7))))) : ww_T l g mX0_letterOf [.inr (.inr (8, 0)), .inl a1, .inl a2] τ (ww_QI Post) := by
  refine ww_enter (P := [some (.inr (.inr (8, 0))), some (.inl a1), some (.inl a2)]) (by decide) (Nat.le_of_ble_eq_true rfl) rfl (fun E => ?_)
  replace h := h E
  refine ww_aload_n 1 dX0_letterOf_0 rfl 0 rfl rfl ?_
  refine ww_iload_n 2 dX0_letterOf_1 rfl 1 rfl rfl ?_
  obtain ⟨Q1, hT, h⟩ := h
  refine ww_invVI (d' := mX0_has) [.inl a1] rfl 5 dX0_letterOf_2 ⟨wi_X0, wc_X0_has, wp_X0_has, by decide, by decide⟩ wl_X0_120 wn_X0_has we_X0_has (ww_i1 8 (by decide)) rfl rfl (Nat.le_of_ble_eq_true rfl) rfl hT (fun v2 τ3 hq => ?_)
  replace h := h v2 τ3 hq
  refine ww_if_eq 21 8 dX0_letterOf_5 (by decide) rfl (fun c => ?_) (fun c => ?_)
  · replace h := h.1 c
    refine ww_iconst (v := (-1 : Int32)) 22 dX0_letterOf_21 (by decide) rfl ?_
    exact ww_iret dX0_letterOf_22 rfl ⟨_, rfl, h⟩
  · replace h := h.2 c
    refine ww_aload_n 9 dX0_letterOf_8 rfl 0 rfl rfl ?_
    refine ww_getR 5 12 dX0_letterOf_9 wf_X0_52 (ww_i1 8 (by decide)) rfl rfl rfl ?_
    refine ww_iload_n 13 dX0_letterOf_12 rfl 1 rfl rfl ?_
    obtain ⟨j4, hij4, hj4, h⟩ := h
    refine ww_aald j4 14 dX0_letterOf_13 (ww_i1 12 (by decide)) rfl (Or.inl rfl) (by decide) hij4 hj4 rfl ?_
    refine ww_iload_n 15 dX0_letterOf_14 rfl 2 rfl rfl ?_
    obtain ⟨Q5, hT, h⟩ := h
    refine ww_invVI (d' := mX2_at) [.inl a2] rfl 18 dX0_letterOf_15 ⟨wi_X2, wc_X2_at, wp_X2_at, by decide, by decide⟩ wl_X0_99 wn_X2_at we_X2_at (show ww_in (21, 20 + j4) from (show 20 + j4 < 104 by omega)) rfl rfl (Nat.le_of_ble_eq_true rfl) rfl hT (fun v6 τ7 hq => ?_)
    replace h := h v6 τ7 hq
    refine ww_goto 22 dX0_letterOf_18 (by decide) ?_
    exact ww_iret dX0_letterOf_22 rfl ⟨_, rfl, h⟩
theorem b_X0_sharedStart {l : Launch} {g : ww_G} {τ : ww_M} {a1 : Int32} {a2 : Int32} {Post : Int32 → ww_M → Prop}  (h : ∀ E : ww_E, (∃ Q1 : Int32 → ww_M → Prop, ww_T E.2.1 g mX0_has [.inr (.inr (8, 0)), .inl a1] τ (ww_QI Q1) ∧ ∀ (v2 : Int32) (τ3 : ww_M), Q1 v2 τ3 → (v2 = nI 0 → Post (nI 0) τ3) ∧ (¬ v2 = nI 0 → (∃ Q4 : Int32 → ww_M → Prop, ww_T E.2.1 g mX0_has [.inr (.inr (8, 0)), .inl a2] τ3 (ww_QI Q4) ∧ ∀ (v5 : Int32) (τ6 : ww_M), Q4 v5 τ6 → (v5 = nI 0 → Post (nI 0) τ6) ∧ (¬ v5 = nI 0 → (∃ j7 : Nat, a1 = nI j7 ∧ j7 < 84 ∧ (∃ j8 : Nat, a2 = nI j8 ∧ j8 < 84 ∧ (∃ Q9 : Int32 → ww_M → Prop, ww_T E.2.1 g mX2_likeFrom [.inr (.inr (21, 20 + j7)), .inl (nI 0), .inr (.inr (21, 20 + j8))] τ6 (ww_QI Q9) ∧ ∀ (v10 : Int32) (τ11 : ww_M), Q9 v10 τ11 → Post v10 τ11)))))))) : ww_T l g mX0_sharedStart [.inr (.inr (8, 0)), .inl a1, .inl a2] τ (ww_QI Post) := by
  refine ww_enter (P := [some (.inr (.inr (8, 0))), some (.inl a1), some (.inl a2)]) (by decide) (Nat.le_of_ble_eq_true rfl) rfl (fun E => ?_)
  replace h := h E
  refine ww_aload_n 1 dX0_sharedStart_0 rfl 0 rfl rfl ?_
  refine ww_iload_n 2 dX0_sharedStart_1 rfl 1 rfl rfl ?_
  obtain ⟨Q1, hT, h⟩ := h
  refine ww_invVI (d' := mX0_has) [.inl a1] rfl 5 dX0_sharedStart_2 ⟨wi_X0, wc_X0_has, wp_X0_has, by decide, by decide⟩ wl_X0_120 wn_X0_has we_X0_has (ww_i1 8 (by decide)) rfl rfl (Nat.le_of_ble_eq_true rfl) rfl hT (fun v2 τ3 hq => ?_)
  replace h := h v2 τ3 hq
  refine ww_if_eq 35 8 dX0_sharedStart_5 (by decide) rfl (fun c => ?_) (fun c => ?_)
  · replace h := h.1 c
    refine ww_iconst (v := nI 0) 36 dX0_sharedStart_35 (by decide) rfl ?_
    exact ww_iret dX0_sharedStart_36 rfl ⟨_, rfl, h⟩
  · replace h := h.2 c
    refine ww_aload_n 9 dX0_sharedStart_8 rfl 0 rfl rfl ?_
    refine ww_iload_n 10 dX0_sharedStart_9 rfl 2 rfl rfl ?_
    obtain ⟨Q4, hT, h⟩ := h
    refine ww_invVI (d' := mX0_has) [.inl a2] rfl 13 dX0_sharedStart_10 ⟨wi_X0, wc_X0_has, wp_X0_has, by decide, by decide⟩ wl_X0_120 wn_X0_has we_X0_has (ww_i1 8 (by decide)) rfl rfl (Nat.le_of_ble_eq_true rfl) rfl hT (fun v5 τ6 hq => ?_)
    replace h := h v5 τ6 hq
    refine ww_if_eq 35 16 dX0_sharedStart_13 (by decide) rfl (fun c => ?_) (fun c => ?_)
    · replace h := h.1 c
      refine ww_iconst (v := nI 0) 36 dX0_sharedStart_35 (by decide) rfl ?_
      exact ww_iret dX0_sharedStart_36 rfl ⟨_, rfl, h⟩
    · replace h := h.2 c
      refine ww_aload_n 17 dX0_sharedStart_16 rfl 0 rfl rfl ?_
      refine ww_getR 5 20 dX0_sharedStart_17 wf_X0_52 (ww_i1 8 (by decide)) rfl rfl rfl ?_
      refine ww_iload_n 21 dX0_sharedStart_20 rfl 1 rfl rfl ?_
      obtain ⟨j7, hij7, hj7, h⟩ := h
      refine ww_aald j7 22 dX0_sharedStart_21 (ww_i1 12 (by decide)) rfl (Or.inl rfl) (by decide) hij7 hj7 rfl ?_
      refine ww_iconst (v := nI 0) 23 dX0_sharedStart_22 (by decide) rfl ?_
      refine ww_aload_n 24 dX0_sharedStart_23 rfl 0 rfl rfl ?_
      refine ww_getR 5 27 dX0_sharedStart_24 wf_X0_52 (ww_i1 8 (by decide)) rfl rfl rfl ?_
      refine ww_iload_n 28 dX0_sharedStart_27 rfl 2 rfl rfl ?_
      obtain ⟨j8, hij8, hj8, h⟩ := h
      refine ww_aald j8 29 dX0_sharedStart_28 (ww_i1 12 (by decide)) rfl (Or.inl rfl) (by decide) hij8 hj8 rfl ?_
      obtain ⟨Q9, hT, h⟩ := h
      refine ww_invVI (d' := mX2_likeFrom) [.inl (nI 0), .inr (.inr (21, 20 + j8))] rfl 32 dX0_sharedStart_29 ⟨wi_X2, wc_X2_likeFrom, wp_X2_likeFrom, by decide, by decide⟩ wl_X0_124 wn_X2_likeFrom we_X2_likeFrom (show ww_in (21, 20 + j7) from (show 20 + j7 < 104 by omega)) rfl rfl (Nat.le_of_ble_eq_true rfl) rfl hT (fun v10 τ11 hq => ?_)
      replace h := h v10 τ11 hq
      refine ww_goto 36 dX0_sharedStart_32 (by decide) ?_
      exact ww_iret dX0_sharedStart_36 rfl ⟨_, rfl, h⟩
theorem b_X0_matchAt {l : Launch} {g : ww_G} {τ : ww_M} {r1 : Nat} {a2 : Int32} {a3 : Int32} {Post : Int32 → ww_M → Prop} (hr1 : r1 < 104) (h : ∀ E : ww_E, (∃ Q1 : Int32 → ww_M → Prop, ww_T E.2.1 g mX0_has [.inr (.inr (8, 0)), .inl a3] τ (ww_QI Q1) ∧ ∀ (v2 : Int32) (τ3 : ww_M), Q1 v2 τ3 → (v2 = nI 0 → Post (nI 0) τ3) ∧ (¬ v2 = nI 0 → (∃ j4 : Nat, a3 = nI j4 ∧ j4 < 84 ∧ (∃ Q5 : Int32 → ww_M → Prop, ww_T E.2.1 g mX2_likeFrom [.inr (.inr (21, r1)), .inl a2, .inr (.inr (21, 20 + j4))] τ3 (ww_QI Q5) ∧ ∀ (v6 : Int32) (τ7 : ww_M), Q5 v6 τ7 → Post v6 τ7))))) : ww_T l g mX0_matchAt [.inr (.inr (8, 0)), .inr (.inr (21, r1)), .inl a2, .inl a3] τ (ww_QI Post) := by
  refine ww_enter (P := [some (.inr (.inr (8, 0))), some (.inr (.inr (21, r1))), some (.inl a2), some (.inl a3)]) (by decide) (Nat.le_of_ble_eq_true rfl) rfl (fun E => ?_)
  replace h := h E
  refine ww_aload_n 1 dX0_matchAt_0 rfl 0 rfl rfl ?_
  refine ww_iload_n 2 dX0_matchAt_1 rfl 3 rfl rfl ?_
  obtain ⟨Q1, hT, h⟩ := h
  refine ww_invVI (d' := mX0_has) [.inl a3] rfl 5 dX0_matchAt_2 ⟨wi_X0, wc_X0_has, wp_X0_has, by decide, by decide⟩ wl_X0_120 wn_X0_has we_X0_has (ww_i1 8 (by decide)) rfl rfl (Nat.le_of_ble_eq_true rfl) rfl hT (fun v2 τ3 hq => ?_)
  replace h := h v2 τ3 hq
  refine ww_if_eq 22 8 dX0_matchAt_5 (by decide) rfl (fun c => ?_) (fun c => ?_)
  · replace h := h.1 c
    refine ww_iconst (v := nI 0) 23 dX0_matchAt_22 (by decide) rfl ?_
    exact ww_iret dX0_matchAt_23 rfl ⟨_, rfl, h⟩
  · replace h := h.2 c
    refine ww_aload_n 9 dX0_matchAt_8 rfl 1 rfl rfl ?_
    refine ww_iload_n 10 dX0_matchAt_9 rfl 2 rfl rfl ?_
    refine ww_aload_n 11 dX0_matchAt_10 rfl 0 rfl rfl ?_
    refine ww_getR 5 14 dX0_matchAt_11 wf_X0_52 (ww_i1 8 (by decide)) rfl rfl rfl ?_
    refine ww_iload_n 15 dX0_matchAt_14 rfl 3 rfl rfl ?_
    obtain ⟨j4, hij4, hj4, h⟩ := h
    refine ww_aald j4 16 dX0_matchAt_15 (ww_i1 12 (by decide)) rfl (Or.inl rfl) (by decide) hij4 hj4 rfl ?_
    obtain ⟨Q5, hT, h⟩ := h
    refine ww_invVI (d' := mX2_likeFrom) [.inl a2, .inr (.inr (21, 20 + j4))] rfl 19 dX0_matchAt_16 ⟨wi_X2, wc_X2_likeFrom, wp_X2_likeFrom, by decide, by decide⟩ wl_X0_124 wn_X2_likeFrom we_X2_likeFrom (show ww_in (21, r1) from (show r1 < 104 by omega)) rfl rfl (Nat.le_of_ble_eq_true rfl) rfl hT (fun v6 τ7 hq => ?_)
    replace h := h v6 τ7 hq
    refine ww_goto 23 dX0_matchAt_19 (by decide) ?_
    exact ww_iret dX0_matchAt_23 rfl ⟨_, rfl, h⟩
theorem b_X0_beginsFresh {l : Launch} {g : ww_G} {τ : ww_M} {a1 : Int32} {a2 : Int32} {Post : Int32 → ww_M → Prop}  (h : ∀ E : ww_E, (∃ Q1 : Int32 → ww_M → Prop, ww_T E.2.1 g mX0_sizeOf [.inr (.inr (8, 0)), .inl a1] τ (ww_QI Q1) ∧ ∀ (v2 : Int32) (τ3 : ww_M), Q1 v2 τ3 → (v2 < a2 → Post (nI 0) τ3) ∧ (¬ (v2 < a2) → (∃ Q4 : Int32 → ww_M → Prop, ww_T E.2.1 g mX0_has [.inr (.inr (8, 0)), .inl a1] τ3 (ww_QI Q4) ∧ ∀ (v5 : Int32) (τ6 : ww_M), Q4 v5 τ6 → (v5 = nI 0 → Post (nI 0) τ6) ∧ (¬ v5 = nI 0 → (∃ j7 : Nat, a1 = nI j7 ∧ j7 < 84 ∧ (a2 ≤ τ6 (14, 0) j7 → Post (nI 0) τ6) ∧ (¬ (a2 ≤ τ6 (14, 0) j7) → Post (nI 1) τ6))))))) : ww_T l g mX0_beginsFresh [.inr (.inr (8, 0)), .inl a1, .inl a2] τ (ww_QI Post) := by
  refine ww_enter (P := [some (.inr (.inr (8, 0))), some (.inl a1), some (.inl a2)]) (by decide) (Nat.le_of_ble_eq_true rfl) rfl (fun E => ?_)
  replace h := h E
  refine ww_aload_n 1 dX0_beginsFresh_0 rfl 0 rfl rfl ?_
  refine ww_iload_n 2 dX0_beginsFresh_1 rfl 1 rfl rfl ?_
  obtain ⟨Q1, hT, h⟩ := h
  refine ww_invVI (d' := mX0_sizeOf) [.inl a1] rfl 5 dX0_beginsFresh_2 ⟨wi_X0, wc_X0_sizeOf, wp_X0_sizeOf, by decide, by decide⟩ wl_X0_128 wn_X0_sizeOf we_X0_sizeOf (ww_i1 8 (by decide)) rfl rfl (Nat.le_of_ble_eq_true rfl) rfl hT (fun v2 τ3 hq => ?_)
  replace h := h v2 τ3 hq
  refine ww_iload_n 6 dX0_beginsFresh_5 rfl 2 rfl rfl ?_
  refine ww_ic_lt 31 9 dX0_beginsFresh_6 (by decide) rfl (fun c => ?_) (fun c => ?_)
  · replace h := h.1 c
    refine ww_iconst (v := nI 0) 32 dX0_beginsFresh_31 (by decide) rfl ?_
    exact ww_zret dX0_beginsFresh_32 rfl (Or.inl rfl) ⟨_, rfl, h⟩
  · replace h := h.2 c
    refine ww_aload_n 10 dX0_beginsFresh_9 rfl 0 rfl rfl ?_
    refine ww_iload_n 11 dX0_beginsFresh_10 rfl 1 rfl rfl ?_
    obtain ⟨Q4, hT, h⟩ := h
    refine ww_invVI (d' := mX0_has) [.inl a1] rfl 14 dX0_beginsFresh_11 ⟨wi_X0, wc_X0_has, wp_X0_has, by decide, by decide⟩ wl_X0_120 wn_X0_has we_X0_has (ww_i1 8 (by decide)) rfl rfl (Nat.le_of_ble_eq_true rfl) rfl hT (fun v5 τ6 hq => ?_)
    replace h := h v5 τ6 hq
    refine ww_if_eq 31 17 dX0_beginsFresh_14 (by decide) rfl (fun c => ?_) (fun c => ?_)
    · replace h := h.1 c
      refine ww_iconst (v := nI 0) 32 dX0_beginsFresh_31 (by decide) rfl ?_
      exact ww_zret dX0_beginsFresh_32 rfl (Or.inl rfl) ⟨_, rfl, h⟩
    · replace h := h.2 c
      refine ww_aload_n 18 dX0_beginsFresh_17 rfl 0 rfl rfl ?_
      refine ww_getR 9 21 dX0_beginsFresh_18 wf_X0_34 (ww_i1 8 (by decide)) rfl rfl rfl ?_
      refine ww_iload_n 22 dX0_beginsFresh_21 rfl 1 rfl rfl ?_
      obtain ⟨j7, hij7, hj7, h⟩ := h
      refine ww_iald j7 23 dX0_beginsFresh_22 (ww_i1 14 (by decide)) rfl (by decide) hij7 hj7 rfl ?_
      refine ww_iload_n 24 dX0_beginsFresh_23 rfl 2 rfl rfl ?_
      refine ww_ic_ge 31 27 dX0_beginsFresh_24 (by decide) rfl (fun c => ?_) (fun c => ?_)
      · replace h := h.1 c
        refine ww_iconst (v := nI 0) 32 dX0_beginsFresh_31 (by decide) rfl ?_
        exact ww_zret dX0_beginsFresh_32 rfl (Or.inl rfl) ⟨_, rfl, h⟩
      · replace h := h.2 c
        refine ww_iconst (v := nI 1) 28 dX0_beginsFresh_27 (by decide) rfl ?_
        refine ww_goto 32 dX0_beginsFresh_28 (by decide) ?_
        exact ww_zret dX0_beginsFresh_32 rfl (Or.inr rfl) ⟨_, rfl, h⟩
theorem b_X0_startersWith {l : Launch} {g : ww_G} {τ : ww_M} {a1 : Int32} {Post : Int32 → ww_M → Prop}  (h : ∀ E : ww_E, ((a1 < nI 0 → Post (nI 0) τ) ∧ (¬ (a1 < nI 0) → ((nI 8 ≤ a1 → Post (nI 0) τ) ∧ (¬ (nI 8 ≤ a1) → (∃ j1 : Nat, a1 = nI j1 ∧ j1 < 8 ∧ Post (τ (17, 0) j1) τ)))))) : ww_T l g mX0_startersWith [.inr (.inr (8, 0)), .inl a1] τ (ww_QI Post) := by
  refine ww_enter (P := [some (.inr (.inr (8, 0))), some (.inl a1)]) (by decide) (Nat.le_of_ble_eq_true rfl) rfl (fun E => ?_)
  replace h := h E
  refine ww_iload_n 1 dX0_startersWith_0 rfl 1 rfl rfl ?_
  refine ww_if_lt 19 4 dX0_startersWith_1 (by decide) rfl (fun c => ?_) (fun c => ?_)
  · replace h := h.1 c
    refine ww_iconst (v := nI 0) 20 dX0_startersWith_19 (by decide) rfl ?_
    exact ww_iret dX0_startersWith_20 rfl ⟨_, rfl, h⟩
  · replace h := h.2 c
    refine ww_iload_n 5 dX0_startersWith_4 rfl 1 rfl rfl ?_
    refine ww_bipush (v := nI 8) 7 dX0_startersWith_5 (by decide) rfl ?_
    refine ww_ic_ge 19 10 dX0_startersWith_7 (by decide) rfl (fun c => ?_) (fun c => ?_)
    · replace h := h.1 c
      refine ww_iconst (v := nI 0) 20 dX0_startersWith_19 (by decide) rfl ?_
      exact ww_iret dX0_startersWith_20 rfl ⟨_, rfl, h⟩
    · replace h := h.2 c
      refine ww_aload_n 11 dX0_startersWith_10 rfl 0 rfl rfl ?_
      refine ww_getR 11 14 dX0_startersWith_11 wf_X0_42 (ww_i1 8 (by decide)) rfl rfl rfl ?_
      refine ww_iload_n 15 dX0_startersWith_14 rfl 1 rfl rfl ?_
      obtain ⟨j1, hij1, hj1, h⟩ := h
      refine ww_iald j1 16 dX0_startersWith_15 (ww_i1 17 (by decide)) rfl (by decide) hij1 hj1 rfl ?_
      refine ww_goto 20 dX0_startersWith_16 (by decide) ?_
      exact ww_iret dX0_startersWith_20 rfl ⟨_, rfl, h⟩
theorem b_X0_starter {l : Launch} {g : ww_G} {τ : ww_M} {a1 : Int32} {a2 : Int32} {Post : Int32 → ww_M → Prop}  (h : ∀ E : ww_E, ((a2 < nI 0 → Post (-1 : Int32) τ) ∧ (¬ (a2 < nI 0) → (∃ Q1 : Int32 → ww_M → Prop, ww_T E.2.1 g mX0_startersWith [.inr (.inr (8, 0)), .inl a1] τ (ww_QI Q1) ∧ ∀ (v2 : Int32) (τ3 : ww_M), Q1 v2 τ3 → (v2 ≤ a2 → Post (-1 : Int32) τ3) ∧ (¬ (v2 ≤ a2) → (∃ j4 : Nat, a1 = nI j4 ∧ j4 < 8 ∧ (∃ j5 : Nat, a2 = nI j5 ∧ j5 < 84 ∧ Post (τ3 (16, j4) j5) τ3))))))) : ww_T l g mX0_starter [.inr (.inr (8, 0)), .inl a1, .inl a2] τ (ww_QI Post) := by
  refine ww_enter (P := [some (.inr (.inr (8, 0))), some (.inl a1), some (.inl a2)]) (by decide) (Nat.le_of_ble_eq_true rfl) rfl (fun E => ?_)
  replace h := h E
  refine ww_iload_n 1 dX0_starter_0 rfl 2 rfl rfl ?_
  refine ww_if_lt 24 4 dX0_starter_1 (by decide) rfl (fun c => ?_) (fun c => ?_)
  · replace h := h.1 c
    refine ww_iconst (v := (-1 : Int32)) 25 dX0_starter_24 (by decide) rfl ?_
    exact ww_iret dX0_starter_25 rfl ⟨_, rfl, h⟩
  · replace h := h.2 c
    refine ww_iload_n 5 dX0_starter_4 rfl 2 rfl rfl ?_
    refine ww_aload_n 6 dX0_starter_5 rfl 0 rfl rfl ?_
    refine ww_iload_n 7 dX0_starter_6 rfl 1 rfl rfl ?_
    obtain ⟨Q1, hT, h⟩ := h
    refine ww_invVI (d' := mX0_startersWith) [.inl a1] rfl 10 dX0_starter_7 ⟨wi_X0, wc_X0_startersWith, wp_X0_startersWith, by decide, by decide⟩ wl_X0_131 wn_X0_startersWith we_X0_startersWith (ww_i1 8 (by decide)) rfl rfl (Nat.le_of_ble_eq_true rfl) rfl hT (fun v2 τ3 hq => ?_)
    replace h := h v2 τ3 hq
    refine ww_ic_ge 24 13 dX0_starter_10 (by decide) rfl (fun c => ?_) (fun c => ?_)
    · replace h := h.1 c
      refine ww_iconst (v := (-1 : Int32)) 25 dX0_starter_24 (by decide) rfl ?_
      exact ww_iret dX0_starter_25 rfl ⟨_, rfl, h⟩
    · replace h := h.2 c
      refine ww_aload_n 14 dX0_starter_13 rfl 0 rfl rfl ?_
      refine ww_getR 10 17 dX0_starter_14 wf_X0_39 (ww_i1 8 (by decide)) rfl rfl rfl ?_
      refine ww_iload_n 18 dX0_starter_17 rfl 1 rfl rfl ?_
      obtain ⟨j4, hij4, hj4, h⟩ := h
      refine ww_aald j4 19 dX0_starter_18 (ww_i1 15 (by decide)) rfl (Or.inr rfl) (by decide) hij4 hj4 rfl ?_
      refine ww_iload_n 20 dX0_starter_19 rfl 2 rfl rfl ?_
      obtain ⟨j5, hij5, hj5, h⟩ := h
      refine ww_iald j5 21 dX0_starter_20 (show ww_in (16, j4) from (show j4 < 8 by omega)) rfl (by decide) hij5 hj5 rfl ?_
      refine ww_goto 25 dX0_starter_21 (by decide) ?_
      exact ww_iret dX0_starter_25 rfl ⟨_, rfl, h⟩
theorem b_X0_areGood {l : Launch} {g : ww_G} {τ : ww_M} {a1 : Int32} {Post : Int32 → ww_M → Prop}  (h : ∀ E : ww_E, ww_W g mX0_areGood E (ww_QI Post) 2 [some (.inr (.inr (8, 0))), some (.inl a1), some (.inl (nI 0))] [] τ) : ww_T l g mX0_areGood [.inr (.inr (8, 0)), .inl a1] τ (ww_QI Post) := by
  refine ww_enter (P := [some (.inr (.inr (8, 0))), some (.inl a1), none]) (by decide) (Nat.le_of_ble_eq_true rfl) rfl (fun E => ?_)
  replace h := h E
  refine ww_iconst (v := nI 0) 1 dX0_areGood_0 (by decide) rfl ?_
  refine ww_istore_n 2 dX0_areGood_1 rfl 2 rfl (by decide) rfl [some (.inr (.inr (8, 0))), some (.inl a1), some (.inl (nI 0))] rfl ?_
  exact h
theorem b_X0_areGood_2 {g : ww_G} {E : ww_E} {τ : ww_M} {x1 : Int32} {x2 : Int32} {Post : Int32 → ww_M → Prop}  (h : ((τ (8, 0) 1 ≤ x2 → Post (nI 1) τ) ∧ (¬ (τ (8, 0) 1 ≤ x2) → (∃ j1 : Nat, x2 = nI j1 ∧ j1 < 3 ∧ (∃ j2 : Nat, x2 = nI j2 ∧ j2 < 3 ∧ (x1 * (τ (10, 0) j1) < τ (21, 12 + j2) 1 → ww_W g mX0_areGood E (ww_QI Post) 2 [some (.inr (.inr (8, 0))), some (.inl x1), some (.inl (x2 + nI 1))] [] τ) ∧ (¬ (x1 * (τ (10, 0) j1) < τ (21, 12 + j2) 1) → Post (nI 0) τ)))))) : ww_W g mX0_areGood E (ww_QI Post) 2 [some (.inr (.inr (8, 0))), some (.inl x1), some (.inl x2)] [] τ := by
  refine ww_iload_n 3 dX0_areGood_2 rfl 2 rfl rfl ?_
  refine ww_aload_n 4 dX0_areGood_3 rfl 0 rfl rfl ?_
  refine ww_getI 1 7 dX0_areGood_4 wf_X0_66 (ww_i1 8 (by decide)) rfl rfl rfl ?_
  refine ww_ic_ge 38 10 dX0_areGood_7 (by decide) rfl (fun c => ?_) (fun c => ?_)
  · replace h := h.1 c
    refine ww_iconst (v := nI 1) 39 dX0_areGood_38 (by decide) rfl ?_
    exact ww_zret dX0_areGood_39 rfl (Or.inr rfl) ⟨_, rfl, h⟩
  · replace h := h.2 c
    refine ww_iload_n 11 dX0_areGood_10 rfl 1 rfl rfl ?_
    refine ww_aload_n 12 dX0_areGood_11 rfl 0 rfl rfl ?_
    refine ww_getR 2 15 dX0_areGood_12 wf_X0_9 (ww_i1 8 (by decide)) rfl rfl rfl ?_
    refine ww_iload_n 16 dX0_areGood_15 rfl 2 rfl rfl ?_
    obtain ⟨j1, hij1, hj1, h⟩ := h
    refine ww_iald j1 17 dX0_areGood_16 (ww_i1 10 (by decide)) rfl (by decide) hij1 hj1 rfl ?_
    refine ww_imul 18 dX0_areGood_17 rfl ?_
    refine ww_aload_n 19 dX0_areGood_18 rfl 0 rfl rfl ?_
    refine ww_getR 0 22 dX0_areGood_19 wf_X0_48 (ww_i1 8 (by decide)) rfl rfl rfl ?_
    refine ww_iload_n 23 dX0_areGood_22 rfl 2 rfl rfl ?_
    obtain ⟨j2, hij2, hj2, h⟩ := h
    refine ww_aald j2 24 dX0_areGood_23 (ww_i1 9 (by decide)) rfl (Or.inl rfl) (by decide) hij2 hj2 rfl ?_
    refine ww_getI 1 27 dX0_areGood_24 wf_X0_90 (show ww_in (21, 12 + j2) from (show 12 + j2 < 104 by omega)) rfl rfl rfl ?_
    refine ww_ic_lt 32 30 dX0_areGood_27 (by decide) rfl (fun c => ?_) (fun c => ?_)
    · replace h := h.1 c
      refine ww_iinc (nI 1) 35 2 dX0_areGood_32 (by decide) rfl rfl (by decide) rfl [some (.inr (.inr (8, 0))), some (.inl x1), some (.inl (x2 + nI 1))] rfl ?_
      refine ww_goto 2 dX0_areGood_35 (by decide) ?_
      exact h
    · replace h := h.2 c
      refine ww_iconst (v := nI 0) 31 dX0_areGood_30 (by decide) rfl ?_
      exact ww_zret dX0_areGood_31 rfl (Or.inl rfl) ⟨_, rfl, h⟩
theorem b_X0_rankBy {l : Launch} {g : ww_G} {τ : ww_M} {a1 : Int32} {Post : Int32 → ww_M → Prop}  (h : ∀ E : ww_E, ((nI 2 ≤ a1 → ww_W g mX0_rankBy E (ww_QI Post) 9 [some (.inr (.inr (8, 0))), some (.inl a1), some (.inl (nI 0)), none] [] τ) ∧ (¬ (nI 2 ≤ a1) → Post (nI 0) τ))) : ww_T l g mX0_rankBy [.inr (.inr (8, 0)), .inl a1] τ (ww_QI Post) := by
  refine ww_enter (P := [some (.inr (.inr (8, 0))), some (.inl a1), none, none]) (by decide) (Nat.le_of_ble_eq_true rfl) rfl (fun E => ?_)
  replace h := h E
  refine ww_iload_n 1 dX0_rankBy_0 rfl 1 rfl rfl ?_
  refine ww_iconst (v := nI 2) 2 dX0_rankBy_1 (by decide) rfl ?_
  refine ww_ic_ge 7 5 dX0_rankBy_2 (by decide) rfl (fun c => ?_) (fun c => ?_)
  · replace h := h.1 c
    refine ww_iconst (v := nI 0) 8 dX0_rankBy_7 (by decide) rfl ?_
    refine ww_istore_n 9 dX0_rankBy_8 rfl 2 rfl (by decide) rfl [some (.inr (.inr (8, 0))), some (.inl a1), some (.inl (nI 0)), none] rfl ?_
    exact h
  · replace h := h.2 c
    refine ww_iconst (v := nI 0) 6 dX0_rankBy_5 (by decide) rfl ?_
    exact ww_iret dX0_rankBy_6 rfl ⟨_, rfl, h⟩
theorem b_X0_rankBy_9 {g : ww_G} {E : ww_E} {τ : ww_M} {x1 : Int32} {x2 : Int32} {Post : Int32 → ww_M → Prop}  (h : ((τ (8, 0) 1 ≤ x2 → ww_W g mX0_rankBy E (ww_QI Post) 62 [some (.inr (.inr (8, 0))), some (.inl x1), some (.inl (nI 0)), some (.inl (nI 0))] [] τ) ∧ (¬ (τ (8, 0) 1 ≤ x2) → ww_W g mX0_rankBy E (ww_QI Post) 19 [some (.inr (.inr (8, 0))), some (.inl x1), some (.inl x2), some (.inl (nI 0))] [] τ))) : ww_W g mX0_rankBy E (ww_QI Post) 9 [some (.inr (.inr (8, 0))), some (.inl x1), some (.inl x2), none] [] τ := by
  refine ww_iload_n 10 dX0_rankBy_9 rfl 2 rfl rfl ?_
  refine ww_aload_n 11 dX0_rankBy_10 rfl 0 rfl rfl ?_
  refine ww_getI 1 14 dX0_rankBy_11 wf_X0_66 (ww_i1 8 (by decide)) rfl rfl rfl ?_
  refine ww_ic_ge 58 17 dX0_rankBy_14 (by decide) rfl (fun c => ?_) (fun c => ?_)
  · replace h := h.1 c
    refine ww_iconst (v := nI 0) 59 dX0_rankBy_58 (by decide) rfl ?_
    refine ww_istore_n 60 dX0_rankBy_59 rfl 2 rfl (by decide) rfl [some (.inr (.inr (8, 0))), some (.inl x1), some (.inl (nI 0)), none] rfl ?_
    refine ww_iconst (v := nI 0) 61 dX0_rankBy_60 (by decide) rfl ?_
    refine ww_istore_n 62 dX0_rankBy_61 rfl 3 rfl (by decide) rfl [some (.inr (.inr (8, 0))), some (.inl x1), some (.inl (nI 0)), some (.inl (nI 0))] rfl ?_
    exact h
  · replace h := h.2 c
    refine ww_iconst (v := nI 0) 18 dX0_rankBy_17 (by decide) rfl ?_
    refine ww_istore_n 19 dX0_rankBy_18 rfl 3 rfl (by decide) rfl [some (.inr (.inr (8, 0))), some (.inl x1), some (.inl x2), some (.inl (nI 0))] rfl ?_
    exact h
theorem b_X0_rankBy_19 {g : ww_G} {E : ww_E} {τ : ww_M} {x1 : Int32} {x2 : Int32} {x3 : Int32} {Post : Int32 → ww_M → Prop}  (h : ((nI 4 ≤ x3 → ww_W g mX0_rankBy E (ww_QI Post) 9 [some (.inr (.inr (8, 0))), some (.inl x1), some (.inl (x2 + nI 1)), none] [] τ) ∧ (¬ (nI 4 ≤ x3) → (∃ j1 : Nat, x2 = nI j1 ∧ j1 < 3 ∧ (∃ j2 : Nat, x2 = nI j2 ∧ j2 < 3 ∧ (∃ Q3 : Int32 → ww_M → Prop, ww_T E.2.1 g mX2_surplusOf [.inr (.inr (21, 12 + j2)), .inl x3] τ (ww_QI Q3) ∧ ∀ (v4 : Int32) (τ5 : ww_M), Q3 v4 τ5 → (∃ Q6 : Int32 → ww_M → Prop, ww_T E.2.1 g mJ9_floorMod_7cf53 [.inl v4, .inl x1] τ5 (ww_QI Q6) ∧ ∀ (v7 : Int32) (τ8 : ww_M), Q6 v7 τ8 → (∃ j9 : Nat, x3 = nI j9 ∧ j9 < 4 ∧ ∀ τ10 : ww_M, τ10 = ww_up τ8 (19, j1) j9 v7 → ww_W g mX0_rankBy E (ww_QI Post) 19 [some (.inr (.inr (8, 0))), some (.inl x1), some (.inl x2), some (.inl (x3 + nI 1))] [] τ10)))))))) : ww_W g mX0_rankBy E (ww_QI Post) 19 [some (.inr (.inr (8, 0))), some (.inl x1), some (.inl x2), some (.inl x3)] [] τ := by
  refine ww_iload_n 20 dX0_rankBy_19 rfl 3 rfl rfl ?_
  refine ww_iconst (v := nI 4) 21 dX0_rankBy_20 (by decide) rfl ?_
  refine ww_ic_ge 52 24 dX0_rankBy_21 (by decide) rfl (fun c => ?_) (fun c => ?_)
  · replace h := h.1 c
    refine ww_iinc (nI 1) 55 2 dX0_rankBy_52 (by decide) rfl rfl (by decide) rfl [some (.inr (.inr (8, 0))), some (.inl x1), some (.inl (x2 + nI 1)), some (.inl x3)] rfl ?_
    refine ww_goto 9 dX0_rankBy_55 (by decide) ?_
    exact ww_weak (ww_le_s (ww_le_s (ww_le_s (ww_le_n (ww_le_nil _))))) h
  · replace h := h.2 c
    refine ww_aload_n 25 dX0_rankBy_24 rfl 0 rfl rfl ?_
    refine ww_getR 12 28 dX0_rankBy_25 wf_X0_45 (ww_i1 8 (by decide)) rfl rfl rfl ?_
    refine ww_iload_n 29 dX0_rankBy_28 rfl 2 rfl rfl ?_
    obtain ⟨j1, hij1, hj1, h⟩ := h
    refine ww_aald j1 30 dX0_rankBy_29 (ww_i1 18 (by decide)) rfl (Or.inr rfl) (by decide) hij1 hj1 rfl ?_
    refine ww_iload_n 31 dX0_rankBy_30 rfl 3 rfl rfl ?_
    refine ww_aload_n 32 dX0_rankBy_31 rfl 0 rfl rfl ?_
    refine ww_getR 0 35 dX0_rankBy_32 wf_X0_48 (ww_i1 8 (by decide)) rfl rfl rfl ?_
    refine ww_iload_n 36 dX0_rankBy_35 rfl 2 rfl rfl ?_
    obtain ⟨j2, hij2, hj2, h⟩ := h
    refine ww_aald j2 37 dX0_rankBy_36 (ww_i1 9 (by decide)) rfl (Or.inl rfl) (by decide) hij2 hj2 rfl ?_
    refine ww_iload_n 38 dX0_rankBy_37 rfl 3 rfl rfl ?_
    obtain ⟨Q3, hT, h⟩ := h
    refine ww_invVI (d' := mX2_surplusOf) [.inl x3] rfl 41 dX0_rankBy_38 ⟨wi_X2, wc_X2_surplusOf, wp_X2_surplusOf, by decide, by decide⟩ wl_X0_134 wn_X2_surplusOf we_X2_surplusOf (show ww_in (21, 12 + j2) from (show 12 + j2 < 104 by omega)) rfl rfl (Nat.le_of_ble_eq_true rfl) rfl hT (fun v4 τ5 hq => ?_)
    replace h := h v4 τ5 hq
    refine ww_iload_n 42 dX0_rankBy_41 rfl 1 rfl rfl ?_
    obtain ⟨Q6, hT, h⟩ := h
    refine ww_invSI (d' := mJ9_floorMod_7cf53) [.inl v4, .inl x1] rfl 45 dX0_rankBy_42 ⟨wi_J9, wc_J9_floorMod_7cf53, wp_J9_floorMod_7cf53, by decide, by decide⟩ (Or.inl wl_X0_137) wn_J9_floorMod_7cf53 (Nat.le_of_ble_eq_true rfl) rfl hT (fun v7 τ8 hq => ?_)
    replace h := h v7 τ8 hq
    obtain ⟨j9, hij9, hj9, h⟩ := h
    refine ww_iast j9 46 dX0_rankBy_45 (show ww_in (19, j1) from (show j1 < 3 by omega)) rfl (by decide) hij9 hj9 rfl (fun τ10 eτ10 => ?_)
    replace h := h τ10 eτ10
    refine ww_iinc (nI 1) 49 3 dX0_rankBy_46 (by decide) rfl rfl (by decide) rfl [some (.inr (.inr (8, 0))), some (.inl x1), some (.inl x2), some (.inl (x3 + nI 1))] rfl ?_
    refine ww_goto 19 dX0_rankBy_49 (by decide) ?_
    exact h
theorem b_X0_rankBy_62 {g : ww_G} {E : ww_E} {τ : ww_M} {x1 : Int32} {x2 : Int32} {x3 : Int32} {Post : Int32 → ww_M → Prop}  (h : ((nI 4 ≤ x3 → Post x2 τ) ∧ (¬ (nI 4 ≤ x3) → ((τ (8, 0) 1 ≤ x2 → Post x2 τ) ∧ (¬ (τ (8, 0) 1 ≤ x2) → (∃ Q1 : Int32 → ww_M → Prop, ww_T E.2.1 g mX0_bringPivot [.inr (.inr (8, 0)), .inl x2, .inl x3] τ (ww_QI Q1) ∧ ∀ (v2 : Int32) (τ3 : ww_M), Q1 v2 τ3 → (v2 = nI 0 → ww_W g mX0_rankBy E (ww_QI Post) 62 [some (.inr (.inr (8, 0))), some (.inl x1), some (.inl x2), some (.inl (x3 + nI 1))] [] τ3) ∧ (¬ v2 = nI 0 → (∃ Q4 : ww_M → Prop, ww_T E.2.1 g mX0_clearBelow [.inr (.inr (8, 0)), .inl x2, .inl x3, .inl x1] τ3 (ww_QV Q4) ∧ ∀ (τ5 : ww_M), Q4 τ5 → ww_W g mX0_rankBy E (ww_QI Post) 62 [some (.inr (.inr (8, 0))), some (.inl x1), some (.inl (x2 + nI 1)), some (.inl (x3 + nI 1))] [] τ5)))))))) : ww_W g mX0_rankBy E (ww_QI Post) 62 [some (.inr (.inr (8, 0))), some (.inl x1), some (.inl x2), some (.inl x3)] [] τ := by
  refine ww_iload_n 63 dX0_rankBy_62 rfl 3 rfl rfl ?_
  refine ww_iconst (v := nI 4) 64 dX0_rankBy_63 (by decide) rfl ?_
  refine ww_ic_ge 100 67 dX0_rankBy_64 (by decide) rfl (fun c => ?_) (fun c => ?_)
  · replace h := h.1 c
    refine ww_iload_n 101 dX0_rankBy_100 rfl 2 rfl rfl ?_
    exact ww_iret dX0_rankBy_101 rfl ⟨_, rfl, h⟩
  · replace h := h.2 c
    refine ww_iload_n 68 dX0_rankBy_67 rfl 2 rfl rfl ?_
    refine ww_aload_n 69 dX0_rankBy_68 rfl 0 rfl rfl ?_
    refine ww_getI 1 72 dX0_rankBy_69 wf_X0_66 (ww_i1 8 (by decide)) rfl rfl rfl ?_
    refine ww_ic_ge 100 75 dX0_rankBy_72 (by decide) rfl (fun c => ?_) (fun c => ?_)
    · replace h := h.1 c
      refine ww_iload_n 101 dX0_rankBy_100 rfl 2 rfl rfl ?_
      exact ww_iret dX0_rankBy_101 rfl ⟨_, rfl, h⟩
    · replace h := h.2 c
      refine ww_aload_n 76 dX0_rankBy_75 rfl 0 rfl rfl ?_
      refine ww_iload_n 77 dX0_rankBy_76 rfl 2 rfl rfl ?_
      refine ww_iload_n 78 dX0_rankBy_77 rfl 3 rfl rfl ?_
      obtain ⟨Q1, hT, h⟩ := h
      refine ww_invVI (d' := mX0_bringPivot) [.inl x2, .inl x3] rfl 81 dX0_rankBy_78 ⟨wi_X0, wc_X0_bringPivot, wp_X0_bringPivot, by decide, by decide⟩ wl_X0_140 wn_X0_bringPivot we_X0_bringPivot (ww_i1 8 (by decide)) rfl rfl (Nat.le_of_ble_eq_true rfl) rfl hT (fun v2 τ3 hq => ?_)
      replace h := h v2 τ3 hq
      refine ww_if_eq 94 84 dX0_rankBy_81 (by decide) rfl (fun c => ?_) (fun c => ?_)
      · replace h := h.1 c
        refine ww_iinc (nI 1) 97 3 dX0_rankBy_94 (by decide) rfl rfl (by decide) rfl [some (.inr (.inr (8, 0))), some (.inl x1), some (.inl x2), some (.inl (x3 + nI 1))] rfl ?_
        refine ww_goto 62 dX0_rankBy_97 (by decide) ?_
        exact h
      · replace h := h.2 c
        refine ww_aload_n 85 dX0_rankBy_84 rfl 0 rfl rfl ?_
        refine ww_iload_n 86 dX0_rankBy_85 rfl 2 rfl rfl ?_
        refine ww_iload_n 87 dX0_rankBy_86 rfl 3 rfl rfl ?_
        refine ww_iload_n 88 dX0_rankBy_87 rfl 1 rfl rfl ?_
        obtain ⟨Q4, hT, h⟩ := h
        refine ww_invVV (d' := mX0_clearBelow) [.inl x2, .inl x3, .inl x1] rfl 91 dX0_rankBy_88 ⟨wi_X0, wc_X0_clearBelow, wp_X0_clearBelow, by decide, by decide⟩ wl_X0_144 wn_X0_clearBelow we_X0_clearBelow (ww_i1 8 (by decide)) rfl rfl (Nat.le_of_ble_eq_true rfl) rfl hT (fun τ5 hq => ?_)
        replace h := h τ5 hq
        refine ww_iinc (nI 1) 94 2 dX0_rankBy_91 (by decide) rfl rfl (by decide) rfl [some (.inr (.inr (8, 0))), some (.inl x1), some (.inl (x2 + nI 1)), some (.inl x3)] rfl ?_
        refine ww_iinc (nI 1) 97 3 dX0_rankBy_94 (by decide) rfl rfl (by decide) rfl [some (.inr (.inr (8, 0))), some (.inl x1), some (.inl (x2 + nI 1)), some (.inl (x3 + nI 1))] rfl ?_
        refine ww_goto 62 dX0_rankBy_97 (by decide) ?_
        exact h
theorem b_X0_bringPivot {l : Launch} {g : ww_G} {τ : ww_M} {a1 : Int32} {a2 : Int32} {Post : Int32 → ww_M → Prop}  (h : ∀ E : ww_E, ww_W g mX0_bringPivot E (ww_QI Post) 2 [some (.inr (.inr (8, 0))), some (.inl a1), some (.inl a2), some (.inl a1), none, none] [] τ) : ww_T l g mX0_bringPivot [.inr (.inr (8, 0)), .inl a1, .inl a2] τ (ww_QI Post) := by
  refine ww_enter (P := [some (.inr (.inr (8, 0))), some (.inl a1), some (.inl a2), none, none, none]) (by decide) (Nat.le_of_ble_eq_true rfl) rfl (fun E => ?_)
  replace h := h E
  refine ww_iload_n 1 dX0_bringPivot_0 rfl 1 rfl rfl ?_
  refine ww_istore_n 2 dX0_bringPivot_1 rfl 3 rfl (by decide) rfl [some (.inr (.inr (8, 0))), some (.inl a1), some (.inl a2), some (.inl a1), none, none] rfl ?_
  exact h
theorem b_X0_bringPivot_2 {g : ww_G} {E : ww_E} {τ : ww_M} {x1 : Int32} {x2 : Int32} {x3 : Int32} {Post : Int32 → ww_M → Prop}  (h : ((τ (8, 0) 1 ≤ x3 → Post (nI 0) τ) ∧ (¬ (τ (8, 0) 1 ≤ x3) → (∃ j1 : Nat, x3 = nI j1 ∧ j1 < 3 ∧ (∃ j2 : Nat, x2 = nI j2 ∧ j2 < 4 ∧ (τ (19, j1) j2 = nI 0 → ww_W g mX0_bringPivot E (ww_QI Post) 2 [some (.inr (.inr (8, 0))), some (.inl x1), some (.inl x2), some (.inl (x3 + nI 1)), none, none] [] τ) ∧ (¬ τ (19, j1) j2 = nI 0 → ww_W g mX0_bringPivot E (ww_QI Post) 24 [some (.inr (.inr (8, 0))), some (.inl x1), none, some (.inl x3), some (.inl (nI 0)), none] [] τ)))))) : ww_W g mX0_bringPivot E (ww_QI Post) 2 [some (.inr (.inr (8, 0))), some (.inl x1), some (.inl x2), some (.inl x3), none, none] [] τ := by
  refine ww_iload_n 3 dX0_bringPivot_2 rfl 3 rfl rfl ?_
  refine ww_aload_n 4 dX0_bringPivot_3 rfl 0 rfl rfl ?_
  refine ww_getI 1 7 dX0_bringPivot_4 wf_X0_66 (ww_i1 8 (by decide)) rfl rfl rfl ?_
  refine ww_ic_ge 84 10 dX0_bringPivot_7 (by decide) rfl (fun c => ?_) (fun c => ?_)
  · replace h := h.1 c
    refine ww_iconst (v := nI 0) 85 dX0_bringPivot_84 (by decide) rfl ?_
    exact ww_zret dX0_bringPivot_85 rfl (Or.inl rfl) ⟨_, rfl, h⟩
  · replace h := h.2 c
    refine ww_aload_n 11 dX0_bringPivot_10 rfl 0 rfl rfl ?_
    refine ww_getR 12 14 dX0_bringPivot_11 wf_X0_45 (ww_i1 8 (by decide)) rfl rfl rfl ?_
    refine ww_iload_n 15 dX0_bringPivot_14 rfl 3 rfl rfl ?_
    obtain ⟨j1, hij1, hj1, h⟩ := h
    refine ww_aald j1 16 dX0_bringPivot_15 (ww_i1 18 (by decide)) rfl (Or.inr rfl) (by decide) hij1 hj1 rfl ?_
    refine ww_iload_n 17 dX0_bringPivot_16 rfl 2 rfl rfl ?_
    obtain ⟨j2, hij2, hj2, h⟩ := h
    refine ww_iald j2 18 dX0_bringPivot_17 (show ww_in (19, j1) from (show j1 < 3 by omega)) rfl (by decide) hij2 hj2 rfl ?_
    refine ww_if_eq 78 21 dX0_bringPivot_18 (by decide) rfl (fun c => ?_) (fun c => ?_)
    · replace h := h.1 c
      refine ww_iinc (nI 1) 81 3 dX0_bringPivot_78 (by decide) rfl rfl (by decide) rfl [some (.inr (.inr (8, 0))), some (.inl x1), some (.inl x2), some (.inl (x3 + nI 1)), none, none] rfl ?_
      refine ww_goto 2 dX0_bringPivot_81 (by decide) ?_
      exact h
    · replace h := h.2 c
      refine ww_iconst (v := nI 0) 22 dX0_bringPivot_21 (by decide) rfl ?_
      refine ww_istore 24 4 dX0_bringPivot_22 rfl (by decide) rfl [some (.inr (.inr (8, 0))), some (.inl x1), some (.inl x2), some (.inl x3), some (.inl (nI 0)), none] rfl ?_
      exact ww_weak (ww_le_s (ww_le_s (ww_le_n (ww_le_s (ww_le_s (ww_le_n (ww_le_nil _))))))) h
theorem b_X0_bringPivot_24 {g : ww_G} {E : ww_E} {τ : ww_M} {x1 : Int32} {x3 : Int32} {x4 : Int32} {Post : Int32 → ww_M → Prop}  (h : ((nI 4 ≤ x4 → Post (nI 1) τ) ∧ (¬ (nI 4 ≤ x4) → (∃ j1 : Nat, x1 = nI j1 ∧ j1 < 3 ∧ (∃ j2 : Nat, x4 = nI j2 ∧ j2 < 4 ∧ (∃ j3 : Nat, x1 = nI j3 ∧ j3 < 3 ∧ (∃ j4 : Nat, x3 = nI j4 ∧ j4 < 3 ∧ (∃ j5 : Nat, x4 = nI j5 ∧ j5 < 4 ∧ (∃ j6 : Nat, x4 = nI j6 ∧ j6 < 4 ∧ ∀ τ7 : ww_M, τ7 = ww_up τ (19, j3) j6 (τ (19, j4) j5) → (∃ j8 : Nat, x3 = nI j8 ∧ j8 < 3 ∧ (∃ j9 : Nat, x4 = nI j9 ∧ j9 < 4 ∧ ∀ τ10 : ww_M, τ10 = ww_up τ7 (19, j8) j9 (τ (19, j1) j2) → ww_W g mX0_bringPivot E (ww_QI Post) 24 [some (.inr (.inr (8, 0))), some (.inl x1), none, some (.inl x3), some (.inl (x4 + nI 1)), none] [] τ10))))))))))) : ww_W g mX0_bringPivot E (ww_QI Post) 24 [some (.inr (.inr (8, 0))), some (.inl x1), none, some (.inl x3), some (.inl x4), none] [] τ := by
  refine ww_iload 26 4 dX0_bringPivot_24 rfl rfl ?_
  refine ww_iconst (v := nI 4) 27 dX0_bringPivot_26 (by decide) rfl ?_
  refine ww_ic_ge 76 30 dX0_bringPivot_27 (by decide) rfl (fun c => ?_) (fun c => ?_)
  · replace h := h.1 c
    refine ww_iconst (v := nI 1) 77 dX0_bringPivot_76 (by decide) rfl ?_
    exact ww_zret dX0_bringPivot_77 rfl (Or.inr rfl) ⟨_, rfl, h⟩
  · replace h := h.2 c
    refine ww_aload_n 31 dX0_bringPivot_30 rfl 0 rfl rfl ?_
    refine ww_getR 12 34 dX0_bringPivot_31 wf_X0_45 (ww_i1 8 (by decide)) rfl rfl rfl ?_
    refine ww_iload_n 35 dX0_bringPivot_34 rfl 1 rfl rfl ?_
    obtain ⟨j1, hij1, hj1, h⟩ := h
    refine ww_aald j1 36 dX0_bringPivot_35 (ww_i1 18 (by decide)) rfl (Or.inr rfl) (by decide) hij1 hj1 rfl ?_
    refine ww_iload 38 4 dX0_bringPivot_36 rfl rfl ?_
    obtain ⟨j2, hij2, hj2, h⟩ := h
    refine ww_iald j2 39 dX0_bringPivot_38 (show ww_in (19, j1) from (show j1 < 3 by omega)) rfl (by decide) hij2 hj2 rfl ?_
    refine ww_istore 41 5 dX0_bringPivot_39 rfl (by decide) rfl [some (.inr (.inr (8, 0))), some (.inl x1), none, some (.inl x3), some (.inl x4), some (.inl (τ (19, j1) j2))] rfl ?_
    refine ww_aload_n 42 dX0_bringPivot_41 rfl 0 rfl rfl ?_
    refine ww_getR 12 45 dX0_bringPivot_42 wf_X0_45 (ww_i1 8 (by decide)) rfl rfl rfl ?_
    refine ww_iload_n 46 dX0_bringPivot_45 rfl 1 rfl rfl ?_
    obtain ⟨j3, hij3, hj3, h⟩ := h
    refine ww_aald j3 47 dX0_bringPivot_46 (ww_i1 18 (by decide)) rfl (Or.inr rfl) (by decide) hij3 hj3 rfl ?_
    refine ww_iload 49 4 dX0_bringPivot_47 rfl rfl ?_
    refine ww_aload_n 50 dX0_bringPivot_49 rfl 0 rfl rfl ?_
    refine ww_getR 12 53 dX0_bringPivot_50 wf_X0_45 (ww_i1 8 (by decide)) rfl rfl rfl ?_
    refine ww_iload_n 54 dX0_bringPivot_53 rfl 3 rfl rfl ?_
    obtain ⟨j4, hij4, hj4, h⟩ := h
    refine ww_aald j4 55 dX0_bringPivot_54 (ww_i1 18 (by decide)) rfl (Or.inr rfl) (by decide) hij4 hj4 rfl ?_
    refine ww_iload 57 4 dX0_bringPivot_55 rfl rfl ?_
    obtain ⟨j5, hij5, hj5, h⟩ := h
    refine ww_iald j5 58 dX0_bringPivot_57 (show ww_in (19, j4) from (show j4 < 3 by omega)) rfl (by decide) hij5 hj5 rfl ?_
    obtain ⟨j6, hij6, hj6, h⟩ := h
    refine ww_iast j6 59 dX0_bringPivot_58 (show ww_in (19, j3) from (show j3 < 3 by omega)) rfl (by decide) hij6 hj6 rfl (fun τ7 eτ7 => ?_)
    replace h := h τ7 eτ7
    refine ww_aload_n 60 dX0_bringPivot_59 rfl 0 rfl rfl ?_
    refine ww_getR 12 63 dX0_bringPivot_60 wf_X0_45 (ww_i1 8 (by decide)) rfl rfl rfl ?_
    refine ww_iload_n 64 dX0_bringPivot_63 rfl 3 rfl rfl ?_
    obtain ⟨j8, hij8, hj8, h⟩ := h
    refine ww_aald j8 65 dX0_bringPivot_64 (ww_i1 18 (by decide)) rfl (Or.inr rfl) (by decide) hij8 hj8 rfl ?_
    refine ww_iload 67 4 dX0_bringPivot_65 rfl rfl ?_
    refine ww_iload 69 5 dX0_bringPivot_67 rfl rfl ?_
    obtain ⟨j9, hij9, hj9, h⟩ := h
    refine ww_iast j9 70 dX0_bringPivot_69 (show ww_in (19, j8) from (show j8 < 3 by omega)) rfl (by decide) hij9 hj9 rfl (fun τ10 eτ10 => ?_)
    replace h := h τ10 eτ10
    refine ww_iinc (nI 1) 73 4 dX0_bringPivot_70 (by decide) rfl rfl (by decide) rfl [some (.inr (.inr (8, 0))), some (.inl x1), none, some (.inl x3), some (.inl (x4 + nI 1)), some (.inl (τ (19, j1) j2))] rfl ?_
    refine ww_goto 24 dX0_bringPivot_73 (by decide) ?_
    exact ww_weak (ww_le_s (ww_le_s (ww_le_n (ww_le_s (ww_le_s (ww_le_n (ww_le_nil _))))))) h
theorem b_X0_clearBelow {l : Launch} {g : ww_G} {τ : ww_M} {a1 : Int32} {a2 : Int32} {a3 : Int32} {Post : ww_M → Prop}  (h : ∀ E : ww_E, (∃ j1 : Nat, a1 = nI j1 ∧ j1 < 3 ∧ (∃ j2 : Nat, a2 = nI j2 ∧ j2 < 4 ∧ ww_W g mX0_clearBelow E (ww_QV Post) 15 [some (.inr (.inr (8, 0))), some (.inl a1), some (.inl a2), some (.inl a3), some (.inl (τ (19, j1) j2)), some (.inl (a1 + (nI 1))), none, none] [] τ))) : ww_T l g mX0_clearBelow [.inr (.inr (8, 0)), .inl a1, .inl a2, .inl a3] τ (ww_QV Post) := by
  refine ww_enter (P := [some (.inr (.inr (8, 0))), some (.inl a1), some (.inl a2), some (.inl a3), none, none, none, none]) (by decide) (Nat.le_of_ble_eq_true rfl) rfl (fun E => ?_)
  replace h := h E
  refine ww_aload_n 1 dX0_clearBelow_0 rfl 0 rfl rfl ?_
  refine ww_getR 12 4 dX0_clearBelow_1 wf_X0_45 (ww_i1 8 (by decide)) rfl rfl rfl ?_
  refine ww_iload_n 5 dX0_clearBelow_4 rfl 1 rfl rfl ?_
  obtain ⟨j1, hij1, hj1, h⟩ := h
  refine ww_aald j1 6 dX0_clearBelow_5 (ww_i1 18 (by decide)) rfl (Or.inr rfl) (by decide) hij1 hj1 rfl ?_
  refine ww_iload_n 7 dX0_clearBelow_6 rfl 2 rfl rfl ?_
  obtain ⟨j2, hij2, hj2, h⟩ := h
  refine ww_iald j2 8 dX0_clearBelow_7 (show ww_in (19, j1) from (show j1 < 3 by omega)) rfl (by decide) hij2 hj2 rfl ?_
  refine ww_istore 10 4 dX0_clearBelow_8 rfl (by decide) rfl [some (.inr (.inr (8, 0))), some (.inl a1), some (.inl a2), some (.inl a3), some (.inl (τ (19, j1) j2)), none, none, none] rfl ?_
  refine ww_iload_n 11 dX0_clearBelow_10 rfl 1 rfl rfl ?_
  refine ww_iconst (v := nI 1) 12 dX0_clearBelow_11 (by decide) rfl ?_
  refine ww_iadd 13 dX0_clearBelow_12 rfl ?_
  refine ww_istore 15 5 dX0_clearBelow_13 rfl (by decide) rfl [some (.inr (.inr (8, 0))), some (.inl a1), some (.inl a2), some (.inl a3), some (.inl (τ (19, j1) j2)), some (.inl (a1 + (nI 1))), none, none] rfl ?_
  exact h
theorem b_X0_clearBelow_15 {g : ww_G} {E : ww_E} {τ : ww_M} {x1 : Int32} {x2 : Int32} {x3 : Int32} {x4 : Int32} {x5 : Int32} {Post : ww_M → Prop}  (h : ((τ (8, 0) 1 ≤ x5 → Post τ) ∧ (¬ (τ (8, 0) 1 ≤ x5) → (∃ j1 : Nat, x5 = nI j1 ∧ j1 < 3 ∧ (∃ j2 : Nat, x2 = nI j2 ∧ j2 < 4 ∧ ww_W g mX0_clearBelow E (ww_QV Post) 38 [some (.inr (.inr (8, 0))), some (.inl x1), some (.inl x2), some (.inl x3), some (.inl x4), some (.inl x5), some (.inl (τ (19, j1) j2)), some (.inl (nI 0))] [] τ))))) : ww_W g mX0_clearBelow E (ww_QV Post) 15 [some (.inr (.inr (8, 0))), some (.inl x1), some (.inl x2), some (.inl x3), some (.inl x4), some (.inl x5), none, none] [] τ := by
  refine ww_iload 17 5 dX0_clearBelow_15 rfl rfl ?_
  refine ww_aload_n 18 dX0_clearBelow_17 rfl 0 rfl rfl ?_
  refine ww_getI 1 21 dX0_clearBelow_18 wf_X0_66 (ww_i1 8 (by decide)) rfl rfl rfl ?_
  refine ww_ic_ge 100 24 dX0_clearBelow_21 (by decide) rfl (fun c => ?_) (fun c => ?_)
  · replace h := h.1 c
    exact ww_vret dX0_clearBelow_100 rfl ⟨rfl, h⟩
  · replace h := h.2 c
    refine ww_aload_n 25 dX0_clearBelow_24 rfl 0 rfl rfl ?_
    refine ww_getR 12 28 dX0_clearBelow_25 wf_X0_45 (ww_i1 8 (by decide)) rfl rfl rfl ?_
    refine ww_iload 30 5 dX0_clearBelow_28 rfl rfl ?_
    obtain ⟨j1, hij1, hj1, h⟩ := h
    refine ww_aald j1 31 dX0_clearBelow_30 (ww_i1 18 (by decide)) rfl (Or.inr rfl) (by decide) hij1 hj1 rfl ?_
    refine ww_iload_n 32 dX0_clearBelow_31 rfl 2 rfl rfl ?_
    obtain ⟨j2, hij2, hj2, h⟩ := h
    refine ww_iald j2 33 dX0_clearBelow_32 (show ww_in (19, j1) from (show j1 < 3 by omega)) rfl (by decide) hij2 hj2 rfl ?_
    refine ww_istore 35 6 dX0_clearBelow_33 rfl (by decide) rfl [some (.inr (.inr (8, 0))), some (.inl x1), some (.inl x2), some (.inl x3), some (.inl x4), some (.inl x5), some (.inl (τ (19, j1) j2)), none] rfl ?_
    refine ww_iconst (v := nI 0) 36 dX0_clearBelow_35 (by decide) rfl ?_
    refine ww_istore 38 7 dX0_clearBelow_36 rfl (by decide) rfl [some (.inr (.inr (8, 0))), some (.inl x1), some (.inl x2), some (.inl x3), some (.inl x4), some (.inl x5), some (.inl (τ (19, j1) j2)), some (.inl (nI 0))] rfl ?_
    exact h
theorem b_X0_clearBelow_38 {g : ww_G} {E : ww_E} {τ : ww_M} {x1 : Int32} {x2 : Int32} {x3 : Int32} {x4 : Int32} {x5 : Int32} {x6 : Int32} {x7 : Int32} {Post : ww_M → Prop}  (h : ((nI 4 ≤ x7 → ww_W g mX0_clearBelow E (ww_QV Post) 15 [some (.inr (.inr (8, 0))), some (.inl x1), some (.inl x2), some (.inl x3), some (.inl x4), some (.inl (x5 + nI 1)), none, none] [] τ) ∧ (¬ (nI 4 ≤ x7) → ((x3 ≤ nI 0 → ww_W g mX0_clearBelow E (ww_QV Post) 15 [some (.inr (.inr (8, 0))), some (.inl x1), some (.inl x2), some (.inl x3), some (.inl x4), some (.inl (x5 + nI 1)), none, none] [] τ) ∧ (¬ (x3 ≤ nI 0) → (∃ j1 : Nat, x5 = nI j1 ∧ j1 < 3 ∧ (∃ j2 : Nat, x5 = nI j2 ∧ j2 < 3 ∧ (∃ j3 : Nat, x7 = nI j3 ∧ j3 < 4 ∧ (∃ j4 : Nat, x1 = nI j4 ∧ j4 < 3 ∧ (∃ j5 : Nat, x7 = nI j5 ∧ j5 < 4 ∧ (∃ Q6 : Int32 → ww_M → Prop, ww_T E.2.1 g mJ9_floorMod_7cf53 [.inl (((τ (19, j2) j3) * x4) - ((τ (19, j4) j5) * x6)), .inl x3] τ (ww_QI Q6) ∧ ∀ (v7 : Int32) (τ8 : ww_M), Q6 v7 τ8 → (∃ j9 : Nat, x7 = nI j9 ∧ j9 < 4 ∧ ∀ τ10 : ww_M, τ10 = ww_up τ8 (19, j1) j9 v7 → ww_W g mX0_clearBelow E (ww_QV Post) 38 [some (.inr (.inr (8, 0))), some (.inl x1), some (.inl x2), some (.inl x3), some (.inl x4), some (.inl x5), some (.inl x6), some (.inl (x7 + nI 1))] [] τ10)))))))))))) : ww_W g mX0_clearBelow E (ww_QV Post) 38 [some (.inr (.inr (8, 0))), some (.inl x1), some (.inl x2), some (.inl x3), some (.inl x4), some (.inl x5), some (.inl x6), some (.inl x7)] [] τ := by
  refine ww_iload 40 7 dX0_clearBelow_38 rfl rfl ?_
  refine ww_iconst (v := nI 4) 41 dX0_clearBelow_40 (by decide) rfl ?_
  refine ww_ic_ge 94 44 dX0_clearBelow_41 (by decide) rfl (fun c => ?_) (fun c => ?_)
  · replace h := h.1 c
    refine ww_iinc (nI 1) 97 5 dX0_clearBelow_94 (by decide) rfl rfl (by decide) rfl [some (.inr (.inr (8, 0))), some (.inl x1), some (.inl x2), some (.inl x3), some (.inl x4), some (.inl (x5 + nI 1)), some (.inl x6), some (.inl x7)] rfl ?_
    refine ww_goto 15 dX0_clearBelow_97 (by decide) ?_
    exact ww_weak (ww_le_s (ww_le_s (ww_le_s (ww_le_s (ww_le_s (ww_le_s (ww_le_n (ww_le_n (ww_le_nil _))))))))) h
  · replace h := h.2 c
    refine ww_iload_n 45 dX0_clearBelow_44 rfl 3 rfl rfl ?_
    refine ww_if_le 94 48 dX0_clearBelow_45 (by decide) rfl (fun c => ?_) (fun c => ?_)
    · replace h := h.1 c
      refine ww_iinc (nI 1) 97 5 dX0_clearBelow_94 (by decide) rfl rfl (by decide) rfl [some (.inr (.inr (8, 0))), some (.inl x1), some (.inl x2), some (.inl x3), some (.inl x4), some (.inl (x5 + nI 1)), some (.inl x6), some (.inl x7)] rfl ?_
      refine ww_goto 15 dX0_clearBelow_97 (by decide) ?_
      exact ww_weak (ww_le_s (ww_le_s (ww_le_s (ww_le_s (ww_le_s (ww_le_s (ww_le_n (ww_le_n (ww_le_nil _))))))))) h
    · replace h := h.2 c
      refine ww_aload_n 49 dX0_clearBelow_48 rfl 0 rfl rfl ?_
      refine ww_getR 12 52 dX0_clearBelow_49 wf_X0_45 (ww_i1 8 (by decide)) rfl rfl rfl ?_
      refine ww_iload 54 5 dX0_clearBelow_52 rfl rfl ?_
      obtain ⟨j1, hij1, hj1, h⟩ := h
      refine ww_aald j1 55 dX0_clearBelow_54 (ww_i1 18 (by decide)) rfl (Or.inr rfl) (by decide) hij1 hj1 rfl ?_
      refine ww_iload 57 7 dX0_clearBelow_55 rfl rfl ?_
      refine ww_aload_n 58 dX0_clearBelow_57 rfl 0 rfl rfl ?_
      refine ww_getR 12 61 dX0_clearBelow_58 wf_X0_45 (ww_i1 8 (by decide)) rfl rfl rfl ?_
      refine ww_iload 63 5 dX0_clearBelow_61 rfl rfl ?_
      obtain ⟨j2, hij2, hj2, h⟩ := h
      refine ww_aald j2 64 dX0_clearBelow_63 (ww_i1 18 (by decide)) rfl (Or.inr rfl) (by decide) hij2 hj2 rfl ?_
      refine ww_iload 66 7 dX0_clearBelow_64 rfl rfl ?_
      obtain ⟨j3, hij3, hj3, h⟩ := h
      refine ww_iald j3 67 dX0_clearBelow_66 (show ww_in (19, j2) from (show j2 < 3 by omega)) rfl (by decide) hij3 hj3 rfl ?_
      refine ww_iload 69 4 dX0_clearBelow_67 rfl rfl ?_
      refine ww_imul 70 dX0_clearBelow_69 rfl ?_
      refine ww_aload_n 71 dX0_clearBelow_70 rfl 0 rfl rfl ?_
      refine ww_getR 12 74 dX0_clearBelow_71 wf_X0_45 (ww_i1 8 (by decide)) rfl rfl rfl ?_
      refine ww_iload_n 75 dX0_clearBelow_74 rfl 1 rfl rfl ?_
      obtain ⟨j4, hij4, hj4, h⟩ := h
      refine ww_aald j4 76 dX0_clearBelow_75 (ww_i1 18 (by decide)) rfl (Or.inr rfl) (by decide) hij4 hj4 rfl ?_
      refine ww_iload 78 7 dX0_clearBelow_76 rfl rfl ?_
      obtain ⟨j5, hij5, hj5, h⟩ := h
      refine ww_iald j5 79 dX0_clearBelow_78 (show ww_in (19, j4) from (show j4 < 3 by omega)) rfl (by decide) hij5 hj5 rfl ?_
      refine ww_iload 81 6 dX0_clearBelow_79 rfl rfl ?_
      refine ww_imul 82 dX0_clearBelow_81 rfl ?_
      refine ww_isub 83 dX0_clearBelow_82 rfl ?_
      refine ww_iload_n 84 dX0_clearBelow_83 rfl 3 rfl rfl ?_
      obtain ⟨Q6, hT, h⟩ := h
      refine ww_invSI (d' := mJ9_floorMod_7cf53) [.inl (((τ (19, j2) j3) * x4) - ((τ (19, j4) j5) * x6)), .inl x3] rfl 87 dX0_clearBelow_84 ⟨wi_J9, wc_J9_floorMod_7cf53, wp_J9_floorMod_7cf53, by decide, by decide⟩ (Or.inl wl_X0_137) wn_J9_floorMod_7cf53 (Nat.le_of_ble_eq_true rfl) rfl hT (fun v7 τ8 hq => ?_)
      replace h := h v7 τ8 hq
      obtain ⟨j9, hij9, hj9, h⟩ := h
      refine ww_iast j9 88 dX0_clearBelow_87 (show ww_in (19, j1) from (show j1 < 3 by omega)) rfl (by decide) hij9 hj9 rfl (fun τ10 eτ10 => ?_)
      replace h := h τ10 eτ10
      refine ww_iinc (nI 1) 91 7 dX0_clearBelow_88 (by decide) rfl rfl (by decide) rfl [some (.inr (.inr (8, 0))), some (.inl x1), some (.inl x2), some (.inl x3), some (.inl x4), some (.inl x5), some (.inl x6), some (.inl (x7 + nI 1))] rfl ?_
      refine ww_goto 38 dX0_clearBelow_91 (by decide) ?_
      exact h
