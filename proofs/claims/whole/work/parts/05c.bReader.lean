theorem b_X1_readAll {l : Launch} {g : ww_G} {τ : ww_M} {a2 : Int32} {a3 : Int32} {Post : Int32 → ww_M → Prop}  (h : ∀ E : ww_E, (∀ τ1 : ww_M, τ1 = ww_up τ (4, 0) 1 (nI 0) → ww_W g mX1_readAll E (ww_QI Post) 11 [some (.inr (.inr (4, 0))), some (.inr (.inr (2, 0))), some (.inl a2), some (.inl a3), some (.inl (-1 : Int32)), some (.inl (nI 0)), none] [] τ1)) : ww_T l g mX1_readAll [.inr (.inr (4, 0)), .inr (.inr (2, 0)), .inl a2, .inl a3] τ (ww_QI Post) := by
  refine ww_enter (P := [some (.inr (.inr (4, 0))), some (.inr (.inr (2, 0))), some (.inl a2), some (.inl a3), none, none, none]) (by decide) (Nat.le_of_ble_eq_true rfl) rfl (fun E => ?_)
  replace h := h E
  refine ww_aload_n 1 dX1_readAll_0 rfl 0 rfl rfl ?_
  refine ww_iconst (v := nI 0) 2 dX1_readAll_1 (by decide) rfl ?_
  refine ww_putI 1 5 dX1_readAll_2 wf_X1_27 fp_X1_1 (ww_i1 4 (by decide)) rfl rfl rfl (fun τ1 eτ1 => ?_)
  replace h := h τ1 eτ1
  refine ww_iconst (v := (-1 : Int32)) 6 dX1_readAll_5 (by decide) rfl ?_
  refine ww_istore 8 4 dX1_readAll_6 rfl (by decide) rfl [some (.inr (.inr (4, 0))), some (.inr (.inr (2, 0))), some (.inl a2), some (.inl a3), some (.inl (-1 : Int32)), none, none] rfl ?_
  refine ww_iconst (v := nI 0) 9 dX1_readAll_8 (by decide) rfl ?_
  refine ww_istore 11 5 dX1_readAll_9 rfl (by decide) rfl [some (.inr (.inr (4, 0))), some (.inr (.inr (2, 0))), some (.inl a2), some (.inl a3), some (.inl (-1 : Int32)), some (.inl (nI 0)), none] rfl ?_
  exact h
theorem b_X1_readAll_11 {g : ww_G} {E : ww_E} {τ : ww_M} {x2 : Int32} {x3 : Int32} {x4 : Int32} {x5 : Int32} {Post : Int32 → ww_M → Prop}  (h : ((τ (2, 0) 1 ≤ x5 → Post (-1 : Int32) τ) ∧ (¬ (τ (2, 0) 1 ≤ x5) → (∃ Q1 : Int32 → ww_M → Prop, ww_T E.2.1 g mX4_byteAt [.inr (.inr (2, 0)), .inl x5] τ (ww_QI Q1) ∧ ∀ (v2 : Int32) (τ3 : ww_M), Q1 v2 τ3 → (¬ x4 = (-1 : Int32) → ww_W g mX1_readAll E (ww_QI Post) 49 [some (.inr (.inr (4, 0))), some (.inr (.inr (2, 0))), some (.inl x2), some (.inl x3), some (.inl x4), some (.inl x5), some (.inl v2)] [] τ3) ∧ (x4 = (-1 : Int32) → ((v2 = nI 32 → ww_W g mX1_readAll E (ww_QI Post) 49 [some (.inr (.inr (4, 0))), some (.inr (.inr (2, 0))), some (.inl x2), some (.inl x3), some (.inl x4), some (.inl x5), some (.inl v2)] [] τ3) ∧ (¬ v2 = nI 32 → (∃ Q4 : ww_M → Prop, ww_T E.2.1 g mX1_startWord [.inr (.inr (4, 0))] τ3 (ww_QV Q4) ∧ ∀ (τ5 : ww_M), Q4 τ5 → ww_W g mX1_readAll E (ww_QI Post) 49 [some (.inr (.inr (4, 0))), some (.inr (.inr (2, 0))), some (.inl x2), some (.inl x3), some (.inl x5), some (.inl x5), some (.inl v2)] [] τ5)))))))) : ww_W g mX1_readAll E (ww_QI Post) 11 [some (.inr (.inr (4, 0))), some (.inr (.inr (2, 0))), some (.inl x2), some (.inl x3), some (.inl x4), some (.inl x5), none] [] τ := by
  refine ww_iload 13 5 dX1_readAll_11 rfl rfl ?_
  refine ww_aload_n 14 dX1_readAll_13 rfl 1 rfl rfl ?_
  refine ww_getI 1 17 dX1_readAll_14 wf_X1_31 (ww_i1 2 (by decide)) rfl rfl rfl ?_
  refine ww_ic_ge 89 20 dX1_readAll_17 (by decide) rfl (fun c => ?_) (fun c => ?_)
  · replace h := h.1 c
    refine ww_iconst (v := (-1 : Int32)) 90 dX1_readAll_89 (by decide) rfl ?_
    exact ww_iret dX1_readAll_90 rfl ⟨_, rfl, h⟩
  · replace h := h.2 c
    refine ww_aload_n 21 dX1_readAll_20 rfl 1 rfl rfl ?_
    refine ww_iload 23 5 dX1_readAll_21 rfl rfl ?_
    obtain ⟨Q1, hT, h⟩ := h
    refine ww_invVI (d' := mX4_byteAt) [.inl x5] rfl 26 dX1_readAll_23 ⟨wi_X4, wc_X4_byteAt, wp_X4_byteAt, by decide, by decide⟩ wl_X1_36 wn_X4_byteAt we_X4_byteAt (ww_i1 2 (by decide)) rfl rfl (Nat.le_of_ble_eq_true rfl) rfl hT (fun v2 τ3 hq => ?_)
    replace h := h v2 τ3 hq
    refine ww_istore 28 6 dX1_readAll_26 rfl (by decide) rfl [some (.inr (.inr (4, 0))), some (.inr (.inr (2, 0))), some (.inl x2), some (.inl x3), some (.inl x4), some (.inl x5), some (.inl v2)] rfl ?_
    refine ww_iload 30 4 dX1_readAll_28 rfl rfl ?_
    refine ww_iconst (v := (-1 : Int32)) 31 dX1_readAll_30 (by decide) rfl ?_
    refine ww_ic_ne 49 34 dX1_readAll_31 (by decide) rfl (fun c => ?_) (fun c => ?_)
    · replace h := h.1 c
      exact h
    · replace h := h.2 c
      refine ww_iload 36 6 dX1_readAll_34 rfl rfl ?_
      refine ww_bipush (v := nI 32) 38 dX1_readAll_36 (by decide) rfl ?_
      refine ww_ic_eq 49 41 dX1_readAll_38 (by decide) rfl (fun c => ?_) (fun c => ?_)
      · replace h := h.1 c
        exact h
      · replace h := h.2 c
        refine ww_iload 43 5 dX1_readAll_41 rfl rfl ?_
        refine ww_istore 45 4 dX1_readAll_43 rfl (by decide) rfl [some (.inr (.inr (4, 0))), some (.inr (.inr (2, 0))), some (.inl x2), some (.inl x3), some (.inl x5), some (.inl x5), some (.inl v2)] rfl ?_
        refine ww_aload_n 46 dX1_readAll_45 rfl 0 rfl rfl ?_
        obtain ⟨Q4, hT, h⟩ := h
        refine ww_invVV (d' := mX1_startWord) [] rfl 49 dX1_readAll_46 ⟨wi_X1, wc_X1_startWord, wp_X1_startWord, by decide, by decide⟩ wl_X1_40 wn_X1_startWord we_X1_startWord (ww_i1 4 (by decide)) rfl rfl (Nat.le_of_ble_eq_true rfl) rfl hT (fun τ5 hq => ?_)
        replace h := h τ5 hq
        exact h
theorem b_X1_readAll_49 {g : ww_G} {E : ww_E} {τ : ww_M} {x2 : Int32} {x3 : Int32} {x4 : Int32} {x5 : Int32} {x6 : Int32} {Post : Int32 → ww_M → Prop}  (h : ((x6 = nI 59 → (∃ Q1 : Int32 → ww_M → Prop, ww_T E.2.1 g mX1_takeWord [.inr (.inr (4, 0)), .inl x2, .inl x3] τ (ww_QI Q1) ∧ ∀ (v2 : Int32) (τ3 : ww_M), Q1 v2 τ3 → (v2 = nI 0 → Post x4 τ3) ∧ (¬ v2 = nI 0 → ww_W g mX1_readAll E (ww_QI Post) 11 [some (.inr (.inr (4, 0))), some (.inr (.inr (2, 0))), some (.inl x2), some (.inl x3), some (.inl (-1 : Int32)), some (.inl (x5 + nI 1)), none] [] τ3))) ∧ (¬ x6 = nI 59 → (∃ Q4 : ww_M → Prop, ww_T E.2.1 g mX1_readByte [.inr (.inr (4, 0)), .inl x6] τ (ww_QV Q4) ∧ ∀ (τ5 : ww_M), Q4 τ5 → ww_W g mX1_readAll E (ww_QI Post) 11 [some (.inr (.inr (4, 0))), some (.inr (.inr (2, 0))), some (.inl x2), some (.inl x3), some (.inl x4), some (.inl (x5 + nI 1)), none] [] τ5)))) : ww_W g mX1_readAll E (ww_QI Post) 49 [some (.inr (.inr (4, 0))), some (.inr (.inr (2, 0))), some (.inl x2), some (.inl x3), some (.inl x4), some (.inl x5), some (.inl x6)] [] τ := by
  refine ww_iload 51 6 dX1_readAll_49 rfl rfl ?_
  refine ww_bipush (v := nI 59) 53 dX1_readAll_51 (by decide) rfl ?_
  refine ww_ic_eq 65 56 dX1_readAll_53 (by decide) rfl (fun c => ?_) (fun c => ?_)
  · replace h := h.1 c
    refine ww_aload_n 66 dX1_readAll_65 rfl 0 rfl rfl ?_
    refine ww_iload_n 67 dX1_readAll_66 rfl 2 rfl rfl ?_
    refine ww_iload_n 68 dX1_readAll_67 rfl 3 rfl rfl ?_
    obtain ⟨Q1, hT, h⟩ := h
    refine ww_invVI (d' := mX1_takeWord) [.inl x2, .inl x3] rfl 71 dX1_readAll_68 ⟨wi_X1, wc_X1_takeWord, wp_X1_takeWord, by decide, by decide⟩ wl_X1_46 wn_X1_takeWord we_X1_takeWord (ww_i1 4 (by decide)) rfl rfl (Nat.le_of_ble_eq_true rfl) rfl hT (fun v2 τ3 hq => ?_)
    replace h := h v2 τ3 hq
    refine ww_if_eq 80 74 dX1_readAll_71 (by decide) rfl (fun c => ?_) (fun c => ?_)
    · replace h := h.1 c
      refine ww_iload 82 4 dX1_readAll_80 rfl rfl ?_
      exact ww_iret dX1_readAll_82 rfl ⟨_, rfl, h⟩
    · replace h := h.2 c
      refine ww_iconst (v := (-1 : Int32)) 75 dX1_readAll_74 (by decide) rfl ?_
      refine ww_istore 77 4 dX1_readAll_75 rfl (by decide) rfl [some (.inr (.inr (4, 0))), some (.inr (.inr (2, 0))), some (.inl x2), some (.inl x3), some (.inl (-1 : Int32)), some (.inl x5), some (.inl x6)] rfl ?_
      refine ww_goto 83 dX1_readAll_77 (by decide) ?_
      refine ww_iinc (nI 1) 86 5 dX1_readAll_83 (by decide) rfl rfl (by decide) rfl [some (.inr (.inr (4, 0))), some (.inr (.inr (2, 0))), some (.inl x2), some (.inl x3), some (.inl (-1 : Int32)), some (.inl (x5 + nI 1)), some (.inl x6)] rfl ?_
      refine ww_goto 11 dX1_readAll_86 (by decide) ?_
      exact ww_weak (ww_le_s (ww_le_s (ww_le_s (ww_le_s (ww_le_s (ww_le_s (ww_le_n (ww_le_nil _)))))))) h
  · replace h := h.2 c
    refine ww_aload_n 57 dX1_readAll_56 rfl 0 rfl rfl ?_
    refine ww_iload 59 6 dX1_readAll_57 rfl rfl ?_
    obtain ⟨Q4, hT, h⟩ := h
    refine ww_invVV (d' := mX1_readByte) [.inl x6] rfl 62 dX1_readAll_59 ⟨wi_X1, wc_X1_readByte, wp_X1_readByte, by decide, by decide⟩ wl_X1_43 wn_X1_readByte we_X1_readByte (ww_i1 4 (by decide)) rfl rfl (Nat.le_of_ble_eq_true rfl) rfl hT (fun τ5 hq => ?_)
    replace h := h τ5 hq
    refine ww_goto 83 dX1_readAll_62 (by decide) ?_
    refine ww_iinc (nI 1) 86 5 dX1_readAll_83 (by decide) rfl rfl (by decide) rfl [some (.inr (.inr (4, 0))), some (.inr (.inr (2, 0))), some (.inl x2), some (.inl x3), some (.inl x4), some (.inl (x5 + nI 1)), some (.inl x6)] rfl ?_
    refine ww_goto 11 dX1_readAll_86 (by decide) ?_
    exact ww_weak (ww_le_s (ww_le_s (ww_le_s (ww_le_s (ww_le_s (ww_le_s (ww_le_n (ww_le_nil _)))))))) h
theorem b_X1_startWord {l : Launch} {g : ww_G} {τ : ww_M}  {Post : ww_M → Prop}  (h : ∀ E : ww_E, (∀ τ1 : ww_M, τ1 = ww_up τ (4, 0) 3 (nI 0) → (∀ τ2 : ww_M, τ2 = ww_up τ1 (4, 0) 4 (nI 0) → (∀ τ3 : ww_M, τ3 = ww_up τ2 (4, 0) 5 (nI 0) → (∀ τ4 : ww_M, τ4 = ww_up τ3 (4, 0) 7 (nI 0) → Post τ4))))) : ww_T l g mX1_startWord [.inr (.inr (4, 0))] τ (ww_QV Post) := by
  refine ww_enter (P := [some (.inr (.inr (4, 0)))]) (by decide) (Nat.le_of_ble_eq_true rfl) rfl (fun E => ?_)
  replace h := h E
  refine ww_aload_n 1 dX1_startWord_0 rfl 0 rfl rfl ?_
  refine ww_iconst (v := nI 0) 2 dX1_startWord_1 (by decide) rfl ?_
  refine ww_putI 3 5 dX1_startWord_2 wf_X1_50 fp_X1_3 (ww_i1 4 (by decide)) rfl rfl rfl (fun τ1 eτ1 => ?_)
  replace h := h τ1 eτ1
  refine ww_aload_n 6 dX1_startWord_5 rfl 0 rfl rfl ?_
  refine ww_iconst (v := nI 0) 7 dX1_startWord_6 (by decide) rfl ?_
  refine ww_putZ 4 10 dX1_startWord_7 wf_X1_53 fp_X1_4 (ww_i1 4 (by decide)) rfl rfl rfl (Or.inl rfl) (fun τ2 eτ2 => ?_)
  replace h := h τ2 eτ2
  refine ww_aload_n 11 dX1_startWord_10 rfl 0 rfl rfl ?_
  refine ww_iconst (v := nI 0) 12 dX1_startWord_11 (by decide) rfl ?_
  refine ww_putI 5 15 dX1_startWord_12 wf_X1_57 fp_X1_5 (ww_i1 4 (by decide)) rfl rfl rfl (fun τ3 eτ3 => ?_)
  replace h := h τ3 eτ3
  refine ww_aload_n 16 dX1_startWord_15 rfl 0 rfl rfl ?_
  refine ww_iconst (v := nI 0) 17 dX1_startWord_16 (by decide) rfl ?_
  refine ww_putI 7 20 dX1_startWord_17 wf_X1_60 fp_X1_7 (ww_i1 4 (by decide)) rfl rfl rfl (fun τ4 eτ4 => ?_)
  replace h := h τ4 eτ4
  exact ww_vret dX1_startWord_20 rfl ⟨rfl, h⟩
theorem b_X1_readByte {l : Launch} {g : ww_G} {τ : ww_M} {a1 : Int32} {Post : ww_M → Prop}  (h : ∀ E : ww_E, (∃ Q1 : Int32 → ww_M → Prop, ww_T E.2.1 g mX4_letterFor [.inl a1] τ (ww_QI Q1) ∧ ∀ (v2 : Int32) (τ3 : ww_M), Q1 v2 τ3 → (∃ Q4 : Int32 → ww_M → Prop, ww_T E.2.1 g mX4_figureFor [.inl a1] τ3 (ww_QI Q4) ∧ ∀ (v5 : Int32) (τ6 : ww_M), Q4 v5 τ6 → (v2 = (-1 : Int32) → ((v5 = (-1 : Int32) → ((¬ a1 = nI 40 → ww_W g mX1_readByte E (ww_QV Post) 84 [some (.inr (.inr (4, 0))), some (.inl a1), none, none] [] τ6) ∧ (a1 = nI 40 → ((nI 4 ≤ τ6 (4, 0) 7 → ww_W g mX1_readByte E (ww_QV Post) 84 [some (.inr (.inr (4, 0))), some (.inl a1), none, none] [] τ6) ∧ (¬ (nI 4 ≤ τ6 (4, 0) 7) → (∃ j7 : Nat, τ6 (4, 0) 7 = nI j7 ∧ j7 < 4 ∧ ∀ τ8 : ww_M, τ8 = ww_up τ6 (7, 0) j7 (τ6 (4, 0) 3) → (∀ τ9 : ww_M, τ9 = ww_up τ8 (4, 0) 7 ((τ8 (4, 0) 7) + (nI 1)) → Post τ9))))))) ∧ (¬ v5 = (-1 : Int32) → (∃ Q10 : ww_M → Prop, ww_T E.2.1 g mX1_repeatFactor [.inr (.inr (4, 0)), .inl v5] τ6 (ww_QV Q10) ∧ ∀ (τ11 : ww_M), Q10 τ11 → Post τ11)))) ∧ (¬ v2 = (-1 : Int32) → (∀ τ12 : ww_M, τ12 = ww_up τ6 (4, 0) 5 (τ6 (4, 0) 3) → (∃ Q13 : ww_M → Prop, ww_T E.2.1 g mX1_putRaw [.inr (.inr (4, 0)), .inl v2] τ12 (ww_QV Q13) ∧ ∀ (τ14 : ww_M), Q13 τ14 → Post τ14)))))) : ww_T l g mX1_readByte [.inr (.inr (4, 0)), .inl a1] τ (ww_QV Post) := by
  refine ww_enter (P := [some (.inr (.inr (4, 0))), some (.inl a1), none, none]) (by decide) (Nat.le_of_ble_eq_true rfl) rfl (fun E => ?_)
  replace h := h E
  refine ww_iload_n 1 dX1_readByte_0 rfl 1 rfl rfl ?_
  obtain ⟨Q1, hT, h⟩ := h
  refine ww_invSI (d' := mX4_letterFor) [.inl a1] rfl 4 dX1_readByte_1 ⟨wi_X4, wc_X4_letterFor, wp_X4_letterFor, by decide, by decide⟩ (Or.inl wl_X1_63) wn_X4_letterFor (Nat.le_of_ble_eq_true rfl) rfl hT (fun v2 τ3 hq => ?_)
  replace h := h v2 τ3 hq
  refine ww_istore_n 5 dX1_readByte_4 rfl 2 rfl (by decide) rfl [some (.inr (.inr (4, 0))), some (.inl a1), some (.inl v2), none] rfl ?_
  refine ww_iload_n 6 dX1_readByte_5 rfl 1 rfl rfl ?_
  obtain ⟨Q4, hT, h⟩ := h
  refine ww_invSI (d' := mX4_figureFor) [.inl a1] rfl 9 dX1_readByte_6 ⟨wi_X4, wc_X4_figureFor, wp_X4_figureFor, by decide, by decide⟩ (Or.inl wl_X1_66) wn_X4_figureFor (Nat.le_of_ble_eq_true rfl) rfl hT (fun v5 τ6 hq => ?_)
  replace h := h v5 τ6 hq
  refine ww_istore_n 10 dX1_readByte_9 rfl 3 rfl (by decide) rfl [some (.inr (.inr (4, 0))), some (.inl a1), some (.inl v2), some (.inl v5)] rfl ?_
  refine ww_iload_n 11 dX1_readByte_10 rfl 2 rfl rfl ?_
  refine ww_iconst (v := (-1 : Int32)) 12 dX1_readByte_11 (by decide) rfl ?_
  refine ww_ic_eq 31 15 dX1_readByte_12 (by decide) rfl (fun c => ?_) (fun c => ?_)
  · replace h := h.1 c
    refine ww_iload_n 32 dX1_readByte_31 rfl 3 rfl rfl ?_
    refine ww_iconst (v := (-1 : Int32)) 33 dX1_readByte_32 (by decide) rfl ?_
    refine ww_ic_eq 44 36 dX1_readByte_33 (by decide) rfl (fun c => ?_) (fun c => ?_)
    · replace h := h.1 c
      refine ww_iload_n 45 dX1_readByte_44 rfl 1 rfl rfl ?_
      refine ww_bipush (v := nI 40) 47 dX1_readByte_45 (by decide) rfl ?_
      refine ww_ic_ne 84 50 dX1_readByte_47 (by decide) rfl (fun c => ?_) (fun c => ?_)
      · replace h := h.1 c
        exact ww_weak (ww_le_s (ww_le_s (ww_le_n (ww_le_n (ww_le_nil _))))) h
      · replace h := h.2 c
        refine ww_aload_n 51 dX1_readByte_50 rfl 0 rfl rfl ?_
        refine ww_getI 7 54 dX1_readByte_51 wf_X1_60 (ww_i1 4 (by decide)) rfl rfl rfl ?_
        refine ww_iconst (v := nI 4) 55 dX1_readByte_54 (by decide) rfl ?_
        refine ww_ic_ge 84 58 dX1_readByte_55 (by decide) rfl (fun c => ?_) (fun c => ?_)
        · replace h := h.1 c
          exact ww_weak (ww_le_s (ww_le_s (ww_le_n (ww_le_n (ww_le_nil _))))) h
        · replace h := h.2 c
          refine ww_aload_n 59 dX1_readByte_58 rfl 0 rfl rfl ?_
          refine ww_getR 6 62 dX1_readByte_59 wf_X1_15 (ww_i1 4 (by decide)) rfl rfl rfl ?_
          refine ww_aload_n 63 dX1_readByte_62 rfl 0 rfl rfl ?_
          refine ww_getI 7 66 dX1_readByte_63 wf_X1_60 (ww_i1 4 (by decide)) rfl rfl rfl ?_
          refine ww_aload_n 67 dX1_readByte_66 rfl 0 rfl rfl ?_
          refine ww_getI 3 70 dX1_readByte_67 wf_X1_50 (ww_i1 4 (by decide)) rfl rfl rfl ?_
          obtain ⟨j7, hij7, hj7, h⟩ := h
          refine ww_iast j7 71 dX1_readByte_70 (ww_i1 7 (by decide)) rfl (by decide) hij7 hj7 rfl (fun τ8 eτ8 => ?_)
          replace h := h τ8 eτ8
          refine ww_aload_n 72 dX1_readByte_71 rfl 0 rfl rfl ?_
          refine ww_dup 73 dX1_readByte_72 rfl rfl ?_
          refine ww_getI 7 76 dX1_readByte_73 wf_X1_60 (ww_i1 4 (by decide)) rfl rfl rfl ?_
          refine ww_iconst (v := nI 1) 77 dX1_readByte_76 (by decide) rfl ?_
          refine ww_iadd 78 dX1_readByte_77 rfl ?_
          refine ww_putI 7 81 dX1_readByte_78 wf_X1_60 fp_X1_7 (ww_i1 4 (by decide)) rfl rfl rfl (fun τ9 eτ9 => ?_)
          replace h := h τ9 eτ9
          refine ww_goto 120 dX1_readByte_81 (by decide) ?_
          exact ww_vret dX1_readByte_120 rfl ⟨rfl, h⟩
    · replace h := h.2 c
      refine ww_aload_n 37 dX1_readByte_36 rfl 0 rfl rfl ?_
      refine ww_iload_n 38 dX1_readByte_37 rfl 3 rfl rfl ?_
      obtain ⟨Q10, hT, h⟩ := h
      refine ww_invVV (d' := mX1_repeatFactor) [.inl v5] rfl 41 dX1_readByte_38 ⟨wi_X1, wc_X1_repeatFactor, wp_X1_repeatFactor, by decide, by decide⟩ wl_X1_72 wn_X1_repeatFactor we_X1_repeatFactor (ww_i1 4 (by decide)) rfl rfl (Nat.le_of_ble_eq_true rfl) rfl hT (fun τ11 hq => ?_)
      replace h := h τ11 hq
      refine ww_goto 120 dX1_readByte_41 (by decide) ?_
      exact ww_vret dX1_readByte_120 rfl ⟨rfl, h⟩
  · replace h := h.2 c
    refine ww_aload_n 16 dX1_readByte_15 rfl 0 rfl rfl ?_
    refine ww_aload_n 17 dX1_readByte_16 rfl 0 rfl rfl ?_
    refine ww_getI 3 20 dX1_readByte_17 wf_X1_50 (ww_i1 4 (by decide)) rfl rfl rfl ?_
    refine ww_putI 5 23 dX1_readByte_20 wf_X1_57 fp_X1_5 (ww_i1 4 (by decide)) rfl rfl rfl (fun τ12 eτ12 => ?_)
    replace h := h τ12 eτ12
    refine ww_aload_n 24 dX1_readByte_23 rfl 0 rfl rfl ?_
    refine ww_iload_n 25 dX1_readByte_24 rfl 2 rfl rfl ?_
    obtain ⟨Q13, hT, h⟩ := h
    refine ww_invVV (d' := mX1_putRaw) [.inl v2] rfl 28 dX1_readByte_25 ⟨wi_X1, wc_X1_putRaw, wp_X1_putRaw, by decide, by decide⟩ wl_X1_69 wn_X1_putRaw we_X1_putRaw (ww_i1 4 (by decide)) rfl rfl (Nat.le_of_ble_eq_true rfl) rfl hT (fun τ14 hq => ?_)
    replace h := h τ14 hq
    refine ww_goto 120 dX1_readByte_28 (by decide) ?_
    exact ww_vret dX1_readByte_120 rfl ⟨rfl, h⟩
theorem b_X1_readByte_84 {g : ww_G} {E : ww_E} {τ : ww_M} {x1 : Int32} {Post : ww_M → Prop}  (h : ((¬ x1 = nI 41 → Post τ) ∧ (x1 = nI 41 → ((τ (4, 0) 7 ≤ nI 0 → Post τ) ∧ (¬ (τ (4, 0) 7 ≤ nI 0) → (∀ τ1 : ww_M, τ1 = ww_up τ (4, 0) 7 ((τ (4, 0) 7) - (nI 1)) → (∃ j2 : Nat, τ1 (4, 0) 7 = nI j2 ∧ j2 < 4 ∧ (∀ τ3 : ww_M, τ3 = ww_up τ1 (4, 0) 5 (τ1 (7, 0) j2) → Post τ3)))))))) : ww_W g mX1_readByte E (ww_QV Post) 84 [some (.inr (.inr (4, 0))), some (.inl x1), none, none] [] τ := by
  refine ww_iload_n 85 dX1_readByte_84 rfl 1 rfl rfl ?_
  refine ww_bipush (v := nI 41) 87 dX1_readByte_85 (by decide) rfl ?_
  refine ww_ic_ne 120 90 dX1_readByte_87 (by decide) rfl (fun c => ?_) (fun c => ?_)
  · replace h := h.1 c
    exact ww_vret dX1_readByte_120 rfl ⟨rfl, h⟩
  · replace h := h.2 c
    refine ww_aload_n 91 dX1_readByte_90 rfl 0 rfl rfl ?_
    refine ww_getI 7 94 dX1_readByte_91 wf_X1_60 (ww_i1 4 (by decide)) rfl rfl rfl ?_
    refine ww_if_le 120 97 dX1_readByte_94 (by decide) rfl (fun c => ?_) (fun c => ?_)
    · replace h := h.1 c
      exact ww_vret dX1_readByte_120 rfl ⟨rfl, h⟩
    · replace h := h.2 c
      refine ww_aload_n 98 dX1_readByte_97 rfl 0 rfl rfl ?_
      refine ww_dup 99 dX1_readByte_98 rfl rfl ?_
      refine ww_getI 7 102 dX1_readByte_99 wf_X1_60 (ww_i1 4 (by decide)) rfl rfl rfl ?_
      refine ww_iconst (v := nI 1) 103 dX1_readByte_102 (by decide) rfl ?_
      refine ww_isub 104 dX1_readByte_103 rfl ?_
      refine ww_putI 7 107 dX1_readByte_104 wf_X1_60 fp_X1_7 (ww_i1 4 (by decide)) rfl rfl rfl (fun τ1 eτ1 => ?_)
      replace h := h τ1 eτ1
      refine ww_aload_n 108 dX1_readByte_107 rfl 0 rfl rfl ?_
      refine ww_aload_n 109 dX1_readByte_108 rfl 0 rfl rfl ?_
      refine ww_getR 6 112 dX1_readByte_109 wf_X1_15 (ww_i1 4 (by decide)) rfl rfl rfl ?_
      refine ww_aload_n 113 dX1_readByte_112 rfl 0 rfl rfl ?_
      refine ww_getI 7 116 dX1_readByte_113 wf_X1_60 (ww_i1 4 (by decide)) rfl rfl rfl ?_
      obtain ⟨j2, hij2, hj2, h⟩ := h
      refine ww_iald j2 117 dX1_readByte_116 (ww_i1 7 (by decide)) rfl (by decide) hij2 hj2 rfl ?_
      refine ww_putI 5 120 dX1_readByte_117 wf_X1_57 fp_X1_5 (ww_i1 4 (by decide)) rfl rfl rfl (fun τ3 eτ3 => ?_)
      replace h := h τ3 eτ3
      exact ww_vret dX1_readByte_120 rfl ⟨rfl, h⟩
theorem b_X1_putRaw {l : Launch} {g : ww_G} {τ : ww_M} {a1 : Int32} {Post : ww_M → Prop}  (h : ∀ E : ww_E, ((nI 60 ≤ τ (4, 0) 3 → (∀ τ1 : ww_M, τ1 = ww_up τ (4, 0) 4 (nI 1) → Post τ1)) ∧ (¬ (nI 60 ≤ τ (4, 0) 3) → (∃ j2 : Nat, τ (4, 0) 3 = nI j2 ∧ j2 < 60 ∧ ∀ τ3 : ww_M, τ3 = ww_up τ (6, 0) j2 a1 → (∀ τ4 : ww_M, τ4 = ww_up τ3 (4, 0) 3 ((τ3 (4, 0) 3) + (nI 1)) → Post τ4))))) : ww_T l g mX1_putRaw [.inr (.inr (4, 0)), .inl a1] τ (ww_QV Post) := by
  refine ww_enter (P := [some (.inr (.inr (4, 0))), some (.inl a1)]) (by decide) (Nat.le_of_ble_eq_true rfl) rfl (fun E => ?_)
  replace h := h E
  refine ww_aload_n 1 dX1_putRaw_0 rfl 0 rfl rfl ?_
  refine ww_getI 3 4 dX1_putRaw_1 wf_X1_50 (ww_i1 4 (by decide)) rfl rfl rfl ?_
  refine ww_aload_n 5 dX1_putRaw_4 rfl 0 rfl rfl ?_
  refine ww_getR 2 8 dX1_putRaw_5 wf_X1_9 (ww_i1 4 (by decide)) rfl rfl rfl ?_
  refine ww_alnI 9 dX1_putRaw_8 (ww_i1 6 (by decide)) rfl rfl ?_
  refine ww_ic_ge 35 12 dX1_putRaw_9 (by decide) rfl (fun c => ?_) (fun c => ?_)
  · replace h := h.1 c
    refine ww_aload_n 36 dX1_putRaw_35 rfl 0 rfl rfl ?_
    refine ww_iconst (v := nI 1) 37 dX1_putRaw_36 (by decide) rfl ?_
    refine ww_putZ 4 40 dX1_putRaw_37 wf_X1_53 fp_X1_4 (ww_i1 4 (by decide)) rfl rfl rfl (Or.inr rfl) (fun τ1 eτ1 => ?_)
    replace h := h τ1 eτ1
    exact ww_vret dX1_putRaw_40 rfl ⟨rfl, h⟩
  · replace h := h.2 c
    refine ww_aload_n 13 dX1_putRaw_12 rfl 0 rfl rfl ?_
    refine ww_getR 2 16 dX1_putRaw_13 wf_X1_9 (ww_i1 4 (by decide)) rfl rfl rfl ?_
    refine ww_aload_n 17 dX1_putRaw_16 rfl 0 rfl rfl ?_
    refine ww_getI 3 20 dX1_putRaw_17 wf_X1_50 (ww_i1 4 (by decide)) rfl rfl rfl ?_
    refine ww_iload_n 21 dX1_putRaw_20 rfl 1 rfl rfl ?_
    obtain ⟨j2, hij2, hj2, h⟩ := h
    refine ww_iast j2 22 dX1_putRaw_21 (ww_i1 6 (by decide)) rfl (by decide) hij2 hj2 rfl (fun τ3 eτ3 => ?_)
    replace h := h τ3 eτ3
    refine ww_aload_n 23 dX1_putRaw_22 rfl 0 rfl rfl ?_
    refine ww_dup 24 dX1_putRaw_23 rfl rfl ?_
    refine ww_getI 3 27 dX1_putRaw_24 wf_X1_50 (ww_i1 4 (by decide)) rfl rfl rfl ?_
    refine ww_iconst (v := nI 1) 28 dX1_putRaw_27 (by decide) rfl ?_
    refine ww_iadd 29 dX1_putRaw_28 rfl ?_
    refine ww_putI 3 32 dX1_putRaw_29 wf_X1_50 fp_X1_3 (ww_i1 4 (by decide)) rfl rfl rfl (fun τ4 eτ4 => ?_)
    replace h := h τ4 eτ4
    refine ww_goto 40 dX1_putRaw_32 (by decide) ?_
    exact ww_vret dX1_putRaw_40 rfl ⟨rfl, h⟩
theorem b_X1_repeatFactor {l : Launch} {g : ww_G} {τ : ww_M} {a1 : Int32} {Post : ww_M → Prop}  (h : ∀ E : ww_E, ww_W g mX1_repeatFactor E (ww_QV Post) 7 [some (.inr (.inr (4, 0))), some (.inl a1), some (.inl (τ (4, 0) 3)), some (.inl (nI 1)), none] [] τ) : ww_T l g mX1_repeatFactor [.inr (.inr (4, 0)), .inl a1] τ (ww_QV Post) := by
  refine ww_enter (P := [some (.inr (.inr (4, 0))), some (.inl a1), none, none, none]) (by decide) (Nat.le_of_ble_eq_true rfl) rfl (fun E => ?_)
  replace h := h E
  refine ww_aload_n 1 dX1_repeatFactor_0 rfl 0 rfl rfl ?_
  refine ww_getI 3 4 dX1_repeatFactor_1 wf_X1_50 (ww_i1 4 (by decide)) rfl rfl rfl ?_
  refine ww_istore_n 5 dX1_repeatFactor_4 rfl 2 rfl (by decide) rfl [some (.inr (.inr (4, 0))), some (.inl a1), some (.inl (τ (4, 0) 3)), none, none] rfl ?_
  refine ww_iconst (v := nI 1) 6 dX1_repeatFactor_5 (by decide) rfl ?_
  refine ww_istore_n 7 dX1_repeatFactor_6 rfl 3 rfl (by decide) rfl [some (.inr (.inr (4, 0))), some (.inl a1), some (.inl (τ (4, 0) 3)), some (.inl (nI 1)), none] rfl ?_
  exact h
theorem b_X1_repeatFactor_7 {g : ww_G} {E : ww_E} {τ : ww_M} {x1 : Int32} {x2 : Int32} {x3 : Int32} {Post : ww_M → Prop}  (h : ((x1 ≤ x3 → Post τ) ∧ (¬ (x1 ≤ x3) → ww_W g mX1_repeatFactor E (ww_QV Post) 18 [some (.inr (.inr (4, 0))), some (.inl x1), some (.inl x2), some (.inl x3), some (.inl (τ (4, 0) 5))] [] τ))) : ww_W g mX1_repeatFactor E (ww_QV Post) 7 [some (.inr (.inr (4, 0))), some (.inl x1), some (.inl x2), some (.inl x3), none] [] τ := by
  refine ww_iload_n 8 dX1_repeatFactor_7 rfl 3 rfl rfl ?_
  refine ww_iload_n 9 dX1_repeatFactor_8 rfl 1 rfl rfl ?_
  refine ww_ic_ge 62 12 dX1_repeatFactor_9 (by decide) rfl (fun c => ?_) (fun c => ?_)
  · replace h := h.1 c
    exact ww_vret dX1_repeatFactor_62 rfl ⟨rfl, h⟩
  · replace h := h.2 c
    refine ww_aload_n 13 dX1_repeatFactor_12 rfl 0 rfl rfl ?_
    refine ww_getI 5 16 dX1_repeatFactor_13 wf_X1_57 (ww_i1 4 (by decide)) rfl rfl rfl ?_
    refine ww_istore 18 4 dX1_repeatFactor_16 rfl (by decide) rfl [some (.inr (.inr (4, 0))), some (.inl x1), some (.inl x2), some (.inl x3), some (.inl (τ (4, 0) 5))] rfl ?_
    exact h
theorem b_X1_repeatFactor_18 {g : ww_G} {E : ww_E} {τ : ww_M} {x1 : Int32} {x2 : Int32} {x3 : Int32} {x4 : Int32} {Post : ww_M → Prop}  (h : ((x4 < nI 0 → ww_W g mX1_repeatFactor E (ww_QV Post) 7 [some (.inr (.inr (4, 0))), some (.inl x1), some (.inl x2), some (.inl (x3 + nI 1)), none] [] τ) ∧ (¬ (x4 < nI 0) → ((x2 ≤ x4 → ww_W g mX1_repeatFactor E (ww_QV Post) 7 [some (.inr (.inr (4, 0))), some (.inl x1), some (.inl x2), some (.inl (x3 + nI 1)), none] [] τ) ∧ (¬ (x2 ≤ x4) → ((nI 60 ≤ x4 → ww_W g mX1_repeatFactor E (ww_QV Post) 7 [some (.inr (.inr (4, 0))), some (.inl x1), some (.inl x2), some (.inl (x3 + nI 1)), none] [] τ) ∧ (¬ (nI 60 ≤ x4) → (∃ j1 : Nat, x4 = nI j1 ∧ j1 < 60 ∧ (∃ Q2 : ww_M → Prop, ww_T E.2.1 g mX1_putRaw [.inr (.inr (4, 0)), .inl (τ (6, 0) j1)] τ (ww_QV Q2) ∧ ∀ (τ3 : ww_M), Q2 τ3 → ww_W g mX1_repeatFactor E (ww_QV Post) 18 [some (.inr (.inr (4, 0))), some (.inl x1), some (.inl x2), some (.inl x3), some (.inl (x4 + nI 1))] [] τ3))))))))) : ww_W g mX1_repeatFactor E (ww_QV Post) 18 [some (.inr (.inr (4, 0))), some (.inl x1), some (.inl x2), some (.inl x3), some (.inl x4)] [] τ := by
  refine ww_iload 20 4 dX1_repeatFactor_18 rfl rfl ?_
  refine ww_if_lt 56 23 dX1_repeatFactor_20 (by decide) rfl (fun c => ?_) (fun c => ?_)
  · replace h := h.1 c
    refine ww_iinc (nI 1) 59 3 dX1_repeatFactor_56 (by decide) rfl rfl (by decide) rfl [some (.inr (.inr (4, 0))), some (.inl x1), some (.inl x2), some (.inl (x3 + nI 1)), some (.inl x4)] rfl ?_
    refine ww_goto 7 dX1_repeatFactor_59 (by decide) ?_
    exact ww_weak (ww_le_s (ww_le_s (ww_le_s (ww_le_s (ww_le_n (ww_le_nil _)))))) h
  · replace h := h.2 c
    refine ww_iload 25 4 dX1_repeatFactor_23 rfl rfl ?_
    refine ww_iload_n 26 dX1_repeatFactor_25 rfl 2 rfl rfl ?_
    refine ww_ic_ge 56 29 dX1_repeatFactor_26 (by decide) rfl (fun c => ?_) (fun c => ?_)
    · replace h := h.1 c
      refine ww_iinc (nI 1) 59 3 dX1_repeatFactor_56 (by decide) rfl rfl (by decide) rfl [some (.inr (.inr (4, 0))), some (.inl x1), some (.inl x2), some (.inl (x3 + nI 1)), some (.inl x4)] rfl ?_
      refine ww_goto 7 dX1_repeatFactor_59 (by decide) ?_
      exact ww_weak (ww_le_s (ww_le_s (ww_le_s (ww_le_s (ww_le_n (ww_le_nil _)))))) h
    · replace h := h.2 c
      refine ww_iload 31 4 dX1_repeatFactor_29 rfl rfl ?_
      refine ww_aload_n 32 dX1_repeatFactor_31 rfl 0 rfl rfl ?_
      refine ww_getR 2 35 dX1_repeatFactor_32 wf_X1_9 (ww_i1 4 (by decide)) rfl rfl rfl ?_
      refine ww_alnI 36 dX1_repeatFactor_35 (ww_i1 6 (by decide)) rfl rfl ?_
      refine ww_ic_ge 56 39 dX1_repeatFactor_36 (by decide) rfl (fun c => ?_) (fun c => ?_)
      · replace h := h.1 c
        refine ww_iinc (nI 1) 59 3 dX1_repeatFactor_56 (by decide) rfl rfl (by decide) rfl [some (.inr (.inr (4, 0))), some (.inl x1), some (.inl x2), some (.inl (x3 + nI 1)), some (.inl x4)] rfl ?_
        refine ww_goto 7 dX1_repeatFactor_59 (by decide) ?_
        exact ww_weak (ww_le_s (ww_le_s (ww_le_s (ww_le_s (ww_le_n (ww_le_nil _)))))) h
      · replace h := h.2 c
        refine ww_aload_n 40 dX1_repeatFactor_39 rfl 0 rfl rfl ?_
        refine ww_aload_n 41 dX1_repeatFactor_40 rfl 0 rfl rfl ?_
        refine ww_getR 2 44 dX1_repeatFactor_41 wf_X1_9 (ww_i1 4 (by decide)) rfl rfl rfl ?_
        refine ww_iload 46 4 dX1_repeatFactor_44 rfl rfl ?_
        obtain ⟨j1, hij1, hj1, h⟩ := h
        refine ww_iald j1 47 dX1_repeatFactor_46 (ww_i1 6 (by decide)) rfl (by decide) hij1 hj1 rfl ?_
        obtain ⟨Q2, hT, h⟩ := h
        refine ww_invVV (d' := mX1_putRaw) [.inl (τ (6, 0) j1)] rfl 50 dX1_repeatFactor_47 ⟨wi_X1, wc_X1_putRaw, wp_X1_putRaw, by decide, by decide⟩ wl_X1_69 wn_X1_putRaw we_X1_putRaw (ww_i1 4 (by decide)) rfl rfl (Nat.le_of_ble_eq_true rfl) rfl hT (fun τ3 hq => ?_)
        replace h := h τ3 hq
        refine ww_iinc (nI 1) 53 4 dX1_repeatFactor_50 (by decide) rfl rfl (by decide) rfl [some (.inr (.inr (4, 0))), some (.inl x1), some (.inl x2), some (.inl x3), some (.inl (x4 + nI 1))] rfl ?_
        refine ww_goto 18 dX1_repeatFactor_53 (by decide) ?_
        exact h
theorem b_X1_takeWord {l : Launch} {g : ww_G} {τ : ww_M} {a1 : Int32} {a2 : Int32} {Post : Int32 → ww_M → Prop}  (h : ∀ E : ww_E, ((¬ τ (4, 0) 4 = nI 0 → Post (nI 0) τ) ∧ (τ (4, 0) 4 = nI 0 → ((a1 ≤ τ (4, 0) 1 → Post (nI 0) τ) ∧ (¬ (a1 ≤ τ (4, 0) 1) → ((τ (4, 0) 1 < nI 6 → (∃ j1 : Nat, τ (4, 0) 1 = nI j1 ∧ j1 < 6 ∧ (∃ Q2 : ww_M → Prop, ww_T E.2.1 g mX2_wipe [.inr (.inr (21, 6 + j1))] τ (ww_QV Q2) ∧ ∀ (τ3 : ww_M), Q2 τ3 → ww_W g mX1_takeWord E (ww_QI Post) 46 [some (.inr (.inr (4, 0))), none, some (.inl a2), some (.inr (.inr (21, 6 + j1))), some (.inl (nI 0))] [] τ3))) ∧ (¬ (τ (4, 0) 1 < nI 6) → Post (nI 0) τ))))))) : ww_T l g mX1_takeWord [.inr (.inr (4, 0)), .inl a1, .inl a2] τ (ww_QI Post) := by
  refine ww_enter (P := [some (.inr (.inr (4, 0))), some (.inl a1), some (.inl a2), none, none]) (by decide) (Nat.le_of_ble_eq_true rfl) rfl (fun E => ?_)
  replace h := h E
  refine ww_aload_n 1 dX1_takeWord_0 rfl 0 rfl rfl ?_
  refine ww_getI 4 4 dX1_takeWord_1 wf_X1_53 (ww_i1 4 (by decide)) rfl rfl rfl ?_
  refine ww_if_ne 27 7 dX1_takeWord_4 (by decide) rfl (fun c => ?_) (fun c => ?_)
  · replace h := h.1 c
    refine ww_iconst (v := nI 0) 28 dX1_takeWord_27 (by decide) rfl ?_
    exact ww_zret dX1_takeWord_28 rfl (Or.inl rfl) ⟨_, rfl, h⟩
  · replace h := h.2 c
    refine ww_aload_n 8 dX1_takeWord_7 rfl 0 rfl rfl ?_
    refine ww_getI 1 11 dX1_takeWord_8 wf_X1_27 (ww_i1 4 (by decide)) rfl rfl rfl ?_
    refine ww_iload_n 12 dX1_takeWord_11 rfl 1 rfl rfl ?_
    refine ww_ic_ge 27 15 dX1_takeWord_12 (by decide) rfl (fun c => ?_) (fun c => ?_)
    · replace h := h.1 c
      refine ww_iconst (v := nI 0) 28 dX1_takeWord_27 (by decide) rfl ?_
      exact ww_zret dX1_takeWord_28 rfl (Or.inl rfl) ⟨_, rfl, h⟩
    · replace h := h.2 c
      refine ww_aload_n 16 dX1_takeWord_15 rfl 0 rfl rfl ?_
      refine ww_getI 1 19 dX1_takeWord_16 wf_X1_27 (ww_i1 4 (by decide)) rfl rfl rfl ?_
      refine ww_aload_n 20 dX1_takeWord_19 rfl 0 rfl rfl ?_
      refine ww_getR 0 23 dX1_takeWord_20 wf_X1_20 (ww_i1 4 (by decide)) rfl rfl rfl ?_
      refine ww_alnR 24 dX1_takeWord_23 (ww_i1 5 (by decide)) rfl rfl rfl ?_
      refine ww_ic_lt 29 27 dX1_takeWord_24 (by decide) rfl (fun c => ?_) (fun c => ?_)
      · replace h := h.1 c
        refine ww_aload_n 30 dX1_takeWord_29 rfl 0 rfl rfl ?_
        refine ww_getR 0 33 dX1_takeWord_30 wf_X1_20 (ww_i1 4 (by decide)) rfl rfl rfl ?_
        refine ww_aload_n 34 dX1_takeWord_33 rfl 0 rfl rfl ?_
        refine ww_getI 1 37 dX1_takeWord_34 wf_X1_27 (ww_i1 4 (by decide)) rfl rfl rfl ?_
        obtain ⟨j1, hij1, hj1, h⟩ := h
        refine ww_aald j1 38 dX1_takeWord_37 (ww_i1 5 (by decide)) rfl (Or.inl rfl) (by decide) hij1 hj1 rfl ?_
        refine ww_astore_n 39 dX1_takeWord_38 rfl 3 rfl (by decide) rfl [some (.inr (.inr (4, 0))), some (.inl a1), some (.inl a2), some (.inr (.inr (21, 6 + j1))), none] rfl ?_
        refine ww_aload_n 40 dX1_takeWord_39 rfl 3 rfl rfl ?_
        obtain ⟨Q2, hT, h⟩ := h
        refine ww_invVV (d' := mX2_wipe) [] rfl 43 dX1_takeWord_40 ⟨wi_X2, wc_X2_wipe, wp_X2_wipe, by decide, by decide⟩ wl_X1_75 wn_X2_wipe we_X2_wipe (show ww_in (21, 6 + j1) from (show 6 + j1 < 104 by omega)) rfl rfl (Nat.le_of_ble_eq_true rfl) rfl hT (fun τ3 hq => ?_)
        replace h := h τ3 hq
        refine ww_iconst (v := nI 0) 44 dX1_takeWord_43 (by decide) rfl ?_
        refine ww_istore 46 4 dX1_takeWord_44 rfl (by decide) rfl [some (.inr (.inr (4, 0))), some (.inl a1), some (.inl a2), some (.inr (.inr (21, 6 + j1))), some (.inl (nI 0))] rfl ?_
        exact ww_weak (ww_le_s (ww_le_n (ww_le_s (ww_le_s (ww_le_s (ww_le_nil _)))))) h
      · replace h := h.2 c
        refine ww_iconst (v := nI 0) 28 dX1_takeWord_27 (by decide) rfl ?_
        exact ww_zret dX1_takeWord_28 rfl (Or.inl rfl) ⟨_, rfl, h⟩
theorem b_X1_takeWord_46 {g : ww_G} {E : ww_E} {τ : ww_M} {x2 : Int32} {r3 : Nat} {x4 : Int32} {Post : Int32 → ww_M → Prop} (hr3 : r3 < 104) (h : ((τ (4, 0) 3 ≤ x4 → ww_W g mX1_takeWord E (ww_QI Post) 82 [some (.inr (.inr (4, 0))), none, some (.inl x2), some (.inr (.inr (21, r3))), none] [] τ) ∧ (¬ (τ (4, 0) 3 ≤ x4) → ((nI 60 ≤ x4 → ww_W g mX1_takeWord E (ww_QI Post) 82 [some (.inr (.inr (4, 0))), none, some (.inl x2), some (.inr (.inr (21, r3))), none] [] τ) ∧ (¬ (nI 60 ≤ x4) → (∃ j1 : Nat, x4 = nI j1 ∧ j1 < 60 ∧ (∃ Q2 : ww_M → Prop, ww_T E.2.1 g mX2_put [.inr (.inr (21, r3)), .inl (τ (6, 0) j1)] τ (ww_QV Q2) ∧ ∀ (τ3 : ww_M), Q2 τ3 → ww_W g mX1_takeWord E (ww_QI Post) 46 [some (.inr (.inr (4, 0))), none, some (.inl x2), some (.inr (.inr (21, r3))), some (.inl (x4 + nI 1))] [] τ3))))))) : ww_W g mX1_takeWord E (ww_QI Post) 46 [some (.inr (.inr (4, 0))), none, some (.inl x2), some (.inr (.inr (21, r3))), some (.inl x4)] [] τ := by
  refine ww_iload 48 4 dX1_takeWord_46 rfl rfl ?_
  refine ww_aload_n 49 dX1_takeWord_48 rfl 0 rfl rfl ?_
  refine ww_getI 3 52 dX1_takeWord_49 wf_X1_50 (ww_i1 4 (by decide)) rfl rfl rfl ?_
  refine ww_ic_ge 82 55 dX1_takeWord_52 (by decide) rfl (fun c => ?_) (fun c => ?_)
  · replace h := h.1 c
    exact ww_weak (ww_le_s (ww_le_n (ww_le_s (ww_le_s (ww_le_n (ww_le_nil _)))))) h
  · replace h := h.2 c
    refine ww_iload 57 4 dX1_takeWord_55 rfl rfl ?_
    refine ww_aload_n 58 dX1_takeWord_57 rfl 0 rfl rfl ?_
    refine ww_getR 2 61 dX1_takeWord_58 wf_X1_9 (ww_i1 4 (by decide)) rfl rfl rfl ?_
    refine ww_alnI 62 dX1_takeWord_61 (ww_i1 6 (by decide)) rfl rfl ?_
    refine ww_ic_ge 82 65 dX1_takeWord_62 (by decide) rfl (fun c => ?_) (fun c => ?_)
    · replace h := h.1 c
      exact ww_weak (ww_le_s (ww_le_n (ww_le_s (ww_le_s (ww_le_n (ww_le_nil _)))))) h
    · replace h := h.2 c
      refine ww_aload_n 66 dX1_takeWord_65 rfl 3 rfl rfl ?_
      refine ww_aload_n 67 dX1_takeWord_66 rfl 0 rfl rfl ?_
      refine ww_getR 2 70 dX1_takeWord_67 wf_X1_9 (ww_i1 4 (by decide)) rfl rfl rfl ?_
      refine ww_iload 72 4 dX1_takeWord_70 rfl rfl ?_
      obtain ⟨j1, hij1, hj1, h⟩ := h
      refine ww_iald j1 73 dX1_takeWord_72 (ww_i1 6 (by decide)) rfl (by decide) hij1 hj1 rfl ?_
      obtain ⟨Q2, hT, h⟩ := h
      refine ww_invVV (d' := mX2_put) [.inl (τ (6, 0) j1)] rfl 76 dX1_takeWord_73 ⟨wi_X2, wc_X2_put, wp_X2_put, by decide, by decide⟩ wl_X1_78 wn_X2_put we_X2_put (show ww_in (21, r3) from (show r3 < 104 by omega)) rfl rfl (Nat.le_of_ble_eq_true rfl) rfl hT (fun τ3 hq => ?_)
      replace h := h τ3 hq
      refine ww_iinc (nI 1) 79 4 dX1_takeWord_76 (by decide) rfl rfl (by decide) rfl [some (.inr (.inr (4, 0))), none, some (.inl x2), some (.inr (.inr (21, r3))), some (.inl (x4 + nI 1))] rfl ?_
      refine ww_goto 46 dX1_takeWord_79 (by decide) ?_
      exact h
theorem b_X1_takeWord_82 {g : ww_G} {E : ww_E} {τ : ww_M} {x2 : Int32} {r3 : Nat} {Post : Int32 → ww_M → Prop} (hr3 : r3 < 104) (h : ((x2 = nI 0 → (∀ τ1 : ww_M, τ1 = ww_up τ (4, 0) 1 ((τ (4, 0) 1) + (nI 1)) → Post (nI 1) τ1)) ∧ (¬ x2 = nI 0 → (∃ Q2 : ww_M → Prop, ww_T E.2.1 g mX2_cutToRing [.inr (.inr (21, r3))] τ (ww_QV Q2) ∧ ∀ (τ3 : ww_M), Q2 τ3 → (τ3 (21, r3) 1 = nI 0 → Post (nI 0) τ3) ∧ (¬ τ3 (21, r3) 1 = nI 0 → ((τ3 (21, r3) 1 ≤ nI 14 → (∀ τ4 : ww_M, τ4 = ww_up τ3 (4, 0) 1 ((τ3 (4, 0) 1) + (nI 1)) → Post (nI 1) τ4)) ∧ (¬ (τ3 (21, r3) 1 ≤ nI 14) → Post (nI 0) τ3))))))) : ww_W g mX1_takeWord E (ww_QI Post) 82 [some (.inr (.inr (4, 0))), none, some (.inl x2), some (.inr (.inr (21, r3))), none] [] τ := by
  refine ww_iload_n 83 dX1_takeWord_82 rfl 2 rfl rfl ?_
  refine ww_if_eq 108 86 dX1_takeWord_83 (by decide) rfl (fun c => ?_) (fun c => ?_)
  · replace h := h.1 c
    refine ww_aload_n 109 dX1_takeWord_108 rfl 0 rfl rfl ?_
    refine ww_dup 110 dX1_takeWord_109 rfl rfl ?_
    refine ww_getI 1 113 dX1_takeWord_110 wf_X1_27 (ww_i1 4 (by decide)) rfl rfl rfl ?_
    refine ww_iconst (v := nI 1) 114 dX1_takeWord_113 (by decide) rfl ?_
    refine ww_iadd 115 dX1_takeWord_114 rfl ?_
    refine ww_putI 1 118 dX1_takeWord_115 wf_X1_27 fp_X1_1 (ww_i1 4 (by decide)) rfl rfl rfl (fun τ1 eτ1 => ?_)
    replace h := h τ1 eτ1
    refine ww_iconst (v := nI 1) 119 dX1_takeWord_118 (by decide) rfl ?_
    exact ww_zret dX1_takeWord_119 rfl (Or.inr rfl) ⟨_, rfl, h⟩
  · replace h := h.2 c
    refine ww_aload_n 87 dX1_takeWord_86 rfl 3 rfl rfl ?_
    obtain ⟨Q2, hT, h⟩ := h
    refine ww_invVV (d' := mX2_cutToRing) [] rfl 90 dX1_takeWord_87 ⟨wi_X2, wc_X2_cutToRing, wp_X2_cutToRing, by decide, by decide⟩ wl_X1_81 wn_X2_cutToRing we_X2_cutToRing (show ww_in (21, r3) from (show r3 < 104 by omega)) rfl rfl (Nat.le_of_ble_eq_true rfl) rfl hT (fun τ3 hq => ?_)
    replace h := h τ3 hq
    refine ww_aload_n 91 dX1_takeWord_90 rfl 3 rfl rfl ?_
    refine ww_getI 1 94 dX1_takeWord_91 wf_X1_84 (show ww_in (21, r3) from (show r3 < 104 by omega)) rfl rfl rfl ?_
    refine ww_if_eq 106 97 dX1_takeWord_94 (by decide) rfl (fun c => ?_) (fun c => ?_)
    · replace h := h.1 c
      refine ww_iconst (v := nI 0) 107 dX1_takeWord_106 (by decide) rfl ?_
      exact ww_zret dX1_takeWord_107 rfl (Or.inl rfl) ⟨_, rfl, h⟩
    · replace h := h.2 c
      refine ww_aload_n 98 dX1_takeWord_97 rfl 3 rfl rfl ?_
      refine ww_getI 1 101 dX1_takeWord_98 wf_X1_84 (show ww_in (21, r3) from (show r3 < 104 by omega)) rfl rfl rfl ?_
      refine ww_bipush (v := nI 14) 103 dX1_takeWord_101 (by decide) rfl ?_
      refine ww_ic_le 108 106 dX1_takeWord_103 (by decide) rfl (fun c => ?_) (fun c => ?_)
      · replace h := h.1 c
        refine ww_aload_n 109 dX1_takeWord_108 rfl 0 rfl rfl ?_
        refine ww_dup 110 dX1_takeWord_109 rfl rfl ?_
        refine ww_getI 1 113 dX1_takeWord_110 wf_X1_27 (ww_i1 4 (by decide)) rfl rfl rfl ?_
        refine ww_iconst (v := nI 1) 114 dX1_takeWord_113 (by decide) rfl ?_
        refine ww_iadd 115 dX1_takeWord_114 rfl ?_
        refine ww_putI 1 118 dX1_takeWord_115 wf_X1_27 fp_X1_1 (ww_i1 4 (by decide)) rfl rfl rfl (fun τ4 eτ4 => ?_)
        replace h := h τ4 eτ4
        refine ww_iconst (v := nI 1) 119 dX1_takeWord_118 (by decide) rfl ?_
        exact ww_zret dX1_takeWord_119 rfl (Or.inr rfl) ⟨_, rfl, h⟩
      · replace h := h.2 c
        refine ww_iconst (v := nI 0) 107 dX1_takeWord_106 (by decide) rfl ?_
        exact ww_zret dX1_takeWord_107 rfl (Or.inl rfl) ⟨_, rfl, h⟩
