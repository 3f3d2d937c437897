theorem b_X3_seek {l : Launch} {g : ww_G} {τ : ww_M} {r1 : Nat} {Post : Int32 → ww_M → Prop} (hr1 : r1 < 104) (h : ∀ E : ww_E, ww_W g mX3_seek E (ww_QI Post) 4 [some (.inr (.inr (20, 0))), some (.inr (.inr (21, r1))), some (.inl (nI 0)), some (.inl (nI 0)), none, none, none, none, none, none] [] τ) : ww_T l g mX3_seek [.inr (.inr (20, 0)), .inr (.inr (21, r1))] τ (ww_QI Post) := by
  refine ww_enter (P := [some (.inr (.inr (20, 0))), some (.inr (.inr (21, r1))), none, none, none, none, none, none, none, none]) (by decide) (Nat.le_of_ble_eq_true rfl) rfl (fun E => ?_)
  replace h := h E
  refine ww_iconst (v := nI 0) 1 dX3_seek_0 (by decide) rfl ?_
  refine ww_istore_n 2 dX3_seek_1 rfl 2 rfl (by decide) rfl [some (.inr (.inr (20, 0))), some (.inr (.inr (21, r1))), some (.inl (nI 0)), none, none, none, none, none, none, none] rfl ?_
  refine ww_iconst (v := nI 0) 3 dX3_seek_2 (by decide) rfl ?_
  refine ww_istore_n 4 dX3_seek_3 rfl 3 rfl (by decide) rfl [some (.inr (.inr (20, 0))), some (.inr (.inr (21, r1))), some (.inl (nI 0)), some (.inl (nI 0)), none, none, none, none, none, none] rfl ?_
  exact h
theorem b_X3_seek_4 {g : ww_G} {E : ww_E} {τ : ww_M} {r1 : Nat} {x2 : Int32} {x3 : Int32} {Post : Int32 → ww_M → Prop} (hr1 : r1 < 104) (h : ((τ (21, r1) 1 ≤ x3 → Post x2 τ) ∧ (¬ (τ (21, r1) 1 ≤ x3) → (((nI 2) * ((τ (21, r1) 1) - x3) ≤ τ (8, 0) 7 → Post x2 τ) ∧ (¬ ((nI 2) * ((τ (21, r1) 1) - x3) ≤ τ (8, 0) 7) → (∃ Q1 : Int32 → ww_M → Prop, ww_T E.2.1 g mX2_at [.inr (.inr (21, r1)), .inl x3] τ (ww_QI Q1) ∧ ∀ (v2 : Int32) (τ3 : ww_M), Q1 v2 τ3 → (∃ Q4 : Int32 → ww_M → Prop, ww_T E.2.1 g mX0_startersWith [.inr (.inr (8, 0)), .inl v2] τ3 (ww_QI Q4) ∧ ∀ (v5 : Int32) (τ6 : ww_M), Q4 v5 τ6 → ww_W g mX3_seek E (ww_QI Post) 51 [some (.inr (.inr (20, 0))), some (.inr (.inr (21, r1))), some (.inl x2), some (.inl x3), some (.inl v2), some (.inl v5), some (.inl (nI 0)), none, none, none] [] τ6))))))) : ww_W g mX3_seek E (ww_QI Post) 4 [some (.inr (.inr (20, 0))), some (.inr (.inr (21, r1))), some (.inl x2), some (.inl x3), none, none, none, none, none, none] [] τ := by
  refine ww_iload_n 5 dX3_seek_4 rfl 3 rfl rfl ?_
  refine ww_aload_n 6 dX3_seek_5 rfl 1 rfl rfl ?_
  refine ww_getI 1 9 dX3_seek_6 wf_X3_28 (show ww_in (21, r1) from (show r1 < 104 by omega)) rfl rfl rfl ?_
  refine ww_ic_ge 145 12 dX3_seek_9 (by decide) rfl (fun c => ?_) (fun c => ?_)
  · replace h := h.1 c
    refine ww_iload_n 146 dX3_seek_145 rfl 2 rfl rfl ?_
    exact ww_iret dX3_seek_146 rfl ⟨_, rfl, h⟩
  · replace h := h.2 c
    refine ww_iconst (v := nI 2) 13 dX3_seek_12 (by decide) rfl ?_
    refine ww_aload_n 14 dX3_seek_13 rfl 1 rfl rfl ?_
    refine ww_getI 1 17 dX3_seek_14 wf_X3_28 (show ww_in (21, r1) from (show r1 < 104 by omega)) rfl rfl rfl ?_
    refine ww_iload_n 18 dX3_seek_17 rfl 3 rfl rfl ?_
    refine ww_isub 19 dX3_seek_18 rfl ?_
    refine ww_imul 20 dX3_seek_19 rfl ?_
    refine ww_aload_n 21 dX3_seek_20 rfl 0 rfl rfl ?_
    refine ww_getR 0 24 dX3_seek_21 wf_X3_24 (ww_i1 20 (by decide)) rfl rfl rfl ?_
    refine ww_getI 7 27 dX3_seek_24 wf_X3_31 (ww_i1 8 (by decide)) rfl rfl rfl ?_
    refine ww_ic_le 145 30 dX3_seek_27 (by decide) rfl (fun c => ?_) (fun c => ?_)
    · replace h := h.1 c
      refine ww_iload_n 146 dX3_seek_145 rfl 2 rfl rfl ?_
      exact ww_iret dX3_seek_146 rfl ⟨_, rfl, h⟩
    · replace h := h.2 c
      refine ww_aload_n 31 dX3_seek_30 rfl 1 rfl rfl ?_
      refine ww_iload_n 32 dX3_seek_31 rfl 3 rfl rfl ?_
      obtain ⟨Q1, hT, h⟩ := h
      refine ww_invVI (d' := mX2_at) [.inl x3] rfl 35 dX3_seek_32 ⟨wi_X2, wc_X2_at, wp_X2_at, by decide, by decide⟩ wl_X3_36 wn_X2_at we_X2_at (show ww_in (21, r1) from (show r1 < 104 by omega)) rfl rfl (Nat.le_of_ble_eq_true rfl) rfl hT (fun v2 τ3 hq => ?_)
      replace h := h v2 τ3 hq
      refine ww_istore 37 4 dX3_seek_35 rfl (by decide) rfl [some (.inr (.inr (20, 0))), some (.inr (.inr (21, r1))), some (.inl x2), some (.inl x3), some (.inl v2), none, none, none, none, none] rfl ?_
      refine ww_aload_n 38 dX3_seek_37 rfl 0 rfl rfl ?_
      refine ww_getR 0 41 dX3_seek_38 wf_X3_24 (ww_i1 20 (by decide)) rfl rfl rfl ?_
      refine ww_iload 43 4 dX3_seek_41 rfl rfl ?_
      obtain ⟨Q4, hT, h⟩ := h
      refine ww_invVI (d' := mX0_startersWith) [.inl v2] rfl 46 dX3_seek_43 ⟨wi_X0, wc_X0_startersWith, wp_X0_startersWith, by decide, by decide⟩ wl_X3_40 wn_X0_startersWith we_X0_startersWith (ww_i1 8 (by decide)) rfl rfl (Nat.le_of_ble_eq_true rfl) rfl hT (fun v5 τ6 hq => ?_)
      replace h := h v5 τ6 hq
      refine ww_istore 48 5 dX3_seek_46 rfl (by decide) rfl [some (.inr (.inr (20, 0))), some (.inr (.inr (21, r1))), some (.inl x2), some (.inl x3), some (.inl v2), some (.inl v5), none, none, none, none] rfl ?_
      refine ww_iconst (v := nI 0) 49 dX3_seek_48 (by decide) rfl ?_
      refine ww_istore 51 6 dX3_seek_49 rfl (by decide) rfl [some (.inr (.inr (20, 0))), some (.inr (.inr (21, r1))), some (.inl x2), some (.inl x3), some (.inl v2), some (.inl v5), some (.inl (nI 0)), none, none, none] rfl ?_
      exact h
theorem b_X3_seek_51 {g : ww_G} {E : ww_E} {τ : ww_M} {r1 : Nat} {x2 : Int32} {x3 : Int32} {x4 : Int32} {x5 : Int32} {x6 : Int32} {Post : Int32 → ww_M → Prop} (hr1 : r1 < 104) (h : ((x5 ≤ x6 → ww_W g mX3_seek E (ww_QI Post) 4 [some (.inr (.inr (20, 0))), some (.inr (.inr (21, r1))), some (.inl x2), some (.inl (x3 + nI 1)), none, none, none, none, none, none] [] τ) ∧ (¬ (x5 ≤ x6) → (∃ Q1 : Int32 → ww_M → Prop, ww_T E.2.1 g mX0_starter [.inr (.inr (8, 0)), .inl x4, .inl x6] τ (ww_QI Q1) ∧ ∀ (v2 : Int32) (τ3 : ww_M), Q1 v2 τ3 → (∃ Q4 : Int32 → ww_M → Prop, ww_T E.2.1 g mX0_matchAt [.inr (.inr (8, 0)), .inr (.inr (21, r1)), .inl x3, .inl v2] τ3 (ww_QI Q4) ∧ ∀ (v5 : Int32) (τ6 : ww_M), Q4 v5 τ6 → (∃ Q7 : Int32 → ww_M → Prop, ww_T E.2.1 g mX0_sizeOf [.inr (.inr (8, 0)), .inl v2] τ6 (ww_QI Q7) ∧ ∀ (v8 : Int32) (τ9 : ww_M), Q7 v8 τ9 → (((nI 2) * v5) - v8 ≤ nI 0 → ww_W g mX3_seek E (ww_QI Post) 51 [some (.inr (.inr (20, 0))), some (.inr (.inr (21, r1))), some (.inl x2), some (.inl x3), some (.inl x4), some (.inl x5), some (.inl (x6 + nI 1)), none, none, none] [] τ9) ∧ (¬ (((nI 2) * v5) - v8 ≤ nI 0) → ((x2 = nI 0 → (∃ Q10 : ww_M → Prop, ww_T E.2.1 g mX3_take [.inr (.inr (20, 0)), .inl x3, .inl v2, .inl v5] τ9 (ww_QV Q10) ∧ ∀ (τ11 : ww_M), Q10 τ11 → ww_W g mX3_seek E (ww_QI Post) 51 [some (.inr (.inr (20, 0))), some (.inr (.inr (21, r1))), some (.inl (x2 + nI 1)), some (.inl x3), some (.inl x4), some (.inl x5), some (.inl (x6 + nI 1)), none, none, none] [] τ11)) ∧ (¬ x2 = nI 0 → (∃ Q12 : Int32 → ww_M → Prop, ww_T E.2.1 g mX3_isBetter [.inr (.inr (20, 0)), .inl x3, .inl v5, .inl (((nI 2) * v5) - v8)] τ9 (ww_QI Q12) ∧ ∀ (v13 : Int32) (τ14 : ww_M), Q12 v13 τ14 → (v13 = nI 0 → ww_W g mX3_seek E (ww_QI Post) 51 [some (.inr (.inr (20, 0))), some (.inr (.inr (21, r1))), some (.inl (x2 + nI 1)), some (.inl x3), some (.inl x4), some (.inl x5), some (.inl (x6 + nI 1)), none, none, none] [] τ14) ∧ (¬ v13 = nI 0 → (∃ Q15 : ww_M → Prop, ww_T E.2.1 g mX3_take [.inr (.inr (20, 0)), .inl x3, .inl v2, .inl v5] τ14 (ww_QV Q15) ∧ ∀ (τ16 : ww_M), Q15 τ16 → ww_W g mX3_seek E (ww_QI Post) 51 [some (.inr (.inr (20, 0))), some (.inr (.inr (21, r1))), some (.inl (x2 + nI 1)), some (.inl x3), some (.inl x4), some (.inl x5), some (.inl (x6 + nI 1)), none, none, none] [] τ16)))))))))))) : ww_W g mX3_seek E (ww_QI Post) 51 [some (.inr (.inr (20, 0))), some (.inr (.inr (21, r1))), some (.inl x2), some (.inl x3), some (.inl x4), some (.inl x5), some (.inl x6), none, none, none] [] τ := by
  refine ww_iload 53 6 dX3_seek_51 rfl rfl ?_
  refine ww_iload 55 5 dX3_seek_53 rfl rfl ?_
  refine ww_ic_ge 139 58 dX3_seek_55 (by decide) rfl (fun c => ?_) (fun c => ?_)
  · replace h := h.1 c
    refine ww_iinc (nI 1) 142 3 dX3_seek_139 (by decide) rfl rfl (by decide) rfl [some (.inr (.inr (20, 0))), some (.inr (.inr (21, r1))), some (.inl x2), some (.inl (x3 + nI 1)), some (.inl x4), some (.inl x5), some (.inl x6), none, none, none] rfl ?_
    refine ww_goto 4 dX3_seek_142 (by decide) ?_
    exact ww_weak (ww_le_s (ww_le_s (ww_le_s (ww_le_s (ww_le_n (ww_le_n (ww_le_n (ww_le_n (ww_le_n (ww_le_n (ww_le_nil _))))))))))) h
  · replace h := h.2 c
    refine ww_aload_n 59 dX3_seek_58 rfl 0 rfl rfl ?_
    refine ww_getR 0 62 dX3_seek_59 wf_X3_24 (ww_i1 20 (by decide)) rfl rfl rfl ?_
    refine ww_iload 64 4 dX3_seek_62 rfl rfl ?_
    refine ww_iload 66 6 dX3_seek_64 rfl rfl ?_
    obtain ⟨Q1, hT, h⟩ := h
    refine ww_invVI (d' := mX0_starter) [.inl x4, .inl x6] rfl 69 dX3_seek_66 ⟨wi_X0, wc_X0_starter, wp_X0_starter, by decide, by decide⟩ wl_X3_43 wn_X0_starter we_X0_starter (ww_i1 8 (by decide)) rfl rfl (Nat.le_of_ble_eq_true rfl) rfl hT (fun v2 τ3 hq => ?_)
    replace h := h v2 τ3 hq
    refine ww_istore 71 7 dX3_seek_69 rfl (by decide) rfl [some (.inr (.inr (20, 0))), some (.inr (.inr (21, r1))), some (.inl x2), some (.inl x3), some (.inl x4), some (.inl x5), some (.inl x6), some (.inl v2), none, none] rfl ?_
    refine ww_aload_n 72 dX3_seek_71 rfl 0 rfl rfl ?_
    refine ww_getR 0 75 dX3_seek_72 wf_X3_24 (ww_i1 20 (by decide)) rfl rfl rfl ?_
    refine ww_aload_n 76 dX3_seek_75 rfl 1 rfl rfl ?_
    refine ww_iload_n 77 dX3_seek_76 rfl 3 rfl rfl ?_
    refine ww_iload 79 7 dX3_seek_77 rfl rfl ?_
    obtain ⟨Q4, hT, h⟩ := h
    refine ww_invVI (d' := mX0_matchAt) [.inr (.inr (21, r1)), .inl x3, .inl v2] rfl 82 dX3_seek_79 ⟨wi_X0, wc_X0_matchAt, wp_X0_matchAt, by decide, by decide⟩ wl_X3_47 wn_X0_matchAt we_X0_matchAt (ww_i1 8 (by decide)) rfl rfl (Nat.le_of_ble_eq_true rfl) rfl hT (fun v5 τ6 hq => ?_)
    replace h := h v5 τ6 hq
    refine ww_istore 84 8 dX3_seek_82 rfl (by decide) rfl [some (.inr (.inr (20, 0))), some (.inr (.inr (21, r1))), some (.inl x2), some (.inl x3), some (.inl x4), some (.inl x5), some (.inl x6), some (.inl v2), some (.inl v5), none] rfl ?_
    refine ww_iconst (v := nI 2) 85 dX3_seek_84 (by decide) rfl ?_
    refine ww_iload 87 8 dX3_seek_85 rfl rfl ?_
    refine ww_imul 88 dX3_seek_87 rfl ?_
    refine ww_aload_n 89 dX3_seek_88 rfl 0 rfl rfl ?_
    refine ww_getR 0 92 dX3_seek_89 wf_X3_24 (ww_i1 20 (by decide)) rfl rfl rfl ?_
    refine ww_iload 94 7 dX3_seek_92 rfl rfl ?_
    obtain ⟨Q7, hT, h⟩ := h
    refine ww_invVI (d' := mX0_sizeOf) [.inl v2] rfl 97 dX3_seek_94 ⟨wi_X0, wc_X0_sizeOf, wp_X0_sizeOf, by decide, by decide⟩ wl_X3_51 wn_X0_sizeOf we_X0_sizeOf (ww_i1 8 (by decide)) rfl rfl (Nat.le_of_ble_eq_true rfl) rfl hT (fun v8 τ9 hq => ?_)
    replace h := h v8 τ9 hq
    refine ww_isub 98 dX3_seek_97 rfl ?_
    refine ww_istore 100 9 dX3_seek_98 rfl (by decide) rfl [some (.inr (.inr (20, 0))), some (.inr (.inr (21, r1))), some (.inl x2), some (.inl x3), some (.inl x4), some (.inl x5), some (.inl x6), some (.inl v2), some (.inl v5), some (.inl (((nI 2) * v5) - v8))] rfl ?_
    refine ww_iload 102 9 dX3_seek_100 rfl rfl ?_
    refine ww_if_le 133 105 dX3_seek_102 (by decide) rfl (fun c => ?_) (fun c => ?_)
    · replace h := h.1 c
      refine ww_iinc (nI 1) 136 6 dX3_seek_133 (by decide) rfl rfl (by decide) rfl [some (.inr (.inr (20, 0))), some (.inr (.inr (21, r1))), some (.inl x2), some (.inl x3), some (.inl x4), some (.inl x5), some (.inl (x6 + nI 1)), some (.inl v2), some (.inl v5), some (.inl (((nI 2) * v5) - v8))] rfl ?_
      refine ww_goto 51 dX3_seek_136 (by decide) ?_
      exact ww_weak (ww_le_s (ww_le_s (ww_le_s (ww_le_s (ww_le_s (ww_le_s (ww_le_s (ww_le_n (ww_le_n (ww_le_n (ww_le_nil _))))))))))) h
    · replace h := h.2 c
      refine ww_iload_n 106 dX3_seek_105 rfl 2 rfl rfl ?_
      refine ww_if_eq 121 109 dX3_seek_106 (by decide) rfl (fun c => ?_) (fun c => ?_)
      · replace h := h.1 c
        refine ww_aload_n 122 dX3_seek_121 rfl 0 rfl rfl ?_
        refine ww_iload_n 123 dX3_seek_122 rfl 3 rfl rfl ?_
        refine ww_iload 125 7 dX3_seek_123 rfl rfl ?_
        refine ww_iload 127 8 dX3_seek_125 rfl rfl ?_
        obtain ⟨Q10, hT, h⟩ := h
        refine ww_invVV (d' := mX3_take) [.inl x3, .inl v2, .inl v5] rfl 130 dX3_seek_127 ⟨wi_X3, wc_X3_take, wp_X3_take, by decide, by decide⟩ wl_X3_58 wn_X3_take we_X3_take (ww_i1 20 (by decide)) rfl rfl (Nat.le_of_ble_eq_true rfl) rfl hT (fun τ11 hq => ?_)
        replace h := h τ11 hq
        refine ww_iinc (nI 1) 133 2 dX3_seek_130 (by decide) rfl rfl (by decide) rfl [some (.inr (.inr (20, 0))), some (.inr (.inr (21, r1))), some (.inl (x2 + nI 1)), some (.inl x3), some (.inl x4), some (.inl x5), some (.inl x6), some (.inl v2), some (.inl v5), some (.inl (((nI 2) * v5) - v8))] rfl ?_
        refine ww_iinc (nI 1) 136 6 dX3_seek_133 (by decide) rfl rfl (by decide) rfl [some (.inr (.inr (20, 0))), some (.inr (.inr (21, r1))), some (.inl (x2 + nI 1)), some (.inl x3), some (.inl x4), some (.inl x5), some (.inl (x6 + nI 1)), some (.inl v2), some (.inl v5), some (.inl (((nI 2) * v5) - v8))] rfl ?_
        refine ww_goto 51 dX3_seek_136 (by decide) ?_
        exact ww_weak (ww_le_s (ww_le_s (ww_le_s (ww_le_s (ww_le_s (ww_le_s (ww_le_s (ww_le_n (ww_le_n (ww_le_n (ww_le_nil _))))))))))) h
      · replace h := h.2 c
        refine ww_aload_n 110 dX3_seek_109 rfl 0 rfl rfl ?_
        refine ww_iload_n 111 dX3_seek_110 rfl 3 rfl rfl ?_
        refine ww_iload 113 8 dX3_seek_111 rfl rfl ?_
        refine ww_iload 115 9 dX3_seek_113 rfl rfl ?_
        obtain ⟨Q12, hT, h⟩ := h
        refine ww_invVI (d' := mX3_isBetter) [.inl x3, .inl v5, .inl (((nI 2) * v5) - v8)] rfl 118 dX3_seek_115 ⟨wi_X3, wc_X3_isBetter, wp_X3_isBetter, by decide, by decide⟩ wl_X3_54 wn_X3_isBetter we_X3_isBetter (ww_i1 20 (by decide)) rfl rfl (Nat.le_of_ble_eq_true rfl) rfl hT (fun v13 τ14 hq => ?_)
        replace h := h v13 τ14 hq
        refine ww_if_eq 130 121 dX3_seek_118 (by decide) rfl (fun c => ?_) (fun c => ?_)
        · replace h := h.1 c
          refine ww_iinc (nI 1) 133 2 dX3_seek_130 (by decide) rfl rfl (by decide) rfl [some (.inr (.inr (20, 0))), some (.inr (.inr (21, r1))), some (.inl (x2 + nI 1)), some (.inl x3), some (.inl x4), some (.inl x5), some (.inl x6), some (.inl v2), some (.inl v5), some (.inl (((nI 2) * v5) - v8))] rfl ?_
          refine ww_iinc (nI 1) 136 6 dX3_seek_133 (by decide) rfl rfl (by decide) rfl [some (.inr (.inr (20, 0))), some (.inr (.inr (21, r1))), some (.inl (x2 + nI 1)), some (.inl x3), some (.inl x4), some (.inl x5), some (.inl (x6 + nI 1)), some (.inl v2), some (.inl v5), some (.inl (((nI 2) * v5) - v8))] rfl ?_
          refine ww_goto 51 dX3_seek_136 (by decide) ?_
          exact ww_weak (ww_le_s (ww_le_s (ww_le_s (ww_le_s (ww_le_s (ww_le_s (ww_le_s (ww_le_n (ww_le_n (ww_le_n (ww_le_nil _))))))))))) h
        · replace h := h.2 c
          refine ww_aload_n 122 dX3_seek_121 rfl 0 rfl rfl ?_
          refine ww_iload_n 123 dX3_seek_122 rfl 3 rfl rfl ?_
          refine ww_iload 125 7 dX3_seek_123 rfl rfl ?_
          refine ww_iload 127 8 dX3_seek_125 rfl rfl ?_
          obtain ⟨Q15, hT, h⟩ := h
          refine ww_invVV (d' := mX3_take) [.inl x3, .inl v2, .inl v5] rfl 130 dX3_seek_127 ⟨wi_X3, wc_X3_take, wp_X3_take, by decide, by decide⟩ wl_X3_58 wn_X3_take we_X3_take (ww_i1 20 (by decide)) rfl rfl (Nat.le_of_ble_eq_true rfl) rfl hT (fun τ16 hq => ?_)
          replace h := h τ16 hq
          refine ww_iinc (nI 1) 133 2 dX3_seek_130 (by decide) rfl rfl (by decide) rfl [some (.inr (.inr (20, 0))), some (.inr (.inr (21, r1))), some (.inl (x2 + nI 1)), some (.inl x3), some (.inl x4), some (.inl x5), some (.inl x6), some (.inl v2), some (.inl v5), some (.inl (((nI 2) * v5) - v8))] rfl ?_
          refine ww_iinc (nI 1) 136 6 dX3_seek_133 (by decide) rfl rfl (by decide) rfl [some (.inr (.inr (20, 0))), some (.inr (.inr (21, r1))), some (.inl (x2 + nI 1)), some (.inl x3), some (.inl x4), some (.inl x5), some (.inl (x6 + nI 1)), some (.inl v2), some (.inl v5), some (.inl (((nI 2) * v5) - v8))] rfl ?_
          refine ww_goto 51 dX3_seek_136 (by decide) ?_
          exact ww_weak (ww_le_s (ww_le_s (ww_le_s (ww_le_s (ww_le_s (ww_le_s (ww_le_s (ww_le_n (ww_le_n (ww_le_n (ww_le_nil _))))))))))) h
theorem b_X3_isBetter {l : Launch} {g : ww_G} {τ : ww_M} {a1 : Int32} {a2 : Int32} {a3 : Int32} {Post : Int32 → ww_M → Prop}  (h : ∀ E : ww_E, ((τ (20, 0) 2 = nI 1 → ((τ (20, 0) 3 < a1 → Post (nI 1) τ) ∧ (¬ (τ (20, 0) 3 < a1) → ((a2 ≤ τ (20, 0) 5 → Post (nI 0) τ) ∧ (¬ (a2 ≤ τ (20, 0) 5) → Post (nI 1) τ))))) ∧ (τ (20, 0) 2 = nI 2 → ((a3 ≤ τ (20, 0) 6 → Post (nI 0) τ) ∧ (¬ (a3 ≤ τ (20, 0) 6) → Post (nI 1) τ))) ∧ (τ (20, 0) 2 = nI 3 → ((τ (20, 0) 6 ≤ a3 → Post (nI 0) τ) ∧ (¬ (τ (20, 0) 6 ≤ a3) → Post (nI 1) τ))) ∧ (τ (20, 0) 2 = nI 4 → ((a2 ≤ τ (20, 0) 5 → Post (nI 0) τ) ∧ (¬ (a2 ≤ τ (20, 0) 5) → Post (nI 1) τ))) ∧ (¬ τ (20, 0) 2 = nI 1 → ¬ τ (20, 0) 2 = nI 2 → ¬ τ (20, 0) 2 = nI 3 → ¬ τ (20, 0) 2 = nI 4 → ((¬ a1 = τ (20, 0) 3 → Post (nI 0) τ) ∧ (a1 = τ (20, 0) 3 → ((a2 ≤ τ (20, 0) 5 → Post (nI 0) τ) ∧ (¬ (a2 ≤ τ (20, 0) 5) → Post (nI 1) τ))))))) : ww_T l g mX3_isBetter [.inr (.inr (20, 0)), .inl a1, .inl a2, .inl a3] τ (ww_QI Post) := by
  refine ww_enter (P := [some (.inr (.inr (20, 0))), some (.inl a1), some (.inl a2), some (.inl a3)]) (by decide) (Nat.le_of_ble_eq_true rfl) rfl (fun E => ?_)
  replace h := h E
  refine ww_aload_n 1 dX3_isBetter_0 rfl 0 rfl rfl ?_
  refine ww_getI 2 4 dX3_isBetter_1 wf_X3_20 (ww_i1 20 (by decide)) rfl rfl rfl ?_
  refine ww_tsw [(nI 1, 36), (nI 2, 58), (nI 3, 72), (nI 4, 86)] 100 dX3_isBetter_4 (by decide) ?_ ?_
  · refine List.forall_mem_cons.mpr ⟨fun c => ?_, List.forall_mem_cons.mpr ⟨fun c => ?_, List.forall_mem_cons.mpr ⟨fun c => ?_, List.forall_mem_cons.mpr ⟨fun c => ?_, fun _ h9 => absurd h9 List.not_mem_nil⟩⟩⟩⟩
    · replace h := h.1 c
      refine ww_iload_n 37 dX3_isBetter_36 rfl 1 rfl rfl ?_
      refine ww_aload_n 38 dX3_isBetter_37 rfl 0 rfl rfl ?_
      refine ww_getI 3 41 dX3_isBetter_38 wf_X3_62 (ww_i1 20 (by decide)) rfl rfl rfl ?_
      refine ww_ic_gt 52 44 dX3_isBetter_41 (by decide) rfl (fun c => ?_) (fun c => ?_)
      · replace h := h.1 c
        refine ww_iconst (v := nI 1) 53 dX3_isBetter_52 (by decide) rfl ?_
        refine ww_goto 57 dX3_isBetter_53 (by decide) ?_
        exact ww_zret dX3_isBetter_57 rfl (Or.inr rfl) ⟨_, rfl, h⟩
      · replace h := h.2 c
        refine ww_iload_n 45 dX3_isBetter_44 rfl 2 rfl rfl ?_
        refine ww_aload_n 46 dX3_isBetter_45 rfl 0 rfl rfl ?_
        refine ww_getI 5 49 dX3_isBetter_46 wf_X3_65 (ww_i1 20 (by decide)) rfl rfl rfl ?_
        refine ww_ic_le 56 52 dX3_isBetter_49 (by decide) rfl (fun c => ?_) (fun c => ?_)
        · replace h := h.1 c
          refine ww_iconst (v := nI 0) 57 dX3_isBetter_56 (by decide) rfl ?_
          exact ww_zret dX3_isBetter_57 rfl (Or.inl rfl) ⟨_, rfl, h⟩
        · replace h := h.2 c
          refine ww_iconst (v := nI 1) 53 dX3_isBetter_52 (by decide) rfl ?_
          refine ww_goto 57 dX3_isBetter_53 (by decide) ?_
          exact ww_zret dX3_isBetter_57 rfl (Or.inr rfl) ⟨_, rfl, h⟩
    · replace h := h.2.1 c
      refine ww_iload_n 59 dX3_isBetter_58 rfl 3 rfl rfl ?_
      refine ww_aload_n 60 dX3_isBetter_59 rfl 0 rfl rfl ?_
      refine ww_getI 6 63 dX3_isBetter_60 wf_X3_68 (ww_i1 20 (by decide)) rfl rfl rfl ?_
      refine ww_ic_le 70 66 dX3_isBetter_63 (by decide) rfl (fun c => ?_) (fun c => ?_)
      · replace h := h.1 c
        refine ww_iconst (v := nI 0) 71 dX3_isBetter_70 (by decide) rfl ?_
        exact ww_zret dX3_isBetter_71 rfl (Or.inl rfl) ⟨_, rfl, h⟩
      · replace h := h.2 c
        refine ww_iconst (v := nI 1) 67 dX3_isBetter_66 (by decide) rfl ?_
        refine ww_goto 71 dX3_isBetter_67 (by decide) ?_
        exact ww_zret dX3_isBetter_71 rfl (Or.inr rfl) ⟨_, rfl, h⟩
    · replace h := h.2.2.1 c
      refine ww_iload_n 73 dX3_isBetter_72 rfl 3 rfl rfl ?_
      refine ww_aload_n 74 dX3_isBetter_73 rfl 0 rfl rfl ?_
      refine ww_getI 6 77 dX3_isBetter_74 wf_X3_68 (ww_i1 20 (by decide)) rfl rfl rfl ?_
      refine ww_ic_ge 84 80 dX3_isBetter_77 (by decide) rfl (fun c => ?_) (fun c => ?_)
      · replace h := h.1 c
        refine ww_iconst (v := nI 0) 85 dX3_isBetter_84 (by decide) rfl ?_
        exact ww_zret dX3_isBetter_85 rfl (Or.inl rfl) ⟨_, rfl, h⟩
      · replace h := h.2 c
        refine ww_iconst (v := nI 1) 81 dX3_isBetter_80 (by decide) rfl ?_
        refine ww_goto 85 dX3_isBetter_81 (by decide) ?_
        exact ww_zret dX3_isBetter_85 rfl (Or.inr rfl) ⟨_, rfl, h⟩
    · replace h := h.2.2.2.1 c
      refine ww_iload_n 87 dX3_isBetter_86 rfl 2 rfl rfl ?_
      refine ww_aload_n 88 dX3_isBetter_87 rfl 0 rfl rfl ?_
      refine ww_getI 5 91 dX3_isBetter_88 wf_X3_65 (ww_i1 20 (by decide)) rfl rfl rfl ?_
      refine ww_ic_le 98 94 dX3_isBetter_91 (by decide) rfl (fun c => ?_) (fun c => ?_)
      · replace h := h.1 c
        refine ww_iconst (v := nI 0) 99 dX3_isBetter_98 (by decide) rfl ?_
        exact ww_zret dX3_isBetter_99 rfl (Or.inl rfl) ⟨_, rfl, h⟩
      · replace h := h.2 c
        refine ww_iconst (v := nI 1) 95 dX3_isBetter_94 (by decide) rfl ?_
        refine ww_goto 99 dX3_isBetter_95 (by decide) ?_
        exact ww_zret dX3_isBetter_99 rfl (Or.inr rfl) ⟨_, rfl, h⟩
  · intro c
    replace h := h.2.2.2.2 (c _ (List.mem_of_getElem? (i := 0) rfl)) (c _ (List.mem_of_getElem? (i := 1) rfl)) (c _ (List.mem_of_getElem? (i := 2) rfl)) (c _ (List.mem_of_getElem? (i := 3) rfl))
    refine ww_iload_n 101 dX3_isBetter_100 rfl 1 rfl rfl ?_
    refine ww_aload_n 102 dX3_isBetter_101 rfl 0 rfl rfl ?_
    refine ww_getI 3 105 dX3_isBetter_102 wf_X3_62 (ww_i1 20 (by decide)) rfl rfl rfl ?_
    refine ww_ic_ne 120 108 dX3_isBetter_105 (by decide) rfl (fun c => ?_) (fun c => ?_)
    · replace h := h.1 c
      refine ww_iconst (v := nI 0) 121 dX3_isBetter_120 (by decide) rfl ?_
      exact ww_zret dX3_isBetter_121 rfl (Or.inl rfl) ⟨_, rfl, h⟩
    · replace h := h.2 c
      refine ww_iload_n 109 dX3_isBetter_108 rfl 2 rfl rfl ?_
      refine ww_aload_n 110 dX3_isBetter_109 rfl 0 rfl rfl ?_
      refine ww_getI 5 113 dX3_isBetter_110 wf_X3_65 (ww_i1 20 (by decide)) rfl rfl rfl ?_
      refine ww_ic_le 120 116 dX3_isBetter_113 (by decide) rfl (fun c => ?_) (fun c => ?_)
      · replace h := h.1 c
        refine ww_iconst (v := nI 0) 121 dX3_isBetter_120 (by decide) rfl ?_
        exact ww_zret dX3_isBetter_121 rfl (Or.inl rfl) ⟨_, rfl, h⟩
      · replace h := h.2 c
        refine ww_iconst (v := nI 1) 117 dX3_isBetter_116 (by decide) rfl ?_
        refine ww_goto 121 dX3_isBetter_117 (by decide) ?_
        exact ww_zret dX3_isBetter_121 rfl (Or.inr rfl) ⟨_, rfl, h⟩
theorem b_X3_take {l : Launch} {g : ww_G} {τ : ww_M} {a1 : Int32} {a2 : Int32} {a3 : Int32} {Post : ww_M → Prop}  (h : ∀ E : ww_E, (∀ τ1 : ww_M, τ1 = ww_up τ (20, 0) 3 a1 → (∀ τ2 : ww_M, τ2 = ww_up τ1 (20, 0) 4 a2 → (∀ τ3 : ww_M, τ3 = ww_up τ2 (20, 0) 5 a3 → (∃ Q4 : Int32 → ww_M → Prop, ww_T E.2.1 g mX0_sizeOf [.inr (.inr (8, 0)), .inl a2] τ3 (ww_QI Q4) ∧ ∀ (v5 : Int32) (τ6 : ww_M), Q4 v5 τ6 → (∀ τ7 : ww_M, τ7 = ww_up τ6 (20, 0) 6 (((nI 2) * a3) - v5) → Post τ7)))))) : ww_T l g mX3_take [.inr (.inr (20, 0)), .inl a1, .inl a2, .inl a3] τ (ww_QV Post) := by
  refine ww_enter (P := [some (.inr (.inr (20, 0))), some (.inl a1), some (.inl a2), some (.inl a3)]) (by decide) (Nat.le_of_ble_eq_true rfl) rfl (fun E => ?_)
  replace h := h E
  refine ww_aload_n 1 dX3_take_0 rfl 0 rfl rfl ?_
  refine ww_iload_n 2 dX3_take_1 rfl 1 rfl rfl ?_
  refine ww_putI 3 5 dX3_take_2 wf_X3_62 fp_X3_3 (ww_i1 20 (by decide)) rfl rfl rfl (fun τ1 eτ1 => ?_)
  replace h := h τ1 eτ1
  refine ww_aload_n 6 dX3_take_5 rfl 0 rfl rfl ?_
  refine ww_iload_n 7 dX3_take_6 rfl 2 rfl rfl ?_
  refine ww_putI 4 10 dX3_take_7 wf_X3_71 fp_X3_4 (ww_i1 20 (by decide)) rfl rfl rfl (fun τ2 eτ2 => ?_)
  replace h := h τ2 eτ2
  refine ww_aload_n 11 dX3_take_10 rfl 0 rfl rfl ?_
  refine ww_iload_n 12 dX3_take_11 rfl 3 rfl rfl ?_
  refine ww_putI 5 15 dX3_take_12 wf_X3_65 fp_X3_5 (ww_i1 20 (by decide)) rfl rfl rfl (fun τ3 eτ3 => ?_)
  replace h := h τ3 eτ3
  refine ww_aload_n 16 dX3_take_15 rfl 0 rfl rfl ?_
  refine ww_iconst (v := nI 2) 17 dX3_take_16 (by decide) rfl ?_
  refine ww_iload_n 18 dX3_take_17 rfl 3 rfl rfl ?_
  refine ww_imul 19 dX3_take_18 rfl ?_
  refine ww_aload_n 20 dX3_take_19 rfl 0 rfl rfl ?_
  refine ww_getR 0 23 dX3_take_20 wf_X3_24 (ww_i1 20 (by decide)) rfl rfl rfl ?_
  refine ww_iload_n 24 dX3_take_23 rfl 2 rfl rfl ?_
  obtain ⟨Q4, hT, h⟩ := h
  refine ww_invVI (d' := mX0_sizeOf) [.inl a2] rfl 27 dX3_take_24 ⟨wi_X0, wc_X0_sizeOf, wp_X0_sizeOf, by decide, by decide⟩ wl_X3_51 wn_X0_sizeOf we_X0_sizeOf (ww_i1 8 (by decide)) rfl rfl (Nat.le_of_ble_eq_true rfl) rfl hT (fun v5 τ6 hq => ?_)
  replace h := h v5 τ6 hq
  refine ww_isub 28 dX3_take_27 rfl ?_
  refine ww_putI 6 31 dX3_take_28 wf_X3_68 fp_X3_6 (ww_i1 20 (by decide)) rfl rfl rfl (fun τ7 eτ7 => ?_)
  replace h := h τ7 eτ7
  exact ww_vret dX3_take_31 rfl ⟨rfl, h⟩
theorem b_X3_doCut {l : Launch} {g : ww_G} {τ : ww_M} {r1 : Nat} {Post : ww_M → Prop} (hr1 : r1 < 104) (h : ∀ E : ww_E, (∃ Q1 : ww_M → Prop, ww_T E.2.1 g mX2_wipe [.inr (.inr (21, 19))] τ (ww_QV Q1) ∧ ∀ (τ2 : ww_M), Q1 τ2 → (∃ Q3 : ww_M → Prop, ww_T E.2.1 g mX2_putPart [.inr (.inr (21, 19)), .inr (.inr (21, r1)), .inl (nI 0), .inl (τ2 (20, 0) 3)] τ2 (ww_QV Q3) ∧ ∀ (τ4 : ww_M), Q3 τ4 → (∃ Q5 : Int32 → ww_M → Prop, ww_T E.2.1 g mX0_sizeOf [.inr (.inr (8, 0)), .inl (τ4 (20, 0) 4)] τ4 (ww_QI Q5) ∧ ∀ (v6 : Int32) (τ7 : ww_M), Q5 v6 τ7 → ww_W g mX3_doCut E (ww_QV Post) 34 [some (.inr (.inr (20, 0))), some (.inr (.inr (21, r1))), some (.inl (v6 - (nI 1)))] [] τ7)))) : ww_T l g mX3_doCut [.inr (.inr (20, 0)), .inr (.inr (21, r1))] τ (ww_QV Post) := by
  refine ww_enter (P := [some (.inr (.inr (20, 0))), some (.inr (.inr (21, r1))), none]) (by decide) (Nat.le_of_ble_eq_true rfl) rfl (fun E => ?_)
  replace h := h E
  refine ww_aload_n 1 dX3_doCut_0 rfl 0 rfl rfl ?_
  refine ww_getR 1 4 dX3_doCut_1 wf_X3_14 (ww_i1 20 (by decide)) rfl rfl rfl ?_
  obtain ⟨Q1, hT, h⟩ := h
  refine ww_invVV (d' := mX2_wipe) [] rfl 7 dX3_doCut_4 ⟨wi_X2, wc_X2_wipe, wp_X2_wipe, by decide, by decide⟩ wl_X3_74 wn_X2_wipe we_X2_wipe (show ww_in (21, 19) from (show 19 < 104 by omega)) rfl rfl (Nat.le_of_ble_eq_true rfl) rfl hT (fun τ2 hq => ?_)
  replace h := h τ2 hq
  refine ww_aload_n 8 dX3_doCut_7 rfl 0 rfl rfl ?_
  refine ww_getR 1 11 dX3_doCut_8 wf_X3_14 (ww_i1 20 (by decide)) rfl rfl rfl ?_
  refine ww_aload_n 12 dX3_doCut_11 rfl 1 rfl rfl ?_
  refine ww_iconst (v := nI 0) 13 dX3_doCut_12 (by decide) rfl ?_
  refine ww_aload_n 14 dX3_doCut_13 rfl 0 rfl rfl ?_
  refine ww_getI 3 17 dX3_doCut_14 wf_X3_62 (ww_i1 20 (by decide)) rfl rfl rfl ?_
  obtain ⟨Q3, hT, h⟩ := h
  refine ww_invVV (d' := mX2_putPart) [.inr (.inr (21, r1)), .inl (nI 0), .inl (τ2 (20, 0) 3)] rfl 20 dX3_doCut_17 ⟨wi_X2, wc_X2_putPart, wp_X2_putPart, by decide, by decide⟩ wl_X3_77 wn_X2_putPart we_X2_putPart (show ww_in (21, 19) from (show 19 < 104 by omega)) rfl rfl (Nat.le_of_ble_eq_true rfl) rfl hT (fun τ4 hq => ?_)
  replace h := h τ4 hq
  refine ww_aload_n 21 dX3_doCut_20 rfl 0 rfl rfl ?_
  refine ww_getR 0 24 dX3_doCut_21 wf_X3_24 (ww_i1 20 (by decide)) rfl rfl rfl ?_
  refine ww_aload_n 25 dX3_doCut_24 rfl 0 rfl rfl ?_
  refine ww_getI 4 28 dX3_doCut_25 wf_X3_71 (ww_i1 20 (by decide)) rfl rfl rfl ?_
  obtain ⟨Q5, hT, h⟩ := h
  refine ww_invVI (d' := mX0_sizeOf) [.inl (τ4 (20, 0) 4)] rfl 31 dX3_doCut_28 ⟨wi_X0, wc_X0_sizeOf, wp_X0_sizeOf, by decide, by decide⟩ wl_X3_51 wn_X0_sizeOf we_X0_sizeOf (ww_i1 8 (by decide)) rfl rfl (Nat.le_of_ble_eq_true rfl) rfl hT (fun v6 τ7 hq => ?_)
  replace h := h v6 τ7 hq
  refine ww_iconst (v := nI 1) 32 dX3_doCut_31 (by decide) rfl ?_
  refine ww_isub 33 dX3_doCut_32 rfl ?_
  refine ww_istore_n 34 dX3_doCut_33 rfl 2 rfl (by decide) rfl [some (.inr (.inr (20, 0))), some (.inr (.inr (21, r1))), some (.inl (v6 - (nI 1)))] rfl ?_
  exact h
theorem b_X3_doCut_34 {g : ww_G} {E : ww_E} {τ : ww_M} {r1 : Nat} {x2 : Int32} {Post : ww_M → Prop} (hr1 : r1 < 104) (h : ((x2 < τ (20, 0) 5 → (∃ Q1 : ww_M → Prop, ww_T E.2.1 g mX2_putPart [.inr (.inr (21, 19)), .inr (.inr (21, r1)), .inl ((τ (20, 0) 3) + (τ (20, 0) 5)), .inl (τ (21, r1) 1)] τ (ww_QV Q1) ∧ ∀ (τ2 : ww_M), Q1 τ2 → (∃ Q3 : ww_M → Prop, ww_T E.2.1 g mX2_copy [.inr (.inr (21, r1)), .inr (.inr (21, 19))] τ2 (ww_QV Q3) ∧ ∀ (τ4 : ww_M), Q3 τ4 → Post τ4))) ∧ (¬ (x2 < τ (20, 0) 5) → (∃ Q5 : Int32 → ww_M → Prop, ww_T E.2.1 g mX0_letterOf [.inr (.inr (8, 0)), .inl (τ (20, 0) 4), .inl x2] τ (ww_QI Q5) ∧ ∀ (v6 : Int32) (τ7 : ww_M), Q5 v6 τ7 → (∃ Q8 : Int32 → ww_M → Prop, ww_T E.2.1 g mX5_opposite [.inl v6] τ7 (ww_QI Q8) ∧ ∀ (v9 : Int32) (τ10 : ww_M), Q8 v9 τ10 → (∃ Q11 : ww_M → Prop, ww_T E.2.1 g mX2_put [.inr (.inr (21, 19)), .inl v9] τ10 (ww_QV Q11) ∧ ∀ (τ12 : ww_M), Q11 τ12 → ww_W g mX3_doCut E (ww_QV Post) 34 [some (.inr (.inr (20, 0))), some (.inr (.inr (21, r1))), some (.inl (x2 + (-1 : Int32)))] [] τ12)))))) : ww_W g mX3_doCut E (ww_QV Post) 34 [some (.inr (.inr (20, 0))), some (.inr (.inr (21, r1))), some (.inl x2)] [] τ := by
  refine ww_iload_n 35 dX3_doCut_34 rfl 2 rfl rfl ?_
  refine ww_aload_n 36 dX3_doCut_35 rfl 0 rfl rfl ?_
  refine ww_getI 5 39 dX3_doCut_36 wf_X3_65 (ww_i1 20 (by decide)) rfl rfl rfl ?_
  refine ww_ic_lt 70 42 dX3_doCut_39 (by decide) rfl (fun c => ?_) (fun c => ?_)
  · replace h := h.1 c
    refine ww_aload_n 71 dX3_doCut_70 rfl 0 rfl rfl ?_
    refine ww_getR 1 74 dX3_doCut_71 wf_X3_14 (ww_i1 20 (by decide)) rfl rfl rfl ?_
    refine ww_aload_n 75 dX3_doCut_74 rfl 1 rfl rfl ?_
    refine ww_aload_n 76 dX3_doCut_75 rfl 0 rfl rfl ?_
    refine ww_getI 3 79 dX3_doCut_76 wf_X3_62 (ww_i1 20 (by decide)) rfl rfl rfl ?_
    refine ww_aload_n 80 dX3_doCut_79 rfl 0 rfl rfl ?_
    refine ww_getI 5 83 dX3_doCut_80 wf_X3_65 (ww_i1 20 (by decide)) rfl rfl rfl ?_
    refine ww_iadd 84 dX3_doCut_83 rfl ?_
    refine ww_aload_n 85 dX3_doCut_84 rfl 1 rfl rfl ?_
    refine ww_getI 1 88 dX3_doCut_85 wf_X3_28 (show ww_in (21, r1) from (show r1 < 104 by omega)) rfl rfl rfl ?_
    obtain ⟨Q1, hT, h⟩ := h
    refine ww_invVV (d' := mX2_putPart) [.inr (.inr (21, r1)), .inl ((τ (20, 0) 3) + (τ (20, 0) 5)), .inl (τ (21, r1) 1)] rfl 91 dX3_doCut_88 ⟨wi_X2, wc_X2_putPart, wp_X2_putPart, by decide, by decide⟩ wl_X3_77 wn_X2_putPart we_X2_putPart (show ww_in (21, 19) from (show 19 < 104 by omega)) rfl rfl (Nat.le_of_ble_eq_true rfl) rfl hT (fun τ2 hq => ?_)
    replace h := h τ2 hq
    refine ww_aload_n 92 dX3_doCut_91 rfl 1 rfl rfl ?_
    refine ww_aload_n 93 dX3_doCut_92 rfl 0 rfl rfl ?_
    refine ww_getR 1 96 dX3_doCut_93 wf_X3_14 (ww_i1 20 (by decide)) rfl rfl rfl ?_
    obtain ⟨Q3, hT, h⟩ := h
    refine ww_invVV (d' := mX2_copy) [.inr (.inr (21, 19))] rfl 99 dX3_doCut_96 ⟨wi_X2, wc_X2_copy, wp_X2_copy, by decide, by decide⟩ wl_X3_90 wn_X2_copy we_X2_copy (show ww_in (21, r1) from (show r1 < 104 by omega)) rfl rfl (Nat.le_of_ble_eq_true rfl) rfl hT (fun τ4 hq => ?_)
    replace h := h τ4 hq
    exact ww_vret dX3_doCut_99 rfl ⟨rfl, h⟩
  · replace h := h.2 c
    refine ww_aload_n 43 dX3_doCut_42 rfl 0 rfl rfl ?_
    refine ww_getR 1 46 dX3_doCut_43 wf_X3_14 (ww_i1 20 (by decide)) rfl rfl rfl ?_
    refine ww_aload_n 47 dX3_doCut_46 rfl 0 rfl rfl ?_
    refine ww_getR 0 50 dX3_doCut_47 wf_X3_24 (ww_i1 20 (by decide)) rfl rfl rfl ?_
    refine ww_aload_n 51 dX3_doCut_50 rfl 0 rfl rfl ?_
    refine ww_getI 4 54 dX3_doCut_51 wf_X3_71 (ww_i1 20 (by decide)) rfl rfl rfl ?_
    refine ww_iload_n 55 dX3_doCut_54 rfl 2 rfl rfl ?_
    obtain ⟨Q5, hT, h⟩ := h
    refine ww_invVI (d' := mX0_letterOf) [.inl (τ (20, 0) 4), .inl x2] rfl 58 dX3_doCut_55 ⟨wi_X0, wc_X0_letterOf, wp_X0_letterOf, by decide, by decide⟩ wl_X3_81 wn_X0_letterOf we_X0_letterOf (ww_i1 8 (by decide)) rfl rfl (Nat.le_of_ble_eq_true rfl) rfl hT (fun v6 τ7 hq => ?_)
    replace h := h v6 τ7 hq
    obtain ⟨Q8, hT, h⟩ := h
    refine ww_invSI (d' := mX5_opposite) [.inl v6] rfl 61 dX3_doCut_58 ⟨wi_X5, wc_X5_opposite, wp_X5_opposite, by decide, by decide⟩ (Or.inr ⟨"PieceWords", List.mem_of_getElem? (i := 2) rfl⟩) wn_X5_opposite (Nat.le_of_ble_eq_true rfl) rfl hT (fun v9 τ10 hq => ?_)
    replace h := h v9 τ10 hq
    obtain ⟨Q11, hT, h⟩ := h
    refine ww_invVV (d' := mX2_put) [.inl v9] rfl 64 dX3_doCut_61 ⟨wi_X2, wc_X2_put, wp_X2_put, by decide, by decide⟩ wl_X3_87 wn_X2_put we_X2_put (show ww_in (21, 19) from (show 19 < 104 by omega)) rfl rfl (Nat.le_of_ble_eq_true rfl) rfl hT (fun τ12 hq => ?_)
    replace h := h τ12 hq
    refine ww_iinc (-1 : Int32) 67 2 dX3_doCut_64 (by decide) rfl rfl (by decide) rfl [some (.inr (.inr (20, 0))), some (.inr (.inr (21, r1))), some (.inl (x2 + (-1 : Int32)))] rfl ?_
    refine ww_goto 34 dX3_doCut_67 (by decide) ?_
    exact h
theorem b_X3_doAll {l : Launch} {g : ww_G} {τ : ww_M} {r1 : Nat} {Post : Int32 → ww_M → Prop} (hr1 : r1 < 104) (h : ∀ E : ww_E, ww_W g mX3_doAll E (ww_QI Post) 2 [some (.inr (.inr (20, 0))), some (.inr (.inr (21, r1))), some (.inl (nI 0))] [] τ) : ww_T l g mX3_doAll [.inr (.inr (20, 0)), .inr (.inr (21, r1))] τ (ww_QI Post) := by
  refine ww_enter (P := [some (.inr (.inr (20, 0))), some (.inr (.inr (21, r1))), none]) (by decide) (Nat.le_of_ble_eq_true rfl) rfl (fun E => ?_)
  replace h := h E
  refine ww_iconst (v := nI 0) 1 dX3_doAll_0 (by decide) rfl ?_
  refine ww_istore_n 2 dX3_doAll_1 rfl 2 rfl (by decide) rfl [some (.inr (.inr (20, 0))), some (.inr (.inr (21, r1))), some (.inl (nI 0))] rfl ?_
  exact h
theorem b_X3_doAll_2 {g : ww_G} {E : ww_E} {τ : ww_M} {r1 : Nat} {x2 : Int32} {Post : Int32 → ww_M → Prop} (hr1 : r1 < 104) (h : ((nI 60 ≤ x2 → Post (nI 60) τ) ∧ (¬ (nI 60 ≤ x2) → (∃ Q1 : Int32 → ww_M → Prop, ww_T E.2.1 g mX3_seek [.inr (.inr (20, 0)), .inr (.inr (21, r1))] τ (ww_QI Q1) ∧ ∀ (v2 : Int32) (τ3 : ww_M), Q1 v2 τ3 → (¬ v2 = nI 0 → (∃ Q4 : ww_M → Prop, ww_T E.2.1 g mX3_doCut [.inr (.inr (20, 0)), .inr (.inr (21, r1))] τ3 (ww_QV Q4) ∧ ∀ (τ5 : ww_M), Q4 τ5 → ww_W g mX3_doAll E (ww_QI Post) 2 [some (.inr (.inr (20, 0))), some (.inr (.inr (21, r1))), some (.inl (x2 + nI 1))] [] τ5)) ∧ (v2 = nI 0 → Post x2 τ3))))) : ww_W g mX3_doAll E (ww_QI Post) 2 [some (.inr (.inr (20, 0))), some (.inr (.inr (21, r1))), some (.inl x2)] [] τ := by
  refine ww_iload_n 3 dX3_doAll_2 rfl 2 rfl rfl ?_
  refine ww_bipush (v := nI 60) 5 dX3_doAll_3 (by decide) rfl ?_
  refine ww_ic_ge 29 8 dX3_doAll_5 (by decide) rfl (fun c => ?_) (fun c => ?_)
  · replace h := h.1 c
    refine ww_bipush (v := nI 60) 31 dX3_doAll_29 (by decide) rfl ?_
    exact ww_iret dX3_doAll_31 rfl ⟨_, rfl, h⟩
  · replace h := h.2 c
    refine ww_aload_n 9 dX3_doAll_8 rfl 0 rfl rfl ?_
    refine ww_aload_n 10 dX3_doAll_9 rfl 1 rfl rfl ?_
    obtain ⟨Q1, hT, h⟩ := h
    refine ww_invVI (d' := mX3_seek) [.inr (.inr (21, r1))] rfl 13 dX3_doAll_10 ⟨wi_X3, wc_X3_seek, wp_X3_seek, by decide, by decide⟩ wl_X3_94 wn_X3_seek we_X3_seek (ww_i1 20 (by decide)) rfl rfl (Nat.le_of_ble_eq_true rfl) rfl hT (fun v2 τ3 hq => ?_)
    replace h := h v2 τ3 hq
    refine ww_if_ne 18 16 dX3_doAll_13 (by decide) rfl (fun c => ?_) (fun c => ?_)
    · replace h := h.1 c
      refine ww_aload_n 19 dX3_doAll_18 rfl 0 rfl rfl ?_
      refine ww_aload_n 20 dX3_doAll_19 rfl 1 rfl rfl ?_
      obtain ⟨Q4, hT, h⟩ := h
      refine ww_invVV (d' := mX3_doCut) [.inr (.inr (21, r1))] rfl 23 dX3_doAll_20 ⟨wi_X3, wc_X3_doCut, wp_X3_doCut, by decide, by decide⟩ wl_X3_98 wn_X3_doCut we_X3_doCut (ww_i1 20 (by decide)) rfl rfl (Nat.le_of_ble_eq_true rfl) rfl hT (fun τ5 hq => ?_)
      replace h := h τ5 hq
      refine ww_iinc (nI 1) 26 2 dX3_doAll_23 (by decide) rfl rfl (by decide) rfl [some (.inr (.inr (20, 0))), some (.inr (.inr (21, r1))), some (.inl (x2 + nI 1))] rfl ?_
      refine ww_goto 2 dX3_doAll_26 (by decide) ?_
      exact h
    · replace h := h.2 c
      refine ww_iload_n 17 dX3_doAll_16 rfl 2 rfl rfl ?_
      exact ww_iret dX3_doAll_17 rfl ⟨_, rfl, h⟩
theorem b_X3_doThrough {l : Launch} {g : ww_G} {τ : ww_M} {r1 : Nat} {a2 : Int32} {Post : Int32 → ww_M → Prop} (hr1 : r1 < 104) (h : ∀ E : ww_E, ((a2 < nI 60 → ww_W g mX3_doThrough E (ww_QI Post) 10 [some (.inr (.inr (20, 0))), some (.inr (.inr (21, r1))), some (.inl a2), some (.inl (nI 0))] [] τ) ∧ (¬ (a2 < nI 60) → Post (nI 0) τ))) : ww_T l g mX3_doThrough [.inr (.inr (20, 0)), .inr (.inr (21, r1)), .inl a2] τ (ww_QI Post) := by
  refine ww_enter (P := [some (.inr (.inr (20, 0))), some (.inr (.inr (21, r1))), some (.inl a2), none]) (by decide) (Nat.le_of_ble_eq_true rfl) rfl (fun E => ?_)
  replace h := h E
  refine ww_iload_n 1 dX3_doThrough_0 rfl 2 rfl rfl ?_
  refine ww_bipush (v := nI 60) 3 dX3_doThrough_1 (by decide) rfl ?_
  refine ww_ic_lt 8 6 dX3_doThrough_3 (by decide) rfl (fun c => ?_) (fun c => ?_)
  · replace h := h.1 c
    refine ww_iconst (v := nI 0) 9 dX3_doThrough_8 (by decide) rfl ?_
    refine ww_istore_n 10 dX3_doThrough_9 rfl 3 rfl (by decide) rfl [some (.inr (.inr (20, 0))), some (.inr (.inr (21, r1))), some (.inl a2), some (.inl (nI 0))] rfl ?_
    exact h
  · replace h := h.2 c
    refine ww_iconst (v := nI 0) 7 dX3_doThrough_6 (by decide) rfl ?_
    exact ww_zret dX3_doThrough_7 rfl (Or.inl rfl) ⟨_, rfl, h⟩
theorem b_X3_doThrough_10 {g : ww_G} {E : ww_E} {τ : ww_M} {r1 : Nat} {x2 : Int32} {x3 : Int32} {Post : Int32 → ww_M → Prop} (hr1 : r1 < 104) (h : ((x2 < x3 → Post (nI 1) τ) ∧ (¬ (x2 < x3) → (∃ Q1 : Int32 → ww_M → Prop, ww_T E.2.1 g mX3_seek [.inr (.inr (20, 0)), .inr (.inr (21, r1))] τ (ww_QI Q1) ∧ ∀ (v2 : Int32) (τ3 : ww_M), Q1 v2 τ3 → (¬ v2 = nI 0 → (∃ Q4 : ww_M → Prop, ww_T E.2.1 g mX3_doCut [.inr (.inr (20, 0)), .inr (.inr (21, r1))] τ3 (ww_QV Q4) ∧ ∀ (τ5 : ww_M), Q4 τ5 → ww_W g mX3_doThrough E (ww_QI Post) 10 [some (.inr (.inr (20, 0))), some (.inr (.inr (21, r1))), some (.inl x2), some (.inl (x3 + nI 1))] [] τ5)) ∧ (v2 = nI 0 → Post (nI 0) τ3))))) : ww_W g mX3_doThrough E (ww_QI Post) 10 [some (.inr (.inr (20, 0))), some (.inr (.inr (21, r1))), some (.inl x2), some (.inl x3)] [] τ := by
  refine ww_iload_n 11 dX3_doThrough_10 rfl 3 rfl rfl ?_
  refine ww_iload_n 12 dX3_doThrough_11 rfl 2 rfl rfl ?_
  refine ww_ic_gt 36 15 dX3_doThrough_12 (by decide) rfl (fun c => ?_) (fun c => ?_)
  · replace h := h.1 c
    refine ww_iconst (v := nI 1) 37 dX3_doThrough_36 (by decide) rfl ?_
    exact ww_zret dX3_doThrough_37 rfl (Or.inr rfl) ⟨_, rfl, h⟩
  · replace h := h.2 c
    refine ww_aload_n 16 dX3_doThrough_15 rfl 0 rfl rfl ?_
    refine ww_aload_n 17 dX3_doThrough_16 rfl 1 rfl rfl ?_
    obtain ⟨Q1, hT, h⟩ := h
    refine ww_invVI (d' := mX3_seek) [.inr (.inr (21, r1))] rfl 20 dX3_doThrough_17 ⟨wi_X3, wc_X3_seek, wp_X3_seek, by decide, by decide⟩ wl_X3_94 wn_X3_seek we_X3_seek (ww_i1 20 (by decide)) rfl rfl (Nat.le_of_ble_eq_true rfl) rfl hT (fun v2 τ3 hq => ?_)
    replace h := h v2 τ3 hq
    refine ww_if_ne 25 23 dX3_doThrough_20 (by decide) rfl (fun c => ?_) (fun c => ?_)
    · replace h := h.1 c
      refine ww_aload_n 26 dX3_doThrough_25 rfl 0 rfl rfl ?_
      refine ww_aload_n 27 dX3_doThrough_26 rfl 1 rfl rfl ?_
      obtain ⟨Q4, hT, h⟩ := h
      refine ww_invVV (d' := mX3_doCut) [.inr (.inr (21, r1))] rfl 30 dX3_doThrough_27 ⟨wi_X3, wc_X3_doCut, wp_X3_doCut, by decide, by decide⟩ wl_X3_98 wn_X3_doCut we_X3_doCut (ww_i1 20 (by decide)) rfl rfl (Nat.le_of_ble_eq_true rfl) rfl hT (fun τ5 hq => ?_)
      replace h := h τ5 hq
      refine ww_iinc (nI 1) 33 3 dX3_doThrough_30 (by decide) rfl rfl (by decide) rfl [some (.inr (.inr (20, 0))), some (.inr (.inr (21, r1))), some (.inl x2), some (.inl (x3 + nI 1))] rfl ?_
      refine ww_goto 10 dX3_doThrough_33 (by decide) ?_
      exact h
    · replace h := h.2 c
      refine ww_iconst (v := nI 0) 24 dX3_doThrough_23 (by decide) rfl ?_
      exact ww_zret dX3_doThrough_24 rfl (Or.inl rfl) ⟨_, rfl, h⟩
