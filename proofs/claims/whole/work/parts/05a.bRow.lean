theorem b_X2_at {l : Launch} {g : ww_G} {τ : ww_M} {r0 : Nat} {a1 : Int32} {Post : Int32 → ww_M → Prop} (hr0 : r0 < 104) (h : ∀ E : ww_E, ((a1 < nI 0 → Post (-1 : Int32) τ) ∧ (¬ (a1 < nI 0) → ((τ (21, r0) 1 ≤ a1 → Post (-1 : Int32) τ) ∧ (¬ (τ (21, r0) 1 ≤ a1) → ((nI (ww_cap r0) ≤ a1 → Post (-1 : Int32) τ) ∧ (¬ (nI (ww_cap r0) ≤ a1) → (∃ j1 : Nat, a1 = nI j1 ∧ j1 < ww_cap r0 ∧ Post (τ (22, r0) j1) τ)))))))) : ww_T l g mX2_at [.inr (.inr (21, r0)), .inl a1] τ (ww_QI Post) := by
  refine ww_enter (P := [some (.inr (.inr (21, r0))), some (.inl a1)]) (by decide) (Nat.le_of_ble_eq_true rfl) rfl (fun E => ?_)
  replace h := h E
  refine ww_iload_n 1 dX2_at_0 rfl 1 rfl rfl ?_
  refine ww_if_lt 30 4 dX2_at_1 (by decide) rfl (fun c => ?_) (fun c => ?_)
  · replace h := h.1 c
    refine ww_iconst (v := (-1 : Int32)) 31 dX2_at_30 (by decide) rfl ?_
    exact ww_iret dX2_at_31 rfl ⟨_, rfl, h⟩
  · replace h := h.2 c
    refine ww_iload_n 5 dX2_at_4 rfl 1 rfl rfl ?_
    refine ww_aload_n 6 dX2_at_5 rfl 0 rfl rfl ?_
    refine ww_getI 1 9 dX2_at_6 wf_X2_21 (show ww_in (21, r0) from (show r0 < 104 by omega)) rfl rfl rfl ?_
    refine ww_ic_ge 30 12 dX2_at_9 (by decide) rfl (fun c => ?_) (fun c => ?_)
    · replace h := h.1 c
      refine ww_iconst (v := (-1 : Int32)) 31 dX2_at_30 (by decide) rfl ?_
      exact ww_iret dX2_at_31 rfl ⟨_, rfl, h⟩
    · replace h := h.2 c
      refine ww_iload_n 13 dX2_at_12 rfl 1 rfl rfl ?_
      refine ww_aload_n 14 dX2_at_13 rfl 0 rfl rfl ?_
      refine ww_getR 0 17 dX2_at_14 wf_X2_15 (show ww_in (21, r0) from (show r0 < 104 by omega)) rfl rfl rfl ?_
      refine ww_alnI 18 dX2_at_17 (show ww_in (22, r0) from (show r0 < 104 by omega)) rfl rfl ?_
      refine ww_ic_ge 30 21 dX2_at_18 (by decide) rfl (fun c => ?_) (fun c => ?_)
      · replace h := h.1 c
        refine ww_iconst (v := (-1 : Int32)) 31 dX2_at_30 (by decide) rfl ?_
        exact ww_iret dX2_at_31 rfl ⟨_, rfl, h⟩
      · replace h := h.2 c
        refine ww_aload_n 22 dX2_at_21 rfl 0 rfl rfl ?_
        refine ww_getR 0 25 dX2_at_22 wf_X2_15 (show ww_in (21, r0) from (show r0 < 104 by omega)) rfl rfl rfl ?_
        refine ww_iload_n 26 dX2_at_25 rfl 1 rfl rfl ?_
        obtain ⟨j1, hij1, hj1, h⟩ := h
        refine ww_iald j1 27 dX2_at_26 (show ww_in (22, r0) from (show r0 < 104 by omega)) rfl (ww_cap_lt _) hij1 hj1 rfl ?_
        refine ww_goto 31 dX2_at_27 (by decide) ?_
        exact ww_iret dX2_at_31 rfl ⟨_, rfl, h⟩
theorem b_X2_wipe {l : Launch} {g : ww_G} {τ : ww_M} {r0 : Nat} {Post : ww_M → Prop} (hr0 : r0 < 104) (h : ∀ E : ww_E, (∀ τ1 : ww_M, τ1 = ww_up τ (21, r0) 1 (nI 0) → Post τ1)) : ww_T l g mX2_wipe [.inr (.inr (21, r0))] τ (ww_QV Post) := by
  refine ww_enter (P := [some (.inr (.inr (21, r0)))]) (by decide) (Nat.le_of_ble_eq_true rfl) rfl (fun E => ?_)
  replace h := h E
  refine ww_aload_n 1 dX2_wipe_0 rfl 0 rfl rfl ?_
  refine ww_iconst (v := nI 0) 2 dX2_wipe_1 (by decide) rfl ?_
  refine ww_putI 1 5 dX2_wipe_2 wf_X2_21 fp_X2_1 (show ww_in (21, r0) from (show r0 < 104 by omega)) rfl rfl rfl (fun τ1 eτ1 => ?_)
  replace h := h τ1 eτ1
  exact ww_vret dX2_wipe_5 rfl ⟨rfl, h⟩
theorem b_X2_put {l : Launch} {g : ww_G} {τ : ww_M} {r0 : Nat} {a1 : Int32} {Post : ww_M → Prop} (hr0 : r0 < 104) (h : ∀ E : ww_E, ((a1 < nI 0 → Post τ) ∧ (¬ (a1 < nI 0) → ((a1 < nI 8 → ((τ (21, r0) 1 ≤ nI 0 → ww_W g mX2_put E (ww_QV Post) 48 [some (.inr (.inr (21, r0))), some (.inl a1)] [] τ) ∧ (¬ (τ (21, r0) 1 ≤ nI 0) → (∃ Q1 : Int32 → ww_M → Prop, ww_T E.2.1 g mX2_at [.inr (.inr (21, r0)), .inl ((τ (21, r0) 1) - (nI 1))] τ (ww_QI Q1) ∧ ∀ (v2 : Int32) (τ3 : ww_M), Q1 v2 τ3 → (∃ Q4 : Int32 → ww_M → Prop, ww_T E.2.1 g mX5_opposite [.inl a1] τ3 (ww_QI Q4) ∧ ∀ (v5 : Int32) (τ6 : ww_M), Q4 v5 τ6 → (¬ v2 = v5 → ww_W g mX2_put E (ww_QV Post) 48 [some (.inr (.inr (21, r0))), some (.inl a1)] [] τ6) ∧ (v2 = v5 → (∀ τ7 : ww_M, τ7 = ww_up τ6 (21, r0) 1 ((τ6 (21, r0) 1) - (nI 1)) → Post τ7))))))) ∧ (¬ (a1 < nI 8) → Post τ))))) : ww_T l g mX2_put [.inr (.inr (21, r0)), .inl a1] τ (ww_QV Post) := by
  refine ww_enter (P := [some (.inr (.inr (21, r0))), some (.inl a1)]) (by decide) (Nat.le_of_ble_eq_true rfl) rfl (fun E => ?_)
  replace h := h E
  refine ww_iload_n 1 dX2_put_0 rfl 1 rfl rfl ?_
  refine ww_if_lt 10 4 dX2_put_1 (by decide) rfl (fun c => ?_) (fun c => ?_)
  · replace h := h.1 c
    exact ww_vret dX2_put_10 rfl ⟨rfl, h⟩
  · replace h := h.2 c
    refine ww_iload_n 5 dX2_put_4 rfl 1 rfl rfl ?_
    refine ww_bipush (v := nI 8) 7 dX2_put_5 (by decide) rfl ?_
    refine ww_ic_lt 11 10 dX2_put_7 (by decide) rfl (fun c => ?_) (fun c => ?_)
    · replace h := h.1 c
      refine ww_aload_n 12 dX2_put_11 rfl 0 rfl rfl ?_
      refine ww_getI 1 15 dX2_put_12 wf_X2_21 (show ww_in (21, r0) from (show r0 < 104 by omega)) rfl rfl rfl ?_
      refine ww_if_le 48 18 dX2_put_15 (by decide) rfl (fun c => ?_) (fun c => ?_)
      · replace h := h.1 c
        exact h
      · replace h := h.2 c
        refine ww_aload_n 19 dX2_put_18 rfl 0 rfl rfl ?_
        refine ww_aload_n 20 dX2_put_19 rfl 0 rfl rfl ?_
        refine ww_getI 1 23 dX2_put_20 wf_X2_21 (show ww_in (21, r0) from (show r0 < 104 by omega)) rfl rfl rfl ?_
        refine ww_iconst (v := nI 1) 24 dX2_put_23 (by decide) rfl ?_
        refine ww_isub 25 dX2_put_24 rfl ?_
        obtain ⟨Q1, hT, h⟩ := h
        refine ww_invVI (d' := mX2_at) [.inl ((τ (21, r0) 1) - (nI 1))] rfl 28 dX2_put_25 ⟨wi_X2, wc_X2_at, wp_X2_at, by decide, by decide⟩ wl_X2_25 wn_X2_at we_X2_at (show ww_in (21, r0) from (show r0 < 104 by omega)) rfl rfl (Nat.le_of_ble_eq_true rfl) rfl hT (fun v2 τ3 hq => ?_)
        replace h := h v2 τ3 hq
        refine ww_iload_n 29 dX2_put_28 rfl 1 rfl rfl ?_
        obtain ⟨Q4, hT, h⟩ := h
        refine ww_invSI (d' := mX5_opposite) [.inl a1] rfl 32 dX2_put_29 ⟨wi_X5, wc_X5_opposite, wp_X5_opposite, by decide, by decide⟩ (Or.inr ⟨"PieceWords", List.mem_of_getElem? (i := 1) rfl⟩) wn_X5_opposite (Nat.le_of_ble_eq_true rfl) rfl hT (fun v5 τ6 hq => ?_)
        replace h := h v5 τ6 hq
        refine ww_ic_ne 48 35 dX2_put_32 (by decide) rfl (fun c => ?_) (fun c => ?_)
        · replace h := h.1 c
          exact h
        · replace h := h.2 c
          refine ww_aload_n 36 dX2_put_35 rfl 0 rfl rfl ?_
          refine ww_dup 37 dX2_put_36 rfl rfl ?_
          refine ww_getI 1 40 dX2_put_37 wf_X2_21 (show ww_in (21, r0) from (show r0 < 104 by omega)) rfl rfl rfl ?_
          refine ww_iconst (v := nI 1) 41 dX2_put_40 (by decide) rfl ?_
          refine ww_isub 42 dX2_put_41 rfl ?_
          refine ww_putI 1 45 dX2_put_42 wf_X2_21 fp_X2_1 (show ww_in (21, r0) from (show r0 < 104 by omega)) rfl rfl rfl (fun τ7 eτ7 => ?_)
          replace h := h τ7 eτ7
          refine ww_goto 80 dX2_put_45 (by decide) ?_
          exact ww_vret dX2_put_80 rfl ⟨rfl, h⟩
    · replace h := h.2 c
      exact ww_vret dX2_put_10 rfl ⟨rfl, h⟩
theorem b_X2_put_48 {g : ww_G} {E : ww_E} {τ : ww_M} {r0 : Nat} {x1 : Int32} {Post : ww_M → Prop} (hr0 : r0 < 104) (h : ((nI (ww_cap r0) ≤ τ (21, r0) 1 → Post τ) ∧ (¬ (nI (ww_cap r0) ≤ τ (21, r0) 1) → (∃ j1 : Nat, τ (21, r0) 1 = nI j1 ∧ j1 < ww_cap r0 ∧ ∀ τ2 : ww_M, τ2 = ww_up τ (22, r0) j1 x1 → (∀ τ3 : ww_M, τ3 = ww_up τ2 (21, r0) 1 ((τ2 (21, r0) 1) + (nI 1)) → Post τ3))))) : ww_W g mX2_put E (ww_QV Post) 48 [some (.inr (.inr (21, r0))), some (.inl x1)] [] τ := by
  refine ww_aload_n 49 dX2_put_48 rfl 0 rfl rfl ?_
  refine ww_getI 1 52 dX2_put_49 wf_X2_21 (show ww_in (21, r0) from (show r0 < 104 by omega)) rfl rfl rfl ?_
  refine ww_aload_n 53 dX2_put_52 rfl 0 rfl rfl ?_
  refine ww_getR 0 56 dX2_put_53 wf_X2_15 (show ww_in (21, r0) from (show r0 < 104 by omega)) rfl rfl rfl ?_
  refine ww_alnI 57 dX2_put_56 (show ww_in (22, r0) from (show r0 < 104 by omega)) rfl rfl ?_
  refine ww_ic_ge 80 60 dX2_put_57 (by decide) rfl (fun c => ?_) (fun c => ?_)
  · replace h := h.1 c
    exact ww_vret dX2_put_80 rfl ⟨rfl, h⟩
  · replace h := h.2 c
    refine ww_aload_n 61 dX2_put_60 rfl 0 rfl rfl ?_
    refine ww_getR 0 64 dX2_put_61 wf_X2_15 (show ww_in (21, r0) from (show r0 < 104 by omega)) rfl rfl rfl ?_
    refine ww_aload_n 65 dX2_put_64 rfl 0 rfl rfl ?_
    refine ww_getI 1 68 dX2_put_65 wf_X2_21 (show ww_in (21, r0) from (show r0 < 104 by omega)) rfl rfl rfl ?_
    refine ww_iload_n 69 dX2_put_68 rfl 1 rfl rfl ?_
    obtain ⟨j1, hij1, hj1, h⟩ := h
    refine ww_iast j1 70 dX2_put_69 (show ww_in (22, r0) from (show r0 < 104 by omega)) rfl (ww_cap_lt _) hij1 hj1 rfl (fun τ2 eτ2 => ?_)
    replace h := h τ2 eτ2
    refine ww_aload_n 71 dX2_put_70 rfl 0 rfl rfl ?_
    refine ww_dup 72 dX2_put_71 rfl rfl ?_
    refine ww_getI 1 75 dX2_put_72 wf_X2_21 (show ww_in (21, r0) from (show r0 < 104 by omega)) rfl rfl rfl ?_
    refine ww_iconst (v := nI 1) 76 dX2_put_75 (by decide) rfl ?_
    refine ww_iadd 77 dX2_put_76 rfl ?_
    refine ww_putI 1 80 dX2_put_77 wf_X2_21 fp_X2_1 (show ww_in (21, r0) from (show r0 < 104 by omega)) rfl rfl rfl (fun τ3 eτ3 => ?_)
    replace h := h τ3 eτ3
    exact ww_vret dX2_put_80 rfl ⟨rfl, h⟩
theorem b_X2_copy {l : Launch} {g : ww_G} {τ : ww_M} {r0 : Nat} {r1 : Nat} {Post : ww_M → Prop} (hr0 : r0 < 104) (hr1 : r1 < 104) (h : ∀ E : ww_E, ww_W g mX2_copy E (ww_QV Post) 23 [some (.inr (.inr (21, r0))), some (.inr (.inr (21, r1))), some (.inl (if (if nI (ww_cap r0) < nI (ww_cap r1) then nI (ww_cap r0) else nI (ww_cap r1)) < τ (21, r1) 1 then (if nI (ww_cap r0) < nI (ww_cap r1) then nI (ww_cap r0) else nI (ww_cap r1)) else τ (21, r1) 1)), some (.inl (nI 0))] [] τ) : ww_T l g mX2_copy [.inr (.inr (21, r0)), .inr (.inr (21, r1))] τ (ww_QV Post) := by
  refine ww_enter (P := [some (.inr (.inr (21, r0))), some (.inr (.inr (21, r1))), none, none]) (by decide) (Nat.le_of_ble_eq_true rfl) rfl (fun E => ?_)
  replace h := h E
  refine ww_aload_n 1 dX2_copy_0 rfl 1 rfl rfl ?_
  refine ww_getI 1 4 dX2_copy_1 wf_X2_21 (show ww_in (21, r1) from (show r1 < 104 by omega)) rfl rfl rfl ?_
  refine ww_aload_n 5 dX2_copy_4 rfl 1 rfl rfl ?_
  refine ww_getR 0 8 dX2_copy_5 wf_X2_15 (show ww_in (21, r1) from (show r1 < 104 by omega)) rfl rfl rfl ?_
  refine ww_alnI 9 dX2_copy_8 (show ww_in (22, r1) from (show r1 < 104 by omega)) rfl rfl ?_
  refine ww_aload_n 10 dX2_copy_9 rfl 0 rfl rfl ?_
  refine ww_getR 0 13 dX2_copy_10 wf_X2_15 (show ww_in (21, r0) from (show r0 < 104 by omega)) rfl rfl rfl ?_
  refine ww_alnI 14 dX2_copy_13 (show ww_in (22, r0) from (show r0 < 104 by omega)) rfl rfl ?_
  refine ww_mmin 17 dX2_copy_14 wl_X2_32 ws_Math_min wi_J9 wc_Math_min (by decide) (Nat.le_of_ble_eq_true rfl) rfl ?_
  refine ww_mmin 20 dX2_copy_17 wl_X2_32 ws_Math_min wi_J9 wc_Math_min (by decide) (Nat.le_of_ble_eq_true rfl) rfl ?_
  refine ww_istore_n 21 dX2_copy_20 rfl 2 rfl (by decide) rfl [some (.inr (.inr (21, r0))), some (.inr (.inr (21, r1))), some (.inl (if (if nI (ww_cap r0) < nI (ww_cap r1) then nI (ww_cap r0) else nI (ww_cap r1)) < τ (21, r1) 1 then (if nI (ww_cap r0) < nI (ww_cap r1) then nI (ww_cap r0) else nI (ww_cap r1)) else τ (21, r1) 1)), none] rfl ?_
  refine ww_iconst (v := nI 0) 22 dX2_copy_21 (by decide) rfl ?_
  refine ww_istore_n 23 dX2_copy_22 rfl 3 rfl (by decide) rfl [some (.inr (.inr (21, r0))), some (.inr (.inr (21, r1))), some (.inl (if (if nI (ww_cap r0) < nI (ww_cap r1) then nI (ww_cap r0) else nI (ww_cap r1)) < τ (21, r1) 1 then (if nI (ww_cap r0) < nI (ww_cap r1) then nI (ww_cap r0) else nI (ww_cap r1)) else τ (21, r1) 1)), some (.inl (nI 0))] rfl ?_
  exact h
theorem b_X2_copy_23 {g : ww_G} {E : ww_E} {τ : ww_M} {r0 : Nat} {r1 : Nat} {x2 : Int32} {x3 : Int32} {Post : ww_M → Prop} (hr0 : r0 < 104) (hr1 : r1 < 104) (h : ((x2 ≤ x3 → (∀ τ1 : ww_M, τ1 = ww_up τ (21, r0) 1 x2 → Post τ1)) ∧ (¬ (x2 ≤ x3) → (∃ j2 : Nat, x3 = nI j2 ∧ j2 < ww_cap r1 ∧ (∃ j3 : Nat, x3 = nI j3 ∧ j3 < ww_cap r0 ∧ ∀ τ4 : ww_M, τ4 = ww_up τ (22, r0) j3 (τ (22, r1) j2) → ww_W g mX2_copy E (ww_QV Post) 23 [some (.inr (.inr (21, r0))), some (.inr (.inr (21, r1))), some (.inl x2), some (.inl (x3 + nI 1))] [] τ4))))) : ww_W g mX2_copy E (ww_QV Post) 23 [some (.inr (.inr (21, r0))), some (.inr (.inr (21, r1))), some (.inl x2), some (.inl x3)] [] τ := by
  refine ww_iload_n 24 dX2_copy_23 rfl 3 rfl rfl ?_
  refine ww_iload_n 25 dX2_copy_24 rfl 2 rfl rfl ?_
  refine ww_ic_ge 46 28 dX2_copy_25 (by decide) rfl (fun c => ?_) (fun c => ?_)
  · replace h := h.1 c
    refine ww_aload_n 47 dX2_copy_46 rfl 0 rfl rfl ?_
    refine ww_iload_n 48 dX2_copy_47 rfl 2 rfl rfl ?_
    refine ww_putI 1 51 dX2_copy_48 wf_X2_21 fp_X2_1 (show ww_in (21, r0) from (show r0 < 104 by omega)) rfl rfl rfl (fun τ1 eτ1 => ?_)
    replace h := h τ1 eτ1
    exact ww_vret dX2_copy_51 rfl ⟨rfl, h⟩
  · replace h := h.2 c
    refine ww_aload_n 29 dX2_copy_28 rfl 0 rfl rfl ?_
    refine ww_getR 0 32 dX2_copy_29 wf_X2_15 (show ww_in (21, r0) from (show r0 < 104 by omega)) rfl rfl rfl ?_
    refine ww_iload_n 33 dX2_copy_32 rfl 3 rfl rfl ?_
    refine ww_aload_n 34 dX2_copy_33 rfl 1 rfl rfl ?_
    refine ww_getR 0 37 dX2_copy_34 wf_X2_15 (show ww_in (21, r1) from (show r1 < 104 by omega)) rfl rfl rfl ?_
    refine ww_iload_n 38 dX2_copy_37 rfl 3 rfl rfl ?_
    obtain ⟨j2, hij2, hj2, h⟩ := h
    refine ww_iald j2 39 dX2_copy_38 (show ww_in (22, r1) from (show r1 < 104 by omega)) rfl (ww_cap_lt _) hij2 hj2 rfl ?_
    obtain ⟨j3, hij3, hj3, h⟩ := h
    refine ww_iast j3 40 dX2_copy_39 (show ww_in (22, r0) from (show r0 < 104 by omega)) rfl (ww_cap_lt _) hij3 hj3 rfl (fun τ4 eτ4 => ?_)
    replace h := h τ4 eτ4
    refine ww_iinc (nI 1) 43 3 dX2_copy_40 (by decide) rfl rfl (by decide) rfl [some (.inr (.inr (21, r0))), some (.inr (.inr (21, r1))), some (.inl x2), some (.inl (x3 + nI 1))] rfl ?_
    refine ww_goto 23 dX2_copy_43 (by decide) ?_
    exact h
theorem b_X2_putRow {l : Launch} {g : ww_G} {τ : ww_M} {r0 : Nat} {r1 : Nat} {Post : ww_M → Prop} (hr0 : r0 < 104) (hr1 : r1 < 104) (h : ∀ E : ww_E, (∃ Q1 : ww_M → Prop, ww_T E.2.1 g mX2_putPart [.inr (.inr (21, r0)), .inr (.inr (21, r1)), .inl (nI 0), .inl (τ (21, r1) 1)] τ (ww_QV Q1) ∧ ∀ (τ2 : ww_M), Q1 τ2 → Post τ2)) : ww_T l g mX2_putRow [.inr (.inr (21, r0)), .inr (.inr (21, r1))] τ (ww_QV Post) := by
  refine ww_enter (P := [some (.inr (.inr (21, r0))), some (.inr (.inr (21, r1)))]) (by decide) (Nat.le_of_ble_eq_true rfl) rfl (fun E => ?_)
  replace h := h E
  refine ww_aload_n 1 dX2_putRow_0 rfl 0 rfl rfl ?_
  refine ww_aload_n 2 dX2_putRow_1 rfl 1 rfl rfl ?_
  refine ww_iconst (v := nI 0) 3 dX2_putRow_2 (by decide) rfl ?_
  refine ww_aload_n 4 dX2_putRow_3 rfl 1 rfl rfl ?_
  refine ww_getI 1 7 dX2_putRow_4 wf_X2_21 (show ww_in (21, r1) from (show r1 < 104 by omega)) rfl rfl rfl ?_
  obtain ⟨Q1, hT, h⟩ := h
  refine ww_invVV (d' := mX2_putPart) [.inr (.inr (21, r1)), .inl (nI 0), .inl (τ (21, r1) 1)] rfl 10 dX2_putRow_7 ⟨wi_X2, wc_X2_putPart, wp_X2_putPart, by decide, by decide⟩ wl_X2_35 wn_X2_putPart we_X2_putPart (show ww_in (21, r0) from (show r0 < 104 by omega)) rfl rfl (Nat.le_of_ble_eq_true rfl) rfl hT (fun τ2 hq => ?_)
  replace h := h τ2 hq
  exact ww_vret dX2_putRow_10 rfl ⟨rfl, h⟩
theorem b_X2_putPart {l : Launch} {g : ww_G} {τ : ww_M} {r0 : Nat} {r1 : Nat} {a2 : Int32} {a3 : Int32} {Post : ww_M → Prop} (hr0 : r0 < 104) (hr1 : r1 < 104) (h : ∀ E : ww_E, ww_W g mX2_putPart E (ww_QV Post) 3 [some (.inr (.inr (21, r0))), some (.inr (.inr (21, r1))), none, some (.inl a3), some (.inl a2)] [] τ) : ww_T l g mX2_putPart [.inr (.inr (21, r0)), .inr (.inr (21, r1)), .inl a2, .inl a3] τ (ww_QV Post) := by
  refine ww_enter (P := [some (.inr (.inr (21, r0))), some (.inr (.inr (21, r1))), some (.inl a2), some (.inl a3), none]) (by decide) (Nat.le_of_ble_eq_true rfl) rfl (fun E => ?_)
  replace h := h E
  refine ww_iload_n 1 dX2_putPart_0 rfl 2 rfl rfl ?_
  refine ww_istore 3 4 dX2_putPart_1 rfl (by decide) rfl [some (.inr (.inr (21, r0))), some (.inr (.inr (21, r1))), some (.inl a2), some (.inl a3), some (.inl a2)] rfl ?_
  exact ww_weak (ww_le_s (ww_le_s (ww_le_n (ww_le_s (ww_le_s (ww_le_nil _)))))) h
theorem b_X2_putPart_3 {g : ww_G} {E : ww_E} {τ : ww_M} {r0 : Nat} {r1 : Nat} {x3 : Int32} {x4 : Int32} {Post : ww_M → Prop} (hr0 : r0 < 104) (hr1 : r1 < 104) (h : ((x3 ≤ x4 → Post τ) ∧ (¬ (x3 ≤ x4) → (∃ Q1 : Int32 → ww_M → Prop, ww_T E.2.1 g mX2_at [.inr (.inr (21, r1)), .inl x4] τ (ww_QI Q1) ∧ ∀ (v2 : Int32) (τ3 : ww_M), Q1 v2 τ3 → (∃ Q4 : ww_M → Prop, ww_T E.2.1 g mX2_put [.inr (.inr (21, r0)), .inl v2] τ3 (ww_QV Q4) ∧ ∀ (τ5 : ww_M), Q4 τ5 → ww_W g mX2_putPart E (ww_QV Post) 3 [some (.inr (.inr (21, r0))), some (.inr (.inr (21, r1))), none, some (.inl x3), some (.inl (x4 + nI 1))] [] τ5))))) : ww_W g mX2_putPart E (ww_QV Post) 3 [some (.inr (.inr (21, r0))), some (.inr (.inr (21, r1))), none, some (.inl x3), some (.inl x4)] [] τ := by
  refine ww_iload 5 4 dX2_putPart_3 rfl rfl ?_
  refine ww_iload_n 6 dX2_putPart_5 rfl 3 rfl rfl ?_
  refine ww_ic_ge 25 9 dX2_putPart_6 (by decide) rfl (fun c => ?_) (fun c => ?_)
  · replace h := h.1 c
    exact ww_vret dX2_putPart_25 rfl ⟨rfl, h⟩
  · replace h := h.2 c
    refine ww_aload_n 10 dX2_putPart_9 rfl 0 rfl rfl ?_
    refine ww_aload_n 11 dX2_putPart_10 rfl 1 rfl rfl ?_
    refine ww_iload 13 4 dX2_putPart_11 rfl rfl ?_
    obtain ⟨Q1, hT, h⟩ := h
    refine ww_invVI (d' := mX2_at) [.inl x4] rfl 16 dX2_putPart_13 ⟨wi_X2, wc_X2_at, wp_X2_at, by decide, by decide⟩ wl_X2_25 wn_X2_at we_X2_at (show ww_in (21, r1) from (show r1 < 104 by omega)) rfl rfl (Nat.le_of_ble_eq_true rfl) rfl hT (fun v2 τ3 hq => ?_)
    replace h := h v2 τ3 hq
    obtain ⟨Q4, hT, h⟩ := h
    refine ww_invVV (d' := mX2_put) [.inl v2] rfl 19 dX2_putPart_16 ⟨wi_X2, wc_X2_put, wp_X2_put, by decide, by decide⟩ wl_X2_39 wn_X2_put we_X2_put (show ww_in (21, r0) from (show r0 < 104 by omega)) rfl rfl (Nat.le_of_ble_eq_true rfl) rfl hT (fun τ5 hq => ?_)
    replace h := h τ5 hq
    refine ww_iinc (nI 1) 22 4 dX2_putPart_19 (by decide) rfl rfl (by decide) rfl [some (.inr (.inr (21, r0))), some (.inr (.inr (21, r1))), none, some (.inl x3), some (.inl (x4 + nI 1))] rfl ?_
    refine ww_goto 3 dX2_putPart_22 (by decide) ?_
    exact h
theorem b_X2_putInverse {l : Launch} {g : ww_G} {τ : ww_M} {r0 : Nat} {r1 : Nat} {Post : ww_M → Prop} (hr0 : r0 < 104) (hr1 : r1 < 104) (h : ∀ E : ww_E, ww_W g mX2_putInverse E (ww_QV Post) 7 [some (.inr (.inr (21, r0))), some (.inr (.inr (21, r1))), some (.inl ((τ (21, r1) 1) - (nI 1)))] [] τ) : ww_T l g mX2_putInverse [.inr (.inr (21, r0)), .inr (.inr (21, r1))] τ (ww_QV Post) := by
  refine ww_enter (P := [some (.inr (.inr (21, r0))), some (.inr (.inr (21, r1))), none]) (by decide) (Nat.le_of_ble_eq_true rfl) rfl (fun E => ?_)
  replace h := h E
  refine ww_aload_n 1 dX2_putInverse_0 rfl 1 rfl rfl ?_
  refine ww_getI 1 4 dX2_putInverse_1 wf_X2_21 (show ww_in (21, r1) from (show r1 < 104 by omega)) rfl rfl rfl ?_
  refine ww_iconst (v := nI 1) 5 dX2_putInverse_4 (by decide) rfl ?_
  refine ww_isub 6 dX2_putInverse_5 rfl ?_
  refine ww_istore_n 7 dX2_putInverse_6 rfl 2 rfl (by decide) rfl [some (.inr (.inr (21, r0))), some (.inr (.inr (21, r1))), some (.inl ((τ (21, r1) 1) - (nI 1)))] rfl ?_
  exact h
theorem b_X2_putInverse_7 {g : ww_G} {E : ww_E} {τ : ww_M} {r0 : Nat} {r1 : Nat} {x2 : Int32} {Post : ww_M → Prop} (hr0 : r0 < 104) (hr1 : r1 < 104) (h : ((x2 < nI 0 → Post τ) ∧ (¬ (x2 < nI 0) → (∃ Q1 : Int32 → ww_M → Prop, ww_T E.2.1 g mX2_at [.inr (.inr (21, r1)), .inl x2] τ (ww_QI Q1) ∧ ∀ (v2 : Int32) (τ3 : ww_M), Q1 v2 τ3 → (∃ Q4 : Int32 → ww_M → Prop, ww_T E.2.1 g mX5_opposite [.inl v2] τ3 (ww_QI Q4) ∧ ∀ (v5 : Int32) (τ6 : ww_M), Q4 v5 τ6 → (∃ Q7 : ww_M → Prop, ww_T E.2.1 g mX2_put [.inr (.inr (21, r0)), .inl v5] τ6 (ww_QV Q7) ∧ ∀ (τ8 : ww_M), Q7 τ8 → ww_W g mX2_putInverse E (ww_QV Post) 7 [some (.inr (.inr (21, r0))), some (.inr (.inr (21, r1))), some (.inl (x2 + (-1 : Int32)))] [] τ8)))))) : ww_W g mX2_putInverse E (ww_QV Post) 7 [some (.inr (.inr (21, r0))), some (.inr (.inr (21, r1))), some (.inl x2)] [] τ := by
  refine ww_iload_n 8 dX2_putInverse_7 rfl 2 rfl rfl ?_
  refine ww_if_lt 29 11 dX2_putInverse_8 (by decide) rfl (fun c => ?_) (fun c => ?_)
  · replace h := h.1 c
    exact ww_vret dX2_putInverse_29 rfl ⟨rfl, h⟩
  · replace h := h.2 c
    refine ww_aload_n 12 dX2_putInverse_11 rfl 0 rfl rfl ?_
    refine ww_aload_n 13 dX2_putInverse_12 rfl 1 rfl rfl ?_
    refine ww_iload_n 14 dX2_putInverse_13 rfl 2 rfl rfl ?_
    obtain ⟨Q1, hT, h⟩ := h
    refine ww_invVI (d' := mX2_at) [.inl x2] rfl 17 dX2_putInverse_14 ⟨wi_X2, wc_X2_at, wp_X2_at, by decide, by decide⟩ wl_X2_25 wn_X2_at we_X2_at (show ww_in (21, r1) from (show r1 < 104 by omega)) rfl rfl (Nat.le_of_ble_eq_true rfl) rfl hT (fun v2 τ3 hq => ?_)
    replace h := h v2 τ3 hq
    obtain ⟨Q4, hT, h⟩ := h
    refine ww_invSI (d' := mX5_opposite) [.inl v2] rfl 20 dX2_putInverse_17 ⟨wi_X5, wc_X5_opposite, wp_X5_opposite, by decide, by decide⟩ (Or.inr ⟨"PieceWords", List.mem_of_getElem? (i := 1) rfl⟩) wn_X5_opposite (Nat.le_of_ble_eq_true rfl) rfl hT (fun v5 τ6 hq => ?_)
    replace h := h v5 τ6 hq
    obtain ⟨Q7, hT, h⟩ := h
    refine ww_invVV (d' := mX2_put) [.inl v5] rfl 23 dX2_putInverse_20 ⟨wi_X2, wc_X2_put, wp_X2_put, by decide, by decide⟩ wl_X2_39 wn_X2_put we_X2_put (show ww_in (21, r0) from (show r0 < 104 by omega)) rfl rfl (Nat.le_of_ble_eq_true rfl) rfl hT (fun τ8 hq => ?_)
    replace h := h τ8 hq
    refine ww_iinc (-1 : Int32) 26 2 dX2_putInverse_23 (by decide) rfl rfl (by decide) rfl [some (.inr (.inr (21, r0))), some (.inr (.inr (21, r1))), some (.inl (x2 + (-1 : Int32)))] rfl ?_
    refine ww_goto 7 dX2_putInverse_26 (by decide) ?_
    exact h
theorem b_X2_putTurn {l : Launch} {g : ww_G} {τ : ww_M} {r0 : Nat} {r1 : Nat} {a2 : Int32} {Post : ww_M → Prop} (hr0 : r0 < 104) (hr1 : r1 < 104) (h : ∀ E : ww_E, (∃ Q1 : ww_M → Prop, ww_T E.2.1 g mX2_putPart [.inr (.inr (21, r0)), .inr (.inr (21, r1)), .inl a2, .inl (τ (21, r1) 1)] τ (ww_QV Q1) ∧ ∀ (τ2 : ww_M), Q1 τ2 → (∃ Q3 : ww_M → Prop, ww_T E.2.1 g mX2_putPart [.inr (.inr (21, r0)), .inr (.inr (21, r1)), .inl (nI 0), .inl (if τ2 (21, r1) 1 < a2 then τ2 (21, r1) 1 else a2)] τ2 (ww_QV Q3) ∧ ∀ (τ4 : ww_M), Q3 τ4 → Post τ4))) : ww_T l g mX2_putTurn [.inr (.inr (21, r0)), .inr (.inr (21, r1)), .inl a2] τ (ww_QV Post) := by
  refine ww_enter (P := [some (.inr (.inr (21, r0))), some (.inr (.inr (21, r1))), some (.inl a2)]) (by decide) (Nat.le_of_ble_eq_true rfl) rfl (fun E => ?_)
  replace h := h E
  refine ww_aload_n 1 dX2_putTurn_0 rfl 0 rfl rfl ?_
  refine ww_aload_n 2 dX2_putTurn_1 rfl 1 rfl rfl ?_
  refine ww_iload_n 3 dX2_putTurn_2 rfl 2 rfl rfl ?_
  refine ww_aload_n 4 dX2_putTurn_3 rfl 1 rfl rfl ?_
  refine ww_getI 1 7 dX2_putTurn_4 wf_X2_21 (show ww_in (21, r1) from (show r1 < 104 by omega)) rfl rfl rfl ?_
  obtain ⟨Q1, hT, h⟩ := h
  refine ww_invVV (d' := mX2_putPart) [.inr (.inr (21, r1)), .inl a2, .inl (τ (21, r1) 1)] rfl 10 dX2_putTurn_7 ⟨wi_X2, wc_X2_putPart, wp_X2_putPart, by decide, by decide⟩ wl_X2_35 wn_X2_putPart we_X2_putPart (show ww_in (21, r0) from (show r0 < 104 by omega)) rfl rfl (Nat.le_of_ble_eq_true rfl) rfl hT (fun τ2 hq => ?_)
  replace h := h τ2 hq
  refine ww_aload_n 11 dX2_putTurn_10 rfl 0 rfl rfl ?_
  refine ww_aload_n 12 dX2_putTurn_11 rfl 1 rfl rfl ?_
  refine ww_iconst (v := nI 0) 13 dX2_putTurn_12 (by decide) rfl ?_
  refine ww_iload_n 14 dX2_putTurn_13 rfl 2 rfl rfl ?_
  refine ww_aload_n 15 dX2_putTurn_14 rfl 1 rfl rfl ?_
  refine ww_getI 1 18 dX2_putTurn_15 wf_X2_21 (show ww_in (21, r1) from (show r1 < 104 by omega)) rfl rfl rfl ?_
  refine ww_mmin 21 dX2_putTurn_18 wl_X2_32 ws_Math_min wi_J9 wc_Math_min (by decide) (Nat.le_of_ble_eq_true rfl) rfl ?_
  obtain ⟨Q3, hT, h⟩ := h
  refine ww_invVV (d' := mX2_putPart) [.inr (.inr (21, r1)), .inl (nI 0), .inl (if τ2 (21, r1) 1 < a2 then τ2 (21, r1) 1 else a2)] rfl 24 dX2_putTurn_21 ⟨wi_X2, wc_X2_putPart, wp_X2_putPart, by decide, by decide⟩ wl_X2_35 wn_X2_putPart we_X2_putPart (show ww_in (21, r0) from (show r0 < 104 by omega)) rfl rfl (Nat.le_of_ble_eq_true rfl) rfl hT (fun τ4 hq => ?_)
  replace h := h τ4 hq
  exact ww_vret dX2_putTurn_24 rfl ⟨rfl, h⟩
theorem b_X2_cutToRing {l : Launch} {g : ww_G} {τ : ww_M} {r0 : Nat} {Post : ww_M → Prop} (hr0 : r0 < 104) (h : ∀ E : ww_E, ww_W g mX2_cutToRing E (ww_QV Post) 2 [some (.inr (.inr (21, r0))), some (.inl (nI 0)), none, none] [] τ) : ww_T l g mX2_cutToRing [.inr (.inr (21, r0))] τ (ww_QV Post) := by
  refine ww_enter (P := [some (.inr (.inr (21, r0))), none, none, none]) (by decide) (Nat.le_of_ble_eq_true rfl) rfl (fun E => ?_)
  replace h := h E
  refine ww_iconst (v := nI 0) 1 dX2_cutToRing_0 (by decide) rfl ?_
  refine ww_istore_n 2 dX2_cutToRing_1 rfl 1 rfl (by decide) rfl [some (.inr (.inr (21, r0))), some (.inl (nI 0)), none, none] rfl ?_
  exact h
theorem b_X2_cutToRing_2 {g : ww_G} {E : ww_E} {τ : ww_M} {r0 : Nat} {x1 : Int32} {Post : ww_M → Prop} (hr0 : r0 < 104) (h : ((τ (21, r0) 1 ≤ ((nI 2) * x1) + (nI 1) → ww_W g mX2_cutToRing E (ww_QV Post) 54 [some (.inr (.inr (21, r0))), some (.inl x1), some (.inl ((τ (21, r0) 1) - ((nI 2) * x1))), some (.inl (nI 0))] [] τ) ∧ (¬ (τ (21, r0) 1 ≤ ((nI 2) * x1) + (nI 1)) → (∃ Q1 : Int32 → ww_M → Prop, ww_T E.2.1 g mX2_at [.inr (.inr (21, r0)), .inl x1] τ (ww_QI Q1) ∧ ∀ (v2 : Int32) (τ3 : ww_M), Q1 v2 τ3 → (∃ Q4 : Int32 → ww_M → Prop, ww_T E.2.1 g mX2_at [.inr (.inr (21, r0)), .inl (((τ3 (21, r0) 1) - (nI 1)) - x1)] τ3 (ww_QI Q4) ∧ ∀ (v5 : Int32) (τ6 : ww_M), Q4 v5 τ6 → (∃ Q7 : Int32 → ww_M → Prop, ww_T E.2.1 g mX5_opposite [.inl v5] τ6 (ww_QI Q7) ∧ ∀ (v8 : Int32) (τ9 : ww_M), Q7 v8 τ9 → (¬ v2 = v8 → ww_W g mX2_cutToRing E (ww_QV Post) 54 [some (.inr (.inr (21, r0))), some (.inl x1), some (.inl ((τ9 (21, r0) 1) - ((nI 2) * x1))), some (.inl (nI 0))] [] τ9) ∧ (v2 = v8 → ww_W g mX2_cutToRing E (ww_QV Post) 2 [some (.inr (.inr (21, r0))), some (.inl (x1 + nI 1)), none, none] [] τ9))))))) : ww_W g mX2_cutToRing E (ww_QV Post) 2 [some (.inr (.inr (21, r0))), some (.inl x1), none, none] [] τ := by
  refine ww_iconst (v := nI 2) 3 dX2_cutToRing_2 (by decide) rfl ?_
  refine ww_iload_n 4 dX2_cutToRing_3 rfl 1 rfl rfl ?_
  refine ww_imul 5 dX2_cutToRing_4 rfl ?_
  refine ww_iconst (v := nI 1) 6 dX2_cutToRing_5 (by decide) rfl ?_
  refine ww_iadd 7 dX2_cutToRing_6 rfl ?_
  refine ww_aload_n 8 dX2_cutToRing_7 rfl 0 rfl rfl ?_
  refine ww_getI 1 11 dX2_cutToRing_8 wf_X2_21 (show ww_in (21, r0) from (show r0 < 104 by omega)) rfl rfl rfl ?_
  refine ww_ic_ge 43 14 dX2_cutToRing_11 (by decide) rfl (fun c => ?_) (fun c => ?_)
  · replace h := h.1 c
    refine ww_aload_n 44 dX2_cutToRing_43 rfl 0 rfl rfl ?_
    refine ww_getI 1 47 dX2_cutToRing_44 wf_X2_21 (show ww_in (21, r0) from (show r0 < 104 by omega)) rfl rfl rfl ?_
    refine ww_iconst (v := nI 2) 48 dX2_cutToRing_47 (by decide) rfl ?_
    refine ww_iload_n 49 dX2_cutToRing_48 rfl 1 rfl rfl ?_
    refine ww_imul 50 dX2_cutToRing_49 rfl ?_
    refine ww_isub 51 dX2_cutToRing_50 rfl ?_
    refine ww_istore_n 52 dX2_cutToRing_51 rfl 2 rfl (by decide) rfl [some (.inr (.inr (21, r0))), some (.inl x1), some (.inl ((τ (21, r0) 1) - ((nI 2) * x1))), none] rfl ?_
    refine ww_iconst (v := nI 0) 53 dX2_cutToRing_52 (by decide) rfl ?_
    refine ww_istore_n 54 dX2_cutToRing_53 rfl 3 rfl (by decide) rfl [some (.inr (.inr (21, r0))), some (.inl x1), some (.inl ((τ (21, r0) 1) - ((nI 2) * x1))), some (.inl (nI 0))] rfl ?_
    exact h
  · replace h := h.2 c
    refine ww_aload_n 15 dX2_cutToRing_14 rfl 0 rfl rfl ?_
    refine ww_iload_n 16 dX2_cutToRing_15 rfl 1 rfl rfl ?_
    obtain ⟨Q1, hT, h⟩ := h
    refine ww_invVI (d' := mX2_at) [.inl x1] rfl 19 dX2_cutToRing_16 ⟨wi_X2, wc_X2_at, wp_X2_at, by decide, by decide⟩ wl_X2_25 wn_X2_at we_X2_at (show ww_in (21, r0) from (show r0 < 104 by omega)) rfl rfl (Nat.le_of_ble_eq_true rfl) rfl hT (fun v2 τ3 hq => ?_)
    replace h := h v2 τ3 hq
    refine ww_aload_n 20 dX2_cutToRing_19 rfl 0 rfl rfl ?_
    refine ww_aload_n 21 dX2_cutToRing_20 rfl 0 rfl rfl ?_
    refine ww_getI 1 24 dX2_cutToRing_21 wf_X2_21 (show ww_in (21, r0) from (show r0 < 104 by omega)) rfl rfl rfl ?_
    refine ww_iconst (v := nI 1) 25 dX2_cutToRing_24 (by decide) rfl ?_
    refine ww_isub 26 dX2_cutToRing_25 rfl ?_
    refine ww_iload_n 27 dX2_cutToRing_26 rfl 1 rfl rfl ?_
    refine ww_isub 28 dX2_cutToRing_27 rfl ?_
    obtain ⟨Q4, hT, h⟩ := h
    refine ww_invVI (d' := mX2_at) [.inl (((τ3 (21, r0) 1) - (nI 1)) - x1)] rfl 31 dX2_cutToRing_28 ⟨wi_X2, wc_X2_at, wp_X2_at, by decide, by decide⟩ wl_X2_25 wn_X2_at we_X2_at (show ww_in (21, r0) from (show r0 < 104 by omega)) rfl rfl (Nat.le_of_ble_eq_true rfl) rfl hT (fun v5 τ6 hq => ?_)
    replace h := h v5 τ6 hq
    obtain ⟨Q7, hT, h⟩ := h
    refine ww_invSI (d' := mX5_opposite) [.inl v5] rfl 34 dX2_cutToRing_31 ⟨wi_X5, wc_X5_opposite, wp_X5_opposite, by decide, by decide⟩ (Or.inr ⟨"PieceWords", List.mem_of_getElem? (i := 1) rfl⟩) wn_X5_opposite (Nat.le_of_ble_eq_true rfl) rfl hT (fun v8 τ9 hq => ?_)
    replace h := h v8 τ9 hq
    refine ww_ic_ne 43 37 dX2_cutToRing_34 (by decide) rfl (fun c => ?_) (fun c => ?_)
    · replace h := h.1 c
      refine ww_aload_n 44 dX2_cutToRing_43 rfl 0 rfl rfl ?_
      refine ww_getI 1 47 dX2_cutToRing_44 wf_X2_21 (show ww_in (21, r0) from (show r0 < 104 by omega)) rfl rfl rfl ?_
      refine ww_iconst (v := nI 2) 48 dX2_cutToRing_47 (by decide) rfl ?_
      refine ww_iload_n 49 dX2_cutToRing_48 rfl 1 rfl rfl ?_
      refine ww_imul 50 dX2_cutToRing_49 rfl ?_
      refine ww_isub 51 dX2_cutToRing_50 rfl ?_
      refine ww_istore_n 52 dX2_cutToRing_51 rfl 2 rfl (by decide) rfl [some (.inr (.inr (21, r0))), some (.inl x1), some (.inl ((τ9 (21, r0) 1) - ((nI 2) * x1))), none] rfl ?_
      refine ww_iconst (v := nI 0) 53 dX2_cutToRing_52 (by decide) rfl ?_
      refine ww_istore_n 54 dX2_cutToRing_53 rfl 3 rfl (by decide) rfl [some (.inr (.inr (21, r0))), some (.inl x1), some (.inl ((τ9 (21, r0) 1) - ((nI 2) * x1))), some (.inl (nI 0))] rfl ?_
      exact h
    · replace h := h.2 c
      refine ww_iinc (nI 1) 40 1 dX2_cutToRing_37 (by decide) rfl rfl (by decide) rfl [some (.inr (.inr (21, r0))), some (.inl (x1 + nI 1)), none, none] rfl ?_
      refine ww_goto 2 dX2_cutToRing_40 (by decide) ?_
      exact h
theorem b_X2_cutToRing_54 {g : ww_G} {E : ww_E} {τ : ww_M} {r0 : Nat} {x1 : Int32} {x2 : Int32} {x3 : Int32} {Post : ww_M → Prop} (hr0 : r0 < 104) (h : ((x2 ≤ x3 → (∀ τ1 : ww_M, τ1 = ww_up τ (21, r0) 1 x2 → Post τ1)) ∧ (¬ (x2 ≤ x3) → ((nI (ww_cap r0) ≤ x3 + x1 → (∀ τ2 : ww_M, τ2 = ww_up τ (21, r0) 1 x2 → Post τ2)) ∧ (¬ (nI (ww_cap r0) ≤ x3 + x1) → (∃ j3 : Nat, x3 + x1 = nI j3 ∧ j3 < ww_cap r0 ∧ (∃ j4 : Nat, x3 = nI j4 ∧ j4 < ww_cap r0 ∧ ∀ τ5 : ww_M, τ5 = ww_up τ (22, r0) j4 (τ (22, r0) j3) → ww_W g mX2_cutToRing E (ww_QV Post) 54 [some (.inr (.inr (21, r0))), some (.inl x1), some (.inl x2), some (.inl (x3 + nI 1))] [] τ5))))))) : ww_W g mX2_cutToRing E (ww_QV Post) 54 [some (.inr (.inr (21, r0))), some (.inl x1), some (.inl x2), some (.inl x3)] [] τ := by
  refine ww_iload_n 55 dX2_cutToRing_54 rfl 3 rfl rfl ?_
  refine ww_iload_n 56 dX2_cutToRing_55 rfl 2 rfl rfl ?_
  refine ww_ic_ge 90 59 dX2_cutToRing_56 (by decide) rfl (fun c => ?_) (fun c => ?_)
  · replace h := h.1 c
    refine ww_aload_n 91 dX2_cutToRing_90 rfl 0 rfl rfl ?_
    refine ww_iload_n 92 dX2_cutToRing_91 rfl 2 rfl rfl ?_
    refine ww_putI 1 95 dX2_cutToRing_92 wf_X2_21 fp_X2_1 (show ww_in (21, r0) from (show r0 < 104 by omega)) rfl rfl rfl (fun τ1 eτ1 => ?_)
    replace h := h τ1 eτ1
    exact ww_vret dX2_cutToRing_95 rfl ⟨rfl, h⟩
  · replace h := h.2 c
    refine ww_iload_n 60 dX2_cutToRing_59 rfl 3 rfl rfl ?_
    refine ww_iload_n 61 dX2_cutToRing_60 rfl 1 rfl rfl ?_
    refine ww_iadd 62 dX2_cutToRing_61 rfl ?_
    refine ww_aload_n 63 dX2_cutToRing_62 rfl 0 rfl rfl ?_
    refine ww_getR 0 66 dX2_cutToRing_63 wf_X2_15 (show ww_in (21, r0) from (show r0 < 104 by omega)) rfl rfl rfl ?_
    refine ww_alnI 67 dX2_cutToRing_66 (show ww_in (22, r0) from (show r0 < 104 by omega)) rfl rfl ?_
    refine ww_ic_ge 90 70 dX2_cutToRing_67 (by decide) rfl (fun c => ?_) (fun c => ?_)
    · replace h := h.1 c
      refine ww_aload_n 91 dX2_cutToRing_90 rfl 0 rfl rfl ?_
      refine ww_iload_n 92 dX2_cutToRing_91 rfl 2 rfl rfl ?_
      refine ww_putI 1 95 dX2_cutToRing_92 wf_X2_21 fp_X2_1 (show ww_in (21, r0) from (show r0 < 104 by omega)) rfl rfl rfl (fun τ2 eτ2 => ?_)
      replace h := h τ2 eτ2
      exact ww_vret dX2_cutToRing_95 rfl ⟨rfl, h⟩
    · replace h := h.2 c
      refine ww_aload_n 71 dX2_cutToRing_70 rfl 0 rfl rfl ?_
      refine ww_getR 0 74 dX2_cutToRing_71 wf_X2_15 (show ww_in (21, r0) from (show r0 < 104 by omega)) rfl rfl rfl ?_
      refine ww_iload_n 75 dX2_cutToRing_74 rfl 3 rfl rfl ?_
      refine ww_aload_n 76 dX2_cutToRing_75 rfl 0 rfl rfl ?_
      refine ww_getR 0 79 dX2_cutToRing_76 wf_X2_15 (show ww_in (21, r0) from (show r0 < 104 by omega)) rfl rfl rfl ?_
      refine ww_iload_n 80 dX2_cutToRing_79 rfl 3 rfl rfl ?_
      refine ww_iload_n 81 dX2_cutToRing_80 rfl 1 rfl rfl ?_
      refine ww_iadd 82 dX2_cutToRing_81 rfl ?_
      obtain ⟨j3, hij3, hj3, h⟩ := h
      refine ww_iald j3 83 dX2_cutToRing_82 (show ww_in (22, r0) from (show r0 < 104 by omega)) rfl (ww_cap_lt _) hij3 hj3 rfl ?_
      obtain ⟨j4, hij4, hj4, h⟩ := h
      refine ww_iast j4 84 dX2_cutToRing_83 (show ww_in (22, r0) from (show r0 < 104 by omega)) rfl (ww_cap_lt _) hij4 hj4 rfl (fun τ5 eτ5 => ?_)
      replace h := h τ5 eτ5
      refine ww_iinc (nI 1) 87 3 dX2_cutToRing_84 (by decide) rfl rfl (by decide) rfl [some (.inr (.inr (21, r0))), some (.inl x1), some (.inl x2), some (.inl (x3 + nI 1))] rfl ?_
      refine ww_goto 54 dX2_cutToRing_87 (by decide) ?_
      exact h
theorem b_X2_likeFrom {l : Launch} {g : ww_G} {τ : ww_M} {r0 : Nat} {a1 : Int32} {r2 : Nat} {Post : Int32 → ww_M → Prop} (hr0 : r0 < 104) (hr2 : r2 < 104) (h : ∀ E : ww_E, ((nI 0 ≤ a1 → ww_W g mX2_likeFrom E (ww_QI Post) 23 [some (.inr (.inr (21, r0))), some (.inl a1), some (.inr (.inr (21, r2))), some (.inl (if τ (21, r2) 1 < (τ (21, r0) 1) - a1 then τ (21, r2) 1 else (τ (21, r0) 1) - a1)), some (.inl (nI 0))] [] τ) ∧ (¬ (nI 0 ≤ a1) → Post (nI 0) τ))) : ww_T l g mX2_likeFrom [.inr (.inr (21, r0)), .inl a1, .inr (.inr (21, r2))] τ (ww_QI Post) := by
  refine ww_enter (P := [some (.inr (.inr (21, r0))), some (.inl a1), some (.inr (.inr (21, r2))), none, none]) (by decide) (Nat.le_of_ble_eq_true rfl) rfl (fun E => ?_)
  replace h := h E
  refine ww_iload_n 1 dX2_likeFrom_0 rfl 1 rfl rfl ?_
  refine ww_if_ge 6 4 dX2_likeFrom_1 (by decide) rfl (fun c => ?_) (fun c => ?_)
  · replace h := h.1 c
    refine ww_aload_n 7 dX2_likeFrom_6 rfl 0 rfl rfl ?_
    refine ww_getI 1 10 dX2_likeFrom_7 wf_X2_21 (show ww_in (21, r0) from (show r0 < 104 by omega)) rfl rfl rfl ?_
    refine ww_iload_n 11 dX2_likeFrom_10 rfl 1 rfl rfl ?_
    refine ww_isub 12 dX2_likeFrom_11 rfl ?_
    refine ww_aload_n 13 dX2_likeFrom_12 rfl 2 rfl rfl ?_
    refine ww_getI 1 16 dX2_likeFrom_13 wf_X2_21 (show ww_in (21, r2) from (show r2 < 104 by omega)) rfl rfl rfl ?_
    refine ww_mmin 19 dX2_likeFrom_16 wl_X2_32 ws_Math_min wi_J9 wc_Math_min (by decide) (Nat.le_of_ble_eq_true rfl) rfl ?_
    refine ww_istore_n 20 dX2_likeFrom_19 rfl 3 rfl (by decide) rfl [some (.inr (.inr (21, r0))), some (.inl a1), some (.inr (.inr (21, r2))), some (.inl (if τ (21, r2) 1 < (τ (21, r0) 1) - a1 then τ (21, r2) 1 else (τ (21, r0) 1) - a1)), none] rfl ?_
    refine ww_iconst (v := nI 0) 21 dX2_likeFrom_20 (by decide) rfl ?_
    refine ww_istore 23 4 dX2_likeFrom_21 rfl (by decide) rfl [some (.inr (.inr (21, r0))), some (.inl a1), some (.inr (.inr (21, r2))), some (.inl (if τ (21, r2) 1 < (τ (21, r0) 1) - a1 then τ (21, r2) 1 else (τ (21, r0) 1) - a1)), some (.inl (nI 0))] rfl ?_
    exact h
  · replace h := h.2 c
    refine ww_iconst (v := nI 0) 5 dX2_likeFrom_4 (by decide) rfl ?_
    exact ww_iret dX2_likeFrom_5 rfl ⟨_, rfl, h⟩
theorem b_X2_likeFrom_23 {g : ww_G} {E : ww_E} {τ : ww_M} {r0 : Nat} {x1 : Int32} {r2 : Nat} {x3 : Int32} {x4 : Int32} {Post : Int32 → ww_M → Prop} (hr0 : r0 < 104) (hr2 : r2 < 104) (h : ((x3 ≤ x4 → Post x4 τ) ∧ (¬ (x3 ≤ x4) → (∃ Q1 : Int32 → ww_M → Prop, ww_T E.2.1 g mX2_at [.inr (.inr (21, r0)), .inl (x1 + x4)] τ (ww_QI Q1) ∧ ∀ (v2 : Int32) (τ3 : ww_M), Q1 v2 τ3 → (∃ Q4 : Int32 → ww_M → Prop, ww_T E.2.1 g mX2_at [.inr (.inr (21, r2)), .inl x4] τ3 (ww_QI Q4) ∧ ∀ (v5 : Int32) (τ6 : ww_M), Q4 v5 τ6 → (¬ v2 = v5 → Post x4 τ6) ∧ (v2 = v5 → ww_W g mX2_likeFrom E (ww_QI Post) 23 [some (.inr (.inr (21, r0))), some (.inl x1), some (.inr (.inr (21, r2))), some (.inl x3), some (.inl (x4 + nI 1))] [] τ6)))))) : ww_W g mX2_likeFrom E (ww_QI Post) 23 [some (.inr (.inr (21, r0))), some (.inl x1), some (.inr (.inr (21, r2))), some (.inl x3), some (.inl x4)] [] τ := by
  refine ww_iload 25 4 dX2_likeFrom_23 rfl rfl ?_
  refine ww_iload_n 26 dX2_likeFrom_25 rfl 3 rfl rfl ?_
  refine ww_ic_ge 52 29 dX2_likeFrom_26 (by decide) rfl (fun c => ?_) (fun c => ?_)
  · replace h := h.1 c
    refine ww_iload 54 4 dX2_likeFrom_52 rfl rfl ?_
    exact ww_iret dX2_likeFrom_54 rfl ⟨_, rfl, h⟩
  · replace h := h.2 c
    refine ww_aload_n 30 dX2_likeFrom_29 rfl 0 rfl rfl ?_
    refine ww_iload_n 31 dX2_likeFrom_30 rfl 1 rfl rfl ?_
    refine ww_iload 33 4 dX2_likeFrom_31 rfl rfl ?_
    refine ww_iadd 34 dX2_likeFrom_33 rfl ?_
    obtain ⟨Q1, hT, h⟩ := h
    refine ww_invVI (d' := mX2_at) [.inl (x1 + x4)] rfl 37 dX2_likeFrom_34 ⟨wi_X2, wc_X2_at, wp_X2_at, by decide, by decide⟩ wl_X2_25 wn_X2_at we_X2_at (show ww_in (21, r0) from (show r0 < 104 by omega)) rfl rfl (Nat.le_of_ble_eq_true rfl) rfl hT (fun v2 τ3 hq => ?_)
    replace h := h v2 τ3 hq
    refine ww_aload_n 38 dX2_likeFrom_37 rfl 2 rfl rfl ?_
    refine ww_iload 40 4 dX2_likeFrom_38 rfl rfl ?_
    obtain ⟨Q4, hT, h⟩ := h
    refine ww_invVI (d' := mX2_at) [.inl x4] rfl 43 dX2_likeFrom_40 ⟨wi_X2, wc_X2_at, wp_X2_at, by decide, by decide⟩ wl_X2_25 wn_X2_at we_X2_at (show ww_in (21, r2) from (show r2 < 104 by omega)) rfl rfl (Nat.le_of_ble_eq_true rfl) rfl hT (fun v5 τ6 hq => ?_)
    replace h := h v5 τ6 hq
    refine ww_ic_ne 52 46 dX2_likeFrom_43 (by decide) rfl (fun c => ?_) (fun c => ?_)
    · replace h := h.1 c
      refine ww_iload 54 4 dX2_likeFrom_52 rfl rfl ?_
      exact ww_iret dX2_likeFrom_54 rfl ⟨_, rfl, h⟩
    · replace h := h.2 c
      refine ww_iinc (nI 1) 49 4 dX2_likeFrom_46 (by decide) rfl rfl (by decide) rfl [some (.inr (.inr (21, r0))), some (.inl x1), some (.inr (.inr (21, r2))), some (.inl x3), some (.inl (x4 + nI 1))] rfl ?_
      refine ww_goto 23 dX2_likeFrom_49 (by decide) ?_
      exact h
theorem b_X2_surplusOf {l : Launch} {g : ww_G} {τ : ww_M} {r0 : Nat} {a1 : Int32} {Post : Int32 → ww_M → Prop} (hr0 : r0 < 104) (h : ∀ E : ww_E, ww_W g mX2_surplusOf E (ww_QI Post) 4 [some (.inr (.inr (21, r0))), some (.inl a1), some (.inl (nI 0)), some (.inl (nI 0))] [] τ) : ww_T l g mX2_surplusOf [.inr (.inr (21, r0)), .inl a1] τ (ww_QI Post) := by
  refine ww_enter (P := [some (.inr (.inr (21, r0))), some (.inl a1), none, none]) (by decide) (Nat.le_of_ble_eq_true rfl) rfl (fun E => ?_)
  replace h := h E
  refine ww_iconst (v := nI 0) 1 dX2_surplusOf_0 (by decide) rfl ?_
  refine ww_istore_n 2 dX2_surplusOf_1 rfl 2 rfl (by decide) rfl [some (.inr (.inr (21, r0))), some (.inl a1), some (.inl (nI 0)), none] rfl ?_
  refine ww_iconst (v := nI 0) 3 dX2_surplusOf_2 (by decide) rfl ?_
  refine ww_istore_n 4 dX2_surplusOf_3 rfl 3 rfl (by decide) rfl [some (.inr (.inr (21, r0))), some (.inl a1), some (.inl (nI 0)), some (.inl (nI 0))] rfl ?_
  exact h
theorem b_X2_surplusOf_4 {g : ww_G} {E : ww_E} {τ : ww_M} {r0 : Nat} {x1 : Int32} {x2 : Int32} {x3 : Int32} {Post : Int32 → ww_M → Prop} (hr0 : r0 < 104) (h : ((τ (21, r0) 1 ≤ x3 → Post x2 τ) ∧ (¬ (τ (21, r0) 1 ≤ x3) → (∃ Q1 : Int32 → ww_M → Prop, ww_T E.2.1 g mX2_at [.inr (.inr (21, r0)), .inl x3] τ (ww_QI Q1) ∧ ∀ (v2 : Int32) (τ3 : ww_M), Q1 v2 τ3 → (¬ v2 = x1 → (∃ Q4 : Int32 → ww_M → Prop, ww_T E.2.1 g mX2_at [.inr (.inr (21, r0)), .inl x3] τ3 (ww_QI Q4) ∧ ∀ (v5 : Int32) (τ6 : ww_M), Q4 v5 τ6 → (∃ Q7 : Int32 → ww_M → Prop, ww_T E.2.1 g mX5_opposite [.inl x1] τ6 (ww_QI Q7) ∧ ∀ (v8 : Int32) (τ9 : ww_M), Q7 v8 τ9 → (¬ v5 = v8 → ww_W g mX2_surplusOf E (ww_QI Post) 4 [some (.inr (.inr (21, r0))), some (.inl x1), some (.inl x2), some (.inl (x3 + nI 1))] [] τ9) ∧ (v5 = v8 → ww_W g mX2_surplusOf E (ww_QI Post) 4 [some (.inr (.inr (21, r0))), some (.inl x1), some (.inl (x2 + (-1 : Int32))), some (.inl (x3 + nI 1))] [] τ9)))) ∧ (v2 = x1 → ww_W g mX2_surplusOf E (ww_QI Post) 4 [some (.inr (.inr (21, r0))), some (.inl x1), some (.inl (x2 + nI 1)), some (.inl (x3 + nI 1))] [] τ3))))) : ww_W g mX2_surplusOf E (ww_QI Post) 4 [some (.inr (.inr (21, r0))), some (.inl x1), some (.inl x2), some (.inl x3)] [] τ := by
  refine ww_iload_n 5 dX2_surplusOf_4 rfl 3 rfl rfl ?_
  refine ww_aload_n 6 dX2_surplusOf_5 rfl 0 rfl rfl ?_
  refine ww_getI 1 9 dX2_surplusOf_6 wf_X2_21 (show ww_in (21, r0) from (show r0 < 104 by omega)) rfl rfl rfl ?_
  refine ww_ic_ge 48 12 dX2_surplusOf_9 (by decide) rfl (fun c => ?_) (fun c => ?_)
  · replace h := h.1 c
    refine ww_iload_n 49 dX2_surplusOf_48 rfl 2 rfl rfl ?_
    exact ww_iret dX2_surplusOf_49 rfl ⟨_, rfl, h⟩
  · replace h := h.2 c
    refine ww_aload_n 13 dX2_surplusOf_12 rfl 0 rfl rfl ?_
    refine ww_iload_n 14 dX2_surplusOf_13 rfl 3 rfl rfl ?_
    obtain ⟨Q1, hT, h⟩ := h
    refine ww_invVI (d' := mX2_at) [.inl x3] rfl 17 dX2_surplusOf_14 ⟨wi_X2, wc_X2_at, wp_X2_at, by decide, by decide⟩ wl_X2_25 wn_X2_at we_X2_at (show ww_in (21, r0) from (show r0 < 104 by omega)) rfl rfl (Nat.le_of_ble_eq_true rfl) rfl hT (fun v2 τ3 hq => ?_)
    replace h := h v2 τ3 hq
    refine ww_iload_n 18 dX2_surplusOf_17 rfl 1 rfl rfl ?_
    refine ww_ic_ne 27 21 dX2_surplusOf_18 (by decide) rfl (fun c => ?_) (fun c => ?_)
    · replace h := h.1 c
      refine ww_aload_n 28 dX2_surplusOf_27 rfl 0 rfl rfl ?_
      refine ww_iload_n 29 dX2_surplusOf_28 rfl 3 rfl rfl ?_
      obtain ⟨Q4, hT, h⟩ := h
      refine ww_invVI (d' := mX2_at) [.inl x3] rfl 32 dX2_surplusOf_29 ⟨wi_X2, wc_X2_at, wp_X2_at, by decide, by decide⟩ wl_X2_25 wn_X2_at we_X2_at (show ww_in (21, r0) from (show r0 < 104 by omega)) rfl rfl (Nat.le_of_ble_eq_true rfl) rfl hT (fun v5 τ6 hq => ?_)
      replace h := h v5 τ6 hq
      refine ww_iload_n 33 dX2_surplusOf_32 rfl 1 rfl rfl ?_
      obtain ⟨Q7, hT, h⟩ := h
      refine ww_invSI (d' := mX5_opposite) [.inl x1] rfl 36 dX2_surplusOf_33 ⟨wi_X5, wc_X5_opposite, wp_X5_opposite, by decide, by decide⟩ (Or.inr ⟨"PieceWords", List.mem_of_getElem? (i := 1) rfl⟩) wn_X5_opposite (Nat.le_of_ble_eq_true rfl) rfl hT (fun v8 τ9 hq => ?_)
      replace h := h v8 τ9 hq
      refine ww_ic_ne 42 39 dX2_surplusOf_36 (by decide) rfl (fun c => ?_) (fun c => ?_)
      · replace h := h.1 c
        refine ww_iinc (nI 1) 45 3 dX2_surplusOf_42 (by decide) rfl rfl (by decide) rfl [some (.inr (.inr (21, r0))), some (.inl x1), some (.inl x2), some (.inl (x3 + nI 1))] rfl ?_
        refine ww_goto 4 dX2_surplusOf_45 (by decide) ?_
        exact h
      · replace h := h.2 c
        refine ww_iinc (-1 : Int32) 42 2 dX2_surplusOf_39 (by decide) rfl rfl (by decide) rfl [some (.inr (.inr (21, r0))), some (.inl x1), some (.inl (x2 + (-1 : Int32))), some (.inl x3)] rfl ?_
        refine ww_iinc (nI 1) 45 3 dX2_surplusOf_42 (by decide) rfl rfl (by decide) rfl [some (.inr (.inr (21, r0))), some (.inl x1), some (.inl (x2 + (-1 : Int32))), some (.inl (x3 + nI 1))] rfl ?_
        refine ww_goto 4 dX2_surplusOf_45 (by decide) ?_
        exact h
    · replace h := h.2 c
      refine ww_iinc (nI 1) 24 2 dX2_surplusOf_21 (by decide) rfl rfl (by decide) rfl [some (.inr (.inr (21, r0))), some (.inl x1), some (.inl (x2 + nI 1)), some (.inl x3)] rfl ?_
      refine ww_goto 42 dX2_surplusOf_24 (by decide) ?_
      refine ww_iinc (nI 1) 45 3 dX2_surplusOf_42 (by decide) rfl rfl (by decide) rfl [some (.inr (.inr (21, r0))), some (.inl x1), some (.inl (x2 + nI 1)), some (.inl (x3 + nI 1))] rfl ?_
      refine ww_goto 4 dX2_surplusOf_45 (by decide) ?_
      exact h
theorem b_X5_opposite {l : Launch} {g : ww_G} {τ : ww_M} {a0 : Int32} {Post : Int32 → ww_M → Prop}  (h : ∀ E : ww_E, ((nI 4 ≤ a0 → Post (a0 - (nI 4)) τ) ∧ (¬ (nI 4 ≤ a0) → Post (a0 + (nI 4)) τ))) : ww_T l g mX5_opposite [.inl a0] τ (ww_QI Post) := by
  refine ww_enter (P := [some (.inl a0)]) (by decide) (Nat.le_of_ble_eq_true rfl) rfl (fun E => ?_)
  replace h := h E
  refine ww_iload_n 1 dX5_opposite_0 rfl 0 rfl rfl ?_
  refine ww_iconst (v := nI 4) 2 dX5_opposite_1 (by decide) rfl ?_
  refine ww_ic_ge 11 5 dX5_opposite_2 (by decide) rfl (fun c => ?_) (fun c => ?_)
  · replace h := h.1 c
    refine ww_iload_n 12 dX5_opposite_11 rfl 0 rfl rfl ?_
    refine ww_iconst (v := nI 4) 13 dX5_opposite_12 (by decide) rfl ?_
    refine ww_isub 14 dX5_opposite_13 rfl ?_
    exact ww_iret dX5_opposite_14 rfl ⟨_, rfl, h⟩
  · replace h := h.2 c
    refine ww_iload_n 6 dX5_opposite_5 rfl 0 rfl rfl ?_
    refine ww_iconst (v := nI 4) 7 dX5_opposite_6 (by decide) rfl ?_
    refine ww_iadd 8 dX5_opposite_7 rfl ?_
    refine ww_goto 14 dX5_opposite_8 (by decide) ?_
    exact ww_iret dX5_opposite_14 rfl ⟨_, rfl, h⟩
theorem b_J9_floorMod_7cf53 {l : Launch} {g : ww_G} {τ : ww_M} {a0 : Int32} {a1 : Int32} {Post : Int32 → ww_M → Prop}  (h : ∀ E : ww_E, (¬ a1 = nI 0 ∧ (nI 0 ≤ a0 ^^^ a1 → Post (a0 - a0 / a1 * a1) τ) ∧ (¬ (nI 0 ≤ a0 ^^^ a1) → ((a0 - a0 / a1 * a1 = nI 0 → Post (a0 - a0 / a1 * a1) τ) ∧ (¬ a0 - a0 / a1 * a1 = nI 0 → Post ((a0 - a0 / a1 * a1) + a1) τ))))) : ww_T l g mJ9_floorMod_7cf53 [.inl a0, .inl a1] τ (ww_QI Post) := by
  refine ww_enterF (P := [some (.inl a0), some (.inl a1), none]) (by decide +kernel) (Nat.le_of_ble_eq_true rfl) rfl (fun E => ?_)
  replace h := h E
  refine ww_iload_n 1 dJ9_floorMod_7cf53_0 rfl 0 rfl rfl ?_
  refine ww_iload_n 2 dJ9_floorMod_7cf53_1 rfl 1 rfl rfl ?_
  obtain ⟨hz1, h⟩ := h
  refine ww_irem 3 dJ9_floorMod_7cf53_2 rfl hz1 ?_
  refine ww_istore_n 4 dJ9_floorMod_7cf53_3 rfl 2 rfl (by decide) rfl [some (.inl a0), some (.inl a1), some (.inl (a0 - a0 / a1 * a1))] rfl ?_
  refine ww_iload_n 5 dJ9_floorMod_7cf53_4 rfl 0 rfl rfl ?_
  refine ww_iload_n 6 dJ9_floorMod_7cf53_5 rfl 1 rfl rfl ?_
  refine ww_ixor 7 dJ9_floorMod_7cf53_6 rfl ?_
  refine ww_if_ge 18 10 dJ9_floorMod_7cf53_7 (by decide) rfl (fun c => ?_) (fun c => ?_)
  · replace h := h.1 c
    refine ww_iload_n 19 dJ9_floorMod_7cf53_18 rfl 2 rfl rfl ?_
    exact ww_iret dJ9_floorMod_7cf53_19 rfl ⟨_, rfl, h⟩
  · replace h := h.2 c
    refine ww_iload_n 11 dJ9_floorMod_7cf53_10 rfl 2 rfl rfl ?_
    refine ww_if_eq 18 14 dJ9_floorMod_7cf53_11 (by decide) rfl (fun c => ?_) (fun c => ?_)
    · replace h := h.1 c
      refine ww_iload_n 19 dJ9_floorMod_7cf53_18 rfl 2 rfl rfl ?_
      exact ww_iret dJ9_floorMod_7cf53_19 rfl ⟨_, rfl, h⟩
    · replace h := h.2 c
      refine ww_iload_n 15 dJ9_floorMod_7cf53_14 rfl 2 rfl rfl ?_
      refine ww_iload_n 16 dJ9_floorMod_7cf53_15 rfl 1 rfl rfl ?_
      refine ww_iadd 17 dJ9_floorMod_7cf53_16 rfl ?_
      exact ww_iret dJ9_floorMod_7cf53_17 rfl ⟨_, rfl, h⟩
