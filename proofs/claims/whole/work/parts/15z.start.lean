/-! ===== both objects, as they begin; one's calls leave the other as it was ===== -/
theorem zC.low {s : zS} {R : Nat → List Nat} {τ τ' : ww_M} (h : zC s R τ) (hl : zLow τ τ') : zC s R τ' := by
  obtain ⟨h1, h2, h3, h4, h5, h6, h7, h8, h9⟩ := h
  refine ⟨h1, h2.keep (fun n hn => hl n (by omega)), h3, h4.keep (fun n hn => hl n (by omega)) (fun _ _ => rfl), ⟨h5.1, by rw [hl _ (by decide)]; exact h5.2.1, fun k hk => by rw [hl _ (by decide)]; exact h5.2.2.1 k hk, h5.2.2.2⟩, by rw [hl _ (by decide)]; exact h6, by rw [hl _ (by decide)]; exact h7, by rw [hl _ (by decide)]; exact h8, by rw [hl _ (by decide)]; exact h9⟩
theorem zM.hi {s : zS} {τ τ' : ww_M} (h : zM s τ) (hh : zHi τ τ') : zM s τ' := by
  obtain ⟨h1, h2, h3, h4, h5, h6, h7, h8, h9⟩ := h
  refine ⟨h1, fun w hw => ⟨by rw [hh _ (by decide)]; exact (h2 w hw).1, fun k hk => by rw [hh _ (by decide)]; exact (h2 w hw).2 k hk⟩, ⟨by rw [hh _ (by decide)]; exact h3.1, fun k hk => by rw [hh _ (by decide)]; exact h3.2 k hk⟩, ⟨by rw [hh _ (by decide)]; exact h4.1, fun r hr => ⟨by rw [hh _ (by decide)]; exact (h4.2 r hr).1, fun k hk => by rw [hh _ (by decide)]; exact (h4.2 r hr).2 k hk⟩⟩, ⟨by rw [hh _ (by decide)]; exact h5.1, fun m hm => ⟨⟨by rw [hh _ (by decide)]; exact (h5.2 m hm).1.1, fun k hk => by rw [hh _ (by decide)]; exact (h5.2 m hm).1.2 k hk⟩, by rw [hh _ (by decide)]; exact (h5.2 m hm).2⟩⟩, by rw [hh _ (by decide)]; exact h6, by rw [hh _ (by decide)]; exact h7, by rw [hh _ (by decide)]; exact h8, by rw [hh _ (by decide)]; exact h9⟩
def s0 : zS := (fun _ => [], [], [], 0, 0, 0, 0)
def τ0 : ww_M := fun n k => if n = (8, 0) ∧ k = 7 then nI 14 else nI 0
theorem s0_wf : zWF s0 := ⟨fun w _ => ⟨Nat.zero_le _, zok_nil, zred_nil⟩, Nat.zero_le _, fun x hx => absurd hx List.not_mem_nil, Nat.zero_le _, fun r hr => absurd hr (Nat.not_lt_zero _), by decide⟩
theorem τ0_n {n : ww_N} {k : Nat} (h : n ≠ (8, 0)) : τ0 n k = nI 0 := if_neg (fun q => h q.1)
theorem τ0_k {n : ww_N} {k : Nat} (h : k ≠ 7) : τ0 n k = nI 0 := if_neg (fun q => h q.2)
theorem zC_0 : zC s0 (fun _ => []) τ0 := by
  refine ⟨s0_wf, fun r hr => ⟨Nat.zero_le _, τ0_k (by decide), fun k hk => absurd hk (Nat.not_lt_zero _), zok_nil⟩, fun w hw => rfl, ⟨⟨Nat.zero_le _, τ0_k (by decide), fun r hr => absurd hr (Nat.not_lt_zero _)⟩, ⟨Nat.zero_le _, τ0_k (by decide), fun r hr => absurd hr (Nat.not_lt_zero _)⟩, fun a ha => ⟨τ0_n (by decide), fun k hk => absurd hk (Nat.not_lt_zero _)⟩, if_pos ⟨rfl, rfl⟩, fun m hm => absurd hm (Nat.not_lt_zero _), fun r hr => absurd hr (Nat.not_lt_zero _), fun r hr => absurd hr (Nat.not_lt_zero _)⟩, ⟨Nat.zero_le _, τ0_n (by decide), fun k hk => absurd hk (Nat.not_lt_zero _), fun x hx => absurd hx List.not_mem_nil⟩, τ0_n (by decide), τ0_n (by decide), τ0_n (by decide), τ0_n (by decide)⟩
theorem zM_0 : zM s0 τ0 := by
  refine ⟨s0_wf, fun w hw => ⟨τ0_n (by decide), fun k hk => absurd hk (Nat.not_lt_zero _)⟩, ⟨τ0_n (by decide), fun k hk => absurd hk (Nat.not_lt_zero _)⟩, ⟨τ0_n (by decide), fun r hr => absurd hr (Nat.not_lt_zero _)⟩, ⟨τ0_n (by decide), fun m hm => absurd hm (Nat.not_lt_zero _)⟩, τ0_n (by decide), τ0_n (by decide), τ0_n (by decide), τ0_n (by decide)⟩
