/-! ===== PieceWords' methods answer as told ===== -/
theorem zpow_len (xs : List Nat) : ∀ n, (zpow xs n).length ≤ n * xs.length
  | 0 => Nat.zero_le _
  | n + 1 => by
    have := zpow_len xs n
    have h2 := zpushs_len (ys := xs) (zpow xs n)
    rw [zpow, Nat.succ_mul]; omega
theorem zpow_ok {xs : List Nat} (h : zok xs) : ∀ n, zok (zpow xs n)
  | 0 => fun x hx => absurd hx List.not_mem_nil
  | n + 1 => zok_pushs (zpow_ok h n) h
theorem zpow_red {xs : List Nat} (h : zok xs) : ∀ n, zred (zpow xs n)
  | 0 => zred_nil
  | n + 1 => zred_pushs (zpow_red h n) (zpow_ok h n) h
theorem zpwn : ∀ k, k < 19 → (if nI 9 < (if 0 ≤ nI k - nI 9 then nI k - nI 9 else 0 - (nI k - nI 9)) then nI 9 else (if 0 ≤ nI k - nI 9 then nI k - nI 9 else 0 - (nI k - nI 9))) = nI (if k < 9 then 9 - k else k - 9) ∧ ((nI k - nI 9 ≤ nI 0) ↔ k ≤ 9) ∧ ¬ nI k - nI 9 < (-9 : Int32) ∧ ¬ nI 9 < nI k - nI 9 := by decide
theorem zpw_of {b : Int32} {k : Nat} (h : b + nI 9 = nI k) : b = nI k - nI 9 := by rw [← h, Int32.add_sub_cancel]
section MAIN
variable {l : Launch} {g : ww_G} {τ : ww_M} {R : Nat → List Nat} {s : zS}
theorem cw_clear (hC : zC s R τ) : ww_T l g mX5_clear [.inr (.inr (0, 0))] τ (ww_QI (zCQ τ (aClear s))) := by
  obtain ⟨h1, h2, h3, h4, h5, h6, h7, h8, h9⟩ := id hC
  refine b_X5_clear (fun E τ1 e1 => ⟨h5.2.1, ⟨R, ?_⟩, fun n hn => by rw [e1]; exact ww_up_f (fun e => by rw [e] at hn; exact absurd hn (by decide))⟩)
  have ho : ∀ n : ww_N, n ≠ (2, 0) → τ1 n = τ n := fun n hn => by rw [e1]; exact ww_up_f hn
  refine ⟨⟨h1.1, Nat.zero_le _, fun x hx => absurd hx List.not_mem_nil, h1.2.2.2⟩, h2.keep (fun n hn => ho n (fun e => by rw [e] at hn; revert hn; decide)), h3, h4.keep (fun n hn => ho n (fun e => by rw [e] at hn; revert hn; decide)) (fun _ _ => rfl), ⟨Nat.zero_le _, by rw [e1, ww_up_s]; rfl, fun k hk => absurd hk (Nat.not_lt_zero k), fun x hx => absurd hx List.not_mem_nil⟩, by rw [ho _ (by decide)]; exact h6, by rw [ho _ (by decide)]; exact h7, by rw [ho _ (by decide)]; exact h8, by rw [ho _ (by decide)]; exact h9⟩
theorem cw_type (hC : zC s R τ) (a : Int32) : ww_T l g mX5_type [.inr (.inr (0, 0)), .inl a] τ (ww_QI (zCQ τ (aType s a))) := by
  obtain ⟨h1, h2, h3, h4, h5, h6, h7, h8, h9⟩ := id hC
  rcases zn_cases a 128 (by decide) with ⟨c, hc, rfl, hz⟩ | ⟨hz, hr⟩
  · refine b_X5_type (fun E => ⟨fun c1 => ?_, fun _ => ⟨fun _ => ⟨_, s_accept h5 hc, ?_⟩, fun c1 => ?_⟩⟩)
    · rw [zlt (by omega) (by omega)] at c1; omega
    · rintro v5 τ6 (⟨k1, rfl, rfl⟩ | ⟨k1, rfl, k2, k3⟩)
      · exact ⟨fun _ => r_full hC (zHi.rf _) (by simp only [aType, hz]; rw [if_neg k1]), fun c => absurd rfl c⟩
      · refine ⟨fun c => absurd c (by decide), fun _ => ?_⟩
        simp only [aType, hz]
        rw [if_pos k1]
        refine ⟨by rw [k2.2.1, List.length_append]; rfl, ⟨R, ⟨h1.1, k2.1, k2.2.2.2, h1.2.2.2⟩, h2.keep (fun n hn => k3 n (fun e => by rw [e] at hn; revert hn; decide) (fun e => by rw [e] at hn; revert hn; decide)), h3, h4.keep (fun n hn => k3 n (fun e => by rw [e] at hn; revert hn; decide) (fun e => by rw [e] at hn; revert hn; decide)) (fun _ _ => rfl), k2, by rw [k3 _ (by decide) (by decide)]; exact h6, by rw [k3 _ (by decide) (by decide)]; exact h7, by rw [k3 _ (by decide) (by decide)]; exact h8, by rw [k3 _ (by decide) (by decide)]; exact h9⟩, fun n hn => k3 n (fun e => by rw [e] at hn; exact absurd hn (by decide)) (fun e => by rw [e] at hn; exact absurd hn (by decide))⟩
    · rw [zle (by omega) (by omega)] at c1; omega
  · have e : aType s a = zbad s := by simp only [aType, hz]
    refine b_X5_type (fun E => ⟨fun _ => r_bad hC (zHi.rf _) e, fun c1 => ⟨fun c2 => ?_, fun _ => r_bad hC (zHi.rf _) e⟩⟩)
    exfalso
    rcases hr with q | q
    · exact c1 q
    · rw [Int32.le_iff_toInt_le] at c2 q
      rw [nI_toInt (by omega)] at c2 q
      omega
theorem cw_chooser (hC : zC s R τ) (a : Int32) : ww_T l g mX5_chooser [.inr (.inr (0, 0)), .inl a] τ (ww_QI (zCQ τ (aChooser s a))) := by
  obtain ⟨h1, h2, h3, h4, h5, h6, h7, h8, h9⟩ := id hC
  rcases zn_cases a 5 (by decide) with ⟨c, hc, rfl, hz⟩ | ⟨hz, hr⟩
  · refine b_X5_chooser (fun E => ⟨fun c1 => ?_, fun _ => ⟨fun _ τ4 e4 => ?_, fun c1 => ?_⟩⟩)
    · rw [zlt (by omega) (by omega)] at c1; omega
    · simp only [aChooser, hz]
      have ho : ∀ n : ww_N, n ≠ (20, 0) → τ4 n = τ n := fun n hn => by rw [e4]; exact ww_up_f hn
      refine ⟨h6, ⟨R, ⟨h1.1, h1.2.1, h1.2.2.1, h1.2.2.2.1, h1.2.2.2.2.1, hc⟩, h2.keep (fun n hn => ho n (fun e => by rw [e] at hn; revert hn; decide)), h3, h4.keep (fun n hn => ho n (fun e => by rw [e] at hn; revert hn; decide)) (fun _ _ => rfl), ⟨h5.1, by rw [ho _ (by decide)]; exact h5.2.1, fun k hk => by rw [ho _ (by decide)]; exact h5.2.2.1 k hk, h5.2.2.2⟩, by rw [e4, ww_up_s]; rfl, by rw [ho _ (by decide)]; exact h7, by rw [ho _ (by decide)]; exact h8, by rw [ho _ (by decide)]; exact h9⟩, fun n hn => ho n (fun e => by rw [e] at hn; exact absurd hn (by decide))⟩
    · rw [zle (by omega) (by omega)] at c1; omega
  · have e : aChooser s a = zbad s := by simp only [aChooser, hz]
    refine b_X5_chooser (fun E => ⟨fun _ => r_bad hC (zHi.rf _) e, fun c1 => ⟨fun c2 => ?_, fun _ => r_bad hC (zHi.rf _) e⟩⟩)
    exfalso
    rcases hr with q | q
    · exact c1 q
    · rw [Int32.le_iff_toInt_le] at c2 q
      rw [nI_toInt (by omega)] at c2 q
      omega
theorem zCQ.same {v : Int32} (hC : zC s R τ) : zCQ τ (v, s) v τ := ⟨rfl, ⟨R, hC⟩, zHi.rf τ⟩
theorem zCQ.eq {an : zA} {v : Int32} (hC : zC s R τ) (e : an = (v, s)) : zCQ τ an v τ := by rw [e]; exact zCQ.same hC
theorem cw_length (hC : zC s R τ) (a : Int32) : ww_T l g mX5_length [.inr (.inr (0, 0)), .inl a] τ (ww_QI (zCQ τ (aLength s a))) := by
  refine b_X5_length (fun E => ⟨_, s_isWord a, ?_⟩)
  rintro v2 τ3 ⟨rfl, ⟨w, hw, rfl, hz, rfl⟩ | ⟨hz, rfl⟩⟩
  · refine ⟨fun c => absurd c (by decide), fun _ => ⟨w, rfl, hw, zCQ.eq hC ?_⟩⟩
    have := (hC.2.1 w (by omega)).2.1
    rw [(hC.wd hw).1] at this
    simp only [aLength, hz, this]
  · exact ⟨fun _ => r_bad hC (zHi.rf _) (by simp only [aLength, hz]), fun c => absurd rfl c⟩
theorem cw_letter (hC : zC s R τ) (a b : Int32) : ww_T l g mX5_letter [.inr (.inr (0, 0)), .inl a, .inl b] τ (ww_QI (zCQ τ (aLetter s a b))) := by
  refine b_X5_letter (fun E => ⟨_, s_isWord a, ?_⟩)
  rintro v2 τ3 ⟨rfl, ⟨w, hw, rfl, hz, rfl⟩ | ⟨hz, rfl⟩⟩
  · refine ⟨fun c => absurd c (by decide), fun _ => ⟨fun c => ?_, fun c => ?_⟩⟩
    · obtain ⟨k, hk, rfl⟩ := nI_of (x := b) (fun q => zll q c)
      have hz2 := zn_nI hk (Nat.le_refl _)
      have hrow := hC.2.1 w (by omega)
      rw [(hC.wd hw).1] at hrow
      refine ⟨w, rfl, hw, _, s_at hrow (by omega) hk, ?_⟩
      rintro v9 τ10 ⟨rfl, rfl⟩
      exact zCQ.eq hC (by simp only [aLetter, hz, hz2])
    · have hz2 : zn b 2147483648 = none := by
        unfold zn
        rw [if_neg (fun q => c (by rw [Int32.le_iff_toInt_le, nI_toInt (by omega)]; exact q.1))]
      exact r_bad hC (zHi.rf _) (by simp only [aLetter, hz, hz2])
  · exact ⟨fun _ => r_bad hC (zHi.rf _) (by simp only [aLetter, hz]), fun c => absurd rfl c⟩
/-- a word is copied to what is made -/
theorem r_copy {w : Nat} (hC : zC s R τ) (hw : w < 6) : ww_T l g mX2_copy [.inr (.inr (21, 16)), .inr (.inr (21, w))] τ (ww_QV (fun τ' => zC s (zup R 16 (sW s w)) τ' ∧ zHi τ τ')) := by
  refine ww_T.imp (s_copy hC.2.1 (by omega) (by omega) (by omega) (by rw [(hC.wd hw).1, show ww_cap 16 = 540 by decide]; have := (hC.wd hw).2.1; omega)) ?_
  rintro r t ⟨rfl, k, n⟩
  rw [(hC.wd hw).1] at k
  exact ⟨rfl, hC.rows k n.s (fun q hq => zup_n (by omega)), n.hi⟩
theorem r_wipe (hC : zC s R τ) : ww_T l g mX2_wipe [.inr (.inr (21, 16))] τ (ww_QV (fun τ' => zC s (zup R 16 []) τ' ∧ zHi τ τ')) := by
  refine ww_T.imp (s_wipe hC.2.1 (by omega)) ?_
  rintro r t ⟨rfl, k, n⟩
  exact ⟨rfl, hC.rows k n.s (fun q hq => zup_n (by omega)), n.hi⟩
theorem cw_adds (hC : zC s R τ) (a b : Int32) : ww_T l g mX5_adds [.inr (.inr (0, 0)), .inl a, .inl b] τ (ww_QI (zCQ τ (aAdds s a b))) := by
  have c16 : ww_cap 16 = 540 := by decide
  refine b_X5_adds (fun E => ⟨_, s_isWord a, ?_⟩)
  rintro v2 τ3 ⟨rfl, ⟨w, hw, rfl, hz, rfl⟩ | ⟨hz, rfl⟩⟩
  · have hwd := (hC.wd hw).2
    refine ⟨fun c => absurd c (by decide), fun _ => ?_⟩
    rcases zn_cases b 8 (by decide) with ⟨x, hx, rfl, hz2⟩ | ⟨hz2, hr⟩
    · refine ⟨fun c => ?_, fun _ => ⟨fun _ => ⟨w, rfl, hw, _, r_copy hC hw, ?_⟩, fun c => ?_⟩⟩
      · rw [zlt (by omega) (by omega)] at c; omega
      · rintro τ12 ⟨k12, f12⟩
        refine ⟨_, s_put k12.2.1 (by omega) hx (by rw [zup_s, c16]; have := hwd.1; omega), ?_⟩
        rintro τ14 ⟨k14, n14⟩
        rw [zup_s, zup_up] at k14
        exact r_keep (k12.rows k14 n14.s (fun q hq => by rw [zup_n (by omega), zup_n (by omega)])) (f12.tr n14.hi) (zup_s _ _ _) hw (zred_push hwd.2.2 hwd.2.1 hx) (by simp only [aAdds, hz, hz2])
      · rw [zlt (by omega) (by omega)] at c; omega
    · have e : aAdds s (nI w) b = zbad s := by simp only [aAdds, hz, hz2]
      refine ⟨fun _ => r_bad hC (zHi.rf _) e, fun c => ⟨fun c2 => ?_, fun _ => r_bad hC (zHi.rf _) e⟩⟩
      exact (hr.elim (fun q => c q) (fun q => zll c2 q)).elim
  · exact ⟨fun _ => r_bad hC (zHi.rf _) (by simp only [aAdds, hz]), fun c => absurd rfl c⟩
theorem cw_times (hC : zC s R τ) (a b c : Int32) : ww_T l g mX5_times [.inr (.inr (0, 0)), .inl a, .inl b, .inl c] τ (ww_QI (zCQ τ (aTimes s a b c))) := by
  have c16 : ww_cap 16 = 540 := by decide
  refine b_X5_times (fun E => ⟨_, s_isWord a, ?_⟩)
  rintro v2 τ3 ⟨rfl, ⟨w, hw, rfl, hz, rfl⟩ | ⟨hz, rfl⟩⟩
  · refine ⟨fun c => absurd c (by decide), fun _ => ⟨_, s_isWord b, ?_⟩⟩
    rintro v8 τ9 ⟨rfl, ⟨x, hx, rfl, hz2, rfl⟩ | ⟨hz2, rfl⟩⟩
    · refine ⟨fun c => absurd c (by decide), fun _ => ⟨_, s_isWord c, ?_⟩⟩
      rintro v14 τ15 ⟨rfl, ⟨t, ht, rfl, hz3, rfl⟩ | ⟨hz3, rfl⟩⟩
      · refine ⟨fun _ => ⟨w, rfl, hw, _, r_copy hC hw, ?_⟩, fun c => absurd c (by decide)⟩
        rintro τ18 ⟨k18, f18⟩
        have hwd := (hC.wd hw).2
        have hxd := (hC.wd hx).2
        have ex : zup R 16 (sW s w) x = sW s x := by rw [zup_n (by omega)]; exact (hC.wd hx).1
        refine ⟨x, rfl, hx, _, s_putRow k18.2.1 (by omega) (by omega) (by omega) (by rw [zup_s, ex, c16]; have := hwd.1; have := hxd.1; omega), ?_⟩
        rintro τ21 ⟨k21, n21⟩
        rw [zup_s, ex, zup_up] at k21
        exact r_keep (k18.rows k21 n21.s (fun q hq => by rw [zup_n (by omega), zup_n (by omega)])) (f18.tr n21.hi) (zup_s _ _ _) ht (zred_pushs hwd.2.2 hwd.2.1 hxd.2.1) (by simp only [aTimes, hz, hz2, hz3])
      · exact ⟨fun c => absurd rfl c, fun _ => r_bad hC (zHi.rf _) (by simp only [aTimes, hz, hz2, hz3])⟩
    · exact ⟨fun _ => r_bad hC (zHi.rf _) (by simp only [aTimes, hz, hz2]), fun c => absurd rfl c⟩
  · exact ⟨fun _ => r_bad hC (zHi.rf _) (by simp only [aTimes, hz]), fun c => absurd rfl c⟩
theorem cw_inverse (hC : zC s R τ) (a c : Int32) : ww_T l g mX5_inverse [.inr (.inr (0, 0)), .inl a, .inl c] τ (ww_QI (zCQ τ (aInverse s a c))) := by
  have c16 : ww_cap 16 = 540 := by decide
  refine b_X5_inverse (fun E => ⟨_, s_isWord a, ?_⟩)
  rintro v2 τ3 ⟨rfl, ⟨w, hw, rfl, hz, rfl⟩ | ⟨hz, rfl⟩⟩
  · refine ⟨fun c => absurd c (by decide), fun _ => ⟨_, s_isWord c, ?_⟩⟩
    rintro v14 τ15 ⟨rfl, ⟨t, ht, rfl, hz3, rfl⟩ | ⟨hz3, rfl⟩⟩
    · refine ⟨fun _ => ⟨_, r_wipe hC, ?_⟩, fun c => absurd c (by decide)⟩
      rintro τ11 ⟨k11, f11⟩
      have hwd := (hC.wd hw).2
      have ex : zup R 16 [] w = sW s w := by rw [zup_n (by omega)]; exact (hC.wd hw).1
      refine ⟨w, rfl, hw, _, s_putInverse k11.2.1 (by omega) (by omega) (by omega) (by rw [zup_s, ex, c16]; have := hwd.1; simp; omega), ?_⟩
      rintro τ14 ⟨k14, n14⟩
      rw [zup_s, ex, zup_up] at k14
      exact r_keep (k11.rows k14 n14.s (fun q hq => by rw [zup_n (by omega), zup_n (by omega)])) (f11.tr n14.hi) (zup_s _ _ _) ht (zred_pushs zred_nil (fun x hx => absurd hx List.not_mem_nil) (zinv_ok hwd.2.1)) (by simp only [aInverse, hz, hz3])
    · exact ⟨fun c => absurd rfl c, fun _ => r_bad hC (zHi.rf _) (by simp only [aInverse, hz, hz3])⟩
  · exact ⟨fun _ => r_bad hC (zHi.rf _) (by simp only [aInverse, hz]), fun c => absurd rfl c⟩
theorem zend_red {xs : List Nat} (h : zred xs) (e n : Nat) : zred ((xs.drop e).take n) := by
  intro k hk
  rw [List.length_take, List.length_drop] at hk
  rw [zat_take (by omega), zat_take (by omega), zat_drop, zat_drop]
  exact h (e + k) (by omega)
theorem zring_red {xs : List Nat} (h : zred xs) : zred (zring xs) := zend_red h _ _
theorem cw_ring (hC : zC s R τ) (a c : Int32) : ww_T l g mX5_ring [.inr (.inr (0, 0)), .inl a, .inl c] τ (ww_QI (zCQ τ (aRing s a c))) := by
  refine b_X5_ring (fun E => ⟨_, s_isWord a, ?_⟩)
  rintro v2 τ3 ⟨rfl, ⟨w, hw, rfl, hz, rfl⟩ | ⟨hz, rfl⟩⟩
  · refine ⟨fun c => absurd c (by decide), fun _ => ⟨_, s_isWord c, ?_⟩⟩
    rintro v14 τ15 ⟨rfl, ⟨t, ht, rfl, hz3, rfl⟩ | ⟨hz3, rfl⟩⟩
    · refine ⟨fun _ => ⟨w, rfl, hw, _, r_copy hC hw, ?_⟩, fun c => absurd c (by decide)⟩
      rintro τ12 ⟨k12, f12⟩
      refine ⟨_, s_cutToRing k12.2.1 (by omega), ?_⟩
      rintro τ14 ⟨k14, n14⟩
      rw [zup_s, zup_up] at k14
      exact r_keep (k12.rows k14 n14.s (fun q hq => by rw [zup_n (by omega), zup_n (by omega)])) (f12.tr n14.hi) (zup_s _ _ _) ht (zring_red (hC.wd hw).2.2.2) (by simp only [aRing, hz, hz3])
    · exact ⟨fun c => absurd rfl c, fun _ => r_bad hC (zHi.rf _) (by simp only [aRing, hz, hz3])⟩
  · exact ⟨fun _ => r_bad hC (zHi.rf _) (by simp only [aRing, hz]), fun c => absurd rfl c⟩
theorem cw_turn (hC : zC s R τ) (a b c : Int32) : ww_T l g mX5_turn [.inr (.inr (0, 0)), .inl a, .inl b, .inl c] τ (ww_QI (zCQ τ (aTurn s a b c))) := by
  have c16 : ww_cap 16 = 540 := by decide
  refine b_X5_turn (fun E => ⟨_, s_isWord a, ?_⟩)
  rintro v2 τ3 ⟨rfl, ⟨w, hw, rfl, hz, rfl⟩ | ⟨hz, rfl⟩⟩
  · refine ⟨fun c => absurd c (by decide), fun _ => ?_⟩
    rcases zn_cases b 60 (by decide) with ⟨n, hn, rfl, hz2⟩ | ⟨hz2, hr⟩
    · refine ⟨fun c => ?_, fun _ => ⟨fun c => ?_, fun _ => ⟨_, s_isWord c, ?_⟩⟩⟩
      · rw [zlt (by omega) (by omega)] at c; omega
      · rw [zle (by omega) (by omega)] at c; omega
      · rintro v14 τ15 ⟨rfl, ⟨t, ht, rfl, hz3, rfl⟩ | ⟨hz3, rfl⟩⟩
        · have hwd := (hC.wd hw).2
          have hcn : τ (21, w) 1 = nI (sW s w).length := by
            have := (hC.2.1 w (by omega)).2.1; rw [(hC.wd hw).1] at this; exact this
          refine ⟨fun _ => ⟨w, rfl, hw, ?_⟩, fun c => absurd c (by decide)⟩
          rw [hcn, zlt (by omega) (by have := hwd.1; omega)]
          refine ⟨fun c1 => ⟨_, r_wipe hC, ?_⟩, fun c1 => r_no hC (zHi.rf _) (by simp only [aTurn, hz, hz2, hz3]; rw [if_neg c1])⟩
          rintro τ18 ⟨k18, f18⟩
          have ex : zup R 16 [] w = sW s w := by rw [zup_n (by omega)]; exact (hC.wd hw).1
          refine ⟨w, rfl, hw, _, s_putTurn (a := n) k18.2.1 (by omega) (by omega) (by omega) (by rw [ex]; omega) (by rw [zup_s, ex, c16]; have := hwd.1; simp; omega), ?_⟩
          rintro τ21 ⟨k21, n21⟩
          rw [zup_s, ex, zup_up] at k21
          exact r_keep (k18.rows k21 n21.s (fun q hq => by rw [zup_n (by omega), zup_n (by omega)])) (f18.tr n21.hi) (zup_s _ _ _) ht (zred_pushs zred_nil (fun x hx => absurd hx List.not_mem_nil) (zturn_ok hwd.2.1 n)) (by simp only [aTurn, hz, hz2, hz3]; rw [if_pos c1]; rfl)
        · exact ⟨fun c => absurd rfl c, fun _ => r_bad hC (zHi.rf _) (by simp only [aTurn, hz, hz2, hz3])⟩
    · have e : aTurn s (nI w) b c = zbad s := by simp only [aTurn, hz, hz2]
      refine ⟨fun _ => r_bad hC (zHi.rf _) e, fun c1 => ⟨fun _ => r_bad hC (zHi.rf _) e, fun c2 => ?_⟩⟩
      exact (hr.elim (fun q => c1 q) (fun q => c2 q)).elim
  · exact ⟨fun _ => r_bad hC (zHi.rf _) (by simp only [aTurn, hz]), fun c => absurd rfl c⟩
theorem cw_sum (hC : zC s R τ) (a b : Int32) : ww_T l g mX5_sum [.inr (.inr (0, 0)), .inl a, .inl b] τ (ww_QI (zCQ τ (aSum s a b))) := by
  refine b_X5_sum (fun E => ⟨_, s_isWord a, ?_⟩)
  rintro v2 τ3 ⟨rfl, ⟨w, hw, rfl, hz, rfl⟩ | ⟨hz, rfl⟩⟩
  · refine ⟨fun c => absurd c (by decide), fun _ => ?_⟩
    rcases zn_cases b 4 (by decide) with ⟨x, hx, rfl, hz2⟩ | ⟨hz2, hr⟩
    · refine ⟨fun c => ?_, fun _ => ⟨fun _ => ⟨w, rfl, hw, _, s_surplusOf hC.2.1 (by omega) (by omega), ?_⟩, fun c => ?_⟩⟩
      · rw [zlt (by omega) (by omega)] at c; omega
      · rintro v12 τ13 ⟨rfl, rfl⟩
        exact zCQ.eq hC (by simp only [aSum, hz, hz2]; rw [(hC.wd hw).1])
      · rw [zlt (by omega) (by omega)] at c; omega
    · have e : aSum s (nI w) b = zbad s := by simp only [aSum, hz, hz2]
      refine ⟨fun _ => r_bad hC (zHi.rf _) e, fun c => ⟨fun c2 => ?_, fun _ => r_bad hC (zHi.rf _) e⟩⟩
      exact (hr.elim (fun q => c q) (fun q => zll c2 q)).elim
  · exact ⟨fun _ => r_bad hC (zHi.rf _) (by simp only [aSum, hz]), fun c => absurd rfl c⟩
/-- a power of a word is made -/
theorem s_makePower {w k : Nat} (hC : zC s R τ) (hw : w < 6) (hk : k < 19) : ww_T l g mX5_makePower [.inr (.inr (0, 0)), .inl (nI w), .inl (nI k - nI 9)] τ (ww_QV (fun τ' => zC s (zup R 16 (if k < 9 then zpow (zinv (sW s w)) (9 - k) else zpow (sW s w) (k - 9))) τ' ∧ zHi τ τ')) := by
  have c16 : ww_cap 16 = 540 := by decide
  have hwd := (hC.wd hw).2
  obtain ⟨p1, p2, p3, p4⟩ := zpwn k hk
  have hlen := hwd.1
  refine b_X5_makePower (fun E => ⟨_, r_wipe hC, ?_⟩)
  rintro τ2 ⟨k2, f2⟩
  rw [p1]
  have loop : ∀ (n j : Nat) (σ : ww_M), j + n = (if k < 9 then 9 - k else k - 9) → zC s (zup R 16 (if k < 9 then zpow (zinv (sW s w)) j else zpow (sW s w) j)) σ → zHi τ σ → ww_W g mX5_makePower E (ww_QV (fun τ' => zC s (zup R 16 (if k < 9 then zpow (zinv (sW s w)) (9 - k) else zpow (sW s w) (k - 9))) τ' ∧ zHi τ τ')) 20 [some (.inr (.inr (0, 0))), some (.inl (nI w)), some (.inl (nI k - nI 9)), some (.inl (nI (if k < 9 then 9 - k else k - 9))), some (.inl (nI j))] [] σ := by
    intro n
    induction n with
    | zero =>
      intro j σ hj hc hf
      have hb : (if k < 9 then 9 - k else k - 9) < 100 := by split <;> omega
      refine b_X5_makePower_20 ⟨fun _ => ⟨?_, hf⟩, fun c => ?_⟩
      · have e : (if k < 9 then zpow (zinv (sW s w)) (9 - k) else zpow (sW s w) (k - 9)) = (if k < 9 then zpow (zinv (sW s w)) j else zpow (sW s w) j) := by
          by_cases h9 : k < 9
          · rw [if_pos h9, if_pos h9]; rw [if_pos h9] at hj; rw [show 9 - k = j by omega]
          · rw [if_neg h9, if_neg h9]; rw [if_neg h9] at hj; rw [show k - 9 = j by omega]
        rw [e]; exact hc
      · rw [zle (by omega) (by omega)] at c; omega
    | succ n ih =>
      intro j σ hj hc hf
      have hb : (if k < 9 then 9 - k else k - 9) ≤ 9 := by split <;> omega
      have ex : ∀ xs, zup R 16 xs w = sW s w := fun xs => by rw [zup_n (by omega)]; exact (hC.wd hw).1
      refine b_X5_makePower_20 ⟨fun c => ?_, fun _ => ⟨_, s_isWord _, ?_⟩⟩
      · rw [zle (by omega) (by omega)] at c; omega
      · rintro v2 τ3 ⟨rfl, ⟨w', hw', e1, hz, rfl⟩ | ⟨hz, -⟩⟩
        · refine ⟨fun c => absurd c (by decide), fun _ => ?_⟩
          rw [p2]
          refine ⟨fun c9 => ⟨w, rfl, hw, ?_⟩, fun c9 => ⟨w, rfl, hw, ?_⟩⟩
          · by_cases h9 : k < 9
            · rw [if_pos h9] at hc hj
              have hl := zpow_len (zinv (sW s w)) j
              rw [zinv_len] at hl
              have : j * (sW s w).length ≤ 8 * 60 := Nat.mul_le_mul (by omega) hlen
              refine ⟨_, s_putInverse hc.2.1 (by omega) (by omega) (by omega) (by rw [zup_s, ex, c16]; omega), ?_⟩
              rintro τ6 ⟨k6, n6⟩
              rw [zup_s, ex, zup_up] at k6
              rw [zadd]
              refine ih (j + 1) τ6 (by rw [if_pos h9]; omega) ?_ (hf.tr n6.hi)
              rw [if_pos h9]
              exact hc.rows k6 n6.s (fun q hq => by rw [zup_n (by omega), zup_n (by omega)])
            · exfalso
              rw [if_neg h9] at hj
              omega
          · have h9 : ¬ k < 9 := by omega
            rw [if_neg h9] at hc hj
            have hl := zpow_len (sW s w) j
            have : j * (sW s w).length ≤ 8 * 60 := Nat.mul_le_mul (by omega) hlen
            refine ⟨_, s_putRow hc.2.1 (by omega) (by omega) (by omega) (by rw [zup_s, ex, c16]; omega), ?_⟩
            rintro τ6 ⟨k6, n6⟩
            rw [zup_s, ex, zup_up] at k6
            rw [zadd]
            refine ih (j + 1) τ6 (by rw [if_neg h9]; omega) ?_ (hf.tr n6.hi)
            rw [if_neg h9]
            exact hc.rows k6 n6.s (fun q hq => by rw [zup_n (by omega), zup_n (by omega)])
        · rw [zn_nI hw (by omega)] at hz; cases hz
  have e0 : (if k < 9 then zpow (zinv (sW s w)) 0 else zpow (sW s w) 0) = [] := by split <;> rfl
  exact loop (if k < 9 then 9 - k else k - 9) 0 τ2 (by omega) (by rw [e0]; exact k2) f2
theorem cw_power (hC : zC s R τ) (a b c : Int32) : ww_T l g mX5_power [.inr (.inr (0, 0)), .inl a, .inl b, .inl c] τ (ww_QI (zCQ τ (aPower s a b c))) := by
  refine b_X5_power (fun E => ⟨_, s_isWord a, ?_⟩)
  rintro v2 τ3 ⟨rfl, ⟨w, hw, rfl, hz, rfl⟩ | ⟨hz, rfl⟩⟩
  · refine ⟨fun c => absurd c (by decide), fun _ => ?_⟩
    rcases zn_cases (b + nI 9) 19 (by decide) with ⟨k, hk, e, hz2⟩ | ⟨hz2, hr⟩
    · have eb := zpw_of e
      subst eb
      obtain ⟨p1, p2, p3, p4⟩ := zpwn k hk
      refine ⟨fun c => absurd c p3, fun _ => ⟨fun c => absurd c p4, fun _ => ⟨_, s_isWord c, ?_⟩⟩⟩
      rintro v14 τ15 ⟨rfl, ⟨t, ht, rfl, hz3, rfl⟩ | ⟨hz3, rfl⟩⟩
      · refine ⟨fun _ => ⟨_, s_makePower hC hw hk, ?_⟩, fun c => absurd c (by decide)⟩
        rintro τ17 ⟨k17, f17⟩
        have hwd := (hC.wd hw).2
        refine r_keep k17 f17 (zup_s _ _ _) ht ?_ (by simp only [aPower, hz, hz2, hz3])
        split
        · exact zpow_red (zinv_ok hwd.2.1) _
        · exact zpow_red hwd.2.1 _
      · exact ⟨fun c => absurd rfl c, fun _ => r_bad hC (zHi.rf _) (by simp only [aPower, hz, hz2, hz3])⟩
    · have e : aPower s (nI w) b c = zbad s := by simp only [aPower, hz, hz2]
      refine ⟨fun _ => r_bad hC (zHi.rf _) e, fun c1 => ⟨fun _ => r_bad hC (zHi.rf _) e, fun c2 => ?_⟩⟩
      exfalso
      rw [Int32.lt_iff_toInt_lt] at c1 c2
      rw [nI_toInt (by omega)] at c2
      have e9 : ((-9 : Int32)).toInt = -9 := by decide
      rw [e9] at c1
      have hadd : (b + nI 9).toInt = b.toInt + 9 := by
        rw [Int32.toInt_add, nI_toInt (by omega)]
        apply Int.bmod_eq_of_le <;> omega
      rw [Int32.lt_iff_toInt_lt, Int32.le_iff_toInt_le, hadd, nI_toInt (by omega), nI_toInt (by omega)] at hr
      omega
  · exact ⟨fun _ => r_bad hC (zHi.rf _) (by simp only [aPower, hz]), fun c => absurd rfl c⟩
/-- SHORTENING what is made -/
theorem r_doAll {xs : List Nat} (hC : zC s R τ) (h16 : R 16 = xs) (h60 : xs.length ≤ 60) (hrd : zred xs) : ww_T l g mX3_doAll [.inr (.inr (20, 0)), .inr (.inr (21, 16))] τ (ww_QI (fun v τ' => zHi τ τ' ∧ τ' (21, 16) 1 = nI (zfin (sM s) (sK s) xs).2.length ∧ (zfin (sM s) (sK s) xs).2.length ≤ 540 ∧ ∃ R', zC s R' τ')) := by
  refine ww_T.imp (s_doAll hC.ct hC.2.1 (by omega) (by omega) (by rw [h16]; exact h60) (by rw [h16]; exact hrd)) ?_
  rintro r t ⟨v, rfl, rfl, f, R', k1, k2, k3⟩
  rw [h16] at k2
  refine ⟨_, rfl, f.hi, ?_, ?_, R', hC.rows k1 f (fun q hq => k3 q (by omega) (by omega))⟩
  · have := (k1 16 (by omega)).2.1; rw [k2] at this; exact this
  · have := (k1 16 (by omega)).1; rw [k2] at this; exact this
theorem zNil_0 {xs : List Nat} (h : (zfin (sM s) (sK s) xs).2.length ≤ 540) : (nI (zfin (sM s) (sK s) xs).2.length = nI 0) = (zNil s xs = true) := by
  rw [zeq (by omega) (by omega)]
  unfold zNil
  simp
theorem cw_cuts (hC : zC s R τ) (a : Int32) : ww_T l g mX5_cuts [.inr (.inr (0, 0)), .inl a] τ (ww_QI (zCQ τ (aCuts s a))) := by
  refine b_X5_cuts (fun E => ⟨_, s_isWord a, ?_⟩)
  rintro v2 τ3 ⟨rfl, ⟨w, hw, rfl, hz, rfl⟩ | ⟨hz, rfl⟩⟩
  · refine ⟨fun c => absurd c (by decide), fun _ => ⟨w, rfl, hw, _, s_seek hC.ct hC.2.1 (by omega), ?_⟩⟩
    rintro v9 τ10 ⟨rfl, -, t2, t3⟩
    simp only [aCuts, hz]
    refine ⟨by rw [(hC.wd hw).1], ⟨R, hC.rows (hC.2.1.keep (fun n hn => t2 n (fun e => by rw [e] at hn; revert hn; decide))) ⟨fun n _ _ h3 => t2 n h3, t3⟩ (fun _ _ => rfl)⟩, fun n hn => t2 n (fun e => by rw [e] at hn; exact absurd hn (by decide))⟩
  · exact ⟨fun _ => r_bad hC (zHi.rf _) (by simp only [aCuts, hz]), fun c => absurd rfl c⟩
theorem cw_cut (hC : zC s R τ) (a : Int32) : ww_T l g mX5_cut [.inr (.inr (0, 0)), .inl a] τ (ww_QI (zCQ τ (aCut s a))) := by
  refine b_X5_cut (fun E => ⟨_, s_isWord a, ?_⟩)
  rintro v2 τ3 ⟨rfl, ⟨w, hw, rfl, hz, rfl⟩ | ⟨hz, rfl⟩⟩
  · refine ⟨fun _ => ⟨w, rfl, hw, _, s_seek hC.ct hC.2.1 (by omega), ?_⟩, fun c => absurd c (by decide)⟩
    rintro v6 τ7 ⟨rfl, t1, t2, t3⟩
    rw [(hC.wd hw).1] at t1
    rw [(hC.wd hw).1]
    have hwd := (hC.wd hw).2
    have hf : zSF τ τ7 := ⟨fun n _ _ h3 => t2 n h3, t3⟩
    have hC7 : zC s R τ7 := hC.rows (hC.2.1.keep (fun n hn => t2 n (fun e => by rw [e] at hn; revert hn; decide))) hf (fun _ _ => rfl)
    have hok := zscan_ok (mem := sM s) (w := sW s w) (kd := sK s) (sW s w).length (Nat.le_refl _)
    have small := zscan_small (w := sW s w) hC.ct hwd.1
    rw [zeq small (by omega)]
    cases hb : (zscan (sM s) (sW s w) (sK s) (sW s w).length).2 with
    | none =>
      refine ⟨fun c => absurd (hok.1.mpr hb) c, fun _ => r_no hC7 hf.hi (by simp only [aCut, hz, hb])⟩
    | some q =>
      rw [hb] at t1
      have hiq := hok.2 q hb
      refine ⟨fun _ => ⟨w, rfl, hw, _, s_doCut hC7.ct hC7.2.1 (by omega) (by omega) t1 (by rw [(hC.wd hw).1]; exact hiq) (by rw [(hC.wd hw).1]; exact hwd.1) (by rw [(hC.wd hw).1]; exact hwd.2.2), ?_⟩, fun c => ?_⟩
      · rintro τ10 ⟨n10, R', k1, k2, k3⟩
        rw [(hC.wd hw).1] at k2
        refine ⟨w, rfl, hw, ?_⟩
        have hlt := zcut_len hiq
        have hmo := (hC7.ct.1.row hC7.2.1 hiq.2.1).2.2.2
        have e21 : τ10 (21, w) 1 = nI (zcut (sM s) (sW s w) q).length := by
          have := (k1 w (by omega)).2.1; rw [k2] at this; exact this
        rw [e21]
        simp only [aCut, hz, hb]
        exact ⟨rfl, ⟨R', hC7.word k1 n10.s (fun x hx hx2 => k3 x hx (by omega)) hw k2 ⟨by have := hwd.1; omega, zcut_ok hwd.2.1 hmo, zcut_red hwd.2.2 hwd.2.1 hmo⟩⟩, hf.hi.tr n10.hi⟩
      · have := hok.1.mp c; rw [hb] at this; cases this
  · exact ⟨fun c => absurd rfl c, fun _ => r_bad hC (zHi.rf _) (by simp only [aCut, hz])⟩
theorem zsh_wok {mem : List (List Nat)} {kd : Nat} (hm : ∀ m, m < mem.length → zok (zm mem m)) : ∀ (n : Nat) (w : List Nat), zok w → zred w → zok (zsh mem kd n w).2 ∧ zred (zsh mem kd n w).2 ∧ (zsh mem kd n w).2.length ≤ w.length ∧ (zsh mem kd n w).1 ≤ n
  | 0, w, h1, h2 => ⟨h1, h2, Nat.le_refl _, Nat.le_refl _⟩
  | n + 1, w, h1, h2 => by
    rw [zsh]
    cases e : (zscan mem w kd w.length).2 with
    | none => exact ⟨h1, h2, Nat.le_refl _, Nat.zero_le _⟩
    | some q =>
      have hi := zscan_is e
      have hl := zcut_len hi
      obtain ⟨a1, a2, a3, a4⟩ := zsh_wok hm n (zcut mem w q) (zcut_ok h1 (hm _ hi.2.1)) (zcut_red h2 h1 (hm _ hi.2.1))
      exact ⟨a1, a2, by dsimp only; omega, by dsimp only; omega⟩
theorem zC.mok (hC : zC s R τ) : ∀ m, m < (sM s).length → zok (zm (sM s) m) := fun m hm => (hC.ct.1.row hC.2.1 hm).2.2.2
theorem cw_shorten (hC : zC s R τ) (a : Int32) : ww_T l g mX5_shorten [.inr (.inr (0, 0)), .inl a] τ (ww_QI (zCQ τ (aShorten s a))) := by
  refine b_X5_shorten (fun E => ⟨_, s_isWord a, ?_⟩)
  rintro v2 τ3 ⟨rfl, ⟨w, hw, rfl, hz, rfl⟩ | ⟨hz, rfl⟩⟩
  · have hwd := (hC.wd hw).2
    refine ⟨fun c => absurd c (by decide), fun _ => ⟨w, rfl, hw, _, s_doAll hC.ct hC.2.1 (by omega) (by omega) (by rw [(hC.wd hw).1]; exact hwd.1) (by rw [(hC.wd hw).1]; exact hwd.2.2), ?_⟩⟩
    rintro v9 τ10 ⟨rfl, f, R', k1, k2, k3⟩
    rw [(hC.wd hw).1] at k2
    rw [(hC.wd hw).1]
    simp only [aShorten, hz]
    obtain ⟨a1, a2, a3, a4⟩ := zsh_wok (kd := sK s) hC.mok (sW s w).length (sW s w) hwd.2.1 hwd.2.2
    exact ⟨rfl, ⟨R', hC.word k1 f (fun x hx hx2 => k3 x hx (by omega)) hw k2 ⟨Nat.le_trans a3 hwd.1, a1, a2⟩⟩, f.hi⟩
  · exact ⟨fun _ => r_bad hC (zHi.rf _) (by simp only [aShorten, hz]), fun c => absurd rfl c⟩
theorem cw_trail (hC : zC s R τ) (a b c : Int32) : ww_T l g mX5_trail [.inr (.inr (0, 0)), .inl a, .inl b, .inl c] τ (ww_QI (zCQ τ (aTrail s a b c))) := by
  refine b_X5_trail (fun E => ⟨_, s_isWord a, ?_⟩)
  rintro v2 τ3 ⟨rfl, ⟨w, hw, rfl, hz, rfl⟩ | ⟨hz, rfl⟩⟩
  · refine ⟨fun c => absurd c (by decide), fun _ => ⟨fun c1 => ?_, fun c1 => ?_⟩⟩
    · have hz2 : zn b 2147483648 = none := by
        unfold zn
        rw [if_neg (fun q => by rw [Int32.lt_iff_toInt_lt, nI_toInt (by omega)] at c1; omega)]
      exact r_bad hC (zHi.rf _) (by simp only [aTrail, hz, hz2])
    · obtain ⟨k, hk, rfl⟩ := nI_of c1
      have hz2 := zn_nI hk (Nat.le_refl _)
      rcases zn_cases c 4 (by decide) with ⟨t, ht, rfl, hz3⟩ | ⟨hz3, hr⟩
      · refine ⟨fun c => ?_, fun _ => ⟨fun _ => ⟨w, rfl, hw, _, r_copy hC hw, ?_⟩, fun c => ?_⟩⟩
        · rw [zlt (by omega) (by omega)] at c; omega
        · rintro τ15 ⟨k15, f15⟩
          have hwd := (hC.wd hw).2
          refine ⟨_, s_doThrough k15.ct k15.2.1 (by omega) (by omega) (by rw [zup_s]; exact hwd.1) (by rw [zup_s]; exact hwd.2.2) hk, ?_⟩
          rintro v17 τ18 ⟨f18, R', k1, k2, k3⟩
          rw [zup_s] at k3
          have hC18 : zC s R' τ18 := k15.rows k1 f18 (fun q hq => k2 q (by omega) (by omega))
          have hh := f15.tr f18.hi
          have don : ∀ v : Int32, aTrail s (nI w) (nI k) (nI t) = (v, s) → zCQ τ (aTrail s (nI w) (nI k) (nI t)) v τ18 := fun v e => by rw [e]; exact ⟨rfl, ⟨R', hC18⟩, hh⟩
          rcases k3 with ⟨k3, rfl⟩ | ⟨q, x, k3, rfl, k4, k5⟩
          · exact ⟨fun c => absurd rfl c, fun _ => don _ (by simp only [aTrail, hz, hz2, hz3, k3])⟩
          · refine ⟨fun _ => ?_, fun c => absurd c (by decide)⟩
            obtain ⟨b1, b2, b3, -⟩ := k4 q rfl
            have e16 : τ18 (21, 16) 1 = nI x.length := by
              have := (k1 16 (by omega)).2.1; rw [k5] at this; exact this
            rw [b1, b2, b3, e16, zeq (by omega) (by omega), zeq (by omega) (by omega), zeq (by omega) (by omega)]
            refine ⟨fun e => don _ ?_, fun e => don _ ?_, fun e => don _ ?_, fun e1 e2 e3 => don _ ?_⟩
            · simp only [aTrail, hz, hz2, hz3, k3]; rw [if_pos e]
            · simp only [aTrail, hz, hz2, hz3, k3]; rw [if_neg (by omega), if_pos e]
            · simp only [aTrail, hz, hz2, hz3, k3]; rw [if_neg (by omega), if_neg (by omega), if_pos e]
            · simp only [aTrail, hz, hz2, hz3, k3]; rw [if_neg e1, if_neg e2, if_neg e3]
        · rw [zle (by omega) (by omega)] at c; omega
      · have e : aTrail s (nI w) (nI k) c = zbad s := by simp only [aTrail, hz, hz2, hz3]
        refine ⟨fun _ => r_bad hC (zHi.rf _) e, fun c1 => ⟨fun c2 => ?_, fun _ => r_bad hC (zHi.rf _) e⟩⟩
        exfalso
        rcases hr with q | q
        · exact c1 q
        · rw [Int32.le_iff_toInt_le] at c2 q
          rw [nI_toInt (by omega)] at c2 q
          omega
  · exact ⟨fun _ => r_bad hC (zHi.rf _) (by simp only [aTrail, hz]), fun c => absurd rfl c⟩
theorem zP_lt (hC : zC s R τ) (r : Nat) : sP s r < 100 := by
  have : sP s r ≤ 14 := zgr_le (fun m hm => zgr_le (fun o ho => by
    split
    · have := (zlike_le (zm (sM s) o) 0 (zm (sM s) m)).2
      have := hC.ct.1.len hC.2.1 hm
      omega
    · omega))
  omega
theorem r_good {n : Nat} (hC : zC s R τ) (hn : n < 100) : ww_T l g mX0_areGood [.inr (.inr (8, 0)), .inl (nI n)] τ (ww_QI (fun v τ' => τ = τ' ∧ v = zb (sG s n))) := s_areGood hC.2.2.2.1.1 hC.2.1 hn (fun r hr => ⟨hC.2.2.2.1.2.2.2.2.2.1 r hr, zP_lt hC r⟩)
theorem cw_nothing (hC : zC s R τ) (a : Int32) : ww_T l g mX5_nothing [.inr (.inr (0, 0)), .inl a] τ (ww_QI (zCQ τ (aNothing s a))) := by
  refine b_X5_nothing (fun E => ⟨_, s_isWord a, ?_⟩)
  rintro v2 τ3 ⟨rfl, ⟨w, hw, rfl, hz, rfl⟩ | ⟨hz, rfl⟩⟩
  · refine ⟨fun _ => ⟨_, r_good hC (by omega), ?_⟩, fun c => absurd c (by decide)⟩
    rintro v5 τ6 ⟨rfl, rfl⟩
    rw [zb_0]
    refine ⟨fun c => ⟨w, rfl, hw, _, r_copy hC hw, ?_⟩, fun c => r_no hC (zHi.rf _) (by simp only [aNothing, hz]; rw [if_neg (by rw [c]; decide)])⟩
    rintro τ9 ⟨k9, f9⟩
    have hwd := (hC.wd hw).2
    have c' : sG s 6 = true := by simpa using c
    refine ⟨_, r_doAll k9 (zup_s _ _ _) hwd.1 hwd.2.2, ?_⟩
    rintro v11 τ12 ⟨f12, e12, l12, R', k12⟩
    rw [e12, zNil_0 l12]
    have ea : aNothing s (nI w) = (zb (zNil s (sW s w)), s) := by simp only [aNothing, hz]; rw [if_pos c']
    rw [ea]
    refine ⟨fun c => ⟨?_, ⟨R', k12⟩, f9.tr f12⟩, fun c => ⟨?_, ⟨R', k12⟩, f9.tr f12⟩⟩
    · have : zNil s (sW s w) = false := by simpa using c
      rw [this]; rfl
    · rw [c]; rfl
  · exact ⟨fun c => absurd rfl c, fun _ => r_bad hC (zHi.rf _) (by simp only [aNothing, hz])⟩
theorem cw_same (hC : zC s R τ) (a b : Int32) : ww_T l g mX5_same [.inr (.inr (0, 0)), .inl a, .inl b] τ (ww_QI (zCQ τ (aSame s a b))) := by
  have c16 : ww_cap 16 = 540 := by decide
  refine b_X5_same (fun E => ⟨_, s_isWord a, ?_⟩)
  rintro v2 τ3 ⟨rfl, ⟨w, hw, rfl, hz, rfl⟩ | ⟨hz, rfl⟩⟩
  · refine ⟨fun c => absurd c (by decide), fun _ => ⟨_, s_isWord b, ?_⟩⟩
    rintro v8 τ9 ⟨rfl, ⟨x, hx, rfl, hz2, rfl⟩ | ⟨hz2, rfl⟩⟩
    · refine ⟨fun _ => ⟨_, r_good hC (by omega), ?_⟩, fun c => absurd c (by decide)⟩
      rintro v5 τ6 ⟨rfl, rfl⟩
      rw [zb_0]
      refine ⟨fun c => ⟨w, rfl, hw, _, r_copy hC hw, ?_⟩, fun c => r_no hC (zHi.rf _) (by simp only [aSame, hz, hz2]; rw [if_neg (by rw [c]; decide)])⟩
      rintro τ15 ⟨k15, f15⟩
      have hwd := (hC.wd hw).2
      have hxd := (hC.wd hx).2
      have c' : sG s 6 = true := by simpa using c
      have ex : zup R 16 (sW s w) x = sW s x := by rw [zup_n (by omega)]; exact (hC.wd hx).1
      refine ⟨x, rfl, hx, _, s_putInverse k15.2.1 (by omega) (by omega) (by omega) (by rw [zup_s, ex, c16]; have := hwd.1; have := hxd.1; omega), ?_⟩
      rintro τ18 ⟨k18, n18⟩
      rw [zup_s, ex, zup_up] at k18
      have hC18 := k15.rows k18 n18.s (fun q hq => by rw [zup_n (by omega), zup_n (by omega)])
      have hr16 := k18 16 (by omega)
      rw [zup_s] at hr16
      have hl16 := hr16.1
      rw [hr16.2.1, zle (by omega) (by omega)]
      refine ⟨fun c2 => ?_, fun c2 => r_full hC18 (f15.tr n18.hi) (by simp only [aSame, hz, hz2]; rw [if_pos c', if_pos (by omega)])⟩
      refine ⟨_, r_doAll hC18 (zup_s _ _ _) c2 (zred_pushs hwd.2.2 hwd.2.1 (zinv_ok hxd.2.1)), ?_⟩
      rintro v11 τ12 ⟨f12, e12, l12, R', k12⟩
      rw [e12, zNil_0 l12]
      have ea : aSame s (nI w) (nI x) = (zb (zNil s (zpushs (sW s w) (zinv (sW s x)))), s) := by simp only [aSame, hz, hz2]; rw [if_pos c', if_neg (by omega)]
      rw [ea]
      refine ⟨fun c => ⟨?_, ⟨R', k12⟩, (f15.tr n18.hi).tr f12⟩, fun c => ⟨?_, ⟨R', k12⟩, (f15.tr n18.hi).tr f12⟩⟩
      · have : zNil s (zpushs (sW s w) (zinv (sW s x))) = false := by simpa using c
        rw [this]; rfl
      · rw [c]; rfl
    · exact ⟨fun c => absurd rfl c, fun _ => r_bad hC (zHi.rf _) (by simp only [aSame, hz, hz2])⟩
  · exact ⟨fun _ => r_bad hC (zHi.rf _) (by simp only [aSame, hz]), fun c => absurd rfl c⟩
theorem cw_order (hC : zC s R τ) (a : Int32) : ww_T l g mX5_order [.inr (.inr (0, 0)), .inl a] τ (ww_QI (zCQ τ (aOrder s a))) := by
  refine b_X5_order (fun E => ⟨_, s_isWord a, ?_⟩)
  rintro v2 τ3 ⟨rfl, ⟨w, hw, rfl, hz, rfl⟩ | ⟨hz, rfl⟩⟩
  · refine ⟨fun _ => ⟨_, r_good hC (by omega), ?_⟩, fun c => absurd c (by decide)⟩
    rintro v5 τ6 ⟨rfl, rfl⟩
    rw [zb_0]
    refine ⟨fun c => ?_, fun c => r_no hC (zHi.rf _) (by simp only [aOrder, hz]; rw [if_neg (by rw [c]; decide)])⟩
    have c' : sG s 6 = true := by simpa using c
    have ea : aOrder s (nI w) = (zord s (sW s w) 1 6, s) := by simp only [aOrder, hz]; rw [if_pos c']
    rw [ea]
    have hwd := (hC.wd hw).2
    have loop : ∀ (k n : Nat) (σ : ww_M) (S : Nat → List Nat), n + k = 7 → 0 < n → zC s S σ → zHi τ σ → zord s (sW s w) n k = zord s (sW s w) 1 6 → ww_W g mX5_order E (ww_QI (zCQ τ (zord s (sW s w) 1 6, s))) 35 [some (.inr (.inr (0, 0))), some (.inl (nI w)), some (.inl (nI n))] [] σ := by
      intro k
      induction k with
      | zero =>
        intro n σ S hn h0 hc hf he
        rw [zord] at he
        refine b_X5_order_35 ⟨fun _ => ⟨he, ⟨S, hc⟩, hf⟩, fun c => ?_⟩
        rw [zlt (by omega) (by omega)] at c; omega
      | succ k ih =>
        intro n σ S hn h0 hc hf he
        rw [zord] at he
        refine b_X5_order_35 ⟨fun c => ?_, fun _ => ?_⟩
        · rw [zlt (by omega) (by omega)] at c; omega
        · have hp := s_makePower (l := E.2.1) (g := g) (k := n + 9) hc hw (by omega)
          rw [zsub (by omega), Nat.add_sub_cancel, if_neg (by omega)] at hp
          refine ⟨_, hp, ?_⟩
          rintro τ2 ⟨k2, f2⟩
          have hr16 := k2.2.1 16 (by omega)
          rw [zup_s] at hr16
          have hl16 := hr16.1
          have c16 : ww_cap 16 = 540 := by decide
          rw [hr16.2.1, zle (by omega) (by omega)]
          refine ⟨fun c2 => ⟨_, r_doAll k2 (zup_s _ _ _) c2 (zpow_red hwd.2.1 n), ?_⟩, fun c2 => ⟨?_, ⟨_, k2⟩, hf.tr f2⟩⟩
          · rintro v11 τ12 ⟨f12, e12, l12, R', k12⟩
            rw [e12, zNil_0 l12, zadd]
            rw [if_neg (by omega)] at he
            refine ⟨fun c3 => ?_, fun c3 => ⟨?_, ⟨R', k12⟩, (hf.tr f2).tr f12⟩⟩
            · rw [if_neg c3] at he
              exact ih (n + 1) τ12 R' (by omega) (by omega) k12 ((hf.tr f2).tr f12) he
            · rw [if_pos c3] at he; exact he
          · rw [if_pos (by omega)] at he; exact he
    exact loop 6 1 τ R (by omega) (by omega) hC (zHi.rf τ) rfl
  · exact ⟨fun c => absurd rfl c, fun _ => r_bad hC (zHi.rf _) (by simp only [aOrder, hz])⟩
theorem cw_relator (hC : zC s R τ) (a b : Int32) : ww_T l g mX5_relator [.inr (.inr (0, 0)), .inl a, .inl b] τ (ww_QI (zCQ τ (aRelator s a b))) := by
  obtain ⟨⟨r1, r2, r3⟩, -, -, -, -, m5, m6⟩ := hC.2.2.2.1
  rcases zn_cases a (sL s).length (by omega) with ⟨r, hr, rfl, hz⟩ | ⟨hz, hra⟩
  · refine b_X5_relator (fun E => ⟨fun c => ?_, fun _ => ⟨fun c => ?_, fun _ => ?_⟩⟩)
    · rw [zlt (by omega) (by omega)] at c; omega
    · rw [r2, zle (by omega) (by omega)] at c; omega
    · rcases zn_cases b 3 (by decide) with ⟨k, hk, rfl, hz2⟩ | ⟨hz2, hrb⟩
      · refine ⟨fun c => ?_, fun _ => ⟨fun _ => ?_, fun c => ?_⟩⟩
        · rw [zlt (by omega) (by omega)] at c; omega
        · have hrow := hC.2.1 (12 + r) (by omega)
          rw [r3 r hr] at hrow
          rw [zeq (by omega) (by omega), zeq (by omega) (by omega)]
          refine ⟨fun e => ⟨r, rfl, by omega, zCQ.eq hC ?_⟩, fun e => ⟨r, rfl, by omega, zCQ.eq hC ?_⟩, fun e1 e2 => ⟨r, rfl, by omega, zCQ.eq hC ?_⟩⟩
          · simp only [aRelator, hz, hz2]; rw [if_pos e, hrow.2.1]
          · simp only [aRelator, hz, hz2]; rw [if_neg (by omega), if_pos e, m5 r hr]; rfl
          · simp only [aRelator, hz, hz2]; rw [if_neg e1, if_neg e2, m6 r hr]; rfl
        · rw [zle (by omega) (by omega)] at c; omega
      · have e : aRelator s (nI r) b = zbad s := by simp only [aRelator, hz, hz2]
        refine ⟨fun _ => r_bad hC (zHi.rf _) e, fun c1 => ⟨fun c2 => ?_, fun _ => r_bad hC (zHi.rf _) e⟩⟩
        exfalso
        rcases hrb with q | q
        · exact c1 q
        · rw [Int32.le_iff_toInt_le] at c2 q
          rw [nI_toInt (by omega)] at c2 q
          omega
  · have e : aRelator s a b = zbad s := by simp only [aRelator, hz]
    refine b_X5_relator (fun E => ⟨fun _ => r_bad hC (zHi.rf _) e, fun c1 => ⟨fun _ => r_bad hC (zHi.rf _) e, fun c2 => ?_⟩⟩)
    rw [r2] at c2
    exact (hra.elim (fun q => c1 q) (fun q => c2 q)).elim
theorem zn_ex {a : Int32} {n : Nat} (hn : n < 2147483648) : (∃ m, m < n ∧ a = nI m) → ∃ m, m < n ∧ a = nI m ∧ zn a n = some m := by
  rintro ⟨m, hm, rfl⟩; exact ⟨m, hm, rfl, zn_nI hm (by omega)⟩
theorem zn_nex {a : Int32} {n : Nat} (hn : n < 2147483648) (h : ¬ ∃ m, m < n ∧ a = nI m) : zn a n = none := by
  rcases zn_cases a n hn with ⟨w, hw, e, -⟩ | ⟨h2, -⟩
  · exact absurd ⟨w, hw, e⟩ h
  · exact h2
theorem cw_member (hC : zC s R τ) (a b : Int32) : ww_T l g mX5_member [.inr (.inr (0, 0)), .inl a, .inl b] τ (ww_QI (zCQ τ (aMember s a b))) := by
  have h84 := hC.ct.1.1
  refine b_X5_member (fun E => ⟨_, s_has hC.ct.1, ?_⟩)
  rintro v2 τ3 ⟨rfl, ⟨hx, rfl⟩ | ⟨hx, rfl⟩⟩
  · obtain ⟨m, hm, rfl, hz⟩ := zn_ex (by omega) hx
    refine ⟨fun c => absurd c (by decide), fun _ => ⟨fun c => ⟨fun c2 => ?_, fun c2 => ⟨_, s_sizeOf hC.ct.1 hC.2.1 hm, ?_⟩⟩, fun c => ?_⟩⟩
    · have hb : ¬ b < 0 := fun q => by
        rw [Int32.lt_iff_toInt_lt] at q
        rw [Int32.le_iff_toInt_le] at c
        have e1 : ((-1 : Int32)).toInt = -1 := by decide
        have e0 : ((0 : Int32)).toInt = 0 := by decide
        rw [e1] at c
        rw [e0] at q
        exact c2 (Int32.toInt_inj.mp (by rw [e1]; omega))
      obtain ⟨k, hk, rfl⟩ := nI_of hb
      have hz2 := zn_nI hk (Nat.le_refl _)
      refine ⟨_, s_letterOf hC.ct.1 hC.2.1 hm hk, ?_⟩
      rintro v8 τ9 ⟨rfl, rfl⟩
      exact zCQ.eq hC (by simp only [aMember, hz]; rw [if_neg c2]; simp only [hz2])
    · rintro v8 τ9 ⟨rfl, rfl⟩
      exact zCQ.eq hC (by simp only [aMember, hz]; rw [if_pos c2])
    · have e1 : ((-1 : Int32)).toInt = -1 := by decide
      have hz2 : zn b 2147483648 = none := by
        unfold zn
        rw [if_neg (fun q => c (by rw [Int32.le_iff_toInt_le, e1]; omega))]
      exact r_bad hC (zHi.rf _) (by simp only [aMember, hz]; rw [if_neg (fun q => c (by rw [q]; decide))]; simp only [hz2])
  · exact ⟨fun _ => r_bad hC (zHi.rf _) (by simp only [aMember, zn_nex (by omega) hx]), fun c => absurd rfl c⟩
theorem cw_good (hC : zC s R τ) (a : Int32) : ww_T l g mX5_good [.inr (.inr (0, 0)), .inl a] τ (ww_QI (zCQ τ (aGood s a))) := by
  rcases zn_cases a 10 (by decide) with ⟨n, hn, rfl, hz⟩ | ⟨hz, hr⟩
  · refine b_X5_good (fun E => ⟨fun c => r_bad hC (zHi.rf _) ?_, fun c => ⟨fun _ => ⟨_, r_good hC (by omega), ?_⟩, fun c2 => ?_⟩⟩)
    · rw [zlt (by omega) (by omega)] at c
      simp only [aGood, hz]; rw [if_pos (by omega)]
    · rw [zlt (by omega) (by omega)] at c
      rintro v5 τ6 ⟨rfl, rfl⟩
      have ea : aGood s (nI n) = (zb (sG s n), s) := by simp only [aGood, hz]; rw [if_neg (by omega)]
      rw [zb_0, ea]
      refine ⟨fun c2 => zCQ.eq hC (by rw [c2]; rfl), fun c2 => zCQ.eq hC ?_⟩
      have : sG s n = true := by simpa using c2
      rw [this]; rfl
    · rw [zle (by omega) (by omega)] at c2; omega
  · have e : aGood s a = zbad s := by simp only [aGood, hz]
    refine b_X5_good (fun E => ⟨fun _ => r_bad hC (zHi.rf _) e, fun c1 => ⟨fun c2 => ?_, fun _ => r_bad hC (zHi.rf _) e⟩⟩)
    exfalso
    rw [Int32.lt_iff_toInt_lt, nI_toInt (by omega)] at c1
    rw [Int32.le_iff_toInt_le, nI_toInt (by omega)] at c2
    rw [Int32.lt_iff_toInt_lt, Int32.le_iff_toInt_le, nI_toInt (by omega), nI_toInt (by omega)] at hr
    omega
theorem cw_alike (hC : zC s R τ) (a b : Int32) : ww_T l g mX5_alike [.inr (.inr (0, 0)), .inl a, .inl b] τ (ww_QI (zCQ τ (aAlike s a b))) := by
  have h84 := hC.ct.1.1
  refine b_X5_alike (fun E => ⟨_, s_has hC.ct.1, ?_⟩)
  rintro v2 τ3 ⟨rfl, ⟨hx, rfl⟩ | ⟨hx, rfl⟩⟩
  · obtain ⟨m, hm, rfl, hz⟩ := zn_ex (by omega) hx
    refine ⟨fun c => absurd c (by decide), fun _ => ⟨_, s_has hC.ct.1, ?_⟩⟩
    rintro v2 τ3 ⟨rfl, ⟨hx, rfl⟩ | ⟨hx, rfl⟩⟩
    · obtain ⟨o, ho, rfl, hz2⟩ := zn_ex (by omega) hx
      refine ⟨fun _ => ⟨_, s_sharedStart hC.ct.1 hC.2.1 hm ho, ?_⟩, fun c => absurd c (by decide)⟩
      rintro v11 τ12 ⟨rfl, rfl⟩
      exact zCQ.eq hC (by simp only [aAlike, hz, hz2])
    · exact ⟨fun c => absurd rfl c, fun _ => r_bad hC (zHi.rf _) (by simp only [aAlike, hz, zn_nex (by omega) hx])⟩
  · exact ⟨fun _ => r_bad hC (zHi.rf _) (by simp only [aAlike, zn_nex (by omega) hx]), fun c => absurd rfl c⟩
theorem cw_rank (hC : zC s R τ) (a : Int32) : ww_T l g mX5_rank [.inr (.inr (0, 0)), .inl a] τ (ww_QI (zCQ τ (aRank s a))) := by
  have go : ∀ (E : ww_E) (p : Nat), (p = 2 ∨ p = 3 ∨ p = 5 ∨ p = 7) → a = nI p → ∃ Q1 : Int32 → ww_M → Prop, ww_T E.2.1 g mX0_rankBy [.inr (.inr (8, 0)), .inl a] τ (ww_QI Q1) ∧ ∀ (v2 : Int32) (τ3 : ww_M), Q1 v2 τ3 → zCQ τ (aRank s a) v2 τ3 := by
    intro E p hp e
    subst e
    have hz : zn (nI p) 8 = some p := zn_nI (by omega) (by omega)
    refine ⟨_, s_rankBy hC.2.2.2.1.1 hC.2.1 (fun r hr => (hC.1.2.2.2.2.1 r hr).2.1) (by omega) (by omega), ?_⟩
    rintro v2 τ3 ⟨rfl, f⟩
    simp only [aRank, hz]
    rw [if_pos hp]
    obtain ⟨h1, h2, h3, h4, h5, h6, h7, h8, h9⟩ := hC
    exact ⟨rfl, ⟨R, h1, h2.keep (fun n hn => f n (by omega)), h3, h4.keep (fun n hn => f n (by omega)) (fun _ _ => rfl), ⟨h5.1, by rw [f _ (by decide)]; exact h5.2.1, fun k hk => by rw [f _ (by decide)]; exact h5.2.2.1 k hk, h5.2.2.2⟩, by rw [f _ (by decide)]; exact h6, by rw [f _ (by decide)]; exact h7, by rw [f _ (by decide)]; exact h8, by rw [f _ (by decide)]; exact h9⟩, fun n hn => f n (by omega)⟩
  refine b_X5_rank (fun E => ⟨fun c => go E 2 (by omega) c, fun n2 => ⟨fun c => go E 3 (by omega) c, fun n3 => ⟨fun c => go E 5 (by omega) c, fun n5 => ⟨fun c => go E 7 (by omega) c, fun n7 => r_bad hC (zHi.rf _) ?_⟩⟩⟩⟩)
  rcases zn_cases a 8 (by decide) with ⟨p, hp, rfl, hz⟩ | ⟨hz, -⟩
  · rw [zeq (by omega) (by omega)] at n2 n3 n5 n7
    simp only [aRank, hz]
    rw [if_neg (by omega)]
  · simp only [aRank, hz]
end MAIN
