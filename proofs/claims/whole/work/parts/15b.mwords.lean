/-! ===== the model: words ===== -/
section MWORDS
variable {l : Launch} {g : ww_G} {τ : ww_M} {s : zS}
theorem zMQ.eq {an : zA} {v : Int32} (hM : zM s τ) (e : an = (v, s)) : zMQ τ an v τ := by rw [e]; exact ⟨rfl, hM, zLow.rf τ⟩
theorem zMQ.x {an : zA} {v : Int32} {τ' : ww_M} (hM : zM s τ) (h : zXM τ τ') (e : an = (v, s)) : zMQ τ an v τ' := by rw [e]; exact ⟨rfl, hM.keep h, h.low⟩
theorem mw_chooser (hM : zM s τ) (a : Int32) : ww_T l g mX6_chooser [.inr (.inr (30, 0)), .inl a] τ (ww_QI (zMQ τ (aChooser s a))) := by
  refine b_X6_chooser (fun E => ⟨_, t_inN a 5 (by omega) (by decide), ?_⟩)
  rintro v2 τ3 ⟨rfl, ⟨k, hk, rfl, hz, rfl⟩ | ⟨hz, rfl⟩⟩
  · refine ⟨fun _ τ4 e4 => ?_, fun c => absurd c (by decide)⟩
    have ea : aChooser s (nI k) = (nI (sK s), uK s k) := by simp only [aChooser, hz]
    rw [ea]
    obtain ⟨m1, m2, m3, m4, m5, m6, m7, m8, m9⟩ := hM
    have ho : ∀ n : ww_N, n ≠ (30, 0) → τ4 n = τ n := fun n hn => by rw [e4, ww_up_f hn]
    have hk' : ∀ k, k ≠ 10 → τ4 (30, 0) k = τ (30, 0) k := fun k hk => by rw [e4, ww_up_k hk]
    refine ⟨m6, ⟨⟨m1.1, m1.2.1, m1.2.2.1, m1.2.2.2.1, m1.2.2.2.2.1, hk⟩, fun q hq => ⟨by rw [ho _ (by decide)]; exact (m2 q hq).1, fun i hi => by rw [ho _ (by decide)]; exact (m2 q hq).2 i hi⟩, ⟨by rw [hk' _ (by decide)]; exact m3.1, fun i hi => by rw [ho _ (by decide)]; exact m3.2 i hi⟩, ⟨by rw [hk' _ (by decide)]; exact m4.1, fun r hr => ⟨by rw [ho _ (by decide)]; exact (m4.2 r hr).1, fun i hi => by rw [ho _ (by decide)]; exact (m4.2 r hr).2 i hi⟩⟩, ⟨by rw [hk' _ (by decide)]; exact m5.1, fun m hm => ⟨⟨by rw [ho _ (by decide)]; exact (m5.2 m hm).1.1, fun i hi => by rw [ho _ (by decide)]; exact (m5.2 m hm).1.2 i hi⟩, by rw [ho _ (by decide)]; exact (m5.2 m hm).2⟩⟩, by rw [e4, ww_up_s]; rfl, by rw [ho _ (by decide)]; exact m7, by rw [ho _ (by decide)]; exact m8, by rw [ho _ (by decide)]; exact m9⟩, fun n hn => ho n (fun e => by rw [e] at hn; exact absurd hn (by decide))⟩
  · exact ⟨fun c => absurd rfl c, fun _ => m_bad hM (zLow.rf _) (by simp only [aChooser, hz])⟩
theorem zM.txt {ts : List Nat} {τ' : ww_M} (hM : zM s τ) (h1 : ts.length ≤ 100) (h2 : ∀ x ∈ ts, x < 128) (h3 : zMt τ' ts) (ho : ∀ n : ww_N, n ≠ (30, 0) → n ≠ (44, 0) → τ' n = τ n) (hk : ∀ k, k ≠ 24 → τ' (30, 0) k = τ (30, 0) k) : zM (uT s ts) τ' := by
  obtain ⟨m1, m2, m3, m4, m5, m6, m7, m8, m9⟩ := hM
  exact ⟨⟨m1.1, h1, h2, m1.2.2.2⟩, fun q hq => ⟨by rw [ho _ (by decide) (by decide)]; exact (m2 q hq).1, fun i hi => by rw [ho _ (by decide) (by decide)]; exact (m2 q hq).2 i hi⟩, h3, ⟨by rw [hk _ (by decide)]; exact m4.1, fun r hr => ⟨by rw [ho _ (by decide) (by decide)]; exact (m4.2 r hr).1, fun i hi => by rw [ho _ (by decide) (by decide)]; exact (m4.2 r hr).2 i hi⟩⟩, ⟨by rw [hk _ (by decide)]; exact m5.1, fun m hm => ⟨⟨by rw [ho _ (by decide) (by decide)]; exact (m5.2 m hm).1.1, fun i hi => by rw [ho _ (by decide) (by decide)]; exact (m5.2 m hm).1.2 i hi⟩, by rw [ho _ (by decide) (by decide)]; exact (m5.2 m hm).2⟩⟩, by rw [hk _ (by decide)]; exact m6, by rw [ho _ (by decide) (by decide)]; exact m7, by rw [ho _ (by decide) (by decide)]; exact m8, by rw [ho _ (by decide) (by decide)]; exact m9⟩
theorem mw_clear (hM : zM s τ) : ww_T l g mX6_clear [.inr (.inr (30, 0))] τ (ww_QI (zMQ τ (aClear s))) := by
  refine b_X6_clear (fun E τ1 e1 => ⟨hM.2.2.1.1, hM.txt (Nat.zero_le _) (fun x hx => absurd hx List.not_mem_nil) ⟨by rw [e1, ww_up_s]; rfl, fun k hk => absurd hk (Nat.not_lt_zero _)⟩ (fun n n1 _ => by rw [e1, ww_up_f n1]) (fun k hk => by rw [e1, ww_up_k hk]), fun n hn => by rw [e1]; exact ww_up_f (fun e => by rw [e] at hn; exact absurd hn (by decide))⟩)
theorem mw_type (hM : zM s τ) (a : Int32) : ww_T l g mX6_type [.inr (.inr (30, 0)), .inl a] τ (ww_QI (zMQ τ (aType s a))) := by
  have l100 := hM.1.2.1
  refine b_X6_type (fun E => ⟨_, t_inN a 128 (by omega) (by decide), ?_⟩)
  rintro v2 τ3 ⟨rfl, ⟨x, hx, rfl, hz, rfl⟩ | ⟨hz, rfl⟩⟩
  · refine ⟨fun _ => ?_, fun c => absurd c (by decide)⟩
    rw [hM.2.2.1.1, zeq (by omega) (by omega)]
    refine ⟨fun c => ⟨(sT s).length, rfl, by omega, fun τ5 e5 τ6 e6 => ?_⟩, fun c => m_full hM (zLow.rf _) (by simp only [aType, hz]; rw [if_neg (by omega)])⟩
    have ea : aType s (nI x) = (nI ((sT s).length + 1), uT s (sT s ++ [x])) := by simp only [aType, hz]; rw [if_pos (by omega)]
    rw [ea]
    have e7 : τ5 (30, 0) 24 = nI (sT s).length := by rw [e5, ww_up_n (by simp)]; exact hM.2.2.1.1
    rw [e7, zadd] at e6
    have ho : ∀ n : ww_N, n ≠ (30, 0) → n ≠ (44, 0) → τ6 n = τ n := fun n n1 n2 => by rw [e6, ww_up_f n1, e5, ww_up_f n2]
    refine ⟨by rw [e6, ww_up_s], hM.txt (by rw [List.length_append]; show (sT s).length + 1 ≤ 100; omega) (fun y hy => ?_) ⟨by rw [e6, ww_up_s, List.length_append]; rfl, fun k hk => ?_⟩ ho (fun k hk => by rw [e6, ww_up_k hk, e5, ww_up_n (by simp)]), fun n hn => ho n (fun e => by rw [e] at hn; exact absurd hn (by decide)) (fun e => by rw [e] at hn; exact absurd hn (by decide))⟩
    · rcases List.mem_append.mp hy with q | q
      · exact hM.1.2.2.1 y q
      · rw [List.mem_singleton.mp q]; exact hx
    · rw [List.length_append, List.length_singleton] at hk
      rw [e6, ww_up_n (by simp), e5]
      by_cases c2 : k = (sT s).length
      · subst c2; rw [ww_up_s, zat_app_e]
      · rw [ww_up_k c2, zat_app_l (by omega)]; exact hM.2.2.1.2 k (by omega)
  · exact ⟨fun c => absurd rfl c, fun _ => m_bad hM (zLow.rf _) (by simp only [aType, hz])⟩
theorem mw_length (hM : zM s τ) (a : Int32) : ww_T l g mX6_length [.inr (.inr (30, 0)), .inl a] τ (ww_QI (zMQ τ (aLength s a))) := by
  refine b_X6_length (fun E => ⟨_, t_isWord a, ?_⟩)
  rintro v2 τ3 ⟨rfl, ⟨w, hw, rfl, hz, rfl⟩ | ⟨hz, rfl⟩⟩
  · refine ⟨fun c => absurd c (by decide), fun _ => ⟨w, rfl, hw, ?_⟩⟩
    rw [(hM.2.1 w hw).1]
    exact zMQ.eq hM (by simp only [aLength, hz])
  · exact ⟨fun _ => m_bad hM (zLow.rf _) (by simp only [aLength, hz]), fun c => absurd rfl c⟩
theorem zn_big (b : Int32) : (∃ k, k < 2147483648 ∧ b = nI k ∧ zn b 2147483648 = some k ∧ nI 0 ≤ b) ∨ (zn b 2147483648 = none ∧ ¬ nI 0 ≤ b) := by
  have hb : b.toInt < 2147483648 := b.toInt_lt
  rw [Int32.le_iff_toInt_le, nI_toInt (by omega)]
  by_cases h : 0 ≤ b.toInt
  · refine Or.inl ⟨b.toInt.toNat, by omega, ?_, by unfold zn; rw [if_pos ⟨h, hb⟩], h⟩
    apply Int32.toInt_inj.mp
    rw [nI_toInt (by omega)]
    omega
  · exact Or.inr ⟨by unfold zn; rw [if_neg (fun q => h q.1)], h⟩
theorem mw_letter (hM : zM s τ) (a b : Int32) : ww_T l g mX6_letter [.inr (.inr (30, 0)), .inl a, .inl b] τ (ww_QI (zMQ τ (aLetter s a b))) := by
  refine b_X6_letter (fun E => ⟨_, t_isWord a, ?_⟩)
  rintro v2 τ3 ⟨rfl, ⟨w, hw, rfl, hz, rfl⟩ | ⟨hz, rfl⟩⟩
  · refine ⟨fun c => absurd c (by decide), fun _ => ?_⟩
    have w60 := (hM.1.1 w hw).1
    rcases zn_big b with ⟨k, hk, rfl, hz2, h0⟩ | ⟨hz2, h0⟩
    · refine ⟨fun _ => ⟨w, rfl, hw, ?_⟩, fun c => absurd h0 c⟩
      rw [(hM.2.1 w hw).1, zle (by omega) (by omega)]
      refine ⟨fun c => zMQ.eq hM (by simp only [aLetter, hz, hz2]; rw [if_neg (by omega)]), fun c => ⟨60 * w + k, by rw [zmul, zadd], by omega, ?_⟩⟩
      rw [(hM.2.1 w hw).2 k (by omega)]
      exact zMQ.eq hM (by simp only [aLetter, hz, hz2]; rw [if_pos (by omega)])
    · exact ⟨fun c => absurd c h0, fun _ => m_bad hM (zLow.rf _) (by simp only [aLetter, hz, hz2])⟩
  · exact ⟨fun _ => m_bad hM (zLow.rf _) (by simp only [aLetter, hz]), fun c => absurd rfl c⟩
theorem mw_adds (hM : zM s τ) (a b : Int32) : ww_T l g mX6_adds [.inr (.inr (30, 0)), .inl a, .inl b] τ (ww_QI (zMQ τ (aAdds s a b))) := by
  refine b_X6_adds (fun E => ⟨_, t_isWord a, ?_⟩)
  rintro v2 τ3 ⟨rfl, ⟨w, hw, rfl, hz, rfl⟩ | ⟨hz, rfl⟩⟩
  · refine ⟨fun c => absurd c (by decide), fun _ => ⟨_, t_isLetter b, ?_⟩⟩
    rintro v8 τ9 ⟨rfl, ⟨x, hx, rfl, hz2, rfl⟩ | ⟨hz2, rfl⟩⟩
    · have hwd := hM.1.1 w hw
      refine ⟨fun _ => ⟨_, t_handWord hM hw, ?_⟩, fun c => absurd c (by decide)⟩
      rintro τ11 ⟨k11, f11⟩
      refine ⟨_, t_push k11 hx (by have := hwd.1; omega), ?_⟩
      rintro τ13 ⟨k13, f13⟩
      exact m_layIfFits (hM.keep (f11.tr f13).x) (f11.tr f13).x.low k13 hw (zred_push hwd.2.2 hwd.2.1 hx) (by simp only [aAdds, hz, hz2])
    · exact ⟨fun c => absurd rfl c, fun _ => m_bad hM (zLow.rf _) (by simp only [aAdds, hz, hz2])⟩
  · exact ⟨fun _ => m_bad hM (zLow.rf _) (by simp only [aAdds, hz]), fun c => absurd rfl c⟩
theorem mw_times (hM : zM s τ) (a b c : Int32) : ww_T l g mX6_times [.inr (.inr (30, 0)), .inl a, .inl b, .inl c] τ (ww_QI (zMQ τ (aTimes s a b c))) := by
  refine b_X6_times (fun E => ⟨_, t_isWord a, ?_⟩)
  rintro v2 τ3 ⟨rfl, ⟨w, hw, rfl, hz, rfl⟩ | ⟨hz, rfl⟩⟩
  · refine ⟨fun c => absurd c (by decide), fun _ => ⟨_, t_isWord b, ?_⟩⟩
    rintro v8 τ9 ⟨rfl, ⟨x, hx, rfl, hz2, rfl⟩ | ⟨hz2, rfl⟩⟩
    · refine ⟨fun c => absurd c (by decide), fun _ => ⟨_, t_isWord c, ?_⟩⟩
      rintro v14 τ15 ⟨rfl, ⟨t, ht, rfl, hz3, rfl⟩ | ⟨hz3, rfl⟩⟩
      · have w1 := hM.1.1 w hw
        have w2 := hM.1.1 x hx
        refine ⟨fun _ => ⟨_, t_handWord hM hw, ?_⟩, fun c => absurd c (by decide)⟩
        rintro τ17 ⟨k17, f17⟩
        refine ⟨_, t_pushWord k17 hx ((hM.2.1 x hx).hf f17) w2.1 w2.2.1 (by have := w1.1; have := w2.1; omega), ?_⟩
        rintro τ19 ⟨k19, f19⟩
        exact m_layIfFits (hM.keep (f17.tr f19).x) (f17.tr f19).x.low k19 ht (zred_pushs w1.2.2 w1.2.1 w2.2.1) (by simp only [aTimes, hz, hz2, hz3])
      · exact ⟨fun c => absurd rfl c, fun _ => m_bad hM (zLow.rf _) (by simp only [aTimes, hz, hz2, hz3])⟩
    · exact ⟨fun _ => m_bad hM (zLow.rf _) (by simp only [aTimes, hz, hz2]), fun c => absurd rfl c⟩
  · exact ⟨fun _ => m_bad hM (zLow.rf _) (by simp only [aTimes, hz]), fun c => absurd rfl c⟩
theorem aKeep_s {w : Nat} {xs : List Nat} (h : xs.length ≤ 60) : aKeep s w xs = (nI xs.length, uW s (zup (sW s) w xs)) := by unfold aKeep; rw [if_neg (by omega)]
theorem mw_inverse (hM : zM s τ) (a b : Int32) : ww_T l g mX6_inverse [.inr (.inr (30, 0)), .inl a, .inl b] τ (ww_QI (zMQ τ (aInverse s a b))) := by
  refine b_X6_inverse (fun E => ⟨_, t_isWord a, ?_⟩)
  rintro v2 τ3 ⟨rfl, ⟨w, hw, rfl, hz, rfl⟩ | ⟨hz, rfl⟩⟩
  · refine ⟨fun c => absurd c (by decide), fun _ => ⟨_, t_isWord b, ?_⟩⟩
    rintro v8 τ9 ⟨rfl, ⟨x, hx, rfl, hz2, rfl⟩ | ⟨hz2, rfl⟩⟩
    · have w1 := hM.1.1 w hw
      refine ⟨fun _ τ10 e10 => ?_, fun c => absurd c (by decide)⟩
      have h0 := zH0 (τ := τ) (v := nI 0) rfl
      rw [← e10] at h0
      refine ⟨_, t_pushInverse h0.1 hw ((hM.2.1 w hw).hf h0.2) w1.1 w1.2.1 (by rw [List.length_nil]; have := w1.1; omega), ?_⟩
      rintro τ12 ⟨k12, f12⟩
      have hl : (zpushs [] (zinv (sW s w))).length ≤ 60 := by have := zpushs0_len (zinv (sW s w)); rw [zinv_len] at this; have := w1.1; omega
      exact m_layWord (hM.keep (h0.2.tr f12).x) (h0.2.tr f12).x.low k12 hl hx (zred_pushs zred_nil zok_nil (zinv_ok w1.2.1)) (by simp only [aInverse, hz, hz2]; exact aKeep_s hl)
    · exact ⟨fun c => absurd rfl c, fun _ => m_bad hM (zLow.rf _) (by simp only [aInverse, hz, hz2])⟩
  · exact ⟨fun _ => m_bad hM (zLow.rf _) (by simp only [aInverse, hz]), fun c => absurd rfl c⟩
theorem zpw_in (b : Int32) : (((-9 : Int64).toInt ≤ b.toInt64.toInt ∧ b.toInt64.toInt ≤ (lN 9).toInt)) ↔ ∃ k, k < 19 ∧ b + nI 9 = nI k := by
  rw [Int32.toInt_toInt64, show (-9 : Int64).toInt = -9 by decide, show (lN 9).toInt = 9 by decide]
  constructor
  · intro h
    have h1 : ∀ i : Nat, i < 19 → Int32.ofInt ((i : Int) - 9) + nI 9 = nI i := by decide
    refine ⟨(b.toInt + 9).toNat, by omega, ?_⟩
    have e : b = Int32.ofInt (((b.toInt + 9).toNat : Int) - 9) := by
      rw [show (((b.toInt + 9).toNat : Int) - 9) = b.toInt by omega, Int32.ofInt_toInt]
    have := h1 (b.toInt + 9).toNat (by omega)
    rw [← e] at this
    exact this
  · rintro ⟨k, hk, h⟩
    have h1 : ∀ k, k < 19 → -9 ≤ (nI k - nI 9).toInt ∧ (nI k - nI 9).toInt ≤ 9 := by decide
    rw [zpw_of h]
    exact h1 k hk
theorem zpwm : ∀ k, k < 19 → (k < 9 → ¬ nI 0 ≤ nI k - nI 9 ∧ 0 - (nI k - nI 9) = nI (9 - k)) ∧ (9 ≤ k → nI 0 ≤ nI k - nI 9 ∧ nI k - nI 9 = nI (k - 9)) := by decide
theorem mw_power (hM : zM s τ) (a b c : Int32) : ww_T l g mX6_power [.inr (.inr (30, 0)), .inl a, .inl b, .inl c] τ (ww_QI (zMQ τ (aPower s a b c))) := by
  refine b_X6_power (fun E => ⟨_, t_isWord a, ?_⟩)
  rintro v2 τ3 ⟨rfl, ⟨w, hw, rfl, hz, rfl⟩ | ⟨hz, rfl⟩⟩
  · refine ⟨fun c => absurd c (by decide), fun _ => ⟨_, t_in _ _ _, ?_⟩⟩
    rintro v8 τ9 ⟨rfl, h⟩
    rcases h with ⟨p1, p2, rfl⟩ | ⟨p1, rfl⟩
    · obtain ⟨k, hk, hb⟩ := (zpw_in b).mp ⟨p1, p2⟩
      have hz2 : zn (b + nI 9) 19 = some k := by rw [hb]; exact zn_nI hk (by omega)
      refine ⟨fun c => absurd c (by decide), fun _ => ⟨_, t_isWord c, ?_⟩⟩
      rintro v14 τ15 ⟨rfl, ⟨t, ht, rfl, hz3, rfl⟩ | ⟨hz3, rfl⟩⟩
      · have w1 := hM.1.1 w hw
        have w60 := w1.1
        refine ⟨fun _ τ16 e16 => ?_, fun c => absurd c (by decide)⟩
        have h0 := zH0 (τ := τ) (v := nI 0) rfl
        rw [← e16] at h0
        have ea : aPower s (nI w) b (nI t) = aKeep s t (if k < 9 then zpow (zinv (sW s w)) (9 - k) else zpow (sW s w) (k - 9)) := by simp only [aPower, hz, hz2, hz3]
        rw [ea]
        have eb := zpw_of hb
        subst eb
        obtain ⟨q1, q2⟩ := zpwm k hk
        by_cases h9 : k < 9
        · obtain ⟨q3, q4⟩ := q1 h9
          rw [if_pos h9]
          have loop : ∀ (n j : Nat) (σ : ww_M), j + n = 9 - k → zH σ (zpow (zinv (sW s w)) j) → zHF τ σ → ww_W g mX6_power E (ww_QI (zMQ τ (aKeep s t (zpow (zinv (sW s w)) (9 - k))))) 41 [some (.inr (.inr (30, 0))), some (.inl (nI w)), some (.inl (nI k - nI 9)), some (.inl (nI t)), some (.inl (nI j))] [] σ := by
            intro n
            induction n with
            | zero =>
              intro j σ hj hh hf
              have e : j = 9 - k := by omega
              subst e
              refine b_X6_power_41 ⟨fun c => absurd c q3, fun _ => b_X6_power_53 ?_⟩
              rw [q4, zle (by omega) (by omega)]
              exact ⟨fun _ => m_layIfFits (hM.keep hf.x) hf.x.low hh ht (zpow_red (zinv_ok w1.2.1) _) rfl, fun c => by omega⟩
            | succ n ih =>
              intro j σ hj hh hf
              have hl := zpow_len (zinv (sW s w)) j
              rw [zinv_len] at hl
              have hl2 : j * (sW s w).length ≤ 8 * 60 := Nat.mul_le_mul (by omega) w60
              refine b_X6_power_41 ⟨fun c => absurd c q3, fun _ => b_X6_power_53 ?_⟩
              rw [q4, zle (by omega) (by omega)]
              refine ⟨fun c => by omega, fun _ => ⟨fun c => absurd c q3, fun _ => ⟨_, t_pushInverse hh hw ((hM.2.1 w hw).hf hf) w60 w1.2.1 (by omega), ?_⟩⟩⟩
              rintro τ7 ⟨k7, f7⟩
              rw [zadd]
              exact ih (j + 1) τ7 (by omega) k7 (hf.tr f7)
          exact loop (9 - k) 0 τ16 (by omega) h0.1 h0.2
        · obtain ⟨q3, q4⟩ := q2 (by omega)
          rw [if_neg h9]
          have loop : ∀ (n j : Nat) (σ : ww_M), j + n = k - 9 → zH σ (zpow (sW s w) j) → zHF τ σ → ww_W g mX6_power E (ww_QI (zMQ τ (aKeep s t (zpow (sW s w) (k - 9))))) 41 [some (.inr (.inr (30, 0))), some (.inl (nI w)), some (.inl (nI k - nI 9)), some (.inl (nI t)), some (.inl (nI j))] [] σ := by
            intro n
            induction n with
            | zero =>
              intro j σ hj hh hf
              have e : j = k - 9 := by omega
              subst e
              refine b_X6_power_41 ⟨fun _ => b_X6_power_53 ?_, fun c => absurd q3 c⟩
              rw [q4, zle (by omega) (by omega)]
              exact ⟨fun _ => m_layIfFits (hM.keep hf.x) hf.x.low hh ht (zpow_red w1.2.1 _) rfl, fun c => by omega⟩
            | succ n ih =>
              intro j σ hj hh hf
              have hl := zpow_len (sW s w) j
              have hl2 : j * (sW s w).length ≤ 8 * 60 := Nat.mul_le_mul (by omega) w60
              refine b_X6_power_41 ⟨fun _ => b_X6_power_53 ?_, fun c => absurd q3 c⟩
              refine ⟨fun c => by rw [q4, zle (by omega) (by omega)] at c; omega, fun _ => ⟨fun _ => ⟨_, t_pushWord hh hw ((hM.2.1 w hw).hf hf) w60 w1.2.1 (by omega), ?_⟩, fun c => absurd q3 c⟩⟩
              rintro τ7 ⟨k7, f7⟩
              rw [zadd]
              exact ih (j + 1) τ7 (by omega) k7 (hf.tr f7)
          exact loop (k - 9) 0 τ16 (by omega) h0.1 h0.2
      · exact ⟨fun c => absurd rfl c, fun _ => m_bad hM (zLow.rf _) (by simp only [aPower, hz, hz2, hz3])⟩
    · have hz2 : zn (b + nI 9) 19 = none := by
        rcases zn_cases (b + nI 9) 19 (by decide) with ⟨k, hk, hb, -⟩ | ⟨h, -⟩
        · exact absurd ((zpw_in b).mpr ⟨k, hk, hb⟩) p1
        · exact h
      exact ⟨fun _ => m_bad hM (zLow.rf _) (by simp only [aPower, hz, hz2]), fun c => absurd rfl c⟩
  · exact ⟨fun _ => m_bad hM (zLow.rf _) (by simp only [aPower, hz]), fun c => absurd rfl c⟩
theorem mw_ring (hM : zM s τ) (a b : Int32) : ww_T l g mX6_ring [.inr (.inr (30, 0)), .inl a, .inl b] τ (ww_QI (zMQ τ (aRing s a b))) := by
  refine b_X6_ring (fun E => ⟨_, t_isWord a, ?_⟩)
  rintro v2 τ3 ⟨rfl, ⟨w, hw, rfl, hz, rfl⟩ | ⟨hz, rfl⟩⟩
  · refine ⟨fun c => absurd c (by decide), fun _ => ⟨_, t_isWord b, ?_⟩⟩
    rintro v8 τ9 ⟨rfl, ⟨x, hx, rfl, hz2, rfl⟩ | ⟨hz2, rfl⟩⟩
    · have w1 := hM.1.1 w hw
      refine ⟨fun _ => ⟨_, t_handWord hM hw, ?_⟩, fun c => absurd c (by decide)⟩
      rintro τ11 ⟨k11, f11⟩
      refine ⟨_, t_ringHand k11, ?_⟩
      rintro τ13 ⟨k13, f13⟩
      have hl : (zring (sW s w)).length ≤ 60 := by rw [zring_len]; have := w1.1; omega
      exact m_layWord (hM.keep (f11.tr f13).x) (f11.tr f13).x.low k13 hl hx (zring_red w1.2.2) (by simp only [aRing, hz, hz2]; exact aKeep_s hl)
    · exact ⟨fun c => absurd rfl c, fun _ => m_bad hM (zLow.rf _) (by simp only [aRing, hz, hz2])⟩
  · exact ⟨fun _ => m_bad hM (zLow.rf _) (by simp only [aRing, hz]), fun c => absurd rfl c⟩
theorem zat_turnm {x : List Nat} {n k : Nat} (hn : n < x.length) (hk : k < x.length) : zat (zturn x n) k = zat x ((n + k) % x.length) := by
  rw [zat_turn (by omega) hk]
  split
  · rename_i h; rw [Nat.mod_eq_of_lt h]
  · rename_i h; rw [Nat.mod_eq_sub_mod (by omega), Nat.mod_eq_of_lt (by omega)]
theorem mw_turn (hM : zM s τ) (a b c : Int32) : ww_T l g mX6_turn [.inr (.inr (30, 0)), .inl a, .inl b, .inl c] τ (ww_QI (zMQ τ (aTurn s a b c))) := by
  refine b_X6_turn (fun E => ⟨_, t_isWord a, ?_⟩)
  rintro v2 τ3 ⟨rfl, ⟨w, hw, rfl, hz, rfl⟩ | ⟨hz, rfl⟩⟩
  · refine ⟨fun c => absurd c (by decide), fun _ => ⟨_, t_inN b 60 (by omega) (by decide), ?_⟩⟩
    rintro v8 τ9 ⟨rfl, ⟨n, hn, rfl, hz2, rfl⟩ | ⟨hz2, rfl⟩⟩
    · refine ⟨fun c => absurd c (by decide), fun _ => ⟨_, t_isWord c, ?_⟩⟩
      rintro v14 τ15 ⟨rfl, ⟨t, ht, rfl, hz3, rfl⟩ | ⟨hz3, rfl⟩⟩
      · have w1 := hM.1.1 w hw
        have w60 := w1.1
        refine ⟨fun _ => ⟨w, rfl, hw, ?_⟩, fun c => absurd c (by decide)⟩
        rw [(hM.2.1 w hw).1, zlt (by omega) (by omega)]
        refine ⟨fun c τ17 e17 => ?_, fun c => m_no hM (zLow.rf _) (by simp only [aTurn, hz, hz2, hz3]; rw [if_neg c])⟩
        have h0 := zH0 (τ := τ) (v := nI 0) rfl
        rw [← e17] at h0
        have tl := zturn_len (x := sW s w) (t := n) (by omega)
        have to8 := zturn_ok w1.2.1 n
        have hl : (zpushs [] (zturn (sW s w) n)).length ≤ 60 := by have := zpushs0_len (zturn (sW s w) n); omega
        have ea : aTurn s (nI w) (nI n) (nI t) = (nI (zpushs [] (zturn (sW s w) n)).length, uW s (zup (sW s) t (zpushs [] (zturn (sW s w) n)))) := by simp only [aTurn, hz, hz2, hz3]; rw [if_pos c]; exact aKeep_s hl
        have loop : ∀ (d k : Nat) (σ : ww_M), k + d = (sW s w).length → zH σ (zpushs [] ((zturn (sW s w) n).take k)) → zHF τ σ → ww_W g mX6_turn E (ww_QI (zMQ τ (aTurn s (nI w) (nI n) (nI t)))) 54 [some (.inr (.inr (30, 0))), some (.inl (nI w)), some (.inl (nI n)), some (.inl (nI t)), some (.inl (nI k))] [] σ := by
          intro d
          induction d with
          | zero =>
            intro k σ hk hh hf
            rw [List.take_of_length_le (by omega)] at hh
            refine b_X6_turn_54 ⟨w, rfl, hw, fun _ => m_layWord (hM.keep hf.x) hf.x.low hh hl ht (zred_pushs zred_nil zok_nil to8) ea, fun c => ?_⟩
            rw [((hM.2.1 w hw).hf hf).1, zle (by omega) (by omega)] at c; omega
          | succ d ih =>
            intro k σ hk hh hf
            have hp := zpushs0_len ((zturn (sW s w) n).take k)
            rw [List.length_take] at hp
            have hmod : (n + k) % (sW s w).length < (sW s w).length := Nat.mod_lt _ (by omega)
            refine b_X6_turn_54 ⟨w, rfl, hw, fun c => ?_, fun _ => ⟨w, rfl, hw, ?_⟩⟩
            · rw [((hM.2.1 w hw).hf hf).1, zle (by omega) (by omega)] at c; omega
            · rw [((hM.2.1 w hw).hf hf).1]
              refine ⟨by rw [zeq (by omega) (by omega)]; omega, 60 * w + (n + k) % (sW s w).length, by rw [zadd, pk_rem (by omega) (by omega) (by omega), zmul, zadd], by omega, ?_⟩
              rw [((hM.2.1 w hw).hf hf).2 _ hmod, ← zat_turnm c (by omega)]
              refine ⟨_, t_push hh (zat_lt to8 (by omega)) (by omega), ?_⟩
              rintro τ9 ⟨k9, f9⟩
              rw [zadd]
              refine ih (k + 1) τ9 (by omega) ?_ (hf.tr f9)
              rw [ztake_succ (by omega), zpushs_app]
              exact k9
        exact loop (sW s w).length 0 τ17 (by omega) h0.1 h0.2
      · exact ⟨fun c => absurd rfl c, fun _ => m_bad hM (zLow.rf _) (by simp only [aTurn, hz, hz2, hz3])⟩
    · exact ⟨fun _ => m_bad hM (zLow.rf _) (by simp only [aTurn, hz, hz2]), fun c => absurd rfl c⟩
  · exact ⟨fun _ => m_bad hM (zLow.rf _) (by simp only [aTurn, hz]), fun c => absurd rfl c⟩
end MWORDS
