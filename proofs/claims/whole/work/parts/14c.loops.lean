/-! ===== loops, nothings, turned ===== -/
section LOOPS
variable {l : Launch} {g : ww_G} {τ : ww_M} {R : Nat → List Nat} {s : zS}
theorem zC.mlen (hC : zC s R τ) : (sM s).length ≤ 84 := hC.ct.1.1
theorem zC.m14 (hC : zC s R τ) {m : Nat} (hm : m < (sM s).length) : (zm (sM s) m).length ≤ 14 := hC.ct.1.len hC.2.1 hm
theorem s_putLoop {m a : Nat} (hC : zC s R τ) (hm : m < (sM s).length) (ha : a < 8) (hl : (R 16).length ≤ 60) : ww_T l g mX5_putLoop [.inr (.inr (0, 0)), .inl (nI m), .inl (nI a)] τ (ww_QV (fun τ' => zC s (zup R 16 (zloop (sM s) m a (R 16))) τ' ∧ zHi τ τ')) := by
  have m14 := hC.m14 hm
  have m84 := hC.mlen
  have mok := hC.mok m hm
  refine b_X5_putLoop (fun E => ⟨_, r_put hC ha (by omega), ?_⟩)
  rintro τ2 ⟨k2, f2⟩
  have h1 := zpush_len (R 16) a
  generalize hQ : (ww_QV (fun τ' => zC s (zup R 16 (zloop (sM s) m a (R 16))) τ' ∧ zHi τ τ')) = Q
  have loop : ∀ (n k : Nat) (σ : ww_M), k + n = (zm (sM s) m).length → zC s (zup R 16 (zpushs (zpush (R 16) a) ((zm (sM s) m).take k))) σ → zHi τ σ → ww_W g mX5_putLoop E Q 10 [some (.inr (.inr (0, 0))), some (.inl (nI m)), some (.inl (nI a)), some (.inl (nI k))] [] σ := by
    intro n
    induction n with
    | zero =>
      intro k σ hk hc hf
      subst hQ
      refine b_X5_putLoop_10 ⟨_, s_sizeOf hc.ct.1 hc.2.1 hm, ?_⟩
      rintro v2 τ3 ⟨rfl, rfl⟩
      rw [zle (by omega) (by omega)]
      refine ⟨fun _ => ⟨_, s_opp ha, ?_⟩, fun c => by omega⟩
      rintro v5 τ6 ⟨rfl, rfl⟩
      rw [List.take_of_length_le (by omega)] at hc
      have h2 := zpushs_len (ys := zm (sM s) m) (zpush (R 16) a)
      refine ⟨_, r_put hc (zo_lt ha) (by rw [zup_s]; omega), ?_⟩
      rintro τ8 ⟨k8, f8⟩
      rw [zup_s, zup_up] at k8
      exact ⟨k8, hf.tr f8⟩
    | succ n ih =>
      intro k σ hk hc hf
      have h2 := zpushs_len (ys := (zm (sM s) m).take k) (zpush (R 16) a)
      rw [List.length_take] at h2
      have e8 := zat_lt mok (show k < (zm (sM s) m).length by omega)
      have go : ∀ (τ13 : ww_M), zC s (zup R 16 (zpushs (zpush (R 16) a) ((zm (sM s) m).take (k + 1)))) τ13 → zHi τ τ13 → ww_W g mX5_putLoop E Q 10 [some (.inr (.inr (0, 0))), some (.inl (nI m)), some (.inl (nI a)), some (.inl (nI (k + 1)))] [] τ13 := fun τ13 k13 f13 => ih (k + 1) τ13 (by omega) k13 f13
      clear ih
      subst hQ
      refine b_X5_putLoop_10 ⟨_, s_sizeOf hc.ct.1 hc.2.1 hm, ?_⟩
      rintro v2 τ3 ⟨rfl, rfl⟩
      rw [zle (by omega) (by omega)]
      refine ⟨fun c => by omega, fun _ => ⟨_, s_letterOf hc.ct.1 hc.2.1 hm (by omega), ?_⟩⟩
      rintro v10 τ11 ⟨rfl, rfl⟩
      rw [if_pos (by omega)]
      refine ⟨_, r_put hc e8 (by rw [zup_s]; omega), ?_⟩
      rintro τ13 ⟨k13, f13⟩
      rw [zup_s, zup_up] at k13
      rw [zadd]
      refine go τ13 ?_ (hf.tr f13)
      rw [ztake_succ (by omega), zpushs_app]
      exact k13
  exact loop (zm (sM s) m).length 0 τ2 (by omega) k2 f2
theorem zloopsG_s (mem : List (List Nat)) (f p q : Nat → Nat) (n x : Nat) (xs : List Nat) : zloopsG mem f p q (n + 1) x xs = if 60 < xs.length then xs else zloopsG mem f p q n (f x) (zloop mem (p (f x)) (q (f x)) xs) := rfl
theorem zloops_s (mem : List (List Nat)) (x n : Nat) (xs : List Nat) : zloops mem x (n + 1) xs = if 60 < xs.length then xs else zloops mem (znx x) n (zloop mem (zdm mem.length (znx x)) (ze8 (znx x)) xs) := zloopsG_s mem znx _ ze8 n x xs
theorem zloop_ok {mem : List (List Nat)} {m a : Nat} {xs : List Nat} (hm : zok (zm mem m)) (ha : a < 8) (h : zok xs) (h2 : zred xs) : zok (zloop mem m a xs) ∧ zred (zloop mem m a xs) := by
  have o1 := zok_push h ha
  have o2 := zred_push h2 h ha
  exact ⟨zok_push (zok_pushs o1 hm) (zo_lt ha), zred_push (zred_pushs o2 o1 hm) (zok_pushs o1 hm) (zo_lt ha)⟩
theorem zdm_lt {m x : Nat} (h : 0 < m) : zdm m x < m := Nat.mod_lt _ h
theorem cw_loops (hC : zC s R τ) (a b c : Int32) : ww_T l g mX5_loops [.inr (.inr (0, 0)), .inl a, .inl b, .inl c] τ (ww_QI (zCQ τ (aLoops s a b c))) := by
  have m84 := hC.mlen
  rcases zn_cases a 1000000 (by decide) with ⟨x, hx, rfl, hz⟩ | ⟨hz, hr⟩
  · rcases zn_cases b 7 (by decide) with ⟨n, hn, rfl, hz2⟩ | ⟨hz2, hr2⟩
    · refine b_X5_loops (fun E => ⟨fun q => by rw [zlt (by omega) (by omega)] at q; omega, fun _ => ⟨fun q => by rw [zlt (by omega) (by omega)] at q; omega, fun _ => ⟨fun q => by rw [zlt (by omega) (by omega)] at q; omega, fun _ => ⟨fun q => by rw [zlt (by omega) (by omega)] at q; omega, fun _ => ⟨_, s_isWord c, ?_⟩⟩⟩⟩⟩)
      rintro v2 τ3 ⟨rfl, ⟨w, hw, rfl, hz3, rfl⟩ | ⟨hz3, rfl⟩⟩
      · refine ⟨fun _ => ?_, fun c => absurd c (by decide)⟩
        rw [hC.ct.1.2.1, zeq (by omega) (by omega)]
        refine ⟨fun h0 => ⟨_, r_wipe hC, ?_⟩, fun h0 => r_no hC (zHi.rf _) (by simp only [aLoops, hz, hz2, hz3]; rw [if_pos h0])⟩
        rintro τ2 ⟨k2, f2⟩
        rw [nI_l (by omega)]
        have ea : aLoops s (nI x) (nI n) (nI w) = aKeep s w (zloops (sM s) x n []) := by simp only [aLoops, hz, hz2, hz3]; rw [if_neg h0]
        have loop : ∀ (k j y : Nat) (xs : List Nat) (σ : ww_M), j + k = n → y < 2147483648 → zok xs → zred xs → zC s (zup R 16 xs) σ → zHi τ σ → zloops (sM s) y k xs = zloops (sM s) x n [] → ww_W g mX5_loops E (ww_QI (zCQ τ (aLoops s (nI x) (nI n) (nI w)))) 65 [some (.inr (.inr (0, 0))), none, some (.inl (nI n)), some (.inl (nI w)), some (.inr (.inl (lN y))), none, some (.inl (nI j))] [] σ := by
          intro k
          induction k with
          | zero =>
            intro j y xs σ hj hy ho hrd hc hf he
            have he : xs = zloops (sM s) x n [] := he
            refine b_X5_loops_65 ⟨fun _ => r_keep hc hf (zup_s _ _ _) hw hrd (by rw [ea, he]), fun q => by rw [zle (by omega) (by omega)] at q; omega⟩
          | succ k ih =>
            intro j y xs σ hj hy ho hrd hc hf he
            rw [zloops_s] at he
            have hr16 := hc.2.1 16 (by omega)
            rw [zup_s] at hr16
            have hl16 := hr16.1
            have c16 : ww_cap 16 = 540 := by decide
            refine b_X5_loops_65 ⟨fun q => by rw [zle (by omega) (by omega)] at q; omega, fun _ => ?_⟩
            rw [hr16.2.1, zlt (by omega) (by omega)]
            refine ⟨fun c1 => ?_, fun c1 => ⟨_, s_nextDraw hy, ?_⟩⟩
            · rw [if_pos c1] at he
              exact r_keep hc hf (zup_s _ _ _) hw hrd (by rw [ea, he])
            · rw [if_neg c1] at he
              rintro v5 τ6 ⟨rfl, rfl⟩
              rw [hc.ct.1.2.1, nI_l (by omega), zl_dm (znx_lt y) (by omega) (by omega), zl_e8 (znx_lt y)]
              refine ⟨by rw [pk_lEQ (by omega) (by omega)]; exact h0, ?_⟩
              have hm := zdm_lt (m := (sM s).length) (x := znx y) (by omega)
              refine ⟨_, s_putLoop hc hm (ze8_lt _) (by rw [zup_s]; omega), ?_⟩
              rintro τ8 ⟨k8, f8⟩
              rw [zup_s, zup_up] at k8
              rw [zadd]
              have := zloop_ok (hC.mok _ hm) (ze8_lt (znx y)) ho hrd
              exact ih (j + 1) (znx y) _ τ8 (by omega) (znx_lt y) this.1 this.2 k8 (hf.tr f8) he
        exact loop n 0 x [] τ2 (by omega) (by omega) (fun _ h => absurd h List.not_mem_nil) zred_nil k2 f2 rfl
      · exact ⟨fun c => absurd rfl c, fun _ => r_bad hC (zHi.rf _) (by simp only [aLoops, hz, hz2, hz3])⟩
    · have e : aLoops s (nI x) b c = zbad s := by simp only [aLoops, hz, hz2]
      refine b_X5_loops (fun E => ⟨fun q => by rw [zlt (by omega) (by omega)] at q; omega, fun _ => ⟨fun q => by rw [zlt (by omega) (by omega)] at q; omega, fun _ => ⟨fun q => r_bad hC (zHi.rf _) e, fun q1 => ⟨fun q => r_bad hC (zHi.rf _) e, fun q2 => ?_⟩⟩⟩⟩)
      exact (hr2.elim (fun q => q1 q) (fun q => q2 (Int32.lt_of_lt_of_le (by decide) q))).elim
  · have e : aLoops s a b c = zbad s := by simp only [aLoops, hz]
    refine b_X5_loops (fun E => ⟨fun q => r_bad hC (zHi.rf _) e, fun q1 => ⟨fun q => r_bad hC (zHi.rf _) e, fun q2 => ?_⟩⟩)
    exact (hr.elim (fun q => q1 q) (fun q => q2 (Int32.lt_of_lt_of_le (by decide) q))).elim
theorem zc8 {n c k : Nat} (hn : n < 5) (hc : c < 8 ^ n) (hk : k < 4) : (nI c >>> ((nI 3 * nI k) &&& 31)) &&& nI 7 = nI (c / 8 ^ k % 8) := by
  have h4 : 8 ^ n ≤ 8 ^ 4 := Nat.pow_le_pow_right (by decide) (by omega)
  have e4 : 8 ^ 4 = 4096 := by decide
  have e8 : 8 ^ k = 2 ^ (3 * k) := by rw [Nat.pow_mul]
  have hs : ∀ k, k < 4 → ((((nI 3 * nI k) &&& 31)).toBitVec.smod 32).toNat = 3 * k := by decide
  rw [pk_shrN (by omega) _ (3 * k) (hs k hk), ← e8]
  have : c / 8 ^ k ≤ c := Nat.div_le_self _ _
  rw [pk_andN (by omega) 3 (by decide)]
theorem zr8 : ∀ n, n < 5 → nI 1 <<< ((nI 3 * nI n) &&& 31) = nI (8 ^ n) ∧ 8 ^ n ≤ 4096 := by decide
theorem zdig_len (c : Nat) : ∀ k, (zdig c k).length = k
  | 0 => rfl
  | k + 1 => by rw [zdig, List.length_append, zdig_len c k]; rfl
theorem zdig_ok (c : Nat) : ∀ k, zok (zdig c k)
  | 0 => fun _ h => absurd h List.not_mem_nil
  | k + 1 => zok_app (zdig_ok c k) (fun x hx => by rw [List.mem_singleton.mp hx]; exact Nat.mod_lt _ (by decide))
theorem zok_nil : zok [] := fun _ h => absurd h List.not_mem_nil
theorem cw_nothings (hC : zC s R τ) (a : Int32) : ww_T l g mX5_nothings [.inr (.inr (0, 0)), .inl a] τ (ww_QI (zCQ τ (aNothings s a))) := by
  rcases zn_cases a 5 (by decide) with ⟨n, hn, rfl, hz⟩ | ⟨hz, hr⟩
  · refine b_X5_nothings (fun E => ?_)
    rw [zlt (by omega) (by omega), zle (by omega) (by omega)]
    refine ⟨fun c => r_bad hC (zHi.rf _) (by simp only [aNothings, hz]; rw [if_pos (by omega)]), fun n0 => ⟨fun _ => ⟨_, r_good hC (by omega), ?_⟩, fun c => by omega⟩⟩
    rintro v5 τ6 ⟨rfl, rfl⟩
    rw [zb_0]
    refine ⟨fun c => ?_, fun c => r_no hC (zHi.rf _) (by simp only [aNothings, hz]; rw [if_neg (by omega), if_neg (by rw [c]; decide)])⟩
    have c' : sG s 6 = true := by simpa using c
    have ea : aNothings s (nI n) = (nI (zcnt s n (8 ^ n)), s) := by simp only [aNothings, hz]; rw [if_neg (by omega), if_pos c']
    rw [ea]
    obtain ⟨e8, l8⟩ := zr8 n hn
    rw [e8]
    have loop : ∀ (k c : Nat) (σ : ww_M) (S : Nat → List Nat), c + k = 8 ^ n → zC s S σ → zHi τ σ → ww_W g mX5_nothings E (ww_QI (zCQ τ (nI (zcnt s n (8 ^ n)), s))) 47 [some (.inr (.inr (0, 0))), some (.inl (nI n)), some (.inl (nI (zcnt s n c))), some (.inl (nI (8 ^ n))), some (.inl (nI c)), none] [] σ := by
      intro k
      induction k with
      | zero =>
        intro c σ S hk hc hf
        have e : c = 8 ^ n := by omega
        subst e
        exact b_X5_nothings_47 ⟨fun _ => ⟨rfl, ⟨S, hc⟩, hf⟩, fun q => by rw [zle (by omega) (by omega)] at q; omega⟩
      | succ k ih =>
        intro c σ S hk hc hf
        have next : ∀ (σ' : ww_M) (S' : Nat → List Nat), zC s S' σ' → zHi τ σ' → ww_W g mX5_nothings E (ww_QI (zCQ τ (nI (zcnt s n (8 ^ n)), s))) 47 [some (.inr (.inr (0, 0))), some (.inl (nI n)), some (.inl (nI (zcnt s n (c + 1)))), some (.inl (nI (8 ^ n))), some (.inl (nI (c + 1))), none] [] σ' := fun σ' S' h1 h2 => ih (c + 1) σ' S' (by omega) h1 h2
        clear ih
        refine b_X5_nothings_47 ⟨fun q => by rw [zle (by omega) (by omega)] at q; omega, fun _ => ⟨_, r_wipe hc, ?_⟩⟩
        rintro τ2 ⟨k2, f2⟩
        have inner : ∀ (d j : Nat) (σ' : ww_M), j + d = n → zC s (zup S 16 (zpushs [] (zdig c j))) σ' → zHi τ σ' → ww_W g mX5_nothings E (ww_QI (zCQ τ (nI (zcnt s n (8 ^ n)), s))) 63 [some (.inr (.inr (0, 0))), some (.inl (nI n)), some (.inl (nI (zcnt s n c))), some (.inl (nI (8 ^ n))), some (.inl (nI c)), some (.inl (nI j))] [] σ' := by
          intro d
          induction d with
          | zero =>
            intro j σ' hj hc' hf'
            have e : j = n := by omega
            subst e
            have h16 := hc'.2.1 16 (by omega)
            rw [zup_s] at h16
            have hl := zpushs_len (ys := zdig c j) []
            rw [zdig_len] at hl
            simp only [List.length_nil] at hl
            refine b_X5_nothings_63 ⟨fun _ => ?_, fun q => by rw [zle (by omega) (by omega)] at q; omega⟩
            rw [h16.2.1, zeq (by omega) (by omega)]
            have hrd : zred (zpushs [] (zdig c j)) := zred_pushs zred_nil zok_nil (zdig_ok c j)
            refine ⟨fun q => b_X5_nothings_108 ⟨_, r_doAll hc' (zup_s _ _ _) (by omega) hrd, ?_⟩, fun q => b_X5_nothings_108 ⟨_, r_doAll hc' (zup_s _ _ _) (by omega) hrd, ?_⟩⟩
            · rintro v2 τ3 ⟨f3, e3, l3, R', k3⟩
              refine ⟨fun _ => ?_, fun q2 => absurd rfl q2⟩
              have ez : zcnt s j (c + 1) = zcnt s j c := by rw [zcnt, zcnt1, decide_eq_false q]; rfl
              have := next τ3 R' k3 (hf'.tr f3)
              rw [ez] at this
              rw [zadd]
              exact this
            · rintro v2 τ3 ⟨f3, e3, l3, R', k3⟩
              rw [e3, zNil_0 l3]
              refine ⟨fun q2 => absurd q2 (by decide), fun _ => ⟨fun q2 => ?_, fun q2 => ?_⟩⟩
              · have ez : zcnt s j (c + 1) = zcnt s j c := by rw [zcnt, zcnt1]; simp [q2]
                have := next τ3 R' k3 (hf'.tr f3)
                rw [ez] at this
                rw [zadd]
                exact this
              · have ez : zcnt s j (c + 1) = zcnt s j c + 1 := by rw [zcnt, zcnt1]; simp [q2, q]
                have := next τ3 R' k3 (hf'.tr f3)
                rw [ez] at this
                rw [zadd, zadd]
                exact this
          | succ d ih2 =>
            intro j σ' hj hc' hf'
            have hl := zpushs_len (ys := zdig c j) []
            rw [zdig_len] at hl
            simp only [List.length_nil] at hl
            refine b_X5_nothings_63 ⟨fun q => by rw [zle (by omega) (by omega)] at q; omega, fun _ => ?_⟩
            rw [zc8 (n := n) hn (by omega) (by omega)]
            refine ⟨_, r_put hc' (Nat.mod_lt _ (by decide)) (by rw [zup_s]; omega), ?_⟩
            rintro τ8 ⟨k8, f8⟩
            rw [zup_s, zup_up] at k8
            rw [zadd]
            refine ih2 (j + 1) τ8 (by omega) ?_ (hf'.tr f8)
            rw [zdig, zpushs_app]
            exact k8
        exact inner n 0 τ2 (by omega) k2 (hf.tr f2)
    exact loop (8 ^ n) 0 τ R (by omega) hC (zHi.rf τ)
  · have e : aNothings s a = zbad s := by simp only [aNothings, hz]
    refine b_X5_nothings (fun E => ⟨fun q => r_bad hC (zHi.rf _) e, fun q1 => ⟨fun q2 => ?_, fun q => r_bad hC (zHi.rf _) e⟩⟩)
    exfalso
    rw [Int32.lt_iff_toInt_lt] at q1
    rw [Int32.le_iff_toInt_le] at q2
    rw [Int32.lt_iff_toInt_lt, Int32.le_iff_toInt_le] at hr
    rw [nI_toInt (by omega)] at q1 q2
    rw [nI_toInt (by omega), nI_toInt (by omega)] at hr
    omega
end LOOPS
