/-! ===== the rest of the answers ===== -/
def zall (s : zS) : Nat → Nat
  | 0 => 0
  | w + 1 => zall s w + (sW s w).length
def ztl (s : zS) (k : Nat) : Int32 := if k = 0 then nI (sB s) else if k = 1 then nI (sN s) else if k = 2 then nI (sF s) else if k = 3 then nI (sT s).length else if k = 4 then nI (sL s).length else if k = 5 then nI (sM s).length else if k = 6 then nI (sK s) else nI (zall s 6)
def aTold (s : zS) (a : Int32) : zA := match zn a 8 with
  | none => zbad s
  | some k => (ztl s k, s)
def zdg (h : Int64) : List Nat → Int64
  | [] => h
  | x :: xs => zdg (lN 31 * h + (nI x).toInt64) xs
def zdg1 (xs : List Nat) (h : Int64) : Int64 := zdg (lN 31 * h + (nI xs.length).toInt64) xs
def zdgT (s : zS) : Nat → Int64
  | 0 => lN 1907
  | n + 1 => lN 31 * zdgT s n + (ztl s n).toInt64
def zdgL (s : zS) : Nat → Int64
  | 0 => zdgT s 8
  | n + 1 => zdg1 (zm (sL s) n) (zdgL s n)
def zdgW (s : zS) : Nat → Int64
  | 0 => zdgL s (sL s).length
  | n + 1 => zdg1 (sW s n) (zdgW s n)
def aDigest (s : zS) : Int64 := zdgW s 6
def znx (x : Nat) : Nat := (x * 1103515245 + 12345) % 2147483648
theorem znx_lt (x : Nat) : znx x < 2147483648 := Nat.mod_lt _ (by decide)
def zdrawG (f h : Nat → Nat) : Nat → Nat → List Nat → List Nat
  | 0, _, xs => xs
  | n + 1, x, xs => zdrawG f h n (f x) (zpush xs (h (f x)))
def zd8 (y : Nat) : Nat := y / 65536 % 8
def ze8 (y : Nat) : Nat := y / 1024 % 8
def zdm (n y : Nat) : Nat := y / 65536 % n
def zdraw (x n : Nat) (xs : List Nat) : List Nat := zdrawG znx zd8 n x xs
def aDraw (s : zS) (a b c : Int32) : zA := match zn a 1000000 with
  | none => zbad s
  | some x => match zn b 61 with
    | none => zbad s
    | some n => match zn c 6 with
      | none => zbad s
      | some t => aKeep s t (zdraw x n [])
def zloop (mem : List (List Nat)) (m a : Nat) (xs : List Nat) : List Nat := zpush (zpushs (zpush xs a) (zm mem m)) (zo a)
def zloopsG (mem : List (List Nat)) (f p q : Nat → Nat) : Nat → Nat → List Nat → List Nat
  | 0, _, xs => xs
  | n + 1, x, xs => if 60 < xs.length then xs else zloopsG mem f p q n (f x) (zloop mem (p (f x)) (q (f x)) xs)
def zloops (mem : List (List Nat)) (x n : Nat) (xs : List Nat) : List Nat := zloopsG mem znx (zdm mem.length) ze8 n x xs
def aLoops (s : zS) (a b c : Int32) : zA := match zn a 1000000 with
  | none => zbad s
  | some x => match zn b 7 with
    | none => zbad s
    | some n => match zn c 6 with
      | none => zbad s
      | some t => if (sM s).length = 0 then zno s else aKeep s t (zloops (sM s) x n [])
def zdig (c : Nat) : Nat → List Nat
  | 0 => []
  | k + 1 => zdig c k ++ [c / 8 ^ k % 8]
def zcnt1 (s : zS) (n c : Nat) : Bool := decide ((zpushs [] (zdig c n)).length = n) && zNil s (zpushs [] (zdig c n))
def zcnt (s : zS) (n : Nat) : Nat → Nat
  | 0 => 0
  | c + 1 => zcnt s n c + if zcnt1 s n c = true then 1 else 0
def aNothings (s : zS) (a : Int32) : zA := match zn a 5 with
  | none => zbad s
  | some n => if n = 0 then zbad s else if sG s 6 = true then (nI (zcnt s n (8 ^ n)), s) else zno s
def zTw (A B : List Nat) (t : Nat) (ys : List Nat) : List Nat := zpushs [] (zturn A t ++ (ys ++ (zinv B ++ zinv ys)))
def zT1 (s : zS) (A B : List Nat) (t z : Nat) : Bool := (List.range (sM s).length).any (fun m => decide (z ≤ (zm (sM s) m).length) && zNil s (zTw A B t ((zm (sM s) m).take z)))
def zT0 (s : zS) (A B : List Nat) (t z : Nat) : Bool := if z = 0 then zNil s (zTw A B t []) else zT1 s A B t z
def zTt (s : zS) (A B : List Nat) : Nat → Nat → Int32
  | _, 0 => (-1 : Int32)
  | t, k + 1 => if zT0 s A B t 0 = true then nI (100 * t) else if zT0 s A B t 1 = true then nI (100 * t + 1) else if zT0 s A B t 2 = true then nI (100 * t + 2) else zTt s A B (t + 1) k
def aTurned (s : zS) (a b : Int32) : zA := match zn a 6 with
  | none => zbad s
  | some w => match zn b 6 with
    | none => zbad s
    | some x => if sG s 6 = true ∧ (zring (sW s w)).length ≤ 8 ∧ (zring (sW s x)).length ≤ 8 then (zTt s (zring (sW s w)) (zring (sW s x)) 0 (max 1 (zring (sW s w)).length), s) else zno s
section REST
variable {l : Launch} {g : ww_G} {τ : ww_M} {R : Nat → List Nat} {s : zS}
theorem s_lettersOfAll (hC : zC s R τ) : ww_T l g mX5_lettersOfAll [.inr (.inr (0, 0))] τ (ww_QI (fun v τ' => τ = τ' ∧ v = nI (zall s 6))) := by
  refine b_X5_lettersOfAll (fun E => ?_)
  have loop : ∀ (n k : Nat), k + n = 6 → ww_W g mX5_lettersOfAll E (ww_QI (fun v τ' => τ = τ' ∧ v = nI (zall s 6))) 4 [some (.inr (.inr (0, 0))), some (.inl (nI (zall s k))), some (.inl (nI k))] [] τ := by
    intro n
    induction n with
    | zero =>
      intro k hk
      have e : k = 6 := by omega
      subst e
      exact b_X5_lettersOfAll_4 ⟨fun _ => ⟨rfl, rfl⟩, fun c => by rw [zle (by omega) (by omega)] at c; omega⟩
    | succ n ih =>
      intro k hk
      refine b_X5_lettersOfAll_4 ⟨fun c => by rw [zle (by omega) (by omega)] at c; omega, fun _ => ⟨k, rfl, by omega, ?_⟩⟩
      have h1 := (hC.2.1 k (by omega)).2.1
      rw [(hC.wd (by omega : k < 6)).1] at h1
      rw [h1, zadd, zadd]
      exact ih (k + 1) (by omega)
  exact loop 6 0 rfl
theorem s_tell {k : Nat} (hC : zC s R τ) (hk : k < 8) : ww_T l g mX5_tell [.inr (.inr (0, 0)), .inl (nI k)] τ (ww_QI (fun v τ' => τ = τ' ∧ v = ztl s k)) := by
  obtain ⟨h1, h2, h3, h4, h5, h6, h7, h8, h9⟩ := id hC
  refine b_X5_tell (fun E => ?_)
  rw [zeq (by omega) (by omega), zeq (by omega) (by omega), zeq (by omega) (by omega), zeq (by omega) (by omega), zeq (by omega) (by omega), zeq (by omega) (by omega), zeq (by omega) (by omega)]
  refine ⟨fun c => ?_, fun c => ?_, fun c => ?_, fun c => ?_, fun c => ?_, fun c => ?_, fun c => ?_, fun c0 c1 c2 c3 c4 c5 c6 => ⟨_, s_lettersOfAll hC, ?_⟩⟩
  · subst c; exact ⟨rfl, h7⟩
  · subst c; exact ⟨rfl, h8⟩
  · subst c; exact ⟨rfl, h9⟩
  · subst c; exact ⟨rfl, h5.2.1⟩
  · subst c; exact ⟨rfl, h4.1.2.1⟩
  · subst c; exact ⟨rfl, h4.2.1.2.1⟩
  · subst c; exact ⟨rfl, h6⟩
  · rintro v τ3 ⟨rfl, rfl⟩
    have e : k = 7 := by omega
    subst e
    exact ⟨rfl, rfl⟩
theorem cw_told (hC : zC s R τ) (a : Int32) : ww_T l g mX5_told [.inr (.inr (0, 0)), .inl a] τ (ww_QI (zCQ τ (aTold s a))) := by
  rcases zn_cases a 8 (by decide) with ⟨k, hk, rfl, hz⟩ | ⟨hz, hr⟩
  · refine b_X5_told (fun E => ⟨fun c => ?_, fun _ => ⟨fun _ => ⟨_, s_tell hC hk, ?_⟩, fun c => ?_⟩⟩)
    · rw [zlt (by omega) (by omega)] at c; omega
    · rintro v τ3 ⟨rfl, rfl⟩
      exact zCQ.eq hC (by simp only [aTold, hz])
    · rw [zlt (by omega) (by omega)] at c; omega
  · have e : aTold s a = zbad s := by simp only [aTold, hz]
    refine b_X5_told (fun E => ⟨fun _ => r_bad hC (zHi.rf _) e, fun c => ⟨fun c2 => ?_, fun _ => r_bad hC (zHi.rf _) e⟩⟩)
    exact (hr.elim (fun q => c q) (fun q => zll c2 q)).elim
theorem s_digestOf {r : Nat} {h0 : Int64} {xs : List Nat} (h : zRow τ r xs) (hr : r < 104) : ww_T l g mX5_digestOf [.inr (.inr (21, r)), .inr (.inl h0)] τ (ww_QL (fun v τ' => τ = τ' ∧ v = zdg1 xs h0)) := by
  refine b_X5_digestOf hr (fun E => ?_)
  have hl := h.1
  have hc := ww_cap_le r
  have loop : ∀ (n k : Nat) (x : Int64), k + n = xs.length → zdg x (xs.drop k) = zdg1 xs h0 → ww_W g mX5_digestOf E (ww_QL (fun v τ' => τ = τ' ∧ v = zdg1 xs h0)) 15 [some (.inr (.inr (21, r))), none, none, some (.inr (.inl x)), none, some (.inl (nI k))] [] τ := by
    intro n
    induction n with
    | zero =>
      intro k x hk he
      refine b_X5_digestOf_15 hr ⟨fun _ => ⟨rfl, ?_⟩, fun c => ?_⟩
      · rw [List.drop_eq_nil_of_le (by omega)] at he; exact he
      · rw [h.2.1, zle (by omega) (by omega)] at c; omega
    | succ n ih =>
      intro k x hk he
      refine b_X5_digestOf_15 hr ⟨fun c => ?_, fun _ => ⟨_, s_at h hr (by omega), ?_⟩⟩
      · rw [h.2.1, zle (by omega) (by omega)] at c; omega
      · rintro v τ3 ⟨rfl, rfl⟩
        rw [if_pos (by omega), zadd]
        rw [zdrop_cons (by omega), zdg] at he
        exact ih (k + 1) _ (by omega) he
  rw [h.2.1]
  exact loop xs.length 0 _ (by omega) rfl
theorem cw_digest (hC : zC s R τ) : ww_T l g mX5_digest [.inr (.inr (0, 0))] τ (ww_QL (fun v τ' => τ = τ' ∧ v = aDigest s)) := by
  refine b_X5_digest (fun E => ?_)
  have l3 := hC.1.2.2.2.1
  have loop3 : ∀ (n k : Nat), k + n = 6 → ww_W g mX5_digest E (ww_QL (fun v τ' => τ = τ' ∧ v = aDigest s)) 66 [some (.inr (.inr (0, 0))), some (.inr (.inl (zdgW s k))), none, some (.inl (nI k))] [] τ := by
    intro n
    induction n with
    | zero =>
      intro k hk
      have e : k = 6 := by omega
      subst e
      exact b_X5_digest_66 ⟨fun _ => ⟨rfl, rfl⟩, fun c => by rw [zle (by omega) (by omega)] at c; omega⟩
    | succ n ih =>
      intro k hk
      have hr := hC.2.1 k (by omega)
      rw [(hC.wd (by omega : k < 6)).1] at hr
      refine b_X5_digest_66 ⟨fun c => by rw [zle (by omega) (by omega)] at c; omega, fun _ => ⟨k, rfl, by omega, _, s_digestOf hr (by omega), ?_⟩⟩
      rintro v τ4 ⟨rfl, rfl⟩
      rw [zadd]
      exact ih (k + 1) (by omega)
  have loop2 : ∀ (n k : Nat), k + n = (sL s).length → ww_W g mX5_digest E (ww_QL (fun v τ' => τ = τ' ∧ v = aDigest s)) 33 [some (.inr (.inr (0, 0))), some (.inr (.inl (zdgL s k))), none, some (.inl (nI k))] [] τ := by
    intro n
    induction n with
    | zero =>
      intro k hk
      refine b_X5_digest_33 ⟨fun _ => ?_, fun c => by rw [hC.2.2.2.1.1.2.1, zle (by omega) (by omega)] at c; omega⟩
      have e : k = (sL s).length := by omega
      subst e
      exact loop3 6 0 rfl
    | succ n ih =>
      intro k hk
      have hr := hC.2.1 (12 + k) (by omega)
      rw [hC.2.2.2.1.1.2.2 k (by omega)] at hr
      refine b_X5_digest_33 ⟨fun c => by rw [hC.2.2.2.1.1.2.1, zle (by omega) (by omega)] at c; omega, fun _ => ⟨k, rfl, by omega, _, s_digestOf hr (by omega), ?_⟩⟩
      rintro v τ4 ⟨rfl, rfl⟩
      rw [zadd]
      exact ih (k + 1) (by omega)
  have loop1 : ∀ (n k : Nat), k + n = 8 → ww_W g mX5_digest E (ww_QL (fun v τ' => τ = τ' ∧ v = aDigest s)) 6 [some (.inr (.inr (0, 0))), some (.inr (.inl (zdgT s k))), none, some (.inl (nI k))] [] τ := by
    intro n
    induction n with
    | zero =>
      intro k hk
      have e : k = 8 := by omega
      subst e
      exact b_X5_digest_6 ⟨fun _ => loop2 (sL s).length 0 (by omega), fun c => by rw [zle (by omega) (by omega)] at c; omega⟩
    | succ n ih =>
      intro k hk
      refine b_X5_digest_6 ⟨fun c => by rw [zle (by omega) (by omega)] at c; omega, fun _ => ⟨_, s_tell hC (by omega), ?_⟩⟩
      rintro v τ3 ⟨rfl, rfl⟩
      rw [zadd]
      exact ih (k + 1) (by omega)
  exact loop1 8 0 rfl
theorem zl_next {x : Nat} (h : x < 2147483648) : (lN x * lN 1103515245 + lN 12345) - (lN x * lN 1103515245 + lN 12345) / lN 2147483648 * lN 2147483648 = lN (znx x) := by
  rw [lN_mul, lN_add, pk_lRem (by omega) (by decide) (by decide)]; rfl
theorem zl_dr {x d m : Nat} (h : x < 2147483648) (hd : 0 < d) (hd2 : d < 2147483648) (hm : 0 < m) (hm2 : m < 2147483648) : ((lN x / lN d) - (lN x / lN d) / lN m * lN m).toInt32 = nI (x / d % m) := by
  have : x / d ≤ x := Nat.div_le_self _ _
  rw [pk_lDiv (by omega) hd (by omega), pk_lRem (by omega) hm (by omega), lN_i]
theorem zl_d8 {x : Nat} (h : x < 2147483648) : ((lN x / lN 65536) - (lN x / lN 65536) / lN 8 * lN 8).toInt32 = nI (zd8 x) := zl_dr h (by decide) (by decide) (by decide) (by decide)
theorem zl_e8 {x : Nat} (h : x < 2147483648) : ((lN x / lN 1024) - (lN x / lN 1024) / lN 8 * lN 8).toInt32 = nI (ze8 x) := zl_dr h (by decide) (by decide) (by decide) (by decide)
theorem zl_dm {x m : Nat} (h : x < 2147483648) (h0 : 0 < m) (hm : m < 2147483648) : ((lN x / lN 65536) - (lN x / lN 65536) / lN m * lN m).toInt32 = nI (zdm m x) := zl_dr h (by decide) (by decide) h0 hm
theorem s_nextDraw {x : Nat} (h : x < 2147483648) : ww_T l g mX5_nextDraw [.inr (.inl (lN x))] τ (ww_QL (fun v τ' => τ = τ' ∧ v = lN (znx x))) := b_X5_nextDraw (fun E => ⟨rfl, zl_next h⟩)
theorem zdrawG_s (f h : Nat → Nat) (x n : Nat) (xs : List Nat) : zdrawG f h (n + 1) x xs = zdrawG f h n (f x) (zpush xs (h (f x))) := rfl
theorem zdraw_0 (x : Nat) (xs : List Nat) : zdraw x 0 xs = xs := rfl
theorem zdraw_s (x n : Nat) (xs : List Nat) : zdraw x (n + 1) xs = zdraw (znx x) n (zpush xs (zd8 (znx x))) := zdrawG_s znx zd8 x n xs
theorem zd8_lt (x : Nat) : zd8 x < 8 := Nat.mod_lt _ (by decide)
theorem ze8_lt (x : Nat) : ze8 x < 8 := Nat.mod_lt _ (by decide)
theorem r_put {a : Nat} (hC : zC s R τ) (ha : a < 8) (hl : (R 16).length < 540) : ww_T l g mX2_put [.inr (.inr (21, 16)), .inl (nI a)] τ (ww_QV (fun τ' => zC s (zup R 16 (zpush (R 16) a)) τ' ∧ zHi τ τ')) := by
  refine ww_T.imp (s_put hC.2.1 (by omega) ha (by rw [show ww_cap 16 = 540 by decide]; exact hl)) ?_
  rintro r t ⟨rfl, k, n⟩
  exact ⟨rfl, hC.rows k n.s (fun q hq => zup_n (by omega)), n.hi⟩
theorem cw_draw (hC : zC s R τ) (a b c : Int32) : ww_T l g mX5_draw [.inr (.inr (0, 0)), .inl a, .inl b, .inl c] τ (ww_QI (zCQ τ (aDraw s a b c))) := by
  rcases zn_cases a 1000000 (by decide) with ⟨x, hx, rfl, hz⟩ | ⟨hz, hr⟩
  · rcases zn_cases b 61 (by decide) with ⟨n, hn, rfl, hz2⟩ | ⟨hz2, hr2⟩
    · refine b_X5_draw (fun E => ⟨fun q => by rw [zlt (by omega) (by omega)] at q; omega, fun _ => ⟨fun q => by rw [zlt (by omega) (by omega)] at q; omega, fun _ => ⟨fun q => by rw [zlt (by omega) (by omega)] at q; omega, fun _ => ⟨fun q => by rw [zlt (by omega) (by omega)] at q; omega, fun _ => ⟨_, s_isWord c, ?_⟩⟩⟩⟩⟩)
      rintro v2 τ3 ⟨rfl, ⟨w, hw, rfl, hz3, rfl⟩ | ⟨hz3, rfl⟩⟩
      · refine ⟨fun _ => ⟨_, r_wipe hC, ?_⟩, fun c => absurd c (by decide)⟩
        rintro τ2 ⟨k2, f2⟩
        rw [nI_l (by omega)]
        have loop : ∀ (k j y : Nat) (xs : List Nat) (σ : ww_M), j + k = n → y < 2147483648 → xs.length ≤ j → zok xs → zred xs → zC s (zup R 16 xs) σ → zHi τ σ → zdraw y k xs = zdraw x n [] → ww_W g mX5_draw E (ww_QI (zCQ τ (aDraw s (nI x) (nI n) (nI w)))) 48 [some (.inr (.inr (0, 0))), none, some (.inl (nI n)), some (.inl (nI w)), some (.inr (.inl (lN y))), none, some (.inl (nI j))] [] σ := by
          intro k
          induction k with
          | zero =>
            intro j y xs σ hj hy hl ho hrd hc hf he
            rw [zdraw_0] at he
            refine b_X5_draw_48 ⟨fun _ => r_keep hc hf (zup_s _ _ _) hw hrd (by simp only [aDraw, hz, hz2, hz3]; rw [he]), fun q => by rw [zle (by omega) (by omega)] at q; omega⟩
          | succ k ih =>
            intro j y xs σ hj hy hl ho hrd hc hf he
            rw [zdraw_s] at he
            have h8 : zd8 (znx y) < 8 := zd8_lt _
            refine b_X5_draw_48 ⟨fun q => by rw [zle (by omega) (by omega)] at q; omega, fun _ => ⟨_, s_nextDraw hy, ?_⟩⟩
            rintro v5 τ6 ⟨rfl, rfl⟩
            rw [zl_d8 (znx_lt y)]
            refine ⟨_, r_put hc h8 (by rw [zup_s]; omega), ?_⟩
            rintro τ8 ⟨k8, f8⟩
            rw [zup_s, zup_up] at k8
            rw [zadd]
            have := zpush_len xs (zd8 (znx y))
            exact ih (j + 1) (znx y) _ τ8 (by omega) (znx_lt y) (by omega) (zok_push ho h8) (zred_push hrd ho h8) k8 (hf.tr f8) he
        exact loop n 0 x [] τ2 (by omega) (by omega) (Nat.le_refl _) (fun _ h => absurd h List.not_mem_nil) zred_nil k2 f2 rfl
      · exact ⟨fun c => absurd rfl c, fun _ => r_bad hC (zHi.rf _) (by simp only [aDraw, hz, hz2, hz3])⟩
    · have e : aDraw s (nI x) b c = zbad s := by simp only [aDraw, hz, hz2]
      refine b_X5_draw (fun E => ⟨fun q => by rw [zlt (by omega) (by omega)] at q; omega, fun _ => ⟨fun q => by rw [zlt (by omega) (by omega)] at q; omega, fun _ => ⟨fun q => r_bad hC (zHi.rf _) e, fun q1 => ⟨fun q => r_bad hC (zHi.rf _) e, fun q2 => ?_⟩⟩⟩⟩)
      exact (hr2.elim (fun q => q1 q) (fun q => q2 (Int32.lt_of_lt_of_le (by decide) q))).elim
  · have e : aDraw s a b c = zbad s := by simp only [aDraw, hz]
    refine b_X5_draw (fun E => ⟨fun q => r_bad hC (zHi.rf _) e, fun q1 => ⟨fun q => r_bad hC (zHi.rf _) e, fun q2 => ?_⟩⟩)
    exact (hr.elim (fun q => q1 q) (fun q => q2 (Int32.lt_of_lt_of_le (by decide) q))).elim
end REST
