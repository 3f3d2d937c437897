/-! ===== a constructor's steps: new rows, arrays of rows, arrays of arrays ===== -/
theorem vz_r_e {cap b j : Nat} (h : (j - b) % 2 = 0) : vz_r cap b j = .inl (2, [some (.inr (j + 1)), some (.inl 0)]) := if_pos h
theorem vz_r_o {cap b j : Nat} (h : (j - b) % 2 = 1) : vz_r cap b j = .inr (.inl cap) := if_neg (by omega)
theorem vz_r_u {cap b j M : Nat} (h : j < M) (hM : (M - b) % 2 = 0) (hb : b ≤ j) : vd_u (vz_r cap b j) ≤ M := by
  by_cases h2 : (j - b) % 2 = 0
  · rw [vz_r_e h2]
    show max (j + 1 + 1) (max 0 0) ≤ M
    omega
  · rw [vz_r_o (by omega)]
    exact Nat.zero_le _
section VXR
variable {p : Program} {l : Launch} {e : Env} {R : Room} {s : State} {m : MethodId} {args : Array Value} {below : List Frame} {meth : Method} {c : Code} {H : Heap} {locs : List Loc} {cells slots : Nat} {Q : State → Prop}
variable {cc : ByteArray} {nL pc : Nat} {ls : Array Slot} {rest : List Value} {D : va_G} {A : Nat → Prop} {t : Nat → ClassId} {own : String} {o0 : va_E} {k ci N a : Nat} {fs : List vd_x} {ad : Nat → Nat} {d : vd}
/-- new Row, dup, bipush, invokespecial -/
theorem vx_row {ix iy : Nat} {bp : Int} (cap : Nat) (X : vX p s m args meth c D t A own cc nL) (Hw : vx D A s.heap t o0 k d N ad H locs) (hls : ls.size = nL) (hk : k < N) (hcap : cap ≤ 100) (hbp : (Int8.ofInt bp).toInt32 = nI cap) (hd0 : vz_d N = .inl (2, [some (.inr (N + 1)), some (.inl 0)])) (hd1 : vz_d (N + 1) = .inr (.inl cap)) (hu : vd_u d ≤ N) (hg : ∀ j, j < N → j ≠ 0 → j ≠ k → vd_u (vz_d j) ≤ N)
    (hcl : Cond.classLink own ix RX2 ∈ ww_ws) (hlk : Cond.methodLink own iy yX2_init ∈ ww_ws) (hrm : ((Value.ref 0 :: rest).map fun v => v.category).sum ≤ 8) (hfr : 2 ≤ R.frames) (hlo : 61 ≤ R.locals) (hcells : cells + 2 ≤ R.cells) (hslots : slots + 2 + cap ≤ R.slots)
    (h0 : decode cc pc = .ok (.new ix, 3)) (h1 : decode cc (pc + 3) = .ok (.dup, 1)) (h2 : decode cc (pc + 4) = .ok (.bipush bp, 2)) (h3 : decode cc (pc + 6) = .ok (.invokespecial iy, 3))
    (kk : ∀ (ad' : Nat → Nat) (H1 : Heap) (locs1 : List Loc), (∀ i, i < N → ad' i = ad i) → vx D A s.heap t o0 k d (N + 2) ad' H1 locs1 → W p l e R s m args below meth c H1 locs1 (cells + 2) (slots + 2 + cap) Q (F0 m (pc + 9) ls (.ref (ad' N) :: rest))) : W p l e R s m args below meth c H locs cells slots Q (F0 m pc ls rest) := by
  obtain ⟨hx, hb, hml, hts, hown, hin, hK, hA⟩ := X
  obtain ⟨hP, hD, hS⟩ := Hw
  refine vs_newRow (own := own) cap hx hb hml hls hts hown hK hP hD hS hA hcap hbp hcl wj_X2 hlk hrm hfr hlo hcells hslots h0 h1 h2 h3 (fun ad' H1 locs1 hB hP hD hS => ?_)
  refine kk ad' H1 locs1 hB (vx_set hP hD hS fun j hj => ?_)
  by_cases e0 : j = N
  · subst e0
    rw [vs_c_s, vz_o (by omega) (by omega), hd0]
    rfl
  · rw [vs_c_n e0]
    by_cases e1 : j = N + 1
    · subst e1
      rw [vs_c_s, vz_o (by omega) (by omega), hd1]
      rfl
    · rw [vs_c_n e1, vs_c_n e0]
      by_cases h : j = k
      · subst h
        rw [vz_k, vz_k, vd_congr hB d hu]
      · exact vz_old hg hB (by omega) h
/-- while rows are made for the array at ka: w of them are there -/
def vy (t : Nat → ClassId) (o0 : va_E) (k : Nat) (d : vd) (ka n w : Nat) (ad : Nat → Nat) (j : Nat) : va_E := if j = ka then vd_q (t 1) n (ka + 1) 2 w ad else vz t o0 k d ad j
theorem vy_up {c : ClassId} {n b w : Nat} {ad : Nat → Nat} : (Sum.inl (c, n, Sum.inr (Sum.inr (Sum.inr (Sum.inr (va_up (fun i => if i < w then some (ad (b + 2 * i)) else none) w (some (ad (b + 2 * w)))))))) : va_E) = vd_q c n b 2 (w + 1) ad := by
  unfold vd_q
  have e : va_up (fun i => if i < w then some (ad (b + 2 * i)) else none) w (some (ad (b + 2 * w))) = fun i => if i < w + 1 then some (ad (b + 2 * i)) else none := by
    funext i
    unfold va_up
    by_cases h : i = w
    · subst h
      rw [if_pos rfl, if_pos (by omega)]
    · rw [if_neg h]
      show (if i < w then some (ad (b + 2 * i)) else none) = _
      by_cases h2 : i < w
      · rw [if_pos h2, if_pos (by omega)]
      · rw [if_neg h2, if_neg (by omega)]
  rw [e]
set_option maxHeartbeats 4000000 in
theorem vx_loop {ix iy idx jf n cap ka p0 p2 : Nat} {bp off off2 : Int} (X : vX p s m args meth c D t A own cc nL) (hk : k ≠ ka) (hkN : k < ka + 1) (hL : 1 < nL) (hn : n ≤ 84) (hcap : cap ≤ 100) (hbp : (Int8.ofInt bp).toInt32 = nI cap) (hka : ka ≠ 0) {T : u_T} {NF : Nat} (hc : vwCl[ci]? = some (own, T, NF)) (hj : jf < NF) (hlink : Cond.fieldLink own idx (T jf).1 (T jf).2.1 (T jf).2.2.1 ∈ ww_ws) (hfs : fs[jf]? = some (some (.inr ka))) (hu : vd_m fs ≤ ka + 1)
    (hg : ∀ j, j < ka + 1 → j ≠ 0 → j ≠ k → j ≠ ka → vd_u (vz_d j) ≤ ka + 1) (hrow : ∀ j, j < ka + 1 + 2 * n → ka + 1 ≤ j → vz_d j = vz_r cap (ka + 1) j)
    (hcl : Cond.classLink own ix RX2 ∈ ww_ws) (hlk : Cond.methodLink own iy yX2_init ∈ ww_ws) (hfr : 2 ≤ R.frames) (hlo : 61 ≤ R.locals) (hcells : cells + 2 * n ≤ R.cells) (hslots : slots + n * (2 + cap) ≤ R.slots)
    (hpush : ∀ (H : Heap) (locs : List Loc) (cells slots : Nat) (ls : Array Slot) (st : List Value), W p l e R s m args below meth c H locs cells slots Q (F0 m p2 ls (.int (nI n) :: st)) → W p l e R s m args below meth c H locs cells slots Q (F0 m (p0 + 1) ls st))
    (h0 : decode cc p0 = .ok (.iload_n 1, 1)) (h2 : decode cc p2 = .ok (.if_icmp .ge off, 3)) (ht : (p2 : Int) + off = ((p2 + 24 : Nat) : Int)) (h3 : decode cc (p2 + 3) = .ok (.aload_n 0, 1)) (h4 : decode cc (p2 + 4) = .ok (.getfield idx, 3)) (h5 : decode cc (p2 + 7) = .ok (.iload_n 1, 1)) (h6 : decode cc (p2 + 8) = .ok (.new ix, 3)) (h7 : decode cc (p2 + 11) = .ok (.dup, 1)) (h8 : decode cc (p2 + 12) = .ok (.bipush bp, 2)) (h9 : decode cc (p2 + 14) = .ok (.invokespecial iy, 3)) (h10 : decode cc (p2 + 17) = .ok (.aastore, 1)) (h11 : decode cc (p2 + 18) = .ok (.iinc 1 1, 3)) (h12 : decode cc (p2 + 21) = .ok (.goto off2, 3)) (ht2 : ((p2 + 21 : Nat) : Int) + off2 = (p0 : Int))
    (kk : ∀ (ad' : Nat → Nat) (H1 : Heap) (locs1 : List Loc) (ls : Array Slot), (∀ i, i < ka + 1 → ad' i = ad i) → va_P D vwCl (vs_l (ka + 1 + 2 * n) ad' (vy t o0 k (.inl (ci, fs)) ka n n ad')) H1 → va_D A (vs_l (ka + 1 + 2 * n) ad' (vy t o0 k (.inl (ci, fs)) ka n n ad')) → va_S A s.heap H1 locs1 → lv_has ls nL [(1, .int (nI n)), (0, .ref a)] → W p l e R s m args below meth c H1 locs1 (cells + 2 * n) (slots + n * (2 + cap)) Q (F0 m (p2 + 24) ls [])) :
    ∀ (r w : Nat), w + r = n → ∀ (ad' : Nat → Nat) (H1 : Heap) (locs1 : List Loc) (ls : Array Slot), (∀ i, i < ka + 1 → ad' i = ad i) → ad' k = a → va_P D vwCl (vs_l (ka + 1 + 2 * w) ad' (vy t o0 k (.inl (ci, fs)) ka n w ad')) H1 → va_D A (vs_l (ka + 1 + 2 * w) ad' (vy t o0 k (.inl (ci, fs)) ka n w ad')) → va_S A s.heap H1 locs1 → lv_has ls nL [(1, .int (nI w)), (0, .ref a)] → W p l e R s m args below meth c H1 locs1 (cells + 2 * w) (slots + w * (2 + cap)) Q (F0 m p0 ls []) := by
  have X0 := X
  obtain ⟨hx, hb, hml, hts, hown, hin, hK, hA⟩ := X
  obtain ⟨hinl, ty0, hty, hnm⟩ := ww_clin ci _ _ _ hc
  intro r
  induction r with
  | zero =>
    intro w hw ad' H1 locs1 ls hB ha hP hD hS hl
    have hw' : w = n := by omega
    subst hw'
    refine lv_iload_n hx hb h0 rfl (lv_at hl 0 rfl) ?_
    refine hpush _ _ _ _ _ _ ?_
    refine lv_icmp_ge hx hb h2 ht (fun _ => kk ad' H1 locs1 ls hB hP hD hS hl) (fun h => absurd (nI_le (Nat.le_refl w) (by omega)) h)
  | succ r ih =>
    intro w hw ad' H1 locs1 ls hB ha hP hD hS hl
    have hwn : w < n := by omega
    have hmul : (w + 1) * (2 + cap) ≤ n * (2 + cap) := Nat.mul_le_mul_right _ hwn
    have hm2 : (w + 1) * (2 + cap) = w * (2 + cap) + 2 + cap := by rw [Nat.succ_mul, Nat.add_assoc]
    refine lv_iload_n hx hb h0 rfl (lv_at hl 0 rfl) ?_
    refine hpush _ _ _ _ _ _ ?_
    refine lv_icmp_ge hx hb h2 ht (fun h => absurd h (nI_ge hwn (by omega))) (fun _ => ?_)
    refine lv_aload_n hx hb h3 rfl (lv_at hl 1 rfl) ?_
    have hck : vy t o0 k (.inl (ci, fs)) ka n w ad' k = .inr (ci, fs.map (vd_o ad')) := by
      unfold vy
      rw [if_neg hk, vz_k]
      rfl
    refine va_get (ref := (T jf).1) (C := own) (T := T) (N := NF) (ci := ci) (v := .ref (ad' ka)) hx hb hts hinl hown hK hP k (by rw [vs_get (by omega), hck, ha]) hc jf hj (hts _ hlink) (fun _ h9 => h9) (by rw [List.getElem?_map, hfs]; rfl) h4 ?_
    refine lv_iload_n hx hb h5 rfl (lv_at hl 0 rfl) ?_
    refine vs_newRow (own := own) cap hx hb hml hl.1 hts hown hK hP hD hS hA hcap hbp hcl wj_X2 hlk (Nat.le_of_ble_eq_true rfl) hfr hlo (by omega) (by omega) h6 h7 h8 h9 (fun ad2 H2 locs2 hB2 hP hD hS => ?_)
    have eka : ad2 ka = ad' ka := hB2 ka (by omega)
    have hin2 : vp_in (nI w) n := vp_in_nI hwn (by omega)
    have hcl2 : (nI w).toNatClampNeg = w := nI_clamp (by omega)
    refine va_astq (r := (RX2, TX2, 2)) hx hb hK hP hD hS ka 1 (ka + 1 + 2 * w) 2 (n := n) (f := fun i => if i < w then some (ad' (ka + 1 + 2 * i)) else none) (vs := [.ref (ad2 (ka + 1 + 2 * w + 1)), .int 0]) (v := ad2 (ka + 1 + 2 * w)) (cA := t 1) (by rw [vs_get (by omega), eka, vs_c_n (by omega), vs_c_n (by omega), vs_c_n (by omega)]; unfold vy; rw [if_pos rfl]; rfl) rfl (by rw [vs_get (by omega), vs_c_s]) rfl hin2 h10 (fun H3 locs3 hP hD hS => ?_)
    rw [hcl2, ← eka, vs_set _ _ (by omega)] at hP hD
    refine lv_iinc (k := 0) (v := nI (w + 1)) hx hb h11 hl rfl (by rw [nI_succ]; rfl) hL rfl (fun ls2 hl2 => ?_)
    refine lv_goto hx hb h12 ht2 ?_
    have hconv : ∀ j, j < ka + 1 + 2 * (w + 1) → vs_c (vs_c (vs_c (vs_c (vy t o0 k (.inl (ci, fs)) ka n w ad') (ka + 1 + 2 * w) (.inr (2, [.null, .int 0]))) (ka + 1 + 2 * w + 1) (.inl (t 0, cap, .inl (fun _ => 0)))) (ka + 1 + 2 * w) (.inr (2, [.ref (ad2 (ka + 1 + 2 * w + 1)), .int 0]))) ka (.inl (t 1, n, .inr (.inr (.inr (.inr (va_up (fun i => if i < w then some (ad' (ka + 1 + 2 * i)) else none) w (some (ad2 (ka + 1 + 2 * w))))))))) j = vy t o0 k (.inl (ci, fs)) ka n (w + 1) ad2 j := by
      intro j hj
      by_cases e0 : j = ka
      · subst e0
        have e1 : (fun i => if i < w then some (ad' (j + 1 + 2 * i)) else none) = fun i => if i < w then some (ad2 (j + 1 + 2 * i)) else none := by
          funext i
          by_cases hi : i < w
          · rw [if_pos hi, if_pos hi, hB2 _ (by omega)]
          · rw [if_neg hi, if_neg hi]
        rw [vs_c_s, e1, vy_up]
        unfold vy
        rw [if_pos rfl]
      · rw [vs_c_n e0]
        have e9 : vy t o0 k (.inl (ci, fs)) ka n (w + 1) ad2 j = vz t o0 k (.inl (ci, fs)) ad2 j := if_neg e0
        rw [e9]
        by_cases e1 : j = ka + 1 + 2 * w
        · subst e1
          rw [vs_c_s, vz_o (by omega) (by omega), hrow _ (by omega) (by omega), vz_r_e (by omega)]
          rfl
        · rw [vs_c_n e1]
          by_cases e2 : j = ka + 1 + 2 * w + 1
          · subst e2
            rw [vs_c_s, vz_o (by omega) (by omega), hrow _ (by omega) (by omega), vz_r_o (by omega)]
            rfl
          · rw [vs_c_n e2, vs_c_n e1]
            have e8 : vy t o0 k (.inl (ci, fs)) ka n w ad' j = vz t o0 k (.inl (ci, fs)) ad' j := if_neg e0
            rw [e8]
            by_cases e3 : j = k
            · subst e3
              rw [vz_k, vz_k]
              exact (vd_congr (M := ka + 1) (fun i hi => hB2 i (by omega)) (.inl (ci, fs)) hu).symm
            · by_cases e4 : j = 0
              · unfold vz
                rw [if_neg e3, if_neg e3, if_pos e4, if_pos e4]
              · rw [vz_o e3 e4, vz_o e3 e4]
                refine (vd_congr (M := ka + 1 + 2 * w) (fun i hi => hB2 i (by omega)) _ ?_).symm
                by_cases e5 : j < ka + 1
                · exact Nat.le_trans (hg j e5 e4 e3 e0) (by omega)
                · rw [hrow j (by omega) (by omega)]
                  exact vz_r_u (by omega) (by omega) (by omega)
    have key := ih (w + 1) (by omega) ad2 H3 locs3 ls2 (fun i hi => by rw [hB2 i (by omega), hB i hi]) (by rw [hB2 k (by omega), ha]) (vs_conv hP (fun _ _ => rfl) hconv) (vs_convD hD (fun _ _ => rfl)) hS hl2
    have e1 : cells + 2 * (w + 1) = cells + 2 * w + 2 := by omega
    have e2 : slots + (w + 1) * (2 + cap) = slots + w * (2 + cap) + 2 + cap := by omega
    rw [e1, e2] at key
    exact key
end VXR
