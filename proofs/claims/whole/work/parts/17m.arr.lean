/-! ===== a constructor's steps: an array of rows from its beginning; an array of arrays ===== -/
def va_AA (U : State) : Prop := (Cond.arrayOver (.array .int)).before #[] U = true
section VXQ
variable {p : Program} {l : Launch} {e : Env} {R : Room} {s : State} {m : MethodId} {args : Array Value} {below : List Frame} {meth : Method} {c : Code} {H : Heap} {locs : List Loc} {cells slots : Nat} {Q : State → Prop}
variable {cc : ByteArray} {nL pc : Nat} {ls : Array Slot} {rest : List Value} {D : va_G} {A : Nat → Prop} {t : Nat → ClassId} {own : String} {o0 : va_E} {k ci N a : Nat} {fs : List vd_x} {ad : Nat → Nat} {d : vd}
theorem vx_rows {ix iy idx jf n cap ka p2 : Nat} {bp off off2 : Int} {lv : List (Nat × Value)} (X : vX p s m args meth c D t A own cc nL) (Hw : vx D A s.heap t o0 k (.inl (ci, fs)) ka ad H locs) (hl : lv_has ls nL lv) (hlv : (1, Value.int 0) :: lv.filter (fun q => !(q.1 == 1) && !(q.1 + 1 == 1 && q.2.category == 2)) = [(1, .int 0), (0, .ref a)]) (hover : va_AO "PieceWords$Row" s) (hF : vF own ci jf idx (.array (.object "PieceWords$Row")) true) (hk : k < ka) (hL : 1 < nL) (hn : n ≤ 84) (hcap : cap ≤ 100) (hbp : (Int8.ofInt bp).toInt32 = nI cap) (hfl : jf < fs.length) (hu : vd_m fs ≤ ka)
    (hg : ∀ j, j < ka → j ≠ 0 → j ≠ k → vd_u (vz_d j) ≤ ka) (hdk : vz_d ka = .inr (.inr (1, n, ka + 1, 2))) (hrow : ∀ j, j < ka + 1 + 2 * n → ka + 1 ≤ j → vz_d j = vz_r cap (ka + 1) j)
    (hcl : Cond.classLink own ix RX2 ∈ ww_ws) (hlk : Cond.methodLink own iy yX2_init ∈ ww_ws) (hfr : 2 ≤ R.frames) (hlo : 61 ≤ R.locals) (hcells : cells + 1 + 2 * n ≤ R.cells) (hslots : slots + n + n * (2 + cap) ≤ R.slots) (ha : ad k = a)
    (hpush : ∀ (H : Heap) (locs : List Loc) (cells slots : Nat) (ls : Array Slot) (st : List Value), W p l e R s m args below meth c H locs cells slots Q (F0 m p2 ls (.int (nI n) :: st)) → W p l e R s m args below meth c H locs cells slots Q (F0 m (pc + 8 + 1) ls st))
    (ha0 : decode cc pc = .ok (.anewarray ix, 3)) (ha1 : decode cc (pc + 3) = .ok (.putfield idx, 3)) (ha2 : decode cc (pc + 6) = .ok (.iconst 0, 1)) (ha3 : decode cc (pc + 7) = .ok (.istore_n 1, 1))
    (h0 : decode cc (pc + 8) = .ok (.iload_n 1, 1)) (h2 : decode cc p2 = .ok (.if_icmp .ge off, 3)) (ht : (p2 : Int) + off = ((p2 + 24 : Nat) : Int)) (h3 : decode cc (p2 + 3) = .ok (.aload_n 0, 1)) (h4 : decode cc (p2 + 4) = .ok (.getfield idx, 3)) (h5 : decode cc (p2 + 7) = .ok (.iload_n 1, 1)) (h6 : decode cc (p2 + 8) = .ok (.new ix, 3)) (h7 : decode cc (p2 + 11) = .ok (.dup, 1)) (h8 : decode cc (p2 + 12) = .ok (.bipush bp, 2)) (h9 : decode cc (p2 + 14) = .ok (.invokespecial iy, 3)) (h10 : decode cc (p2 + 17) = .ok (.aastore, 1)) (h11 : decode cc (p2 + 18) = .ok (.iinc 1 1, 3)) (h12 : decode cc (p2 + 21) = .ok (.goto off2, 3)) (ht2 : ((p2 + 21 : Nat) : Int) + off2 = ((pc + 8 : Nat) : Int))
    (kk : ∀ (ad' : Nat → Nat) (H1 : Heap) (locs1 : List Loc) (ls : Array Slot), (∀ i, i < ka → ad' i = ad i) → vx D A s.heap t o0 k (.inl (ci, fs.set jf (some (.inr ka)))) (ka + 1 + 2 * n) ad' H1 locs1 → lv_has ls nL [(1, .int (nI n)), (0, .ref a)] → W p l e R s m args below meth c H1 locs1 (cells + 1 + 2 * n) (slots + n + n * (2 + cap)) Q (F0 m (p2 + 24) ls [])) : W p l e R s m args below meth c H locs cells slots Q (F0 m pc ls (.int (nI n) :: .ref a :: [])) := by
  have X0 := X
  obtain ⟨hx, hb, hml, hts, hown, hin, hK, hA⟩ := X
  obtain ⟨hP, hD, hS⟩ := Hw
  obtain ⟨T, NF, hc, hj, hlink, hfin, hdecl, hd⟩ := hF
  obtain ⟨hinl, ty0, hty, hnm⟩ := ww_clin ci _ _ _ hc
  have hmul : n * (2 + cap) ≤ n * (2 + cap) := Nat.le_refl _
  refine va_newq (C := RX2) (N' := n) hx hb hown (hts _ hcl) hover hK hP hD hS hA (by rw [← nI_0, zlt (by omega) (by omega)]; omega) (nI_clamp (by omega)) (by omega) (by omega) (by omega) ha0 (fun q cA H1 hK2 hP hD hS => ?_)
  have hcA : cA = t 1 := by
    obtain ⟨_, _, _, _, _, e1⟩ := (hK2.2 1 (t 1, .object "PieceWords$Row") rfl).2
    obtain ⟨_, _, _, _, _, e2⟩ := (hK2.2 3 (cA, .object RX2) rfl).2
    exact Option.some.inj (e2.symm.trans e1)
  subst hcA
  rw [vs_app] at hP hD
  have hB : ∀ i, i < ka → vs_a ad ka q i = ad i := fun i hi => vs_a_n (by omega)
  have ek : vs_a ad ka q k = a := by rw [hB k hk, ha]
  refine va_putF (D := D) (ci := ci) (v := .ref q) (ty := .array (.object "PieceWords$Row")) (C := own) (T := T) (N := NF) hx hb hts hinl ty0 hty hnm hown hK hP hD hS k (by rw [vs_get (by omega), ek, vs_c_n (by omega), vz_k]; rfl) hc jf hj (hts _ hlink) (fun _ h9 => h9) hfin hin hdecl hd rfl rfl (by rw [List.length_map]; exact hfl) ha1 (fun H2 locs2 hP hD hS => ?_)
  rw [← ek, vs_set _ _ (by omega)] at hP hD
  refine lv_iconst (v := 0) hx hb ha2 (by decide) ?_
  refine lv_istore_n hx hb ha3 rfl hl hL hlv (fun ls2 hl2 => ?_)
  have hconv : ∀ j, j < ka + 1 + 2 * 0 → vs_c (vs_c (vz t o0 k (.inl (ci, fs)) ad) ka (.inl (t 1, n, .inr (.inr (.inr (.inr (fun _ => none))))))) k (.inr (ci, (fs.map (vd_o ad)).set jf (.ref q))) j = vy t o0 k (.inl (ci, fs.set jf (some (.inr ka)))) ka n 0 (vs_a ad ka q) j := by
    intro j hj
    by_cases e0 : j = ka
    · subst e0
      rw [vs_c_n (by omega), vs_c_s]
      unfold vy
      rw [if_pos rfl]
      unfold vd_q
      have e1 : (fun i => if i < 0 then some (vs_a ad j q (j + 1 + 2 * i)) else none) = fun _ => none := funext fun i => if_neg (Nat.not_lt_zero i)
      rw [e1]
    · have e9 : vy t o0 k (.inl (ci, fs.set jf (some (.inr ka)))) ka n 0 (vs_a ad ka q) j = vz t o0 k (.inl (ci, fs.set jf (some (.inr ka)))) (vs_a ad ka q) j := if_neg e0
      rw [e9]
      by_cases e1 : j = k
      · subst e1
        rw [vs_c_s, vz_k, ← vd_set (t := t), vd_congr_f hB fs hu]
        show _ = Sum.inr (ci, (fs.map (vd_o ad)).set jf (.ref (vs_a ad ka q ka)))
        rw [vs_a_s]
      · rw [vs_c_n e1, vs_c_n e0, vz_old hg hB (by omega) e1]
  have hm0 : vd_m (fs.set jf (some (.inr ka))) ≤ ka + 1 := by
    have : ∀ (fs : List vd_x) (jf : Nat), vd_m fs ≤ ka → vd_m (fs.set jf (some (.inr ka))) ≤ ka + 1 := by
      intro fs
      induction fs with
      | nil => intro jf h; exact Nat.zero_le _
      | cons x r ih =>
        intro jf h
        have h' : max (vd_f x) (vd_m r) ≤ ka := h
        cases jf with
        | zero =>
          show max (ka + 1) (vd_m r) ≤ ka + 1
          omega
        | succ jf =>
          have := ih jf (by omega)
          show max (vd_f x) (vd_m (r.set jf (some (.inr ka)))) ≤ ka + 1
          omega
    exact this fs jf hu
  have key := vx_loop (l := l) (e := e) (R := R) (below := below) (Q := Q) (cells := cells + 1) (slots := slots + n) (a := a) (ad := vs_a ad ka q) (fs := fs.set jf (some (.inr ka))) (ci := ci) (k := k) (o0 := o0) (n := n) (cap := cap) (ka := ka) (p0 := pc + 8) (p2 := p2) X0 (by omega) (by omega) hL hn hcap hbp (by omega) hc hj hlink (by rw [List.getElem?_set_self hfl]) hm0 (fun j h1 h2 h3 h4 => Nat.le_trans (hg j (by omega) h2 h3) (by omega)) hrow hcl hlk hfr hlo hcells hslots hpush h0 h2 ht h3 h4 h5 h6 h7 h8 h9 h10 h11 h12 ht2
    (fun ad' H1 locs1 ls hB' hP hD hS hl => kk ad' H1 locs1 ls (fun i hi => by rw [hB' i (by omega), hB i hi]) (vx_set hP hD hS fun j hj => by
      by_cases e0 : j = ka
      · subst e0
        unfold vy
        rw [if_pos rfl, vz_o (by omega) (by omega), hdk]
        rfl
      · exact if_neg e0) hl) n 0 (by omega) (vs_a ad ka q) H2 locs2 ls2 (fun _ _ => rfl) ek (vs_conv hP (fun _ _ => rfl) hconv) (vs_convD hD (fun _ _ => rfl)) hS (by rw [nI_0]; exact hl2)
  rw [Nat.zero_mul] at key
  exact key
end VXQ
