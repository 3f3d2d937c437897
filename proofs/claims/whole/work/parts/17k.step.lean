/-! ===== a constructor's steps, the world by places ===== -/
def vz (t : Nat → ClassId) (o0 : va_E) (k : Nat) (d : vd) (ad : Nat → Nat) (j : Nat) : va_E := if j = k then vd_e t ad d else if j = 0 then o0 else vd_e t ad (vz_d j)
theorem vz_k {t : Nat → ClassId} {o0 : va_E} {k : Nat} {d : vd} {ad : Nat → Nat} : vz t o0 k d ad k = vd_e t ad d := if_pos rfl
theorem vz_o {t : Nat → ClassId} {o0 : va_E} {k : Nat} {d : vd} {ad : Nat → Nat} {j : Nat} (h : j ≠ k) (h0 : j ≠ 0) : vz t o0 k d ad j = vd_e t ad (vz_d j) := by
  unfold vz
  rw [if_neg h, if_neg h0]
/-- what lay there stays, though other addresses are known now -/
theorem vz_old {t : Nat → ClassId} {o0 : va_E} {k N : Nat} {d d' : vd} {ad ad' : Nat → Nat} (hg : ∀ j, j < N → j ≠ 0 → j ≠ k → vd_u (vz_d j) ≤ N) (ha : ∀ i, i < N → ad' i = ad i) {j : Nat} (hj : j < N) (hk : j ≠ k) : vz t o0 k d ad j = vz t o0 k d' ad' j := by
  unfold vz
  rw [if_neg hk, if_neg hk]
  by_cases h0 : j = 0
  · rw [if_pos h0, if_pos h0]
  · rw [if_neg h0, if_neg h0, vd_congr ha _ (hg j hj h0 hk)]
/-- what a constructor's body has from its start -/
def vX (p : Program) (s : State) (m : MethodId) (args : Array Value) (meth : Method) (c : Code) (D : va_G) (t : Nat → ClassId) (A : Nat → Prop) (own : String) (cc : ByteArray) (nL : Nat) : Prop := p.tables.exec = Jvm.exec ∧ c.code = cc ∧ c.maxLocals = nL ∧ (∀ w ∈ ww_ws, w.before args s = true) ∧ s.vm.findClass own = some m.cls ∧ meth.name = "<init>" ∧ va_K D vwCl [(t 0, .int), (t 1, .object "PieceWords$Row"), (t 2, .array .int)] s ∧ ∀ q, s.heap.size ≤ q → A q
def vx (D : va_G) (A : Nat → Prop) (H0 : Heap) (t : Nat → ClassId) (o0 : va_E) (k : Nat) (d : vd) (N : Nat) (ad : Nat → Nat) (H : Heap) (locs : List Loc) : Prop := va_P D vwCl (vs_l N ad (vz t o0 k d ad)) H ∧ va_D A (vs_l N ad (vz t o0 k d ad)) ∧ va_S A H0 H locs
/-- a field that is set: which, by a link of the class itself -/
def vF (own : String) (ci jf idx : Nat) (ty : FieldType) (fin : Bool) : Prop := ∃ (T : u_T) (NF : Nat), vwCl[ci]? = some (own, T, NF) ∧ jf < NF ∧ Cond.fieldLink own idx (T jf).1 (T jf).2.1 (T jf).2.2.1 ∈ ww_ws ∧ (T jf).2.2.2 = fin ∧ (T jf).1 = own ∧ parseFieldDescriptor (T jf).2.2.1 = some ty
theorem vd_set {t : Nat → ClassId} {ad : Nat → Nat} {ci jf : Nat} {fs : List vd_x} (x : vd_x) : (Sum.inr (ci, (fs.map (vd_o ad)).set jf (vd_o ad x)) : va_E) = vd_e t ad (.inl (ci, fs.set jf x)) := by
  show _ = Sum.inr (ci, (fs.set jf x).map (vd_o ad))
  rw [List.map_set]
section VXS
variable {p : Program} {l : Launch} {e : Env} {R : Room} {s : State} {m : MethodId} {args : Array Value} {below : List Frame} {meth : Method} {c : Code} {H : Heap} {locs : List Loc} {cells slots : Nat} {Q : State → Prop}
variable {cc : ByteArray} {nL pc : Nat} {ls : Array Slot} {rest : List Value} {D : va_G} {A : Nat → Prop} {t : Nat → ClassId} {own : String} {o0 : va_E} {k ci N a : Nat} {fs : List vd_x} {ad : Nat → Nat} {d : vd}
theorem vx_set {ad' : Nat → Nat} {C : Nat → va_E} {H1 : Heap} {locs1 : List Loc} (hP : va_P D vwCl (vs_l N ad' C) H1) (hD : va_D A (vs_l N ad' C)) (hS : va_S A s.heap H1 locs1) (hc : ∀ j, j < N → C j = vz t o0 k d ad' j) : vx D A s.heap t o0 k d N ad' H1 locs1 := ⟨vs_conv hP (fun _ _ => rfl) hc, vs_convD hD (fun _ _ => rfl), hS⟩
theorem vx_putF {idx : Nat} {ty : FieldType} (x : vd_x) (jf : Nat) (X : vX p s m args meth c D t A own cc nL) (Hw : vx D A s.heap t o0 k (.inl (ci, fs)) N ad H locs) (hF : vF own ci jf idx ty true) (hk : k < N) (hl : jf < fs.length) (hn : narrow ty (vd_o ad x) = vd_o ad x) (hfit : fits ty (vd_o ad x) = true) (ha : ad k = a) (hdg : decode cc pc = .ok (.putfield idx, 3))
    (kk : ∀ (H1 : Heap) (locs1 : List Loc), vx D A s.heap t o0 k (.inl (ci, fs.set jf x)) N ad H1 locs1 → W p l e R s m args below meth c H1 locs1 cells slots Q (F0 m (pc + 3) ls rest)) : W p l e R s m args below meth c H locs cells slots Q (F0 m pc ls (vd_o ad x :: .ref a :: rest)) := by
  obtain ⟨hx, hb, hml, hts, hown, hin, hK, hA⟩ := X
  obtain ⟨hP, hD, hS⟩ := Hw
  obtain ⟨T, NF, hc, hj, hlink, hfin, hdecl, hd⟩ := hF
  obtain ⟨hinl, ty0, hty, hnm⟩ := ww_clin ci _ _ _ hc
  subst ha
  refine va_putF (D := D) (ci := ci) (v := vd_o ad x) (ty := ty) (C := own) (T := T) (N := NF) hx hb hts hinl ty0 hty hnm hown hK hP hD hS k (by rw [vs_get hk, vz_k]; rfl) hc jf hj (hts _ hlink) (fun _ h9 => h9) hfin hin hdecl hd hn hfit (by rw [List.length_map]; exact hl) hdg (fun H locs hP hD hS => ?_)
  rw [vs_set _ _ hk] at hP hD
  refine kk H locs (vx_set hP hD hS fun j hj => ?_)
  by_cases h : j = k
  · subst h
    rw [vs_c_s, vz_k, vd_set (t := t)]
  · rw [vs_c_n h]
    unfold vz
    rw [if_neg h, if_neg h]
theorem vx_put {idx : Nat} {ty : FieldType} (x : vd_x) (jf : Nat) (X : vX p s m args meth c D t A own cc nL) (Hw : vx D A s.heap t o0 k (.inl (ci, fs)) N ad H locs) (hF : vF own ci jf idx ty false) (hk : k < N) (hl : jf < fs.length) (hn : narrow ty (vd_o ad x) = vd_o ad x) (hfit : fits ty (vd_o ad x) = true) (ha : ad k = a) (hdg : decode cc pc = .ok (.putfield idx, 3))
    (kk : ∀ (H1 : Heap) (locs1 : List Loc), vx D A s.heap t o0 k (.inl (ci, fs.set jf x)) N ad H1 locs1 → W p l e R s m args below meth c H1 locs1 cells slots Q (F0 m (pc + 3) ls rest)) : W p l e R s m args below meth c H locs cells slots Q (F0 m pc ls (vd_o ad x :: .ref a :: rest)) := by
  obtain ⟨hx, hb, hml, hts, hown, hin, hK, hA⟩ := X
  obtain ⟨hP, hD, hS⟩ := Hw
  obtain ⟨T, NF, hc, hj, hlink, hfin, hdecl, hd⟩ := hF
  obtain ⟨hinl, ty0, hty, hnm⟩ := ww_clin ci _ _ _ hc
  subst ha
  refine va_put (D := D) (ci := ci) (v := vd_o ad x) (ty := ty) (C := own) (T := T) (N := NF) hx hb hts hinl ty0 hty hnm hown hK hP hD hS k (by rw [vs_get hk, vz_k]; rfl) hc jf hj (hts _ hlink) (fun _ h9 => h9) hfin hd hn hfit (by rw [List.length_map]; exact hl) hdg (fun H locs hP hD hS => ?_)
  rw [vs_set _ _ hk] at hP hD
  refine kk H locs (vx_set hP hD hS fun j hj => ?_)
  by_cases h : j = k
  · subst h
    rw [vs_c_s, vz_k, vd_set (t := t)]
  · rw [vs_c_n h]
    unfold vz
    rw [if_neg h, if_neg h]
/-- newarray int, putfield -/
theorem vx_nf {idx n : Nat} (jf : Nat) (X : vX p s m args meth c D t A own cc nL) (Hw : vx D A s.heap t o0 k (.inl (ci, fs)) N ad H locs) (hF : vF own ci jf idx (.array .int) true) (hk : k < N) (hl : jf < fs.length) (hn : n ≤ 2000) (hdN : vz_d N = .inr (.inl n)) (hu : vd_m fs ≤ N) (hg : ∀ j, j < N → j ≠ 0 → j ≠ k → vd_u (vz_d j) ≤ N) (ha : ad k = a) (hcells : cells + 1 ≤ R.cells) (hslots : slots + n ≤ R.slots) (hd1 : decode cc pc = .ok (.newarray .int, 2)) (hd2 : decode cc (pc + 2) = .ok (.putfield idx, 3))
    (kk : ∀ (ad' : Nat → Nat) (H1 : Heap) (locs1 : List Loc), (∀ i, i < N → ad' i = ad i) → vx D A s.heap t o0 k (.inl (ci, fs.set jf (some (.inr N)))) (N + 1) ad' H1 locs1 → W p l e R s m args below meth c H1 locs1 (cells + 1) (slots + n) Q (F0 m (pc + 5) ls rest)) : W p l e R s m args below meth c H locs cells slots Q (F0 m pc ls (.int (nI n) :: .ref a :: rest)) := by
  obtain ⟨hx, hb, hml, hts, hown, hin, hK, hA⟩ := X
  obtain ⟨hP, hD, hS⟩ := Hw
  obtain ⟨T, NF, hc, hj, hlink, hfin, hdecl, hd⟩ := hF
  obtain ⟨hinl, ty0, hty, hnm⟩ := ww_clin ci _ _ _ hc
  refine vs_nf (own := own) (idx := idx) jf ha hx hb hts hown hin hinl ty0 hty hnm hK hP hD hS hA hk vz_k hc hj (by rw [List.length_map]; exact hl) hn hlink hfin hdecl hd hcells hslots hd1 hd2 (fun q H1 locs1 hP hD hS => ?_)
  have hB : ∀ i, i < N → vs_a ad N q i = ad i := fun i hi => vs_a_n (by omega)
  refine kk (vs_a ad N q) H1 locs1 hB (vx_set hP hD hS fun j hj => ?_)
  by_cases h : j = k
  · subst h
    rw [vs_c_s, vz_k, ← vd_set (t := t), vd_congr_f hB fs hu]
    show _ = Sum.inr (ci, (fs.map (vd_o ad)).set jf (.ref (vs_a ad N q N)))
    rw [vs_a_s]
  · rw [vs_c_n h]
    by_cases h2 : j = N
    · subst h2
      rw [vs_c_s, vz_o h (by omega), hdN]
      rfl
    · rw [vs_c_n h2, vz_old hg hB (by omega) h]
end VXS
