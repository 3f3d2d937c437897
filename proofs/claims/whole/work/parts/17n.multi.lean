/-! ===== a constructor's steps: an array of int arrays ===== -/
theorem va_AA.moved {u U : State} (hvm : u.vm.Alike U.vm) (h : va_AA u) : va_AA U := by
  unfold va_AA Cond.before Cond.holds at *
  simp only [Cond.value, beq_iff_eq] at h ⊢
  cases hc : u.vm.findClass (FieldType.array FieldType.int).toString with
  | none => simp [hc] at h
  | some comp =>
    simp only [hc, Option.bind_some, Option.bind_eq_some_iff, Option.map_eq_some_iff] at h
    obtain ⟨cA, hi, kA, hk, hb⟩ := h
    obtain ⟨k', hk', he⟩ := hvm.2.2 _ _ hk
    have hi' : (U.vm.classes.findIdx? fun (x : Class) => match x.kind with | .array component _ => component == comp | _ => false) = some cA := by
      have e1 := va_idx_bare U.vm comp
      have e2 := va_idx_bare u.vm comp
      rw [hvm.bare_eq] at e1
      exact (e1.symm.trans e2).trans hi
    have hkk : k'.kind = kA.kind := by rw [he]
    refine Option.bind_eq_some_iff.mpr ⟨comp, by rw [hvm.findClass]; exact hc, ?_⟩
    refine Option.bind_eq_some_iff.mpr ⟨cA, hi', ?_⟩
    refine Option.map_eq_some_iff.mpr ⟨k', hk', ?_⟩
    rw [hkk, hvm.findClass]
    exact hb
section VXM
variable {p : Program} {l : Launch} {e : Env} {R : Room} {s : State} {m : MethodId} {args : Array Value} {below : List Frame} {meth : Method} {c : Code} {H : Heap} {locs : List Loc} {cells slots : Nat} {Q : State → Prop}
variable {cc : ByteArray} {nL pc : Nat} {ls : Array Slot} {rest : List Value} {D : va_G} {A : Nat → Prop} {t : Nat → ClassId} {own : String} {o0 : va_E} {k ci N a : Nat} {fs : List vd_x} {ad : Nat → Nat} {d : vd}
theorem vx_mna {ix n q : Nat} (X : vX p s m args meth c D t A own cc nL) (Hw : vx D A s.heap t o0 k d N ad H locs) (hover : va_AA s) (hcl : (Cond.classLink own ix ("[" ++ (FieldType.array .int).toString)).before args s = true) (hk : k < N) (hn : n ≤ 100) (hq : q ≤ 100) (hdN : vz_d N = .inr (.inr (2, n, N + 1, 1))) (hdr : ∀ j, j < N + 1 + n → N + 1 ≤ j → vz_d j = .inr (.inl q)) (hu : vd_u d ≤ N) (hg : ∀ j, j < N → j ≠ 0 → j ≠ k → vd_u (vz_d j) ≤ N) (hcells : cells + (1 + n) ≤ R.cells) (hslots : slots + (n + n * q) ≤ R.slots) (hdg : decode cc pc = .ok (.multianewarray ix 2, 4))
    (kk : ∀ (ad' : Nat → Nat) (H1 : Heap) (locs1 : List Loc), (∀ i, i < N → ad' i = ad i) → vx D A s.heap t o0 k d (N + 1 + n) ad' H1 locs1 → W p l e R s m args below meth c H1 locs1 (cells + 1 + n) (slots + n + n * q) Q (F0 m (pc + 4) ls (.ref (ad' N) :: rest))) : W p l e R s m args below meth c H locs cells slots Q (F0 m pc ls (.int (nI q) :: .int (nI n) :: rest)) := by
  obtain ⟨hx, hb, hml, hts, hown, hin, hK, hA⟩ := X
  obtain ⟨hP, hD, hS⟩ := Hw
  intro T hT X
  obtain ⟨vm₁, cA, comp, L, hfA, hfC, hL, X1, st⟩ := vo_multi X hx hown hcl hover (hts _ wa_I) (g := F0 m pc ls (.int (nI q) :: .int (nI n) :: rest)) rfl (by rw [hb]; exact hdg) rfl hn hq hcells hslots
  have hcA : cA = t 2 := Option.some.inj (hfA.symm.trans (hK.2 2 (t 2, .array .int) rfl).2)
  have hcC : comp = t 0 := Option.some.inj (hfC.symm.trans (hK.2 0 (t 0, .int) rfl).2)
  subst hcA
  subst hcC
  have hh : (T.setVm vm₁).heap = H := hT
  have F1 := vo_facts (T.setVm vm₁) (t 2) (t 0) n q n
  rw [hh] at F1
  generalize hH1 : vo_s (T.setVm vm₁) (t 2) (t 0) n q n = T1 at X1 st F1
  obtain ⟨f1, f2, -, -, F2, F3⟩ := F1
  have hB : ∀ i, i < N → (fun j => if j < N then ad j else H.size + (j - N)) i = ad i := fun i hi => if_pos hi
  have hold : ∀ i, i < N → ad i < H.size := fun i hi => (hP i _ (vs_get hi)).lt
  have eN : (if N < N then ad N else H.size + (N - N)) = T.heap.size := by
    rw [if_neg (Nat.lt_irrefl N), Nat.sub_self, hT]
    rfl
  suffices HV : vx D A s.heap t o0 k d (N + 1 + n) (fun j => if j < N then ad j else H.size + (j - N)) T1.heap (locs ++ L) by
    obtain ⟨t2, a1, b1⟩ := kk (fun j => if j < N then ad j else H.size + (j - N)) T1.heap (locs ++ L) hB HV T1 rfl X1
    have a2 : Steps p.tables e below (T1.setTop (F0 m (pc + 4) ls (.ref (if N < N then ad N else H.size + (N - N)) :: rest))) t2 := a1
    rw [eN] at a2
    exact ⟨t2, st t2 a2, b1⟩
  refine ⟨fun i x hi => ?_, ⟨fun i j x y hi hj exy => ?_, fun i x hi => ?_⟩, ?_, ?_, fun x hx => ?_⟩
  · have hiN := vs_lt hi
    rw [vs_get hiN] at hi
    cases hi
    by_cases h : i < N
    · have h1 := (hP i _ (vs_get h)).kept (F2 (ad i) (hold i h))
      have e1 : (if i < N then ad i else H.size + (i - N)) = ad i := if_pos h
      have e2 : vz t o0 k d ad i = vz t o0 k d (fun j => if j < N then ad j else H.size + (j - N)) i := by
        by_cases hik : i = k
        · subst hik
          rw [vz_k, vz_k, vd_congr hB d hu]
        · exact vz_old hg hB h hik
      rw [← e2]
      show va_at D vwCl ((if i < N then ad i else H.size + (i - N)), _) _
      rw [e1]
      exact h1
    · have e1 : (if i < N then ad i else H.size + (i - N)) = H.size + (i - N) := if_neg h
      show va_at D vwCl ((if i < N then ad i else H.size + (i - N)), _) _
      rw [e1, vz_o (by omega) (by omega)]
      by_cases h2 : i = N
      · subst h2
        rw [hdN, Nat.sub_self]
        show T1.heap[H.size]? = some (vp_cell (t 2) (n, .inr (.inr (.inr (.inr (fun x => if x < n then some (if i + 1 + 1 * x < i then ad (i + 1 + 1 * x) else H.size + (i + 1 + 1 * x - i)) else none))))))
        rw [f2, vp_cell_q]
        refine congrArg some (vs_arrV (fun j hj => ?_))
        unfold vo_f
        rw [if_pos hj, if_pos hj, if_neg (by omega), show H.size + (i + 1 + 1 * j - i) = H.size + 1 + j by omega]
      · rw [hdr i hiN (by omega)]
        show T1.heap[H.size + (i - N)]? = some (vp_cell (t 0) (q, .inl (fun _ => 0)))
        have h3 := F3 (i - (N + 1)) (by omega)
        rw [show H.size + 1 + (i - (N + 1)) = H.size + (i - N) by omega] at h3
        rw [h3, vp_cell_i]
  · have hiN := vs_lt hi
    have hjN := vs_lt hj
    rw [vs_get hiN] at hi
    rw [vs_get hjN] at hj
    cases hi
    cases hj
    have exy' : (if i < N then ad i else H.size + (i - N)) = (if j < N then ad j else H.size + (j - N)) := exy
    by_cases h : i < N
    · by_cases h2 : j < N
      · rw [if_pos h, if_pos h2] at exy'
        exact hD.1 i j _ _ (vs_get h) (vs_get h2) exy'
      · rw [if_pos h, if_neg h2] at exy'
        have := hold i h
        omega
    · by_cases h2 : j < N
      · rw [if_neg h, if_pos h2] at exy'
        have := hold j h2
        omega
      · rw [if_neg h, if_neg h2] at exy'
        omega
  · have hiN := vs_lt hi
    rw [vs_get hiN] at hi
    cases hi
    show A (if i < N then ad i else H.size + (i - N))
    by_cases h : i < N
    · rw [if_pos h]
      exact hD.2 i _ (vs_get h)
    · rw [if_neg h]
      exact hA _ (Nat.le_trans hS.1 (by omega))
  · rw [f1]
    have := hS.1
    omega
  · intro x h1 h2
    rw [F2 x (Nat.lt_of_lt_of_le h1 hS.1)]
    exact hS.2.1 x h1 h2
  · rcases List.mem_append.mp hx with h | h
    · exact hS.2.2 x h
    · rw [hL x h, hT]
      exact hA _ hS.1
/-- multianewarray, putfield -/
theorem vx_multi {ix idx jf n q : Nat} (X : vX p s m args meth c D t A own cc nL) (Hw : vx D A s.heap t o0 k (.inl (ci, fs)) N ad H locs) (hover : va_AA s) (hcl : (Cond.classLink own ix ("[" ++ (FieldType.array .int).toString)).before args s = true) (hF : vF own ci jf idx (.array (.array .int)) true) (hl : jf < fs.length) (ha : ad k = a) (hk : k < N) (hn : n ≤ 100) (hq : q ≤ 100) (hdN : vz_d N = .inr (.inr (2, n, N + 1, 1))) (hdr : ∀ j, j < N + 1 + n → N + 1 ≤ j → vz_d j = .inr (.inl q)) (hu : vd_m fs ≤ N) (hg : ∀ j, j < N → j ≠ 0 → j ≠ k → vd_u (vz_d j) ≤ N) (hcells : cells + (1 + n) ≤ R.cells) (hslots : slots + (n + n * q) ≤ R.slots) (hdg : decode cc pc = .ok (.multianewarray ix 2, 4)) (hd2 : decode cc (pc + 4) = .ok (.putfield idx, 3))
    (kk : ∀ (ad' : Nat → Nat) (H1 : Heap) (locs1 : List Loc), (∀ i, i < N → ad' i = ad i) → vx D A s.heap t o0 k (.inl (ci, fs.set jf (some (.inr N)))) (N + 1 + n) ad' H1 locs1 → W p l e R s m args below meth c H1 locs1 (cells + 1 + n) (slots + n + n * q) Q (F0 m (pc + 7) ls rest)) : W p l e R s m args below meth c H locs cells slots Q (F0 m pc ls (.int (nI q) :: .int (nI n) :: .ref a :: rest)) :=
  vx_mna X Hw hover hcl hk hn hq hdN hdr hu hg hcells hslots hdg (fun ad' H1 locs1 hB Hw' => vx_putF (some (.inr N)) jf X Hw' hF (by omega) hl rfl rfl ((hB k hk).trans ha) hd2 (fun H2 locs2 Hw2 => kk ad' H2 locs2 hB Hw2))
end VXM
