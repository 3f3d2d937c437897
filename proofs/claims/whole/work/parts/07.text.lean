/-! ===== the text ===== -/
def zlet (c : Nat) : Nat := if 97 ≤ c ∧ c ≤ 100 then c - 97 else if 65 ≤ c ∧ c ≤ 68 then c - 65 + 4 else 8
def zfig (c : Nat) : Nat := if 49 ≤ c ∧ c ≤ 57 then c - 48 else 0
def zb (b : Bool) : Int32 := nI (if b then 1 else 0)
theorem zb_01 (b : Bool) : zb b = nI 0 ∨ zb b = nI 1 := by cases b <;> simp [zb]
theorem zb_0 (b : Bool) : (zb b = nI 0) = (b = false) := by cases b <;> simp [zb, nI] <;> decide
/-- a byte behind others: how deep brackets are open, whether something is within, whether a factor has just ended; then the same behind it, and whether it ends a word -/
def zstep (c d : Nat) (f j : Bool) : Option (Nat × Bool × Bool × Bool) :=
  if c = 32 then some (d, f, false, false)
  else if 0 < zfig c then (if j = true then some (d, f, false, false) else none)
  else if zlet c < 8 then some (d, true, true, false)
  else if c = 40 then (if d < 4 then some (d + 1, false, false, false) else none)
  else if c = 41 then (if 0 < d ∧ f = true then some (d - 1, true, true, false) else none)
  else if c = 59 then (if d = 0 ∧ f = true then some (d, false, false, true) else none)
  else none
def zFl (τ : ww_M) (d : Nat) (f j e : Bool) : Prop := τ (2, 0) 2 = nI d ∧ τ (2, 0) 3 = zb f ∧ τ (2, 0) 4 = zb j ∧ τ (2, 0) 5 = zb e
/-- the text's own numbers may have changed, but not how many bytes it has; nothing else -/
def zTx (τ τ' : ww_M) : Prop := (∀ n : ww_N, n ≠ (2, 0) → τ' n = τ n) ∧ τ' (2, 0) 1 = τ (2, 0) 1
theorem zTx.rf (τ : ww_M) : zTx τ τ := ⟨fun _ _ => rfl, rfl⟩
theorem zTx.tr {a b c : ww_M} (h : zTx a b) (h2 : zTx b c) : zTx a c := ⟨fun n hn => (h2.1 n hn).trans (h.1 n hn), h2.2.trans h.2⟩
theorem zTx.up {τ : ww_M} {k : Nat} {v : Int32} (h : k ≠ 1) : zTx τ (ww_up τ (2, 0) k v) := ⟨fun n hn => ww_up_f hn, ww_up_k (Ne.symm h)⟩
section TEXT
variable {l : Launch} {g : ww_G} {τ : ww_M}
theorem s_letterFor {c : Nat} (hc : c < 128) : ww_T l g mX4_letterFor [.inl (nI c)] τ (ww_QI (fun v τ' => τ = τ' ∧ v = if zlet c < 8 then nI (zlet c) else (-1 : Int32))) := by
  have up : ∀ E : ww_E, ¬ (97 ≤ c ∧ c ≤ 100) → ww_W g mX4_letterFor E (ww_QI (fun v τ' => τ = τ' ∧ v = if zlet c < 8 then nI (zlet c) else (-1 : Int32))) 17 [some (.inl (nI c))] [] τ := by
    intro E hn
    refine b_X4_letterFor_17 ⟨fun c1 => ⟨rfl, ?_⟩, fun c1 => ⟨fun c2 => ⟨rfl, ?_⟩, fun c2 => ⟨rfl, ?_⟩⟩⟩
    · rw [zlt (by omega) (by omega)] at c1
      have e : zlet c = 8 := by rw [zlet, if_neg hn, if_neg (by omega)]
      rw [e, if_neg (by decide)]
    · rw [zlt (by omega) (by omega)] at c2
      have e : zlet c = 8 := by rw [zlet, if_neg hn, if_neg (by omega)]
      rw [e, if_neg (by decide)]
    · rw [zlt (by omega) (by omega)] at c1 c2
      have e : zlet c = c - 65 + 4 := by rw [zlet, if_neg hn, if_pos (by omega)]
      rw [e, if_pos (by omega), zsub (by omega), zadd]
  refine b_X4_letterFor (fun E => ⟨fun c1 => up E ?_, fun c1 => ⟨fun c2 => up E ?_, fun c2 => ⟨rfl, ?_⟩⟩⟩)
  · rw [zlt (by omega) (by omega)] at c1; omega
  · rw [zlt (by omega) (by omega)] at c2; omega
  · rw [zlt (by omega) (by omega)] at c1 c2
    have e : zlet c = c - 97 := by rw [zlet, if_pos (by omega)]
    rw [e, if_pos (by omega), zsub (by omega)]
theorem s_figureFor {c : Nat} (hc : c < 128) : ww_T l g mX4_figureFor [.inl (nI c)] τ (ww_QI (fun v τ' => τ = τ' ∧ v = if 0 < zfig c then nI (zfig c) else (-1 : Int32))) := by
  refine b_X4_figureFor (fun E => ⟨fun c1 => ⟨rfl, ?_⟩, fun c1 => ⟨fun c2 => ⟨rfl, ?_⟩, fun c2 => ⟨rfl, ?_⟩⟩⟩)
  · rw [zlt (by omega) (by omega)] at c1
    have e : zfig c = 0 := by rw [zfig, if_neg (by omega)]
    rw [e, if_neg (by decide)]
  · rw [zlt (by omega) (by omega)] at c2
    have e : zfig c = 0 := by rw [zfig, if_neg (by omega)]
    rw [e, if_neg (by decide)]
  · rw [zlt (by omega) (by omega)] at c1 c2
    have e : zfig c = c - 48 := by rw [zfig, if_pos (by omega)]
    rw [e, if_pos (by omega), zsub (by omega)]
theorem s_factorEnds {d : Nat} {f j e : Bool} (h : zFl τ d f j e) : ww_T l g mX4_factorEnds [.inr (.inr (2, 0))] τ (ww_QI (fun v τ' => v = nI 1 ∧ zFl τ' d true true e ∧ zTx τ τ')) := by
  obtain ⟨h1, h2, h3, h4⟩ := h
  refine b_X4_factorEnds (fun E τ1 e1 τ2 e2 => ?_)
  subst e1
  subst e2
  refine ⟨rfl, ⟨?_, ?_, ?_, ?_⟩, (zTx.up (by decide)).tr (zTx.up (by decide))⟩
  · rw [ww_up_k (by decide), ww_up_k (by decide), h1]
  · rw [ww_up_k (by decide), ww_up_s]; rfl
  · rw [ww_up_s]; rfl
  · rw [ww_up_k (by decide), ww_up_k (by decide), h4]
theorem s_bracketOpens {d : Nat} {f e : Bool} (h : zFl τ d f false e) (hd : d ≤ 4) : ww_T l g mX4_bracketOpens [.inr (.inr (2, 0))] τ (ww_QI (fun v τ' => zTx τ τ' ∧ ((¬ d < 4 ∧ v = nI 0) ∨ (d < 4 ∧ v = nI 1 ∧ zFl τ' (d + 1) false false e)))) := by
  obtain ⟨h1, h2, h3, h4⟩ := h
  refine b_X4_bracketOpens (fun E => ⟨fun c τ1 e1 τ2 e2 => ?_, fun c => ?_⟩)
  · rw [h1, zlt (by omega) (by omega)] at c
    rw [h1, zadd] at e1
    subst e1
    subst e2
    refine ⟨(zTx.up (by decide)).tr (zTx.up (by decide)), Or.inr ⟨c, rfl, ?_, ?_, ?_, ?_⟩⟩
    · rw [ww_up_k (by decide), ww_up_s]
    · rw [ww_up_s]; rfl
    · rw [ww_up_k (by decide), ww_up_k (by decide), h3]
    · rw [ww_up_k (by decide), ww_up_k (by decide), h4]
  · rw [h1, zlt (by omega) (by omega)] at c
    exact ⟨zTx.rf τ, Or.inl ⟨c, rfl⟩⟩
theorem s_bracketCloses {d : Nat} {f e : Bool} (h : zFl τ d f false e) (hd : d ≤ 4) : ww_T l g mX4_bracketCloses [.inr (.inr (2, 0))] τ (ww_QI (fun v τ' => zTx τ τ' ∧ ((¬ (0 < d ∧ f = true) ∧ v = nI 0) ∨ ((0 < d ∧ f = true) ∧ v = nI 1 ∧ zFl τ' (d - 1) true true e)))) := by
  obtain ⟨h1, h2, h3, h4⟩ := h
  refine b_X4_bracketCloses (fun E => ⟨fun c => ?_, fun c => ⟨fun c2 τ1 e1 => ?_, fun c2 => ?_⟩⟩)
  · rw [h1, zeq (by omega) (by omega)] at c
    exact ⟨zTx.rf τ, Or.inl ⟨by omega, rfl⟩⟩
  · rw [h1, zeq (by omega) (by omega)] at c
    rw [h2, zb_0] at c2
    rw [h1, zsub (by omega)] at e1
    have hf : f = true := by simpa using c2
    subst e1
    refine ⟨_, s_factorEnds (d := d - 1) (f := f) (j := false) (e := e) ⟨ww_up_s _ _ _ _, ?_, ?_, ?_⟩, ?_⟩
    · rw [ww_up_k (by decide), h2]
    · rw [ww_up_k (by decide), h3]
    · rw [ww_up_k (by decide), h4]
    · rintro v3 τ4 ⟨rfl, h5, h6⟩
      exact ⟨Or.inr rfl, (zTx.up (by decide)).tr h6, Or.inr ⟨⟨by omega, hf⟩, rfl, h5⟩⟩
  · rw [h2, zb_0] at c2
    exact ⟨zTx.rf τ, Or.inl ⟨fun q => (by rw [c2] at q; exact absurd q.2 (by decide)), rfl⟩⟩
theorem s_wordEnds {d : Nat} {f e : Bool} (h : zFl τ d f false e) (hd : d ≤ 4) : ww_T l g mX4_wordEnds [.inr (.inr (2, 0))] τ (ww_QI (fun v τ' => zTx τ τ' ∧ ((¬ (d = 0 ∧ f = true) ∧ v = nI 0) ∨ ((d = 0 ∧ f = true) ∧ v = nI 1 ∧ zFl τ' d false false true)))) := by
  obtain ⟨h1, h2, h3, h4⟩ := h
  refine b_X4_wordEnds (fun E => ⟨fun c => ?_, fun c => ⟨fun c2 τ1 e1 τ2 e2 => ?_, fun c2 => ?_⟩⟩)
  · rw [h1, zlt (by omega) (by omega)] at c
    exact ⟨zTx.rf τ, Or.inl ⟨by omega, rfl⟩⟩
  · rw [h1, zlt (by omega) (by omega)] at c
    rw [h2, zb_0] at c2
    have hf : f = true := by simpa using c2
    subst e1
    subst e2
    refine ⟨(zTx.up (by decide)).tr (zTx.up (by decide)), Or.inr ⟨⟨by omega, hf⟩, rfl, ?_, ?_, ?_, ?_⟩⟩
    · rw [ww_up_k (by decide), ww_up_k (by decide), h1]
    · rw [ww_up_k (by decide), ww_up_s]; rfl
    · rw [ww_up_k (by decide), ww_up_k (by decide), h3]
    · rw [ww_up_s]; rfl
  · rw [h2, zb_0] at c2
    exact ⟨zTx.rf τ, Or.inl ⟨fun q => (by rw [c2] at q; exact absurd q.2 (by decide)), rfl⟩⟩
theorem s_standsNext {c d : Nat} {f j e : Bool} (h : zFl τ d f j e) (hd : d ≤ 4) (hc : c < 128) : ww_T l g mX4_standsNext [.inr (.inr (2, 0)), .inl (nI c)] τ (ww_QI (fun v τ' => zTx τ τ' ∧ ((zstep c d f j = none ∧ v = nI 0) ∨ (∃ q, zstep c d f j = some q ∧ v = nI 1 ∧ zFl τ' q.1 q.2.1 q.2.2.1 (e || q.2.2.2))))) := by
  obtain ⟨h1, h2, h3, h4⟩ := h
  refine b_X4_standsNext (fun E τ1 e1 => ?_)
  have hx : zTx τ τ1 := by subst e1; exact zTx.up (by decide)
  have hf1 : zFl τ1 d f false e := by
    subst e1
    refine ⟨?_, ?_, ?_, ?_⟩
    · rw [ww_up_k (by decide), h1]
    · rw [ww_up_k (by decide), h2]
    · rw [ww_up_s]; rfl
    · rw [ww_up_k (by decide), h4]
  refine ⟨fun c1 => ?_, fun c1 => ?_⟩
  · rw [zeq (by omega) (by omega)] at c1
    refine ⟨_, s_figureFor hc, ?_⟩
    rintro v3 τ4 ⟨rfl, rfl⟩
    refine ⟨fun c2 => ?_, fun c2 => ?_⟩
    · have hfg : ¬ 0 < zfig c := fun q => by
        rw [if_pos q] at c2
        exact zne1 (by unfold zfig at q ⊢; split <;> omega) c2
      refine ⟨_, s_letterFor hc, ?_⟩
      rintro v6 τ7 ⟨rfl, rfl⟩
      refine ⟨fun c3 => ?_, fun c3 => ?_⟩
      · have hlt : ¬ zlet c < 8 := fun q => by
          rw [if_pos q] at c3
          exact zne1 (by omega) c3
        refine ⟨fun c4 => ?_, fun c4 => ?_, fun c4 => ?_, fun c4 c5 c6 => ?_⟩
        · rw [zeq (by omega) (by omega)] at c4
          refine ⟨_, s_bracketOpens hf1 hd, ?_⟩
          rintro v τ' ⟨k1, ⟨k2, rfl⟩ | ⟨k2, rfl, k3⟩⟩
          · exact ⟨Or.inl rfl, hx.tr k1, Or.inl ⟨by rw [zstep, if_neg c1, if_neg hfg, if_neg hlt, if_pos c4, if_neg k2], rfl⟩⟩
          · exact ⟨Or.inr rfl, hx.tr k1, Or.inr ⟨(d + 1, false, false, false), by rw [zstep, if_neg c1, if_neg hfg, if_neg hlt, if_pos c4, if_pos k2], rfl, by simpa using k3⟩⟩
        · rw [zeq (by omega) (by omega)] at c4
          refine ⟨_, s_bracketCloses hf1 hd, ?_⟩
          rintro v τ' ⟨k1, ⟨k2, rfl⟩ | ⟨k2, rfl, k3⟩⟩
          · exact ⟨Or.inl rfl, hx.tr k1, Or.inl ⟨by rw [zstep, if_neg c1, if_neg hfg, if_neg hlt, if_neg (by omega), if_pos c4, if_neg k2], rfl⟩⟩
          · exact ⟨Or.inr rfl, hx.tr k1, Or.inr ⟨(d - 1, true, true, false), by rw [zstep, if_neg c1, if_neg hfg, if_neg hlt, if_neg (by omega), if_pos c4, if_pos k2], rfl, by simpa using k3⟩⟩
        · rw [zeq (by omega) (by omega)] at c4
          refine ⟨_, s_wordEnds hf1 hd, ?_⟩
          rintro v τ' ⟨k1, ⟨k2, rfl⟩ | ⟨k2, rfl, k3⟩⟩
          · exact ⟨Or.inl rfl, hx.tr k1, Or.inl ⟨by rw [zstep, if_neg c1, if_neg hfg, if_neg hlt, if_neg (by omega), if_neg (by omega), if_pos c4, if_neg k2], rfl⟩⟩
          · exact ⟨Or.inr rfl, hx.tr k1, Or.inr ⟨(d, false, false, true), by rw [zstep, if_neg c1, if_neg hfg, if_neg hlt, if_neg (by omega), if_neg (by omega), if_pos c4, if_pos k2], rfl, by simpa using k3⟩⟩
        · rw [zeq (by omega) (by omega)] at c4 c5 c6
          exact ⟨hx, Or.inl ⟨by rw [zstep, if_neg c1, if_neg hfg, if_neg hlt, if_neg c4, if_neg c5, if_neg c6], rfl⟩⟩
      · have hlt : zlet c < 8 := by
          by_cases q : zlet c < 8
          · exact q
          · rw [if_neg q] at c3; exact absurd rfl c3
        refine ⟨_, s_factorEnds hf1, ?_⟩
        rintro v τ' ⟨rfl, k1, k2⟩
        exact ⟨Or.inr rfl, hx.tr k2, Or.inr ⟨(d, true, true, false), by rw [zstep, if_neg c1, if_neg hfg, if_pos hlt], rfl, by simpa using k1⟩⟩
    · have hfg : 0 < zfig c := by
        by_cases q : 0 < zfig c
        · exact q
        · rw [if_neg q] at c2; exact absurd rfl c2
      rw [h3]
      refine ⟨zb_01 j, hx, ?_⟩
      cases j with
      | true => exact Or.inr ⟨(d, f, false, false), by rw [zstep, if_neg c1, if_pos hfg, if_pos rfl], rfl, by simpa using hf1⟩
      | false => exact Or.inl ⟨by rw [zstep, if_neg c1, if_pos hfg, if_neg (by decide)], rfl⟩
  · rw [zeq (by omega) (by omega)] at c1
    exact ⟨hx, Or.inr ⟨(d, f, false, false), by rw [zstep, if_pos c1], rfl, by simpa using hf1⟩⟩
/-- the text: its bytes -/
def zText (τ : ww_M) (ts : List Nat) : Prop := ts.length ≤ 100 ∧ τ (2, 0) 1 = nI ts.length ∧ (∀ k, k < ts.length → τ (3, 0) k = nI (zat ts k)) ∧ ∀ x ∈ ts, x < 128
theorem zText.tx {τ' : ww_M} {ts : List Nat} (h : zText τ ts) (hx : zTx τ τ') : zText τ' ts := ⟨h.1, hx.2.trans h.2.1, fun k hk => by rw [hx.1 _ (by simp)]; exact h.2.2.1 k hk, h.2.2.2⟩
theorem zat_all {xs : List Nat} {p : Nat → Prop} (h : ∀ x ∈ xs, p x) {k : Nat} (hk : k < xs.length) : p (zat xs k) := by
  rw [zat_eq hk]; exact h _ (List.getElem_mem hk)
theorem s_byteAt {ts : List Nat} {j : Nat} (h : zText τ ts) (hj : j < 2147483648) : ww_T l g mX4_byteAt [.inr (.inr (2, 0)), .inl (nI j)] τ (ww_QI (fun v τ' => τ = τ' ∧ v = if j < ts.length then nI (zat ts j) else (-1 : Int32))) := by
  obtain ⟨h1, h2, h3, h4⟩ := h
  refine b_X4_byteAt (fun E => ⟨fun c => ?_, fun _ => ⟨fun c => ?_, fun c => ⟨fun c2 => ?_, fun c2 => ?_⟩⟩⟩)
  · rw [zlt (by omega) (by omega)] at c; omega
  · rw [h2, zle (by omega) (by omega)] at c
    exact ⟨rfl, by rw [if_neg (by omega)]⟩
  · rw [h2, zle (by omega) (by omega)] at c
    rw [zle (by omega) (by omega)] at c2
    omega
  · rw [h2, zle (by omega) (by omega)] at c
    exact ⟨j, rfl, by omega, rfl, by rw [if_pos (by omega), h3 j (by omega)]⟩
theorem s_accept {ts : List Nat} {c : Nat} (h : zText τ ts) (hc : c < 128) : ww_T l g mX4_accept [.inr (.inr (2, 0)), .inl (nI c)] τ (ww_QI (fun v τ' => (¬ ts.length < 100 ∧ v = nI 0 ∧ τ = τ') ∨ (ts.length < 100 ∧ v = nI 1 ∧ zText τ' (ts ++ [c]) ∧ ∀ n : ww_N, n ≠ (2, 0) → n ≠ (3, 0) → τ' n = τ n))) := by
  obtain ⟨h1, h2, h3, h4⟩ := h
  refine b_X4_accept (fun E => ⟨fun c1 => ⟨ts.length, h2, ?_, fun τ2 e2 τ3 e3 => ?_⟩, fun c1 => ?_⟩)
  · rw [h2, zlt (by omega) (by omega)] at c1; exact c1
  · rw [h2, zlt (by omega) (by omega)] at c1
    have e4 : τ2 (2, 0) 1 = nI ts.length := by rw [e2, ww_up_n (by simp), h2]
    rw [e4, zadd] at e3
    refine Or.inr ⟨c1, rfl, ⟨by rw [List.length_append]; exact c1, by rw [e3, ww_up_s, List.length_append]; rfl, fun k hk => ?_, fun x hx => ?_⟩, fun n n1 n2 => by rw [e3, ww_up_f n1, e2, ww_up_f n2]⟩
    · rw [List.length_append, List.length_singleton] at hk
      rw [e3, ww_up_n (by simp), e2]
      by_cases hk2 : k = ts.length
      · subst hk2; rw [ww_up_s, zat_app_e]
      · rw [ww_up_k hk2, zat_app_l (by omega), h3 k (by omega)]
    · rcases List.mem_append.mp hx with q | q
      · exact h4 x q
      · rw [List.mem_singleton.mp q]; exact hc
  · rw [h2, zlt (by omega) (by omega)] at c1
    exact Or.inl ⟨c1, rfl, rfl⟩
/-- the place of the first byte that can not stand there (or the text's length, if it ends too early); w: some word has ended -/
def zsyn : List Nat → Nat → Nat → Bool → Bool → Bool → Option Nat
  | [], k, d, f, _, w => if w = true ∧ d = 0 ∧ f = false then none else some k
  | c :: cs, k, d, f, j, w => match zstep c d f j with
    | none => some k
    | some q => zsyn cs (k + 1) q.1 q.2.1 q.2.2.1 (w || q.2.2.2)
def zfault (o : Option Nat) : Int32 := match o with
  | none => (-1 : Int32)
  | some k => nI k
theorem zstep_d {c d : Nat} {f j : Bool} {q : Nat × Bool × Bool × Bool} (h : zstep c d f j = some q) (hd : d ≤ 4) : q.1 ≤ 4 := by
  unfold zstep at h
  repeat' split at h
  all_goals first | (cases h; dsimp only; omega) | cases h
theorem s_wrongPlace {ts : List Nat} (h : zText τ ts) : ww_T l g mX4_wrongPlace [.inr (.inr (2, 0))] τ (ww_QI (fun v τ' => zTx τ τ' ∧ v = zfault (zsyn ts 0 0 false false false))) := by
  refine b_X4_wrongPlace (fun E τ1 e1 τ2 e2 τ3 e3 τ4 e4 => ?_)
  have hx : zTx τ τ4 := by
    subst e1; subst e2; subst e3; subst e4
    exact (((zTx.up (by decide)).tr (zTx.up (by decide))).tr (zTx.up (by decide))).tr (zTx.up (by decide))
  have hf : zFl τ4 0 false false false := by
    subst e1; subst e2; subst e3; subst e4
    refine ⟨?_, ?_, ?_, ?_⟩
    · rw [ww_up_k (by decide), ww_up_k (by decide), ww_up_k (by decide), ww_up_s]
    · rw [ww_up_k (by decide), ww_up_k (by decide), ww_up_s]; rfl
    · rw [ww_up_k (by decide), ww_up_s]; rfl
    · rw [ww_up_s]; rfl
  have loop : ∀ (n k d : Nat) (f j w : Bool) (σ : ww_M), k + n = ts.length → d ≤ 4 → zFl σ d f j w → zTx τ σ → ww_W g mX4_wrongPlace E (ww_QI (fun v τ' => zTx τ τ' ∧ v = zfault (zsyn (ts.drop k) k d f j w))) 22 [some (.inr (.inr (2, 0))), some (.inl (nI k))] [] σ := by
    intro n
    induction n with
    | zero =>
      intro k d f j w σ hk hd hf hs
      obtain ⟨h1, h2, h3, h4⟩ := h.tx hs
      obtain ⟨f1, f2, f3, f4⟩ := hf
      have e : ts.drop k = [] := List.drop_of_length_le (by omega)
      have hk2 : k = ts.length := by omega
      rw [e, zsyn]
      refine b_X4_wrongPlace_22 ⟨fun c => ?_, fun c => ?_⟩
      · rw [f4, zb_0, f1, zeq (by omega) (by omega), f2, zb_0, h2]
        refine ⟨fun c1 => ⟨hs, ?_⟩, fun c1 => ⟨fun c2 => ⟨hs, ?_⟩, fun c2 => ⟨fun c3 => ⟨hs, ?_⟩, fun c3 => ⟨hs, ?_⟩⟩⟩⟩
        · rw [if_neg (fun q => by rw [c1] at q; cases q.1), hk2]; rfl
        · rw [if_neg (fun q => c2 q.2.1), hk2]; rfl
        · rw [if_neg (fun q => c3 q.2.2), hk2]; rfl
        · rw [if_pos ⟨by simpa using c1, c2, c3⟩]; rfl
      · rw [h2, zle (by omega) (by omega)] at c; omega
    | succ n ih =>
      intro k d f j w σ hk hd hf hs
      have ht := h.tx hs
      refine b_X4_wrongPlace_22 ⟨fun c => ?_, fun c => ?_⟩
      · rw [ht.2.1, zle (by have := ht.1; omega) (by have := ht.1; omega)] at c; omega
      · have hl := ht.1
        refine ⟨_, s_byteAt ht (by omega), ?_⟩
        rintro v2 τ3 ⟨rfl, rfl⟩
        rw [if_pos (by omega)]
        refine ⟨_, s_standsNext hf hd (zat_all ht.2.2.2 (by omega)), ?_⟩
        rintro v5 τ6 ⟨k1, k2⟩
        rw [zdrop_cons (show k < ts.length by omega), zsyn, zadd]
        rcases k2 with ⟨k2, rfl⟩ | ⟨q, k2, rfl, k3⟩
        · rw [k2]
          exact ⟨fun c1 => absurd rfl c1, fun _ => ⟨hs.tr k1, rfl⟩⟩
        · rw [k2]
          exact ⟨fun _ => ih (k + 1) q.1 q.2.1 q.2.2.1 (w || q.2.2.2) τ6 (by omega) (zstep_d k2 hd) k3 (hs.tr k1), fun c1 => absurd c1 (by decide)⟩
  have := loop ts.length 0 0 false false false τ4 (by omega) (by omega) hf hx
  rw [List.drop_zero] at this
  exact this
end TEXT
