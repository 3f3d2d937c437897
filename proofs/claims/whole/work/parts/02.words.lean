/-! ===== the good words of the tables, each by its place ===== -/
def ww_ws : List Cond := lw_tbl.filter goodWord
theorem ww_allgood : ww_ws.all goodWord = true := List.all_eq_true.mpr (fun _ h => (List.mem_filter.mp h).2)
theorem ww_t0 {w : Cond} (h : w ∈ tables_1) (hg : goodWord w = true) : w ∈ ww_ws := List.mem_filter.mpr ⟨List.mem_append_right _ h, hg⟩
theorem ww_t1 {w : Cond} (i : Nat) (h : tables_1_1[i]? = some w) (hg : goodWord w = true) : w ∈ ww_ws := ww_t0 (List.mem_append_left _ (List.mem_of_getElem? h)) hg
theorem ww_t2 {w : Cond} (i : Nat) (h : tables_1_2[i]? = some w) (hg : goodWord w = true) : w ∈ ww_ws := ww_t0 (List.mem_append_right _ (List.mem_append_left _ (List.mem_of_getElem? h))) hg
theorem ww_t3 {w : Cond} (i : Nat) (h : tables_1_3[i]? = some w) (hg : goodWord w = true) : w ∈ ww_ws := ww_t0 (List.mem_append_right _ (List.mem_append_right _ (List.mem_append_left _ (List.mem_of_getElem? h)))) hg
theorem ww_t4 {w : Cond} (i : Nat) (h : tables_1_4[i]? = some w) (hg : goodWord w = true) : w ∈ ww_ws := ww_t0 (List.mem_append_right _ (List.mem_append_right _ (List.mem_append_right _ (List.mem_append_left _ (List.mem_of_getElem? h))))) hg
theorem ww_t5 {w : Cond} (i : Nat) (h : tables_1_5[i]? = some w) (hg : goodWord w = true) : w ∈ ww_ws := ww_t0 (List.mem_append_right _ (List.mem_append_right _ (List.mem_append_right _ (List.mem_append_right _ (List.mem_of_getElem? h))))) hg
theorem ww_s0 {q : MethodName × Nat} (h : q ∈ lw_privs) (hg : goodWord (Cond.selects q.1.cls q.1 q.1) = true) : Cond.selects q.1.cls q.1 q.1 ∈ ww_ws := List.mem_filter.mpr ⟨List.mem_append_left _ (List.mem_map.mpr ⟨q, h, rfl⟩), hg⟩
theorem ww_s1 (y : MethodName) (n i : Nat) (h : lw_privs_1[i]? = some (y, n)) (hg : goodWord (Cond.selects y.cls y y) = true) : Cond.selects y.cls y y ∈ ww_ws := ww_s0 (q := (y, n)) (List.mem_append_left _ (List.mem_of_getElem? h)) hg
theorem ww_s2 (y : MethodName) (n i : Nat) (h : lw_privs_2[i]? = some (y, n)) (hg : goodWord (Cond.selects y.cls y y) = true) : Cond.selects y.cls y y ∈ ww_ws := ww_s0 (q := (y, n)) (List.mem_append_right _ (List.mem_append_left _ (List.mem_of_getElem? h))) hg
theorem ww_s3 (y : MethodName) (n i : Nat) (h : lw_privs_3[i]? = some (y, n)) (hg : goodWord (Cond.selects y.cls y y) = true) : Cond.selects y.cls y y ∈ ww_ws := ww_s0 (q := (y, n)) (List.mem_append_right _ (List.mem_append_right _ (List.mem_append_left _ (List.mem_of_getElem? h)))) hg
theorem ww_s4 (y : MethodName) (n i : Nat) (h : lw_privs_4[i]? = some (y, n)) (hg : goodWord (Cond.selects y.cls y y) = true) : Cond.selects y.cls y y ∈ ww_ws := ww_s0 (q := (y, n)) (List.mem_append_right _ (List.mem_append_right _ (List.mem_append_right _ (List.mem_append_left _ (List.mem_of_getElem? h))))) hg
theorem ww_s5 (y : MethodName) (n i : Nat) (h : lw_privs_5[i]? = some (y, n)) (hg : goodWord (Cond.selects y.cls y y) = true) : Cond.selects y.cls y y ∈ ww_ws := ww_s0 (q := (y, n)) (List.mem_append_right _ (List.mem_append_right _ (List.mem_append_right _ (List.mem_append_right _ (List.mem_of_getElem? h))))) hg
theorem wi_X0 : Cond.initialized RX0 ∈ ww_ws := ww_t1 6 rfl rfl
theorem wi_X1 : Cond.initialized RX1 ∈ ww_ws := ww_t1 5 rfl rfl
theorem wi_X2 : Cond.initialized RX2 ∈ ww_ws := ww_t1 2 rfl rfl
theorem wi_X3 : Cond.initialized RX3 ∈ ww_ws := ww_t1 7 rfl rfl
theorem wi_X4 : Cond.initialized RX4 ∈ ww_ws := ww_t1 4 rfl rfl
theorem wi_X5 : Cond.initialized RX5 ∈ ww_ws := ww_t1 1 rfl rfl
theorem wi_X6 : Cond.initialized RX6 ∈ ww_ws := ww_t1 8 rfl rfl
theorem wi_J9 : Cond.initialized RJ9 ∈ ww_ws := ww_t1 3 rfl rfl
theorem wc_X0_init : Cond.code yX0_init cX0_init 2 none ∈ ww_ws := ww_t1 107 rfl rfl
theorem wn_X0_init : Cond.instanceMethod yX0_init ∈ ww_ws := ww_t1 106 rfl rfl
theorem wp_X0_init : yX0_init.cls ≠ "java/lang/invoke/MethodHandle" ∧ yX0_init.cls ≠ "java/lang/invoke/VarHandle" ∧ (parseMethodDescriptor yX0_init.desc).map (fun d => d.parameters.length) = some 0 := by decide +kernel
theorem wc_X0_become : Cond.code yX0_become cX0_become 3 none ∈ ww_ws := ww_t2 94 rfl rfl
theorem wn_X0_become : Cond.instanceMethod yX0_become ∈ ww_ws := ww_t2 92 rfl rfl
theorem we_X0_become : Cond.selects RX0 yX0_become yX0_become ∈ ww_ws := ww_t2 93 rfl rfl
theorem wp_X0_become : yX0_become.cls ≠ "java/lang/invoke/MethodHandle" ∧ yX0_become.cls ≠ "java/lang/invoke/VarHandle" ∧ (parseMethodDescriptor yX0_become.desc).map (fun d => d.parameters.length) = some 1 := by decide +kernel
theorem wc_X0_addTurns : Cond.code yX0_addTurns cX0_addTurns 6 none ∈ ww_ws := ww_t2 106 rfl rfl
theorem wn_X0_addTurns : Cond.instanceMethod yX0_addTurns ∈ ww_ws := ww_t2 105 rfl rfl
theorem we_X0_addTurns : Cond.selects RX0 yX0_addTurns yX0_addTurns ∈ ww_ws := ww_s1 yX0_addTurns 13 12 rfl rfl
theorem wp_X0_addTurns : yX0_addTurns.cls ≠ "java/lang/invoke/MethodHandle" ∧ yX0_addTurns.cls ≠ "java/lang/invoke/VarHandle" ∧ (parseMethodDescriptor yX0_addTurns.desc).map (fun d => d.parameters.length) = some 2 := by decide +kernel
theorem wc_X0_earlierLike : Cond.code yX0_earlierLike cX0_earlierLike 3 (some .int) ∈ ww_ws := ww_t2 120 rfl rfl
theorem wn_X0_earlierLike : Cond.instanceMethod yX0_earlierLike ∈ ww_ws := ww_t2 119 rfl rfl
theorem we_X0_earlierLike : Cond.selects RX0 yX0_earlierLike yX0_earlierLike ∈ ww_ws := ww_s1 yX0_earlierLike 13 13 rfl rfl
theorem wp_X0_earlierLike : yX0_earlierLike.cls ≠ "java/lang/invoke/MethodHandle" ∧ yX0_earlierLike.cls ≠ "java/lang/invoke/VarHandle" ∧ (parseMethodDescriptor yX0_earlierLike.desc).map (fun d => d.parameters.length) = some 1 := by decide +kernel
theorem wc_X0_listByFirstLetter : Cond.code yX0_listByFirstLetter cX0_listByFirstLetter 2 none ∈ ww_ws := ww_t2 137 rfl rfl
theorem wn_X0_listByFirstLetter : Cond.instanceMethod yX0_listByFirstLetter ∈ ww_ws := ww_t2 136 rfl rfl
theorem we_X0_listByFirstLetter : Cond.selects RX0 yX0_listByFirstLetter yX0_listByFirstLetter ∈ ww_ws := ww_s1 yX0_listByFirstLetter 13 14 rfl rfl
theorem wp_X0_listByFirstLetter : yX0_listByFirstLetter.cls ≠ "java/lang/invoke/MethodHandle" ∧ yX0_listByFirstLetter.cls ≠ "java/lang/invoke/VarHandle" ∧ (parseMethodDescriptor yX0_listByFirstLetter.desc).map (fun d => d.parameters.length) = some 1 := by decide +kernel
theorem wc_X0_measure : Cond.code yX0_measure cX0_measure 4 none ∈ ww_ws := ww_t2 145 rfl rfl
theorem wn_X0_measure : Cond.instanceMethod yX0_measure ∈ ww_ws := ww_t2 144 rfl rfl
theorem we_X0_measure : Cond.selects RX0 yX0_measure yX0_measure ∈ ww_ws := ww_s1 yX0_measure 13 15 rfl rfl
theorem wp_X0_measure : yX0_measure.cls ≠ "java/lang/invoke/MethodHandle" ∧ yX0_measure.cls ≠ "java/lang/invoke/VarHandle" ∧ (parseMethodDescriptor yX0_measure.desc).map (fun d => d.parameters.length) = some 0 := by decide +kernel
theorem wc_X0_notePiece : Cond.code yX0_notePiece cX0_notePiece 4 none ∈ ww_ws := ww_t2 154 rfl rfl
theorem wn_X0_notePiece : Cond.instanceMethod yX0_notePiece ∈ ww_ws := ww_t2 153 rfl rfl
theorem we_X0_notePiece : Cond.selects RX0 yX0_notePiece yX0_notePiece ∈ ww_ws := ww_s2 yX0_notePiece 13 0 rfl rfl
theorem wp_X0_notePiece : yX0_notePiece.cls ≠ "java/lang/invoke/MethodHandle" ∧ yX0_notePiece.cls ≠ "java/lang/invoke/VarHandle" ∧ (parseMethodDescriptor yX0_notePiece.desc).map (fun d => d.parameters.length) = some 2 := by decide +kernel
theorem wc_X0_has : Cond.code yX0_has cX0_has 2 (some .boolean) ∈ ww_ws := ww_t2 128 rfl rfl
theorem wn_X0_has : Cond.instanceMethod yX0_has ∈ ww_ws := ww_t2 126 rfl rfl
theorem we_X0_has : Cond.selects RX0 yX0_has yX0_has ∈ ww_ws := ww_t2 127 rfl rfl
theorem wp_X0_has : yX0_has.cls ≠ "java/lang/invoke/MethodHandle" ∧ yX0_has.cls ≠ "java/lang/invoke/VarHandle" ∧ (parseMethodDescriptor yX0_has.desc).map (fun d => d.parameters.length) = some 1 := by decide +kernel
theorem wc_X0_sizeOf : Cond.code yX0_sizeOf cX0_sizeOf 2 (some .int) ∈ ww_ws := ww_t2 179 rfl rfl
theorem wn_X0_sizeOf : Cond.instanceMethod yX0_sizeOf ∈ ww_ws := ww_t2 177 rfl rfl
theorem we_X0_sizeOf : Cond.selects RX0 yX0_sizeOf yX0_sizeOf ∈ ww_ws := ww_t2 178 rfl rfl
theorem wp_X0_sizeOf : yX0_sizeOf.cls ≠ "java/lang/invoke/MethodHandle" ∧ yX0_sizeOf.cls ≠ "java/lang/invoke/VarHandle" ∧ (parseMethodDescriptor yX0_sizeOf.desc).map (fun d => d.parameters.length) = some 1 := by decide +kernel
theorem wc_X0_letterOf : Cond.code yX0_letterOf cX0_letterOf 3 (some .int) ∈ ww_ws := ww_t2 183 rfl rfl
theorem wn_X0_letterOf : Cond.instanceMethod yX0_letterOf ∈ ww_ws := ww_t2 181 rfl rfl
theorem we_X0_letterOf : Cond.selects RX0 yX0_letterOf yX0_letterOf ∈ ww_ws := ww_t2 182 rfl rfl
theorem wp_X0_letterOf : yX0_letterOf.cls ≠ "java/lang/invoke/MethodHandle" ∧ yX0_letterOf.cls ≠ "java/lang/invoke/VarHandle" ∧ (parseMethodDescriptor yX0_letterOf.desc).map (fun d => d.parameters.length) = some 2 := by decide +kernel
theorem wc_X0_sharedStart : Cond.code yX0_sharedStart cX0_sharedStart 3 (some .int) ∈ ww_ws := ww_t2 149 rfl rfl
theorem wn_X0_sharedStart : Cond.instanceMethod yX0_sharedStart ∈ ww_ws := ww_t2 147 rfl rfl
theorem we_X0_sharedStart : Cond.selects RX0 yX0_sharedStart yX0_sharedStart ∈ ww_ws := ww_t2 148 rfl rfl
theorem wp_X0_sharedStart : yX0_sharedStart.cls ≠ "java/lang/invoke/MethodHandle" ∧ yX0_sharedStart.cls ≠ "java/lang/invoke/VarHandle" ∧ (parseMethodDescriptor yX0_sharedStart.desc).map (fun d => d.parameters.length) = some 2 := by decide +kernel
theorem wc_X0_matchAt : Cond.code yX0_matchAt cX0_matchAt 4 (some .int) ∈ ww_ws := ww_t2 124 rfl rfl
theorem wn_X0_matchAt : Cond.instanceMethod yX0_matchAt ∈ ww_ws := ww_t2 122 rfl rfl
theorem we_X0_matchAt : Cond.selects RX0 yX0_matchAt yX0_matchAt ∈ ww_ws := ww_t2 123 rfl rfl
theorem wp_X0_matchAt : yX0_matchAt.cls ≠ "java/lang/invoke/MethodHandle" ∧ yX0_matchAt.cls ≠ "java/lang/invoke/VarHandle" ∧ (parseMethodDescriptor yX0_matchAt.desc).map (fun d => d.parameters.length) = some 3 := by decide +kernel
theorem wc_X0_beginsFresh : Cond.code yX0_beginsFresh cX0_beginsFresh 3 (some .boolean) ∈ ww_ws := ww_t3 128 rfl rfl
theorem wn_X0_beginsFresh : Cond.instanceMethod yX0_beginsFresh ∈ ww_ws := ww_t3 126 rfl rfl
theorem we_X0_beginsFresh : Cond.selects RX0 yX0_beginsFresh yX0_beginsFresh ∈ ww_ws := ww_t3 127 rfl rfl
theorem wp_X0_beginsFresh : yX0_beginsFresh.cls ≠ "java/lang/invoke/MethodHandle" ∧ yX0_beginsFresh.cls ≠ "java/lang/invoke/VarHandle" ∧ (parseMethodDescriptor yX0_beginsFresh.desc).map (fun d => d.parameters.length) = some 2 := by decide +kernel
theorem wc_X0_startersWith : Cond.code yX0_startersWith cX0_startersWith 2 (some .int) ∈ ww_ws := ww_t3 51 rfl rfl
theorem wn_X0_startersWith : Cond.instanceMethod yX0_startersWith ∈ ww_ws := ww_t3 49 rfl rfl
theorem we_X0_startersWith : Cond.selects RX0 yX0_startersWith yX0_startersWith ∈ ww_ws := ww_t3 50 rfl rfl
theorem wp_X0_startersWith : yX0_startersWith.cls ≠ "java/lang/invoke/MethodHandle" ∧ yX0_startersWith.cls ≠ "java/lang/invoke/VarHandle" ∧ (parseMethodDescriptor yX0_startersWith.desc).map (fun d => d.parameters.length) = some 1 := by decide +kernel
theorem wc_X0_starter : Cond.code yX0_starter cX0_starter 3 (some .int) ∈ ww_ws := ww_t3 55 rfl rfl
theorem wn_X0_starter : Cond.instanceMethod yX0_starter ∈ ww_ws := ww_t3 53 rfl rfl
theorem we_X0_starter : Cond.selects RX0 yX0_starter yX0_starter ∈ ww_ws := ww_t3 54 rfl rfl
theorem wp_X0_starter : yX0_starter.cls ≠ "java/lang/invoke/MethodHandle" ∧ yX0_starter.cls ≠ "java/lang/invoke/VarHandle" ∧ (parseMethodDescriptor yX0_starter.desc).map (fun d => d.parameters.length) = some 2 := by decide +kernel
theorem wc_X0_areGood : Cond.code yX0_areGood cX0_areGood 3 (some .boolean) ∈ ww_ws := ww_t2 191 rfl rfl
theorem wn_X0_areGood : Cond.instanceMethod yX0_areGood ∈ ww_ws := ww_t2 189 rfl rfl
theorem we_X0_areGood : Cond.selects RX0 yX0_areGood yX0_areGood ∈ ww_ws := ww_t2 190 rfl rfl
theorem wp_X0_areGood : yX0_areGood.cls ≠ "java/lang/invoke/MethodHandle" ∧ yX0_areGood.cls ≠ "java/lang/invoke/VarHandle" ∧ (parseMethodDescriptor yX0_areGood.desc).map (fun d => d.parameters.length) = some 1 := by decide +kernel
theorem wc_X0_rankBy : Cond.code yX0_rankBy cX0_rankBy 4 (some .int) ∈ ww_ws := ww_t2 204 rfl rfl
theorem wn_X0_rankBy : Cond.instanceMethod yX0_rankBy ∈ ww_ws := ww_t2 202 rfl rfl
theorem we_X0_rankBy : Cond.selects RX0 yX0_rankBy yX0_rankBy ∈ ww_ws := ww_t2 203 rfl rfl
theorem wp_X0_rankBy : yX0_rankBy.cls ≠ "java/lang/invoke/MethodHandle" ∧ yX0_rankBy.cls ≠ "java/lang/invoke/VarHandle" ∧ (parseMethodDescriptor yX0_rankBy.desc).map (fun d => d.parameters.length) = some 1 := by decide +kernel
theorem wc_X0_bringPivot : Cond.code yX0_bringPivot cX0_bringPivot 6 (some .boolean) ∈ ww_ws := ww_t2 215 rfl rfl
theorem wn_X0_bringPivot : Cond.instanceMethod yX0_bringPivot ∈ ww_ws := ww_t2 214 rfl rfl
theorem we_X0_bringPivot : Cond.selects RX0 yX0_bringPivot yX0_bringPivot ∈ ww_ws := ww_s2 yX0_bringPivot 13 1 rfl rfl
theorem wp_X0_bringPivot : yX0_bringPivot.cls ≠ "java/lang/invoke/MethodHandle" ∧ yX0_bringPivot.cls ≠ "java/lang/invoke/VarHandle" ∧ (parseMethodDescriptor yX0_bringPivot.desc).map (fun d => d.parameters.length) = some 2 := by decide +kernel
theorem wc_X0_clearBelow : Cond.code yX0_clearBelow cX0_clearBelow 8 none ∈ ww_ws := ww_t2 219 rfl rfl
theorem wn_X0_clearBelow : Cond.instanceMethod yX0_clearBelow ∈ ww_ws := ww_t2 218 rfl rfl
theorem we_X0_clearBelow : Cond.selects RX0 yX0_clearBelow yX0_clearBelow ∈ ww_ws := ww_s2 yX0_clearBelow 13 2 rfl rfl
theorem wp_X0_clearBelow : yX0_clearBelow.cls ≠ "java/lang/invoke/MethodHandle" ∧ yX0_clearBelow.cls ≠ "java/lang/invoke/VarHandle" ∧ (parseMethodDescriptor yX0_clearBelow.desc).map (fun d => d.parameters.length) = some 3 := by decide +kernel
theorem wc_X1_init : Cond.code yX1_init cX1_init 2 none ∈ ww_ws := ww_t1 70 rfl rfl
theorem wn_X1_init : Cond.instanceMethod yX1_init ∈ ww_ws := ww_t1 69 rfl rfl
theorem wp_X1_init : yX1_init.cls ≠ "java/lang/invoke/MethodHandle" ∧ yX1_init.cls ≠ "java/lang/invoke/VarHandle" ∧ (parseMethodDescriptor yX1_init.desc).map (fun d => d.parameters.length) = some 0 := by decide +kernel
theorem wc_X1_readAll : Cond.code yX1_readAll cX1_readAll 7 (some .int) ∈ ww_ws := ww_t2 48 rfl rfl
theorem wn_X1_readAll : Cond.instanceMethod yX1_readAll ∈ ww_ws := ww_t2 46 rfl rfl
theorem we_X1_readAll : Cond.selects RX1 yX1_readAll yX1_readAll ∈ ww_ws := ww_t2 47 rfl rfl
theorem wp_X1_readAll : yX1_readAll.cls ≠ "java/lang/invoke/MethodHandle" ∧ yX1_readAll.cls ≠ "java/lang/invoke/VarHandle" ∧ (parseMethodDescriptor yX1_readAll.desc).map (fun d => d.parameters.length) = some 3 := by decide +kernel
theorem wc_X1_startWord : Cond.code yX1_startWord cX1_startWord 1 none ∈ ww_ws := ww_t2 53 rfl rfl
theorem wn_X1_startWord : Cond.instanceMethod yX1_startWord ∈ ww_ws := ww_t2 52 rfl rfl
theorem we_X1_startWord : Cond.selects RX1 yX1_startWord yX1_startWord ∈ ww_ws := ww_s1 yX1_startWord 8 7 rfl rfl
theorem wp_X1_startWord : yX1_startWord.cls ≠ "java/lang/invoke/MethodHandle" ∧ yX1_startWord.cls ≠ "java/lang/invoke/VarHandle" ∧ (parseMethodDescriptor yX1_startWord.desc).map (fun d => d.parameters.length) = some 0 := by decide +kernel
theorem wc_X1_readByte : Cond.code yX1_readByte cX1_readByte 4 none ∈ ww_ws := ww_t2 57 rfl rfl
theorem wn_X1_readByte : Cond.instanceMethod yX1_readByte ∈ ww_ws := ww_t2 56 rfl rfl
theorem we_X1_readByte : Cond.selects RX1 yX1_readByte yX1_readByte ∈ ww_ws := ww_s1 yX1_readByte 8 8 rfl rfl
theorem wp_X1_readByte : yX1_readByte.cls ≠ "java/lang/invoke/MethodHandle" ∧ yX1_readByte.cls ≠ "java/lang/invoke/VarHandle" ∧ (parseMethodDescriptor yX1_readByte.desc).map (fun d => d.parameters.length) = some 1 := by decide +kernel
theorem wc_X1_putRaw : Cond.code yX1_putRaw cX1_putRaw 2 none ∈ ww_ws := ww_t2 63 rfl rfl
theorem wn_X1_putRaw : Cond.instanceMethod yX1_putRaw ∈ ww_ws := ww_t2 62 rfl rfl
theorem we_X1_putRaw : Cond.selects RX1 yX1_putRaw yX1_putRaw ∈ ww_ws := ww_s1 yX1_putRaw 8 9 rfl rfl
theorem wp_X1_putRaw : yX1_putRaw.cls ≠ "java/lang/invoke/MethodHandle" ∧ yX1_putRaw.cls ≠ "java/lang/invoke/VarHandle" ∧ (parseMethodDescriptor yX1_putRaw.desc).map (fun d => d.parameters.length) = some 1 := by decide +kernel
theorem wc_X1_repeatFactor : Cond.code yX1_repeatFactor cX1_repeatFactor 5 none ∈ ww_ws := ww_t2 67 rfl rfl
theorem wn_X1_repeatFactor : Cond.instanceMethod yX1_repeatFactor ∈ ww_ws := ww_t2 66 rfl rfl
theorem we_X1_repeatFactor : Cond.selects RX1 yX1_repeatFactor yX1_repeatFactor ∈ ww_ws := ww_s1 yX1_repeatFactor 8 10 rfl rfl
theorem wp_X1_repeatFactor : yX1_repeatFactor.cls ≠ "java/lang/invoke/MethodHandle" ∧ yX1_repeatFactor.cls ≠ "java/lang/invoke/VarHandle" ∧ (parseMethodDescriptor yX1_repeatFactor.desc).map (fun d => d.parameters.length) = some 1 := by decide +kernel
theorem wc_X1_takeWord : Cond.code yX1_takeWord cX1_takeWord 5 (some .boolean) ∈ ww_ws := ww_t2 71 rfl rfl
theorem wn_X1_takeWord : Cond.instanceMethod yX1_takeWord ∈ ww_ws := ww_t2 70 rfl rfl
theorem we_X1_takeWord : Cond.selects RX1 yX1_takeWord yX1_takeWord ∈ ww_ws := ww_s1 yX1_takeWord 8 11 rfl rfl
theorem wp_X1_takeWord : yX1_takeWord.cls ≠ "java/lang/invoke/MethodHandle" ∧ yX1_takeWord.cls ≠ "java/lang/invoke/VarHandle" ∧ (parseMethodDescriptor yX1_takeWord.desc).map (fun d => d.parameters.length) = some 2 := by decide +kernel
theorem wc_X2_init : Cond.code yX2_init cX2_init 2 none ∈ ww_ws := ww_t1 22 rfl rfl
theorem wn_X2_init : Cond.instanceMethod yX2_init ∈ ww_ws := ww_t1 21 rfl rfl
theorem wp_X2_init : yX2_init.cls ≠ "java/lang/invoke/MethodHandle" ∧ yX2_init.cls ≠ "java/lang/invoke/VarHandle" ∧ (parseMethodDescriptor yX2_init.desc).map (fun d => d.parameters.length) = some 1 := by decide +kernel
theorem wc_X2_at : Cond.code yX2_at cX2_at 2 (some .int) ∈ ww_ws := ww_t2 83 rfl rfl
theorem wn_X2_at : Cond.instanceMethod yX2_at ∈ ww_ws := ww_t2 81 rfl rfl
theorem we_X2_at : Cond.selects RX2 yX2_at yX2_at ∈ ww_ws := ww_t2 82 rfl rfl
theorem wp_X2_at : yX2_at.cls ≠ "java/lang/invoke/MethodHandle" ∧ yX2_at.cls ≠ "java/lang/invoke/VarHandle" ∧ (parseMethodDescriptor yX2_at.desc).map (fun d => d.parameters.length) = some 1 := by decide +kernel
theorem wc_X2_wipe : Cond.code yX2_wipe cX2_wipe 1 none ∈ ww_ws := ww_t2 75 rfl rfl
theorem wn_X2_wipe : Cond.instanceMethod yX2_wipe ∈ ww_ws := ww_t2 73 rfl rfl
theorem we_X2_wipe : Cond.selects RX2 yX2_wipe yX2_wipe ∈ ww_ws := ww_t2 74 rfl rfl
theorem wp_X2_wipe : yX2_wipe.cls ≠ "java/lang/invoke/MethodHandle" ∧ yX2_wipe.cls ≠ "java/lang/invoke/VarHandle" ∧ (parseMethodDescriptor yX2_wipe.desc).map (fun d => d.parameters.length) = some 0 := by decide +kernel
theorem wc_X2_put : Cond.code yX2_put cX2_put 2 none ∈ ww_ws := ww_t2 79 rfl rfl
theorem wn_X2_put : Cond.instanceMethod yX2_put ∈ ww_ws := ww_t2 77 rfl rfl
theorem we_X2_put : Cond.selects RX2 yX2_put yX2_put ∈ ww_ws := ww_t2 78 rfl rfl
theorem wp_X2_put : yX2_put.cls ≠ "java/lang/invoke/MethodHandle" ∧ yX2_put.cls ≠ "java/lang/invoke/VarHandle" ∧ (parseMethodDescriptor yX2_put.desc).map (fun d => d.parameters.length) = some 1 := by decide +kernel
theorem wc_X2_copy : Cond.code yX2_copy cX2_copy 4 none ∈ ww_ws := ww_t2 101 rfl rfl
theorem wn_X2_copy : Cond.instanceMethod yX2_copy ∈ ww_ws := ww_t2 99 rfl rfl
theorem we_X2_copy : Cond.selects RX2 yX2_copy yX2_copy ∈ ww_ws := ww_t2 100 rfl rfl
theorem wp_X2_copy : yX2_copy.cls ≠ "java/lang/invoke/MethodHandle" ∧ yX2_copy.cls ≠ "java/lang/invoke/VarHandle" ∧ (parseMethodDescriptor yX2_copy.desc).map (fun d => d.parameters.length) = some 1 := by decide +kernel
theorem wc_X2_putRow : Cond.code yX2_putRow cX2_putRow 2 none ∈ ww_ws := ww_t3 5 rfl rfl
theorem wn_X2_putRow : Cond.instanceMethod yX2_putRow ∈ ww_ws := ww_t3 3 rfl rfl
theorem we_X2_putRow : Cond.selects RX2 yX2_putRow yX2_putRow ∈ ww_ws := ww_t3 4 rfl rfl
theorem wp_X2_putRow : yX2_putRow.cls ≠ "java/lang/invoke/MethodHandle" ∧ yX2_putRow.cls ≠ "java/lang/invoke/VarHandle" ∧ (parseMethodDescriptor yX2_putRow.desc).map (fun d => d.parameters.length) = some 1 := by decide +kernel
theorem wc_X2_putPart : Cond.code yX2_putPart cX2_putPart 5 none ∈ ww_ws := ww_t2 115 rfl rfl
theorem wn_X2_putPart : Cond.instanceMethod yX2_putPart ∈ ww_ws := ww_t2 113 rfl rfl
theorem we_X2_putPart : Cond.selects RX2 yX2_putPart yX2_putPart ∈ ww_ws := ww_t2 114 rfl rfl
theorem wp_X2_putPart : yX2_putPart.cls ≠ "java/lang/invoke/MethodHandle" ∧ yX2_putPart.cls ≠ "java/lang/invoke/VarHandle" ∧ (parseMethodDescriptor yX2_putPart.desc).map (fun d => d.parameters.length) = some 3 := by decide +kernel
theorem wc_X2_putInverse : Cond.code yX2_putInverse cX2_putInverse 3 none ∈ ww_ws := ww_t2 141 rfl rfl
theorem wn_X2_putInverse : Cond.instanceMethod yX2_putInverse ∈ ww_ws := ww_t2 139 rfl rfl
theorem we_X2_putInverse : Cond.selects RX2 yX2_putInverse yX2_putInverse ∈ ww_ws := ww_t2 140 rfl rfl
theorem wp_X2_putInverse : yX2_putInverse.cls ≠ "java/lang/invoke/MethodHandle" ∧ yX2_putInverse.cls ≠ "java/lang/invoke/VarHandle" ∧ (parseMethodDescriptor yX2_putInverse.desc).map (fun d => d.parameters.length) = some 1 := by decide +kernel
theorem wc_X2_putTurn : Cond.code yX2_putTurn cX2_putTurn 3 none ∈ ww_ws := ww_t2 111 rfl rfl
theorem wn_X2_putTurn : Cond.instanceMethod yX2_putTurn ∈ ww_ws := ww_t2 109 rfl rfl
theorem we_X2_putTurn : Cond.selects RX2 yX2_putTurn yX2_putTurn ∈ ww_ws := ww_t2 110 rfl rfl
theorem wp_X2_putTurn : yX2_putTurn.cls ≠ "java/lang/invoke/MethodHandle" ∧ yX2_putTurn.cls ≠ "java/lang/invoke/VarHandle" ∧ (parseMethodDescriptor yX2_putTurn.desc).map (fun d => d.parameters.length) = some 2 := by decide +kernel
theorem wc_X2_cutToRing : Cond.code yX2_cutToRing cX2_cutToRing 4 none ∈ ww_ws := ww_t2 90 rfl rfl
theorem wn_X2_cutToRing : Cond.instanceMethod yX2_cutToRing ∈ ww_ws := ww_t2 88 rfl rfl
theorem we_X2_cutToRing : Cond.selects RX2 yX2_cutToRing yX2_cutToRing ∈ ww_ws := ww_t2 89 rfl rfl
theorem wp_X2_cutToRing : yX2_cutToRing.cls ≠ "java/lang/invoke/MethodHandle" ∧ yX2_cutToRing.cls ≠ "java/lang/invoke/VarHandle" ∧ (parseMethodDescriptor yX2_cutToRing.desc).map (fun d => d.parameters.length) = some 0 := by decide +kernel
theorem wc_X2_likeFrom : Cond.code yX2_likeFrom cX2_likeFrom 5 (some .int) ∈ ww_ws := ww_t2 132 rfl rfl
theorem wn_X2_likeFrom : Cond.instanceMethod yX2_likeFrom ∈ ww_ws := ww_t2 130 rfl rfl
theorem we_X2_likeFrom : Cond.selects RX2 yX2_likeFrom yX2_likeFrom ∈ ww_ws := ww_t2 131 rfl rfl
theorem wp_X2_likeFrom : yX2_likeFrom.cls ≠ "java/lang/invoke/MethodHandle" ∧ yX2_likeFrom.cls ≠ "java/lang/invoke/VarHandle" ∧ (parseMethodDescriptor yX2_likeFrom.desc).map (fun d => d.parameters.length) = some 2 := by decide +kernel
theorem wc_X2_surplusOf : Cond.code yX2_surplusOf cX2_surplusOf 4 (some .int) ∈ ww_ws := ww_t2 208 rfl rfl
theorem wn_X2_surplusOf : Cond.instanceMethod yX2_surplusOf ∈ ww_ws := ww_t2 206 rfl rfl
theorem we_X2_surplusOf : Cond.selects RX2 yX2_surplusOf yX2_surplusOf ∈ ww_ws := ww_t2 207 rfl rfl
theorem wp_X2_surplusOf : yX2_surplusOf.cls ≠ "java/lang/invoke/MethodHandle" ∧ yX2_surplusOf.cls ≠ "java/lang/invoke/VarHandle" ∧ (parseMethodDescriptor yX2_surplusOf.desc).map (fun d => d.parameters.length) = some 1 := by decide +kernel
theorem wc_X3_init : Cond.code yX3_init cX3_init 2 none ∈ ww_ws := ww_t1 163 rfl rfl
theorem wn_X3_init : Cond.instanceMethod yX3_init ∈ ww_ws := ww_t1 162 rfl rfl
theorem wp_X3_init : yX3_init.cls ≠ "java/lang/invoke/MethodHandle" ∧ yX3_init.cls ≠ "java/lang/invoke/VarHandle" ∧ (parseMethodDescriptor yX3_init.desc).map (fun d => d.parameters.length) = some 1 := by decide +kernel
theorem wc_X3_seek : Cond.code yX3_seek cX3_seek 10 (some .int) ∈ ww_ws := ww_t3 46 rfl rfl
theorem wn_X3_seek : Cond.instanceMethod yX3_seek ∈ ww_ws := ww_t3 44 rfl rfl
theorem we_X3_seek : Cond.selects RX3 yX3_seek yX3_seek ∈ ww_ws := ww_t3 45 rfl rfl
theorem wp_X3_seek : yX3_seek.cls ≠ "java/lang/invoke/MethodHandle" ∧ yX3_seek.cls ≠ "java/lang/invoke/VarHandle" ∧ (parseMethodDescriptor yX3_seek.desc).map (fun d => d.parameters.length) = some 1 := by decide +kernel
theorem wc_X3_isBetter : Cond.code yX3_isBetter cX3_isBetter 4 (some .boolean) ∈ ww_ws := ww_t3 62 rfl rfl
theorem wn_X3_isBetter : Cond.instanceMethod yX3_isBetter ∈ ww_ws := ww_t3 61 rfl rfl
theorem we_X3_isBetter : Cond.selects RX3 yX3_isBetter yX3_isBetter ∈ ww_ws := ww_s2 yX3_isBetter 7 5 rfl rfl
theorem wp_X3_isBetter : yX3_isBetter.cls ≠ "java/lang/invoke/MethodHandle" ∧ yX3_isBetter.cls ≠ "java/lang/invoke/VarHandle" ∧ (parseMethodDescriptor yX3_isBetter.desc).map (fun d => d.parameters.length) = some 3 := by decide +kernel
theorem wc_X3_take : Cond.code yX3_take cX3_take 4 none ∈ ww_ws := ww_t3 66 rfl rfl
theorem wn_X3_take : Cond.instanceMethod yX3_take ∈ ww_ws := ww_t3 65 rfl rfl
theorem we_X3_take : Cond.selects RX3 yX3_take yX3_take ∈ ww_ws := ww_s2 yX3_take 7 6 rfl rfl
theorem wp_X3_take : yX3_take.cls ≠ "java/lang/invoke/MethodHandle" ∧ yX3_take.cls ≠ "java/lang/invoke/VarHandle" ∧ (parseMethodDescriptor yX3_take.desc).map (fun d => d.parameters.length) = some 3 := by decide +kernel
theorem wc_X3_doCut : Cond.code yX3_doCut cX3_doCut 3 none ∈ ww_ws := ww_t3 74 rfl rfl
theorem wn_X3_doCut : Cond.instanceMethod yX3_doCut ∈ ww_ws := ww_t3 72 rfl rfl
theorem we_X3_doCut : Cond.selects RX3 yX3_doCut yX3_doCut ∈ ww_ws := ww_t3 73 rfl rfl
theorem wp_X3_doCut : yX3_doCut.cls ≠ "java/lang/invoke/MethodHandle" ∧ yX3_doCut.cls ≠ "java/lang/invoke/VarHandle" ∧ (parseMethodDescriptor yX3_doCut.desc).map (fun d => d.parameters.length) = some 1 := by decide +kernel
theorem wc_X3_doAll : Cond.code yX3_doAll cX3_doAll 3 (some .int) ∈ ww_ws := ww_t3 88 rfl rfl
theorem wn_X3_doAll : Cond.instanceMethod yX3_doAll ∈ ww_ws := ww_t3 86 rfl rfl
theorem we_X3_doAll : Cond.selects RX3 yX3_doAll yX3_doAll ∈ ww_ws := ww_t3 87 rfl rfl
theorem wp_X3_doAll : yX3_doAll.cls ≠ "java/lang/invoke/MethodHandle" ∧ yX3_doAll.cls ≠ "java/lang/invoke/VarHandle" ∧ (parseMethodDescriptor yX3_doAll.desc).map (fun d => d.parameters.length) = some 1 := by decide +kernel
theorem wc_X3_doThrough : Cond.code yX3_doThrough cX3_doThrough 4 (some .boolean) ∈ ww_ws := ww_t3 98 rfl rfl
theorem wn_X3_doThrough : Cond.instanceMethod yX3_doThrough ∈ ww_ws := ww_t3 96 rfl rfl
theorem we_X3_doThrough : Cond.selects RX3 yX3_doThrough yX3_doThrough ∈ ww_ws := ww_t3 97 rfl rfl
theorem wp_X3_doThrough : yX3_doThrough.cls ≠ "java/lang/invoke/MethodHandle" ∧ yX3_doThrough.cls ≠ "java/lang/invoke/VarHandle" ∧ (parseMethodDescriptor yX3_doThrough.desc).map (fun d => d.parameters.length) = some 2 := by decide +kernel
theorem wc_X4_init : Cond.code yX4_init cX4_init 1 none ∈ ww_ws := ww_t1 43 rfl rfl
theorem wn_X4_init : Cond.instanceMethod yX4_init ∈ ww_ws := ww_t1 42 rfl rfl
theorem wp_X4_init : yX4_init.cls ≠ "java/lang/invoke/MethodHandle" ∧ yX4_init.cls ≠ "java/lang/invoke/VarHandle" ∧ (parseMethodDescriptor yX4_init.desc).map (fun d => d.parameters.length) = some 0 := by decide +kernel
theorem wc_X4_accept : Cond.code yX4_accept cX4_accept 2 (some .boolean) ∈ ww_ws := ww_t1 238 rfl rfl
theorem wn_X4_accept : Cond.instanceMethod yX4_accept ∈ ww_ws := ww_t1 236 rfl rfl
theorem we_X4_accept : Cond.selects RX4 yX4_accept yX4_accept ∈ ww_ws := ww_t1 237 rfl rfl
theorem wp_X4_accept : yX4_accept.cls ≠ "java/lang/invoke/MethodHandle" ∧ yX4_accept.cls ≠ "java/lang/invoke/VarHandle" ∧ (parseMethodDescriptor yX4_accept.desc).map (fun d => d.parameters.length) = some 1 := by decide +kernel
theorem wc_X4_byteAt : Cond.code yX4_byteAt cX4_byteAt 2 (some .int) ∈ ww_ws := ww_t2 18 rfl rfl
theorem wn_X4_byteAt : Cond.instanceMethod yX4_byteAt ∈ ww_ws := ww_t2 16 rfl rfl
theorem we_X4_byteAt : Cond.selects RX4 yX4_byteAt yX4_byteAt ∈ ww_ws := ww_t2 17 rfl rfl
theorem wp_X4_byteAt : yX4_byteAt.cls ≠ "java/lang/invoke/MethodHandle" ∧ yX4_byteAt.cls ≠ "java/lang/invoke/VarHandle" ∧ (parseMethodDescriptor yX4_byteAt.desc).map (fun d => d.parameters.length) = some 1 := by decide +kernel
theorem wc_X4_wrongPlace : Cond.code yX4_wrongPlace cX4_wrongPlace 2 (some .int) ∈ ww_ws := ww_t2 14 rfl rfl
theorem wn_X4_wrongPlace : Cond.instanceMethod yX4_wrongPlace ∈ ww_ws := ww_t2 12 rfl rfl
theorem we_X4_wrongPlace : Cond.selects RX4 yX4_wrongPlace yX4_wrongPlace ∈ ww_ws := ww_t2 13 rfl rfl
theorem wp_X4_wrongPlace : yX4_wrongPlace.cls ≠ "java/lang/invoke/MethodHandle" ∧ yX4_wrongPlace.cls ≠ "java/lang/invoke/VarHandle" ∧ (parseMethodDescriptor yX4_wrongPlace.desc).map (fun d => d.parameters.length) = some 0 := by decide +kernel
theorem wc_X4_standsNext : Cond.code yX4_standsNext cX4_standsNext 3 (some .boolean) ∈ ww_ws := ww_t2 22 rfl rfl
theorem wn_X4_standsNext : Cond.instanceMethod yX4_standsNext ∈ ww_ws := ww_t2 21 rfl rfl
theorem we_X4_standsNext : Cond.selects RX4 yX4_standsNext yX4_standsNext ∈ ww_ws := ww_s1 yX4_standsNext 6 2 rfl rfl
theorem wp_X4_standsNext : yX4_standsNext.cls ≠ "java/lang/invoke/MethodHandle" ∧ yX4_standsNext.cls ≠ "java/lang/invoke/VarHandle" ∧ (parseMethodDescriptor yX4_standsNext.desc).map (fun d => d.parameters.length) = some 1 := by decide +kernel
theorem wc_X4_factorEnds : Cond.code yX4_factorEnds cX4_factorEnds 1 (some .boolean) ∈ ww_ws := ww_t2 32 rfl rfl
theorem wn_X4_factorEnds : Cond.instanceMethod yX4_factorEnds ∈ ww_ws := ww_t2 31 rfl rfl
theorem we_X4_factorEnds : Cond.selects RX4 yX4_factorEnds yX4_factorEnds ∈ ww_ws := ww_s1 yX4_factorEnds 6 3 rfl rfl
theorem wp_X4_factorEnds : yX4_factorEnds.cls ≠ "java/lang/invoke/MethodHandle" ∧ yX4_factorEnds.cls ≠ "java/lang/invoke/VarHandle" ∧ (parseMethodDescriptor yX4_factorEnds.desc).map (fun d => d.parameters.length) = some 0 := by decide +kernel
theorem wc_X4_bracketOpens : Cond.code yX4_bracketOpens cX4_bracketOpens 1 (some .boolean) ∈ ww_ws := ww_t2 36 rfl rfl
theorem wn_X4_bracketOpens : Cond.instanceMethod yX4_bracketOpens ∈ ww_ws := ww_t2 35 rfl rfl
theorem we_X4_bracketOpens : Cond.selects RX4 yX4_bracketOpens yX4_bracketOpens ∈ ww_ws := ww_s1 yX4_bracketOpens 6 4 rfl rfl
theorem wp_X4_bracketOpens : yX4_bracketOpens.cls ≠ "java/lang/invoke/MethodHandle" ∧ yX4_bracketOpens.cls ≠ "java/lang/invoke/VarHandle" ∧ (parseMethodDescriptor yX4_bracketOpens.desc).map (fun d => d.parameters.length) = some 0 := by decide +kernel
theorem wc_X4_bracketCloses : Cond.code yX4_bracketCloses cX4_bracketCloses 1 (some .boolean) ∈ ww_ws := ww_t2 40 rfl rfl
theorem wn_X4_bracketCloses : Cond.instanceMethod yX4_bracketCloses ∈ ww_ws := ww_t2 39 rfl rfl
theorem we_X4_bracketCloses : Cond.selects RX4 yX4_bracketCloses yX4_bracketCloses ∈ ww_ws := ww_s1 yX4_bracketCloses 6 5 rfl rfl
theorem wp_X4_bracketCloses : yX4_bracketCloses.cls ≠ "java/lang/invoke/MethodHandle" ∧ yX4_bracketCloses.cls ≠ "java/lang/invoke/VarHandle" ∧ (parseMethodDescriptor yX4_bracketCloses.desc).map (fun d => d.parameters.length) = some 0 := by decide +kernel
theorem wc_X4_wordEnds : Cond.code yX4_wordEnds cX4_wordEnds 1 (some .boolean) ∈ ww_ws := ww_t2 44 rfl rfl
theorem wn_X4_wordEnds : Cond.instanceMethod yX4_wordEnds ∈ ww_ws := ww_t2 43 rfl rfl
theorem we_X4_wordEnds : Cond.selects RX4 yX4_wordEnds yX4_wordEnds ∈ ww_ws := ww_s1 yX4_wordEnds 6 6 rfl rfl
theorem wp_X4_wordEnds : yX4_wordEnds.cls ≠ "java/lang/invoke/MethodHandle" ∧ yX4_wordEnds.cls ≠ "java/lang/invoke/VarHandle" ∧ (parseMethodDescriptor yX4_wordEnds.desc).map (fun d => d.parameters.length) = some 0 := by decide +kernel
theorem wc_X4_letterFor : Cond.code yX4_letterFor cX4_letterFor 1 (some .int) ∈ ww_ws := ww_t2 28 rfl rfl
theorem wn_X4_letterFor : Cond.static yX4_letterFor ∈ ww_ws := ww_t2 27 rfl rfl
theorem wp_X4_letterFor : yX4_letterFor.cls ≠ "java/lang/invoke/MethodHandle" ∧ yX4_letterFor.cls ≠ "java/lang/invoke/VarHandle" ∧ (parseMethodDescriptor yX4_letterFor.desc).map (fun d => d.parameters.length) = some 1 := by decide +kernel
theorem wc_X4_figureFor : Cond.code yX4_figureFor cX4_figureFor 1 (some .int) ∈ ww_ws := ww_t2 25 rfl rfl
theorem wn_X4_figureFor : Cond.static yX4_figureFor ∈ ww_ws := ww_t2 24 rfl rfl
theorem wp_X4_figureFor : yX4_figureFor.cls ≠ "java/lang/invoke/MethodHandle" ∧ yX4_figureFor.cls ≠ "java/lang/invoke/VarHandle" ∧ (parseMethodDescriptor yX4_figureFor.desc).map (fun d => d.parameters.length) = some 1 := by decide +kernel
theorem wc_X5_init : Cond.code yX5_init cX5_init 2 none ∈ ww_ws := ww_t1 13 rfl rfl
theorem wn_X5_init : Cond.instanceMethod yX5_init ∈ ww_ws := ww_t1 12 rfl rfl
theorem wp_X5_init : yX5_init.cls ≠ "java/lang/invoke/MethodHandle" ∧ yX5_init.cls ≠ "java/lang/invoke/VarHandle" ∧ (parseMethodDescriptor yX5_init.desc).map (fun d => d.parameters.length) = some 0 := by decide +kernel
theorem wc_X5_type : Cond.code yX5_type cX5_type 2 (some .int) ∈ ww_ws := ww_t1 230 rfl rfl
theorem wn_X5_type : Cond.instanceMethod yX5_type ∈ ww_ws := ww_t1 228 rfl rfl
theorem we_X5_type : Cond.selects RX5 yX5_type yX5_type ∈ ww_ws := ww_t1 229 rfl rfl
theorem wp_X5_type : yX5_type.cls ≠ "java/lang/invoke/MethodHandle" ∧ yX5_type.cls ≠ "java/lang/invoke/VarHandle" ∧ (parseMethodDescriptor yX5_type.desc).map (fun d => d.parameters.length) = some 1 := by decide +kernel
theorem wc_X5_clear : Cond.code yX5_clear cX5_clear 2 (some .int) ∈ ww_ws := ww_t2 2 rfl rfl
theorem wn_X5_clear : Cond.instanceMethod yX5_clear ∈ ww_ws := ww_t2 0 rfl rfl
theorem we_X5_clear : Cond.selects RX5 yX5_clear yX5_clear ∈ ww_ws := ww_t2 1 rfl rfl
theorem wp_X5_clear : yX5_clear.cls ≠ "java/lang/invoke/MethodHandle" ∧ yX5_clear.cls ≠ "java/lang/invoke/VarHandle" ∧ (parseMethodDescriptor yX5_clear.desc).map (fun d => d.parameters.length) = some 0 := by decide +kernel
theorem wc_X5_relators : Cond.code yX5_relators cX5_relators 2 (some .int) ∈ ww_ws := ww_t2 6 rfl rfl
theorem wn_X5_relators : Cond.instanceMethod yX5_relators ∈ ww_ws := ww_t2 4 rfl rfl
theorem we_X5_relators : Cond.selects RX5 yX5_relators yX5_relators ∈ ww_ws := ww_t2 5 rfl rfl
theorem wp_X5_relators : yX5_relators.cls ≠ "java/lang/invoke/MethodHandle" ∧ yX5_relators.cls ≠ "java/lang/invoke/VarHandle" ∧ (parseMethodDescriptor yX5_relators.desc).map (fun d => d.parameters.length) = some 0 := by decide +kernel
theorem wc_X5_words : Cond.code yX5_words cX5_words 4 (some .int) ∈ ww_ws := ww_t2 158 rfl rfl
theorem wn_X5_words : Cond.instanceMethod yX5_words ∈ ww_ws := ww_t2 156 rfl rfl
theorem we_X5_words : Cond.selects RX5 yX5_words yX5_words ∈ ww_ws := ww_t2 157 rfl rfl
theorem wp_X5_words : yX5_words.cls ≠ "java/lang/invoke/MethodHandle" ∧ yX5_words.cls ≠ "java/lang/invoke/VarHandle" ∧ (parseMethodDescriptor yX5_words.desc).map (fun d => d.parameters.length) = some 1 := by decide +kernel
theorem wc_X5_chooser : Cond.code yX5_chooser cX5_chooser 3 (some .int) ∈ ww_ws := ww_t2 166 rfl rfl
theorem wn_X5_chooser : Cond.instanceMethod yX5_chooser ∈ ww_ws := ww_t2 164 rfl rfl
theorem we_X5_chooser : Cond.selects RX5 yX5_chooser yX5_chooser ∈ ww_ws := ww_t2 165 rfl rfl
theorem wp_X5_chooser : yX5_chooser.cls ≠ "java/lang/invoke/MethodHandle" ∧ yX5_chooser.cls ≠ "java/lang/invoke/VarHandle" ∧ (parseMethodDescriptor yX5_chooser.desc).map (fun d => d.parameters.length) = some 1 := by decide +kernel
theorem wc_X5_relator : Cond.code yX5_relator cX5_relator 3 (some .int) ∈ ww_ws := ww_t2 170 rfl rfl
theorem wn_X5_relator : Cond.instanceMethod yX5_relator ∈ ww_ws := ww_t2 168 rfl rfl
theorem we_X5_relator : Cond.selects RX5 yX5_relator yX5_relator ∈ ww_ws := ww_t2 169 rfl rfl
theorem wp_X5_relator : yX5_relator.cls ≠ "java/lang/invoke/MethodHandle" ∧ yX5_relator.cls ≠ "java/lang/invoke/VarHandle" ∧ (parseMethodDescriptor yX5_relator.desc).map (fun d => d.parameters.length) = some 2 := by decide +kernel
theorem wc_X5_member : Cond.code yX5_member cX5_member 3 (some .int) ∈ ww_ws := ww_t2 174 rfl rfl
theorem wn_X5_member : Cond.instanceMethod yX5_member ∈ ww_ws := ww_t2 172 rfl rfl
theorem we_X5_member : Cond.selects RX5 yX5_member yX5_member ∈ ww_ws := ww_t2 173 rfl rfl
theorem wp_X5_member : yX5_member.cls ≠ "java/lang/invoke/MethodHandle" ∧ yX5_member.cls ≠ "java/lang/invoke/VarHandle" ∧ (parseMethodDescriptor yX5_member.desc).map (fun d => d.parameters.length) = some 2 := by decide +kernel
theorem wc_X5_good : Cond.code yX5_good cX5_good 2 (some .int) ∈ ww_ws := ww_t2 187 rfl rfl
theorem wn_X5_good : Cond.instanceMethod yX5_good ∈ ww_ws := ww_t2 185 rfl rfl
theorem we_X5_good : Cond.selects RX5 yX5_good yX5_good ∈ ww_ws := ww_t2 186 rfl rfl
theorem wp_X5_good : yX5_good.cls ≠ "java/lang/invoke/MethodHandle" ∧ yX5_good.cls ≠ "java/lang/invoke/VarHandle" ∧ (parseMethodDescriptor yX5_good.desc).map (fun d => d.parameters.length) = some 1 := by decide +kernel
theorem wc_X5_alike : Cond.code yX5_alike cX5_alike 3 (some .int) ∈ ww_ws := ww_t2 195 rfl rfl
theorem wn_X5_alike : Cond.instanceMethod yX5_alike ∈ ww_ws := ww_t2 193 rfl rfl
theorem we_X5_alike : Cond.selects RX5 yX5_alike yX5_alike ∈ ww_ws := ww_t2 194 rfl rfl
theorem wp_X5_alike : yX5_alike.cls ≠ "java/lang/invoke/MethodHandle" ∧ yX5_alike.cls ≠ "java/lang/invoke/VarHandle" ∧ (parseMethodDescriptor yX5_alike.desc).map (fun d => d.parameters.length) = some 2 := by decide +kernel
theorem wc_X5_rank : Cond.code yX5_rank cX5_rank 2 (some .int) ∈ ww_ws := ww_t2 200 rfl rfl
theorem wn_X5_rank : Cond.instanceMethod yX5_rank ∈ ww_ws := ww_t2 198 rfl rfl
theorem we_X5_rank : Cond.selects RX5 yX5_rank yX5_rank ∈ ww_ws := ww_t2 199 rfl rfl
theorem wp_X5_rank : yX5_rank.cls ≠ "java/lang/invoke/MethodHandle" ∧ yX5_rank.cls ≠ "java/lang/invoke/VarHandle" ∧ (parseMethodDescriptor yX5_rank.desc).map (fun d => d.parameters.length) = some 1 := by decide +kernel
theorem wc_X5_length : Cond.code yX5_length cX5_length 2 (some .int) ∈ ww_ws := ww_t2 223 rfl rfl
theorem wn_X5_length : Cond.instanceMethod yX5_length ∈ ww_ws := ww_t2 221 rfl rfl
theorem we_X5_length : Cond.selects RX5 yX5_length yX5_length ∈ ww_ws := ww_t2 222 rfl rfl
theorem wp_X5_length : yX5_length.cls ≠ "java/lang/invoke/MethodHandle" ∧ yX5_length.cls ≠ "java/lang/invoke/VarHandle" ∧ (parseMethodDescriptor yX5_length.desc).map (fun d => d.parameters.length) = some 1 := by decide +kernel
theorem wc_X5_letter : Cond.code yX5_letter cX5_letter 3 (some .int) ∈ ww_ws := ww_t2 227 rfl rfl
theorem wn_X5_letter : Cond.instanceMethod yX5_letter ∈ ww_ws := ww_t2 225 rfl rfl
theorem we_X5_letter : Cond.selects RX5 yX5_letter yX5_letter ∈ ww_ws := ww_t2 226 rfl rfl
theorem wp_X5_letter : yX5_letter.cls ≠ "java/lang/invoke/MethodHandle" ∧ yX5_letter.cls ≠ "java/lang/invoke/VarHandle" ∧ (parseMethodDescriptor yX5_letter.desc).map (fun d => d.parameters.length) = some 2 := by decide +kernel
theorem wc_X5_adds : Cond.code yX5_adds cX5_adds 3 (some .int) ∈ ww_ws := ww_t2 232 rfl rfl
theorem wn_X5_adds : Cond.instanceMethod yX5_adds ∈ ww_ws := ww_t2 230 rfl rfl
theorem we_X5_adds : Cond.selects RX5 yX5_adds yX5_adds ∈ ww_ws := ww_t2 231 rfl rfl
theorem wp_X5_adds : yX5_adds.cls ≠ "java/lang/invoke/MethodHandle" ∧ yX5_adds.cls ≠ "java/lang/invoke/VarHandle" ∧ (parseMethodDescriptor yX5_adds.desc).map (fun d => d.parameters.length) = some 2 := by decide +kernel
theorem wc_X5_times : Cond.code yX5_times cX5_times 4 (some .int) ∈ ww_ws := ww_t3 1 rfl rfl
theorem wn_X5_times : Cond.instanceMethod yX5_times ∈ ww_ws := ww_t2 239 rfl rfl
theorem we_X5_times : Cond.selects RX5 yX5_times yX5_times ∈ ww_ws := ww_t3 0 rfl rfl
theorem wp_X5_times : yX5_times.cls ≠ "java/lang/invoke/MethodHandle" ∧ yX5_times.cls ≠ "java/lang/invoke/VarHandle" ∧ (parseMethodDescriptor yX5_times.desc).map (fun d => d.parameters.length) = some 3 := by decide +kernel
theorem wc_X5_inverse : Cond.code yX5_inverse cX5_inverse 3 (some .int) ∈ ww_ws := ww_t3 9 rfl rfl
theorem wn_X5_inverse : Cond.instanceMethod yX5_inverse ∈ ww_ws := ww_t3 7 rfl rfl
theorem we_X5_inverse : Cond.selects RX5 yX5_inverse yX5_inverse ∈ ww_ws := ww_t3 8 rfl rfl
theorem wp_X5_inverse : yX5_inverse.cls ≠ "java/lang/invoke/MethodHandle" ∧ yX5_inverse.cls ≠ "java/lang/invoke/VarHandle" ∧ (parseMethodDescriptor yX5_inverse.desc).map (fun d => d.parameters.length) = some 2 := by decide +kernel
theorem wc_X5_power : Cond.code yX5_power cX5_power 4 (some .int) ∈ ww_ws := ww_t3 15 rfl rfl
theorem wn_X5_power : Cond.instanceMethod yX5_power ∈ ww_ws := ww_t3 13 rfl rfl
theorem we_X5_power : Cond.selects RX5 yX5_power yX5_power ∈ ww_ws := ww_t3 14 rfl rfl
theorem wp_X5_power : yX5_power.cls ≠ "java/lang/invoke/MethodHandle" ∧ yX5_power.cls ≠ "java/lang/invoke/VarHandle" ∧ (parseMethodDescriptor yX5_power.desc).map (fun d => d.parameters.length) = some 3 := by decide +kernel
theorem wc_X5_ring : Cond.code yX5_ring cX5_ring 3 (some .int) ∈ ww_ws := ww_t3 27 rfl rfl
theorem wn_X5_ring : Cond.instanceMethod yX5_ring ∈ ww_ws := ww_t3 25 rfl rfl
theorem we_X5_ring : Cond.selects RX5 yX5_ring yX5_ring ∈ ww_ws := ww_t3 26 rfl rfl
theorem wp_X5_ring : yX5_ring.cls ≠ "java/lang/invoke/MethodHandle" ∧ yX5_ring.cls ≠ "java/lang/invoke/VarHandle" ∧ (parseMethodDescriptor yX5_ring.desc).map (fun d => d.parameters.length) = some 2 := by decide +kernel
theorem wc_X5_turn : Cond.code yX5_turn cX5_turn 4 (some .int) ∈ ww_ws := ww_t3 32 rfl rfl
theorem wn_X5_turn : Cond.instanceMethod yX5_turn ∈ ww_ws := ww_t3 30 rfl rfl
theorem we_X5_turn : Cond.selects RX5 yX5_turn yX5_turn ∈ ww_ws := ww_t3 31 rfl rfl
theorem wp_X5_turn : yX5_turn.cls ≠ "java/lang/invoke/MethodHandle" ∧ yX5_turn.cls ≠ "java/lang/invoke/VarHandle" ∧ (parseMethodDescriptor yX5_turn.desc).map (fun d => d.parameters.length) = some 3 := by decide +kernel
theorem wc_X5_sum : Cond.code yX5_sum cX5_sum 3 (some .int) ∈ ww_ws := ww_t3 37 rfl rfl
theorem wn_X5_sum : Cond.instanceMethod yX5_sum ∈ ww_ws := ww_t3 35 rfl rfl
theorem we_X5_sum : Cond.selects RX5 yX5_sum yX5_sum ∈ ww_ws := ww_t3 36 rfl rfl
theorem wp_X5_sum : yX5_sum.cls ≠ "java/lang/invoke/MethodHandle" ∧ yX5_sum.cls ≠ "java/lang/invoke/VarHandle" ∧ (parseMethodDescriptor yX5_sum.desc).map (fun d => d.parameters.length) = some 2 := by decide +kernel
theorem wc_X5_cuts : Cond.code yX5_cuts cX5_cuts 2 (some .int) ∈ ww_ws := ww_t3 42 rfl rfl
theorem wn_X5_cuts : Cond.instanceMethod yX5_cuts ∈ ww_ws := ww_t3 40 rfl rfl
theorem we_X5_cuts : Cond.selects RX5 yX5_cuts yX5_cuts ∈ ww_ws := ww_t3 41 rfl rfl
theorem wp_X5_cuts : yX5_cuts.cls ≠ "java/lang/invoke/MethodHandle" ∧ yX5_cuts.cls ≠ "java/lang/invoke/VarHandle" ∧ (parseMethodDescriptor yX5_cuts.desc).map (fun d => d.parameters.length) = some 1 := by decide +kernel
theorem wc_X5_cut : Cond.code yX5_cut cX5_cut 2 (some .int) ∈ ww_ws := ww_t3 70 rfl rfl
theorem wn_X5_cut : Cond.instanceMethod yX5_cut ∈ ww_ws := ww_t3 68 rfl rfl
theorem we_X5_cut : Cond.selects RX5 yX5_cut yX5_cut ∈ ww_ws := ww_t3 69 rfl rfl
theorem wp_X5_cut : yX5_cut.cls ≠ "java/lang/invoke/MethodHandle" ∧ yX5_cut.cls ≠ "java/lang/invoke/VarHandle" ∧ (parseMethodDescriptor yX5_cut.desc).map (fun d => d.parameters.length) = some 1 := by decide +kernel
theorem wc_X5_shorten : Cond.code yX5_shorten cX5_shorten 2 (some .int) ∈ ww_ws := ww_t3 84 rfl rfl
theorem wn_X5_shorten : Cond.instanceMethod yX5_shorten ∈ ww_ws := ww_t3 82 rfl rfl
theorem we_X5_shorten : Cond.selects RX5 yX5_shorten yX5_shorten ∈ ww_ws := ww_t3 83 rfl rfl
theorem wp_X5_shorten : yX5_shorten.cls ≠ "java/lang/invoke/MethodHandle" ∧ yX5_shorten.cls ≠ "java/lang/invoke/VarHandle" ∧ (parseMethodDescriptor yX5_shorten.desc).map (fun d => d.parameters.length) = some 1 := by decide +kernel
theorem wc_X5_trail : Cond.code yX5_trail cX5_trail 4 (some .int) ∈ ww_ws := ww_t3 94 rfl rfl
theorem wn_X5_trail : Cond.instanceMethod yX5_trail ∈ ww_ws := ww_t3 92 rfl rfl
theorem we_X5_trail : Cond.selects RX5 yX5_trail yX5_trail ∈ ww_ws := ww_t3 93 rfl rfl
theorem wp_X5_trail : yX5_trail.cls ≠ "java/lang/invoke/MethodHandle" ∧ yX5_trail.cls ≠ "java/lang/invoke/VarHandle" ∧ (parseMethodDescriptor yX5_trail.desc).map (fun d => d.parameters.length) = some 3 := by decide +kernel
theorem wc_X5_nothing : Cond.code yX5_nothing cX5_nothing 2 (some .int) ∈ ww_ws := ww_t3 102 rfl rfl
theorem wn_X5_nothing : Cond.instanceMethod yX5_nothing ∈ ww_ws := ww_t3 100 rfl rfl
theorem we_X5_nothing : Cond.selects RX5 yX5_nothing yX5_nothing ∈ ww_ws := ww_t3 101 rfl rfl
theorem wp_X5_nothing : yX5_nothing.cls ≠ "java/lang/invoke/MethodHandle" ∧ yX5_nothing.cls ≠ "java/lang/invoke/VarHandle" ∧ (parseMethodDescriptor yX5_nothing.desc).map (fun d => d.parameters.length) = some 1 := by decide +kernel
theorem wc_X5_same : Cond.code yX5_same cX5_same 3 (some .int) ∈ ww_ws := ww_t3 106 rfl rfl
theorem wn_X5_same : Cond.instanceMethod yX5_same ∈ ww_ws := ww_t3 104 rfl rfl
theorem we_X5_same : Cond.selects RX5 yX5_same yX5_same ∈ ww_ws := ww_t3 105 rfl rfl
theorem wp_X5_same : yX5_same.cls ≠ "java/lang/invoke/MethodHandle" ∧ yX5_same.cls ≠ "java/lang/invoke/VarHandle" ∧ (parseMethodDescriptor yX5_same.desc).map (fun d => d.parameters.length) = some 2 := by decide +kernel
theorem wc_X5_order : Cond.code yX5_order cX5_order 3 (some .int) ∈ ww_ws := ww_t3 110 rfl rfl
theorem wn_X5_order : Cond.instanceMethod yX5_order ∈ ww_ws := ww_t3 108 rfl rfl
theorem we_X5_order : Cond.selects RX5 yX5_order yX5_order ∈ ww_ws := ww_t3 109 rfl rfl
theorem wp_X5_order : yX5_order.cls ≠ "java/lang/invoke/MethodHandle" ∧ yX5_order.cls ≠ "java/lang/invoke/VarHandle" ∧ (parseMethodDescriptor yX5_order.desc).map (fun d => d.parameters.length) = some 1 := by decide +kernel
theorem wc_X5_turned : Cond.code yX5_turned cX5_turned 6 (some .int) ∈ ww_ws := ww_t3 114 rfl rfl
theorem wn_X5_turned : Cond.instanceMethod yX5_turned ∈ ww_ws := ww_t3 112 rfl rfl
theorem we_X5_turned : Cond.selects RX5 yX5_turned yX5_turned ∈ ww_ws := ww_t3 113 rfl rfl
theorem wp_X5_turned : yX5_turned.cls ≠ "java/lang/invoke/MethodHandle" ∧ yX5_turned.cls ≠ "java/lang/invoke/VarHandle" ∧ (parseMethodDescriptor yX5_turned.desc).map (fun d => d.parameters.length) = some 2 := by decide +kernel
theorem wc_X5_nothings : Cond.code yX5_nothings cX5_nothings 6 (some .int) ∈ ww_ws := ww_t3 133 rfl rfl
theorem wn_X5_nothings : Cond.instanceMethod yX5_nothings ∈ ww_ws := ww_t3 131 rfl rfl
theorem we_X5_nothings : Cond.selects RX5 yX5_nothings yX5_nothings ∈ ww_ws := ww_t3 132 rfl rfl
theorem wp_X5_nothings : yX5_nothings.cls ≠ "java/lang/invoke/MethodHandle" ∧ yX5_nothings.cls ≠ "java/lang/invoke/VarHandle" ∧ (parseMethodDescriptor yX5_nothings.desc).map (fun d => d.parameters.length) = some 1 := by decide +kernel
theorem wc_X5_draw : Cond.code yX5_draw cX5_draw 7 (some .int) ∈ ww_ws := ww_t3 137 rfl rfl
theorem wn_X5_draw : Cond.instanceMethod yX5_draw ∈ ww_ws := ww_t3 135 rfl rfl
theorem we_X5_draw : Cond.selects RX5 yX5_draw yX5_draw ∈ ww_ws := ww_t3 136 rfl rfl
theorem wp_X5_draw : yX5_draw.cls ≠ "java/lang/invoke/MethodHandle" ∧ yX5_draw.cls ≠ "java/lang/invoke/VarHandle" ∧ (parseMethodDescriptor yX5_draw.desc).map (fun d => d.parameters.length) = some 3 := by decide +kernel
theorem wc_X5_loops : Cond.code yX5_loops cX5_loops 7 (some .int) ∈ ww_ws := ww_t3 150 rfl rfl
theorem wn_X5_loops : Cond.instanceMethod yX5_loops ∈ ww_ws := ww_t3 148 rfl rfl
theorem we_X5_loops : Cond.selects RX5 yX5_loops yX5_loops ∈ ww_ws := ww_t3 149 rfl rfl
theorem wp_X5_loops : yX5_loops.cls ≠ "java/lang/invoke/MethodHandle" ∧ yX5_loops.cls ≠ "java/lang/invoke/VarHandle" ∧ (parseMethodDescriptor yX5_loops.desc).map (fun d => d.parameters.length) = some 3 := by decide +kernel
theorem wc_X5_told : Cond.code yX5_told cX5_told 2 (some .int) ∈ ww_ws := ww_t3 159 rfl rfl
theorem wn_X5_told : Cond.instanceMethod yX5_told ∈ ww_ws := ww_t3 157 rfl rfl
theorem we_X5_told : Cond.selects RX5 yX5_told yX5_told ∈ ww_ws := ww_t3 158 rfl rfl
theorem wp_X5_told : yX5_told.cls ≠ "java/lang/invoke/MethodHandle" ∧ yX5_told.cls ≠ "java/lang/invoke/VarHandle" ∧ (parseMethodDescriptor yX5_told.desc).map (fun d => d.parameters.length) = some 1 := by decide +kernel
theorem wc_X5_digest : Cond.code yX5_digest cX5_digest 4 (some .long) ∈ ww_ws := ww_t3 171 rfl rfl
theorem wn_X5_digest : Cond.instanceMethod yX5_digest ∈ ww_ws := ww_t3 169 rfl rfl
theorem we_X5_digest : Cond.selects RX5 yX5_digest yX5_digest ∈ ww_ws := ww_t3 170 rfl rfl
theorem wp_X5_digest : yX5_digest.cls ≠ "java/lang/invoke/MethodHandle" ∧ yX5_digest.cls ≠ "java/lang/invoke/VarHandle" ∧ (parseMethodDescriptor yX5_digest.desc).map (fun d => d.parameters.length) = some 0 := by decide +kernel
theorem wc_X5_isWord : Cond.code yX5_isWord cX5_isWord 1 (some .boolean) ∈ ww_ws := ww_t2 161 rfl rfl
theorem wn_X5_isWord : Cond.static yX5_isWord ∈ ww_ws := ww_t2 160 rfl rfl
theorem wp_X5_isWord : yX5_isWord.cls ≠ "java/lang/invoke/MethodHandle" ∧ yX5_isWord.cls ≠ "java/lang/invoke/VarHandle" ∧ (parseMethodDescriptor yX5_isWord.desc).map (fun d => d.parameters.length) = some 1 := by decide +kernel
theorem wc_X5_refuse : Cond.code yX5_refuse cX5_refuse 2 (some .int) ∈ ww_ws := ww_t1 234 rfl rfl
theorem wn_X5_refuse : Cond.instanceMethod yX5_refuse ∈ ww_ws := ww_t1 233 rfl rfl
theorem we_X5_refuse : Cond.selects RX5 yX5_refuse yX5_refuse ∈ ww_ws := ww_s1 yX5_refuse 11 0 rfl rfl
theorem wp_X5_refuse : yX5_refuse.cls ≠ "java/lang/invoke/MethodHandle" ∧ yX5_refuse.cls ≠ "java/lang/invoke/VarHandle" ∧ (parseMethodDescriptor yX5_refuse.desc).map (fun d => d.parameters.length) = some 1 := by decide +kernel
theorem wc_X5_keep : Cond.code yX5_keep cX5_keep 2 (some .int) ∈ ww_ws := ww_t2 237 rfl rfl
theorem wn_X5_keep : Cond.instanceMethod yX5_keep ∈ ww_ws := ww_t2 236 rfl rfl
theorem we_X5_keep : Cond.selects RX5 yX5_keep yX5_keep ∈ ww_ws := ww_s2 yX5_keep 11 3 rfl rfl
theorem wp_X5_keep : yX5_keep.cls ≠ "java/lang/invoke/MethodHandle" ∧ yX5_keep.cls ≠ "java/lang/invoke/VarHandle" ∧ (parseMethodDescriptor yX5_keep.desc).map (fun d => d.parameters.length) = some 1 := by decide +kernel
theorem wc_X5_readText : Cond.code yX5_readText cX5_readText 4 (some .int) ∈ ww_ws := ww_t2 10 rfl rfl
theorem wn_X5_readText : Cond.instanceMethod yX5_readText ∈ ww_ws := ww_t2 9 rfl rfl
theorem we_X5_readText : Cond.selects RX5 yX5_readText yX5_readText ∈ ww_ws := ww_s1 yX5_readText 11 1 rfl rfl
theorem wp_X5_readText : yX5_readText.cls ≠ "java/lang/invoke/MethodHandle" ∧ yX5_readText.cls ≠ "java/lang/invoke/VarHandle" ∧ (parseMethodDescriptor yX5_readText.desc).map (fun d => d.parameters.length) = some 2 := by decide +kernel
theorem wc_X5_makePower : Cond.code yX5_makePower cX5_makePower 5 none ∈ ww_ws := ww_t3 19 rfl rfl
theorem wn_X5_makePower : Cond.instanceMethod yX5_makePower ∈ ww_ws := ww_t3 18 rfl rfl
theorem we_X5_makePower : Cond.selects RX5 yX5_makePower yX5_makePower ∈ ww_ws := ww_s2 yX5_makePower 11 4 rfl rfl
theorem wp_X5_makePower : yX5_makePower.cls ≠ "java/lang/invoke/MethodHandle" ∧ yX5_makePower.cls ≠ "java/lang/invoke/VarHandle" ∧ (parseMethodDescriptor yX5_makePower.desc).map (fun d => d.parameters.length) = some 2 := by decide +kernel
theorem wc_X5_someBeginningTurns : Cond.code yX5_someBeginningTurns cX5_someBeginningTurns 4 (some .boolean) ∈ ww_ws := ww_t3 119 rfl rfl
theorem wn_X5_someBeginningTurns : Cond.instanceMethod yX5_someBeginningTurns ∈ ww_ws := ww_t3 118 rfl rfl
theorem we_X5_someBeginningTurns : Cond.selects RX5 yX5_someBeginningTurns yX5_someBeginningTurns ∈ ww_ws := ww_s2 yX5_someBeginningTurns 11 7 rfl rfl
theorem wp_X5_someBeginningTurns : yX5_someBeginningTurns.cls ≠ "java/lang/invoke/MethodHandle" ∧ yX5_someBeginningTurns.cls ≠ "java/lang/invoke/VarHandle" ∧ (parseMethodDescriptor yX5_someBeginningTurns.desc).map (fun d => d.parameters.length) = some 2 := by decide +kernel
theorem wc_X5_beginningTurns : Cond.code yX5_beginningTurns cX5_beginningTurns 5 (some .boolean) ∈ ww_ws := ww_t3 123 rfl rfl
theorem wn_X5_beginningTurns : Cond.instanceMethod yX5_beginningTurns ∈ ww_ws := ww_t3 122 rfl rfl
theorem we_X5_beginningTurns : Cond.selects RX5 yX5_beginningTurns yX5_beginningTurns ∈ ww_ws := ww_s2 yX5_beginningTurns 11 8 rfl rfl
theorem wp_X5_beginningTurns : yX5_beginningTurns.cls ≠ "java/lang/invoke/MethodHandle" ∧ yX5_beginningTurns.cls ≠ "java/lang/invoke/VarHandle" ∧ (parseMethodDescriptor yX5_beginningTurns.desc).map (fun d => d.parameters.length) = some 3 := by decide +kernel
theorem wc_X5_putLoop : Cond.code yX5_putLoop cX5_putLoop 4 none ∈ ww_ws := ww_t3 155 rfl rfl
theorem wn_X5_putLoop : Cond.instanceMethod yX5_putLoop ∈ ww_ws := ww_t3 154 rfl rfl
theorem we_X5_putLoop : Cond.selects RX5 yX5_putLoop yX5_putLoop ∈ ww_ws := ww_s2 yX5_putLoop 11 9 rfl rfl
theorem wp_X5_putLoop : yX5_putLoop.cls ≠ "java/lang/invoke/MethodHandle" ∧ yX5_putLoop.cls ≠ "java/lang/invoke/VarHandle" ∧ (parseMethodDescriptor yX5_putLoop.desc).map (fun d => d.parameters.length) = some 2 := by decide +kernel
theorem wc_X5_tell : Cond.code yX5_tell cX5_tell 2 (some .int) ∈ ww_ws := ww_t3 163 rfl rfl
theorem wn_X5_tell : Cond.instanceMethod yX5_tell ∈ ww_ws := ww_t3 162 rfl rfl
theorem we_X5_tell : Cond.selects RX5 yX5_tell yX5_tell ∈ ww_ws := ww_s2 yX5_tell 11 10 rfl rfl
theorem wp_X5_tell : yX5_tell.cls ≠ "java/lang/invoke/MethodHandle" ∧ yX5_tell.cls ≠ "java/lang/invoke/VarHandle" ∧ (parseMethodDescriptor yX5_tell.desc).map (fun d => d.parameters.length) = some 1 := by decide +kernel
theorem wc_X5_lettersOfAll : Cond.code yX5_lettersOfAll cX5_lettersOfAll 3 (some .int) ∈ ww_ws := ww_t3 167 rfl rfl
theorem wn_X5_lettersOfAll : Cond.instanceMethod yX5_lettersOfAll ∈ ww_ws := ww_t3 166 rfl rfl
theorem we_X5_lettersOfAll : Cond.selects RX5 yX5_lettersOfAll yX5_lettersOfAll ∈ ww_ws := ww_s2 yX5_lettersOfAll 11 11 rfl rfl
theorem wp_X5_lettersOfAll : yX5_lettersOfAll.cls ≠ "java/lang/invoke/MethodHandle" ∧ yX5_lettersOfAll.cls ≠ "java/lang/invoke/VarHandle" ∧ (parseMethodDescriptor yX5_lettersOfAll.desc).map (fun d => d.parameters.length) = some 0 := by decide +kernel
theorem wc_X5_digestOf : Cond.code yX5_digestOf cX5_digestOf 6 (some .long) ∈ ww_ws := ww_t3 176 rfl rfl
theorem wn_X5_digestOf : Cond.static yX5_digestOf ∈ ww_ws := ww_t3 175 rfl rfl
theorem wp_X5_digestOf : yX5_digestOf.cls ≠ "java/lang/invoke/MethodHandle" ∧ yX5_digestOf.cls ≠ "java/lang/invoke/VarHandle" ∧ (parseMethodDescriptor yX5_digestOf.desc).map (fun d => d.parameters.length) = some 2 := by decide +kernel
theorem wc_X5_nextDraw : Cond.code yX5_nextDraw cX5_nextDraw 2 (some .long) ∈ ww_ws := ww_t3 141 rfl rfl
theorem wn_X5_nextDraw : Cond.static yX5_nextDraw ∈ ww_ws := ww_t3 140 rfl rfl
theorem wp_X5_nextDraw : yX5_nextDraw.cls ≠ "java/lang/invoke/MethodHandle" ∧ yX5_nextDraw.cls ≠ "java/lang/invoke/VarHandle" ∧ (parseMethodDescriptor yX5_nextDraw.desc).map (fun d => d.parameters.length) = some 1 := by decide +kernel
theorem wc_X5_opposite : Cond.code yX5_opposite cX5_opposite 1 (some .int) ∈ ww_ws := ww_t2 86 rfl rfl
theorem wn_X5_opposite : Cond.static yX5_opposite ∈ ww_ws := ww_t2 85 rfl rfl
theorem wp_X5_opposite : yX5_opposite.cls ≠ "java/lang/invoke/MethodHandle" ∧ yX5_opposite.cls ≠ "java/lang/invoke/VarHandle" ∧ (parseMethodDescriptor yX5_opposite.desc).map (fun d => d.parameters.length) = some 1 := by decide +kernel
theorem wc_X6_init : Cond.code yX6_init cX6_init 1 none ∈ ww_ws := ww_t3 181 rfl rfl
theorem wn_X6_init : Cond.instanceMethod yX6_init ∈ ww_ws := ww_t3 180 rfl rfl
theorem wp_X6_init : yX6_init.cls ≠ "java/lang/invoke/MethodHandle" ∧ yX6_init.cls ≠ "java/lang/invoke/VarHandle" ∧ (parseMethodDescriptor yX6_init.desc).map (fun d => d.parameters.length) = some 0 := by decide +kernel
theorem wc_X6_in : Cond.code yX6_in cX6_in 6 (some .boolean) ∈ ww_ws := ww_t4 50 rfl rfl
theorem wn_X6_in : Cond.static yX6_in ∈ ww_ws := ww_t4 49 rfl rfl
theorem wp_X6_in : yX6_in.cls ≠ "java/lang/invoke/MethodHandle" ∧ yX6_in.cls ≠ "java/lang/invoke/VarHandle" ∧ (parseMethodDescriptor yX6_in.desc).map (fun d => d.parameters.length) = some 3 := by decide +kernel
theorem wc_X6_bad : Cond.code yX6_bad cX6_bad 1 (some .int) ∈ ww_ws := ww_t4 55 rfl rfl
theorem wn_X6_bad : Cond.instanceMethod yX6_bad ∈ ww_ws := ww_t4 54 rfl rfl
theorem we_X6_bad : Cond.selects RX6 yX6_bad yX6_bad ∈ ww_ws := ww_s2 yX6_bad 32 13 rfl rfl
theorem wp_X6_bad : yX6_bad.cls ≠ "java/lang/invoke/MethodHandle" ∧ yX6_bad.cls ≠ "java/lang/invoke/VarHandle" ∧ (parseMethodDescriptor yX6_bad.desc).map (fun d => d.parameters.length) = some 0 := by decide +kernel
theorem wc_X6_no : Cond.code yX6_no cX6_no 1 (some .int) ∈ ww_ws := ww_t4 194 rfl rfl
theorem wn_X6_no : Cond.instanceMethod yX6_no ∈ ww_ws := ww_t4 193 rfl rfl
theorem we_X6_no : Cond.selects RX6 yX6_no yX6_no ∈ ww_ws := ww_s3 yX6_no 32 15 rfl rfl
theorem wp_X6_no : yX6_no.cls ≠ "java/lang/invoke/MethodHandle" ∧ yX6_no.cls ≠ "java/lang/invoke/VarHandle" ∧ (parseMethodDescriptor yX6_no.desc).map (fun d => d.parameters.length) = some 0 := by decide +kernel
theorem wc_X6_full : Cond.code yX6_full cX6_full 1 (some .int) ∈ ww_ws := ww_t4 156 rfl rfl
theorem wn_X6_full : Cond.instanceMethod yX6_full ∈ ww_ws := ww_t4 155 rfl rfl
theorem we_X6_full : Cond.selects RX6 yX6_full yX6_full ∈ ww_ws := ww_s3 yX6_full 32 11 rfl rfl
theorem wp_X6_full : yX6_full.cls ≠ "java/lang/invoke/MethodHandle" ∧ yX6_full.cls ≠ "java/lang/invoke/VarHandle" ∧ (parseMethodDescriptor yX6_full.desc).map (fun d => d.parameters.length) = some 0 := by decide +kernel
theorem wc_X6_isWord : Cond.code yX6_isWord cX6_isWord 1 (some .boolean) ∈ ww_ws := ww_t4 123 rfl rfl
theorem wn_X6_isWord : Cond.static yX6_isWord ∈ ww_ws := ww_t4 122 rfl rfl
theorem wp_X6_isWord : yX6_isWord.cls ≠ "java/lang/invoke/MethodHandle" ∧ yX6_isWord.cls ≠ "java/lang/invoke/VarHandle" ∧ (parseMethodDescriptor yX6_isWord.desc).map (fun d => d.parameters.length) = some 1 := by decide +kernel
theorem wc_X6_isLetter : Cond.code yX6_isLetter cX6_isLetter 1 (some .boolean) ∈ ww_ws := ww_t4 135 rfl rfl
theorem wn_X6_isLetter : Cond.static yX6_isLetter ∈ ww_ws := ww_t4 134 rfl rfl
theorem wp_X6_isLetter : yX6_isLetter.cls ≠ "java/lang/invoke/MethodHandle" ∧ yX6_isLetter.cls ≠ "java/lang/invoke/VarHandle" ∧ (parseMethodDescriptor yX6_isLetter.desc).map (fun d => d.parameters.length) = some 1 := by decide +kernel
theorem wc_X6_opposite : Cond.code yX6_opposite cX6_opposite 1 (some .int) ∈ ww_ws := ww_t4 74 rfl rfl
theorem wn_X6_opposite : Cond.static yX6_opposite ∈ ww_ws := ww_t4 73 rfl rfl
theorem wp_X6_opposite : yX6_opposite.cls ≠ "java/lang/invoke/MethodHandle" ∧ yX6_opposite.cls ≠ "java/lang/invoke/VarHandle" ∧ (parseMethodDescriptor yX6_opposite.desc).map (fun d => d.parameters.length) = some 1 := by decide +kernel
theorem wc_X6_push : Cond.code yX6_push cX6_push 2 none ∈ ww_ws := ww_t4 148 rfl rfl
theorem wn_X6_push : Cond.instanceMethod yX6_push ∈ ww_ws := ww_t4 147 rfl rfl
theorem we_X6_push : Cond.selects RX6 yX6_push yX6_push ∈ ww_ws := ww_s3 yX6_push 32 9 rfl rfl
theorem wp_X6_push : yX6_push.cls ≠ "java/lang/invoke/MethodHandle" ∧ yX6_push.cls ≠ "java/lang/invoke/VarHandle" ∧ (parseMethodDescriptor yX6_push.desc).map (fun d => d.parameters.length) = some 1 := by decide +kernel
theorem wc_X6_pushWord : Cond.code yX6_pushWord cX6_pushWord 3 none ∈ ww_ws := ww_t4 144 rfl rfl
theorem wn_X6_pushWord : Cond.instanceMethod yX6_pushWord ∈ ww_ws := ww_t4 143 rfl rfl
theorem we_X6_pushWord : Cond.selects RX6 yX6_pushWord yX6_pushWord ∈ ww_ws := ww_s3 yX6_pushWord 32 8 rfl rfl
theorem wp_X6_pushWord : yX6_pushWord.cls ≠ "java/lang/invoke/MethodHandle" ∧ yX6_pushWord.cls ≠ "java/lang/invoke/VarHandle" ∧ (parseMethodDescriptor yX6_pushWord.desc).map (fun d => d.parameters.length) = some 1 := by decide +kernel
theorem wc_X6_pushInverse : Cond.code yX6_pushInverse cX6_pushInverse 3 none ∈ ww_ws := ww_t4 172 rfl rfl
theorem wn_X6_pushInverse : Cond.instanceMethod yX6_pushInverse ∈ ww_ws := ww_t4 171 rfl rfl
theorem we_X6_pushInverse : Cond.selects RX6 yX6_pushInverse yX6_pushInverse ∈ ww_ws := ww_s3 yX6_pushInverse 32 13 rfl rfl
theorem wp_X6_pushInverse : yX6_pushInverse.cls ≠ "java/lang/invoke/MethodHandle" ∧ yX6_pushInverse.cls ≠ "java/lang/invoke/VarHandle" ∧ (parseMethodDescriptor yX6_pushInverse.desc).map (fun d => d.parameters.length) = some 1 := by decide +kernel
theorem wc_X6_handWord : Cond.code yX6_handWord cX6_handWord 2 none ∈ ww_ws := ww_t4 140 rfl rfl
theorem wn_X6_handWord : Cond.instanceMethod yX6_handWord ∈ ww_ws := ww_t4 139 rfl rfl
theorem we_X6_handWord : Cond.selects RX6 yX6_handWord yX6_handWord ∈ ww_ws := ww_s3 yX6_handWord 32 7 rfl rfl
theorem wp_X6_handWord : yX6_handWord.cls ≠ "java/lang/invoke/MethodHandle" ∧ yX6_handWord.cls ≠ "java/lang/invoke/VarHandle" ∧ (parseMethodDescriptor yX6_handWord.desc).map (fun d => d.parameters.length) = some 1 := by decide +kernel
theorem wc_X6_layWord : Cond.code yX6_layWord cX6_layWord 3 (some .int) ∈ ww_ws := ww_t4 160 rfl rfl
theorem wn_X6_layWord : Cond.instanceMethod yX6_layWord ∈ ww_ws := ww_t4 159 rfl rfl
theorem we_X6_layWord : Cond.selects RX6 yX6_layWord yX6_layWord ∈ ww_ws := ww_s3 yX6_layWord 32 12 rfl rfl
theorem wp_X6_layWord : yX6_layWord.cls ≠ "java/lang/invoke/MethodHandle" ∧ yX6_layWord.cls ≠ "java/lang/invoke/VarHandle" ∧ (parseMethodDescriptor yX6_layWord.desc).map (fun d => d.parameters.length) = some 1 := by decide +kernel
theorem wc_X6_layIfFits : Cond.code yX6_layIfFits cX6_layIfFits 2 (some .int) ∈ ww_ws := ww_t4 152 rfl rfl
theorem wn_X6_layIfFits : Cond.instanceMethod yX6_layIfFits ∈ ww_ws := ww_t4 151 rfl rfl
theorem we_X6_layIfFits : Cond.selects RX6 yX6_layIfFits yX6_layIfFits ∈ ww_ws := ww_s3 yX6_layIfFits 32 10 rfl rfl
theorem wp_X6_layIfFits : yX6_layIfFits.cls ≠ "java/lang/invoke/MethodHandle" ∧ yX6_layIfFits.cls ≠ "java/lang/invoke/VarHandle" ∧ (parseMethodDescriptor yX6_layIfFits.desc).map (fun d => d.parameters.length) = some 1 := by decide +kernel
theorem wc_X6_ringHand : Cond.code yX6_ringHand cX6_ringHand 3 none ∈ ww_ws := ww_t4 185 rfl rfl
theorem wn_X6_ringHand : Cond.instanceMethod yX6_ringHand ∈ ww_ws := ww_t4 184 rfl rfl
theorem we_X6_ringHand : Cond.selects RX6 yX6_ringHand yX6_ringHand ∈ ww_ws := ww_s3 yX6_ringHand 32 14 rfl rfl
theorem wp_X6_ringHand : yX6_ringHand.cls ≠ "java/lang/invoke/MethodHandle" ∧ yX6_ringHand.cls ≠ "java/lang/invoke/VarHandle" ∧ (parseMethodDescriptor yX6_ringHand.desc).map (fun d => d.parameters.length) = some 0 := by decide +kernel
theorem wc_X6_relatorLetter : Cond.code yX6_relatorLetter cX6_relatorLetter 7 (some .int) ∈ ww_ws := ww_t4 71 rfl rfl
theorem wn_X6_relatorLetter : Cond.instanceMethod yX6_relatorLetter ∈ ww_ws := ww_t4 70 rfl rfl
theorem we_X6_relatorLetter : Cond.selects RX6 yX6_relatorLetter yX6_relatorLetter ∈ ww_ws := ww_s3 yX6_relatorLetter 32 1 rfl rfl
theorem wp_X6_relatorLetter : yX6_relatorLetter.cls ≠ "java/lang/invoke/MethodHandle" ∧ yX6_relatorLetter.cls ≠ "java/lang/invoke/VarHandle" ∧ (parseMethodDescriptor yX6_relatorLetter.desc).map (fun d => d.parameters.length) = some 4 := by decide +kernel
theorem wc_X6_isTurn : Cond.code yX6_isTurn cX6_isTurn 7 (some .boolean) ∈ ww_ws := ww_t4 67 rfl rfl
theorem wn_X6_isTurn : Cond.instanceMethod yX6_isTurn ∈ ww_ws := ww_t4 66 rfl rfl
theorem we_X6_isTurn : Cond.selects RX6 yX6_isTurn yX6_isTurn ∈ ww_ws := ww_s3 yX6_isTurn 32 0 rfl rfl
theorem wp_X6_isTurn : yX6_isTurn.cls ≠ "java/lang/invoke/MethodHandle" ∧ yX6_isTurn.cls ≠ "java/lang/invoke/VarHandle" ∧ (parseMethodDescriptor yX6_isTurn.desc).map (fun d => d.parameters.length) = some 4 := by decide +kernel
theorem wc_X6_isListed : Cond.code yX6_isListed cX6_isListed 6 (some .boolean) ∈ ww_ws := ww_t5 117 rfl rfl
theorem wn_X6_isListed : Cond.instanceMethod yX6_isListed ∈ ww_ws := ww_t5 116 rfl rfl
theorem we_X6_isListed : Cond.selects RX6 yX6_isListed yX6_isListed ∈ ww_ws := ww_s5 yX6_isListed 32 1 rfl rfl
theorem wp_X6_isListed : yX6_isListed.cls ≠ "java/lang/invoke/MethodHandle" ∧ yX6_isListed.cls ≠ "java/lang/invoke/VarHandle" ∧ (parseMethodDescriptor yX6_isListed.desc).map (fun d => d.parameters.length) = some 3 := by decide +kernel
theorem wc_X6_listTurns : Cond.code yX6_listTurns cX6_listTurns 5 none ∈ ww_ws := ww_t5 113 rfl rfl
theorem wn_X6_listTurns : Cond.instanceMethod yX6_listTurns ∈ ww_ws := ww_t5 112 rfl rfl
theorem we_X6_listTurns : Cond.selects RX6 yX6_listTurns yX6_listTurns ∈ ww_ws := ww_s5 yX6_listTurns 32 0 rfl rfl
theorem wp_X6_listTurns : yX6_listTurns.cls ≠ "java/lang/invoke/MethodHandle" ∧ yX6_listTurns.cls ≠ "java/lang/invoke/VarHandle" ∧ (parseMethodDescriptor yX6_listTurns.desc).map (fun d => d.parameters.length) = some 2 := by decide +kernel
theorem wc_X6_listMembers : Cond.code yX6_listMembers cX6_listMembers 2 none ∈ ww_ws := ww_t5 109 rfl rfl
theorem wn_X6_listMembers : Cond.instanceMethod yX6_listMembers ∈ ww_ws := ww_t5 108 rfl rfl
theorem we_X6_listMembers : Cond.selects RX6 yX6_listMembers yX6_listMembers ∈ ww_ws := ww_s4 yX6_listMembers 32 15 rfl rfl
theorem wp_X6_listMembers : yX6_listMembers.cls ≠ "java/lang/invoke/MethodHandle" ∧ yX6_listMembers.cls ≠ "java/lang/invoke/VarHandle" ∧ (parseMethodDescriptor yX6_listMembers.desc).map (fun d => d.parameters.length) = some 0 := by decide +kernel
theorem wc_X6_isMember : Cond.code yX6_isMember cX6_isMember 2 (some .boolean) ∈ ww_ws := ww_t4 86 rfl rfl
theorem wn_X6_isMember : Cond.instanceMethod yX6_isMember ∈ ww_ws := ww_t4 85 rfl rfl
theorem we_X6_isMember : Cond.selects RX6 yX6_isMember yX6_isMember ∈ ww_ws := ww_s3 yX6_isMember 32 3 rfl rfl
theorem wp_X6_isMember : yX6_isMember.cls ≠ "java/lang/invoke/MethodHandle" ∧ yX6_isMember.cls ≠ "java/lang/invoke/VarHandle" ∧ (parseMethodDescriptor yX6_isMember.desc).map (fun d => d.parameters.length) = some 1 := by decide +kernel
theorem wc_X6_isRelator : Cond.code yX6_isRelator cX6_isRelator 2 (some .boolean) ∈ ww_ws := ww_t4 47 rfl rfl
theorem wn_X6_isRelator : Cond.instanceMethod yX6_isRelator ∈ ww_ws := ww_t4 46 rfl rfl
theorem we_X6_isRelator : Cond.selects RX6 yX6_isRelator yX6_isRelator ∈ ww_ws := ww_s2 yX6_isRelator 32 12 rfl rfl
theorem wp_X6_isRelator : yX6_isRelator.cls ≠ "java/lang/invoke/MethodHandle" ∧ yX6_isRelator.cls ≠ "java/lang/invoke/VarHandle" ∧ (parseMethodDescriptor yX6_isRelator.desc).map (fun d => d.parameters.length) = some 1 := by decide +kernel
theorem wc_X6_beginAlike : Cond.code yX6_beginAlike cX6_beginAlike 4 (some .int) ∈ ww_ws := ww_t4 78 rfl rfl
theorem wn_X6_beginAlike : Cond.instanceMethod yX6_beginAlike ∈ ww_ws := ww_t4 77 rfl rfl
theorem we_X6_beginAlike : Cond.selects RX6 yX6_beginAlike yX6_beginAlike ∈ ww_ws := ww_s3 yX6_beginAlike 32 2 rfl rfl
theorem wp_X6_beginAlike : yX6_beginAlike.cls ≠ "java/lang/invoke/MethodHandle" ∧ yX6_beginAlike.cls ≠ "java/lang/invoke/VarHandle" ∧ (parseMethodDescriptor yX6_beginAlike.desc).map (fun d => d.parameters.length) = some 2 := by decide +kernel
theorem wc_X6_isOf : Cond.code yX6_isOf cX6_isOf 5 (some .boolean) ∈ ww_ws := ww_t4 63 rfl rfl
theorem wn_X6_isOf : Cond.instanceMethod yX6_isOf ∈ ww_ws := ww_t4 62 rfl rfl
theorem we_X6_isOf : Cond.selects RX6 yX6_isOf yX6_isOf ∈ ww_ws := ww_s2 yX6_isOf 32 15 rfl rfl
theorem wp_X6_isOf : yX6_isOf.cls ≠ "java/lang/invoke/MethodHandle" ∧ yX6_isOf.cls ≠ "java/lang/invoke/VarHandle" ∧ (parseMethodDescriptor yX6_isOf.desc).map (fun d => d.parameters.length) = some 2 := by decide +kernel
theorem wc_X6_pieceOf : Cond.code yX6_pieceOf cX6_pieceOf 6 (some .int) ∈ ww_ws := ww_t4 59 rfl rfl
theorem wn_X6_pieceOf : Cond.instanceMethod yX6_pieceOf ∈ ww_ws := ww_t4 58 rfl rfl
theorem we_X6_pieceOf : Cond.selects RX6 yX6_pieceOf yX6_pieceOf ∈ ww_ws := ww_s2 yX6_pieceOf 32 14 rfl rfl
theorem wp_X6_pieceOf : yX6_pieceOf.cls ≠ "java/lang/invoke/MethodHandle" ∧ yX6_pieceOf.cls ≠ "java/lang/invoke/VarHandle" ∧ (parseMethodDescriptor yX6_pieceOf.desc).map (fun d => d.parameters.length) = some 1 := by decide +kernel
theorem wc_X6_isGood : Cond.code yX6_isGood cX6_isGood 4 (some .boolean) ∈ ww_ws := ww_t4 95 rfl rfl
theorem wn_X6_isGood : Cond.instanceMethod yX6_isGood ∈ ww_ws := ww_t4 94 rfl rfl
theorem we_X6_isGood : Cond.selects RX6 yX6_isGood yX6_isGood ∈ ww_ws := ww_s3 yX6_isGood 32 4 rfl rfl
theorem wp_X6_isGood : yX6_isGood.cls ≠ "java/lang/invoke/MethodHandle" ∧ yX6_isGood.cls ≠ "java/lang/invoke/VarHandle" ∧ (parseMethodDescriptor yX6_isGood.desc).map (fun d => d.parameters.length) = some 1 := by decide +kernel
theorem wc_X6_relator : Cond.code yX6_relator cX6_relator 5 (some .int) ∈ ww_ws := ww_t4 43 rfl rfl
theorem wn_X6_relator : Cond.instanceMethod yX6_relator ∈ ww_ws := ww_t4 41 rfl rfl
theorem we_X6_relator : Cond.selects RX6 yX6_relator yX6_relator ∈ ww_ws := ww_t4 42 rfl rfl
theorem wp_X6_relator : yX6_relator.cls ≠ "java/lang/invoke/MethodHandle" ∧ yX6_relator.cls ≠ "java/lang/invoke/VarHandle" ∧ (parseMethodDescriptor yX6_relator.desc).map (fun d => d.parameters.length) = some 2 := by decide +kernel
theorem wc_X6_member : Cond.code yX6_member cX6_member 3 (some .int) ∈ ww_ws := ww_t4 82 rfl rfl
theorem wn_X6_member : Cond.instanceMethod yX6_member ∈ ww_ws := ww_t4 80 rfl rfl
theorem we_X6_member : Cond.selects RX6 yX6_member yX6_member ∈ ww_ws := ww_t4 81 rfl rfl
theorem wp_X6_member : yX6_member.cls ≠ "java/lang/invoke/MethodHandle" ∧ yX6_member.cls ≠ "java/lang/invoke/VarHandle" ∧ (parseMethodDescriptor yX6_member.desc).map (fun d => d.parameters.length) = some 2 := by decide +kernel
theorem wc_X6_good : Cond.code yX6_good cX6_good 2 (some .int) ∈ ww_ws := ww_t4 90 rfl rfl
theorem wn_X6_good : Cond.instanceMethod yX6_good ∈ ww_ws := ww_t4 88 rfl rfl
theorem we_X6_good : Cond.selects RX6 yX6_good yX6_good ∈ ww_ws := ww_t4 89 rfl rfl
theorem wp_X6_good : yX6_good.cls ≠ "java/lang/invoke/MethodHandle" ∧ yX6_good.cls ≠ "java/lang/invoke/VarHandle" ∧ (parseMethodDescriptor yX6_good.desc).map (fun d => d.parameters.length) = some 1 := by decide +kernel
theorem wc_X6_alike : Cond.code yX6_alike cX6_alike 3 (some .int) ∈ ww_ws := ww_t4 99 rfl rfl
theorem wn_X6_alike : Cond.instanceMethod yX6_alike ∈ ww_ws := ww_t4 97 rfl rfl
theorem we_X6_alike : Cond.selects RX6 yX6_alike yX6_alike ∈ ww_ws := ww_t4 98 rfl rfl
theorem wp_X6_alike : yX6_alike.cls ≠ "java/lang/invoke/MethodHandle" ∧ yX6_alike.cls ≠ "java/lang/invoke/VarHandle" ∧ (parseMethodDescriptor yX6_alike.desc).map (fun d => d.parameters.length) = some 2 := by decide +kernel
theorem wc_X6_layMatrix : Cond.code yX6_layMatrix cX6_layMatrix 5 none ∈ ww_ws := ww_t4 107 rfl rfl
theorem wn_X6_layMatrix : Cond.instanceMethod yX6_layMatrix ∈ ww_ws := ww_t4 106 rfl rfl
theorem we_X6_layMatrix : Cond.selects RX6 yX6_layMatrix yX6_layMatrix ∈ ww_ws := ww_s3 yX6_layMatrix 32 5 rfl rfl
theorem wp_X6_layMatrix : yX6_layMatrix.cls ≠ "java/lang/invoke/MethodHandle" ∧ yX6_layMatrix.cls ≠ "java/lang/invoke/VarHandle" ∧ (parseMethodDescriptor yX6_layMatrix.desc).map (fun d => d.parameters.length) = some 1 := by decide +kernel
theorem wc_X6_swapRows : Cond.code yX6_swapRows cX6_swapRows 5 none ∈ ww_ws := ww_t4 111 rfl rfl
theorem wn_X6_swapRows : Cond.instanceMethod yX6_swapRows ∈ ww_ws := ww_t4 110 rfl rfl
theorem we_X6_swapRows : Cond.selects RX6 yX6_swapRows yX6_swapRows ∈ ww_ws := ww_s3 yX6_swapRows 32 6 rfl rfl
theorem wp_X6_swapRows : yX6_swapRows.cls ≠ "java/lang/invoke/MethodHandle" ∧ yX6_swapRows.cls ≠ "java/lang/invoke/VarHandle" ∧ (parseMethodDescriptor yX6_swapRows.desc).map (fun d => d.parameters.length) = some 2 := by decide +kernel
theorem wc_X6_rank : Cond.code yX6_rank cX6_rank 8 (some .int) ∈ ww_ws := ww_t4 103 rfl rfl
theorem wn_X6_rank : Cond.instanceMethod yX6_rank ∈ ww_ws := ww_t4 101 rfl rfl
theorem we_X6_rank : Cond.selects RX6 yX6_rank yX6_rank ∈ ww_ws := ww_t4 102 rfl rfl
theorem wp_X6_rank : yX6_rank.cls ≠ "java/lang/invoke/MethodHandle" ∧ yX6_rank.cls ≠ "java/lang/invoke/VarHandle" ∧ (parseMethodDescriptor yX6_rank.desc).map (fun d => d.parameters.length) = some 1 := by decide +kernel
theorem wc_X6_chooser : Cond.code yX6_chooser cX6_chooser 3 (some .int) ∈ ww_ws := ww_t4 115 rfl rfl
theorem wn_X6_chooser : Cond.instanceMethod yX6_chooser ∈ ww_ws := ww_t4 113 rfl rfl
theorem we_X6_chooser : Cond.selects RX6 yX6_chooser yX6_chooser ∈ ww_ws := ww_t4 114 rfl rfl
theorem wp_X6_chooser : yX6_chooser.cls ≠ "java/lang/invoke/MethodHandle" ∧ yX6_chooser.cls ≠ "java/lang/invoke/VarHandle" ∧ (parseMethodDescriptor yX6_chooser.desc).map (fun d => d.parameters.length) = some 1 := by decide +kernel
theorem wc_X6_length : Cond.code yX6_length cX6_length 2 (some .int) ∈ ww_ws := ww_t4 120 rfl rfl
theorem wn_X6_length : Cond.instanceMethod yX6_length ∈ ww_ws := ww_t4 118 rfl rfl
theorem we_X6_length : Cond.selects RX6 yX6_length yX6_length ∈ ww_ws := ww_t4 119 rfl rfl
theorem wp_X6_length : yX6_length.cls ≠ "java/lang/invoke/MethodHandle" ∧ yX6_length.cls ≠ "java/lang/invoke/VarHandle" ∧ (parseMethodDescriptor yX6_length.desc).map (fun d => d.parameters.length) = some 1 := by decide +kernel
theorem wc_X6_letter : Cond.code yX6_letter cX6_letter 3 (some .int) ∈ ww_ws := ww_t4 128 rfl rfl
theorem wn_X6_letter : Cond.instanceMethod yX6_letter ∈ ww_ws := ww_t4 126 rfl rfl
theorem we_X6_letter : Cond.selects RX6 yX6_letter yX6_letter ∈ ww_ws := ww_t4 127 rfl rfl
theorem wp_X6_letter : yX6_letter.cls ≠ "java/lang/invoke/MethodHandle" ∧ yX6_letter.cls ≠ "java/lang/invoke/VarHandle" ∧ (parseMethodDescriptor yX6_letter.desc).map (fun d => d.parameters.length) = some 2 := by decide +kernel
theorem wc_X6_adds : Cond.code yX6_adds cX6_adds 3 (some .int) ∈ ww_ws := ww_t4 132 rfl rfl
theorem wn_X6_adds : Cond.instanceMethod yX6_adds ∈ ww_ws := ww_t4 130 rfl rfl
theorem we_X6_adds : Cond.selects RX6 yX6_adds yX6_adds ∈ ww_ws := ww_t4 131 rfl rfl
theorem wp_X6_adds : yX6_adds.cls ≠ "java/lang/invoke/MethodHandle" ∧ yX6_adds.cls ≠ "java/lang/invoke/VarHandle" ∧ (parseMethodDescriptor yX6_adds.desc).map (fun d => d.parameters.length) = some 2 := by decide +kernel
theorem wc_X6_times : Cond.code yX6_times cX6_times 4 (some .int) ∈ ww_ws := ww_t4 164 rfl rfl
theorem wn_X6_times : Cond.instanceMethod yX6_times ∈ ww_ws := ww_t4 162 rfl rfl
theorem we_X6_times : Cond.selects RX6 yX6_times yX6_times ∈ ww_ws := ww_t4 163 rfl rfl
theorem wp_X6_times : yX6_times.cls ≠ "java/lang/invoke/MethodHandle" ∧ yX6_times.cls ≠ "java/lang/invoke/VarHandle" ∧ (parseMethodDescriptor yX6_times.desc).map (fun d => d.parameters.length) = some 3 := by decide +kernel
theorem wc_X6_inverse : Cond.code yX6_inverse cX6_inverse 3 (some .int) ∈ ww_ws := ww_t4 168 rfl rfl
theorem wn_X6_inverse : Cond.instanceMethod yX6_inverse ∈ ww_ws := ww_t4 166 rfl rfl
theorem we_X6_inverse : Cond.selects RX6 yX6_inverse yX6_inverse ∈ ww_ws := ww_t4 167 rfl rfl
theorem wp_X6_inverse : yX6_inverse.cls ≠ "java/lang/invoke/MethodHandle" ∧ yX6_inverse.cls ≠ "java/lang/invoke/VarHandle" ∧ (parseMethodDescriptor yX6_inverse.desc).map (fun d => d.parameters.length) = some 2 := by decide +kernel
theorem wc_X6_power : Cond.code yX6_power cX6_power 5 (some .int) ∈ ww_ws := ww_t4 176 rfl rfl
theorem wn_X6_power : Cond.instanceMethod yX6_power ∈ ww_ws := ww_t4 174 rfl rfl
theorem we_X6_power : Cond.selects RX6 yX6_power yX6_power ∈ ww_ws := ww_t4 175 rfl rfl
theorem wp_X6_power : yX6_power.cls ≠ "java/lang/invoke/MethodHandle" ∧ yX6_power.cls ≠ "java/lang/invoke/VarHandle" ∧ (parseMethodDescriptor yX6_power.desc).map (fun d => d.parameters.length) = some 3 := by decide +kernel
theorem wc_X6_ring : Cond.code yX6_ring cX6_ring 3 (some .int) ∈ ww_ws := ww_t4 181 rfl rfl
theorem wn_X6_ring : Cond.instanceMethod yX6_ring ∈ ww_ws := ww_t4 179 rfl rfl
theorem we_X6_ring : Cond.selects RX6 yX6_ring yX6_ring ∈ ww_ws := ww_t4 180 rfl rfl
theorem wp_X6_ring : yX6_ring.cls ≠ "java/lang/invoke/MethodHandle" ∧ yX6_ring.cls ≠ "java/lang/invoke/VarHandle" ∧ (parseMethodDescriptor yX6_ring.desc).map (fun d => d.parameters.length) = some 2 := by decide +kernel
theorem wc_X6_turn : Cond.code yX6_turn cX6_turn 5 (some .int) ∈ ww_ws := ww_t4 189 rfl rfl
theorem wn_X6_turn : Cond.instanceMethod yX6_turn ∈ ww_ws := ww_t4 187 rfl rfl
theorem we_X6_turn : Cond.selects RX6 yX6_turn yX6_turn ∈ ww_ws := ww_t4 188 rfl rfl
theorem wp_X6_turn : yX6_turn.cls ≠ "java/lang/invoke/MethodHandle" ∧ yX6_turn.cls ≠ "java/lang/invoke/VarHandle" ∧ (parseMethodDescriptor yX6_turn.desc).map (fun d => d.parameters.length) = some 3 := by decide +kernel
theorem wc_X6_sum : Cond.code yX6_sum cX6_sum 6 (some .int) ∈ ww_ws := ww_t4 198 rfl rfl
theorem wn_X6_sum : Cond.instanceMethod yX6_sum ∈ ww_ws := ww_t4 196 rfl rfl
theorem we_X6_sum : Cond.selects RX6 yX6_sum yX6_sum ∈ ww_ws := ww_t4 197 rfl rfl
theorem wp_X6_sum : yX6_sum.cls ≠ "java/lang/invoke/MethodHandle" ∧ yX6_sum.cls ≠ "java/lang/invoke/VarHandle" ∧ (parseMethodDescriptor yX6_sum.desc).map (fun d => d.parameters.length) = some 2 := by decide +kernel
theorem wc_X6_matches : Cond.code yX6_matches cX6_matches 4 (some .int) ∈ ww_ws := ww_t4 211 rfl rfl
theorem wn_X6_matches : Cond.instanceMethod yX6_matches ∈ ww_ws := ww_t4 210 rfl rfl
theorem we_X6_matches : Cond.selects RX6 yX6_matches yX6_matches ∈ ww_ws := ww_s4 yX6_matches 32 1 rfl rfl
theorem wp_X6_matches : yX6_matches.cls ≠ "java/lang/invoke/MethodHandle" ∧ yX6_matches.cls ≠ "java/lang/invoke/VarHandle" ∧ (parseMethodDescriptor yX6_matches.desc).map (fun d => d.parameters.length) = some 2 := by decide +kernel
theorem wc_X6_saves : Cond.code yX6_saves cX6_saves 2 (some .int) ∈ ww_ws := ww_t4 214 rfl rfl
theorem wn_X6_saves : Cond.static yX6_saves ∈ ww_ws := ww_t4 213 rfl rfl
theorem wp_X6_saves : yX6_saves.cls ≠ "java/lang/invoke/MethodHandle" ∧ yX6_saves.cls ≠ "java/lang/invoke/VarHandle" ∧ (parseMethodDescriptor yX6_saves.desc).map (fun d => d.parameters.length) = some 2 := by decide +kernel
theorem wc_X6_isBetter : Cond.code yX6_isBetter cX6_isBetter 6 (some .boolean) ∈ ww_ws := ww_t4 218 rfl rfl
theorem wn_X6_isBetter : Cond.instanceMethod yX6_isBetter ∈ ww_ws := ww_t4 217 rfl rfl
theorem we_X6_isBetter : Cond.selects RX6 yX6_isBetter yX6_isBetter ∈ ww_ws := ww_s4 yX6_isBetter 32 2 rfl rfl
theorem wp_X6_isBetter : yX6_isBetter.cls ≠ "java/lang/invoke/MethodHandle" ∧ yX6_isBetter.cls ≠ "java/lang/invoke/VarHandle" ∧ (parseMethodDescriptor yX6_isBetter.desc).map (fun d => d.parameters.length) = some 3 := by decide +kernel
theorem wc_X6_findCut : Cond.code yX6_findCut cX6_findCut 4 none ∈ ww_ws := ww_t4 207 rfl rfl
theorem wn_X6_findCut : Cond.instanceMethod yX6_findCut ∈ ww_ws := ww_t4 206 rfl rfl
theorem we_X6_findCut : Cond.selects RX6 yX6_findCut yX6_findCut ∈ ww_ws := ww_s4 yX6_findCut 32 0 rfl rfl
theorem wp_X6_findCut : yX6_findCut.cls ≠ "java/lang/invoke/MethodHandle" ∧ yX6_findCut.cls ≠ "java/lang/invoke/VarHandle" ∧ (parseMethodDescriptor yX6_findCut.desc).map (fun d => d.parameters.length) = some 0 := by decide +kernel
theorem wc_X6_doCut : Cond.code yX6_doCut cX6_doCut 4 none ∈ ww_ws := ww_t4 226 rfl rfl
theorem wn_X6_doCut : Cond.instanceMethod yX6_doCut ∈ ww_ws := ww_t4 225 rfl rfl
theorem we_X6_doCut : Cond.selects RX6 yX6_doCut yX6_doCut ∈ ww_ws := ww_s4 yX6_doCut 32 3 rfl rfl
theorem wp_X6_doCut : yX6_doCut.cls ≠ "java/lang/invoke/MethodHandle" ∧ yX6_doCut.cls ≠ "java/lang/invoke/VarHandle" ∧ (parseMethodDescriptor yX6_doCut.desc).map (fun d => d.parameters.length) = some 0 := by decide +kernel
theorem wc_X6_shortenHand : Cond.code yX6_shortenHand cX6_shortenHand 3 (some .int) ∈ ww_ws := ww_t4 235 rfl rfl
theorem wn_X6_shortenHand : Cond.instanceMethod yX6_shortenHand ∈ ww_ws := ww_t4 234 rfl rfl
theorem we_X6_shortenHand : Cond.selects RX6 yX6_shortenHand yX6_shortenHand ∈ ww_ws := ww_s4 yX6_shortenHand 32 4 rfl rfl
theorem wp_X6_shortenHand : yX6_shortenHand.cls ≠ "java/lang/invoke/MethodHandle" ∧ yX6_shortenHand.cls ≠ "java/lang/invoke/VarHandle" ∧ (parseMethodDescriptor yX6_shortenHand.desc).map (fun d => d.parameters.length) = some 1 := by decide +kernel
theorem wc_X6_isNothing : Cond.code yX6_isNothing cX6_isNothing 2 (some .boolean) ∈ ww_ws := ww_t5 7 rfl rfl
theorem wn_X6_isNothing : Cond.instanceMethod yX6_isNothing ∈ ww_ws := ww_t5 6 rfl rfl
theorem we_X6_isNothing : Cond.selects RX6 yX6_isNothing yX6_isNothing ∈ ww_ws := ww_s4 yX6_isNothing 32 5 rfl rfl
theorem wp_X6_isNothing : yX6_isNothing.cls ≠ "java/lang/invoke/MethodHandle" ∧ yX6_isNothing.cls ≠ "java/lang/invoke/VarHandle" ∧ (parseMethodDescriptor yX6_isNothing.desc).map (fun d => d.parameters.length) = some 0 := by decide +kernel
theorem wc_X6_cuts : Cond.code yX6_cuts cX6_cuts 2 (some .int) ∈ ww_ws := ww_t4 203 rfl rfl
theorem wn_X6_cuts : Cond.instanceMethod yX6_cuts ∈ ww_ws := ww_t4 201 rfl rfl
theorem we_X6_cuts : Cond.selects RX6 yX6_cuts yX6_cuts ∈ ww_ws := ww_t4 202 rfl rfl
theorem wp_X6_cuts : yX6_cuts.cls ≠ "java/lang/invoke/MethodHandle" ∧ yX6_cuts.cls ≠ "java/lang/invoke/VarHandle" ∧ (parseMethodDescriptor yX6_cuts.desc).map (fun d => d.parameters.length) = some 1 := by decide +kernel
theorem wc_X6_cut : Cond.code yX6_cut cX6_cut 2 (some .int) ∈ ww_ws := ww_t4 222 rfl rfl
theorem wn_X6_cut : Cond.instanceMethod yX6_cut ∈ ww_ws := ww_t4 220 rfl rfl
theorem we_X6_cut : Cond.selects RX6 yX6_cut yX6_cut ∈ ww_ws := ww_t4 221 rfl rfl
theorem wp_X6_cut : yX6_cut.cls ≠ "java/lang/invoke/MethodHandle" ∧ yX6_cut.cls ≠ "java/lang/invoke/VarHandle" ∧ (parseMethodDescriptor yX6_cut.desc).map (fun d => d.parameters.length) = some 1 := by decide +kernel
theorem wc_X6_shorten : Cond.code yX6_shorten cX6_shorten 4 (some .int) ∈ ww_ws := ww_t4 230 rfl rfl
theorem wn_X6_shorten : Cond.instanceMethod yX6_shorten ∈ ww_ws := ww_t4 228 rfl rfl
theorem we_X6_shorten : Cond.selects RX6 yX6_shorten yX6_shorten ∈ ww_ws := ww_t4 229 rfl rfl
theorem wp_X6_shorten : yX6_shorten.cls ≠ "java/lang/invoke/MethodHandle" ∧ yX6_shorten.cls ≠ "java/lang/invoke/VarHandle" ∧ (parseMethodDescriptor yX6_shorten.desc).map (fun d => d.parameters.length) = some 1 := by decide +kernel
theorem wc_X6_trail : Cond.code yX6_trail cX6_trail 6 (some .int) ∈ ww_ws := ww_t4 239 rfl rfl
theorem wn_X6_trail : Cond.instanceMethod yX6_trail ∈ ww_ws := ww_t4 237 rfl rfl
theorem we_X6_trail : Cond.selects RX6 yX6_trail yX6_trail ∈ ww_ws := ww_t4 238 rfl rfl
theorem wp_X6_trail : yX6_trail.cls ≠ "java/lang/invoke/MethodHandle" ∧ yX6_trail.cls ≠ "java/lang/invoke/VarHandle" ∧ (parseMethodDescriptor yX6_trail.desc).map (fun d => d.parameters.length) = some 3 := by decide +kernel
theorem wc_X6_nothing : Cond.code yX6_nothing cX6_nothing 2 (some .int) ∈ ww_ws := ww_t5 3 rfl rfl
theorem wn_X6_nothing : Cond.instanceMethod yX6_nothing ∈ ww_ws := ww_t5 1 rfl rfl
theorem we_X6_nothing : Cond.selects RX6 yX6_nothing yX6_nothing ∈ ww_ws := ww_t5 2 rfl rfl
theorem wp_X6_nothing : yX6_nothing.cls ≠ "java/lang/invoke/MethodHandle" ∧ yX6_nothing.cls ≠ "java/lang/invoke/VarHandle" ∧ (parseMethodDescriptor yX6_nothing.desc).map (fun d => d.parameters.length) = some 1 := by decide +kernel
theorem wc_X6_same : Cond.code yX6_same cX6_same 3 (some .int) ∈ ww_ws := ww_t5 11 rfl rfl
theorem wn_X6_same : Cond.instanceMethod yX6_same ∈ ww_ws := ww_t5 9 rfl rfl
theorem we_X6_same : Cond.selects RX6 yX6_same yX6_same ∈ ww_ws := ww_t5 10 rfl rfl
theorem wp_X6_same : yX6_same.cls ≠ "java/lang/invoke/MethodHandle" ∧ yX6_same.cls ≠ "java/lang/invoke/VarHandle" ∧ (parseMethodDescriptor yX6_same.desc).map (fun d => d.parameters.length) = some 2 := by decide +kernel
theorem wc_X6_order : Cond.code yX6_order cX6_order 4 (some .int) ∈ ww_ws := ww_t5 15 rfl rfl
theorem wn_X6_order : Cond.instanceMethod yX6_order ∈ ww_ws := ww_t5 13 rfl rfl
theorem we_X6_order : Cond.selects RX6 yX6_order yX6_order ∈ ww_ws := ww_t5 14 rfl rfl
theorem wp_X6_order : yX6_order.cls ≠ "java/lang/invoke/MethodHandle" ∧ yX6_order.cls ≠ "java/lang/invoke/VarHandle" ∧ (parseMethodDescriptor yX6_order.desc).map (fun d => d.parameters.length) = some 1 := by decide +kernel
theorem wc_X6_layRings : Cond.code yX6_layRings cX6_layRings 4 none ∈ ww_ws := ww_t5 23 rfl rfl
theorem wn_X6_layRings : Cond.instanceMethod yX6_layRings ∈ ww_ws := ww_t5 22 rfl rfl
theorem we_X6_layRings : Cond.selects RX6 yX6_layRings yX6_layRings ∈ ww_ws := ww_s4 yX6_layRings 32 6 rfl rfl
theorem wp_X6_layRings : yX6_layRings.cls ≠ "java/lang/invoke/MethodHandle" ∧ yX6_layRings.cls ≠ "java/lang/invoke/VarHandle" ∧ (parseMethodDescriptor yX6_layRings.desc).map (fun d => d.parameters.length) = some 2 := by decide +kernel
theorem wc_X6_turnsBy : Cond.code yX6_turnsBy cX6_turnsBy 5 (some .boolean) ∈ ww_ws := ww_t5 27 rfl rfl
theorem wn_X6_turnsBy : Cond.instanceMethod yX6_turnsBy ∈ ww_ws := ww_t5 26 rfl rfl
theorem we_X6_turnsBy : Cond.selects RX6 yX6_turnsBy yX6_turnsBy ∈ ww_ws := ww_s4 yX6_turnsBy 32 7 rfl rfl
theorem wp_X6_turnsBy : yX6_turnsBy.cls ≠ "java/lang/invoke/MethodHandle" ∧ yX6_turnsBy.cls ≠ "java/lang/invoke/VarHandle" ∧ (parseMethodDescriptor yX6_turnsBy.desc).map (fun d => d.parameters.length) = some 3 := by decide +kernel
theorem wc_X6_turned : Cond.code yX6_turned cX6_turned 6 (some .int) ∈ ww_ws := ww_t5 19 rfl rfl
theorem wn_X6_turned : Cond.instanceMethod yX6_turned ∈ ww_ws := ww_t5 17 rfl rfl
theorem we_X6_turned : Cond.selects RX6 yX6_turned yX6_turned ∈ ww_ws := ww_t5 18 rfl rfl
theorem wp_X6_turned : yX6_turned.cls ≠ "java/lang/invoke/MethodHandle" ∧ yX6_turned.cls ≠ "java/lang/invoke/VarHandle" ∧ (parseMethodDescriptor yX6_turned.desc).map (fun d => d.parameters.length) = some 2 := by decide +kernel
theorem wc_X6_nothings : Cond.code yX6_nothings cX6_nothings 5 (some .int) ∈ ww_ws := ww_t5 31 rfl rfl
theorem wn_X6_nothings : Cond.instanceMethod yX6_nothings ∈ ww_ws := ww_t5 29 rfl rfl
theorem we_X6_nothings : Cond.selects RX6 yX6_nothings yX6_nothings ∈ ww_ws := ww_t5 30 rfl rfl
theorem wp_X6_nothings : yX6_nothings.cls ≠ "java/lang/invoke/MethodHandle" ∧ yX6_nothings.cls ≠ "java/lang/invoke/VarHandle" ∧ (parseMethodDescriptor yX6_nothings.desc).map (fun d => d.parameters.length) = some 1 := by decide +kernel
theorem wc_X6_drawn : Cond.code yX6_drawn cX6_drawn 2 (some .long) ∈ ww_ws := ww_t5 40 rfl rfl
theorem wn_X6_drawn : Cond.static yX6_drawn ∈ ww_ws := ww_t5 39 rfl rfl
theorem wp_X6_drawn : yX6_drawn.cls ≠ "java/lang/invoke/MethodHandle" ∧ yX6_drawn.cls ≠ "java/lang/invoke/VarHandle" ∧ (parseMethodDescriptor yX6_drawn.desc).map (fun d => d.parameters.length) = some 1 := by decide +kernel
theorem wc_X6_draw : Cond.code yX6_draw cX6_draw 7 (some .int) ∈ ww_ws := ww_t5 35 rfl rfl
theorem wn_X6_draw : Cond.instanceMethod yX6_draw ∈ ww_ws := ww_t5 33 rfl rfl
theorem we_X6_draw : Cond.selects RX6 yX6_draw yX6_draw ∈ ww_ws := ww_t5 34 rfl rfl
theorem wp_X6_draw : yX6_draw.cls ≠ "java/lang/invoke/MethodHandle" ∧ yX6_draw.cls ≠ "java/lang/invoke/VarHandle" ∧ (parseMethodDescriptor yX6_draw.desc).map (fun d => d.parameters.length) = some 3 := by decide +kernel
theorem wc_X6_loops : Cond.code yX6_loops cX6_loops 10 (some .int) ∈ ww_ws := ww_t5 49 rfl rfl
theorem wn_X6_loops : Cond.instanceMethod yX6_loops ∈ ww_ws := ww_t5 47 rfl rfl
theorem we_X6_loops : Cond.selects RX6 yX6_loops yX6_loops ∈ ww_ws := ww_t5 48 rfl rfl
theorem wp_X6_loops : yX6_loops.cls ≠ "java/lang/invoke/MethodHandle" ∧ yX6_loops.cls ≠ "java/lang/invoke/VarHandle" ∧ (parseMethodDescriptor yX6_loops.desc).map (fun d => d.parameters.length) = some 3 := by decide +kernel
theorem wc_X6_type : Cond.code yX6_type cX6_type 2 (some .int) ∈ ww_ws := ww_t5 55 rfl rfl
theorem wn_X6_type : Cond.instanceMethod yX6_type ∈ ww_ws := ww_t5 53 rfl rfl
theorem we_X6_type : Cond.selects RX6 yX6_type yX6_type ∈ ww_ws := ww_t5 54 rfl rfl
theorem wp_X6_type : yX6_type.cls ≠ "java/lang/invoke/MethodHandle" ∧ yX6_type.cls ≠ "java/lang/invoke/VarHandle" ∧ (parseMethodDescriptor yX6_type.desc).map (fun d => d.parameters.length) = some 1 := by decide +kernel
theorem wc_X6_clear : Cond.code yX6_clear cX6_clear 2 (some .int) ∈ ww_ws := ww_t5 60 rfl rfl
theorem wn_X6_clear : Cond.instanceMethod yX6_clear ∈ ww_ws := ww_t5 58 rfl rfl
theorem we_X6_clear : Cond.selects RX6 yX6_clear yX6_clear ∈ ww_ws := ww_t5 59 rfl rfl
theorem wp_X6_clear : yX6_clear.cls ≠ "java/lang/invoke/MethodHandle" ∧ yX6_clear.cls ≠ "java/lang/invoke/VarHandle" ∧ (parseMethodDescriptor yX6_clear.desc).map (fun d => d.parameters.length) = some 0 := by decide +kernel
theorem wc_X6_isBlank : Cond.code yX6_isBlank cX6_isBlank 1 (some .boolean) ∈ ww_ws := ww_t5 82 rfl rfl
theorem wn_X6_isBlank : Cond.static yX6_isBlank ∈ ww_ws := ww_t5 81 rfl rfl
theorem wp_X6_isBlank : yX6_isBlank.cls ≠ "java/lang/invoke/MethodHandle" ∧ yX6_isBlank.cls ≠ "java/lang/invoke/VarHandle" ∧ (parseMethodDescriptor yX6_isBlank.desc).map (fun d => d.parameters.length) = some 1 := by decide +kernel
theorem wc_X6_letterBy : Cond.code yX6_letterBy cX6_letterBy 1 (some .int) ∈ ww_ws := ww_t5 75 rfl rfl
theorem wn_X6_letterBy : Cond.static yX6_letterBy ∈ ww_ws := ww_t5 74 rfl rfl
theorem wp_X6_letterBy : yX6_letterBy.cls ≠ "java/lang/invoke/MethodHandle" ∧ yX6_letterBy.cls ≠ "java/lang/invoke/VarHandle" ∧ (parseMethodDescriptor yX6_letterBy.desc).map (fun d => d.parameters.length) = some 1 := by decide +kernel
theorem wc_X6_isFigure : Cond.code yX6_isFigure cX6_isFigure 2 (some .boolean) ∈ ww_ws := ww_t5 86 rfl rfl
theorem wn_X6_isFigure : Cond.instanceMethod yX6_isFigure ∈ ww_ws := ww_t5 85 rfl rfl
theorem we_X6_isFigure : Cond.selects RX6 yX6_isFigure yX6_isFigure ∈ ww_ws := ww_s4 yX6_isFigure 32 10 rfl rfl
theorem wp_X6_isFigure : yX6_isFigure.cls ≠ "java/lang/invoke/MethodHandle" ∧ yX6_isFigure.cls ≠ "java/lang/invoke/VarHandle" ∧ (parseMethodDescriptor yX6_isFigure.desc).map (fun d => d.parameters.length) = some 1 := by decide +kernel
theorem wc_X6_syntax : Cond.code yX6_syntax cX6_syntax 8 (some .int) ∈ ww_ws := ww_t5 72 rfl rfl
theorem wn_X6_syntax : Cond.instanceMethod yX6_syntax ∈ ww_ws := ww_t5 71 rfl rfl
theorem we_X6_syntax : Cond.selects RX6 yX6_syntax yX6_syntax ∈ ww_ws := ww_s4 yX6_syntax 32 9 rfl rfl
theorem wp_X6_syntax : yX6_syntax.cls ≠ "java/lang/invoke/MethodHandle" ∧ yX6_syntax.cls ≠ "java/lang/invoke/VarHandle" ∧ (parseMethodDescriptor yX6_syntax.desc).map (fun d => d.parameters.length) = some 0 := by decide +kernel
theorem wc_X6_put : Cond.code yX6_put cX6_put 2 none ∈ ww_ws := ww_t5 104 rfl rfl
theorem wn_X6_put : Cond.instanceMethod yX6_put ∈ ww_ws := ww_t5 103 rfl rfl
theorem we_X6_put : Cond.selects RX6 yX6_put yX6_put ∈ ww_ws := ww_s4 yX6_put 32 14 rfl rfl
theorem wp_X6_put : yX6_put.cls ≠ "java/lang/invoke/MethodHandle" ∧ yX6_put.cls ≠ "java/lang/invoke/VarHandle" ∧ (parseMethodDescriptor yX6_put.desc).map (fun d => d.parameters.length) = some 1 := by decide +kernel
theorem wc_X6_repeat : Cond.code yX6_repeat cX6_repeat 5 none ∈ ww_ws := ww_t5 100 rfl rfl
theorem wn_X6_repeat : Cond.instanceMethod yX6_repeat ∈ ww_ws := ww_t5 99 rfl rfl
theorem we_X6_repeat : Cond.selects RX6 yX6_repeat yX6_repeat ∈ ww_ws := ww_s4 yX6_repeat 32 13 rfl rfl
theorem wp_X6_repeat : yX6_repeat.cls ≠ "java/lang/invoke/MethodHandle" ∧ yX6_repeat.cls ≠ "java/lang/invoke/VarHandle" ∧ (parseMethodDescriptor yX6_repeat.desc).map (fun d => d.parameters.length) = some 2 := by decide +kernel
theorem wc_X6_tellWord : Cond.code yX6_tellWord cX6_tellWord 4 none ∈ ww_ws := ww_t5 96 rfl rfl
theorem wn_X6_tellWord : Cond.instanceMethod yX6_tellWord ∈ ww_ws := ww_t5 95 rfl rfl
theorem we_X6_tellWord : Cond.selects RX6 yX6_tellWord yX6_tellWord ∈ ww_ws := ww_s4 yX6_tellWord 32 12 rfl rfl
theorem wp_X6_tellWord : yX6_tellWord.cls ≠ "java/lang/invoke/MethodHandle" ∧ yX6_tellWord.cls ≠ "java/lang/invoke/VarHandle" ∧ (parseMethodDescriptor yX6_tellWord.desc).map (fun d => d.parameters.length) = some 0 := by decide +kernel
theorem wc_X6_skip : Cond.code yX6_skip cX6_skip 1 none ∈ ww_ws := ww_t5 92 rfl rfl
theorem wn_X6_skip : Cond.instanceMethod yX6_skip ∈ ww_ws := ww_t5 91 rfl rfl
theorem we_X6_skip : Cond.selects RX6 yX6_skip yX6_skip ∈ ww_ws := ww_s4 yX6_skip 32 11 rfl rfl
theorem wp_X6_skip : yX6_skip.cls ≠ "java/lang/invoke/MethodHandle" ∧ yX6_skip.cls ≠ "java/lang/invoke/VarHandle" ∧ (parseMethodDescriptor yX6_skip.desc).map (fun d => d.parameters.length) = some 0 := by decide +kernel
theorem wc_X6_tellWords : Cond.code yX6_tellWords cX6_tellWords 7 (some .int) ∈ ww_ws := ww_t5 68 rfl rfl
theorem wn_X6_tellWords : Cond.instanceMethod yX6_tellWords ∈ ww_ws := ww_t5 67 rfl rfl
theorem we_X6_tellWords : Cond.selects RX6 yX6_tellWords yX6_tellWords ∈ ww_ws := ww_s4 yX6_tellWords 32 8 rfl rfl
theorem wp_X6_tellWords : yX6_tellWords.cls ≠ "java/lang/invoke/MethodHandle" ∧ yX6_tellWords.cls ≠ "java/lang/invoke/VarHandle" ∧ (parseMethodDescriptor yX6_tellWords.desc).map (fun d => d.parameters.length) = some 2 := by decide +kernel
theorem wc_X6_relators : Cond.code yX6_relators cX6_relators 4 (some .int) ∈ ww_ws := ww_t5 64 rfl rfl
theorem wn_X6_relators : Cond.instanceMethod yX6_relators ∈ ww_ws := ww_t5 62 rfl rfl
theorem we_X6_relators : Cond.selects RX6 yX6_relators yX6_relators ∈ ww_ws := ww_t5 63 rfl rfl
theorem wp_X6_relators : yX6_relators.cls ≠ "java/lang/invoke/MethodHandle" ∧ yX6_relators.cls ≠ "java/lang/invoke/VarHandle" ∧ (parseMethodDescriptor yX6_relators.desc).map (fun d => d.parameters.length) = some 0 := by decide +kernel
theorem wc_X6_words : Cond.code yX6_words cX6_words 5 (some .int) ∈ ww_ws := ww_t5 121 rfl rfl
theorem wn_X6_words : Cond.instanceMethod yX6_words ∈ ww_ws := ww_t5 119 rfl rfl
theorem we_X6_words : Cond.selects RX6 yX6_words yX6_words ∈ ww_ws := ww_t5 120 rfl rfl
theorem wp_X6_words : yX6_words.cls ≠ "java/lang/invoke/MethodHandle" ∧ yX6_words.cls ≠ "java/lang/invoke/VarHandle" ∧ (parseMethodDescriptor yX6_words.desc).map (fun d => d.parameters.length) = some 1 := by decide +kernel
theorem wc_X6_lettersOfAll : Cond.code yX6_lettersOfAll cX6_lettersOfAll 3 (some .int) ∈ ww_ws := ww_t5 133 rfl rfl
theorem wn_X6_lettersOfAll : Cond.instanceMethod yX6_lettersOfAll ∈ ww_ws := ww_t5 132 rfl rfl
theorem we_X6_lettersOfAll : Cond.selects RX6 yX6_lettersOfAll yX6_lettersOfAll ∈ ww_ws := ww_s5 yX6_lettersOfAll 32 3 rfl rfl
theorem wp_X6_lettersOfAll : yX6_lettersOfAll.cls ≠ "java/lang/invoke/MethodHandle" ∧ yX6_lettersOfAll.cls ≠ "java/lang/invoke/VarHandle" ∧ (parseMethodDescriptor yX6_lettersOfAll.desc).map (fun d => d.parameters.length) = some 0 := by decide +kernel
theorem wc_X6_toldOf : Cond.code yX6_toldOf cX6_toldOf 2 (some .int) ∈ ww_ws := ww_t5 129 rfl rfl
theorem wn_X6_toldOf : Cond.instanceMethod yX6_toldOf ∈ ww_ws := ww_t5 128 rfl rfl
theorem we_X6_toldOf : Cond.selects RX6 yX6_toldOf yX6_toldOf ∈ ww_ws := ww_s5 yX6_toldOf 32 2 rfl rfl
theorem wp_X6_toldOf : yX6_toldOf.cls ≠ "java/lang/invoke/MethodHandle" ∧ yX6_toldOf.cls ≠ "java/lang/invoke/VarHandle" ∧ (parseMethodDescriptor yX6_toldOf.desc).map (fun d => d.parameters.length) = some 1 := by decide +kernel
theorem wc_X6_told : Cond.code yX6_told cX6_told 2 (some .int) ∈ ww_ws := ww_t5 125 rfl rfl
theorem wn_X6_told : Cond.instanceMethod yX6_told ∈ ww_ws := ww_t5 123 rfl rfl
theorem we_X6_told : Cond.selects RX6 yX6_told yX6_told ∈ ww_ws := ww_t5 124 rfl rfl
theorem wp_X6_told : yX6_told.cls ≠ "java/lang/invoke/MethodHandle" ∧ yX6_told.cls ≠ "java/lang/invoke/VarHandle" ∧ (parseMethodDescriptor yX6_told.desc).map (fun d => d.parameters.length) = some 1 := by decide +kernel
theorem wc_X6_sums : Cond.code yX6_sums cX6_sums 8 (some .long) ∈ ww_ws := ww_t5 142 rfl rfl
theorem wn_X6_sums : Cond.static yX6_sums ∈ ww_ws := ww_t5 141 rfl rfl
theorem wp_X6_sums : yX6_sums.cls ≠ "java/lang/invoke/MethodHandle" ∧ yX6_sums.cls ≠ "java/lang/invoke/VarHandle" ∧ (parseMethodDescriptor yX6_sums.desc).map (fun d => d.parameters.length) = some 4 := by decide +kernel
theorem wc_X6_digest : Cond.code yX6_digest cX6_digest 4 (some .long) ∈ ww_ws := ww_t5 137 rfl rfl
theorem wn_X6_digest : Cond.instanceMethod yX6_digest ∈ ww_ws := ww_t5 135 rfl rfl
theorem we_X6_digest : Cond.selects RX6 yX6_digest yX6_digest ∈ ww_ws := ww_t5 136 rfl rfl
theorem wp_X6_digest : yX6_digest.cls ≠ "java/lang/invoke/MethodHandle" ∧ yX6_digest.cls ≠ "java/lang/invoke/VarHandle" ∧ (parseMethodDescriptor yX6_digest.desc).map (fun d => d.parameters.length) = some 0 := by decide +kernel
theorem wc_J9_floorMod_7cf53 : Cond.code yJ9_floorMod_7cf53 cJ9_floorMod_7cf53 3 (some .int) ∈ ww_ws := ww_t2 211 rfl rfl
theorem wn_J9_floorMod_7cf53 : Cond.static yJ9_floorMod_7cf53 ∈ ww_ws := ww_t2 210 rfl rfl
theorem wp_J9_floorMod_7cf53 : yJ9_floorMod_7cf53.cls ≠ "java/lang/invoke/MethodHandle" ∧ yJ9_floorMod_7cf53.cls ≠ "java/lang/invoke/VarHandle" ∧ (parseMethodDescriptor yJ9_floorMod_7cf53.desc).map (fun d => d.parameters.length) = some 2 := by decide +kernel
theorem wc_J9_abs_0f7a4 : Cond.code yJ9_abs_0f7a4 cJ9_abs_0f7a4 1 (some .int) ∈ ww_ws := ww_t3 22 rfl rfl
theorem wn_J9_abs_0f7a4 : Cond.static yJ9_abs_0f7a4 ∈ ww_ws := ww_t3 21 rfl rfl
theorem wp_J9_abs_0f7a4 : yJ9_abs_0f7a4.cls ≠ "java/lang/invoke/MethodHandle" ∧ yJ9_abs_0f7a4.cls ≠ "java/lang/invoke/VarHandle" ∧ (parseMethodDescriptor yJ9_abs_0f7a4.desc).map (fun d => d.parameters.length) = some 1 := by decide +kernel
theorem wc_J9_max_7cf53 : Cond.code yJ9_max_7cf53 cJ9_max_7cf53 2 (some .int) ∈ ww_ws := ww_t1 26 rfl rfl
theorem wn_J9_max_7cf53 : Cond.static yJ9_max_7cf53 ∈ ww_ws := ww_t1 25 rfl rfl
theorem wp_J9_max_7cf53 : yJ9_max_7cf53.cls ≠ "java/lang/invoke/MethodHandle" ∧ yJ9_max_7cf53.cls ≠ "java/lang/invoke/VarHandle" ∧ (parseMethodDescriptor yJ9_max_7cf53.desc).map (fun d => d.parameters.length) = some 2 := by decide +kernel
theorem wc_J9_min_7cf53 : Cond.code yJ9_min_7cf53 cJ9_min_7cf53 2 (some .int) ∈ ww_ws := ww_t2 97 rfl rfl
theorem wn_J9_min_7cf53 : Cond.static yJ9_min_7cf53 ∈ ww_ws := ww_t2 96 rfl rfl
theorem wp_J9_min_7cf53 : yJ9_min_7cf53.cls ≠ "java/lang/invoke/MethodHandle" ∧ yJ9_min_7cf53.cls ≠ "java/lang/invoke/VarHandle" ∧ (parseMethodDescriptor yJ9_min_7cf53.desc).map (fun d => d.parameters.length) = some 2 := by decide +kernel
theorem wl_X0_20 : Cond.methodLink RX0 20 yX2_init ∈ ww_ws := ww_t1 110 rfl rfl
theorem wl_X0_60 : Cond.methodLink RX0 60 Lib.Math.min.name ∈ ww_ws := ww_t2 95 rfl rfl
theorem wl_X0_73 : Cond.methodLink RX0 73 yX2_copy ∈ ww_ws := ww_t2 98 rfl rfl
theorem wl_X0_77 : Cond.methodLink RX0 77 yX0_addTurns ∈ ww_ws := ww_t2 103 rfl rfl
theorem wl_X0_81 : Cond.methodLink RX0 81 yX2_wipe ∈ ww_ws := ww_t2 107 rfl rfl
theorem wl_X0_84 : Cond.methodLink RX0 84 yX2_putInverse ∈ ww_ws := ww_t2 138 rfl rfl
theorem wl_X0_87 : Cond.methodLink RX0 87 yX0_measure ∈ ww_ws := ww_t2 142 rfl rfl
theorem wl_X0_91 : Cond.methodLink RX0 91 yX2_putTurn ∈ ww_ws := ww_t2 108 rfl rfl
theorem wl_X0_95 : Cond.methodLink RX0 95 yX0_earlierLike ∈ ww_ws := ww_t2 117 rfl rfl
theorem wl_X0_99 : Cond.methodLink RX0 99 yX2_at ∈ ww_ws := ww_t2 133 rfl rfl
theorem wl_X0_103 : Cond.methodLink RX0 103 yX0_listByFirstLetter ∈ ww_ws := ww_t2 134 rfl rfl
theorem wl_X0_106 : Cond.methodLink RX0 106 yX0_matchAt ∈ ww_ws := ww_t2 121 rfl rfl
theorem wl_X0_110 : Cond.methodLink RX0 110 yX0_sharedStart ∈ ww_ws := ww_t2 146 rfl rfl
theorem wl_X0_113 : Cond.methodLink RX0 113 Lib.Math.max.name ∈ ww_ws := ww_t2 150 rfl rfl
theorem wl_X0_116 : Cond.methodLink RX0 116 yX0_notePiece ∈ ww_ws := ww_t2 151 rfl rfl
theorem wl_X0_120 : Cond.methodLink RX0 120 yX0_has ∈ ww_ws := ww_t2 125 rfl rfl
theorem wl_X0_124 : Cond.methodLink RX0 124 yX2_likeFrom ∈ ww_ws := ww_t2 129 rfl rfl
theorem wl_X0_128 : Cond.methodLink RX0 128 yX0_sizeOf ∈ ww_ws := ww_t3 129 rfl rfl
theorem wl_X0_131 : Cond.methodLink RX0 131 yX0_startersWith ∈ ww_ws := ww_t3 56 rfl rfl
theorem wl_X0_134 : Cond.methodLink RX0 134 yX2_surplusOf ∈ ww_ws := ww_t2 205 rfl rfl
theorem wl_X0_137 : Cond.methodLink RX0 137 yJ9_floorMod_7cf53 ∈ ww_ws := ww_t2 209 rfl rfl
theorem wl_X0_140 : Cond.methodLink RX0 140 yX0_bringPivot ∈ ww_ws := ww_t2 212 rfl rfl
theorem wl_X0_144 : Cond.methodLink RX0 144 yX0_clearBelow ∈ ww_ws := ww_t2 216 rfl rfl
theorem wl_X1_24 : Cond.methodLink RX1 24 yX2_init ∈ ww_ws := ww_t1 73 rfl rfl
theorem wl_X1_36 : Cond.methodLink RX1 36 yX4_byteAt ∈ ww_ws := ww_t2 49 rfl rfl
theorem wl_X1_40 : Cond.methodLink RX1 40 yX1_startWord ∈ ww_ws := ww_t2 50 rfl rfl
theorem wl_X1_43 : Cond.methodLink RX1 43 yX1_readByte ∈ ww_ws := ww_t2 54 rfl rfl
theorem wl_X1_46 : Cond.methodLink RX1 46 yX1_takeWord ∈ ww_ws := ww_t2 68 rfl rfl
theorem wl_X1_63 : Cond.methodLink RX1 63 yX4_letterFor ∈ ww_ws := ww_t2 58 rfl rfl
theorem wl_X1_66 : Cond.methodLink RX1 66 yX4_figureFor ∈ ww_ws := ww_t2 59 rfl rfl
theorem wl_X1_69 : Cond.methodLink RX1 69 yX1_putRaw ∈ ww_ws := ww_t2 60 rfl rfl
theorem wl_X1_72 : Cond.methodLink RX1 72 yX1_repeatFactor ∈ ww_ws := ww_t2 64 rfl rfl
theorem wl_X1_75 : Cond.methodLink RX1 75 yX2_wipe ∈ ww_ws := ww_t2 72 rfl rfl
theorem wl_X1_78 : Cond.methodLink RX1 78 yX2_put ∈ ww_ws := ww_t2 76 rfl rfl
theorem wl_X1_81 : Cond.methodLink RX1 81 yX2_cutToRing ∈ ww_ws := ww_t2 87 rfl rfl
theorem wl_X2_9 : Cond.methodLink RX2 9 Lib.Math.max.name ∈ ww_ws := ww_t1 24 rfl rfl
theorem wl_X2_25 : Cond.methodLink RX2 25 yX2_at ∈ ww_ws := ww_t2 80 rfl rfl
theorem wl_X2_32 : Cond.methodLink RX2 32 Lib.Math.min.name ∈ ww_ws := ww_t2 102 rfl rfl
theorem wl_X2_35 : Cond.methodLink RX2 35 yX2_putPart ∈ ww_ws := ww_t2 112 rfl rfl
theorem wl_X2_39 : Cond.methodLink RX2 39 yX2_put ∈ ww_ws := ww_t2 116 rfl rfl
theorem wl_X3_11 : Cond.methodLink RX3 11 yX2_init ∈ ww_ws := ww_t1 166 rfl rfl
theorem wl_X3_36 : Cond.methodLink RX3 36 yX2_at ∈ ww_ws := ww_t3 47 rfl rfl
theorem wl_X3_40 : Cond.methodLink RX3 40 yX0_startersWith ∈ ww_ws := ww_t3 48 rfl rfl
theorem wl_X3_43 : Cond.methodLink RX3 43 yX0_starter ∈ ww_ws := ww_t3 52 rfl rfl
theorem wl_X3_47 : Cond.methodLink RX3 47 yX0_matchAt ∈ ww_ws := ww_t3 57 rfl rfl
theorem wl_X3_51 : Cond.methodLink RX3 51 yX0_sizeOf ∈ ww_ws := ww_t3 58 rfl rfl
theorem wl_X3_54 : Cond.methodLink RX3 54 yX3_isBetter ∈ ww_ws := ww_t3 59 rfl rfl
theorem wl_X3_58 : Cond.methodLink RX3 58 yX3_take ∈ ww_ws := ww_t3 63 rfl rfl
theorem wl_X3_74 : Cond.methodLink RX3 74 yX2_wipe ∈ ww_ws := ww_t3 75 rfl rfl
theorem wl_X3_77 : Cond.methodLink RX3 77 yX2_putPart ∈ ww_ws := ww_t3 76 rfl rfl
theorem wl_X3_81 : Cond.methodLink RX3 81 yX0_letterOf ∈ ww_ws := ww_t3 77 rfl rfl
theorem wl_X3_87 : Cond.methodLink RX3 87 yX2_put ∈ ww_ws := ww_t3 79 rfl rfl
theorem wl_X3_90 : Cond.methodLink RX3 90 yX2_copy ∈ ww_ws := ww_t3 80 rfl rfl
theorem wl_X3_94 : Cond.methodLink RX3 94 yX3_seek ∈ ww_ws := ww_t3 89 rfl rfl
theorem wl_X3_98 : Cond.methodLink RX3 98 yX3_doCut ∈ ww_ws := ww_t3 90 rfl rfl
theorem wl_X4_32 : Cond.methodLink RX4 32 yX4_byteAt ∈ ww_ws := ww_t2 15 rfl rfl
theorem wl_X4_36 : Cond.methodLink RX4 36 yX4_standsNext ∈ ww_ws := ww_t2 19 rfl rfl
theorem wl_X4_40 : Cond.methodLink RX4 40 yX4_figureFor ∈ ww_ws := ww_t2 23 rfl rfl
theorem wl_X4_43 : Cond.methodLink RX4 43 yX4_letterFor ∈ ww_ws := ww_t2 26 rfl rfl
theorem wl_X4_46 : Cond.methodLink RX4 46 yX4_factorEnds ∈ ww_ws := ww_t2 29 rfl rfl
theorem wl_X4_50 : Cond.methodLink RX4 50 yX4_bracketOpens ∈ ww_ws := ww_t2 33 rfl rfl
theorem wl_X4_53 : Cond.methodLink RX4 53 yX4_bracketCloses ∈ ww_ws := ww_t2 37 rfl rfl
theorem wl_X4_56 : Cond.methodLink RX4 56 yX4_wordEnds ∈ ww_ws := ww_t2 41 rfl rfl
theorem wl_X5_15 : Cond.methodLink RX5 15 yX2_init ∈ ww_ws := ww_t1 20 rfl rfl
theorem wl_X5_27 : Cond.methodLink RX5 27 yX1_init ∈ ww_ws := ww_t1 68 rfl rfl
theorem wl_X5_34 : Cond.methodLink RX5 34 yX0_init ∈ ww_ws := ww_t1 105 rfl rfl
theorem wl_X5_41 : Cond.methodLink RX5 41 yX3_init ∈ ww_ws := ww_t1 161 rfl rfl
theorem wl_X5_58 : Cond.methodLink RX5 58 yX5_refuse ∈ ww_ws := ww_t1 231 rfl rfl
theorem wl_X5_62 : Cond.methodLink RX5 62 yX4_accept ∈ ww_ws := ww_t1 235 rfl rfl
theorem wl_X5_70 : Cond.methodLink RX5 70 yX5_readText ∈ ww_ws := ww_t2 7 rfl rfl
theorem wl_X5_74 : Cond.methodLink RX5 74 yX0_become ∈ ww_ws := ww_t2 91 rfl rfl
theorem wl_X5_81 : Cond.methodLink RX5 81 yX5_isWord ∈ ww_ws := ww_t2 159 rfl rfl
theorem wl_X5_87 : Cond.methodLink RX5 87 yX2_copy ∈ ww_ws := ww_t2 162 rfl rfl
theorem wl_X5_108 : Cond.methodLink RX5 108 yX0_has ∈ ww_ws := ww_t2 175 rfl rfl
theorem wl_X5_111 : Cond.methodLink RX5 111 yX0_sizeOf ∈ ww_ws := ww_t2 176 rfl rfl
theorem wl_X5_114 : Cond.methodLink RX5 114 yX0_letterOf ∈ ww_ws := ww_t2 180 rfl rfl
theorem wl_X5_118 : Cond.methodLink RX5 118 yX0_areGood ∈ ww_ws := ww_t2 188 rfl rfl
theorem wl_X5_121 : Cond.methodLink RX5 121 yX0_sharedStart ∈ ww_ws := ww_t2 196 rfl rfl
theorem wl_X5_124 : Cond.methodLink RX5 124 yX0_rankBy ∈ ww_ws := ww_t2 201 rfl rfl
theorem wl_X5_127 : Cond.methodLink RX5 127 yX2_at ∈ ww_ws := ww_t2 228 rfl rfl
theorem wl_X5_130 : Cond.methodLink RX5 130 yX2_put ∈ ww_ws := ww_t2 233 rfl rfl
theorem wl_X5_133 : Cond.methodLink RX5 133 yX5_keep ∈ ww_ws := ww_t2 234 rfl rfl
theorem wl_X5_136 : Cond.methodLink RX5 136 yX2_putRow ∈ ww_ws := ww_t3 2 rfl rfl
theorem wl_X5_139 : Cond.methodLink RX5 139 yX2_wipe ∈ ww_ws := ww_t3 10 rfl rfl
theorem wl_X5_142 : Cond.methodLink RX5 142 yX2_putInverse ∈ ww_ws := ww_t3 11 rfl rfl
theorem wl_X5_145 : Cond.methodLink RX5 145 yX5_makePower ∈ ww_ws := ww_t3 16 rfl rfl
theorem wl_X5_149 : Cond.methodLink RX5 149 yX2_cutToRing ∈ ww_ws := ww_t3 28 rfl rfl
theorem wl_X5_152 : Cond.methodLink RX5 152 yX2_putTurn ∈ ww_ws := ww_t3 33 rfl rfl
theorem wl_X5_156 : Cond.methodLink RX5 156 yX2_surplusOf ∈ ww_ws := ww_t3 38 rfl rfl
theorem wl_X5_159 : Cond.methodLink RX5 159 yX3_seek ∈ ww_ws := ww_t3 43 rfl rfl
theorem wl_X5_163 : Cond.methodLink RX5 163 yX3_doCut ∈ ww_ws := ww_t3 71 rfl rfl
theorem wl_X5_166 : Cond.methodLink RX5 166 yX3_doAll ∈ ww_ws := ww_t3 85 rfl rfl
theorem wl_X5_169 : Cond.methodLink RX5 169 yX3_doThrough ∈ ww_ws := ww_t3 95 rfl rfl
theorem wl_X5_182 : Cond.methodLink RX5 182 Lib.Math.max.name ∈ ww_ws := ww_t3 115 rfl rfl
theorem wl_X5_187 : Cond.methodLink RX5 187 yX5_someBeginningTurns ∈ ww_ws := ww_t3 116 rfl rfl
theorem wl_X5_192 : Cond.methodLink RX5 192 yX5_nextDraw ∈ ww_ws := ww_t3 139 rfl rfl
theorem wl_X5_203 : Cond.methodLink RX5 203 yX5_putLoop ∈ ww_ws := ww_t3 152 rfl rfl
theorem wl_X5_206 : Cond.methodLink RX5 206 yX5_tell ∈ ww_ws := ww_t3 160 rfl rfl
theorem wl_X5_213 : Cond.methodLink RX5 213 yX5_digestOf ∈ ww_ws := ww_t3 174 rfl rfl
theorem wl_X5_226 : Cond.methodLink RX5 226 yX4_wrongPlace ∈ ww_ws := ww_t2 11 rfl rfl
theorem wl_X5_230 : Cond.methodLink RX5 230 yX1_readAll ∈ ww_ws := ww_t2 45 rfl rfl
theorem wl_X5_234 : Cond.methodLink RX5 234 Lib.Math.abs.name ∈ ww_ws := ww_t3 20 rfl rfl
theorem wl_X5_237 : Cond.methodLink RX5 237 Lib.Math.min.name ∈ ww_ws := ww_t3 23 rfl rfl
theorem wl_X5_240 : Cond.methodLink RX5 240 yX5_beginningTurns ∈ ww_ws := ww_t3 120 rfl rfl
theorem wl_X5_244 : Cond.methodLink RX5 244 yX0_beginsFresh ∈ ww_ws := ww_t3 125 rfl rfl
theorem wl_X5_247 : Cond.methodLink RX5 247 yX5_opposite ∈ ww_ws := ww_t3 124 rfl rfl
theorem wl_X5_250 : Cond.methodLink RX5 250 yX5_lettersOfAll ∈ ww_ws := ww_t3 164 rfl rfl
theorem wl_X6_66 : Cond.methodLink RX6 66 yX6_in ∈ ww_ws := ww_t4 48 rfl rfl
theorem wl_X6_76 : Cond.methodLink RX6 76 yX6_opposite ∈ ww_ws := ww_t4 72 rfl rfl
theorem wl_X6_80 : Cond.methodLink RX6 80 yX6_push ∈ ww_ws := ww_t4 145 rfl rfl
theorem wl_X6_84 : Cond.methodLink RX6 84 yX6_pushWord ∈ ww_ws := ww_t4 141 rfl rfl
theorem wl_X6_87 : Cond.methodLink RX6 87 yX6_full ∈ ww_ws := ww_t4 153 rfl rfl
theorem wl_X6_91 : Cond.methodLink RX6 91 yX6_layWord ∈ ww_ws := ww_t4 157 rfl rfl
theorem wl_X6_94 : Cond.methodLink RX6 94 yX6_relatorLetter ∈ ww_ws := ww_t4 68 rfl rfl
theorem wl_X6_101 : Cond.methodLink RX6 101 yX6_isTurn ∈ ww_ws := ww_t4 64 rfl rfl
theorem wl_X6_105 : Cond.methodLink RX6 105 yX6_isListed ∈ ww_ws := ww_t5 114 rfl rfl
theorem wl_X6_112 : Cond.methodLink RX6 112 yX6_listTurns ∈ ww_ws := ww_t5 110 rfl rfl
theorem wl_X6_116 : Cond.methodLink RX6 116 yX6_isOf ∈ ww_ws := ww_t4 60 rfl rfl
theorem wl_X6_120 : Cond.methodLink RX6 120 yX6_beginAlike ∈ ww_ws := ww_t4 75 rfl rfl
theorem wl_X6_124 : Cond.methodLink RX6 124 yX6_pieceOf ∈ ww_ws := ww_t4 56 rfl rfl
theorem wl_X6_127 : Cond.methodLink RX6 127 yX6_isRelator ∈ ww_ws := ww_t4 44 rfl rfl
theorem wl_X6_133 : Cond.methodLink RX6 133 yX6_bad ∈ ww_ws := ww_t4 52 rfl rfl
theorem wl_X6_136 : Cond.methodLink RX6 136 yX6_isMember ∈ ww_ws := ww_t4 83 rfl rfl
theorem wl_X6_141 : Cond.methodLink RX6 141 yX6_isGood ∈ ww_ws := ww_t4 92 rfl rfl
theorem wl_X6_144 : Cond.methodLink RX6 144 yX6_layMatrix ∈ ww_ws := ww_t4 104 rfl rfl
theorem wl_X6_147 : Cond.methodLink RX6 147 yX6_swapRows ∈ ww_ws := ww_t4 108 rfl rfl
theorem wl_X6_156 : Cond.methodLink RX6 156 yX6_isWord ∈ ww_ws := ww_t4 121 rfl rfl
theorem wl_X6_159 : Cond.methodLink RX6 159 yX6_isLetter ∈ ww_ws := ww_t4 133 rfl rfl
theorem wl_X6_162 : Cond.methodLink RX6 162 yX6_handWord ∈ ww_ws := ww_t4 137 rfl rfl
theorem wl_X6_165 : Cond.methodLink RX6 165 yX6_layIfFits ∈ ww_ws := ww_t4 149 rfl rfl
theorem wl_X6_168 : Cond.methodLink RX6 168 yX6_pushInverse ∈ ww_ws := ww_t4 169 rfl rfl
theorem wl_X6_173 : Cond.methodLink RX6 173 yX6_ringHand ∈ ww_ws := ww_t4 182 rfl rfl
theorem wl_X6_178 : Cond.methodLink RX6 178 yX6_no ∈ ww_ws := ww_t4 191 rfl rfl
theorem wl_X6_189 : Cond.methodLink RX6 189 yX6_saves ∈ ww_ws := ww_t4 212 rfl rfl
theorem wl_X6_198 : Cond.methodLink RX6 198 yX6_matches ∈ ww_ws := ww_t4 208 rfl rfl
theorem wl_X6_201 : Cond.methodLink RX6 201 yX6_isBetter ∈ ww_ws := ww_t4 215 rfl rfl
theorem wl_X6_205 : Cond.methodLink RX6 205 yX6_findCut ∈ ww_ws := ww_t4 204 rfl rfl
theorem wl_X6_208 : Cond.methodLink RX6 208 yX6_doCut ∈ ww_ws := ww_t4 223 rfl rfl
theorem wl_X6_212 : Cond.methodLink RX6 212 yX6_shortenHand ∈ ww_ws := ww_t4 232 rfl rfl
theorem wl_X6_215 : Cond.methodLink RX6 215 yX6_isNothing ∈ ww_ws := ww_t5 4 rfl rfl
theorem wl_X6_225 : Cond.methodLink RX6 225 yX6_layRings ∈ ww_ws := ww_t5 20 rfl rfl
theorem wl_X6_228 : Cond.methodLink RX6 228 yX6_turnsBy ∈ ww_ws := ww_t5 24 rfl rfl
theorem wl_X6_241 : Cond.methodLink RX6 241 yX6_drawn ∈ ww_ws := ww_t5 38 rfl rfl
theorem wl_X6_273 : Cond.methodLink RX6 273 yX6_letterBy ∈ ww_ws := ww_t5 73 rfl rfl
theorem wl_X6_276 : Cond.methodLink RX6 276 yX6_isBlank ∈ ww_ws := ww_t5 80 rfl rfl
theorem wl_X6_279 : Cond.methodLink RX6 279 yX6_isFigure ∈ ww_ws := ww_t5 83 rfl rfl
theorem wl_X6_285 : Cond.methodLink RX6 285 yX6_put ∈ ww_ws := ww_t5 101 rfl rfl
theorem wl_X6_291 : Cond.methodLink RX6 291 yX6_repeat ∈ ww_ws := ww_t5 97 rfl rfl
theorem wl_X6_294 : Cond.methodLink RX6 294 yX6_syntax ∈ ww_ws := ww_t5 69 rfl rfl
theorem wl_X6_297 : Cond.methodLink RX6 297 yX6_skip ∈ ww_ws := ww_t5 89 rfl rfl
theorem wl_X6_300 : Cond.methodLink RX6 300 yX6_tellWord ∈ ww_ws := ww_t5 93 rfl rfl
theorem wl_X6_305 : Cond.methodLink RX6 305 yX6_tellWords ∈ ww_ws := ww_t5 65 rfl rfl
theorem wl_X6_309 : Cond.methodLink RX6 309 yX6_listMembers ∈ ww_ws := ww_t5 106 rfl rfl
theorem wl_X6_312 : Cond.methodLink RX6 312 yX6_lettersOfAll ∈ ww_ws := ww_t5 130 rfl rfl
theorem wl_X6_315 : Cond.methodLink RX6 315 yX6_toldOf ∈ ww_ws := ww_t5 126 rfl rfl
theorem wl_X6_322 : Cond.methodLink RX6 322 yX6_sums ∈ ww_ws := ww_t5 140 rfl rfl
theorem ws_Math_min : Cond.static Lib.Math.min.name ∈ ww_ws := ww_t2 96 rfl rfl
theorem wc_Math_min : Cond.code Lib.Math.min.name Lib.Math.min.code 2 (some .int) ∈ ww_ws := ww_t2 97 rfl rfl
theorem ws_Math_max : Cond.static Lib.Math.max.name ∈ ww_ws := ww_t1 25 rfl rfl
theorem wc_Math_max : Cond.code Lib.Math.max.name Lib.Math.max.code 2 (some .int) ∈ ww_ws := ww_t1 26 rfl rfl
theorem ws_Math_abs : Cond.static Lib.Math.abs.name ∈ ww_ws := ww_t3 21 rfl rfl
theorem wc_Math_abs : Cond.code Lib.Math.abs.name Lib.Math.abs.code 1 (some .int) ∈ ww_ws := ww_t3 22 rfl rfl
theorem wk_X5_191 : Jvm.Cond.constant RX5 191 (nI 999999) ∈ ww_ws := ww_t3 138 rfl rfl
theorem wk_X5_196 : Jvm.Cond.constantLong RX5 196 (lN 65536) ∈ ww_ws := ww_t3 145 rfl rfl
theorem wk_X5_198 : Jvm.Cond.constantLong RX5 198 (lN 8) ∈ ww_ws := ww_t3 146 rfl rfl
theorem wk_X5_201 : Jvm.Cond.constantLong RX5 201 (lN 1024) ∈ ww_ws := ww_t3 151 rfl rfl
theorem wk_X5_209 : Jvm.Cond.constantLong RX5 209 (lN 1907) ∈ ww_ws := ww_t3 172 rfl rfl
theorem wk_X5_211 : Jvm.Cond.constantLong RX5 211 (lN 31) ∈ ww_ws := ww_t3 173 rfl rfl
theorem wk_X5_253 : Jvm.Cond.constantLong RX5 253 (lN 1103515245) ∈ ww_ws := ww_t3 142 rfl rfl
theorem wk_X5_255 : Jvm.Cond.constantLong RX5 255 (lN 12345) ∈ ww_ws := ww_t3 143 rfl rfl
theorem wk_X5_257 : Jvm.Cond.constantLong RX5 257 (lN 2147483648) ∈ ww_ws := ww_t3 144 rfl rfl
theorem wk_X6_64 : Jvm.Cond.constantLong RX6 64 (lN 5) ∈ ww_ws := ww_t4 124 rfl rfl
theorem wk_X6_70 : Jvm.Cond.constantLong RX6 70 (lN 7) ∈ ww_ws := ww_t4 136 rfl rfl
theorem wk_X6_131 : Jvm.Cond.constantLong RX6 131 (lN 2) ∈ ww_ws := ww_t4 51 rfl rfl
theorem wk_X6_139 : Jvm.Cond.constantLong RX6 139 (lN 9) ∈ ww_ws := ww_t4 91 rfl rfl
theorem wk_X6_151 : Jvm.Cond.constantLong RX6 151 (lN 4) ∈ ww_ws := ww_t4 116 rfl rfl
theorem wk_X6_171 : Jvm.Cond.constantLong RX6 171 ((-9 : Int64)) ∈ ww_ws := ww_t4 177 rfl rfl
theorem wk_X6_176 : Jvm.Cond.constantLong RX6 176 (lN 59) ∈ ww_ws := ww_t4 190 rfl rfl
theorem wk_X6_181 : Jvm.Cond.constantLong RX6 181 (lN 3) ∈ ww_ws := ww_t4 199 rfl rfl
theorem wk_X6_211 : Jvm.Cond.constant RX6 211 (nI 1000000) ∈ ww_ws := ww_t4 231 rfl rfl
theorem wk_X6_231 : Jvm.Cond.constantLong RX6 231 (lN 1103515245) ∈ ww_ws := ww_t5 41 rfl rfl
theorem wk_X6_233 : Jvm.Cond.constantLong RX6 233 (lN 12345) ∈ ww_ws := ww_t5 42 rfl rfl
theorem wk_X6_235 : Jvm.Cond.constantLong RX6 235 (lN 2147483648) ∈ ww_ws := ww_t5 43 rfl rfl
theorem wk_X6_237 : Jvm.Cond.constantLong RX6 237 (lN 999999) ∈ ww_ws := ww_t5 36 rfl rfl
theorem wk_X6_239 : Jvm.Cond.constantLong RX6 239 (lN 60) ∈ ww_ws := ww_t5 37 rfl rfl
theorem wk_X6_245 : Jvm.Cond.constantLong RX6 245 (lN 65536) ∈ ww_ws := ww_t5 44 rfl rfl
theorem wk_X6_247 : Jvm.Cond.constantLong RX6 247 (lN 8) ∈ ww_ws := ww_t5 45 rfl rfl
theorem wk_X6_249 : Jvm.Cond.constantLong RX6 249 (lN 6) ∈ ww_ws := ww_t5 50 rfl rfl
theorem wk_X6_251 : Jvm.Cond.constantLong RX6 251 (lN 1024) ∈ ww_ws := ww_t5 51 rfl rfl
theorem wk_X6_253 : Jvm.Cond.constantLong RX6 253 (lN 127) ∈ ww_ws := ww_t5 56 rfl rfl
theorem wk_X6_258 : Jvm.Cond.constantLong RX6 258 (lN 97) ∈ ww_ws := ww_t5 76 rfl rfl
theorem wk_X6_260 : Jvm.Cond.constantLong RX6 260 (lN 100) ∈ ww_ws := ww_t5 77 rfl rfl
theorem wk_X6_262 : Jvm.Cond.constantLong RX6 262 (lN 65) ∈ ww_ws := ww_t5 78 rfl rfl
theorem wk_X6_264 : Jvm.Cond.constantLong RX6 264 (lN 68) ∈ ww_ws := ww_t5 79 rfl rfl
theorem wk_X6_266 : Jvm.Cond.constantLong RX6 266 (lN 49) ∈ ww_ws := ww_t5 87 rfl rfl
theorem wk_X6_268 : Jvm.Cond.constantLong RX6 268 (lN 57) ∈ ww_ws := ww_t5 88 rfl rfl
theorem wk_X6_303 : Jvm.Cond.constantLong RX6 303 (lN 14) ∈ ww_ws := ww_t5 105 rfl rfl
theorem wk_X6_318 : Jvm.Cond.constantLong RX6 318 (lN 31) ∈ ww_ws := ww_t5 139 rfl rfl
theorem wk_X6_320 : Jvm.Cond.constantLong RX6 320 (lN 1907) ∈ ww_ws := ww_t5 138 rfl rfl
theorem inlX0 : ∀ w ∈ u_ws RX0 TX0 13, w ∈ ww_ws := by
  have h : ∀ k, k < 13 → u_lay RX0 TX0 k ∈ ww_ws := by
    intro k hk
    match k, hk with
    | 0, _ => exact ww_t1 132 rfl rfl
    | 1, _ => exact ww_t1 134 rfl rfl
    | 2, _ => exact ww_t1 136 rfl rfl
    | 3, _ => exact ww_t1 138 rfl rfl
    | 4, _ => exact ww_t1 140 rfl rfl
    | 5, _ => exact ww_t1 142 rfl rfl
    | 6, _ => exact ww_t1 144 rfl rfl
    | 7, _ => exact ww_t1 146 rfl rfl
    | 8, _ => exact ww_t1 148 rfl rfl
    | 9, _ => exact ww_t1 150 rfl rfl
    | 10, _ => exact ww_t1 152 rfl rfl
    | 11, _ => exact ww_t1 154 rfl rfl
    | 12, _ => exact ww_t1 156 rfl rfl
    | k + 13, h => exact absurd h (by omega)
  intro w hw
  obtain ⟨k, hk, rfl⟩ := List.mem_map.mp hw
  exact h k (List.mem_range.mp hk)
theorem inlX1 : ∀ w ∈ u_ws RX1 TX1 8, w ∈ ww_ws := by
  have h : ∀ k, k < 8 → u_lay RX1 TX1 k ∈ ww_ws := by
    intro k hk
    match k, hk with
    | 0, _ => exact ww_t1 86 rfl rfl
    | 1, _ => exact ww_t1 88 rfl rfl
    | 2, _ => exact ww_t1 90 rfl rfl
    | 3, _ => exact ww_t1 92 rfl rfl
    | 4, _ => exact ww_t1 94 rfl rfl
    | 5, _ => exact ww_t1 96 rfl rfl
    | 6, _ => exact ww_t1 98 rfl rfl
    | 7, _ => exact ww_t1 100 rfl rfl
    | k + 8, h => exact absurd h (by omega)
  intro w hw
  obtain ⟨k, hk, rfl⟩ := List.mem_map.mp hw
  exact h k (List.mem_range.mp hk)
theorem inlX2 : ∀ w ∈ u_ws RX2 TX2 2, w ∈ ww_ws := by
  have h : ∀ k, k < 2 → u_lay RX2 TX2 k ∈ ww_ws := by
    intro k hk
    match k, hk with
    | 0, _ => exact ww_t1 33 rfl rfl
    | 1, _ => exact ww_t1 35 rfl rfl
    | k + 2, h => exact absurd h (by omega)
  intro w hw
  obtain ⟨k, hk, rfl⟩ := List.mem_map.mp hw
  exact h k (List.mem_range.mp hk)
theorem inlX3 : ∀ w ∈ u_ws RX3 TX3 7, w ∈ ww_ws := by
  have h : ∀ k, k < 7 → u_lay RX3 TX3 k ∈ ww_ws := by
    intro k hk
    match k, hk with
    | 0, _ => exact ww_t1 178 rfl rfl
    | 1, _ => exact ww_t1 180 rfl rfl
    | 2, _ => exact ww_t1 182 rfl rfl
    | 3, _ => exact ww_t1 184 rfl rfl
    | 4, _ => exact ww_t1 186 rfl rfl
    | 5, _ => exact ww_t1 188 rfl rfl
    | 6, _ => exact ww_t1 190 rfl rfl
    | k + 7, h => exact absurd h (by omega)
  intro w hw
  obtain ⟨k, hk, rfl⟩ := List.mem_map.mp hw
  exact h k (List.mem_range.mp hk)
theorem inlX4 : ∀ w ∈ u_ws RX4 TX4 6, w ∈ ww_ws := by
  have h : ∀ k, k < 6 → u_lay RX4 TX4 k ∈ ww_ws := by
    intro k hk
    match k, hk with
    | 0, _ => exact ww_t1 53 rfl rfl
    | 1, _ => exact ww_t1 55 rfl rfl
    | 2, _ => exact ww_t1 57 rfl rfl
    | 3, _ => exact ww_t1 59 rfl rfl
    | 4, _ => exact ww_t1 61 rfl rfl
    | 5, _ => exact ww_t1 63 rfl rfl
    | k + 6, h => exact absurd h (by omega)
  intro w hw
  obtain ⟨k, hk, rfl⟩ := List.mem_map.mp hw
  exact h k (List.mem_range.mp hk)
theorem inlX5 : ∀ w ∈ u_ws RX5 TX5 11, w ∈ ww_ws := by
  have h : ∀ k, k < 11 → u_lay RX5 TX5 k ∈ ww_ws := by
    intro k hk
    match k, hk with
    | 0, _ => exact ww_t1 204 rfl rfl
    | 1, _ => exact ww_t1 206 rfl rfl
    | 2, _ => exact ww_t1 208 rfl rfl
    | 3, _ => exact ww_t1 210 rfl rfl
    | 4, _ => exact ww_t1 212 rfl rfl
    | 5, _ => exact ww_t1 214 rfl rfl
    | 6, _ => exact ww_t1 216 rfl rfl
    | 7, _ => exact ww_t1 218 rfl rfl
    | 8, _ => exact ww_t1 220 rfl rfl
    | 9, _ => exact ww_t1 222 rfl rfl
    | 10, _ => exact ww_t1 224 rfl rfl
    | k + 11, h => exact absurd h (by omega)
  intro w hw
  obtain ⟨k, hk, rfl⟩ := List.mem_map.mp hw
  exact h k (List.mem_range.mp hk)
theorem inlX6 : ∀ w ∈ u_ws RX6 TX6 32, w ∈ ww_ws := by
  have h : ∀ k, k < 32 → u_lay RX6 TX6 k ∈ ww_ws := by
    intro k hk
    match k, hk with
    | 0, _ => exact ww_t3 215 rfl rfl
    | 1, _ => exact ww_t3 217 rfl rfl
    | 2, _ => exact ww_t3 219 rfl rfl
    | 3, _ => exact ww_t3 221 rfl rfl
    | 4, _ => exact ww_t3 223 rfl rfl
    | 5, _ => exact ww_t3 225 rfl rfl
    | 6, _ => exact ww_t3 227 rfl rfl
    | 7, _ => exact ww_t3 229 rfl rfl
    | 8, _ => exact ww_t3 231 rfl rfl
    | 9, _ => exact ww_t3 233 rfl rfl
    | 10, _ => exact ww_t3 235 rfl rfl
    | 11, _ => exact ww_t3 237 rfl rfl
    | 12, _ => exact ww_t3 239 rfl rfl
    | 13, _ => exact ww_t4 1 rfl rfl
    | 14, _ => exact ww_t4 3 rfl rfl
    | 15, _ => exact ww_t4 5 rfl rfl
    | 16, _ => exact ww_t4 7 rfl rfl
    | 17, _ => exact ww_t4 9 rfl rfl
    | 18, _ => exact ww_t4 11 rfl rfl
    | 19, _ => exact ww_t4 13 rfl rfl
    | 20, _ => exact ww_t4 15 rfl rfl
    | 21, _ => exact ww_t4 17 rfl rfl
    | 22, _ => exact ww_t4 19 rfl rfl
    | 23, _ => exact ww_t4 21 rfl rfl
    | 24, _ => exact ww_t4 23 rfl rfl
    | 25, _ => exact ww_t4 25 rfl rfl
    | 26, _ => exact ww_t4 27 rfl rfl
    | 27, _ => exact ww_t4 29 rfl rfl
    | 28, _ => exact ww_t4 31 rfl rfl
    | 29, _ => exact ww_t4 33 rfl rfl
    | 30, _ => exact ww_t4 35 rfl rfl
    | 31, _ => exact ww_t4 37 rfl rfl
    | k + 32, h => exact absurd h (by omega)
  intro w hw
  obtain ⟨k, hk, rfl⟩ := List.mem_map.mp hw
  exact h k (List.mem_range.mp hk)
