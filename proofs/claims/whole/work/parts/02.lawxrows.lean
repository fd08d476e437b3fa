set_option maxRecDepth 20000 in
theorem wsL_law_in : ∀ w ∈ wsL_law, w ∈ lw_tbl := (List.forall_mem_append.mpr ⟨(List.forall_mem_append.mpr ⟨(List.forall_mem_append.mpr ⟨(List.forall_mem_append.mpr ⟨(List.forall_mem_append.mpr ⟨(List.forall_mem_append.mpr ⟨(List.forall_mem_append.mpr ⟨(List.forall_mem_append.mpr ⟨(List.forall_mem_append.mpr ⟨(List.forall_mem_append.mpr ⟨(List.forall_mem_append.mpr ⟨(List.forall_mem_append.mpr ⟨(List.forall_mem_append.mpr ⟨(List.forall_mem_append.mpr ⟨wsL_law_r1_in, (List.forall_mem_append.mpr ⟨wsL_law_r2_in, (List.forall_mem_append.mpr ⟨wsL_law_r3_in, (List.forall_mem_append.mpr ⟨wsL_law_r4_in, (List.forall_mem_append.mpr ⟨wsL_law_r5_in, (List.forall_mem_append.mpr ⟨wsL_law_r6_in, (List.forall_mem_append.mpr ⟨wsL_law_r7_in, (List.forall_mem_append.mpr ⟨wsL_law_r8_in, (List.forall_mem_append.mpr ⟨wsL_law_r9_in, (List.forall_mem_append.mpr ⟨wsL_law_r10_in, (List.forall_mem_append.mpr ⟨wsL_law_r11_in, (List.forall_mem_append.mpr ⟨wsL_law_r12_in, (List.forall_mem_append.mpr ⟨wsL_law_r13_in, (List.forall_mem_append.mpr ⟨wsL_law_r14_in, (List.forall_mem_append.mpr ⟨wsL_law_r15_in, (List.forall_mem_append.mpr ⟨wsL_law_r16_in, (List.forall_mem_append.mpr ⟨wsL_law_r17_in, (List.forall_mem_append.mpr ⟨wsL_law_r18_in, (List.forall_mem_append.mpr ⟨wsL_law_r19_in, (List.forall_mem_append.mpr ⟨wsL_law_r20_in, (List.forall_mem_append.mpr ⟨wsL_law_r21_in, (List.forall_mem_append.mpr ⟨wsL_law_r22_in, (List.forall_mem_append.mpr ⟨wsL_law_r23_in, (List.forall_mem_append.mpr ⟨wsL_law_r24_in, (List.forall_mem_append.mpr ⟨wsL_law_r25_in, (List.forall_mem_append.mpr ⟨wsL_law_r26_in, (List.forall_mem_append.mpr ⟨wsL_law_r27_in, (List.forall_mem_append.mpr ⟨wsL_law_r28_in, (List.forall_mem_append.mpr ⟨wsL_law_r29_in, (List.forall_mem_append.mpr ⟨wsL_law_r30_in, (List.forall_mem_append.mpr ⟨wsL_law_r31_in, (List.forall_mem_append.mpr ⟨wsL_law_r32_in, (List.forall_mem_append.mpr ⟨wsL_law_r33_in, (List.forall_mem_append.mpr ⟨wsL_law_r34_in, (List.forall_mem_append.mpr ⟨wsL_law_r35_in, (List.forall_mem_append.mpr ⟨wsL_law_r36_in, (List.forall_mem_append.mpr ⟨wsL_law_r37_in, (List.forall_mem_append.mpr ⟨wsL_law_r38_in, (List.forall_mem_append.mpr ⟨wsL_law_r39_in, (List.forall_mem_append.mpr ⟨wsL_law_r40_in, (List.forall_mem_append.mpr ⟨wsL_law_r41_in, (List.forall_mem_append.mpr ⟨wsL_law_r42_in, (List.forall_mem_append.mpr ⟨wsL_law_r43_in, (List.forall_mem_append.mpr ⟨wsL_law_r44_in, (List.forall_mem_append.mpr ⟨wsL_law_r45_in, (List.forall_mem_append.mpr ⟨wsL_law_r46_in, (List.forall_mem_append.mpr ⟨wsL_law_r47_in, (List.forall_mem_append.mpr ⟨wsL_law_r48_in, wsL_law_r49_in⟩)⟩)⟩)⟩)⟩)⟩)⟩)⟩)⟩)⟩)⟩)⟩)⟩)⟩)⟩)⟩)⟩)⟩)⟩)⟩)⟩)⟩)⟩)⟩)⟩)⟩)⟩)⟩)⟩)⟩)⟩)⟩)⟩)⟩)⟩)⟩)⟩)⟩)⟩)⟩)⟩)⟩)⟩)⟩)⟩)⟩)⟩)⟩), inX_X11⟩), inX_X12⟩), inX_X5⟩), inX_X9⟩), inX_X10⟩), inX_X0⟩), inX_X4⟩), inX_X6⟩), inX_X1⟩), inX_X8⟩), inX_X3⟩), inX_X2⟩), (fun _ h => absurd h List.not_mem_nil)⟩)
set_option maxRecDepth 20000 in
theorem mem_at0 {α : Type} {l : List α} {x : α} (i : Nat) (h : l[i]? = some x) : x ∈ l := List.mem_of_getElem? h
set_option maxRecDepth 20000 in
theorem fmN {α : Type} {p : α → Prop} : ∀ q ∈ ([] : List α), p q := fun _ h => absurd h List.not_mem_nil
theorem fmC {α : Type} {p : α → Prop} {a : α} {l : List α} (h : p a) (t : ∀ q ∈ l, p q) : ∀ q ∈ a :: l, p q := fun q hq => (List.mem_cons.mp hq).elim (fun e => e ▸ h) (t q)
theorem fmA {α : Type} {p : α → Prop} {l1 l2 : List α} (h : ∀ q ∈ l1, p q) (t : ∀ q ∈ l2, p q) : ∀ q ∈ l1 ++ l2, p q := fun q hq => (List.mem_append.mp hq).elim (h q) (t q)
set_option maxRecDepth 20000 in
theorem sub_wsL_law_r1 : ∀ w ∈ wsL_law_r1, w ∈ wsL_law := fun w h => (List.mem_append_left _ (List.mem_append_left _ (List.mem_append_left _ (List.mem_append_left _ (List.mem_append_left _ (List.mem_append_left _ (List.mem_append_left _ (List.mem_append_left _ (List.mem_append_left _ (List.mem_append_left _ (List.mem_append_left _ (List.mem_append_left _ (List.mem_append_left _ (List.mem_append_left _ h))))))))))))))
set_option maxRecDepth 20000 in
theorem wm_1_0 : Cond.classLink RL 7 RX11 ∈ wsL_law := sub_wsL_law_r1 _ (mem_at0 0 rfl)
set_option maxRecDepth 20000 in
theorem wm_1_1 : Cond.instantiable RX11 12 ∈ wsL_law := sub_wsL_law_r1 _ (mem_at0 1 rfl)
set_option maxRecDepth 20000 in
theorem wm_1_2 : Cond.initialized RX11 ∈ wsL_law := sub_wsL_law_r1 _ (mem_at0 2 rfl)
set_option maxRecDepth 20000 in
theorem wm_1_3 : Cond.classLink RL 10 RX12 ∈ wsL_law := sub_wsL_law_r1 _ (mem_at0 3 rfl)
set_option maxRecDepth 20000 in
theorem wm_1_4 : Cond.instantiable RX12 68 ∈ wsL_law := sub_wsL_law_r1 _ (mem_at0 4 rfl)
set_option maxRecDepth 20000 in
theorem wm_1_5 : Cond.initialized RX12 ∈ wsL_law := sub_wsL_law_r1 _ (mem_at0 5 rfl)
set_option maxRecDepth 20000 in
theorem wm_1_6 : Cond.methodLink RL 9 yX11_init ∈ wsL_law := sub_wsL_law_r1 _ (mem_at0 6 rfl)
set_option maxRecDepth 20000 in
theorem wm_1_7 : Cond.instanceMethod yX11_init ∈ wsL_law := sub_wsL_law_r1 _ (mem_at0 7 rfl)
set_option maxRecDepth 20000 in
theorem wm_1_8 : Cond.code yX11_init cX11_init 2 none ∈ wsL_law := sub_wsL_law_r1 _ (mem_at0 8 rfl)
set_option maxRecDepth 20000 in
theorem wm_1_9 : Cond.methodLink RX11 1 objectInit ∈ wsL_law := sub_wsL_law_r1 _ (mem_at0 9 rfl)
set_option maxRecDepth 20000 in
theorem wm_1_10 : Cond.instanceMethod objectInit ∈ wsL_law := sub_wsL_law_r1 _ (mem_at0 10 rfl)
set_option maxRecDepth 20000 in
theorem wm_1_11 : Cond.code objectInit ⟨#[0xb1]⟩ 1 none ∈ wsL_law := sub_wsL_law_r1 _ (mem_at0 11 rfl)
set_option maxRecDepth 20000 in
theorem wm_1_12 : Cond.classLink RX11 7 RX5 ∈ wsL_law := sub_wsL_law_r1 _ (mem_at0 12 rfl)
set_option maxRecDepth 20000 in
theorem wm_1_13 : Cond.instantiable RX5 4 ∈ wsL_law := sub_wsL_law_r1 _ (mem_at0 13 rfl)
set_option maxRecDepth 20000 in
theorem wm_1_14 : Cond.initialized RX5 ∈ wsL_law := sub_wsL_law_r1 _ (mem_at0 14 rfl)
set_option maxRecDepth 20000 in
theorem wm_1_15 : Cond.fieldLink RX11 10 "SubwordCounter" "now" "LSubwordCounter$Registers;" ∈ wsL_law := sub_wsL_law_r1 _ (mem_at0 15 rfl)
set_option maxRecDepth 20000 in
theorem wm_1_16 : Cond.fieldLink RX11 16 "SubwordCounter" "saved" "LSubwordCounter$Registers;" ∈ wsL_law := sub_wsL_law_r1 _ (mem_at0 16 rfl)
set_option maxRecDepth 20000 in
theorem wm_1_17 : Cond.fieldLink RX11 19 "SubwordCounter" "snapshotTaken" "Z" ∈ wsL_law := sub_wsL_law_r1 _ (mem_at0 17 rfl)
set_option maxRecDepth 20000 in
theorem wm_1_18 : Cond.arrayClass .int ∈ wsL_law := sub_wsL_law_r1 _ (mem_at0 18 rfl)
set_option maxRecDepth 20000 in
theorem wm_1_19 : Cond.fieldLink RX11 23 "SubwordCounter" "input" "[I" ∈ wsL_law := sub_wsL_law_r1 _ (mem_at0 19 rfl)
set_option maxRecDepth 20000 in
theorem wm_1_20 : Cond.fieldLink RX11 27 "SubwordCounter" "inputLength" "I" ∈ wsL_law := sub_wsL_law_r1 _ (mem_at0 20 rfl)
set_option maxRecDepth 20000 in
theorem wm_1_21 : Cond.classLink RX11 31 RX6 ∈ wsL_law := sub_wsL_law_r1 _ (mem_at0 21 rfl)
set_option maxRecDepth 20000 in
theorem wm_1_22 : Cond.fieldLink RX11 33 "SubwordCounter" "rows" "[LSubwordCounter$Row;" ∈ wsL_law := sub_wsL_law_r1 _ (mem_at0 22 rfl)
set_option maxRecDepth 20000 in
theorem wm_1_23 : Cond.classLink RX11 37 RX9 ∈ wsL_law := sub_wsL_law_r1 _ (mem_at0 23 rfl)
set_option maxRecDepth 20000 in
theorem sub_wsL_law_r2 : ∀ w ∈ wsL_law_r2, w ∈ wsL_law := fun w h => (List.mem_append_left _ (List.mem_append_left _ (List.mem_append_left _ (List.mem_append_left _ (List.mem_append_left _ (List.mem_append_left _ (List.mem_append_left _ (List.mem_append_left _ (List.mem_append_left _ (List.mem_append_left _ (List.mem_append_left _ (List.mem_append_left _ (List.mem_append_left _ (List.mem_append_right _ (List.mem_append_left _ h)))))))))))))))
set_option maxRecDepth 20000 in
theorem wm_2_0 : Cond.instantiable RX9 3 ∈ wsL_law := sub_wsL_law_r2 _ (mem_at0 0 rfl)
set_option maxRecDepth 20000 in
theorem wm_2_1 : Cond.initialized RX9 ∈ wsL_law := sub_wsL_law_r2 _ (mem_at0 1 rfl)
set_option maxRecDepth 20000 in
theorem wm_2_2 : Cond.fieldLink RX11 40 "SubwordCounter" "candidate" "LSubwordCounter$Word;" ∈ wsL_law := sub_wsL_law_r2 _ (mem_at0 2 rfl)
set_option maxRecDepth 20000 in
theorem wm_2_3 : Cond.classLink RX11 44 RX10 ∈ wsL_law := sub_wsL_law_r2 _ (mem_at0 3 rfl)
set_option maxRecDepth 20000 in
theorem wm_2_4 : Cond.instantiable RX10 7 ∈ wsL_law := sub_wsL_law_r2 _ (mem_at0 4 rfl)
set_option maxRecDepth 20000 in
theorem wm_2_5 : Cond.initialized RX10 ∈ wsL_law := sub_wsL_law_r2 _ (mem_at0 5 rfl)
set_option maxRecDepth 20000 in
theorem wm_2_6 : Cond.fieldLink RX11 47 "SubwordCounter" "listing" "LSubwordCounter$WordList;" ∈ wsL_law := sub_wsL_law_r2 _ (mem_at0 6 rfl)
set_option maxRecDepth 20000 in
theorem wm_2_7 : Cond.classLink RX11 51 RX0 ∈ wsL_law := sub_wsL_law_r2 _ (mem_at0 7 rfl)
set_option maxRecDepth 20000 in
theorem wm_2_8 : Cond.instantiable RX0 13 ∈ wsL_law := sub_wsL_law_r2 _ (mem_at0 8 rfl)
set_option maxRecDepth 20000 in
theorem wm_2_9 : Cond.initialized RX0 ∈ wsL_law := sub_wsL_law_r2 _ (mem_at0 9 rfl)
set_option maxRecDepth 20000 in
theorem wm_2_10 : Cond.fieldLink RX11 54 "SubwordCounter" "automaton" "LSubwordCounter$Automaton;" ∈ wsL_law := sub_wsL_law_r2 _ (mem_at0 10 rfl)
set_option maxRecDepth 20000 in
theorem wm_2_11 : Cond.classLink RX11 58 RX4 ∈ wsL_law := sub_wsL_law_r2 _ (mem_at0 11 rfl)
set_option maxRecDepth 20000 in
theorem wm_2_12 : Cond.instantiable RX4 13 ∈ wsL_law := sub_wsL_law_r2 _ (mem_at0 12 rfl)
set_option maxRecDepth 20000 in
theorem wm_2_13 : Cond.initialized RX4 ∈ wsL_law := sub_wsL_law_r2 _ (mem_at0 13 rfl)
set_option maxRecDepth 20000 in
theorem wm_2_14 : Cond.fieldLink RX11 61 "SubwordCounter" "partition" "LSubwordCounter$Partition;" ∈ wsL_law := sub_wsL_law_r2 _ (mem_at0 14 rfl)
set_option maxRecDepth 20000 in
theorem wm_2_15 : Cond.fieldLink RX11 65 "SubwordCounter" "monoid" "LSubwordCounter$Monoid;" ∈ wsL_law := sub_wsL_law_r2 _ (mem_at0 15 rfl)
set_option maxRecDepth 20000 in
theorem wm_2_16 : Cond.arrayClass .long ∈ wsL_law := sub_wsL_law_r2 _ (mem_at0 16 rfl)
set_option maxRecDepth 20000 in
theorem wm_2_17 : Cond.fieldLink RX11 69 "SubwordCounter" "lengthCounts" "[J" ∈ wsL_law := sub_wsL_law_r2 _ (mem_at0 17 rfl)
set_option maxRecDepth 20000 in
theorem wm_2_18 : Cond.instantiable RX6 3 ∈ wsL_law := sub_wsL_law_r2 _ (mem_at0 18 rfl)
set_option maxRecDepth 20000 in
theorem wm_2_19 : Cond.initialized RX6 ∈ wsL_law := sub_wsL_law_r2 _ (mem_at0 19 rfl)
set_option maxRecDepth 20000 in
theorem wm_2_20 : Cond.methodLink RX11 9 yX5_init ∈ wsL_law := sub_wsL_law_r2 _ (mem_at0 20 rfl)
set_option maxRecDepth 20000 in
theorem wm_2_21 : Cond.instanceMethod yX5_init ∈ wsL_law := sub_wsL_law_r2 _ (mem_at0 21 rfl)
set_option maxRecDepth 20000 in
theorem wm_2_22 : Cond.code yX5_init cX5_init 2 none ∈ wsL_law := sub_wsL_law_r2 _ (mem_at0 22 rfl)
set_option maxRecDepth 20000 in
theorem wm_2_23 : Cond.methodLink RX5 3 objectInit ∈ wsL_law := sub_wsL_law_r2 _ (mem_at0 23 rfl)
set_option maxRecDepth 20000 in
theorem sub_wsL_law_r3 : ∀ w ∈ wsL_law_r3, w ∈ wsL_law := fun w h => (List.mem_append_left _ (List.mem_append_left _ (List.mem_append_left _ (List.mem_append_left _ (List.mem_append_left _ (List.mem_append_left _ (List.mem_append_left _ (List.mem_append_left _ (List.mem_append_left _ (List.mem_append_left _ (List.mem_append_left _ (List.mem_append_left _ (List.mem_append_left _ (List.mem_append_right _ (List.mem_append_right _ (List.mem_append_left _ h))))))))))))))))
set_option maxRecDepth 20000 in
theorem wm_3_0 : Cond.fieldLink RX5 9 "SubwordCounter$Registers" "letters" "I" ∈ wsL_law := sub_wsL_law_r3 _ (mem_at0 0 rfl)
set_option maxRecDepth 20000 in
theorem wm_3_1 : Cond.classLink RX5 15 RX9 ∈ wsL_law := sub_wsL_law_r3 _ (mem_at0 1 rfl)
set_option maxRecDepth 20000 in
theorem wm_3_2 : Cond.fieldLink RX5 17 "SubwordCounter$Registers" "words" "[LSubwordCounter$Word;" ∈ wsL_law := sub_wsL_law_r3 _ (mem_at0 2 rfl)
set_option maxRecDepth 20000 in
theorem wm_3_3 : Cond.classLink RX5 21 RX1 ∈ wsL_law := sub_wsL_law_r3 _ (mem_at0 3 rfl)
set_option maxRecDepth 20000 in
theorem wm_3_4 : Cond.instantiable RX1 2 ∈ wsL_law := sub_wsL_law_r3 _ (mem_at0 4 rfl)
set_option maxRecDepth 20000 in
theorem wm_3_5 : Cond.initialized RX1 ∈ wsL_law := sub_wsL_law_r3 _ (mem_at0 5 rfl)
set_option maxRecDepth 20000 in
theorem wm_3_6 : Cond.fieldLink RX5 24 "SubwordCounter$Registers" "tests" "LSubwordCounter$Bundle;" ∈ wsL_law := sub_wsL_law_r3 _ (mem_at0 6 rfl)
set_option maxRecDepth 20000 in
theorem wm_3_7 : Cond.classLink RX5 28 RX2 ∈ wsL_law := sub_wsL_law_r3 _ (mem_at0 7 rfl)
set_option maxRecDepth 20000 in
theorem wm_3_8 : Cond.fieldLink RX5 30 "SubwordCounter$Registers" "languages" "[LSubwordCounter$Language;" ∈ wsL_law := sub_wsL_law_r3 _ (mem_at0 8 rfl)
set_option maxRecDepth 20000 in
theorem wm_3_9 : Cond.instanceMethod yX1_init ∈ wsL_law := sub_wsL_law_r3 _ (mem_at0 9 rfl)
set_option maxRecDepth 20000 in
theorem wm_3_10 : Cond.code yX1_init cX1_init 1 none ∈ wsL_law := sub_wsL_law_r3 _ (mem_at0 10 rfl)
set_option maxRecDepth 20000 in
theorem wm_3_11 : Cond.methodLink RX1 3 objectInit ∈ wsL_law := sub_wsL_law_r3 _ (mem_at0 11 rfl)
set_option maxRecDepth 20000 in
theorem wm_3_12 : Cond.classLink RX1 11 RX8 ∈ wsL_law := sub_wsL_law_r3 _ (mem_at0 12 rfl)
set_option maxRecDepth 20000 in
theorem wm_3_13 : Cond.fieldLink RX1 13 "SubwordCounter$Bundle" "members" "[LSubwordCounter$Test;" ∈ wsL_law := sub_wsL_law_r3 _ (mem_at0 13 rfl)
set_option maxRecDepth 20000 in
theorem wm_3_14 : Cond.fieldLink RX1 17 "SubwordCounter$Bundle" "count" "I" ∈ wsL_law := sub_wsL_law_r3 _ (mem_at0 14 rfl)
set_option maxRecDepth 20000 in
theorem wm_3_15 : Cond.instanceMethod yX9_init ∈ wsL_law := sub_wsL_law_r3 _ (mem_at0 15 rfl)
set_option maxRecDepth 20000 in
theorem wm_3_16 : Cond.code yX9_init cX9_init 1 none ∈ wsL_law := sub_wsL_law_r3 _ (mem_at0 16 rfl)
set_option maxRecDepth 20000 in
theorem wm_3_17 : Cond.methodLink RX9 3 objectInit ∈ wsL_law := sub_wsL_law_r3 _ (mem_at0 17 rfl)
set_option maxRecDepth 20000 in
theorem wm_3_18 : Cond.fieldLink RX9 9 "SubwordCounter$Word" "letters" "[I" ∈ wsL_law := sub_wsL_law_r3 _ (mem_at0 18 rfl)
set_option maxRecDepth 20000 in
theorem wm_3_19 : Cond.fieldLink RX9 15 "SubwordCounter$Word" "size" "I" ∈ wsL_law := sub_wsL_law_r3 _ (mem_at0 19 rfl)
set_option maxRecDepth 20000 in
theorem wm_3_20 : Cond.fieldLink RX9 19 "SubwordCounter$Word" "ways" "[I" ∈ wsL_law := sub_wsL_law_r3 _ (mem_at0 20 rfl)
set_option maxRecDepth 20000 in
theorem wm_3_21 : Cond.instanceMethod yX10_init ∈ wsL_law := sub_wsL_law_r3 _ (mem_at0 21 rfl)
set_option maxRecDepth 20000 in
theorem wm_3_22 : Cond.code yX10_init cX10_init 1 none ∈ wsL_law := sub_wsL_law_r3 _ (mem_at0 22 rfl)
set_option maxRecDepth 20000 in
theorem wm_3_23 : Cond.methodLink RX10 1 objectInit ∈ wsL_law := sub_wsL_law_r3 _ (mem_at0 23 rfl)
set_option maxRecDepth 20000 in
theorem sub_wsL_law_r4 : ∀ w ∈ wsL_law_r4, w ∈ wsL_law := fun w h => (List.mem_append_left _ (List.mem_append_left _ (List.mem_append_left _ (List.mem_append_left _ (List.mem_append_left _ (List.mem_append_left _ (List.mem_append_left _ (List.mem_append_left _ (List.mem_append_left _ (List.mem_append_left _ (List.mem_append_left _ (List.mem_append_left _ (List.mem_append_left _ (List.mem_append_right _ (List.mem_append_right _ (List.mem_append_right _ (List.mem_append_left _ h)))))))))))))))))
set_option maxRecDepth 20000 in
theorem wm_4_0 : Cond.fieldLink RX10 9 "SubwordCounter$WordList" "low" "[J" ∈ wsL_law := sub_wsL_law_r4 _ (mem_at0 0 rfl)
set_option maxRecDepth 20000 in
theorem wm_4_1 : Cond.fieldLink RX10 13 "SubwordCounter$WordList" "high" "[J" ∈ wsL_law := sub_wsL_law_r4 _ (mem_at0 1 rfl)
set_option maxRecDepth 20000 in
theorem wm_4_2 : Cond.fieldLink RX10 16 "SubwordCounter$WordList" "signatures" "[I" ∈ wsL_law := sub_wsL_law_r4 _ (mem_at0 2 rfl)
set_option maxRecDepth 20000 in
theorem wm_4_3 : Cond.fieldLink RX10 20 "SubwordCounter$WordList" "slots" "[I" ∈ wsL_law := sub_wsL_law_r4 _ (mem_at0 3 rfl)
set_option maxRecDepth 20000 in
theorem wm_4_4 : Cond.fieldLink RX10 23 "SubwordCounter$WordList" "count" "I" ∈ wsL_law := sub_wsL_law_r4 _ (mem_at0 4 rfl)
set_option maxRecDepth 20000 in
theorem wm_4_5 : Cond.fieldLink RX10 27 "SubwordCounter$WordList" "pairFirst" "I" ∈ wsL_law := sub_wsL_law_r4 _ (mem_at0 5 rfl)
set_option maxRecDepth 20000 in
theorem wm_4_6 : Cond.fieldLink RX10 30 "SubwordCounter$WordList" "pairSecond" "I" ∈ wsL_law := sub_wsL_law_r4 _ (mem_at0 6 rfl)
set_option maxRecDepth 20000 in
theorem wm_4_7 : Cond.instanceMethod yX0_init ∈ wsL_law := sub_wsL_law_r4 _ (mem_at0 7 rfl)
set_option maxRecDepth 20000 in
theorem wm_4_8 : Cond.code yX0_init cX0_init 1 none ∈ wsL_law := sub_wsL_law_r4 _ (mem_at0 8 rfl)
set_option maxRecDepth 20000 in
theorem wm_4_9 : Cond.methodLink RX0 3 objectInit ∈ wsL_law := sub_wsL_law_r4 _ (mem_at0 9 rfl)
set_option maxRecDepth 20000 in
theorem wm_4_10 : Cond.classLink RX0 9 RX1 ∈ wsL_law := sub_wsL_law_r4 _ (mem_at0 10 rfl)
set_option maxRecDepth 20000 in
theorem wm_4_11 : Cond.fieldLink RX0 12 "SubwordCounter$Automaton" "tests" "LSubwordCounter$Bundle;" ∈ wsL_law := sub_wsL_law_r4 _ (mem_at0 11 rfl)
set_option maxRecDepth 20000 in
theorem wm_4_12 : Cond.fieldLink RX0 18 "SubwordCounter$Automaton" "letters" "I" ∈ wsL_law := sub_wsL_law_r4 _ (mem_at0 12 rfl)
set_option maxRecDepth 20000 in
theorem wm_4_13 : Cond.fieldLink RX0 22 "SubwordCounter$Automaton" "states" "I" ∈ wsL_law := sub_wsL_law_r4 _ (mem_at0 13 rfl)
set_option maxRecDepth 20000 in
theorem wm_4_14 : Cond.fieldLink RX0 25 "SubwordCounter$Automaton" "next" "[I" ∈ wsL_law := sub_wsL_law_r4 _ (mem_at0 14 rfl)
set_option maxRecDepth 20000 in
theorem wm_4_15 : Cond.fieldLink RX0 29 "SubwordCounter$Automaton" "marks" "[I" ∈ wsL_law := sub_wsL_law_r4 _ (mem_at0 15 rfl)
set_option maxRecDepth 20000 in
theorem wm_4_16 : Cond.fieldLink RX0 32 "SubwordCounter$Automaton" "depth" "[I" ∈ wsL_law := sub_wsL_law_r4 _ (mem_at0 16 rfl)
set_option maxRecDepth 20000 in
theorem wm_4_17 : Cond.fieldLink RX0 35 "SubwordCounter$Automaton" "low" "[J" ∈ wsL_law := sub_wsL_law_r4 _ (mem_at0 17 rfl)
set_option maxRecDepth 20000 in
theorem wm_4_18 : Cond.fieldLink RX0 39 "SubwordCounter$Automaton" "high" "[J" ∈ wsL_law := sub_wsL_law_r4 _ (mem_at0 18 rfl)
set_option maxRecDepth 20000 in
theorem wm_4_19 : Cond.fieldLink RX0 42 "SubwordCounter$Automaton" "parent" "[I" ∈ wsL_law := sub_wsL_law_r4 _ (mem_at0 19 rfl)
set_option maxRecDepth 20000 in
theorem wm_4_20 : Cond.fieldLink RX0 45 "SubwordCounter$Automaton" "lastLetter" "[I" ∈ wsL_law := sub_wsL_law_r4 _ (mem_at0 20 rfl)
set_option maxRecDepth 20000 in
theorem wm_4_21 : Cond.fieldLink RX0 48 "SubwordCounter$Automaton" "slots" "[I" ∈ wsL_law := sub_wsL_law_r4 _ (mem_at0 21 rfl)
set_option maxRecDepth 20000 in
theorem wm_4_22 : Cond.fieldLink RX0 51 "SubwordCounter$Automaton" "paths" "[J" ∈ wsL_law := sub_wsL_law_r4 _ (mem_at0 22 rfl)
set_option maxRecDepth 20000 in
theorem wm_4_23 : Cond.fieldLink RX0 54 "SubwordCounter$Automaton" "longerPaths" "[J" ∈ wsL_law := sub_wsL_law_r4 _ (mem_at0 23 rfl)
set_option maxRecDepth 20000 in
theorem sub_wsL_law_r5 : ∀ w ∈ wsL_law_r5, w ∈ wsL_law := fun w h => (List.mem_append_left _ (List.mem_append_left _ (List.mem_append_left _ (List.mem_append_left _ (List.mem_append_left _ (List.mem_append_left _ (List.mem_append_left _ (List.mem_append_left _ (List.mem_append_left _ (List.mem_append_left _ (List.mem_append_left _ (List.mem_append_left _ (List.mem_append_left _ (List.mem_append_right _ (List.mem_append_right _ (List.mem_append_right _ (List.mem_append_right _ (List.mem_append_left _ h))))))))))))))))))
set_option maxRecDepth 20000 in
theorem wm_5_0 : Cond.instanceMethod yX4_init ∈ wsL_law := sub_wsL_law_r5 _ (mem_at0 0 rfl)
set_option maxRecDepth 20000 in
theorem wm_5_1 : Cond.code yX4_init cX4_init 1 none ∈ wsL_law := sub_wsL_law_r5 _ (mem_at0 1 rfl)
set_option maxRecDepth 20000 in
theorem wm_5_2 : Cond.methodLink RX4 3 objectInit ∈ wsL_law := sub_wsL_law_r5 _ (mem_at0 2 rfl)
set_option maxRecDepth 20000 in
theorem wm_5_3 : Cond.fieldLink RX4 9 "SubwordCounter$Partition" "blocks" "I" ∈ wsL_law := sub_wsL_law_r5 _ (mem_at0 3 rfl)
set_option maxRecDepth 20000 in
theorem wm_5_4 : Cond.fieldLink RX4 17 "SubwordCounter$Partition" "members" "[I" ∈ wsL_law := sub_wsL_law_r5 _ (mem_at0 4 rfl)
set_option maxRecDepth 20000 in
theorem wm_5_5 : Cond.fieldLink RX4 21 "SubwordCounter$Partition" "place" "[I" ∈ wsL_law := sub_wsL_law_r5 _ (mem_at0 5 rfl)
set_option maxRecDepth 20000 in
theorem wm_5_6 : Cond.fieldLink RX4 24 "SubwordCounter$Partition" "blockOf" "[I" ∈ wsL_law := sub_wsL_law_r5 _ (mem_at0 6 rfl)
set_option maxRecDepth 20000 in
theorem wm_5_7 : Cond.fieldLink RX4 27 "SubwordCounter$Partition" "first" "[I" ∈ wsL_law := sub_wsL_law_r5 _ (mem_at0 7 rfl)
set_option maxRecDepth 20000 in
theorem wm_5_8 : Cond.fieldLink RX4 30 "SubwordCounter$Partition" "size" "[I" ∈ wsL_law := sub_wsL_law_r5 _ (mem_at0 8 rfl)
set_option maxRecDepth 20000 in
theorem wm_5_9 : Cond.fieldLink RX4 33 "SubwordCounter$Partition" "marked" "[I" ∈ wsL_law := sub_wsL_law_r5 _ (mem_at0 9 rfl)
set_option maxRecDepth 20000 in
theorem wm_5_10 : Cond.fieldLink RX4 36 "SubwordCounter$Partition" "touched" "[I" ∈ wsL_law := sub_wsL_law_r5 _ (mem_at0 10 rfl)
set_option maxRecDepth 20000 in
theorem wm_5_11 : Cond.fieldLink RX4 39 "SubwordCounter$Partition" "touchedCount" "I" ∈ wsL_law := sub_wsL_law_r5 _ (mem_at0 11 rfl)
set_option maxRecDepth 20000 in
theorem wm_5_12 : Cond.fieldLink RX4 42 "SubwordCounter$Partition" "splitter" "[I" ∈ wsL_law := sub_wsL_law_r5 _ (mem_at0 12 rfl)
set_option maxRecDepth 20000 in
theorem wm_5_13 : Cond.fieldLink RX4 45 "SubwordCounter$Partition" "hit" "[I" ∈ wsL_law := sub_wsL_law_r5 _ (mem_at0 13 rfl)
set_option maxRecDepth 20000 in
theorem wm_5_14 : Cond.fieldLink RX4 48 "SubwordCounter$Partition" "sourceStart" "[I" ∈ wsL_law := sub_wsL_law_r5 _ (mem_at0 14 rfl)
set_option maxRecDepth 20000 in
theorem wm_5_15 : Cond.fieldLink RX4 51 "SubwordCounter$Partition" "sources" "[I" ∈ wsL_law := sub_wsL_law_r5 _ (mem_at0 15 rfl)
set_option maxRecDepth 20000 in
theorem wm_5_16 : Cond.instanceMethod yX6_init ∈ wsL_law := sub_wsL_law_r5 _ (mem_at0 16 rfl)
set_option maxRecDepth 20000 in
theorem wm_5_17 : Cond.code yX6_init cX6_init 1 none ∈ wsL_law := sub_wsL_law_r5 _ (mem_at0 17 rfl)
set_option maxRecDepth 20000 in
theorem wm_5_18 : Cond.methodLink RX6 3 objectInit ∈ wsL_law := sub_wsL_law_r5 _ (mem_at0 18 rfl)
set_option maxRecDepth 20000 in
theorem wm_5_19 : Cond.fieldLink RX6 9 "SubwordCounter$Row" "type" "I" ∈ wsL_law := sub_wsL_law_r5 _ (mem_at0 19 rfl)
set_option maxRecDepth 20000 in
theorem wm_5_20 : Cond.fieldLink RX6 15 "SubwordCounter$Row" "size" "I" ∈ wsL_law := sub_wsL_law_r5 _ (mem_at0 20 rfl)
set_option maxRecDepth 20000 in
theorem wm_5_21 : Cond.fieldLink RX6 18 "SubwordCounter$Row" "elements" "[I" ∈ wsL_law := sub_wsL_law_r5 _ (mem_at0 21 rfl)
set_option maxRecDepth 20000 in
theorem wm_5_22 : Cond.methodLink RL 12 yX12_init ∈ wsL_law := sub_wsL_law_r5 _ (mem_at0 22 rfl)
set_option maxRecDepth 20000 in
theorem wm_5_23 : Cond.instanceMethod yX12_init ∈ wsL_law := sub_wsL_law_r5 _ (mem_at0 23 rfl)
set_option maxRecDepth 20000 in
theorem sub_wsL_law_r6 : ∀ w ∈ wsL_law_r6, w ∈ wsL_law := fun w h => (List.mem_append_left _ (List.mem_append_left _ (List.mem_append_left _ (List.mem_append_left _ (List.mem_append_left _ (List.mem_append_left _ (List.mem_append_left _ (List.mem_append_left _ (List.mem_append_left _ (List.mem_append_left _ (List.mem_append_left _ (List.mem_append_left _ (List.mem_append_left _ (List.mem_append_right _ (List.mem_append_right _ (List.mem_append_right _ (List.mem_append_right _ (List.mem_append_right _ (List.mem_append_left _ h)))))))))))))))))))
set_option maxRecDepth 20000 in
theorem wm_6_0 : Cond.code yX12_init cX12_init 2 none ∈ wsL_law := sub_wsL_law_r6 _ (mem_at0 0 rfl)
set_option maxRecDepth 20000 in
theorem wm_6_1 : Cond.methodLink RX12 1 objectInit ∈ wsL_law := sub_wsL_law_r6 _ (mem_at0 1 rfl)
set_option maxRecDepth 20000 in
theorem wm_6_2 : Cond.fieldLink RX12 7 "SubwordCounterModel" "letters" "I" ∈ wsL_law := sub_wsL_law_r6 _ (mem_at0 2 rfl)
set_option maxRecDepth 20000 in
theorem wm_6_3 : Cond.fieldLink RX12 13 "SubwordCounterModel" "wordLength" "[I" ∈ wsL_law := sub_wsL_law_r6 _ (mem_at0 3 rfl)
set_option maxRecDepth 20000 in
theorem wm_6_4 : Cond.fieldLink RX12 17 "SubwordCounterModel" "word" "[I" ∈ wsL_law := sub_wsL_law_r6 _ (mem_at0 4 rfl)
set_option maxRecDepth 20000 in
theorem wm_6_5 : Cond.fieldLink RX12 20 "SubwordCounterModel" "prefixes" "[I" ∈ wsL_law := sub_wsL_law_r6 _ (mem_at0 5 rfl)
set_option maxRecDepth 20000 in
theorem wm_6_6 : Cond.fieldLink RX12 23 "SubwordCounterModel" "candidate" "[I" ∈ wsL_law := sub_wsL_law_r6 _ (mem_at0 6 rfl)
set_option maxRecDepth 20000 in
theorem wm_6_7 : Cond.fieldLink RX12 26 "SubwordCounterModel" "kind" "[I" ∈ wsL_law := sub_wsL_law_r6 _ (mem_at0 7 rfl)
set_option maxRecDepth 20000 in
theorem wm_6_8 : Cond.fieldLink RX12 29 "SubwordCounterModel" "bound" "[I" ∈ wsL_law := sub_wsL_law_r6 _ (mem_at0 8 rfl)
set_option maxRecDepth 20000 in
theorem wm_6_9 : Cond.fieldLink RX12 32 "SubwordCounterModel" "patternLength" "[I" ∈ wsL_law := sub_wsL_law_r6 _ (mem_at0 9 rfl)
set_option maxRecDepth 20000 in
theorem wm_6_10 : Cond.fieldLink RX12 35 "SubwordCounterModel" "pattern" "[I" ∈ wsL_law := sub_wsL_law_r6 _ (mem_at0 10 rfl)
set_option maxRecDepth 20000 in
theorem wm_6_11 : Cond.fieldLink RX12 38 "SubwordCounterModel" "input" "[I" ∈ wsL_law := sub_wsL_law_r6 _ (mem_at0 11 rfl)
set_option maxRecDepth 20000 in
theorem wm_6_12 : Cond.fieldLink RX12 41 "SubwordCounterModel" "signatures" "[I" ∈ wsL_law := sub_wsL_law_r6 _ (mem_at0 12 rfl)
set_option maxRecDepth 20000 in
theorem wm_6_13 : Cond.fieldLink RX12 44 "SubwordCounterModel" "held" "[I" ∈ wsL_law := sub_wsL_law_r6 _ (mem_at0 13 rfl)
set_option maxRecDepth 20000 in
theorem wm_6_14 : Cond.fieldLink RX12 47 "SubwordCounterModel" "form" "[I" ∈ wsL_law := sub_wsL_law_r6 _ (mem_at0 14 rfl)
set_option maxRecDepth 20000 in
theorem wm_6_15 : Cond.fieldLink RX12 50 "SubwordCounterModel" "parts" "[I" ∈ wsL_law := sub_wsL_law_r6 _ (mem_at0 15 rfl)
set_option maxRecDepth 20000 in
theorem wm_6_16 : Cond.fieldLink RX12 53 "SubwordCounterModel" "truth" "[I" ∈ wsL_law := sub_wsL_law_r6 _ (mem_at0 16 rfl)
set_option maxRecDepth 20000 in
theorem wm_6_17 : Cond.fieldLink RX12 56 "SubwordCounterModel" "partKind" "[I" ∈ wsL_law := sub_wsL_law_r6 _ (mem_at0 17 rfl)
set_option maxRecDepth 20000 in
theorem wm_6_18 : Cond.fieldLink RX12 59 "SubwordCounterModel" "partBound" "[I" ∈ wsL_law := sub_wsL_law_r6 _ (mem_at0 18 rfl)
set_option maxRecDepth 20000 in
theorem wm_6_19 : Cond.fieldLink RX12 62 "SubwordCounterModel" "partLength" "[I" ∈ wsL_law := sub_wsL_law_r6 _ (mem_at0 19 rfl)
set_option maxRecDepth 20000 in
theorem wm_6_20 : Cond.fieldLink RX12 65 "SubwordCounterModel" "partValue" "[I" ∈ wsL_law := sub_wsL_law_r6 _ (mem_at0 20 rfl)
set_option maxRecDepth 20000 in
theorem wm_6_21 : Cond.fieldLink RX12 68 "SubwordCounterModel" "partPattern" "[I" ∈ wsL_law := sub_wsL_law_r6 _ (mem_at0 21 rfl)
set_option maxRecDepth 20000 in
theorem wm_6_22 : Cond.fieldLink RX12 71 "SubwordCounterModel" "newKind" "[I" ∈ wsL_law := sub_wsL_law_r6 _ (mem_at0 22 rfl)
set_option maxRecDepth 20000 in
theorem wm_6_23 : Cond.fieldLink RX12 74 "SubwordCounterModel" "newBound" "[I" ∈ wsL_law := sub_wsL_law_r6 _ (mem_at0 23 rfl)
set_option maxRecDepth 20000 in
theorem sub_wsL_law_r7 : ∀ w ∈ wsL_law_r7, w ∈ wsL_law := fun w h => (List.mem_append_left _ (List.mem_append_left _ (List.mem_append_left _ (List.mem_append_left _ (List.mem_append_left _ (List.mem_append_left _ (List.mem_append_left _ (List.mem_append_left _ (List.mem_append_left _ (List.mem_append_left _ (List.mem_append_left _ (List.mem_append_left _ (List.mem_append_left _ (List.mem_append_right _ (List.mem_append_right _ (List.mem_append_right _ (List.mem_append_right _ (List.mem_append_right _ (List.mem_append_right _ (List.mem_append_left _ h))))))))))))))))))))
set_option maxRecDepth 20000 in
theorem wm_7_0 : Cond.fieldLink RX12 77 "SubwordCounterModel" "newLength" "[I" ∈ wsL_law := sub_wsL_law_r7 _ (mem_at0 0 rfl)
set_option maxRecDepth 20000 in
theorem wm_7_1 : Cond.fieldLink RX12 80 "SubwordCounterModel" "newValue" "[I" ∈ wsL_law := sub_wsL_law_r7 _ (mem_at0 1 rfl)
set_option maxRecDepth 20000 in
theorem wm_7_2 : Cond.fieldLink RX12 83 "SubwordCounterModel" "newPattern" "[I" ∈ wsL_law := sub_wsL_law_r7 _ (mem_at0 2 rfl)
set_option maxRecDepth 20000 in
theorem wm_7_3 : Cond.fieldLink RX12 86 "SubwordCounterModel" "machineKind" "[I" ∈ wsL_law := sub_wsL_law_r7 _ (mem_at0 3 rfl)
set_option maxRecDepth 20000 in
theorem wm_7_4 : Cond.fieldLink RX12 89 "SubwordCounterModel" "machineBound" "[I" ∈ wsL_law := sub_wsL_law_r7 _ (mem_at0 4 rfl)
set_option maxRecDepth 20000 in
theorem wm_7_5 : Cond.fieldLink RX12 92 "SubwordCounterModel" "machineLength" "[I" ∈ wsL_law := sub_wsL_law_r7 _ (mem_at0 5 rfl)
set_option maxRecDepth 20000 in
theorem wm_7_6 : Cond.fieldLink RX12 95 "SubwordCounterModel" "machineValue" "[I" ∈ wsL_law := sub_wsL_law_r7 _ (mem_at0 6 rfl)
set_option maxRecDepth 20000 in
theorem wm_7_7 : Cond.fieldLink RX12 98 "SubwordCounterModel" "machinePattern" "[I" ∈ wsL_law := sub_wsL_law_r7 _ (mem_at0 7 rfl)
set_option maxRecDepth 20000 in
theorem wm_7_8 : Cond.fieldLink RX12 101 "SubwordCounterModel" "digit" "[I" ∈ wsL_law := sub_wsL_law_r7 _ (mem_at0 8 rfl)
set_option maxRecDepth 20000 in
theorem wm_7_9 : Cond.fieldLink RX12 104 "SubwordCounterModel" "codeA" "[J" ∈ wsL_law := sub_wsL_law_r7 _ (mem_at0 9 rfl)
set_option maxRecDepth 20000 in
theorem wm_7_10 : Cond.fieldLink RX12 108 "SubwordCounterModel" "codeB" "[J" ∈ wsL_law := sub_wsL_law_r7 _ (mem_at0 10 rfl)
set_option maxRecDepth 20000 in
theorem wm_7_11 : Cond.fieldLink RX12 111 "SubwordCounterModel" "keyA" "[J" ∈ wsL_law := sub_wsL_law_r7 _ (mem_at0 11 rfl)
set_option maxRecDepth 20000 in
theorem wm_7_12 : Cond.fieldLink RX12 114 "SubwordCounterModel" "keyB" "[J" ∈ wsL_law := sub_wsL_law_r7 _ (mem_at0 12 rfl)
set_option maxRecDepth 20000 in
theorem wm_7_13 : Cond.fieldLink RX12 117 "SubwordCounterModel" "found" "[I" ∈ wsL_law := sub_wsL_law_r7 _ (mem_at0 13 rfl)
set_option maxRecDepth 20000 in
theorem wm_7_14 : Cond.fieldLink RX12 120 "SubwordCounterModel" "next" "[I" ∈ wsL_law := sub_wsL_law_r7 _ (mem_at0 14 rfl)
set_option maxRecDepth 20000 in
theorem wm_7_15 : Cond.fieldLink RX12 123 "SubwordCounterModel" "before" "[I" ∈ wsL_law := sub_wsL_law_r7 _ (mem_at0 15 rfl)
set_option maxRecDepth 20000 in
theorem wm_7_16 : Cond.fieldLink RX12 126 "SubwordCounterModel" "by" "[I" ∈ wsL_law := sub_wsL_law_r7 _ (mem_at0 16 rfl)
set_option maxRecDepth 20000 in
theorem wm_7_17 : Cond.fieldLink RX12 129 "SubwordCounterModel" "classOf" "[I" ∈ wsL_law := sub_wsL_law_r7 _ (mem_at0 17 rfl)
set_option maxRecDepth 20000 in
theorem wm_7_18 : Cond.fieldLink RX12 132 "SubwordCounterModel" "newClass" "[I" ∈ wsL_law := sub_wsL_law_r7 _ (mem_at0 18 rfl)
set_option maxRecDepth 20000 in
theorem wm_7_19 : Cond.fieldLink RX12 135 "SubwordCounterModel" "memberOf" "[I" ∈ wsL_law := sub_wsL_law_r7 _ (mem_at0 19 rfl)
set_option maxRecDepth 20000 in
theorem wm_7_20 : Cond.constant RX12 138 (160000) ∈ wsL_law := sub_wsL_law_r7 _ (mem_at0 20 rfl)
set_option maxRecDepth 20000 in
theorem wm_7_21 : Cond.fieldLink RX12 139 "SubwordCounterModel" "element" "[I" ∈ wsL_law := sub_wsL_law_r7 _ (mem_at0 21 rfl)
set_option maxRecDepth 20000 in
theorem wm_7_22 : Cond.fieldLink RX12 142 "SubwordCounterModel" "product" "[I" ∈ wsL_law := sub_wsL_law_r7 _ (mem_at0 22 rfl)
set_option maxRecDepth 20000 in
theorem wm_7_23 : Cond.fieldLink RX12 145 "SubwordCounterModel" "ways" "[J" ∈ wsL_law := sub_wsL_law_r7 _ (mem_at0 23 rfl)
set_option maxRecDepth 20000 in
theorem sub_wsL_law_r8 : ∀ w ∈ wsL_law_r8, w ∈ wsL_law := fun w h => (List.mem_append_left _ (List.mem_append_left _ (List.mem_append_left _ (List.mem_append_left _ (List.mem_append_left _ (List.mem_append_left _ (List.mem_append_left _ (List.mem_append_left _ (List.mem_append_left _ (List.mem_append_left _ (List.mem_append_left _ (List.mem_append_left _ (List.mem_append_left _ (List.mem_append_right _ (List.mem_append_right _ (List.mem_append_right _ (List.mem_append_right _ (List.mem_append_right _ (List.mem_append_right _ (List.mem_append_right _ (List.mem_append_left _ h)))))))))))))))))))))
set_option maxRecDepth 20000 in
theorem wm_8_0 : Cond.fieldLink RX12 148 "SubwordCounterModel" "newWays" "[J" ∈ wsL_law := sub_wsL_law_r8 _ (mem_at0 0 rfl)
set_option maxRecDepth 20000 in
theorem wm_8_1 : Cond.fieldLink RX12 151 "SubwordCounterModel" "counted" "[J" ∈ wsL_law := sub_wsL_law_r8 _ (mem_at0 1 rfl)
set_option maxRecDepth 20000 in
theorem wm_8_2 : Cond.fieldLink RX12 154 "SubwordCounterModel" "type" "[I" ∈ wsL_law := sub_wsL_law_r8 _ (mem_at0 2 rfl)
set_option maxRecDepth 20000 in
theorem wm_8_3 : Cond.fieldLink RX12 157 "SubwordCounterModel" "rowLength" "[I" ∈ wsL_law := sub_wsL_law_r8 _ (mem_at0 3 rfl)
set_option maxRecDepth 20000 in
theorem wm_8_4 : Cond.fieldLink RX12 160 "SubwordCounterModel" "items" "[I" ∈ wsL_law := sub_wsL_law_r8 _ (mem_at0 4 rfl)
set_option maxRecDepth 20000 in
theorem wm_8_5 : Cond.fieldLink RX12 163 "SubwordCounterModel" "moved" "[I" ∈ wsL_law := sub_wsL_law_r8 _ (mem_at0 5 rfl)
set_option maxRecDepth 20000 in
theorem wm_8_6 : Cond.fieldLink RX12 166 "SubwordCounterModel" "saved" "[I" ∈ wsL_law := sub_wsL_law_r8 _ (mem_at0 6 rfl)
set_option maxRecDepth 20000 in
theorem wm_8_7 : Cond.methodLink RL 13 yX11_setLetters ∈ wsL_law := sub_wsL_law_r8 _ (mem_at0 7 rfl)
set_option maxRecDepth 20000 in
theorem wm_8_8 : Cond.instanceMethod yX11_setLetters ∈ wsL_law := sub_wsL_law_r8 _ (mem_at0 8 rfl)
set_option maxRecDepth 20000 in
theorem wm_8_9 : Cond.selects RX11 yX11_setLetters yX11_setLetters ∈ wsL_law := sub_wsL_law_r8 _ (mem_at0 9 rfl)
set_option maxRecDepth 20000 in
theorem wm_8_10 : Cond.code yX11_setLetters cX11_setLetters 3 (some .int) ∈ wsL_law := sub_wsL_law_r8 _ (mem_at0 10 rfl)
set_option maxRecDepth 20000 in
theorem wm_8_11 : Cond.fieldLink RX11 74 "SubwordCounter$Registers" "letters" "I" ∈ wsL_law := sub_wsL_law_r8 _ (mem_at0 11 rfl)
set_option maxRecDepth 20000 in
theorem wm_8_12 : Cond.methodLink RX11 77 yX5_restart ∈ wsL_law := sub_wsL_law_r8 _ (mem_at0 12 rfl)
set_option maxRecDepth 20000 in
theorem wm_8_13 : Cond.instanceMethod yX5_restart ∈ wsL_law := sub_wsL_law_r8 _ (mem_at0 13 rfl)
set_option maxRecDepth 20000 in
theorem wm_8_14 : Cond.selects RX5 yX5_restart yX5_restart ∈ wsL_law := sub_wsL_law_r8 _ (mem_at0 14 rfl)
set_option maxRecDepth 20000 in
theorem wm_8_15 : Cond.code yX5_restart cX5_restart 3 none ∈ wsL_law := sub_wsL_law_r8 _ (mem_at0 15 rfl)
set_option maxRecDepth 20000 in
theorem wm_8_16 : Cond.fieldLink RX5 35 "SubwordCounter$Bundle" "count" "I" ∈ wsL_law := sub_wsL_law_r8 _ (mem_at0 16 rfl)
set_option maxRecDepth 20000 in
theorem wm_8_17 : Cond.fieldLink RX5 38 "SubwordCounter$Word" "size" "I" ∈ wsL_law := sub_wsL_law_r8 _ (mem_at0 17 rfl)
set_option maxRecDepth 20000 in
theorem wm_8_18 : Cond.methodLink RL 17 yX12_setLetters ∈ wsL_law := sub_wsL_law_r8 _ (mem_at0 18 rfl)
set_option maxRecDepth 20000 in
theorem wm_8_19 : Cond.instanceMethod yX12_setLetters ∈ wsL_law := sub_wsL_law_r8 _ (mem_at0 19 rfl)
set_option maxRecDepth 20000 in
theorem wm_8_20 : Cond.selects RX12 yX12_setLetters yX12_setLetters ∈ wsL_law := sub_wsL_law_r8 _ (mem_at0 20 rfl)
set_option maxRecDepth 20000 in
theorem wm_8_21 : Cond.code yX12_setLetters cX12_setLetters 4 (some .int) ∈ wsL_law := sub_wsL_law_r8 _ (mem_at0 21 rfl)
set_option maxRecDepth 20000 in
theorem wm_8_22 : Cond.fieldLink RX12 173 "SubwordCounterModel" "tests" "I" ∈ wsL_law := sub_wsL_law_r8 _ (mem_at0 22 rfl)
set_option maxRecDepth 20000 in
theorem wm_8_23 : Cond.methodLink RX12 169 yX12_isBetween ∈ wsL_law := sub_wsL_law_r8 _ (mem_at0 23 rfl)
set_option maxRecDepth 20000 in
theorem sub_wsL_law_r9 : ∀ w ∈ wsL_law_r9, w ∈ wsL_law := fun w h => (List.mem_append_left _ (List.mem_append_left _ (List.mem_append_left _ (List.mem_append_left _ (List.mem_append_left _ (List.mem_append_left _ (List.mem_append_left _ (List.mem_append_left _ (List.mem_append_left _ (List.mem_append_left _ (List.mem_append_left _ (List.mem_append_left _ (List.mem_append_left _ (List.mem_append_right _ (List.mem_append_right _ (List.mem_append_right _ (List.mem_append_right _ (List.mem_append_right _ (List.mem_append_right _ (List.mem_append_right _ (List.mem_append_right _ (List.mem_append_left _ h))))))))))))))))))))))
set_option maxRecDepth 20000 in
theorem wm_9_0 : Cond.static yX12_isBetween ∈ wsL_law := sub_wsL_law_r9 _ (mem_at0 0 rfl)
set_option maxRecDepth 20000 in
theorem wm_9_1 : Cond.code yX12_isBetween cX12_isBetween 3 (some .boolean) ∈ wsL_law := sub_wsL_law_r9 _ (mem_at0 1 rfl)
set_option maxRecDepth 20000 in
theorem wm_9_2 : Cond.methodLink RL 18 yX11_letters ∈ wsL_law := sub_wsL_law_r9 _ (mem_at0 2 rfl)
set_option maxRecDepth 20000 in
theorem wm_9_3 : Cond.instanceMethod yX11_letters ∈ wsL_law := sub_wsL_law_r9 _ (mem_at0 3 rfl)
set_option maxRecDepth 20000 in
theorem wm_9_4 : Cond.selects RX11 yX11_letters yX11_letters ∈ wsL_law := sub_wsL_law_r9 _ (mem_at0 4 rfl)
set_option maxRecDepth 20000 in
theorem wm_9_5 : Cond.code yX11_letters cX11_letters 1 (some .int) ∈ wsL_law := sub_wsL_law_r9 _ (mem_at0 5 rfl)
set_option maxRecDepth 20000 in
theorem wm_9_6 : Cond.methodLink RL 22 yX12_letters ∈ wsL_law := sub_wsL_law_r9 _ (mem_at0 6 rfl)
set_option maxRecDepth 20000 in
theorem wm_9_7 : Cond.instanceMethod yX12_letters ∈ wsL_law := sub_wsL_law_r9 _ (mem_at0 7 rfl)
set_option maxRecDepth 20000 in
theorem wm_9_8 : Cond.selects RX12 yX12_letters yX12_letters ∈ wsL_law := sub_wsL_law_r9 _ (mem_at0 8 rfl)
set_option maxRecDepth 20000 in
theorem wm_9_9 : Cond.code yX12_letters cX12_letters 1 (some .int) ∈ wsL_law := sub_wsL_law_r9 _ (mem_at0 9 rfl)
set_option maxRecDepth 20000 in
theorem wm_9_10 : Cond.methodLink RL 23 yX11_append ∈ wsL_law := sub_wsL_law_r9 _ (mem_at0 10 rfl)
set_option maxRecDepth 20000 in
theorem wm_9_11 : Cond.instanceMethod yX11_append ∈ wsL_law := sub_wsL_law_r9 _ (mem_at0 11 rfl)
set_option maxRecDepth 20000 in
theorem wm_9_12 : Cond.selects RX11 yX11_append yX11_append ∈ wsL_law := sub_wsL_law_r9 _ (mem_at0 12 rfl)
set_option maxRecDepth 20000 in
theorem wm_9_13 : Cond.code yX11_append cX11_append 4 (some .int) ∈ wsL_law := sub_wsL_law_r9 _ (mem_at0 13 rfl)
set_option maxRecDepth 20000 in
theorem wm_9_14 : Cond.fieldLink RX11 85 "SubwordCounter$Registers" "words" "[LSubwordCounter$Word;" ∈ wsL_law := sub_wsL_law_r9 _ (mem_at0 14 rfl)
set_option maxRecDepth 20000 in
theorem wm_9_15 : Cond.fieldLink RX11 89 "SubwordCounter$Word" "size" "I" ∈ wsL_law := sub_wsL_law_r9 _ (mem_at0 15 rfl)
set_option maxRecDepth 20000 in
theorem wm_9_16 : Cond.methodLink RX11 81 yX11_isWord ∈ wsL_law := sub_wsL_law_r9 _ (mem_at0 16 rfl)
set_option maxRecDepth 20000 in
theorem wm_9_17 : Cond.static yX11_isWord ∈ wsL_law := sub_wsL_law_r9 _ (mem_at0 17 rfl)
set_option maxRecDepth 20000 in
theorem wm_9_18 : Cond.code yX11_isWord cX11_isWord 1 (some .boolean) ∈ wsL_law := sub_wsL_law_r9 _ (mem_at0 18 rfl)
set_option maxRecDepth 20000 in
theorem wm_9_19 : Cond.methodLink RX11 92 yX9_push ∈ wsL_law := sub_wsL_law_r9 _ (mem_at0 19 rfl)
set_option maxRecDepth 20000 in
theorem wm_9_20 : Cond.instanceMethod yX9_push ∈ wsL_law := sub_wsL_law_r9 _ (mem_at0 20 rfl)
set_option maxRecDepth 20000 in
theorem wm_9_21 : Cond.selects RX9 yX9_push yX9_push ∈ wsL_law := sub_wsL_law_r9 _ (mem_at0 21 rfl)
set_option maxRecDepth 20000 in
theorem wm_9_22 : Cond.code yX9_push cX9_push 2 none ∈ wsL_law := sub_wsL_law_r9 _ (mem_at0 22 rfl)
set_option maxRecDepth 20000 in
theorem wm_9_23 : Cond.methodLink RL 27 yX12_append ∈ wsL_law := sub_wsL_law_r9 _ (mem_at0 23 rfl)
set_option maxRecDepth 20000 in
theorem sub_wsL_law_r10 : ∀ w ∈ wsL_law_r10, w ∈ wsL_law := fun w h => (List.mem_append_left _ (List.mem_append_left _ (List.mem_append_left _ (List.mem_append_left _ (List.mem_append_left _ (List.mem_append_left _ (List.mem_append_left _ (List.mem_append_left _ (List.mem_append_left _ (List.mem_append_left _ (List.mem_append_left _ (List.mem_append_left _ (List.mem_append_left _ (List.mem_append_right _ (List.mem_append_right _ (List.mem_append_right _ (List.mem_append_right _ (List.mem_append_right _ (List.mem_append_right _ (List.mem_append_right _ (List.mem_append_right _ (List.mem_append_right _ (List.mem_append_left _ h)))))))))))))))))))))))
set_option maxRecDepth 20000 in
theorem wm_10_0 : Cond.instanceMethod yX12_append ∈ wsL_law := sub_wsL_law_r10 _ (mem_at0 0 rfl)
set_option maxRecDepth 20000 in
theorem wm_10_1 : Cond.selects RX12 yX12_append yX12_append ∈ wsL_law := sub_wsL_law_r10 _ (mem_at0 1 rfl)
set_option maxRecDepth 20000 in
theorem wm_10_2 : Cond.code yX12_append cX12_append 3 (some .int) ∈ wsL_law := sub_wsL_law_r10 _ (mem_at0 2 rfl)
set_option maxRecDepth 20000 in
theorem wm_10_3 : Cond.methodLink RX12 176 yX12_isWord ∈ wsL_law := sub_wsL_law_r10 _ (mem_at0 3 rfl)
set_option maxRecDepth 20000 in
theorem wm_10_4 : Cond.static yX12_isWord ∈ wsL_law := sub_wsL_law_r10 _ (mem_at0 4 rfl)
set_option maxRecDepth 20000 in
theorem wm_10_5 : Cond.code yX12_isWord cX12_isWord 1 (some .boolean) ∈ wsL_law := sub_wsL_law_r10 _ (mem_at0 5 rfl)
set_option maxRecDepth 20000 in
theorem wm_10_6 : Cond.methodLink RL 28 yX11_clearWord ∈ wsL_law := sub_wsL_law_r10 _ (mem_at0 6 rfl)
set_option maxRecDepth 20000 in
theorem wm_10_7 : Cond.instanceMethod yX11_clearWord ∈ wsL_law := sub_wsL_law_r10 _ (mem_at0 7 rfl)
set_option maxRecDepth 20000 in
theorem wm_10_8 : Cond.selects RX11 yX11_clearWord yX11_clearWord ∈ wsL_law := sub_wsL_law_r10 _ (mem_at0 8 rfl)
set_option maxRecDepth 20000 in
theorem wm_10_9 : Cond.code yX11_clearWord cX11_clearWord 3 (some .int) ∈ wsL_law := sub_wsL_law_r10 _ (mem_at0 9 rfl)
set_option maxRecDepth 20000 in
theorem wm_10_10 : Cond.methodLink RL 31 yX12_clearWord ∈ wsL_law := sub_wsL_law_r10 _ (mem_at0 10 rfl)
set_option maxRecDepth 20000 in
theorem wm_10_11 : Cond.instanceMethod yX12_clearWord ∈ wsL_law := sub_wsL_law_r10 _ (mem_at0 11 rfl)
set_option maxRecDepth 20000 in
theorem wm_10_12 : Cond.selects RX12 yX12_clearWord yX12_clearWord ∈ wsL_law := sub_wsL_law_r10 _ (mem_at0 12 rfl)
set_option maxRecDepth 20000 in
theorem wm_10_13 : Cond.code yX12_clearWord cX12_clearWord 3 (some .int) ∈ wsL_law := sub_wsL_law_r10 _ (mem_at0 13 rfl)
set_option maxRecDepth 20000 in
theorem wm_10_14 : Cond.methodLink RL 32 yX11_length ∈ wsL_law := sub_wsL_law_r10 _ (mem_at0 14 rfl)
set_option maxRecDepth 20000 in
theorem wm_10_15 : Cond.instanceMethod yX11_length ∈ wsL_law := sub_wsL_law_r10 _ (mem_at0 15 rfl)
set_option maxRecDepth 20000 in
theorem wm_10_16 : Cond.selects RX11 yX11_length yX11_length ∈ wsL_law := sub_wsL_law_r10 _ (mem_at0 16 rfl)
set_option maxRecDepth 20000 in
theorem wm_10_17 : Cond.code yX11_length cX11_length 2 (some .int) ∈ wsL_law := sub_wsL_law_r10 _ (mem_at0 17 rfl)
set_option maxRecDepth 20000 in
theorem wm_10_18 : Cond.methodLink RL 35 yX12_length ∈ wsL_law := sub_wsL_law_r10 _ (mem_at0 18 rfl)
set_option maxRecDepth 20000 in
theorem wm_10_19 : Cond.instanceMethod yX12_length ∈ wsL_law := sub_wsL_law_r10 _ (mem_at0 19 rfl)
set_option maxRecDepth 20000 in
theorem wm_10_20 : Cond.selects RX12 yX12_length yX12_length ∈ wsL_law := sub_wsL_law_r10 _ (mem_at0 20 rfl)
set_option maxRecDepth 20000 in
theorem wm_10_21 : Cond.code yX12_length cX12_length 2 (some .int) ∈ wsL_law := sub_wsL_law_r10 _ (mem_at0 21 rfl)
set_option maxRecDepth 20000 in
theorem wm_10_22 : Cond.methodLink RL 36 yX11_letter ∈ wsL_law := sub_wsL_law_r10 _ (mem_at0 22 rfl)
set_option maxRecDepth 20000 in
theorem wm_10_23 : Cond.instanceMethod yX11_letter ∈ wsL_law := sub_wsL_law_r10 _ (mem_at0 23 rfl)
set_option maxRecDepth 20000 in
theorem sub_wsL_law_r11 : ∀ w ∈ wsL_law_r11, w ∈ wsL_law := fun w h => (List.mem_append_left _ (List.mem_append_left _ (List.mem_append_left _ (List.mem_append_left _ (List.mem_append_left _ (List.mem_append_left _ (List.mem_append_left _ (List.mem_append_left _ (List.mem_append_left _ (List.mem_append_left _ (List.mem_append_left _ (List.mem_append_left _ (List.mem_append_left _ (List.mem_append_right _ (List.mem_append_right _ (List.mem_append_right _ (List.mem_append_right _ (List.mem_append_right _ (List.mem_append_right _ (List.mem_append_right _ (List.mem_append_right _ (List.mem_append_right _ (List.mem_append_right _ (List.mem_append_left _ h))))))))))))))))))))))))
set_option maxRecDepth 20000 in
theorem wm_11_0 : Cond.selects RX11 yX11_letter yX11_letter ∈ wsL_law := sub_wsL_law_r11 _ (mem_at0 0 rfl)
set_option maxRecDepth 20000 in
theorem wm_11_1 : Cond.code yX11_letter cX11_letter 4 (some .int) ∈ wsL_law := sub_wsL_law_r11 _ (mem_at0 1 rfl)
set_option maxRecDepth 20000 in
theorem wm_11_2 : Cond.fieldLink RX11 95 "SubwordCounter$Word" "letters" "[I" ∈ wsL_law := sub_wsL_law_r11 _ (mem_at0 2 rfl)
set_option maxRecDepth 20000 in
theorem wm_11_3 : Cond.methodLink RL 39 yX12_letter ∈ wsL_law := sub_wsL_law_r11 _ (mem_at0 3 rfl)
set_option maxRecDepth 20000 in
theorem wm_11_4 : Cond.instanceMethod yX12_letter ∈ wsL_law := sub_wsL_law_r11 _ (mem_at0 4 rfl)
set_option maxRecDepth 20000 in
theorem wm_11_5 : Cond.selects RX12 yX12_letter yX12_letter ∈ wsL_law := sub_wsL_law_r11 _ (mem_at0 5 rfl)
set_option maxRecDepth 20000 in
theorem wm_11_6 : Cond.code yX12_letter cX12_letter 3 (some .int) ∈ wsL_law := sub_wsL_law_r11 _ (mem_at0 6 rfl)
set_option maxRecDepth 20000 in
theorem wm_11_7 : Cond.methodLink RL 40 yX11_reverse ∈ wsL_law := sub_wsL_law_r11 _ (mem_at0 7 rfl)
set_option maxRecDepth 20000 in
theorem wm_11_8 : Cond.instanceMethod yX11_reverse ∈ wsL_law := sub_wsL_law_r11 _ (mem_at0 8 rfl)
set_option maxRecDepth 20000 in
theorem wm_11_9 : Cond.selects RX11 yX11_reverse yX11_reverse ∈ wsL_law := sub_wsL_law_r11 _ (mem_at0 9 rfl)
set_option maxRecDepth 20000 in
theorem wm_11_10 : Cond.code yX11_reverse cX11_reverse 2 (some .int) ∈ wsL_law := sub_wsL_law_r11 _ (mem_at0 10 rfl)
set_option maxRecDepth 20000 in
theorem wm_11_11 : Cond.methodLink RX11 97 yX9_turnRound ∈ wsL_law := sub_wsL_law_r11 _ (mem_at0 11 rfl)
set_option maxRecDepth 20000 in
theorem wm_11_12 : Cond.instanceMethod yX9_turnRound ∈ wsL_law := sub_wsL_law_r11 _ (mem_at0 12 rfl)
set_option maxRecDepth 20000 in
theorem wm_11_13 : Cond.selects RX9 yX9_turnRound yX9_turnRound ∈ wsL_law := sub_wsL_law_r11 _ (mem_at0 13 rfl)
set_option maxRecDepth 20000 in
theorem wm_11_14 : Cond.code yX9_turnRound cX9_turnRound 5 (some .boolean) ∈ wsL_law := sub_wsL_law_r11 _ (mem_at0 14 rfl)
set_option maxRecDepth 20000 in
theorem wm_11_15 : Cond.methodLink RL 43 yX12_reverse ∈ wsL_law := sub_wsL_law_r11 _ (mem_at0 15 rfl)
set_option maxRecDepth 20000 in
theorem wm_11_16 : Cond.instanceMethod yX12_reverse ∈ wsL_law := sub_wsL_law_r11 _ (mem_at0 16 rfl)
set_option maxRecDepth 20000 in
theorem wm_11_17 : Cond.selects RX12 yX12_reverse yX12_reverse ∈ wsL_law := sub_wsL_law_r11 _ (mem_at0 17 rfl)
set_option maxRecDepth 20000 in
theorem wm_11_18 : Cond.code yX12_reverse cX12_reverse 8 (some .int) ∈ wsL_law := sub_wsL_law_r11 _ (mem_at0 18 rfl)
set_option maxRecDepth 20000 in
theorem wm_11_19 : Cond.methodLink RL 44 yX11_concatenate ∈ wsL_law := sub_wsL_law_r11 _ (mem_at0 19 rfl)
set_option maxRecDepth 20000 in
theorem wm_11_20 : Cond.instanceMethod yX11_concatenate ∈ wsL_law := sub_wsL_law_r11 _ (mem_at0 20 rfl)
set_option maxRecDepth 20000 in
theorem wm_11_21 : Cond.selects RX11 yX11_concatenate yX11_concatenate ∈ wsL_law := sub_wsL_law_r11 _ (mem_at0 21 rfl)
set_option maxRecDepth 20000 in
theorem wm_11_22 : Cond.code yX11_concatenate cX11_concatenate 4 (some .int) ∈ wsL_law := sub_wsL_law_r11 _ (mem_at0 22 rfl)
set_option maxRecDepth 20000 in
theorem wm_11_23 : Cond.methodLink RX11 101 yX9_pushAll ∈ wsL_law := sub_wsL_law_r11 _ (mem_at0 23 rfl)
set_option maxRecDepth 20000 in
theorem sub_wsL_law_r12 : ∀ w ∈ wsL_law_r12, w ∈ wsL_law := fun w h => (List.mem_append_left _ (List.mem_append_left _ (List.mem_append_left _ (List.mem_append_left _ (List.mem_append_left _ (List.mem_append_left _ (List.mem_append_left _ (List.mem_append_left _ (List.mem_append_left _ (List.mem_append_left _ (List.mem_append_left _ (List.mem_append_left _ (List.mem_append_left _ (List.mem_append_right _ (List.mem_append_right _ (List.mem_append_right _ (List.mem_append_right _ (List.mem_append_right _ (List.mem_append_right _ (List.mem_append_right _ (List.mem_append_right _ (List.mem_append_right _ (List.mem_append_right _ (List.mem_append_right _ (List.mem_append_left _ h)))))))))))))))))))))))))
set_option maxRecDepth 20000 in
theorem wm_12_0 : Cond.instanceMethod yX9_pushAll ∈ wsL_law := sub_wsL_law_r12 _ (mem_at0 0 rfl)
set_option maxRecDepth 20000 in
theorem wm_12_1 : Cond.selects RX9 yX9_pushAll yX9_pushAll ∈ wsL_law := sub_wsL_law_r12 _ (mem_at0 1 rfl)
set_option maxRecDepth 20000 in
theorem wm_12_2 : Cond.code yX9_pushAll cX9_pushAll 4 none ∈ wsL_law := sub_wsL_law_r12 _ (mem_at0 2 rfl)
set_option maxRecDepth 20000 in
theorem wm_12_3 : Cond.methodLink RX9 22 yX9_push ∈ wsL_law := sub_wsL_law_r12 _ (mem_at0 3 rfl)
set_option maxRecDepth 20000 in
theorem wm_12_4 : Cond.methodLink RL 47 yX12_concatenate ∈ wsL_law := sub_wsL_law_r12 _ (mem_at0 4 rfl)
set_option maxRecDepth 20000 in
theorem wm_12_5 : Cond.instanceMethod yX12_concatenate ∈ wsL_law := sub_wsL_law_r12 _ (mem_at0 5 rfl)
set_option maxRecDepth 20000 in
theorem wm_12_6 : Cond.selects RX12 yX12_concatenate yX12_concatenate ∈ wsL_law := sub_wsL_law_r12 _ (mem_at0 6 rfl)
set_option maxRecDepth 20000 in
theorem wm_12_7 : Cond.code yX12_concatenate cX12_concatenate 5 (some .int) ∈ wsL_law := sub_wsL_law_r12 _ (mem_at0 7 rfl)
set_option maxRecDepth 20000 in
theorem wm_12_8 : Cond.methodLink RL 48 yX11_compare ∈ wsL_law := sub_wsL_law_r12 _ (mem_at0 8 rfl)
set_option maxRecDepth 20000 in
theorem wm_12_9 : Cond.instanceMethod yX11_compare ∈ wsL_law := sub_wsL_law_r12 _ (mem_at0 9 rfl)
set_option maxRecDepth 20000 in
theorem wm_12_10 : Cond.selects RX11 yX11_compare yX11_compare ∈ wsL_law := sub_wsL_law_r12 _ (mem_at0 10 rfl)
set_option maxRecDepth 20000 in
theorem wm_12_11 : Cond.code yX11_compare cX11_compare 3 (some .int) ∈ wsL_law := sub_wsL_law_r12 _ (mem_at0 11 rfl)
set_option maxRecDepth 20000 in
theorem wm_12_12 : Cond.methodLink RX11 105 yX9_orderAgainst ∈ wsL_law := sub_wsL_law_r12 _ (mem_at0 12 rfl)
set_option maxRecDepth 20000 in
theorem wm_12_13 : Cond.instanceMethod yX9_orderAgainst ∈ wsL_law := sub_wsL_law_r12 _ (mem_at0 13 rfl)
set_option maxRecDepth 20000 in
theorem wm_12_14 : Cond.selects RX9 yX9_orderAgainst yX9_orderAgainst ∈ wsL_law := sub_wsL_law_r12 _ (mem_at0 14 rfl)
set_option maxRecDepth 20000 in
theorem wm_12_15 : Cond.code yX9_orderAgainst cX9_orderAgainst 3 (some .int) ∈ wsL_law := sub_wsL_law_r12 _ (mem_at0 15 rfl)
set_option maxRecDepth 20000 in
theorem wm_12_16 : Cond.methodLink RL 51 yX12_compare ∈ wsL_law := sub_wsL_law_r12 _ (mem_at0 16 rfl)
set_option maxRecDepth 20000 in
theorem wm_12_17 : Cond.instanceMethod yX12_compare ∈ wsL_law := sub_wsL_law_r12 _ (mem_at0 17 rfl)
set_option maxRecDepth 20000 in
theorem wm_12_18 : Cond.selects RX12 yX12_compare yX12_compare ∈ wsL_law := sub_wsL_law_r12 _ (mem_at0 18 rfl)
set_option maxRecDepth 20000 in
theorem wm_12_19 : Cond.code yX12_compare cX12_compare 6 (some .int) ∈ wsL_law := sub_wsL_law_r12 _ (mem_at0 19 rfl)
set_option maxRecDepth 20000 in
theorem wm_12_20 : Cond.methodLink RL 52 yX11_occurrences ∈ wsL_law := sub_wsL_law_r12 _ (mem_at0 20 rfl)
set_option maxRecDepth 20000 in
theorem wm_12_21 : Cond.instanceMethod yX11_occurrences ∈ wsL_law := sub_wsL_law_r12 _ (mem_at0 21 rfl)
set_option maxRecDepth 20000 in
theorem wm_12_22 : Cond.selects RX11 yX11_occurrences yX11_occurrences ∈ wsL_law := sub_wsL_law_r12 _ (mem_at0 22 rfl)
set_option maxRecDepth 20000 in
theorem wm_12_23 : Cond.code yX11_occurrences cX11_occurrences 3 (some .int) ∈ wsL_law := sub_wsL_law_r12 _ (mem_at0 23 rfl)
set_option maxRecDepth 20000 in
theorem sub_wsL_law_r13 : ∀ w ∈ wsL_law_r13, w ∈ wsL_law := fun w h => (List.mem_append_left _ (List.mem_append_left _ (List.mem_append_left _ (List.mem_append_left _ (List.mem_append_left _ (List.mem_append_left _ (List.mem_append_left _ (List.mem_append_left _ (List.mem_append_left _ (List.mem_append_left _ (List.mem_append_left _ (List.mem_append_left _ (List.mem_append_left _ (List.mem_append_right _ (List.mem_append_right _ (List.mem_append_right _ (List.mem_append_right _ (List.mem_append_right _ (List.mem_append_right _ (List.mem_append_right _ (List.mem_append_right _ (List.mem_append_right _ (List.mem_append_right _ (List.mem_append_right _ (List.mem_append_right _ (List.mem_append_left _ h))))))))))))))))))))))))))
set_option maxRecDepth 20000 in
theorem wm_13_0 : Cond.methodLink RX11 109 yX9_occurrencesIn ∈ wsL_law := sub_wsL_law_r13 _ (mem_at0 0 rfl)
set_option maxRecDepth 20000 in
theorem wm_13_1 : Cond.instanceMethod yX9_occurrencesIn ∈ wsL_law := sub_wsL_law_r13 _ (mem_at0 1 rfl)
set_option maxRecDepth 20000 in
theorem wm_13_2 : Cond.selects RX9 yX9_occurrencesIn yX9_occurrencesIn ∈ wsL_law := sub_wsL_law_r13 _ (mem_at0 2 rfl)
set_option maxRecDepth 20000 in
theorem wm_13_3 : Cond.code yX9_occurrencesIn cX9_occurrencesIn 4 (some .int) ∈ wsL_law := sub_wsL_law_r13 _ (mem_at0 3 rfl)
set_option maxRecDepth 20000 in
theorem wm_13_4 : Cond.methodLink RX9 41 yJ7_fill_53178 ∈ wsL_law := sub_wsL_law_r13 _ (mem_at0 4 rfl)
set_option maxRecDepth 20000 in
theorem wm_13_5 : Cond.static yJ7_fill_53178 ∈ wsL_law := sub_wsL_law_r13 _ (mem_at0 5 rfl)
set_option maxRecDepth 20000 in
theorem wm_13_6 : Cond.initialized RJ7 ∈ wsL_law := sub_wsL_law_r13 _ (mem_at0 6 rfl)
set_option maxRecDepth 20000 in
theorem wm_13_7 : Cond.code yJ7_fill_53178 cJ7_fill_53178 4 none ∈ wsL_law := sub_wsL_law_r13 _ (mem_at0 7 rfl)
set_option maxRecDepth 20000 in
theorem wm_13_8 : Cond.methodLink RL 55 yX12_occurrences ∈ wsL_law := sub_wsL_law_r13 _ (mem_at0 8 rfl)
set_option maxRecDepth 20000 in
theorem wm_13_9 : Cond.instanceMethod yX12_occurrences ∈ wsL_law := sub_wsL_law_r13 _ (mem_at0 9 rfl)
set_option maxRecDepth 20000 in
theorem wm_13_10 : Cond.selects RX12 yX12_occurrences yX12_occurrences ∈ wsL_law := sub_wsL_law_r13 _ (mem_at0 10 rfl)
set_option maxRecDepth 20000 in
theorem wm_13_11 : Cond.code yX12_occurrences cX12_occurrences 3 (some .int) ∈ wsL_law := sub_wsL_law_r13 _ (mem_at0 11 rfl)
set_option maxRecDepth 20000 in
theorem wm_13_12 : Cond.methodLink RX12 180 yX12_occurrencesIn ∈ wsL_law := sub_wsL_law_r13 _ (mem_at0 12 rfl)
set_option maxRecDepth 20000 in
theorem wm_13_13 : Cond.instanceMethod yX12_occurrencesIn ∈ wsL_law := sub_wsL_law_r13 _ (mem_at0 13 rfl)
set_option maxRecDepth 20000 in
theorem wm_13_14 : Cond.selects RX12 yX12_occurrencesIn yX12_occurrencesIn ∈ wsL_law := sub_wsL_law_r13 _ (mem_at0 14 rfl)
set_option maxRecDepth 20000 in
theorem wm_13_15 : Cond.code yX12_occurrencesIn cX12_occurrencesIn 7 (some .int) ∈ wsL_law := sub_wsL_law_r13 _ (mem_at0 15 rfl)
set_option maxRecDepth 20000 in
theorem wm_13_16 : Cond.methodLink RL 56 yX11_separate ∈ wsL_law := sub_wsL_law_r13 _ (mem_at0 16 rfl)
set_option maxRecDepth 20000 in
theorem wm_13_17 : Cond.instanceMethod yX11_separate ∈ wsL_law := sub_wsL_law_r13 _ (mem_at0 17 rfl)
set_option maxRecDepth 20000 in
theorem wm_13_18 : Cond.selects RX11 yX11_separate yX11_separate ∈ wsL_law := sub_wsL_law_r13 _ (mem_at0 18 rfl)
set_option maxRecDepth 20000 in
theorem wm_13_19 : Cond.code yX11_separate cX11_separate 7 (some .int) ∈ wsL_law := sub_wsL_law_r13 _ (mem_at0 19 rfl)
set_option maxRecDepth 20000 in
theorem wm_13_20 : Cond.methodLink RX11 112 yX9_setListed ∈ wsL_law := sub_wsL_law_r13 _ (mem_at0 20 rfl)
set_option maxRecDepth 20000 in
theorem wm_13_21 : Cond.instanceMethod yX9_setListed ∈ wsL_law := sub_wsL_law_r13 _ (mem_at0 21 rfl)
set_option maxRecDepth 20000 in
theorem wm_13_22 : Cond.selects RX9 yX9_setListed yX9_setListed ∈ wsL_law := sub_wsL_law_r13 _ (mem_at0 22 rfl)
set_option maxRecDepth 20000 in
theorem wm_13_23 : Cond.code yX9_setListed cX9_setListed 7 none ∈ wsL_law := sub_wsL_law_r13 _ (mem_at0 23 rfl)
set_option maxRecDepth 20000 in
theorem sub_wsL_law_r14 : ∀ w ∈ wsL_law_r14, w ∈ wsL_law := fun w h => (List.mem_append_left _ (List.mem_append_left _ (List.mem_append_left _ (List.mem_append_left _ (List.mem_append_left _ (List.mem_append_left _ (List.mem_append_left _ (List.mem_append_left _ (List.mem_append_left _ (List.mem_append_left _ (List.mem_append_left _ (List.mem_append_left _ (List.mem_append_left _ (List.mem_append_right _ (List.mem_append_right _ (List.mem_append_right _ (List.mem_append_right _ (List.mem_append_right _ (List.mem_append_right _ (List.mem_append_right _ (List.mem_append_right _ (List.mem_append_right _ (List.mem_append_right _ (List.mem_append_right _ (List.mem_append_right _ (List.mem_append_right _ (List.mem_append_left _ h)))))))))))))))))))))))))))
set_option maxRecDepth 20000 in
theorem wm_14_0 : Cond.methodLink RX9 32 Lib.Math.min.name ∈ wsL_law := sub_wsL_law_r14 _ (mem_at0 0 rfl)
set_option maxRecDepth 20000 in
theorem wm_14_1 : Cond.static Lib.Math.min.name ∈ wsL_law := sub_wsL_law_r14 _ (mem_at0 1 rfl)
set_option maxRecDepth 20000 in
theorem wm_14_2 : Cond.initialized "java/lang/Math" ∈ wsL_law := sub_wsL_law_r14 _ (mem_at0 2 rfl)
set_option maxRecDepth 20000 in
theorem wm_14_3 : Cond.code Lib.Math.min.name Lib.Math.min.code 2 (some .int) ∈ wsL_law := sub_wsL_law_r14 _ (mem_at0 3 rfl)
set_option maxRecDepth 20000 in
theorem wm_14_4 : Cond.methodLink RX9 38 Lib.Math.max.name ∈ wsL_law := sub_wsL_law_r14 _ (mem_at0 4 rfl)
set_option maxRecDepth 20000 in
theorem wm_14_5 : Cond.static Lib.Math.max.name ∈ wsL_law := sub_wsL_law_r14 _ (mem_at0 5 rfl)
set_option maxRecDepth 20000 in
theorem wm_14_6 : Cond.code Lib.Math.max.name Lib.Math.max.code 2 (some .int) ∈ wsL_law := sub_wsL_law_r14 _ (mem_at0 6 rfl)
set_option maxRecDepth 20000 in
theorem wm_14_7 : Cond.methodLink RX11 116 yX11_separatingModulus ∈ wsL_law := sub_wsL_law_r14 _ (mem_at0 7 rfl)
set_option maxRecDepth 20000 in
theorem wm_14_8 : Cond.static yX11_separatingModulus ∈ wsL_law := sub_wsL_law_r14 _ (mem_at0 8 rfl)
set_option maxRecDepth 20000 in
theorem wm_14_9 : Cond.code yX11_separatingModulus cX11_separatingModulus 6 (some .int) ∈ wsL_law := sub_wsL_law_r14 _ (mem_at0 9 rfl)
set_option maxRecDepth 20000 in
theorem wm_14_10 : Cond.methodLink RX11 120 yX11_thirdWord ∈ wsL_law := sub_wsL_law_r14 _ (mem_at0 10 rfl)
set_option maxRecDepth 20000 in
theorem wm_14_11 : Cond.instanceMethod yX11_thirdWord ∈ wsL_law := sub_wsL_law_r14 _ (mem_at0 11 rfl)
set_option maxRecDepth 20000 in
theorem wm_14_12 : Cond.selects RX11 yX11_thirdWord yX11_thirdWord ∈ wsL_law := sub_wsL_law_r14 _ (mem_at0 12 rfl)
set_option maxRecDepth 20000 in
theorem wm_14_13 : Cond.code yX11_thirdWord cX11_thirdWord 4 (some (.object "SubwordCounter$Word")) ∈ wsL_law := sub_wsL_law_r14 _ (mem_at0 13 rfl)
set_option maxRecDepth 20000 in
theorem wm_14_14 : Cond.methodLink RX11 124 yX9_copyFrom ∈ wsL_law := sub_wsL_law_r14 _ (mem_at0 14 rfl)
set_option maxRecDepth 20000 in
theorem wm_14_15 : Cond.instanceMethod yX9_copyFrom ∈ wsL_law := sub_wsL_law_r14 _ (mem_at0 15 rfl)
set_option maxRecDepth 20000 in
theorem wm_14_16 : Cond.selects RX9 yX9_copyFrom yX9_copyFrom ∈ wsL_law := sub_wsL_law_r14 _ (mem_at0 16 rfl)
set_option maxRecDepth 20000 in
theorem wm_14_17 : Cond.code yX9_copyFrom cX9_copyFrom 2 none ∈ wsL_law := sub_wsL_law_r14 _ (mem_at0 17 rfl)
set_option maxRecDepth 20000 in
theorem wm_14_18 : Cond.methodLink RX9 26 arraycopyName ∈ wsL_law := sub_wsL_law_r14 _ (mem_at0 18 rfl)
set_option maxRecDepth 20000 in
theorem wm_14_19 : Cond.native arraycopyName ∈ wsL_law := sub_wsL_law_r14 _ (mem_at0 19 rfl)
set_option maxRecDepth 20000 in
theorem wm_14_20 : Cond.static arraycopyName ∈ wsL_law := sub_wsL_law_r14 _ (mem_at0 20 rfl)
set_option maxRecDepth 20000 in
theorem wm_14_21 : Cond.initialized "java/lang/System" ∈ wsL_law := sub_wsL_law_r14 _ (mem_at0 21 rfl)
set_option maxRecDepth 20000 in
theorem wm_14_22 : Cond.methodLink RL 59 yX12_separate ∈ wsL_law := sub_wsL_law_r14 _ (mem_at0 22 rfl)
set_option maxRecDepth 20000 in
theorem wm_14_23 : Cond.instanceMethod yX12_separate ∈ wsL_law := sub_wsL_law_r14 _ (mem_at0 23 rfl)
set_option maxRecDepth 20000 in
theorem sub_wsL_law_r15 : ∀ w ∈ wsL_law_r15, w ∈ wsL_law := fun w h => (List.mem_append_left _ (List.mem_append_left _ (List.mem_append_left _ (List.mem_append_left _ (List.mem_append_left _ (List.mem_append_left _ (List.mem_append_left _ (List.mem_append_left _ (List.mem_append_left _ (List.mem_append_left _ (List.mem_append_left _ (List.mem_append_left _ (List.mem_append_left _ (List.mem_append_right _ (List.mem_append_right _ (List.mem_append_right _ (List.mem_append_right _ (List.mem_append_right _ (List.mem_append_right _ (List.mem_append_right _ (List.mem_append_right _ (List.mem_append_right _ (List.mem_append_right _ (List.mem_append_right _ (List.mem_append_right _ (List.mem_append_right _ (List.mem_append_right _ (List.mem_append_left _ h))))))))))))))))))))))))))))
set_option maxRecDepth 20000 in
theorem wm_15_0 : Cond.selects RX12 yX12_separate yX12_separate ∈ wsL_law := sub_wsL_law_r15 _ (mem_at0 0 rfl)
set_option maxRecDepth 20000 in
theorem wm_15_1 : Cond.code yX12_separate cX12_separate 11 (some .int) ∈ wsL_law := sub_wsL_law_r15 _ (mem_at0 1 rfl)
set_option maxRecDepth 20000 in
theorem wm_15_2 : Cond.methodLink RL 60 yX11_feed ∈ wsL_law := sub_wsL_law_r15 _ (mem_at0 2 rfl)
set_option maxRecDepth 20000 in
theorem wm_15_3 : Cond.instanceMethod yX11_feed ∈ wsL_law := sub_wsL_law_r15 _ (mem_at0 3 rfl)
set_option maxRecDepth 20000 in
theorem wm_15_4 : Cond.selects RX11 yX11_feed yX11_feed ∈ wsL_law := sub_wsL_law_r15 _ (mem_at0 4 rfl)
set_option maxRecDepth 20000 in
theorem wm_15_5 : Cond.code yX11_feed cX11_feed 2 (some .int) ∈ wsL_law := sub_wsL_law_r15 _ (mem_at0 5 rfl)
set_option maxRecDepth 20000 in
theorem wm_15_6 : Cond.methodLink RL 63 yX12_feed ∈ wsL_law := sub_wsL_law_r15 _ (mem_at0 6 rfl)
set_option maxRecDepth 20000 in
theorem wm_15_7 : Cond.instanceMethod yX12_feed ∈ wsL_law := sub_wsL_law_r15 _ (mem_at0 7 rfl)
set_option maxRecDepth 20000 in
theorem wm_15_8 : Cond.selects RX12 yX12_feed yX12_feed ∈ wsL_law := sub_wsL_law_r15 _ (mem_at0 8 rfl)
set_option maxRecDepth 20000 in
theorem wm_15_9 : Cond.code yX12_feed cX12_feed 2 (some .int) ∈ wsL_law := sub_wsL_law_r15 _ (mem_at0 9 rfl)
set_option maxRecDepth 20000 in
theorem wm_15_10 : Cond.fieldLink RX12 184 "SubwordCounterModel" "inputLength" "I" ∈ wsL_law := sub_wsL_law_r15 _ (mem_at0 10 rfl)
set_option maxRecDepth 20000 in
theorem wm_15_11 : Cond.methodLink RL 64 yX11_addTest ∈ wsL_law := sub_wsL_law_r15 _ (mem_at0 11 rfl)
set_option maxRecDepth 20000 in
theorem wm_15_12 : Cond.instanceMethod yX11_addTest ∈ wsL_law := sub_wsL_law_r15 _ (mem_at0 12 rfl)
set_option maxRecDepth 20000 in
theorem wm_15_13 : Cond.selects RX11 yX11_addTest yX11_addTest ∈ wsL_law := sub_wsL_law_r15 _ (mem_at0 13 rfl)
set_option maxRecDepth 20000 in
theorem wm_15_14 : Cond.code yX11_addTest cX11_addTest 3 (some .int) ∈ wsL_law := sub_wsL_law_r15 _ (mem_at0 14 rfl)
set_option maxRecDepth 20000 in
theorem wm_15_15 : Cond.fieldLink RX11 127 "SubwordCounter$Registers" "tests" "LSubwordCounter$Bundle;" ∈ wsL_law := sub_wsL_law_r15 _ (mem_at0 15 rfl)
set_option maxRecDepth 20000 in
theorem wm_15_16 : Cond.fieldLink RX11 131 "SubwordCounter$Bundle" "count" "I" ∈ wsL_law := sub_wsL_law_r15 _ (mem_at0 16 rfl)
set_option maxRecDepth 20000 in
theorem wm_15_17 : Cond.methodLink RX11 136 yX7_errorAt ∈ wsL_law := sub_wsL_law_r15 _ (mem_at0 17 rfl)
set_option maxRecDepth 20000 in
theorem wm_15_18 : Cond.static yX7_errorAt ∈ wsL_law := sub_wsL_law_r15 _ (mem_at0 18 rfl)
set_option maxRecDepth 20000 in
theorem wm_15_19 : Cond.initialized RX7 ∈ wsL_law := sub_wsL_law_r15 _ (mem_at0 19 rfl)
set_option maxRecDepth 20000 in
theorem wm_15_20 : Cond.code yX7_errorAt cX7_errorAt 5 (some .int) ∈ wsL_law := sub_wsL_law_r15 _ (mem_at0 20 rfl)
set_option maxRecDepth 20000 in
theorem wm_15_21 : Cond.methodLink RX7 9 yX7_headLength ∈ wsL_law := sub_wsL_law_r15 _ (mem_at0 21 rfl)
set_option maxRecDepth 20000 in
theorem wm_15_22 : Cond.static yX7_headLength ∈ wsL_law := sub_wsL_law_r15 _ (mem_at0 22 rfl)
set_option maxRecDepth 20000 in
theorem wm_15_23 : Cond.code yX7_headLength cX7_headLength 5 (some .int) ∈ wsL_law := sub_wsL_law_r15 _ (mem_at0 23 rfl)
set_option maxRecDepth 20000 in
theorem sub_wsL_law_r16 : ∀ w ∈ wsL_law_r16, w ∈ wsL_law := fun w h => (List.mem_append_left _ (List.mem_append_left _ (List.mem_append_left _ (List.mem_append_left _ (List.mem_append_left _ (List.mem_append_left _ (List.mem_append_left _ (List.mem_append_left _ (List.mem_append_left _ (List.mem_append_left _ (List.mem_append_left _ (List.mem_append_left _ (List.mem_append_left _ (List.mem_append_right _ (List.mem_append_right _ (List.mem_append_right _ (List.mem_append_right _ (List.mem_append_right _ (List.mem_append_right _ (List.mem_append_right _ (List.mem_append_right _ (List.mem_append_right _ (List.mem_append_right _ (List.mem_append_right _ (List.mem_append_right _ (List.mem_append_right _ (List.mem_append_right _ (List.mem_append_right _ (List.mem_append_left _ h)))))))))))))))))))))))))))))
set_option maxRecDepth 20000 in
theorem wm_16_0 : Cond.methodLink RX7 15 yX7_isSign ∈ wsL_law := sub_wsL_law_r16 _ (mem_at0 0 rfl)
set_option maxRecDepth 20000 in
theorem wm_16_1 : Cond.static yX7_isSign ∈ wsL_law := sub_wsL_law_r16 _ (mem_at0 1 rfl)
set_option maxRecDepth 20000 in
theorem wm_16_2 : Cond.code yX7_isSign cX7_isSign 2 (some .boolean) ∈ wsL_law := sub_wsL_law_r16 _ (mem_at0 2 rfl)
set_option maxRecDepth 20000 in
theorem wm_16_3 : Cond.methodLink RX7 19 yX7_isLimit ∈ wsL_law := sub_wsL_law_r16 _ (mem_at0 3 rfl)
set_option maxRecDepth 20000 in
theorem wm_16_4 : Cond.static yX7_isLimit ∈ wsL_law := sub_wsL_law_r16 _ (mem_at0 4 rfl)
set_option maxRecDepth 20000 in
theorem wm_16_5 : Cond.code yX7_isLimit cX7_isLimit 2 (some .boolean) ∈ wsL_law := sub_wsL_law_r16 _ (mem_at0 5 rfl)
set_option maxRecDepth 20000 in
theorem wm_16_6 : Cond.methodLink RX11 142 yX7_read ∈ wsL_law := sub_wsL_law_r16 _ (mem_at0 6 rfl)
set_option maxRecDepth 20000 in
theorem wm_16_7 : Cond.static yX7_read ∈ wsL_law := sub_wsL_law_r16 _ (mem_at0 7 rfl)
set_option maxRecDepth 20000 in
theorem wm_16_8 : Cond.code yX7_read cX7_read 5 (some (.object "SubwordCounter$Test")) ∈ wsL_law := sub_wsL_law_r16 _ (mem_at0 8 rfl)
set_option maxRecDepth 20000 in
theorem wm_16_9 : Cond.classLink RX7 22 RX8 ∈ wsL_law := sub_wsL_law_r16 _ (mem_at0 9 rfl)
set_option maxRecDepth 20000 in
theorem wm_16_10 : Cond.instantiable RX8 5 ∈ wsL_law := sub_wsL_law_r16 _ (mem_at0 10 rfl)
set_option maxRecDepth 20000 in
theorem wm_16_11 : Cond.initialized RX8 ∈ wsL_law := sub_wsL_law_r16 _ (mem_at0 11 rfl)
set_option maxRecDepth 20000 in
theorem wm_16_12 : Cond.methodLink RX7 24 yX8_init ∈ wsL_law := sub_wsL_law_r16 _ (mem_at0 12 rfl)
set_option maxRecDepth 20000 in
theorem wm_16_13 : Cond.instanceMethod yX8_init ∈ wsL_law := sub_wsL_law_r16 _ (mem_at0 13 rfl)
set_option maxRecDepth 20000 in
theorem wm_16_14 : Cond.code yX8_init cX8_init 4 none ∈ wsL_law := sub_wsL_law_r16 _ (mem_at0 14 rfl)
set_option maxRecDepth 20000 in
theorem wm_16_15 : Cond.methodLink RX8 3 objectInit ∈ wsL_law := sub_wsL_law_r16 _ (mem_at0 15 rfl)
set_option maxRecDepth 20000 in
theorem wm_16_16 : Cond.fieldLink RX8 9 "SubwordCounter$Test" "kind" "I" ∈ wsL_law := sub_wsL_law_r16 _ (mem_at0 16 rfl)
set_option maxRecDepth 20000 in
theorem wm_16_17 : Cond.fieldLink RX8 15 "SubwordCounter$Test" "limit" "I" ∈ wsL_law := sub_wsL_law_r16 _ (mem_at0 17 rfl)
set_option maxRecDepth 20000 in
theorem wm_16_18 : Cond.fieldLink RX8 18 "SubwordCounter$Test" "range" "I" ∈ wsL_law := sub_wsL_law_r16 _ (mem_at0 18 rfl)
set_option maxRecDepth 20000 in
theorem wm_16_19 : Cond.fieldLink RX8 21 "SubwordCounter$Test" "size" "I" ∈ wsL_law := sub_wsL_law_r16 _ (mem_at0 19 rfl)
set_option maxRecDepth 20000 in
theorem wm_16_20 : Cond.fieldLink RX8 24 "SubwordCounter$Test" "pattern" "[I" ∈ wsL_law := sub_wsL_law_r16 _ (mem_at0 20 rfl)
set_option maxRecDepth 20000 in
theorem wm_16_21 : Cond.methodLink RX11 146 yX1_add ∈ wsL_law := sub_wsL_law_r16 _ (mem_at0 21 rfl)
set_option maxRecDepth 20000 in
theorem wm_16_22 : Cond.instanceMethod yX1_add ∈ wsL_law := sub_wsL_law_r16 _ (mem_at0 22 rfl)
set_option maxRecDepth 20000 in
theorem wm_16_23 : Cond.selects RX1 yX1_add yX1_add ∈ wsL_law := sub_wsL_law_r16 _ (mem_at0 23 rfl)
set_option maxRecDepth 20000 in
theorem sub_wsL_law_r17 : ∀ w ∈ wsL_law_r17, w ∈ wsL_law := fun w h => (List.mem_append_left _ (List.mem_append_left _ (List.mem_append_left _ (List.mem_append_left _ (List.mem_append_left _ (List.mem_append_left _ (List.mem_append_left _ (List.mem_append_left _ (List.mem_append_left _ (List.mem_append_left _ (List.mem_append_left _ (List.mem_append_left _ (List.mem_append_left _ (List.mem_append_right _ (List.mem_append_right _ (List.mem_append_right _ (List.mem_append_right _ (List.mem_append_right _ (List.mem_append_right _ (List.mem_append_right _ (List.mem_append_right _ (List.mem_append_right _ (List.mem_append_right _ (List.mem_append_right _ (List.mem_append_right _ (List.mem_append_right _ (List.mem_append_right _ (List.mem_append_right _ (List.mem_append_right _ (List.mem_append_left _ h))))))))))))))))))))))))))))))
set_option maxRecDepth 20000 in
theorem wm_17_0 : Cond.code yX1_add cX1_add 2 none ∈ wsL_law := sub_wsL_law_r17 _ (mem_at0 0 rfl)
set_option maxRecDepth 20000 in
theorem wm_17_1 : Cond.methodLink RL 67 yX12_addTest ∈ wsL_law := sub_wsL_law_r17 _ (mem_at0 1 rfl)
set_option maxRecDepth 20000 in
theorem wm_17_2 : Cond.instanceMethod yX12_addTest ∈ wsL_law := sub_wsL_law_r17 _ (mem_at0 2 rfl)
set_option maxRecDepth 20000 in
theorem wm_17_3 : Cond.selects RX12 yX12_addTest yX12_addTest ∈ wsL_law := sub_wsL_law_r17 _ (mem_at0 3 rfl)
set_option maxRecDepth 20000 in
theorem wm_17_4 : Cond.code yX12_addTest cX12_addTest 2 (some .int) ∈ wsL_law := sub_wsL_law_r17 _ (mem_at0 4 rfl)
set_option maxRecDepth 20000 in
theorem wm_17_5 : Cond.fieldLink RX12 187 "SubwordCounterModel" "at" "I" ∈ wsL_law := sub_wsL_law_r17 _ (mem_at0 5 rfl)
set_option maxRecDepth 20000 in
theorem wm_17_6 : Cond.methodLink RX12 194 yX12_readsTest ∈ wsL_law := sub_wsL_law_r17 _ (mem_at0 6 rfl)
set_option maxRecDepth 20000 in
theorem wm_17_7 : Cond.instanceMethod yX12_readsTest ∈ wsL_law := sub_wsL_law_r17 _ (mem_at0 7 rfl)
set_option maxRecDepth 20000 in
theorem wm_17_8 : Cond.selects RX12 yX12_readsTest yX12_readsTest ∈ wsL_law := sub_wsL_law_r17 _ (mem_at0 8 rfl)
set_option maxRecDepth 20000 in
theorem wm_17_9 : Cond.code yX12_readsTest cX12_readsTest 3 (some .boolean) ∈ wsL_law := sub_wsL_law_r17 _ (mem_at0 9 rfl)
set_option maxRecDepth 20000 in
theorem wm_17_10 : Cond.methodLink RX12 190 yX12_isAt ∈ wsL_law := sub_wsL_law_r17 _ (mem_at0 10 rfl)
set_option maxRecDepth 20000 in
theorem wm_17_11 : Cond.instanceMethod yX12_isAt ∈ wsL_law := sub_wsL_law_r17 _ (mem_at0 11 rfl)
set_option maxRecDepth 20000 in
theorem wm_17_12 : Cond.selects RX12 yX12_isAt yX12_isAt ∈ wsL_law := sub_wsL_law_r17 _ (mem_at0 12 rfl)
set_option maxRecDepth 20000 in
theorem wm_17_13 : Cond.code yX12_isAt cX12_isAt 3 (some .boolean) ∈ wsL_law := sub_wsL_law_r17 _ (mem_at0 13 rfl)
set_option maxRecDepth 20000 in
theorem wm_17_14 : Cond.methodLink RL 68 yX11_removeTest ∈ wsL_law := sub_wsL_law_r17 _ (mem_at0 14 rfl)
set_option maxRecDepth 20000 in
theorem wm_17_15 : Cond.instanceMethod yX11_removeTest ∈ wsL_law := sub_wsL_law_r17 _ (mem_at0 15 rfl)
set_option maxRecDepth 20000 in
theorem wm_17_16 : Cond.selects RX11 yX11_removeTest yX11_removeTest ∈ wsL_law := sub_wsL_law_r17 _ (mem_at0 16 rfl)
set_option maxRecDepth 20000 in
theorem wm_17_17 : Cond.code yX11_removeTest cX11_removeTest 2 (some .int) ∈ wsL_law := sub_wsL_law_r17 _ (mem_at0 17 rfl)
set_option maxRecDepth 20000 in
theorem wm_17_18 : Cond.methodLink RX11 150 yX11_isTest ∈ wsL_law := sub_wsL_law_r17 _ (mem_at0 18 rfl)
set_option maxRecDepth 20000 in
theorem wm_17_19 : Cond.instanceMethod yX11_isTest ∈ wsL_law := sub_wsL_law_r17 _ (mem_at0 19 rfl)
set_option maxRecDepth 20000 in
theorem wm_17_20 : Cond.selects RX11 yX11_isTest yX11_isTest ∈ wsL_law := sub_wsL_law_r17 _ (mem_at0 20 rfl)
set_option maxRecDepth 20000 in
theorem wm_17_21 : Cond.code yX11_isTest cX11_isTest 2 (some .boolean) ∈ wsL_law := sub_wsL_law_r17 _ (mem_at0 21 rfl)
set_option maxRecDepth 20000 in
theorem wm_17_22 : Cond.methodLink RX11 153 yX1_remove ∈ wsL_law := sub_wsL_law_r17 _ (mem_at0 22 rfl)
set_option maxRecDepth 20000 in
theorem wm_17_23 : Cond.instanceMethod yX1_remove ∈ wsL_law := sub_wsL_law_r17 _ (mem_at0 23 rfl)
set_option maxRecDepth 20000 in
theorem sub_wsL_law_r18 : ∀ w ∈ wsL_law_r18, w ∈ wsL_law := fun w h => (List.mem_append_left _ (List.mem_append_left _ (List.mem_append_left _ (List.mem_append_left _ (List.mem_append_left _ (List.mem_append_left _ (List.mem_append_left _ (List.mem_append_left _ (List.mem_append_left _ (List.mem_append_left _ (List.mem_append_left _ (List.mem_append_left _ (List.mem_append_left _ (List.mem_append_right _ (List.mem_append_right _ (List.mem_append_right _ (List.mem_append_right _ (List.mem_append_right _ (List.mem_append_right _ (List.mem_append_right _ (List.mem_append_right _ (List.mem_append_right _ (List.mem_append_right _ (List.mem_append_right _ (List.mem_append_right _ (List.mem_append_right _ (List.mem_append_right _ (List.mem_append_right _ (List.mem_append_right _ (List.mem_append_right _ (List.mem_append_left _ h)))))))))))))))))))))))))))))))
set_option maxRecDepth 20000 in
theorem wm_18_0 : Cond.selects RX1 yX1_remove yX1_remove ∈ wsL_law := sub_wsL_law_r18 _ (mem_at0 0 rfl)
set_option maxRecDepth 20000 in
theorem wm_18_1 : Cond.code yX1_remove cX1_remove 3 none ∈ wsL_law := sub_wsL_law_r18 _ (mem_at0 1 rfl)
set_option maxRecDepth 20000 in
theorem wm_18_2 : Cond.methodLink RL 71 yX12_removeTest ∈ wsL_law := sub_wsL_law_r18 _ (mem_at0 2 rfl)
set_option maxRecDepth 20000 in
theorem wm_18_3 : Cond.instanceMethod yX12_removeTest ∈ wsL_law := sub_wsL_law_r18 _ (mem_at0 3 rfl)
set_option maxRecDepth 20000 in
theorem wm_18_4 : Cond.selects RX12 yX12_removeTest yX12_removeTest ∈ wsL_law := sub_wsL_law_r18 _ (mem_at0 4 rfl)
set_option maxRecDepth 20000 in
theorem wm_18_5 : Cond.code yX12_removeTest cX12_removeTest 4 (some .int) ∈ wsL_law := sub_wsL_law_r18 _ (mem_at0 5 rfl)
set_option maxRecDepth 20000 in
theorem wm_18_6 : Cond.methodLink RX12 198 yX12_isTest ∈ wsL_law := sub_wsL_law_r18 _ (mem_at0 6 rfl)
set_option maxRecDepth 20000 in
theorem wm_18_7 : Cond.instanceMethod yX12_isTest ∈ wsL_law := sub_wsL_law_r18 _ (mem_at0 7 rfl)
set_option maxRecDepth 20000 in
theorem wm_18_8 : Cond.selects RX12 yX12_isTest yX12_isTest ∈ wsL_law := sub_wsL_law_r18 _ (mem_at0 8 rfl)
set_option maxRecDepth 20000 in
theorem wm_18_9 : Cond.code yX12_isTest cX12_isTest 2 (some .boolean) ∈ wsL_law := sub_wsL_law_r18 _ (mem_at0 9 rfl)
set_option maxRecDepth 20000 in
theorem wm_18_10 : Cond.methodLink RL 72 yX11_testCount ∈ wsL_law := sub_wsL_law_r18 _ (mem_at0 10 rfl)
set_option maxRecDepth 20000 in
theorem wm_18_11 : Cond.instanceMethod yX11_testCount ∈ wsL_law := sub_wsL_law_r18 _ (mem_at0 11 rfl)
set_option maxRecDepth 20000 in
theorem wm_18_12 : Cond.selects RX11 yX11_testCount yX11_testCount ∈ wsL_law := sub_wsL_law_r18 _ (mem_at0 12 rfl)
set_option maxRecDepth 20000 in
theorem wm_18_13 : Cond.code yX11_testCount cX11_testCount 1 (some .int) ∈ wsL_law := sub_wsL_law_r18 _ (mem_at0 13 rfl)
set_option maxRecDepth 20000 in
theorem wm_18_14 : Cond.methodLink RL 75 yX12_testCount ∈ wsL_law := sub_wsL_law_r18 _ (mem_at0 14 rfl)
set_option maxRecDepth 20000 in
theorem wm_18_15 : Cond.instanceMethod yX12_testCount ∈ wsL_law := sub_wsL_law_r18 _ (mem_at0 15 rfl)
set_option maxRecDepth 20000 in
theorem wm_18_16 : Cond.selects RX12 yX12_testCount yX12_testCount ∈ wsL_law := sub_wsL_law_r18 _ (mem_at0 16 rfl)
set_option maxRecDepth 20000 in
theorem wm_18_17 : Cond.code yX12_testCount cX12_testCount 1 (some .int) ∈ wsL_law := sub_wsL_law_r18 _ (mem_at0 17 rfl)
set_option maxRecDepth 20000 in
theorem wm_18_18 : Cond.methodLink RL 76 yX11_test ∈ wsL_law := sub_wsL_law_r18 _ (mem_at0 18 rfl)
set_option maxRecDepth 20000 in
theorem wm_18_19 : Cond.instanceMethod yX11_test ∈ wsL_law := sub_wsL_law_r18 _ (mem_at0 19 rfl)
set_option maxRecDepth 20000 in
theorem wm_18_20 : Cond.selects RX11 yX11_test yX11_test ∈ wsL_law := sub_wsL_law_r18 _ (mem_at0 20 rfl)
set_option maxRecDepth 20000 in
theorem wm_18_21 : Cond.code yX11_test cX11_test 4 (some .int) ∈ wsL_law := sub_wsL_law_r18 _ (mem_at0 21 rfl)
set_option maxRecDepth 20000 in
theorem wm_18_22 : Cond.fieldLink RX11 156 "SubwordCounter$Bundle" "members" "[LSubwordCounter$Test;" ∈ wsL_law := sub_wsL_law_r18 _ (mem_at0 22 rfl)
set_option maxRecDepth 20000 in
theorem wm_18_23 : Cond.fieldLink RX11 160 "SubwordCounter$Test" "kind" "I" ∈ wsL_law := sub_wsL_law_r18 _ (mem_at0 23 rfl)
set_option maxRecDepth 20000 in
theorem sub_wsL_law_r19 : ∀ w ∈ wsL_law_r19, w ∈ wsL_law := fun w h => (List.mem_append_left _ (List.mem_append_left _ (List.mem_append_left _ (List.mem_append_left _ (List.mem_append_left _ (List.mem_append_left _ (List.mem_append_left _ (List.mem_append_left _ (List.mem_append_left _ (List.mem_append_left _ (List.mem_append_left _ (List.mem_append_left _ (List.mem_append_left _ (List.mem_append_right _ (List.mem_append_right _ (List.mem_append_right _ (List.mem_append_right _ (List.mem_append_right _ (List.mem_append_right _ (List.mem_append_right _ (List.mem_append_right _ (List.mem_append_right _ (List.mem_append_right _ (List.mem_append_right _ (List.mem_append_right _ (List.mem_append_right _ (List.mem_append_right _ (List.mem_append_right _ (List.mem_append_right _ (List.mem_append_right _ (List.mem_append_right _ (List.mem_append_left _ h))))))))))))))))))))))))))))))))
set_option maxRecDepth 20000 in
theorem wm_19_0 : Cond.fieldLink RX11 165 "SubwordCounter$Test" "range" "I" ∈ wsL_law := sub_wsL_law_r19 _ (mem_at0 0 rfl)
set_option maxRecDepth 20000 in
theorem wm_19_1 : Cond.fieldLink RX11 168 "SubwordCounter$Test" "size" "I" ∈ wsL_law := sub_wsL_law_r19 _ (mem_at0 1 rfl)
set_option maxRecDepth 20000 in
theorem wm_19_2 : Cond.methodLink RL 79 yX12_test ∈ wsL_law := sub_wsL_law_r19 _ (mem_at0 2 rfl)
set_option maxRecDepth 20000 in
theorem wm_19_3 : Cond.instanceMethod yX12_test ∈ wsL_law := sub_wsL_law_r19 _ (mem_at0 3 rfl)
set_option maxRecDepth 20000 in
theorem wm_19_4 : Cond.selects RX12 yX12_test yX12_test ∈ wsL_law := sub_wsL_law_r19 _ (mem_at0 4 rfl)
set_option maxRecDepth 20000 in
theorem wm_19_5 : Cond.code yX12_test cX12_test 3 (some .int) ∈ wsL_law := sub_wsL_law_r19 _ (mem_at0 5 rfl)
set_option maxRecDepth 20000 in
theorem wm_19_6 : Cond.methodLink RX12 201 yX12_rangeOf ∈ wsL_law := sub_wsL_law_r19 _ (mem_at0 6 rfl)
set_option maxRecDepth 20000 in
theorem wm_19_7 : Cond.instanceMethod yX12_rangeOf ∈ wsL_law := sub_wsL_law_r19 _ (mem_at0 7 rfl)
set_option maxRecDepth 20000 in
theorem wm_19_8 : Cond.selects RX12 yX12_rangeOf yX12_rangeOf ∈ wsL_law := sub_wsL_law_r19 _ (mem_at0 8 rfl)
set_option maxRecDepth 20000 in
theorem wm_19_9 : Cond.code yX12_rangeOf cX12_rangeOf 2 (some .int) ∈ wsL_law := sub_wsL_law_r19 _ (mem_at0 9 rfl)
set_option maxRecDepth 20000 in
theorem wm_19_10 : Cond.methodLink RL 80 yX11_value ∈ wsL_law := sub_wsL_law_r19 _ (mem_at0 10 rfl)
set_option maxRecDepth 20000 in
theorem wm_19_11 : Cond.instanceMethod yX11_value ∈ wsL_law := sub_wsL_law_r19 _ (mem_at0 11 rfl)
set_option maxRecDepth 20000 in
theorem wm_19_12 : Cond.selects RX11 yX11_value yX11_value ∈ wsL_law := sub_wsL_law_r19 _ (mem_at0 12 rfl)
set_option maxRecDepth 20000 in
theorem wm_19_13 : Cond.code yX11_value cX11_value 3 (some .int) ∈ wsL_law := sub_wsL_law_r19 _ (mem_at0 13 rfl)
set_option maxRecDepth 20000 in
theorem wm_19_14 : Cond.methodLink RX11 169 yX8_valueFor ∈ wsL_law := sub_wsL_law_r19 _ (mem_at0 14 rfl)
set_option maxRecDepth 20000 in
theorem wm_19_15 : Cond.instanceMethod yX8_valueFor ∈ wsL_law := sub_wsL_law_r19 _ (mem_at0 15 rfl)
set_option maxRecDepth 20000 in
theorem wm_19_16 : Cond.selects RX8 yX8_valueFor yX8_valueFor ∈ wsL_law := sub_wsL_law_r19 _ (mem_at0 16 rfl)
set_option maxRecDepth 20000 in
theorem wm_19_17 : Cond.code yX8_valueFor cX8_valueFor 4 (some .int) ∈ wsL_law := sub_wsL_law_r19 _ (mem_at0 17 rfl)
set_option maxRecDepth 20000 in
theorem wm_19_18 : Cond.fieldLink RX8 38 "SubwordCounter$Word" "size" "I" ∈ wsL_law := sub_wsL_law_r19 _ (mem_at0 18 rfl)
set_option maxRecDepth 20000 in
theorem wm_19_19 : Cond.fieldLink RX8 41 "SubwordCounter$Word" "letters" "[I" ∈ wsL_law := sub_wsL_law_r19 _ (mem_at0 19 rfl)
set_option maxRecDepth 20000 in
theorem wm_19_20 : Cond.methodLink RX8 44 yX8_step ∈ wsL_law := sub_wsL_law_r19 _ (mem_at0 20 rfl)
set_option maxRecDepth 20000 in
theorem wm_19_21 : Cond.instanceMethod yX8_step ∈ wsL_law := sub_wsL_law_r19 _ (mem_at0 21 rfl)
set_option maxRecDepth 20000 in
theorem wm_19_22 : Cond.selects RX8 yX8_step yX8_step ∈ wsL_law := sub_wsL_law_r19 _ (mem_at0 22 rfl)
set_option maxRecDepth 20000 in
theorem wm_19_23 : Cond.code yX8_step cX8_step 7 (some .int) ∈ wsL_law := sub_wsL_law_r19 _ (mem_at0 23 rfl)
set_option maxRecDepth 20000 in
theorem sub_wsL_law_r20 : ∀ w ∈ wsL_law_r20, w ∈ wsL_law := fun w h => (List.mem_append_left _ (List.mem_append_left _ (List.mem_append_left _ (List.mem_append_left _ (List.mem_append_left _ (List.mem_append_left _ (List.mem_append_left _ (List.mem_append_left _ (List.mem_append_left _ (List.mem_append_left _ (List.mem_append_left _ (List.mem_append_left _ (List.mem_append_left _ (List.mem_append_right _ (List.mem_append_right _ (List.mem_append_right _ (List.mem_append_right _ (List.mem_append_right _ (List.mem_append_right _ (List.mem_append_right _ (List.mem_append_right _ (List.mem_append_right _ (List.mem_append_right _ (List.mem_append_right _ (List.mem_append_right _ (List.mem_append_right _ (List.mem_append_right _ (List.mem_append_right _ (List.mem_append_right _ (List.mem_append_right _ (List.mem_append_right _ (List.mem_append_right _ (List.mem_append_left _ h)))))))))))))))))))))))))))))))))
set_option maxRecDepth 20000 in
theorem wm_20_0 : Cond.methodLink RX8 28 yX8_bounded ∈ wsL_law := sub_wsL_law_r20 _ (mem_at0 0 rfl)
set_option maxRecDepth 20000 in
theorem wm_20_1 : Cond.instanceMethod yX8_bounded ∈ wsL_law := sub_wsL_law_r20 _ (mem_at0 1 rfl)
set_option maxRecDepth 20000 in
theorem wm_20_2 : Cond.selects RX8 yX8_bounded yX8_bounded ∈ wsL_law := sub_wsL_law_r20 _ (mem_at0 2 rfl)
set_option maxRecDepth 20000 in
theorem wm_20_3 : Cond.code yX8_bounded cX8_bounded 2 (some .int) ∈ wsL_law := sub_wsL_law_r20 _ (mem_at0 3 rfl)
set_option maxRecDepth 20000 in
theorem wm_20_4 : Cond.methodLink RX8 32 Lib.Math.min.name ∈ wsL_law := sub_wsL_law_r20 _ (mem_at0 4 rfl)
set_option maxRecDepth 20000 in
theorem wm_20_5 : Cond.methodLink RX8 47 yX8_valueAt ∈ wsL_law := sub_wsL_law_r20 _ (mem_at0 5 rfl)
set_option maxRecDepth 20000 in
theorem wm_20_6 : Cond.instanceMethod yX8_valueAt ∈ wsL_law := sub_wsL_law_r20 _ (mem_at0 6 rfl)
set_option maxRecDepth 20000 in
theorem wm_20_7 : Cond.selects RX8 yX8_valueAt yX8_valueAt ∈ wsL_law := sub_wsL_law_r20 _ (mem_at0 7 rfl)
set_option maxRecDepth 20000 in
theorem wm_20_8 : Cond.code yX8_valueAt cX8_valueAt 2 (some .int) ∈ wsL_law := sub_wsL_law_r20 _ (mem_at0 8 rfl)
set_option maxRecDepth 20000 in
theorem wm_20_9 : Cond.methodLink RL 83 yX12_value ∈ wsL_law := sub_wsL_law_r20 _ (mem_at0 9 rfl)
set_option maxRecDepth 20000 in
theorem wm_20_10 : Cond.instanceMethod yX12_value ∈ wsL_law := sub_wsL_law_r20 _ (mem_at0 10 rfl)
set_option maxRecDepth 20000 in
theorem wm_20_11 : Cond.selects RX12 yX12_value yX12_value ∈ wsL_law := sub_wsL_law_r20 _ (mem_at0 11 rfl)
set_option maxRecDepth 20000 in
theorem wm_20_12 : Cond.code yX12_value cX12_value 3 (some .int) ∈ wsL_law := sub_wsL_law_r20 _ (mem_at0 12 rfl)
set_option maxRecDepth 20000 in
theorem wm_20_13 : Cond.methodLink RX12 209 yX12_valueOfTest ∈ wsL_law := sub_wsL_law_r20 _ (mem_at0 13 rfl)
set_option maxRecDepth 20000 in
theorem wm_20_14 : Cond.instanceMethod yX12_valueOfTest ∈ wsL_law := sub_wsL_law_r20 _ (mem_at0 14 rfl)
set_option maxRecDepth 20000 in
theorem wm_20_15 : Cond.selects RX12 yX12_valueOfTest yX12_valueOfTest ∈ wsL_law := sub_wsL_law_r20 _ (mem_at0 15 rfl)
set_option maxRecDepth 20000 in
theorem wm_20_16 : Cond.code yX12_valueOfTest cX12_valueOfTest 3 (some .int) ∈ wsL_law := sub_wsL_law_r20 _ (mem_at0 16 rfl)
set_option maxRecDepth 20000 in
theorem wm_20_17 : Cond.methodLink RX12 205 yX12_valueOf ∈ wsL_law := sub_wsL_law_r20 _ (mem_at0 17 rfl)
set_option maxRecDepth 20000 in
theorem wm_20_18 : Cond.instanceMethod yX12_valueOf ∈ wsL_law := sub_wsL_law_r20 _ (mem_at0 18 rfl)
set_option maxRecDepth 20000 in
theorem wm_20_19 : Cond.selects RX12 yX12_valueOf yX12_valueOf ∈ wsL_law := sub_wsL_law_r20 _ (mem_at0 19 rfl)
set_option maxRecDepth 20000 in
theorem wm_20_20 : Cond.code yX12_valueOf cX12_valueOf 8 (some .int) ∈ wsL_law := sub_wsL_law_r20 _ (mem_at0 20 rfl)
set_option maxRecDepth 20000 in
theorem wm_20_21 : Cond.methodLink RL 84 yX11_signature ∈ wsL_law := sub_wsL_law_r20 _ (mem_at0 21 rfl)
set_option maxRecDepth 20000 in
theorem wm_20_22 : Cond.instanceMethod yX11_signature ∈ wsL_law := sub_wsL_law_r20 _ (mem_at0 22 rfl)
set_option maxRecDepth 20000 in
theorem wm_20_23 : Cond.selects RX11 yX11_signature yX11_signature ∈ wsL_law := sub_wsL_law_r20 _ (mem_at0 23 rfl)
set_option maxRecDepth 20000 in
theorem sub_wsL_law_r21 : ∀ w ∈ wsL_law_r21, w ∈ wsL_law := fun w h => (List.mem_append_left _ (List.mem_append_left _ (List.mem_append_left _ (List.mem_append_left _ (List.mem_append_left _ (List.mem_append_left _ (List.mem_append_left _ (List.mem_append_left _ (List.mem_append_left _ (List.mem_append_left _ (List.mem_append_left _ (List.mem_append_left _ (List.mem_append_left _ (List.mem_append_right _ (List.mem_append_right _ (List.mem_append_right _ (List.mem_append_right _ (List.mem_append_right _ (List.mem_append_right _ (List.mem_append_right _ (List.mem_append_right _ (List.mem_append_right _ (List.mem_append_right _ (List.mem_append_right _ (List.mem_append_right _ (List.mem_append_right _ (List.mem_append_right _ (List.mem_append_right _ (List.mem_append_right _ (List.mem_append_right _ (List.mem_append_right _ (List.mem_append_right _ (List.mem_append_right _ (List.mem_append_left _ h))))))))))))))))))))))))))))))))))
set_option maxRecDepth 20000 in
theorem wm_21_0 : Cond.code yX11_signature cX11_signature 5 (some .int) ∈ wsL_law := sub_wsL_law_r21 _ (mem_at0 0 rfl)
set_option maxRecDepth 20000 in
theorem wm_21_1 : Cond.methodLink RL 87 yX12_signature ∈ wsL_law := sub_wsL_law_r21 _ (mem_at0 1 rfl)
set_option maxRecDepth 20000 in
theorem wm_21_2 : Cond.instanceMethod yX12_signature ∈ wsL_law := sub_wsL_law_r21 _ (mem_at0 2 rfl)
set_option maxRecDepth 20000 in
theorem wm_21_3 : Cond.selects RX12 yX12_signature yX12_signature ∈ wsL_law := sub_wsL_law_r21 _ (mem_at0 3 rfl)
set_option maxRecDepth 20000 in
theorem wm_21_4 : Cond.code yX12_signature cX12_signature 2 (some .int) ∈ wsL_law := sub_wsL_law_r21 _ (mem_at0 4 rfl)
set_option maxRecDepth 20000 in
theorem wm_21_5 : Cond.methodLink RX12 213 yX12_signatureOf ∈ wsL_law := sub_wsL_law_r21 _ (mem_at0 5 rfl)
set_option maxRecDepth 20000 in
theorem wm_21_6 : Cond.instanceMethod yX12_signatureOf ∈ wsL_law := sub_wsL_law_r21 _ (mem_at0 6 rfl)
set_option maxRecDepth 20000 in
theorem wm_21_7 : Cond.selects RX12 yX12_signatureOf yX12_signatureOf ∈ wsL_law := sub_wsL_law_r21 _ (mem_at0 7 rfl)
set_option maxRecDepth 20000 in
theorem wm_21_8 : Cond.code yX12_signatureOf cX12_signatureOf 4 (some .int) ∈ wsL_law := sub_wsL_law_r21 _ (mem_at0 8 rfl)
set_option maxRecDepth 20000 in
theorem wm_21_9 : Cond.methodLink RL 88 yX11_classes ∈ wsL_law := sub_wsL_law_r21 _ (mem_at0 9 rfl)
set_option maxRecDepth 20000 in
theorem wm_21_10 : Cond.instanceMethod yX11_classes ∈ wsL_law := sub_wsL_law_r21 _ (mem_at0 10 rfl)
set_option maxRecDepth 20000 in
theorem wm_21_11 : Cond.selects RX11 yX11_classes yX11_classes ∈ wsL_law := sub_wsL_law_r21 _ (mem_at0 11 rfl)
set_option maxRecDepth 20000 in
theorem wm_21_12 : Cond.code yX11_classes cX11_classes 2 (some .int) ∈ wsL_law := sub_wsL_law_r21 _ (mem_at0 12 rfl)
set_option maxRecDepth 20000 in
theorem wm_21_13 : Cond.methodLink RX11 172 yX10_list ∈ wsL_law := sub_wsL_law_r21 _ (mem_at0 13 rfl)
set_option maxRecDepth 20000 in
theorem wm_21_14 : Cond.instanceMethod yX10_list ∈ wsL_law := sub_wsL_law_r21 _ (mem_at0 14 rfl)
set_option maxRecDepth 20000 in
theorem wm_21_15 : Cond.selects RX10 yX10_list yX10_list ∈ wsL_law := sub_wsL_law_r21 _ (mem_at0 15 rfl)
set_option maxRecDepth 20000 in
theorem wm_21_16 : Cond.code yX10_list cX10_list 5 none ∈ wsL_law := sub_wsL_law_r21 _ (mem_at0 16 rfl)
set_option maxRecDepth 20000 in
theorem wm_21_17 : Cond.methodLink RX10 33 yX10_start ∈ wsL_law := sub_wsL_law_r21 _ (mem_at0 17 rfl)
set_option maxRecDepth 20000 in
theorem wm_21_18 : Cond.instanceMethod yX10_start ∈ wsL_law := sub_wsL_law_r21 _ (mem_at0 18 rfl)
set_option maxRecDepth 20000 in
theorem wm_21_19 : Cond.selects RX10 yX10_start yX10_start ∈ wsL_law := sub_wsL_law_r21 _ (mem_at0 19 rfl)
set_option maxRecDepth 20000 in
theorem wm_21_20 : Cond.code yX10_start cX10_start 1 none ∈ wsL_law := sub_wsL_law_r21 _ (mem_at0 20 rfl)
set_option maxRecDepth 20000 in
theorem wm_21_21 : Cond.methodLink RX10 36 yX10_lengthen ∈ wsL_law := sub_wsL_law_r21 _ (mem_at0 21 rfl)
set_option maxRecDepth 20000 in
theorem wm_21_22 : Cond.instanceMethod yX10_lengthen ∈ wsL_law := sub_wsL_law_r21 _ (mem_at0 22 rfl)
set_option maxRecDepth 20000 in
theorem wm_21_23 : Cond.selects RX10 yX10_lengthen yX10_lengthen ∈ wsL_law := sub_wsL_law_r21 _ (mem_at0 23 rfl)
set_option maxRecDepth 20000 in
theorem sub_wsL_law_r22 : ∀ w ∈ wsL_law_r22, w ∈ wsL_law := fun w h => (List.mem_append_left _ (List.mem_append_left _ (List.mem_append_left _ (List.mem_append_left _ (List.mem_append_left _ (List.mem_append_left _ (List.mem_append_left _ (List.mem_append_left _ (List.mem_append_left _ (List.mem_append_left _ (List.mem_append_left _ (List.mem_append_left _ (List.mem_append_left _ (List.mem_append_right _ (List.mem_append_right _ (List.mem_append_right _ (List.mem_append_right _ (List.mem_append_right _ (List.mem_append_right _ (List.mem_append_right _ (List.mem_append_right _ (List.mem_append_right _ (List.mem_append_right _ (List.mem_append_right _ (List.mem_append_right _ (List.mem_append_right _ (List.mem_append_right _ (List.mem_append_right _ (List.mem_append_right _ (List.mem_append_right _ (List.mem_append_right _ (List.mem_append_right _ (List.mem_append_right _ (List.mem_append_right _ (List.mem_append_left _ h)))))))))))))))))))))))))))))))))))
set_option maxRecDepth 20000 in
theorem wm_22_0 : Cond.code yX10_lengthen cX10_lengthen 9 none ∈ wsL_law := sub_wsL_law_r22 _ (mem_at0 0 rfl)
set_option maxRecDepth 20000 in
theorem wm_22_1 : Cond.methodLink RX10 44 yX1_step ∈ wsL_law := sub_wsL_law_r22 _ (mem_at0 1 rfl)
set_option maxRecDepth 20000 in
theorem wm_22_2 : Cond.instanceMethod yX1_step ∈ wsL_law := sub_wsL_law_r22 _ (mem_at0 2 rfl)
set_option maxRecDepth 20000 in
theorem wm_22_3 : Cond.selects RX1 yX1_step yX1_step ∈ wsL_law := sub_wsL_law_r22 _ (mem_at0 3 rfl)
set_option maxRecDepth 20000 in
theorem wm_22_4 : Cond.code yX1_step cX1_step 11 (some .long) ∈ wsL_law := sub_wsL_law_r22 _ (mem_at0 4 rfl)
set_option maxRecDepth 20000 in
theorem wm_22_5 : Cond.constant RX1 27 (65535) ∈ wsL_law := sub_wsL_law_r22 _ (mem_at0 5 rfl)
set_option maxRecDepth 20000 in
theorem wm_22_6 : Cond.methodLink RX1 28 yX8_step ∈ wsL_law := sub_wsL_law_r22 _ (mem_at0 6 rfl)
set_option maxRecDepth 20000 in
theorem wm_22_7 : Cond.methodLink RX10 40 yX10_sign ∈ wsL_law := sub_wsL_law_r22 _ (mem_at0 7 rfl)
set_option maxRecDepth 20000 in
theorem wm_22_8 : Cond.instanceMethod yX10_sign ∈ wsL_law := sub_wsL_law_r22 _ (mem_at0 8 rfl)
set_option maxRecDepth 20000 in
theorem wm_22_9 : Cond.selects RX10 yX10_sign yX10_sign ∈ wsL_law := sub_wsL_law_r22 _ (mem_at0 9 rfl)
set_option maxRecDepth 20000 in
theorem wm_22_10 : Cond.code yX10_sign cX10_sign 3 none ∈ wsL_law := sub_wsL_law_r22 _ (mem_at0 10 rfl)
set_option maxRecDepth 20000 in
theorem wm_22_11 : Cond.methodLink RX10 50 yX1_signatureAt ∈ wsL_law := sub_wsL_law_r22 _ (mem_at0 11 rfl)
set_option maxRecDepth 20000 in
theorem wm_22_12 : Cond.instanceMethod yX1_signatureAt ∈ wsL_law := sub_wsL_law_r22 _ (mem_at0 12 rfl)
set_option maxRecDepth 20000 in
theorem wm_22_13 : Cond.selects RX1 yX1_signatureAt yX1_signatureAt ∈ wsL_law := sub_wsL_law_r22 _ (mem_at0 13 rfl)
set_option maxRecDepth 20000 in
theorem wm_22_14 : Cond.code yX1_signatureAt cX1_signatureAt 7 (some .int) ∈ wsL_law := sub_wsL_law_r22 _ (mem_at0 14 rfl)
set_option maxRecDepth 20000 in
theorem wm_22_15 : Cond.fieldLink RX1 39 "SubwordCounter$Test" "range" "I" ∈ wsL_law := sub_wsL_law_r22 _ (mem_at0 15 rfl)
set_option maxRecDepth 20000 in
theorem wm_22_16 : Cond.methodLink RX1 36 yX1_valueAt ∈ wsL_law := sub_wsL_law_r22 _ (mem_at0 16 rfl)
set_option maxRecDepth 20000 in
theorem wm_22_17 : Cond.instanceMethod yX1_valueAt ∈ wsL_law := sub_wsL_law_r22 _ (mem_at0 17 rfl)
set_option maxRecDepth 20000 in
theorem wm_22_18 : Cond.selects RX1 yX1_valueAt yX1_valueAt ∈ wsL_law := sub_wsL_law_r22 _ (mem_at0 18 rfl)
set_option maxRecDepth 20000 in
theorem wm_22_19 : Cond.code yX1_valueAt cX1_valueAt 8 (some .int) ∈ wsL_law := sub_wsL_law_r22 _ (mem_at0 19 rfl)
set_option maxRecDepth 20000 in
theorem wm_22_20 : Cond.methodLink RX1 32 yX8_valueAt ∈ wsL_law := sub_wsL_law_r22 _ (mem_at0 20 rfl)
set_option maxRecDepth 20000 in
theorem wm_22_21 : Cond.methodLink RX11 176 yX10_distinctSignatures ∈ wsL_law := sub_wsL_law_r22 _ (mem_at0 21 rfl)
set_option maxRecDepth 20000 in
theorem wm_22_22 : Cond.instanceMethod yX10_distinctSignatures ∈ wsL_law := sub_wsL_law_r22 _ (mem_at0 22 rfl)
set_option maxRecDepth 20000 in
theorem wm_22_23 : Cond.selects RX10 yX10_distinctSignatures yX10_distinctSignatures ∈ wsL_law := sub_wsL_law_r22 _ (mem_at0 23 rfl)
set_option maxRecDepth 20000 in
theorem sub_wsL_law_r23 : ∀ w ∈ wsL_law_r23, w ∈ wsL_law := fun w h => (List.mem_append_left _ (List.mem_append_left _ (List.mem_append_left _ (List.mem_append_left _ (List.mem_append_left _ (List.mem_append_left _ (List.mem_append_left _ (List.mem_append_left _ (List.mem_append_left _ (List.mem_append_left _ (List.mem_append_left _ (List.mem_append_left _ (List.mem_append_left _ (List.mem_append_right _ (List.mem_append_right _ (List.mem_append_right _ (List.mem_append_right _ (List.mem_append_right _ (List.mem_append_right _ (List.mem_append_right _ (List.mem_append_right _ (List.mem_append_right _ (List.mem_append_right _ (List.mem_append_right _ (List.mem_append_right _ (List.mem_append_right _ (List.mem_append_right _ (List.mem_append_right _ (List.mem_append_right _ (List.mem_append_right _ (List.mem_append_right _ (List.mem_append_right _ (List.mem_append_right _ (List.mem_append_right _ (List.mem_append_right _ (List.mem_append_left _ h))))))))))))))))))))))))))))))))))))
set_option maxRecDepth 20000 in
theorem wm_23_0 : Cond.code yX10_distinctSignatures cX10_distinctSignatures 3 (some .int) ∈ wsL_law := sub_wsL_law_r23 _ (mem_at0 0 rfl)
set_option maxRecDepth 20000 in
theorem wm_23_1 : Cond.methodLink RX10 54 yJ7_fill_53178 ∈ wsL_law := sub_wsL_law_r23 _ (mem_at0 1 rfl)
set_option maxRecDepth 20000 in
theorem wm_23_2 : Cond.methodLink RX10 60 yX10_firstWithSignatureOf ∈ wsL_law := sub_wsL_law_r23 _ (mem_at0 2 rfl)
set_option maxRecDepth 20000 in
theorem wm_23_3 : Cond.instanceMethod yX10_firstWithSignatureOf ∈ wsL_law := sub_wsL_law_r23 _ (mem_at0 3 rfl)
set_option maxRecDepth 20000 in
theorem wm_23_4 : Cond.selects RX10 yX10_firstWithSignatureOf yX10_firstWithSignatureOf ∈ wsL_law := sub_wsL_law_r23 _ (mem_at0 4 rfl)
set_option maxRecDepth 20000 in
theorem wm_23_5 : Cond.code yX10_firstWithSignatureOf cX10_firstWithSignatureOf 5 (some .int) ∈ wsL_law := sub_wsL_law_r23 _ (mem_at0 5 rfl)
set_option maxRecDepth 20000 in
theorem wm_23_6 : Cond.constant RX10 64 (-1640531535) ∈ wsL_law := sub_wsL_law_r23 _ (mem_at0 6 rfl)
set_option maxRecDepth 20000 in
theorem wm_23_7 : Cond.methodLink RL 91 yX12_classes ∈ wsL_law := sub_wsL_law_r23 _ (mem_at0 7 rfl)
set_option maxRecDepth 20000 in
theorem wm_23_8 : Cond.instanceMethod yX12_classes ∈ wsL_law := sub_wsL_law_r23 _ (mem_at0 8 rfl)
set_option maxRecDepth 20000 in
theorem wm_23_9 : Cond.selects RX12 yX12_classes yX12_classes ∈ wsL_law := sub_wsL_law_r23 _ (mem_at0 9 rfl)
set_option maxRecDepth 20000 in
theorem wm_23_10 : Cond.code yX12_classes cX12_classes 6 (some .int) ∈ wsL_law := sub_wsL_law_r23 _ (mem_at0 10 rfl)
set_option maxRecDepth 20000 in
theorem wm_23_11 : Cond.fieldLink RX12 216 "SubwordCounterModel" "signed" "I" ∈ wsL_law := sub_wsL_law_r23 _ (mem_at0 11 rfl)
set_option maxRecDepth 20000 in
theorem wm_23_12 : Cond.methodLink RX12 223 yX12_findSignatures ∈ wsL_law := sub_wsL_law_r23 _ (mem_at0 12 rfl)
set_option maxRecDepth 20000 in
theorem wm_23_13 : Cond.instanceMethod yX12_findSignatures ∈ wsL_law := sub_wsL_law_r23 _ (mem_at0 13 rfl)
set_option maxRecDepth 20000 in
theorem wm_23_14 : Cond.selects RX12 yX12_findSignatures yX12_findSignatures ∈ wsL_law := sub_wsL_law_r23 _ (mem_at0 14 rfl)
set_option maxRecDepth 20000 in
theorem wm_23_15 : Cond.code yX12_findSignatures cX12_findSignatures 4 none ∈ wsL_law := sub_wsL_law_r23 _ (mem_at0 15 rfl)
set_option maxRecDepth 20000 in
theorem wm_23_16 : Cond.methodLink RX12 219 yX12_spell ∈ wsL_law := sub_wsL_law_r23 _ (mem_at0 16 rfl)
set_option maxRecDepth 20000 in
theorem wm_23_17 : Cond.instanceMethod yX12_spell ∈ wsL_law := sub_wsL_law_r23 _ (mem_at0 17 rfl)
set_option maxRecDepth 20000 in
theorem wm_23_18 : Cond.selects RX12 yX12_spell yX12_spell ∈ wsL_law := sub_wsL_law_r23 _ (mem_at0 18 rfl)
set_option maxRecDepth 20000 in
theorem wm_23_19 : Cond.code yX12_spell cX12_spell 6 none ∈ wsL_law := sub_wsL_law_r23 _ (mem_at0 19 rfl)
set_option maxRecDepth 20000 in
theorem wm_23_20 : Cond.methodLink RL 92 yX11_classSize ∈ wsL_law := sub_wsL_law_r23 _ (mem_at0 20 rfl)
set_option maxRecDepth 20000 in
theorem wm_23_21 : Cond.instanceMethod yX11_classSize ∈ wsL_law := sub_wsL_law_r23 _ (mem_at0 21 rfl)
set_option maxRecDepth 20000 in
theorem wm_23_22 : Cond.selects RX11 yX11_classSize yX11_classSize ∈ wsL_law := sub_wsL_law_r23 _ (mem_at0 22 rfl)
set_option maxRecDepth 20000 in
theorem wm_23_23 : Cond.code yX11_classSize cX11_classSize 3 (some .int) ∈ wsL_law := sub_wsL_law_r23 _ (mem_at0 23 rfl)
set_option maxRecDepth 20000 in
theorem sub_wsL_law_r24 : ∀ w ∈ wsL_law_r24, w ∈ wsL_law := fun w h => (List.mem_append_left _ (List.mem_append_left _ (List.mem_append_left _ (List.mem_append_left _ (List.mem_append_left _ (List.mem_append_left _ (List.mem_append_left _ (List.mem_append_left _ (List.mem_append_left _ (List.mem_append_left _ (List.mem_append_left _ (List.mem_append_left _ (List.mem_append_left _ (List.mem_append_right _ (List.mem_append_right _ (List.mem_append_right _ (List.mem_append_right _ (List.mem_append_right _ (List.mem_append_right _ (List.mem_append_right _ (List.mem_append_right _ (List.mem_append_right _ (List.mem_append_right _ (List.mem_append_right _ (List.mem_append_right _ (List.mem_append_right _ (List.mem_append_right _ (List.mem_append_right _ (List.mem_append_right _ (List.mem_append_right _ (List.mem_append_right _ (List.mem_append_right _ (List.mem_append_right _ (List.mem_append_right _ (List.mem_append_right _ (List.mem_append_right _ (List.mem_append_left _ h)))))))))))))))))))))))))))))))))))))
set_option maxRecDepth 20000 in
theorem wm_24_0 : Cond.methodLink RX11 180 yX10_wordsWith ∈ wsL_law := sub_wsL_law_r24 _ (mem_at0 0 rfl)
set_option maxRecDepth 20000 in
theorem wm_24_1 : Cond.instanceMethod yX10_wordsWith ∈ wsL_law := sub_wsL_law_r24 _ (mem_at0 1 rfl)
set_option maxRecDepth 20000 in
theorem wm_24_2 : Cond.selects RX10 yX10_wordsWith yX10_wordsWith ∈ wsL_law := sub_wsL_law_r24 _ (mem_at0 2 rfl)
set_option maxRecDepth 20000 in
theorem wm_24_3 : Cond.code yX10_wordsWith cX10_wordsWith 4 (some .int) ∈ wsL_law := sub_wsL_law_r24 _ (mem_at0 3 rfl)
set_option maxRecDepth 20000 in
theorem wm_24_4 : Cond.methodLink RL 95 yX12_classSize ∈ wsL_law := sub_wsL_law_r24 _ (mem_at0 4 rfl)
set_option maxRecDepth 20000 in
theorem wm_24_5 : Cond.instanceMethod yX12_classSize ∈ wsL_law := sub_wsL_law_r24 _ (mem_at0 5 rfl)
set_option maxRecDepth 20000 in
theorem wm_24_6 : Cond.selects RX12 yX12_classSize yX12_classSize ∈ wsL_law := sub_wsL_law_r24 _ (mem_at0 6 rfl)
set_option maxRecDepth 20000 in
theorem wm_24_7 : Cond.code yX12_classSize cX12_classSize 5 (some .int) ∈ wsL_law := sub_wsL_law_r24 _ (mem_at0 7 rfl)
set_option maxRecDepth 20000 in
theorem wm_24_8 : Cond.methodLink RL 96 yX11_findCollision ∈ wsL_law := sub_wsL_law_r24 _ (mem_at0 8 rfl)
set_option maxRecDepth 20000 in
theorem wm_24_9 : Cond.instanceMethod yX11_findCollision ∈ wsL_law := sub_wsL_law_r24 _ (mem_at0 9 rfl)
set_option maxRecDepth 20000 in
theorem wm_24_10 : Cond.selects RX11 yX11_findCollision yX11_findCollision ∈ wsL_law := sub_wsL_law_r24 _ (mem_at0 10 rfl)
set_option maxRecDepth 20000 in
theorem wm_24_11 : Cond.code yX11_findCollision cX11_findCollision 2 (some .int) ∈ wsL_law := sub_wsL_law_r24 _ (mem_at0 11 rfl)
set_option maxRecDepth 20000 in
theorem wm_24_12 : Cond.fieldLink RX11 198 "SubwordCounter$WordList" "pairFirst" "I" ∈ wsL_law := sub_wsL_law_r24 _ (mem_at0 12 rfl)
set_option maxRecDepth 20000 in
theorem wm_24_13 : Cond.fieldLink RX11 201 "SubwordCounter$WordList" "pairSecond" "I" ∈ wsL_law := sub_wsL_law_r24 _ (mem_at0 13 rfl)
set_option maxRecDepth 20000 in
theorem wm_24_14 : Cond.methodLink RX11 184 yX10_start ∈ wsL_law := sub_wsL_law_r24 _ (mem_at0 14 rfl)
set_option maxRecDepth 20000 in
theorem wm_24_15 : Cond.methodLink RX11 187 yX10_lengthen ∈ wsL_law := sub_wsL_law_r24 _ (mem_at0 15 rfl)
set_option maxRecDepth 20000 in
theorem wm_24_16 : Cond.methodLink RX11 191 yX10_sign ∈ wsL_law := sub_wsL_law_r24 _ (mem_at0 16 rfl)
set_option maxRecDepth 20000 in
theorem wm_24_17 : Cond.methodLink RX11 195 yX10_findPair ∈ wsL_law := sub_wsL_law_r24 _ (mem_at0 17 rfl)
set_option maxRecDepth 20000 in
theorem wm_24_18 : Cond.instanceMethod yX10_findPair ∈ wsL_law := sub_wsL_law_r24 _ (mem_at0 18 rfl)
set_option maxRecDepth 20000 in
theorem wm_24_19 : Cond.selects RX10 yX10_findPair yX10_findPair ∈ wsL_law := sub_wsL_law_r24 _ (mem_at0 19 rfl)
set_option maxRecDepth 20000 in
theorem wm_24_20 : Cond.code yX10_findPair cX10_findPair 3 (some .boolean) ∈ wsL_law := sub_wsL_law_r24 _ (mem_at0 20 rfl)
set_option maxRecDepth 20000 in
theorem wm_24_21 : Cond.methodLink RL 99 yX12_findCollision ∈ wsL_law := sub_wsL_law_r24 _ (mem_at0 21 rfl)
set_option maxRecDepth 20000 in
theorem wm_24_22 : Cond.instanceMethod yX12_findCollision ∈ wsL_law := sub_wsL_law_r24 _ (mem_at0 22 rfl)
set_option maxRecDepth 20000 in
theorem wm_24_23 : Cond.selects RX12 yX12_findCollision yX12_findCollision ∈ wsL_law := sub_wsL_law_r24 _ (mem_at0 23 rfl)
set_option maxRecDepth 20000 in
theorem sub_wsL_law_r25 : ∀ w ∈ wsL_law_r25, w ∈ wsL_law := fun w h => (List.mem_append_left _ (List.mem_append_left _ (List.mem_append_left _ (List.mem_append_left _ (List.mem_append_left _ (List.mem_append_left _ (List.mem_append_left _ (List.mem_append_left _ (List.mem_append_left _ (List.mem_append_left _ (List.mem_append_left _ (List.mem_append_left _ (List.mem_append_left _ (List.mem_append_right _ (List.mem_append_right _ (List.mem_append_right _ (List.mem_append_right _ (List.mem_append_right _ (List.mem_append_right _ (List.mem_append_right _ (List.mem_append_right _ (List.mem_append_right _ (List.mem_append_right _ (List.mem_append_right _ (List.mem_append_right _ (List.mem_append_right _ (List.mem_append_right _ (List.mem_append_right _ (List.mem_append_right _ (List.mem_append_right _ (List.mem_append_right _ (List.mem_append_right _ (List.mem_append_right _ (List.mem_append_right _ (List.mem_append_right _ (List.mem_append_right _ (List.mem_append_right _ (List.mem_append_left _ h))))))))))))))))))))))))))))))))))))))
set_option maxRecDepth 20000 in
theorem wm_25_0 : Cond.code yX12_findCollision cX12_findCollision 4 (some .int) ∈ wsL_law := sub_wsL_law_r25 _ (mem_at0 0 rfl)
set_option maxRecDepth 20000 in
theorem wm_25_1 : Cond.methodLink RL 100 yX11_states ∈ wsL_law := sub_wsL_law_r25 _ (mem_at0 1 rfl)
set_option maxRecDepth 20000 in
theorem wm_25_2 : Cond.instanceMethod yX11_states ∈ wsL_law := sub_wsL_law_r25 _ (mem_at0 2 rfl)
set_option maxRecDepth 20000 in
theorem wm_25_3 : Cond.selects RX11 yX11_states yX11_states ∈ wsL_law := sub_wsL_law_r25 _ (mem_at0 3 rfl)
set_option maxRecDepth 20000 in
theorem wm_25_4 : Cond.code yX11_states cX11_states 2 (some .int) ∈ wsL_law := sub_wsL_law_r25 _ (mem_at0 4 rfl)
set_option maxRecDepth 20000 in
theorem wm_25_5 : Cond.fieldLink RX11 207 "SubwordCounter$Automaton" "states" "I" ∈ wsL_law := sub_wsL_law_r25 _ (mem_at0 5 rfl)
set_option maxRecDepth 20000 in
theorem wm_25_6 : Cond.methodLink RX11 204 yX11_exploreTest ∈ wsL_law := sub_wsL_law_r25 _ (mem_at0 6 rfl)
set_option maxRecDepth 20000 in
theorem wm_25_7 : Cond.instanceMethod yX11_exploreTest ∈ wsL_law := sub_wsL_law_r25 _ (mem_at0 7 rfl)
set_option maxRecDepth 20000 in
theorem wm_25_8 : Cond.selects RX11 yX11_exploreTest yX11_exploreTest ∈ wsL_law := sub_wsL_law_r25 _ (mem_at0 8 rfl)
set_option maxRecDepth 20000 in
theorem wm_25_9 : Cond.code yX11_exploreTest cX11_exploreTest 2 (some .boolean) ∈ wsL_law := sub_wsL_law_r25 _ (mem_at0 9 rfl)
set_option maxRecDepth 20000 in
theorem wm_25_10 : Cond.fieldLink RX11 320 "SubwordCounter$Automaton" "tests" "LSubwordCounter$Bundle;" ∈ wsL_law := sub_wsL_law_r25 _ (mem_at0 10 rfl)
set_option maxRecDepth 20000 in
theorem wm_25_11 : Cond.methodLink RX11 319 yX0_restart ∈ wsL_law := sub_wsL_law_r25 _ (mem_at0 11 rfl)
set_option maxRecDepth 20000 in
theorem wm_25_12 : Cond.instanceMethod yX0_restart ∈ wsL_law := sub_wsL_law_r25 _ (mem_at0 12 rfl)
set_option maxRecDepth 20000 in
theorem wm_25_13 : Cond.selects RX0 yX0_restart yX0_restart ∈ wsL_law := sub_wsL_law_r25 _ (mem_at0 13 rfl)
set_option maxRecDepth 20000 in
theorem wm_25_14 : Cond.code yX0_restart cX0_restart 2 none ∈ wsL_law := sub_wsL_law_r25 _ (mem_at0 14 rfl)
set_option maxRecDepth 20000 in
theorem wm_25_15 : Cond.fieldLink RX0 57 "SubwordCounter$Bundle" "count" "I" ∈ wsL_law := sub_wsL_law_r25 _ (mem_at0 15 rfl)
set_option maxRecDepth 20000 in
theorem wm_25_16 : Cond.methodLink RX11 321 yX0_explore ∈ wsL_law := sub_wsL_law_r25 _ (mem_at0 16 rfl)
set_option maxRecDepth 20000 in
theorem wm_25_17 : Cond.instanceMethod yX0_explore ∈ wsL_law := sub_wsL_law_r25 _ (mem_at0 17 rfl)
set_option maxRecDepth 20000 in
theorem wm_25_18 : Cond.selects RX0 yX0_explore yX0_explore ∈ wsL_law := sub_wsL_law_r25 _ (mem_at0 18 rfl)
set_option maxRecDepth 20000 in
theorem wm_25_19 : Cond.code yX0_explore cX0_explore 5 (some .boolean) ∈ wsL_law := sub_wsL_law_r25 _ (mem_at0 19 rfl)
set_option maxRecDepth 20000 in
theorem wm_25_20 : Cond.methodLink RX0 60 yJ7_fill_53178 ∈ wsL_law := sub_wsL_law_r25 _ (mem_at0 20 rfl)
set_option maxRecDepth 20000 in
theorem wm_25_21 : Cond.methodLink RX0 66 yX0_reach ∈ wsL_law := sub_wsL_law_r25 _ (mem_at0 21 rfl)
set_option maxRecDepth 20000 in
theorem wm_25_22 : Cond.instanceMethod yX0_reach ∈ wsL_law := sub_wsL_law_r25 _ (mem_at0 22 rfl)
set_option maxRecDepth 20000 in
theorem wm_25_23 : Cond.selects RX0 yX0_reach yX0_reach ∈ wsL_law := sub_wsL_law_r25 _ (mem_at0 23 rfl)
set_option maxRecDepth 20000 in
theorem sub_wsL_law_r26 : ∀ w ∈ wsL_law_r26, w ∈ wsL_law := fun w h => (List.mem_append_left _ (List.mem_append_left _ (List.mem_append_left _ (List.mem_append_left _ (List.mem_append_left _ (List.mem_append_left _ (List.mem_append_left _ (List.mem_append_left _ (List.mem_append_left _ (List.mem_append_left _ (List.mem_append_left _ (List.mem_append_left _ (List.mem_append_left _ (List.mem_append_right _ (List.mem_append_right _ (List.mem_append_right _ (List.mem_append_right _ (List.mem_append_right _ (List.mem_append_right _ (List.mem_append_right _ (List.mem_append_right _ (List.mem_append_right _ (List.mem_append_right _ (List.mem_append_right _ (List.mem_append_right _ (List.mem_append_right _ (List.mem_append_right _ (List.mem_append_right _ (List.mem_append_right _ (List.mem_append_right _ (List.mem_append_right _ (List.mem_append_right _ (List.mem_append_right _ (List.mem_append_right _ (List.mem_append_right _ (List.mem_append_right _ (List.mem_append_right _ (List.mem_append_right _ (List.mem_append_left _ h)))))))))))))))))))))))))))))))))))))))
set_option maxRecDepth 20000 in
theorem wm_26_0 : Cond.code yX0_reach cX0_reach 11 (some .int) ∈ wsL_law := sub_wsL_law_r26 _ (mem_at0 0 rfl)
set_option maxRecDepth 20000 in
theorem wm_26_1 : Cond.constantLong RX0 74 (-7046029254386353131) ∈ wsL_law := sub_wsL_law_r26 _ (mem_at0 1 rfl)
set_option maxRecDepth 20000 in
theorem wm_26_2 : Cond.constantLong RX0 76 (-4417276706812531889) ∈ wsL_law := sub_wsL_law_r26 _ (mem_at0 2 rfl)
set_option maxRecDepth 20000 in
theorem wm_26_3 : Cond.constantLong RX0 78 (-4658895280553007687) ∈ wsL_law := sub_wsL_law_r26 _ (mem_at0 3 rfl)
set_option maxRecDepth 20000 in
theorem wm_26_4 : Cond.methodLink RX0 80 yX0_settle ∈ wsL_law := sub_wsL_law_r26 _ (mem_at0 4 rfl)
set_option maxRecDepth 20000 in
theorem wm_26_5 : Cond.instanceMethod yX0_settle ∈ wsL_law := sub_wsL_law_r26 _ (mem_at0 5 rfl)
set_option maxRecDepth 20000 in
theorem wm_26_6 : Cond.selects RX0 yX0_settle yX0_settle ∈ wsL_law := sub_wsL_law_r26 _ (mem_at0 6 rfl)
set_option maxRecDepth 20000 in
theorem wm_26_7 : Cond.code yX0_settle cX0_settle 6 (some .int) ∈ wsL_law := sub_wsL_law_r26 _ (mem_at0 7 rfl)
set_option maxRecDepth 20000 in
theorem wm_26_8 : Cond.methodLink RX0 70 yX1_step ∈ wsL_law := sub_wsL_law_r26 _ (mem_at0 8 rfl)
set_option maxRecDepth 20000 in
theorem wm_26_9 : Cond.methodLink RX11 324 yX0_markValues ∈ wsL_law := sub_wsL_law_r26 _ (mem_at0 9 rfl)
set_option maxRecDepth 20000 in
theorem wm_26_10 : Cond.instanceMethod yX0_markValues ∈ wsL_law := sub_wsL_law_r26 _ (mem_at0 10 rfl)
set_option maxRecDepth 20000 in
theorem wm_26_11 : Cond.selects RX0 yX0_markValues yX0_markValues ∈ wsL_law := sub_wsL_law_r26 _ (mem_at0 11 rfl)
set_option maxRecDepth 20000 in
theorem wm_26_12 : Cond.code yX0_markValues cX0_markValues 2 none ∈ wsL_law := sub_wsL_law_r26 _ (mem_at0 12 rfl)
set_option maxRecDepth 20000 in
theorem wm_26_13 : Cond.methodLink RX0 84 yX1_valueAt ∈ wsL_law := sub_wsL_law_r26 _ (mem_at0 13 rfl)
set_option maxRecDepth 20000 in
theorem wm_26_14 : Cond.methodLink RL 103 yX12_states ∈ wsL_law := sub_wsL_law_r26 _ (mem_at0 14 rfl)
set_option maxRecDepth 20000 in
theorem wm_26_15 : Cond.instanceMethod yX12_states ∈ wsL_law := sub_wsL_law_r26 _ (mem_at0 15 rfl)
set_option maxRecDepth 20000 in
theorem wm_26_16 : Cond.selects RX12 yX12_states yX12_states ∈ wsL_law := sub_wsL_law_r26 _ (mem_at0 16 rfl)
set_option maxRecDepth 20000 in
theorem wm_26_17 : Cond.code yX12_states cX12_states 2 (some .int) ∈ wsL_law := sub_wsL_law_r26 _ (mem_at0 17 rfl)
set_option maxRecDepth 20000 in
theorem wm_26_18 : Cond.fieldLink RX12 266 "SubwordCounterModel" "states" "I" ∈ wsL_law := sub_wsL_law_r26 _ (mem_at0 18 rfl)
set_option maxRecDepth 20000 in
theorem wm_26_19 : Cond.methodLink RX12 323 yX12_buildsTest ∈ wsL_law := sub_wsL_law_r26 _ (mem_at0 19 rfl)
set_option maxRecDepth 20000 in
theorem wm_26_20 : Cond.instanceMethod yX12_buildsTest ∈ wsL_law := sub_wsL_law_r26 _ (mem_at0 20 rfl)
set_option maxRecDepth 20000 in
theorem wm_26_21 : Cond.selects RX12 yX12_buildsTest yX12_buildsTest ∈ wsL_law := sub_wsL_law_r26 _ (mem_at0 21 rfl)
set_option maxRecDepth 20000 in
theorem wm_26_22 : Cond.code yX12_buildsTest cX12_buildsTest 2 (some .boolean) ∈ wsL_law := sub_wsL_law_r26 _ (mem_at0 22 rfl)
set_option maxRecDepth 20000 in
theorem wm_26_23 : Cond.fieldLink RX12 244 "SubwordCounterModel" "machineParts" "I" ∈ wsL_law := sub_wsL_law_r26 _ (mem_at0 23 rfl)
set_option maxRecDepth 20000 in
theorem sub_wsL_law_r27 : ∀ w ∈ wsL_law_r27, w ∈ wsL_law := fun w h => (List.mem_append_left _ (List.mem_append_left _ (List.mem_append_left _ (List.mem_append_left _ (List.mem_append_left _ (List.mem_append_left _ (List.mem_append_left _ (List.mem_append_left _ (List.mem_append_left _ (List.mem_append_left _ (List.mem_append_left _ (List.mem_append_left _ (List.mem_append_left _ (List.mem_append_right _ (List.mem_append_right _ (List.mem_append_right _ (List.mem_append_right _ (List.mem_append_right _ (List.mem_append_right _ (List.mem_append_right _ (List.mem_append_right _ (List.mem_append_right _ (List.mem_append_right _ (List.mem_append_right _ (List.mem_append_right _ (List.mem_append_right _ (List.mem_append_right _ (List.mem_append_right _ (List.mem_append_right _ (List.mem_append_right _ (List.mem_append_right _ (List.mem_append_right _ (List.mem_append_right _ (List.mem_append_right _ (List.mem_append_right _ (List.mem_append_right _ (List.mem_append_right _ (List.mem_append_right _ (List.mem_append_right _ (List.mem_append_left _ h))))))))))))))))))))))))))))))))))))))))
set_option maxRecDepth 20000 in
theorem wm_27_0 : Cond.fieldLink RX12 297 "SubwordCounterModel" "isPair" "Z" ∈ wsL_law := sub_wsL_law_r27 _ (mem_at0 0 rfl)
set_option maxRecDepth 20000 in
theorem wm_27_1 : Cond.methodLink RX12 247 yX12_addPart ∈ wsL_law := sub_wsL_law_r27 _ (mem_at0 1 rfl)
set_option maxRecDepth 20000 in
theorem wm_27_2 : Cond.instanceMethod yX12_addPart ∈ wsL_law := sub_wsL_law_r27 _ (mem_at0 2 rfl)
set_option maxRecDepth 20000 in
theorem wm_27_3 : Cond.selects RX12 yX12_addPart yX12_addPart ∈ wsL_law := sub_wsL_law_r27 _ (mem_at0 3 rfl)
set_option maxRecDepth 20000 in
theorem wm_27_4 : Cond.code yX12_addPart cX12_addPart 9 none ∈ wsL_law := sub_wsL_law_r27 _ (mem_at0 4 rfl)
set_option maxRecDepth 20000 in
theorem wm_27_5 : Cond.methodLink RX12 317 yX12_builds ∈ wsL_law := sub_wsL_law_r27 _ (mem_at0 5 rfl)
set_option maxRecDepth 20000 in
theorem wm_27_6 : Cond.instanceMethod yX12_builds ∈ wsL_law := sub_wsL_law_r27 _ (mem_at0 6 rfl)
set_option maxRecDepth 20000 in
theorem wm_27_7 : Cond.selects RX12 yX12_builds yX12_builds ∈ wsL_law := sub_wsL_law_r27 _ (mem_at0 7 rfl)
set_option maxRecDepth 20000 in
theorem wm_27_8 : Cond.code yX12_builds cX12_builds 8 (some .boolean) ∈ wsL_law := sub_wsL_law_r27 _ (mem_at0 8 rfl)
set_option maxRecDepth 20000 in
theorem wm_27_9 : Cond.methodLink RX12 273 yX12_clearKeys ∈ wsL_law := sub_wsL_law_r27 _ (mem_at0 9 rfl)
set_option maxRecDepth 20000 in
theorem wm_27_10 : Cond.instanceMethod yX12_clearKeys ∈ wsL_law := sub_wsL_law_r27 _ (mem_at0 10 rfl)
set_option maxRecDepth 20000 in
theorem wm_27_11 : Cond.selects RX12 yX12_clearKeys yX12_clearKeys ∈ wsL_law := sub_wsL_law_r27 _ (mem_at0 11 rfl)
set_option maxRecDepth 20000 in
theorem wm_27_12 : Cond.code yX12_clearKeys cX12_clearKeys 2 none ∈ wsL_law := sub_wsL_law_r27 _ (mem_at0 12 rfl)
set_option maxRecDepth 20000 in
theorem wm_27_13 : Cond.methodLink RX12 276 yX12_slotOf ∈ wsL_law := sub_wsL_law_r27 _ (mem_at0 13 rfl)
set_option maxRecDepth 20000 in
theorem wm_27_14 : Cond.instanceMethod yX12_slotOf ∈ wsL_law := sub_wsL_law_r27 _ (mem_at0 14 rfl)
set_option maxRecDepth 20000 in
theorem wm_27_15 : Cond.selects RX12 yX12_slotOf yX12_slotOf ∈ wsL_law := sub_wsL_law_r27 _ (mem_at0 15 rfl)
set_option maxRecDepth 20000 in
theorem wm_27_16 : Cond.code yX12_slotOf cX12_slotOf 6 (some .int) ∈ wsL_law := sub_wsL_law_r27 _ (mem_at0 16 rfl)
set_option maxRecDepth 20000 in
theorem wm_27_17 : Cond.constantLong RX12 260 (1000003) ∈ wsL_law := sub_wsL_law_r27 _ (mem_at0 17 rfl)
set_option maxRecDepth 20000 in
theorem wm_27_18 : Cond.constantLong RX12 262 (7919) ∈ wsL_law := sub_wsL_law_r27 _ (mem_at0 18 rfl)
set_option maxRecDepth 20000 in
theorem wm_27_19 : Cond.constantLong RX12 264 (8191) ∈ wsL_law := sub_wsL_law_r27 _ (mem_at0 19 rfl)
set_option maxRecDepth 20000 in
theorem wm_27_20 : Cond.methodLink RX12 280 yX12_addState ∈ wsL_law := sub_wsL_law_r27 _ (mem_at0 20 rfl)
set_option maxRecDepth 20000 in
theorem wm_27_21 : Cond.instanceMethod yX12_addState ∈ wsL_law := sub_wsL_law_r27 _ (mem_at0 21 rfl)
set_option maxRecDepth 20000 in
theorem wm_27_22 : Cond.selects RX12 yX12_addState yX12_addState ∈ wsL_law := sub_wsL_law_r27 _ (mem_at0 22 rfl)
set_option maxRecDepth 20000 in
theorem wm_27_23 : Cond.code yX12_addState cX12_addState 8 none ∈ wsL_law := sub_wsL_law_r27 _ (mem_at0 23 rfl)
set_option maxRecDepth 20000 in
theorem sub_wsL_law_r28 : ∀ w ∈ wsL_law_r28, w ∈ wsL_law := fun w h => (List.mem_append_left _ (List.mem_append_left _ (List.mem_append_left _ (List.mem_append_left _ (List.mem_append_left _ (List.mem_append_left _ (List.mem_append_left _ (List.mem_append_left _ (List.mem_append_left _ (List.mem_append_left _ (List.mem_append_left _ (List.mem_append_left _ (List.mem_append_left _ (List.mem_append_right _ (List.mem_append_right _ (List.mem_append_right _ (List.mem_append_right _ (List.mem_append_right _ (List.mem_append_right _ (List.mem_append_right _ (List.mem_append_right _ (List.mem_append_right _ (List.mem_append_right _ (List.mem_append_right _ (List.mem_append_right _ (List.mem_append_right _ (List.mem_append_right _ (List.mem_append_right _ (List.mem_append_right _ (List.mem_append_right _ (List.mem_append_right _ (List.mem_append_right _ (List.mem_append_right _ (List.mem_append_right _ (List.mem_append_right _ (List.mem_append_right _ (List.mem_append_right _ (List.mem_append_right _ (List.mem_append_right _ (List.mem_append_right _ (List.mem_append_left _ h)))))))))))))))))))))))))))))))))))))))))
set_option maxRecDepth 20000 in
theorem wm_28_0 : Cond.methodLink RX12 269 yX12_putKey ∈ wsL_law := sub_wsL_law_r28 _ (mem_at0 0 rfl)
set_option maxRecDepth 20000 in
theorem wm_28_1 : Cond.instanceMethod yX12_putKey ∈ wsL_law := sub_wsL_law_r28 _ (mem_at0 1 rfl)
set_option maxRecDepth 20000 in
theorem wm_28_2 : Cond.selects RX12 yX12_putKey yX12_putKey ∈ wsL_law := sub_wsL_law_r28 _ (mem_at0 2 rfl)
set_option maxRecDepth 20000 in
theorem wm_28_3 : Cond.code yX12_putKey cX12_putKey 7 none ∈ wsL_law := sub_wsL_law_r28 _ (mem_at0 3 rfl)
set_option maxRecDepth 20000 in
theorem wm_28_4 : Cond.methodLink RX12 284 yX12_steppedCode ∈ wsL_law := sub_wsL_law_r28 _ (mem_at0 4 rfl)
set_option maxRecDepth 20000 in
theorem wm_28_5 : Cond.instanceMethod yX12_steppedCode ∈ wsL_law := sub_wsL_law_r28 _ (mem_at0 5 rfl)
set_option maxRecDepth 20000 in
theorem wm_28_6 : Cond.selects RX12 yX12_steppedCode yX12_steppedCode ∈ wsL_law := sub_wsL_law_r28 _ (mem_at0 6 rfl)
set_option maxRecDepth 20000 in
theorem wm_28_7 : Cond.code yX12_steppedCode cX12_steppedCode 10 (some .long) ∈ wsL_law := sub_wsL_law_r28 _ (mem_at0 7 rfl)
set_option maxRecDepth 20000 in
theorem wm_28_8 : Cond.constantLong RX12 251 (10000) ∈ wsL_law := sub_wsL_law_r28 _ (mem_at0 8 rfl)
set_option maxRecDepth 20000 in
theorem wm_28_9 : Cond.methodLink RX12 253 yX12_digitsOf ∈ wsL_law := sub_wsL_law_r28 _ (mem_at0 9 rfl)
set_option maxRecDepth 20000 in
theorem wm_28_10 : Cond.static yX12_digitsOf ∈ wsL_law := sub_wsL_law_r28 _ (mem_at0 10 rfl)
set_option maxRecDepth 20000 in
theorem wm_28_11 : Cond.code yX12_digitsOf cX12_digitsOf 6 (some .int) ∈ wsL_law := sub_wsL_law_r28 _ (mem_at0 11 rfl)
set_option maxRecDepth 20000 in
theorem wm_28_12 : Cond.methodLink RX12 257 yX12_stepped ∈ wsL_law := sub_wsL_law_r28 _ (mem_at0 12 rfl)
set_option maxRecDepth 20000 in
theorem wm_28_13 : Cond.instanceMethod yX12_stepped ∈ wsL_law := sub_wsL_law_r28 _ (mem_at0 13 rfl)
set_option maxRecDepth 20000 in
theorem wm_28_14 : Cond.selects RX12 yX12_stepped yX12_stepped ∈ wsL_law := sub_wsL_law_r28 _ (mem_at0 14 rfl)
set_option maxRecDepth 20000 in
theorem wm_28_15 : Cond.code yX12_stepped cX12_stepped 7 (some .int) ∈ wsL_law := sub_wsL_law_r28 _ (mem_at0 15 rfl)
set_option maxRecDepth 20000 in
theorem wm_28_16 : Cond.methodLink RL 104 yX11_minimalStates ∈ wsL_law := sub_wsL_law_r28 _ (mem_at0 16 rfl)
set_option maxRecDepth 20000 in
theorem wm_28_17 : Cond.instanceMethod yX11_minimalStates ∈ wsL_law := sub_wsL_law_r28 _ (mem_at0 17 rfl)
set_option maxRecDepth 20000 in
theorem wm_28_18 : Cond.selects RX11 yX11_minimalStates yX11_minimalStates ∈ wsL_law := sub_wsL_law_r28 _ (mem_at0 18 rfl)
set_option maxRecDepth 20000 in
theorem wm_28_19 : Cond.code yX11_minimalStates cX11_minimalStates 2 (some .int) ∈ wsL_law := sub_wsL_law_r28 _ (mem_at0 19 rfl)
set_option maxRecDepth 20000 in
theorem wm_28_20 : Cond.fieldLink RX11 214 "SubwordCounter$Partition" "blocks" "I" ∈ wsL_law := sub_wsL_law_r28 _ (mem_at0 20 rfl)
set_option maxRecDepth 20000 in
theorem wm_28_21 : Cond.methodLink RX11 210 yX4_refine ∈ wsL_law := sub_wsL_law_r28 _ (mem_at0 21 rfl)
set_option maxRecDepth 20000 in
theorem wm_28_22 : Cond.instanceMethod yX4_refine ∈ wsL_law := sub_wsL_law_r28 _ (mem_at0 22 rfl)
set_option maxRecDepth 20000 in
theorem wm_28_23 : Cond.selects RX4 yX4_refine yX4_refine ∈ wsL_law := sub_wsL_law_r28 _ (mem_at0 23 rfl)
set_option maxRecDepth 20000 in
theorem sub_wsL_law_r29 : ∀ w ∈ wsL_law_r29, w ∈ wsL_law := fun w h => (List.mem_append_left _ (List.mem_append_left _ (List.mem_append_left _ (List.mem_append_left _ (List.mem_append_left _ (List.mem_append_left _ (List.mem_append_left _ (List.mem_append_left _ (List.mem_append_left _ (List.mem_append_left _ (List.mem_append_left _ (List.mem_append_left _ (List.mem_append_left _ (List.mem_append_right _ (List.mem_append_right _ (List.mem_append_right _ (List.mem_append_right _ (List.mem_append_right _ (List.mem_append_right _ (List.mem_append_right _ (List.mem_append_right _ (List.mem_append_right _ (List.mem_append_right _ (List.mem_append_right _ (List.mem_append_right _ (List.mem_append_right _ (List.mem_append_right _ (List.mem_append_right _ (List.mem_append_right _ (List.mem_append_right _ (List.mem_append_right _ (List.mem_append_right _ (List.mem_append_right _ (List.mem_append_right _ (List.mem_append_right _ (List.mem_append_right _ (List.mem_append_right _ (List.mem_append_right _ (List.mem_append_right _ (List.mem_append_right _ (List.mem_append_right _ (List.mem_append_left _ h))))))))))))))))))))))))))))))))))))))))))
set_option maxRecDepth 20000 in
theorem wm_29_0 : Cond.code yX4_refine cX4_refine 6 none ∈ wsL_law := sub_wsL_law_r29 _ (mem_at0 0 rfl)
set_option maxRecDepth 20000 in
theorem wm_29_1 : Cond.methodLink RX4 61 arraycopyName ∈ wsL_law := sub_wsL_law_r29 _ (mem_at0 1 rfl)
set_option maxRecDepth 20000 in
theorem wm_29_2 : Cond.fieldLink RX4 67 "SubwordCounter$Automaton" "letters" "I" ∈ wsL_law := sub_wsL_law_r29 _ (mem_at0 2 rfl)
set_option maxRecDepth 20000 in
theorem wm_29_3 : Cond.methodLink RX4 54 yX4_groupByMark ∈ wsL_law := sub_wsL_law_r29 _ (mem_at0 3 rfl)
set_option maxRecDepth 20000 in
theorem wm_29_4 : Cond.instanceMethod yX4_groupByMark ∈ wsL_law := sub_wsL_law_r29 _ (mem_at0 4 rfl)
set_option maxRecDepth 20000 in
theorem wm_29_5 : Cond.selects RX4 yX4_groupByMark yX4_groupByMark ∈ wsL_law := sub_wsL_law_r29 _ (mem_at0 5 rfl)
set_option maxRecDepth 20000 in
theorem wm_29_6 : Cond.code yX4_groupByMark cX4_groupByMark 6 none ∈ wsL_law := sub_wsL_law_r29 _ (mem_at0 6 rfl)
set_option maxRecDepth 20000 in
theorem wm_29_7 : Cond.fieldLink RX4 77 "SubwordCounter$Automaton" "states" "I" ∈ wsL_law := sub_wsL_law_r29 _ (mem_at0 7 rfl)
set_option maxRecDepth 20000 in
theorem wm_29_8 : Cond.fieldLink RX4 80 "SubwordCounter$Automaton" "marks" "[I" ∈ wsL_law := sub_wsL_law_r29 _ (mem_at0 8 rfl)
set_option maxRecDepth 20000 in
theorem wm_29_9 : Cond.methodLink RX4 83 yX4_openBlock ∈ wsL_law := sub_wsL_law_r29 _ (mem_at0 9 rfl)
set_option maxRecDepth 20000 in
theorem wm_29_10 : Cond.instanceMethod yX4_openBlock ∈ wsL_law := sub_wsL_law_r29 _ (mem_at0 10 rfl)
set_option maxRecDepth 20000 in
theorem wm_29_11 : Cond.selects RX4 yX4_openBlock yX4_openBlock ∈ wsL_law := sub_wsL_law_r29 _ (mem_at0 11 rfl)
set_option maxRecDepth 20000 in
theorem wm_29_12 : Cond.code yX4_openBlock cX4_openBlock 3 none ∈ wsL_law := sub_wsL_law_r29 _ (mem_at0 12 rfl)
set_option maxRecDepth 20000 in
theorem wm_29_13 : Cond.methodLink RX4 58 yX4_gatherSources ∈ wsL_law := sub_wsL_law_r29 _ (mem_at0 13 rfl)
set_option maxRecDepth 20000 in
theorem wm_29_14 : Cond.instanceMethod yX4_gatherSources ∈ wsL_law := sub_wsL_law_r29 _ (mem_at0 14 rfl)
set_option maxRecDepth 20000 in
theorem wm_29_15 : Cond.selects RX4 yX4_gatherSources yX4_gatherSources ∈ wsL_law := sub_wsL_law_r29 _ (mem_at0 15 rfl)
set_option maxRecDepth 20000 in
theorem wm_29_16 : Cond.code yX4_gatherSources cX4_gatherSources 7 none ∈ wsL_law := sub_wsL_law_r29 _ (mem_at0 16 rfl)
set_option maxRecDepth 20000 in
theorem wm_29_17 : Cond.fieldLink RX4 86 "SubwordCounter$Automaton" "next" "[I" ∈ wsL_law := sub_wsL_law_r29 _ (mem_at0 17 rfl)
set_option maxRecDepth 20000 in
theorem wm_29_18 : Cond.methodLink RX4 70 yX4_markSources ∈ wsL_law := sub_wsL_law_r29 _ (mem_at0 18 rfl)
set_option maxRecDepth 20000 in
theorem wm_29_19 : Cond.instanceMethod yX4_markSources ∈ wsL_law := sub_wsL_law_r29 _ (mem_at0 19 rfl)
set_option maxRecDepth 20000 in
theorem wm_29_20 : Cond.selects RX4 yX4_markSources yX4_markSources ∈ wsL_law := sub_wsL_law_r29 _ (mem_at0 20 rfl)
set_option maxRecDepth 20000 in
theorem wm_29_21 : Cond.code yX4_markSources cX4_markSources 5 none ∈ wsL_law := sub_wsL_law_r29 _ (mem_at0 21 rfl)
set_option maxRecDepth 20000 in
theorem wm_29_22 : Cond.methodLink RX4 89 yX4_mark ∈ wsL_law := sub_wsL_law_r29 _ (mem_at0 22 rfl)
set_option maxRecDepth 20000 in
theorem wm_29_23 : Cond.instanceMethod yX4_mark ∈ wsL_law := sub_wsL_law_r29 _ (mem_at0 23 rfl)
set_option maxRecDepth 20000 in
theorem sub_wsL_law_r30 : ∀ w ∈ wsL_law_r30, w ∈ wsL_law := fun w h => (List.mem_append_left _ (List.mem_append_left _ (List.mem_append_left _ (List.mem_append_left _ (List.mem_append_left _ (List.mem_append_left _ (List.mem_append_left _ (List.mem_append_left _ (List.mem_append_left _ (List.mem_append_left _ (List.mem_append_left _ (List.mem_append_left _ (List.mem_append_left _ (List.mem_append_right _ (List.mem_append_right _ (List.mem_append_right _ (List.mem_append_right _ (List.mem_append_right _ (List.mem_append_right _ (List.mem_append_right _ (List.mem_append_right _ (List.mem_append_right _ (List.mem_append_right _ (List.mem_append_right _ (List.mem_append_right _ (List.mem_append_right _ (List.mem_append_right _ (List.mem_append_right _ (List.mem_append_right _ (List.mem_append_right _ (List.mem_append_right _ (List.mem_append_right _ (List.mem_append_right _ (List.mem_append_right _ (List.mem_append_right _ (List.mem_append_right _ (List.mem_append_right _ (List.mem_append_right _ (List.mem_append_right _ (List.mem_append_right _ (List.mem_append_right _ (List.mem_append_right _ (List.mem_append_left _ h)))))))))))))))))))))))))))))))))))))))))))
set_option maxRecDepth 20000 in
theorem wm_30_0 : Cond.selects RX4 yX4_mark yX4_mark ∈ wsL_law := sub_wsL_law_r30 _ (mem_at0 0 rfl)
set_option maxRecDepth 20000 in
theorem wm_30_1 : Cond.code yX4_mark cX4_mark 6 none ∈ wsL_law := sub_wsL_law_r30 _ (mem_at0 1 rfl)
set_option maxRecDepth 20000 in
theorem wm_30_2 : Cond.methodLink RX4 74 yX4_splitTouched ∈ wsL_law := sub_wsL_law_r30 _ (mem_at0 2 rfl)
set_option maxRecDepth 20000 in
theorem wm_30_3 : Cond.instanceMethod yX4_splitTouched ∈ wsL_law := sub_wsL_law_r30 _ (mem_at0 3 rfl)
set_option maxRecDepth 20000 in
theorem wm_30_4 : Cond.selects RX4 yX4_splitTouched yX4_splitTouched ∈ wsL_law := sub_wsL_law_r30 _ (mem_at0 4 rfl)
set_option maxRecDepth 20000 in
theorem wm_30_5 : Cond.code yX4_splitTouched cX4_splitTouched 2 none ∈ wsL_law := sub_wsL_law_r30 _ (mem_at0 5 rfl)
set_option maxRecDepth 20000 in
theorem wm_30_6 : Cond.methodLink RX4 93 yX4_split ∈ wsL_law := sub_wsL_law_r30 _ (mem_at0 6 rfl)
set_option maxRecDepth 20000 in
theorem wm_30_7 : Cond.instanceMethod yX4_split ∈ wsL_law := sub_wsL_law_r30 _ (mem_at0 7 rfl)
set_option maxRecDepth 20000 in
theorem wm_30_8 : Cond.selects RX4 yX4_split yX4_split ∈ wsL_law := sub_wsL_law_r30 _ (mem_at0 8 rfl)
set_option maxRecDepth 20000 in
theorem wm_30_9 : Cond.code yX4_split cX4_split 6 none ∈ wsL_law := sub_wsL_law_r30 _ (mem_at0 9 rfl)
set_option maxRecDepth 20000 in
theorem wm_30_10 : Cond.methodLink RL 107 yX12_minimalStates ∈ wsL_law := sub_wsL_law_r30 _ (mem_at0 10 rfl)
set_option maxRecDepth 20000 in
theorem wm_30_11 : Cond.instanceMethod yX12_minimalStates ∈ wsL_law := sub_wsL_law_r30 _ (mem_at0 11 rfl)
set_option maxRecDepth 20000 in
theorem wm_30_12 : Cond.selects RX12 yX12_minimalStates yX12_minimalStates ∈ wsL_law := sub_wsL_law_r30 _ (mem_at0 12 rfl)
set_option maxRecDepth 20000 in
theorem wm_30_13 : Cond.code yX12_minimalStates cX12_minimalStates 2 (some .int) ∈ wsL_law := sub_wsL_law_r30 _ (mem_at0 13 rfl)
set_option maxRecDepth 20000 in
theorem wm_30_14 : Cond.fieldLink RX12 310 "SubwordCounterModel" "stateClasses" "I" ∈ wsL_law := sub_wsL_law_r30 _ (mem_at0 14 rfl)
set_option maxRecDepth 20000 in
theorem wm_30_15 : Cond.methodLink RX12 326 yX12_minimize ∈ wsL_law := sub_wsL_law_r30 _ (mem_at0 15 rfl)
set_option maxRecDepth 20000 in
theorem wm_30_16 : Cond.instanceMethod yX12_minimize ∈ wsL_law := sub_wsL_law_r30 _ (mem_at0 16 rfl)
set_option maxRecDepth 20000 in
theorem wm_30_17 : Cond.selects RX12 yX12_minimize yX12_minimize ∈ wsL_law := sub_wsL_law_r30 _ (mem_at0 17 rfl)
set_option maxRecDepth 20000 in
theorem wm_30_18 : Cond.code yX12_minimize cX12_minimize 3 none ∈ wsL_law := sub_wsL_law_r30 _ (mem_at0 18 rfl)
set_option maxRecDepth 20000 in
theorem wm_30_19 : Cond.methodLink RX12 306 yX12_answerAt ∈ wsL_law := sub_wsL_law_r30 _ (mem_at0 19 rfl)
set_option maxRecDepth 20000 in
theorem wm_30_20 : Cond.instanceMethod yX12_answerAt ∈ wsL_law := sub_wsL_law_r30 _ (mem_at0 20 rfl)
set_option maxRecDepth 20000 in
theorem wm_30_21 : Cond.selects RX12 yX12_answerAt yX12_answerAt ∈ wsL_law := sub_wsL_law_r30 _ (mem_at0 21 rfl)
set_option maxRecDepth 20000 in
theorem wm_30_22 : Cond.code yX12_answerAt cX12_answerAt 5 (some .int) ∈ wsL_law := sub_wsL_law_r30 _ (mem_at0 22 rfl)
set_option maxRecDepth 20000 in
theorem wm_30_23 : Cond.fieldLink RX12 291 "SubwordCounterModel" "firstTruth" "I" ∈ wsL_law := sub_wsL_law_r30 _ (mem_at0 23 rfl)
set_option maxRecDepth 20000 in
theorem sub_wsL_law_r31 : ∀ w ∈ wsL_law_r31, w ∈ wsL_law := fun w h => (List.mem_append_left _ (List.mem_append_left _ (List.mem_append_left _ (List.mem_append_left _ (List.mem_append_left _ (List.mem_append_left _ (List.mem_append_left _ (List.mem_append_left _ (List.mem_append_left _ (List.mem_append_left _ (List.mem_append_left _ (List.mem_append_left _ (List.mem_append_left _ (List.mem_append_right _ (List.mem_append_right _ (List.mem_append_right _ (List.mem_append_right _ (List.mem_append_right _ (List.mem_append_right _ (List.mem_append_right _ (List.mem_append_right _ (List.mem_append_right _ (List.mem_append_right _ (List.mem_append_right _ (List.mem_append_right _ (List.mem_append_right _ (List.mem_append_right _ (List.mem_append_right _ (List.mem_append_right _ (List.mem_append_right _ (List.mem_append_right _ (List.mem_append_right _ (List.mem_append_right _ (List.mem_append_right _ (List.mem_append_right _ (List.mem_append_right _ (List.mem_append_right _ (List.mem_append_right _ (List.mem_append_right _ (List.mem_append_right _ (List.mem_append_right _ (List.mem_append_right _ (List.mem_append_right _ (List.mem_append_left _ h))))))))))))))))))))))))))))))))))))))))))))
set_option maxRecDepth 20000 in
theorem wm_31_0 : Cond.fieldLink RX12 294 "SubwordCounterModel" "firstParts" "I" ∈ wsL_law := sub_wsL_law_r31 _ (mem_at0 0 rfl)
set_option maxRecDepth 20000 in
theorem wm_31_1 : Cond.fieldLink RX12 301 "SubwordCounterModel" "secondTruth" "I" ∈ wsL_law := sub_wsL_law_r31 _ (mem_at0 1 rfl)
set_option maxRecDepth 20000 in
theorem wm_31_2 : Cond.methodLink RX12 288 yX12_valueAt ∈ wsL_law := sub_wsL_law_r31 _ (mem_at0 2 rfl)
set_option maxRecDepth 20000 in
theorem wm_31_3 : Cond.instanceMethod yX12_valueAt ∈ wsL_law := sub_wsL_law_r31 _ (mem_at0 3 rfl)
set_option maxRecDepth 20000 in
theorem wm_31_4 : Cond.selects RX12 yX12_valueAt yX12_valueAt ∈ wsL_law := sub_wsL_law_r31 _ (mem_at0 4 rfl)
set_option maxRecDepth 20000 in
theorem wm_31_5 : Cond.code yX12_valueAt cX12_valueAt 5 (some .int) ∈ wsL_law := sub_wsL_law_r31 _ (mem_at0 5 rfl)
set_option maxRecDepth 20000 in
theorem wm_31_6 : Cond.methodLink RX12 313 yX12_refine ∈ wsL_law := sub_wsL_law_r31 _ (mem_at0 6 rfl)
set_option maxRecDepth 20000 in
theorem wm_31_7 : Cond.instanceMethod yX12_refine ∈ wsL_law := sub_wsL_law_r31 _ (mem_at0 7 rfl)
set_option maxRecDepth 20000 in
theorem wm_31_8 : Cond.selects RX12 yX12_refine yX12_refine ∈ wsL_law := sub_wsL_law_r31 _ (mem_at0 8 rfl)
set_option maxRecDepth 20000 in
theorem wm_31_9 : Cond.code yX12_refine cX12_refine 6 (some .int) ∈ wsL_law := sub_wsL_law_r31 _ (mem_at0 9 rfl)
set_option maxRecDepth 20000 in
theorem wm_31_10 : Cond.constantLong RX12 304 (2048) ∈ wsL_law := sub_wsL_law_r31 _ (mem_at0 10 rfl)
set_option maxRecDepth 20000 in
theorem wm_31_11 : Cond.methodLink RL 108 yX11_monoidSize ∈ wsL_law := sub_wsL_law_r31 _ (mem_at0 11 rfl)
set_option maxRecDepth 20000 in
theorem wm_31_12 : Cond.instanceMethod yX11_monoidSize ∈ wsL_law := sub_wsL_law_r31 _ (mem_at0 12 rfl)
set_option maxRecDepth 20000 in
theorem wm_31_13 : Cond.selects RX11 yX11_monoidSize yX11_monoidSize ∈ wsL_law := sub_wsL_law_r31 _ (mem_at0 13 rfl)
set_option maxRecDepth 20000 in
theorem wm_31_14 : Cond.code yX11_monoidSize cX11_monoidSize 2 (some .int) ∈ wsL_law := sub_wsL_law_r31 _ (mem_at0 14 rfl)
set_option maxRecDepth 20000 in
theorem wm_31_15 : Cond.classLink RX11 217 RX3 ∈ wsL_law := sub_wsL_law_r31 _ (mem_at0 15 rfl)
set_option maxRecDepth 20000 in
theorem wm_31_16 : Cond.instantiable RX3 5 ∈ wsL_law := sub_wsL_law_r31 _ (mem_at0 16 rfl)
set_option maxRecDepth 20000 in
theorem wm_31_17 : Cond.initialized RX3 ∈ wsL_law := sub_wsL_law_r31 _ (mem_at0 17 rfl)
set_option maxRecDepth 20000 in
theorem wm_31_18 : Cond.fieldLink RX11 224 "SubwordCounter$Monoid" "count" "I" ∈ wsL_law := sub_wsL_law_r31 _ (mem_at0 18 rfl)
set_option maxRecDepth 20000 in
theorem wm_31_19 : Cond.instanceMethod yX3_init ∈ wsL_law := sub_wsL_law_r31 _ (mem_at0 19 rfl)
set_option maxRecDepth 20000 in
theorem wm_31_20 : Cond.code yX3_init cX3_init 1 none ∈ wsL_law := sub_wsL_law_r31 _ (mem_at0 20 rfl)
set_option maxRecDepth 20000 in
theorem wm_31_21 : Cond.methodLink RX3 3 objectInit ∈ wsL_law := sub_wsL_law_r31 _ (mem_at0 21 rfl)
set_option maxRecDepth 20000 in
theorem wm_31_22 : Cond.fieldLink RX3 9 "SubwordCounter$Monoid" "count" "I" ∈ wsL_law := sub_wsL_law_r31 _ (mem_at0 22 rfl)
set_option maxRecDepth 20000 in
theorem wm_31_23 : Cond.fieldLink RX3 15 "SubwordCounter$Monoid" "points" "I" ∈ wsL_law := sub_wsL_law_r31 _ (mem_at0 23 rfl)
set_option maxRecDepth 20000 in
theorem sub_wsL_law_r32 : ∀ w ∈ wsL_law_r32, w ∈ wsL_law := fun w h => (List.mem_append_left _ (List.mem_append_left _ (List.mem_append_left _ (List.mem_append_left _ (List.mem_append_left _ (List.mem_append_left _ (List.mem_append_left _ (List.mem_append_left _ (List.mem_append_left _ (List.mem_append_left _ (List.mem_append_left _ (List.mem_append_left _ (List.mem_append_left _ (List.mem_append_right _ (List.mem_append_right _ (List.mem_append_right _ (List.mem_append_right _ (List.mem_append_right _ (List.mem_append_right _ (List.mem_append_right _ (List.mem_append_right _ (List.mem_append_right _ (List.mem_append_right _ (List.mem_append_right _ (List.mem_append_right _ (List.mem_append_right _ (List.mem_append_right _ (List.mem_append_right _ (List.mem_append_right _ (List.mem_append_right _ (List.mem_append_right _ (List.mem_append_right _ (List.mem_append_right _ (List.mem_append_right _ (List.mem_append_right _ (List.mem_append_right _ (List.mem_append_right _ (List.mem_append_right _ (List.mem_append_right _ (List.mem_append_right _ (List.mem_append_right _ (List.mem_append_right _ (List.mem_append_right _ (List.mem_append_right _ (List.mem_append_left _ h)))))))))))))))))))))))))))))))))))))))))))))
set_option maxRecDepth 20000 in
theorem wm_32_0 : Cond.fieldLink RX3 18 "SubwordCounter$Monoid" "generators" "[I" ∈ wsL_law := sub_wsL_law_r32 _ (mem_at0 0 rfl)
set_option maxRecDepth 20000 in
theorem wm_32_1 : Cond.constant RX3 22 (160400) ∈ wsL_law := sub_wsL_law_r32 _ (mem_at0 1 rfl)
set_option maxRecDepth 20000 in
theorem wm_32_2 : Cond.fieldLink RX3 23 "SubwordCounter$Monoid" "images" "[I" ∈ wsL_law := sub_wsL_law_r32 _ (mem_at0 2 rfl)
set_option maxRecDepth 20000 in
theorem wm_32_3 : Cond.fieldLink RX3 26 "SubwordCounter$Monoid" "slots" "[I" ∈ wsL_law := sub_wsL_law_r32 _ (mem_at0 3 rfl)
set_option maxRecDepth 20000 in
theorem wm_32_4 : Cond.methodLink RX11 220 yX3_generate ∈ wsL_law := sub_wsL_law_r32 _ (mem_at0 4 rfl)
set_option maxRecDepth 20000 in
theorem wm_32_5 : Cond.instanceMethod yX3_generate ∈ wsL_law := sub_wsL_law_r32 _ (mem_at0 5 rfl)
set_option maxRecDepth 20000 in
theorem wm_32_6 : Cond.selects RX3 yX3_generate yX3_generate ∈ wsL_law := sub_wsL_law_r32 _ (mem_at0 6 rfl)
set_option maxRecDepth 20000 in
theorem wm_32_7 : Cond.code yX3_generate cX3_generate 5 (some .boolean) ∈ wsL_law := sub_wsL_law_r32 _ (mem_at0 7 rfl)
set_option maxRecDepth 20000 in
theorem wm_32_8 : Cond.fieldLink RX3 29 "SubwordCounter$Partition" "blocks" "I" ∈ wsL_law := sub_wsL_law_r32 _ (mem_at0 8 rfl)
set_option maxRecDepth 20000 in
theorem wm_32_9 : Cond.fieldLink RX3 41 "SubwordCounter$Automaton" "letters" "I" ∈ wsL_law := sub_wsL_law_r32 _ (mem_at0 9 rfl)
set_option maxRecDepth 20000 in
theorem wm_32_10 : Cond.methodLink RX3 34 yX3_takeGenerators ∈ wsL_law := sub_wsL_law_r32 _ (mem_at0 10 rfl)
set_option maxRecDepth 20000 in
theorem wm_32_11 : Cond.instanceMethod yX3_takeGenerators ∈ wsL_law := sub_wsL_law_r32 _ (mem_at0 11 rfl)
set_option maxRecDepth 20000 in
theorem wm_32_12 : Cond.selects RX3 yX3_takeGenerators yX3_takeGenerators ∈ wsL_law := sub_wsL_law_r32 _ (mem_at0 12 rfl)
set_option maxRecDepth 20000 in
theorem wm_32_13 : Cond.code yX3_takeGenerators cX3_takeGenerators 5 none ∈ wsL_law := sub_wsL_law_r32 _ (mem_at0 13 rfl)
set_option maxRecDepth 20000 in
theorem wm_32_14 : Cond.methodLink RX3 54 yX4_nextBlock ∈ wsL_law := sub_wsL_law_r32 _ (mem_at0 14 rfl)
set_option maxRecDepth 20000 in
theorem wm_32_15 : Cond.instanceMethod yX4_nextBlock ∈ wsL_law := sub_wsL_law_r32 _ (mem_at0 15 rfl)
set_option maxRecDepth 20000 in
theorem wm_32_16 : Cond.selects RX4 yX4_nextBlock yX4_nextBlock ∈ wsL_law := sub_wsL_law_r32 _ (mem_at0 16 rfl)
set_option maxRecDepth 20000 in
theorem wm_32_17 : Cond.code yX4_nextBlock cX4_nextBlock 4 (some .int) ∈ wsL_law := sub_wsL_law_r32 _ (mem_at0 17 rfl)
set_option maxRecDepth 20000 in
theorem wm_32_18 : Cond.methodLink RX3 38 yX3_startWithIdentity ∈ wsL_law := sub_wsL_law_r32 _ (mem_at0 18 rfl)
set_option maxRecDepth 20000 in
theorem wm_32_19 : Cond.instanceMethod yX3_startWithIdentity ∈ wsL_law := sub_wsL_law_r32 _ (mem_at0 19 rfl)
set_option maxRecDepth 20000 in
theorem wm_32_20 : Cond.selects RX3 yX3_startWithIdentity yX3_startWithIdentity ∈ wsL_law := sub_wsL_law_r32 _ (mem_at0 20 rfl)
set_option maxRecDepth 20000 in
theorem wm_32_21 : Cond.code yX3_startWithIdentity cX3_startWithIdentity 2 none ∈ wsL_law := sub_wsL_law_r32 _ (mem_at0 21 rfl)
set_option maxRecDepth 20000 in
theorem wm_32_22 : Cond.methodLink RX3 58 yJ7_fill_53178 ∈ wsL_law := sub_wsL_law_r32 _ (mem_at0 22 rfl)
set_option maxRecDepth 20000 in
theorem wm_32_23 : Cond.methodLink RX3 50 yX3_settleLast ∈ wsL_law := sub_wsL_law_r32 _ (mem_at0 23 rfl)
set_option maxRecDepth 20000 in
theorem sub_wsL_law_r33 : ∀ w ∈ wsL_law_r33, w ∈ wsL_law := fun w h => (List.mem_append_left _ (List.mem_append_left _ (List.mem_append_left _ (List.mem_append_left _ (List.mem_append_left _ (List.mem_append_left _ (List.mem_append_left _ (List.mem_append_left _ (List.mem_append_left _ (List.mem_append_left _ (List.mem_append_left _ (List.mem_append_left _ (List.mem_append_left _ (List.mem_append_right _ (List.mem_append_right _ (List.mem_append_right _ (List.mem_append_right _ (List.mem_append_right _ (List.mem_append_right _ (List.mem_append_right _ (List.mem_append_right _ (List.mem_append_right _ (List.mem_append_right _ (List.mem_append_right _ (List.mem_append_right _ (List.mem_append_right _ (List.mem_append_right _ (List.mem_append_right _ (List.mem_append_right _ (List.mem_append_right _ (List.mem_append_right _ (List.mem_append_right _ (List.mem_append_right _ (List.mem_append_right _ (List.mem_append_right _ (List.mem_append_right _ (List.mem_append_right _ (List.mem_append_right _ (List.mem_append_right _ (List.mem_append_right _ (List.mem_append_right _ (List.mem_append_right _ (List.mem_append_right _ (List.mem_append_right _ (List.mem_append_right _ (List.mem_append_left _ h))))))))))))))))))))))))))))))))))))))))))))))
set_option maxRecDepth 20000 in
theorem wm_33_0 : Cond.instanceMethod yX3_settleLast ∈ wsL_law := sub_wsL_law_r33 _ (mem_at0 0 rfl)
set_option maxRecDepth 20000 in
theorem wm_33_1 : Cond.selects RX3 yX3_settleLast yX3_settleLast ∈ wsL_law := sub_wsL_law_r33 _ (mem_at0 1 rfl)
set_option maxRecDepth 20000 in
theorem wm_33_2 : Cond.code yX3_settleLast cX3_settleLast 4 (some .boolean) ∈ wsL_law := sub_wsL_law_r33 _ (mem_at0 2 rfl)
set_option maxRecDepth 20000 in
theorem wm_33_3 : Cond.methodLink RX3 64 yX3_hashOf ∈ wsL_law := sub_wsL_law_r33 _ (mem_at0 3 rfl)
set_option maxRecDepth 20000 in
theorem wm_33_4 : Cond.instanceMethod yX3_hashOf ∈ wsL_law := sub_wsL_law_r33 _ (mem_at0 4 rfl)
set_option maxRecDepth 20000 in
theorem wm_33_5 : Cond.selects RX3 yX3_hashOf yX3_hashOf ∈ wsL_law := sub_wsL_law_r33 _ (mem_at0 5 rfl)
set_option maxRecDepth 20000 in
theorem wm_33_6 : Cond.code yX3_hashOf cX3_hashOf 4 (some .int) ∈ wsL_law := sub_wsL_law_r33 _ (mem_at0 6 rfl)
set_option maxRecDepth 20000 in
theorem wm_33_7 : Cond.constant RX3 72 (-1640531535) ∈ wsL_law := sub_wsL_law_r33 _ (mem_at0 7 rfl)
set_option maxRecDepth 20000 in
theorem wm_33_8 : Cond.methodLink RX3 68 yX3_areSame ∈ wsL_law := sub_wsL_law_r33 _ (mem_at0 8 rfl)
set_option maxRecDepth 20000 in
theorem wm_33_9 : Cond.instanceMethod yX3_areSame ∈ wsL_law := sub_wsL_law_r33 _ (mem_at0 9 rfl)
set_option maxRecDepth 20000 in
theorem wm_33_10 : Cond.selects RX3 yX3_areSame yX3_areSame ∈ wsL_law := sub_wsL_law_r33 _ (mem_at0 10 rfl)
set_option maxRecDepth 20000 in
theorem wm_33_11 : Cond.code yX3_areSame cX3_areSame 4 (some .boolean) ∈ wsL_law := sub_wsL_law_r33 _ (mem_at0 11 rfl)
set_option maxRecDepth 20000 in
theorem wm_33_12 : Cond.methodLink RX3 46 yX3_follow ∈ wsL_law := sub_wsL_law_r33 _ (mem_at0 12 rfl)
set_option maxRecDepth 20000 in
theorem wm_33_13 : Cond.instanceMethod yX3_follow ∈ wsL_law := sub_wsL_law_r33 _ (mem_at0 13 rfl)
set_option maxRecDepth 20000 in
theorem wm_33_14 : Cond.selects RX3 yX3_follow yX3_follow ∈ wsL_law := sub_wsL_law_r33 _ (mem_at0 14 rfl)
set_option maxRecDepth 20000 in
theorem wm_33_15 : Cond.code yX3_follow cX3_follow 4 none ∈ wsL_law := sub_wsL_law_r33 _ (mem_at0 15 rfl)
set_option maxRecDepth 20000 in
theorem wm_33_16 : Cond.methodLink RL 111 yX12_monoidSize ∈ wsL_law := sub_wsL_law_r33 _ (mem_at0 16 rfl)
set_option maxRecDepth 20000 in
theorem wm_33_17 : Cond.instanceMethod yX12_monoidSize ∈ wsL_law := sub_wsL_law_r33 _ (mem_at0 17 rfl)
set_option maxRecDepth 20000 in
theorem wm_33_18 : Cond.selects RX12 yX12_monoidSize yX12_monoidSize ∈ wsL_law := sub_wsL_law_r33 _ (mem_at0 18 rfl)
set_option maxRecDepth 20000 in
theorem wm_33_19 : Cond.code yX12_monoidSize cX12_monoidSize 5 (some .int) ∈ wsL_law := sub_wsL_law_r33 _ (mem_at0 19 rfl)
set_option maxRecDepth 20000 in
theorem wm_33_20 : Cond.fieldLink RX12 330 "SubwordCounterModel" "elements" "I" ∈ wsL_law := sub_wsL_law_r33 _ (mem_at0 20 rfl)
set_option maxRecDepth 20000 in
theorem wm_33_21 : Cond.methodLink RX12 333 yX12_addProduct ∈ wsL_law := sub_wsL_law_r33 _ (mem_at0 21 rfl)
set_option maxRecDepth 20000 in
theorem wm_33_22 : Cond.instanceMethod yX12_addProduct ∈ wsL_law := sub_wsL_law_r33 _ (mem_at0 22 rfl)
set_option maxRecDepth 20000 in
theorem wm_33_23 : Cond.selects RX12 yX12_addProduct yX12_addProduct ∈ wsL_law := sub_wsL_law_r33 _ (mem_at0 23 rfl)
set_option maxRecDepth 20000 in
theorem sub_wsL_law_r34 : ∀ w ∈ wsL_law_r34, w ∈ wsL_law := fun w h => (List.mem_append_left _ (List.mem_append_left _ (List.mem_append_left _ (List.mem_append_left _ (List.mem_append_left _ (List.mem_append_left _ (List.mem_append_left _ (List.mem_append_left _ (List.mem_append_left _ (List.mem_append_left _ (List.mem_append_left _ (List.mem_append_left _ (List.mem_append_left _ (List.mem_append_right _ (List.mem_append_right _ (List.mem_append_right _ (List.mem_append_right _ (List.mem_append_right _ (List.mem_append_right _ (List.mem_append_right _ (List.mem_append_right _ (List.mem_append_right _ (List.mem_append_right _ (List.mem_append_right _ (List.mem_append_right _ (List.mem_append_right _ (List.mem_append_right _ (List.mem_append_right _ (List.mem_append_right _ (List.mem_append_right _ (List.mem_append_right _ (List.mem_append_right _ (List.mem_append_right _ (List.mem_append_right _ (List.mem_append_right _ (List.mem_append_right _ (List.mem_append_right _ (List.mem_append_right _ (List.mem_append_right _ (List.mem_append_right _ (List.mem_append_right _ (List.mem_append_right _ (List.mem_append_right _ (List.mem_append_right _ (List.mem_append_right _ (List.mem_append_right _ (List.mem_append_left _ h)))))))))))))))))))))))))))))))))))))))))))))))
set_option maxRecDepth 20000 in
theorem wm_34_0 : Cond.code yX12_addProduct cX12_addProduct 2 none ∈ wsL_law := sub_wsL_law_r34 _ (mem_at0 0 rfl)
set_option maxRecDepth 20000 in
theorem wm_34_1 : Cond.methodLink RX12 336 yX12_classBehind ∈ wsL_law := sub_wsL_law_r34 _ (mem_at0 1 rfl)
set_option maxRecDepth 20000 in
theorem wm_34_2 : Cond.instanceMethod yX12_classBehind ∈ wsL_law := sub_wsL_law_r34 _ (mem_at0 2 rfl)
set_option maxRecDepth 20000 in
theorem wm_34_3 : Cond.selects RX12 yX12_classBehind yX12_classBehind ∈ wsL_law := sub_wsL_law_r34 _ (mem_at0 3 rfl)
set_option maxRecDepth 20000 in
theorem wm_34_4 : Cond.code yX12_classBehind cX12_classBehind 3 (some .int) ∈ wsL_law := sub_wsL_law_r34 _ (mem_at0 4 rfl)
set_option maxRecDepth 20000 in
theorem wm_34_5 : Cond.methodLink RX12 339 yX12_isNewProduct ∈ wsL_law := sub_wsL_law_r34 _ (mem_at0 5 rfl)
set_option maxRecDepth 20000 in
theorem wm_34_6 : Cond.instanceMethod yX12_isNewProduct ∈ wsL_law := sub_wsL_law_r34 _ (mem_at0 6 rfl)
set_option maxRecDepth 20000 in
theorem wm_34_7 : Cond.selects RX12 yX12_isNewProduct yX12_isNewProduct ∈ wsL_law := sub_wsL_law_r34 _ (mem_at0 7 rfl)
set_option maxRecDepth 20000 in
theorem wm_34_8 : Cond.code yX12_isNewProduct cX12_isNewProduct 3 (some .boolean) ∈ wsL_law := sub_wsL_law_r34 _ (mem_at0 8 rfl)
set_option maxRecDepth 20000 in
theorem wm_34_9 : Cond.methodLink RL 112 yX11_isGroup ∈ wsL_law := sub_wsL_law_r34 _ (mem_at0 9 rfl)
set_option maxRecDepth 20000 in
theorem wm_34_10 : Cond.instanceMethod yX11_isGroup ∈ wsL_law := sub_wsL_law_r34 _ (mem_at0 10 rfl)
set_option maxRecDepth 20000 in
theorem wm_34_11 : Cond.selects RX11 yX11_isGroup yX11_isGroup ∈ wsL_law := sub_wsL_law_r34 _ (mem_at0 11 rfl)
set_option maxRecDepth 20000 in
theorem wm_34_12 : Cond.code yX11_isGroup cX11_isGroup 2 (some .int) ∈ wsL_law := sub_wsL_law_r34 _ (mem_at0 12 rfl)
set_option maxRecDepth 20000 in
theorem wm_34_13 : Cond.methodLink RX11 225 yX4_isPermuted ∈ wsL_law := sub_wsL_law_r34 _ (mem_at0 13 rfl)
set_option maxRecDepth 20000 in
theorem wm_34_14 : Cond.instanceMethod yX4_isPermuted ∈ wsL_law := sub_wsL_law_r34 _ (mem_at0 14 rfl)
set_option maxRecDepth 20000 in
theorem wm_34_15 : Cond.selects RX4 yX4_isPermuted yX4_isPermuted ∈ wsL_law := sub_wsL_law_r34 _ (mem_at0 15 rfl)
set_option maxRecDepth 20000 in
theorem wm_34_16 : Cond.code yX4_isPermuted cX4_isPermuted 5 (some .boolean) ∈ wsL_law := sub_wsL_law_r34 _ (mem_at0 16 rfl)
set_option maxRecDepth 20000 in
theorem wm_34_17 : Cond.methodLink RX4 96 yX4_nextBlock ∈ wsL_law := sub_wsL_law_r34 _ (mem_at0 17 rfl)
set_option maxRecDepth 20000 in
theorem wm_34_18 : Cond.methodLink RL 115 yX12_isGroup ∈ wsL_law := sub_wsL_law_r34 _ (mem_at0 18 rfl)
set_option maxRecDepth 20000 in
theorem wm_34_19 : Cond.instanceMethod yX12_isGroup ∈ wsL_law := sub_wsL_law_r34 _ (mem_at0 19 rfl)
set_option maxRecDepth 20000 in
theorem wm_34_20 : Cond.selects RX12 yX12_isGroup yX12_isGroup ∈ wsL_law := sub_wsL_law_r34 _ (mem_at0 20 rfl)
set_option maxRecDepth 20000 in
theorem wm_34_21 : Cond.code yX12_isGroup cX12_isGroup 4 (some .int) ∈ wsL_law := sub_wsL_law_r34 _ (mem_at0 21 rfl)
set_option maxRecDepth 20000 in
theorem wm_34_22 : Cond.methodLink RL 116 yX11_setBasic ∈ wsL_law := sub_wsL_law_r34 _ (mem_at0 22 rfl)
set_option maxRecDepth 20000 in
theorem wm_34_23 : Cond.instanceMethod yX11_setBasic ∈ wsL_law := sub_wsL_law_r34 _ (mem_at0 23 rfl)
set_option maxRecDepth 20000 in
theorem sub_wsL_law_r35 : ∀ w ∈ wsL_law_r35, w ∈ wsL_law := fun w h => (List.mem_append_left _ (List.mem_append_left _ (List.mem_append_left _ (List.mem_append_left _ (List.mem_append_left _ (List.mem_append_left _ (List.mem_append_left _ (List.mem_append_left _ (List.mem_append_left _ (List.mem_append_left _ (List.mem_append_left _ (List.mem_append_left _ (List.mem_append_left _ (List.mem_append_right _ (List.mem_append_right _ (List.mem_append_right _ (List.mem_append_right _ (List.mem_append_right _ (List.mem_append_right _ (List.mem_append_right _ (List.mem_append_right _ (List.mem_append_right _ (List.mem_append_right _ (List.mem_append_right _ (List.mem_append_right _ (List.mem_append_right _ (List.mem_append_right _ (List.mem_append_right _ (List.mem_append_right _ (List.mem_append_right _ (List.mem_append_right _ (List.mem_append_right _ (List.mem_append_right _ (List.mem_append_right _ (List.mem_append_right _ (List.mem_append_right _ (List.mem_append_right _ (List.mem_append_right _ (List.mem_append_right _ (List.mem_append_right _ (List.mem_append_right _ (List.mem_append_right _ (List.mem_append_right _ (List.mem_append_right _ (List.mem_append_right _ (List.mem_append_right _ (List.mem_append_right _ (List.mem_append_left _ h))))))))))))))))))))))))))))))))))))))))))))))))
set_option maxRecDepth 20000 in
theorem wm_35_0 : Cond.selects RX11 yX11_setBasic yX11_setBasic ∈ wsL_law := sub_wsL_law_r35 _ (mem_at0 0 rfl)
set_option maxRecDepth 20000 in
theorem wm_35_1 : Cond.code yX11_setBasic cX11_setBasic 5 (some .int) ∈ wsL_law := sub_wsL_law_r35 _ (mem_at0 1 rfl)
set_option maxRecDepth 20000 in
theorem wm_35_2 : Cond.fieldLink RX11 232 "SubwordCounter$Registers" "languages" "[LSubwordCounter$Language;" ∈ wsL_law := sub_wsL_law_r35 _ (mem_at0 2 rfl)
set_option maxRecDepth 20000 in
theorem wm_35_3 : Cond.methodLink RX11 229 yX11_isLanguage ∈ wsL_law := sub_wsL_law_r35 _ (mem_at0 3 rfl)
set_option maxRecDepth 20000 in
theorem wm_35_4 : Cond.static yX11_isLanguage ∈ wsL_law := sub_wsL_law_r35 _ (mem_at0 4 rfl)
set_option maxRecDepth 20000 in
theorem wm_35_5 : Cond.code yX11_isLanguage cX11_isLanguage 1 (some .boolean) ∈ wsL_law := sub_wsL_law_r35 _ (mem_at0 5 rfl)
set_option maxRecDepth 20000 in
theorem wm_35_6 : Cond.methodLink RX11 236 yX2_basic ∈ wsL_law := sub_wsL_law_r35 _ (mem_at0 6 rfl)
set_option maxRecDepth 20000 in
theorem wm_35_7 : Cond.static yX2_basic ∈ wsL_law := sub_wsL_law_r35 _ (mem_at0 7 rfl)
set_option maxRecDepth 20000 in
theorem wm_35_8 : Cond.initialized RX2 ∈ wsL_law := sub_wsL_law_r35 _ (mem_at0 8 rfl)
set_option maxRecDepth 20000 in
theorem wm_35_9 : Cond.code yX2_basic cX2_basic 4 (some (.object "SubwordCounter$Language")) ∈ wsL_law := sub_wsL_law_r35 _ (mem_at0 9 rfl)
set_option maxRecDepth 20000 in
theorem wm_35_10 : Cond.classLink RX2 29 RX8 ∈ wsL_law := sub_wsL_law_r35 _ (mem_at0 10 rfl)
set_option maxRecDepth 20000 in
theorem wm_35_11 : Cond.classLink RX2 10 RX2 ∈ wsL_law := sub_wsL_law_r35 _ (mem_at0 11 rfl)
set_option maxRecDepth 20000 in
theorem wm_35_12 : Cond.instantiable RX2 5 ∈ wsL_law := sub_wsL_law_r35 _ (mem_at0 12 rfl)
set_option maxRecDepth 20000 in
theorem wm_35_13 : Cond.methodLink RX2 31 yX2_init ∈ wsL_law := sub_wsL_law_r35 _ (mem_at0 13 rfl)
set_option maxRecDepth 20000 in
theorem wm_35_14 : Cond.instanceMethod yX2_init ∈ wsL_law := sub_wsL_law_r35 _ (mem_at0 14 rfl)
set_option maxRecDepth 20000 in
theorem wm_35_15 : Cond.code yX2_init cX2_init 5 none ∈ wsL_law := sub_wsL_law_r35 _ (mem_at0 15 rfl)
set_option maxRecDepth 20000 in
theorem wm_35_16 : Cond.methodLink RX2 3 objectInit ∈ wsL_law := sub_wsL_law_r35 _ (mem_at0 16 rfl)
set_option maxRecDepth 20000 in
theorem wm_35_17 : Cond.fieldLink RX2 9 "SubwordCounter$Language" "form" "I" ∈ wsL_law := sub_wsL_law_r35 _ (mem_at0 17 rfl)
set_option maxRecDepth 20000 in
theorem wm_35_18 : Cond.fieldLink RX2 15 "SubwordCounter$Language" "basics" "I" ∈ wsL_law := sub_wsL_law_r35 _ (mem_at0 18 rfl)
set_option maxRecDepth 20000 in
theorem wm_35_19 : Cond.fieldLink RX2 18 "SubwordCounter$Language" "table" "I" ∈ wsL_law := sub_wsL_law_r35 _ (mem_at0 19 rfl)
set_option maxRecDepth 20000 in
theorem wm_35_20 : Cond.fieldLink RX2 21 "SubwordCounter$Language" "tests" "[LSubwordCounter$Test;" ∈ wsL_law := sub_wsL_law_r35 _ (mem_at0 20 rfl)
set_option maxRecDepth 20000 in
theorem wm_35_21 : Cond.fieldLink RX2 25 "SubwordCounter$Language" "values" "[I" ∈ wsL_law := sub_wsL_law_r35 _ (mem_at0 21 rfl)
set_option maxRecDepth 20000 in
theorem wm_35_22 : Cond.methodLink RL 120 yX12_setBasic ∈ wsL_law := sub_wsL_law_r35 _ (mem_at0 22 rfl)
set_option maxRecDepth 20000 in
theorem wm_35_23 : Cond.instanceMethod yX12_setBasic ∈ wsL_law := sub_wsL_law_r35 _ (mem_at0 23 rfl)
set_option maxRecDepth 20000 in
theorem sub_wsL_law_r36 : ∀ w ∈ wsL_law_r36, w ∈ wsL_law := fun w h => (List.mem_append_left _ (List.mem_append_left _ (List.mem_append_left _ (List.mem_append_left _ (List.mem_append_left _ (List.mem_append_left _ (List.mem_append_left _ (List.mem_append_left _ (List.mem_append_left _ (List.mem_append_left _ (List.mem_append_left _ (List.mem_append_left _ (List.mem_append_left _ (List.mem_append_right _ (List.mem_append_right _ (List.mem_append_right _ (List.mem_append_right _ (List.mem_append_right _ (List.mem_append_right _ (List.mem_append_right _ (List.mem_append_right _ (List.mem_append_right _ (List.mem_append_right _ (List.mem_append_right _ (List.mem_append_right _ (List.mem_append_right _ (List.mem_append_right _ (List.mem_append_right _ (List.mem_append_right _ (List.mem_append_right _ (List.mem_append_right _ (List.mem_append_right _ (List.mem_append_right _ (List.mem_append_right _ (List.mem_append_right _ (List.mem_append_right _ (List.mem_append_right _ (List.mem_append_right _ (List.mem_append_right _ (List.mem_append_right _ (List.mem_append_right _ (List.mem_append_right _ (List.mem_append_right _ (List.mem_append_right _ (List.mem_append_right _ (List.mem_append_right _ (List.mem_append_right _ (List.mem_append_right _ (List.mem_append_left _ h)))))))))))))))))))))))))))))))))))))))))))))))))
set_option maxRecDepth 20000 in
theorem wm_36_0 : Cond.selects RX12 yX12_setBasic yX12_setBasic ∈ wsL_law := sub_wsL_law_r36 _ (mem_at0 0 rfl)
set_option maxRecDepth 20000 in
theorem wm_36_1 : Cond.code yX12_setBasic cX12_setBasic 6 (some .int) ∈ wsL_law := sub_wsL_law_r36 _ (mem_at0 1 rfl)
set_option maxRecDepth 20000 in
theorem wm_36_2 : Cond.methodLink RX12 227 yX12_isLanguage ∈ wsL_law := sub_wsL_law_r36 _ (mem_at0 2 rfl)
set_option maxRecDepth 20000 in
theorem wm_36_3 : Cond.static yX12_isLanguage ∈ wsL_law := sub_wsL_law_r36 _ (mem_at0 3 rfl)
set_option maxRecDepth 20000 in
theorem wm_36_4 : Cond.code yX12_isLanguage cX12_isLanguage 1 (some .boolean) ∈ wsL_law := sub_wsL_law_r36 _ (mem_at0 4 rfl)
set_option maxRecDepth 20000 in
theorem wm_36_5 : Cond.methodLink RL 121 yX11_complement ∈ wsL_law := sub_wsL_law_r36 _ (mem_at0 5 rfl)
set_option maxRecDepth 20000 in
theorem wm_36_6 : Cond.instanceMethod yX11_complement ∈ wsL_law := sub_wsL_law_r36 _ (mem_at0 6 rfl)
set_option maxRecDepth 20000 in
theorem wm_36_7 : Cond.selects RX11 yX11_complement yX11_complement ∈ wsL_law := sub_wsL_law_r36 _ (mem_at0 7 rfl)
set_option maxRecDepth 20000 in
theorem wm_36_8 : Cond.code yX11_complement cX11_complement 4 (some .int) ∈ wsL_law := sub_wsL_law_r36 _ (mem_at0 8 rfl)
set_option maxRecDepth 20000 in
theorem wm_36_9 : Cond.fieldLink RX11 246 "SubwordCounter$Language" "basics" "I" ∈ wsL_law := sub_wsL_law_r36 _ (mem_at0 9 rfl)
set_option maxRecDepth 20000 in
theorem wm_36_10 : Cond.methodLink RX11 242 yX2_complementOf ∈ wsL_law := sub_wsL_law_r36 _ (mem_at0 10 rfl)
set_option maxRecDepth 20000 in
theorem wm_36_11 : Cond.static yX2_complementOf ∈ wsL_law := sub_wsL_law_r36 _ (mem_at0 11 rfl)
set_option maxRecDepth 20000 in
theorem wm_36_12 : Cond.code yX2_complementOf cX2_complementOf 2 (some (.object "SubwordCounter$Language")) ∈ wsL_law := sub_wsL_law_r36 _ (mem_at0 12 rfl)
set_option maxRecDepth 20000 in
theorem wm_36_13 : Cond.methodLink RX2 34 yX2_cases ∈ wsL_law := sub_wsL_law_r36 _ (mem_at0 13 rfl)
set_option maxRecDepth 20000 in
theorem wm_36_14 : Cond.instanceMethod yX2_cases ∈ wsL_law := sub_wsL_law_r36 _ (mem_at0 14 rfl)
set_option maxRecDepth 20000 in
theorem wm_36_15 : Cond.selects RX2 yX2_cases yX2_cases ∈ wsL_law := sub_wsL_law_r36 _ (mem_at0 15 rfl)
set_option maxRecDepth 20000 in
theorem wm_36_16 : Cond.code yX2_cases cX2_cases 1 (some .int) ∈ wsL_law := sub_wsL_law_r36 _ (mem_at0 16 rfl)
set_option maxRecDepth 20000 in
theorem wm_36_17 : Cond.methodLink RL 124 yX12_complement ∈ wsL_law := sub_wsL_law_r36 _ (mem_at0 17 rfl)
set_option maxRecDepth 20000 in
theorem wm_36_18 : Cond.instanceMethod yX12_complement ∈ wsL_law := sub_wsL_law_r36 _ (mem_at0 18 rfl)
set_option maxRecDepth 20000 in
theorem wm_36_19 : Cond.selects RX12 yX12_complement yX12_complement ∈ wsL_law := sub_wsL_law_r36 _ (mem_at0 19 rfl)
set_option maxRecDepth 20000 in
theorem wm_36_20 : Cond.code yX12_complement cX12_complement 3 (some .int) ∈ wsL_law := sub_wsL_law_r36 _ (mem_at0 20 rfl)
set_option maxRecDepth 20000 in
theorem wm_36_21 : Cond.fieldLink RX12 230 "SubwordCounterModel" "newParts" "I" ∈ wsL_law := sub_wsL_law_r36 _ (mem_at0 21 rfl)
set_option maxRecDepth 20000 in
theorem wm_36_22 : Cond.methodLink RX12 233 yX12_addParts ∈ wsL_law := sub_wsL_law_r36 _ (mem_at0 22 rfl)
set_option maxRecDepth 20000 in
theorem wm_36_23 : Cond.instanceMethod yX12_addParts ∈ wsL_law := sub_wsL_law_r36 _ (mem_at0 23 rfl)
set_option maxRecDepth 20000 in
theorem sub_wsL_law_r37 : ∀ w ∈ wsL_law_r37, w ∈ wsL_law := fun w h => (List.mem_append_left _ (List.mem_append_left _ (List.mem_append_left _ (List.mem_append_left _ (List.mem_append_left _ (List.mem_append_left _ (List.mem_append_left _ (List.mem_append_left _ (List.mem_append_left _ (List.mem_append_left _ (List.mem_append_left _ (List.mem_append_left _ (List.mem_append_left _ (List.mem_append_right _ (List.mem_append_right _ (List.mem_append_right _ (List.mem_append_right _ (List.mem_append_right _ (List.mem_append_right _ (List.mem_append_right _ (List.mem_append_right _ (List.mem_append_right _ (List.mem_append_right _ (List.mem_append_right _ (List.mem_append_right _ (List.mem_append_right _ (List.mem_append_right _ (List.mem_append_right _ (List.mem_append_right _ (List.mem_append_right _ (List.mem_append_right _ (List.mem_append_right _ (List.mem_append_right _ (List.mem_append_right _ (List.mem_append_right _ (List.mem_append_right _ (List.mem_append_right _ (List.mem_append_right _ (List.mem_append_right _ (List.mem_append_right _ (List.mem_append_right _ (List.mem_append_right _ (List.mem_append_right _ (List.mem_append_right _ (List.mem_append_right _ (List.mem_append_right _ (List.mem_append_right _ (List.mem_append_right _ (List.mem_append_right _ (List.mem_append_left _ h))))))))))))))))))))))))))))))))))))))))))))))))))
set_option maxRecDepth 20000 in
theorem wm_37_0 : Cond.selects RX12 yX12_addParts yX12_addParts ∈ wsL_law := sub_wsL_law_r37 _ (mem_at0 0 rfl)
set_option maxRecDepth 20000 in
theorem wm_37_1 : Cond.code yX12_addParts cX12_addParts 5 none ∈ wsL_law := sub_wsL_law_r37 _ (mem_at0 1 rfl)
set_option maxRecDepth 20000 in
theorem wm_37_2 : Cond.methodLink RX12 236 yX12_put ∈ wsL_law := sub_wsL_law_r37 _ (mem_at0 2 rfl)
set_option maxRecDepth 20000 in
theorem wm_37_3 : Cond.instanceMethod yX12_put ∈ wsL_law := sub_wsL_law_r37 _ (mem_at0 3 rfl)
set_option maxRecDepth 20000 in
theorem wm_37_4 : Cond.selects RX12 yX12_put yX12_put ∈ wsL_law := sub_wsL_law_r37 _ (mem_at0 4 rfl)
set_option maxRecDepth 20000 in
theorem wm_37_5 : Cond.code yX12_put cX12_put 7 (some .int) ∈ wsL_law := sub_wsL_law_r37 _ (mem_at0 5 rfl)
set_option maxRecDepth 20000 in
theorem wm_37_6 : Cond.methodLink RL 125 yX11_intersect ∈ wsL_law := sub_wsL_law_r37 _ (mem_at0 6 rfl)
set_option maxRecDepth 20000 in
theorem wm_37_7 : Cond.instanceMethod yX11_intersect ∈ wsL_law := sub_wsL_law_r37 _ (mem_at0 7 rfl)
set_option maxRecDepth 20000 in
theorem wm_37_8 : Cond.selects RX11 yX11_intersect yX11_intersect ∈ wsL_law := sub_wsL_law_r37 _ (mem_at0 8 rfl)
set_option maxRecDepth 20000 in
theorem wm_37_9 : Cond.code yX11_intersect cX11_intersect 4 (some .int) ∈ wsL_law := sub_wsL_law_r37 _ (mem_at0 9 rfl)
set_option maxRecDepth 20000 in
theorem wm_37_10 : Cond.methodLink RX11 249 yX11_combine ∈ wsL_law := sub_wsL_law_r37 _ (mem_at0 10 rfl)
set_option maxRecDepth 20000 in
theorem wm_37_11 : Cond.instanceMethod yX11_combine ∈ wsL_law := sub_wsL_law_r37 _ (mem_at0 11 rfl)
set_option maxRecDepth 20000 in
theorem wm_37_12 : Cond.selects RX11 yX11_combine yX11_combine ∈ wsL_law := sub_wsL_law_r37 _ (mem_at0 12 rfl)
set_option maxRecDepth 20000 in
theorem wm_37_13 : Cond.code yX11_combine cX11_combine 7 (some .int) ∈ wsL_law := sub_wsL_law_r37 _ (mem_at0 13 rfl)
set_option maxRecDepth 20000 in
theorem wm_37_14 : Cond.methodLink RX11 315 yX2_joined ∈ wsL_law := sub_wsL_law_r37 _ (mem_at0 14 rfl)
set_option maxRecDepth 20000 in
theorem wm_37_15 : Cond.static yX2_joined ∈ wsL_law := sub_wsL_law_r37 _ (mem_at0 15 rfl)
set_option maxRecDepth 20000 in
theorem wm_37_16 : Cond.code yX2_joined cX2_joined 5 (some (.object "SubwordCounter$Language")) ∈ wsL_law := sub_wsL_law_r37 _ (mem_at0 16 rfl)
set_option maxRecDepth 20000 in
theorem wm_37_17 : Cond.methodLink RX2 38 arraycopyName ∈ wsL_law := sub_wsL_law_r37 _ (mem_at0 17 rfl)
set_option maxRecDepth 20000 in
theorem wm_37_18 : Cond.methodLink RX2 44 yX2_joinedTable ∈ wsL_law := sub_wsL_law_r37 _ (mem_at0 18 rfl)
set_option maxRecDepth 20000 in
theorem wm_37_19 : Cond.static yX2_joinedTable ∈ wsL_law := sub_wsL_law_r37 _ (mem_at0 19 rfl)
set_option maxRecDepth 20000 in
theorem wm_37_20 : Cond.code yX2_joinedTable cX2_joinedTable 8 (some .int) ∈ wsL_law := sub_wsL_law_r37 _ (mem_at0 20 rfl)
set_option maxRecDepth 20000 in
theorem wm_37_21 : Cond.methodLink RX2 48 yX2_accepts ∈ wsL_law := sub_wsL_law_r37 _ (mem_at0 21 rfl)
set_option maxRecDepth 20000 in
theorem wm_37_22 : Cond.instanceMethod yX2_accepts ∈ wsL_law := sub_wsL_law_r37 _ (mem_at0 22 rfl)
set_option maxRecDepth 20000 in
theorem wm_37_23 : Cond.selects RX2 yX2_accepts yX2_accepts ∈ wsL_law := sub_wsL_law_r37 _ (mem_at0 23 rfl)
set_option maxRecDepth 20000 in
theorem sub_wsL_law_r38 : ∀ w ∈ wsL_law_r38, w ∈ wsL_law := fun w h => (List.mem_append_left _ (List.mem_append_left _ (List.mem_append_left _ (List.mem_append_left _ (List.mem_append_left _ (List.mem_append_left _ (List.mem_append_left _ (List.mem_append_left _ (List.mem_append_left _ (List.mem_append_left _ (List.mem_append_left _ (List.mem_append_left _ (List.mem_append_left _ (List.mem_append_right _ (List.mem_append_right _ (List.mem_append_right _ (List.mem_append_right _ (List.mem_append_right _ (List.mem_append_right _ (List.mem_append_right _ (List.mem_append_right _ (List.mem_append_right _ (List.mem_append_right _ (List.mem_append_right _ (List.mem_append_right _ (List.mem_append_right _ (List.mem_append_right _ (List.mem_append_right _ (List.mem_append_right _ (List.mem_append_right _ (List.mem_append_right _ (List.mem_append_right _ (List.mem_append_right _ (List.mem_append_right _ (List.mem_append_right _ (List.mem_append_right _ (List.mem_append_right _ (List.mem_append_right _ (List.mem_append_right _ (List.mem_append_right _ (List.mem_append_right _ (List.mem_append_right _ (List.mem_append_right _ (List.mem_append_right _ (List.mem_append_right _ (List.mem_append_right _ (List.mem_append_right _ (List.mem_append_right _ (List.mem_append_right _ (List.mem_append_right _ (List.mem_append_left _ h)))))))))))))))))))))))))))))))))))))))))))))))))))
set_option maxRecDepth 20000 in
theorem wm_38_0 : Cond.code yX2_accepts cX2_accepts 2 (some .boolean) ∈ wsL_law := sub_wsL_law_r38 _ (mem_at0 0 rfl)
set_option maxRecDepth 20000 in
theorem wm_38_1 : Cond.methodLink RL 128 yX12_intersect ∈ wsL_law := sub_wsL_law_r38 _ (mem_at0 1 rfl)
set_option maxRecDepth 20000 in
theorem wm_38_2 : Cond.instanceMethod yX12_intersect ∈ wsL_law := sub_wsL_law_r38 _ (mem_at0 2 rfl)
set_option maxRecDepth 20000 in
theorem wm_38_3 : Cond.selects RX12 yX12_intersect yX12_intersect ∈ wsL_law := sub_wsL_law_r38 _ (mem_at0 3 rfl)
set_option maxRecDepth 20000 in
theorem wm_38_4 : Cond.code yX12_intersect cX12_intersect 4 (some .int) ∈ wsL_law := sub_wsL_law_r38 _ (mem_at0 4 rfl)
set_option maxRecDepth 20000 in
theorem wm_38_5 : Cond.methodLink RX12 240 yX12_join ∈ wsL_law := sub_wsL_law_r38 _ (mem_at0 5 rfl)
set_option maxRecDepth 20000 in
theorem wm_38_6 : Cond.instanceMethod yX12_join ∈ wsL_law := sub_wsL_law_r38 _ (mem_at0 6 rfl)
set_option maxRecDepth 20000 in
theorem wm_38_7 : Cond.selects RX12 yX12_join yX12_join ∈ wsL_law := sub_wsL_law_r38 _ (mem_at0 7 rfl)
set_option maxRecDepth 20000 in
theorem wm_38_8 : Cond.code yX12_join cX12_join 10 (some .int) ∈ wsL_law := sub_wsL_law_r38 _ (mem_at0 8 rfl)
set_option maxRecDepth 20000 in
theorem wm_38_9 : Cond.methodLink RL 129 yX11_unite ∈ wsL_law := sub_wsL_law_r38 _ (mem_at0 9 rfl)
set_option maxRecDepth 20000 in
theorem wm_38_10 : Cond.instanceMethod yX11_unite ∈ wsL_law := sub_wsL_law_r38 _ (mem_at0 10 rfl)
set_option maxRecDepth 20000 in
theorem wm_38_11 : Cond.selects RX11 yX11_unite yX11_unite ∈ wsL_law := sub_wsL_law_r38 _ (mem_at0 11 rfl)
set_option maxRecDepth 20000 in
theorem wm_38_12 : Cond.code yX11_unite cX11_unite 4 (some .int) ∈ wsL_law := sub_wsL_law_r38 _ (mem_at0 12 rfl)
set_option maxRecDepth 20000 in
theorem wm_38_13 : Cond.methodLink RL 132 yX12_unite ∈ wsL_law := sub_wsL_law_r38 _ (mem_at0 13 rfl)
set_option maxRecDepth 20000 in
theorem wm_38_14 : Cond.instanceMethod yX12_unite ∈ wsL_law := sub_wsL_law_r38 _ (mem_at0 14 rfl)
set_option maxRecDepth 20000 in
theorem wm_38_15 : Cond.selects RX12 yX12_unite yX12_unite ∈ wsL_law := sub_wsL_law_r38 _ (mem_at0 15 rfl)
set_option maxRecDepth 20000 in
theorem wm_38_16 : Cond.code yX12_unite cX12_unite 4 (some .int) ∈ wsL_law := sub_wsL_law_r38 _ (mem_at0 16 rfl)
set_option maxRecDepth 20000 in
theorem wm_38_17 : Cond.methodLink RL 133 yX11_clearLanguage ∈ wsL_law := sub_wsL_law_r38 _ (mem_at0 17 rfl)
set_option maxRecDepth 20000 in
theorem wm_38_18 : Cond.instanceMethod yX11_clearLanguage ∈ wsL_law := sub_wsL_law_r38 _ (mem_at0 18 rfl)
set_option maxRecDepth 20000 in
theorem wm_38_19 : Cond.selects RX11 yX11_clearLanguage yX11_clearLanguage ∈ wsL_law := sub_wsL_law_r38 _ (mem_at0 19 rfl)
set_option maxRecDepth 20000 in
theorem wm_38_20 : Cond.code yX11_clearLanguage cX11_clearLanguage 3 (some .int) ∈ wsL_law := sub_wsL_law_r38 _ (mem_at0 20 rfl)
set_option maxRecDepth 20000 in
theorem wm_38_21 : Cond.methodLink RL 136 yX12_clearLanguage ∈ wsL_law := sub_wsL_law_r38 _ (mem_at0 21 rfl)
set_option maxRecDepth 20000 in
theorem wm_38_22 : Cond.instanceMethod yX12_clearLanguage ∈ wsL_law := sub_wsL_law_r38 _ (mem_at0 22 rfl)
set_option maxRecDepth 20000 in
theorem wm_38_23 : Cond.selects RX12 yX12_clearLanguage yX12_clearLanguage ∈ wsL_law := sub_wsL_law_r38 _ (mem_at0 23 rfl)
set_option maxRecDepth 20000 in
theorem sub_wsL_law_r39 : ∀ w ∈ wsL_law_r39, w ∈ wsL_law := fun w h => (List.mem_append_left _ (List.mem_append_left _ (List.mem_append_left _ (List.mem_append_left _ (List.mem_append_left _ (List.mem_append_left _ (List.mem_append_left _ (List.mem_append_left _ (List.mem_append_left _ (List.mem_append_left _ (List.mem_append_left _ (List.mem_append_left _ (List.mem_append_left _ (List.mem_append_right _ (List.mem_append_right _ (List.mem_append_right _ (List.mem_append_right _ (List.mem_append_right _ (List.mem_append_right _ (List.mem_append_right _ (List.mem_append_right _ (List.mem_append_right _ (List.mem_append_right _ (List.mem_append_right _ (List.mem_append_right _ (List.mem_append_right _ (List.mem_append_right _ (List.mem_append_right _ (List.mem_append_right _ (List.mem_append_right _ (List.mem_append_right _ (List.mem_append_right _ (List.mem_append_right _ (List.mem_append_right _ (List.mem_append_right _ (List.mem_append_right _ (List.mem_append_right _ (List.mem_append_right _ (List.mem_append_right _ (List.mem_append_right _ (List.mem_append_right _ (List.mem_append_right _ (List.mem_append_right _ (List.mem_append_right _ (List.mem_append_right _ (List.mem_append_right _ (List.mem_append_right _ (List.mem_append_right _ (List.mem_append_right _ (List.mem_append_right _ (List.mem_append_right _ (List.mem_append_left _ h))))))))))))))))))))))))))))))))))))))))))))))))))))
set_option maxRecDepth 20000 in
theorem wm_39_0 : Cond.code yX12_clearLanguage cX12_clearLanguage 3 (some .int) ∈ wsL_law := sub_wsL_law_r39 _ (mem_at0 0 rfl)
set_option maxRecDepth 20000 in
theorem wm_39_1 : Cond.methodLink RL 137 yX11_form ∈ wsL_law := sub_wsL_law_r39 _ (mem_at0 1 rfl)
set_option maxRecDepth 20000 in
theorem wm_39_2 : Cond.instanceMethod yX11_form ∈ wsL_law := sub_wsL_law_r39 _ (mem_at0 2 rfl)
set_option maxRecDepth 20000 in
theorem wm_39_3 : Cond.selects RX11 yX11_form yX11_form ∈ wsL_law := sub_wsL_law_r39 _ (mem_at0 3 rfl)
set_option maxRecDepth 20000 in
theorem wm_39_4 : Cond.code yX11_form cX11_form 3 (some .int) ∈ wsL_law := sub_wsL_law_r39 _ (mem_at0 4 rfl)
set_option maxRecDepth 20000 in
theorem wm_39_5 : Cond.fieldLink RX11 253 "SubwordCounter$Language" "form" "I" ∈ wsL_law := sub_wsL_law_r39 _ (mem_at0 5 rfl)
set_option maxRecDepth 20000 in
theorem wm_39_6 : Cond.methodLink RL 140 yX12_form ∈ wsL_law := sub_wsL_law_r39 _ (mem_at0 6 rfl)
set_option maxRecDepth 20000 in
theorem wm_39_7 : Cond.instanceMethod yX12_form ∈ wsL_law := sub_wsL_law_r39 _ (mem_at0 7 rfl)
set_option maxRecDepth 20000 in
theorem wm_39_8 : Cond.selects RX12 yX12_form yX12_form ∈ wsL_law := sub_wsL_law_r39 _ (mem_at0 8 rfl)
set_option maxRecDepth 20000 in
theorem wm_39_9 : Cond.code yX12_form cX12_form 2 (some .int) ∈ wsL_law := sub_wsL_law_r39 _ (mem_at0 9 rfl)
set_option maxRecDepth 20000 in
theorem wm_39_10 : Cond.methodLink RL 141 yX11_contains ∈ wsL_law := sub_wsL_law_r39 _ (mem_at0 10 rfl)
set_option maxRecDepth 20000 in
theorem wm_39_11 : Cond.instanceMethod yX11_contains ∈ wsL_law := sub_wsL_law_r39 _ (mem_at0 11 rfl)
set_option maxRecDepth 20000 in
theorem wm_39_12 : Cond.selects RX11 yX11_contains yX11_contains ∈ wsL_law := sub_wsL_law_r39 _ (mem_at0 12 rfl)
set_option maxRecDepth 20000 in
theorem wm_39_13 : Cond.code yX11_contains cX11_contains 4 (some .int) ∈ wsL_law := sub_wsL_law_r39 _ (mem_at0 13 rfl)
set_option maxRecDepth 20000 in
theorem wm_39_14 : Cond.methodLink RX11 256 yX2_holds ∈ wsL_law := sub_wsL_law_r39 _ (mem_at0 14 rfl)
set_option maxRecDepth 20000 in
theorem wm_39_15 : Cond.instanceMethod yX2_holds ∈ wsL_law := sub_wsL_law_r39 _ (mem_at0 15 rfl)
set_option maxRecDepth 20000 in
theorem wm_39_16 : Cond.selects RX2 yX2_holds yX2_holds ∈ wsL_law := sub_wsL_law_r39 _ (mem_at0 16 rfl)
set_option maxRecDepth 20000 in
theorem wm_39_17 : Cond.code yX2_holds cX2_holds 4 (some .boolean) ∈ wsL_law := sub_wsL_law_r39 _ (mem_at0 17 rfl)
set_option maxRecDepth 20000 in
theorem wm_39_18 : Cond.methodLink RX2 58 yX8_valueFor ∈ wsL_law := sub_wsL_law_r39 _ (mem_at0 18 rfl)
set_option maxRecDepth 20000 in
theorem wm_39_19 : Cond.methodLink RL 144 yX12_contains ∈ wsL_law := sub_wsL_law_r39 _ (mem_at0 19 rfl)
set_option maxRecDepth 20000 in
theorem wm_39_20 : Cond.instanceMethod yX12_contains ∈ wsL_law := sub_wsL_law_r39 _ (mem_at0 20 rfl)
set_option maxRecDepth 20000 in
theorem wm_39_21 : Cond.selects RX12 yX12_contains yX12_contains ∈ wsL_law := sub_wsL_law_r39 _ (mem_at0 21 rfl)
set_option maxRecDepth 20000 in
theorem wm_39_22 : Cond.code yX12_contains cX12_contains 6 (some .int) ∈ wsL_law := sub_wsL_law_r39 _ (mem_at0 22 rfl)
set_option maxRecDepth 20000 in
theorem wm_39_23 : Cond.methodLink RL 145 yX11_languageStates ∈ wsL_law := sub_wsL_law_r39 _ (mem_at0 23 rfl)
set_option maxRecDepth 20000 in
theorem sub_wsL_law_r40 : ∀ w ∈ wsL_law_r40, w ∈ wsL_law := fun w h => (List.mem_append_left _ (List.mem_append_left _ (List.mem_append_left _ (List.mem_append_left _ (List.mem_append_left _ (List.mem_append_left _ (List.mem_append_left _ (List.mem_append_left _ (List.mem_append_left _ (List.mem_append_left _ (List.mem_append_left _ (List.mem_append_left _ (List.mem_append_left _ (List.mem_append_right _ (List.mem_append_right _ (List.mem_append_right _ (List.mem_append_right _ (List.mem_append_right _ (List.mem_append_right _ (List.mem_append_right _ (List.mem_append_right _ (List.mem_append_right _ (List.mem_append_right _ (List.mem_append_right _ (List.mem_append_right _ (List.mem_append_right _ (List.mem_append_right _ (List.mem_append_right _ (List.mem_append_right _ (List.mem_append_right _ (List.mem_append_right _ (List.mem_append_right _ (List.mem_append_right _ (List.mem_append_right _ (List.mem_append_right _ (List.mem_append_right _ (List.mem_append_right _ (List.mem_append_right _ (List.mem_append_right _ (List.mem_append_right _ (List.mem_append_right _ (List.mem_append_right _ (List.mem_append_right _ (List.mem_append_right _ (List.mem_append_right _ (List.mem_append_right _ (List.mem_append_right _ (List.mem_append_right _ (List.mem_append_right _ (List.mem_append_right _ (List.mem_append_right _ (List.mem_append_right _ (List.mem_append_left _ h)))))))))))))))))))))))))))))))))))))))))))))))))))))
set_option maxRecDepth 20000 in
theorem wm_40_0 : Cond.instanceMethod yX11_languageStates ∈ wsL_law := sub_wsL_law_r40 _ (mem_at0 0 rfl)
set_option maxRecDepth 20000 in
theorem wm_40_1 : Cond.selects RX11 yX11_languageStates yX11_languageStates ∈ wsL_law := sub_wsL_law_r40 _ (mem_at0 1 rfl)
set_option maxRecDepth 20000 in
theorem wm_40_2 : Cond.code yX11_languageStates cX11_languageStates 3 (some .int) ∈ wsL_law := sub_wsL_law_r40 _ (mem_at0 2 rfl)
set_option maxRecDepth 20000 in
theorem wm_40_3 : Cond.methodLink RX11 260 yX11_exploreLanguage ∈ wsL_law := sub_wsL_law_r40 _ (mem_at0 3 rfl)
set_option maxRecDepth 20000 in
theorem wm_40_4 : Cond.instanceMethod yX11_exploreLanguage ∈ wsL_law := sub_wsL_law_r40 _ (mem_at0 4 rfl)
set_option maxRecDepth 20000 in
theorem wm_40_5 : Cond.selects RX11 yX11_exploreLanguage yX11_exploreLanguage ∈ wsL_law := sub_wsL_law_r40 _ (mem_at0 5 rfl)
set_option maxRecDepth 20000 in
theorem wm_40_6 : Cond.code yX11_exploreLanguage cX11_exploreLanguage 2 (some .boolean) ∈ wsL_law := sub_wsL_law_r40 _ (mem_at0 6 rfl)
set_option maxRecDepth 20000 in
theorem wm_40_7 : Cond.methodLink RX11 327 yX2_addTestsTo ∈ wsL_law := sub_wsL_law_r40 _ (mem_at0 7 rfl)
set_option maxRecDepth 20000 in
theorem wm_40_8 : Cond.instanceMethod yX2_addTestsTo ∈ wsL_law := sub_wsL_law_r40 _ (mem_at0 8 rfl)
set_option maxRecDepth 20000 in
theorem wm_40_9 : Cond.selects RX2 yX2_addTestsTo yX2_addTestsTo ∈ wsL_law := sub_wsL_law_r40 _ (mem_at0 9 rfl)
set_option maxRecDepth 20000 in
theorem wm_40_10 : Cond.code yX2_addTestsTo cX2_addTestsTo 3 none ∈ wsL_law := sub_wsL_law_r40 _ (mem_at0 10 rfl)
set_option maxRecDepth 20000 in
theorem wm_40_11 : Cond.methodLink RX2 52 yX1_add ∈ wsL_law := sub_wsL_law_r40 _ (mem_at0 11 rfl)
set_option maxRecDepth 20000 in
theorem wm_40_12 : Cond.methodLink RX11 330 yX0_markMembers ∈ wsL_law := sub_wsL_law_r40 _ (mem_at0 12 rfl)
set_option maxRecDepth 20000 in
theorem wm_40_13 : Cond.instanceMethod yX0_markMembers ∈ wsL_law := sub_wsL_law_r40 _ (mem_at0 13 rfl)
set_option maxRecDepth 20000 in
theorem wm_40_14 : Cond.selects RX0 yX0_markMembers yX0_markMembers ∈ wsL_law := sub_wsL_law_r40 _ (mem_at0 14 rfl)
set_option maxRecDepth 20000 in
theorem wm_40_15 : Cond.code yX0_markMembers cX0_markMembers 3 none ∈ wsL_law := sub_wsL_law_r40 _ (mem_at0 15 rfl)
set_option maxRecDepth 20000 in
theorem wm_40_16 : Cond.methodLink RX0 87 yX2_holdsAt ∈ wsL_law := sub_wsL_law_r40 _ (mem_at0 16 rfl)
set_option maxRecDepth 20000 in
theorem wm_40_17 : Cond.instanceMethod yX2_holdsAt ∈ wsL_law := sub_wsL_law_r40 _ (mem_at0 17 rfl)
set_option maxRecDepth 20000 in
theorem wm_40_18 : Cond.selects RX2 yX2_holdsAt yX2_holdsAt ∈ wsL_law := sub_wsL_law_r40 _ (mem_at0 18 rfl)
set_option maxRecDepth 20000 in
theorem wm_40_19 : Cond.code yX2_holdsAt cX2_holdsAt 9 (some .boolean) ∈ wsL_law := sub_wsL_law_r40 _ (mem_at0 19 rfl)
set_option maxRecDepth 20000 in
theorem wm_40_20 : Cond.methodLink RX2 62 yX1_valueAt ∈ wsL_law := sub_wsL_law_r40 _ (mem_at0 20 rfl)
set_option maxRecDepth 20000 in
theorem wm_40_21 : Cond.methodLink RL 148 yX12_languageStates ∈ wsL_law := sub_wsL_law_r40 _ (mem_at0 21 rfl)
set_option maxRecDepth 20000 in
theorem wm_40_22 : Cond.instanceMethod yX12_languageStates ∈ wsL_law := sub_wsL_law_r40 _ (mem_at0 22 rfl)
set_option maxRecDepth 20000 in
theorem wm_40_23 : Cond.selects RX12 yX12_languageStates yX12_languageStates ∈ wsL_law := sub_wsL_law_r40 _ (mem_at0 23 rfl)
set_option maxRecDepth 20000 in
theorem sub_wsL_law_r41 : ∀ w ∈ wsL_law_r41, w ∈ wsL_law := fun w h => (List.mem_append_left _ (List.mem_append_left _ (List.mem_append_left _ (List.mem_append_left _ (List.mem_append_left _ (List.mem_append_left _ (List.mem_append_left _ (List.mem_append_left _ (List.mem_append_left _ (List.mem_append_left _ (List.mem_append_left _ (List.mem_append_left _ (List.mem_append_left _ (List.mem_append_right _ (List.mem_append_right _ (List.mem_append_right _ (List.mem_append_right _ (List.mem_append_right _ (List.mem_append_right _ (List.mem_append_right _ (List.mem_append_right _ (List.mem_append_right _ (List.mem_append_right _ (List.mem_append_right _ (List.mem_append_right _ (List.mem_append_right _ (List.mem_append_right _ (List.mem_append_right _ (List.mem_append_right _ (List.mem_append_right _ (List.mem_append_right _ (List.mem_append_right _ (List.mem_append_right _ (List.mem_append_right _ (List.mem_append_right _ (List.mem_append_right _ (List.mem_append_right _ (List.mem_append_right _ (List.mem_append_right _ (List.mem_append_right _ (List.mem_append_right _ (List.mem_append_right _ (List.mem_append_right _ (List.mem_append_right _ (List.mem_append_right _ (List.mem_append_right _ (List.mem_append_right _ (List.mem_append_right _ (List.mem_append_right _ (List.mem_append_right _ (List.mem_append_right _ (List.mem_append_right _ (List.mem_append_right _ (List.mem_append_left _ h))))))))))))))))))))))))))))))))))))))))))))))))))))))
set_option maxRecDepth 20000 in
theorem wm_41_0 : Cond.code yX12_languageStates cX12_languageStates 3 (some .int) ∈ wsL_law := sub_wsL_law_r41 _ (mem_at0 0 rfl)
set_option maxRecDepth 20000 in
theorem wm_41_1 : Cond.methodLink RX12 342 yX12_notLanguage ∈ wsL_law := sub_wsL_law_r41 _ (mem_at0 1 rfl)
set_option maxRecDepth 20000 in
theorem wm_41_2 : Cond.instanceMethod yX12_notLanguage ∈ wsL_law := sub_wsL_law_r41 _ (mem_at0 2 rfl)
set_option maxRecDepth 20000 in
theorem wm_41_3 : Cond.selects RX12 yX12_notLanguage yX12_notLanguage ∈ wsL_law := sub_wsL_law_r41 _ (mem_at0 3 rfl)
set_option maxRecDepth 20000 in
theorem wm_41_4 : Cond.code yX12_notLanguage cX12_notLanguage 2 (some .int) ∈ wsL_law := sub_wsL_law_r41 _ (mem_at0 4 rfl)
set_option maxRecDepth 20000 in
theorem wm_41_5 : Cond.methodLink RX12 345 yX12_buildsLanguage ∈ wsL_law := sub_wsL_law_r41 _ (mem_at0 5 rfl)
set_option maxRecDepth 20000 in
theorem wm_41_6 : Cond.instanceMethod yX12_buildsLanguage ∈ wsL_law := sub_wsL_law_r41 _ (mem_at0 6 rfl)
set_option maxRecDepth 20000 in
theorem wm_41_7 : Cond.selects RX12 yX12_buildsLanguage yX12_buildsLanguage ∈ wsL_law := sub_wsL_law_r41 _ (mem_at0 7 rfl)
set_option maxRecDepth 20000 in
theorem wm_41_8 : Cond.code yX12_buildsLanguage cX12_buildsLanguage 2 (some .boolean) ∈ wsL_law := sub_wsL_law_r41 _ (mem_at0 8 rfl)
set_option maxRecDepth 20000 in
theorem wm_41_9 : Cond.methodLink RX12 320 yX12_addLanguage ∈ wsL_law := sub_wsL_law_r41 _ (mem_at0 9 rfl)
set_option maxRecDepth 20000 in
theorem wm_41_10 : Cond.instanceMethod yX12_addLanguage ∈ wsL_law := sub_wsL_law_r41 _ (mem_at0 10 rfl)
set_option maxRecDepth 20000 in
theorem wm_41_11 : Cond.selects RX12 yX12_addLanguage yX12_addLanguage ∈ wsL_law := sub_wsL_law_r41 _ (mem_at0 11 rfl)
set_option maxRecDepth 20000 in
theorem wm_41_12 : Cond.code yX12_addLanguage cX12_addLanguage 4 none ∈ wsL_law := sub_wsL_law_r41 _ (mem_at0 12 rfl)
set_option maxRecDepth 20000 in
theorem wm_41_13 : Cond.methodLink RL 149 yX11_countWords ∈ wsL_law := sub_wsL_law_r41 _ (mem_at0 13 rfl)
set_option maxRecDepth 20000 in
theorem wm_41_14 : Cond.instanceMethod yX11_countWords ∈ wsL_law := sub_wsL_law_r41 _ (mem_at0 14 rfl)
set_option maxRecDepth 20000 in
theorem wm_41_15 : Cond.selects RX11 yX11_countWords yX11_countWords ∈ wsL_law := sub_wsL_law_r41 _ (mem_at0 15 rfl)
set_option maxRecDepth 20000 in
theorem wm_41_16 : Cond.code yX11_countWords cX11_countWords 4 (some .long) ∈ wsL_law := sub_wsL_law_r41 _ (mem_at0 16 rfl)
set_option maxRecDepth 20000 in
theorem wm_41_17 : Cond.constantLong RX11 264 (-1) ∈ wsL_law := sub_wsL_law_r41 _ (mem_at0 17 rfl)
set_option maxRecDepth 20000 in
theorem wm_41_18 : Cond.constantLong RX11 266 (-5) ∈ wsL_law := sub_wsL_law_r41 _ (mem_at0 18 rfl)
set_option maxRecDepth 20000 in
theorem wm_41_19 : Cond.constantLong RX11 268 (-4) ∈ wsL_law := sub_wsL_law_r41 _ (mem_at0 19 rfl)
set_option maxRecDepth 20000 in
theorem wm_41_20 : Cond.methodLink RX11 270 yX0_countByLength ∈ wsL_law := sub_wsL_law_r41 _ (mem_at0 20 rfl)
set_option maxRecDepth 20000 in
theorem wm_41_21 : Cond.instanceMethod yX0_countByLength ∈ wsL_law := sub_wsL_law_r41 _ (mem_at0 21 rfl)
set_option maxRecDepth 20000 in
theorem wm_41_22 : Cond.selects RX0 yX0_countByLength yX0_countByLength ∈ wsL_law := sub_wsL_law_r41 _ (mem_at0 22 rfl)
set_option maxRecDepth 20000 in
theorem wm_41_23 : Cond.code yX0_countByLength cX0_countByLength 4 none ∈ wsL_law := sub_wsL_law_r41 _ (mem_at0 23 rfl)
set_option maxRecDepth 20000 in
theorem sub_wsL_law_r42 : ∀ w ∈ wsL_law_r42, w ∈ wsL_law := fun w h => (List.mem_append_left _ (List.mem_append_left _ (List.mem_append_left _ (List.mem_append_left _ (List.mem_append_left _ (List.mem_append_left _ (List.mem_append_left _ (List.mem_append_left _ (List.mem_append_left _ (List.mem_append_left _ (List.mem_append_left _ (List.mem_append_left _ (List.mem_append_left _ (List.mem_append_right _ (List.mem_append_right _ (List.mem_append_right _ (List.mem_append_right _ (List.mem_append_right _ (List.mem_append_right _ (List.mem_append_right _ (List.mem_append_right _ (List.mem_append_right _ (List.mem_append_right _ (List.mem_append_right _ (List.mem_append_right _ (List.mem_append_right _ (List.mem_append_right _ (List.mem_append_right _ (List.mem_append_right _ (List.mem_append_right _ (List.mem_append_right _ (List.mem_append_right _ (List.mem_append_right _ (List.mem_append_right _ (List.mem_append_right _ (List.mem_append_right _ (List.mem_append_right _ (List.mem_append_right _ (List.mem_append_right _ (List.mem_append_right _ (List.mem_append_right _ (List.mem_append_right _ (List.mem_append_right _ (List.mem_append_right _ (List.mem_append_right _ (List.mem_append_right _ (List.mem_append_right _ (List.mem_append_right _ (List.mem_append_right _ (List.mem_append_right _ (List.mem_append_right _ (List.mem_append_right _ (List.mem_append_right _ (List.mem_append_right _ (List.mem_append_left _ h)))))))))))))))))))))))))))))))))))))))))))))))))))))))
set_option maxRecDepth 20000 in
theorem wm_42_0 : Cond.methodLink RX0 109 yX0_clearPaths ∈ wsL_law := sub_wsL_law_r42 _ (mem_at0 0 rfl)
set_option maxRecDepth 20000 in
theorem wm_42_1 : Cond.instanceMethod yX0_clearPaths ∈ wsL_law := sub_wsL_law_r42 _ (mem_at0 1 rfl)
set_option maxRecDepth 20000 in
theorem wm_42_2 : Cond.selects RX0 yX0_clearPaths yX0_clearPaths ∈ wsL_law := sub_wsL_law_r42 _ (mem_at0 2 rfl)
set_option maxRecDepth 20000 in
theorem wm_42_3 : Cond.code yX0_clearPaths cX0_clearPaths 3 none ∈ wsL_law := sub_wsL_law_r42 _ (mem_at0 3 rfl)
set_option maxRecDepth 20000 in
theorem wm_42_4 : Cond.methodLink RX0 113 yX0_markedPaths ∈ wsL_law := sub_wsL_law_r42 _ (mem_at0 4 rfl)
set_option maxRecDepth 20000 in
theorem wm_42_5 : Cond.instanceMethod yX0_markedPaths ∈ wsL_law := sub_wsL_law_r42 _ (mem_at0 5 rfl)
set_option maxRecDepth 20000 in
theorem wm_42_6 : Cond.selects RX0 yX0_markedPaths yX0_markedPaths ∈ wsL_law := sub_wsL_law_r42 _ (mem_at0 6 rfl)
set_option maxRecDepth 20000 in
theorem wm_42_7 : Cond.code yX0_markedPaths cX0_markedPaths 4 (some .long) ∈ wsL_law := sub_wsL_law_r42 _ (mem_at0 7 rfl)
set_option maxRecDepth 20000 in
theorem wm_42_8 : Cond.methodLink RX0 117 yX0_lengthenPaths ∈ wsL_law := sub_wsL_law_r42 _ (mem_at0 8 rfl)
set_option maxRecDepth 20000 in
theorem wm_42_9 : Cond.instanceMethod yX0_lengthenPaths ∈ wsL_law := sub_wsL_law_r42 _ (mem_at0 9 rfl)
set_option maxRecDepth 20000 in
theorem wm_42_10 : Cond.selects RX0 yX0_lengthenPaths yX0_lengthenPaths ∈ wsL_law := sub_wsL_law_r42 _ (mem_at0 10 rfl)
set_option maxRecDepth 20000 in
theorem wm_42_11 : Cond.code yX0_lengthenPaths cX0_lengthenPaths 3 none ∈ wsL_law := sub_wsL_law_r42 _ (mem_at0 11 rfl)
set_option maxRecDepth 20000 in
theorem wm_42_12 : Cond.methodLink RX0 120 arraycopyName ∈ wsL_law := sub_wsL_law_r42 _ (mem_at0 12 rfl)
set_option maxRecDepth 20000 in
theorem wm_42_13 : Cond.methodLink RL 153 yX12_countWords ∈ wsL_law := sub_wsL_law_r42 _ (mem_at0 13 rfl)
set_option maxRecDepth 20000 in
theorem wm_42_14 : Cond.instanceMethod yX12_countWords ∈ wsL_law := sub_wsL_law_r42 _ (mem_at0 14 rfl)
set_option maxRecDepth 20000 in
theorem wm_42_15 : Cond.selects RX12 yX12_countWords yX12_countWords ∈ wsL_law := sub_wsL_law_r42 _ (mem_at0 15 rfl)
set_option maxRecDepth 20000 in
theorem wm_42_16 : Cond.code yX12_countWords cX12_countWords 3 (some .long) ∈ wsL_law := sub_wsL_law_r42 _ (mem_at0 16 rfl)
set_option maxRecDepth 20000 in
theorem wm_42_17 : Cond.constantLong RX12 348 (-1) ∈ wsL_law := sub_wsL_law_r42 _ (mem_at0 17 rfl)
set_option maxRecDepth 20000 in
theorem wm_42_18 : Cond.constantLong RX12 350 (-5) ∈ wsL_law := sub_wsL_law_r42 _ (mem_at0 18 rfl)
set_option maxRecDepth 20000 in
theorem wm_42_19 : Cond.constantLong RX12 352 (-4) ∈ wsL_law := sub_wsL_law_r42 _ (mem_at0 19 rfl)
set_option maxRecDepth 20000 in
theorem wm_42_20 : Cond.methodLink RX12 354 yX12_countAll ∈ wsL_law := sub_wsL_law_r42 _ (mem_at0 20 rfl)
set_option maxRecDepth 20000 in
theorem wm_42_21 : Cond.instanceMethod yX12_countAll ∈ wsL_law := sub_wsL_law_r42 _ (mem_at0 21 rfl)
set_option maxRecDepth 20000 in
theorem wm_42_22 : Cond.selects RX12 yX12_countAll yX12_countAll ∈ wsL_law := sub_wsL_law_r42 _ (mem_at0 22 rfl)
set_option maxRecDepth 20000 in
theorem wm_42_23 : Cond.code yX12_countAll cX12_countAll 5 none ∈ wsL_law := sub_wsL_law_r42 _ (mem_at0 23 rfl)
set_option maxRecDepth 20000 in
theorem sub_wsL_law_r43 : ∀ w ∈ wsL_law_r43, w ∈ wsL_law := fun w h => (List.mem_append_left _ (List.mem_append_left _ (List.mem_append_left _ (List.mem_append_left _ (List.mem_append_left _ (List.mem_append_left _ (List.mem_append_left _ (List.mem_append_left _ (List.mem_append_left _ (List.mem_append_left _ (List.mem_append_left _ (List.mem_append_left _ (List.mem_append_left _ (List.mem_append_right _ (List.mem_append_right _ (List.mem_append_right _ (List.mem_append_right _ (List.mem_append_right _ (List.mem_append_right _ (List.mem_append_right _ (List.mem_append_right _ (List.mem_append_right _ (List.mem_append_right _ (List.mem_append_right _ (List.mem_append_right _ (List.mem_append_right _ (List.mem_append_right _ (List.mem_append_right _ (List.mem_append_right _ (List.mem_append_right _ (List.mem_append_right _ (List.mem_append_right _ (List.mem_append_right _ (List.mem_append_right _ (List.mem_append_right _ (List.mem_append_right _ (List.mem_append_right _ (List.mem_append_right _ (List.mem_append_right _ (List.mem_append_right _ (List.mem_append_right _ (List.mem_append_right _ (List.mem_append_right _ (List.mem_append_right _ (List.mem_append_right _ (List.mem_append_right _ (List.mem_append_right _ (List.mem_append_right _ (List.mem_append_right _ (List.mem_append_right _ (List.mem_append_right _ (List.mem_append_right _ (List.mem_append_right _ (List.mem_append_right _ (List.mem_append_right _ (List.mem_append_left _ h))))))))))))))))))))))))))))))))))))))))))))))))))))))))
set_option maxRecDepth 20000 in
theorem wm_43_0 : Cond.methodLink RL 154 yX11_firstWord ∈ wsL_law := sub_wsL_law_r43 _ (mem_at0 0 rfl)
set_option maxRecDepth 20000 in
theorem wm_43_1 : Cond.instanceMethod yX11_firstWord ∈ wsL_law := sub_wsL_law_r43 _ (mem_at0 1 rfl)
set_option maxRecDepth 20000 in
theorem wm_43_2 : Cond.selects RX11 yX11_firstWord yX11_firstWord ∈ wsL_law := sub_wsL_law_r43 _ (mem_at0 2 rfl)
set_option maxRecDepth 20000 in
theorem wm_43_3 : Cond.code yX11_firstWord cX11_firstWord 4 (some .int) ∈ wsL_law := sub_wsL_law_r43 _ (mem_at0 3 rfl)
set_option maxRecDepth 20000 in
theorem wm_43_4 : Cond.methodLink RX11 274 yX11_takeFirst ∈ wsL_law := sub_wsL_law_r43 _ (mem_at0 4 rfl)
set_option maxRecDepth 20000 in
theorem wm_43_5 : Cond.instanceMethod yX11_takeFirst ∈ wsL_law := sub_wsL_law_r43 _ (mem_at0 5 rfl)
set_option maxRecDepth 20000 in
theorem wm_43_6 : Cond.selects RX11 yX11_takeFirst yX11_takeFirst ∈ wsL_law := sub_wsL_law_r43 _ (mem_at0 6 rfl)
set_option maxRecDepth 20000 in
theorem wm_43_7 : Cond.code yX11_takeFirst cX11_takeFirst 4 (some .int) ∈ wsL_law := sub_wsL_law_r43 _ (mem_at0 7 rfl)
set_option maxRecDepth 20000 in
theorem wm_43_8 : Cond.fieldLink RX11 341 "SubwordCounter$Automaton" "depth" "[I" ∈ wsL_law := sub_wsL_law_r43 _ (mem_at0 8 rfl)
set_option maxRecDepth 20000 in
theorem wm_43_9 : Cond.methodLink RX11 338 yX0_firstMarked ∈ wsL_law := sub_wsL_law_r43 _ (mem_at0 9 rfl)
set_option maxRecDepth 20000 in
theorem wm_43_10 : Cond.instanceMethod yX0_firstMarked ∈ wsL_law := sub_wsL_law_r43 _ (mem_at0 10 rfl)
set_option maxRecDepth 20000 in
theorem wm_43_11 : Cond.selects RX0 yX0_firstMarked yX0_firstMarked ∈ wsL_law := sub_wsL_law_r43 _ (mem_at0 11 rfl)
set_option maxRecDepth 20000 in
theorem wm_43_12 : Cond.code yX0_firstMarked cX0_firstMarked 2 (some .int) ∈ wsL_law := sub_wsL_law_r43 _ (mem_at0 12 rfl)
set_option maxRecDepth 20000 in
theorem wm_43_13 : Cond.methodLink RX11 344 yX0_spell ∈ wsL_law := sub_wsL_law_r43 _ (mem_at0 13 rfl)
set_option maxRecDepth 20000 in
theorem wm_43_14 : Cond.instanceMethod yX0_spell ∈ wsL_law := sub_wsL_law_r43 _ (mem_at0 14 rfl)
set_option maxRecDepth 20000 in
theorem wm_43_15 : Cond.selects RX0 yX0_spell yX0_spell ∈ wsL_law := sub_wsL_law_r43 _ (mem_at0 15 rfl)
set_option maxRecDepth 20000 in
theorem wm_43_16 : Cond.code yX0_spell cX0_spell 5 none ∈ wsL_law := sub_wsL_law_r43 _ (mem_at0 16 rfl)
set_option maxRecDepth 20000 in
theorem wm_43_17 : Cond.methodLink RX0 96 Lib.Math.min.name ∈ wsL_law := sub_wsL_law_r43 _ (mem_at0 17 rfl)
set_option maxRecDepth 20000 in
theorem wm_43_18 : Cond.fieldLink RX0 102 "SubwordCounter$Word" "size" "I" ∈ wsL_law := sub_wsL_law_r43 _ (mem_at0 18 rfl)
set_option maxRecDepth 20000 in
theorem wm_43_19 : Cond.fieldLink RX0 107 "SubwordCounter$Word" "letters" "[I" ∈ wsL_law := sub_wsL_law_r43 _ (mem_at0 19 rfl)
set_option maxRecDepth 20000 in
theorem wm_43_20 : Cond.methodLink RL 157 yX12_firstWord ∈ wsL_law := sub_wsL_law_r43 _ (mem_at0 20 rfl)
set_option maxRecDepth 20000 in
theorem wm_43_21 : Cond.instanceMethod yX12_firstWord ∈ wsL_law := sub_wsL_law_r43 _ (mem_at0 21 rfl)
set_option maxRecDepth 20000 in
theorem wm_43_22 : Cond.selects RX12 yX12_firstWord yX12_firstWord ∈ wsL_law := sub_wsL_law_r43 _ (mem_at0 22 rfl)
set_option maxRecDepth 20000 in
theorem wm_43_23 : Cond.code yX12_firstWord cX12_firstWord 3 (some .int) ∈ wsL_law := sub_wsL_law_r43 _ (mem_at0 23 rfl)
set_option maxRecDepth 20000 in
theorem sub_wsL_law_r44 : ∀ w ∈ wsL_law_r44, w ∈ wsL_law := fun w h => (List.mem_append_left _ (List.mem_append_left _ (List.mem_append_left _ (List.mem_append_left _ (List.mem_append_left _ (List.mem_append_left _ (List.mem_append_left _ (List.mem_append_left _ (List.mem_append_left _ (List.mem_append_left _ (List.mem_append_left _ (List.mem_append_left _ (List.mem_append_left _ (List.mem_append_right _ (List.mem_append_right _ (List.mem_append_right _ (List.mem_append_right _ (List.mem_append_right _ (List.mem_append_right _ (List.mem_append_right _ (List.mem_append_right _ (List.mem_append_right _ (List.mem_append_right _ (List.mem_append_right _ (List.mem_append_right _ (List.mem_append_right _ (List.mem_append_right _ (List.mem_append_right _ (List.mem_append_right _ (List.mem_append_right _ (List.mem_append_right _ (List.mem_append_right _ (List.mem_append_right _ (List.mem_append_right _ (List.mem_append_right _ (List.mem_append_right _ (List.mem_append_right _ (List.mem_append_right _ (List.mem_append_right _ (List.mem_append_right _ (List.mem_append_right _ (List.mem_append_right _ (List.mem_append_right _ (List.mem_append_right _ (List.mem_append_right _ (List.mem_append_right _ (List.mem_append_right _ (List.mem_append_right _ (List.mem_append_right _ (List.mem_append_right _ (List.mem_append_right _ (List.mem_append_right _ (List.mem_append_right _ (List.mem_append_right _ (List.mem_append_right _ (List.mem_append_right _ (List.mem_append_left _ h)))))))))))))))))))))))))))))))))))))))))))))))))))))))))
set_option maxRecDepth 20000 in
theorem wm_44_0 : Cond.methodLink RX12 357 yX12_firstInto ∈ wsL_law := sub_wsL_law_r44 _ (mem_at0 0 rfl)
set_option maxRecDepth 20000 in
theorem wm_44_1 : Cond.instanceMethod yX12_firstInto ∈ wsL_law := sub_wsL_law_r44 _ (mem_at0 1 rfl)
set_option maxRecDepth 20000 in
theorem wm_44_2 : Cond.selects RX12 yX12_firstInto yX12_firstInto ∈ wsL_law := sub_wsL_law_r44 _ (mem_at0 2 rfl)
set_option maxRecDepth 20000 in
theorem wm_44_3 : Cond.code yX12_firstInto cX12_firstInto 6 (some .int) ∈ wsL_law := sub_wsL_law_r44 _ (mem_at0 3 rfl)
set_option maxRecDepth 20000 in
theorem wm_44_4 : Cond.methodLink RL 158 yX11_firstDifference ∈ wsL_law := sub_wsL_law_r44 _ (mem_at0 4 rfl)
set_option maxRecDepth 20000 in
theorem wm_44_5 : Cond.instanceMethod yX11_firstDifference ∈ wsL_law := sub_wsL_law_r44 _ (mem_at0 5 rfl)
set_option maxRecDepth 20000 in
theorem wm_44_6 : Cond.selects RX11 yX11_firstDifference yX11_firstDifference ∈ wsL_law := sub_wsL_law_r44 _ (mem_at0 6 rfl)
set_option maxRecDepth 20000 in
theorem wm_44_7 : Cond.code yX11_firstDifference cX11_firstDifference 6 (some .int) ∈ wsL_law := sub_wsL_law_r44 _ (mem_at0 7 rfl)
set_option maxRecDepth 20000 in
theorem wm_44_8 : Cond.methodLink RX11 277 yX11_exploreDifference ∈ wsL_law := sub_wsL_law_r44 _ (mem_at0 8 rfl)
set_option maxRecDepth 20000 in
theorem wm_44_9 : Cond.instanceMethod yX11_exploreDifference ∈ wsL_law := sub_wsL_law_r44 _ (mem_at0 9 rfl)
set_option maxRecDepth 20000 in
theorem wm_44_10 : Cond.selects RX11 yX11_exploreDifference yX11_exploreDifference ∈ wsL_law := sub_wsL_law_r44 _ (mem_at0 10 rfl)
set_option maxRecDepth 20000 in
theorem wm_44_11 : Cond.code yX11_exploreDifference cX11_exploreDifference 3 (some .boolean) ∈ wsL_law := sub_wsL_law_r44 _ (mem_at0 11 rfl)
set_option maxRecDepth 20000 in
theorem wm_44_12 : Cond.methodLink RX11 334 yX0_markDifference ∈ wsL_law := sub_wsL_law_r44 _ (mem_at0 12 rfl)
set_option maxRecDepth 20000 in
theorem wm_44_13 : Cond.instanceMethod yX0_markDifference ∈ wsL_law := sub_wsL_law_r44 _ (mem_at0 13 rfl)
set_option maxRecDepth 20000 in
theorem wm_44_14 : Cond.selects RX0 yX0_markDifference yX0_markDifference ∈ wsL_law := sub_wsL_law_r44 _ (mem_at0 14 rfl)
set_option maxRecDepth 20000 in
theorem wm_44_15 : Cond.code yX0_markDifference cX0_markDifference 6 none ∈ wsL_law := sub_wsL_law_r44 _ (mem_at0 15 rfl)
set_option maxRecDepth 20000 in
theorem wm_44_16 : Cond.fieldLink RX0 93 "SubwordCounter$Language" "basics" "I" ∈ wsL_law := sub_wsL_law_r44 _ (mem_at0 16 rfl)
set_option maxRecDepth 20000 in
theorem wm_44_17 : Cond.methodLink RL 161 yX12_firstDifference ∈ wsL_law := sub_wsL_law_r44 _ (mem_at0 17 rfl)
set_option maxRecDepth 20000 in
theorem wm_44_18 : Cond.instanceMethod yX12_firstDifference ∈ wsL_law := sub_wsL_law_r44 _ (mem_at0 18 rfl)
set_option maxRecDepth 20000 in
theorem wm_44_19 : Cond.selects RX12 yX12_firstDifference yX12_firstDifference ∈ wsL_law := sub_wsL_law_r44 _ (mem_at0 19 rfl)
set_option maxRecDepth 20000 in
theorem wm_44_20 : Cond.code yX12_firstDifference cX12_firstDifference 4 (some .int) ∈ wsL_law := sub_wsL_law_r44 _ (mem_at0 20 rfl)
set_option maxRecDepth 20000 in
theorem wm_44_21 : Cond.methodLink RL 162 yX11_newRow ∈ wsL_law := sub_wsL_law_r44 _ (mem_at0 21 rfl)
set_option maxRecDepth 20000 in
theorem wm_44_22 : Cond.instanceMethod yX11_newRow ∈ wsL_law := sub_wsL_law_r44 _ (mem_at0 22 rfl)
set_option maxRecDepth 20000 in
theorem wm_44_23 : Cond.selects RX11 yX11_newRow yX11_newRow ∈ wsL_law := sub_wsL_law_r44 _ (mem_at0 23 rfl)
set_option maxRecDepth 20000 in
theorem sub_wsL_law_r45 : ∀ w ∈ wsL_law_r45, w ∈ wsL_law := fun w h => (List.mem_append_left _ (List.mem_append_left _ (List.mem_append_left _ (List.mem_append_left _ (List.mem_append_left _ (List.mem_append_left _ (List.mem_append_left _ (List.mem_append_left _ (List.mem_append_left _ (List.mem_append_left _ (List.mem_append_left _ (List.mem_append_left _ (List.mem_append_left _ (List.mem_append_right _ (List.mem_append_right _ (List.mem_append_right _ (List.mem_append_right _ (List.mem_append_right _ (List.mem_append_right _ (List.mem_append_right _ (List.mem_append_right _ (List.mem_append_right _ (List.mem_append_right _ (List.mem_append_right _ (List.mem_append_right _ (List.mem_append_right _ (List.mem_append_right _ (List.mem_append_right _ (List.mem_append_right _ (List.mem_append_right _ (List.mem_append_right _ (List.mem_append_right _ (List.mem_append_right _ (List.mem_append_right _ (List.mem_append_right _ (List.mem_append_right _ (List.mem_append_right _ (List.mem_append_right _ (List.mem_append_right _ (List.mem_append_right _ (List.mem_append_right _ (List.mem_append_right _ (List.mem_append_right _ (List.mem_append_right _ (List.mem_append_right _ (List.mem_append_right _ (List.mem_append_right _ (List.mem_append_right _ (List.mem_append_right _ (List.mem_append_right _ (List.mem_append_right _ (List.mem_append_right _ (List.mem_append_right _ (List.mem_append_right _ (List.mem_append_right _ (List.mem_append_right _ (List.mem_append_right _ (List.mem_append_left _ h))))))))))))))))))))))))))))))))))))))))))))))))))))))))))
set_option maxRecDepth 20000 in
theorem wm_45_0 : Cond.code yX11_newRow cX11_newRow 4 (some .int) ∈ wsL_law := sub_wsL_law_r45 _ (mem_at0 0 rfl)
set_option maxRecDepth 20000 in
theorem wm_45_1 : Cond.methodLink RX11 281 yX11_isRow ∈ wsL_law := sub_wsL_law_r45 _ (mem_at0 1 rfl)
set_option maxRecDepth 20000 in
theorem wm_45_2 : Cond.static yX11_isRow ∈ wsL_law := sub_wsL_law_r45 _ (mem_at0 2 rfl)
set_option maxRecDepth 20000 in
theorem wm_45_3 : Cond.code yX11_isRow cX11_isRow 1 (some .boolean) ∈ wsL_law := sub_wsL_law_r45 _ (mem_at0 3 rfl)
set_option maxRecDepth 20000 in
theorem wm_45_4 : Cond.methodLink RX11 284 yX6_restart ∈ wsL_law := sub_wsL_law_r45 _ (mem_at0 4 rfl)
set_option maxRecDepth 20000 in
theorem wm_45_5 : Cond.instanceMethod yX6_restart ∈ wsL_law := sub_wsL_law_r45 _ (mem_at0 5 rfl)
set_option maxRecDepth 20000 in
theorem wm_45_6 : Cond.selects RX6 yX6_restart yX6_restart ∈ wsL_law := sub_wsL_law_r45 _ (mem_at0 6 rfl)
set_option maxRecDepth 20000 in
theorem wm_45_7 : Cond.code yX6_restart cX6_restart 3 none ∈ wsL_law := sub_wsL_law_r45 _ (mem_at0 7 rfl)
set_option maxRecDepth 20000 in
theorem wm_45_8 : Cond.methodLink RX6 22 yJ7_fill_53178 ∈ wsL_law := sub_wsL_law_r45 _ (mem_at0 8 rfl)
set_option maxRecDepth 20000 in
theorem wm_45_9 : Cond.methodLink RL 165 yX12_newRow ∈ wsL_law := sub_wsL_law_r45 _ (mem_at0 9 rfl)
set_option maxRecDepth 20000 in
theorem wm_45_10 : Cond.instanceMethod yX12_newRow ∈ wsL_law := sub_wsL_law_r45 _ (mem_at0 10 rfl)
set_option maxRecDepth 20000 in
theorem wm_45_11 : Cond.selects RX12 yX12_newRow yX12_newRow ∈ wsL_law := sub_wsL_law_r45 _ (mem_at0 11 rfl)
set_option maxRecDepth 20000 in
theorem wm_45_12 : Cond.code yX12_newRow cX12_newRow 5 (some .int) ∈ wsL_law := sub_wsL_law_r45 _ (mem_at0 12 rfl)
set_option maxRecDepth 20000 in
theorem wm_45_13 : Cond.methodLink RX12 360 yX12_isRow ∈ wsL_law := sub_wsL_law_r45 _ (mem_at0 13 rfl)
set_option maxRecDepth 20000 in
theorem wm_45_14 : Cond.static yX12_isRow ∈ wsL_law := sub_wsL_law_r45 _ (mem_at0 14 rfl)
set_option maxRecDepth 20000 in
theorem wm_45_15 : Cond.code yX12_isRow cX12_isRow 1 (some .boolean) ∈ wsL_law := sub_wsL_law_r45 _ (mem_at0 15 rfl)
set_option maxRecDepth 20000 in
theorem wm_45_16 : Cond.methodLink RL 166 yX11_setElement ∈ wsL_law := sub_wsL_law_r45 _ (mem_at0 16 rfl)
set_option maxRecDepth 20000 in
theorem wm_45_17 : Cond.instanceMethod yX11_setElement ∈ wsL_law := sub_wsL_law_r45 _ (mem_at0 17 rfl)
set_option maxRecDepth 20000 in
theorem wm_45_18 : Cond.selects RX11 yX11_setElement yX11_setElement ∈ wsL_law := sub_wsL_law_r45 _ (mem_at0 18 rfl)
set_option maxRecDepth 20000 in
theorem wm_45_19 : Cond.code yX11_setElement cX11_setElement 5 (some .int) ∈ wsL_law := sub_wsL_law_r45 _ (mem_at0 19 rfl)
set_option maxRecDepth 20000 in
theorem wm_45_20 : Cond.fieldLink RX11 287 "SubwordCounter$Row" "type" "I" ∈ wsL_law := sub_wsL_law_r45 _ (mem_at0 20 rfl)
set_option maxRecDepth 20000 in
theorem wm_45_21 : Cond.fieldLink RX11 290 "SubwordCounter$Row" "size" "I" ∈ wsL_law := sub_wsL_law_r45 _ (mem_at0 21 rfl)
set_option maxRecDepth 20000 in
theorem wm_45_22 : Cond.methodLink RX11 291 yX6_put ∈ wsL_law := sub_wsL_law_r45 _ (mem_at0 22 rfl)
set_option maxRecDepth 20000 in
theorem wm_45_23 : Cond.instanceMethod yX6_put ∈ wsL_law := sub_wsL_law_r45 _ (mem_at0 23 rfl)
set_option maxRecDepth 20000 in
theorem sub_wsL_law_r46 : ∀ w ∈ wsL_law_r46, w ∈ wsL_law := fun w h => (List.mem_append_left _ (List.mem_append_left _ (List.mem_append_left _ (List.mem_append_left _ (List.mem_append_left _ (List.mem_append_left _ (List.mem_append_left _ (List.mem_append_left _ (List.mem_append_left _ (List.mem_append_left _ (List.mem_append_left _ (List.mem_append_left _ (List.mem_append_left _ (List.mem_append_right _ (List.mem_append_right _ (List.mem_append_right _ (List.mem_append_right _ (List.mem_append_right _ (List.mem_append_right _ (List.mem_append_right _ (List.mem_append_right _ (List.mem_append_right _ (List.mem_append_right _ (List.mem_append_right _ (List.mem_append_right _ (List.mem_append_right _ (List.mem_append_right _ (List.mem_append_right _ (List.mem_append_right _ (List.mem_append_right _ (List.mem_append_right _ (List.mem_append_right _ (List.mem_append_right _ (List.mem_append_right _ (List.mem_append_right _ (List.mem_append_right _ (List.mem_append_right _ (List.mem_append_right _ (List.mem_append_right _ (List.mem_append_right _ (List.mem_append_right _ (List.mem_append_right _ (List.mem_append_right _ (List.mem_append_right _ (List.mem_append_right _ (List.mem_append_right _ (List.mem_append_right _ (List.mem_append_right _ (List.mem_append_right _ (List.mem_append_right _ (List.mem_append_right _ (List.mem_append_right _ (List.mem_append_right _ (List.mem_append_right _ (List.mem_append_right _ (List.mem_append_right _ (List.mem_append_right _ (List.mem_append_right _ (List.mem_append_left _ h)))))))))))))))))))))))))))))))))))))))))))))))))))))))))))
set_option maxRecDepth 20000 in
theorem wm_46_0 : Cond.selects RX6 yX6_put yX6_put ∈ wsL_law := sub_wsL_law_r46 _ (mem_at0 0 rfl)
set_option maxRecDepth 20000 in
theorem wm_46_1 : Cond.code yX6_put cX6_put 3 none ∈ wsL_law := sub_wsL_law_r46 _ (mem_at0 1 rfl)
set_option maxRecDepth 20000 in
theorem wm_46_2 : Cond.methodLink RL 169 yX12_setElement ∈ wsL_law := sub_wsL_law_r46 _ (mem_at0 2 rfl)
set_option maxRecDepth 20000 in
theorem wm_46_3 : Cond.instanceMethod yX12_setElement ∈ wsL_law := sub_wsL_law_r46 _ (mem_at0 3 rfl)
set_option maxRecDepth 20000 in
theorem wm_46_4 : Cond.selects RX12 yX12_setElement yX12_setElement ∈ wsL_law := sub_wsL_law_r46 _ (mem_at0 4 rfl)
set_option maxRecDepth 20000 in
theorem wm_46_5 : Cond.code yX12_setElement cX12_setElement 4 (some .int) ∈ wsL_law := sub_wsL_law_r46 _ (mem_at0 5 rfl)
set_option maxRecDepth 20000 in
theorem wm_46_6 : Cond.methodLink RX12 363 yX12_setItem ∈ wsL_law := sub_wsL_law_r46 _ (mem_at0 6 rfl)
set_option maxRecDepth 20000 in
theorem wm_46_7 : Cond.instanceMethod yX12_setItem ∈ wsL_law := sub_wsL_law_r46 _ (mem_at0 7 rfl)
set_option maxRecDepth 20000 in
theorem wm_46_8 : Cond.selects RX12 yX12_setItem yX12_setItem ∈ wsL_law := sub_wsL_law_r46 _ (mem_at0 8 rfl)
set_option maxRecDepth 20000 in
theorem wm_46_9 : Cond.code yX12_setItem cX12_setItem 5 none ∈ wsL_law := sub_wsL_law_r46 _ (mem_at0 9 rfl)
set_option maxRecDepth 20000 in
theorem wm_46_10 : Cond.methodLink RL 170 yX11_element ∈ wsL_law := sub_wsL_law_r46 _ (mem_at0 10 rfl)
set_option maxRecDepth 20000 in
theorem wm_46_11 : Cond.instanceMethod yX11_element ∈ wsL_law := sub_wsL_law_r46 _ (mem_at0 11 rfl)
set_option maxRecDepth 20000 in
theorem wm_46_12 : Cond.selects RX11 yX11_element yX11_element ∈ wsL_law := sub_wsL_law_r46 _ (mem_at0 12 rfl)
set_option maxRecDepth 20000 in
theorem wm_46_13 : Cond.code yX11_element cX11_element 3 (some .long) ∈ wsL_law := sub_wsL_law_r46 _ (mem_at0 13 rfl)
set_option maxRecDepth 20000 in
theorem wm_46_14 : Cond.constantLong RX11 294 (-9223372036854775808) ∈ wsL_law := sub_wsL_law_r46 _ (mem_at0 14 rfl)
set_option maxRecDepth 20000 in
theorem wm_46_15 : Cond.fieldLink RX11 296 "SubwordCounter$Row" "elements" "[I" ∈ wsL_law := sub_wsL_law_r46 _ (mem_at0 15 rfl)
set_option maxRecDepth 20000 in
theorem wm_46_16 : Cond.methodLink RL 173 yX12_element ∈ wsL_law := sub_wsL_law_r46 _ (mem_at0 16 rfl)
set_option maxRecDepth 20000 in
theorem wm_46_17 : Cond.instanceMethod yX12_element ∈ wsL_law := sub_wsL_law_r46 _ (mem_at0 17 rfl)
set_option maxRecDepth 20000 in
theorem wm_46_18 : Cond.selects RX12 yX12_element yX12_element ∈ wsL_law := sub_wsL_law_r46 _ (mem_at0 18 rfl)
set_option maxRecDepth 20000 in
theorem wm_46_19 : Cond.code yX12_element cX12_element 3 (some .long) ∈ wsL_law := sub_wsL_law_r46 _ (mem_at0 19 rfl)
set_option maxRecDepth 20000 in
theorem wm_46_20 : Cond.constantLong RX12 369 (-9223372036854775808) ∈ wsL_law := sub_wsL_law_r46 _ (mem_at0 20 rfl)
set_option maxRecDepth 20000 in
theorem wm_46_21 : Cond.methodLink RL 174 yX11_copyElements ∈ wsL_law := sub_wsL_law_r46 _ (mem_at0 21 rfl)
set_option maxRecDepth 20000 in
theorem wm_46_22 : Cond.instanceMethod yX11_copyElements ∈ wsL_law := sub_wsL_law_r46 _ (mem_at0 22 rfl)
set_option maxRecDepth 20000 in
theorem wm_46_23 : Cond.selects RX11 yX11_copyElements yX11_copyElements ∈ wsL_law := sub_wsL_law_r46 _ (mem_at0 23 rfl)
set_option maxRecDepth 20000 in
theorem sub_wsL_law_r47 : ∀ w ∈ wsL_law_r47, w ∈ wsL_law := fun w h => (List.mem_append_left _ (List.mem_append_left _ (List.mem_append_left _ (List.mem_append_left _ (List.mem_append_left _ (List.mem_append_left _ (List.mem_append_left _ (List.mem_append_left _ (List.mem_append_left _ (List.mem_append_left _ (List.mem_append_left _ (List.mem_append_left _ (List.mem_append_left _ (List.mem_append_right _ (List.mem_append_right _ (List.mem_append_right _ (List.mem_append_right _ (List.mem_append_right _ (List.mem_append_right _ (List.mem_append_right _ (List.mem_append_right _ (List.mem_append_right _ (List.mem_append_right _ (List.mem_append_right _ (List.mem_append_right _ (List.mem_append_right _ (List.mem_append_right _ (List.mem_append_right _ (List.mem_append_right _ (List.mem_append_right _ (List.mem_append_right _ (List.mem_append_right _ (List.mem_append_right _ (List.mem_append_right _ (List.mem_append_right _ (List.mem_append_right _ (List.mem_append_right _ (List.mem_append_right _ (List.mem_append_right _ (List.mem_append_right _ (List.mem_append_right _ (List.mem_append_right _ (List.mem_append_right _ (List.mem_append_right _ (List.mem_append_right _ (List.mem_append_right _ (List.mem_append_right _ (List.mem_append_right _ (List.mem_append_right _ (List.mem_append_right _ (List.mem_append_right _ (List.mem_append_right _ (List.mem_append_right _ (List.mem_append_right _ (List.mem_append_right _ (List.mem_append_right _ (List.mem_append_right _ (List.mem_append_right _ (List.mem_append_right _ (List.mem_append_left _ h))))))))))))))))))))))))))))))))))))))))))))))))))))))))))))
set_option maxRecDepth 20000 in
theorem wm_47_0 : Cond.code yX11_copyElements cX11_copyElements 8 (some .int) ∈ wsL_law := sub_wsL_law_r47 _ (mem_at0 0 rfl)
set_option maxRecDepth 20000 in
theorem wm_47_1 : Cond.methodLink RX11 303 arraycopyName ∈ wsL_law := sub_wsL_law_r47 _ (mem_at0 1 rfl)
set_option maxRecDepth 20000 in
theorem wm_47_2 : Cond.methodLink RX11 299 yX6_hasRange ∈ wsL_law := sub_wsL_law_r47 _ (mem_at0 2 rfl)
set_option maxRecDepth 20000 in
theorem wm_47_3 : Cond.instanceMethod yX6_hasRange ∈ wsL_law := sub_wsL_law_r47 _ (mem_at0 3 rfl)
set_option maxRecDepth 20000 in
theorem wm_47_4 : Cond.selects RX6 yX6_hasRange yX6_hasRange ∈ wsL_law := sub_wsL_law_r47 _ (mem_at0 4 rfl)
set_option maxRecDepth 20000 in
theorem wm_47_5 : Cond.code yX6_hasRange cX6_hasRange 3 (some .boolean) ∈ wsL_law := sub_wsL_law_r47 _ (mem_at0 5 rfl)
set_option maxRecDepth 20000 in
theorem wm_47_6 : Cond.methodLink RL 178 yX12_copyElements ∈ wsL_law := sub_wsL_law_r47 _ (mem_at0 6 rfl)
set_option maxRecDepth 20000 in
theorem wm_47_7 : Cond.instanceMethod yX12_copyElements ∈ wsL_law := sub_wsL_law_r47 _ (mem_at0 7 rfl)
set_option maxRecDepth 20000 in
theorem wm_47_8 : Cond.selects RX12 yX12_copyElements yX12_copyElements ∈ wsL_law := sub_wsL_law_r47 _ (mem_at0 8 rfl)
set_option maxRecDepth 20000 in
theorem wm_47_9 : Cond.code yX12_copyElements cX12_copyElements 7 (some .int) ∈ wsL_law := sub_wsL_law_r47 _ (mem_at0 9 rfl)
set_option maxRecDepth 20000 in
theorem wm_47_10 : Cond.methodLink RL 179 yX11_fillCounts ∈ wsL_law := sub_wsL_law_r47 _ (mem_at0 10 rfl)
set_option maxRecDepth 20000 in
theorem wm_47_11 : Cond.instanceMethod yX11_fillCounts ∈ wsL_law := sub_wsL_law_r47 _ (mem_at0 11 rfl)
set_option maxRecDepth 20000 in
theorem wm_47_12 : Cond.selects RX11 yX11_fillCounts yX11_fillCounts ∈ wsL_law := sub_wsL_law_r47 _ (mem_at0 12 rfl)
set_option maxRecDepth 20000 in
theorem wm_47_13 : Cond.code yX11_fillCounts cX11_fillCounts 6 (some .int) ∈ wsL_law := sub_wsL_law_r47 _ (mem_at0 13 rfl)
set_option maxRecDepth 20000 in
theorem wm_47_14 : Cond.methodLink RL 182 yX12_fillCounts ∈ wsL_law := sub_wsL_law_r47 _ (mem_at0 14 rfl)
set_option maxRecDepth 20000 in
theorem wm_47_15 : Cond.instanceMethod yX12_fillCounts ∈ wsL_law := sub_wsL_law_r47 _ (mem_at0 15 rfl)
set_option maxRecDepth 20000 in
theorem wm_47_16 : Cond.selects RX12 yX12_fillCounts yX12_fillCounts ∈ wsL_law := sub_wsL_law_r47 _ (mem_at0 16 rfl)
set_option maxRecDepth 20000 in
theorem wm_47_17 : Cond.code yX12_fillCounts cX12_fillCounts 4 (some .int) ∈ wsL_law := sub_wsL_law_r47 _ (mem_at0 17 rfl)
set_option maxRecDepth 20000 in
theorem wm_47_18 : Cond.methodLink RL 183 yX11_saveSnapshot ∈ wsL_law := sub_wsL_law_r47 _ (mem_at0 18 rfl)
set_option maxRecDepth 20000 in
theorem wm_47_19 : Cond.instanceMethod yX11_saveSnapshot ∈ wsL_law := sub_wsL_law_r47 _ (mem_at0 19 rfl)
set_option maxRecDepth 20000 in
theorem wm_47_20 : Cond.selects RX11 yX11_saveSnapshot yX11_saveSnapshot ∈ wsL_law := sub_wsL_law_r47 _ (mem_at0 20 rfl)
set_option maxRecDepth 20000 in
theorem wm_47_21 : Cond.code yX11_saveSnapshot cX11_saveSnapshot 1 (some .int) ∈ wsL_law := sub_wsL_law_r47 _ (mem_at0 21 rfl)
set_option maxRecDepth 20000 in
theorem wm_47_22 : Cond.methodLink RX11 309 yX5_copyFrom ∈ wsL_law := sub_wsL_law_r47 _ (mem_at0 22 rfl)
set_option maxRecDepth 20000 in
theorem wm_47_23 : Cond.instanceMethod yX5_copyFrom ∈ wsL_law := sub_wsL_law_r47 _ (mem_at0 23 rfl)
set_option maxRecDepth 20000 in
theorem sub_wsL_law_r48 : ∀ w ∈ wsL_law_r48, w ∈ wsL_law := fun w h => (List.mem_append_left _ (List.mem_append_left _ (List.mem_append_left _ (List.mem_append_left _ (List.mem_append_left _ (List.mem_append_left _ (List.mem_append_left _ (List.mem_append_left _ (List.mem_append_left _ (List.mem_append_left _ (List.mem_append_left _ (List.mem_append_left _ (List.mem_append_left _ (List.mem_append_right _ (List.mem_append_right _ (List.mem_append_right _ (List.mem_append_right _ (List.mem_append_right _ (List.mem_append_right _ (List.mem_append_right _ (List.mem_append_right _ (List.mem_append_right _ (List.mem_append_right _ (List.mem_append_right _ (List.mem_append_right _ (List.mem_append_right _ (List.mem_append_right _ (List.mem_append_right _ (List.mem_append_right _ (List.mem_append_right _ (List.mem_append_right _ (List.mem_append_right _ (List.mem_append_right _ (List.mem_append_right _ (List.mem_append_right _ (List.mem_append_right _ (List.mem_append_right _ (List.mem_append_right _ (List.mem_append_right _ (List.mem_append_right _ (List.mem_append_right _ (List.mem_append_right _ (List.mem_append_right _ (List.mem_append_right _ (List.mem_append_right _ (List.mem_append_right _ (List.mem_append_right _ (List.mem_append_right _ (List.mem_append_right _ (List.mem_append_right _ (List.mem_append_right _ (List.mem_append_right _ (List.mem_append_right _ (List.mem_append_right _ (List.mem_append_right _ (List.mem_append_right _ (List.mem_append_right _ (List.mem_append_right _ (List.mem_append_right _ (List.mem_append_right _ (List.mem_append_left _ h)))))))))))))))))))))))))))))))))))))))))))))))))))))))))))))
set_option maxRecDepth 20000 in
theorem wm_48_0 : Cond.selects RX5 yX5_copyFrom yX5_copyFrom ∈ wsL_law := sub_wsL_law_r48 _ (mem_at0 0 rfl)
set_option maxRecDepth 20000 in
theorem wm_48_1 : Cond.code yX5_copyFrom cX5_copyFrom 3 none ∈ wsL_law := sub_wsL_law_r48 _ (mem_at0 1 rfl)
set_option maxRecDepth 20000 in
theorem wm_48_2 : Cond.methodLink RX5 48 arraycopyName ∈ wsL_law := sub_wsL_law_r48 _ (mem_at0 2 rfl)
set_option maxRecDepth 20000 in
theorem wm_48_3 : Cond.methodLink RX5 41 yX1_copyFrom ∈ wsL_law := sub_wsL_law_r48 _ (mem_at0 3 rfl)
set_option maxRecDepth 20000 in
theorem wm_48_4 : Cond.instanceMethod yX1_copyFrom ∈ wsL_law := sub_wsL_law_r48 _ (mem_at0 4 rfl)
set_option maxRecDepth 20000 in
theorem wm_48_5 : Cond.selects RX1 yX1_copyFrom yX1_copyFrom ∈ wsL_law := sub_wsL_law_r48 _ (mem_at0 5 rfl)
set_option maxRecDepth 20000 in
theorem wm_48_6 : Cond.code yX1_copyFrom cX1_copyFrom 2 none ∈ wsL_law := sub_wsL_law_r48 _ (mem_at0 6 rfl)
set_option maxRecDepth 20000 in
theorem wm_48_7 : Cond.methodLink RX1 21 arraycopyName ∈ wsL_law := sub_wsL_law_r48 _ (mem_at0 7 rfl)
set_option maxRecDepth 20000 in
theorem wm_48_8 : Cond.methodLink RX5 45 yX9_copyFrom ∈ wsL_law := sub_wsL_law_r48 _ (mem_at0 8 rfl)
set_option maxRecDepth 20000 in
theorem wm_48_9 : Cond.methodLink RX11 312 yX5_languagesHeld ∈ wsL_law := sub_wsL_law_r48 _ (mem_at0 9 rfl)
set_option maxRecDepth 20000 in
theorem wm_48_10 : Cond.instanceMethod yX5_languagesHeld ∈ wsL_law := sub_wsL_law_r48 _ (mem_at0 10 rfl)
set_option maxRecDepth 20000 in
theorem wm_48_11 : Cond.selects RX5 yX5_languagesHeld yX5_languagesHeld ∈ wsL_law := sub_wsL_law_r48 _ (mem_at0 11 rfl)
set_option maxRecDepth 20000 in
theorem wm_48_12 : Cond.code yX5_languagesHeld cX5_languagesHeld 3 (some .int) ∈ wsL_law := sub_wsL_law_r48 _ (mem_at0 12 rfl)
set_option maxRecDepth 20000 in
theorem wm_48_13 : Cond.methodLink RL 186 yX12_saveSnapshot ∈ wsL_law := sub_wsL_law_r48 _ (mem_at0 13 rfl)
set_option maxRecDepth 20000 in
theorem wm_48_14 : Cond.instanceMethod yX12_saveSnapshot ∈ wsL_law := sub_wsL_law_r48 _ (mem_at0 14 rfl)
set_option maxRecDepth 20000 in
theorem wm_48_15 : Cond.selects RX12 yX12_saveSnapshot yX12_saveSnapshot ∈ wsL_law := sub_wsL_law_r48 _ (mem_at0 15 rfl)
set_option maxRecDepth 20000 in
theorem wm_48_16 : Cond.code yX12_saveSnapshot cX12_saveSnapshot 1 (some .int) ∈ wsL_law := sub_wsL_law_r48 _ (mem_at0 16 rfl)
set_option maxRecDepth 20000 in
theorem wm_48_17 : Cond.fieldLink RX12 384 "SubwordCounterModel" "hasSnapshot" "Z" ∈ wsL_law := sub_wsL_law_r48 _ (mem_at0 17 rfl)
set_option maxRecDepth 20000 in
theorem wm_48_18 : Cond.methodLink RX12 387 yX12_passState ∈ wsL_law := sub_wsL_law_r48 _ (mem_at0 18 rfl)
set_option maxRecDepth 20000 in
theorem wm_48_19 : Cond.instanceMethod yX12_passState ∈ wsL_law := sub_wsL_law_r48 _ (mem_at0 19 rfl)
set_option maxRecDepth 20000 in
theorem wm_48_20 : Cond.selects RX12 yX12_passState yX12_passState ∈ wsL_law := sub_wsL_law_r48 _ (mem_at0 20 rfl)
set_option maxRecDepth 20000 in
theorem wm_48_21 : Cond.code yX12_passState cX12_passState 4 (some .int) ∈ wsL_law := sub_wsL_law_r48 _ (mem_at0 21 rfl)
set_option maxRecDepth 20000 in
theorem wm_48_22 : Cond.fieldLink RX12 371 "SubwordCounterModel" "isSaving" "Z" ∈ wsL_law := sub_wsL_law_r48 _ (mem_at0 22 rfl)
set_option maxRecDepth 20000 in
theorem wm_48_23 : Cond.fieldLink RX12 374 "SubwordCounterModel" "cursor" "I" ∈ wsL_law := sub_wsL_law_r48 _ (mem_at0 23 rfl)
set_option maxRecDepth 20000 in
theorem sub_wsL_law_r49 : ∀ w ∈ wsL_law_r49, w ∈ wsL_law := fun w h => (List.mem_append_left _ (List.mem_append_left _ (List.mem_append_left _ (List.mem_append_left _ (List.mem_append_left _ (List.mem_append_left _ (List.mem_append_left _ (List.mem_append_left _ (List.mem_append_left _ (List.mem_append_left _ (List.mem_append_left _ (List.mem_append_left _ (List.mem_append_left _ (List.mem_append_right _ (List.mem_append_right _ (List.mem_append_right _ (List.mem_append_right _ (List.mem_append_right _ (List.mem_append_right _ (List.mem_append_right _ (List.mem_append_right _ (List.mem_append_right _ (List.mem_append_right _ (List.mem_append_right _ (List.mem_append_right _ (List.mem_append_right _ (List.mem_append_right _ (List.mem_append_right _ (List.mem_append_right _ (List.mem_append_right _ (List.mem_append_right _ (List.mem_append_right _ (List.mem_append_right _ (List.mem_append_right _ (List.mem_append_right _ (List.mem_append_right _ (List.mem_append_right _ (List.mem_append_right _ (List.mem_append_right _ (List.mem_append_right _ (List.mem_append_right _ (List.mem_append_right _ (List.mem_append_right _ (List.mem_append_right _ (List.mem_append_right _ (List.mem_append_right _ (List.mem_append_right _ (List.mem_append_right _ (List.mem_append_right _ (List.mem_append_right _ (List.mem_append_right _ (List.mem_append_right _ (List.mem_append_right _ (List.mem_append_right _ (List.mem_append_right _ (List.mem_append_right _ (List.mem_append_right _ (List.mem_append_right _ (List.mem_append_right _ (List.mem_append_right _ (List.mem_append_right _ h)))))))))))))))))))))))))))))))))))))))))))))))))))))))))))))
set_option maxRecDepth 20000 in
theorem wm_49_0 : Cond.methodLink RX12 377 yX12_pass ∈ wsL_law := sub_wsL_law_r49 _ (mem_at0 0 rfl)
set_option maxRecDepth 20000 in
theorem wm_49_1 : Cond.instanceMethod yX12_pass ∈ wsL_law := sub_wsL_law_r49 _ (mem_at0 1 rfl)
set_option maxRecDepth 20000 in
theorem wm_49_2 : Cond.selects RX12 yX12_pass yX12_pass ∈ wsL_law := sub_wsL_law_r49 _ (mem_at0 2 rfl)
set_option maxRecDepth 20000 in
theorem wm_49_3 : Cond.code yX12_pass cX12_pass 3 (some .int) ∈ wsL_law := sub_wsL_law_r49 _ (mem_at0 3 rfl)
set_option maxRecDepth 20000 in
theorem wm_49_4 : Cond.methodLink RX12 380 yX12_passAll ∈ wsL_law := sub_wsL_law_r49 _ (mem_at0 4 rfl)
set_option maxRecDepth 20000 in
theorem wm_49_5 : Cond.instanceMethod yX12_passAll ∈ wsL_law := sub_wsL_law_r49 _ (mem_at0 5 rfl)
set_option maxRecDepth 20000 in
theorem wm_49_6 : Cond.selects RX12 yX12_passAll yX12_passAll ∈ wsL_law := sub_wsL_law_r49 _ (mem_at0 6 rfl)
set_option maxRecDepth 20000 in
theorem wm_49_7 : Cond.code yX12_passAll cX12_passAll 3 none ∈ wsL_law := sub_wsL_law_r49 _ (mem_at0 7 rfl)
set_option maxRecDepth 20000 in
theorem wm_49_8 : Cond.methodLink RL 187 yX11_restoreSnapshot ∈ wsL_law := sub_wsL_law_r49 _ (mem_at0 8 rfl)
set_option maxRecDepth 20000 in
theorem wm_49_9 : Cond.instanceMethod yX11_restoreSnapshot ∈ wsL_law := sub_wsL_law_r49 _ (mem_at0 9 rfl)
set_option maxRecDepth 20000 in
theorem wm_49_10 : Cond.selects RX11 yX11_restoreSnapshot yX11_restoreSnapshot ∈ wsL_law := sub_wsL_law_r49 _ (mem_at0 10 rfl)
set_option maxRecDepth 20000 in
theorem wm_49_11 : Cond.code yX11_restoreSnapshot cX11_restoreSnapshot 1 (some .int) ∈ wsL_law := sub_wsL_law_r49 _ (mem_at0 11 rfl)
set_option maxRecDepth 20000 in
theorem wm_49_12 : Cond.methodLink RL 190 yX12_restoreSnapshot ∈ wsL_law := sub_wsL_law_r49 _ (mem_at0 12 rfl)
set_option maxRecDepth 20000 in
theorem wm_49_13 : Cond.instanceMethod yX12_restoreSnapshot ∈ wsL_law := sub_wsL_law_r49 _ (mem_at0 13 rfl)
set_option maxRecDepth 20000 in
theorem wm_49_14 : Cond.selects RX12 yX12_restoreSnapshot yX12_restoreSnapshot ∈ wsL_law := sub_wsL_law_r49 _ (mem_at0 14 rfl)
set_option maxRecDepth 20000 in
theorem wm_49_15 : Cond.code yX12_restoreSnapshot cX12_restoreSnapshot 1 (some .int) ∈ wsL_law := sub_wsL_law_r49 _ (mem_at0 15 rfl)
set_option maxRecDepth 20000 in
theorem sub_wsX11_init_r1 : ∀ w ∈ wsX11_init_r1, w ∈ wsL_law := (fmC wm_1_9 (fmC wm_1_10 (fmC wm_1_11 (fmC wm_1_12 (fmC wm_1_13 (fmC wm_1_14 (fmC wm_1_15 (fmC wm_1_16 (fmC wm_1_17 (fmC wm_1_18 (fmC wm_1_19 (fmC wm_1_20 (fmC wm_1_21 (fmC wm_1_22 (fmC wm_1_23 (fmC wm_2_0 (fmC wm_2_1 (fmC wm_2_2 (fmC wm_2_3 (fmC wm_2_4 (fmC wm_2_5 (fmC wm_2_6 (fmC wm_2_7 (fmC wm_2_8 fmN))))))))))))))))))))))))
set_option maxRecDepth 20000 in
theorem sub_wsX11_init_r2 : ∀ w ∈ wsX11_init_r2, w ∈ wsL_law := (fmC wm_2_9 (fmC wm_2_10 (fmC wm_2_11 (fmC wm_2_12 (fmC wm_2_13 (fmC wm_2_14 (fmC wm_2_15 (fmC wm_2_16 (fmC wm_2_17 (fmC wm_2_18 (fmC wm_2_19 (fmC wm_2_20 (fmC wm_2_21 (fmC wm_2_22 (fmC wm_2_23 (fmC wm_3_0 (fmC wm_3_1 (fmC wm_3_2 (fmC wm_3_3 (fmC wm_3_4 (fmC wm_3_5 (fmC wm_3_6 (fmC wm_3_7 (fmC wm_3_8 fmN))))))))))))))))))))))))
set_option maxRecDepth 20000 in
theorem sub_wsX11_init_r3 : ∀ w ∈ wsX11_init_r3, w ∈ wsL_law := (fmC wm_3_9 (fmC wm_3_10 (fmC wm_3_11 (fmC wm_3_12 (fmC wm_3_13 (fmC wm_3_14 (fmC wm_3_15 (fmC wm_3_16 (fmC wm_3_17 (fmC wm_3_18 (fmC wm_3_19 (fmC wm_3_20 (fmC wm_3_21 (fmC wm_3_22 (fmC wm_3_23 (fmC wm_4_0 (fmC wm_4_1 (fmC wm_4_2 (fmC wm_4_3 (fmC wm_4_4 (fmC wm_4_5 (fmC wm_4_6 (fmC wm_4_7 (fmC wm_4_8 fmN))))))))))))))))))))))))
set_option maxRecDepth 20000 in
theorem sub_wsX11_init_r4 : ∀ w ∈ wsX11_init_r4, w ∈ wsL_law := (fmC wm_4_9 (fmC wm_4_10 (fmC wm_4_11 (fmC wm_4_12 (fmC wm_4_13 (fmC wm_4_14 (fmC wm_4_15 (fmC wm_4_16 (fmC wm_4_17 (fmC wm_4_18 (fmC wm_4_19 (fmC wm_4_20 (fmC wm_4_21 (fmC wm_4_22 (fmC wm_4_23 (fmC wm_5_0 (fmC wm_5_1 (fmC wm_5_2 (fmC wm_5_3 (fmC wm_5_4 (fmC wm_5_5 (fmC wm_5_6 (fmC wm_5_7 (fmC wm_5_8 fmN))))))))))))))))))))))))
set_option maxRecDepth 20000 in
theorem sub_wsX11_init_r5 : ∀ w ∈ wsX11_init_r5, w ∈ wsL_law := (fmC wm_5_9 (fmC wm_5_10 (fmC wm_5_11 (fmC wm_5_12 (fmC wm_5_13 (fmC wm_5_14 (fmC wm_5_15 (fmC wm_5_16 (fmC wm_5_17 (fmC wm_5_18 (fmC wm_5_19 (fmC wm_5_20 (fmC wm_5_21 fmN)))))))))))))
set_option maxRecDepth 20000 in
theorem sub_wsX50 : ∀ w ∈ wsX50, w ∈ wsL_law := (fun w h => (List.mem_append_left _ (List.mem_append_left _ (List.mem_append_left _ (List.mem_append_left _ (List.mem_append_left _ (List.mem_append_left _ (List.mem_append_left _ (List.mem_append_left _ (List.mem_append_left _ (List.mem_append_left _ (List.mem_append_right _ h))))))))))))
set_option maxRecDepth 20000 in
theorem sub_wsX110 : ∀ w ∈ wsX110, w ∈ wsL_law := (fun w h => (List.mem_append_left _ (List.mem_append_left _ (List.mem_append_left _ (List.mem_append_left _ (List.mem_append_left _ (List.mem_append_left _ (List.mem_append_left _ (List.mem_append_left _ (List.mem_append_left _ (List.mem_append_left _ (List.mem_append_left _ (List.mem_append_left _ (List.mem_append_right _ h))))))))))))))
set_option maxRecDepth 20000 in
theorem sub_wsX90 : ∀ w ∈ wsX90, w ∈ wsL_law := (fun w h => (List.mem_append_left _ (List.mem_append_left _ (List.mem_append_left _ (List.mem_append_left _ (List.mem_append_left _ (List.mem_append_left _ (List.mem_append_left _ (List.mem_append_left _ (List.mem_append_left _ (List.mem_append_right _ h)))))))))))
set_option maxRecDepth 20000 in
theorem sub_wsX100 : ∀ w ∈ wsX100, w ∈ wsL_law := (fun w h => (List.mem_append_left _ (List.mem_append_left _ (List.mem_append_left _ (List.mem_append_left _ (List.mem_append_left _ (List.mem_append_left _ (List.mem_append_left _ (List.mem_append_left _ (List.mem_append_right _ h))))))))))
set_option maxRecDepth 20000 in
theorem sub_wsX00 : ∀ w ∈ wsX00, w ∈ wsL_law := (fun w h => (List.mem_append_left _ (List.mem_append_left _ (List.mem_append_left _ (List.mem_append_left _ (List.mem_append_left _ (List.mem_append_left _ (List.mem_append_left _ (List.mem_append_right _ h)))))))))
set_option maxRecDepth 20000 in
theorem sub_wsX40 : ∀ w ∈ wsX40, w ∈ wsL_law := (fun w h => (List.mem_append_left _ (List.mem_append_left _ (List.mem_append_left _ (List.mem_append_left _ (List.mem_append_left _ (List.mem_append_left _ (List.mem_append_right _ h))))))))
set_option maxRecDepth 20000 in
theorem sub_wsX60 : ∀ w ∈ wsX60, w ∈ wsL_law := (fun w h => (List.mem_append_left _ (List.mem_append_left _ (List.mem_append_left _ (List.mem_append_left _ (List.mem_append_left _ (List.mem_append_right _ h)))))))
set_option maxRecDepth 20000 in
theorem sub_wsX10 : ∀ w ∈ wsX10, w ∈ wsL_law := (fun w h => (List.mem_append_left _ (List.mem_append_left _ (List.mem_append_left _ (List.mem_append_left _ (List.mem_append_right _ h))))))
set_option maxRecDepth 20000 in
theorem sub_wsX11_init : ∀ w ∈ wsX11_init, w ∈ wsL_law := (fmC wm_1_8 (fmA (fmA (fmA (fmA (fmA (fmA (fmA (fmA (fmA sub_wsX11_init_r1 (fmA sub_wsX11_init_r2 (fmA sub_wsX11_init_r3 (fmA sub_wsX11_init_r4 sub_wsX11_init_r5)))) sub_wsX50) sub_wsX110) sub_wsX90) sub_wsX100) sub_wsX00) sub_wsX40) sub_wsX60) sub_wsX10))
set_option maxRecDepth 20000 in
theorem gL_law_X11_init : GoodIn wsL_law (wsX11_init) := goodIn_sub sub_wsX11_init (by decide +kernel)
set_option maxRecDepth 20000 in
theorem sub_wsX12_init_r1 : ∀ w ∈ wsX12_init_r1, w ∈ wsL_law := (fmC wm_6_1 (fmC wm_1_10 (fmC wm_1_11 (fmC wm_6_2 (fmC wm_1_18 (fmC wm_6_3 (fmC wm_6_4 (fmC wm_6_5 (fmC wm_6_6 (fmC wm_6_7 (fmC wm_6_8 (fmC wm_6_9 (fmC wm_6_10 (fmC wm_6_11 (fmC wm_6_12 (fmC wm_6_13 (fmC wm_6_14 (fmC wm_6_15 (fmC wm_6_16 (fmC wm_6_17 (fmC wm_6_18 (fmC wm_6_19 (fmC wm_6_20 (fmC wm_6_21 fmN))))))))))))))))))))))))
set_option maxRecDepth 20000 in
theorem sub_wsX12_init_r2 : ∀ w ∈ wsX12_init_r2, w ∈ wsL_law := (fmC wm_6_22 (fmC wm_6_23 (fmC wm_7_0 (fmC wm_7_1 (fmC wm_7_2 (fmC wm_7_3 (fmC wm_7_4 (fmC wm_7_5 (fmC wm_7_6 (fmC wm_7_7 (fmC wm_7_8 (fmC wm_2_16 (fmC wm_7_9 (fmC wm_7_10 (fmC wm_7_11 (fmC wm_7_12 (fmC wm_7_13 (fmC wm_7_14 (fmC wm_7_15 (fmC wm_7_16 (fmC wm_7_17 (fmC wm_7_18 (fmC wm_7_19 (fmC wm_7_20 fmN))))))))))))))))))))))))
set_option maxRecDepth 20000 in
theorem sub_wsX12_init_r3 : ∀ w ∈ wsX12_init_r3, w ∈ wsL_law := (fmC wm_7_21 (fmC wm_7_22 (fmC wm_7_23 (fmC wm_8_0 (fmC wm_8_1 (fmC wm_8_2 (fmC wm_8_3 (fmC wm_8_4 (fmC wm_8_5 (fmC wm_8_6 fmN))))))))))
set_option maxRecDepth 20000 in
theorem sub_wsX120 : ∀ w ∈ wsX120, w ∈ wsL_law := (fun w h => (List.mem_append_left _ (List.mem_append_left _ (List.mem_append_left _ (List.mem_append_left _ (List.mem_append_left _ (List.mem_append_left _ (List.mem_append_left _ (List.mem_append_left _ (List.mem_append_left _ (List.mem_append_left _ (List.mem_append_left _ (List.mem_append_right _ h)))))))))))))
set_option maxRecDepth 20000 in
theorem sub_wsX12_init : ∀ w ∈ wsX12_init, w ∈ wsL_law := (fmC wm_6_0 (fmA (fmA sub_wsX12_init_r1 (fmA sub_wsX12_init_r2 sub_wsX12_init_r3)) sub_wsX120))
set_option maxRecDepth 20000 in
theorem gL_law_X12_init : GoodIn wsL_law (wsX12_init) := goodIn_sub sub_wsX12_init (by decide +kernel)
set_option maxRecDepth 20000 in
theorem sub_wsX11_setLetters : ∀ w ∈ wsX11_setLetters, w ∈ wsL_law := (fmC wm_8_10 (fmA (fmA (fmA (fmA (fmC wm_1_15 (fmC wm_8_11 (fmC wm_8_12 (fmC wm_8_13 (fmC wm_8_14 (fmC wm_1_14 (fmC wm_8_15 (fmC wm_3_0 (fmC wm_3_6 (fmC wm_8_16 (fmC wm_3_2 (fmC wm_8_17 (fmC wm_3_8 fmN))))))))))))) sub_wsX110) sub_wsX50) sub_wsX10) sub_wsX90))
set_option maxRecDepth 20000 in
theorem gL_law_X11_setLetters : GoodIn wsL_law (wsV RL 13 RX11 yX11_setLetters wsX11_setLetters) := goodIn_app (goodIn_sub (fmC wm_8_7 (fmC wm_8_8 (fmC wm_8_9 (fmC wm_1_2 fmN)))) (by decide +kernel)) (goodIn_sub sub_wsX11_setLetters (by decide +kernel))
set_option maxRecDepth 20000 in
theorem sub_wsX12_setLetters : ∀ w ∈ wsX12_setLetters, w ∈ wsL_law := (fmC wm_8_21 (fmA (fmC wm_6_2 (fmC wm_6_3 (fmC wm_6_14 (fmC wm_8_22 (fmC wm_8_23 (fmC wm_9_0 (fmC wm_1_5 (fmC wm_9_1 fmN)))))))) sub_wsX120))
set_option maxRecDepth 20000 in
theorem gL_law_X12_setLetters : GoodIn wsL_law (wsV RL 17 RX12 yX12_setLetters wsX12_setLetters) := goodIn_app (goodIn_sub (fmC wm_8_18 (fmC wm_8_19 (fmC wm_8_20 (fmC wm_1_5 fmN)))) (by decide +kernel)) (goodIn_sub sub_wsX12_setLetters (by decide +kernel))
set_option maxRecDepth 20000 in
theorem sub_wsX11_letters : ∀ w ∈ wsX11_letters, w ∈ wsL_law := (fmC wm_9_5 (fmA (fmA (fmC wm_1_15 (fmC wm_8_11 fmN)) sub_wsX110) sub_wsX50))
set_option maxRecDepth 20000 in
theorem gL_law_X11_letters : GoodIn wsL_law (wsV RL 18 RX11 yX11_letters wsX11_letters) := goodIn_app (goodIn_sub (fmC wm_9_2 (fmC wm_9_3 (fmC wm_9_4 (fmC wm_1_2 fmN)))) (by decide +kernel)) (goodIn_sub sub_wsX11_letters (by decide +kernel))
set_option maxRecDepth 20000 in
theorem sub_wsX12_letters : ∀ w ∈ wsX12_letters, w ∈ wsL_law := (fmC wm_9_9 (fmA (fmC wm_6_2 fmN) sub_wsX120))
set_option maxRecDepth 20000 in
theorem gL_law_X12_letters : GoodIn wsL_law (wsV RL 22 RX12 yX12_letters wsX12_letters) := goodIn_app (goodIn_sub (fmC wm_9_6 (fmC wm_9_7 (fmC wm_9_8 (fmC wm_1_5 fmN)))) (by decide +kernel)) (goodIn_sub sub_wsX12_letters (by decide +kernel))
set_option maxRecDepth 20000 in
theorem sub_wsX11_append : ∀ w ∈ wsX11_append, w ∈ wsL_law := (fmC wm_9_13 (fmA (fmA (fmA (fmC wm_1_15 (fmC wm_8_11 (fmC wm_9_14 (fmC wm_9_15 (fmC wm_9_16 (fmC wm_9_17 (fmC wm_1_2 (fmC wm_9_18 (fmC wm_9_19 (fmC wm_9_20 (fmC wm_9_21 (fmC wm_2_1 (fmC wm_9_22 (fmC wm_3_19 (fmC wm_3_18 fmN))))))))))))))) sub_wsX110) sub_wsX50) sub_wsX90))
set_option maxRecDepth 20000 in
theorem gL_law_X11_append : GoodIn wsL_law (wsV RL 23 RX11 yX11_append wsX11_append) := goodIn_app (goodIn_sub (fmC wm_9_10 (fmC wm_9_11 (fmC wm_9_12 (fmC wm_1_2 fmN)))) (by decide +kernel)) (goodIn_sub sub_wsX11_append (by decide +kernel))
set_option maxRecDepth 20000 in
theorem sub_wsX12_append : ∀ w ∈ wsX12_append, w ∈ wsL_law := (fmC wm_10_2 (fmA (fmC wm_6_2 (fmC wm_6_3 (fmC wm_6_4 (fmC wm_10_3 (fmC wm_10_4 (fmC wm_1_5 (fmC wm_10_5 (fmC wm_8_23 (fmC wm_9_0 (fmC wm_9_1 fmN)))))))))) sub_wsX120))
set_option maxRecDepth 20000 in
theorem gL_law_X12_append : GoodIn wsL_law (wsV RL 27 RX12 yX12_append wsX12_append) := goodIn_app (goodIn_sub (fmC wm_9_23 (fmC wm_10_0 (fmC wm_10_1 (fmC wm_1_5 fmN)))) (by decide +kernel)) (goodIn_sub sub_wsX12_append (by decide +kernel))
set_option maxRecDepth 20000 in
theorem sub_wsX11_clearWord : ∀ w ∈ wsX11_clearWord, w ∈ wsL_law := (fmC wm_10_9 (fmA (fmA (fmA (fmC wm_1_15 (fmC wm_9_14 (fmC wm_9_15 (fmC wm_9_16 (fmC wm_9_17 (fmC wm_1_2 (fmC wm_9_18 fmN))))))) sub_wsX110) sub_wsX50) sub_wsX90))
set_option maxRecDepth 20000 in
theorem gL_law_X11_clearWord : GoodIn wsL_law (wsV RL 28 RX11 yX11_clearWord wsX11_clearWord) := goodIn_app (goodIn_sub (fmC wm_10_6 (fmC wm_10_7 (fmC wm_10_8 (fmC wm_1_2 fmN)))) (by decide +kernel)) (goodIn_sub sub_wsX11_clearWord (by decide +kernel))
set_option maxRecDepth 20000 in
theorem sub_wsX12_clearWord : ∀ w ∈ wsX12_clearWord, w ∈ wsL_law := (fmC wm_10_13 (fmA (fmC wm_6_3 (fmC wm_10_3 (fmC wm_10_4 (fmC wm_1_5 (fmC wm_10_5 (fmC wm_8_23 (fmC wm_9_0 (fmC wm_9_1 fmN)))))))) sub_wsX120))
set_option maxRecDepth 20000 in
theorem gL_law_X12_clearWord : GoodIn wsL_law (wsV RL 31 RX12 yX12_clearWord wsX12_clearWord) := goodIn_app (goodIn_sub (fmC wm_10_10 (fmC wm_10_11 (fmC wm_10_12 (fmC wm_1_5 fmN)))) (by decide +kernel)) (goodIn_sub sub_wsX12_clearWord (by decide +kernel))
set_option maxRecDepth 20000 in
theorem sub_wsX11_length : ∀ w ∈ wsX11_length, w ∈ wsL_law := (fmC wm_10_17 (fmA (fmA (fmA (fmC wm_1_15 (fmC wm_9_14 (fmC wm_9_15 (fmC wm_9_16 (fmC wm_9_17 (fmC wm_1_2 (fmC wm_9_18 fmN))))))) sub_wsX110) sub_wsX50) sub_wsX90))
set_option maxRecDepth 20000 in
theorem gL_law_X11_length : GoodIn wsL_law (wsV RL 32 RX11 yX11_length wsX11_length) := goodIn_app (goodIn_sub (fmC wm_10_14 (fmC wm_10_15 (fmC wm_10_16 (fmC wm_1_2 fmN)))) (by decide +kernel)) (goodIn_sub sub_wsX11_length (by decide +kernel))
set_option maxRecDepth 20000 in
theorem sub_wsX12_length : ∀ w ∈ wsX12_length, w ∈ wsL_law := (fmC wm_10_21 (fmA (fmC wm_6_3 (fmC wm_10_3 (fmC wm_10_4 (fmC wm_1_5 (fmC wm_10_5 (fmC wm_8_23 (fmC wm_9_0 (fmC wm_9_1 fmN)))))))) sub_wsX120))
set_option maxRecDepth 20000 in
theorem gL_law_X12_length : GoodIn wsL_law (wsV RL 35 RX12 yX12_length wsX12_length) := goodIn_app (goodIn_sub (fmC wm_10_18 (fmC wm_10_19 (fmC wm_10_20 (fmC wm_1_5 fmN)))) (by decide +kernel)) (goodIn_sub sub_wsX12_length (by decide +kernel))
set_option maxRecDepth 20000 in
theorem sub_wsX11_letter : ∀ w ∈ wsX11_letter, w ∈ wsL_law := (fmC wm_11_1 (fmA (fmA (fmA (fmC wm_1_15 (fmC wm_9_14 (fmC wm_9_15 (fmC wm_11_2 (fmC wm_9_16 (fmC wm_9_17 (fmC wm_1_2 (fmC wm_9_18 fmN)))))))) sub_wsX110) sub_wsX50) sub_wsX90))
set_option maxRecDepth 20000 in
theorem gL_law_X11_letter : GoodIn wsL_law (wsV RL 36 RX11 yX11_letter wsX11_letter) := goodIn_app (goodIn_sub (fmC wm_10_22 (fmC wm_10_23 (fmC wm_11_0 (fmC wm_1_2 fmN)))) (by decide +kernel)) (goodIn_sub sub_wsX11_letter (by decide +kernel))
set_option maxRecDepth 20000 in
theorem sub_wsX12_letter : ∀ w ∈ wsX12_letter, w ∈ wsL_law := (fmC wm_11_6 (fmA (fmC wm_6_3 (fmC wm_6_4 (fmC wm_10_3 (fmC wm_10_4 (fmC wm_1_5 (fmC wm_10_5 (fmC wm_8_23 (fmC wm_9_0 (fmC wm_9_1 fmN))))))))) sub_wsX120))
set_option maxRecDepth 20000 in
theorem gL_law_X12_letter : GoodIn wsL_law (wsV RL 39 RX12 yX12_letter wsX12_letter) := goodIn_app (goodIn_sub (fmC wm_11_3 (fmC wm_11_4 (fmC wm_11_5 (fmC wm_1_5 fmN)))) (by decide +kernel)) (goodIn_sub sub_wsX12_letter (by decide +kernel))
set_option maxRecDepth 20000 in
theorem sub_wsX11_reverse : ∀ w ∈ wsX11_reverse, w ∈ wsL_law := (fmC wm_11_10 (fmA (fmA (fmA (fmC wm_1_15 (fmC wm_9_14 (fmC wm_9_16 (fmC wm_9_17 (fmC wm_1_2 (fmC wm_9_18 (fmC wm_11_11 (fmC wm_11_12 (fmC wm_11_13 (fmC wm_2_1 (fmC wm_11_14 (fmC wm_3_19 (fmC wm_3_18 fmN))))))))))))) sub_wsX110) sub_wsX50) sub_wsX90))
set_option maxRecDepth 20000 in
theorem gL_law_X11_reverse : GoodIn wsL_law (wsV RL 40 RX11 yX11_reverse wsX11_reverse) := goodIn_app (goodIn_sub (fmC wm_11_7 (fmC wm_11_8 (fmC wm_11_9 (fmC wm_1_2 fmN)))) (by decide +kernel)) (goodIn_sub sub_wsX11_reverse (by decide +kernel))
set_option maxRecDepth 20000 in
theorem sub_wsX12_reverse : ∀ w ∈ wsX12_reverse, w ∈ wsL_law := (fmC wm_11_18 (fmA (fmC wm_6_3 (fmC wm_6_4 (fmC wm_10_3 (fmC wm_10_4 (fmC wm_1_5 (fmC wm_10_5 (fmC wm_8_23 (fmC wm_9_0 (fmC wm_9_1 fmN))))))))) sub_wsX120))
set_option maxRecDepth 20000 in
theorem gL_law_X12_reverse : GoodIn wsL_law (wsV RL 43 RX12 yX12_reverse wsX12_reverse) := goodIn_app (goodIn_sub (fmC wm_11_15 (fmC wm_11_16 (fmC wm_11_17 (fmC wm_1_5 fmN)))) (by decide +kernel)) (goodIn_sub sub_wsX12_reverse (by decide +kernel))
set_option maxRecDepth 20000 in
theorem sub_wsX11_concatenate : ∀ w ∈ wsX11_concatenate, w ∈ wsL_law := (fmC wm_11_22 (fmA (fmA (fmA (fmC wm_1_15 (fmC wm_9_14 (fmC wm_9_15 (fmC wm_9_16 (fmC wm_9_17 (fmC wm_1_2 (fmC wm_9_18 (fmC wm_11_23 (fmC wm_12_0 (fmC wm_12_1 (fmC wm_2_1 (fmC wm_12_2 (fmC wm_3_19 (fmC wm_3_18 (fmC wm_12_3 (fmC wm_9_20 (fmC wm_9_21 (fmC wm_9_22 fmN)))))))))))))))))) sub_wsX110) sub_wsX50) sub_wsX90))
set_option maxRecDepth 20000 in
theorem gL_law_X11_concatenate : GoodIn wsL_law (wsV RL 44 RX11 yX11_concatenate wsX11_concatenate) := goodIn_app (goodIn_sub (fmC wm_11_19 (fmC wm_11_20 (fmC wm_11_21 (fmC wm_1_2 fmN)))) (by decide +kernel)) (goodIn_sub sub_wsX11_concatenate (by decide +kernel))
set_option maxRecDepth 20000 in
theorem sub_wsX12_concatenate : ∀ w ∈ wsX12_concatenate, w ∈ wsL_law := (fmC wm_12_7 (fmA (fmC wm_6_3 (fmC wm_6_4 (fmC wm_10_3 (fmC wm_10_4 (fmC wm_1_5 (fmC wm_10_5 (fmC wm_8_23 (fmC wm_9_0 (fmC wm_9_1 fmN))))))))) sub_wsX120))
set_option maxRecDepth 20000 in
theorem gL_law_X12_concatenate : GoodIn wsL_law (wsV RL 47 RX12 yX12_concatenate wsX12_concatenate) := goodIn_app (goodIn_sub (fmC wm_12_4 (fmC wm_12_5 (fmC wm_12_6 (fmC wm_1_5 fmN)))) (by decide +kernel)) (goodIn_sub sub_wsX12_concatenate (by decide +kernel))
set_option maxRecDepth 20000 in
theorem sub_wsX11_compare : ∀ w ∈ wsX11_compare, w ∈ wsL_law := (fmC wm_12_11 (fmA (fmA (fmA (fmC wm_1_15 (fmC wm_9_14 (fmC wm_9_16 (fmC wm_9_17 (fmC wm_1_2 (fmC wm_9_18 (fmC wm_12_12 (fmC wm_12_13 (fmC wm_12_14 (fmC wm_2_1 (fmC wm_12_15 (fmC wm_3_19 (fmC wm_3_18 fmN))))))))))))) sub_wsX110) sub_wsX50) sub_wsX90))
set_option maxRecDepth 20000 in
theorem gL_law_X11_compare : GoodIn wsL_law (wsV RL 48 RX11 yX11_compare wsX11_compare) := goodIn_app (goodIn_sub (fmC wm_12_8 (fmC wm_12_9 (fmC wm_12_10 (fmC wm_1_2 fmN)))) (by decide +kernel)) (goodIn_sub sub_wsX11_compare (by decide +kernel))
set_option maxRecDepth 20000 in
theorem sub_wsX12_compare : ∀ w ∈ wsX12_compare, w ∈ wsL_law := (fmC wm_12_19 (fmA (fmC wm_6_3 (fmC wm_6_4 (fmC wm_10_3 (fmC wm_10_4 (fmC wm_1_5 (fmC wm_10_5 (fmC wm_8_23 (fmC wm_9_0 (fmC wm_9_1 fmN))))))))) sub_wsX120))
set_option maxRecDepth 20000 in
theorem gL_law_X12_compare : GoodIn wsL_law (wsV RL 51 RX12 yX12_compare wsX12_compare) := goodIn_app (goodIn_sub (fmC wm_12_16 (fmC wm_12_17 (fmC wm_12_18 (fmC wm_1_5 fmN)))) (by decide +kernel)) (goodIn_sub sub_wsX12_compare (by decide +kernel))
set_option maxRecDepth 20000 in
theorem sub_wsX11_occurrences : ∀ w ∈ wsX11_occurrences, w ∈ wsL_law := (fmC wm_12_23 (fmA (fmA (fmA (fmC wm_1_15 (fmC wm_9_14 (fmC wm_9_16 (fmC wm_9_17 (fmC wm_1_2 (fmC wm_9_18 (fmC wm_13_0 (fmC wm_13_1 (fmC wm_13_2 (fmC wm_2_1 (fmC wm_13_3 (fmC wm_3_20 (fmC wm_3_19 (fmC wm_3_18 (fmC wm_13_4 (fmC wm_13_5 (fmC wm_13_6 (fmC wm_13_7 fmN)))))))))))))))))) sub_wsX110) sub_wsX50) sub_wsX90))
set_option maxRecDepth 20000 in
theorem gL_law_X11_occurrences : GoodIn wsL_law (wsV RL 52 RX11 yX11_occurrences wsX11_occurrences) := goodIn_app (goodIn_sub (fmC wm_12_20 (fmC wm_12_21 (fmC wm_12_22 (fmC wm_1_2 fmN)))) (by decide +kernel)) (goodIn_sub sub_wsX11_occurrences (by decide +kernel))
set_option maxRecDepth 20000 in
theorem sub_wsX12_occurrences : ∀ w ∈ wsX12_occurrences, w ∈ wsL_law := (fmC wm_13_11 (fmA (fmC wm_6_4 (fmC wm_6_3 (fmC wm_10_3 (fmC wm_10_4 (fmC wm_1_5 (fmC wm_10_5 (fmC wm_8_23 (fmC wm_9_0 (fmC wm_9_1 (fmC wm_13_12 (fmC wm_13_13 (fmC wm_13_14 (fmC wm_13_15 (fmC wm_6_5 fmN)))))))))))))) sub_wsX120))
set_option maxRecDepth 20000 in
theorem gL_law_X12_occurrences : GoodIn wsL_law (wsV RL 55 RX12 yX12_occurrences wsX12_occurrences) := goodIn_app (goodIn_sub (fmC wm_13_8 (fmC wm_13_9 (fmC wm_13_10 (fmC wm_1_5 fmN)))) (by decide +kernel)) (goodIn_sub sub_wsX12_occurrences (by decide +kernel))
set_option maxRecDepth 20000 in
theorem sub_wsX11_separate_r1 : ∀ w ∈ wsX11_separate_r1, w ∈ wsL_law := (fmC wm_1_15 (fmC wm_8_11 (fmC wm_2_2 (fmC wm_9_14 (fmC wm_9_16 (fmC wm_9_17 (fmC wm_1_2 (fmC wm_9_18 (fmC wm_13_20 (fmC wm_13_21 (fmC wm_13_22 (fmC wm_2_1 (fmC wm_13_23 (fmC wm_14_0 (fmC wm_14_1 (fmC wm_14_2 (fmC wm_14_3 (fmC wm_3_19 (fmC wm_14_4 (fmC wm_14_5 (fmC wm_14_6 (fmC wm_3_18 (fmC wm_14_7 (fmC wm_14_8 fmN))))))))))))))))))))))))
set_option maxRecDepth 20000 in
theorem sub_wsX11_separate_r2 : ∀ w ∈ wsX11_separate_r2, w ∈ wsL_law := (fmC wm_14_9 (fmC wm_13_0 (fmC wm_13_1 (fmC wm_13_2 (fmC wm_13_3 (fmC wm_3_20 (fmC wm_13_4 (fmC wm_13_5 (fmC wm_13_6 (fmC wm_13_7 (fmC wm_14_10 (fmC wm_14_11 (fmC wm_14_12 (fmC wm_14_13 (fmC wm_14_14 (fmC wm_14_15 (fmC wm_14_16 (fmC wm_14_17 (fmC wm_14_18 (fmC wm_14_19 (fmC wm_14_20 (fmC wm_14_21 fmN))))))))))))))))))))))
set_option maxRecDepth 20000 in
theorem sub_wsX11_separate : ∀ w ∈ wsX11_separate, w ∈ wsL_law := (fmC wm_13_19 (fmA (fmA (fmA (fmA sub_wsX11_separate_r1 sub_wsX11_separate_r2) sub_wsX110) sub_wsX50) sub_wsX90))
set_option maxRecDepth 20000 in
theorem gL_law_X11_separate : GoodIn wsL_law (wsV RL 56 RX11 yX11_separate wsX11_separate) := goodIn_app (goodIn_sub (fmC wm_13_16 (fmC wm_13_17 (fmC wm_13_18 (fmC wm_1_2 fmN)))) (by decide +kernel)) (goodIn_sub sub_wsX11_separate (by decide +kernel))
set_option maxRecDepth 20000 in
theorem sub_wsX12_separate : ∀ w ∈ wsX12_separate, w ∈ wsL_law := (fmC wm_15_1 (fmA (fmC wm_6_2 (fmC wm_6_6 (fmC wm_6_3 (fmC wm_6_4 (fmC wm_10_3 (fmC wm_10_4 (fmC wm_1_5 (fmC wm_10_5 (fmC wm_8_23 (fmC wm_9_0 (fmC wm_9_1 (fmC wm_13_12 (fmC wm_13_13 (fmC wm_13_14 (fmC wm_13_15 (fmC wm_6_5 fmN)))))))))))))))) sub_wsX120))
set_option maxRecDepth 20000 in
theorem gL_law_X12_separate : GoodIn wsL_law (wsV RL 59 RX12 yX12_separate wsX12_separate) := goodIn_app (goodIn_sub (fmC wm_14_22 (fmC wm_14_23 (fmC wm_15_0 (fmC wm_1_5 fmN)))) (by decide +kernel)) (goodIn_sub sub_wsX12_separate (by decide +kernel))
set_option maxRecDepth 20000 in
theorem sub_wsX11_feed : ∀ w ∈ wsX11_feed, w ∈ wsL_law := (fmC wm_15_5 (fmA (fmC wm_1_20 (fmC wm_1_19 fmN)) sub_wsX110))
set_option maxRecDepth 20000 in
theorem gL_law_X11_feed : GoodIn wsL_law (wsV RL 60 RX11 yX11_feed wsX11_feed) := goodIn_app (goodIn_sub (fmC wm_15_2 (fmC wm_15_3 (fmC wm_15_4 (fmC wm_1_2 fmN)))) (by decide +kernel)) (goodIn_sub sub_wsX11_feed (by decide +kernel))
set_option maxRecDepth 20000 in
theorem sub_wsX12_feed : ∀ w ∈ wsX12_feed, w ∈ wsL_law := (fmC wm_15_9 (fmA (fmC wm_15_10 (fmC wm_6_11 (fmC wm_8_23 (fmC wm_9_0 (fmC wm_1_5 (fmC wm_9_1 fmN)))))) sub_wsX120))
set_option maxRecDepth 20000 in
theorem gL_law_X12_feed : GoodIn wsL_law (wsV RL 63 RX12 yX12_feed wsX12_feed) := goodIn_app (goodIn_sub (fmC wm_15_6 (fmC wm_15_7 (fmC wm_15_8 (fmC wm_1_5 fmN)))) (by decide +kernel)) (goodIn_sub sub_wsX12_feed (by decide +kernel))
set_option maxRecDepth 20000 in
theorem sub_wsX11_addTest_r1 : ∀ w ∈ wsX11_addTest_r1, w ∈ wsL_law := (fmC wm_1_15 (fmC wm_15_15 (fmC wm_15_16 (fmC wm_1_19 (fmC wm_1_20 (fmC wm_8_11 (fmC wm_15_17 (fmC wm_15_18 (fmC wm_15_19 (fmC wm_15_20 (fmC wm_15_21 (fmC wm_15_22 (fmC wm_15_23 (fmC wm_16_0 (fmC wm_16_1 (fmC wm_16_2 (fmC wm_16_3 (fmC wm_16_4 (fmC wm_16_5 (fmC wm_16_6 (fmC wm_16_7 (fmC wm_16_8 (fmC wm_16_9 (fmC wm_16_10 fmN))))))))))))))))))))))))
set_option maxRecDepth 20000 in
theorem sub_wsX11_addTest_r2 : ∀ w ∈ wsX11_addTest_r2, w ∈ wsL_law := (fmC wm_16_11 (fmC wm_1_18 (fmC wm_16_12 (fmC wm_16_13 (fmC wm_16_14 (fmC wm_16_15 (fmC wm_1_10 (fmC wm_1_11 (fmC wm_16_16 (fmC wm_16_17 (fmC wm_16_18 (fmC wm_16_19 (fmC wm_16_20 (fmC wm_16_21 (fmC wm_16_22 (fmC wm_16_23 (fmC wm_3_5 (fmC wm_17_0 (fmC wm_3_14 (fmC wm_3_13 fmN))))))))))))))))))))
set_option maxRecDepth 20000 in
theorem sub_wsX80 : ∀ w ∈ wsX80, w ∈ wsL_law := (fun w h => (List.mem_append_left _ (List.mem_append_left _ (List.mem_append_left _ (List.mem_append_right _ h)))))
set_option maxRecDepth 20000 in
theorem sub_wsX11_addTest : ∀ w ∈ wsX11_addTest, w ∈ wsL_law := (fmC wm_15_14 (fmA (fmA (fmA (fmA (fmA sub_wsX11_addTest_r1 sub_wsX11_addTest_r2) sub_wsX110) sub_wsX50) sub_wsX10) sub_wsX80))
set_option maxRecDepth 20000 in
theorem gL_law_X11_addTest : GoodIn wsL_law (wsV RL 64 RX11 yX11_addTest wsX11_addTest) := goodIn_app (goodIn_sub (fmC wm_15_11 (fmC wm_15_12 (fmC wm_15_13 (fmC wm_1_2 fmN)))) (by decide +kernel)) (goodIn_sub sub_wsX11_addTest (by decide +kernel))
set_option maxRecDepth 20000 in
theorem sub_wsX12_addTest : ∀ w ∈ wsX12_addTest, w ∈ wsL_law := (fmC wm_17_4 (fmA (fmC wm_8_22 (fmC wm_17_5 (fmC wm_15_10 (fmC wm_17_6 (fmC wm_17_7 (fmC wm_17_8 (fmC wm_1_5 (fmC wm_17_9 (fmC wm_6_2 (fmC wm_6_10 (fmC wm_6_11 (fmC wm_6_7 (fmC wm_6_8 (fmC wm_6_9 (fmC wm_17_10 (fmC wm_17_11 (fmC wm_17_12 (fmC wm_17_13 (fmC wm_8_23 (fmC wm_9_0 (fmC wm_9_1 fmN))))))))))))))))))))) sub_wsX120))
set_option maxRecDepth 20000 in
theorem gL_law_X12_addTest : GoodIn wsL_law (wsV RL 67 RX12 yX12_addTest wsX12_addTest) := goodIn_app (goodIn_sub (fmC wm_17_1 (fmC wm_17_2 (fmC wm_17_3 (fmC wm_1_5 fmN)))) (by decide +kernel)) (goodIn_sub sub_wsX12_addTest (by decide +kernel))
set_option maxRecDepth 20000 in
theorem sub_wsX11_removeTest : ∀ w ∈ wsX11_removeTest, w ∈ wsL_law := (fmC wm_17_17 (fmA (fmA (fmA (fmC wm_1_15 (fmC wm_15_15 (fmC wm_15_16 (fmC wm_17_18 (fmC wm_17_19 (fmC wm_17_20 (fmC wm_1_2 (fmC wm_17_21 (fmC wm_17_22 (fmC wm_17_23 (fmC wm_18_0 (fmC wm_3_5 (fmC wm_18_1 (fmC wm_3_14 (fmC wm_3_13 fmN))))))))))))))) sub_wsX110) sub_wsX50) sub_wsX10))
set_option maxRecDepth 20000 in
theorem gL_law_X11_removeTest : GoodIn wsL_law (wsV RL 68 RX11 yX11_removeTest wsX11_removeTest) := goodIn_app (goodIn_sub (fmC wm_17_14 (fmC wm_17_15 (fmC wm_17_16 (fmC wm_1_2 fmN)))) (by decide +kernel)) (goodIn_sub sub_wsX11_removeTest (by decide +kernel))
set_option maxRecDepth 20000 in
theorem sub_wsX12_removeTest : ∀ w ∈ wsX12_removeTest, w ∈ wsL_law := (fmC wm_18_5 (fmA (fmC wm_8_22 (fmC wm_6_7 (fmC wm_6_8 (fmC wm_6_9 (fmC wm_6_10 (fmC wm_18_6 (fmC wm_18_7 (fmC wm_18_8 (fmC wm_1_5 (fmC wm_18_9 (fmC wm_8_23 (fmC wm_9_0 (fmC wm_9_1 fmN))))))))))))) sub_wsX120))
set_option maxRecDepth 20000 in
theorem gL_law_X12_removeTest : GoodIn wsL_law (wsV RL 71 RX12 yX12_removeTest wsX12_removeTest) := goodIn_app (goodIn_sub (fmC wm_18_2 (fmC wm_18_3 (fmC wm_18_4 (fmC wm_1_5 fmN)))) (by decide +kernel)) (goodIn_sub sub_wsX12_removeTest (by decide +kernel))
set_option maxRecDepth 20000 in
theorem sub_wsX11_testCount : ∀ w ∈ wsX11_testCount, w ∈ wsL_law := (fmC wm_18_13 (fmA (fmA (fmA (fmC wm_1_15 (fmC wm_15_15 (fmC wm_15_16 fmN))) sub_wsX110) sub_wsX50) sub_wsX10))
set_option maxRecDepth 20000 in
theorem gL_law_X11_testCount : GoodIn wsL_law (wsV RL 72 RX11 yX11_testCount wsX11_testCount) := goodIn_app (goodIn_sub (fmC wm_18_10 (fmC wm_18_11 (fmC wm_18_12 (fmC wm_1_2 fmN)))) (by decide +kernel)) (goodIn_sub sub_wsX11_testCount (by decide +kernel))
set_option maxRecDepth 20000 in
theorem sub_wsX12_testCount : ∀ w ∈ wsX12_testCount, w ∈ wsL_law := (fmC wm_18_17 (fmA (fmC wm_8_22 fmN) sub_wsX120))
set_option maxRecDepth 20000 in
theorem gL_law_X12_testCount : GoodIn wsL_law (wsV RL 75 RX12 yX12_testCount wsX12_testCount) := goodIn_app (goodIn_sub (fmC wm_18_14 (fmC wm_18_15 (fmC wm_18_16 (fmC wm_1_5 fmN)))) (by decide +kernel)) (goodIn_sub sub_wsX12_testCount (by decide +kernel))
set_option maxRecDepth 20000 in
theorem sub_wsX11_test : ∀ w ∈ wsX11_test, w ∈ wsL_law := (fmC wm_18_21 (fmA (fmA (fmA (fmA (fmC wm_1_15 (fmC wm_15_15 (fmC wm_18_22 (fmC wm_18_23 (fmC wm_19_0 (fmC wm_19_1 (fmC wm_17_18 (fmC wm_17_19 (fmC wm_17_20 (fmC wm_1_2 (fmC wm_17_21 (fmC wm_15_16 fmN)))))))))))) sub_wsX110) sub_wsX50) sub_wsX10) sub_wsX80))
set_option maxRecDepth 20000 in
theorem gL_law_X11_test : GoodIn wsL_law (wsV RL 76 RX11 yX11_test wsX11_test) := goodIn_app (goodIn_sub (fmC wm_18_18 (fmC wm_18_19 (fmC wm_18_20 (fmC wm_1_2 fmN)))) (by decide +kernel)) (goodIn_sub sub_wsX11_test (by decide +kernel))
set_option maxRecDepth 20000 in
theorem sub_wsX12_test : ∀ w ∈ wsX12_test, w ∈ wsL_law := (fmC wm_19_5 (fmA (fmC wm_6_7 (fmC wm_6_9 (fmC wm_18_6 (fmC wm_18_7 (fmC wm_18_8 (fmC wm_1_5 (fmC wm_18_9 (fmC wm_8_22 (fmC wm_8_23 (fmC wm_9_0 (fmC wm_9_1 (fmC wm_19_6 (fmC wm_19_7 (fmC wm_19_8 (fmC wm_19_9 (fmC wm_6_8 fmN)))))))))))))))) sub_wsX120))
set_option maxRecDepth 20000 in
theorem gL_law_X12_test : GoodIn wsL_law (wsV RL 79 RX12 yX12_test wsX12_test) := goodIn_app (goodIn_sub (fmC wm_19_2 (fmC wm_19_3 (fmC wm_19_4 (fmC wm_1_5 fmN)))) (by decide +kernel)) (goodIn_sub sub_wsX12_test (by decide +kernel))
set_option maxRecDepth 20000 in
theorem sub_wsX11_value_r1 : ∀ w ∈ wsX11_value_r1, w ∈ wsL_law := (fmC wm_1_15 (fmC wm_15_15 (fmC wm_18_22 (fmC wm_9_14 (fmC wm_17_18 (fmC wm_17_19 (fmC wm_17_20 (fmC wm_1_2 (fmC wm_17_21 (fmC wm_15_16 (fmC wm_9_16 (fmC wm_9_17 (fmC wm_9_18 (fmC wm_19_14 (fmC wm_19_15 (fmC wm_19_16 (fmC wm_16_11 (fmC wm_19_17 (fmC wm_19_18 (fmC wm_19_19 (fmC wm_19_20 (fmC wm_19_21 (fmC wm_19_22 (fmC wm_19_23 fmN))))))))))))))))))))))))
set_option maxRecDepth 20000 in
theorem sub_wsX11_value_r2 : ∀ w ∈ wsX11_value_r2, w ∈ wsL_law := (fmC wm_16_16 (fmC wm_16_19 (fmC wm_16_20 (fmC wm_20_0 (fmC wm_20_1 (fmC wm_20_2 (fmC wm_20_3 (fmC wm_16_17 (fmC wm_20_4 (fmC wm_14_1 (fmC wm_14_2 (fmC wm_14_3 (fmC wm_20_5 (fmC wm_20_6 (fmC wm_20_7 (fmC wm_20_8 fmN))))))))))))))))
set_option maxRecDepth 20000 in
theorem sub_wsX11_value : ∀ w ∈ wsX11_value, w ∈ wsL_law := (fmC wm_19_13 (fmA (fmA (fmA (fmA (fmA (fmA sub_wsX11_value_r1 sub_wsX11_value_r2) sub_wsX110) sub_wsX50) sub_wsX10) sub_wsX90) sub_wsX80))
set_option maxRecDepth 20000 in
theorem gL_law_X11_value : GoodIn wsL_law (wsV RL 80 RX11 yX11_value wsX11_value) := goodIn_app (goodIn_sub (fmC wm_19_10 (fmC wm_19_11 (fmC wm_19_12 (fmC wm_1_2 fmN)))) (by decide +kernel)) (goodIn_sub sub_wsX11_value (by decide +kernel))
set_option maxRecDepth 20000 in
theorem sub_wsX12_value_r1 : ∀ w ∈ wsX12_value_r1, w ∈ wsL_law := (fmC wm_18_6 (fmC wm_18_7 (fmC wm_18_8 (fmC wm_1_5 (fmC wm_18_9 (fmC wm_8_22 (fmC wm_8_23 (fmC wm_9_0 (fmC wm_9_1 (fmC wm_10_3 (fmC wm_10_4 (fmC wm_10_5 (fmC wm_20_13 (fmC wm_20_14 (fmC wm_20_15 (fmC wm_20_16 (fmC wm_6_7 (fmC wm_6_8 (fmC wm_6_10 (fmC wm_6_9 (fmC wm_20_17 (fmC wm_20_18 (fmC wm_20_19 (fmC wm_20_20 fmN))))))))))))))))))))))))
set_option maxRecDepth 20000 in
theorem sub_wsX12_value_r2 : ∀ w ∈ wsX12_value_r2, w ∈ wsL_law := (fmC wm_6_3 (fmC wm_13_12 (fmC wm_13_13 (fmC wm_13_14 (fmC wm_13_15 (fmC wm_6_5 (fmC wm_6_4 fmN)))))))
set_option maxRecDepth 20000 in
theorem sub_wsX12_value : ∀ w ∈ wsX12_value, w ∈ wsL_law := (fmC wm_20_12 (fmA (fmA sub_wsX12_value_r1 sub_wsX12_value_r2) sub_wsX120))
set_option maxRecDepth 20000 in
theorem gL_law_X12_value : GoodIn wsL_law (wsV RL 83 RX12 yX12_value wsX12_value) := goodIn_app (goodIn_sub (fmC wm_20_9 (fmC wm_20_10 (fmC wm_20_11 (fmC wm_1_5 fmN)))) (by decide +kernel)) (goodIn_sub sub_wsX12_value (by decide +kernel))
set_option maxRecDepth 20000 in
theorem sub_wsX11_signature_r1 : ∀ w ∈ wsX11_signature_r1, w ∈ wsL_law := (fmC wm_1_15 (fmC wm_15_15 (fmC wm_15_16 (fmC wm_18_22 (fmC wm_9_14 (fmC wm_19_0 (fmC wm_9_16 (fmC wm_9_17 (fmC wm_1_2 (fmC wm_9_18 (fmC wm_19_14 (fmC wm_19_15 (fmC wm_19_16 (fmC wm_16_11 (fmC wm_19_17 (fmC wm_19_18 (fmC wm_19_19 (fmC wm_19_20 (fmC wm_19_21 (fmC wm_19_22 (fmC wm_19_23 (fmC wm_16_16 (fmC wm_16_19 (fmC wm_16_20 fmN))))))))))))))))))))))))
set_option maxRecDepth 20000 in
theorem sub_wsX11_signature_r2 : ∀ w ∈ wsX11_signature_r2, w ∈ wsL_law := (fmC wm_20_0 (fmC wm_20_1 (fmC wm_20_2 (fmC wm_20_3 (fmC wm_16_17 (fmC wm_20_4 (fmC wm_14_1 (fmC wm_14_2 (fmC wm_14_3 (fmC wm_20_5 (fmC wm_20_6 (fmC wm_20_7 (fmC wm_20_8 fmN)))))))))))))
set_option maxRecDepth 20000 in
theorem sub_wsX11_signature : ∀ w ∈ wsX11_signature, w ∈ wsL_law := (fmC wm_21_0 (fmA (fmA (fmA (fmA (fmA (fmA sub_wsX11_signature_r1 sub_wsX11_signature_r2) sub_wsX110) sub_wsX50) sub_wsX10) sub_wsX80) sub_wsX90))
set_option maxRecDepth 20000 in
theorem gL_law_X11_signature : GoodIn wsL_law (wsV RL 84 RX11 yX11_signature wsX11_signature) := goodIn_app (goodIn_sub (fmC wm_20_21 (fmC wm_20_22 (fmC wm_20_23 (fmC wm_1_2 fmN)))) (by decide +kernel)) (goodIn_sub sub_wsX11_signature (by decide +kernel))
set_option maxRecDepth 20000 in
theorem sub_wsX12_signature_r1 : ∀ w ∈ wsX12_signature_r1, w ∈ wsL_law := (fmC wm_10_3 (fmC wm_10_4 (fmC wm_1_5 (fmC wm_10_5 (fmC wm_8_23 (fmC wm_9_0 (fmC wm_9_1 (fmC wm_21_5 (fmC wm_21_6 (fmC wm_21_7 (fmC wm_21_8 (fmC wm_8_22 (fmC wm_19_6 (fmC wm_19_7 (fmC wm_19_8 (fmC wm_19_9 (fmC wm_6_7 (fmC wm_6_8 (fmC wm_20_13 (fmC wm_20_14 (fmC wm_20_15 (fmC wm_20_16 (fmC wm_6_10 (fmC wm_6_9 fmN))))))))))))))))))))))))
set_option maxRecDepth 20000 in
theorem sub_wsX12_signature_r2 : ∀ w ∈ wsX12_signature_r2, w ∈ wsL_law := (fmC wm_20_17 (fmC wm_20_18 (fmC wm_20_19 (fmC wm_20_20 (fmC wm_6_3 (fmC wm_13_12 (fmC wm_13_13 (fmC wm_13_14 (fmC wm_13_15 (fmC wm_6_5 (fmC wm_6_4 fmN)))))))))))
set_option maxRecDepth 20000 in
theorem sub_wsX12_signature : ∀ w ∈ wsX12_signature, w ∈ wsL_law := (fmC wm_21_4 (fmA (fmA sub_wsX12_signature_r1 sub_wsX12_signature_r2) sub_wsX120))
set_option maxRecDepth 20000 in
theorem gL_law_X12_signature : GoodIn wsL_law (wsV RL 87 RX12 yX12_signature wsX12_signature) := goodIn_app (goodIn_sub (fmC wm_21_1 (fmC wm_21_2 (fmC wm_21_3 (fmC wm_1_5 fmN)))) (by decide +kernel)) (goodIn_sub sub_wsX12_signature (by decide +kernel))
set_option maxRecDepth 20000 in
theorem sub_wsX11_classes_r1 : ∀ w ∈ wsX11_classes_r1, w ∈ wsL_law := (fmC wm_2_6 (fmC wm_1_15 (fmC wm_15_15 (fmC wm_8_11 (fmC wm_21_13 (fmC wm_21_14 (fmC wm_21_15 (fmC wm_2_5 (fmC wm_21_16 (fmC wm_21_17 (fmC wm_21_18 (fmC wm_21_19 (fmC wm_21_20 (fmC wm_4_0 (fmC wm_4_1 (fmC wm_4_4 (fmC wm_21_21 (fmC wm_21_22 (fmC wm_21_23 (fmC wm_22_0 (fmC wm_22_1 (fmC wm_22_2 (fmC wm_22_3 (fmC wm_3_5 fmN))))))))))))))))))))))))
set_option maxRecDepth 20000 in
theorem sub_wsX11_classes_r2 : ∀ w ∈ wsX11_classes_r2, w ∈ wsL_law := (fmC wm_22_4 (fmC wm_3_14 (fmC wm_22_5 (fmC wm_3_13 (fmC wm_22_6 (fmC wm_19_21 (fmC wm_19_22 (fmC wm_16_11 (fmC wm_19_23 (fmC wm_16_16 (fmC wm_16_19 (fmC wm_16_20 (fmC wm_20_0 (fmC wm_20_1 (fmC wm_20_2 (fmC wm_20_3 (fmC wm_16_17 (fmC wm_20_4 (fmC wm_14_1 (fmC wm_14_2 (fmC wm_14_3 (fmC wm_22_7 (fmC wm_22_8 (fmC wm_22_9 fmN))))))))))))))))))))))))
set_option maxRecDepth 20000 in
theorem sub_wsX11_classes_r3 : ∀ w ∈ wsX11_classes_r3, w ∈ wsL_law := (fmC wm_22_10 (fmC wm_4_2 (fmC wm_22_11 (fmC wm_22_12 (fmC wm_22_13 (fmC wm_22_14 (fmC wm_22_15 (fmC wm_22_16 (fmC wm_22_17 (fmC wm_22_18 (fmC wm_22_19 (fmC wm_22_20 (fmC wm_20_6 (fmC wm_20_7 (fmC wm_20_8 (fmC wm_22_21 (fmC wm_22_22 (fmC wm_22_23 (fmC wm_23_0 (fmC wm_4_3 (fmC wm_23_1 (fmC wm_13_5 (fmC wm_13_6 (fmC wm_13_7 fmN))))))))))))))))))))))))
set_option maxRecDepth 20000 in
theorem sub_wsX11_classes_r4 : ∀ w ∈ wsX11_classes_r4, w ∈ wsL_law := (fmC wm_23_2 (fmC wm_23_3 (fmC wm_23_4 (fmC wm_23_5 (fmC wm_23_6 fmN)))))
set_option maxRecDepth 20000 in
theorem sub_wsX11_classes : ∀ w ∈ wsX11_classes, w ∈ wsL_law := (fmC wm_21_12 (fmA (fmA (fmA (fmA (fmA (fmA sub_wsX11_classes_r1 (fmA sub_wsX11_classes_r2 (fmA sub_wsX11_classes_r3 sub_wsX11_classes_r4))) sub_wsX110) sub_wsX50) sub_wsX100) sub_wsX10) sub_wsX80))
set_option maxRecDepth 20000 in
theorem gL_law_X11_classes : GoodIn wsL_law (wsV RL 88 RX11 yX11_classes wsX11_classes) := goodIn_app (goodIn_sub (fmC wm_21_9 (fmC wm_21_10 (fmC wm_21_11 (fmC wm_1_2 fmN)))) (by decide +kernel)) (goodIn_sub sub_wsX11_classes (by decide +kernel))
set_option maxRecDepth 20000 in
theorem sub_wsX12_classes_r1 : ∀ w ∈ wsX12_classes_r1, w ∈ wsL_law := (fmC wm_23_11 (fmC wm_6_12 (fmC wm_8_23 (fmC wm_9_0 (fmC wm_1_5 (fmC wm_9_1 (fmC wm_23_12 (fmC wm_23_13 (fmC wm_23_14 (fmC wm_23_15 (fmC wm_6_3 (fmC wm_6_13 (fmC wm_6_4 (fmC wm_6_2 (fmC wm_23_16 (fmC wm_23_17 (fmC wm_23_18 (fmC wm_23_19 (fmC wm_21_5 (fmC wm_21_6 (fmC wm_21_7 (fmC wm_21_8 (fmC wm_8_22 (fmC wm_19_6 fmN))))))))))))))))))))))))
set_option maxRecDepth 20000 in
theorem sub_wsX12_classes_r2 : ∀ w ∈ wsX12_classes_r2, w ∈ wsL_law := (fmC wm_19_7 (fmC wm_19_8 (fmC wm_19_9 (fmC wm_6_7 (fmC wm_6_8 (fmC wm_20_13 (fmC wm_20_14 (fmC wm_20_15 (fmC wm_20_16 (fmC wm_6_10 (fmC wm_6_9 (fmC wm_20_17 (fmC wm_20_18 (fmC wm_20_19 (fmC wm_20_20 (fmC wm_13_12 (fmC wm_13_13 (fmC wm_13_14 (fmC wm_13_15 (fmC wm_6_5 fmN))))))))))))))))))))
set_option maxRecDepth 20000 in
theorem sub_wsX12_classes : ∀ w ∈ wsX12_classes, w ∈ wsL_law := (fmC wm_23_10 (fmA (fmA sub_wsX12_classes_r1 sub_wsX12_classes_r2) sub_wsX120))
set_option maxRecDepth 20000 in
theorem gL_law_X12_classes : GoodIn wsL_law (wsV RL 91 RX12 yX12_classes wsX12_classes) := goodIn_app (goodIn_sub (fmC wm_23_7 (fmC wm_23_8 (fmC wm_23_9 (fmC wm_1_5 fmN)))) (by decide +kernel)) (goodIn_sub sub_wsX12_classes (by decide +kernel))
set_option maxRecDepth 20000 in
theorem sub_wsX11_classSize_r1 : ∀ w ∈ wsX11_classSize_r1, w ∈ wsL_law := (fmC wm_2_6 (fmC wm_1_15 (fmC wm_15_15 (fmC wm_8_11 (fmC wm_21_13 (fmC wm_21_14 (fmC wm_21_15 (fmC wm_2_5 (fmC wm_21_16 (fmC wm_21_17 (fmC wm_21_18 (fmC wm_21_19 (fmC wm_21_20 (fmC wm_4_0 (fmC wm_4_1 (fmC wm_4_4 (fmC wm_21_21 (fmC wm_21_22 (fmC wm_21_23 (fmC wm_22_0 (fmC wm_22_1 (fmC wm_22_2 (fmC wm_22_3 (fmC wm_3_5 fmN))))))))))))))))))))))))
set_option maxRecDepth 20000 in
theorem sub_wsX11_classSize_r2 : ∀ w ∈ wsX11_classSize_r2, w ∈ wsL_law := (fmC wm_22_4 (fmC wm_3_14 (fmC wm_22_5 (fmC wm_3_13 (fmC wm_22_6 (fmC wm_19_21 (fmC wm_19_22 (fmC wm_16_11 (fmC wm_19_23 (fmC wm_16_16 (fmC wm_16_19 (fmC wm_16_20 (fmC wm_20_0 (fmC wm_20_1 (fmC wm_20_2 (fmC wm_20_3 (fmC wm_16_17 (fmC wm_20_4 (fmC wm_14_1 (fmC wm_14_2 (fmC wm_14_3 (fmC wm_22_7 (fmC wm_22_8 (fmC wm_22_9 fmN))))))))))))))))))))))))
set_option maxRecDepth 20000 in
theorem sub_wsX11_classSize_r3 : ∀ w ∈ wsX11_classSize_r3, w ∈ wsL_law := (fmC wm_22_10 (fmC wm_4_2 (fmC wm_22_11 (fmC wm_22_12 (fmC wm_22_13 (fmC wm_22_14 (fmC wm_22_15 (fmC wm_22_16 (fmC wm_22_17 (fmC wm_22_18 (fmC wm_22_19 (fmC wm_22_20 (fmC wm_20_6 (fmC wm_20_7 (fmC wm_20_8 (fmC wm_24_0 (fmC wm_24_1 (fmC wm_24_2 (fmC wm_24_3 fmN)))))))))))))))))))
set_option maxRecDepth 20000 in
theorem sub_wsX11_classSize : ∀ w ∈ wsX11_classSize, w ∈ wsL_law := (fmC wm_23_23 (fmA (fmA (fmA (fmA (fmA (fmA sub_wsX11_classSize_r1 (fmA sub_wsX11_classSize_r2 sub_wsX11_classSize_r3)) sub_wsX110) sub_wsX50) sub_wsX100) sub_wsX10) sub_wsX80))
set_option maxRecDepth 20000 in
theorem gL_law_X11_classSize : GoodIn wsL_law (wsV RL 92 RX11 yX11_classSize wsX11_classSize) := goodIn_app (goodIn_sub (fmC wm_23_20 (fmC wm_23_21 (fmC wm_23_22 (fmC wm_1_2 fmN)))) (by decide +kernel)) (goodIn_sub sub_wsX11_classSize (by decide +kernel))
set_option maxRecDepth 20000 in
theorem sub_wsX12_classSize_r1 : ∀ w ∈ wsX12_classSize_r1, w ∈ wsL_law := (fmC wm_23_11 (fmC wm_6_12 (fmC wm_8_23 (fmC wm_9_0 (fmC wm_1_5 (fmC wm_9_1 (fmC wm_23_12 (fmC wm_23_13 (fmC wm_23_14 (fmC wm_23_15 (fmC wm_6_3 (fmC wm_6_13 (fmC wm_6_4 (fmC wm_6_2 (fmC wm_23_16 (fmC wm_23_17 (fmC wm_23_18 (fmC wm_23_19 (fmC wm_21_5 (fmC wm_21_6 (fmC wm_21_7 (fmC wm_21_8 (fmC wm_8_22 (fmC wm_19_6 fmN))))))))))))))))))))))))
set_option maxRecDepth 20000 in
theorem sub_wsX12_classSize_r2 : ∀ w ∈ wsX12_classSize_r2, w ∈ wsL_law := (fmC wm_19_7 (fmC wm_19_8 (fmC wm_19_9 (fmC wm_6_7 (fmC wm_6_8 (fmC wm_20_13 (fmC wm_20_14 (fmC wm_20_15 (fmC wm_20_16 (fmC wm_6_10 (fmC wm_6_9 (fmC wm_20_17 (fmC wm_20_18 (fmC wm_20_19 (fmC wm_20_20 (fmC wm_13_12 (fmC wm_13_13 (fmC wm_13_14 (fmC wm_13_15 (fmC wm_6_5 fmN))))))))))))))))))))
set_option maxRecDepth 20000 in
theorem sub_wsX12_classSize : ∀ w ∈ wsX12_classSize, w ∈ wsL_law := (fmC wm_24_7 (fmA (fmA sub_wsX12_classSize_r1 sub_wsX12_classSize_r2) sub_wsX120))
set_option maxRecDepth 20000 in
theorem gL_law_X12_classSize : GoodIn wsL_law (wsV RL 95 RX12 yX12_classSize wsX12_classSize) := goodIn_app (goodIn_sub (fmC wm_24_4 (fmC wm_24_5 (fmC wm_24_6 (fmC wm_1_5 fmN)))) (by decide +kernel)) (goodIn_sub sub_wsX12_classSize (by decide +kernel))
set_option maxRecDepth 20000 in
theorem sub_wsX11_findCollision_r1 : ∀ w ∈ wsX11_findCollision_r1, w ∈ wsL_law := (fmC wm_2_6 (fmC wm_1_15 (fmC wm_15_15 (fmC wm_8_11 (fmC wm_9_14 (fmC wm_24_12 (fmC wm_24_13 (fmC wm_24_14 (fmC wm_21_18 (fmC wm_21_19 (fmC wm_2_5 (fmC wm_21_20 (fmC wm_4_0 (fmC wm_4_1 (fmC wm_4_4 (fmC wm_24_15 (fmC wm_21_22 (fmC wm_21_23 (fmC wm_22_0 (fmC wm_22_1 (fmC wm_22_2 (fmC wm_22_3 (fmC wm_3_5 (fmC wm_22_4 fmN))))))))))))))))))))))))
set_option maxRecDepth 20000 in
theorem sub_wsX11_findCollision_r2 : ∀ w ∈ wsX11_findCollision_r2, w ∈ wsL_law := (fmC wm_3_14 (fmC wm_22_5 (fmC wm_3_13 (fmC wm_22_6 (fmC wm_19_21 (fmC wm_19_22 (fmC wm_16_11 (fmC wm_19_23 (fmC wm_16_16 (fmC wm_16_19 (fmC wm_16_20 (fmC wm_20_0 (fmC wm_20_1 (fmC wm_20_2 (fmC wm_20_3 (fmC wm_16_17 (fmC wm_20_4 (fmC wm_14_1 (fmC wm_14_2 (fmC wm_14_3 (fmC wm_24_16 (fmC wm_22_8 (fmC wm_22_9 (fmC wm_22_10 fmN))))))))))))))))))))))))
set_option maxRecDepth 20000 in
theorem sub_wsX11_findCollision_r3 : ∀ w ∈ wsX11_findCollision_r3, w ∈ wsL_law := (fmC wm_4_2 (fmC wm_22_11 (fmC wm_22_12 (fmC wm_22_13 (fmC wm_22_14 (fmC wm_22_15 (fmC wm_22_16 (fmC wm_22_17 (fmC wm_22_18 (fmC wm_22_19 (fmC wm_22_20 (fmC wm_20_6 (fmC wm_20_7 (fmC wm_20_8 (fmC wm_24_17 (fmC wm_24_18 (fmC wm_24_19 (fmC wm_24_20 (fmC wm_4_3 (fmC wm_4_5 (fmC wm_4_6 (fmC wm_23_1 (fmC wm_13_5 (fmC wm_13_6 fmN))))))))))))))))))))))))
set_option maxRecDepth 20000 in
theorem sub_wsX11_findCollision_r4 : ∀ w ∈ wsX11_findCollision_r4, w ∈ wsL_law := (fmC wm_13_7 (fmC wm_23_2 (fmC wm_23_3 (fmC wm_23_4 (fmC wm_23_5 (fmC wm_23_6 (fmC wm_13_20 (fmC wm_13_21 (fmC wm_13_22 (fmC wm_2_1 (fmC wm_13_23 (fmC wm_14_0 (fmC wm_3_19 (fmC wm_14_4 (fmC wm_14_5 (fmC wm_14_6 (fmC wm_3_18 fmN)))))))))))))))))
set_option maxRecDepth 20000 in
theorem sub_wsX11_findCollision : ∀ w ∈ wsX11_findCollision, w ∈ wsL_law := (fmC wm_24_11 (fmA (fmA (fmA (fmA (fmA (fmA (fmA sub_wsX11_findCollision_r1 (fmA sub_wsX11_findCollision_r2 (fmA sub_wsX11_findCollision_r3 sub_wsX11_findCollision_r4))) sub_wsX110) sub_wsX50) sub_wsX100) sub_wsX10) sub_wsX80) sub_wsX90))
set_option maxRecDepth 20000 in
theorem gL_law_X11_findCollision : GoodIn wsL_law (wsV RL 96 RX11 yX11_findCollision wsX11_findCollision) := goodIn_app (goodIn_sub (fmC wm_24_8 (fmC wm_24_9 (fmC wm_24_10 (fmC wm_1_2 fmN)))) (by decide +kernel)) (goodIn_sub sub_wsX11_findCollision (by decide +kernel))
set_option maxRecDepth 20000 in
theorem sub_wsX12_findCollision_r1 : ∀ w ∈ wsX12_findCollision_r1, w ∈ wsL_law := (fmC wm_23_11 (fmC wm_6_12 (fmC wm_23_12 (fmC wm_23_13 (fmC wm_23_14 (fmC wm_1_5 (fmC wm_23_15 (fmC wm_6_3 (fmC wm_6_13 (fmC wm_6_4 (fmC wm_6_2 (fmC wm_23_16 (fmC wm_23_17 (fmC wm_23_18 (fmC wm_23_19 (fmC wm_21_5 (fmC wm_21_6 (fmC wm_21_7 (fmC wm_21_8 (fmC wm_8_22 (fmC wm_19_6 (fmC wm_19_7 (fmC wm_19_8 (fmC wm_19_9 fmN))))))))))))))))))))))))
set_option maxRecDepth 20000 in
theorem sub_wsX12_findCollision_r2 : ∀ w ∈ wsX12_findCollision_r2, w ∈ wsL_law := (fmC wm_6_7 (fmC wm_6_8 (fmC wm_20_13 (fmC wm_20_14 (fmC wm_20_15 (fmC wm_20_16 (fmC wm_6_10 (fmC wm_6_9 (fmC wm_20_17 (fmC wm_20_18 (fmC wm_20_19 (fmC wm_20_20 (fmC wm_13_12 (fmC wm_13_13 (fmC wm_13_14 (fmC wm_13_15 (fmC wm_6_5 fmN)))))))))))))))))
set_option maxRecDepth 20000 in
theorem sub_wsX12_findCollision : ∀ w ∈ wsX12_findCollision, w ∈ wsL_law := (fmC wm_25_0 (fmA (fmA sub_wsX12_findCollision_r1 sub_wsX12_findCollision_r2) sub_wsX120))
set_option maxRecDepth 20000 in
theorem gL_law_X12_findCollision : GoodIn wsL_law (wsV RL 99 RX12 yX12_findCollision wsX12_findCollision) := goodIn_app (goodIn_sub (fmC wm_24_21 (fmC wm_24_22 (fmC wm_24_23 (fmC wm_1_5 fmN)))) (by decide +kernel)) (goodIn_sub sub_wsX12_findCollision (by decide +kernel))
set_option maxRecDepth 20000 in
theorem sub_wsX11_states_r1 : ∀ w ∈ wsX11_states_r1, w ∈ wsL_law := (fmC wm_2_10 (fmC wm_25_5 (fmC wm_17_18 (fmC wm_17_19 (fmC wm_17_20 (fmC wm_1_2 (fmC wm_17_21 (fmC wm_1_15 (fmC wm_15_15 (fmC wm_15_16 (fmC wm_25_6 (fmC wm_25_7 (fmC wm_25_8 (fmC wm_25_9 (fmC wm_8_11 (fmC wm_25_10 (fmC wm_18_22 (fmC wm_25_11 (fmC wm_25_12 (fmC wm_25_13 (fmC wm_2_9 (fmC wm_25_14 (fmC wm_4_12 (fmC wm_4_11 fmN))))))))))))))))))))))))
set_option maxRecDepth 20000 in
theorem sub_wsX11_states_r2 : ∀ w ∈ wsX11_states_r2, w ∈ wsL_law := (fmC wm_25_15 (fmC wm_4_13 (fmC wm_16_21 (fmC wm_16_22 (fmC wm_16_23 (fmC wm_3_5 (fmC wm_17_0 (fmC wm_3_14 (fmC wm_3_13 (fmC wm_25_16 (fmC wm_25_17 (fmC wm_25_18 (fmC wm_25_19 (fmC wm_4_21 (fmC wm_4_16 (fmC wm_4_17 (fmC wm_4_18 (fmC wm_4_14 (fmC wm_4_19 (fmC wm_4_20 (fmC wm_25_20 (fmC wm_13_5 (fmC wm_13_6 (fmC wm_13_7 fmN))))))))))))))))))))))))
set_option maxRecDepth 20000 in
theorem sub_wsX11_states_r3 : ∀ w ∈ wsX11_states_r3, w ∈ wsL_law := (fmC wm_25_21 (fmC wm_25_22 (fmC wm_25_23 (fmC wm_26_0 (fmC wm_26_1 (fmC wm_26_2 (fmC wm_26_3 (fmC wm_26_4 (fmC wm_26_5 (fmC wm_26_6 (fmC wm_26_7 (fmC wm_26_8 (fmC wm_22_2 (fmC wm_22_3 (fmC wm_22_4 (fmC wm_22_5 (fmC wm_22_6 (fmC wm_19_21 (fmC wm_19_22 (fmC wm_16_11 (fmC wm_19_23 (fmC wm_16_16 (fmC wm_16_19 (fmC wm_16_20 fmN))))))))))))))))))))))))
set_option maxRecDepth 20000 in
theorem sub_wsX11_states_r4 : ∀ w ∈ wsX11_states_r4, w ∈ wsL_law := (fmC wm_20_0 (fmC wm_20_1 (fmC wm_20_2 (fmC wm_20_3 (fmC wm_16_17 (fmC wm_20_4 (fmC wm_14_1 (fmC wm_14_2 (fmC wm_14_3 (fmC wm_26_9 (fmC wm_26_10 (fmC wm_26_11 (fmC wm_26_12 (fmC wm_4_15 (fmC wm_26_13 (fmC wm_22_17 (fmC wm_22_18 (fmC wm_22_19 (fmC wm_22_20 (fmC wm_20_6 (fmC wm_20_7 (fmC wm_20_8 fmN))))))))))))))))))))))
set_option maxRecDepth 20000 in
theorem sub_wsX11_states : ∀ w ∈ wsX11_states, w ∈ wsL_law := (fmC wm_25_4 (fmA (fmA (fmA (fmA (fmA (fmA sub_wsX11_states_r1 (fmA sub_wsX11_states_r2 (fmA sub_wsX11_states_r3 sub_wsX11_states_r4))) sub_wsX110) sub_wsX00) sub_wsX50) sub_wsX10) sub_wsX80))
set_option maxRecDepth 20000 in
theorem gL_law_X11_states : GoodIn wsL_law (wsV RL 100 RX11 yX11_states wsX11_states) := goodIn_app (goodIn_sub (fmC wm_25_1 (fmC wm_25_2 (fmC wm_25_3 (fmC wm_1_2 fmN)))) (by decide +kernel)) (goodIn_sub sub_wsX11_states (by decide +kernel))
set_option maxRecDepth 20000 in
theorem sub_wsX12_states_r1 : ∀ w ∈ wsX12_states_r1, w ∈ wsL_law := (fmC wm_26_18 (fmC wm_18_6 (fmC wm_18_7 (fmC wm_18_8 (fmC wm_1_5 (fmC wm_18_9 (fmC wm_8_22 (fmC wm_8_23 (fmC wm_9_0 (fmC wm_9_1 (fmC wm_26_19 (fmC wm_26_20 (fmC wm_26_21 (fmC wm_26_22 (fmC wm_26_23 (fmC wm_27_0 (fmC wm_6_7 (fmC wm_6_8 (fmC wm_6_9 (fmC wm_6_10 (fmC wm_27_1 (fmC wm_27_2 (fmC wm_27_3 (fmC wm_27_4 fmN))))))))))))))))))))))))
set_option maxRecDepth 20000 in
theorem sub_wsX12_states_r2 : ∀ w ∈ wsX12_states_r2, w ∈ wsL_law := (fmC wm_7_3 (fmC wm_7_4 (fmC wm_7_5 (fmC wm_7_6 (fmC wm_7_7 (fmC wm_27_5 (fmC wm_27_6 (fmC wm_27_7 (fmC wm_27_8 (fmC wm_6_2 (fmC wm_7_9 (fmC wm_7_10 (fmC wm_7_13 (fmC wm_7_14 (fmC wm_27_9 (fmC wm_27_10 (fmC wm_27_11 (fmC wm_27_12 (fmC wm_27_13 (fmC wm_27_14 (fmC wm_27_15 (fmC wm_27_16 (fmC wm_27_17 (fmC wm_27_18 fmN))))))))))))))))))))))))
set_option maxRecDepth 20000 in
theorem sub_wsX12_states_r3 : ∀ w ∈ wsX12_states_r3, w ∈ wsL_law := (fmC wm_27_19 (fmC wm_7_11 (fmC wm_7_12 (fmC wm_27_20 (fmC wm_27_21 (fmC wm_27_22 (fmC wm_27_23 (fmC wm_7_15 (fmC wm_7_16 (fmC wm_28_0 (fmC wm_28_1 (fmC wm_28_2 (fmC wm_28_3 (fmC wm_28_4 (fmC wm_28_5 (fmC wm_28_6 (fmC wm_28_7 (fmC wm_28_8 (fmC wm_28_9 (fmC wm_28_10 (fmC wm_28_11 (fmC wm_28_12 (fmC wm_28_13 (fmC wm_28_14 fmN))))))))))))))))))))))))
set_option maxRecDepth 20000 in
theorem sub_wsX12_states_r4 : ∀ w ∈ wsX12_states_r4, w ∈ wsL_law := (fmC wm_28_15 (fmC wm_7_8 fmN))
set_option maxRecDepth 20000 in
theorem sub_wsX12_states : ∀ w ∈ wsX12_states, w ∈ wsL_law := (fmC wm_26_17 (fmA (fmA sub_wsX12_states_r1 (fmA sub_wsX12_states_r2 (fmA sub_wsX12_states_r3 sub_wsX12_states_r4))) sub_wsX120))
set_option maxRecDepth 20000 in
theorem gL_law_X12_states : GoodIn wsL_law (wsV RL 103 RX12 yX12_states wsX12_states) := goodIn_app (goodIn_sub (fmC wm_26_14 (fmC wm_26_15 (fmC wm_26_16 (fmC wm_1_5 fmN)))) (by decide +kernel)) (goodIn_sub sub_wsX12_states (by decide +kernel))
set_option maxRecDepth 20000 in
theorem sub_wsX11_minimalStates_r1 : ∀ w ∈ wsX11_minimalStates_r1, w ∈ wsL_law := (fmC wm_2_14 (fmC wm_2_10 (fmC wm_28_20 (fmC wm_17_18 (fmC wm_17_19 (fmC wm_17_20 (fmC wm_1_2 (fmC wm_17_21 (fmC wm_1_15 (fmC wm_15_15 (fmC wm_15_16 (fmC wm_25_6 (fmC wm_25_7 (fmC wm_25_8 (fmC wm_25_9 (fmC wm_8_11 (fmC wm_25_10 (fmC wm_18_22 (fmC wm_25_11 (fmC wm_25_12 (fmC wm_25_13 (fmC wm_2_9 (fmC wm_25_14 (fmC wm_4_12 fmN))))))))))))))))))))))))
set_option maxRecDepth 20000 in
theorem sub_wsX11_minimalStates_r2 : ∀ w ∈ wsX11_minimalStates_r2, w ∈ wsL_law := (fmC wm_4_11 (fmC wm_25_15 (fmC wm_4_13 (fmC wm_16_21 (fmC wm_16_22 (fmC wm_16_23 (fmC wm_3_5 (fmC wm_17_0 (fmC wm_3_14 (fmC wm_3_13 (fmC wm_25_16 (fmC wm_25_17 (fmC wm_25_18 (fmC wm_25_19 (fmC wm_4_21 (fmC wm_4_16 (fmC wm_4_17 (fmC wm_4_18 (fmC wm_4_14 (fmC wm_4_19 (fmC wm_4_20 (fmC wm_25_20 (fmC wm_13_5 (fmC wm_13_6 fmN))))))))))))))))))))))))
set_option maxRecDepth 20000 in
theorem sub_wsX11_minimalStates_r3 : ∀ w ∈ wsX11_minimalStates_r3, w ∈ wsL_law := (fmC wm_13_7 (fmC wm_25_21 (fmC wm_25_22 (fmC wm_25_23 (fmC wm_26_0 (fmC wm_26_1 (fmC wm_26_2 (fmC wm_26_3 (fmC wm_26_4 (fmC wm_26_5 (fmC wm_26_6 (fmC wm_26_7 (fmC wm_26_8 (fmC wm_22_2 (fmC wm_22_3 (fmC wm_22_4 (fmC wm_22_5 (fmC wm_22_6 (fmC wm_19_21 (fmC wm_19_22 (fmC wm_16_11 (fmC wm_19_23 (fmC wm_16_16 (fmC wm_16_19 fmN))))))))))))))))))))))))
set_option maxRecDepth 20000 in
theorem sub_wsX11_minimalStates_r4 : ∀ w ∈ wsX11_minimalStates_r4, w ∈ wsL_law := (fmC wm_16_20 (fmC wm_20_0 (fmC wm_20_1 (fmC wm_20_2 (fmC wm_20_3 (fmC wm_16_17 (fmC wm_20_4 (fmC wm_14_1 (fmC wm_14_2 (fmC wm_14_3 (fmC wm_26_9 (fmC wm_26_10 (fmC wm_26_11 (fmC wm_26_12 (fmC wm_4_15 (fmC wm_26_13 (fmC wm_22_17 (fmC wm_22_18 (fmC wm_22_19 (fmC wm_22_20 (fmC wm_20_6 (fmC wm_20_7 (fmC wm_20_8 (fmC wm_28_21 fmN))))))))))))))))))))))))
set_option maxRecDepth 20000 in
theorem sub_wsX11_minimalStates_r5 : ∀ w ∈ wsX11_minimalStates_r5, w ∈ wsL_law := (fmC wm_28_22 (fmC wm_28_23 (fmC wm_2_13 (fmC wm_29_0 (fmC wm_5_3 (fmC wm_5_8 (fmC wm_5_4 (fmC wm_5_7 (fmC wm_5_12 (fmC wm_29_1 (fmC wm_14_19 (fmC wm_14_20 (fmC wm_14_21 (fmC wm_29_2 (fmC wm_29_3 (fmC wm_29_4 (fmC wm_29_5 (fmC wm_29_6 (fmC wm_29_7 (fmC wm_29_8 (fmC wm_5_5 (fmC wm_5_6 (fmC wm_29_9 (fmC wm_29_10 fmN))))))))))))))))))))))))
set_option maxRecDepth 20000 in
theorem sub_wsX11_minimalStates_r6 : ∀ w ∈ wsX11_minimalStates_r6, w ∈ wsL_law := (fmC wm_29_11 (fmC wm_29_12 (fmC wm_5_9 (fmC wm_29_13 (fmC wm_29_14 (fmC wm_29_15 (fmC wm_29_16 (fmC wm_5_14 (fmC wm_29_17 (fmC wm_5_15 (fmC wm_29_18 (fmC wm_29_19 (fmC wm_29_20 (fmC wm_29_21 (fmC wm_29_22 (fmC wm_29_23 (fmC wm_30_0 (fmC wm_30_1 (fmC wm_5_10 (fmC wm_5_11 (fmC wm_30_2 (fmC wm_30_3 (fmC wm_30_4 (fmC wm_30_5 fmN))))))))))))))))))))))))
set_option maxRecDepth 20000 in
theorem sub_wsX11_minimalStates_r7 : ∀ w ∈ wsX11_minimalStates_r7, w ∈ wsL_law := (fmC wm_30_6 (fmC wm_30_7 (fmC wm_30_8 (fmC wm_30_9 fmN))))
set_option maxRecDepth 20000 in
theorem sub_wsX11_minimalStates : ∀ w ∈ wsX11_minimalStates, w ∈ wsL_law := (fmC wm_28_19 (fmA (fmA (fmA (fmA (fmA (fmA (fmA sub_wsX11_minimalStates_r1 (fmA sub_wsX11_minimalStates_r2 (fmA sub_wsX11_minimalStates_r3 (fmA sub_wsX11_minimalStates_r4 (fmA sub_wsX11_minimalStates_r5 (fmA sub_wsX11_minimalStates_r6 sub_wsX11_minimalStates_r7)))))) sub_wsX110) sub_wsX40) sub_wsX50) sub_wsX10) sub_wsX00) sub_wsX80))
set_option maxRecDepth 20000 in
theorem gL_law_X11_minimalStates : GoodIn wsL_law (wsV RL 104 RX11 yX11_minimalStates wsX11_minimalStates) := goodIn_app (goodIn_sub (fmC wm_28_16 (fmC wm_28_17 (fmC wm_28_18 (fmC wm_1_2 fmN)))) (by decide +kernel)) (goodIn_sub sub_wsX11_minimalStates (by decide +kernel))
set_option maxRecDepth 20000 in
theorem sub_wsX12_minimalStates_r1 : ∀ w ∈ wsX12_minimalStates_r1, w ∈ wsL_law := (fmC wm_30_14 (fmC wm_18_6 (fmC wm_18_7 (fmC wm_18_8 (fmC wm_1_5 (fmC wm_18_9 (fmC wm_8_22 (fmC wm_8_23 (fmC wm_9_0 (fmC wm_9_1 (fmC wm_26_19 (fmC wm_26_20 (fmC wm_26_21 (fmC wm_26_22 (fmC wm_26_23 (fmC wm_27_0 (fmC wm_6_7 (fmC wm_6_8 (fmC wm_6_9 (fmC wm_6_10 (fmC wm_27_1 (fmC wm_27_2 (fmC wm_27_3 (fmC wm_27_4 fmN))))))))))))))))))))))))
set_option maxRecDepth 20000 in
theorem sub_wsX12_minimalStates_r2 : ∀ w ∈ wsX12_minimalStates_r2, w ∈ wsL_law := (fmC wm_7_3 (fmC wm_7_4 (fmC wm_7_5 (fmC wm_7_6 (fmC wm_7_7 (fmC wm_27_5 (fmC wm_27_6 (fmC wm_27_7 (fmC wm_27_8 (fmC wm_26_18 (fmC wm_6_2 (fmC wm_7_9 (fmC wm_7_10 (fmC wm_7_13 (fmC wm_7_14 (fmC wm_27_9 (fmC wm_27_10 (fmC wm_27_11 (fmC wm_27_12 (fmC wm_27_13 (fmC wm_27_14 (fmC wm_27_15 (fmC wm_27_16 (fmC wm_27_17 fmN))))))))))))))))))))))))
set_option maxRecDepth 20000 in
theorem sub_wsX12_minimalStates_r3 : ∀ w ∈ wsX12_minimalStates_r3, w ∈ wsL_law := (fmC wm_27_18 (fmC wm_27_19 (fmC wm_7_11 (fmC wm_7_12 (fmC wm_27_20 (fmC wm_27_21 (fmC wm_27_22 (fmC wm_27_23 (fmC wm_7_15 (fmC wm_7_16 (fmC wm_28_0 (fmC wm_28_1 (fmC wm_28_2 (fmC wm_28_3 (fmC wm_28_4 (fmC wm_28_5 (fmC wm_28_6 (fmC wm_28_7 (fmC wm_28_8 (fmC wm_28_9 (fmC wm_28_10 (fmC wm_28_11 (fmC wm_28_12 (fmC wm_28_13 fmN))))))))))))))))))))))))
set_option maxRecDepth 20000 in
theorem sub_wsX12_minimalStates_r4 : ∀ w ∈ wsX12_minimalStates_r4, w ∈ wsL_law := (fmC wm_28_14 (fmC wm_28_15 (fmC wm_7_8 (fmC wm_30_15 (fmC wm_30_16 (fmC wm_30_17 (fmC wm_30_18 (fmC wm_7_17 (fmC wm_30_19 (fmC wm_30_20 (fmC wm_30_21 (fmC wm_30_22 (fmC wm_30_23 (fmC wm_31_0 (fmC wm_31_1 (fmC wm_31_2 (fmC wm_31_3 (fmC wm_31_4 (fmC wm_31_5 (fmC wm_31_6 (fmC wm_31_7 (fmC wm_31_8 (fmC wm_31_9 (fmC wm_31_10 fmN))))))))))))))))))))))))
set_option maxRecDepth 20000 in
theorem sub_wsX12_minimalStates_r5 : ∀ w ∈ wsX12_minimalStates_r5, w ∈ wsL_law := (fmC wm_7_19 (fmC wm_7_18 fmN))
set_option maxRecDepth 20000 in
theorem sub_wsX12_minimalStates : ∀ w ∈ wsX12_minimalStates, w ∈ wsL_law := (fmC wm_30_13 (fmA (fmA sub_wsX12_minimalStates_r1 (fmA sub_wsX12_minimalStates_r2 (fmA sub_wsX12_minimalStates_r3 (fmA sub_wsX12_minimalStates_r4 sub_wsX12_minimalStates_r5)))) sub_wsX120))
set_option maxRecDepth 20000 in
theorem gL_law_X12_minimalStates : GoodIn wsL_law (wsV RL 107 RX12 yX12_minimalStates wsX12_minimalStates) := goodIn_app (goodIn_sub (fmC wm_30_10 (fmC wm_30_11 (fmC wm_30_12 (fmC wm_1_5 fmN)))) (by decide +kernel)) (goodIn_sub sub_wsX12_minimalStates (by decide +kernel))
set_option maxRecDepth 20000 in
theorem sub_wsX11_monoidSize_r1 : ∀ w ∈ wsX11_monoidSize_r1, w ∈ wsL_law := (fmC wm_2_14 (fmC wm_2_10 (fmC wm_2_15 (fmC wm_31_15 (fmC wm_31_16 (fmC wm_31_17 (fmC wm_31_18 (fmC wm_17_18 (fmC wm_17_19 (fmC wm_17_20 (fmC wm_1_2 (fmC wm_17_21 (fmC wm_1_15 (fmC wm_15_15 (fmC wm_15_16 (fmC wm_25_6 (fmC wm_25_7 (fmC wm_25_8 (fmC wm_25_9 (fmC wm_8_11 (fmC wm_25_10 (fmC wm_18_22 (fmC wm_25_11 (fmC wm_25_12 fmN))))))))))))))))))))))))
set_option maxRecDepth 20000 in
theorem sub_wsX11_monoidSize_r2 : ∀ w ∈ wsX11_monoidSize_r2, w ∈ wsL_law := (fmC wm_25_13 (fmC wm_2_9 (fmC wm_25_14 (fmC wm_4_12 (fmC wm_4_11 (fmC wm_25_15 (fmC wm_4_13 (fmC wm_16_21 (fmC wm_16_22 (fmC wm_16_23 (fmC wm_3_5 (fmC wm_17_0 (fmC wm_3_14 (fmC wm_3_13 (fmC wm_25_16 (fmC wm_25_17 (fmC wm_25_18 (fmC wm_25_19 (fmC wm_4_21 (fmC wm_4_16 (fmC wm_4_17 (fmC wm_4_18 (fmC wm_4_14 (fmC wm_4_19 fmN))))))))))))))))))))))))
set_option maxRecDepth 20000 in
theorem sub_wsX11_monoidSize_r3 : ∀ w ∈ wsX11_monoidSize_r3, w ∈ wsL_law := (fmC wm_4_20 (fmC wm_25_20 (fmC wm_13_5 (fmC wm_13_6 (fmC wm_13_7 (fmC wm_25_21 (fmC wm_25_22 (fmC wm_25_23 (fmC wm_26_0 (fmC wm_26_1 (fmC wm_26_2 (fmC wm_26_3 (fmC wm_26_4 (fmC wm_26_5 (fmC wm_26_6 (fmC wm_26_7 (fmC wm_26_8 (fmC wm_22_2 (fmC wm_22_3 (fmC wm_22_4 (fmC wm_22_5 (fmC wm_22_6 (fmC wm_19_21 (fmC wm_19_22 fmN))))))))))))))))))))))))
set_option maxRecDepth 20000 in
theorem sub_wsX11_monoidSize_r4 : ∀ w ∈ wsX11_monoidSize_r4, w ∈ wsL_law := (fmC wm_16_11 (fmC wm_19_23 (fmC wm_16_16 (fmC wm_16_19 (fmC wm_16_20 (fmC wm_20_0 (fmC wm_20_1 (fmC wm_20_2 (fmC wm_20_3 (fmC wm_16_17 (fmC wm_20_4 (fmC wm_14_1 (fmC wm_14_2 (fmC wm_14_3 (fmC wm_26_9 (fmC wm_26_10 (fmC wm_26_11 (fmC wm_26_12 (fmC wm_4_15 (fmC wm_26_13 (fmC wm_22_17 (fmC wm_22_18 (fmC wm_22_19 (fmC wm_22_20 fmN))))))))))))))))))))))))
set_option maxRecDepth 20000 in
theorem sub_wsX11_monoidSize_r5 : ∀ w ∈ wsX11_monoidSize_r5, w ∈ wsL_law := (fmC wm_20_6 (fmC wm_20_7 (fmC wm_20_8 (fmC wm_28_21 (fmC wm_28_22 (fmC wm_28_23 (fmC wm_2_13 (fmC wm_29_0 (fmC wm_5_3 (fmC wm_5_8 (fmC wm_5_4 (fmC wm_5_7 (fmC wm_5_12 (fmC wm_29_1 (fmC wm_14_19 (fmC wm_14_20 (fmC wm_14_21 (fmC wm_29_2 (fmC wm_29_3 (fmC wm_29_4 (fmC wm_29_5 (fmC wm_29_6 (fmC wm_29_7 (fmC wm_29_8 fmN))))))))))))))))))))))))
set_option maxRecDepth 20000 in
theorem sub_wsX11_monoidSize_r6 : ∀ w ∈ wsX11_monoidSize_r6, w ∈ wsL_law := (fmC wm_5_5 (fmC wm_5_6 (fmC wm_29_9 (fmC wm_29_10 (fmC wm_29_11 (fmC wm_29_12 (fmC wm_5_9 (fmC wm_29_13 (fmC wm_29_14 (fmC wm_29_15 (fmC wm_29_16 (fmC wm_5_14 (fmC wm_29_17 (fmC wm_5_15 (fmC wm_29_18 (fmC wm_29_19 (fmC wm_29_20 (fmC wm_29_21 (fmC wm_29_22 (fmC wm_29_23 (fmC wm_30_0 (fmC wm_30_1 (fmC wm_5_10 (fmC wm_5_11 fmN))))))))))))))))))))))))
set_option maxRecDepth 20000 in
theorem sub_wsX11_monoidSize_r7 : ∀ w ∈ wsX11_monoidSize_r7, w ∈ wsL_law := (fmC wm_30_2 (fmC wm_30_3 (fmC wm_30_4 (fmC wm_30_5 (fmC wm_30_6 (fmC wm_30_7 (fmC wm_30_8 (fmC wm_30_9 (fmC wm_31_19 (fmC wm_31_20 (fmC wm_31_21 (fmC wm_1_10 (fmC wm_1_11 (fmC wm_31_22 (fmC wm_31_23 (fmC wm_1_18 (fmC wm_32_0 (fmC wm_32_1 (fmC wm_32_2 (fmC wm_32_3 (fmC wm_32_4 (fmC wm_32_5 (fmC wm_32_6 (fmC wm_32_7 fmN))))))))))))))))))))))))
set_option maxRecDepth 20000 in
theorem sub_wsX11_monoidSize_r8 : ∀ w ∈ wsX11_monoidSize_r8, w ∈ wsL_law := (fmC wm_32_8 (fmC wm_32_9 (fmC wm_32_10 (fmC wm_32_11 (fmC wm_32_12 (fmC wm_32_13 (fmC wm_32_14 (fmC wm_32_15 (fmC wm_32_16 (fmC wm_32_17 (fmC wm_32_18 (fmC wm_32_19 (fmC wm_32_20 (fmC wm_32_21 (fmC wm_32_22 (fmC wm_32_23 (fmC wm_33_0 (fmC wm_33_1 (fmC wm_33_2 (fmC wm_33_3 (fmC wm_33_4 (fmC wm_33_5 (fmC wm_33_6 (fmC wm_33_7 fmN))))))))))))))))))))))))
set_option maxRecDepth 20000 in
theorem sub_wsX11_monoidSize_r9 : ∀ w ∈ wsX11_monoidSize_r9, w ∈ wsL_law := (fmC wm_33_8 (fmC wm_33_9 (fmC wm_33_10 (fmC wm_33_11 (fmC wm_33_12 (fmC wm_33_13 (fmC wm_33_14 (fmC wm_33_15 fmN))))))))
set_option maxRecDepth 20000 in
theorem sub_wsX30 : ∀ w ∈ wsX30, w ∈ wsL_law := (fun w h => (List.mem_append_left _ (List.mem_append_left _ (List.mem_append_right _ h))))
set_option maxRecDepth 20000 in
theorem sub_wsX11_monoidSize : ∀ w ∈ wsX11_monoidSize, w ∈ wsL_law := (fmC wm_31_14 (fmA (fmA (fmA (fmA (fmA (fmA (fmA (fmA sub_wsX11_monoidSize_r1 (fmA sub_wsX11_monoidSize_r2 (fmA sub_wsX11_monoidSize_r3 (fmA sub_wsX11_monoidSize_r4 (fmA sub_wsX11_monoidSize_r5 (fmA sub_wsX11_monoidSize_r6 (fmA sub_wsX11_monoidSize_r7 (fmA sub_wsX11_monoidSize_r8 sub_wsX11_monoidSize_r9)))))))) sub_wsX110) sub_wsX30) sub_wsX50) sub_wsX10) sub_wsX00) sub_wsX80) sub_wsX40))
set_option maxRecDepth 20000 in
theorem gL_law_X11_monoidSize : GoodIn wsL_law (wsV RL 108 RX11 yX11_monoidSize wsX11_monoidSize) := goodIn_app (goodIn_sub (fmC wm_31_11 (fmC wm_31_12 (fmC wm_31_13 (fmC wm_1_2 fmN)))) (by decide +kernel)) (goodIn_sub sub_wsX11_monoidSize (by decide +kernel))
set_option maxRecDepth 20000 in
theorem sub_wsX12_monoidSize_r1 : ∀ w ∈ wsX12_monoidSize_r1, w ∈ wsL_law := (fmC wm_30_14 (fmC wm_33_20 (fmC wm_7_22 (fmC wm_6_2 (fmC wm_7_21 (fmC wm_18_6 (fmC wm_18_7 (fmC wm_18_8 (fmC wm_1_5 (fmC wm_18_9 (fmC wm_8_22 (fmC wm_8_23 (fmC wm_9_0 (fmC wm_9_1 (fmC wm_26_19 (fmC wm_26_20 (fmC wm_26_21 (fmC wm_26_22 (fmC wm_26_23 (fmC wm_27_0 (fmC wm_6_7 (fmC wm_6_8 (fmC wm_6_9 (fmC wm_6_10 fmN))))))))))))))))))))))))
set_option maxRecDepth 20000 in
theorem sub_wsX12_monoidSize_r2 : ∀ w ∈ wsX12_monoidSize_r2, w ∈ wsL_law := (fmC wm_27_1 (fmC wm_27_2 (fmC wm_27_3 (fmC wm_27_4 (fmC wm_7_3 (fmC wm_7_4 (fmC wm_7_5 (fmC wm_7_6 (fmC wm_7_7 (fmC wm_27_5 (fmC wm_27_6 (fmC wm_27_7 (fmC wm_27_8 (fmC wm_26_18 (fmC wm_7_9 (fmC wm_7_10 (fmC wm_7_13 (fmC wm_7_14 (fmC wm_27_9 (fmC wm_27_10 (fmC wm_27_11 (fmC wm_27_12 (fmC wm_27_13 (fmC wm_27_14 fmN))))))))))))))))))))))))
set_option maxRecDepth 20000 in
theorem sub_wsX12_monoidSize_r3 : ∀ w ∈ wsX12_monoidSize_r3, w ∈ wsL_law := (fmC wm_27_15 (fmC wm_27_16 (fmC wm_27_17 (fmC wm_27_18 (fmC wm_27_19 (fmC wm_7_11 (fmC wm_7_12 (fmC wm_27_20 (fmC wm_27_21 (fmC wm_27_22 (fmC wm_27_23 (fmC wm_7_15 (fmC wm_7_16 (fmC wm_28_0 (fmC wm_28_1 (fmC wm_28_2 (fmC wm_28_3 (fmC wm_28_4 (fmC wm_28_5 (fmC wm_28_6 (fmC wm_28_7 (fmC wm_28_8 (fmC wm_28_9 (fmC wm_28_10 fmN))))))))))))))))))))))))
set_option maxRecDepth 20000 in
theorem sub_wsX12_monoidSize_r4 : ∀ w ∈ wsX12_monoidSize_r4, w ∈ wsL_law := (fmC wm_28_11 (fmC wm_28_12 (fmC wm_28_13 (fmC wm_28_14 (fmC wm_28_15 (fmC wm_7_8 (fmC wm_30_15 (fmC wm_30_16 (fmC wm_30_17 (fmC wm_30_18 (fmC wm_7_17 (fmC wm_30_19 (fmC wm_30_20 (fmC wm_30_21 (fmC wm_30_22 (fmC wm_30_23 (fmC wm_31_0 (fmC wm_31_1 (fmC wm_31_2 (fmC wm_31_3 (fmC wm_31_4 (fmC wm_31_5 (fmC wm_31_6 (fmC wm_31_7 fmN))))))))))))))))))))))))
set_option maxRecDepth 20000 in
theorem sub_wsX12_monoidSize_r5 : ∀ w ∈ wsX12_monoidSize_r5, w ∈ wsL_law := (fmC wm_31_8 (fmC wm_31_9 (fmC wm_31_10 (fmC wm_7_19 (fmC wm_7_18 (fmC wm_33_21 (fmC wm_33_22 (fmC wm_33_23 (fmC wm_34_0 (fmC wm_34_1 (fmC wm_34_2 (fmC wm_34_3 (fmC wm_34_4 (fmC wm_34_5 (fmC wm_34_6 (fmC wm_34_7 (fmC wm_34_8 fmN)))))))))))))))))
set_option maxRecDepth 20000 in
theorem sub_wsX12_monoidSize : ∀ w ∈ wsX12_monoidSize, w ∈ wsL_law := (fmC wm_33_19 (fmA (fmA sub_wsX12_monoidSize_r1 (fmA sub_wsX12_monoidSize_r2 (fmA sub_wsX12_monoidSize_r3 (fmA sub_wsX12_monoidSize_r4 sub_wsX12_monoidSize_r5)))) sub_wsX120))
set_option maxRecDepth 20000 in
theorem gL_law_X12_monoidSize : GoodIn wsL_law (wsV RL 111 RX12 yX12_monoidSize wsX12_monoidSize) := goodIn_app (goodIn_sub (fmC wm_33_16 (fmC wm_33_17 (fmC wm_33_18 (fmC wm_1_5 fmN)))) (by decide +kernel)) (goodIn_sub sub_wsX12_monoidSize (by decide +kernel))
set_option maxRecDepth 20000 in
theorem sub_wsX11_isGroup_r1 : ∀ w ∈ wsX11_isGroup_r1, w ∈ wsL_law := (fmC wm_2_14 (fmC wm_2_10 (fmC wm_17_18 (fmC wm_17_19 (fmC wm_17_20 (fmC wm_1_2 (fmC wm_17_21 (fmC wm_1_15 (fmC wm_15_15 (fmC wm_15_16 (fmC wm_25_6 (fmC wm_25_7 (fmC wm_25_8 (fmC wm_25_9 (fmC wm_8_11 (fmC wm_25_10 (fmC wm_18_22 (fmC wm_25_11 (fmC wm_25_12 (fmC wm_25_13 (fmC wm_2_9 (fmC wm_25_14 (fmC wm_4_12 (fmC wm_4_11 fmN))))))))))))))))))))))))
set_option maxRecDepth 20000 in
theorem sub_wsX11_isGroup_r2 : ∀ w ∈ wsX11_isGroup_r2, w ∈ wsL_law := (fmC wm_25_15 (fmC wm_4_13 (fmC wm_16_21 (fmC wm_16_22 (fmC wm_16_23 (fmC wm_3_5 (fmC wm_17_0 (fmC wm_3_14 (fmC wm_3_13 (fmC wm_25_16 (fmC wm_25_17 (fmC wm_25_18 (fmC wm_25_19 (fmC wm_4_21 (fmC wm_4_16 (fmC wm_4_17 (fmC wm_4_18 (fmC wm_4_14 (fmC wm_4_19 (fmC wm_4_20 (fmC wm_25_20 (fmC wm_13_5 (fmC wm_13_6 (fmC wm_13_7 fmN))))))))))))))))))))))))
set_option maxRecDepth 20000 in
theorem sub_wsX11_isGroup_r3 : ∀ w ∈ wsX11_isGroup_r3, w ∈ wsL_law := (fmC wm_25_21 (fmC wm_25_22 (fmC wm_25_23 (fmC wm_26_0 (fmC wm_26_1 (fmC wm_26_2 (fmC wm_26_3 (fmC wm_26_4 (fmC wm_26_5 (fmC wm_26_6 (fmC wm_26_7 (fmC wm_26_8 (fmC wm_22_2 (fmC wm_22_3 (fmC wm_22_4 (fmC wm_22_5 (fmC wm_22_6 (fmC wm_19_21 (fmC wm_19_22 (fmC wm_16_11 (fmC wm_19_23 (fmC wm_16_16 (fmC wm_16_19 (fmC wm_16_20 fmN))))))))))))))))))))))))
set_option maxRecDepth 20000 in
theorem sub_wsX11_isGroup_r4 : ∀ w ∈ wsX11_isGroup_r4, w ∈ wsL_law := (fmC wm_20_0 (fmC wm_20_1 (fmC wm_20_2 (fmC wm_20_3 (fmC wm_16_17 (fmC wm_20_4 (fmC wm_14_1 (fmC wm_14_2 (fmC wm_14_3 (fmC wm_26_9 (fmC wm_26_10 (fmC wm_26_11 (fmC wm_26_12 (fmC wm_4_15 (fmC wm_26_13 (fmC wm_22_17 (fmC wm_22_18 (fmC wm_22_19 (fmC wm_22_20 (fmC wm_20_6 (fmC wm_20_7 (fmC wm_20_8 (fmC wm_28_21 (fmC wm_28_22 fmN))))))))))))))))))))))))
set_option maxRecDepth 20000 in
theorem sub_wsX11_isGroup_r5 : ∀ w ∈ wsX11_isGroup_r5, w ∈ wsL_law := (fmC wm_28_23 (fmC wm_2_13 (fmC wm_29_0 (fmC wm_5_3 (fmC wm_5_8 (fmC wm_5_4 (fmC wm_5_7 (fmC wm_5_12 (fmC wm_29_1 (fmC wm_14_19 (fmC wm_14_20 (fmC wm_14_21 (fmC wm_29_2 (fmC wm_29_3 (fmC wm_29_4 (fmC wm_29_5 (fmC wm_29_6 (fmC wm_29_7 (fmC wm_29_8 (fmC wm_5_5 (fmC wm_5_6 (fmC wm_29_9 (fmC wm_29_10 (fmC wm_29_11 fmN))))))))))))))))))))))))
set_option maxRecDepth 20000 in
theorem sub_wsX11_isGroup_r6 : ∀ w ∈ wsX11_isGroup_r6, w ∈ wsL_law := (fmC wm_29_12 (fmC wm_5_9 (fmC wm_29_13 (fmC wm_29_14 (fmC wm_29_15 (fmC wm_29_16 (fmC wm_5_14 (fmC wm_29_17 (fmC wm_5_15 (fmC wm_29_18 (fmC wm_29_19 (fmC wm_29_20 (fmC wm_29_21 (fmC wm_29_22 (fmC wm_29_23 (fmC wm_30_0 (fmC wm_30_1 (fmC wm_5_10 (fmC wm_5_11 (fmC wm_30_2 (fmC wm_30_3 (fmC wm_30_4 (fmC wm_30_5 (fmC wm_30_6 fmN))))))))))))))))))))))))
set_option maxRecDepth 20000 in
theorem sub_wsX11_isGroup_r7 : ∀ w ∈ wsX11_isGroup_r7, w ∈ wsL_law := (fmC wm_30_7 (fmC wm_30_8 (fmC wm_30_9 (fmC wm_34_13 (fmC wm_34_14 (fmC wm_34_15 (fmC wm_34_16 (fmC wm_5_13 (fmC wm_34_17 (fmC wm_32_15 (fmC wm_32_16 (fmC wm_32_17 fmN))))))))))))
set_option maxRecDepth 20000 in
theorem sub_wsX11_isGroup : ∀ w ∈ wsX11_isGroup, w ∈ wsL_law := (fmC wm_34_12 (fmA (fmA (fmA (fmA (fmA (fmA (fmA sub_wsX11_isGroup_r1 (fmA sub_wsX11_isGroup_r2 (fmA sub_wsX11_isGroup_r3 (fmA sub_wsX11_isGroup_r4 (fmA sub_wsX11_isGroup_r5 (fmA sub_wsX11_isGroup_r6 sub_wsX11_isGroup_r7)))))) sub_wsX110) sub_wsX50) sub_wsX10) sub_wsX00) sub_wsX80) sub_wsX40))
set_option maxRecDepth 20000 in
theorem gL_law_X11_isGroup : GoodIn wsL_law (wsV RL 112 RX11 yX11_isGroup wsX11_isGroup) := goodIn_app (goodIn_sub (fmC wm_34_9 (fmC wm_34_10 (fmC wm_34_11 (fmC wm_1_2 fmN)))) (by decide +kernel)) (goodIn_sub sub_wsX11_isGroup (by decide +kernel))
set_option maxRecDepth 20000 in
theorem sub_wsX12_isGroup_r1 : ∀ w ∈ wsX12_isGroup_r1, w ∈ wsL_law := (fmC wm_6_2 (fmC wm_30_14 (fmC wm_7_18 (fmC wm_18_6 (fmC wm_18_7 (fmC wm_18_8 (fmC wm_1_5 (fmC wm_18_9 (fmC wm_8_22 (fmC wm_8_23 (fmC wm_9_0 (fmC wm_9_1 (fmC wm_26_19 (fmC wm_26_20 (fmC wm_26_21 (fmC wm_26_22 (fmC wm_26_23 (fmC wm_27_0 (fmC wm_6_7 (fmC wm_6_8 (fmC wm_6_9 (fmC wm_6_10 (fmC wm_27_1 (fmC wm_27_2 fmN))))))))))))))))))))))))
set_option maxRecDepth 20000 in
theorem sub_wsX12_isGroup_r2 : ∀ w ∈ wsX12_isGroup_r2, w ∈ wsL_law := (fmC wm_27_3 (fmC wm_27_4 (fmC wm_7_3 (fmC wm_7_4 (fmC wm_7_5 (fmC wm_7_6 (fmC wm_7_7 (fmC wm_27_5 (fmC wm_27_6 (fmC wm_27_7 (fmC wm_27_8 (fmC wm_26_18 (fmC wm_7_9 (fmC wm_7_10 (fmC wm_7_13 (fmC wm_7_14 (fmC wm_27_9 (fmC wm_27_10 (fmC wm_27_11 (fmC wm_27_12 (fmC wm_27_13 (fmC wm_27_14 (fmC wm_27_15 (fmC wm_27_16 fmN))))))))))))))))))))))))
set_option maxRecDepth 20000 in
theorem sub_wsX12_isGroup_r3 : ∀ w ∈ wsX12_isGroup_r3, w ∈ wsL_law := (fmC wm_27_17 (fmC wm_27_18 (fmC wm_27_19 (fmC wm_7_11 (fmC wm_7_12 (fmC wm_27_20 (fmC wm_27_21 (fmC wm_27_22 (fmC wm_27_23 (fmC wm_7_15 (fmC wm_7_16 (fmC wm_28_0 (fmC wm_28_1 (fmC wm_28_2 (fmC wm_28_3 (fmC wm_28_4 (fmC wm_28_5 (fmC wm_28_6 (fmC wm_28_7 (fmC wm_28_8 (fmC wm_28_9 (fmC wm_28_10 (fmC wm_28_11 (fmC wm_28_12 fmN))))))))))))))))))))))))
set_option maxRecDepth 20000 in
theorem sub_wsX12_isGroup_r4 : ∀ w ∈ wsX12_isGroup_r4, w ∈ wsL_law := (fmC wm_28_13 (fmC wm_28_14 (fmC wm_28_15 (fmC wm_7_8 (fmC wm_30_15 (fmC wm_30_16 (fmC wm_30_17 (fmC wm_30_18 (fmC wm_7_17 (fmC wm_30_19 (fmC wm_30_20 (fmC wm_30_21 (fmC wm_30_22 (fmC wm_30_23 (fmC wm_31_0 (fmC wm_31_1 (fmC wm_31_2 (fmC wm_31_3 (fmC wm_31_4 (fmC wm_31_5 (fmC wm_31_6 (fmC wm_31_7 (fmC wm_31_8 (fmC wm_31_9 fmN))))))))))))))))))))))))
set_option maxRecDepth 20000 in
theorem sub_wsX12_isGroup_r5 : ∀ w ∈ wsX12_isGroup_r5, w ∈ wsL_law := (fmC wm_31_10 (fmC wm_7_19 (fmC wm_34_1 (fmC wm_34_2 (fmC wm_34_3 (fmC wm_34_4 fmN))))))
set_option maxRecDepth 20000 in
theorem sub_wsX12_isGroup : ∀ w ∈ wsX12_isGroup, w ∈ wsL_law := (fmC wm_34_21 (fmA (fmA sub_wsX12_isGroup_r1 (fmA sub_wsX12_isGroup_r2 (fmA sub_wsX12_isGroup_r3 (fmA sub_wsX12_isGroup_r4 sub_wsX12_isGroup_r5)))) sub_wsX120))
set_option maxRecDepth 20000 in
theorem gL_law_X12_isGroup : GoodIn wsL_law (wsV RL 115 RX12 yX12_isGroup wsX12_isGroup) := goodIn_app (goodIn_sub (fmC wm_34_18 (fmC wm_34_19 (fmC wm_34_20 (fmC wm_1_5 fmN)))) (by decide +kernel)) (goodIn_sub sub_wsX12_isGroup (by decide +kernel))
set_option maxRecDepth 20000 in
theorem sub_wsX11_setBasic_r1 : ∀ w ∈ wsX11_setBasic_r1, w ∈ wsL_law := (fmC wm_1_15 (fmC wm_15_15 (fmC wm_18_22 (fmC wm_19_0 (fmC wm_35_2 (fmC wm_35_3 (fmC wm_35_4 (fmC wm_1_2 (fmC wm_35_5 (fmC wm_17_18 (fmC wm_17_19 (fmC wm_17_20 (fmC wm_17_21 (fmC wm_15_16 (fmC wm_35_6 (fmC wm_35_7 (fmC wm_35_8 (fmC wm_35_9 (fmC wm_35_10 (fmC wm_1_18 (fmC wm_35_11 (fmC wm_35_12 (fmC wm_35_13 (fmC wm_35_14 fmN))))))))))))))))))))))))
set_option maxRecDepth 20000 in
theorem sub_wsX11_setBasic_r2 : ∀ w ∈ wsX11_setBasic_r2, w ∈ wsL_law := (fmC wm_35_15 (fmC wm_35_16 (fmC wm_1_10 (fmC wm_1_11 (fmC wm_35_17 (fmC wm_35_18 (fmC wm_35_19 (fmC wm_35_20 (fmC wm_35_21 fmN)))))))))
set_option maxRecDepth 20000 in
theorem sub_wsX20 : ∀ w ∈ wsX20, w ∈ wsL_law := (fun w h => (List.mem_append_left _ (List.mem_append_right _ h)))
set_option maxRecDepth 20000 in
theorem sub_wsX11_setBasic : ∀ w ∈ wsX11_setBasic, w ∈ wsL_law := (fmC wm_35_1 (fmA (fmA (fmA (fmA (fmA (fmA sub_wsX11_setBasic_r1 sub_wsX11_setBasic_r2) sub_wsX110) sub_wsX50) sub_wsX10) sub_wsX80) sub_wsX20))
set_option maxRecDepth 20000 in
theorem gL_law_X11_setBasic : GoodIn wsL_law (wsV RL 116 RX11 yX11_setBasic wsX11_setBasic) := goodIn_app (goodIn_sub (fmC wm_34_22 (fmC wm_34_23 (fmC wm_35_0 (fmC wm_1_2 fmN)))) (by decide +kernel)) (goodIn_sub sub_wsX11_setBasic (by decide +kernel))
set_option maxRecDepth 20000 in
theorem sub_wsX12_setBasic_r1 : ∀ w ∈ wsX12_setBasic_r1, w ∈ wsL_law := (fmC wm_6_14 (fmC wm_6_15 (fmC wm_6_16 (fmC wm_6_17 (fmC wm_6_7 (fmC wm_6_18 (fmC wm_6_8 (fmC wm_6_19 (fmC wm_6_9 (fmC wm_6_20 (fmC wm_6_21 (fmC wm_6_10 (fmC wm_36_2 (fmC wm_36_3 (fmC wm_1_5 (fmC wm_36_4 (fmC wm_8_23 (fmC wm_9_0 (fmC wm_9_1 (fmC wm_18_6 (fmC wm_18_7 (fmC wm_18_8 (fmC wm_18_9 (fmC wm_8_22 fmN))))))))))))))))))))))))
set_option maxRecDepth 20000 in
theorem sub_wsX12_setBasic_r2 : ∀ w ∈ wsX12_setBasic_r2, w ∈ wsL_law := (fmC wm_19_6 (fmC wm_19_7 (fmC wm_19_8 (fmC wm_19_9 fmN))))
set_option maxRecDepth 20000 in
theorem sub_wsX12_setBasic : ∀ w ∈ wsX12_setBasic, w ∈ wsL_law := (fmC wm_36_1 (fmA (fmA sub_wsX12_setBasic_r1 sub_wsX12_setBasic_r2) sub_wsX120))
set_option maxRecDepth 20000 in
theorem gL_law_X12_setBasic : GoodIn wsL_law (wsV RL 120 RX12 yX12_setBasic wsX12_setBasic) := goodIn_app (goodIn_sub (fmC wm_35_22 (fmC wm_35_23 (fmC wm_36_0 (fmC wm_1_5 fmN)))) (by decide +kernel)) (goodIn_sub sub_wsX12_setBasic (by decide +kernel))
set_option maxRecDepth 20000 in
theorem sub_wsX11_complement_r1 : ∀ w ∈ wsX11_complement_r1, w ∈ wsL_law := (fmC wm_1_15 (fmC wm_35_2 (fmC wm_36_9 (fmC wm_35_3 (fmC wm_35_4 (fmC wm_1_2 (fmC wm_35_5 (fmC wm_36_10 (fmC wm_36_11 (fmC wm_35_8 (fmC wm_36_12 (fmC wm_35_11 (fmC wm_35_12 (fmC wm_35_20 (fmC wm_35_21 (fmC wm_35_19 (fmC wm_36_13 (fmC wm_36_14 (fmC wm_36_15 (fmC wm_36_16 (fmC wm_35_18 (fmC wm_35_13 (fmC wm_35_14 (fmC wm_35_15 fmN))))))))))))))))))))))))
set_option maxRecDepth 20000 in
theorem sub_wsX11_complement_r2 : ∀ w ∈ wsX11_complement_r2, w ∈ wsL_law := (fmC wm_35_16 (fmC wm_1_10 (fmC wm_1_11 (fmC wm_35_17 fmN))))
set_option maxRecDepth 20000 in
theorem sub_wsX11_complement : ∀ w ∈ wsX11_complement, w ∈ wsL_law := (fmC wm_36_8 (fmA (fmA (fmA (fmA sub_wsX11_complement_r1 sub_wsX11_complement_r2) sub_wsX110) sub_wsX50) sub_wsX20))
set_option maxRecDepth 20000 in
theorem gL_law_X11_complement : GoodIn wsL_law (wsV RL 121 RX11 yX11_complement wsX11_complement) := goodIn_app (goodIn_sub (fmC wm_36_5 (fmC wm_36_6 (fmC wm_36_7 (fmC wm_1_2 fmN)))) (by decide +kernel)) (goodIn_sub sub_wsX11_complement (by decide +kernel))
set_option maxRecDepth 20000 in
theorem sub_wsX12_complement_r1 : ∀ w ∈ wsX12_complement_r1, w ∈ wsL_law := (fmC wm_6_14 (fmC wm_36_21 (fmC wm_6_16 (fmC wm_36_2 (fmC wm_36_3 (fmC wm_1_5 (fmC wm_36_4 (fmC wm_8_23 (fmC wm_9_0 (fmC wm_9_1 (fmC wm_36_22 (fmC wm_36_23 (fmC wm_37_0 (fmC wm_37_1 (fmC wm_6_15 (fmC wm_6_22 (fmC wm_6_17 (fmC wm_6_23 (fmC wm_6_18 (fmC wm_7_0 (fmC wm_6_19 (fmC wm_7_1 (fmC wm_6_20 (fmC wm_7_2 fmN))))))))))))))))))))))))
set_option maxRecDepth 20000 in
theorem sub_wsX12_complement_r2 : ∀ w ∈ wsX12_complement_r2, w ∈ wsL_law := (fmC wm_6_21 (fmC wm_37_2 (fmC wm_37_3 (fmC wm_37_4 (fmC wm_37_5 fmN)))))
set_option maxRecDepth 20000 in
theorem sub_wsX12_complement : ∀ w ∈ wsX12_complement, w ∈ wsL_law := (fmC wm_36_20 (fmA (fmA sub_wsX12_complement_r1 sub_wsX12_complement_r2) sub_wsX120))
set_option maxRecDepth 20000 in
theorem gL_law_X12_complement : GoodIn wsL_law (wsV RL 124 RX12 yX12_complement wsX12_complement) := goodIn_app (goodIn_sub (fmC wm_36_17 (fmC wm_36_18 (fmC wm_36_19 (fmC wm_1_5 fmN)))) (by decide +kernel)) (goodIn_sub sub_wsX12_complement (by decide +kernel))
set_option maxRecDepth 20000 in
theorem sub_wsX11_intersect_r1 : ∀ w ∈ wsX11_intersect_r1, w ∈ wsL_law := (fmC wm_37_10 (fmC wm_37_11 (fmC wm_37_12 (fmC wm_1_2 (fmC wm_37_13 (fmC wm_1_15 (fmC wm_35_2 (fmC wm_36_9 (fmC wm_35_3 (fmC wm_35_4 (fmC wm_35_5 (fmC wm_37_14 (fmC wm_37_15 (fmC wm_35_8 (fmC wm_37_16 (fmC wm_35_18 (fmC wm_35_10 (fmC wm_35_20 (fmC wm_37_17 (fmC wm_14_19 (fmC wm_14_20 (fmC wm_14_21 (fmC wm_1_18 (fmC wm_35_21 fmN))))))))))))))))))))))))
set_option maxRecDepth 20000 in
theorem sub_wsX11_intersect_r2 : ∀ w ∈ wsX11_intersect_r2, w ∈ wsL_law := (fmC wm_35_11 (fmC wm_35_12 (fmC wm_37_18 (fmC wm_37_19 (fmC wm_37_20 (fmC wm_36_13 (fmC wm_36_14 (fmC wm_36_15 (fmC wm_36_16 (fmC wm_37_21 (fmC wm_37_22 (fmC wm_37_23 (fmC wm_38_0 (fmC wm_35_19 (fmC wm_35_13 (fmC wm_35_14 (fmC wm_35_15 (fmC wm_35_16 (fmC wm_1_10 (fmC wm_1_11 (fmC wm_35_17 fmN)))))))))))))))))))))
set_option maxRecDepth 20000 in
theorem sub_wsX11_intersect : ∀ w ∈ wsX11_intersect, w ∈ wsL_law := (fmC wm_37_9 (fmA (fmA (fmA (fmA sub_wsX11_intersect_r1 sub_wsX11_intersect_r2) sub_wsX110) sub_wsX50) sub_wsX20))
set_option maxRecDepth 20000 in
theorem gL_law_X11_intersect : GoodIn wsL_law (wsV RL 125 RX11 yX11_intersect wsX11_intersect) := goodIn_app (goodIn_sub (fmC wm_37_6 (fmC wm_37_7 (fmC wm_37_8 (fmC wm_1_2 fmN)))) (by decide +kernel)) (goodIn_sub sub_wsX11_intersect (by decide +kernel))
set_option maxRecDepth 20000 in
theorem sub_wsX12_intersect_r1 : ∀ w ∈ wsX12_intersect_r1, w ∈ wsL_law := (fmC wm_38_5 (fmC wm_38_6 (fmC wm_38_7 (fmC wm_1_5 (fmC wm_38_8 (fmC wm_6_14 (fmC wm_6_15 (fmC wm_6_16 (fmC wm_36_21 (fmC wm_36_2 (fmC wm_36_3 (fmC wm_36_4 (fmC wm_8_23 (fmC wm_9_0 (fmC wm_9_1 (fmC wm_36_22 (fmC wm_36_23 (fmC wm_37_0 (fmC wm_37_1 (fmC wm_6_22 (fmC wm_6_17 (fmC wm_6_23 (fmC wm_6_18 (fmC wm_7_0 fmN))))))))))))))))))))))))
set_option maxRecDepth 20000 in
theorem sub_wsX12_intersect_r2 : ∀ w ∈ wsX12_intersect_r2, w ∈ wsL_law := (fmC wm_6_19 (fmC wm_7_1 (fmC wm_6_20 (fmC wm_7_2 (fmC wm_6_21 (fmC wm_37_2 (fmC wm_37_3 (fmC wm_37_4 (fmC wm_37_5 fmN)))))))))
set_option maxRecDepth 20000 in
theorem sub_wsX12_intersect : ∀ w ∈ wsX12_intersect, w ∈ wsL_law := (fmC wm_38_4 (fmA (fmA sub_wsX12_intersect_r1 sub_wsX12_intersect_r2) sub_wsX120))
set_option maxRecDepth 20000 in
theorem gL_law_X12_intersect : GoodIn wsL_law (wsV RL 128 RX12 yX12_intersect wsX12_intersect) := goodIn_app (goodIn_sub (fmC wm_38_1 (fmC wm_38_2 (fmC wm_38_3 (fmC wm_1_5 fmN)))) (by decide +kernel)) (goodIn_sub sub_wsX12_intersect (by decide +kernel))
set_option maxRecDepth 20000 in
theorem sub_wsX11_unite_r1 : ∀ w ∈ wsX11_unite_r1, w ∈ wsL_law := (fmC wm_37_10 (fmC wm_37_11 (fmC wm_37_12 (fmC wm_1_2 (fmC wm_37_13 (fmC wm_1_15 (fmC wm_35_2 (fmC wm_36_9 (fmC wm_35_3 (fmC wm_35_4 (fmC wm_35_5 (fmC wm_37_14 (fmC wm_37_15 (fmC wm_35_8 (fmC wm_37_16 (fmC wm_35_18 (fmC wm_35_10 (fmC wm_35_20 (fmC wm_37_17 (fmC wm_14_19 (fmC wm_14_20 (fmC wm_14_21 (fmC wm_1_18 (fmC wm_35_21 fmN))))))))))))))))))))))))
set_option maxRecDepth 20000 in
theorem sub_wsX11_unite_r2 : ∀ w ∈ wsX11_unite_r2, w ∈ wsL_law := (fmC wm_35_11 (fmC wm_35_12 (fmC wm_37_18 (fmC wm_37_19 (fmC wm_37_20 (fmC wm_36_13 (fmC wm_36_14 (fmC wm_36_15 (fmC wm_36_16 (fmC wm_37_21 (fmC wm_37_22 (fmC wm_37_23 (fmC wm_38_0 (fmC wm_35_19 (fmC wm_35_13 (fmC wm_35_14 (fmC wm_35_15 (fmC wm_35_16 (fmC wm_1_10 (fmC wm_1_11 (fmC wm_35_17 fmN)))))))))))))))))))))
set_option maxRecDepth 20000 in
theorem sub_wsX11_unite : ∀ w ∈ wsX11_unite, w ∈ wsL_law := (fmC wm_38_12 (fmA (fmA (fmA (fmA sub_wsX11_unite_r1 sub_wsX11_unite_r2) sub_wsX110) sub_wsX50) sub_wsX20))
set_option maxRecDepth 20000 in
theorem gL_law_X11_unite : GoodIn wsL_law (wsV RL 129 RX11 yX11_unite wsX11_unite) := goodIn_app (goodIn_sub (fmC wm_38_9 (fmC wm_38_10 (fmC wm_38_11 (fmC wm_1_2 fmN)))) (by decide +kernel)) (goodIn_sub sub_wsX11_unite (by decide +kernel))
set_option maxRecDepth 20000 in
theorem sub_wsX12_unite_r1 : ∀ w ∈ wsX12_unite_r1, w ∈ wsL_law := (fmC wm_38_5 (fmC wm_38_6 (fmC wm_38_7 (fmC wm_1_5 (fmC wm_38_8 (fmC wm_6_14 (fmC wm_6_15 (fmC wm_6_16 (fmC wm_36_21 (fmC wm_36_2 (fmC wm_36_3 (fmC wm_36_4 (fmC wm_8_23 (fmC wm_9_0 (fmC wm_9_1 (fmC wm_36_22 (fmC wm_36_23 (fmC wm_37_0 (fmC wm_37_1 (fmC wm_6_22 (fmC wm_6_17 (fmC wm_6_23 (fmC wm_6_18 (fmC wm_7_0 fmN))))))))))))))))))))))))
set_option maxRecDepth 20000 in
theorem sub_wsX12_unite_r2 : ∀ w ∈ wsX12_unite_r2, w ∈ wsL_law := (fmC wm_6_19 (fmC wm_7_1 (fmC wm_6_20 (fmC wm_7_2 (fmC wm_6_21 (fmC wm_37_2 (fmC wm_37_3 (fmC wm_37_4 (fmC wm_37_5 fmN)))))))))
set_option maxRecDepth 20000 in
theorem sub_wsX12_unite : ∀ w ∈ wsX12_unite, w ∈ wsL_law := (fmC wm_38_16 (fmA (fmA sub_wsX12_unite_r1 sub_wsX12_unite_r2) sub_wsX120))
set_option maxRecDepth 20000 in
theorem gL_law_X12_unite : GoodIn wsL_law (wsV RL 132 RX12 yX12_unite wsX12_unite) := goodIn_app (goodIn_sub (fmC wm_38_13 (fmC wm_38_14 (fmC wm_38_15 (fmC wm_1_5 fmN)))) (by decide +kernel)) (goodIn_sub sub_wsX12_unite (by decide +kernel))
set_option maxRecDepth 20000 in
theorem sub_wsX11_clearLanguage : ∀ w ∈ wsX11_clearLanguage, w ∈ wsL_law := (fmC wm_38_20 (fmA (fmA (fmC wm_1_15 (fmC wm_35_2 (fmC wm_35_3 (fmC wm_35_4 (fmC wm_1_2 (fmC wm_35_5 fmN)))))) sub_wsX110) sub_wsX50))
set_option maxRecDepth 20000 in
theorem gL_law_X11_clearLanguage : GoodIn wsL_law (wsV RL 133 RX11 yX11_clearLanguage wsX11_clearLanguage) := goodIn_app (goodIn_sub (fmC wm_38_17 (fmC wm_38_18 (fmC wm_38_19 (fmC wm_1_2 fmN)))) (by decide +kernel)) (goodIn_sub sub_wsX11_clearLanguage (by decide +kernel))
set_option maxRecDepth 20000 in
theorem sub_wsX12_clearLanguage : ∀ w ∈ wsX12_clearLanguage, w ∈ wsL_law := (fmC wm_39_0 (fmA (fmC wm_6_14 (fmC wm_36_2 (fmC wm_36_3 (fmC wm_1_5 (fmC wm_36_4 (fmC wm_8_23 (fmC wm_9_0 (fmC wm_9_1 fmN)))))))) sub_wsX120))
set_option maxRecDepth 20000 in
theorem gL_law_X12_clearLanguage : GoodIn wsL_law (wsV RL 136 RX12 yX12_clearLanguage wsX12_clearLanguage) := goodIn_app (goodIn_sub (fmC wm_38_21 (fmC wm_38_22 (fmC wm_38_23 (fmC wm_1_5 fmN)))) (by decide +kernel)) (goodIn_sub sub_wsX12_clearLanguage (by decide +kernel))
set_option maxRecDepth 20000 in
theorem sub_wsX11_form : ∀ w ∈ wsX11_form, w ∈ wsL_law := (fmC wm_39_4 (fmA (fmA (fmA (fmC wm_1_15 (fmC wm_35_2 (fmC wm_39_5 (fmC wm_35_3 (fmC wm_35_4 (fmC wm_1_2 (fmC wm_35_5 fmN))))))) sub_wsX110) sub_wsX50) sub_wsX20))
set_option maxRecDepth 20000 in
theorem gL_law_X11_form : GoodIn wsL_law (wsV RL 137 RX11 yX11_form wsX11_form) := goodIn_app (goodIn_sub (fmC wm_39_1 (fmC wm_39_2 (fmC wm_39_3 (fmC wm_1_2 fmN)))) (by decide +kernel)) (goodIn_sub sub_wsX11_form (by decide +kernel))
set_option maxRecDepth 20000 in
theorem sub_wsX12_form : ∀ w ∈ wsX12_form, w ∈ wsL_law := (fmC wm_39_9 (fmA (fmC wm_6_14 (fmC wm_36_2 (fmC wm_36_3 (fmC wm_1_5 (fmC wm_36_4 (fmC wm_8_23 (fmC wm_9_0 (fmC wm_9_1 fmN)))))))) sub_wsX120))
set_option maxRecDepth 20000 in
theorem gL_law_X12_form : GoodIn wsL_law (wsV RL 140 RX12 yX12_form wsX12_form) := goodIn_app (goodIn_sub (fmC wm_39_6 (fmC wm_39_7 (fmC wm_39_8 (fmC wm_1_5 fmN)))) (by decide +kernel)) (goodIn_sub sub_wsX12_form (by decide +kernel))
set_option maxRecDepth 20000 in
theorem sub_wsX11_contains_r1 : ∀ w ∈ wsX11_contains_r1, w ∈ wsL_law := (fmC wm_1_15 (fmC wm_35_2 (fmC wm_9_14 (fmC wm_35_3 (fmC wm_35_4 (fmC wm_1_2 (fmC wm_35_5 (fmC wm_9_16 (fmC wm_9_17 (fmC wm_9_18 (fmC wm_39_14 (fmC wm_39_15 (fmC wm_39_16 (fmC wm_35_8 (fmC wm_39_17 (fmC wm_35_18 (fmC wm_35_20 (fmC wm_35_21 (fmC wm_39_18 (fmC wm_19_15 (fmC wm_19_16 (fmC wm_16_11 (fmC wm_19_17 (fmC wm_19_18 fmN))))))))))))))))))))))))
set_option maxRecDepth 20000 in
theorem sub_wsX11_contains_r2 : ∀ w ∈ wsX11_contains_r2, w ∈ wsL_law := (fmC wm_19_19 (fmC wm_19_20 (fmC wm_19_21 (fmC wm_19_22 (fmC wm_19_23 (fmC wm_16_16 (fmC wm_16_19 (fmC wm_16_20 (fmC wm_20_0 (fmC wm_20_1 (fmC wm_20_2 (fmC wm_20_3 (fmC wm_16_17 (fmC wm_20_4 (fmC wm_14_1 (fmC wm_14_2 (fmC wm_14_3 (fmC wm_20_5 (fmC wm_20_6 (fmC wm_20_7 (fmC wm_20_8 (fmC wm_37_21 (fmC wm_37_22 (fmC wm_37_23 fmN))))))))))))))))))))))))
set_option maxRecDepth 20000 in
theorem sub_wsX11_contains_r3 : ∀ w ∈ wsX11_contains_r3, w ∈ wsL_law := (fmC wm_38_0 (fmC wm_35_19 fmN))
set_option maxRecDepth 20000 in
theorem sub_wsX11_contains : ∀ w ∈ wsX11_contains, w ∈ wsL_law := (fmC wm_39_13 (fmA (fmA (fmA (fmA (fmA (fmA sub_wsX11_contains_r1 (fmA sub_wsX11_contains_r2 sub_wsX11_contains_r3)) sub_wsX110) sub_wsX50) sub_wsX20) sub_wsX90) sub_wsX80))
set_option maxRecDepth 20000 in
theorem gL_law_X11_contains : GoodIn wsL_law (wsV RL 141 RX11 yX11_contains wsX11_contains) := goodIn_app (goodIn_sub (fmC wm_39_10 (fmC wm_39_11 (fmC wm_39_12 (fmC wm_1_2 fmN)))) (by decide +kernel)) (goodIn_sub sub_wsX11_contains (by decide +kernel))
set_option maxRecDepth 20000 in
theorem sub_wsX12_contains_r1 : ∀ w ∈ wsX12_contains_r1, w ∈ wsL_law := (fmC wm_6_14 (fmC wm_6_15 (fmC wm_6_17 (fmC wm_6_18 (fmC wm_6_21 (fmC wm_6_19 (fmC wm_6_20 (fmC wm_6_16 (fmC wm_36_2 (fmC wm_36_3 (fmC wm_1_5 (fmC wm_36_4 (fmC wm_8_23 (fmC wm_9_0 (fmC wm_9_1 (fmC wm_10_3 (fmC wm_10_4 (fmC wm_10_5 (fmC wm_20_17 (fmC wm_20_18 (fmC wm_20_19 (fmC wm_20_20 (fmC wm_6_3 (fmC wm_13_12 fmN))))))))))))))))))))))))
set_option maxRecDepth 20000 in
theorem sub_wsX12_contains_r2 : ∀ w ∈ wsX12_contains_r2, w ∈ wsL_law := (fmC wm_13_13 (fmC wm_13_14 (fmC wm_13_15 (fmC wm_6_5 (fmC wm_6_4 fmN)))))
set_option maxRecDepth 20000 in
theorem sub_wsX12_contains : ∀ w ∈ wsX12_contains, w ∈ wsL_law := (fmC wm_39_22 (fmA (fmA sub_wsX12_contains_r1 sub_wsX12_contains_r2) sub_wsX120))
set_option maxRecDepth 20000 in
theorem gL_law_X12_contains : GoodIn wsL_law (wsV RL 144 RX12 yX12_contains wsX12_contains) := goodIn_app (goodIn_sub (fmC wm_39_19 (fmC wm_39_20 (fmC wm_39_21 (fmC wm_1_5 fmN)))) (by decide +kernel)) (goodIn_sub sub_wsX12_contains (by decide +kernel))
set_option maxRecDepth 20000 in
theorem sub_wsX11_languageStates_r1 : ∀ w ∈ wsX11_languageStates_r1, w ∈ wsL_law := (fmC wm_1_15 (fmC wm_35_2 (fmC wm_2_14 (fmC wm_2_10 (fmC wm_28_20 (fmC wm_35_3 (fmC wm_35_4 (fmC wm_1_2 (fmC wm_35_5 (fmC wm_40_3 (fmC wm_40_4 (fmC wm_40_5 (fmC wm_40_6 (fmC wm_8_11 (fmC wm_25_10 (fmC wm_25_11 (fmC wm_25_12 (fmC wm_25_13 (fmC wm_2_9 (fmC wm_25_14 (fmC wm_4_12 (fmC wm_4_11 (fmC wm_25_15 (fmC wm_4_13 fmN))))))))))))))))))))))))
set_option maxRecDepth 20000 in
theorem sub_wsX11_languageStates_r2 : ∀ w ∈ wsX11_languageStates_r2, w ∈ wsL_law := (fmC wm_40_7 (fmC wm_40_8 (fmC wm_40_9 (fmC wm_35_8 (fmC wm_40_10 (fmC wm_35_18 (fmC wm_35_20 (fmC wm_40_11 (fmC wm_16_22 (fmC wm_16_23 (fmC wm_3_5 (fmC wm_17_0 (fmC wm_3_14 (fmC wm_3_13 (fmC wm_25_16 (fmC wm_25_17 (fmC wm_25_18 (fmC wm_25_19 (fmC wm_4_21 (fmC wm_4_16 (fmC wm_4_17 (fmC wm_4_18 (fmC wm_4_14 (fmC wm_4_19 fmN))))))))))))))))))))))))
set_option maxRecDepth 20000 in
theorem sub_wsX11_languageStates_r3 : ∀ w ∈ wsX11_languageStates_r3, w ∈ wsL_law := (fmC wm_4_20 (fmC wm_25_20 (fmC wm_13_5 (fmC wm_13_6 (fmC wm_13_7 (fmC wm_25_21 (fmC wm_25_22 (fmC wm_25_23 (fmC wm_26_0 (fmC wm_26_1 (fmC wm_26_2 (fmC wm_26_3 (fmC wm_26_4 (fmC wm_26_5 (fmC wm_26_6 (fmC wm_26_7 (fmC wm_26_8 (fmC wm_22_2 (fmC wm_22_3 (fmC wm_22_4 (fmC wm_22_5 (fmC wm_22_6 (fmC wm_19_21 (fmC wm_19_22 fmN))))))))))))))))))))))))
set_option maxRecDepth 20000 in
theorem sub_wsX11_languageStates_r4 : ∀ w ∈ wsX11_languageStates_r4, w ∈ wsL_law := (fmC wm_16_11 (fmC wm_19_23 (fmC wm_16_16 (fmC wm_16_19 (fmC wm_16_20 (fmC wm_20_0 (fmC wm_20_1 (fmC wm_20_2 (fmC wm_20_3 (fmC wm_16_17 (fmC wm_20_4 (fmC wm_14_1 (fmC wm_14_2 (fmC wm_14_3 (fmC wm_40_12 (fmC wm_40_13 (fmC wm_40_14 (fmC wm_40_15 (fmC wm_4_15 (fmC wm_40_16 (fmC wm_40_17 (fmC wm_40_18 (fmC wm_40_19 (fmC wm_35_21 fmN))))))))))))))))))))))))
set_option maxRecDepth 20000 in
theorem sub_wsX11_languageStates_r5 : ∀ w ∈ wsX11_languageStates_r5, w ∈ wsL_law := (fmC wm_40_20 (fmC wm_22_17 (fmC wm_22_18 (fmC wm_22_19 (fmC wm_22_20 (fmC wm_20_6 (fmC wm_20_7 (fmC wm_20_8 (fmC wm_37_21 (fmC wm_37_22 (fmC wm_37_23 (fmC wm_38_0 (fmC wm_35_19 (fmC wm_28_21 (fmC wm_28_22 (fmC wm_28_23 (fmC wm_2_13 (fmC wm_29_0 (fmC wm_5_3 (fmC wm_5_8 (fmC wm_5_4 (fmC wm_5_7 (fmC wm_5_12 (fmC wm_29_1 fmN))))))))))))))))))))))))
set_option maxRecDepth 20000 in
theorem sub_wsX11_languageStates_r6 : ∀ w ∈ wsX11_languageStates_r6, w ∈ wsL_law := (fmC wm_14_19 (fmC wm_14_20 (fmC wm_14_21 (fmC wm_29_2 (fmC wm_29_3 (fmC wm_29_4 (fmC wm_29_5 (fmC wm_29_6 (fmC wm_29_7 (fmC wm_29_8 (fmC wm_5_5 (fmC wm_5_6 (fmC wm_29_9 (fmC wm_29_10 (fmC wm_29_11 (fmC wm_29_12 (fmC wm_5_9 (fmC wm_29_13 (fmC wm_29_14 (fmC wm_29_15 (fmC wm_29_16 (fmC wm_5_14 (fmC wm_29_17 (fmC wm_5_15 fmN))))))))))))))))))))))))
set_option maxRecDepth 20000 in
theorem sub_wsX11_languageStates_r7 : ∀ w ∈ wsX11_languageStates_r7, w ∈ wsL_law := (fmC wm_29_18 (fmC wm_29_19 (fmC wm_29_20 (fmC wm_29_21 (fmC wm_29_22 (fmC wm_29_23 (fmC wm_30_0 (fmC wm_30_1 (fmC wm_5_10 (fmC wm_5_11 (fmC wm_30_2 (fmC wm_30_3 (fmC wm_30_4 (fmC wm_30_5 (fmC wm_30_6 (fmC wm_30_7 (fmC wm_30_8 (fmC wm_30_9 fmN))))))))))))))))))
set_option maxRecDepth 20000 in
theorem sub_wsX11_languageStates : ∀ w ∈ wsX11_languageStates, w ∈ wsL_law := (fmC wm_40_2 (fmA (fmA (fmA (fmA (fmA (fmA (fmA (fmA sub_wsX11_languageStates_r1 (fmA sub_wsX11_languageStates_r2 (fmA sub_wsX11_languageStates_r3 (fmA sub_wsX11_languageStates_r4 (fmA sub_wsX11_languageStates_r5 (fmA sub_wsX11_languageStates_r6 sub_wsX11_languageStates_r7)))))) sub_wsX110) sub_wsX50) sub_wsX40) sub_wsX00) sub_wsX10) sub_wsX20) sub_wsX80))
set_option maxRecDepth 20000 in
theorem gL_law_X11_languageStates : GoodIn wsL_law (wsV RL 145 RX11 yX11_languageStates wsX11_languageStates) := goodIn_app (goodIn_sub (fmC wm_39_23 (fmC wm_40_0 (fmC wm_40_1 (fmC wm_1_2 fmN)))) (by decide +kernel)) (goodIn_sub sub_wsX11_languageStates (by decide +kernel))
set_option maxRecDepth 20000 in
theorem sub_wsX12_languageStates_r1 : ∀ w ∈ wsX12_languageStates_r1, w ∈ wsL_law := (fmC wm_30_14 (fmC wm_41_1 (fmC wm_41_2 (fmC wm_41_3 (fmC wm_1_5 (fmC wm_41_4 (fmC wm_6_14 (fmC wm_36_2 (fmC wm_36_3 (fmC wm_36_4 (fmC wm_8_23 (fmC wm_9_0 (fmC wm_9_1 (fmC wm_41_5 (fmC wm_41_6 (fmC wm_41_7 (fmC wm_41_8 (fmC wm_26_23 (fmC wm_27_0 (fmC wm_31_0 (fmC wm_6_16 (fmC wm_30_23 (fmC wm_41_9 (fmC wm_41_10 fmN))))))))))))))))))))))))
set_option maxRecDepth 20000 in
theorem sub_wsX12_languageStates_r2 : ∀ w ∈ wsX12_languageStates_r2, w ∈ wsL_law := (fmC wm_41_11 (fmC wm_41_12 (fmC wm_6_15 (fmC wm_6_17 (fmC wm_6_18 (fmC wm_6_19 (fmC wm_6_20 (fmC wm_6_21 (fmC wm_27_1 (fmC wm_27_2 (fmC wm_27_3 (fmC wm_27_4 (fmC wm_7_3 (fmC wm_7_4 (fmC wm_7_5 (fmC wm_7_6 (fmC wm_7_7 (fmC wm_27_5 (fmC wm_27_6 (fmC wm_27_7 (fmC wm_27_8 (fmC wm_26_18 (fmC wm_6_2 (fmC wm_7_9 fmN))))))))))))))))))))))))
set_option maxRecDepth 20000 in
theorem sub_wsX12_languageStates_r3 : ∀ w ∈ wsX12_languageStates_r3, w ∈ wsL_law := (fmC wm_7_10 (fmC wm_7_13 (fmC wm_7_14 (fmC wm_27_9 (fmC wm_27_10 (fmC wm_27_11 (fmC wm_27_12 (fmC wm_27_13 (fmC wm_27_14 (fmC wm_27_15 (fmC wm_27_16 (fmC wm_27_17 (fmC wm_27_18 (fmC wm_27_19 (fmC wm_7_11 (fmC wm_7_12 (fmC wm_27_20 (fmC wm_27_21 (fmC wm_27_22 (fmC wm_27_23 (fmC wm_7_15 (fmC wm_7_16 (fmC wm_28_0 (fmC wm_28_1 fmN))))))))))))))))))))))))
set_option maxRecDepth 20000 in
theorem sub_wsX12_languageStates_r4 : ∀ w ∈ wsX12_languageStates_r4, w ∈ wsL_law := (fmC wm_28_2 (fmC wm_28_3 (fmC wm_28_4 (fmC wm_28_5 (fmC wm_28_6 (fmC wm_28_7 (fmC wm_28_8 (fmC wm_28_9 (fmC wm_28_10 (fmC wm_28_11 (fmC wm_28_12 (fmC wm_28_13 (fmC wm_28_14 (fmC wm_28_15 (fmC wm_7_8 (fmC wm_30_15 (fmC wm_30_16 (fmC wm_30_17 (fmC wm_30_18 (fmC wm_7_17 (fmC wm_30_19 (fmC wm_30_20 (fmC wm_30_21 (fmC wm_30_22 fmN))))))))))))))))))))))))
set_option maxRecDepth 20000 in
theorem sub_wsX12_languageStates_r5 : ∀ w ∈ wsX12_languageStates_r5, w ∈ wsL_law := (fmC wm_31_1 (fmC wm_31_2 (fmC wm_31_3 (fmC wm_31_4 (fmC wm_31_5 (fmC wm_31_6 (fmC wm_31_7 (fmC wm_31_8 (fmC wm_31_9 (fmC wm_31_10 (fmC wm_7_19 (fmC wm_7_18 fmN))))))))))))
set_option maxRecDepth 20000 in
theorem sub_wsX12_languageStates : ∀ w ∈ wsX12_languageStates, w ∈ wsL_law := (fmC wm_41_0 (fmA (fmA sub_wsX12_languageStates_r1 (fmA sub_wsX12_languageStates_r2 (fmA sub_wsX12_languageStates_r3 (fmA sub_wsX12_languageStates_r4 sub_wsX12_languageStates_r5)))) sub_wsX120))
set_option maxRecDepth 20000 in
theorem gL_law_X12_languageStates : GoodIn wsL_law (wsV RL 148 RX12 yX12_languageStates wsX12_languageStates) := goodIn_app (goodIn_sub (fmC wm_40_21 (fmC wm_40_22 (fmC wm_40_23 (fmC wm_1_5 fmN)))) (by decide +kernel)) (goodIn_sub sub_wsX12_languageStates (by decide +kernel))
set_option maxRecDepth 20000 in
theorem sub_wsX11_countWords_r1 : ∀ w ∈ wsX11_countWords_r1, w ∈ wsL_law := (fmC wm_41_17 (fmC wm_1_15 (fmC wm_35_2 (fmC wm_41_18 (fmC wm_41_19 (fmC wm_2_10 (fmC wm_2_17 (fmC wm_35_3 (fmC wm_35_4 (fmC wm_1_2 (fmC wm_35_5 (fmC wm_40_3 (fmC wm_40_4 (fmC wm_40_5 (fmC wm_40_6 (fmC wm_8_11 (fmC wm_25_10 (fmC wm_25_11 (fmC wm_25_12 (fmC wm_25_13 (fmC wm_2_9 (fmC wm_25_14 (fmC wm_4_12 (fmC wm_4_11 fmN))))))))))))))))))))))))
set_option maxRecDepth 20000 in
theorem sub_wsX11_countWords_r2 : ∀ w ∈ wsX11_countWords_r2, w ∈ wsL_law := (fmC wm_25_15 (fmC wm_4_13 (fmC wm_40_7 (fmC wm_40_8 (fmC wm_40_9 (fmC wm_35_8 (fmC wm_40_10 (fmC wm_35_18 (fmC wm_35_20 (fmC wm_40_11 (fmC wm_16_22 (fmC wm_16_23 (fmC wm_3_5 (fmC wm_17_0 (fmC wm_3_14 (fmC wm_3_13 (fmC wm_25_16 (fmC wm_25_17 (fmC wm_25_18 (fmC wm_25_19 (fmC wm_4_21 (fmC wm_4_16 (fmC wm_4_17 (fmC wm_4_18 fmN))))))))))))))))))))))))
set_option maxRecDepth 20000 in
theorem sub_wsX11_countWords_r3 : ∀ w ∈ wsX11_countWords_r3, w ∈ wsL_law := (fmC wm_4_14 (fmC wm_4_19 (fmC wm_4_20 (fmC wm_25_20 (fmC wm_13_5 (fmC wm_13_6 (fmC wm_13_7 (fmC wm_25_21 (fmC wm_25_22 (fmC wm_25_23 (fmC wm_26_0 (fmC wm_26_1 (fmC wm_26_2 (fmC wm_26_3 (fmC wm_26_4 (fmC wm_26_5 (fmC wm_26_6 (fmC wm_26_7 (fmC wm_26_8 (fmC wm_22_2 (fmC wm_22_3 (fmC wm_22_4 (fmC wm_22_5 (fmC wm_22_6 fmN))))))))))))))))))))))))
set_option maxRecDepth 20000 in
theorem sub_wsX11_countWords_r4 : ∀ w ∈ wsX11_countWords_r4, w ∈ wsL_law := (fmC wm_19_21 (fmC wm_19_22 (fmC wm_16_11 (fmC wm_19_23 (fmC wm_16_16 (fmC wm_16_19 (fmC wm_16_20 (fmC wm_20_0 (fmC wm_20_1 (fmC wm_20_2 (fmC wm_20_3 (fmC wm_16_17 (fmC wm_20_4 (fmC wm_14_1 (fmC wm_14_2 (fmC wm_14_3 (fmC wm_40_12 (fmC wm_40_13 (fmC wm_40_14 (fmC wm_40_15 (fmC wm_4_15 (fmC wm_40_16 (fmC wm_40_17 (fmC wm_40_18 fmN))))))))))))))))))))))))
set_option maxRecDepth 20000 in
theorem sub_wsX11_countWords_r5 : ∀ w ∈ wsX11_countWords_r5, w ∈ wsL_law := (fmC wm_40_19 (fmC wm_35_21 (fmC wm_40_20 (fmC wm_22_17 (fmC wm_22_18 (fmC wm_22_19 (fmC wm_22_20 (fmC wm_20_6 (fmC wm_20_7 (fmC wm_20_8 (fmC wm_37_21 (fmC wm_37_22 (fmC wm_37_23 (fmC wm_38_0 (fmC wm_35_19 (fmC wm_41_20 (fmC wm_41_21 (fmC wm_41_22 (fmC wm_41_23 (fmC wm_4_22 (fmC wm_42_0 (fmC wm_42_1 (fmC wm_42_2 (fmC wm_42_3 fmN))))))))))))))))))))))))
set_option maxRecDepth 20000 in
theorem sub_wsX11_countWords_r6 : ∀ w ∈ wsX11_countWords_r6, w ∈ wsL_law := (fmC wm_42_4 (fmC wm_42_5 (fmC wm_42_6 (fmC wm_42_7 (fmC wm_42_8 (fmC wm_42_9 (fmC wm_42_10 (fmC wm_42_11 (fmC wm_4_23 (fmC wm_42_12 (fmC wm_14_19 (fmC wm_14_20 (fmC wm_14_21 fmN)))))))))))))
set_option maxRecDepth 20000 in
theorem sub_wsX11_countWords : ∀ w ∈ wsX11_countWords, w ∈ wsL_law := (fmC wm_41_16 (fmA (fmA (fmA (fmA (fmA (fmA (fmA sub_wsX11_countWords_r1 (fmA sub_wsX11_countWords_r2 (fmA sub_wsX11_countWords_r3 (fmA sub_wsX11_countWords_r4 (fmA sub_wsX11_countWords_r5 sub_wsX11_countWords_r6))))) sub_wsX110) sub_wsX50) sub_wsX00) sub_wsX10) sub_wsX20) sub_wsX80))
set_option maxRecDepth 20000 in
theorem gL_law_X11_countWords : GoodIn wsL_law (wsV RL 149 RX11 yX11_countWords wsX11_countWords) := goodIn_app (goodIn_sub (fmC wm_41_13 (fmC wm_41_14 (fmC wm_41_15 (fmC wm_1_2 fmN)))) (by decide +kernel)) (goodIn_sub sub_wsX11_countWords (by decide +kernel))
set_option maxRecDepth 20000 in
theorem sub_wsX12_countWords_r1 : ∀ w ∈ wsX12_countWords_r1, w ∈ wsL_law := (fmC wm_42_17 (fmC wm_6_14 (fmC wm_42_18 (fmC wm_42_19 (fmC wm_8_1 (fmC wm_36_2 (fmC wm_36_3 (fmC wm_1_5 (fmC wm_36_4 (fmC wm_8_23 (fmC wm_9_0 (fmC wm_9_1 (fmC wm_41_5 (fmC wm_41_6 (fmC wm_41_7 (fmC wm_41_8 (fmC wm_26_23 (fmC wm_27_0 (fmC wm_31_0 (fmC wm_6_16 (fmC wm_30_23 (fmC wm_41_9 (fmC wm_41_10 (fmC wm_41_11 fmN))))))))))))))))))))))))
set_option maxRecDepth 20000 in
theorem sub_wsX12_countWords_r2 : ∀ w ∈ wsX12_countWords_r2, w ∈ wsL_law := (fmC wm_41_12 (fmC wm_6_15 (fmC wm_6_17 (fmC wm_6_18 (fmC wm_6_19 (fmC wm_6_20 (fmC wm_6_21 (fmC wm_27_1 (fmC wm_27_2 (fmC wm_27_3 (fmC wm_27_4 (fmC wm_7_3 (fmC wm_7_4 (fmC wm_7_5 (fmC wm_7_6 (fmC wm_7_7 (fmC wm_27_5 (fmC wm_27_6 (fmC wm_27_7 (fmC wm_27_8 (fmC wm_26_18 (fmC wm_6_2 (fmC wm_7_9 (fmC wm_7_10 fmN))))))))))))))))))))))))
set_option maxRecDepth 20000 in
theorem sub_wsX12_countWords_r3 : ∀ w ∈ wsX12_countWords_r3, w ∈ wsL_law := (fmC wm_7_13 (fmC wm_7_14 (fmC wm_27_9 (fmC wm_27_10 (fmC wm_27_11 (fmC wm_27_12 (fmC wm_27_13 (fmC wm_27_14 (fmC wm_27_15 (fmC wm_27_16 (fmC wm_27_17 (fmC wm_27_18 (fmC wm_27_19 (fmC wm_7_11 (fmC wm_7_12 (fmC wm_27_20 (fmC wm_27_21 (fmC wm_27_22 (fmC wm_27_23 (fmC wm_7_15 (fmC wm_7_16 (fmC wm_28_0 (fmC wm_28_1 (fmC wm_28_2 fmN))))))))))))))))))))))))
set_option maxRecDepth 20000 in
theorem sub_wsX12_countWords_r4 : ∀ w ∈ wsX12_countWords_r4, w ∈ wsL_law := (fmC wm_28_3 (fmC wm_28_4 (fmC wm_28_5 (fmC wm_28_6 (fmC wm_28_7 (fmC wm_28_8 (fmC wm_28_9 (fmC wm_28_10 (fmC wm_28_11 (fmC wm_28_12 (fmC wm_28_13 (fmC wm_28_14 (fmC wm_28_15 (fmC wm_7_8 (fmC wm_42_20 (fmC wm_42_21 (fmC wm_42_22 (fmC wm_42_23 (fmC wm_7_23 (fmC wm_8_0 (fmC wm_30_19 (fmC wm_30_20 (fmC wm_30_21 (fmC wm_30_22 fmN))))))))))))))))))))))))
set_option maxRecDepth 20000 in
theorem sub_wsX12_countWords_r5 : ∀ w ∈ wsX12_countWords_r5, w ∈ wsL_law := (fmC wm_31_1 (fmC wm_31_2 (fmC wm_31_3 (fmC wm_31_4 (fmC wm_31_5 fmN)))))
set_option maxRecDepth 20000 in
theorem sub_wsX12_countWords : ∀ w ∈ wsX12_countWords, w ∈ wsL_law := (fmC wm_42_16 (fmA (fmA sub_wsX12_countWords_r1 (fmA sub_wsX12_countWords_r2 (fmA sub_wsX12_countWords_r3 (fmA sub_wsX12_countWords_r4 sub_wsX12_countWords_r5)))) sub_wsX120))
set_option maxRecDepth 20000 in
theorem gL_law_X12_countWords : GoodIn wsL_law (wsV RL 153 RX12 yX12_countWords wsX12_countWords) := goodIn_app (goodIn_sub (fmC wm_42_13 (fmC wm_42_14 (fmC wm_42_15 (fmC wm_1_5 fmN)))) (by decide +kernel)) (goodIn_sub sub_wsX12_countWords (by decide +kernel))
set_option maxRecDepth 20000 in
theorem sub_wsX11_firstWord_r1 : ∀ w ∈ wsX11_firstWord_r1, w ∈ wsL_law := (fmC wm_1_15 (fmC wm_35_2 (fmC wm_9_14 (fmC wm_35_3 (fmC wm_35_4 (fmC wm_1_2 (fmC wm_35_5 (fmC wm_9_16 (fmC wm_9_17 (fmC wm_9_18 (fmC wm_40_3 (fmC wm_40_4 (fmC wm_40_5 (fmC wm_40_6 (fmC wm_2_10 (fmC wm_8_11 (fmC wm_25_10 (fmC wm_25_11 (fmC wm_25_12 (fmC wm_25_13 (fmC wm_2_9 (fmC wm_25_14 (fmC wm_4_12 (fmC wm_4_11 fmN))))))))))))))))))))))))
set_option maxRecDepth 20000 in
theorem sub_wsX11_firstWord_r2 : ∀ w ∈ wsX11_firstWord_r2, w ∈ wsL_law := (fmC wm_25_15 (fmC wm_4_13 (fmC wm_40_7 (fmC wm_40_8 (fmC wm_40_9 (fmC wm_35_8 (fmC wm_40_10 (fmC wm_35_18 (fmC wm_35_20 (fmC wm_40_11 (fmC wm_16_22 (fmC wm_16_23 (fmC wm_3_5 (fmC wm_17_0 (fmC wm_3_14 (fmC wm_3_13 (fmC wm_25_16 (fmC wm_25_17 (fmC wm_25_18 (fmC wm_25_19 (fmC wm_4_21 (fmC wm_4_16 (fmC wm_4_17 (fmC wm_4_18 fmN))))))))))))))))))))))))
set_option maxRecDepth 20000 in
theorem sub_wsX11_firstWord_r3 : ∀ w ∈ wsX11_firstWord_r3, w ∈ wsL_law := (fmC wm_4_14 (fmC wm_4_19 (fmC wm_4_20 (fmC wm_25_20 (fmC wm_13_5 (fmC wm_13_6 (fmC wm_13_7 (fmC wm_25_21 (fmC wm_25_22 (fmC wm_25_23 (fmC wm_26_0 (fmC wm_26_1 (fmC wm_26_2 (fmC wm_26_3 (fmC wm_26_4 (fmC wm_26_5 (fmC wm_26_6 (fmC wm_26_7 (fmC wm_26_8 (fmC wm_22_2 (fmC wm_22_3 (fmC wm_22_4 (fmC wm_22_5 (fmC wm_22_6 fmN))))))))))))))))))))))))
set_option maxRecDepth 20000 in
theorem sub_wsX11_firstWord_r4 : ∀ w ∈ wsX11_firstWord_r4, w ∈ wsL_law := (fmC wm_19_21 (fmC wm_19_22 (fmC wm_16_11 (fmC wm_19_23 (fmC wm_16_16 (fmC wm_16_19 (fmC wm_16_20 (fmC wm_20_0 (fmC wm_20_1 (fmC wm_20_2 (fmC wm_20_3 (fmC wm_16_17 (fmC wm_20_4 (fmC wm_14_1 (fmC wm_14_2 (fmC wm_14_3 (fmC wm_40_12 (fmC wm_40_13 (fmC wm_40_14 (fmC wm_40_15 (fmC wm_4_15 (fmC wm_40_16 (fmC wm_40_17 (fmC wm_40_18 fmN))))))))))))))))))))))))
set_option maxRecDepth 20000 in
theorem sub_wsX11_firstWord_r5 : ∀ w ∈ wsX11_firstWord_r5, w ∈ wsL_law := (fmC wm_40_19 (fmC wm_35_21 (fmC wm_40_20 (fmC wm_22_17 (fmC wm_22_18 (fmC wm_22_19 (fmC wm_22_20 (fmC wm_20_6 (fmC wm_20_7 (fmC wm_20_8 (fmC wm_37_21 (fmC wm_37_22 (fmC wm_37_23 (fmC wm_38_0 (fmC wm_35_19 (fmC wm_43_4 (fmC wm_43_5 (fmC wm_43_6 (fmC wm_43_7 (fmC wm_43_8 (fmC wm_43_9 (fmC wm_43_10 (fmC wm_43_11 (fmC wm_43_12 fmN))))))))))))))))))))))))
set_option maxRecDepth 20000 in
theorem sub_wsX11_firstWord_r6 : ∀ w ∈ wsX11_firstWord_r6, w ∈ wsL_law := (fmC wm_43_13 (fmC wm_43_14 (fmC wm_43_15 (fmC wm_43_16 (fmC wm_43_17 (fmC wm_43_18 (fmC wm_43_19 fmN)))))))
set_option maxRecDepth 20000 in
theorem sub_wsX11_firstWord : ∀ w ∈ wsX11_firstWord, w ∈ wsL_law := (fmC wm_43_3 (fmA (fmA (fmA (fmA (fmA (fmA (fmA (fmA sub_wsX11_firstWord_r1 (fmA sub_wsX11_firstWord_r2 (fmA sub_wsX11_firstWord_r3 (fmA sub_wsX11_firstWord_r4 (fmA sub_wsX11_firstWord_r5 sub_wsX11_firstWord_r6))))) sub_wsX110) sub_wsX50) sub_wsX00) sub_wsX10) sub_wsX20) sub_wsX80) sub_wsX90))
set_option maxRecDepth 20000 in
theorem gL_law_X11_firstWord : GoodIn wsL_law (wsV RL 154 RX11 yX11_firstWord wsX11_firstWord) := goodIn_app (goodIn_sub (fmC wm_43_0 (fmC wm_43_1 (fmC wm_43_2 (fmC wm_1_2 fmN)))) (by decide +kernel)) (goodIn_sub sub_wsX11_firstWord (by decide +kernel))
set_option maxRecDepth 20000 in
theorem sub_wsX12_firstWord_r1 : ∀ w ∈ wsX12_firstWord_r1, w ∈ wsL_law := (fmC wm_6_14 (fmC wm_36_2 (fmC wm_36_3 (fmC wm_1_5 (fmC wm_36_4 (fmC wm_8_23 (fmC wm_9_0 (fmC wm_9_1 (fmC wm_10_3 (fmC wm_10_4 (fmC wm_10_5 (fmC wm_41_5 (fmC wm_41_6 (fmC wm_41_7 (fmC wm_41_8 (fmC wm_26_23 (fmC wm_27_0 (fmC wm_31_0 (fmC wm_6_16 (fmC wm_30_23 (fmC wm_41_9 (fmC wm_41_10 (fmC wm_41_11 (fmC wm_41_12 fmN))))))))))))))))))))))))
set_option maxRecDepth 20000 in
theorem sub_wsX12_firstWord_r2 : ∀ w ∈ wsX12_firstWord_r2, w ∈ wsL_law := (fmC wm_6_15 (fmC wm_6_17 (fmC wm_6_18 (fmC wm_6_19 (fmC wm_6_20 (fmC wm_6_21 (fmC wm_27_1 (fmC wm_27_2 (fmC wm_27_3 (fmC wm_27_4 (fmC wm_7_3 (fmC wm_7_4 (fmC wm_7_5 (fmC wm_7_6 (fmC wm_7_7 (fmC wm_27_5 (fmC wm_27_6 (fmC wm_27_7 (fmC wm_27_8 (fmC wm_26_18 (fmC wm_6_2 (fmC wm_7_9 (fmC wm_7_10 (fmC wm_7_13 fmN))))))))))))))))))))))))
set_option maxRecDepth 20000 in
theorem sub_wsX12_firstWord_r3 : ∀ w ∈ wsX12_firstWord_r3, w ∈ wsL_law := (fmC wm_7_14 (fmC wm_27_9 (fmC wm_27_10 (fmC wm_27_11 (fmC wm_27_12 (fmC wm_27_13 (fmC wm_27_14 (fmC wm_27_15 (fmC wm_27_16 (fmC wm_27_17 (fmC wm_27_18 (fmC wm_27_19 (fmC wm_7_11 (fmC wm_7_12 (fmC wm_27_20 (fmC wm_27_21 (fmC wm_27_22 (fmC wm_27_23 (fmC wm_7_15 (fmC wm_7_16 (fmC wm_28_0 (fmC wm_28_1 (fmC wm_28_2 (fmC wm_28_3 fmN))))))))))))))))))))))))
set_option maxRecDepth 20000 in
theorem sub_wsX12_firstWord_r4 : ∀ w ∈ wsX12_firstWord_r4, w ∈ wsL_law := (fmC wm_28_4 (fmC wm_28_5 (fmC wm_28_6 (fmC wm_28_7 (fmC wm_28_8 (fmC wm_28_9 (fmC wm_28_10 (fmC wm_28_11 (fmC wm_28_12 (fmC wm_28_13 (fmC wm_28_14 (fmC wm_28_15 (fmC wm_7_8 (fmC wm_44_0 (fmC wm_44_1 (fmC wm_44_2 (fmC wm_44_3 (fmC wm_6_3 (fmC wm_6_4 (fmC wm_30_19 (fmC wm_30_20 (fmC wm_30_21 (fmC wm_30_22 (fmC wm_31_1 fmN))))))))))))))))))))))))
set_option maxRecDepth 20000 in
theorem sub_wsX12_firstWord_r5 : ∀ w ∈ wsX12_firstWord_r5, w ∈ wsL_law := (fmC wm_31_2 (fmC wm_31_3 (fmC wm_31_4 (fmC wm_31_5 fmN))))
set_option maxRecDepth 20000 in
theorem sub_wsX12_firstWord : ∀ w ∈ wsX12_firstWord, w ∈ wsL_law := (fmC wm_43_23 (fmA (fmA sub_wsX12_firstWord_r1 (fmA sub_wsX12_firstWord_r2 (fmA sub_wsX12_firstWord_r3 (fmA sub_wsX12_firstWord_r4 sub_wsX12_firstWord_r5)))) sub_wsX120))
set_option maxRecDepth 20000 in
theorem gL_law_X12_firstWord : GoodIn wsL_law (wsV RL 157 RX12 yX12_firstWord wsX12_firstWord) := goodIn_app (goodIn_sub (fmC wm_43_20 (fmC wm_43_21 (fmC wm_43_22 (fmC wm_1_5 fmN)))) (by decide +kernel)) (goodIn_sub sub_wsX12_firstWord (by decide +kernel))
set_option maxRecDepth 20000 in
theorem sub_wsX11_firstDifference_r1 : ∀ w ∈ wsX11_firstDifference_r1, w ∈ wsL_law := (fmC wm_1_15 (fmC wm_35_2 (fmC wm_9_14 (fmC wm_35_3 (fmC wm_35_4 (fmC wm_1_2 (fmC wm_35_5 (fmC wm_9_16 (fmC wm_9_17 (fmC wm_9_18 (fmC wm_44_8 (fmC wm_44_9 (fmC wm_44_10 (fmC wm_44_11 (fmC wm_2_10 (fmC wm_8_11 (fmC wm_25_10 (fmC wm_25_11 (fmC wm_25_12 (fmC wm_25_13 (fmC wm_2_9 (fmC wm_25_14 (fmC wm_4_12 (fmC wm_4_11 fmN))))))))))))))))))))))))
set_option maxRecDepth 20000 in
theorem sub_wsX11_firstDifference_r2 : ∀ w ∈ wsX11_firstDifference_r2, w ∈ wsL_law := (fmC wm_25_15 (fmC wm_4_13 (fmC wm_40_7 (fmC wm_40_8 (fmC wm_40_9 (fmC wm_35_8 (fmC wm_40_10 (fmC wm_35_18 (fmC wm_35_20 (fmC wm_40_11 (fmC wm_16_22 (fmC wm_16_23 (fmC wm_3_5 (fmC wm_17_0 (fmC wm_3_14 (fmC wm_3_13 (fmC wm_25_16 (fmC wm_25_17 (fmC wm_25_18 (fmC wm_25_19 (fmC wm_4_21 (fmC wm_4_16 (fmC wm_4_17 (fmC wm_4_18 fmN))))))))))))))))))))))))
set_option maxRecDepth 20000 in
theorem sub_wsX11_firstDifference_r3 : ∀ w ∈ wsX11_firstDifference_r3, w ∈ wsL_law := (fmC wm_4_14 (fmC wm_4_19 (fmC wm_4_20 (fmC wm_25_20 (fmC wm_13_5 (fmC wm_13_6 (fmC wm_13_7 (fmC wm_25_21 (fmC wm_25_22 (fmC wm_25_23 (fmC wm_26_0 (fmC wm_26_1 (fmC wm_26_2 (fmC wm_26_3 (fmC wm_26_4 (fmC wm_26_5 (fmC wm_26_6 (fmC wm_26_7 (fmC wm_26_8 (fmC wm_22_2 (fmC wm_22_3 (fmC wm_22_4 (fmC wm_22_5 (fmC wm_22_6 fmN))))))))))))))))))))))))
set_option maxRecDepth 20000 in
theorem sub_wsX11_firstDifference_r4 : ∀ w ∈ wsX11_firstDifference_r4, w ∈ wsL_law := (fmC wm_19_21 (fmC wm_19_22 (fmC wm_16_11 (fmC wm_19_23 (fmC wm_16_16 (fmC wm_16_19 (fmC wm_16_20 (fmC wm_20_0 (fmC wm_20_1 (fmC wm_20_2 (fmC wm_20_3 (fmC wm_16_17 (fmC wm_20_4 (fmC wm_14_1 (fmC wm_14_2 (fmC wm_14_3 (fmC wm_44_12 (fmC wm_44_13 (fmC wm_44_14 (fmC wm_44_15 (fmC wm_44_16 (fmC wm_4_15 (fmC wm_40_16 (fmC wm_40_17 fmN))))))))))))))))))))))))
set_option maxRecDepth 20000 in
theorem sub_wsX11_firstDifference_r5 : ∀ w ∈ wsX11_firstDifference_r5, w ∈ wsL_law := (fmC wm_40_18 (fmC wm_40_19 (fmC wm_35_21 (fmC wm_40_20 (fmC wm_22_17 (fmC wm_22_18 (fmC wm_22_19 (fmC wm_22_20 (fmC wm_20_6 (fmC wm_20_7 (fmC wm_20_8 (fmC wm_37_21 (fmC wm_37_22 (fmC wm_37_23 (fmC wm_38_0 (fmC wm_35_19 (fmC wm_43_4 (fmC wm_43_5 (fmC wm_43_6 (fmC wm_43_7 (fmC wm_43_8 (fmC wm_43_9 (fmC wm_43_10 (fmC wm_43_11 fmN))))))))))))))))))))))))
set_option maxRecDepth 20000 in
theorem sub_wsX11_firstDifference_r6 : ∀ w ∈ wsX11_firstDifference_r6, w ∈ wsL_law := (fmC wm_43_12 (fmC wm_43_13 (fmC wm_43_14 (fmC wm_43_15 (fmC wm_43_16 (fmC wm_43_17 (fmC wm_43_18 (fmC wm_43_19 fmN))))))))
set_option maxRecDepth 20000 in
theorem sub_wsX11_firstDifference : ∀ w ∈ wsX11_firstDifference, w ∈ wsL_law := (fmC wm_44_7 (fmA (fmA (fmA (fmA (fmA (fmA (fmA (fmA sub_wsX11_firstDifference_r1 (fmA sub_wsX11_firstDifference_r2 (fmA sub_wsX11_firstDifference_r3 (fmA sub_wsX11_firstDifference_r4 (fmA sub_wsX11_firstDifference_r5 sub_wsX11_firstDifference_r6))))) sub_wsX110) sub_wsX50) sub_wsX00) sub_wsX10) sub_wsX20) sub_wsX80) sub_wsX90))
set_option maxRecDepth 20000 in
theorem gL_law_X11_firstDifference : GoodIn wsL_law (wsV RL 158 RX11 yX11_firstDifference wsX11_firstDifference) := goodIn_app (goodIn_sub (fmC wm_44_4 (fmC wm_44_5 (fmC wm_44_6 (fmC wm_1_2 fmN)))) (by decide +kernel)) (goodIn_sub sub_wsX11_firstDifference (by decide +kernel))
set_option maxRecDepth 20000 in
theorem sub_wsX12_firstDifference_r1 : ∀ w ∈ wsX12_firstDifference_r1, w ∈ wsL_law := (fmC wm_6_14 (fmC wm_26_23 (fmC wm_27_0 (fmC wm_31_0 (fmC wm_6_16 (fmC wm_30_23 (fmC wm_6_21 (fmC wm_31_1 (fmC wm_36_2 (fmC wm_36_3 (fmC wm_1_5 (fmC wm_36_4 (fmC wm_8_23 (fmC wm_9_0 (fmC wm_9_1 (fmC wm_10_3 (fmC wm_10_4 (fmC wm_10_5 (fmC wm_41_9 (fmC wm_41_10 (fmC wm_41_11 (fmC wm_41_12 (fmC wm_6_15 (fmC wm_6_17 fmN))))))))))))))))))))))))
set_option maxRecDepth 20000 in
theorem sub_wsX12_firstDifference_r2 : ∀ w ∈ wsX12_firstDifference_r2, w ∈ wsL_law := (fmC wm_6_18 (fmC wm_6_19 (fmC wm_6_20 (fmC wm_27_1 (fmC wm_27_2 (fmC wm_27_3 (fmC wm_27_4 (fmC wm_7_3 (fmC wm_7_4 (fmC wm_7_5 (fmC wm_7_6 (fmC wm_7_7 (fmC wm_27_5 (fmC wm_27_6 (fmC wm_27_7 (fmC wm_27_8 (fmC wm_26_18 (fmC wm_6_2 (fmC wm_7_9 (fmC wm_7_10 (fmC wm_7_13 (fmC wm_7_14 (fmC wm_27_9 (fmC wm_27_10 fmN))))))))))))))))))))))))
set_option maxRecDepth 20000 in
theorem sub_wsX12_firstDifference_r3 : ∀ w ∈ wsX12_firstDifference_r3, w ∈ wsL_law := (fmC wm_27_11 (fmC wm_27_12 (fmC wm_27_13 (fmC wm_27_14 (fmC wm_27_15 (fmC wm_27_16 (fmC wm_27_17 (fmC wm_27_18 (fmC wm_27_19 (fmC wm_7_11 (fmC wm_7_12 (fmC wm_27_20 (fmC wm_27_21 (fmC wm_27_22 (fmC wm_27_23 (fmC wm_7_15 (fmC wm_7_16 (fmC wm_28_0 (fmC wm_28_1 (fmC wm_28_2 (fmC wm_28_3 (fmC wm_28_4 (fmC wm_28_5 (fmC wm_28_6 fmN))))))))))))))))))))))))
set_option maxRecDepth 20000 in
theorem sub_wsX12_firstDifference_r4 : ∀ w ∈ wsX12_firstDifference_r4, w ∈ wsL_law := (fmC wm_28_7 (fmC wm_28_8 (fmC wm_28_9 (fmC wm_28_10 (fmC wm_28_11 (fmC wm_28_12 (fmC wm_28_13 (fmC wm_28_14 (fmC wm_28_15 (fmC wm_7_8 (fmC wm_44_0 (fmC wm_44_1 (fmC wm_44_2 (fmC wm_44_3 (fmC wm_6_3 (fmC wm_6_4 (fmC wm_30_19 (fmC wm_30_20 (fmC wm_30_21 (fmC wm_30_22 (fmC wm_31_2 (fmC wm_31_3 (fmC wm_31_4 (fmC wm_31_5 fmN))))))))))))))))))))))))
set_option maxRecDepth 20000 in
theorem sub_wsX12_firstDifference : ∀ w ∈ wsX12_firstDifference, w ∈ wsL_law := (fmC wm_44_20 (fmA (fmA sub_wsX12_firstDifference_r1 (fmA sub_wsX12_firstDifference_r2 (fmA sub_wsX12_firstDifference_r3 sub_wsX12_firstDifference_r4))) sub_wsX120))
set_option maxRecDepth 20000 in
theorem gL_law_X12_firstDifference : GoodIn wsL_law (wsV RL 161 RX12 yX12_firstDifference wsX12_firstDifference) := goodIn_app (goodIn_sub (fmC wm_44_17 (fmC wm_44_18 (fmC wm_44_19 (fmC wm_1_5 fmN)))) (by decide +kernel)) (goodIn_sub sub_wsX12_firstDifference (by decide +kernel))
set_option maxRecDepth 20000 in
theorem sub_wsX11_newRow : ∀ w ∈ wsX11_newRow, w ∈ wsL_law := (fmC wm_45_0 (fmA (fmA (fmC wm_1_22 (fmC wm_45_1 (fmC wm_45_2 (fmC wm_1_2 (fmC wm_45_3 (fmC wm_45_4 (fmC wm_45_5 (fmC wm_45_6 (fmC wm_2_19 (fmC wm_45_7 (fmC wm_5_19 (fmC wm_5_20 (fmC wm_5_21 (fmC wm_45_8 (fmC wm_13_5 (fmC wm_13_6 (fmC wm_13_7 fmN))))))))))))))))) sub_wsX110) sub_wsX60))
set_option maxRecDepth 20000 in
theorem gL_law_X11_newRow : GoodIn wsL_law (wsV RL 162 RX11 yX11_newRow wsX11_newRow) := goodIn_app (goodIn_sub (fmC wm_44_21 (fmC wm_44_22 (fmC wm_44_23 (fmC wm_1_2 fmN)))) (by decide +kernel)) (goodIn_sub sub_wsX11_newRow (by decide +kernel))
set_option maxRecDepth 20000 in
theorem sub_wsX12_newRow : ∀ w ∈ wsX12_newRow, w ∈ wsL_law := (fmC wm_45_12 (fmA (fmC wm_8_2 (fmC wm_8_3 (fmC wm_8_4 (fmC wm_45_13 (fmC wm_45_14 (fmC wm_1_5 (fmC wm_45_15 (fmC wm_8_23 (fmC wm_9_0 (fmC wm_9_1 fmN)))))))))) sub_wsX120))
set_option maxRecDepth 20000 in
theorem gL_law_X12_newRow : GoodIn wsL_law (wsV RL 165 RX12 yX12_newRow wsX12_newRow) := goodIn_app (goodIn_sub (fmC wm_45_9 (fmC wm_45_10 (fmC wm_45_11 (fmC wm_1_5 fmN)))) (by decide +kernel)) (goodIn_sub sub_wsX12_newRow (by decide +kernel))
set_option maxRecDepth 20000 in
theorem sub_wsX11_setElement : ∀ w ∈ wsX11_setElement, w ∈ wsL_law := (fmC wm_45_19 (fmA (fmA (fmC wm_1_22 (fmC wm_45_20 (fmC wm_45_21 (fmC wm_45_1 (fmC wm_45_2 (fmC wm_1_2 (fmC wm_45_3 (fmC wm_45_22 (fmC wm_45_23 (fmC wm_46_0 (fmC wm_2_19 (fmC wm_46_1 (fmC wm_5_21 (fmC wm_5_19 fmN)))))))))))))) sub_wsX110) sub_wsX60))
set_option maxRecDepth 20000 in
theorem gL_law_X11_setElement : GoodIn wsL_law (wsV RL 166 RX11 yX11_setElement wsX11_setElement) := goodIn_app (goodIn_sub (fmC wm_45_16 (fmC wm_45_17 (fmC wm_45_18 (fmC wm_1_2 fmN)))) (by decide +kernel)) (goodIn_sub sub_wsX11_setElement (by decide +kernel))
set_option maxRecDepth 20000 in
theorem sub_wsX12_setElement : ∀ w ∈ wsX12_setElement, w ∈ wsL_law := (fmC wm_46_5 (fmA (fmC wm_8_2 (fmC wm_8_3 (fmC wm_45_13 (fmC wm_45_14 (fmC wm_1_5 (fmC wm_45_15 (fmC wm_8_23 (fmC wm_9_0 (fmC wm_9_1 (fmC wm_46_6 (fmC wm_46_7 (fmC wm_46_8 (fmC wm_46_9 (fmC wm_8_4 fmN)))))))))))))) sub_wsX120))
set_option maxRecDepth 20000 in
theorem gL_law_X12_setElement : GoodIn wsL_law (wsV RL 169 RX12 yX12_setElement wsX12_setElement) := goodIn_app (goodIn_sub (fmC wm_46_2 (fmC wm_46_3 (fmC wm_46_4 (fmC wm_1_5 fmN)))) (by decide +kernel)) (goodIn_sub sub_wsX12_setElement (by decide +kernel))
set_option maxRecDepth 20000 in
theorem sub_wsX11_element : ∀ w ∈ wsX11_element, w ∈ wsL_law := (fmC wm_46_13 (fmA (fmA (fmC wm_1_22 (fmC wm_45_21 (fmC wm_46_14 (fmC wm_46_15 (fmC wm_45_1 (fmC wm_45_2 (fmC wm_1_2 (fmC wm_45_3 fmN)))))))) sub_wsX110) sub_wsX60))
set_option maxRecDepth 20000 in
theorem gL_law_X11_element : GoodIn wsL_law (wsV RL 170 RX11 yX11_element wsX11_element) := goodIn_app (goodIn_sub (fmC wm_46_10 (fmC wm_46_11 (fmC wm_46_12 (fmC wm_1_2 fmN)))) (by decide +kernel)) (goodIn_sub sub_wsX11_element (by decide +kernel))
set_option maxRecDepth 20000 in
theorem sub_wsX12_element : ∀ w ∈ wsX12_element, w ∈ wsL_law := (fmC wm_46_19 (fmA (fmC wm_8_2 (fmC wm_8_3 (fmC wm_8_4 (fmC wm_46_20 (fmC wm_45_13 (fmC wm_45_14 (fmC wm_1_5 (fmC wm_45_15 (fmC wm_8_23 (fmC wm_9_0 (fmC wm_9_1 fmN))))))))))) sub_wsX120))
set_option maxRecDepth 20000 in
theorem gL_law_X12_element : GoodIn wsL_law (wsV RL 173 RX12 yX12_element wsX12_element) := goodIn_app (goodIn_sub (fmC wm_46_16 (fmC wm_46_17 (fmC wm_46_18 (fmC wm_1_5 fmN)))) (by decide +kernel)) (goodIn_sub sub_wsX12_element (by decide +kernel))
set_option maxRecDepth 20000 in
theorem sub_wsX11_copyElements : ∀ w ∈ wsX11_copyElements, w ∈ wsL_law := (fmC wm_47_0 (fmA (fmA (fmC wm_1_22 (fmC wm_45_20 (fmC wm_46_15 (fmC wm_47_1 (fmC wm_14_19 (fmC wm_14_20 (fmC wm_14_21 (fmC wm_45_1 (fmC wm_45_2 (fmC wm_1_2 (fmC wm_45_3 (fmC wm_47_2 (fmC wm_47_3 (fmC wm_47_4 (fmC wm_2_19 (fmC wm_47_5 (fmC wm_5_20 fmN))))))))))))))))) sub_wsX110) sub_wsX60))
set_option maxRecDepth 20000 in
theorem gL_law_X11_copyElements : GoodIn wsL_law (wsV RL 174 RX11 yX11_copyElements wsX11_copyElements) := goodIn_app (goodIn_sub (fmC wm_46_21 (fmC wm_46_22 (fmC wm_46_23 (fmC wm_1_2 fmN)))) (by decide +kernel)) (goodIn_sub sub_wsX11_copyElements (by decide +kernel))
set_option maxRecDepth 20000 in
theorem sub_wsX12_copyElements : ∀ w ∈ wsX12_copyElements, w ∈ wsL_law := (fmC wm_47_9 (fmA (fmC wm_8_2 (fmC wm_8_3 (fmC wm_8_5 (fmC wm_8_4 (fmC wm_45_13 (fmC wm_45_14 (fmC wm_1_5 (fmC wm_45_15 (fmC wm_8_23 (fmC wm_9_0 (fmC wm_9_1 fmN))))))))))) sub_wsX120))
set_option maxRecDepth 20000 in
theorem gL_law_X12_copyElements : GoodIn wsL_law (wsV RL 178 RX12 yX12_copyElements wsX12_copyElements) := goodIn_app (goodIn_sub (fmC wm_47_6 (fmC wm_47_7 (fmC wm_47_8 (fmC wm_1_5 fmN)))) (by decide +kernel)) (goodIn_sub sub_wsX12_copyElements (by decide +kernel))
set_option maxRecDepth 20000 in
theorem sub_wsX11_fillCounts_r1 : ∀ w ∈ wsX11_fillCounts_r1, w ∈ wsL_law := (fmC wm_1_15 (fmC wm_35_2 (fmC wm_1_22 (fmC wm_45_20 (fmC wm_2_10 (fmC wm_2_17 (fmC wm_45_21 (fmC wm_45_1 (fmC wm_45_2 (fmC wm_1_2 (fmC wm_45_3 (fmC wm_35_3 (fmC wm_35_4 (fmC wm_35_5 (fmC wm_40_3 (fmC wm_40_4 (fmC wm_40_5 (fmC wm_40_6 (fmC wm_8_11 (fmC wm_25_10 (fmC wm_25_11 (fmC wm_25_12 (fmC wm_25_13 (fmC wm_2_9 fmN))))))))))))))))))))))))
set_option maxRecDepth 20000 in
theorem sub_wsX11_fillCounts_r2 : ∀ w ∈ wsX11_fillCounts_r2, w ∈ wsL_law := (fmC wm_25_14 (fmC wm_4_12 (fmC wm_4_11 (fmC wm_25_15 (fmC wm_4_13 (fmC wm_40_7 (fmC wm_40_8 (fmC wm_40_9 (fmC wm_35_8 (fmC wm_40_10 (fmC wm_35_18 (fmC wm_35_20 (fmC wm_40_11 (fmC wm_16_22 (fmC wm_16_23 (fmC wm_3_5 (fmC wm_17_0 (fmC wm_3_14 (fmC wm_3_13 (fmC wm_25_16 (fmC wm_25_17 (fmC wm_25_18 (fmC wm_25_19 (fmC wm_4_21 fmN))))))))))))))))))))))))
set_option maxRecDepth 20000 in
theorem sub_wsX11_fillCounts_r3 : ∀ w ∈ wsX11_fillCounts_r3, w ∈ wsL_law := (fmC wm_4_16 (fmC wm_4_17 (fmC wm_4_18 (fmC wm_4_14 (fmC wm_4_19 (fmC wm_4_20 (fmC wm_25_20 (fmC wm_13_5 (fmC wm_13_6 (fmC wm_13_7 (fmC wm_25_21 (fmC wm_25_22 (fmC wm_25_23 (fmC wm_26_0 (fmC wm_26_1 (fmC wm_26_2 (fmC wm_26_3 (fmC wm_26_4 (fmC wm_26_5 (fmC wm_26_6 (fmC wm_26_7 (fmC wm_26_8 (fmC wm_22_2 (fmC wm_22_3 fmN))))))))))))))))))))))))
set_option maxRecDepth 20000 in
theorem sub_wsX11_fillCounts_r4 : ∀ w ∈ wsX11_fillCounts_r4, w ∈ wsL_law := (fmC wm_22_4 (fmC wm_22_5 (fmC wm_22_6 (fmC wm_19_21 (fmC wm_19_22 (fmC wm_16_11 (fmC wm_19_23 (fmC wm_16_16 (fmC wm_16_19 (fmC wm_16_20 (fmC wm_20_0 (fmC wm_20_1 (fmC wm_20_2 (fmC wm_20_3 (fmC wm_16_17 (fmC wm_20_4 (fmC wm_14_1 (fmC wm_14_2 (fmC wm_14_3 (fmC wm_40_12 (fmC wm_40_13 (fmC wm_40_14 (fmC wm_40_15 (fmC wm_4_15 fmN))))))))))))))))))))))))
set_option maxRecDepth 20000 in
theorem sub_wsX11_fillCounts_r5 : ∀ w ∈ wsX11_fillCounts_r5, w ∈ wsL_law := (fmC wm_40_16 (fmC wm_40_17 (fmC wm_40_18 (fmC wm_40_19 (fmC wm_35_21 (fmC wm_40_20 (fmC wm_22_17 (fmC wm_22_18 (fmC wm_22_19 (fmC wm_22_20 (fmC wm_20_6 (fmC wm_20_7 (fmC wm_20_8 (fmC wm_37_21 (fmC wm_37_22 (fmC wm_37_23 (fmC wm_38_0 (fmC wm_35_19 (fmC wm_41_20 (fmC wm_41_21 (fmC wm_41_22 (fmC wm_41_23 (fmC wm_4_22 (fmC wm_42_0 fmN))))))))))))))))))))))))
set_option maxRecDepth 20000 in
theorem sub_wsX11_fillCounts_r6 : ∀ w ∈ wsX11_fillCounts_r6, w ∈ wsL_law := (fmC wm_42_1 (fmC wm_42_2 (fmC wm_42_3 (fmC wm_42_4 (fmC wm_42_5 (fmC wm_42_6 (fmC wm_42_7 (fmC wm_42_8 (fmC wm_42_9 (fmC wm_42_10 (fmC wm_42_11 (fmC wm_4_23 (fmC wm_42_12 (fmC wm_14_19 (fmC wm_14_20 (fmC wm_14_21 (fmC wm_45_22 (fmC wm_45_23 (fmC wm_46_0 (fmC wm_2_19 (fmC wm_46_1 (fmC wm_5_21 (fmC wm_5_19 fmN)))))))))))))))))))))))
set_option maxRecDepth 20000 in
theorem sub_wsX11_fillCounts : ∀ w ∈ wsX11_fillCounts, w ∈ wsL_law := (fmC wm_47_13 (fmA (fmA (fmA (fmA (fmA (fmA (fmA (fmA sub_wsX11_fillCounts_r1 (fmA sub_wsX11_fillCounts_r2 (fmA sub_wsX11_fillCounts_r3 (fmA sub_wsX11_fillCounts_r4 (fmA sub_wsX11_fillCounts_r5 sub_wsX11_fillCounts_r6))))) sub_wsX110) sub_wsX50) sub_wsX60) sub_wsX00) sub_wsX10) sub_wsX20) sub_wsX80))
set_option maxRecDepth 20000 in
theorem gL_law_X11_fillCounts : GoodIn wsL_law (wsV RL 179 RX11 yX11_fillCounts wsX11_fillCounts) := goodIn_app (goodIn_sub (fmC wm_47_10 (fmC wm_47_11 (fmC wm_47_12 (fmC wm_1_2 fmN)))) (by decide +kernel)) (goodIn_sub sub_wsX11_fillCounts (by decide +kernel))
set_option maxRecDepth 20000 in
theorem sub_wsX12_fillCounts_r1 : ∀ w ∈ wsX12_fillCounts_r1, w ∈ wsL_law := (fmC wm_6_14 (fmC wm_8_2 (fmC wm_8_3 (fmC wm_8_1 (fmC wm_45_13 (fmC wm_45_14 (fmC wm_1_5 (fmC wm_45_15 (fmC wm_8_23 (fmC wm_9_0 (fmC wm_9_1 (fmC wm_36_2 (fmC wm_36_3 (fmC wm_36_4 (fmC wm_41_5 (fmC wm_41_6 (fmC wm_41_7 (fmC wm_41_8 (fmC wm_26_23 (fmC wm_27_0 (fmC wm_31_0 (fmC wm_6_16 (fmC wm_30_23 (fmC wm_41_9 fmN))))))))))))))))))))))))
set_option maxRecDepth 20000 in
theorem sub_wsX12_fillCounts_r2 : ∀ w ∈ wsX12_fillCounts_r2, w ∈ wsL_law := (fmC wm_41_10 (fmC wm_41_11 (fmC wm_41_12 (fmC wm_6_15 (fmC wm_6_17 (fmC wm_6_18 (fmC wm_6_19 (fmC wm_6_20 (fmC wm_6_21 (fmC wm_27_1 (fmC wm_27_2 (fmC wm_27_3 (fmC wm_27_4 (fmC wm_7_3 (fmC wm_7_4 (fmC wm_7_5 (fmC wm_7_6 (fmC wm_7_7 (fmC wm_27_5 (fmC wm_27_6 (fmC wm_27_7 (fmC wm_27_8 (fmC wm_26_18 (fmC wm_6_2 fmN))))))))))))))))))))))))
set_option maxRecDepth 20000 in
theorem sub_wsX12_fillCounts_r3 : ∀ w ∈ wsX12_fillCounts_r3, w ∈ wsL_law := (fmC wm_7_9 (fmC wm_7_10 (fmC wm_7_13 (fmC wm_7_14 (fmC wm_27_9 (fmC wm_27_10 (fmC wm_27_11 (fmC wm_27_12 (fmC wm_27_13 (fmC wm_27_14 (fmC wm_27_15 (fmC wm_27_16 (fmC wm_27_17 (fmC wm_27_18 (fmC wm_27_19 (fmC wm_7_11 (fmC wm_7_12 (fmC wm_27_20 (fmC wm_27_21 (fmC wm_27_22 (fmC wm_27_23 (fmC wm_7_15 (fmC wm_7_16 (fmC wm_28_0 fmN))))))))))))))))))))))))
set_option maxRecDepth 20000 in
theorem sub_wsX12_fillCounts_r4 : ∀ w ∈ wsX12_fillCounts_r4, w ∈ wsL_law := (fmC wm_28_1 (fmC wm_28_2 (fmC wm_28_3 (fmC wm_28_4 (fmC wm_28_5 (fmC wm_28_6 (fmC wm_28_7 (fmC wm_28_8 (fmC wm_28_9 (fmC wm_28_10 (fmC wm_28_11 (fmC wm_28_12 (fmC wm_28_13 (fmC wm_28_14 (fmC wm_28_15 (fmC wm_7_8 (fmC wm_42_20 (fmC wm_42_21 (fmC wm_42_22 (fmC wm_42_23 (fmC wm_7_23 (fmC wm_8_0 (fmC wm_30_19 (fmC wm_30_20 fmN))))))))))))))))))))))))
set_option maxRecDepth 20000 in
theorem sub_wsX12_fillCounts_r5 : ∀ w ∈ wsX12_fillCounts_r5, w ∈ wsL_law := (fmC wm_30_21 (fmC wm_30_22 (fmC wm_31_1 (fmC wm_31_2 (fmC wm_31_3 (fmC wm_31_4 (fmC wm_31_5 (fmC wm_46_6 (fmC wm_46_7 (fmC wm_46_8 (fmC wm_46_9 (fmC wm_8_4 fmN))))))))))))
set_option maxRecDepth 20000 in
theorem sub_wsX12_fillCounts : ∀ w ∈ wsX12_fillCounts, w ∈ wsL_law := (fmC wm_47_17 (fmA (fmA sub_wsX12_fillCounts_r1 (fmA sub_wsX12_fillCounts_r2 (fmA sub_wsX12_fillCounts_r3 (fmA sub_wsX12_fillCounts_r4 sub_wsX12_fillCounts_r5)))) sub_wsX120))
set_option maxRecDepth 20000 in
theorem gL_law_X12_fillCounts : GoodIn wsL_law (wsV RL 182 RX12 yX12_fillCounts wsX12_fillCounts) := goodIn_app (goodIn_sub (fmC wm_47_14 (fmC wm_47_15 (fmC wm_47_16 (fmC wm_1_5 fmN)))) (by decide +kernel)) (goodIn_sub sub_wsX12_fillCounts (by decide +kernel))
set_option maxRecDepth 20000 in
theorem sub_wsX11_saveSnapshot_r1 : ∀ w ∈ wsX11_saveSnapshot_r1, w ∈ wsL_law := (fmC wm_1_16 (fmC wm_1_15 (fmC wm_1_17 (fmC wm_47_22 (fmC wm_47_23 (fmC wm_48_0 (fmC wm_1_14 (fmC wm_48_1 (fmC wm_3_0 (fmC wm_3_6 (fmC wm_3_2 (fmC wm_3_8 (fmC wm_48_2 (fmC wm_14_19 (fmC wm_14_20 (fmC wm_14_21 (fmC wm_48_3 (fmC wm_48_4 (fmC wm_48_5 (fmC wm_3_5 (fmC wm_48_6 (fmC wm_3_13 (fmC wm_48_7 (fmC wm_3_14 fmN))))))))))))))))))))))))
set_option maxRecDepth 20000 in
theorem sub_wsX11_saveSnapshot_r2 : ∀ w ∈ wsX11_saveSnapshot_r2, w ∈ wsL_law := (fmC wm_48_8 (fmC wm_14_15 (fmC wm_14_16 (fmC wm_2_1 (fmC wm_14_17 (fmC wm_3_18 (fmC wm_14_18 (fmC wm_3_19 (fmC wm_48_9 (fmC wm_48_10 (fmC wm_48_11 (fmC wm_48_12 fmN))))))))))))
set_option maxRecDepth 20000 in
theorem sub_wsX11_saveSnapshot : ∀ w ∈ wsX11_saveSnapshot, w ∈ wsL_law := (fmC wm_47_21 (fmA (fmA (fmA (fmA (fmA sub_wsX11_saveSnapshot_r1 sub_wsX11_saveSnapshot_r2) sub_wsX110) sub_wsX50) sub_wsX10) sub_wsX90))
set_option maxRecDepth 20000 in
theorem gL_law_X11_saveSnapshot : GoodIn wsL_law (wsV RL 183 RX11 yX11_saveSnapshot wsX11_saveSnapshot) := goodIn_app (goodIn_sub (fmC wm_47_18 (fmC wm_47_19 (fmC wm_47_20 (fmC wm_1_2 fmN)))) (by decide +kernel)) (goodIn_sub sub_wsX11_saveSnapshot (by decide +kernel))
set_option maxRecDepth 20000 in
theorem sub_wsX12_saveSnapshot_r1 : ∀ w ∈ wsX12_saveSnapshot_r1, w ∈ wsL_law := (fmC wm_48_17 (fmC wm_48_18 (fmC wm_48_19 (fmC wm_48_20 (fmC wm_1_5 (fmC wm_48_21 (fmC wm_48_22 (fmC wm_48_23 (fmC wm_6_2 (fmC wm_8_22 (fmC wm_6_3 (fmC wm_6_4 (fmC wm_6_7 (fmC wm_6_8 (fmC wm_6_9 (fmC wm_6_10 (fmC wm_6_14 (fmC wm_6_15 (fmC wm_6_16 (fmC wm_6_17 (fmC wm_6_18 (fmC wm_6_19 (fmC wm_6_20 (fmC wm_6_21 fmN))))))))))))))))))))))))
set_option maxRecDepth 20000 in
theorem sub_wsX12_saveSnapshot_r2 : ∀ w ∈ wsX12_saveSnapshot_r2, w ∈ wsL_law := (fmC wm_49_0 (fmC wm_49_1 (fmC wm_49_2 (fmC wm_49_3 (fmC wm_8_6 (fmC wm_49_4 (fmC wm_49_5 (fmC wm_49_6 (fmC wm_49_7 fmN)))))))))
set_option maxRecDepth 20000 in
theorem sub_wsX12_saveSnapshot : ∀ w ∈ wsX12_saveSnapshot, w ∈ wsL_law := (fmC wm_48_16 (fmA (fmA sub_wsX12_saveSnapshot_r1 sub_wsX12_saveSnapshot_r2) sub_wsX120))
set_option maxRecDepth 20000 in
theorem gL_law_X12_saveSnapshot : GoodIn wsL_law (wsV RL 186 RX12 yX12_saveSnapshot wsX12_saveSnapshot) := goodIn_app (goodIn_sub (fmC wm_48_13 (fmC wm_48_14 (fmC wm_48_15 (fmC wm_1_5 fmN)))) (by decide +kernel)) (goodIn_sub sub_wsX12_saveSnapshot (by decide +kernel))
set_option maxRecDepth 20000 in
theorem sub_wsX11_restoreSnapshot_r1 : ∀ w ∈ wsX11_restoreSnapshot_r1, w ∈ wsL_law := (fmC wm_1_17 (fmC wm_1_15 (fmC wm_1_16 (fmC wm_47_22 (fmC wm_47_23 (fmC wm_48_0 (fmC wm_1_14 (fmC wm_48_1 (fmC wm_3_0 (fmC wm_3_6 (fmC wm_3_2 (fmC wm_3_8 (fmC wm_48_2 (fmC wm_14_19 (fmC wm_14_20 (fmC wm_14_21 (fmC wm_48_3 (fmC wm_48_4 (fmC wm_48_5 (fmC wm_3_5 (fmC wm_48_6 (fmC wm_3_13 (fmC wm_48_7 (fmC wm_3_14 fmN))))))))))))))))))))))))
set_option maxRecDepth 20000 in
theorem sub_wsX11_restoreSnapshot_r2 : ∀ w ∈ wsX11_restoreSnapshot_r2, w ∈ wsL_law := (fmC wm_48_8 (fmC wm_14_15 (fmC wm_14_16 (fmC wm_2_1 (fmC wm_14_17 (fmC wm_3_18 (fmC wm_14_18 (fmC wm_3_19 (fmC wm_48_9 (fmC wm_48_10 (fmC wm_48_11 (fmC wm_48_12 fmN))))))))))))
set_option maxRecDepth 20000 in
theorem sub_wsX11_restoreSnapshot : ∀ w ∈ wsX11_restoreSnapshot, w ∈ wsL_law := (fmC wm_49_11 (fmA (fmA (fmA (fmA (fmA sub_wsX11_restoreSnapshot_r1 sub_wsX11_restoreSnapshot_r2) sub_wsX110) sub_wsX50) sub_wsX10) sub_wsX90))
set_option maxRecDepth 20000 in
theorem gL_law_X11_restoreSnapshot : GoodIn wsL_law (wsV RL 187 RX11 yX11_restoreSnapshot wsX11_restoreSnapshot) := goodIn_app (goodIn_sub (fmC wm_49_8 (fmC wm_49_9 (fmC wm_49_10 (fmC wm_1_2 fmN)))) (by decide +kernel)) (goodIn_sub sub_wsX11_restoreSnapshot (by decide +kernel))
set_option maxRecDepth 20000 in
theorem sub_wsX12_restoreSnapshot_r1 : ∀ w ∈ wsX12_restoreSnapshot_r1, w ∈ wsL_law := (fmC wm_48_17 (fmC wm_48_18 (fmC wm_48_19 (fmC wm_48_20 (fmC wm_1_5 (fmC wm_48_21 (fmC wm_48_22 (fmC wm_48_23 (fmC wm_6_2 (fmC wm_8_22 (fmC wm_6_3 (fmC wm_6_4 (fmC wm_6_7 (fmC wm_6_8 (fmC wm_6_9 (fmC wm_6_10 (fmC wm_6_14 (fmC wm_6_15 (fmC wm_6_16 (fmC wm_6_17 (fmC wm_6_18 (fmC wm_6_19 (fmC wm_6_20 (fmC wm_6_21 fmN))))))))))))))))))))))))
set_option maxRecDepth 20000 in
theorem sub_wsX12_restoreSnapshot_r2 : ∀ w ∈ wsX12_restoreSnapshot_r2, w ∈ wsL_law := (fmC wm_49_0 (fmC wm_49_1 (fmC wm_49_2 (fmC wm_49_3 (fmC wm_8_6 (fmC wm_49_4 (fmC wm_49_5 (fmC wm_49_6 (fmC wm_49_7 fmN)))))))))
set_option maxRecDepth 20000 in
theorem sub_wsX12_restoreSnapshot : ∀ w ∈ wsX12_restoreSnapshot, w ∈ wsL_law := (fmC wm_49_15 (fmA (fmA sub_wsX12_restoreSnapshot_r1 sub_wsX12_restoreSnapshot_r2) sub_wsX120))
set_option maxRecDepth 20000 in
theorem gL_law_X12_restoreSnapshot : GoodIn wsL_law (wsV RL 190 RX12 yX12_restoreSnapshot wsX12_restoreSnapshot) := goodIn_app (goodIn_sub (fmC wm_49_12 (fmC wm_49_13 (fmC wm_49_14 (fmC wm_1_5 fmN)))) (by decide +kernel)) (goodIn_sub sub_wsX12_restoreSnapshot (by decide +kernel))
