/-! TEXTS: the rows that String's own methods need; String.length and charAt (printed by program: gen_text.py) -/
abbrev mJ0_length_8abf5 : MD := (yJ0_length_8abf5, cJ0_length_8abf5, 1, (Option.some FieldType.int))
theorem dJ0_length_8abf5_0 : decode cJ0_length_8abf5 0 = .ok (.aload_n 0, 1) := by decide +kernel
theorem dJ0_length_8abf5_1 : decode cJ0_length_8abf5 1 = .ok (.getfield 9, 3) := by decide +kernel
theorem dJ0_length_8abf5_4 : decode cJ0_length_8abf5 4 = .ok (.arraylength, 1) := by decide +kernel
theorem dJ0_length_8abf5_5 : decode cJ0_length_8abf5 5 = .ok (.aload_n 0, 1) := by decide +kernel
theorem dJ0_length_8abf5_6 : decode cJ0_length_8abf5 6 = .ok (.invokevirtual 335, 3) := by decide +kernel
theorem dJ0_length_8abf5_9 : decode cJ0_length_8abf5 9 = .ok (.ishr, 1) := by decide +kernel
theorem dJ0_length_8abf5_10 : decode cJ0_length_8abf5 10 = .ok (.ireturn, 1) := by decide +kernel
abbrev mJ0_charAt_5068e : MD := (yJ0_charAt_5068e, cJ0_charAt_5068e, 2, (Option.some FieldType.char))
theorem dJ0_charAt_5068e_0 : decode cJ0_charAt_5068e 0 = .ok (.aload_n 0, 1) := by decide +kernel
theorem dJ0_charAt_5068e_1 : decode cJ0_charAt_5068e 1 = .ok (.invokevirtual 492, 3) := by decide +kernel
theorem dJ0_charAt_5068e_4 : decode cJ0_charAt_5068e 4 = .ok (.ifCond .eq 12, 3) := by decide +kernel
theorem dJ0_charAt_5068e_7 : decode cJ0_charAt_5068e 7 = .ok (.aload_n 0, 1) := by decide +kernel
theorem dJ0_charAt_5068e_8 : decode cJ0_charAt_5068e 8 = .ok (.getfield 9, 3) := by decide +kernel
theorem dJ0_charAt_5068e_11 : decode cJ0_charAt_5068e 11 = .ok (.iload_n 1, 1) := by decide +kernel
theorem dJ0_charAt_5068e_12 : decode cJ0_charAt_5068e 12 = .ok (.invokestatic 495, 3) := by decide +kernel
theorem dJ0_charAt_5068e_15 : decode cJ0_charAt_5068e 15 = .ok (.ireturn, 1) := by decide +kernel
theorem dJ0_charAt_5068e_16 : decode cJ0_charAt_5068e 16 = .ok (.aload_n 0, 1) := by decide +kernel
theorem dJ0_charAt_5068e_17 : decode cJ0_charAt_5068e 17 = .ok (.getfield 9, 3) := by decide +kernel
theorem dJ0_charAt_5068e_20 : decode cJ0_charAt_5068e 20 = .ok (.iload_n 1, 1) := by decide +kernel
theorem dJ0_charAt_5068e_21 : decode cJ0_charAt_5068e 21 = .ok (.invokestatic 498, 3) := by decide +kernel
theorem dJ0_charAt_5068e_24 : decode cJ0_charAt_5068e 24 = .ok (.ireturn, 1) := by decide +kernel
abbrev mJ0_coder_7d493 : MD := (yJ0_coder_7d493, cJ0_coder_7d493, 1, (Option.some FieldType.byte))
theorem dJ0_coder_7d493_0 : decode cJ0_coder_7d493 0 = .ok (.getstatic 38, 3) := by decide +kernel
theorem dJ0_coder_7d493_3 : decode cJ0_coder_7d493 3 = .ok (.ifCond .eq 10, 3) := by decide +kernel
theorem dJ0_coder_7d493_6 : decode cJ0_coder_7d493 6 = .ok (.aload_n 0, 1) := by decide +kernel
theorem dJ0_coder_7d493_7 : decode cJ0_coder_7d493 7 = .ok (.getfield 15, 3) := by decide +kernel
theorem dJ0_coder_7d493_10 : decode cJ0_coder_7d493 10 = .ok (.goto 4, 3) := by decide +kernel
theorem dJ0_coder_7d493_13 : decode cJ0_coder_7d493 13 = .ok (.iconst 1, 1) := by decide +kernel
theorem dJ0_coder_7d493_14 : decode cJ0_coder_7d493 14 = .ok (.ireturn, 1) := by decide +kernel
abbrev mJ0_isLatin1_aae02 : MD := (yJ0_isLatin1_aae02, cJ0_isLatin1_aae02, 1, (Option.some FieldType.boolean))
theorem dJ0_isLatin1_aae02_0 : decode cJ0_isLatin1_aae02 0 = .ok (.getstatic 38, 3) := by decide +kernel
theorem dJ0_isLatin1_aae02_3 : decode cJ0_isLatin1_aae02 3 = .ok (.ifCond .eq 14, 3) := by decide +kernel
theorem dJ0_isLatin1_aae02_6 : decode cJ0_isLatin1_aae02 6 = .ok (.aload_n 0, 1) := by decide +kernel
theorem dJ0_isLatin1_aae02_7 : decode cJ0_isLatin1_aae02 7 = .ok (.getfield 15, 3) := by decide +kernel
theorem dJ0_isLatin1_aae02_10 : decode cJ0_isLatin1_aae02 10 = .ok (.ifCond .ne 7, 3) := by decide +kernel
theorem dJ0_isLatin1_aae02_13 : decode cJ0_isLatin1_aae02 13 = .ok (.iconst 1, 1) := by decide +kernel
theorem dJ0_isLatin1_aae02_14 : decode cJ0_isLatin1_aae02 14 = .ok (.goto 4, 3) := by decide +kernel
theorem dJ0_isLatin1_aae02_17 : decode cJ0_isLatin1_aae02 17 = .ok (.iconst 0, 1) := by decide +kernel
theorem dJ0_isLatin1_aae02_18 : decode cJ0_isLatin1_aae02 18 = .ok (.ireturn, 1) := by decide +kernel
abbrev mJ0_checkIndex_df160 : MD := (yJ0_checkIndex_df160, cJ0_checkIndex_df160, 2, (Option.none : Option FieldType))
theorem dJ0_checkIndex_df160_0 : decode cJ0_checkIndex_df160 0 = .ok (.iload_n 0, 1) := by decide +kernel
theorem dJ0_checkIndex_df160_1 : decode cJ0_checkIndex_df160 1 = .ok (.iload_n 1, 1) := by decide +kernel
theorem dJ0_checkIndex_df160_2 : decode cJ0_checkIndex_df160 2 = .ok (.getstatic 1053, 3) := by decide +kernel
theorem dJ0_checkIndex_df160_5 : decode cJ0_checkIndex_df160 5 = .ok (.invokestatic 1059, 3) := by decide +kernel
theorem dJ0_checkIndex_df160_8 : decode cJ0_checkIndex_df160 8 = .ok (.pop, 1) := by decide +kernel
theorem dJ0_checkIndex_df160_9 : decode cJ0_checkIndex_df160 9 = .ok (.return_, 1) := by decide +kernel
abbrev mJ1_charAt_3b067 : MD := (yJ1_charAt_3b067, cJ1_charAt_3b067, 2, (Option.some FieldType.char))
theorem dJ1_charAt_3b067_0 : decode cJ1_charAt_3b067 0 = .ok (.iload_n 1, 1) := by decide +kernel
theorem dJ1_charAt_3b067_1 : decode cJ1_charAt_3b067 1 = .ok (.aload_n 0, 1) := by decide +kernel
theorem dJ1_charAt_3b067_2 : decode cJ1_charAt_3b067 2 = .ok (.arraylength, 1) := by decide +kernel
theorem dJ1_charAt_3b067_3 : decode cJ1_charAt_3b067 3 = .ok (.invokestatic 9, 3) := by decide +kernel
theorem dJ1_charAt_3b067_6 : decode cJ1_charAt_3b067 6 = .ok (.aload_n 0, 1) := by decide +kernel
theorem dJ1_charAt_3b067_7 : decode cJ1_charAt_3b067 7 = .ok (.iload_n 1, 1) := by decide +kernel
theorem dJ1_charAt_3b067_8 : decode cJ1_charAt_3b067 8 = .ok (.baload, 1) := by decide +kernel
theorem dJ1_charAt_3b067_9 : decode cJ1_charAt_3b067 9 = .ok (.sipush 255, 3) := by decide +kernel
theorem dJ1_charAt_3b067_12 : decode cJ1_charAt_3b067 12 = .ok (.iand, 1) := by decide +kernel
theorem dJ1_charAt_3b067_13 : decode cJ1_charAt_3b067 13 = .ok (.i2c, 1) := by decide +kernel
theorem dJ1_charAt_3b067_14 : decode cJ1_charAt_3b067 14 = .ok (.ireturn, 1) := by decide +kernel
abbrev mJ3_checkIndex_8e157 : MD := (yJ3_checkIndex_8e157, cJ3_checkIndex_8e157, 3, (Option.some FieldType.int))
theorem dJ3_checkIndex_8e157_0 : decode cJ3_checkIndex_8e157 0 = .ok (.iload_n 0, 1) := by decide +kernel
theorem dJ3_checkIndex_8e157_1 : decode cJ3_checkIndex_8e157 1 = .ok (.ifCond .lt 8, 3) := by decide +kernel
theorem dJ3_checkIndex_8e157_4 : decode cJ3_checkIndex_8e157 4 = .ok (.iload_n 0, 1) := by decide +kernel
theorem dJ3_checkIndex_8e157_5 : decode cJ3_checkIndex_8e157 5 = .ok (.iload_n 1, 1) := by decide +kernel
theorem dJ3_checkIndex_8e157_6 : decode cJ3_checkIndex_8e157 6 = .ok (.if_icmp .lt 10, 3) := by decide +kernel
theorem dJ3_checkIndex_8e157_9 : decode cJ3_checkIndex_8e157 9 = .ok (.aload_n 2, 1) := by decide +kernel
theorem dJ3_checkIndex_8e157_10 : decode cJ3_checkIndex_8e157 10 = .ok (.iload_n 0, 1) := by decide +kernel
theorem dJ3_checkIndex_8e157_11 : decode cJ3_checkIndex_8e157 11 = .ok (.iload_n 1, 1) := by decide +kernel
theorem dJ3_checkIndex_8e157_12 : decode cJ3_checkIndex_8e157 12 = .ok (.invokestatic 95, 3) := by decide +kernel
theorem dJ3_checkIndex_8e157_15 : decode cJ3_checkIndex_8e157 15 = .ok (.athrow, 1) := by decide +kernel
theorem dJ3_checkIndex_8e157_16 : decode cJ3_checkIndex_8e157 16 = .ok (.iload_n 0, 1) := by decide +kernel
theorem dJ3_checkIndex_8e157_17 : decode cJ3_checkIndex_8e157 17 = .ok (.ireturn, 1) := by decide +kernel
/-- what the world says of texts: 100 + j is the row of bytes of the text j, 200 a formatter, if there is one -/
def TXT (x : CX) : Prop :=
  (∀ j, j < 20 → ∀ U H, xZ x U H → va_O "java/lang/String" (xS x j) (Aw x) U H ∧ va_OF "java/lang/String" "coder" "B" (.int 0) (xS x j) (Aw x) U H ∧ va_OF "java/lang/String" "value" "[B" (.ref (xS x (100 + j))) (xS x j) (Aw x) U H ∧ va_T .byte (xS x (100 + j)) (txL j) (fun i => .int (nI (txC j i))) (Aw x) U H) ∧
  (∀ U H, xZ x U H → va_Z "java/lang/String" "COMPACT_STRINGS" "Z" (.int 1) (Aw x) U H) ∧
  ((∀ U H, xZ x U H → va_Z "jdk/internal/util/Preconditions" "SIOOBE_FORMATTER" "Ljava/util/function/BiFunction;" .null (Aw x) U H) ∨ ∀ U H, xZ x U H → va_Z "jdk/internal/util/Preconditions" "SIOOBE_FORMATTER" "Ljava/util/function/BiFunction;" (.ref (xS x 200)) (Aw x) U H)
section TextRows
variable {l : Launch} {x : CX} {M : MD} {d pc : Nat} {lv : List (Nat × Value)} {st rest : List Value} {h : PH} {rc rs n0 : Nat} {Q : Option Value → PH → Prop} {X : String → PH → Prop}
theorem g_txI {j idx : Nat} {n dd : String} {v : Int32} (hd : decode M.2.1 pc = .ok (.getfield idx, 3)) (w : Cond.fieldLink M.1.cls idx "java/lang/String" n dd ∈ BIG) (hz : ∀ U H, xZ x U H → va_OF "java/lang/String" n dd (.int v) (xS x j) (Aw x) U H) (kk : Gm l x M d (pc + 3) lv (.int v :: st) h rc rs n0 Q X) : Gm l x M d pc lv (.retAddr j :: st) h rc rs n0 Q X := by
  intro hx p e R s m args below meth co H locs cells slots mc ms ls ad ad0 hB h1 h2 h3 h4 h5 h6 hb hw' hS ha hn hl hs hlv
  refine vk_getf hB.1 hB.2.1 (hz s s.heap (Z_at hx hb hS hw'.2.2.2.2.2)) hS hB.2.2.2.2.2.1 (big_at hB w) (fun _ h => h) hd ?_
  exact kk hx p e R s m args below meth co H locs cells slots mc ms ls ad ad0 hB h1 h2 h3 h4 h5 h6 hb hw' hS ha hn hl (hs.tail.cons (wv_int _ _)) hlv
theorem g_txA {j k idx : Nat} {n dd : String} (hd : decode M.2.1 pc = .ok (.getfield idx, 3)) (w : Cond.fieldLink M.1.cls idx "java/lang/String" n dd ∈ BIG) (hz : ∀ U H, xZ x U H → va_OF "java/lang/String" n dd (.ref (xS x k)) (xS x j) (Aw x) U H) (kk : Gm l x M d (pc + 3) lv (.retAddr k :: st) h rc rs n0 Q X) : Gm l x M d pc lv (.retAddr j :: st) h rc rs n0 Q X := by
  intro hx p e R s m args below meth co H locs cells slots mc ms ls ad ad0 hB h1 h2 h3 h4 h5 h6 hb hw' hS ha hn hl hs hlv
  refine vk_getf hB.1 hB.2.1 (hz s s.heap (Z_at hx hb hS hw'.2.2.2.2.2)) hS hB.2.2.2.2.2.1 (big_at hB w) (fun _ h => h) hd ?_
  exact kk hx p e R s m args below meth co H locs cells slots mc ms ls ad ad0 hB h1 h2 h3 h4 h5 h6 hb hw' hS ha hn hl (hs.tail.cons (wv_txt _ _)) hlv
theorem g_txlen {k N : Nat} {f : Nat → Value} (hd : decode M.2.1 pc = .ok (.arraylength, 1)) (hz : ∀ U H, xZ x U H → va_T .byte (xS x k) N f (Aw x) U H) (kk : Gm l x M d (pc + 1) lv (.int (Int32.ofNat N) :: st) h rc rs n0 Q X) : Gm l x M d pc lv (.retAddr k :: st) h rc rs n0 Q X := by
  intro hx p e R s m args below meth co H locs cells slots mc ms ls ad ad0 hB h1 h2 h3 h4 h5 h6 hb hw' hS ha hn hl hs hlv
  refine va_tlen hB.1 hB.2.1 (hz s s.heap (Z_at hx hb hS hw'.2.2.2.2.2)) hS rfl hd ?_
  exact kk hx p e R s m args below meth co H locs cells slots mc ms ls ad ad0 hB h1 h2 h3 h4 h5 h6 hb hw' hS ha hn hl (hs.tail.cons (wv_int _ _)) hlv
theorem g_txb {k N : Nat} {f : Nat → Value} {i v : Int32} (hd : decode M.2.1 pc = .ok (.baload, 1)) (hz : ∀ U H, xZ x U H → va_T .byte (xS x k) N f (Aw x) U H) (hi : vp_in i N) (hv : f i.toNatClampNeg = .int v) (kk : Gm l x M d (pc + 1) lv (.int v :: st) h rc rs n0 Q X) : Gm l x M d pc lv (.int i :: .retAddr k :: st) h rc rs n0 Q X := by
  intro hx p e R s m args below meth co H locs cells slots mc ms ls ad ad0 hB h1 h2 h3 h4 h5 h6 hb hw' hS ha hn hl hs hlv
  refine va_tb hB.1 hB.2.1 (hz s s.heap (Z_at hx hb hS hw'.2.2.2.2.2)) hS hi hv hd ?_
  exact kk hx p e R s m args below meth co H locs cells slots mc ms ls ad ad0 hB h1 h2 h3 h4 h5 h6 hb hw' hS ha hn hl (hs.tail.tail.cons (wv_int _ _)) hlv
theorem g_gsI {idx : Nat} {C n dd : String} {v : Int32} (hd : decode M.2.1 pc = .ok (.getstatic idx, 3)) (w : Cond.fieldLink M.1.cls idx C n dd ∈ BIG) (hz : ∀ U H, xZ x U H → va_Z C n dd (.int v) (Aw x) U H) (kk : Gm l x M d (pc + 3) lv (.int v :: st) h rc rs n0 Q X) : Gm l x M d pc lv st h rc rs n0 Q X := by
  intro hx p e R s m args below meth co H locs cells slots mc ms ls ad ad0 hB h1 h2 h3 h4 h5 h6 hb hw' hS ha hn hl hs hlv
  refine va_gets hB.1 hB.2.1 (hz s s.heap (Z_at hx hb hS hw'.2.2.2.2.2)) hS hB.2.2.2.2.2.1 (big_at hB w) (fun _ h => h) hd ?_
  exact kk hx p e R s m args below meth co H locs cells slots mc ms ls ad ad0 hB h1 h2 h3 h4 h5 h6 hb hw' hS ha hn hl (hs.cons (wv_int _ _)) hlv
theorem g_gsN {idx : Nat} {C n dd : String} (hd : decode M.2.1 pc = .ok (.getstatic idx, 3)) (w : Cond.fieldLink M.1.cls idx C n dd ∈ BIG) (hz : ∀ U H, xZ x U H → va_Z C n dd .null (Aw x) U H) (kk : Gm l x M d (pc + 3) lv (.null :: st) h rc rs n0 Q X) : Gm l x M d pc lv st h rc rs n0 Q X := by
  intro hx p e R s m args below meth co H locs cells slots mc ms ls ad ad0 hB h1 h2 h3 h4 h5 h6 hb hw' hS ha hn hl hs hlv
  refine va_gets hB.1 hB.2.1 (hz s s.heap (Z_at hx hb hS hw'.2.2.2.2.2)) hS hB.2.2.2.2.2.1 (big_at hB w) (fun _ h => h) hd ?_
  exact kk hx p e R s m args below meth co H locs cells slots mc ms ls ad ad0 hB h1 h2 h3 h4 h5 h6 hb hw' hS ha hn hl (hs.cons (wv_null _)) hlv
theorem g_gsA {idx k : Nat} {C n dd : String} (hd : decode M.2.1 pc = .ok (.getstatic idx, 3)) (w : Cond.fieldLink M.1.cls idx C n dd ∈ BIG) (hz : ∀ U H, xZ x U H → va_Z C n dd (.ref (xS x k)) (Aw x) U H) (kk : Gm l x M d (pc + 3) lv (.retAddr k :: st) h rc rs n0 Q X) : Gm l x M d pc lv st h rc rs n0 Q X := by
  intro hx p e R s m args below meth co H locs cells slots mc ms ls ad ad0 hB h1 h2 h3 h4 h5 h6 hb hw' hS ha hn hl hs hlv
  refine va_gets hB.1 hB.2.1 (hz s s.heap (Z_at hx hb hS hw'.2.2.2.2.2)) hS hB.2.2.2.2.2.1 (big_at hB w) (fun _ h => h) hd ?_
  exact kk hx p e R s m args below meth co H locs cells slots mc ms ls ad ad0 hB h1 h2 h3 h4 h5 h6 hb hw' hS ha hn hl (hs.cons (wv_txt _ _)) hlv
theorem g_nret {v : Int32} {ty : FieldType} (hd : decode M.2.1 pc = .ok (.ireturn, 1)) (hr : M.2.2.2 = some ty) (hv : narrow ty (.int v) = .int v) (hq : Q (some (.int v)) h) : Gm l x M d pc lv ([.int v]) h rc rs n0 Q X := by
  intro hx p e R s m args below meth co H locs cells slots mc ms ls ad ad0 hB h1 h2 h3 h4 h5 h6 hb hw' hS ha hn hl hs hlv
  refine W.widen (k := mc) (n := ms) (by omega) (by omega) (vx_ret ?_)
  exact W.zret hB.1 hB.2.1 (hB.2.2.1.trans hr) hv (fun t ht hW => ⟨⟨(some (.int v)), h, ad, rfl, hq, ha, hn, (fun w e => by cases e; exact hs.head), by rw [ht]; exact hw'.p⟩, hS.F ht⟩) hS.2.2 hd hB.2.2.2.2.2.2.1
theorem g_callT {M' : MD} {d' mc ms rc' rs' idx j : Nat} {Q' : Option Value → PH → Prop} {X' : String → PH → Prop} {As : List Value} (hd : decode M.2.1 pc = .ok (.invokevirtual idx, 3)) (w0 : Cond.methodLink M.1.cls idx M'.1 ∈ BIG) (w1 : Cond.instanceMethod M'.1 ∈ BIG) (w2 : Cond.selects M'.1.cls M'.1 M'.1 ∈ BIG) (w3 : Cond.initialized M'.1.cls ∈ BIG) (w4 : Cond.code M'.1 M'.2.1 M'.2.2.1 M'.2.2.2 ∈ BIG) (hpl : M'.1.cls ≠ "java/lang/invoke/MethodHandle" ∧ M'.1.cls ≠ "java/lang/invoke/VarHandle" ∧ (parseMethodDescriptor M'.1.desc).map (fun d => d.parameters.length) = some As.length) (hdd : d' + 1 ≤ d) (hml : M'.2.2.1 ≤ 22) (hcat : (rest.map fun v => v.category).sum ≤ 8) (hO : ∀ U H, xZ x U H → va_O M'.1.cls (xS x j) (Aw x) U H)
    (hM : Cm l x M' d' mc ms (.retAddr j :: As) h Q' X') (hc : rc' + mc ≤ rc) (hm : rs' + ms ≤ rs) (hX : ∀ E h', ¬ X' E h') (k : ∀ v h', Q' v h' → hN h ≤ hN h' → Gm l x M d (pc + 3) lv (v.toList ++ rest) h' rc' rs' n0 Q X) : Gm l x M d pc lv (As.reverse ++ .retAddr j :: rest) h rc rs n0 Q X := by
  refine Gm.callG (rest := rest) hc hm wvs_rest ?_ hX k
  intro hx p e R s m args below meth co H locs cells slots ls ad hB h1 h2 h3 h4 hw hs hsz
  have hrecv : ∃ cell : Cell, H[xS x j]? = some cell ∧ cell.vm.isStatics = false ∧ s.vm.findClass M'.1.cls = some cell.cls := by
    obtain ⟨cell, q1, q2, q3, -⟩ := hO s H hw.2.2.2.2.2
    exact ⟨cell, q1, q2, q3⟩
  have cw := cwV (R := R) (rm := { frames := d', cells := mc, slots := ms, locals := 41 * d' }) (mc := mc) (ms := ms) (C := M'.1.cls) (ws := .code M'.1 M'.2.1 M'.2.2.1 M'.2.2.2 :: BIG) (ws' := BIG) As.length hB.2.2.2.2.1 (goodBig (by
    intro w hw
    rcases List.mem_append.mp hw with hw | hw
    · simp only [List.mem_cons, List.not_mem_nil, or_false] at hw
      rcases hw with rfl | rfl | rfl | rfl
      · exact w0
      · exact w1
      · exact w2
      · exact w3
    · rcases List.mem_cons.mp hw with rfl | hw
      · exact w4
      · exact hw)) rfl rfl rfl ⟨rfl, hpl.1, hpl.2.1, hpl.2.2⟩ ⟨show d' + 1 ≤ R.frames by omega, show 8 + (M'.2.2.1 + 11) + 41 * d' ≤ R.locals by omega⟩
  exact vx_runV (As := As.map (rv (xS x) ad)) (rest := rest.map (rv (xS x) ad)) (b := xS x j) (locs := locs) ⟨hB.1, hB.2.1, hB.2.2.2.1, hB.2.2.2.2.2.1, hB.2.2.2.2.1⟩ (hM hx ad) cw ⟨blindW hx, hrecv, fun U hU hW => ⟨rfl, by rw [hU]; exact hw.moved hx hW, wvs_args hs⟩⟩ rfl (by rw [List.length_map]) hsz (rv_list As rest (.retAddr j)) (lv_room (by rw [rvs_cat]; exact hcat)) hd ⟨h3, h4⟩
end TextRows
section TextK
variable {l : Launch} {x : CX} {h : PH} {j i n : Nat} {v : Value}
theorem tx_lt : ∀ j, j < 20 → txL j < 8 ∧ ∀ i, i < txL j → txC j i < 128 := by decide +kernel
theorem tx_shr : ∀ n, n < 8 → nI n >>> ((0 : Int32) &&& 31) = nI n := by decide +kernel
theorem tx_ch : ∀ c, c < 128 → ((nI c &&& 255).toUInt32 % 65536).toInt32 = nI c := by decide +kernel
theorem tx_nar : ∀ c, c < 128 → narrow .char (.int (nI c)) = .int (nI c) := by decide +kernel
theorem t_coder (T : TXT x) (hj : j < 20) : CI l x mJ0_coder_7d493 0 0 0 [.retAddr j] h (fun r h' => r = 0 ∧ h' = h) := by
  refine Cm.ofF (by decide +kernel) (Nat.le_of_ble_eq_true rfl) ?_
  show Gm l x mJ0_coder_7d493 0 0 [(0, .retAddr j)] [] h 0 0 (hN h) _ _
  refine g_gsI dJ0_coder_7d493_0 bw_794 T.2.1 ?_
  refine g_if_eq (tgt := 13) dJ0_coder_7d493_3 (by decide) (fun c => absurd c (by decide)) (fun _ => ?_)
  refine g_aload_nT dJ0_coder_7d493_6 rfl 0 rfl ?_
  refine g_txI dJ0_coder_7d493_7 bw_1764 (fun U H z => (T.1 j hj U H z).2.1) ?_
  refine g_goto (tgt := 14) dJ0_coder_7d493_10 (by decide) ?_
  exact g_nret dJ0_coder_7d493_14 rfl rfl ⟨_, rfl, rfl, rfl⟩
theorem t_isLatin1 (T : TXT x) (hj : j < 20) : CI l x mJ0_isLatin1_aae02 0 0 0 [.retAddr j] h (fun r h' => r = 1 ∧ h' = h) := by
  refine Cm.ofF (by decide +kernel) (Nat.le_of_ble_eq_true rfl) ?_
  show Gm l x mJ0_isLatin1_aae02 0 0 [(0, .retAddr j)] [] h 0 0 (hN h) _ _
  refine g_gsI dJ0_isLatin1_aae02_0 bw_794 T.2.1 ?_
  refine g_if_eq (tgt := 17) dJ0_isLatin1_aae02_3 (by decide) (fun c => absurd c (by decide)) (fun _ => ?_)
  refine g_aload_nT dJ0_isLatin1_aae02_6 rfl 0 rfl ?_
  refine g_txI dJ0_isLatin1_aae02_7 bw_1764 (fun U H z => (T.1 j hj U H z).2.1) ?_
  refine g_if_ne (tgt := 17) dJ0_isLatin1_aae02_10 (by decide) (fun c => absurd rfl c) (fun _ => ?_)
  refine g_iconst (v := 1) dJ0_isLatin1_aae02_13 (by decide) ?_
  refine g_goto (tgt := 18) dJ0_isLatin1_aae02_14 (by decide) ?_
  exact g_zret dJ0_isLatin1_aae02_18 rfl (Or.inr rfl) ⟨_, rfl, rfl, rfl⟩
theorem t_length (T : TXT x) (hj : j < 20) : CI l x mJ0_length_8abf5 1 0 0 [.retAddr j] h (fun r h' => r = nI (txL j) ∧ h' = h) := by
  refine Cm.ofF (by decide +kernel) (Nat.le_of_ble_eq_true rfl) ?_
  show Gm l x mJ0_length_8abf5 1 0 [(0, .retAddr j)] [] h 0 0 (hN h) _ _
  refine g_aload_nT dJ0_length_8abf5_0 rfl 0 rfl ?_
  refine g_txA (k := 100 + j) dJ0_length_8abf5_1 bw_1763 (fun U H z => (T.1 j hj U H z).2.2.1) ?_
  refine g_txlen dJ0_length_8abf5_4 (fun U H z => (T.1 j hj U H z).2.2.2) ?_
  refine g_aload_nT dJ0_length_8abf5_5 rfl 0 rfl ?_
  refine g_callT (M' := mJ0_coder_7d493) (j := j) (As := []) (rest := [.int (Int32.ofNat (txL j))]) (rc' := 0) (rs' := 0) dJ0_length_8abf5_6 bw_790 bw_791 bw_792 bw_15 bw_793 ⟨by decide +kernel, by decide +kernel, show (parseMethodDescriptor mJ0_coder_7d493.1.desc).map (fun d => d.parameters.length) = some 0 by decide +kernel⟩ (by decide) (by decide) (Nat.le_of_ble_eq_true rfl) (fun U H z => (T.1 j hj U H z).1) (t_coder T hj) (Nat.le_refl _) (Nat.le_refl _) (fun _ _ h => h) ?_
  rintro _ h1 ⟨r, rfl, rfl, rfl⟩ -
  show Gm l x mJ0_length_8abf5 1 9 [(0, .retAddr j)] [.int 0, .int (Int32.ofNat (txL j))] h1 0 0 (hN h1) _ _
  refine g_ishr dJ0_length_8abf5_9 (g_iret dJ0_length_8abf5_10 rfl ⟨_, rfl, tx_shr _ (tx_lt j hj).1, rfl⟩)
theorem t_chk3 (hv : v = .null ∨ v = .retAddr 200) (hi : i < n) (hn : n < 1000) : CI l x mJ3_checkIndex_8e157 0 0 0 [.int (nI i), .int (nI n), v] h (fun r h' => r = nI i ∧ h' = h) := by
  rcases hv with rfl | rfl
  · refine Cm.ofF (by decide +kernel) (Nat.le_of_ble_eq_true rfl) ?_
    show Gm l x mJ3_checkIndex_8e157 0 0 [(0, .int (nI i)), (1, .int (nI n)), (2, .null)] [] h 0 0 (hN h) _ _
    refine g_iload_n dJ3_checkIndex_8e157_0 rfl 0 rfl ?_
    refine g_if_lt (tgt := 9) dJ3_checkIndex_8e157_1 (by decide) (fun c => absurd c (nI_pos (by omega))) (fun _ => ?_)
    refine g_iload_n dJ3_checkIndex_8e157_4 rfl 0 rfl (g_iload_n dJ3_checkIndex_8e157_5 rfl 1 rfl ?_)
    refine g_icmp_lt (tgt := 16) dJ3_checkIndex_8e157_6 (by decide) (fun _ => ?_) (fun c => absurd (nI_lt hi (by omega)) c)
    exact g_iload_n dJ3_checkIndex_8e157_16 rfl 0 rfl (g_iret dJ3_checkIndex_8e157_17 rfl ⟨_, rfl, rfl, rfl⟩)
  · refine Cm.ofF (by decide +kernel) (Nat.le_of_ble_eq_true rfl) ?_
    show Gm l x mJ3_checkIndex_8e157 0 0 [(0, .int (nI i)), (1, .int (nI n)), (2, .retAddr 200)] [] h 0 0 (hN h) _ _
    refine g_iload_n dJ3_checkIndex_8e157_0 rfl 0 rfl ?_
    refine g_if_lt (tgt := 9) dJ3_checkIndex_8e157_1 (by decide) (fun c => absurd c (nI_pos (by omega))) (fun _ => ?_)
    refine g_iload_n dJ3_checkIndex_8e157_4 rfl 0 rfl (g_iload_n dJ3_checkIndex_8e157_5 rfl 1 rfl ?_)
    refine g_icmp_lt (tgt := 16) dJ3_checkIndex_8e157_6 (by decide) (fun _ => ?_) (fun c => absurd (nI_lt hi (by omega)) c)
    exact g_iload_n dJ3_checkIndex_8e157_16 rfl 0 rfl (g_iret dJ3_checkIndex_8e157_17 rfl ⟨_, rfl, rfl, rfl⟩)
theorem t_chkS (T : TXT x) (hi : i < n) (hn : n < 1000) : CV l x mJ0_checkIndex_df160 1 0 0 [.int (nI i), .int (nI n)] h (fun h' => h' = h) := by
  refine Cm.ofF (by decide +kernel) (Nat.le_of_ble_eq_true rfl) ?_
  show Gm l x mJ0_checkIndex_df160 1 0 [(0, .int (nI i)), (1, .int (nI n))] [] h 0 0 (hN h) _ _
  refine g_iload_n dJ0_checkIndex_df160_0 rfl 0 rfl (g_iload_n dJ0_checkIndex_df160_1 rfl 1 rfl ?_)
  have go : ∀ v : Value, v = .null ∨ v = .retAddr 200 → Gm l x mJ0_checkIndex_df160 1 5 [(0, .int (nI i)), (1, .int (nI n))] [v, .int (nI n), .int (nI i)] h 0 0 (hN h) (fun v h' => v = none ∧ h' = h) (fun _ _ => False) := fun v hv => by
    refine g_callS (M' := mJ3_checkIndex_8e157) (As := [.int (nI i), .int (nI n), v]) (rest := []) (rc' := 0) (rs' := 0) dJ0_checkIndex_df160_5 bw_812 bw_813 bw_17 bw_814 ⟨by decide +kernel, by decide +kernel, show (parseMethodDescriptor mJ3_checkIndex_8e157.1.desc).map (fun d => d.parameters.length) = some 3 by decide +kernel⟩ (by decide) (by decide) (Nat.le_of_ble_eq_true rfl) (t_chk3 hv hi hn) (Nat.le_refl _) (Nat.le_refl _) (fun _ _ h => h) ?_
    rintro _ h1 ⟨r, rfl, rfl, rfl⟩ -
    exact g_pop dJ0_checkIndex_df160_8 rfl (g_vret dJ0_checkIndex_df160_9 rfl ⟨rfl, rfl⟩)
  rcases T.2.2 with z | z
  · exact g_gsN dJ0_checkIndex_df160_2 bw_810 z (go _ (Or.inl rfl))
  · exact g_gsA dJ0_checkIndex_df160_2 bw_810 z (go _ (Or.inr rfl))
theorem t_lat (T : TXT x) (hj : j < 20) (hi : i < txL j) : CI l x mJ1_charAt_3b067 2 0 0 [.retAddr (100 + j), .int (nI i)] h (fun r h' => r = nI (txC j i) ∧ h' = h) := by
  have l8 := (tx_lt j hj).1
  have c8 := (tx_lt j hj).2 i hi
  refine Cm.ofF (by decide +kernel) (Nat.le_of_ble_eq_true rfl) ?_
  show Gm l x mJ1_charAt_3b067 2 0 [(0, .retAddr (100 + j)), (1, .int (nI i))] [] h 0 0 (hN h) _ _
  refine g_iload_n dJ1_charAt_3b067_0 rfl 1 rfl (g_aload_nT dJ1_charAt_3b067_1 rfl 0 rfl ?_)
  refine g_txlen dJ1_charAt_3b067_2 (fun U H z => (T.1 j hj U H z).2.2.2) ?_
  refine g_callS (M' := mJ0_checkIndex_df160) (As := [.int (nI i), .int (nI (txL j))]) (rest := []) (rc' := 0) (rs' := 0) dJ1_charAt_3b067_3 bw_807 bw_808 bw_15 bw_809 ⟨by decide +kernel, by decide +kernel, show (parseMethodDescriptor mJ0_checkIndex_df160.1.desc).map (fun d => d.parameters.length) = some 2 by decide +kernel⟩ (by decide) (by decide) (Nat.le_of_ble_eq_true rfl) (t_chkS T hi (by omega)) (Nat.le_refl _) (Nat.le_refl _) (fun _ _ h => h) ?_
  rintro _ h1 ⟨rfl, rfl⟩ -
  show Gm l x mJ1_charAt_3b067 2 6 [(0, .retAddr (100 + j)), (1, .int (nI i))] [] h1 0 0 (hN h1) _ _
  refine g_aload_nT dJ1_charAt_3b067_6 rfl 0 rfl (g_iload_n dJ1_charAt_3b067_7 rfl 1 rfl ?_)
  refine g_txb (v := nI (txC j i)) dJ1_charAt_3b067_8 (fun U H z => (T.1 j hj U H z).2.2.2) (vp_in_nI hi (by omega)) (by rw [nI_clamp (by omega)]) ?_
  refine g_sipush (v := 255) dJ1_charAt_3b067_9 (by decide) (g_iand dJ1_charAt_3b067_12 (g_i2c dJ1_charAt_3b067_13 ?_))
  rw [tx_ch _ c8]
  exact g_nret dJ1_charAt_3b067_14 rfl (tx_nar _ c8) ⟨_, rfl, rfl, rfl⟩
theorem t_charAt (T : TXT x) (hj : j < 20) (hi : i < txL j) : CI l x mJ0_charAt_5068e 3 0 0 [.retAddr j, .int (nI i)] h (fun r h' => r = nI (txC j i) ∧ h' = h) := by
  have c8 := (tx_lt j hj).2 i hi
  refine Cm.ofF (by decide +kernel) (Nat.le_of_ble_eq_true rfl) ?_
  show Gm l x mJ0_charAt_5068e 3 0 [(0, .retAddr j), (1, .int (nI i))] [] h 0 0 (hN h) _ _
  refine g_aload_nT dJ0_charAt_5068e_0 rfl 0 rfl ?_
  refine g_callT (M' := mJ0_isLatin1_aae02) (j := j) (As := []) (rest := []) (rc' := 0) (rs' := 0) dJ0_charAt_5068e_1 bw_800 bw_801 bw_802 bw_15 bw_803 ⟨by decide +kernel, by decide +kernel, show (parseMethodDescriptor mJ0_isLatin1_aae02.1.desc).map (fun d => d.parameters.length) = some 0 by decide +kernel⟩ (by decide) (by decide) (Nat.le_of_ble_eq_true rfl) (fun U H z => (T.1 j hj U H z).1) (t_isLatin1 T hj) (Nat.le_refl _) (Nat.le_refl _) (fun _ _ h => h) ?_
  rintro _ h1 ⟨r, rfl, rfl, rfl⟩ -
  show Gm l x mJ0_charAt_5068e 3 4 [(0, .retAddr j), (1, .int (nI i))] [.int 1] h1 0 0 (hN h1) _ _
  refine g_if_eq (tgt := 16) dJ0_charAt_5068e_4 (by decide) (fun c => absurd c (by decide)) (fun _ => ?_)
  refine g_aload_nT dJ0_charAt_5068e_7 rfl 0 rfl ?_
  refine g_txA (k := 100 + j) dJ0_charAt_5068e_8 bw_1763 (fun U H z => (T.1 j hj U H z).2.2.1) ?_
  refine g_iload_n dJ0_charAt_5068e_11 rfl 1 rfl ?_
  refine g_callS (M' := mJ1_charAt_3b067) (As := [.retAddr (100 + j), .int (nI i)]) (rest := []) (rc' := 0) (rs' := 0) dJ0_charAt_5068e_12 bw_804 bw_805 bw_16 bw_806 ⟨by decide +kernel, by decide +kernel, show (parseMethodDescriptor mJ1_charAt_3b067.1.desc).map (fun d => d.parameters.length) = some 2 by decide +kernel⟩ (by decide) (by decide) (Nat.le_of_ble_eq_true rfl) (t_lat T hj hi) (Nat.le_refl _) (Nat.le_refl _) (fun _ _ h => h) ?_
  rintro _ h2 ⟨r, rfl, rfl, rfl⟩ -
  exact g_nret dJ0_charAt_5068e_15 rfl (tx_nar _ c8) ⟨_, rfl, rfl, rfl⟩
theorem TXT.xs (T : TXT x) : XS l x := by
  refine ⟨fun j v hj => ?_, fun j v hj => ?_, fun j i v hj hi => ?_, fun j hj => ?_, fun j v hj => ?_, fun j i hj hi => ?_⟩
  · intro lv h rc rs n0 Q X K
    refine g_callT (M' := mJ0_length_8abf5) (j := j) (As := []) (rest := [.int v]) (rc' := rc) (rs' := rs) dX4_isWord_18 bw_786 bw_787 bw_788 bw_15 bw_789 ⟨by decide +kernel, by decide +kernel, show (parseMethodDescriptor mJ0_length_8abf5.1.desc).map (fun d => d.parameters.length) = some 0 by decide +kernel⟩ (by decide) (by decide) (Nat.le_of_ble_eq_true rfl) (fun U H z => (T.1 j hj U H z).1) (t_length T hj) (Nat.le_of_eq (Nat.add_zero _)) (Nat.le_of_eq (Nat.add_zero _)) (fun _ _ h => h) ?_
    rintro _ h1 ⟨r, rfl, rfl, rfl⟩ -
    exact K
  · intro lv h rc rs n0 Q X K
    refine g_callT (M' := mJ0_length_8abf5) (j := j) (As := []) (rest := [.int v]) (rc' := rc) (rs' := rs) dX4_isWord_30 bw_786 bw_787 bw_788 bw_15 bw_789 ⟨by decide +kernel, by decide +kernel, show (parseMethodDescriptor mJ0_length_8abf5.1.desc).map (fun d => d.parameters.length) = some 0 by decide +kernel⟩ (by decide) (by decide) (Nat.le_of_ble_eq_true rfl) (fun U H z => (T.1 j hj U H z).1) (t_length T hj) (Nat.le_of_eq (Nat.add_zero _)) (Nat.le_of_eq (Nat.add_zero _)) (fun _ _ h => h) ?_
    rintro _ h1 ⟨r, rfl, rfl, rfl⟩ -
    exact K
  · intro lv h rc rs n0 Q X K
    refine g_callT (M' := mJ0_charAt_5068e) (j := j) (As := [.int (nI i)]) (rest := [.int v]) (rc' := rc) (rs' := rs) dX4_isWord_49 bw_796 bw_797 bw_798 bw_15 bw_799 ⟨by decide +kernel, by decide +kernel, show (parseMethodDescriptor mJ0_charAt_5068e.1.desc).map (fun d => d.parameters.length) = some 1 by decide +kernel⟩ (by decide) (by decide) (Nat.le_of_ble_eq_true rfl) (fun U H z => (T.1 j hj U H z).1) (t_charAt T hj hi) (Nat.le_of_eq (Nat.add_zero _)) (Nat.le_of_eq (Nat.add_zero _)) (fun _ _ h => h) ?_
    rintro _ h1 ⟨r, rfl, rfl, rfl⟩ -
    exact K
  · intro lv h rc rs n0 Q X K
    refine g_callT (M' := mJ0_length_8abf5) (j := j) (As := []) (rest := []) (rc' := rc) (rs' := rs) dX8_is_16 bw_1369 bw_787 bw_788 bw_15 bw_789 ⟨by decide +kernel, by decide +kernel, show (parseMethodDescriptor mJ0_length_8abf5.1.desc).map (fun d => d.parameters.length) = some 0 by decide +kernel⟩ (by decide) (by decide) (Nat.le_of_ble_eq_true rfl) (fun U H z => (T.1 j hj U H z).1) (t_length T hj) (Nat.le_of_eq (Nat.add_zero _)) (Nat.le_of_eq (Nat.add_zero _)) (fun _ _ h => h) ?_
    rintro _ h1 ⟨r, rfl, rfl, rfl⟩ -
    exact K
  · intro lv h rc rs n0 Q X K
    refine g_callT (M' := mJ0_length_8abf5) (j := j) (As := []) (rest := [.int v]) (rc' := rc) (rs' := rs) dX8_is_45 bw_1369 bw_787 bw_788 bw_15 bw_789 ⟨by decide +kernel, by decide +kernel, show (parseMethodDescriptor mJ0_length_8abf5.1.desc).map (fun d => d.parameters.length) = some 0 by decide +kernel⟩ (by decide) (by decide) (Nat.le_of_ble_eq_true rfl) (fun U H z => (T.1 j hj U H z).1) (t_length T hj) (Nat.le_of_eq (Nat.add_zero _)) (Nat.le_of_eq (Nat.add_zero _)) (fun _ _ h => h) ?_
    rintro _ h1 ⟨r, rfl, rfl, rfl⟩ -
    exact K
  · intro lv h rc rs n0 Q X K
    refine g_callT (M' := mJ0_charAt_5068e) (j := j) (As := [.int (nI i)]) (rest := []) (rc' := rc) (rs' := rs) dX8_is_53 bw_1370 bw_797 bw_798 bw_15 bw_799 ⟨by decide +kernel, by decide +kernel, show (parseMethodDescriptor mJ0_charAt_5068e.1.desc).map (fun d => d.parameters.length) = some 1 by decide +kernel⟩ (by decide) (by decide) (Nat.le_of_ble_eq_true rfl) (fun U H z => (T.1 j hj U H z).1) (t_charAt T hj hi) (Nat.le_of_eq (Nat.add_zero _)) (Nat.le_of_eq (Nat.add_zero _)) (fun _ _ h => h) ?_
    rintro _ h1 ⟨r, rfl, rfl, rfl⟩ -
    exact K
end TextK
