/-! THE WORLD AT THE LAW'S START (printed by program: gen_world.py) -/
/-- what was there stays, and so do the tables' words -/
def zW (s : State) : State → Heap → Prop := fun U H => s.WarmedH U.vm ∧ ∀ q : Nat, q < s.heap.size → H[q]? = s.heap[q]?
theorem w_fc : ∀ k, k < 9 → FCok k := fun k hk => match k, hk with
  | 0, _ => fc_0
  | 1, _ => fc_1
  | 2, _ => fc_2
  | 3, _ => fc_3
  | 4, _ => fc_4
  | 5, _ => fc_5
  | 6, _ => fc_6
  | 7, _ => fc_7
  | 8, _ => fc_8
  | k + 9, h => absurd h (by omega)
set_option maxRecDepth 20000 in
theorem w_inst : ∀ k, k < 9 → Cond.instantiable (RC k) (nf k) ∈ lw_tbl := by decide +kernel
def wO (j : Nat) : String := if j < 10 then RX4 else RX8
def wI (j : Nat) : Nat := [88, 97, 102, 107, 115, 119, 123, 138, 140, 149, 9, 11, 13, 15, 17, 19, 21, 180, 182, 184].getD j 0
def wTm (j : Nat) : Term := .string (wO j) (wI j)
def wEl (j i : Nat) : Cond := .eq (.elem (.field (wTm j) "java/lang/String" "value" "[B") (.int (Int32.ofNat i))) (.int (nI (txC j i)))
abbrev wGv : List Cond := flatC (Jvm.Cond.and given_1 narrow_1)
/-- where the words of a text stand -/
def wB (j : Nat) : Nat := [65, 75, 104, 123, 132, 140, 150, 82, 93, 113, 611, 622, 630, 640, 650, 659, 670, 679, 691, 703].getD j 0
set_option maxRecDepth 20000 in
theorem w_ex0 : ∀ j, j < 20 → wGv[wB j]? = some (Cond.exactly (wTm j) "java/lang/String") ∧ wGv[wB j + 1]? = some (Cond.eq (.field (wTm j) "java/lang/String" "coder" "B") (.int 0)) ∧ wGv[wB j + 2]? = some (Cond.arrayOf (.field (wTm j) "java/lang/String" "value" "[B") .byte) ∧ wGv[wB j + 3]? = some (Cond.eq (.length (.field (wTm j) "java/lang/String" "value" "[B")) (.int (Int32.ofNat (txL j)))) := by decide +kernel
theorem w_ex (j : Nat) (hj : j < 20) : Cond.exactly (wTm j) "java/lang/String" ∈ wGv ∧ Cond.eq (.field (wTm j) "java/lang/String" "coder" "B") (.int 0) ∈ wGv ∧ Cond.arrayOf (.field (wTm j) "java/lang/String" "value" "[B") .byte ∈ wGv ∧ Cond.eq (.length (.field (wTm j) "java/lang/String" "value" "[B")) (.int (Int32.ofNat (txL j))) ∈ wGv :=
  ⟨List.mem_of_getElem? (w_ex0 j hj).1, List.mem_of_getElem? (w_ex0 j hj).2.1, List.mem_of_getElem? (w_ex0 j hj).2.2.1, List.mem_of_getElem? (w_ex0 j hj).2.2.2⟩
set_option maxRecDepth 20000 in
theorem w_el0 : ∀ j, j < 20 → ∀ i, i < txL j → wGv[wB j + 4 + i]? = some (wEl j i) := by decide +kernel
theorem w_el (j : Nat) (hj : j < 20) (i : Nat) (hi : i < txL j) : wEl j i ∈ wGv := List.mem_of_getElem? (w_el0 j hj i hi)
section World
variable {s : State} {b : Nat}
theorem w_known (hts : ∀ w ∈ lw_tbl, w.before #[Value.ref b] s = true) : ∃ (dC : Nat → ClassId) (dI : Nat → Nat → Nat), ∀ (k : Nat) (q : vw_C), vwCl[k]? = some q → u_Kn s q.1 q.2.1 q.2.2 (dC k) (dI k) := by
  have hB : ∀ w ∈ BIG, w.before #[Value.ref b] s = true := fun w hw => hts w (List.mem_filter.mp hw).1
  have one : ∀ k : Nat, ∃ z : ClassId × (Nat → Nat), k < 9 → u_Kn s (RC k) (TC k) (nf k) z.1 z.2 := by
    intro k
    by_cases hk : k < 9
    · obtain ⟨c, i, h⟩ := u_known (C := RC k) (T := TC k) (N := nf k) (n := nf k) hB (w_fc k hk).2.1 (hts _ (w_inst k hk))
      exact ⟨(c, i), fun _ => h⟩
    · exact ⟨(0, fun _ => 0), fun h => absurd h hk⟩
  obtain ⟨z, hz⟩ := Classical.axiomOfChoice one
  refine ⟨fun k => (z k).1, fun k => (z k).2, fun k q hq => ?_⟩
  have hk : k < 9 := (List.getElem?_eq_some_iff.mp hq).1
  have e := (w_fc k hk).1
  rw [hq] at e
  rw [Option.some.inj e]
  exact hz k hk
theorem w_prim {ty : FieldType} {args : Array Value} (h : (Cond.arrayClass ty).before args s = true) : ∃ c : ClassId, ArrOfT s c ty ∧ s.vm.findClass ("[" ++ ty.toString) = some c := by
  obtain ⟨c, k, comp, h1, h2, h3⟩ := Cond.arrayClass_spec (args := args) (first := s) (o := none) (s := s) (idx := []) h
  exact ⟨c, fun n z => ⟨fun k h => (by cases h), k, h2, comp, h3⟩, h1⟩
theorem w_objs {C : String} {args : Array Value} (h : (Cond.arrayOver (.object C)).before args s = true) : ∃ c : ClassId, ArrOfT s c (.object C) ∧ va_RA s c (.object C) := by
  obtain ⟨comp, c, k, h1, h2, h3, h4, h5⟩ := Cond.arrayOver_spec (args := args) (first := s) (o := none) (s := s) (idx := []) h
  exact ⟨c, fun n z => ⟨fun k h => (by cases h), k, h3, comp, h4⟩, k, comp, h3, h4, h1, h5⟩
theorem w_arrs (hts : ∀ w ∈ lw_tbl, w.before #[Value.ref b] s = true) : ∃ cA : Nat → ClassId, ∀ (k : Nat) (q : ClassId × FieldType), (tysW cA)[k]? = some q → ArrOfT s q.1 q.2 ∧ va_RA s q.1 q.2 := by
  have one : ∀ t : Nat, ∃ c : ClassId, t < 9 → ArrOfT s c (aty t) ∧ va_RA s c (aty t) := by
    intro t
    by_cases ht : t < 9
    · have : ∃ c : ClassId, ArrOfT s c (aty t) ∧ va_RA s c (aty t) := match t, ht with
        | 0, _ => w_prim (hts (.arrayClass .int) (by decide +kernel))
        | 1, _ => w_prim (hts (.arrayClass .char) (by decide +kernel))
        | 2, _ => w_prim (hts (.arrayClass .boolean) (by decide +kernel))
        | 3, _ => w_prim (hts (.arrayClass .float) (by decide +kernel))
        | 4, _ => w_prim (hts (.arrayClass .long) (by decide +kernel))
        | 5, _ => w_objs (C := RX2) (hts (.arrayOver (.object RX2)) (by decide +kernel))
        | 6, _ => w_objs (C := RX6) (hts (.arrayOver (.object RX6)) (by decide +kernel))
        | 7, _ => w_objs (C := RX1) (hts (.arrayOver (.object RX1)) (by decide +kernel))
        | 8, _ => w_objs (C := "java/lang/String") (hts (.arrayOver (.object "java/lang/String")) (by decide +kernel))
        | k + 9, h => absurd h (by omega)
      obtain ⟨c, h⟩ := this
      exact ⟨c, fun _ => h⟩
    · exact ⟨0, fun h => absurd h ht⟩
  obtain ⟨z, hz⟩ := Classical.axiomOfChoice one
  refine ⟨z, fun k q hq => ?_⟩
  simp only [tysW, List.getElem?_map, Option.map_eq_some_iff] at hq
  obtain ⟨t, ht, rfl⟩ := hq
  have hk : k < 9 := by have h := (List.getElem?_eq_some_iff.mp ht).1; simpa using h
  rw [List.getElem?_range hk] at ht
  cases ht
  exact hz k hk
theorem w_text {A : Nat → Prop} (hg : ∀ w ∈ wGv, w.before #[Value.ref b] s = true) (hA : ∀ a : Nat, a < s.heap.size → ¬ A a) : ∃ ad : Nat → Nat × Nat, ∀ j : Nat, j < 20 → (wTm j).eval #[Value.ref b] s none [] s = some (.ref (ad j).1) ∧ va_O "java/lang/String" (ad j).1 A s s.heap ∧ va_OF "java/lang/String" "coder" "B" (.int 0) (ad j).1 A s s.heap ∧ va_OF "java/lang/String" "value" "[B" (.ref (ad j).2) (ad j).1 A s s.heap ∧ va_T .byte (ad j).2 (txL j) (fun i => .int (nI (txC j i))) A s s.heap := by
  have one : ∀ j : Nat, ∃ q : Nat × Nat, j < 20 → (wTm j).eval #[Value.ref b] s none [] s = some (.ref q.1) ∧ va_O "java/lang/String" q.1 A s s.heap ∧ va_OF "java/lang/String" "coder" "B" (.int 0) q.1 A s s.heap ∧ va_OF "java/lang/String" "value" "[B" (.ref q.2) q.1 A s s.heap ∧ va_T .byte q.2 (txL j) (fun i => .int (nI (txC j i))) A s s.heap := by
    intro j
    by_cases hj : j < 20
    · obtain ⟨e1, e2, e3, e4⟩ := w_ex j hj
      obtain ⟨a, c, cA, kA, q1, q2, q3, q4, q5, q6, -⟩ := Cond.exactly_spec (args := #[Value.ref b]) (first := s) (o := none) (s := s) (idx := []) (t := wTm j) (cls := "java/lang/String") (hg _ e1)
      obtain ⟨t, ht, hT⟩ := va_Tof (f := fun i => .int (nI (txC j i))) (A := A) (Nat.lt_of_lt_of_le (tx_lt j hj).1 (by decide)) (hg _ e3) (va_eqt (hg _ e4)) (fun i hi => va_eqt (hg _ (w_el j hj i hi))) hA
      exact ⟨(a, t), fun _ => ⟨q1, ⟨cA, q3, q5, by rw [q6]; exact q2, hA a (Array.getElem?_eq_some_iff.mp q3).1⟩, vk_OFof q1 (va_eqt (hg _ e2)) hA, vk_OFof q1 ht hA, hT⟩⟩
    · exact ⟨(0, 0), fun h => absurd h hj⟩
  exact Classical.axiomOfChoice one
theorem w_msg {idx : Nat} {tx : String} (hts : ∀ w ∈ lw_tbl, w.before #[Value.ref b] s = true) (hg : ∀ w ∈ wGv, w.before #[Value.ref b] s = true) (h1 : Cond.stringRef RX7 idx tx ∈ lw_tbl) (h2 : Cond.exactly (.string RX7 idx) "java/lang/String" ∈ wGv) : ∃ a, vk_R RX7 idx tx a s := by
  obtain ⟨a, c, cA, kA, q1, -⟩ := Cond.exactly_spec (args := #[Value.ref b]) (first := s) (o := none) (s := s) (idx := []) (t := .string RX7 idx) (cls := "java/lang/String") (hg _ h2)
  exact ⟨a, vk_R.of (hts _ h1) q1⟩
/-- a world at the start: all that the law's body asks for -/
theorem w_world {L : Nat} {xs : Nat → Int32} (hts : ∀ w ∈ lw_tbl, w.before #[Value.ref b] s = true) (hX : va_X b L xs s s.heap) (hbl : b < s.heap.size) (hgv : (Jvm.Cond.and given_1 narrow_1).before #[Value.ref b] s = true) : ∃ x : CX, xB x = s.heap.size ∧ xS x 999 = b ∧ xZ x = zW s ∧ va_K (xD x) vwCl (tysW (xA x)) s ∧ XN x ∧ TXT x ∧ NcOk x ∧ ScrOk x L xs := by
  have hg : ∀ w ∈ wGv, w.before #[Value.ref b] s = true := flat_of_before _ hgv
  have hA : ∀ a : Nat, a < s.heap.size → ¬ (fun q : Nat => s.heap.size ≤ q) a := fun a h => Nat.not_le.mpr h
  obtain ⟨dC, dI, hK1⟩ := w_known hts
  obtain ⟨cA, hK2⟩ := w_arrs hts
  obtain ⟨ad, had⟩ := w_text (A := fun q : Nat => s.heap.size ≤ q) hg hA
  have hF := va_Zqof (A := fun q : Nat => s.heap.size ≤ q) (hts (.laysStatic "jdk/internal/util/Preconditions" "SIOOBE_FORMATTER" "Ljava/util/function/BiFunction;") (by decide +kernel)) (hts (.initialized "jdk/internal/util/Preconditions") (by decide +kernel)) (hg (.isRef (.static "jdk/internal/util/Preconditions" "SIOOBE_FORMATTER" "Ljava/util/function/BiFunction;")) (by decide +kernel)) hA
  have hC := va_Zof (A := fun q : Nat => s.heap.size ≤ q) (hts (.laysStatic "java/lang/String" "COMPACT_STRINGS" "Z") (by decide +kernel)) (hts (.initialized "java/lang/String") (by decide +kernel)) (va_eqt (hg (.eq (.static "java/lang/String" "COMPACT_STRINGS" "Z") (.int 1)) (by decide +kernel))) hA
  have hU := vx_Zqof (A := fun q : Nat => s.heap.size ≤ q) (hts (.laysStatic "java/lang/Throwable" "UNASSIGNED_STACK" "[Ljava/lang/StackTraceElement;") (by decide +kernel)) (hts (.initialized "java/lang/Throwable") (by decide +kernel)) (hg (.isRef (.static "java/lang/Throwable" "UNASSIGNED_STACK" "[Ljava/lang/StackTraceElement;")) (by decide +kernel)) hA
  have hV := vx_Zqof (A := fun q : Nat => s.heap.size ≤ q) (hts (.laysStatic "java/lang/Throwable" "SUPPRESSED_SENTINEL" "Ljava/util/List;") (by decide +kernel)) (hts (.initialized "java/lang/Throwable") (by decide +kernel)) (hg (.isRef (.static "java/lang/Throwable" "SUPPRESSED_SENTINEL" "Ljava/util/List;")) (by decide +kernel)) hA
  obtain ⟨tf, hF⟩ : ∃ tf : Nat, va_Z "jdk/internal/util/Preconditions" "SIOOBE_FORMATTER" "Ljava/util/function/BiFunction;" .null (fun q : Nat => s.heap.size ≤ q) s s.heap ∨ va_Z "jdk/internal/util/Preconditions" "SIOOBE_FORMATTER" "Ljava/util/function/BiFunction;" (.ref tf) (fun q : Nat => s.heap.size ≤ q) s s.heap := by
    rcases hF with h | ⟨t, h⟩
    · exact ⟨0, .inl h⟩
    · exact ⟨t, .inr h⟩
  obtain ⟨sa, s1, s2, s3, s4⟩ : ∃ sa : Nat → Nat, (∀ j, j < 20 → sa j = (ad j).1) ∧ (∀ j, j < 20 → sa (100 + j) = (ad j).2) ∧ sa 200 = tf ∧ sa 999 = b := by
    refine ⟨fun k => if k < 20 then (ad k).1 else if k < 120 then (ad (k - 100)).2 else if k = 200 then tf else b, fun j hj => if_pos hj, fun j hj => ?_, rfl, rfl⟩
    show (if 100 + j < 20 then (ad (100 + j)).1 else if 100 + j < 120 then (ad (100 + j - 100)).2 else if 100 + j = 200 then tf else b) = (ad j).2
    rw [if_neg (by omega), if_pos (by omega), Nat.add_sub_cancel_left]
  obtain ⟨x, hx⟩ : ∃ x : CX, x = ((dC, dI), cA, sa, s.heap.size, zW s) := ⟨_, rfl⟩
  have xb : xB x = s.heap.size := by rw [hx]; rfl
  have xs' : xS x = sa := by rw [hx]; rfl
  have xz : xZ x = zW s := by rw [hx]; rfl
  have xa : Aw x = fun q : Nat => s.heap.size ≤ q := by rw [hx]; rfl
  have n_ok : ∀ (own : String) (idx : Nat) (y : MethodName) (host : String), Cond.methodLinkNest own idx y host ∈ lw_tbl → NestOk x own idx y host := by
    intro own idx y host h U H hz
    rw [xz] at hz
    exact va_Nw.warmM hz.1 (va_Nw.of rfl (hts _ h))
  have a_ok : ∀ C : String, Cond.arrayOver (.object C) ∈ lw_tbl → AOOk x C := by
    intro C h U H hz
    rw [xz] at hz
    exact va_AO.moved hz.1.alike (va_AO.of (hts _ h))
  have t_ok : ∀ (j : Nat) (own : String) (idx : Nat) (tx : String), j < 20 → wO j = own → wI j = idx → Cond.stringRef own idx tx ∈ lw_tbl → TxtOk x own idx tx j := by
    intro j own idx tx hj e1 e2 h U H hz
    rw [xz] at hz
    subst e1 e2
    rw [xs', s1 j hj]
    exact vk_R.warm hz.1 (vk_R.of (hts _ h) (had j hj).1)
  have o_ok : ∀ j, j < 20 → ∀ U H, xZ x U H → va_O "java/lang/String" (xS x j) (Aw x) U H ∧ va_OF "java/lang/String" "coder" "B" (.int 0) (xS x j) (Aw x) U H ∧ va_OF "java/lang/String" "value" "[B" (.ref (xS x (100 + j))) (xS x j) (Aw x) U H ∧ va_T .byte (xS x (100 + j)) (txL j) (fun i => .int (nI (txC j i))) (Aw x) U H := by
    intro j hj U H hz
    rw [xz] at hz
    rw [xs', s1 j hj, s2 j hj, xa]
    obtain ⟨-, h1, h2, h3, h4⟩ := had j hj
    exact ⟨(va_O.moved hz.1.alike h1).kept (fun a ha _ => hz.2 a ha), (va_OF.moved hz.1.alike h2).kept (fun a ha _ => hz.2 a ha), (va_OF.moved hz.1.alike h3).kept (fun a ha _ => hz.2 a ha), (va_T.moved hz.1.alike h4).kept (fun a ha _ => hz.2 a ha)⟩
  have y_ok : ∀ j, j < 20 → AnyOk x j := by
    intro j hj U H hz
    obtain ⟨cell, h1, h2, h3, -⟩ := (o_ok j hj U H hz).1
    obtain ⟨kC, hkC, -⟩ := Vm.findClass_spec h3
    refine ⟨cell, h1, h2, ⟨kC, hkC⟩, fun comp h => ?_⟩
    cases h3.symm.trans h
    exact va_asg _ _
  have th_ok : ∀ (cls : String) (ic is : Nat) (tx : String), (vx_aT RX7 ic cls ["java/lang/RuntimeException", "java/lang/Exception"]).all stab = true → (vx_aT RX7 ic cls ["java/lang/RuntimeException", "java/lang/Exception"]).all vx_ot = true → (vx_aT RX7 ic cls ["java/lang/RuntimeException", "java/lang/Exception"]).all (fun w => decide (w ∈ lw_tbl)) = true → Cond.stringRef RX7 is tx ∈ lw_tbl → Cond.exactly (.string RX7 is) "java/lang/String" ∈ wGv → ThrowOk x RX7 cls tx ["java/lang/RuntimeException", "java/lang/Exception"] is ic := by
    intro cls ic is tx a1 a2 a3 a4 a5
    refine ⟨fun U H hz => ?_, fun w hw => List.all_eq_true.mp a2 w hw⟩
    rw [xz] at hz
    rw [xa]
    obtain ⟨a, ha⟩ := w_msg hts hg a4 a5
    exact ⟨⟨a, vk_R.warm hz.1 ha⟩, fun w hw => stab_at hz.1 (List.all_eq_true.mp a1 w hw) (hts w (of_decide_eq_true (List.all_eq_true.mp a3 w hw))), (vx_Zq.moved hz.1.alike hU).kept (fun a ha _ => hz.2 a ha), (vx_Zq.moved hz.1.alike hV).kept (fun a ha _ => hz.2 a ha)⟩
  have i_ok := fun is tx => th_ok "java/lang/IllegalArgumentException" 59 is tx at_iae ot_iae in_iae
  have e_ok := fun is tx => th_ok "java/util/NoSuchElementException" 179 is tx at_nse ot_nse in_nse
  refine ⟨x, xb, by rw [xs']; exact s4, xz, by rw [hx]; exact ⟨hK1, hK2⟩, ?_, ⟨o_ok, ?_, ?_⟩, ⟨?_, ?_, ?_⟩, ?_⟩
  · exact ⟨n_ok _ _ _ _ (by decide +kernel),
    n_ok _ _ _ _ (by decide +kernel),
    n_ok _ _ _ _ (by decide +kernel),
    n_ok _ _ _ _ (by decide +kernel),
    n_ok _ _ _ _ (by decide +kernel),
    n_ok _ _ _ _ (by decide +kernel),
    n_ok _ _ _ _ (by decide +kernel),
    a_ok _ (by decide +kernel),
    a_ok _ (by decide +kernel),
    a_ok _ (by decide +kernel),
    a_ok _ (by decide +kernel),
    t_ok 3 _ _ _ (by decide) (by decide +kernel) (by decide +kernel) (by decide +kernel),
    t_ok 4 _ _ _ (by decide) (by decide +kernel) (by decide +kernel) (by decide +kernel),
    t_ok 5 _ _ _ (by decide) (by decide +kernel) (by decide +kernel) (by decide +kernel),
    t_ok 6 _ _ _ (by decide) (by decide +kernel) (by decide +kernel) (by decide +kernel),
    t_ok 7 _ _ _ (by decide) (by decide +kernel) (by decide +kernel) (by decide +kernel),
    t_ok 8 _ _ _ (by decide) (by decide +kernel) (by decide +kernel) (by decide +kernel),
    t_ok 9 _ _ _ (by decide) (by decide +kernel) (by decide +kernel) (by decide +kernel),
    t_ok 0 _ _ _ (by decide) (by decide +kernel) (by decide +kernel) (by decide +kernel),
    t_ok 1 _ _ _ (by decide) (by decide +kernel) (by decide +kernel) (by decide +kernel),
    t_ok 2 _ _ _ (by decide) (by decide +kernel) (by decide +kernel) (by decide +kernel),
    t_ok 11 _ _ _ (by decide) (by decide +kernel) (by decide +kernel) (by decide +kernel),
    t_ok 12 _ _ _ (by decide) (by decide +kernel) (by decide +kernel) (by decide +kernel),
    t_ok 13 _ _ _ (by decide) (by decide +kernel) (by decide +kernel) (by decide +kernel),
    t_ok 14 _ _ _ (by decide) (by decide +kernel) (by decide +kernel) (by decide +kernel),
    t_ok 17 _ _ _ (by decide) (by decide +kernel) (by decide +kernel) (by decide +kernel),
    t_ok 18 _ _ _ (by decide) (by decide +kernel) (by decide +kernel) (by decide +kernel),
    t_ok 19 _ _ _ (by decide) (by decide +kernel) (by decide +kernel) (by decide +kernel),
    t_ok 15 _ _ _ (by decide) (by decide +kernel) (by decide +kernel) (by decide +kernel),
    t_ok 16 _ _ _ (by decide) (by decide +kernel) (by decide +kernel) (by decide +kernel),
    t_ok 10 _ _ _ (by decide) (by decide +kernel) (by decide +kernel) (by decide +kernel),
    y_ok 10 (by decide),
    y_ok 11 (by decide),
    y_ok 12 (by decide),
    y_ok 13 (by decide),
    y_ok 14 (by decide),
    y_ok 15 (by decide),
    y_ok 16 (by decide),
    i_ok _ _ (by decide +kernel) (by decide +kernel),
    i_ok _ _ (by decide +kernel) (by decide +kernel),
    i_ok _ _ (by decide +kernel) (by decide +kernel),
    i_ok _ _ (by decide +kernel) (by decide +kernel),
    i_ok _ _ (by decide +kernel) (by decide +kernel),
    e_ok _ _ (by decide +kernel) (by decide +kernel),
    e_ok _ _ (by decide +kernel) (by decide +kernel),
    e_ok _ _ (by decide +kernel) (by decide +kernel),
    e_ok _ _ (by decide +kernel) (by decide +kernel),
    e_ok _ _ (by decide +kernel) (by decide +kernel),
    e_ok _ _ (by decide +kernel) (by decide +kernel),
    e_ok _ _ (by decide +kernel) (by decide +kernel),
    e_ok _ _ (by decide +kernel) (by decide +kernel),
    e_ok _ _ (by decide +kernel) (by decide +kernel),
    e_ok _ _ (by decide +kernel) (by decide +kernel),
    e_ok _ _ (by decide +kernel) (by decide +kernel),
    e_ok _ _ (by decide +kernel) (by decide +kernel),
    e_ok _ _ (by decide +kernel) (by decide +kernel),
    e_ok _ _ (by decide +kernel) (by decide +kernel)⟩
  · intro U H hz
    rw [xz] at hz
    rw [xa]
    exact (va_Z.moved hz.1.alike hC).kept (fun a ha _ => hz.2 a ha)
  · rcases hF with h | h
    · left
      intro U H hz
      rw [xz] at hz
      rw [xa]
      exact (va_Z.moved hz.1.alike h).kept (fun a ha _ => hz.2 a ha)
    · right
      intro U H hz
      rw [xz] at hz
      rw [xa, xs', s3]
      exact (va_Z.moved hz.1.alike h).kept (fun a ha _ => hz.2 a ha)
  · intro U H hz
    rw [xz] at hz
    exact va_Nc.moved hz.1.alike (va_Nc.of (hg (.not (.castable "java/lang/IllegalArgumentException" "java/util/NoSuchElementException")) (by decide +kernel)))
  · intro U H hz args
    rw [xz] at hz
    exact stab_at hz.1 rfl (hts (.castable "java/lang/IllegalArgumentException" "java/lang/IllegalArgumentException") (by decide +kernel))
  · intro U H hz args
    rw [xz] at hz
    exact stab_at hz.1 rfl (hts (.castable "java/util/NoSuchElementException" "java/util/NoSuchElementException") (by decide +kernel))
  · intro U H hz
    rw [xz] at hz
    rw [xs', s4, xb]
    exact ⟨(va_X.moved hz.1.alike hX).kept (hz.2 b hbl), hbl⟩
end World
