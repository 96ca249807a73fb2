/-! METHODS WITH HANDLERS: the rows that the law's wrappers need (printed by program out of parts 11 to 16), the call that may throw, the catch -/
def Bh (M : MD) (tb : List ExceptionTableEntry) (p : Program) (s : State) (m : MethodId) (args : Array Value) (meth : Method) (c : Code) : Prop :=
  p.tables.exec = Jvm.exec ∧ c.code = M.2.1 ∧ meth.sig.returnType = M.2.2.2 ∧ c.maxLocals = M.2.2.1 ∧ (∀ w ∈ BIG, w.before args s = true) ∧ s.vm.findClass M.1.cls = some m.cls ∧ meth.locks = false ∧ c.exceptionTable.toList = tb
def Gh (l : Launch) (x : CX) (M : MD) (tb : List ExceptionTableEntry) (d pc : Nat) (lv : List (Nat × Value)) (st : List Value) (h : PH) (rc rs n0 : Nat) (Q : Option Value → PH → Prop) (X : String → PH → Prop) : Prop :=
  CXok l x → ∀ (p : Program) (e : Env) (R : Room) (s : State) (m : MethodId) (args : Array Value) (below : List Frame) (meth : Method) (c : Code) (H : Heap) (locs : List Loc) (cells slots mc ms : Nat) (ls : Array Slot) (ad ad0 : Nat → Nat),
    Bh M tb p s m args meth c → d ≤ R.frames → 41 * d ≤ R.locals → cells + rc ≤ R.cells → slots + rs ≤ R.slots → cells + rc ≤ mc → slots + rs ≤ ms →
    xB x ≤ s.heap.size → Wd x ad h s H → va_S (Aw x) s.heap H locs → (∀ a, a < n0 → ad a = ad0 a) → n0 ≤ hN h → wvl h lv → wvs h st → lv_has ls M.2.2.1 (rvl (xS x) ad lv) →
    W p l e R s m args below meth c H locs cells slots (vx_MQ below (Qm x n0 ad0 Q) (Xm x n0 ad0 X) args s mc ms (Aw x)) (F0 m pc ls (st.map (rv (xS x) ad)))
/-- a call of a method with handlers -/
def Ch (l : Launch) (x : CX) (M : MD) (hh : List (Nat × Nat × Nat × Nat)) (d mc ms : Nat) (a : List Value) (h : PH) (Q : Option Value → PH → Prop) (X : String → PH → Prop) : Prop :=
  CXok l x → ∀ ad : Nat → Nat, vx_Met l M.1 (.codeWith M.1 M.2.1 M.2.2.1 M.2.2.2 hh :: BIG) { frames := d, cells := mc, slots := ms, locals := 41 * d } (va_Pc (a.map (rv (xS x) ad)) (fun U => Wd x ad h U U.heap ∧ wvs h a)) (Qm x (hN h) ad Q) (Xm x (hN h) ad X) mc ms (Aw x)
theorem Gh.go1 {l : Launch} {x : CX} {M : MD} {tb : List ExceptionTableEntry} {d pc pc' : Nat} {lv : List (Nat × Value)} {st st' : List Value} {h : PH} {rc rs n0 : Nat} {Q : Option Value → PH → Prop} {X : String → PH → Prop}
    (hst : wvl h lv → wvs h st → wvs h st')
    (step : ∀ {p : Program} {e : Env} {R : Room} {s : State} {m : MethodId} {args : Array Value} {below : List Frame} {meth : Method} {c : Code} {H : Heap} {locs : List Loc} {cells slots : Nat} {Qf : State → Prop} {ls : Array Slot} {sa ad : Nat → Nat}, Bh M tb p s m args meth c → lv_has ls M.2.2.1 (rvl sa ad lv) →
      W p l e R s m args below meth c H locs cells slots Qf (F0 m pc' ls (st'.map (rv sa ad))) → W p l e R s m args below meth c H locs cells slots Qf (F0 m pc ls (st.map (rv sa ad))))
    (k : Gh l x M tb d pc' lv st' h rc rs n0 Q X) : Gh l x M tb d pc lv st h rc rs n0 Q X := by
  intro hx p e R s m args below meth c H locs cells slots mc ms ls ad ad0 hB h1 h2 h3 h4 h5 h6 hb hw hS ha hn hl hs hv
  exact step hB hv (k hx p e R s m args below meth c H locs cells slots mc ms ls ad ad0 hB h1 h2 h3 h4 h5 h6 hb hw hS ha hn hl (hst hl hs) hv)
section RowsH
variable {l : Launch} {x : CX} {M : MD} {tb : List ExceptionTableEntry} {d pc : Nat} {lv : List (Nat × Value)} {st rest : List Value} {h : PH} {rc rs n0 : Nat} {Q : Option Value → PH → Prop} {X : String → PH → Prop}
theorem h_iconst {n : Int} {v : Int32} (hd : decode M.2.1 pc = .ok (.iconst n, 1)) (hv : Int32.ofInt n = v) (k : Gh l x M tb d (pc + 1) lv (.int v :: st) h rc rs n0 Q X) : Gh l x M tb d pc lv st h rc rs n0 Q X :=
  Gh.go1 (fun _ hs => hs.cons (wv_int _ _)) (fun hB _ k => lv_iconst hB.1 hB.2.1 hd hv k) k
theorem h_iload_n {n : Fin 4} {i : Nat} {a : Int32} (hd : decode M.2.1 pc = .ok (.iload_n n, 1)) (hi : (n : Nat) = i) (q : Nat) (hq : lv[q]? = some (i, .int a)) (k : Gh l x M tb d (pc + 1) lv (.int a :: st) h rc rs n0 Q X) : Gh l x M tb d pc lv st h rc rs n0 Q X :=
  Gh.go1 (fun _ hs => hs.cons (wv_int _ _)) (fun hB hv k => lv_iload_n hB.1 hB.2.1 hd hi (rvl_at hv q hq) k) k
theorem h_iload {i : Nat} {a : Int32} (hd : decode M.2.1 pc = .ok (.iload i, 2)) (q : Nat) (hq : lv[q]? = some (i, .int a)) (k : Gh l x M tb d (pc + 2) lv (.int a :: st) h rc rs n0 Q X) : Gh l x M tb d pc lv st h rc rs n0 Q X :=
  Gh.go1 (fun _ hs => hs.cons (wv_int _ _)) (fun hB hv k => lv_iload hB.1 hB.2.1 hd (rvl_at hv q hq) k) k
theorem h_aload_n {n : Fin 4} {i : Nat} {a : Nat} (hd : decode M.2.1 pc = .ok (.aload_n n, 1)) (hi : (n : Nat) = i) (q : Nat) (hq : lv[q]? = some (i, .ref a)) (k : Gh l x M tb d (pc + 1) lv (.ref a :: st) h rc rs n0 Q X) : Gh l x M tb d pc lv st h rc rs n0 Q X :=
  Gh.go1 (fun hl hs => hs.cons (wvl_at hl hq)) (fun hB hv k => lv_aload_n hB.1 hB.2.1 hd hi (rvl_at hv q hq) k) k
theorem h_aload {i : Nat} {a : Nat} (hd : decode M.2.1 pc = .ok (.aload i, 2)) (q : Nat) (hq : lv[q]? = some (i, .ref a)) (k : Gh l x M tb d (pc + 2) lv (.ref a :: st) h rc rs n0 Q X) : Gh l x M tb d pc lv st h rc rs n0 Q X :=
  Gh.go1 (fun hl hs => hs.cons (wvl_at hl hq)) (fun hB hv k => lv_aload hB.1 hB.2.1 hd (rvl_at hv q hq) k) k
theorem h_i2l {a : Int32} (hd : decode M.2.1 pc = .ok (.i2l, 1)) (k : Gh l x M tb d (pc + 1) lv (.long (a.toInt64) :: st) h rc rs n0 Q X) : Gh l x M tb d pc lv (.int a :: st) h rc rs n0 Q X :=
  Gh.go1 (fun _ hs => hs.tail.cons (wv_long _ _)) (fun hB _ k => lv_i2l hB.1 hB.2.1 hd rfl k) k
theorem h_goto {off : Int} {tgt : Nat} (hd : decode M.2.1 pc = .ok (.goto off, 3)) (ht : (pc : Int) + off = (tgt : Int)) (k : Gh l x M tb d tgt lv (st) h rc rs n0 Q X) : Gh l x M tb d pc lv (st) h rc rs n0 Q X :=
  Gh.go1 (fun _ hs => hs) (fun hB _ k => lv_goto hB.1 hB.2.1 hd ht k) k
theorem sh_go {pc' a : Nat} {st' : List Value} {h' : PH} {E : (Nat → ClassId) → (Nat → Nat) → (Nat → Nat) → va_E} (e0 : hN h' = hN h) (e1 : ∀ b, hK h' b = hK h b) (e2 : ∀ b j, b ≠ a → hI h' b j = hI h b j) (e3 : ∀ b j, b ≠ a → hL h' b j = hL h b j) (e4 : ∀ b j, b ≠ a → hF h' b j = hF h b j) (e5 : ∀ b j, b ≠ a → hR h' b j = hR h b j)
    (e6 : ∀ cA sa ad, ce cA sa ad h' a = E cA sa ad) (hwf : wfh h → wfh h') (kk : Gh l x M tb d pc' lv (st') h' rc rs n0 Q X)
    {p : Program} {e : Env} {R : Room} {s : State} {m : MethodId} {args : Array Value} {below : List Frame} {meth : Method} {c : Code} {H : Heap} {locs : List Loc} {cells slots mc ms : Nat} {ls : Array Slot} {ad ad0 : Nat → Nat} (hx : CXok l x)
    (hB : Bh M tb p s m args meth c) (h1 : d ≤ R.frames) (h2 : 41 * d ≤ R.locals) (h3 : cells + rc ≤ R.cells) (h4 : slots + rs ≤ R.slots) (h5 : cells + rc ≤ mc) (h6 : slots + rs ≤ ms)
    (hb : xB x ≤ s.heap.size) (hw : Wd x ad h s H) (hS : va_S (Aw x) s.heap H locs) (ha : ∀ a, a < n0 → ad a = ad0 a) (hn : n0 ≤ hN h) (hl : wvl h lv) (hs : wvs h st') (hv : lv_has ls M.2.2.1 (rvl (xS x) ad lv)) :
    ∀ (H1 : Heap) (locs1 : List Loc), va_P (xD x) vwCl ((wsW (xA x) (xS x) ad h).set a (ad a, E (xA x) (xS x) ad)) H1 → va_D (Aw x) ((wsW (xA x) (xS x) ad h).set a (ad a, E (xA x) (xS x) ad)) → va_S (Aw x) s.heap H1 locs1 →
      W p l e R s m args below meth c H1 locs1 cells slots (vx_MQ below (Qm x n0 ad0 Q) (Xm x n0 ad0 X) args s mc ms (Aw x)) (F0 m pc' ls (st'.map (rv (xS x) ad))) := by
  intro H1 locs1 hP1 hD1 hS1
  rw [ws_set e0 (fun b hb => ce_congr (e1 b) (fun j => e2 b j hb) (fun j => e3 b j hb) (fun j => e4 b j hb) (fun j => e5 b j hb)) (e6 _ _ _)] at hP1 hD1
  have hle : hN h ≤ hN h' := Nat.le_of_eq e0.symm
  exact kk hx p e R s m args below meth c H1 locs1 cells slots mc ms ls ad ad0 hB h1 h2 h3 h4 h5 h6 hb ⟨hw.1, hP1, hD1, hwf hw.2.2.2.1, Nat.le_trans hb hS1.1, Z_kept hx hb hS hS1 hw.2.2.2.2.2⟩ hS1 ha (Nat.le_trans hn hle) (hl.le hle) (hs.le hle) hv
theorem h_last {a : Nat} {i : Int32} {v : Int64} (hd : decode M.2.1 pc = .ok (.lastore, 1)) (hK' : (hK h a).1 = 104) (hi : vp_in i (hK h a).2) (kk : Gh l x M tb d (pc + 1) lv (st) (sL h a i.toNatClampNeg v) rc rs n0 Q X) : Gh l x M tb d pc lv (.long v :: .int i :: .ref a :: st) h rc rs n0 Q X := by
  intro hx p e R s m args below meth co H locs cells slots mc ms ls ad ad0 hB h1 h2 h3 h4 h5 h6 hb hw' hS ha hn hl hs hlv
  refine va_last hB.1 hB.2.1 hw'.1 hw'.2.1 hw'.2.2.1 hS a 4 (cA := xA x 4) (n := (hK h a).2) (f := fun j => hL h a j) (by rw [ws_at (hs.tail.tail.head a rfl), ce_row (t := 4) hK']; rfl) rfl hi hd ?_
  refine sh_go (h := h) (h' := (sL h a i.toNatClampNeg v)) (E := fun cA _ _ => .inl (cA 4, (hK h a).2, .inr (.inl (vp_updL (fun j => hL h a j) i.toNatClampNeg v)))) rfl (fun _ => rfl) ?_ ?_ ?_ ?_ ?_ (fun q => q) kk hx hB h1 h2 h3 h4 h5 h6 hb hw' hS ha hn hl hs.tail.tail.tail hlv
  · intro b j hb; simp [hI_sL, hb]
  · intro b j hb; simp [hL_sL, hb]
  · intro b j hb; simp [hF_sL, hb]
  · intro b j hb; simp [hR_sL, hb]
  · intro cA sa ad
    rw [ce_row (t := 4) (h := (sL h a i.toNatClampNeg v)) (by rw [hK_sL]; exact hK'), hK_sL]
    show Sum.inl (cA 4, (hK h a).2, ac sa ad (sL h a i.toNatClampNeg v) a 4) = _
    simp only [ac, hL_sL, vp_updL, and_true]
    rfl
theorem h_iret {v : Int32} (hd : decode M.2.1 pc = .ok (.ireturn, 1)) (hr : M.2.2.2 = some .int) (hq : Q (some (.int v)) h) : Gh l x M tb d pc lv ([.int v]) h rc rs n0 Q X := by
  intro hx p e R s m args below meth co H locs cells slots mc ms ls ad ad0 hB h1 h2 h3 h4 h5 h6 hb hw' hS ha hn hl hs hlv
  refine W.widen (k := mc) (n := ms) (by omega) (by omega) (vx_ret ?_)
  exact W.iret hB.1 hB.2.1 (hB.2.2.1.trans hr) (fun t ht hW => ⟨⟨(some (.int v)), h, ad, rfl, hq, ha, hn, (fun w e => by cases e; exact hs.head), by rw [ht]; exact hw'.p⟩, hS.F ht⟩) hS.2.2 hd hB.2.2.2.2.2.2.1
/-- the handler's end: the throwable laid away, a number given back -/
def HEnd (M : MD) (hp : Nat) (k : Int32) : Prop := ∃ (z : Nat) (n : Int), z < M.2.2.1 ∧ Int32.ofInt n = k ∧ M.2.2.2 = some .int ∧ ((∃ f : Fin 4, (f : Nat) = z ∧ decode M.2.1 hp = .ok (.astore_n f, 1) ∧ decode M.2.1 (hp + 1) = .ok (.iconst n, 1) ∧ decode M.2.1 (hp + 1 + 1) = .ok (.ireturn, 1)) ∨ (decode M.2.1 hp = .ok (.astore z, 2) ∧ decode M.2.1 (hp + 2) = .ok (.iconst n, 1) ∧ decode M.2.1 (hp + 2 + 1) = .ok (.ireturn, 1)))
def Yc (C T : String) (U : State) : Prop := ∀ args, (Cond.castable C T).before args U = true
/-- a throw of E at pc is caught, and k is given back -/
def Hands (x : CX) (M : MD) (tb : List ExceptionTableEntry) (pc : Nat) (E : String) (k : Int32) : Prop := ∃ (pre : List ExceptionTableEntry) (z : ExceptionTableEntry) (suf : List ExceptionTableEntry) (name : String), tb = pre ++ z :: suf ∧ (∀ y ∈ pre, y.catchType ≠ 0 ∧ ∃ nm : String, Cond.classLink M.1.cls y.catchType nm ∈ BIG ∧ ∀ U H, xZ x U H → va_Nc E nm U) ∧ covers z pc = true ∧ z.catchType ≠ 0 ∧ Cond.classLink M.1.cls z.catchType name ∈ BIG ∧ (∀ U H, xZ x U H → Yc E name U) ∧ HEnd M z.handlerPc k
theorem h_callV {M' : MD} {d' mc ms rc' rs' idx : Nat} {Q' : Option Value → PH → Prop} {X' : String → PH → Prop} {b c : Nat} {As : List Value} (hd : decode M.2.1 pc = .ok (.invokevirtual idx, 3)) (w0 : Cond.methodLink M.1.cls idx M'.1 ∈ BIG) (w1 : Cond.instanceMethod M'.1 ∈ BIG) (w2 : Cond.selects M'.1.cls M'.1 M'.1 ∈ BIG) (w3 : Cond.initialized M'.1.cls ∈ BIG) (w4 : Cond.code M'.1 M'.2.1 M'.2.2.1 M'.2.2.2 ∈ BIG) (hpl : M'.1.cls ≠ "java/lang/invoke/MethodHandle" ∧ M'.1.cls ≠ "java/lang/invoke/VarHandle" ∧ (parseMethodDescriptor M'.1.desc).map (fun d => d.parameters.length) = some As.length) (hdd : d' + 1 ≤ d) (hml : M'.2.2.1 ≤ 22) (hcat : (rest.map fun v => v.category).sum ≤ 8) (hfc : FCok c) (hc9 : c < 9) (hRC : RC c = M'.1.cls) (hKb : (hK h b).1 = c)
    (hM : Cm l x M' d' mc ms (.ref b :: As) h Q' X') (hc : rc' + mc ≤ rc) (hm : rs' + ms ≤ rs)
    (hX : ∀ E h', X' E h' → ∃ k, Hands x M tb pc E k ∧ Q (some (.int k)) h') (k : ∀ v h', Q' v h' → hN h ≤ hN h' → Gh l x M tb d (pc + 3) lv (v.toList ++ rest) h' rc' rs' n0 Q X) : Gh l x M tb d pc lv (As.reverse ++ .ref b :: rest) h rc rs n0 Q X := by
  intro hx p e R s m args below meth co H locs cells slots mc' ms' ls ad ad0 hB h1 h2 h3 h4 h5 h6 hb hw' hS ha hn hl hs hlv
  intro T hT XT
  have hbl : b < hN h := (wvs_args hs).head b rfl
  have hrecv := va_recv hw'.1 hw'.2.1 (ci := c) (q0 := b) hfc.1 (by rw [ws_at hbl, ce_obj hKb hc9])
  have cw := cwV (R := R) (rm := { frames := d', cells := mc, slots := ms, locals := 41 * d' }) (mc := mc) (ms := ms) (C := M'.1.cls) (ws := .code M'.1 M'.2.1 M'.2.2.1 M'.2.2.2 :: BIG) (ws' := BIG) As.length hB.2.2.2.2.1 (goodBig (by
    intro w hw
    rcases List.mem_append.mp hw with hw | hw
    · simp only [List.mem_cons, List.not_mem_nil, or_false] at hw
      rcases hw with rfl | rfl | rfl | rfl
      · exact w0
      · exact w1
      · exact w2
      · exact w3
    · rcases List.mem_cons.mp hw with rfl | hw
      · exact w4
      · exact hw)) rfl rfl rfl ⟨rfl, hpl.1, hpl.2.1, hpl.2.2⟩ ⟨show d' + 1 ≤ R.frames by omega, show 8 + (M'.2.2.1 + 11) + 41 * d' ≤ R.locals by omega⟩
  have run := vx_runV (e := e) (meth := meth) (below := below) (cells := cells) (slots := slots) (As := As.map (rv (xS x) ad)) (rest := rest.map (rv (xS x) ad)) (b := ad b) (locs := locs) (g := F0 m pc ls ((As.reverse ++ .ref b :: rest).map (rv (xS x) ad))) ⟨hB.1, hB.2.1, hB.2.2.2.1, hB.2.2.2.2.2.1, hB.2.2.2.2.1⟩ (hM hx ad) cw ⟨blindW hx, by rw [← hRC]; exact hrecv, fun U hU hW => ⟨rfl, by rw [hU]; exact hw'.moved hx hW, wvs_args hs⟩⟩ rfl (by rw [List.length_map]) hlv.1 (rv_list As rest (.ref b)) (lv_room (by rw [rvs_cat]; exact hcat)) hd ⟨by omega, by omega⟩
  rcases run T hT XT with ⟨v, st0, t, T', L, e0, X2, hL, e1, e2, ⟨⟨v', h', ad', eo, hq, hex, hle, hwv, hwd⟩, hF⟩, hgo⟩ | ⟨q, st0, t, T', L, E, ce, e0, X2, hL, e1, e2, ⟨⟨h', ad', hxq, hex, hle, hwd⟩, hF⟩, hcell, hcv, hcl, hgo⟩
  · obtain ⟨k1, k2, hS1⟩ := vx_keep e0 e1 hS (fun q _ hq => hq) (fun q hq => hq) hL hF
    have hv : v = v'.map (rv (xS x) ad') := by cases eo; rfl
    have hst : (v'.toList ++ rest).map (rv (xS x) ad') = v.toList ++ rest.map (rv (xS x) ad) := by
      rw [List.map_append, rvs_same (wvs_rest hs) hex, hv]
      cases v' <;> rfl
    have hw2 : Wd x ad' h' s T'.heap := ⟨hw'.1, by rw [e1]; exact hwd.1, hwd.2.1, hwd.2.2.1, Nat.le_trans hb hS1.1, Z_kept hx hb hS hS1 hw'.2.2.2.2.2⟩
    have hwvs : wvs h' (v'.toList ++ rest) := by
      intro w hw
      rcases List.mem_append.mp hw with hw | hw
      · cases v' with
        | none => exact absurd hw List.not_mem_nil
        | some y => exact hwv w (by rw [Option.toList, List.mem_singleton] at hw; rw [hw])
      · exact (wvs_rest hs w hw).le hle
    obtain ⟨t2, hst2, hQ2⟩ := k v' h' hq hle hx p e R s m args below meth co T'.heap (locs ++ L) (cells + mc) (slots + ms) mc' ms' ls ad' ad0 hB h1 h2 (by omega) (by omega) (by omega) (by omega) hb hw2 hS1 (fun a h9 => (hex a (Nat.lt_of_lt_of_le h9 hn)).trans (ha a h9)) (Nat.le_trans hn hle) (hl.le hle) hwvs (by rw [rvl_same hl hex]; exact hlv) T' rfl X2
    refine ⟨t2, hgo t2 ?_, hQ2⟩
    rw [hst] at hst2
    exact hst2
  · obtain ⟨k1, k2, hS1⟩ := vx_keep e0 e1 hS (fun q _ hq => hq) (fun q hq => hq) hL hF
    obtain ⟨kv, ⟨pre, z, suf, name, tsp, hpass, hcov, hz0, hlink, hcast, zl, nn, hzl, hnn, hret, hdec⟩, hQ⟩ := hX E h' hxq
    have hw2 : Wp x ad' h' T'.heap := by rw [e1]; exact hwd
    have big : ∀ w ∈ BIG, w.before args s = true := hB.2.2.2.2.1
    have fin : ∀ (pc9 : Nat) (ls9 : Array Slot), decode M.2.1 pc9 = .ok (.iconst nn, 1) → decode M.2.1 (pc9 + 1) = .ok (.ireturn, 1) → W p l e R s m args below meth co T'.heap (locs ++ L) (cells + mc) (slots + ms) (vx_MQ below (Qm x n0 ad0 Q) (Xm x n0 ad0 X) args s mc' ms' (Aw x)) (F0 m pc9 ls9 []) := fun pc9 ls9 d1 d2 => by
      refine lv_iconst hB.1 hB.2.1 d1 hnn ?_
      refine W.widen (k := mc') (n := ms') (by omega) (by omega) (vx_ret ?_)
      exact W.iret hB.1 hB.2.1 (hB.2.2.1.trans hret) (fun t ht hW => ⟨⟨(some (.int kv)), h', ad', rfl, hQ, fun a h9 => (hex a (Nat.lt_of_lt_of_le h9 hn)).trans (ha a h9), Nat.le_trans hn hle, (fun w e => by cases e; exact wv_int _ _), by rw [ht]; exact hw2⟩, hS1.F ht⟩) hS1.2.2 d2 hB.2.2.2.2.2.2.1
    have hend : W p l e R s m args below meth co T'.heap (locs ++ L) (cells + mc) (slots + ms) (vx_MQ below (Qm x n0 ad0 Q) (Xm x n0 ad0 X) args s mc' ms' (Aw x)) (F0 m z.handlerPc ls [.ref q]) := by
      rcases hdec with ⟨f, ef, d0, d1, d2⟩ | ⟨d0, d1, d2⟩
      · exact lv_astore_n hB.1 hB.2.1 d0 ef hlv hzl rfl (fun ls9 _ => fin _ ls9 d1 d2)
      · exact lv_astore hB.1 hB.2.1 d0 hlv hzl rfl (fun ls9 _ => fin _ ls9 d1 d2)
    have cat := vx_catch (pc := pc) (rest := rest.map (rv (xS x) ad)) (E := E) (ce := ce) (q := q) (name := name) hB.2.2.2.2.2.1 pre z suf (hB.2.2.2.2.2.2.2.trans tsp) (fun y hy => Or.inr ⟨(hpass y hy).1, (hpass y hy).2.choose, big _ (hpass y hy).2.choose_spec.1, (hpass y hy).2.choose_spec.2 _ _ hw'.2.2.2.2.2⟩) hcov hz0 (big _ hlink) (hcast _ _ hw'.2.2.2.2.2 _) (by rw [e1]; exact hcell) hcv hcl hend
    obtain ⟨t2, hst2, hQ2⟩ := cat T' rfl X2
    exact ⟨t2, hgo.trans hst2, hQ2⟩
theorem Ch.of {hh : List (Nat × Nat × Nat × Nat)} {mc ms : Nat} {a : List Value} (hy : plainName M.1.cls = true) (hle : (lg_sl a).length ≤ M.2.2.1) (hG : Gh l x M (tableOf hh) d 0 (lv_args 0 a) [] h mc ms (hN h) Q X) : Ch l x M hh d mc ms a h Q X := by
  intro hx ad
  refine vx_ofWH (cc := M.2.1) (maxL := M.2.2.1) (ret := M.2.2.2) hy rfl ?_
  intro p e s m args below meth c s₁ B hml hv
  obtain ⟨rfl, hw, hwv⟩ := hv
  have hts := atoms_spec (ws := Cond.codeWith M.1 M.2.1 M.2.2.1 M.2.2.2 hh :: BIG) B.pre
  have hB : Bh M (tableOf hh) p s m (a.map (rv (xS x) ad)).toArray meth c := ⟨B.exec, B.bytes, B.returns, hml, fun w h => hts w (List.mem_cons_of_mem _ h), findClass_of_methodNamed B.named, B.notSynchronized, vx_table (x := M.1) B (hts _ List.mem_cons_self)⟩
  have hl := lv_entry (a.map (rv (xS x) ad)) (n := M.2.2.1) (by rw [lg_len]; exact hle)
  rw [lg_entry_eq]
  generalize (lg_sl (a.map (rv (xS x) ad)) ++ List.replicate (M.2.2.1 - (lg_sl (a.map (rv (xS x) ad))).length) Slot.unset).toArray = ls at hl ⊢
  rw [lv_args_rv] at hl
  exact hG hx p e _ s m _ below meth c s.heap [] 0 0 mc ms ls ad ad hB (Nat.le_refl d) (Nat.le_refl (41 * d)) (by show 0 + mc ≤ mc; omega) (by show 0 + ms ≤ ms; omega) (by omega) (by omega) hw.2.2.2.2.1 hw va_S.rf (fun _ _ => rfl) (Nat.le_refl _) (wvl_args a 0 hwv) (fun _ hq => absurd hq List.not_mem_nil) hl
end RowsH
section CallH
variable {l : Launch} {x : CX} {M : MD} {d pc : Nat} {lv : List (Nat × Value)} {st rest : List Value} {h : PH} {rc rs n0 : Nat} {Q : Option Value → PH → Prop} {X : String → PH → Prop}
/-- the law calls a wrapper -/
theorem g_callH {M' : MD} {hh : List (Nat × Nat × Nat × Nat)} {d' mc ms rc' rs' idx : Nat} {Q' : Option Value → PH → Prop} {X' : String → PH → Prop} {As : List Value} (hd : decode M.2.1 pc = .ok (.invokestatic idx, 3)) (w0 : Cond.methodLink M.1.cls idx M'.1 ∈ BIG) (w1 : Cond.static M'.1 ∈ BIG) (w3 : Cond.initialized M'.1.cls ∈ BIG) (w4 : Cond.codeWith M'.1 M'.2.1 M'.2.2.1 M'.2.2.2 hh ∈ BIG) (hpl : M'.1.cls ≠ "java/lang/invoke/MethodHandle" ∧ M'.1.cls ≠ "java/lang/invoke/VarHandle" ∧ (parseMethodDescriptor M'.1.desc).map (fun d => d.parameters.length) = some As.length) (hdd : d' + 1 ≤ d) (hml : M'.2.2.1 ≤ 22) (hcat : (rest.map fun v => v.category).sum ≤ 8)
    (hM : Ch l x M' hh d' mc ms As h Q' X') (hc : rc' + mc ≤ rc) (hm : rs' + ms ≤ rs) (hX : ∀ E h', ¬ X' E h') (k : ∀ v h', Q' v h' → hN h ≤ hN h' → Gm l x M d (pc + 3) lv (v.toList ++ rest) h' rc' rs' n0 Q X) : Gm l x M d pc lv (As.reverse ++ rest) h rc rs n0 Q X := by
  refine Gm.callG (rest := rest) hc hm wvs_rest0 ?_ hX k
  intro hx p e R s m args below meth co H locs cells slots ls ad hB h1 h2 h3 h4 hw hs hsz
  have cw : vx_CSW R s args M.1.cls idx M'.1 M'.2.1 M'.2.2.1 M'.2.2.2 hh (.codeWith M'.1 M'.2.1 M'.2.2.1 M'.2.2.2 hh :: BIG) { frames := d', cells := mc, slots := ms, locals := 41 * d' } mc ms As.length :=
    vx_cwSW (Ts := BIG) (ws' := BIG) As.length hB.2.2.2.2.1 (goodBig (by
      intro w hw
      unfold va_wsS at hw
      rcases List.mem_append.mp hw with hw | hw
      · simp only [List.mem_cons, List.not_mem_nil, or_false] at hw
        rcases hw with rfl | rfl | rfl
        · exact w0
        · exact w1
        · exact w3
      · rcases List.mem_cons.mp hw with rfl | hw
        · exact w4
        · exact hw)) rfl rfl rfl ⟨hpl.1, hpl.2.1, hpl.2.2⟩ ⟨show d' + 1 ≤ R.frames by omega, show 8 + (M'.2.2.1 + 11) + 41 * d' ≤ R.locals by omega⟩
  exact vx_runSX (As := As.map (rv (xS x) ad)) (rest := rest.map (rv (xS x) ad)) (locs := locs) ⟨hB.1, hB.2.1, hB.2.2.2.1, hB.2.2.2.2.2.1, hB.2.2.2.2.1⟩ (hM hx ad) cw ⟨blindW hx, fun U hU hW => ⟨rfl, by rw [hU]; exact hw.moved hx hW, wvs_args0 hs⟩⟩ rfl (by rw [List.length_map]) hsz (rv_list0 As rest) (lv_room (by rw [rvs_cat]; exact hcat)) hd ⟨h3, h4⟩
end CallH
