/-! ROWS, SIXTH PART: ends and calls -/
section Rows6
variable {l : Launch} {x : CX} {M : MD} {d pc : Nat} {lv : List (Nat × Value)} {st : List Value} {h : PH} {rc rs n0 : Nat} {Q : Option Value → PH → Prop} {X : String → PH → Prop}
theorem g_iret {v : Int32} (hd : decode M.2.1 pc = .ok (.ireturn, 1)) (hr : M.2.2.2 = some .int) (hq : Q (some (.int v)) h) : Gm l x M d pc lv ([.int v]) h rc rs n0 Q X := by
  intro hx p e R s m args below meth co H locs cells slots mc ms ls ad ad0 hB h1 h2 h3 h4 h5 h6 hb hw' hS ha hn hl hs hlv
  refine W.widen (k := mc) (n := ms) (by omega) (by omega) (vx_ret ?_)
  exact W.iret hB.1 hB.2.1 (hB.2.2.1.trans hr) (fun t ht hW => ⟨⟨(some (.int v)), h, ad, rfl, hq, ha, hn, (fun w e => by cases e; exact hs.head), by rw [ht]; exact hw'.p⟩, hS.F ht⟩) hS.2.2 hd hB.2.2.2.2.2.2.1
theorem g_zret {v : Int32} (hd : decode M.2.1 pc = .ok (.ireturn, 1)) (hr : M.2.2.2 = some .boolean) (hv : v = 0 ∨ v = 1) (hq : Q (some (.int v)) h) : Gm l x M d pc lv ([.int v]) h rc rs n0 Q X := by
  intro hx p e R s m args below meth co H locs cells slots mc ms ls ad ad0 hB h1 h2 h3 h4 h5 h6 hb hw' hS ha hn hl hs hlv
  refine W.widen (k := mc) (n := ms) (by omega) (by omega) (vx_ret ?_)
  exact W.zret (ty := .boolean) hB.1 hB.2.1 (hB.2.2.1.trans hr) (by rcases hv with rfl | rfl <;> rfl) (fun t ht hW => ⟨⟨(some (.int v)), h, ad, rfl, hq, ha, hn, (fun w e => by cases e; exact hs.head), by rw [ht]; exact hw'.p⟩, hS.F ht⟩) hS.2.2 hd hB.2.2.2.2.2.2.1
theorem g_lret {v : Int64} (hd : decode M.2.1 pc = .ok (.lreturn, 1)) (hr : M.2.2.2 = some .long) (hq : Q (some (.long v)) h) : Gm l x M d pc lv ([.long v]) h rc rs n0 Q X := by
  intro hx p e R s m args below meth co H locs cells slots mc ms ls ad ad0 hB h1 h2 h3 h4 h5 h6 hb hw' hS ha hn hl hs hlv
  refine W.widen (k := mc) (n := ms) (by omega) (by omega) (vx_ret ?_)
  exact W.lret hB.1 hB.2.1 (hB.2.2.1.trans hr) (fun t ht hW => ⟨⟨(some (.long v)), h, ad, rfl, hq, ha, hn, (fun w e => by cases e; exact hs.head), by rw [ht]; exact hw'.p⟩, hS.F ht⟩) hS.2.2 hd hB.2.2.2.2.2.2.1
theorem g_fret {v : UInt32} (hd : decode M.2.1 pc = .ok (.freturn, 1)) (hr : M.2.2.2 = some .float) (hq : Q (some (.float v)) h) : Gm l x M d pc lv ([.float v]) h rc rs n0 Q X := by
  intro hx p e R s m args below meth co H locs cells slots mc ms ls ad ad0 hB h1 h2 h3 h4 h5 h6 hb hw' hS ha hn hl hs hlv
  refine W.widen (k := mc) (n := ms) (by omega) (by omega) (vx_ret ?_)
  exact W.fret hB.1 hB.2.1 (hB.2.2.1.trans hr) (fun t ht hW => ⟨⟨(some (.float v)), h, ad, rfl, hq, ha, hn, (fun w e => by cases e; exact hs.head), by rw [ht]; exact hw'.p⟩, hS.F ht⟩) hS.2.2 hd hB.2.2.2.2.2.2.1
theorem g_vret (hd : decode M.2.1 pc = .ok (.return_, 1)) (hr : M.2.2.2 = none) (hq : Q none h) : Gm l x M d pc lv ([]) h rc rs n0 Q X := by
  intro hx p e R s m args below meth co H locs cells slots mc ms ls ad ad0 hB h1 h2 h3 h4 h5 h6 hb hw' hS ha hn hl hs hlv
  refine W.widen (k := mc) (n := ms) (by omega) (by omega) (vx_ret ?_)
  exact W.vret hB.1 hB.2.1 (hB.2.2.1.trans hr) (fun t ht hW => ⟨⟨none, h, ad, rfl, hq, ha, hn, (fun w e => nomatch e), by rw [ht]; exact hw'.p⟩, hS.F ht⟩) hS.2.2 hd hB.2.2.2.2.2.2.1
theorem g_aret {a : Nat} {C : String} (hd : decode M.2.1 pc = .ok (.areturn, 1)) (hr : M.2.2.2 = some (.object C)) (hq : Q (some (.ref a)) h) : Gm l x M d pc lv ([.ref a]) h rc rs n0 Q X := by
  intro hx p e R s m args below meth co H locs cells slots mc ms ls ad ad0 hB h1 h2 h3 h4 h5 h6 hb hw' hS ha hn hl hs hlv
  refine W.widen (k := mc) (n := ms) (by omega) (by omega) (vx_ret ?_)
  exact W.aret (v := .ref (ad a)) hB.1 hB.2.1 (hB.2.2.1.trans hr) (Or.inl ⟨C, rfl⟩) (Or.inr ⟨_, rfl⟩) (fun t ht hW => ⟨⟨some (.ref a), h, ad, rfl, hq, ha, hn, fun w e => by cases e; exact hs.head, by rw [ht]; exact hw'.p⟩, hS.F ht⟩) hS.2.2 hd hB.2.2.2.2.2.2.1
end Rows6
theorem goodBig {L : List Cond} (h : ∀ w ∈ L, w ∈ BIG) : GoodIn BIG L := fun w hw => ⟨h w hw, good_of_word (List.mem_filter.mp (h w hw)).2⟩
section Calls6
variable {l : Launch} {x : CX} {M : MD} {d pc : Nat} {lv : List (Nat × Value)} {st rest : List Value} {h : PH} {rc rs n0 : Nat} {Q : Option Value → PH → Prop} {X : String → PH → Prop}
/-- any call: what the run row says, turned into our judgement -/
theorem Gm.callG {mc ms rc' rs' : Nat} {Q' : Option Value → PH → Prop} {X' : String → PH → Prop} (hc : rc' + mc ≤ rc) (hm : rs' + ms ≤ rs) (hsub : wvs h st → wvs h rest)
    (hrun : CXok l x → ∀ {p : Program} {e : Env} {R : Room} {s : State} {m : MethodId} {args : Array Value} {below : List Frame} {meth : Method} {c : Code} {H : Heap} {locs : List Loc} {cells slots : Nat} {ls : Array Slot} {ad : Nat → Nat},
      Bd M p s m args meth c → d ≤ R.frames → 41 * d ≤ R.locals → cells + mc ≤ R.cells → slots + ms ≤ R.slots → Wd x ad h s H → wvs h st → ls.size = M.2.2.1 →
      vx_Run p l e R s m args below meth c H locs cells slots mc ms (F0 m pc ls (st.map (rv (xS x) ad))) (rest.map (rv (xS x) ad)) (Qm x (hN h) ad Q' #[]) (Xm x (hN h) ad X') (Aw x))
    (hX : ∀ E h', ¬ X' E h') (k : ∀ v h', Q' v h' → hN h ≤ hN h' → Gm l x M d (pc + 3) lv (v.toList ++ rest) h' rc' rs' n0 Q X) : Gm l x M d pc lv st h rc rs n0 Q X := by
  intro hx p e R s m args below meth co H locs cells slots mc' ms' ls ad ad0 hB h1 h2 h3 h4 h5 h6 hb hw' hS ha hn hl hs hlv
  intro T hT XT
  rcases hrun hx (below := below) (locs := locs) hB h1 h2 (by omega) (by omega) hw' hs hlv.1 T hT XT with ⟨v, st0, t, T', L, e0, X2, hL, e1, e2, ⟨⟨v', h', ad', eo, hq, hex, hle, hwv, hwd⟩, hF⟩, hgo⟩ | ⟨q, st0, t, T', L, E, ce, e0, X2, hL, e1, e2, ⟨⟨h', ad', hxq, _⟩, _⟩, _⟩
  · obtain ⟨k1, k2, hS1⟩ := vx_keep e0 e1 hS (fun q _ hq => hq) (fun q hq => hq) hL hF
    have hv : v = v'.map (rv (xS x) ad') := by cases eo; rfl
    have hst : (v'.toList ++ rest).map (rv (xS x) ad') = v.toList ++ rest.map (rv (xS x) ad) := by
      rw [List.map_append, rvs_same (hsub hs) hex, hv]
      cases v' <;> rfl
    have hw2 : Wd x ad' h' s T'.heap := ⟨hw'.1, by rw [e1]; exact hwd.1, hwd.2.1, hwd.2.2.1, Nat.le_trans hb hS1.1, Z_kept hx hb hS hS1 hw'.2.2.2.2.2⟩
    have hwvs : wvs h' (v'.toList ++ rest) := by
      intro w hw
      rcases List.mem_append.mp hw with hw | hw
      · cases v' with
        | none => exact absurd hw List.not_mem_nil
        | some y => exact hwv w (by rw [Option.toList, List.mem_singleton] at hw; rw [hw])
      · exact (hsub hs w hw).le hle
    obtain ⟨t2, hst2, hQ2⟩ := k v' h' hq hle hx p e R s m args below meth co T'.heap (locs ++ L) (cells + mc) (slots + ms) mc' ms' ls ad' ad0 hB h1 h2 (by omega) (by omega) (by omega) (by omega) hb hw2 hS1 (fun a h9 => (hex a (Nat.lt_of_lt_of_le h9 hn)).trans (ha a h9)) (Nat.le_trans hn hle) (hl.le hle) hwvs (by rw [rvl_same hl hex]; exact hlv) T' rfl X2
    refine ⟨t2, hgo t2 ?_, hQ2⟩
    rw [hst] at hst2
    exact hst2
  · exact absurd hxq (hX E h')
theorem rvs_cat (sa ad : Nat → Nat) (vs : List Value) : ((vs.map (rv sa ad)).map fun v => v.category).sum = (vs.map fun v => v.category).sum := by
  rw [List.map_map]
  congr 1
  exact List.map_congr_left fun v _ => rv_cat sa ad v
theorem blindW {x : CX} {ad : Nat → Nat} {a : List Value} (hx : CXok l x) : FrameBlind (va_Pc (a.map (rv (xS x) ad)) (fun U => Wd x ad h U U.heap ∧ wvs h a)) := by
  intro v U g mk ⟨e, hw, hv⟩
  exact ⟨e, Wd.same (s := U) hx rfl hw, hv⟩
theorem rv_list {sa ad : Nat → Nat} (As rest : List Value) (b : Value) : (As.reverse ++ b :: rest).map (rv sa ad) = (As.map (rv sa ad)).reverse ++ rv sa ad b :: rest.map (rv sa ad) := by
  simp [List.map_append, List.map_reverse]
theorem rv_list0 {sa ad : Nat → Nat} (As rest : List Value) : (As.reverse ++ rest).map (rv sa ad) = (As.map (rv sa ad)).reverse ++ rest.map (rv sa ad) := by
  simp [List.map_append, List.map_reverse]
theorem wvs_args {As : List Value} {b : Value} (hs : wvs h (As.reverse ++ b :: rest)) : wvs h (b :: As) := fun v hv => hs v (by
  rcases List.mem_cons.mp hv with e | e
  · rw [e]; exact List.mem_append.mpr (Or.inr List.mem_cons_self)
  · exact List.mem_append.mpr (Or.inl (List.mem_reverse.mpr e)))
theorem wvs_args0 {As : List Value} (hs : wvs h (As.reverse ++ rest)) : wvs h As := fun v hv => hs v (List.mem_append.mpr (Or.inl (List.mem_reverse.mpr hv)))
theorem wvs_rest {As : List Value} {b : Value} (hs : wvs h (As.reverse ++ b :: rest)) : wvs h rest := fun v hv => hs v (List.mem_append.mpr (Or.inr (List.mem_cons_of_mem _ hv)))
theorem wvs_rest0 {As : List Value} (hs : wvs h (As.reverse ++ rest)) : wvs h rest := fun v hv => hs v (List.mem_append.mpr (Or.inr hv))
theorem g_callV {M' : MD} {d' mc ms rc' rs' idx : Nat} {Q' : Option Value → PH → Prop} {X' : String → PH → Prop} {b c : Nat} {As : List Value} (hd : decode M.2.1 pc = .ok (.invokevirtual idx, 3)) (w0 : Cond.methodLink M.1.cls idx M'.1 ∈ BIG) (w1 : Cond.instanceMethod M'.1 ∈ BIG) (w2 : Cond.selects M'.1.cls M'.1 M'.1 ∈ BIG) (w3 : Cond.initialized M'.1.cls ∈ BIG) (w4 : Cond.code M'.1 M'.2.1 M'.2.2.1 M'.2.2.2 ∈ BIG) (hpl : M'.1.cls ≠ "java/lang/invoke/MethodHandle" ∧ M'.1.cls ≠ "java/lang/invoke/VarHandle" ∧ (parseMethodDescriptor M'.1.desc).map (fun d => d.parameters.length) = some As.length) (hdd : d' + 1 ≤ d) (hml : M'.2.2.1 ≤ 22) (hcat : (rest.map fun v => v.category).sum ≤ 8) (hfc : FCok c) (hc9 : c < 9) (hRC : RC c = M'.1.cls) (hKb : (hK h b).1 = c)
    (hM : Cm l x M' d' mc ms (.ref b :: As) h Q' X') (hc : rc' + mc ≤ rc) (hm : rs' + ms ≤ rs) (hX : ∀ E h', ¬ X' E h') (k : ∀ v h', Q' v h' → hN h ≤ hN h' → Gm l x M d (pc + 3) lv (v.toList ++ rest) h' rc' rs' n0 Q X) : Gm l x M d pc lv (As.reverse ++ .ref b :: rest) h rc rs n0 Q X := by
  refine Gm.callG (rest := rest) hc hm wvs_rest ?_ hX k
  intro hx p e R s m args below meth co H locs cells slots ls ad hB h1 h2 h3 h4 hw hs hsz
  have hbl : b < hN h := (wvs_args hs).head b rfl
  have hrecv := va_recv hw.1 hw.2.1 (ci := c) (q0 := b) hfc.1 (by rw [ws_at hbl, ce_obj hKb hc9])
  have cw := cwV (R := R) (rm := { frames := d', cells := mc, slots := ms, locals := 41 * d' }) (mc := mc) (ms := ms) (C := M'.1.cls) (ws := .code M'.1 M'.2.1 M'.2.2.1 M'.2.2.2 :: BIG) (ws' := BIG) As.length hB.2.2.2.2.1 (goodBig (by
    intro w hw
    rcases List.mem_append.mp hw with hw | hw
    · simp only [List.mem_cons, List.not_mem_nil, or_false] at hw
      rcases hw with rfl | rfl | rfl | rfl
      · exact w0
      · exact w1
      · exact w2
      · exact w3
    · rcases List.mem_cons.mp hw with rfl | hw
      · exact w4
      · exact hw)) rfl rfl rfl ⟨rfl, hpl.1, hpl.2.1, hpl.2.2⟩ ⟨show d' + 1 ≤ R.frames by omega, show 8 + (M'.2.2.1 + 11) + 41 * d' ≤ R.locals by omega⟩
  exact vx_runV (As := As.map (rv (xS x) ad)) (rest := rest.map (rv (xS x) ad)) (b := ad b) (locs := locs) ⟨hB.1, hB.2.1, hB.2.2.2.1, hB.2.2.2.2.2.1, hB.2.2.2.2.1⟩ (hM hx ad) cw ⟨blindW hx, by rw [← hRC]; exact hrecv, fun U hU hW => ⟨rfl, by rw [hU]; exact hw.moved hx hW, wvs_args hs⟩⟩ rfl (by rw [List.length_map]) hsz (rv_list As rest (.ref b)) (lv_room (by rw [rvs_cat]; exact hcat)) hd ⟨h3, h4⟩
theorem g_callS {M' : MD} {d' mc ms rc' rs' idx : Nat} {Q' : Option Value → PH → Prop} {X' : String → PH → Prop} {As : List Value} (hd : decode M.2.1 pc = .ok (.invokestatic idx, 3)) (w0 : Cond.methodLink M.1.cls idx M'.1 ∈ BIG) (w1 : Cond.static M'.1 ∈ BIG) (w3 : Cond.initialized M'.1.cls ∈ BIG) (w4 : Cond.code M'.1 M'.2.1 M'.2.2.1 M'.2.2.2 ∈ BIG) (hpl : M'.1.cls ≠ "java/lang/invoke/MethodHandle" ∧ M'.1.cls ≠ "java/lang/invoke/VarHandle" ∧ (parseMethodDescriptor M'.1.desc).map (fun d => d.parameters.length) = some As.length) (hdd : d' + 1 ≤ d) (hml : M'.2.2.1 ≤ 22) (hcat : (rest.map fun v => v.category).sum ≤ 8)
    (hM : Cm l x M' d' mc ms As h Q' X') (hc : rc' + mc ≤ rc) (hm : rs' + ms ≤ rs) (hX : ∀ E h', ¬ X' E h') (k : ∀ v h', Q' v h' → hN h ≤ hN h' → Gm l x M d (pc + 3) lv (v.toList ++ rest) h' rc' rs' n0 Q X) : Gm l x M d pc lv (As.reverse ++ rest) h rc rs n0 Q X := by
  refine Gm.callG (rest := rest) hc hm wvs_rest0 ?_ hX k
  intro hx p e R s m args below meth co H locs cells slots ls ad hB h1 h2 h3 h4 hw hs hsz
  have cw : CallB R s args M.1.cls idx M'.1 M'.2.1 M'.2.2.1 M'.2.2.2 (.code M'.1 M'.2.1 M'.2.2.1 M'.2.2.2 :: BIG) { frames := d', cells := mc, slots := ms, locals := 41 * d' } mc ms As.length :=
    callB_of (ws' := BIG) As.length hB.2.2.2.2.1 (goodBig (by
      intro w hw
      rcases List.mem_cons.mp hw with rfl | hw
      · exact w4
      · exact hw)) rfl rfl rfl (big_at hB w3) (big_at hB w0) ⟨hpl.1, hpl.2.1, hpl.2.2⟩ ⟨show d' + 1 ≤ R.frames by omega, show 8 + (M'.2.2.1 + 11) + 41 * d' ≤ R.locals by omega⟩
  exact vx_runS (As := As.map (rv (xS x) ad)) (rest := rest.map (rv (xS x) ad)) (locs := locs) ⟨hB.1, hB.2.1, hB.2.2.2.1, hB.2.2.2.2.2.1, hB.2.2.2.2.1⟩ (hM hx ad) ⟨cw, big_at hB w1⟩ ⟨blindW hx, fun U hU hW => ⟨rfl, by rw [hU]; exact hw.moved hx hW, wvs_args0 hs⟩⟩ rfl (by rw [List.length_map]) hsz (rv_list0 As rest) (lv_room (by rw [rvs_cat]; exact hcat)) hd ⟨h3, h4⟩
theorem g_callI {M' : MD} {d' mc ms rc' rs' idx : Nat} {Q' : Option Value → PH → Prop} {X' : String → PH → Prop} {b : Nat} {As : List Value} (hd : decode M.2.1 pc = .ok (.invokespecial idx, 3)) (w0 : Cond.methodLink M.1.cls idx M'.1 ∈ BIG) (w1 : Cond.instanceMethod M'.1 ∈ BIG) (hin : M'.1.name = "<init>") (hrt : M'.2.2.2 = none) (w3 : Cond.initialized M'.1.cls ∈ BIG) (w4 : Cond.code M'.1 M'.2.1 M'.2.2.1 M'.2.2.2 ∈ BIG) (hpl : M'.1.cls ≠ "java/lang/invoke/MethodHandle" ∧ M'.1.cls ≠ "java/lang/invoke/VarHandle" ∧ (parseMethodDescriptor M'.1.desc).map (fun d => d.parameters.length) = some As.length) (hdd : d' + 1 ≤ d) (hml : M'.2.2.1 ≤ 22) (hcat : (rest.map fun v => v.category).sum ≤ 8)
    (hM : Cm l x M' d' mc ms (.ref b :: As) h Q' X') (hc : rc' + mc ≤ rc) (hm : rs' + ms ≤ rs) (hX : ∀ E h', ¬ X' E h') (k : ∀ v h', Q' v h' → hN h ≤ hN h' → Gm l x M d (pc + 3) lv (v.toList ++ rest) h' rc' rs' n0 Q X) : Gm l x M d pc lv (As.reverse ++ .ref b :: rest) h rc rs n0 Q X := by
  refine Gm.callG (rest := rest) hc hm wvs_rest ?_ hX k
  intro hx p e R s m args below meth co H locs cells slots ls ad hB h1 h2 h3 h4 hw hs hsz
  have hM2 := hM hx ad
  rw [hrt] at hM2 w4
  have cw : CallB R s args M.1.cls idx M'.1 M'.2.1 M'.2.2.1 none (.code M'.1 M'.2.1 M'.2.2.1 none :: BIG) { frames := d', cells := mc, slots := ms, locals := 41 * d' } mc ms As.length :=
    callB_of (ws' := BIG) As.length hB.2.2.2.2.1 (goodBig (by
      intro w hw
      rcases List.mem_cons.mp hw with rfl | hw
      · exact w4
      · exact hw)) rfl rfl rfl (big_at hB w3) (big_at hB w0) ⟨hpl.1, hpl.2.1, hpl.2.2⟩ ⟨show d' + 1 ≤ R.frames by omega, show 8 + (M'.2.2.1 + 11) + 41 * d' ≤ R.locals by omega⟩
  exact vx_runI (As := As.map (rv (xS x) ad)) (rest := rest.map (rv (xS x) ad)) (b := ad b) (locs := locs) ⟨hB.1, hB.2.1, hB.2.2.2.1, hB.2.2.2.2.2.1, hB.2.2.2.2.1⟩ hM2 ⟨cw, hin, big_at hB w1⟩ ⟨blindW hx, fun U hU hW => ⟨rfl, by rw [hU]; exact hw.moved hx hW, wvs_args hs⟩⟩ rfl (by rw [List.length_map]) hsz (rv_list As rest (.ref b)) (lv_room (by rw [rvs_cat]; exact hcat)) hd ⟨h3, h4⟩
theorem g_callIN {M' : MD} {d' mc ms rc' rs' idx : Nat} {Q' : Option Value → PH → Prop} {X' : String → PH → Prop} {host : String} {b : Nat} {As : List Value} (hd : decode M.2.1 pc = .ok (.invokespecial idx, 3)) (hz : ∀ U H, xZ x U H → va_Nw (.methodLinkNest M.1.cls idx M'.1 host) U) (w1 : Cond.instanceMethod M'.1 ∈ BIG) (hin : M'.1.name = "<init>") (hrt : M'.2.2.2 = none) (w3 : Cond.initialized M'.1.cls ∈ BIG) (w4 : Cond.code M'.1 M'.2.1 M'.2.2.1 M'.2.2.2 ∈ BIG) (hpl : M'.1.cls ≠ "java/lang/invoke/MethodHandle" ∧ M'.1.cls ≠ "java/lang/invoke/VarHandle" ∧ (parseMethodDescriptor M'.1.desc).map (fun d => d.parameters.length) = some As.length) (hdd : d' + 1 ≤ d) (hml : M'.2.2.1 ≤ 22) (hcat : (rest.map fun v => v.category).sum ≤ 8)
    (hM : Cm l x M' d' mc ms (.ref b :: As) h Q' X') (hc : rc' + mc ≤ rc) (hm : rs' + ms ≤ rs) (hX : ∀ E h', ¬ X' E h') (k : ∀ v h', Q' v h' → hN h ≤ hN h' → Gm l x M d (pc + 3) lv (v.toList ++ rest) h' rc' rs' n0 Q X) : Gm l x M d pc lv (As.reverse ++ .ref b :: rest) h rc rs n0 Q X := by
  refine Gm.callG (rest := rest) hc hm wvs_rest ?_ hX k
  intro hx p e R s m args below meth co H locs cells slots ls ad hB h1 h2 h3 h4 hw hs hsz
  have hM2 := hM hx ad
  rw [hrt] at hM2 w4
  have cw : va_CN R s args M.1.cls idx M'.1 host M'.2.1 M'.2.2.1 none (.code M'.1 M'.2.1 M'.2.2.1 none :: BIG) { frames := d', cells := mc, slots := ms, locals := 41 * d' } mc ms As.length :=
    va_cnB (ws' := BIG) As.length hB.2.2.2.2.1 (goodBig (by
      intro w hw
      rcases List.mem_cons.mp hw with rfl | hw
      · exact w4
      · exact hw)) rfl rfl rfl (hz s H hw.2.2.2.2.2) (big_at hB w3) ⟨hpl.1, hpl.2.1, hpl.2.2⟩ ⟨show d' + 1 ≤ R.frames by omega, show 8 + (M'.2.2.1 + 11) + 41 * d' ≤ R.locals by omega⟩
  exact vx_runIN (As := As.map (rv (xS x) ad)) (rest := rest.map (rv (xS x) ad)) (b := ad b) (locs := locs) ⟨hB.1, hB.2.1, hB.2.2.2.1, hB.2.2.2.2.2.1, hB.2.2.2.2.1⟩ hM2 ⟨cw, hin, big_at hB w1⟩ ⟨blindW hx, fun U hU hW => ⟨rfl, by rw [hU]; exact hw.moved hx hW, wvs_args hs⟩⟩ rfl (by rw [List.length_map]) hsz (rv_list As rest (.ref b)) (lv_room (by rw [rvs_cat]; exact hcat)) hd ⟨h3, h4⟩
theorem g_callSN {M' : MD} {d' mc ms rc' rs' idx : Nat} {Q' : Option Value → PH → Prop} {X' : String → PH → Prop} {host : String} {As : List Value} (hd : decode M.2.1 pc = .ok (.invokestatic idx, 3)) (hz : ∀ U H, xZ x U H → va_Nw (.methodLinkNest M.1.cls idx M'.1 host) U) (w1 : Cond.static M'.1 ∈ BIG) (w3 : Cond.initialized M'.1.cls ∈ BIG) (w4 : Cond.code M'.1 M'.2.1 M'.2.2.1 M'.2.2.2 ∈ BIG) (hpl : M'.1.cls ≠ "java/lang/invoke/MethodHandle" ∧ M'.1.cls ≠ "java/lang/invoke/VarHandle" ∧ (parseMethodDescriptor M'.1.desc).map (fun d => d.parameters.length) = some As.length) (hdd : d' + 1 ≤ d) (hml : M'.2.2.1 ≤ 22) (hcat : (rest.map fun v => v.category).sum ≤ 8)
    (hM : Cm l x M' d' mc ms As h Q' X') (hc : rc' + mc ≤ rc) (hm : rs' + ms ≤ rs) (hX : ∀ E h', ¬ X' E h') (k : ∀ v h', Q' v h' → hN h ≤ hN h' → Gm l x M d (pc + 3) lv (v.toList ++ rest) h' rc' rs' n0 Q X) : Gm l x M d pc lv (As.reverse ++ rest) h rc rs n0 Q X := by
  refine Gm.callG (rest := rest) hc hm wvs_rest0 ?_ hX k
  intro hx p e R s m args below meth co H locs cells slots ls ad hB h1 h2 h3 h4 hw hs hsz
  have cw : va_CN R s args M.1.cls idx M'.1 host M'.2.1 M'.2.2.1 M'.2.2.2 (.code M'.1 M'.2.1 M'.2.2.1 M'.2.2.2 :: BIG) { frames := d', cells := mc, slots := ms, locals := 41 * d' } mc ms As.length :=
    va_cnB (ws' := BIG) As.length hB.2.2.2.2.1 (goodBig (by
      intro w hw
      rcases List.mem_cons.mp hw with rfl | hw
      · exact w4
      · exact hw)) rfl rfl rfl (hz s H hw.2.2.2.2.2) (big_at hB w3) ⟨hpl.1, hpl.2.1, hpl.2.2⟩ ⟨show d' + 1 ≤ R.frames by omega, show 8 + (M'.2.2.1 + 11) + 41 * d' ≤ R.locals by omega⟩
  exact vx_runSN (As := As.map (rv (xS x) ad)) (rest := rest.map (rv (xS x) ad)) (locs := locs) ⟨hB.1, hB.2.1, hB.2.2.2.1, hB.2.2.2.2.2.1, hB.2.2.2.2.1⟩ (hM hx ad) ⟨cw, big_at hB w1, trivial⟩ ⟨blindW hx, fun U hU hW => ⟨rfl, by rw [hU]; exact hw.moved hx hW, wvs_args0 hs⟩⟩ rfl (by rw [List.length_map]) hsz (rv_list0 As rest) (lv_room (by rw [rvs_cat]; exact hcat)) hd ⟨h3, h4⟩
end Calls6
