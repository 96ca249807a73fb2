/-! ROWS, FIRST PART: instructions that leave the heap as it is -/
theorem Gm.go1 {l : Launch} {x : CX} {M : MD} {d pc pc' : Nat} {lv : List (Nat × Value)} {st st' : List Value} {h : PH} {rc rs n0 : Nat} {Q : Option Value → PH → Prop} {X : String → PH → Prop}
    (hst : wvl h lv → wvs h st → wvs h st')
    (step : ∀ {p : Program} {e : Env} {R : Room} {s : State} {m : MethodId} {args : Array Value} {below : List Frame} {meth : Method} {c : Code} {H : Heap} {locs : List Loc} {cells slots : Nat} {Qf : State → Prop} {ls : Array Slot} {sa ad : Nat → Nat}, Bd M p s m args meth c → lv_has ls M.2.2.1 (rvl sa ad lv) →
      W p l e R s m args below meth c H locs cells slots Qf (F0 m pc' ls (st'.map (rv sa ad))) → W p l e R s m args below meth c H locs cells slots Qf (F0 m pc ls (st.map (rv sa ad))))
    (k : Gm l x M d pc' lv st' h rc rs n0 Q X) : Gm l x M d pc lv st h rc rs n0 Q X := by
  intro hx p e R s m args below meth c H locs cells slots mc ms ls ad ad0 hB h1 h2 h3 h4 h5 h6 hb hw hS ha hn hl hs hv
  exact step hB hv (k hx p e R s m args below meth c H locs cells slots mc ms ls ad ad0 hB h1 h2 h3 h4 h5 h6 hb hw hS ha hn hl (hst hl hs) hv)
/-- fewer locals -/
theorem Gm.sub {l : Launch} {x : CX} {M : MD} {d pc : Nat} {lv lv' : List (Nat × Value)} {st : List Value} {h : PH} {rc rs n0 : Nat} {Q : Option Value → PH → Prop} {X : String → PH → Prop}
    (ks : List Nat) (hs : lv_pick lv ks = lv') (k : Gm l x M d pc lv' st h rc rs n0 Q X) : Gm l x M d pc lv st h rc rs n0 Q X := by
  have hm : ∀ q ∈ lv', q ∈ lv := fun q hq => by
    rw [← hs] at hq
    obtain ⟨i, -, hi⟩ := List.mem_filterMap.mp hq
    exact List.mem_of_getElem? hi
  intro hx p e R s m args below meth c H locs cells slots mc ms ls ad ad0 hB h1 h2 h3 h4 h5 h6 hb hw hS ha hn hl hst hv
  refine k hx p e R s m args below meth c H locs cells slots mc ms ls ad ad0 hB h1 h2 h3 h4 h5 h6 hb hw hS ha hn (fun q hq => hl q (hm q hq)) hst (lw_sub hv fun q hq => ?_)
  obtain ⟨r, hr, rfl⟩ := List.mem_map.mp hq
  exact List.mem_map.mpr ⟨r, hm r hr, rfl⟩
section Rows1
variable {l : Launch} {x : CX} {M : MD} {d pc : Nat} {lv : List (Nat × Value)} {st : List Value} {h : PH} {rc rs n0 : Nat} {Q : Option Value → PH → Prop} {X : String → PH → Prop}
/-- a local by its place in the list -/
theorem rvl_at {ls : Array Slot} {n : Nat} {sa ad : Nat → Nat} {lv : List (Nat × Value)} (hv : lv_has ls n (rvl sa ad lv)) (k : Nat) {i : Nat} {v : Value} (hk : lv[k]? = some (i, v)) : ls[i]? = some (.val (rv sa ad v)) :=
  hv.2.2 (i, rv sa ad v) (List.mem_map.mpr ⟨(i, v), List.mem_of_getElem? hk, rfl⟩)
theorem g_iconst {n : Int} {v : Int32} (hd : decode M.2.1 pc = .ok (.iconst n, 1)) (hv : Int32.ofInt n = v) (k : Gm l x M d (pc + 1) lv (.int v :: st) h rc rs n0 Q X) : Gm l x M d pc lv st h rc rs n0 Q X :=
  Gm.go1 (fun _ hs => hs.cons (wv_int _ _)) (fun hB _ k => lv_iconst hB.1 hB.2.1 hd hv k) k
theorem g_bipush {n : Int} {v : Int32} (hd : decode M.2.1 pc = .ok (.bipush n, 2)) (hv : (Int8.ofInt n).toInt32 = v) (k : Gm l x M d (pc + 2) lv (.int v :: st) h rc rs n0 Q X) : Gm l x M d pc lv st h rc rs n0 Q X :=
  Gm.go1 (fun _ hs => hs.cons (wv_int _ _)) (fun hB _ k => lv_bipush hB.1 hB.2.1 hd hv k) k
theorem g_sipush {n : Int} {v : Int32} (hd : decode M.2.1 pc = .ok (.sipush n, 3)) (hv : (Int16.ofInt n).toInt32 = v) (k : Gm l x M d (pc + 3) lv (.int v :: st) h rc rs n0 Q X) : Gm l x M d pc lv st h rc rs n0 Q X :=
  Gm.go1 (fun _ hs => hs.cons (wv_int _ _)) (fun hB _ k => lv_sipush hB.1 hB.2.1 hd hv k) k
theorem g_lconst {n : Fin 2} {v : Int64} (hd : decode M.2.1 pc = .ok (.lconst n, 1)) (hv : Int64.ofNat (n : Nat) = v) (k : Gm l x M d (pc + 1) lv (.long v :: st) h rc rs n0 Q X) : Gm l x M d pc lv st h rc rs n0 Q X :=
  Gm.go1 (fun _ hs => hs.cons (wv_long _ _)) (fun hB _ k => lv_lconst hB.1 hB.2.1 hd hv k) k
theorem g_fconst0 (hd : decode M.2.1 pc = .ok (.fconst 0, 1)) (k : Gm l x M d (pc + 1) lv (.float FP.fconst0 :: st) h rc rs n0 Q X) : Gm l x M d pc lv st h rc rs n0 Q X :=
  Gm.go1 (fun _ hs => hs.cons (wv_float _ _)) (fun hB _ k => lv_fconst0 hB.1 hB.2.1 hd k) k
theorem g_iload_n {n : Fin 4} {i : Nat} {a : Int32} (hd : decode M.2.1 pc = .ok (.iload_n n, 1)) (hi : (n : Nat) = i) (q : Nat) (hq : lv[q]? = some (i, .int a)) (k : Gm l x M d (pc + 1) lv (.int a :: st) h rc rs n0 Q X) : Gm l x M d pc lv st h rc rs n0 Q X :=
  Gm.go1 (fun _ hs => hs.cons (wv_int _ _)) (fun hB hv k => lv_iload_n hB.1 hB.2.1 hd hi (rvl_at hv q hq) k) k
theorem g_iload {i : Nat} {a : Int32} (hd : decode M.2.1 pc = .ok (.iload i, 2)) (q : Nat) (hq : lv[q]? = some (i, .int a)) (k : Gm l x M d (pc + 2) lv (.int a :: st) h rc rs n0 Q X) : Gm l x M d pc lv st h rc rs n0 Q X :=
  Gm.go1 (fun _ hs => hs.cons (wv_int _ _)) (fun hB hv k => lv_iload hB.1 hB.2.1 hd (rvl_at hv q hq) k) k
theorem g_lload_n {n : Fin 4} {i : Nat} {a : Int64} (hd : decode M.2.1 pc = .ok (.lload_n n, 1)) (hi : (n : Nat) = i) (q : Nat) (hq : lv[q]? = some (i, .long a)) (k : Gm l x M d (pc + 1) lv (.long a :: st) h rc rs n0 Q X) : Gm l x M d pc lv st h rc rs n0 Q X :=
  Gm.go1 (fun _ hs => hs.cons (wv_long _ _)) (fun hB hv k => lv_lload_n hB.1 hB.2.1 hd hi (rvl_at hv q hq) k) k
theorem g_lload {i : Nat} {a : Int64} (hd : decode M.2.1 pc = .ok (.lload i, 2)) (q : Nat) (hq : lv[q]? = some (i, .long a)) (k : Gm l x M d (pc + 2) lv (.long a :: st) h rc rs n0 Q X) : Gm l x M d pc lv st h rc rs n0 Q X :=
  Gm.go1 (fun _ hs => hs.cons (wv_long _ _)) (fun hB hv k => lv_lload hB.1 hB.2.1 hd (rvl_at hv q hq) k) k
theorem g_fload_n {n : Fin 4} {i : Nat} {a : UInt32} (hd : decode M.2.1 pc = .ok (.fload_n n, 1)) (hi : (n : Nat) = i) (q : Nat) (hq : lv[q]? = some (i, .float a)) (k : Gm l x M d (pc + 1) lv (.float a :: st) h rc rs n0 Q X) : Gm l x M d pc lv st h rc rs n0 Q X :=
  Gm.go1 (fun _ hs => hs.cons (wv_float _ _)) (fun hB hv k => lv_fload_n hB.1 hB.2.1 hd hi (rvl_at hv q hq) k) k
theorem g_fload {i : Nat} {a : UInt32} (hd : decode M.2.1 pc = .ok (.fload i, 2)) (q : Nat) (hq : lv[q]? = some (i, .float a)) (k : Gm l x M d (pc + 2) lv (.float a :: st) h rc rs n0 Q X) : Gm l x M d pc lv st h rc rs n0 Q X :=
  Gm.go1 (fun _ hs => hs.cons (wv_float _ _)) (fun hB hv k => lv_fload hB.1 hB.2.1 hd (rvl_at hv q hq) k) k
theorem wvl_at {q i : Nat} {v : Value} (hl : wvl h lv) (hq : lv[q]? = some (i, v)) : wv h v := hl (i, v) (List.mem_of_getElem? hq)
theorem g_aload_n {n : Fin 4} {i : Nat} {a : Nat} (hd : decode M.2.1 pc = .ok (.aload_n n, 1)) (hi : (n : Nat) = i) (q : Nat) (hq : lv[q]? = some (i, .ref a)) (k : Gm l x M d (pc + 1) lv (.ref a :: st) h rc rs n0 Q X) : Gm l x M d pc lv st h rc rs n0 Q X :=
  Gm.go1 (fun hl hs => hs.cons (wvl_at hl hq)) (fun hB hv k => lv_aload_n hB.1 hB.2.1 hd hi (rvl_at hv q hq) k) k
theorem g_aload {i : Nat} {a : Nat} (hd : decode M.2.1 pc = .ok (.aload i, 2)) (q : Nat) (hq : lv[q]? = some (i, .ref a)) (k : Gm l x M d (pc + 2) lv (.ref a :: st) h rc rs n0 Q X) : Gm l x M d pc lv st h rc rs n0 Q X :=
  Gm.go1 (fun hl hs => hs.cons (wvl_at hl hq)) (fun hB hv k => lv_aload hB.1 hB.2.1 hd (rvl_at hv q hq) k) k
theorem g_aload_nT {n : Fin 4} {i : Nat} {a : Nat} (hd : decode M.2.1 pc = .ok (.aload_n n, 1)) (hi : (n : Nat) = i) (q : Nat) (hq : lv[q]? = some (i, .retAddr a)) (k : Gm l x M d (pc + 1) lv (.retAddr a :: st) h rc rs n0 Q X) : Gm l x M d pc lv st h rc rs n0 Q X :=
  Gm.go1 (fun hl hs => hs.cons (wvl_at hl hq)) (fun hB hv k => lv_aload_n hB.1 hB.2.1 hd hi (rvl_at hv q hq) k) k
theorem g_aload_nN {n : Fin 4} {i : Nat} (hd : decode M.2.1 pc = .ok (.aload_n n, 1)) (hi : (n : Nat) = i) (q : Nat) (hq : lv[q]? = some (i, .null)) (k : Gm l x M d (pc + 1) lv (.null :: st) h rc rs n0 Q X) : Gm l x M d pc lv st h rc rs n0 Q X :=
  Gm.go1 (fun hl hs => hs.cons (wvl_at hl hq)) (fun hB hv k => lv_aload_nN hB.1 hB.2.1 hd hi (rvl_at hv q hq) k) k
theorem g_null (hd : decode M.2.1 pc = .ok (.aconst_null, 1)) (k : Gm l x M d (pc + 1) lv (.null :: st) h rc rs n0 Q X) : Gm l x M d pc lv st h rc rs n0 Q X :=
  Gm.go1 (fun _ hs => hs.cons (wv_null _)) (fun hB _ k => lv_null hB.1 hB.2.1 hd k) k
end Rows1
