/-! ROWS, THIRD PART: locals are stored -/
def lins (i : Nat) (v : Value) : List (Nat × Value) → List (Nat × Value)
  | [] => [(i, v)]
  | q :: r => bif Nat.ble i q.1 then (i, v) :: q :: r else q :: lins i v r
def lput (lv : List (Nat × Value)) (i : Nat) (v : Value) : List (Nat × Value) := lins i v (lv.filter (fun q => !(q.1 == i) && (!(q.1 == i + 1 && v.category == 2) && !(q.1 + 1 == i && q.2.category == 2))))
theorem lins_mem {i : Nat} {v : Value} : ∀ (r : List (Nat × Value)) (q : Nat × Value), q ∈ lins i v r → q = (i, v) ∨ q ∈ r
  | [], q, hq => Or.inl (by simpa [lins] using hq)
  | a :: r, q, hq => by
    unfold lins at hq
    cases hb : Nat.ble i a.1 with
    | true =>
      rw [hb] at hq
      exact (List.mem_cons.mp hq)
    | false =>
      rw [hb] at hq
      rcases List.mem_cons.mp hq with e | hm
      · exact Or.inr (e ▸ List.mem_cons_self)
      · exact (lins_mem r q hm).elim Or.inl (fun h => Or.inr (List.mem_cons_of_mem _ h))
theorem lput_mem {lv : List (Nat × Value)} {i : Nat} {v : Value} {q : Nat × Value} (hq : q ∈ lput lv i v) : q = (i, v) ∨ (q ∈ lv ∧ (!(q.1 == i) && (!(q.1 == i + 1 && v.category == 2) && !(q.1 + 1 == i && q.2.category == 2))) = true) :=
  (lins_mem _ q hq).elim Or.inl (fun h => Or.inr (List.mem_filter.mp h))
theorem lput_wv {h : PH} {lv : List (Nat × Value)} {i : Nat} {v : Value} (hl : wvl h lv) (hv : wv h v) : wvl h (lput lv i v) := fun q hq => (lput_mem hq).elim (fun e => by rw [e]; exact hv) (fun e => hl q e.1)
theorem lput_has1 {ls : Array Slot} {n i : Nat} {lv : List (Nat × Value)} {v : Value} {sa ad : Nat → Nat} (hc : v.category = 1) (hv : lv_has ls n ((i, rv sa ad v) :: (rvl sa ad lv).filter (fun q => !(q.1 == i) && !(q.1 + 1 == i && q.2.category == 2)))) : lv_has ls n (rvl sa ad (lput lv i v)) := by
  refine lw_sub hv (fun q hq => ?_)
  obtain ⟨r, hr, rfl⟩ := List.mem_map.mp hq
  rcases lput_mem hr with e | ⟨hm, hk⟩
  · rw [e]; exact List.mem_cons_self
  · refine List.mem_cons_of_mem _ (List.mem_filter.mpr ⟨List.mem_map.mpr ⟨r, hm, rfl⟩, ?_⟩)
    simp only [rv_cat]
    simp only [Bool.and_eq_true] at hk ⊢
    exact ⟨hk.1, hk.2.2⟩
theorem lput_has2 {ls : Array Slot} {n i : Nat} {lv : List (Nat × Value)} {v : Value} {sa ad : Nat → Nat} (hc : v.category = 2) (hv : lv_has ls n ((i, rv sa ad v) :: (rvl sa ad lv).filter (fun q => !(q.1 == i) && (!(q.1 == i + 1) && !(q.1 + 1 == i && q.2.category == 2))))) : lv_has ls n (rvl sa ad (lput lv i v)) := by
  refine lw_sub hv (fun q hq => ?_)
  obtain ⟨r, hr, rfl⟩ := List.mem_map.mp hq
  rcases lput_mem hr with e | ⟨hm, hk⟩
  · rw [e]; exact List.mem_cons_self
  · refine List.mem_cons_of_mem _ (List.mem_filter.mpr ⟨List.mem_map.mpr ⟨r, hm, rfl⟩, ?_⟩)
    simp only [rv_cat]
    simpa [hc] using hk
section Rows3
variable {l : Launch} {x : CX} {M : MD} {d pc : Nat} {lv : List (Nat × Value)} {st : List Value} {h : PH} {rc rs n0 : Nat} {Q : Option Value → PH → Prop} {X : String → PH → Prop}
theorem Gm.go3 {pc' i : Nat} {v : Value} {st' : List Value} {lv' : List (Nat × Value)} (hlv : lput lv i v = lv') (hst : wvs h st → wvs h st') (hwv : wvl h lv → wvs h st → wv h v)
    (step : ∀ {p : Program} {e : Env} {R : Room} {s : State} {m : MethodId} {args : Array Value} {below : List Frame} {meth : Method} {c : Code} {H : Heap} {locs : List Loc} {cells slots : Nat} {Qf : State → Prop} {ls : Array Slot} {sa ad : Nat → Nat}, Bd M p s m args meth c → lv_has ls M.2.2.1 (rvl sa ad lv) →
      (∀ ls' : Array Slot, lv_has ls' M.2.2.1 (rvl sa ad (lput lv i v)) → W p l e R s m args below meth c H locs cells slots Qf (F0 m pc' ls' (st'.map (rv sa ad)))) → W p l e R s m args below meth c H locs cells slots Qf (F0 m pc ls (st.map (rv sa ad))))
    (k : Gm l x M d pc' lv' st' h rc rs n0 Q X) : Gm l x M d pc lv st h rc rs n0 Q X := by
  subst hlv
  intro hx p e R s m args below meth c H locs cells slots mc ms ls ad ad0 hB h1 h2 h3 h4 h5 h6 hb hw hS ha hn hl hs hv
  exact step hB hv (fun ls' hv' => k hx p e R s m args below meth c H locs cells slots mc ms ls' ad ad0 hB h1 h2 h3 h4 h5 h6 hb hw hS ha hn (lput_wv hl (hwv hl hs)) (hst hs) hv')
theorem g_istore_n {n : Fin 4} {i : Nat} {a : Int32} {lv' : List (Nat × Value)} (hd : decode M.2.1 pc = .ok (.istore_n n, 1)) (hi : (n : Nat) = i) (hn : i < M.2.2.1) (hl : lput lv i (.int a) = lv') (k : Gm l x M d (pc + 1) lv' (st) h rc rs n0 Q X) : Gm l x M d pc lv (.int a :: st) h rc rs n0 Q X :=
  Gm.go3 hl (fun hs => hs.tail) (fun _ hs => hs.head) (fun hB hv k => lv_istore_n hB.1 hB.2.1 hd hi hv hn rfl (fun ls' hv' => k ls' (lput_has1 rfl hv'))) k
theorem g_istore {i : Nat} {a : Int32} {lv' : List (Nat × Value)} (hd : decode M.2.1 pc = .ok (.istore i, 2)) (hn : i < M.2.2.1) (hl : lput lv i (.int a) = lv') (k : Gm l x M d (pc + 2) lv' (st) h rc rs n0 Q X) : Gm l x M d pc lv (.int a :: st) h rc rs n0 Q X :=
  Gm.go3 hl (fun hs => hs.tail) (fun _ hs => hs.head) (fun hB hv k => lv_istore hB.1 hB.2.1 hd hv hn rfl (fun ls' hv' => k ls' (lput_has1 rfl hv'))) k
theorem g_fstore_n {n : Fin 4} {i : Nat} {a : UInt32} {lv' : List (Nat × Value)} (hd : decode M.2.1 pc = .ok (.fstore_n n, 1)) (hi : (n : Nat) = i) (hn : i < M.2.2.1) (hl : lput lv i (.float a) = lv') (k : Gm l x M d (pc + 1) lv' (st) h rc rs n0 Q X) : Gm l x M d pc lv (.float a :: st) h rc rs n0 Q X :=
  Gm.go3 hl (fun hs => hs.tail) (fun _ hs => hs.head) (fun hB hv k => lv_fstore_n hB.1 hB.2.1 hd hi hv hn rfl (fun ls' hv' => k ls' (lput_has1 rfl hv'))) k
theorem g_fstore {i : Nat} {a : UInt32} {lv' : List (Nat × Value)} (hd : decode M.2.1 pc = .ok (.fstore i, 2)) (hn : i < M.2.2.1) (hl : lput lv i (.float a) = lv') (k : Gm l x M d (pc + 2) lv' (st) h rc rs n0 Q X) : Gm l x M d pc lv (.float a :: st) h rc rs n0 Q X :=
  Gm.go3 hl (fun hs => hs.tail) (fun _ hs => hs.head) (fun hB hv k => lv_fstore hB.1 hB.2.1 hd hv hn rfl (fun ls' hv' => k ls' (lput_has1 rfl hv'))) k
theorem g_lstore_n {n : Fin 4} {i : Nat} {a : Int64} {lv' : List (Nat × Value)} (hd : decode M.2.1 pc = .ok (.lstore_n n, 1)) (hi : (n : Nat) = i) (hn : i + 1 < M.2.2.1) (hl : lput lv i (.long a) = lv') (k : Gm l x M d (pc + 1) lv' (st) h rc rs n0 Q X) : Gm l x M d pc lv (.long a :: st) h rc rs n0 Q X :=
  Gm.go3 hl (fun hs => hs.tail) (fun _ hs => hs.head) (fun hB hv k => lv_lstore_n hB.1 hB.2.1 hd hi hv hn rfl (fun ls' hv' => k ls' (lput_has2 rfl hv'))) k
theorem g_lstore {i : Nat} {a : Int64} {lv' : List (Nat × Value)} (hd : decode M.2.1 pc = .ok (.lstore i, 2)) (hn : i + 1 < M.2.2.1) (hl : lput lv i (.long a) = lv') (k : Gm l x M d (pc + 2) lv' (st) h rc rs n0 Q X) : Gm l x M d pc lv (.long a :: st) h rc rs n0 Q X :=
  Gm.go3 hl (fun hs => hs.tail) (fun _ hs => hs.head) (fun hB hv k => lv_lstore hB.1 hB.2.1 hd hv hn rfl (fun ls' hv' => k ls' (lput_has2 rfl hv'))) k
theorem g_astore_n {n : Fin 4} {i : Nat} {a : Nat} {lv' : List (Nat × Value)} (hd : decode M.2.1 pc = .ok (.astore_n n, 1)) (hi : (n : Nat) = i) (hn : i < M.2.2.1) (hl : lput lv i (.ref a) = lv') (k : Gm l x M d (pc + 1) lv' (st) h rc rs n0 Q X) : Gm l x M d pc lv (.ref a :: st) h rc rs n0 Q X :=
  Gm.go3 hl (fun hs => hs.tail) (fun _ hs => hs.head) (fun hB hv k => lv_astore_n hB.1 hB.2.1 hd hi hv hn rfl (fun ls' hv' => k ls' (lput_has1 rfl hv'))) k
theorem g_astore_nN {n : Fin 4} {i : Nat} {lv' : List (Nat × Value)} (hd : decode M.2.1 pc = .ok (.astore_n n, 1)) (hi : (n : Nat) = i) (hn : i < M.2.2.1) (hl : lput lv i .null = lv') (k : Gm l x M d (pc + 1) lv' (st) h rc rs n0 Q X) : Gm l x M d pc lv (.null :: st) h rc rs n0 Q X :=
  Gm.go3 hl (fun hs => hs.tail) (fun _ hs => hs.head) (fun hB hv k => lv_astore_nN hB.1 hB.2.1 hd hi hv hn rfl (fun ls' hv' => k ls' (lput_has1 rfl hv'))) k
theorem g_astore {i : Nat} {a : Nat} {lv' : List (Nat × Value)} (hd : decode M.2.1 pc = .ok (.astore i, 2)) (hn : i < M.2.2.1) (hl : lput lv i (.ref a) = lv') (k : Gm l x M d (pc + 2) lv' (st) h rc rs n0 Q X) : Gm l x M d pc lv (.ref a :: st) h rc rs n0 Q X :=
  Gm.go3 hl (fun hs => hs.tail) (fun _ hs => hs.head) (fun hB hv k => lv_astore hB.1 hB.2.1 hd hv hn rfl (fun ls' hv' => k ls' (lput_has1 rfl hv'))) k
theorem g_astoreN {i : Nat} {lv' : List (Nat × Value)} (hd : decode M.2.1 pc = .ok (.astore i, 2)) (hn : i < M.2.2.1) (hl : lput lv i .null = lv') (k : Gm l x M d (pc + 2) lv' (st) h rc rs n0 Q X) : Gm l x M d pc lv (.null :: st) h rc rs n0 Q X :=
  Gm.go3 hl (fun hs => hs.tail) (fun _ hs => hs.head) (fun hB hv k => lv_astoreN hB.1 hB.2.1 hd hv hn rfl (fun ls' hv' => k ls' (lput_has1 rfl hv'))) k
theorem rvl_get {sa ad : Nat → Nat} {q i : Nat} {v : Value} (hq : lv[q]? = some (i, v)) : (rvl sa ad lv)[q]? = some (i, rv sa ad v) := by
  simp [rvl, hq]
theorem g_iinc {i : Nat} {n : Int} {a v : Int32} {lv' : List (Nat × Value)} (hd : decode M.2.1 pc = .ok (.iinc i n, 3)) (q : Nat) (hq : lv[q]? = some (i, .int a)) (hv : a + Int32.ofInt n = v) (hn : i < M.2.2.1) (hl : lput lv i (.int v) = lv') (k : Gm l x M d (pc + 3) lv' (st) h rc rs n0 Q X) : Gm l x M d pc lv (st) h rc rs n0 Q X :=
  Gm.go3 hl (fun hs => hs) (fun _ _ => wv_int _ _) (fun hB hv' k => lv_iinc hB.1 hB.2.1 hd hv' (k := q) (rvl_get hq) hv hn rfl (fun ls' hv' => k ls' (lput_has1 rfl hv'))) k
theorem big_at {p : Program} {s : State} {m : MethodId} {args : Array Value} {meth : Method} {c : Code} (hB : Bd M p s m args meth c) {w : Cond} (hw : w ∈ BIG) : w.before args s = true := hB.2.2.2.2.1 w hw
theorem g_ldc {n : Nat} {v : Int32} (hd : decode M.2.1 pc = .ok (.ldc n, 2)) (hw : Cond.constant M.1.cls n v ∈ BIG) (k : Gm l x M d (pc + 2) lv (.int v :: st) h rc rs n0 Q X) : Gm l x M d pc lv (st) h rc rs n0 Q X :=
  Gm.go1 (fun _ hs => hs.cons (wv_int _ _)) (fun hB _ k => lv_ldc hB.1 hB.2.1 hB.2.2.2.2.2.1 (big_at hB hw) hd k) k
theorem g_ldcw {n : Nat} {v : Int32} (hd : decode M.2.1 pc = .ok (.ldc_w n, 3)) (hw : Cond.constant M.1.cls n v ∈ BIG) (k : Gm l x M d (pc + 3) lv (.int v :: st) h rc rs n0 Q X) : Gm l x M d pc lv (st) h rc rs n0 Q X :=
  Gm.go1 (fun _ hs => hs.cons (wv_int _ _)) (fun hB _ k => lv_ldcw hB.1 hB.2.1 hB.2.2.2.2.2.1 (big_at hB hw) hd k) k
theorem g_ldc2 {n : Nat} {v : Int64} (hd : decode M.2.1 pc = .ok (.ldc2_w n, 3)) (hw : Cond.constantLong M.1.cls n v ∈ BIG) (k : Gm l x M d (pc + 3) lv (.long v :: st) h rc rs n0 Q X) : Gm l x M d pc lv (st) h rc rs n0 Q X :=
  Gm.go1 (fun _ hs => hs.cons (wv_long _ _)) (fun hB _ k => lv_ldc2 hB.1 hB.2.1 hB.2.2.2.2.2.1 (big_at hB hw) hd k) k
theorem g_ldcf {n : Nat} {v : UInt32} (hd : decode M.2.1 pc = .ok (.ldc n, 2)) (hw : Cond.constantFloat M.1.cls n v ∈ BIG) (k : Gm l x M d (pc + 2) lv (.float v :: st) h rc rs n0 Q X) : Gm l x M d pc lv (st) h rc rs n0 Q X :=
  Gm.go1 (fun _ hs => hs.cons (wv_float _ _)) (fun hB _ k => lv_ldcf hB.1 hB.2.1 hB.2.2.2.2.2.1 (big_at hB hw) hd k) k
theorem g_tableOut {dflt lo hi : Int} {offs : Array Int} {len : Nat} {v : Int32} {tgt : Nat} (hd : decode M.2.1 pc = .ok (.tableswitch dflt lo hi offs, len)) (ho : v.toInt < lo ∨ hi < v.toInt) (ht : (pc : Int) + dflt = (tgt : Int)) (k : Gm l x M d tgt lv (st) h rc rs n0 Q X) : Gm l x M d pc lv (.int v :: st) h rc rs n0 Q X :=
  Gm.go1 (fun _ hs => hs.tail) (fun hB _ k => lv_tableOut hB.1 hB.2.1 hd ho ht k) k
theorem g_tableIn {dflt lo hi : Int} {offs : Array Int} {len : Nat} {v : Int32} {off : Int} {tgt : Nat} (hd : decode M.2.1 pc = .ok (.tableswitch dflt lo hi offs, len)) (h1 : lo ≤ v.toInt) (h2 : v.toInt ≤ hi) (ho : offs[(v.toInt - lo).toNat]? = some off) (ht : (pc : Int) + off = (tgt : Int)) (k : Gm l x M d tgt lv (st) h rc rs n0 Q X) : Gm l x M d pc lv (.int v :: st) h rc rs n0 Q X :=
  Gm.go1 (fun _ hs => hs.tail) (fun hB _ k => lv_tableIn hB.1 hB.2.1 hd (Int.not_lt.mpr h1) (Int.not_lt.mpr h2) ho ht k) k
theorem g_lookup {dflt : Int} {ps : Array (Int × Int)} {len : Nat} {v : Int32} {off : Int} {tgt : Nat} (hd : decode M.2.1 pc = .ok (.lookupswitch dflt ps, len)) (hp : (ps.toList.zip (ps.toList.drop 1)).all (fun (a, next) => a.1 < next.1) = true) (ho : Op.lookupswitch.offset ps.toList dflt v.toInt = off) (ht : (pc : Int) + off = (tgt : Int)) (k : Gm l x M d tgt lv (st) h rc rs n0 Q X) : Gm l x M d pc lv (.int v :: st) h rc rs n0 Q X :=
  Gm.go1 (fun _ hs => hs.tail) (fun hB _ k => lv_lookup hB.1 hB.2.1 hd hp ho ht k) k
end Rows3
