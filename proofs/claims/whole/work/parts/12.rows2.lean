section Rows2
variable {l : Launch} {x : CX} {M : MD} {d pc : Nat} {lv : List (Nat × Value)} {st : List Value} {h : PH} {rc rs n0 : Nat} {Q : Option Value → PH → Prop} {X : String → PH → Prop}
theorem g_iadd {a b : Int32} (hd : decode M.2.1 pc = .ok (.iadd, 1)) (k : Gm l x M d (pc + 1) lv (.int (a + b) :: st) h rc rs n0 Q X) : Gm l x M d pc lv (.int b :: .int a :: st) h rc rs n0 Q X :=
  Gm.go1 (fun _ hs => hs.tail.tail.cons (wv_int _ _)) (fun hB _ k => lv_iadd hB.1 hB.2.1 hd k) k
theorem g_isub {a b : Int32} (hd : decode M.2.1 pc = .ok (.isub, 1)) (k : Gm l x M d (pc + 1) lv (.int (a - b) :: st) h rc rs n0 Q X) : Gm l x M d pc lv (.int b :: .int a :: st) h rc rs n0 Q X :=
  Gm.go1 (fun _ hs => hs.tail.tail.cons (wv_int _ _)) (fun hB _ k => lv_isub hB.1 hB.2.1 hd k) k
theorem g_imul {a b : Int32} (hd : decode M.2.1 pc = .ok (.imul, 1)) (k : Gm l x M d (pc + 1) lv (.int (a * b) :: st) h rc rs n0 Q X) : Gm l x M d pc lv (.int b :: .int a :: st) h rc rs n0 Q X :=
  Gm.go1 (fun _ hs => hs.tail.tail.cons (wv_int _ _)) (fun hB _ k => lv_imul hB.1 hB.2.1 hd k) k
theorem g_iand {a b : Int32} (hd : decode M.2.1 pc = .ok (.iand, 1)) (k : Gm l x M d (pc + 1) lv (.int (a &&& b) :: st) h rc rs n0 Q X) : Gm l x M d pc lv (.int b :: .int a :: st) h rc rs n0 Q X :=
  Gm.go1 (fun _ hs => hs.tail.tail.cons (wv_int _ _)) (fun hB _ k => lv_iand hB.1 hB.2.1 hd k) k
theorem g_ior {a b : Int32} (hd : decode M.2.1 pc = .ok (.ior, 1)) (k : Gm l x M d (pc + 1) lv (.int (a ||| b) :: st) h rc rs n0 Q X) : Gm l x M d pc lv (.int b :: .int a :: st) h rc rs n0 Q X :=
  Gm.go1 (fun _ hs => hs.tail.tail.cons (wv_int _ _)) (fun hB _ k => lv_ior hB.1 hB.2.1 hd k) k
theorem g_ixor {a b : Int32} (hd : decode M.2.1 pc = .ok (.ixor, 1)) (k : Gm l x M d (pc + 1) lv (.int (a ^^^ b) :: st) h rc rs n0 Q X) : Gm l x M d pc lv (.int b :: .int a :: st) h rc rs n0 Q X :=
  Gm.go1 (fun _ hs => hs.tail.tail.cons (wv_int _ _)) (fun hB _ k => lv_ixor hB.1 hB.2.1 hd k) k
theorem g_ishl {a b : Int32} (hd : decode M.2.1 pc = .ok (.ishl, 1)) (k : Gm l x M d (pc + 1) lv (.int (a <<< (b &&& 31)) :: st) h rc rs n0 Q X) : Gm l x M d pc lv (.int b :: .int a :: st) h rc rs n0 Q X :=
  Gm.go1 (fun _ hs => hs.tail.tail.cons (wv_int _ _)) (fun hB _ k => lv_ishl hB.1 hB.2.1 hd k) k
theorem g_ishr {a b : Int32} (hd : decode M.2.1 pc = .ok (.ishr, 1)) (k : Gm l x M d (pc + 1) lv (.int (a >>> (b &&& 31)) :: st) h rc rs n0 Q X) : Gm l x M d pc lv (.int b :: .int a :: st) h rc rs n0 Q X :=
  Gm.go1 (fun _ hs => hs.tail.tail.cons (wv_int _ _)) (fun hB _ k => lv_ishr hB.1 hB.2.1 hd k) k
theorem g_idiv {a b : Int32} (hd : decode M.2.1 pc = .ok (.idiv, 1)) (hne : ¬ b = 0) (k : Gm l x M d (pc + 1) lv (.int (a / b) :: st) h rc rs n0 Q X) : Gm l x M d pc lv (.int b :: .int a :: st) h rc rs n0 Q X :=
  Gm.go1 (fun _ hs => hs.tail.tail.cons (wv_int _ _)) (fun hB _ k => lv_idiv hB.1 hB.2.1 hd hne k) k
theorem g_irem {a b : Int32} (hd : decode M.2.1 pc = .ok (.irem, 1)) (hne : ¬ b = 0) (k : Gm l x M d (pc + 1) lv (.int (a - a / b * b) :: st) h rc rs n0 Q X) : Gm l x M d pc lv (.int b :: .int a :: st) h rc rs n0 Q X :=
  Gm.go1 (fun _ hs => hs.tail.tail.cons (wv_int _ _)) (fun hB _ k => lv_irem hB.1 hB.2.1 hd hne k) k
theorem g_ladd {a b : Int64} (hd : decode M.2.1 pc = .ok (.ladd, 1)) (k : Gm l x M d (pc + 1) lv (.long (a + b) :: st) h rc rs n0 Q X) : Gm l x M d pc lv (.long b :: .long a :: st) h rc rs n0 Q X :=
  Gm.go1 (fun _ hs => hs.tail.tail.cons (wv_long _ _)) (fun hB _ k => lv_ladd hB.1 hB.2.1 hd k) k
theorem g_lsub {a b : Int64} (hd : decode M.2.1 pc = .ok (.lsub, 1)) (k : Gm l x M d (pc + 1) lv (.long (a - b) :: st) h rc rs n0 Q X) : Gm l x M d pc lv (.long b :: .long a :: st) h rc rs n0 Q X :=
  Gm.go1 (fun _ hs => hs.tail.tail.cons (wv_long _ _)) (fun hB _ k => lv_lsub hB.1 hB.2.1 hd k) k
theorem g_land {a b : Int64} (hd : decode M.2.1 pc = .ok (.land, 1)) (k : Gm l x M d (pc + 1) lv (.long (a &&& b) :: st) h rc rs n0 Q X) : Gm l x M d pc lv (.long b :: .long a :: st) h rc rs n0 Q X :=
  Gm.go1 (fun _ hs => hs.tail.tail.cons (wv_long _ _)) (fun hB _ k => lv_land hB.1 hB.2.1 hd k) k
theorem g_lor {a b : Int64} (hd : decode M.2.1 pc = .ok (.lor, 1)) (k : Gm l x M d (pc + 1) lv (.long (a ||| b) :: st) h rc rs n0 Q X) : Gm l x M d pc lv (.long b :: .long a :: st) h rc rs n0 Q X :=
  Gm.go1 (fun _ hs => hs.tail.tail.cons (wv_long _ _)) (fun hB _ k => lv_lor hB.1 hB.2.1 hd k) k
theorem g_lxor {a b : Int64} (hd : decode M.2.1 pc = .ok (.lxor, 1)) (k : Gm l x M d (pc + 1) lv (.long (a ^^^ b) :: st) h rc rs n0 Q X) : Gm l x M d pc lv (.long b :: .long a :: st) h rc rs n0 Q X :=
  Gm.go1 (fun _ hs => hs.tail.tail.cons (wv_long _ _)) (fun hB _ k => lv_lxor hB.1 hB.2.1 hd k) k
theorem g_fadd {a b : UInt32} (hd : decode M.2.1 pc = .ok (.fadd, 1)) (hne : vf_n32 (FP.fadd a b)) (k : Gm l x M d (pc + 1) lv (.float (FP.fadd a b) :: st) h rc rs n0 Q X) : Gm l x M d pc lv (.float b :: .float a :: st) h rc rs n0 Q X :=
  Gm.go1 (fun _ hs => hs.tail.tail.cons (wv_float _ _)) (fun hB _ k => lv_fadd hB.1 hB.2.1 hd hne k) k
theorem g_fsub {a b : UInt32} (hd : decode M.2.1 pc = .ok (.fsub, 1)) (hne : vf_n32 (FP.fsub a b)) (k : Gm l x M d (pc + 1) lv (.float (FP.fsub a b) :: st) h rc rs n0 Q X) : Gm l x M d pc lv (.float b :: .float a :: st) h rc rs n0 Q X :=
  Gm.go1 (fun _ hs => hs.tail.tail.cons (wv_float _ _)) (fun hB _ k => lv_fsub hB.1 hB.2.1 hd hne k) k
theorem g_fmul {a b : UInt32} (hd : decode M.2.1 pc = .ok (.fmul, 1)) (hne : vf_n32 (FP.fmul a b)) (k : Gm l x M d (pc + 1) lv (.float (FP.fmul a b) :: st) h rc rs n0 Q X) : Gm l x M d pc lv (.float b :: .float a :: st) h rc rs n0 Q X :=
  Gm.go1 (fun _ hs => hs.tail.tail.cons (wv_float _ _)) (fun hB _ k => lv_fmul hB.1 hB.2.1 hd hne k) k
theorem g_fdiv {a b : UInt32} (hd : decode M.2.1 pc = .ok (.fdiv, 1)) (hne : vf_n32 (FP.fdiv a b)) (k : Gm l x M d (pc + 1) lv (.float (FP.fdiv a b) :: st) h rc rs n0 Q X) : Gm l x M d pc lv (.float b :: .float a :: st) h rc rs n0 Q X :=
  Gm.go1 (fun _ hs => hs.tail.tail.cons (wv_float _ _)) (fun hB _ k => lv_fdiv hB.1 hB.2.1 hd hne k) k
theorem g_iushr {a b : Int32} (hd : decode M.2.1 pc = .ok (.iushr, 1)) (k : Gm l x M d (pc + 1) lv (.int ((a.toUInt32 >>> (b.toUInt32 &&& Int32.toUInt32 31)).toInt32) :: st) h rc rs n0 Q X) : Gm l x M d pc lv (.int b :: .int a :: st) h rc rs n0 Q X :=
  Gm.go1 (fun _ hs => hs.tail.tail.cons (wv_int _ _)) (fun hB _ k => lv_iushr hB.1 hB.2.1 hd rfl k) k
theorem g_lushr {a : Int64} {b : Int32} (hd : decode M.2.1 pc = .ok (.lushr, 1)) (k : Gm l x M d (pc + 1) lv (.long ((a.toUInt64 >>> (b.toInt64.toUInt64 &&& Int64.toUInt64 63)).toInt64) :: st) h rc rs n0 Q X) : Gm l x M d pc lv (.int b :: .long a :: st) h rc rs n0 Q X :=
  Gm.go1 (fun _ hs => hs.tail.tail.cons (wv_long _ _)) (fun hB _ k => lv_lushr hB.1 hB.2.1 hd rfl k) k
theorem g_lshl {a : Int64} {b : Int32} (hd : decode M.2.1 pc = .ok (.lshl, 1)) (k : Gm l x M d (pc + 1) lv (.long (a <<< (b.toInt64 &&& 63)) :: st) h rc rs n0 Q X) : Gm l x M d pc lv (.int b :: .long a :: st) h rc rs n0 Q X :=
  Gm.go1 (fun _ hs => hs.tail.tail.cons (wv_long _ _)) (fun hB _ k => lv_lshl hB.1 hB.2.1 hd rfl k) k
theorem g_ineg {a : Int32} (hd : decode M.2.1 pc = .ok (.ineg, 1)) (k : Gm l x M d (pc + 1) lv (.int (-a) :: st) h rc rs n0 Q X) : Gm l x M d pc lv (.int a :: st) h rc rs n0 Q X :=
  Gm.go1 (fun _ hs => hs.tail.cons (wv_int _ _)) (fun hB _ k => lv_ineg hB.1 hB.2.1 hd k) k
theorem g_i2l {a : Int32} (hd : decode M.2.1 pc = .ok (.i2l, 1)) (k : Gm l x M d (pc + 1) lv (.long (a.toInt64) :: st) h rc rs n0 Q X) : Gm l x M d pc lv (.int a :: st) h rc rs n0 Q X :=
  Gm.go1 (fun _ hs => hs.tail.cons (wv_long _ _)) (fun hB _ k => lv_i2l hB.1 hB.2.1 hd rfl k) k
theorem g_l2i {a : Int64} (hd : decode M.2.1 pc = .ok (.l2i, 1)) (k : Gm l x M d (pc + 1) lv (.int (a.toInt32) :: st) h rc rs n0 Q X) : Gm l x M d pc lv (.long a :: st) h rc rs n0 Q X :=
  Gm.go1 (fun _ hs => hs.tail.cons (wv_int _ _)) (fun hB _ k => lv_l2i hB.1 hB.2.1 hd rfl k) k
theorem g_i2c {a : Int32} (hd : decode M.2.1 pc = .ok (.i2c, 1)) (k : Gm l x M d (pc + 1) lv (.int ((a.toUInt32 % 65536).toInt32) :: st) h rc rs n0 Q X) : Gm l x M d pc lv (.int a :: st) h rc rs n0 Q X :=
  Gm.go1 (fun _ hs => hs.tail.cons (wv_int _ _)) (fun hB _ k => lv_i2c hB.1 hB.2.1 hd rfl k) k
theorem g_i2f {a : Int32} (hd : decode M.2.1 pc = .ok (.i2f, 1)) (k : Gm l x M d (pc + 1) lv (.float (FP.i2f a) :: st) h rc rs n0 Q X) : Gm l x M d pc lv (.int a :: st) h rc rs n0 Q X :=
  Gm.go1 (fun _ hs => hs.tail.cons (wv_float _ _)) (fun hB _ k => lv_i2f hB.1 hB.2.1 hd k) k
theorem g_f2i {a : UInt32} (hd : decode M.2.1 pc = .ok (.f2i, 1)) (k : Gm l x M d (pc + 1) lv (.int (FP.f2i a) :: st) h rc rs n0 Q X) : Gm l x M d pc lv (.float a :: st) h rc rs n0 Q X :=
  Gm.go1 (fun _ hs => hs.tail.cons (wv_int _ _)) (fun hB _ k => lv_f2i hB.1 hB.2.1 hd k) k
theorem g_lcmp {a b : Int64} (hd : decode M.2.1 pc = .ok (.lcmp, 1)) (k : Gm l x M d (pc + 1) lv (.int (lg_cmp a b) :: st) h rc rs n0 Q X) : Gm l x M d pc lv (.long b :: .long a :: st) h rc rs n0 Q X :=
  Gm.go1 (fun _ hs => hs.tail.tail.cons (wv_int _ _)) (fun hB _ k => W.lcmp hB.1 hB.2.1 hd k) k
theorem g_fcmp {a b : UInt32} {op : CmpOp} (hd : decode M.2.1 pc = .ok (.fcmp op, 1)) (k : Gm l x M d (pc + 1) lv (.int (Op.cmpValue (FP.fcmp a b) op) :: st) h rc rs n0 Q X) : Gm l x M d pc lv (.float b :: .float a :: st) h rc rs n0 Q X :=
  Gm.go1 (fun _ hs => hs.tail.tail.cons (wv_int _ _)) (fun hB _ k => lv_fcmp hB.1 hB.2.1 hd k) k
theorem g_dup {v : Value} (hd : decode M.2.1 pc = .ok (.dup, 1)) (hc : v.category = 1) (k : Gm l x M d (pc + 1) lv (v :: v :: st) h rc rs n0 Q X) : Gm l x M d pc lv (v :: st) h rc rs n0 Q X :=
  Gm.go1 (fun _ hs => hs.cons hs.head) (fun hB _ k => lv_dup hB.1 hB.2.1 hd ((rv_cat _ _ v).trans hc) k) k
theorem g_dup2 {v w : Value} (hd : decode M.2.1 pc = .ok (.dup2, 1)) (hc : v.category = 1) (hc' : w.category = 1) (k : Gm l x M d (pc + 1) lv (v :: w :: v :: w :: st) h rc rs n0 Q X) : Gm l x M d pc lv (v :: w :: st) h rc rs n0 Q X :=
  Gm.go1 (fun _ hs => (hs.cons hs.tail.head).cons hs.head) (fun hB _ k => lv_dup2_11 hB.1 hB.2.1 hd ((rv_cat _ _ v).trans hc) ((rv_cat _ _ w).trans hc') k) k
theorem g_pop {v : Value} (hd : decode M.2.1 pc = .ok (.pop, 1)) (hc : v.category = 1) (k : Gm l x M d (pc + 1) lv (st) h rc rs n0 Q X) : Gm l x M d pc lv (v :: st) h rc rs n0 Q X :=
  Gm.go1 (fun _ hs => hs.tail) (fun hB _ k => lv_pop hB.1 hB.2.1 hd ((rv_cat _ _ v).trans hc) k) k
theorem g_goto {off : Int} {tgt : Nat} (hd : decode M.2.1 pc = .ok (.goto off, 3)) (ht : (pc : Int) + off = (tgt : Int)) (k : Gm l x M d tgt lv (st) h rc rs n0 Q X) : Gm l x M d pc lv (st) h rc rs n0 Q X :=
  Gm.go1 (fun _ hs => hs) (fun hB _ k => lv_goto hB.1 hB.2.1 hd ht k) k
theorem Gm.go2 {pc1 pc2 : Nat} {st' : List Value} {P N : Prop} (hst : wvs h st → wvs h st')
    (step : ∀ {p : Program} {e : Env} {R : Room} {s : State} {m : MethodId} {args : Array Value} {below : List Frame} {meth : Method} {c : Code} {H : Heap} {locs : List Loc} {cells slots : Nat} {Qf : State → Prop} {ls : Array Slot} {sa ad : Nat → Nat}, Bd M p s m args meth c →
      (P → W p l e R s m args below meth c H locs cells slots Qf (F0 m pc1 ls (st'.map (rv sa ad)))) → (N → W p l e R s m args below meth c H locs cells slots Qf (F0 m pc2 ls (st'.map (rv sa ad)))) → W p l e R s m args below meth c H locs cells slots Qf (F0 m pc ls (st.map (rv sa ad))))
    (k1 : P → Gm l x M d pc1 lv st' h rc rs n0 Q X) (k2 : N → Gm l x M d pc2 lv st' h rc rs n0 Q X) : Gm l x M d pc lv st h rc rs n0 Q X := by
  intro hx p e R s m args below meth c H locs cells slots mc ms ls ad ad0 hB h1 h2 h3 h4 h5 h6 hb hw hS ha hn hl hs hv
  exact step hB (fun q => k1 q hx p e R s m args below meth c H locs cells slots mc ms ls ad ad0 hB h1 h2 h3 h4 h5 h6 hb hw hS ha hn hl (hst hs) hv) (fun q => k2 q hx p e R s m args below meth c H locs cells slots mc ms ls ad ad0 hB h1 h2 h3 h4 h5 h6 hb hw hS ha hn hl (hst hs) hv)
theorem g_icmp_eq {x' y' : Int32} {off : Int} {tgt : Nat} (hd : decode M.2.1 pc = .ok (.if_icmp .eq off, 3)) (ht : (pc : Int) + off = (tgt : Int)) (k1 : x' = y' → Gm l x M d tgt lv (st) h rc rs n0 Q X) (k2 : ¬ x' = y' → Gm l x M d (pc + 3) lv (st) h rc rs n0 Q X) : Gm l x M d pc lv (.int y' :: .int x' :: st) h rc rs n0 Q X :=
  Gm.go2 (fun hs => hs.tail.tail) (fun hB k1 k2 => lv_icmp_eq hB.1 hB.2.1 hd ht k1 k2) k1 k2
theorem g_if_eq {x' : Int32} {off : Int} {tgt : Nat} (hd : decode M.2.1 pc = .ok (.ifCond .eq off, 3)) (ht : (pc : Int) + off = (tgt : Int)) (k1 : x' = 0 → Gm l x M d tgt lv (st) h rc rs n0 Q X) (k2 : ¬ x' = 0 → Gm l x M d (pc + 3) lv (st) h rc rs n0 Q X) : Gm l x M d pc lv (.int x' :: st) h rc rs n0 Q X :=
  Gm.go2 (fun hs => hs.tail) (fun hB k1 k2 => lv_if_eq hB.1 hB.2.1 hd ht k1 k2) k1 k2
theorem g_icmp_ne {x' y' : Int32} {off : Int} {tgt : Nat} (hd : decode M.2.1 pc = .ok (.if_icmp .ne off, 3)) (ht : (pc : Int) + off = (tgt : Int)) (k1 : ¬ x' = y' → Gm l x M d tgt lv (st) h rc rs n0 Q X) (k2 : x' = y' → Gm l x M d (pc + 3) lv (st) h rc rs n0 Q X) : Gm l x M d pc lv (.int y' :: .int x' :: st) h rc rs n0 Q X :=
  Gm.go2 (fun hs => hs.tail.tail) (fun hB k1 k2 => lv_icmp_ne hB.1 hB.2.1 hd ht k1 k2) k1 k2
theorem g_if_ne {x' : Int32} {off : Int} {tgt : Nat} (hd : decode M.2.1 pc = .ok (.ifCond .ne off, 3)) (ht : (pc : Int) + off = (tgt : Int)) (k1 : ¬ x' = 0 → Gm l x M d tgt lv (st) h rc rs n0 Q X) (k2 : x' = 0 → Gm l x M d (pc + 3) lv (st) h rc rs n0 Q X) : Gm l x M d pc lv (.int x' :: st) h rc rs n0 Q X :=
  Gm.go2 (fun hs => hs.tail) (fun hB k1 k2 => lv_if_ne hB.1 hB.2.1 hd ht k1 k2) k1 k2
theorem g_icmp_lt {x' y' : Int32} {off : Int} {tgt : Nat} (hd : decode M.2.1 pc = .ok (.if_icmp .lt off, 3)) (ht : (pc : Int) + off = (tgt : Int)) (k1 : x' < y' → Gm l x M d tgt lv (st) h rc rs n0 Q X) (k2 : ¬ x' < y' → Gm l x M d (pc + 3) lv (st) h rc rs n0 Q X) : Gm l x M d pc lv (.int y' :: .int x' :: st) h rc rs n0 Q X :=
  Gm.go2 (fun hs => hs.tail.tail) (fun hB k1 k2 => lv_icmp_lt hB.1 hB.2.1 hd ht k1 k2) k1 k2
theorem g_if_lt {x' : Int32} {off : Int} {tgt : Nat} (hd : decode M.2.1 pc = .ok (.ifCond .lt off, 3)) (ht : (pc : Int) + off = (tgt : Int)) (k1 : x' < 0 → Gm l x M d tgt lv (st) h rc rs n0 Q X) (k2 : ¬ x' < 0 → Gm l x M d (pc + 3) lv (st) h rc rs n0 Q X) : Gm l x M d pc lv (.int x' :: st) h rc rs n0 Q X :=
  Gm.go2 (fun hs => hs.tail) (fun hB k1 k2 => lv_if_lt hB.1 hB.2.1 hd ht k1 k2) k1 k2
theorem g_icmp_ge {x' y' : Int32} {off : Int} {tgt : Nat} (hd : decode M.2.1 pc = .ok (.if_icmp .ge off, 3)) (ht : (pc : Int) + off = (tgt : Int)) (k1 : y' ≤ x' → Gm l x M d tgt lv (st) h rc rs n0 Q X) (k2 : ¬ y' ≤ x' → Gm l x M d (pc + 3) lv (st) h rc rs n0 Q X) : Gm l x M d pc lv (.int y' :: .int x' :: st) h rc rs n0 Q X :=
  Gm.go2 (fun hs => hs.tail.tail) (fun hB k1 k2 => lv_icmp_ge hB.1 hB.2.1 hd ht k1 k2) k1 k2
theorem g_if_ge {x' : Int32} {off : Int} {tgt : Nat} (hd : decode M.2.1 pc = .ok (.ifCond .ge off, 3)) (ht : (pc : Int) + off = (tgt : Int)) (k1 : 0 ≤ x' → Gm l x M d tgt lv (st) h rc rs n0 Q X) (k2 : ¬ 0 ≤ x' → Gm l x M d (pc + 3) lv (st) h rc rs n0 Q X) : Gm l x M d pc lv (.int x' :: st) h rc rs n0 Q X :=
  Gm.go2 (fun hs => hs.tail) (fun hB k1 k2 => lv_if_ge hB.1 hB.2.1 hd ht k1 k2) k1 k2
theorem g_icmp_gt {x' y' : Int32} {off : Int} {tgt : Nat} (hd : decode M.2.1 pc = .ok (.if_icmp .gt off, 3)) (ht : (pc : Int) + off = (tgt : Int)) (k1 : y' < x' → Gm l x M d tgt lv (st) h rc rs n0 Q X) (k2 : ¬ y' < x' → Gm l x M d (pc + 3) lv (st) h rc rs n0 Q X) : Gm l x M d pc lv (.int y' :: .int x' :: st) h rc rs n0 Q X :=
  Gm.go2 (fun hs => hs.tail.tail) (fun hB k1 k2 => lv_icmp_gt hB.1 hB.2.1 hd ht k1 k2) k1 k2
theorem g_if_gt {x' : Int32} {off : Int} {tgt : Nat} (hd : decode M.2.1 pc = .ok (.ifCond .gt off, 3)) (ht : (pc : Int) + off = (tgt : Int)) (k1 : 0 < x' → Gm l x M d tgt lv (st) h rc rs n0 Q X) (k2 : ¬ 0 < x' → Gm l x M d (pc + 3) lv (st) h rc rs n0 Q X) : Gm l x M d pc lv (.int x' :: st) h rc rs n0 Q X :=
  Gm.go2 (fun hs => hs.tail) (fun hB k1 k2 => lv_if_gt hB.1 hB.2.1 hd ht k1 k2) k1 k2
theorem g_icmp_le {x' y' : Int32} {off : Int} {tgt : Nat} (hd : decode M.2.1 pc = .ok (.if_icmp .le off, 3)) (ht : (pc : Int) + off = (tgt : Int)) (k1 : x' ≤ y' → Gm l x M d tgt lv (st) h rc rs n0 Q X) (k2 : ¬ x' ≤ y' → Gm l x M d (pc + 3) lv (st) h rc rs n0 Q X) : Gm l x M d pc lv (.int y' :: .int x' :: st) h rc rs n0 Q X :=
  Gm.go2 (fun hs => hs.tail.tail) (fun hB k1 k2 => lv_icmp_le hB.1 hB.2.1 hd ht k1 k2) k1 k2
theorem g_if_le {x' : Int32} {off : Int} {tgt : Nat} (hd : decode M.2.1 pc = .ok (.ifCond .le off, 3)) (ht : (pc : Int) + off = (tgt : Int)) (k1 : x' ≤ 0 → Gm l x M d tgt lv (st) h rc rs n0 Q X) (k2 : ¬ x' ≤ 0 → Gm l x M d (pc + 3) lv (st) h rc rs n0 Q X) : Gm l x M d pc lv (.int x' :: st) h rc rs n0 Q X :=
  Gm.go2 (fun hs => hs.tail) (fun hB k1 k2 => lv_if_le hB.1 hB.2.1 hd ht k1 k2) k1 k2
theorem g_fconst1 (hd : decode M.2.1 pc = .ok (.fconst 1, 1)) (k : Gm l x M d (pc + 1) lv (.float FP.fconst1 :: st) h rc rs n0 Q X) : Gm l x M d pc lv (st) h rc rs n0 Q X :=
  Gm.go1 (fun _ hs => hs.cons (wv_float _ _)) (fun hB _ k => lv_fconst1 hB.1 hB.2.1 hd k) k
theorem g_fconst2 (hd : decode M.2.1 pc = .ok (.fconst 2, 1)) (k : Gm l x M d (pc + 1) lv (.float FP.fconst2 :: st) h rc rs n0 Q X) : Gm l x M d pc lv (st) h rc rs n0 Q X :=
  Gm.go1 (fun _ hs => hs.cons (wv_float _ _)) (fun hB _ k => lv_fconst2 hB.1 hB.2.1 hd k) k
theorem g_ifnonnull {a : Nat} {off : Int} {tgt : Nat} (hd : decode M.2.1 pc = .ok (.ifnonnull off, 3)) (ht : (pc : Int) + off = (tgt : Int)) (k : Gm l x M d tgt lv (st) h rc rs n0 Q X) : Gm l x M d pc lv (.ref a :: st) h rc rs n0 Q X :=
  Gm.go1 (fun _ hs => hs.tail) (fun hB _ k => lv_ifnonnull hB.1 hB.2.1 hd ht k) k
theorem g_ifnonnullN {off : Int} (hd : decode M.2.1 pc = .ok (.ifnonnull off, 3)) (k : Gm l x M d (pc + 3) lv (st) h rc rs n0 Q X) : Gm l x M d pc lv (.null :: st) h rc rs n0 Q X :=
  Gm.go1 (fun _ hs => hs.tail) (fun hB _ k => lv_ifnonnullN hB.1 hB.2.1 hd k) k
end Rows2
