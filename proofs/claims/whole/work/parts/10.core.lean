/-! THE PURE HEAP: next address; kinds (number of the object's table below 100, or 100 + kind of row, its length); ints, longs, floats, references by address and place -/
abbrev PH : Type := Nat × (Nat → Nat × Nat) × (Nat → Nat → Int32) × (Nat → Nat → Int64) × (Nat → Nat → UInt32) × (Nat → Nat → Option Nat)
def hN (h : PH) : Nat := h.1
def hK (h : PH) (a : Nat) : Nat × Nat := h.2.1 a
def hI (h : PH) (a k : Nat) : Int32 := h.2.2.1 a k
def hL (h : PH) (a k : Nat) : Int64 := h.2.2.2.1 a k
def hF (h : PH) (a k : Nat) : UInt32 := h.2.2.2.2.1 a k
def hR (h : PH) (a k : Nat) : Option Nat := h.2.2.2.2.2 a k
def u2 {α : Type} (f : Nat → Nat → α) (a k : Nat) (v : α) : Nat → Nat → α := fun b j => if j = k ∧ b = a then v else f b j
def n2 {α : Type} (f : Nat → Nat → α) (a : Nat) (v : α) : Nat → Nat → α := fun b j => if b = a then v else f b j
def sI (h : PH) (a k : Nat) (v : Int32) : PH := (h.1, h.2.1, u2 h.2.2.1 a k v, h.2.2.2.1, h.2.2.2.2.1, h.2.2.2.2.2)
def sL (h : PH) (a k : Nat) (v : Int64) : PH := (h.1, h.2.1, h.2.2.1, u2 h.2.2.2.1 a k v, h.2.2.2.2.1, h.2.2.2.2.2)
def sF (h : PH) (a k : Nat) (v : UInt32) : PH := (h.1, h.2.1, h.2.2.1, h.2.2.2.1, u2 h.2.2.2.2.1 a k v, h.2.2.2.2.2)
def sR (h : PH) (a k : Nat) (v : Option Nat) : PH := (h.1, h.2.1, h.2.2.1, h.2.2.2.1, h.2.2.2.2.1, u2 h.2.2.2.2.2 a k v)
def nw (h : PH) (k : Nat × Nat) : PH := (h.1 + 1, (fun b => if b = h.1 then k else h.2.1 b), n2 h.2.2.1 h.1 0, n2 h.2.2.2.1 h.1 0, n2 h.2.2.2.2.1 h.1 0, n2 h.2.2.2.2.2 h.1 none)
theorem hN_sI (h : PH) (a k : Nat) (v : Int32) : hN (sI h a k v) = hN h := rfl
theorem hN_sL (h : PH) (a k : Nat) (v : Int64) : hN (sL h a k v) = hN h := rfl
theorem hN_sF (h : PH) (a k : Nat) (v : UInt32) : hN (sF h a k v) = hN h := rfl
theorem hN_sR (h : PH) (a k : Nat) (v : Option Nat) : hN (sR h a k v) = hN h := rfl
theorem hN_nw (h : PH) (k : Nat × Nat) : hN (nw h k) = hN h + 1 := rfl
theorem hK_sI (h : PH) (a k : Nat) (v : Int32) (b : Nat) : hK (sI h a k v) b = hK h b := rfl
theorem hK_sL (h : PH) (a k : Nat) (v : Int64) (b : Nat) : hK (sL h a k v) b = hK h b := rfl
theorem hK_sF (h : PH) (a k : Nat) (v : UInt32) (b : Nat) : hK (sF h a k v) b = hK h b := rfl
theorem hK_sR (h : PH) (a k : Nat) (v : Option Nat) (b : Nat) : hK (sR h a k v) b = hK h b := rfl
theorem hK_nw (h : PH) (k : Nat × Nat) (b : Nat) : hK (nw h k) b = if b = hN h then k else hK h b := rfl
theorem hI_sI (h : PH) (a k : Nat) (v : Int32) (b j : Nat) : hI (sI h a k v) b j = if j = k ∧ b = a then v else hI h b j := rfl
theorem hI_sL (h : PH) (a k : Nat) (v : Int64) (b j : Nat) : hI (sL h a k v) b j = hI h b j := rfl
theorem hI_sF (h : PH) (a k : Nat) (v : UInt32) (b j : Nat) : hI (sF h a k v) b j = hI h b j := rfl
theorem hI_sR (h : PH) (a k : Nat) (v : Option Nat) (b j : Nat) : hI (sR h a k v) b j = hI h b j := rfl
theorem hI_nw (h : PH) (k : Nat × Nat) (b j : Nat) : hI (nw h k) b j = if b = hN h then 0 else hI h b j := rfl
theorem hL_sI (h : PH) (a k : Nat) (v : Int32) (b j : Nat) : hL (sI h a k v) b j = hL h b j := rfl
theorem hL_sL (h : PH) (a k : Nat) (v : Int64) (b j : Nat) : hL (sL h a k v) b j = if j = k ∧ b = a then v else hL h b j := rfl
theorem hL_sF (h : PH) (a k : Nat) (v : UInt32) (b j : Nat) : hL (sF h a k v) b j = hL h b j := rfl
theorem hL_sR (h : PH) (a k : Nat) (v : Option Nat) (b j : Nat) : hL (sR h a k v) b j = hL h b j := rfl
theorem hL_nw (h : PH) (k : Nat × Nat) (b j : Nat) : hL (nw h k) b j = if b = hN h then 0 else hL h b j := rfl
theorem hF_sI (h : PH) (a k : Nat) (v : Int32) (b j : Nat) : hF (sI h a k v) b j = hF h b j := rfl
theorem hF_sL (h : PH) (a k : Nat) (v : Int64) (b j : Nat) : hF (sL h a k v) b j = hF h b j := rfl
theorem hF_sF (h : PH) (a k : Nat) (v : UInt32) (b j : Nat) : hF (sF h a k v) b j = if j = k ∧ b = a then v else hF h b j := rfl
theorem hF_sR (h : PH) (a k : Nat) (v : Option Nat) (b j : Nat) : hF (sR h a k v) b j = hF h b j := rfl
theorem hF_nw (h : PH) (k : Nat × Nat) (b j : Nat) : hF (nw h k) b j = if b = hN h then 0 else hF h b j := rfl
theorem hR_sI (h : PH) (a k : Nat) (v : Int32) (b j : Nat) : hR (sI h a k v) b j = hR h b j := rfl
theorem hR_sL (h : PH) (a k : Nat) (v : Int64) (b j : Nat) : hR (sL h a k v) b j = hR h b j := rfl
theorem hR_sF (h : PH) (a k : Nat) (v : UInt32) (b j : Nat) : hR (sF h a k v) b j = hR h b j := rfl
theorem hR_sR (h : PH) (a k : Nat) (v : Option Nat) (b j : Nat) : hR (sR h a k v) b j = if j = k ∧ b = a then v else hR h b j := rfl
theorem hR_nw (h : PH) (k : Nat × Nat) (b j : Nat) : hR (nw h k) b j = if b = hN h then none else hR h b j := rfl
/-! THE CELLS that a pure heap stands for -/
def fv (ad : Nat → Nat) (h : PH) (a : Nat) (ty : FieldType) (j : Nat) : Value := match ty with
  | .long => .long (hL h a j)
  | .float => .float (hF h a j)
  | .object _ => va_rf ((hR h a j).map ad)
  | .array _ => va_rf ((hR h a j).map ad)
  | _ => .int (hI h a j)
def tyC (c : Nat) : Nat → FieldType := match c with
  | 0 => tyX0
  | 1 => tyX1
  | 2 => tyX2
  | 3 => tyX3
  | 4 => tyX4
  | 5 => tyX5
  | 6 => tyX6
  | 7 => tyX7
  | _ => tyX8
def nf (c : Nat) : Nat := match c with
  | 0 => 3
  | 1 => 16
  | 2 => 15
  | 3 => 6
  | 4 => 12
  | 5 => 9
  | 6 => 10
  | 7 => 7
  | _ => 42
def fl (ad : Nat → Nat) (h : PH) (a c : Nat) : List Value := (List.range (nf c)).map (fun j => fv ad h a (tyC c j) j)
def aty (t : Nat) : FieldType := match t with
  | 0 => .int
  | 1 => .char
  | 2 => .boolean
  | 3 => .float
  | 4 => .long
  | 5 => .object RX2
  | 6 => .object RX6
  | 7 => .object RX1
  | _ => .object "java/lang/String"
def ac (sa ad : Nat → Nat) (h : PH) (a t : Nat) : (Nat → Int32) ⊕ (Nat → Int64) ⊕ (Nat → UInt32) ⊕ (Nat → UInt64) ⊕ (Nat → Option Nat) := match t with
  | 0 => .inl (fun i => hI h a i)
  | 1 => .inl (fun i => hI h a i)
  | 2 => .inl (fun i => hI h a i)
  | 3 => .inr (.inr (.inl (fun i => hF h a i)))
  | 4 => .inr (.inl (fun i => hL h a i))
  | 8 => .inr (.inr (.inr (.inr (fun i => (hR h a i).map sa))))
  | _ => .inr (.inr (.inr (.inr (fun i => (hR h a i).map ad))))
def ce (cA : Nat → ClassId) (sa ad : Nat → Nat) (h : PH) (a : Nat) : va_E :=
  if (hK h a).1 < 100 then .inr ((hK h a).1, fl ad h a (hK h a).1) else .inl (cA ((hK h a).1 - 100), (hK h a).2, ac sa ad h a ((hK h a).1 - 100))
def wsW (cA : Nat → ClassId) (sa ad : Nat → Nat) (h : PH) : va_W := (List.range (hN h)).map (fun a => (ad a, ce cA sa ad h a))
def tysW (cA : Nat → ClassId) : List (ClassId × FieldType) := (List.range 9).map (fun t => (cA t, aty t))
/-! THE WORLD: what all contracts stand over: places of fields, classes of rows, places of texts, where our cells begin, what else holds of the old cells -/
abbrev CX : Type := va_G × (Nat → ClassId) × (Nat → Nat) × Nat × (State → Heap → Prop)
def xD (x : CX) : va_G := x.1
def xA (x : CX) : Nat → ClassId := x.2.1
def xS (x : CX) : Nat → Nat := x.2.2.1
def xB (x : CX) : Nat := x.2.2.2.1
def xZ (x : CX) : State → Heap → Prop := x.2.2.2.2
def Aw (x : CX) : Nat → Prop := fun q => xB x ≤ q
def CXok (l : Launch) (x : CX) : Prop := l.stackTraces = false ∧ (∀ (s U : State) (H : Heap), s.WarmedH U.vm → xZ x s H → xZ x U H) ∧ (∀ (s : State) (H H1 : Heap), (∀ q : Nat, q < xB x → H1[q]? = H[q]?) → xZ x s H → xZ x s H1) ∧ (∀ (u U : State) (H : Heap), U.vm = u.vm → xZ x u H → xZ x U H)
def wfh (h : PH) : Prop := (∀ a, hN h ≤ a → hK h a = (999, 0)) ∧ ∀ a j b, hR h a j = some b → (hK h a).1 ≠ 108 → b < hN h
def Wd (x : CX) (ad : Nat → Nat) (h : PH) (U : State) (H : Heap) : Prop :=
  va_K (xD x) vwCl (tysW (xA x)) U ∧ va_P (xD x) vwCl (wsW (xA x) (xS x) ad h) H ∧ va_D (Aw x) (wsW (xA x) (xS x) ad h) ∧ wfh h ∧ xB x ≤ H.size ∧ xZ x U H
/-! VALUES: a reference is one of our cells; .retAddr j stands for the text j -/
def rv (sa ad : Nat → Nat) (v : Value) : Value := match v with
  | .ref a => .ref (ad a)
  | .retAddr j => .ref (sa j)
  | .int i => .int i
  | .long i => .long i
  | .float i => .float i
  | .double i => .double i
  | .null => .null
def rvl (sa ad : Nat → Nat) (lv : List (Nat × Value)) : List (Nat × Value) := lv.map (fun q => (q.1, rv sa ad q.2))
def wv (h : PH) (v : Value) : Prop := ∀ a, v = .ref a → a < hN h
def wvs (h : PH) (vs : List Value) : Prop := ∀ v ∈ vs, wv h v
def wvl (h : PH) (lv : List (Nat × Value)) : Prop := ∀ q ∈ lv, wv h q.2
/-! THE TWO JUDGEMENTS: a method from a place in its code (Gm), a call of it (Cm) -/
abbrev MD : Type := MethodName × ByteArray × Nat × Option FieldType
def Bd (M : MD) (p : Program) (s : State) (m : MethodId) (args : Array Value) (meth : Method) (c : Code) : Prop :=
  p.tables.exec = Jvm.exec ∧ c.code = M.2.1 ∧ meth.sig.returnType = M.2.2.2 ∧ c.maxLocals = M.2.2.1 ∧ (∀ w ∈ BIG, w.before args s = true) ∧ s.vm.findClass M.1.cls = some m.cls ∧ meth.locks = false ∧ meth.name = M.1.name ∧ ∀ z ∈ c.exceptionTable.toList, False
def Wp (x : CX) (ad : Nat → Nat) (h : PH) (H : Heap) : Prop := va_P (xD x) vwCl (wsW (xA x) (xS x) ad h) H ∧ va_D (Aw x) (wsW (xA x) (xS x) ad h) ∧ wfh h ∧ xB x ≤ H.size
theorem Wd.p {x : CX} {ad : Nat → Nat} {h : PH} {U : State} {H : Heap} (hw : Wd x ad h U H) : Wp x ad h H := ⟨hw.2.1, hw.2.2.1, hw.2.2.2.1, hw.2.2.2.2.1⟩
def Qm (x : CX) (n0 : Nat) (ad0 : Nat → Nat) (Q : Option Value → PH → Prop) : Array Value → State → Outcome → State → Prop := fun _ st o t =>
  (∃ (v : Option Value) (h' : PH) (ad' : Nat → Nat), o = .returned (v.map (rv (xS x) ad')) ∧ Q v h' ∧ (∀ a, a < n0 → ad' a = ad0 a) ∧ n0 ≤ hN h' ∧ (∀ w, v = some w → wv h' w) ∧ Wp x ad' h' t.heap) ∧ va_F (Aw x) st t
def Xm (x : CX) (n0 : Nat) (ad0 : Nat → Nat) (X : String → PH → Prop) : String → State → State → Prop := fun E st t =>
  (∃ (h' : PH) (ad' : Nat → Nat), X E h' ∧ (∀ a, a < n0 → ad' a = ad0 a) ∧ n0 ≤ hN h' ∧ Wp x ad' h' t.heap) ∧ va_F (Aw x) st t
def Gm (l : Launch) (x : CX) (M : MD) (d pc : Nat) (lv : List (Nat × Value)) (st : List Value) (h : PH) (rc rs n0 : Nat) (Q : Option Value → PH → Prop) (X : String → PH → Prop) : Prop :=
  CXok l x → ∀ (p : Program) (e : Env) (R : Room) (s : State) (m : MethodId) (args : Array Value) (below : List Frame) (meth : Method) (c : Code) (H : Heap) (locs : List Loc) (cells slots mc ms : Nat) (ls : Array Slot) (ad ad0 : Nat → Nat),
    Bd M p s m args meth c → d ≤ R.frames → 41 * d ≤ R.locals → cells + rc ≤ R.cells → slots + rs ≤ R.slots → cells + rc ≤ mc → slots + rs ≤ ms →
    xB x ≤ s.heap.size → Wd x ad h s H → va_S (Aw x) s.heap H locs → (∀ a, a < n0 → ad a = ad0 a) → n0 ≤ hN h → wvl h lv → wvs h st → lv_has ls M.2.2.1 (rvl (xS x) ad lv) →
    W p l e R s m args below meth c H locs cells slots (vx_MQ below (Qm x n0 ad0 Q) (Xm x n0 ad0 X) args s mc ms (Aw x)) (F0 m pc ls (st.map (rv (xS x) ad)))
def Cm (l : Launch) (x : CX) (M : MD) (d mc ms : Nat) (a : List Value) (h : PH) (Q : Option Value → PH → Prop) (X : String → PH → Prop) : Prop :=
  CXok l x → ∀ ad : Nat → Nat, vx_Met l M.1 (.code M.1 M.2.1 M.2.2.1 M.2.2.2 :: BIG) { frames := d, cells := mc, slots := ms, locals := 41 * d } (va_Pc (a.map (rv (xS x) ad)) (fun U => Wd x ad h U U.heap ∧ wvs h a)) (Qm x (hN h) ad Q) (Xm x (hN h) ad X) mc ms (Aw x)
/-! SMALL ROWS -/
theorem rv_cat (sa ad : Nat → Nat) (v : Value) : (rv sa ad v).category = v.category := by cases v <;> rfl
theorem rv_same {sa ad ad' : Nat → Nat} {h : PH} {v : Value} (hv : wv h v) (ha : ∀ a, a < hN h → ad' a = ad a) : rv sa ad' v = rv sa ad v := by
  cases v with
  | ref a => show Value.ref (ad' a) = Value.ref (ad a); rw [ha a (hv a rfl)]
  | _ => rfl
theorem rvs_same {sa ad ad' : Nat → Nat} {h : PH} {vs : List Value} (hv : wvs h vs) (ha : ∀ a, a < hN h → ad' a = ad a) : vs.map (rv sa ad') = vs.map (rv sa ad) :=
  List.map_congr_left fun v h' => rv_same (hv v h') ha
theorem rvl_same {sa ad ad' : Nat → Nat} {h : PH} {lv : List (Nat × Value)} (hv : wvl h lv) (ha : ∀ a, a < hN h → ad' a = ad a) : rvl sa ad' lv = rvl sa ad lv :=
  List.map_congr_left fun q h' => by rw [rv_same (hv q h') ha]
theorem wv.le {h h' : PH} {v : Value} (hv : wv h v) (hn : hN h ≤ hN h') : wv h' v := fun a e => Nat.lt_of_lt_of_le (hv a e) hn
theorem wvs.le {h h' : PH} {vs : List Value} (hv : wvs h vs) (hn : hN h ≤ hN h') : wvs h' vs := fun v m => (hv v m).le hn
theorem wvl.le {h h' : PH} {vs : List (Nat × Value)} (hv : wvl h vs) (hn : hN h ≤ hN h') : wvl h' vs := fun v m => (hv v m).le hn
theorem wvs.cons {h : PH} {v : Value} {vs : List Value} (hv : wv h v) (hs : wvs h vs) : wvs h (v :: vs) := fun w hw => (List.mem_cons.mp hw).elim (fun e => e ▸ hv) (hs w)
theorem wvs.tail {h : PH} {v : Value} {vs : List Value} (hs : wvs h (v :: vs)) : wvs h vs := fun w hw => hs w (List.mem_cons_of_mem _ hw)
theorem wvs.head {h : PH} {v : Value} {vs : List Value} (hs : wvs h (v :: vs)) : wv h v := hs v List.mem_cons_self
theorem wv_int (h : PH) (i : Int32) : wv h (.int i) := fun _ e => nomatch e
theorem wv_long (h : PH) (i : Int64) : wv h (.long i) := fun _ e => nomatch e
theorem wv_float (h : PH) (i : UInt32) : wv h (.float i) := fun _ e => nomatch e
theorem wv_null (h : PH) : wv h .null := fun _ e => nomatch e
theorem wv_txt (h : PH) (j : Nat) : wv h (.retAddr j) := fun _ e => nomatch e
theorem wv_ref {h : PH} {a : Nat} (ha : a < hN h) : wv h (.ref a) := fun b e => by cases e; exact ha
theorem Wd.moved {l : Launch} {x : CX} {ad : Nat → Nat} {h : PH} {s U : State} {H : Heap} (hx : CXok l x) (hW : s.WarmedH U.vm) (hw : Wd x ad h s H) : Wd x ad h U H :=
  ⟨va_K.moved hW.alike hw.1, hw.2.1, hw.2.2.1, hw.2.2.2.1, hw.2.2.2.2.1, hx.2.1 _ _ _ hW hw.2.2.2.2.2⟩
theorem Wd.same {l : Launch} {x : CX} {ad : Nat → Nat} {h : PH} {s U : State} {H : Heap} (hx : CXok l x) (hv : U.vm = s.vm) (hw : Wd x ad h s H) : Wd x ad h U H :=
  ⟨va_K.moved (by rw [hv]; exact Vm.Alike.refl s.vm) hw.1, hw.2.1, hw.2.2.1, hw.2.2.2.1, hw.2.2.2.2.1, hx.2.2.2 _ _ _ hv hw.2.2.2.2.2⟩
theorem Z_kept {l : Launch} {x : CX} {s : State} {H0 H H1 : Heap} {locs locs1 : List Loc} (hx : CXok l x) (hb : xB x ≤ H0.size) (hS : va_S (Aw x) H0 H locs) (hS1 : va_S (Aw x) H0 H1 locs1) (hz : xZ x s H) : xZ x s H1 := by
  refine hx.2.2.1 s H H1 (fun q hq => ?_) hz
  have hn : ¬ Aw x q := fun h => Nat.lt_irrefl _ (Nat.lt_of_lt_of_le hq h)
  rw [hS1.2.1 q (Nat.lt_of_lt_of_le hq hb) hn, hS.2.1 q (Nat.lt_of_lt_of_le hq hb) hn]
theorem lw_sub {ls : Array Slot} {n : Nat} {l l' : List (Nat × Value)} (h : lv_has ls n l) (hs : ∀ q ∈ l', q ∈ l) : lv_has ls n l' := ⟨h.1, h.2.1, fun q hq => h.2.2 q (hs q hq)⟩
