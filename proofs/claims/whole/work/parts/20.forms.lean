/-! FORMS that the printed steps speak in -/
def CI (l : Launch) (x : CX) (M : MD) (d mc ms : Nat) (a : List Value) (h : PH) (q : Int32 → PH → Prop) : Prop := Cm l x M d mc ms a h (fun v h' => ∃ r, v = some (.int r) ∧ q r h') (fun _ _ => False)
def CJ (l : Launch) (x : CX) (M : MD) (d mc ms : Nat) (a : List Value) (h : PH) (q : Int64 → PH → Prop) : Prop := Cm l x M d mc ms a h (fun v h' => ∃ r, v = some (.long r) ∧ q r h') (fun _ _ => False)
def CF (l : Launch) (x : CX) (M : MD) (d mc ms : Nat) (a : List Value) (h : PH) (q : UInt32 → PH → Prop) : Prop := Cm l x M d mc ms a h (fun v h' => ∃ r, v = some (.float r) ∧ q r h') (fun _ _ => False)
def CA (l : Launch) (x : CX) (M : MD) (d mc ms : Nat) (a : List Value) (h : PH) (q : Nat → PH → Prop) : Prop := Cm l x M d mc ms a h (fun v h' => ∃ r, v = some (.ref r) ∧ q r h') (fun _ _ => False)
def CV (l : Launch) (x : CX) (M : MD) (d mc ms : Nat) (a : List Value) (h : PH) (q : PH → Prop) : Prop := Cm l x M d mc ms a h (fun v h' => v = none ∧ q h') (fun _ _ => False)
def NestOk (x : CX) (own : String) (idx : Nat) (y : MethodName) (host : String) : Prop := ∀ U H, xZ x U H → va_Nw (.methodLinkNest own idx y host) U
def AOOk (x : CX) (C : String) : Prop := ∀ U H, xZ x U H → va_AO C U
def TxtOk (x : CX) (own : String) (idx : Nat) (tx : String) (j : Nat) : Prop := ∀ U H, xZ x U H → vk_R own idx tx (xS x j) U
def AnyOk (x : CX) (j : Nat) : Prop := ∀ U H, xZ x U H → va_Any "java/lang/String" U H (xS x j)
def ScrOk (x : CX) (L : Nat) (xs : Nat → Int32) : Prop := ∀ U H, xZ x U H → va_X (xS x 999) L xs U H ∧ xS x 999 < xB x
def ThrowOk (x : CX) (own cls text : String) (names : List String) (is ic : Nat) : Prop := (∀ U H, xZ x U H → (∃ a, vk_R own is text a U) ∧ (∀ w ∈ vx_aT own ic cls names, w.before #[] U = true) ∧ vx_Zq Bundle.tN "UNASSIGNED_STACK" Bundle.steD (Aw x) U H ∧ vx_Zq Bundle.tN "SUPPRESSED_SENTINEL" Bundle.listD (Aw x) U H) ∧ ∀ w ∈ vx_aT own ic cls names, vx_ot w = true
def StepT (l : Launch) (x : CX) (M : MD) (d pc : Nat) (st st' : List Value) : Prop := ∀ lv h rc rs n0 Q X, Gm l x M d (pc + 3) lv st' h rc rs n0 Q X → Gm l x M d pc lv st h rc rs n0 Q X
theorem fc_mk {c : Nat} (h1 : vwCl[c]? = some (RC c, TC c, nf c)) (h2 : ∀ w ∈ u_ws (RC c) (TC c) (nf c), w ∈ lw_tbl) (h2' : (u_ws (RC c) (TC c) (nf c)).all goodWord = true) (h3 : ∀ k, k < nf c → parseFieldDescriptor (TC c k).2.2.1 = some (tyC c k)) (h4 : ∀ a, a < nf c → ∀ b, b < nf c → a ≠ b → (TC c a).2.1 ≠ (TC c b).2.1) : FCok c :=
  ⟨h1, fun w hw => List.mem_filter.mpr ⟨h2 w hw, List.all_eq_true.mp h2' w hw⟩, h3, h4⟩
set_option maxRecDepth 20000 in
theorem fc_0 : FCok 0 := fc_mk rfl (by decide +kernel) (by decide +kernel) tyX0_ok nmX0
set_option maxRecDepth 20000 in
theorem fc_1 : FCok 1 := fc_mk rfl (by decide +kernel) (by decide +kernel) tyX1_ok nmX1
set_option maxRecDepth 20000 in
theorem fc_2 : FCok 2 := fc_mk rfl (by decide +kernel) (by decide +kernel) tyX2_ok nmX2
set_option maxRecDepth 20000 in
theorem fc_3 : FCok 3 := fc_mk rfl (by decide +kernel) (by decide +kernel) tyX3_ok nmX3
set_option maxRecDepth 20000 in
theorem fc_4 : FCok 4 := fc_mk rfl (by decide +kernel) (by decide +kernel) tyX4_ok nmX4
set_option maxRecDepth 20000 in
theorem fc_5 : FCok 5 := fc_mk rfl (by decide +kernel) (by decide +kernel) tyX5_ok nmX5
set_option maxRecDepth 20000 in
theorem fc_6 : FCok 6 := fc_mk rfl (by decide +kernel) (by decide +kernel) tyX6_ok nmX6
set_option maxRecDepth 20000 in
theorem fc_7 : FCok 7 := fc_mk rfl (by decide +kernel) (by decide +kernel) tyX7_ok nmX7
set_option maxRecDepth 20000 in
theorem fc_8 : FCok 8 := fc_mk rfl (by decide +kernel) (by decide +kernel) tyX8_ok nmX8
abbrev ius (a b : Int32) : Int32 := (a.toUInt32 >>> (b.toUInt32 &&& Int32.toUInt32 31)).toInt32
abbrev lus (a : Int64) (b : Int32) : Int64 := (a.toUInt64 >>> (b.toInt64.toUInt64 &&& Int64.toUInt64 63)).toInt64
abbrev lsh (a : Int64) (b : Int32) : Int64 := a <<< (b.toInt64 &&& 63)
theorem skI {h : PH} {a k b j : Nat} {v : Int32} (hj : j ≠ k) : hI (sI h a k v) b j = hI h b j := if_neg (fun e => hj e.1)
theorem skL {h : PH} {a k b j : Nat} {v : Int64} (hj : j ≠ k) : hL (sL h a k v) b j = hL h b j := if_neg (fun e => hj e.1)
theorem skF {h : PH} {a k b j : Nat} {v : UInt32} (hj : j ≠ k) : hF (sF h a k v) b j = hF h b j := if_neg (fun e => hj e.1)
theorem kkI {h : PH} {a k b c : Nat} {v : Int32} (e : (hK h b).1 = c) : (hK (sI h a k v) b).1 = c := e
theorem kvI {h : PH} {a k b : Nat} {i : Int32} {v : Int32} (e : vp_in i (hK h b).2) : vp_in i (hK (sI h a k v) b).2 := e
theorem krI {h : PH} {a k b j : Nat} {o : Option Nat} {v : Int32} (e : hR h b j = o) : hR (sI h a k v) b j = o := e
theorem kkL {h : PH} {a k b c : Nat} {v : Int64} (e : (hK h b).1 = c) : (hK (sL h a k v) b).1 = c := e
theorem kvL {h : PH} {a k b : Nat} {i : Int32} {v : Int64} (e : vp_in i (hK h b).2) : vp_in i (hK (sL h a k v) b).2 := e
theorem krL {h : PH} {a k b j : Nat} {o : Option Nat} {v : Int64} (e : hR h b j = o) : hR (sL h a k v) b j = o := e
theorem kkF {h : PH} {a k b c : Nat} {v : UInt32} (e : (hK h b).1 = c) : (hK (sF h a k v) b).1 = c := e
theorem kvF {h : PH} {a k b : Nat} {i : Int32} {v : UInt32} (e : vp_in i (hK h b).2) : vp_in i (hK (sF h a k v) b).2 := e
theorem krF {h : PH} {a k b j : Nat} {o : Option Nat} {v : UInt32} (e : hR h b j = o) : hR (sF h a k v) b j = o := e
theorem kkR {h : PH} {a k b c : Nat} {v : Option Nat} (e : (hK h b).1 = c) : (hK (sR h a k v) b).1 = c := e
theorem kvR {h : PH} {a k b : Nat} {i : Int32} {v : Option Nat} (e : vp_in i (hK h b).2) : vp_in i (hK (sR h a k v) b).2 := e
theorem g_nmI {l : Launch} {x : CX} {M : MD} {d pc : Nat} {lv : List (Nat × Value)} {st : List Value} {h : PH} {rc rs n0 : Nat} {Q : Option Value → PH → Prop} {X : String → PH → Prop} {a : Int32} (k : ∀ y : Int32, y = a → Gm l x M d pc lv (.int y :: st) h rc rs n0 Q X) : Gm l x M d pc lv (.int a :: st) h rc rs n0 Q X := k a rfl
theorem g_nmJ {l : Launch} {x : CX} {M : MD} {d pc : Nat} {lv : List (Nat × Value)} {st : List Value} {h : PH} {rc rs n0 : Nat} {Q : Option Value → PH → Prop} {X : String → PH → Prop} {a : Int64} (k : ∀ y : Int64, y = a → Gm l x M d pc lv (.long y :: st) h rc rs n0 Q X) : Gm l x M d pc lv (.long a :: st) h rc rs n0 Q X := k a rfl
theorem g_nmF {l : Launch} {x : CX} {M : MD} {d pc : Nat} {lv : List (Nat × Value)} {st : List Value} {h : PH} {rc rs n0 : Nat} {Q : Option Value → PH → Prop} {X : String → PH → Prop} {a : UInt32} (k : ∀ y : UInt32, y = a → Gm l x M d pc lv (.float y :: st) h rc rs n0 Q X) : Gm l x M d pc lv (.float a :: st) h rc rs n0 Q X := k a rfl
