/-! ROWS, FOURTH PART: fields and rows of the heap -/
def RC (c : Nat) : String := match c with
  | 0 => RX0
  | 1 => RX1
  | 2 => RX2
  | 3 => RX3
  | 4 => RX4
  | 5 => RX5
  | 6 => RX6
  | 7 => RX7
  | _ => RX8
def TC (c : Nat) : u_T := match c with
  | 0 => TX0
  | 1 => TX1
  | 2 => TX2
  | 3 => TX3
  | 4 => TX4
  | 5 => TX5
  | 6 => TX6
  | 7 => TX7
  | _ => TX8
theorem ws_at {cA : Nat → ClassId} {sa ad : Nat → Nat} {h : PH} {a : Nat} (ha : a < hN h) : (wsW cA sa ad h)[a]? = some (ad a, ce cA sa ad h a) := by
  simp [wsW, ha]
theorem ws_len (cA : Nat → ClassId) (sa ad : Nat → Nat) (h : PH) : (wsW cA sa ad h).length = hN h := by simp [wsW]
theorem ce_congr {cA : Nat → ClassId} {sa ad : Nat → Nat} {h h' : PH} {b : Nat} (e1 : hK h' b = hK h b) (e2 : ∀ j, hI h' b j = hI h b j) (e3 : ∀ j, hL h' b j = hL h b j) (e4 : ∀ j, hF h' b j = hF h b j) (e5 : ∀ j, hR h' b j = hR h b j) : ce cA sa ad h' b = ce cA sa ad h b := by
  simp only [ce, fl, fv, ac, e1, e2, e3, e4, e5]
theorem ws_set {cA : Nat → ClassId} {sa ad : Nat → Nat} {h h' : PH} {a : Nat} {E : va_E} (hn : hN h' = hN h) (hb : ∀ b, b ≠ a → ce cA sa ad h' b = ce cA sa ad h b) (hE : ce cA sa ad h' a = E) : (wsW cA sa ad h).set a (ad a, E) = wsW cA sa ad h' := by
  apply List.ext_getElem?
  intro j
  rw [List.getElem?_set]
  by_cases haj : a = j
  · subst haj
    by_cases hlt : a < hN h
    · rw [if_pos rfl, if_pos (by rw [ws_len]; exact hlt), ws_at (by rw [hn]; exact hlt), hE]
    · rw [if_pos rfl, if_neg (by rw [ws_len]; exact hlt), List.getElem?_eq_none (by rw [ws_len, hn]; exact Nat.le_of_not_lt hlt)]
  · rw [if_neg haj]
    by_cases hlt : j < hN h
    · rw [ws_at hlt, ws_at (by rw [hn]; exact hlt), hb j (fun e => haj e.symm)]
    · rw [List.getElem?_eq_none (by rw [ws_len]; exact Nat.le_of_not_lt hlt), List.getElem?_eq_none (by rw [ws_len, hn]; exact Nat.le_of_not_lt hlt)]
theorem fl_at {ad : Nat → Nat} {h : PH} {a c k : Nat} (hk : k < nf c) : (fl ad h a c)[k]? = some (fv ad h a (tyC c k) k) := by
  simp [fl, hk]
theorem fl_len (ad : Nat → Nat) (h : PH) (a c : Nat) : (fl ad h a c).length = nf c := by simp [fl]
theorem fl_set {ad : Nat → Nat} {h h' : PH} {a c k : Nat} {v : Value} (hv : fv ad h' a (tyC c k) k = v) (hj : ∀ j, j ≠ k → fv ad h' a (tyC c j) j = fv ad h a (tyC c j) j) : fl ad h' a c = (fl ad h a c).set k v := by
  apply List.ext_getElem?
  intro j
  rw [List.getElem?_set]
  by_cases hkj : k = j
  · subst hkj
    by_cases hlt : k < nf c
    · rw [if_pos rfl, if_pos (by rw [fl_len]; exact hlt), fl_at hlt, hv]
    · rw [if_pos rfl, if_neg (by rw [fl_len]; exact hlt), List.getElem?_eq_none (by rw [fl_len]; exact Nat.le_of_not_lt hlt)]
  · rw [if_neg hkj]
    by_cases hlt : j < nf c
    · rw [fl_at hlt, fl_at hlt, hj j (fun e => hkj e.symm)]
    · rw [List.getElem?_eq_none (by rw [fl_len]; exact Nat.le_of_not_lt hlt), List.getElem?_eq_none (by rw [fl_len]; exact Nat.le_of_not_lt hlt)]
theorem ce_obj {cA : Nat → ClassId} {sa ad : Nat → Nat} {h : PH} {a c : Nat} (hk : (hK h a).1 = c) (hc : c < 9) : ce cA sa ad h a = .inr (c, fl ad h a c) := by
  simp only [ce, hk]
  rw [if_pos (by omega)]
theorem ce_row {cA : Nat → ClassId} {sa ad : Nat → Nat} {h : PH} {a t : Nat} (hk : (hK h a).1 = 100 + t) : ce cA sa ad h a = .inl (cA t, (hK h a).2, ac sa ad h a t) := by
  simp only [ce, hk]
  rw [if_neg (by omega), show 100 + t - 100 = t from by omega]
/-- what a field's value is, in our words -/
def pr (o : Option Nat) : Value := match o with
  | none => .null
  | some b => .ref b
def pv (h : PH) (a : Nat) (ty : FieldType) (j : Nat) : Value := match ty with
  | .long => .long (hL h a j)
  | .float => .float (hF h a j)
  | .object _ => pr (hR h a j)
  | .array _ => pr (hR h a j)
  | _ => .int (hI h a j)
theorem rv_pr (sa ad : Nat → Nat) (o : Option Nat) : rv sa ad (pr o) = va_rf (o.map ad) := by cases o <;> rfl
theorem rv_pv (sa ad : Nat → Nat) (h : PH) (a : Nat) (ty : FieldType) (j : Nat) : rv sa ad (pv h a ty j) = fv ad h a ty j := by
  cases ty <;> first | rfl | exact rv_pr sa ad _
theorem wv_pr {h : PH} {o : Option Nat} (ho : ∀ b, o = some b → b < hN h) : wv h (pr o) := by
  cases o with
  | none => exact wv_null h
  | some b => exact wv_ref (ho b rfl)
theorem wv_pv {h : PH} (hw : wfh h) {a j : Nat} (hk : (hK h a).1 ≠ 108) (ty : FieldType) : wv h (pv h a ty j) := by
  cases ty <;> first | exact wv_int _ _ | exact wv_long _ _ | exact wv_float _ _ | exact wv_pr (fun b e => hw.2 a j b e hk)
/-- what the tables say of the classes of ours -/
def FCok (c : Nat) : Prop := vwCl[c]? = some (RC c, TC c, nf c) ∧ (∀ w ∈ u_ws (RC c) (TC c) (nf c), w ∈ BIG) ∧ (∀ k, k < nf c → parseFieldDescriptor (TC c k).2.2.1 = some (tyC c k)) ∧ ∀ a, a < nf c → ∀ b, b < nf c → a ≠ b → (TC c a).2.1 ≠ (TC c b).2.1
section Rows4
variable {l : Launch} {x : CX} {M : MD} {d pc : Nat} {lv : List (Nat × Value)} {st : List Value} {h : PH} {rc rs n0 : Nat} {Q : Option Value → PH → Prop} {X : String → PH → Prop}
theorem g_get {c k idx a : Nat} {v : Value} (hd : decode M.2.1 pc = .ok (.getfield idx, 3)) (hfc : FCok c) (hc : c < 9) (hk : k < nf c) (hw : Cond.fieldLink M.1.cls idx (TC c k).1 (TC c k).2.1 (TC c k).2.2.1 ∈ BIG) (hv : pv h a (tyC c k) k = v) (hK' : (hK h a).1 = c)
    (kk : Gm l x M d (pc + 3) lv (v :: st) h rc rs n0 Q X) : Gm l x M d pc lv (.ref a :: st) h rc rs n0 Q X := by
  intro hx p e R s m args below meth co H locs cells slots mc ms ls ad ad0 hB h1 h2 h3 h4 h5 h6 hb hw' hS ha hn hl hs hlv
  have hal : a < hN h := hs.head a rfl
  have hwv : wv h v := by rw [← hv]; exact wv_pv hw'.2.2.2.1 (by omega) _
  refine va_get (ref := (TC c k).1) hB.1 hB.2.1 hB.2.2.2.2.1 hfc.2.1 hB.2.2.2.2.2.1 hw'.1 hw'.2.1 a (fs := fl ad h a c) (by rw [ws_at hal, ce_obj hK' hc]) hfc.1 k hk (big_at hB hw) (fun _ q => q) (fl_at hk) hd ?_
  have := kk hx p e R s m args below meth co H locs cells slots mc ms ls ad ad0 hB h1 h2 h3 h4 h5 h6 hb hw' hS ha hn hl (hs.tail.cons hwv) hlv
  rw [← rv_pv (xS x) ad h a (tyC c k) k, hv]
  exact this
/-- a field of ours is written: any h' that differs from h there alone -/
theorem g_putG {c k idx a : Nat} {v : Value} {h' : PH} (hd : decode M.2.1 pc = .ok (.putfield idx, 3)) (hfc : FCok c) (hc : c < 9) (hk : k < nf c) (hw : Cond.fieldLink M.1.cls idx (TC c k).1 (TC c k).2.1 (TC c k).2.2.1 ∈ BIG)
    (hfin : (TC c k).2.2.2 = false ∨ ((TC c k).2.2.2 = true ∧ M.1.name = "<init>" ∧ (TC c k).1 = M.1.cls)) (hnar : ∀ sa ad, narrow (tyC c k) (rv sa ad v) = rv sa ad v) (hfit : ∀ sa ad, fits (tyC c k) (rv sa ad v) = true) (hK' : (hK h a).1 = c)
    (e0 : hN h' = hN h) (e1 : ∀ b, hK h' b = hK h b) (e2 : ∀ b j, b ≠ a → hI h' b j = hI h b j) (e3 : ∀ b j, b ≠ a → hL h' b j = hL h b j) (e4 : ∀ b j, b ≠ a → hF h' b j = hF h b j) (e5 : ∀ b j, b ≠ a → hR h' b j = hR h b j)
    (e6 : ∀ ad j, j ≠ k → fv ad h' a (tyC c j) j = fv ad h a (tyC c j) j) (e7 : pv h' a (tyC c k) k = v) (hwf : wfh h → wv h v → wfh h')
    (kk : Gm l x M d (pc + 3) lv st h' rc rs n0 Q X) : Gm l x M d pc lv (v :: .ref a :: st) h rc rs n0 Q X := by
  intro hx p e R s m args below meth co H locs cells slots mc ms ls ad ad0 hB h1 h2 h3 h4 h5 h6 hb hw' hS ha hn hl hs hlv
  have hal : a < hN h := hs.tail.head a rfl
  have hE : ce (xA x) (xS x) ad h' a = .inr (c, (fl ad h a c).set k (rv (xS x) ad v)) := by
    rw [ce_obj (by rw [e1]; exact hK') hc, fl_set (h := h) (k := k) (v := rv (xS x) ad v) (by rw [← rv_pv (xS x), e7]) (e6 ad)]
  have hset : (wsW (xA x) (xS x) ad h).set a (ad a, .inr (c, (fl ad h a c).set k (rv (xS x) ad v))) = wsW (xA x) (xS x) ad h' :=
    ws_set e0 (fun b hb => ce_congr (e1 b) (fun j => e2 b j hb) (fun j => e3 b j hb) (fun j => e4 b j hb) (fun j => e5 b j hb)) hE
  have go : ∀ (H1 : Heap) (locs1 : List Loc), va_P (xD x) vwCl ((wsW (xA x) (xS x) ad h).set a (ad a, .inr (c, (fl ad h a c).set k (rv (xS x) ad v)))) H1 → va_D (Aw x) ((wsW (xA x) (xS x) ad h).set a (ad a, .inr (c, (fl ad h a c).set k (rv (xS x) ad v)))) → va_S (Aw x) s.heap H1 locs1 →
      W p l e R s m args below meth co H1 locs1 cells slots (vx_MQ below (Qm x n0 ad0 Q) (Xm x n0 ad0 X) args s mc ms (Aw x)) (F0 m (pc + 3) ls (st.map (rv (xS x) ad))) := by
    intro H1 locs1 hP1 hD1 hS1
    rw [hset] at hP1 hD1
    have hle : hN h ≤ hN h' := Nat.le_of_eq e0.symm
    exact kk hx p e R s m args below meth co H1 locs1 cells slots mc ms ls ad ad0 hB h1 h2 h3 h4 h5 h6 hb ⟨hw'.1, hP1, hD1, hwf hw'.2.2.2.1 hs.head, Nat.le_trans hb hS1.1, Z_kept hx hb hS hS1 hw'.2.2.2.2.2⟩ hS1 ha (Nat.le_trans hn hle) (hl.le hle) (hs.tail.tail.le hle) hlv
  rcases hfin with hf | ⟨hf, hin, hdecl⟩
  · exact va_put (ref := (TC c k).1) (v := rv (xS x) ad v) hB.1 hB.2.1 hB.2.2.2.2.1 hfc.2.1 (tyC c) hfc.2.2.1 hfc.2.2.2 hB.2.2.2.2.2.1 hw'.1 hw'.2.1 hw'.2.2.1 hS a (fs := fl ad h a c) (by rw [ws_at hal, ce_obj hK' hc]) hfc.1 k hk (big_at hB hw) (fun _ q => q) hf (hfc.2.2.1 k hk) (hnar _ _) (hfit _ _) (by rw [fl_len]; exact hk) hd go
  · exact va_putF (ref := (TC c k).1) (v := rv (xS x) ad v) hB.1 hB.2.1 hB.2.2.2.2.1 hfc.2.1 (tyC c) hfc.2.2.1 hfc.2.2.2 hB.2.2.2.2.2.1 hw'.1 hw'.2.1 hw'.2.2.1 hS a (fs := fl ad h a c) (by rw [ws_at hal, ce_obj hK' hc]) hfc.1 k hk (big_at hB hw) (fun _ q => q) hf (hB.2.2.2.2.2.2.2.1.trans hin) hdecl (hfc.2.2.1 k hk) (hnar _ _) (hfit _ _) (by rw [fl_len]; exact hk) hd go
end Rows4
