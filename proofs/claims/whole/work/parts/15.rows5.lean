/-! ROWS, FIFTH PART: fields by their kinds; rows -/
section Rows5
variable {l : Launch} {x : CX} {M : MD} {d pc : Nat} {lv : List (Nat × Value)} {st : List Value} {h : PH} {rc rs n0 : Nat} {Q : Option Value → PH → Prop} {X : String → PH → Prop}
theorem fv_sI {ad : Nat → Nat} {a k j : Nat} {v : Int32} {ty : FieldType} (hj : j ≠ k) : fv ad (sI h a k v) a ty j = fv ad h a ty j := by
  cases ty <;> simp [fv, hI_sI, hL_sI, hF_sI, hR_sI, hj]
theorem fv_sL {ad : Nat → Nat} {a k j : Nat} {v : Int64} {ty : FieldType} (hj : j ≠ k) : fv ad (sL h a k v) a ty j = fv ad h a ty j := by
  cases ty <;> simp [fv, hI_sL, hL_sL, hF_sL, hR_sL, hj]
theorem fv_sF {ad : Nat → Nat} {a k j : Nat} {v : UInt32} {ty : FieldType} (hj : j ≠ k) : fv ad (sF h a k v) a ty j = fv ad h a ty j := by
  cases ty <;> simp [fv, hI_sF, hL_sF, hF_sF, hR_sF, hj]
theorem fv_sR {ad : Nat → Nat} {a k j : Nat} {v : Option Nat} {ty : FieldType} (hj : j ≠ k) : fv ad (sR h a k v) a ty j = fv ad h a ty j := by
  cases ty <;> simp [fv, hI_sR, hL_sR, hF_sR, hR_sR, hj]
theorem wfh_sR {a k : Nat} {o : Option Nat} (ho : ∀ b, o = some b → b < hN h) (hw : wfh h) : wfh (sR h a k o) := by
  refine ⟨hw.1, fun c j b e hk => ?_⟩
  rw [hR_sR] at e
  by_cases hc : j = k ∧ c = a
  · rw [if_pos hc] at e; exact ho b e
  · rw [if_neg hc] at e; exact hw.2 c j b e hk
theorem g_puti {c k idx a : Nat} {v : Int32} (hd : decode M.2.1 pc = .ok (.putfield idx, 3)) (hfc : FCok c) (hc : c < 9) (hk : k < nf c) (hw : Cond.fieldLink M.1.cls idx (TC c k).1 (TC c k).2.1 (TC c k).2.2.1 ∈ BIG) (hfin : (TC c k).2.2.2 = false ∨ ((TC c k).2.2.2 = true ∧ M.1.name = "<init>" ∧ (TC c k).1 = M.1.cls)) (hty : tyC c k = .int) (hK' : (hK h a).1 = c)
    (kk : Gm l x M d (pc + 3) lv (st) (sI h a k v) rc rs n0 Q X) : Gm l x M d pc lv (.int v :: .ref a :: st) h rc rs n0 Q X := by
  refine g_putG (h' := (sI h a k v)) hd hfc hc hk hw hfin ?_ ?_ hK' rfl (fun _ => rfl) ?_ ?_ ?_ ?_ (fun _ _ hj => fv_sI hj) ?_ (fun q _ => q) kk
  · intro sa ad; rw [hty]; rfl
  · intro sa ad; rw [hty]; rfl
  · intro b j hb; simp [hI_sI, hb]
  · intro b j hb; simp [hL_sI, hb]
  · intro b j hb; simp [hF_sI, hb]
  · intro b j hb; simp [hR_sI, hb]
  · rw [hty]; simp [pv, hI_sI]
theorem g_putz {c k idx a : Nat} {v : Int32} (hd : decode M.2.1 pc = .ok (.putfield idx, 3)) (hfc : FCok c) (hc : c < 9) (hk : k < nf c) (hw : Cond.fieldLink M.1.cls idx (TC c k).1 (TC c k).2.1 (TC c k).2.2.1 ∈ BIG) (hfin : (TC c k).2.2.2 = false ∨ ((TC c k).2.2.2 = true ∧ M.1.name = "<init>" ∧ (TC c k).1 = M.1.cls)) (hty : tyC c k = .boolean) (hv : v = 0 ∨ v = 1) (hK' : (hK h a).1 = c)
    (kk : Gm l x M d (pc + 3) lv (st) (sI h a k v) rc rs n0 Q X) : Gm l x M d pc lv (.int v :: .ref a :: st) h rc rs n0 Q X := by
  refine g_putG (h' := (sI h a k v)) hd hfc hc hk hw hfin ?_ ?_ hK' rfl (fun _ => rfl) ?_ ?_ ?_ ?_ (fun _ _ hj => fv_sI hj) ?_ (fun q _ => q) kk
  · intro sa ad; rw [hty]; rcases hv with rfl | rfl <;> rfl
  · intro sa ad; rw [hty]; rcases hv with rfl | rfl <;> rfl
  · intro b j hb; simp [hI_sI, hb]
  · intro b j hb; simp [hL_sI, hb]
  · intro b j hb; simp [hF_sI, hb]
  · intro b j hb; simp [hR_sI, hb]
  · rw [hty]; simp [pv, hI_sI]
theorem g_putl {c k idx a : Nat} {v : Int64} (hd : decode M.2.1 pc = .ok (.putfield idx, 3)) (hfc : FCok c) (hc : c < 9) (hk : k < nf c) (hw : Cond.fieldLink M.1.cls idx (TC c k).1 (TC c k).2.1 (TC c k).2.2.1 ∈ BIG) (hfin : (TC c k).2.2.2 = false ∨ ((TC c k).2.2.2 = true ∧ M.1.name = "<init>" ∧ (TC c k).1 = M.1.cls)) (hty : tyC c k = .long) (hK' : (hK h a).1 = c)
    (kk : Gm l x M d (pc + 3) lv (st) (sL h a k v) rc rs n0 Q X) : Gm l x M d pc lv (.long v :: .ref a :: st) h rc rs n0 Q X := by
  refine g_putG (h' := (sL h a k v)) hd hfc hc hk hw hfin ?_ ?_ hK' rfl (fun _ => rfl) ?_ ?_ ?_ ?_ (fun _ _ hj => fv_sL hj) ?_ (fun q _ => q) kk
  · intro sa ad; rw [hty]; rfl
  · intro sa ad; rw [hty]; rfl
  · intro b j hb; simp [hI_sL, hb]
  · intro b j hb; simp [hL_sL, hb]
  · intro b j hb; simp [hF_sL, hb]
  · intro b j hb; simp [hR_sL, hb]
  · rw [hty]; simp [pv, hL_sL]
theorem g_putf {c k idx a : Nat} {v : UInt32} (hd : decode M.2.1 pc = .ok (.putfield idx, 3)) (hfc : FCok c) (hc : c < 9) (hk : k < nf c) (hw : Cond.fieldLink M.1.cls idx (TC c k).1 (TC c k).2.1 (TC c k).2.2.1 ∈ BIG) (hfin : (TC c k).2.2.2 = false ∨ ((TC c k).2.2.2 = true ∧ M.1.name = "<init>" ∧ (TC c k).1 = M.1.cls)) (hty : tyC c k = .float) (hK' : (hK h a).1 = c)
    (kk : Gm l x M d (pc + 3) lv (st) (sF h a k v) rc rs n0 Q X) : Gm l x M d pc lv (.float v :: .ref a :: st) h rc rs n0 Q X := by
  refine g_putG (h' := (sF h a k v)) hd hfc hc hk hw hfin ?_ ?_ hK' rfl (fun _ => rfl) ?_ ?_ ?_ ?_ (fun _ _ hj => fv_sF hj) ?_ (fun q _ => q) kk
  · intro sa ad; rw [hty]; rfl
  · intro sa ad; rw [hty]; rfl
  · intro b j hb; simp [hI_sF, hb]
  · intro b j hb; simp [hL_sF, hb]
  · intro b j hb; simp [hF_sF, hb]
  · intro b j hb; simp [hR_sF, hb]
  · rw [hty]; simp [pv, hF_sF]
theorem g_putr {c k idx a : Nat} {v : Nat} (hd : decode M.2.1 pc = .ok (.putfield idx, 3)) (hfc : FCok c) (hc : c < 9) (hk : k < nf c) (hw : Cond.fieldLink M.1.cls idx (TC c k).1 (TC c k).2.1 (TC c k).2.2.1 ∈ BIG) (hfin : (TC c k).2.2.2 = false ∨ ((TC c k).2.2.2 = true ∧ M.1.name = "<init>" ∧ (TC c k).1 = M.1.cls)) (hty : (∃ n, tyC c k = .object n) ∨ ∃ t, tyC c k = .array t) (hK' : (hK h a).1 = c)
    (kk : Gm l x M d (pc + 3) lv (st) (sR h a k (some v)) rc rs n0 Q X) : Gm l x M d pc lv (.ref v :: .ref a :: st) h rc rs n0 Q X := by
  refine g_putG (h' := (sR h a k (some v))) hd hfc hc hk hw hfin ?_ ?_ hK' rfl (fun _ => rfl) ?_ ?_ ?_ ?_ (fun _ _ hj => fv_sR hj) ?_ (fun q hv => wfh_sR (fun b e => by cases e; exact hv v rfl) q) kk
  · intro sa ad; rcases hty with ⟨n, e⟩ | ⟨n, e⟩ <;> rw [e] <;> rfl
  · intro sa ad; rcases hty with ⟨n, e⟩ | ⟨n, e⟩ <;> rw [e] <;> rfl
  · intro b j hb; simp [hI_sR, hb]
  · intro b j hb; simp [hL_sR, hb]
  · intro b j hb; simp [hF_sR, hb]
  · intro b j hb; simp [hR_sR, hb]
  · rcases hty with ⟨n, e⟩ | ⟨n, e⟩ <;> rw [e] <;> simp [pv, hR_sR, pr]
theorem g_putn {c k idx a : Nat} (hd : decode M.2.1 pc = .ok (.putfield idx, 3)) (hfc : FCok c) (hc : c < 9) (hk : k < nf c) (hw : Cond.fieldLink M.1.cls idx (TC c k).1 (TC c k).2.1 (TC c k).2.2.1 ∈ BIG) (hfin : (TC c k).2.2.2 = false ∨ ((TC c k).2.2.2 = true ∧ M.1.name = "<init>" ∧ (TC c k).1 = M.1.cls)) (hty : (∃ n, tyC c k = .object n) ∨ ∃ t, tyC c k = .array t) (hK' : (hK h a).1 = c)
    (kk : Gm l x M d (pc + 3) lv (st) (sR h a k none) rc rs n0 Q X) : Gm l x M d pc lv (.null :: .ref a :: st) h rc rs n0 Q X := by
  refine g_putG (h' := (sR h a k none)) hd hfc hc hk hw hfin ?_ ?_ hK' rfl (fun _ => rfl) ?_ ?_ ?_ ?_ (fun _ _ hj => fv_sR hj) ?_ (fun q _ => wfh_sR (fun b e => nomatch e) q) kk
  · intro sa ad; rcases hty with ⟨n, e⟩ | ⟨n, e⟩ <;> rw [e] <;> rfl
  · intro sa ad; rcases hty with ⟨n, e⟩ | ⟨n, e⟩ <;> rw [e] <;> rfl
  · intro b j hb; simp [hI_sR, hb]
  · intro b j hb; simp [hL_sR, hb]
  · intro b j hb; simp [hF_sR, hb]
  · intro b j hb; simp [hR_sR, hb]
  · rcases hty with ⟨n, e⟩ | ⟨n, e⟩ <;> rw [e] <;> simp [pv, hR_sR, pr]
theorem g_iald {a : Nat} {i : Int32} (hd : decode M.2.1 pc = .ok (.iaload, 1)) (hK' : (hK h a).1 = 100) (hi : vp_in i (hK h a).2) (kk : Gm l x M d (pc + 1) lv (.int (hI h a i.toNatClampNeg) :: st) h rc rs n0 Q X) : Gm l x M d pc lv (.int i :: .ref a :: st) h rc rs n0 Q X := by
  intro hx p e R s m args below meth co H locs cells slots mc ms ls ad ad0 hB h1 h2 h3 h4 h5 h6 hb hw' hS ha hn hl hs hlv
  refine va_iald hB.1 hB.2.1 hw'.1 hw'.2.1 a 0 (cA := xA x 0) (n := (hK h a).2) (f := fun j => hI h a j) (by rw [ws_at (hs.tail.head a rfl), ce_row (t := 0) hK']; rfl) rfl hi hd ?_
  exact kk hx p e R s m args below meth co H locs cells slots mc ms ls ad ad0 hB h1 h2 h3 h4 h5 h6 hb hw' hS ha hn hl (hs.tail.tail.cons (wv_int _ _)) hlv
theorem g_cald {a : Nat} {i : Int32} (hd : decode M.2.1 pc = .ok (.caload, 1)) (hK' : (hK h a).1 = 101) (hi : vp_in i (hK h a).2) (kk : Gm l x M d (pc + 1) lv (.int (hI h a i.toNatClampNeg) :: st) h rc rs n0 Q X) : Gm l x M d pc lv (.int i :: .ref a :: st) h rc rs n0 Q X := by
  intro hx p e R s m args below meth co H locs cells slots mc ms ls ad ad0 hB h1 h2 h3 h4 h5 h6 hb hw' hS ha hn hl hs hlv
  refine va_cald hB.1 hB.2.1 hw'.1 hw'.2.1 a 1 (cA := xA x 1) (n := (hK h a).2) (f := fun j => hI h a j) (by rw [ws_at (hs.tail.head a rfl), ce_row (t := 1) hK']; rfl) rfl hi hd ?_
  exact kk hx p e R s m args below meth co H locs cells slots mc ms ls ad ad0 hB h1 h2 h3 h4 h5 h6 hb hw' hS ha hn hl (hs.tail.tail.cons (wv_int _ _)) hlv
theorem g_zald {a : Nat} {i : Int32} (hd : decode M.2.1 pc = .ok (.baload, 1)) (hK' : (hK h a).1 = 102) (hi : vp_in i (hK h a).2) (kk : Gm l x M d (pc + 1) lv (.int (hI h a i.toNatClampNeg) :: st) h rc rs n0 Q X) : Gm l x M d pc lv (.int i :: .ref a :: st) h rc rs n0 Q X := by
  intro hx p e R s m args below meth co H locs cells slots mc ms ls ad ad0 hB h1 h2 h3 h4 h5 h6 hb hw' hS ha hn hl hs hlv
  refine va_zald hB.1 hB.2.1 hw'.1 hw'.2.1 a 2 (cA := xA x 2) (n := (hK h a).2) (f := fun j => hI h a j) (by rw [ws_at (hs.tail.head a rfl), ce_row (t := 2) hK']; rfl) rfl hi hd ?_
  exact kk hx p e R s m args below meth co H locs cells slots mc ms ls ad ad0 hB h1 h2 h3 h4 h5 h6 hb hw' hS ha hn hl (hs.tail.tail.cons (wv_int _ _)) hlv
theorem g_fald {a : Nat} {i : Int32} (hd : decode M.2.1 pc = .ok (.faload, 1)) (hK' : (hK h a).1 = 103) (hi : vp_in i (hK h a).2) (kk : Gm l x M d (pc + 1) lv (.float (hF h a i.toNatClampNeg) :: st) h rc rs n0 Q X) : Gm l x M d pc lv (.int i :: .ref a :: st) h rc rs n0 Q X := by
  intro hx p e R s m args below meth co H locs cells slots mc ms ls ad ad0 hB h1 h2 h3 h4 h5 h6 hb hw' hS ha hn hl hs hlv
  refine va_fald hB.1 hB.2.1 hw'.1 hw'.2.1 a 3 (cA := xA x 3) (n := (hK h a).2) (f := fun j => hF h a j) (by rw [ws_at (hs.tail.head a rfl), ce_row (t := 3) hK']; rfl) rfl hi hd ?_
  exact kk hx p e R s m args below meth co H locs cells slots mc ms ls ad ad0 hB h1 h2 h3 h4 h5 h6 hb hw' hS ha hn hl (hs.tail.tail.cons (wv_float _ _)) hlv
theorem g_lald {a : Nat} {i : Int32} (hd : decode M.2.1 pc = .ok (.laload, 1)) (hK' : (hK h a).1 = 104) (hi : vp_in i (hK h a).2) (kk : Gm l x M d (pc + 1) lv (.long (hL h a i.toNatClampNeg) :: st) h rc rs n0 Q X) : Gm l x M d pc lv (.int i :: .ref a :: st) h rc rs n0 Q X := by
  intro hx p e R s m args below meth co H locs cells slots mc ms ls ad ad0 hB h1 h2 h3 h4 h5 h6 hb hw' hS ha hn hl hs hlv
  refine va_lald hB.1 hB.2.1 hw'.1 hw'.2.1 a 4 (cA := xA x 4) (n := (hK h a).2) (f := fun j => hL h a j) (by rw [ws_at (hs.tail.head a rfl), ce_row (t := 4) hK']; rfl) rfl hi hd ?_
  exact kk hx p e R s m args below meth co H locs cells slots mc ms ls ad ad0 hB h1 h2 h3 h4 h5 h6 hb hw' hS ha hn hl (hs.tail.tail.cons (wv_long _ _)) hlv
theorem g_aald {a t : Nat} {i : Int32} {v : Value} (hd : decode M.2.1 pc = .ok (.aaload, 1)) (ht : t = 5 ∨ t = 6 ∨ t = 7) (hK' : (hK h a).1 = 100 + t) (hi : vp_in i (hK h a).2) (hv : pr (hR h a i.toNatClampNeg) = v) (kk : Gm l x M d (pc + 1) lv (v :: st) h rc rs n0 Q X) : Gm l x M d pc lv (.int i :: .ref a :: st) h rc rs n0 Q X := by
  intro hx p e R s m args below meth co H locs cells slots mc ms ls ad ad0 hB h1 h2 h3 h4 h5 h6 hb hw' hS ha hn hl hs hlv
  have hwv : wv h v := by rw [← hv]; exact wv_pr (fun b e => hw'.2.2.2.1.2 a _ b e (by omega))
  have hc : ∃ C, (tysW (xA x))[t]? = some (xA x t, .object C) := by rcases ht with rfl | rfl | rfl <;> exact ⟨_, rfl⟩
  obtain ⟨C, hC⟩ := hc
  refine va_aldq hB.1 hB.2.1 hw'.1 hw'.2.1 a t (cA := xA x t) (C := C) (n := (hK h a).2) (f := fun j => (hR h a j).map ad) (by rw [ws_at (hs.tail.head a rfl), ce_row hK']; rcases ht with rfl | rfl | rfl <;> rfl) hC hi hd ?_
  show W p l e R s m args below meth co H locs cells slots _ (F0 m (pc + 1) ls (va_rf ((hR h a i.toNatClampNeg).map ad) :: st.map (rv (xS x) ad)))
  rw [← rv_pr (xS x), hv]
  exact kk hx p e R s m args below meth co H locs cells slots mc ms ls ad ad0 hB h1 h2 h3 h4 h5 h6 hb hw' hS ha hn hl (hs.tail.tail.cons hwv) hlv
theorem g_sald {a j : Nat} {i : Int32} (hd : decode M.2.1 pc = .ok (.aaload, 1)) (hK' : (hK h a).1 = 108) (hi : vp_in i (hK h a).2) (hv : hR h a i.toNatClampNeg = some j) (kk : Gm l x M d (pc + 1) lv (.retAddr j :: st) h rc rs n0 Q X) : Gm l x M d pc lv (.int i :: .ref a :: st) h rc rs n0 Q X := by
  intro hx p e R s m args below meth co H locs cells slots mc ms ls ad ad0 hB h1 h2 h3 h4 h5 h6 hb hw' hS ha hn hl hs hlv
  refine va_aldq hB.1 hB.2.1 hw'.1 hw'.2.1 a 8 (cA := xA x 8) (n := (hK h a).2) (f := fun j => (hR h a j).map (xS x)) (by rw [ws_at (hs.tail.head a rfl), ce_row (t := 8) hK']; rfl) rfl hi hd ?_
  show W p l e R s m args below meth co H locs cells slots _ (F0 m (pc + 1) ls (va_rf ((hR h a i.toNatClampNeg).map (xS x)) :: st.map (rv (xS x) ad)))
  rw [hv]
  exact kk hx p e R s m args below meth co H locs cells slots mc ms ls ad ad0 hB h1 h2 h3 h4 h5 h6 hb hw' hS ha hn hl (hs.tail.tail.cons (wv_txt _ _)) hlv
theorem g_alen {a t : Nat} {v : Int32} (hd : decode M.2.1 pc = .ok (.arraylength, 1)) (ht : t < 9) (hK' : (hK h a).1 = 100 + t) (hv : Int32.ofNat (hK h a).2 = v) (kk : Gm l x M d (pc + 1) lv (.int v :: st) h rc rs n0 Q X) : Gm l x M d pc lv (.ref a :: st) h rc rs n0 Q X := by
  intro hx p e R s m args below meth co H locs cells slots mc ms ls ad ad0 hB h1 h2 h3 h4 h5 h6 hb hw' hS ha hn hl hs hlv
  have hC : (tysW (xA x))[t]? = some (xA x t, aty t) := by simp [tysW, ht]
  refine va_alen hB.1 hB.2.1 hw'.1 hw'.2.1 a t (cA := xA x t) (x := ((hK h a).2, ac (xS x) ad h a t)) (by rw [ws_at (hs.head a rfl), ce_row hK']) hC hv hd ?_
  exact kk hx p e R s m args below meth co H locs cells slots mc ms ls ad ad0 hB h1 h2 h3 h4 h5 h6 hb hw' hS ha hn hl (hs.tail.cons (wv_int _ _)) hlv
theorem st_go {pc' a : Nat} {st' : List Value} {h' : PH} {E : (Nat → ClassId) → (Nat → Nat) → (Nat → Nat) → va_E} (e0 : hN h' = hN h) (e1 : ∀ b, hK h' b = hK h b) (e2 : ∀ b j, b ≠ a → hI h' b j = hI h b j) (e3 : ∀ b j, b ≠ a → hL h' b j = hL h b j) (e4 : ∀ b j, b ≠ a → hF h' b j = hF h b j) (e5 : ∀ b j, b ≠ a → hR h' b j = hR h b j)
    (e6 : ∀ cA sa ad, ce cA sa ad h' a = E cA sa ad) (hwf : wfh h → wfh h') (kk : Gm l x M d pc' lv (st') h' rc rs n0 Q X)
    {p : Program} {e : Env} {R : Room} {s : State} {m : MethodId} {args : Array Value} {below : List Frame} {meth : Method} {c : Code} {H : Heap} {locs : List Loc} {cells slots mc ms : Nat} {ls : Array Slot} {ad ad0 : Nat → Nat} (hx : CXok l x)
    (hB : Bd M p s m args meth c) (h1 : d ≤ R.frames) (h2 : 41 * d ≤ R.locals) (h3 : cells + rc ≤ R.cells) (h4 : slots + rs ≤ R.slots) (h5 : cells + rc ≤ mc) (h6 : slots + rs ≤ ms)
    (hb : xB x ≤ s.heap.size) (hw : Wd x ad h s H) (hS : va_S (Aw x) s.heap H locs) (ha : ∀ a, a < n0 → ad a = ad0 a) (hn : n0 ≤ hN h) (hl : wvl h lv) (hs : wvs h st') (hv : lv_has ls M.2.2.1 (rvl (xS x) ad lv)) :
    ∀ (H1 : Heap) (locs1 : List Loc), va_P (xD x) vwCl ((wsW (xA x) (xS x) ad h).set a (ad a, E (xA x) (xS x) ad)) H1 → va_D (Aw x) ((wsW (xA x) (xS x) ad h).set a (ad a, E (xA x) (xS x) ad)) → va_S (Aw x) s.heap H1 locs1 →
      W p l e R s m args below meth c H1 locs1 cells slots (vx_MQ below (Qm x n0 ad0 Q) (Xm x n0 ad0 X) args s mc ms (Aw x)) (F0 m pc' ls (st'.map (rv (xS x) ad))) := by
  intro H1 locs1 hP1 hD1 hS1
  rw [ws_set e0 (fun b hb => ce_congr (e1 b) (fun j => e2 b j hb) (fun j => e3 b j hb) (fun j => e4 b j hb) (fun j => e5 b j hb)) (e6 _ _ _)] at hP1 hD1
  have hle : hN h ≤ hN h' := Nat.le_of_eq e0.symm
  exact kk hx p e R s m args below meth c H1 locs1 cells slots mc ms ls ad ad0 hB h1 h2 h3 h4 h5 h6 hb ⟨hw.1, hP1, hD1, hwf hw.2.2.2.1, Nat.le_trans hb hS1.1, Z_kept hx hb hS hS1 hw.2.2.2.2.2⟩ hS1 ha (Nat.le_trans hn hle) (hl.le hle) (hs.le hle) hv
theorem g_iast {a : Nat} {i : Int32} {v : Int32} (hd : decode M.2.1 pc = .ok (.iastore, 1)) (hK' : (hK h a).1 = 100) (hi : vp_in i (hK h a).2) (kk : Gm l x M d (pc + 1) lv (st) (sI h a i.toNatClampNeg v) rc rs n0 Q X) : Gm l x M d pc lv (.int v :: .int i :: .ref a :: st) h rc rs n0 Q X := by
  intro hx p e R s m args below meth co H locs cells slots mc ms ls ad ad0 hB h1 h2 h3 h4 h5 h6 hb hw' hS ha hn hl hs hlv
  refine va_iast hB.1 hB.2.1 hw'.1 hw'.2.1 hw'.2.2.1 hS a 0 (cA := xA x 0) (n := (hK h a).2) (f := fun j => hI h a j) (by rw [ws_at (hs.tail.tail.head a rfl), ce_row (t := 0) hK']; rfl) rfl hi hd ?_
  refine st_go (h := h) (h' := (sI h a i.toNatClampNeg v)) (E := fun cA _ _ => .inl (cA 0, (hK h a).2, .inl (upd (fun j => hI h a j) i.toNatClampNeg v))) rfl (fun _ => rfl) ?_ ?_ ?_ ?_ ?_ (fun q => q) kk hx hB h1 h2 h3 h4 h5 h6 hb hw' hS ha hn hl hs.tail.tail.tail hlv
  · intro b j hb; simp [hI_sI, hb]
  · intro b j hb; simp [hL_sI, hb]
  · intro b j hb; simp [hF_sI, hb]
  · intro b j hb; simp [hR_sI, hb]
  · intro cA sa ad
    rw [ce_row (t := 0) (h := (sI h a i.toNatClampNeg v)) (by rw [hK_sI]; exact hK'), hK_sI]
    show Sum.inl (cA 0, (hK h a).2, ac sa ad (sI h a i.toNatClampNeg v) a 0) = _
    simp only [ac, hI_sI, upd, and_true]
    rfl
theorem g_cast {a : Nat} {i : Int32} {v : Int32} (hd : decode M.2.1 pc = .ok (.castore, 1)) (hK' : (hK h a).1 = 101) (hi : vp_in i (hK h a).2) (kk : Gm l x M d (pc + 1) lv (st) (sI h a i.toNatClampNeg (vp_nar .char v)) rc rs n0 Q X) : Gm l x M d pc lv (.int v :: .int i :: .ref a :: st) h rc rs n0 Q X := by
  intro hx p e R s m args below meth co H locs cells slots mc ms ls ad ad0 hB h1 h2 h3 h4 h5 h6 hb hw' hS ha hn hl hs hlv
  refine va_cast hB.1 hB.2.1 hw'.1 hw'.2.1 hw'.2.2.1 hS a 1 (cA := xA x 1) (n := (hK h a).2) (f := fun j => hI h a j) (by rw [ws_at (hs.tail.tail.head a rfl), ce_row (t := 1) hK']; rfl) rfl hi hd ?_
  refine st_go (h := h) (h' := (sI h a i.toNatClampNeg (vp_nar .char v))) (E := fun cA _ _ => .inl (cA 1, (hK h a).2, .inl (upd (fun j => hI h a j) i.toNatClampNeg (vp_nar .char v)))) rfl (fun _ => rfl) ?_ ?_ ?_ ?_ ?_ (fun q => q) kk hx hB h1 h2 h3 h4 h5 h6 hb hw' hS ha hn hl hs.tail.tail.tail hlv
  · intro b j hb; simp [hI_sI, hb]
  · intro b j hb; simp [hL_sI, hb]
  · intro b j hb; simp [hF_sI, hb]
  · intro b j hb; simp [hR_sI, hb]
  · intro cA sa ad
    rw [ce_row (t := 1) (h := (sI h a i.toNatClampNeg (vp_nar .char v))) (by rw [hK_sI]; exact hK'), hK_sI]
    show Sum.inl (cA 1, (hK h a).2, ac sa ad (sI h a i.toNatClampNeg (vp_nar .char v)) a 1) = _
    simp only [ac, hI_sI, upd, and_true]
    rfl
theorem g_zast {a : Nat} {i : Int32} {v : Int32} (hd : decode M.2.1 pc = .ok (.bastore, 1)) (hK' : (hK h a).1 = 102) (hi : vp_in i (hK h a).2) (kk : Gm l x M d (pc + 1) lv (st) (sI h a i.toNatClampNeg (vp_nar .boolean v)) rc rs n0 Q X) : Gm l x M d pc lv (.int v :: .int i :: .ref a :: st) h rc rs n0 Q X := by
  intro hx p e R s m args below meth co H locs cells slots mc ms ls ad ad0 hB h1 h2 h3 h4 h5 h6 hb hw' hS ha hn hl hs hlv
  refine va_zast hB.1 hB.2.1 hw'.1 hw'.2.1 hw'.2.2.1 hS a 2 (cA := xA x 2) (n := (hK h a).2) (f := fun j => hI h a j) (by rw [ws_at (hs.tail.tail.head a rfl), ce_row (t := 2) hK']; rfl) rfl hi hd ?_
  refine st_go (h := h) (h' := (sI h a i.toNatClampNeg (vp_nar .boolean v))) (E := fun cA _ _ => .inl (cA 2, (hK h a).2, .inl (upd (fun j => hI h a j) i.toNatClampNeg (vp_nar .boolean v)))) rfl (fun _ => rfl) ?_ ?_ ?_ ?_ ?_ (fun q => q) kk hx hB h1 h2 h3 h4 h5 h6 hb hw' hS ha hn hl hs.tail.tail.tail hlv
  · intro b j hb; simp [hI_sI, hb]
  · intro b j hb; simp [hL_sI, hb]
  · intro b j hb; simp [hF_sI, hb]
  · intro b j hb; simp [hR_sI, hb]
  · intro cA sa ad
    rw [ce_row (t := 2) (h := (sI h a i.toNatClampNeg (vp_nar .boolean v))) (by rw [hK_sI]; exact hK'), hK_sI]
    show Sum.inl (cA 2, (hK h a).2, ac sa ad (sI h a i.toNatClampNeg (vp_nar .boolean v)) a 2) = _
    simp only [ac, hI_sI, upd, and_true]
    rfl
theorem g_fast {a : Nat} {i : Int32} {v : UInt32} (hd : decode M.2.1 pc = .ok (.fastore, 1)) (hK' : (hK h a).1 = 103) (hi : vp_in i (hK h a).2) (kk : Gm l x M d (pc + 1) lv (st) (sF h a i.toNatClampNeg v) rc rs n0 Q X) : Gm l x M d pc lv (.float v :: .int i :: .ref a :: st) h rc rs n0 Q X := by
  intro hx p e R s m args below meth co H locs cells slots mc ms ls ad ad0 hB h1 h2 h3 h4 h5 h6 hb hw' hS ha hn hl hs hlv
  refine va_fast hB.1 hB.2.1 hw'.1 hw'.2.1 hw'.2.2.1 hS a 3 (cA := xA x 3) (n := (hK h a).2) (f := fun j => hF h a j) (by rw [ws_at (hs.tail.tail.head a rfl), ce_row (t := 3) hK']; rfl) rfl hi hd ?_
  refine st_go (h := h) (h' := (sF h a i.toNatClampNeg v)) (E := fun cA _ _ => .inl (cA 3, (hK h a).2, .inr (.inr (.inl (vf_upd (fun j => hF h a j) i.toNatClampNeg v))))) rfl (fun _ => rfl) ?_ ?_ ?_ ?_ ?_ (fun q => q) kk hx hB h1 h2 h3 h4 h5 h6 hb hw' hS ha hn hl hs.tail.tail.tail hlv
  · intro b j hb; simp [hI_sF, hb]
  · intro b j hb; simp [hL_sF, hb]
  · intro b j hb; simp [hF_sF, hb]
  · intro b j hb; simp [hR_sF, hb]
  · intro cA sa ad
    rw [ce_row (t := 3) (h := (sF h a i.toNatClampNeg v)) (by rw [hK_sF]; exact hK'), hK_sF]
    show Sum.inl (cA 3, (hK h a).2, ac sa ad (sF h a i.toNatClampNeg v) a 3) = _
    simp only [ac, hF_sF, vf_upd, and_true]
    rfl
theorem g_last {a : Nat} {i : Int32} {v : Int64} (hd : decode M.2.1 pc = .ok (.lastore, 1)) (hK' : (hK h a).1 = 104) (hi : vp_in i (hK h a).2) (kk : Gm l x M d (pc + 1) lv (st) (sL h a i.toNatClampNeg v) rc rs n0 Q X) : Gm l x M d pc lv (.long v :: .int i :: .ref a :: st) h rc rs n0 Q X := by
  intro hx p e R s m args below meth co H locs cells slots mc ms ls ad ad0 hB h1 h2 h3 h4 h5 h6 hb hw' hS ha hn hl hs hlv
  refine va_last hB.1 hB.2.1 hw'.1 hw'.2.1 hw'.2.2.1 hS a 4 (cA := xA x 4) (n := (hK h a).2) (f := fun j => hL h a j) (by rw [ws_at (hs.tail.tail.head a rfl), ce_row (t := 4) hK']; rfl) rfl hi hd ?_
  refine st_go (h := h) (h' := (sL h a i.toNatClampNeg v)) (E := fun cA _ _ => .inl (cA 4, (hK h a).2, .inr (.inl (vp_updL (fun j => hL h a j) i.toNatClampNeg v)))) rfl (fun _ => rfl) ?_ ?_ ?_ ?_ ?_ (fun q => q) kk hx hB h1 h2 h3 h4 h5 h6 hb hw' hS ha hn hl hs.tail.tail.tail hlv
  · intro b j hb; simp [hI_sL, hb]
  · intro b j hb; simp [hL_sL, hb]
  · intro b j hb; simp [hF_sL, hb]
  · intro b j hb; simp [hR_sL, hb]
  · intro cA sa ad
    rw [ce_row (t := 4) (h := (sL h a i.toNatClampNeg v)) (by rw [hK_sL]; exact hK'), hK_sL]
    show Sum.inl (cA 4, (hK h a).2, ac sa ad (sL h a i.toNatClampNeg v) a 4) = _
    simp only [ac, hL_sL, vp_updL, and_true]
    rfl
theorem g_aast {a b t ci : Nat} {i : Int32} (hd : decode M.2.1 pc = .ok (.aastore, 1)) (ht : (t = 5 ∧ ci = 2) ∨ (t = 6 ∧ ci = 6) ∨ (t = 7 ∧ ci = 1)) (hfc : FCok ci) (hK' : (hK h a).1 = 100 + t) (hi : vp_in i (hK h a).2) (hKb : (hK h b).1 = ci) (kk : Gm l x M d (pc + 1) lv (st) (sR h a i.toNatClampNeg (some b)) rc rs n0 Q X) : Gm l x M d pc lv (.ref b :: .int i :: .ref a :: st) h rc rs n0 Q X := by
  intro hx p e R s m args below meth co H locs cells slots mc ms ls ad ad0 hB h1 h2 h3 h4 h5 h6 hb hw' hS ha hn hl hs hlv
  have hcl : ci < 9 := by omega
  have hbl : b < hN h := hs.head b rfl
  have hC : (tysW (xA x))[t]? = some (xA x t, .object (RC ci)) := by rcases ht with ⟨rfl, rfl⟩ | ⟨rfl, rfl⟩ | ⟨rfl, rfl⟩ <;> rfl
  refine va_astq hB.1 hB.2.1 hw'.1 hw'.2.1 hw'.2.2.1 hS a t b ci (cA := xA x t) (r := (RC ci, TC ci, nf ci)) (n := (hK h a).2) (v := ad b) (vs := fl ad h b ci) (f := fun j => (hR h a j).map ad) (by rw [ws_at (hs.tail.tail.head a rfl), ce_row hK']; rcases ht with ⟨rfl, rfl⟩ | ⟨rfl, rfl⟩ | ⟨rfl, rfl⟩ <;> rfl) hC (by rw [ws_at hbl, ce_obj hKb hcl]) hfc.1 hi hd ?_
  refine st_go (h := h) (h' := sR h a i.toNatClampNeg (some b)) (E := fun cA _ ad => .inl (cA t, (hK h a).2, .inr (.inr (.inr (.inr (va_up (fun j => (hR h a j).map ad) i.toNatClampNeg (some (ad b)))))))) rfl (fun _ => rfl) (fun _ _ _ => rfl) (fun _ _ _ => rfl) (fun _ _ _ => rfl) ?_ ?_ (wfh_sR (fun c e => by cases e; exact hbl)) kk hx hB h1 h2 h3 h4 h5 h6 hb hw' hS ha hn hl hs.tail.tail.tail hlv
  · intro b j hb; simp [hR_sR, hb]
  · intro cA sa ad
    rw [ce_row (t := t) (h := sR h a i.toNatClampNeg (some b)) (by rw [hK_sR]; exact hK'), hK_sR]
    have e : ac sa ad (sR h a i.toNatClampNeg (some b)) a t = .inr (.inr (.inr (.inr (fun j => (hR (sR h a i.toNatClampNeg (some b)) a j).map ad)))) := by rcases ht with ⟨rfl, rfl⟩ | ⟨rfl, rfl⟩ | ⟨rfl, rfl⟩ <;> rfl
    rw [e]
    have e2 : (fun j => (hR (sR h a i.toNatClampNeg (some b)) a j).map ad) = va_up (fun j => (hR h a j).map ad) i.toNatClampNeg (some (ad b)) := by
      funext j
      simp only [hR_sR, va_up, and_true]
      by_cases hj : j = i.toNatClampNeg
      · rw [if_pos hj, if_pos hj]; rfl
      · rw [if_neg hj, if_neg hj]
    rw [e2]
end Rows5
