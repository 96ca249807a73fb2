/-! ROWS, SEVENTH PART: a method's entry; objects and rows are made -/
theorem lg_len (sa ad : Nat → Nat) : ∀ vs : List Value, (lg_sl (vs.map (rv sa ad))).length = (lg_sl vs).length
  | [] => rfl
  | v :: vs => by
    have ih := lg_len sa ad vs
    simp only [lg_sl, List.map_cons, List.flatMap_cons, List.length_append] at ih ⊢
    rw [rv_cat, ih]
    by_cases hc : v.category = 2
    · rw [if_pos hc, if_pos hc]; rfl
    · rw [if_neg hc, if_neg hc]; rfl
theorem lv_args_rv (sa ad : Nat → Nat) : ∀ (vs : List Value) (i : Nat), lv_args i (vs.map (rv sa ad)) = rvl sa ad (lv_args i vs)
  | [], _ => rfl
  | v :: vs, i => by
    show (i, rv sa ad v) :: lv_args (if (rv sa ad v).category = 2 then i + 2 else i + 1) (vs.map (rv sa ad)) = (i, rv sa ad v) :: rvl sa ad (lv_args (if v.category = 2 then i + 2 else i + 1) vs)
    rw [rv_cat, lv_args_rv sa ad vs]
theorem wvl_args {h : PH} : ∀ (vs : List Value) (i : Nat), wvs h vs → wvl h (lv_args i vs)
  | [], _, _ => fun _ hq => absurd hq List.not_mem_nil
  | v :: vs, i, hv => fun q hq => by
    rcases List.mem_cons.mp hq with e | e
    · rw [e]; exact hv.head
    · exact wvl_args vs _ hv.tail q e
theorem Cm.of {l : Launch} {x : CX} {M : MD} {d mc ms : Nat} {a : List Value} {h : PH} {Q : Option Value → PH → Prop} {X : String → PH → Prop} (hy : plainName M.1.cls = true) (hle : (lg_sl a).length ≤ M.2.2.1) (hG : Gm l x M d 0 (lv_args 0 a) [] h mc ms (hN h) Q X) : Cm l x M d mc ms a h Q X := by
  intro hx ad
  refine vx_ofW (cc := M.2.1) (maxL := M.2.2.1) (ret := M.2.2.2) hy rfl ?_
  intro p e s m args below meth c s₁ B hml hT hv
  obtain ⟨rfl, hw, hwv⟩ := hv
  have hts := atoms_spec (ws := Cond.code M.1 M.2.1 M.2.2.1 M.2.2.2 :: BIG) B.pre
  have hB : Bd M p s m (a.map (rv (xS x) ad)).toArray meth c := ⟨B.exec, B.bytes, B.returns, hml, fun w h => hts w (List.mem_cons_of_mem _ h), findClass_of_methodNamed B.named, B.notSynchronized, (name_of_methodNamed B.named B.method).1, hT⟩
  have hl := lv_entry (a.map (rv (xS x) ad)) (n := M.2.2.1) (by rw [lg_len]; exact hle)
  rw [lg_entry_eq]
  generalize (lg_sl (a.map (rv (xS x) ad)) ++ List.replicate (M.2.2.1 - (lg_sl (a.map (rv (xS x) ad))).length) Slot.unset).toArray = ls at hl ⊢
  rw [lv_args_rv] at hl
  exact hG hx p e _ s m _ below meth c s.heap [] 0 0 mc ms ls ad ad hB (Nat.le_refl d) (Nat.le_refl (41 * d)) (by show 0 + mc ≤ mc; omega) (by show 0 + ms ≤ ms; omega) (by omega) (by omega) hw.2.2.2.2.1 hw va_S.rf (fun _ _ => rfl) (Nat.le_refl _) (wvl_args a 0 hwv) (fun _ hq => absurd hq List.not_mem_nil) hl
theorem map_congr_of {f g : Nat → Nat} {o : Option Nat} (hh : ∀ b, o = some b → f b = g b) : o.map f = o.map g := by
  cases o with
  | none => rfl
  | some b => show some (f b) = some (g b); rw [hh b rfl]
theorem ce_ad {cA : Nat → ClassId} {sa ad ad' : Nat → Nat} {h : PH} {b : Nat} (ha : ∀ j r, hR h b j = some r → (hK h b).1 ≠ 108 → ad' r = ad r) : ce cA sa ad' h b = ce cA sa ad h b := by
  by_cases hk : (hK h b).1 < 100
  · simp only [ce, if_pos hk]
    have e : fl ad' h b (hK h b).1 = fl ad h b (hK h b).1 := by
      apply List.map_congr_left
      intro j _
      have hm : (hR h b j).map ad' = (hR h b j).map ad := map_congr_of (fun r e => ha j r e (by omega))
      cases tyC (hK h b).1 j <;> simp only [fv, hm]
    rw [e]
  · simp only [ce, if_neg hk]
    have e : ac sa ad' h b ((hK h b).1 - 100) = ac sa ad h b ((hK h b).1 - 100) := by
      by_cases h8 : (hK h b).1 = 108
      · rw [h8]; rfl
      · have hm : (fun i => (hR h b i).map ad') = fun i => (hR h b i).map ad := funext fun j => map_congr_of (fun r e => ha j r e h8)
        simp only [ac, hm]
    rw [e]
def adn (ad : Nat → Nat) (n q : Nat) : Nat → Nat := fun b => if b = n then q else ad b
theorem adn_lt {ad : Nat → Nat} {n q b : Nat} (hb : b < n) : adn ad n q b = ad b := if_neg (by omega)
theorem ws_new {cA : Nat → ClassId} {sa ad : Nat → Nat} {h : PH} {k : Nat × Nat} {q : Nat} {E : va_E} (hw : wfh h) (hE : ce cA sa ad (nw h k) (hN h) = E) : wsW cA sa ad h ++ [(q, E)] = wsW cA sa (adn ad (hN h) q) (nw h k) := by
  have hnone : ∀ j, hR (nw h k) (hN h) j = none := fun j => by rw [hR_nw, if_pos rfl]
  apply List.ext_getElem?
  intro j
  by_cases hj : j < hN h
  · rw [List.getElem?_append_left (by rw [ws_len]; exact hj), ws_at hj, ws_at (h := nw h k) (by rw [hN_nw]; omega), adn_lt hj]
    have hne : j ≠ hN h := by omega
    have e1 : ce cA sa (adn ad (hN h) q) (nw h k) j = ce cA sa (adn ad (hN h) q) h j :=
      ce_congr (by rw [hK_nw, if_neg hne]) (fun i => by rw [hI_nw, if_neg hne]) (fun i => by rw [hL_nw, if_neg hne]) (fun i => by rw [hF_nw, if_neg hne]) (fun i => by rw [hR_nw, if_neg hne])
    rw [e1, ce_ad (ad := ad) (fun i r e hk => adn_lt (hw.2 j i r e hk))]
  · by_cases hj2 : j = hN h
    · subst hj2
      rw [List.getElem?_append_right (by rw [ws_len]; omega), ws_len, Nat.sub_self, ws_at (h := nw h k) (by rw [hN_nw]; omega), ce_ad (ad := ad) (fun i r e _ => by rw [hnone] at e; cases e), hE]
      show some (q, E) = some (adn ad (hN h) q (hN h), E)
      rw [show adn ad (hN h) q (hN h) = q from if_pos rfl]
    · rw [List.getElem?_eq_none (by rw [List.length_append, ws_len]; simp; omega), List.getElem?_eq_none (by rw [ws_len, hN_nw]; omega)]
theorem wfh_nw {h : PH} {k : Nat × Nat} (hw : wfh h) : wfh (nw h k) := by
  refine ⟨fun a ha => ?_, fun a j b e hk => ?_⟩
  · rw [hN_nw] at ha
    rw [hK_nw, if_neg (by omega)]
    exact hw.1 a (by omega)
  · rw [hN_nw]
    rw [hR_nw] at e
    by_cases ha : a = hN h
    · rw [if_pos ha] at e; cases e
    · rw [if_neg ha] at e
      rw [hK_nw, if_neg ha] at hk
      have := hw.2 a j b e hk
      omega
theorem fv_new {ad : Nat → Nat} {h : PH} {k : Nat × Nat} (ty : FieldType) (hd : ty ≠ .double) (j : Nat) : defaultValue ty = fv ad (nw h k) (hN h) ty j := by
  cases ty <;> first | exact absurd rfl hd | simp [fv, defaultValue, hI_nw, hL_nw, hF_nw, hR_nw, va_rf]
section Rows7
variable {l : Launch} {x : CX} {M : MD} {d pc : Nat} {lv : List (Nat × Value)} {st : List Value} {h : PH} {rc rs n0 : Nat} {Q : Option Value → PH → Prop} {X : String → PH → Prop}
/-- behind a making: the world with one cell more -/
theorem mk_go {pc' rc' rs' N : Nat} {st' : List Value} {k : Nat × Nat} (hrc : rc' + 1 ≤ rc) (hrs : rs' + N ≤ rs) (hsub : wvs h st → wvs h st') (kk : Gm l x M d pc' lv (.ref (hN h) :: st') (nw h k) rc' rs' n0 Q X)
    {p : Program} {e : Env} {R : Room} {s : State} {m : MethodId} {args : Array Value} {below : List Frame} {meth : Method} {c : Code} {H : Heap} {locs : List Loc} {cells slots mc ms : Nat} {ls : Array Slot} {ad ad0 : Nat → Nat} (hx : CXok l x)
    (hB : Bd M p s m args meth c) (h1 : d ≤ R.frames) (h2 : 41 * d ≤ R.locals) (h3 : cells + rc ≤ R.cells) (h4 : slots + rs ≤ R.slots) (h5 : cells + rc ≤ mc) (h6 : slots + rs ≤ ms)
    (hb : xB x ≤ s.heap.size) (hw : Wd x ad h s H) (hS : va_S (Aw x) s.heap H locs) (ha : ∀ a, a < n0 → ad a = ad0 a) (hn : n0 ≤ hN h) (hl : wvl h lv) (hs : wvs h st) (hv : lv_has ls M.2.2.1 (rvl (xS x) ad lv))
    {E : va_E} (hE : ce (xA x) (xS x) ad (nw h k) (hN h) = E) {q : Nat} {H1 : Heap} (hP1 : va_P (xD x) vwCl (wsW (xA x) (xS x) ad h ++ [(q, E)]) H1) (hD1 : va_D (Aw x) (wsW (xA x) (xS x) ad h ++ [(q, E)])) (hS1 : va_S (Aw x) s.heap H1 locs) :
    W p l e R s m args below meth c H1 locs (cells + 1) (slots + N) (vx_MQ below (Qm x n0 ad0 Q) (Xm x n0 ad0 X) args s mc ms (Aw x)) (F0 m pc' ls (.ref q :: st'.map (rv (xS x) ad))) := by
  rw [ws_new hw.2.2.2.1 hE] at hP1 hD1
  have hle : hN h ≤ hN (nw h k) := by rw [hN_nw]; omega
  have hag : ∀ a, a < hN h → adn ad (hN h) q a = ad a := fun a h9 => adn_lt h9
  have key := kk hx p e R s m args below meth c H1 locs (cells + 1) (slots + N) mc ms ls (adn ad (hN h) q) ad0 hB h1 h2 (by omega) (by omega) (by omega) (by omega) hb ⟨hw.1, hP1, hD1, wfh_nw hw.2.2.2.1, Nat.le_trans hb hS1.1, Z_kept hx hb hS hS1 hw.2.2.2.2.2⟩ hS1 (fun a h9 => (hag a (Nat.lt_of_lt_of_le h9 hn)).trans (ha a h9)) (Nat.le_trans hn hle) (hl.le hle) (((hsub hs).le hle).cons (wv_ref (by rw [hN_nw]; omega))) (by rw [rvl_same hl hag]; exact hv)
  have e2 : (Value.ref (hN h) :: st').map (rv (xS x) (adn ad (hN h) q)) = .ref q :: st'.map (rv (xS x) ad) := by
    rw [List.map_cons, rvs_same (hsub hs) hag]
    show Value.ref (adn ad (hN h) q (hN h)) :: _ = _
    rw [show adn ad (hN h) q (hN h) = q from if_pos rfl]
  rw [e2] at key
  exact key
theorem g_new {c idx rc' rs' : Nat} (hd : decode M.2.1 pc = .ok (.new idx, 3)) (hfc : FCok c) (hc : c < 9) (hnd : ∀ j, j < nf c → tyC c j ≠ .double) (w0 : Cond.classLink M.1.cls idx (RC c) ∈ BIG) (w1 : Cond.instantiable (RC c) (nf c) ∈ BIG) (w2 : Cond.initialized (RC c) ∈ BIG) (hrc : rc' + 1 ≤ rc) (hrs : rs' + nf c ≤ rs)
    (kk : Gm l x M d (pc + 3) lv (.ref (hN h) :: st) (nw h (c, 0)) rc' rs' n0 Q X) : Gm l x M d pc lv st h rc rs n0 Q X := by
  intro hx p e R s m args below meth co H locs cells slots mc ms ls ad ad0 hB h1 h2 h3 h4 h5 h6 hb hw hS ha hn hl hs hlv
  refine va_new (T := TC c) (ci := c) (fs := fl ad (nw h (c, 0)) (hN h) c) hB.1 hB.2.1 hB.2.2.2.2.1 hfc.2.1 (tyC c) hfc.2.2.1 hB.2.2.2.2.2.1 (big_at hB w0) (big_at hB w1) (big_at hB w2) hw.1 hw.2.1 hw.2.2.1 hS (fun q hq => Nat.le_trans hb hq) hfc.1 (fun j hj => ?_) (by omega) (by omega) hd ?_
  · rw [show vp_V (fl ad (nw h (c, 0)) (hN h) c) j = fv ad (nw h (c, 0)) (hN h) (tyC c j) j from by simp only [vp_V, List.getD_eq_getElem?_getD, fl_at hj]; rfl]
    exact fv_new _ (hnd j hj) j
  · intro q H1 hP1 hD1 hS1
    exact mk_go (st := st) (k := (c, 0)) hrc hrs (fun h => h) kk hx hB h1 h2 h3 h4 h5 h6 hb hw hS ha hn hl hs hlv (ce_obj (by rw [hK_nw, if_pos rfl]) hc) hP1 hD1 hS1
theorem g_newa {t rc' rs' N : Nat} {n : Int32} {atype : ArrayType} (hd : decode M.2.1 pc = .ok (.newarray atype, 2)) (ht : (t = 0 ∧ atype = .int) ∨ (t = 1 ∧ atype = .char) ∨ (t = 2 ∧ atype = .boolean) ∨ (t = 3 ∧ atype = .float) ∨ (t = 4 ∧ atype = .long)) (w0 : Cond.arrayClass (newarray.typeOf atype) ∈ BIG) (hn0 : ¬ n < 0) (hN' : n.toNatClampNeg = N) (hsm : N ≤ 20000) (hrc : rc' + 1 ≤ rc) (hrs : rs' + N ≤ rs)
    (kk : Gm l x M d (pc + 2) lv (.ref (hN h) :: st) (nw h (100 + t, N)) rc' rs' n0 Q X) : Gm l x M d pc lv (.int n :: st) h rc rs n0 Q X := by
  intro hx p e R s m args below meth co H locs cells slots mc ms ls ad ad0 hB h1 h2 h3 h4 h5 h6 hb hw hS ha hn hl hs hlv
  have hty : newarray.typeOf atype = aty t := by rcases ht with ⟨rfl, rfl⟩ | ⟨rfl, rfl⟩ | ⟨rfl, rfl⟩ | ⟨rfl, rfl⟩ | ⟨rfl, rfl⟩ <;> rfl
  have hC : (tysW (xA x))[t]? = some (xA x t, aty t) := by rcases ht with ⟨rfl, _⟩ | ⟨rfl, _⟩ | ⟨rfl, _⟩ | ⟨rfl, _⟩ | ⟨rfl, _⟩ <;> rfl
  refine va_newa (ty := aty t) (N' := N) (a0 := (N, ac (xS x) ad (nw h (100 + t, N)) (hN h) t)) hB.1 hB.2.1 (big_at hB w0) hty hw.1 hw.2.1 hw.2.2.1 hS (fun q hq => Nat.le_trans hb hq) (fun cA => ?_) hn0 hN' ?_ (by omega) (by omega) hd ?_
  · rcases ht with ⟨rfl, _⟩ | ⟨rfl, _⟩ | ⟨rfl, _⟩ | ⟨rfl, _⟩ | ⟨rfl, _⟩ <;> simp [ac, vp_cell, hI_nw, hF_nw, hL_nw, aty, defaultValue, arrV]
  · rcases ht with ⟨rfl, _⟩ | ⟨rfl, _⟩ | ⟨rfl, _⟩ | ⟨rfl, _⟩ | ⟨rfl, _⟩ <;> simp only [aty, componentBytes] <;> omega
  · intro q cA H1 hK1 hP1 hD1 hS1
    have k1 := (hK1.2 9 (cA, aty t) (by simp [tysW])).2
    have k2 := (hw.1.2 t _ hC).2
    have hcA : cA = xA x t := by
      rcases ht with ⟨rfl, _⟩ | ⟨rfl, _⟩ | ⟨rfl, _⟩ | ⟨rfl, _⟩ | ⟨rfl, _⟩ <;> exact Option.some.inj (k1.symm.trans k2)
    subst hcA
    have hk : hK (nw h (100 + t, N)) (hN h) = (100 + t, N) := by rw [hK_nw, if_pos rfl]
    exact mk_go (st := .int n :: st) (k := (100 + t, N)) hrc hrs (fun h => h.tail) kk hx hB h1 h2 h3 h4 h5 h6 hb hw hS ha hn hl hs hlv (by rw [ce_row (t := t) (by rw [hk]), hk]) hP1 hD1 hS1
theorem g_newq {t idx rc' rs' N : Nat} {n : Int32} {C : String} (hd : decode M.2.1 pc = .ok (.anewarray idx, 3)) (ht : t = 5 ∨ t = 6 ∨ t = 7 ∨ t = 8) (hC : aty t = .object C) (w0 : Cond.classLink M.1.cls idx C ∈ BIG) (hz : ∀ U H, xZ x U H → va_AO C U) (hn0 : ¬ n < 0) (hN' : n.toNatClampNeg = N) (hsm : N ≤ 20000) (hrc : rc' + 1 ≤ rc) (hrs : rs' + N ≤ rs)
    (kk : Gm l x M d (pc + 3) lv (.ref (hN h) :: st) (nw h (100 + t, N)) rc' rs' n0 Q X) : Gm l x M d pc lv (.int n :: st) h rc rs n0 Q X := by
  intro hx p e R s m args below meth co H locs cells slots mc ms ls ad ad0 hB h1 h2 h3 h4 h5 h6 hb hw hS ha hn hl hs hlv
  have hCt : (tysW (xA x))[t]? = some (xA x t, .object C) := by rw [← hC]; rcases ht with rfl | rfl | rfl | rfl <;> rfl
  refine va_newq (N' := N) hB.1 hB.2.1 hB.2.2.2.2.2.1 (big_at hB w0) (hz s H hw.2.2.2.2.2) hw.1 hw.2.1 hw.2.2.1 hS (fun q hq => Nat.le_trans hb hq) hn0 hN' (by omega) (by omega) (by omega) hd ?_
  intro q cA H1 hK1 hP1 hD1 hS1
  have k1 := (hK1.2 9 (cA, .object C) (by simp [tysW])).2
  have k2 := (hw.1.2 t _ hCt).2
  have hcA : cA = xA x t := by
    obtain ⟨_, _, _, _, _, k1⟩ := k1
    obtain ⟨_, _, _, _, _, k2⟩ := k2
    exact Option.some.inj (k1.symm.trans k2)
  subst hcA
  have hk : hK (nw h (100 + t, N)) (hN h) = (100 + t, N) := by rw [hK_nw, if_pos rfl]
  refine mk_go (st := .int n :: st) (k := (100 + t, N)) hrc hrs (fun h => h.tail) kk hx hB h1 h2 h3 h4 h5 h6 hb hw hS ha hn hl hs hlv ?_ hP1 hD1 hS1
  rw [ce_row (t := t) (by rw [hk]), hk]
  rcases ht with rfl | rfl | rfl | rfl <;> simp [ac, hR_nw]
end Rows7
