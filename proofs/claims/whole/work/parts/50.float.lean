/-! METHODS OF A CLASS THAT HAS NATIVE ONES TOO: the entry (follows vx_ofW, over MetFree.of_bodySF), and Float.floatToIntBits -/
theorem lw_ofWF {l : Launch} {y : MethodName} {ws ws' : List Cond} {rm : Room} {Pc : Array Value → State → Prop} {Qc : Array Value → State → Outcome → State → Prop} {XC : String → State → State → Prop} {mc ms : Nat} {free : Addr → Prop} {cc : ByteArray} {maxL : Nat} {ret : Option FieldType}
    (hy : plainFor y = true) (hw : ws = Cond.code y cc maxL ret :: ws')
    (body : ∀ p e s m args below meth c s₁, BodyLoose p l y (headSpec ws rm) cc maxL ret e s m args below meth c s₁ → c.maxLocals = maxL → (∀ x ∈ c.exceptionTable.toList, False) → Pc args s →
      W p l e (headSpec ws rm).room s m args below meth c s.heap [] 0 0 (vx_MQ below Qc XC args s mc ms free) (entryFrame m args maxL)) : vx_Met l y ws rm Pc Qc XC mc ms free := by
  refine MetFree.of_bodySF (code := cc) (maxLocals := maxL) (ret := ret) hy ?_ ?_
  · intro args s m h hn
    obtain ⟨meth, c, h1, h2, h3, h4, h5, h6, -, -⟩ := Cond.code_spec hn (atoms_spec (ws := ws) h _ (by rw [hw]; exact List.mem_cons_self))
    exact ⟨meth, c, h1, h2, h3, h4, h5, h6⟩
  · intro p e s m args below meth c s₁ B hml hP _
    have hh0 : s₁.heap = s.heap := by rw [B.state]; rfl
    have ht : ∀ x ∈ c.exceptionTable.toList, False := by
      obtain ⟨meth9, c9, h1, h2, -, -, -, -, h7, -⟩ := Cond.code_spec B.named (atoms_spec (ws := ws) B.pre _ (by rw [hw]; exact List.mem_cons_self))
      cases Option.some.inj (h1.symm.trans B.method)
      cases Option.some.inj (h2.symm.trans (Stand.of_body B).code)
      intro x hx
      rw [Array.isEmpty_iff.mp h7] at hx
      cases hx
    obtain ⟨t, a1, o, b1, b2, b3⟩ := body p e s m args below meth c s₁ B hml ht hP s₁ hh0 (Stand.of_body B)
    exact ⟨t, o, a1, b1, b2, b3⟩
theorem Cm.ofF {l : Launch} {x : CX} {M : MD} {d mc ms : Nat} {a : List Value} {h : PH} {Q : Option Value → PH → Prop} {X : String → PH → Prop} (hy : plainFor M.1 = true) (hle : (lg_sl a).length ≤ M.2.2.1) (hG : Gm l x M d 0 (lv_args 0 a) [] h mc ms (hN h) Q X) : Cm l x M d mc ms a h Q X := by
  intro hx ad
  refine lw_ofWF (cc := M.2.1) (maxL := M.2.2.1) (ret := M.2.2.2) hy rfl ?_
  intro p e s m args below meth c s₁ B hml hT hv
  obtain ⟨rfl, hw, hwv⟩ := hv
  have hts := atoms_spec (ws := Cond.code M.1 M.2.1 M.2.2.1 M.2.2.2 :: BIG) B.pre
  have hB : Bd M p s m (a.map (rv (xS x) ad)).toArray meth c := ⟨B.exec, B.bytes, B.returns, hml, fun w h => hts w (List.mem_cons_of_mem _ h), findClass_of_methodNamed B.named, B.notSynchronized, (name_of_methodNamed B.named B.method).1, hT⟩
  have hl := lv_entry (a.map (rv (xS x) ad)) (n := M.2.2.1) (by rw [lg_len]; exact hle)
  rw [lg_entry_eq]
  generalize (lg_sl (a.map (rv (xS x) ad)) ++ List.replicate (M.2.2.1 - (lg_sl (a.map (rv (xS x) ad))).length) Slot.unset).toArray = ls at hl ⊢
  rw [lv_args_rv] at hl
  exact hG hx p e _ s m _ below meth c s.heap [] 0 0 mc ms ls ad ad hB (Nat.le_refl d) (Nat.le_refl (41 * d)) (by show 0 + mc ≤ mc; omega) (by show 0 + ms ≤ ms; omega) (by omega) (by omega) hw.2.2.2.2.1 hw va_S.rf (fun _ _ => rfl) (Nat.le_refl _) (wvl_args a 0 hwv) (fun _ hq => absurd hq List.not_mem_nil) hl
theorem c_isNaN {l : Launch} {x : CX} {a : UInt32} {g : PH} (ha : Fok a) : CI l x mJxf58ca_isNaN_12338 0 0 0 [.float a] g (fun r h' => r = 0 ∧ h' = g) := by
  have e : (if (Op.cmpValue (FP.fcmp a a) .l) = 0 then 0 else 1 : Int32) = 0 := by rw [fcmp_self ha]; rfl
  exact Cm.ofF (by decide +kernel) (Nat.le_of_ble_eq_true rfl) (vJxf58ca_isNaN_12338_0 ⟨Or.inl e, _, rfl, e, rfl⟩)
theorem fbits (l : Launch) (x : CX) : FBits l x := by
  intro a g ha
  refine Cm.ofF (by decide +kernel) (Nat.le_of_ble_eq_true rfl) (vJxf58ca_floatToIntBits_5c35a_0 ⟨_, c_isNaN ha, ?_⟩)
  rintro _ _ ⟨rfl, rfl⟩
  exact ⟨fun e => absurd rfl e, fun _ => ⟨_, rfl, rfl, rfl⟩⟩
