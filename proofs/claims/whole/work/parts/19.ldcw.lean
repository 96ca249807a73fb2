/-! a float constant by a wide index (follows va_ldcwI of the kit) -/
section Ldcw
variable {p : Program} {l : Launch} {e : Env} {R : Room} {s : State} {m : MethodId} {args : Array Value} {below : List Frame} {meth : Method} {c : Code} {H : Heap} {locs : List Loc} {cells slots : Nat} {Q : State → Prop} {cc : ByteArray} {pc : Nat} {ls : Array Slot} {rest : List Value}
theorem lw_ldcwF {T : State} (X : Stand p l e R s m args below meth c T locs cells slots) (hexec : p.tables.exec = Jvm.exec) {own : String} {index : Nat} {v : UInt32} (hown : s.vm.findClass own = some m.cls)
    (hconst : (Cond.constantFloat own index v).before args s = true) {g : JFrame} (hg : g.method = m) (hdg : decode c.code g.pc = .ok (.ldc_w index, 3)) :
    ∀ target, Steps p.tables e below (T.setTop { g with pc := g.pc + 3, stack := .float v :: g.stack }) target → Steps p.tables e below (T.setTop g) target := by
  obtain ⟨k, cf, hk, hcf, hcp⟩ := Cond.constantFloat_spec hown hconst
  obtain ⟨k', hk', he⟩ := X.warmed.alike.2.2 _ _ hk
  intro target hrest
  subst hg
  jvm_step X.here [hexec, hdg, ldc_w.wp_float (s := T) (f := g) X.here.top hk' (by rw [he]; exact hcf) hcp]
  exact hrest
theorem lw_ldcwf (hexec : p.tables.exec = Jvm.exec) (hb : c.code = cc) {own : String} {index : Nat} {v : UInt32} (hown : s.vm.findClass own = some m.cls) (hconst : (Jvm.Cond.constantFloat own index v).before args s = true) (hdg : decode cc pc = .ok (.ldc_w index, 3)) (k : W p l e R s m args below meth c H locs cells slots Q (F0 m (pc + 3) ls (.float v :: rest))) : W p l e R s m args below meth c H locs cells slots Q (F0 m pc ls rest) := by
  intro T hT X
  obtain ⟨t, a, b⟩ := k T hT X
  exact ⟨t, lw_ldcwF X hexec hown hconst (g := F0 m pc ls rest) rfl (by rw [hb]; exact hdg) t a, b⟩
end Ldcw
theorem g_ldcwf {l : Launch} {x : CX} {M : MD} {d pc : Nat} {lv : List (Nat × Value)} {st : List Value} {h : PH} {rc rs n0 : Nat} {Q : Option Value → PH → Prop} {X : String → PH → Prop} {n : Nat} {v : UInt32} (hd : decode M.2.1 pc = .ok (.ldc_w n, 3)) (hw : Cond.constantFloat M.1.cls n v ∈ BIG) (k : Gm l x M d (pc + 3) lv (.float v :: st) h rc rs n0 Q X) : Gm l x M d pc lv st h rc rs n0 Q X :=
  Gm.go1 (fun _ hs => hs.cons (wv_float _ _)) (fun hB _ k => lw_ldcwf hB.1 hB.2.1 hB.2.2.2.2.2.1 (big_at hB hw) hd k) k
