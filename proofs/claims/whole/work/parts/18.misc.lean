/-! ROWS, EIGHTH PART: the root's constructor, texts, the JDK's small ones, throws, the script -/
theorem va_P.grow {D : va_G} {cl : List vw_C} {ws : va_W} {H H1 : Heap} (hq : ∀ q : Nat, q < H.size → H1[q]? = H[q]?) (hP : va_P D cl ws H) : va_P D cl ws H1 := by
  intro k q hk
  have h9 := hP k q hk
  obtain ⟨a, E⟩ := q
  cases E with
  | inl a9 =>
    have h8 : H[a]? = some (vp_cell a9.1 a9.2) := h9
    show H1[a]? = some (vp_cell a9.1 a9.2)
    rw [hq a (Array.getElem?_eq_some_iff.mp h8).1]
    exact h8
  | inr o9 =>
    obtain ⟨r, hr, hO⟩ := (show ∃ r : vw_C, cl[o9.1]? = some r ∧ t_OB a (D.1 o9.1) r.2.2 (D.2 o9.1) H (vp_V o9.2) from h9)
    refine ⟨r, hr, hO.kept ?_⟩
    obtain ⟨cell, hc, -⟩ := hO
    exact hq a (Array.getElem?_eq_some_iff.mp hc).1
section Rows8
variable {l : Launch} {x : CX} {M : MD} {d pc : Nat} {lv : List (Nat × Value)} {st : List Value} {h : PH} {rc rs n0 : Nat} {Q : Option Value → PH → Prop} {X : String → PH → Prop}
theorem g_objInit {idx a : Nat} (hd : decode M.2.1 pc = .ok (.invokespecial idx, 3)) (w0 : Cond.methodLink M.1.cls idx Lib.objectInit ∈ BIG) (w1 : Cond.instanceMethod Lib.objectInit ∈ BIG) (w2 : Cond.code Lib.objectInit ⟨#[0xb1]⟩ 1 none ∈ BIG) (hdd : 1 ≤ d) (hcat : (st.map fun v => v.category).sum ≤ 8) (kk : Gm l x M d (pc + 3) lv st h rc rs n0 Q X) : Gm l x M d pc lv (.ref a :: st) h rc rs n0 Q X := by
  intro hx p e R s m args below meth co H locs cells slots mc ms ls ad ad0 hB h1 h2 h3 h4 h5 h6 hb hw hS ha hn hl hs hlv
  refine W.objInit (g := F0 m pc ls (.ref (ad a) :: st.map (rv (xS x) ad))) hB.1 hB.2.1 hB.2.2.2.2.2.1 (big_at hB w0) (big_at hB w1) (big_at hB w2) rfl (hlv.1.trans hB.2.2.2.1.symm) rfl hd (by omega) ?_ ?_
  · have := lv_room (m := m) (pc := pc) (ls := ls) (rest := st.map (rv (xS x) ad)) (st := st.map (rv (xS x) ad)) (by rw [rvs_cat]; exact hcat)
    have h41 : 41 * 1 ≤ 41 * d := Nat.mul_le_mul_left 41 hdd
    have e0 : 2 * (F0 m pc ls (.ref (ad a) :: st.map (rv (xS x) ad))).monitorRoom = 2 * (F0 m pc ls (st.map (rv (xS x) ad))).monitorRoom := rfl
    omega
  · exact kk hx p e R s m args below meth co H locs cells slots mc ms ls ad ad0 hB h1 h2 h3 h4 h5 h6 hb hw hS ha hn hl hs.tail hlv
theorem g_ldcS {idx j : Nat} {tx : String} (hd : decode M.2.1 pc = .ok (.ldc idx, 2)) (hz : ∀ U H, xZ x U H → vk_R M.1.cls idx tx (xS x j) U) (kk : Gm l x M d (pc + 2) lv (.retAddr j :: st) h rc rs n0 Q X) : Gm l x M d pc lv st h rc rs n0 Q X := by
  intro hx p e R s m args below meth co H locs cells slots mc ms ls ad ad0 hB h1 h2 h3 h4 h5 h6 hb hw hS ha hn hl hs hlv
  exact va_ldcS hB.1 hB.2.1 hB.2.2.2.2.2.1 (hz s H hw.2.2.2.2.2) hd (kk hx p e R s m args below meth co H locs cells slots mc ms ls ad ad0 hB h1 h2 h3 h4 h5 h6 hb hw hS ha hn hl (hs.cons (wv_txt _ _)) hlv)
theorem g_sast {a j : Nat} {i : Int32} (hd : decode M.2.1 pc = .ok (.aastore, 1)) (hz : ∀ U H, xZ x U H → va_Any "java/lang/String" U H (xS x j)) (hK' : (hK h a).1 = 108) (hi : vp_in i (hK h a).2) (kk : Gm l x M d (pc + 1) lv st (sR h a i.toNatClampNeg (some j)) rc rs n0 Q X) : Gm l x M d pc lv (.retAddr j :: .int i :: .ref a :: st) h rc rs n0 Q X := by
  intro hx p e R s m args below meth co H locs cells slots mc ms ls ad ad0 hB h1 h2 h3 h4 h5 h6 hb hw hS ha hn hl hs hlv
  refine va_astqM (E := "java/lang/String") hB.1 hB.2.1 hw.1 hw.2.1 hw.2.2.1 hS a 8 (cA := xA x 8) (n := (hK h a).2) (v := xS x j) (f := fun j => (hR h a j).map (xS x)) (by rw [ws_at (hs.tail.tail.head a rfl), ce_row (t := 8) hK']; rfl) rfl (hz s H hw.2.2.2.2.2) hi hd ?_
  refine st_go (h := h) (h' := sR h a i.toNatClampNeg (some j)) (E := fun cA sa _ => .inl (cA 8, (hK h a).2, .inr (.inr (.inr (.inr (va_up (fun j => (hR h a j).map sa) i.toNatClampNeg (some (sa j)))))))) rfl (fun _ => rfl) (fun _ _ _ => rfl) (fun _ _ _ => rfl) (fun _ _ _ => rfl) ?_ ?_ (fun hwf => ⟨hwf.1, fun c j' b e hk => ?_⟩) kk hx hB h1 h2 h3 h4 h5 h6 hb hw hS ha hn hl hs.tail.tail.tail hlv
  · intro b j hb; simp [hR_sR, hb]
  · intro cA sa ad
    rw [ce_row (t := 8) (h := sR h a i.toNatClampNeg (some j)) (by rw [hK_sR]; exact hK'), hK_sR]
    show Sum.inl (cA 8, (hK h a).2, Sum.inr (Sum.inr (Sum.inr (Sum.inr (fun j' => (hR (sR h a i.toNatClampNeg (some j)) a j').map sa))))) = _
    have e2 : (fun j' => (hR (sR h a i.toNatClampNeg (some j)) a j').map sa) = va_up (fun j => (hR h a j).map sa) i.toNatClampNeg (some (sa j)) := by
      funext j'
      simp only [hR_sR, va_up, and_true]
      by_cases hj : j' = i.toNatClampNeg
      · rw [if_pos hj, if_pos hj]; rfl
      · rw [if_neg hj, if_neg hj]
    rw [e2]
  · rw [hK_sR] at hk
    rw [hR_sR] at e
    by_cases hc : j' = i.toNatClampNeg ∧ c = a
    · exact absurd (by rw [hc.2]; exact hK') hk
    · rw [if_neg hc] at e; exact hwf.2 c j' b e hk
theorem room13 {R : Room} (hdd : 1 ≤ d) (h2 : 41 * d ≤ R.locals) {sa ad : Nat → Nat} (hcat : (st.map fun v => v.category).sum ≤ 8) : ((st.map (rv sa ad)).map fun v => v.category).sum + 15 ≤ R.locals := by
  rw [rvs_cat]
  omega
theorem g_min {idx : Nat} {a b : Int32} (hd : decode M.2.1 pc = .ok (.invokestatic idx, 3)) (w0 : Cond.methodLink M.1.cls idx Lib.Math.min.name ∈ BIG) (w1 : Cond.static Lib.Math.min.name ∈ BIG) (w2 : Cond.initialized "java/lang/Math" ∈ BIG) (w3 : Cond.code Lib.Math.min.name Lib.Math.min.code 2 (some .int) ∈ BIG) (hdd : 1 ≤ d) (hcat : (st.map fun v => v.category).sum ≤ 8) (kk : Gm l x M d (pc + 3) lv (.int (if b < a then b else a) :: st) h rc rs n0 Q X) : Gm l x M d pc lv (.int b :: .int a :: st) h rc rs n0 Q X := by
  intro hx p e R s m args below meth co H locs cells slots mc ms ls ad ad0 hB h1 h2 h3 h4 h5 h6 hb hw hS ha hn hl hs hlv
  have hr := room13 (st := st) (sa := xS x) (ad := ad) hdd h2 hcat
  exact va_mmin hB.1 hB.2.1 (hB.2.2.2.1.trans hlv.1.symm) hB.2.2.2.2.2.1 (big_at hB w0) (big_at hB w1) (big_at hB w2) (big_at hB w3) (by omega) (by omega) (by omega) (by omega) hd (kk hx p e R s m args below meth co H locs cells slots mc ms ls ad ad0 hB h1 h2 h3 h4 h5 h6 hb hw hS ha hn hl (hs.tail.tail.cons (wv_int _ _)) hlv)
theorem g_max {idx : Nat} {a b : Int32} (hd : decode M.2.1 pc = .ok (.invokestatic idx, 3)) (w0 : Cond.methodLink M.1.cls idx Lib.Math.max.name ∈ BIG) (w1 : Cond.static Lib.Math.max.name ∈ BIG) (w2 : Cond.initialized "java/lang/Math" ∈ BIG) (w3 : Cond.code Lib.Math.max.name Lib.Math.max.code 2 (some .int) ∈ BIG) (hdd : 1 ≤ d) (hcat : (st.map fun v => v.category).sum ≤ 8) (kk : Gm l x M d (pc + 3) lv (.int (if a < b then b else a) :: st) h rc rs n0 Q X) : Gm l x M d pc lv (.int b :: .int a :: st) h rc rs n0 Q X := by
  intro hx p e R s m args below meth co H locs cells slots mc ms ls ad ad0 hB h1 h2 h3 h4 h5 h6 hb hw hS ha hn hl hs hlv
  have hr := room13 (st := st) (sa := xS x) (ad := ad) hdd h2 hcat
  exact va_mmax hB.1 hB.2.1 (hB.2.2.2.1.trans hlv.1.symm) hB.2.2.2.2.2.1 (big_at hB w0) (big_at hB w1) (big_at hB w2) (big_at hB w3) (by omega) (by omega) (by omega) (by omega) hd (kk hx p e R s m args below meth co H locs cells slots mc ms ls ad ad0 hB h1 h2 h3 h4 h5 h6 hb hw hS ha hn hl (hs.tail.tail.cons (wv_int _ _)) hlv)
theorem g_abs {idx : Nat} {a : Int32} (hd : decode M.2.1 pc = .ok (.invokestatic idx, 3)) (w0 : Cond.methodLink M.1.cls idx Lib.Math.abs.name ∈ BIG) (w1 : Cond.static Lib.Math.abs.name ∈ BIG) (w2 : Cond.initialized "java/lang/Math" ∈ BIG) (w3 : Cond.code Lib.Math.abs.name Lib.Math.abs.code 1 (some .int) ∈ BIG) (hdd : 1 ≤ d) (hcat : (st.map fun v => v.category).sum ≤ 8) (kk : Gm l x M d (pc + 3) lv (.int (if 0 ≤ a then a else 0 - a) :: st) h rc rs n0 Q X) : Gm l x M d pc lv (.int a :: st) h rc rs n0 Q X := by
  intro hx p e R s m args below meth co H locs cells slots mc ms ls ad ad0 hB h1 h2 h3 h4 h5 h6 hb hw hS ha hn hl hs hlv
  have hr := room13 (st := st) (sa := xS x) (ad := ad) hdd h2 hcat
  exact va_mabs hB.1 hB.2.1 (hB.2.2.2.1.trans hlv.1.symm) hB.2.2.2.2.2.1 (big_at hB w0) (big_at hB w1) (big_at hB w2) (big_at hB w3) (by omega) (by omega) (by omega) (by omega) hd (kk hx p e R s m args below meth co H locs cells slots mc ms ls ad ad0 hB h1 h2 h3 h4 h5 h6 hb hw hS ha hn hl (hs.tail.cons (wv_int _ _)) hlv)
theorem g_f2ib {idx : Nat} {b : UInt32} (hd : decode M.2.1 pc = .ok (.invokestatic idx, 3)) (w0 : Cond.methodLink M.1.cls idx ⟨"java/lang/Float", "floatToRawIntBits", "(F)I"⟩ ∈ BIG) (w1 : Cond.native ⟨"java/lang/Float", "floatToRawIntBits", "(F)I"⟩ ∈ BIG) (w2 : Cond.static ⟨"java/lang/Float", "floatToRawIntBits", "(F)I"⟩ ∈ BIG) (w3 : Cond.initialized "java/lang/Float" ∈ BIG) (hdd : 1 ≤ d) (hcat : (st.map fun v => v.category).sum ≤ 8) (kk : Gm l x M d (pc + 3) lv (.int b.toInt32 :: st) h rc rs n0 Q X) : Gm l x M d pc lv (.float b :: st) h rc rs n0 Q X := by
  intro hx p e R s m args below meth co H locs cells slots mc ms ls ad ad0 hB h1 h2 h3 h4 h5 h6 hb hw hS ha hn hl hs hlv
  exact vn_f2i hB.1 hB.2.1 (hB.2.2.2.1.trans hlv.1.symm) hB.2.2.2.2.2.1 (big_at hB w0) (big_at hB w1) (big_at hB w2) (big_at hB w3) (by omega) (room13 hdd h2 hcat) hd (kk hx p e R s m args below meth co H locs cells slots mc ms ls ad ad0 hB h1 h2 h3 h4 h5 h6 hb hw hS ha hn hl (hs.tail.cons (wv_int _ _)) hlv)
theorem g_i2fb {idx : Nat} {b : Int32} (hd : decode M.2.1 pc = .ok (.invokestatic idx, 3)) (w0 : Cond.methodLink M.1.cls idx ⟨"java/lang/Float", "intBitsToFloat", "(I)F"⟩ ∈ BIG) (w1 : Cond.native ⟨"java/lang/Float", "intBitsToFloat", "(I)F"⟩ ∈ BIG) (w2 : Cond.static ⟨"java/lang/Float", "intBitsToFloat", "(I)F"⟩ ∈ BIG) (w3 : Cond.initialized "java/lang/Float" ∈ BIG) (hv : vn_sni2f b = false) (hdd : 1 ≤ d) (hcat : (st.map fun v => v.category).sum ≤ 8) (kk : Gm l x M d (pc + 3) lv (.float b.toUInt32 :: st) h rc rs n0 Q X) : Gm l x M d pc lv (.int b :: st) h rc rs n0 Q X := by
  intro hx p e R s m args below meth co H locs cells slots mc ms ls ad ad0 hB h1 h2 h3 h4 h5 h6 hb hw hS ha hn hl hs hlv
  exact vn_i2f hB.1 hB.2.1 (hB.2.2.2.1.trans hlv.1.symm) hB.2.2.2.2.2.1 (big_at hB w0) (big_at hB w1) (big_at hB w2) (big_at hB w3) hv (by omega) (room13 hdd h2 hcat) hd (kk hx p e R s m args below meth co H locs cells slots mc ms ls ad ad0 hB h1 h2 h3 h4 h5 h6 hb hw hS ha hn hl (hs.tail.cons (wv_float _ _)) hlv)
theorem Z_at {s : State} {H : Heap} {locs : List Loc} (hx : CXok l x) (hb : xB x ≤ s.heap.size) (hS : va_S (Aw x) s.heap H locs) (hz : xZ x s H) : xZ x s s.heap := Z_kept hx hb hS va_S.rf hz
theorem g_sld {L : Nat} {xs : Nat → Int32} {i : Int32} (hd : decode M.2.1 pc = .ok (.iaload, 1)) (hz : ∀ U H, xZ x U H → va_X (xS x 999) L xs U H ∧ xS x 999 < xB x) (hi : vp_in i L) (kk : Gm l x M d (pc + 1) lv (.int (xs i.toNatClampNeg) :: st) h rc rs n0 Q X) : Gm l x M d pc lv (.int i :: .retAddr 999 :: st) h rc rs n0 Q X := by
  intro hx p e R s m args below meth co H locs cells slots mc ms ls ad ad0 hB h1 h2 h3 h4 h5 h6 hb hw hS ha hn hl hs hlv
  obtain ⟨z1, z2⟩ := hz s s.heap (Z_at hx hb hS hw.2.2.2.2.2)
  exact va_sld hB.1 hB.2.1 z1 (Nat.lt_of_lt_of_le z2 hb) (fun q => Nat.lt_irrefl _ (Nat.lt_of_lt_of_le z2 q)) hS hi hd (kk hx p e R s m args below meth co H locs cells slots mc ms ls ad ad0 hB h1 h2 h3 h4 h5 h6 hb hw hS ha hn hl (hs.tail.tail.cons (wv_int _ _)) hlv)
theorem g_slen {L : Nat} {xs : Nat → Int32} (hd : decode M.2.1 pc = .ok (.arraylength, 1)) (hz : ∀ U H, xZ x U H → va_X (xS x 999) L xs U H ∧ xS x 999 < xB x) (kk : Gm l x M d (pc + 1) lv (.int (Int32.ofNat L) :: st) h rc rs n0 Q X) : Gm l x M d pc lv (.retAddr 999 :: st) h rc rs n0 Q X := by
  intro hx p e R s m args below meth co H locs cells slots mc ms ls ad ad0 hB h1 h2 h3 h4 h5 h6 hb hw hS ha hn hl hs hlv
  obtain ⟨z1, z2⟩ := hz s s.heap (Z_at hx hb hS hw.2.2.2.2.2)
  exact va_slen hB.1 hB.2.1 z1 (Nat.lt_of_lt_of_le z2 hb) (fun q => Nat.lt_irrefl _ (Nat.lt_of_lt_of_le z2 q)) hS hd (kk hx p e R s m args below meth co H locs cells slots mc ms ls ad ad0 hB h1 h2 h3 h4 h5 h6 hb hw hS ha hn hl (hs.tail.cons (wv_int _ _)) hlv)
/-- new E("text"), thrown at once -/
theorem g_throw {cls text : String} {names : List String} {ik is ic : Nat} (hcls : Bundle.fit cls = true) (hnames : ∀ n ∈ names, Bundle.fit n = true) (w0 : Cond.classLink M.1.cls ik cls ∈ BIG) (w1 : Cond.initialized cls ∈ BIG) (hz : ∀ U H, xZ x U H → (∃ a, vk_R M.1.cls is text a U) ∧ (∀ w ∈ vx_aT M.1.cls ic cls names, w.before #[] U = true) ∧ vx_Zq Bundle.tN "UNASSIGNED_STACK" Bundle.steD (Aw x) U H ∧ vx_Zq Bundle.tN "SUPPRESSED_SENTINEL" Bundle.listD (Aw x) U H)
    (hots : ∀ w ∈ vx_aT M.1.cls ic cls names, vx_ot w = true)
    (d0 : decode M.2.1 pc = .ok (.new ik, 3)) (d3 : decode M.2.1 (pc + 3) = .ok (.dup, 1)) (d4 : decode M.2.1 (pc + 4) = .ok (.ldc is, 2)) (d6 : decode M.2.1 (pc + 6) = .ok (.invokespecial ic, 3)) (d9 : decode M.2.1 (pc + 9) = .ok (.athrow, 1))
    (hdd : names.length + 4 ≤ d) (hcat : (st.map fun v => v.category).sum ≤ 8) (hrc : 1 ≤ rc) (hrs : 6 ≤ rs) (hq : X cls h) : Gm l x M d pc lv st h rc rs n0 Q X := by
  intro hx p e R s m args below meth co H locs cells slots mc ms ls ad ad0 hB h1 h2 h3 h4 h5 h6 hb hw hS ha hn hl hs hlv
  obtain ⟨⟨sa, z1⟩, z2, z3, z4⟩ := hz s s.heap (Z_at hx hb hS hw.2.2.2.2.2)
  have hgood : ∀ w ∈ Cond.classLink M.1.cls ik cls :: Cond.initialized cls :: vx_aT M.1.cls ic cls names, vx_ot w = true := by
    intro w hw
    rcases List.mem_cons.mp hw with rfl | hw
    · simp only [vx_ot, (List.mem_filter.mp w0).2, Bool.or_true]
    · rcases List.mem_cons.mp hw with rfl | hw
      · simp only [vx_ot, (List.mem_filter.mp w1).2, Bool.or_true]
      · exact hots w hw
  refine vx_throwX hB.1 hB.2.1 hx.1 (crx_0 cls) (crx_1 cls) (crx_2 cls) (crx_5 cls) hB.2.2.2.2.2.1 hcls hnames (big_at hB w0) (big_at hB w1) z1 (fun w hw => ?_) hgood z3 z4 hS (hlv.1.trans hB.2.2.2.1.symm) d0 d3 d4 d6 d9 (fun z hz => (hB.2.2.2.2.2.2.2.2 z hz).elim) (by omega) ?_ (by omega) (by omega) hB.2.2.2.2.2.2.1 ?_ hS.2.2 (by omega) (by omega)
  · exact vx_ot_at (s := s) (U := s) (args := #[]) (State.WarmedH.refl s) rfl (hots w hw) (z2 w hw)
  · rw [rvs_cat]
    omega
  · intro t hal hsz hq9
    refine ⟨⟨h, ad, hq, ha, hn, va_P.grow hq9 hw.2.1, hw.2.2.1, hw.2.2.2.1, Nat.le_trans hw.2.2.2.2.1 hsz⟩, Nat.le_trans hS.1 hsz, fun q q1 q2 => ?_⟩
    rw [hq9 q (Nat.lt_of_lt_of_le q1 hS.1)]
    exact hS.2.1 q q1 q2
/-- the same, the text by a wide constant -/
theorem g_throwW {cls text : String} {names : List String} {ik is ic : Nat} (hcls : Bundle.fit cls = true) (hnames : ∀ n ∈ names, Bundle.fit n = true) (w0 : Cond.classLink M.1.cls ik cls ∈ BIG) (w1 : Cond.initialized cls ∈ BIG) (hz : ∀ U H, xZ x U H → (∃ a, vk_R M.1.cls is text a U) ∧ (∀ w ∈ vx_aT M.1.cls ic cls names, w.before #[] U = true) ∧ vx_Zq Bundle.tN "UNASSIGNED_STACK" Bundle.steD (Aw x) U H ∧ vx_Zq Bundle.tN "SUPPRESSED_SENTINEL" Bundle.listD (Aw x) U H)
    (hots : ∀ w ∈ vx_aT M.1.cls ic cls names, vx_ot w = true)
    (d0 : decode M.2.1 pc = .ok (.new ik, 3)) (d3 : decode M.2.1 (pc + 3) = .ok (.dup, 1)) (d4 : decode M.2.1 (pc + 4) = .ok (.ldc_w is, 3)) (d6 : decode M.2.1 (pc + 7) = .ok (.invokespecial ic, 3)) (d9 : decode M.2.1 (pc + 10) = .ok (.athrow, 1))
    (hdd : names.length + 4 ≤ d) (hcat : (st.map fun v => v.category).sum ≤ 8) (hrc : 1 ≤ rc) (hrs : 6 ≤ rs) (hq : X cls h) : Gm l x M d pc lv st h rc rs n0 Q X := by
  intro hx p e R s m args below meth co H locs cells slots mc ms ls ad ad0 hB h1 h2 h3 h4 h5 h6 hb hw hS ha hn hl hs hlv
  obtain ⟨⟨sa, z1⟩, z2, z3, z4⟩ := hz s s.heap (Z_at hx hb hS hw.2.2.2.2.2)
  have hgood : ∀ w ∈ Cond.classLink M.1.cls ik cls :: Cond.initialized cls :: vx_aT M.1.cls ic cls names, vx_ot w = true := by
    intro w hw
    rcases List.mem_cons.mp hw with rfl | hw
    · simp only [vx_ot, (List.mem_filter.mp w0).2, Bool.or_true]
    · rcases List.mem_cons.mp hw with rfl | hw
      · simp only [vx_ot, (List.mem_filter.mp w1).2, Bool.or_true]
      · exact hots w hw
  refine vx_throwXW hB.1 hB.2.1 hx.1 (crx_0 cls) (crx_1 cls) (crx_2 cls) (crx_5 cls) hB.2.2.2.2.2.1 hcls hnames (big_at hB w0) (big_at hB w1) z1 (fun w hw => ?_) hgood z3 z4 hS (hlv.1.trans hB.2.2.2.1.symm) d0 d3 d4 d6 d9 (fun z hz => (hB.2.2.2.2.2.2.2.2 z hz).elim) (by omega) ?_ (by omega) (by omega) hB.2.2.2.2.2.2.1 ?_ hS.2.2 (by omega) (by omega)
  · exact vx_ot_at (s := s) (U := s) (args := #[]) (State.WarmedH.refl s) rfl (hots w hw) (z2 w hw)
  · rw [rvs_cat]
    omega
  · intro t hal hsz hq9
    refine ⟨⟨h, ad, hq, ha, hn, va_P.grow hq9 hw.2.1, hw.2.2.1, hw.2.2.2.1, Nat.le_trans hw.2.2.2.2.1 hsz⟩, Nat.le_trans hS.1 hsz, fun q q1 q2 => ?_⟩
    rw [hq9 q (Nat.lt_of_lt_of_le q1 hS.1)]
    exact hS.2.1 q q1 q2
end Rows8
