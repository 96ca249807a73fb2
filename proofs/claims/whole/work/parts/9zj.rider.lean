/-! THE REFERENCE READS A TEXT: a rider -/
section Rider
variable {l : Launch} {x : CX} {mo : Nat} {g h : PH} {tp : Nat → Int32} {n : Nat} {d : PD} {cl b : Nat} {rc rs n0 : Nat} {Q : Option Value → PH → Prop} {X : String → PH → Prop}
theorem l_ri170B {u k : Int32} (w : GT mo tp n g) (S : SBD mo g h k b) (K : ∀ h', SBD mo g h' k b → Q none h') : Gm l x mX8_readRider 7 170 [(0, .ref mo), (1, .int u)] [] h rc rs n0 Q X := by
  have r5 := (w.sg S.1).1.row 5 5 7 (by decide)
  have v1 : vp_in 2 (hK h (mo + 5)).2 := by rw [r5.2.2]; exact vp_in_nI (n := 2) (by decide) (by decide)
  exact wX8_readRider_170 ⟨(w.sg S.1).1.1, mo + 5, r5.1, r5.2.1, v1, v1, K _ (S.row (Or.inl rfl))⟩
theorem l_ri118B {k : Int32} {m : Nat} (hm : m < 77) (w : GT mo tp n g) (xn : XN x) (S : SBD mo g h k b) (K : ∀ h', SBD mo g h' k b → Q none h') : Gm l x mX8_readRider 7 118 [(0, .ref mo), (1, .int (nI m))] [] h rc rs n0 Q X := by
  have r9 := (w.sg S.1).1.row 9 9 80 (by decide)
  refine wX8_readRider_118 ⟨(w.sg S.1).1.1, fun _ => wX8_readRider_129 ⟨(w.sg S.1).1.1, mo + 9, r9.1, xn.tx_RX8_184, _, c_isB S w, ?_⟩, fun z => absurd (S.2.1.symm.trans z) S.2.2.1⟩
  rintro _ h7 ⟨rfl, eh⟩
  obtain rfl := eh.symm
  refine ⟨r9.2.1, by rw [r9.2.2]; exact vp_in_nI (by omega) (by decide), ?_⟩
  have S17 := S.row (a := mo + 9) (j := (nI m).toNatClampNeg) (v := (if (0 : Int32) = 0 then 1 else 2 : Int32)) (Or.inr (Or.inr rfl))
  exact wX8_readRider_149 ⟨(w.sg S17.1).1.1, fun _ => l_ri170B w S17 K, fun z => absurd (S17.2.1.symm.trans z) S17.2.2.1⟩
theorem l_ri75B {k : Int32} {m : Nat} (hm : m < 77) (w : GT mo tp n g) (xn : XN x) (S : SBD mo g h k b) (K : ∀ h', SBD mo g h' k b → Q none h') : Gm l x mX8_readRider 7 75 [(0, .ref mo), (1, .int (nI m))] [] h rc rs n0 Q X := by
  have r9 := (w.sg S.1).1.row 9 9 80 (by decide)
  refine wX8_readRider_75 ⟨(w.sg S.1).1.1, mo + 9, r9.1, _, c_floorNowB S w, fun r7 h6 S6 => ?_⟩
  have r9 := (w.sg S6.1).1.row 9 9 80 (by decide)
  have S7 := S6.row (a := mo + 9) (j := (nI m + 3).toNatClampNeg) (v := r7) (Or.inr (Or.inr rfl))
  exact ⟨r9.2.1, by rw [r9.2.2, show nI m + 3 = nI (m + 3) from nI_add m 3]; exact vp_in_nI (by omega) (by decide), (w.sg S6.1).1.1, fun _ => l_ri118B hm w xn S7 K, fun z => absurd (S7.2.1.symm.trans z) S7.2.2.1⟩
theorem l_ri52B {k : Int32} {m : Nat} (hm : m < 77) (w : GT mo tp n g) (xn : XN x) (S : SBD mo g h k b) (K : ∀ h', SBD mo g h' k b → Q none h') : Gm l x mX8_readRider 7 52 [(0, .ref mo), (1, .int (nI m))] [] h rc rs n0 Q X := by
  have r9 := (w.sg S.1).1.row 9 9 80 (by decide)
  refine wX8_readRider_52 ⟨(w.sg S.1).1.1, mo + 9, r9.1, _, c_floorNowB S w, fun r7 h6 S6 => ?_⟩
  have r9 := (w.sg S6.1).1.row 9 9 80 (by decide)
  have S7 := S6.row (a := mo + 9) (j := (nI m + 2).toNatClampNeg) (v := r7) (Or.inr (Or.inr rfl))
  exact ⟨r9.2.1, by rw [r9.2.2, show nI m + 2 = nI (m + 2) from nI_add m 2]; exact vp_in_nI (by omega) (by decide), (w.sg S6.1).1.1, fun _ => l_ri75B hm w xn S7 K, fun z => absurd (S7.2.1.symm.trans z) S7.2.2.1⟩
theorem l_ri170 {u : Int32} {m : Nat} (w : GT mo tp n g) (S : SOK mo tp n g h d cl b) (e1 : d.1 2 = nI m) (K : ∀ h', SOK mo tp n g h' (pd5 d 2 (nI (m + 1))) cl b → Q none h') : Gm l x mX8_readRider 7 170 [(0, .ref mo), (1, .int u)] [] h rc rs n0 Q X := by
  have r5 := (w.sg S.1).1.row 5 5 7 (by decide)
  have v1 : vp_in 2 (hK h (mo + 5)).2 := by rw [r5.2.2]; exact vp_in_nI (n := 2) (by decide) (by decide)
  refine wX8_readRider_170 ⟨(w.sg S.1).1.1, mo + 5, r5.1, r5.2.1, v1, v1, K _ ?_⟩
  rw [show hI h (mo + 5) (Int32.toNatClampNeg 2) = nI m from (S.2.2.2.1.1 2).trans e1, nI_1]
  exact S.r5
theorem l_ri149 {m i s : Nat} (hi : i < 80) (w : GT mo tp n g) (S : SOK mo tp n g h d cl b) (e1 : d.1 2 = nI m) (es : d.2.2.1 i = nI s) (hs : s = 1 ∨ s = 2) (K : ∀ h', SOK mo tp n g h' (pd5 d 2 (nI (m + 1))) cl (if s = 1 then b else tokB tp n (tkE tp n b)) → Q none h') : Gm l x mX8_readRider 7 149 [(0, .ref mo), (1, .int (nI i))] [] h rc rs n0 Q X := by
  have r9 := (w.sg S.1).1.row 9 9 80 (by decide)
  refine wX8_readRider_149 ⟨(w.sg S.1).1.1, fun z => absurd S.2.1 z, fun _ => ⟨mo + 9, r9.1, r9.2.1, by rw [r9.2.2]; exact vp_in_nI hi (by decide), ?_⟩⟩
  rw [nI_clamp (by omega), S.2.2.2.1.2.2, es]
  rcases hs with q | q
  · subst q
    exact ⟨fun _ => l_ri170 w S e1 fun h' S' => K h' (by rw [if_pos rfl]; exact S'), fun y => absurd y (by decide)⟩
  · subst q
    exact ⟨fun y => absurd rfl y, fun _ => ⟨_, r_stepOn S w, fun h10 S10 => l_ri170 w S10 e1 fun h' S' => K h' (by rw [if_neg (by decide)]; exact S')⟩⟩
noncomputable def riT (tp : Nat → Int32) (n : Nat) (d : PD) (tm f k e : Nat) : PR := ite' (isW tp n 9 (tokB tp n e)) (sgB tp n (pdR d tm f k 2) (tokB tp n (tkE tp n (tokB tp n e)))) (sgB tp n (pdR d tm f k 1) (tokB tp n e))
noncomputable def riG (tp : Nat → Int32) (n : Nat) (d : PD) (tm f e2 : Nat) : PR := nuC tp n 0 99 e2 fun k b3 e3 => ite' (k < d.2.2.2.2.1) (ite' (k = f) (.inl (5, b3)) (riT tp n d tm f k e3)) (.inl (3, b3))
noncomputable def riF (tp : Nat → Int32) (n : Nat) (d : PD) (tm e1 : Nat) : PR := nuC tp n 0 99 e1 fun f b2 e2 => ite' (f < d.2.2.2.2.1) (riG tp n d tm f e2) (.inl (3, b2))
theorem clRid_eq (z : ¬ d.2.2.2.2.2 = 20) : clRid tp n d b = nuC tp n 0 99 (tkE tp n b) fun tm _ e1 => riF tp n d tm e1 := by
  unfold clRid riF riG riT
  rw [ite'_f z]
/-- the row of riders with time, from, to of the newest -/
def pdT (d : PD) (tm f : Nat) : PD := pd9 (pd9 d (4 * d.2.2.2.2.2 + 1) (nI tm)) (4 * d.2.2.2.2.2 + 2) (nI f)
theorem l_ri75 {tm f : Nat} (w : GT mo tp n g) (xo : XO l x) (h3 : d.2.2.2.2.2 < 20) (t0 : d.1 0 = nI d.2.2.2.2.1) (f12 : d.2.2.2.2.1 ≤ 12) (hf : f < 100) (t2 : d.1 2 = nI d.2.2.2.2.2) (S : SOK mo tp n g h (pdT d tm f) cl (tokB tp n b)) (K : ∀ h', PM mo tp n g cl (riG tp n d tm f b) h' → Q none h') : Gm l x mX8_readRider 7 75 [(0, .ref mo), (1, .int (nI (4 * d.2.2.2.2.2)))] [] h rc rs n0 Q X := by
  have r9 := (w.sg S.1).1.row 9 9 80 (by decide)
  refine wX8_readRider_75 ⟨(w.sg S.1).1.1, mo + 9, r9.1, _, c_floorNow S w (nf := d.2.2.2.2.1) t0 f12, ?_⟩
  rw [show nI (4 * d.2.2.2.2.2) + 3 = nI (4 * d.2.2.2.2.2 + 3) from nI_add _ 3, show nI (4 * d.2.2.2.2.2) + 2 = nI (4 * d.2.2.2.2.2 + 2) from nI_add _ 2, nI_clamp (show 4 * d.2.2.2.2.2 + 3 < 2 ^ 31 by omega), nI_clamp (show 4 * d.2.2.2.2.2 + 2 < 2 ^ 31 by omega)]
  have bad : ∀ {h6 : PH} {k : Int32} {b' : Nat} {v : Int32}, SBD mo g h6 k b' → riG tp n d tm f b = .inl (k, b') → Gm l x mX8_readRider 7 118 [(0, .ref mo), (1, .int (nI (4 * d.2.2.2.2.2)))] [] (sI h6 (mo + 9) (4 * d.2.2.2.2.2 + 3) v) rc rs n0 Q X := fun S6 e =>
    l_ri118B (by omega) w xo.1 (S6.row (Or.inr (Or.inr rfl))) fun h' S' => K h' (Or.inl ⟨_, _, e, S'⟩)
  rintro r7 h6 (⟨⟨q1, q2⟩, q3, eh⟩ | ⟨q1, S6⟩ | ⟨⟨q1, q2⟩, S6⟩)
  · obtain rfl := eh.symm
    subst q3
    have v1 := tkV_lt (S.gt w).2.2.2.2 S.2.2.2.2.2 q1.1 q1.2.1
    have S6 := S.r9 (j := 4 * d.2.2.2.2.2 + 3) (v := nI (tkV tp n (tokB tp n b)))
    refine ⟨r9.2.1, by rw [r9.2.2]; exact vp_in_nI (by omega) (by decide), (w.sg S.1).1.1, fun y => absurd S6.2.1 y, fun _ => ⟨mo + 9, r9.1, r9.2.1, by rw [r9.2.2]; exact vp_in_nI (by omega) (by decide), by rw [r9.2.2]; exact vp_in_nI (by omega) (by decide), ?_⟩⟩
    rw [gI, S6.2.2.2.1.2.2, show (pd9 (pdT d tm f) (4 * d.2.2.2.2.2 + 3) (nI (tkV tp n (tokB tp n b)))).2.2.1 (4 * d.2.2.2.2.2 + 2) = nI f from (if_neg (by omega)).trans (if_pos rfl)]
    by_cases z : tkV tp n (tokB tp n b) = f
    · refine ⟨fun y => absurd (by rw [z]) y, fun _ => ⟨_, c_wrong S6 w (k := 5) (by decide), fun h20 S20 => l_ri118B (by omega) w xo.1 S20 fun h' S' => K h' (Or.inl ⟨_, _, ?_, S'⟩)⟩⟩
      unfold riG
      rw [nuC_ok q1, ite'_t q2, ite'_t z]
    · refine ⟨fun _ => ?_, fun y => absurd ((nI_eq (by omega) (by omega)).mp y) z⟩
      have eG : riG tp n d tm f b = riT tp n d tm f (tkV tp n (tokB tp n b)) (tkE tp n (tokB tp n b)) := by
        unfold riG
        rw [nuC_ok q1, ite'_t q2, ite'_f z]
      rw [eG] at K
      refine wX8_readRider_118 ⟨(w.sg S6.1).1.1, fun y => absurd S6.2.1 y, fun _ => ⟨_, r_stepOn S6 w, fun h5 S5 => ?_⟩⟩
      have r9 := (w.sg S5.1).1.row 9 9 80 (by decide)
      refine wX8_readRider_129 ⟨(w.sg S5.1).1.1, mo + 9, r9.1, xo.1.tx_RX8_184, _, c_is (k := 9) S5 w xo.2 (by decide), ?_⟩
      rintro r8 h7 ⟨q, eh⟩
      obtain rfl := eh.symm
      refine ⟨r9.2.1, by rw [r9.2.2]; exact vp_in_nI (by omega) (by decide), ?_⟩
      rw [nI_clamp (by omega)]
      have rows : ∀ (s j : Nat), (pd9 (pd9 (pdT d tm f) (4 * d.2.2.2.2.2 + 3) (nI (tkV tp n (tokB tp n b)))) (4 * d.2.2.2.2.2) (nI s)).2.2.1 j = (pdR d tm f (tkV tp n (tokB tp n b)) s).2.2.1 j := fun s j => by
        show up (up (up (up d.2.2.1 (4 * d.2.2.2.2.2 + 1) (nI tm)) (4 * d.2.2.2.2.2 + 2) (nI f)) (4 * d.2.2.2.2.2 + 3) (nI (tkV tp n (tokB tp n b)))) (4 * d.2.2.2.2.2) (nI s) j = up (up (up (up d.2.2.1 (4 * d.2.2.2.2.2) (nI s)) (4 * d.2.2.2.2.2 + 1) (nI tm)) (4 * d.2.2.2.2.2 + 2) (nI f)) (4 * d.2.2.2.2.2 + 3) (nI (tkV tp n (tokB tp n b))) j
        unfold up
        by_cases y0 : j = 4 * d.2.2.2.2.2
        · rw [if_pos y0, if_neg (by omega), if_neg (by omega), if_neg (by omega), if_pos y0]
        · rw [if_neg y0]
          simp only [if_neg y0]
      have fin : ∀ {s : Nat}, s = 1 ∨ s = 2 → riT tp n d tm f (tkV tp n (tokB tp n b)) (tkE tp n (tokB tp n b)) = sgB tp n (pdR d tm f (tkV tp n (tokB tp n b)) s) (if s = 1 then tokB tp n (tkE tp n (tokB tp n b)) else tokB tp n (tkE tp n (tokB tp n (tkE tp n (tokB tp n b))))) → Gm l x mX8_readRider 7 149 [(0, .ref mo), (1, .int (nI (4 * d.2.2.2.2.2)))] [] (sI h5 (mo + 9) (4 * d.2.2.2.2.2) (nI s)) rc rs n0 Q X := fun {s} hs e =>
        l_ri149 (m := d.2.2.2.2.2) (s := s) (by omega) w S5.r9 t2 (if_pos rfl) hs fun h' S' => K h' (Or.inr ⟨_, _, e, S'.as (fun _ => rfl) (fun _ => rfl) (rows s)⟩)
      rcases q with ⟨q3, q4⟩ | ⟨q3, q4⟩
      · rw [q4, if_neg (by decide)]
        refine fin (s := 2) (Or.inr rfl) ?_
        unfold riT
        rw [ite'_t q3, if_neg (by decide)]
      · rw [q4, if_pos rfl]
        refine fin (s := 1) (Or.inl rfl) ?_
        unfold riT
        rw [ite'_f q3, if_pos rfl]
  · have r9 := (w.sg S6.1).1.row 9 9 80 (by decide)
    have S16 := S6.row (a := mo + 9) (j := 4 * d.2.2.2.2.2 + 3) (v := r7) (Or.inr (Or.inr rfl))
    exact ⟨r9.2.1, by rw [r9.2.2]; exact vp_in_nI (by omega) (by decide), (w.sg S6.1).1.1, fun _ => bad S6 (nuC_no q1), fun y => absurd (S16.2.1.symm.trans y) S16.2.2.1⟩
  · have r9 := (w.sg S6.1).1.row 9 9 80 (by decide)
    have S16 := S6.row (a := mo + 9) (j := 4 * d.2.2.2.2.2 + 3) (v := r7) (Or.inr (Or.inr rfl))
    exact ⟨r9.2.1, by rw [r9.2.2]; exact vp_in_nI (by omega) (by decide), (w.sg S6.1).1.1, fun _ => bad S6 (by unfold riG; rw [nuC_ok q1, ite'_f q2]), fun y => absurd (S16.2.1.symm.trans y) S16.2.2.1⟩
theorem l_ri52 {tm : Nat} (w : GT mo tp n g) (xo : XO l x) (h3 : d.2.2.2.2.2 < 20) (t0 : d.1 0 = nI d.2.2.2.2.1) (f12 : d.2.2.2.2.1 ≤ 12) (t2 : d.1 2 = nI d.2.2.2.2.2) (S : SOK mo tp n g h (pd9 d (4 * d.2.2.2.2.2 + 1) (nI tm)) cl (tokB tp n b)) (K : ∀ h', PM mo tp n g cl (riF tp n d tm b) h' → Q none h') : Gm l x mX8_readRider 7 52 [(0, .ref mo), (1, .int (nI (4 * d.2.2.2.2.2)))] [] h rc rs n0 Q X := by
  have r9 := (w.sg S.1).1.row 9 9 80 (by decide)
  refine wX8_readRider_52 ⟨(w.sg S.1).1.1, mo + 9, r9.1, _, c_floorNow S w (nf := d.2.2.2.2.1) t0 f12, ?_⟩
  rw [show nI (4 * d.2.2.2.2.2) + 2 = nI (4 * d.2.2.2.2.2 + 2) from nI_add _ 2, nI_clamp (show 4 * d.2.2.2.2.2 + 2 < 2 ^ 31 by omega)]
  have bad : ∀ {h6 : PH} {k : Int32} {b' : Nat} {v : Int32}, SBD mo g h6 k b' → riF tp n d tm b = .inl (k, b') → Gm l x mX8_readRider 7 75 [(0, .ref mo), (1, .int (nI (4 * d.2.2.2.2.2)))] [] (sI h6 (mo + 9) (4 * d.2.2.2.2.2 + 2) v) rc rs n0 Q X := fun S6 e =>
    l_ri75B (by omega) w xo.1 (S6.row (Or.inr (Or.inr rfl))) fun h' S' => K h' (Or.inl ⟨_, _, e, S'⟩)
  rintro r7 h6 (⟨⟨q1, q2⟩, q3, eh⟩ | ⟨q1, S6⟩ | ⟨⟨q1, q2⟩, S6⟩)
  · obtain rfl := eh.symm
    subst q3
    have v1 := tkV_lt (S.gt w).2.2.2.2 S.2.2.2.2.2 q1.1 q1.2.1
    have S6 := S.r9 (j := 4 * d.2.2.2.2.2 + 2) (v := nI (tkV tp n (tokB tp n b)))
    refine ⟨r9.2.1, by rw [r9.2.2]; exact vp_in_nI (by omega) (by decide), (w.sg S.1).1.1, fun y => absurd S6.2.1 y, fun _ => ⟨_, r_stepOn S6 w, fun h14 S14 => ?_⟩⟩
    refine l_ri75 w xo h3 t0 f12 v1 t2 S14 fun h' q => K h' ?_
    unfold riF
    rw [nuC_ok q1, ite'_t q2]
    exact q
  · have r9 := (w.sg S6.1).1.row 9 9 80 (by decide)
    have S16 := S6.row (a := mo + 9) (j := 4 * d.2.2.2.2.2 + 2) (v := r7) (Or.inr (Or.inr rfl))
    exact ⟨r9.2.1, by rw [r9.2.2]; exact vp_in_nI (by omega) (by decide), (w.sg S6.1).1.1, fun _ => bad S6 (nuC_no q1), fun y => absurd (S16.2.1.symm.trans y) S16.2.2.1⟩
  · have r9 := (w.sg S6.1).1.row 9 9 80 (by decide)
    have S16 := S6.row (a := mo + 9) (j := 4 * d.2.2.2.2.2 + 2) (v := r7) (Or.inr (Or.inr rfl))
    exact ⟨r9.2.1, by rw [r9.2.2]; exact vp_in_nI (by omega) (by decide), (w.sg S6.1).1.1, fun _ => bad S6 (by unfold riF; rw [nuC_ok q1, ite'_f q2]), fun y => absurd (S16.2.1.symm.trans y) S16.2.2.1⟩
theorem c_readRider (S : SOK mo tp n g h d cl b) (w : GT mo tp n g) (xo : XO l x) (hT : PDok d) : CV l x mX8_readRider 7 0 0 [.ref mo] h (fun h' => PM mo tp n g cl (clRid tp n d b) h') := by
  have r5 := (w.sg S.1).1.row 5 5 7 (by decide)
  have t0 : d.1 0 = nI d.2.2.2.2.1 := hT.tk.1.1
  have t2 : d.1 2 = nI d.2.2.2.2.2 := hT.t2
  have h4 := hT.r20
  have f12 := hT.f12
  refine Cm.of (by decide) (Nat.le_of_ble_eq_true rfl) (wX8_readRider_0 ⟨(w.sg S.1).1.1, mo + 5, r5.1, r5.2.1, by rw [r5.2.2]; exact vp_in_nI (n := 2) (by decide) (by decide), ?_⟩)
  rw [show hI h (mo + 5) (Int32.toNatClampNeg 2) = nI d.2.2.2.2.2 from (S.2.2.2.1.1 2).trans t2]
  by_cases z : d.2.2.2.2.2 = 20
  · refine ⟨fun y => absurd (by rw [z]; rfl) y, fun _ => ⟨_, c_wrong S w (k := 2) (by decide), fun h9 S9 => wX8_readRider_16 ⟨(w.sg S9.1).1.1, fun y => absurd (S9.2.1.symm.trans y) S9.2.2.1, fun _ => ⟨rfl, Or.inl ⟨2, b, ?_, S9⟩⟩⟩⟩⟩
    unfold clRid
    rw [ite'_t z]
  · refine ⟨fun _ => ?_, fun y => absurd ((nI_eq (b := 20) (by omega) (by decide)).mp y) z⟩
    rw [clRid_eq z]
    refine wX8_readRider_16 ⟨(w.sg S.1).1.1, fun _ => ⟨_, r_stepOn S w, fun h5 S5 => ?_⟩, fun y => absurd S.2.1 y⟩
    have r5 := (w.sg S5.1).1.row 5 5 7 (by decide)
    have r9 := (w.sg S5.1).1.row 9 9 80 (by decide)
    refine ⟨(w.sg S5.1).1.1, mo + 5, r5.1, r5.2.1, by rw [r5.2.2]; exact vp_in_nI (n := 2) (by decide) (by decide), mo + 9, r9.1, ?_⟩
    rw [show hI h5 (mo + 5) (Int32.toNatClampNeg 2) = nI d.2.2.2.2.2 from (S5.2.2.2.1.1 2).trans t2, show 4 * nI d.2.2.2.2.2 = nI (4 * d.2.2.2.2.2) from nI_mul 4 _, nI_1, nI_clamp (show 4 * d.2.2.2.2.2 + 1 < 2 ^ 31 by omega)]
    refine ⟨_, c_readNumber (lo := 0) (hi := 99) S5 w (by decide) (by decide), ?_⟩
    rintro r16 h15 (⟨q1, q3, S15⟩ | ⟨q1, S15⟩)
    · subst q3
      have r9 := (w.sg S15.1).1.row 9 9 80 (by decide)
      refine ⟨r9.2.1, by rw [r9.2.2]; exact vp_in_nI (by omega) (by decide), ?_⟩
      refine l_ri52 w xo (by omega) t0 f12 t2 S15.r9 fun h' q => ⟨rfl, ?_⟩
      rw [nuC_ok q1]
      exact q
    · have r9 := (w.sg S15.1).1.row 9 9 80 (by decide)
      refine ⟨r9.2.1, by rw [r9.2.2]; exact vp_in_nI (by omega) (by decide), ?_⟩
      exact l_ri52B (by omega) w xo.1 (S15.row (Or.inr (Or.inr rfl))) fun h' S' => ⟨rfl, Or.inl ⟨_, _, nuC_no q1, S'⟩⟩
end Rider
