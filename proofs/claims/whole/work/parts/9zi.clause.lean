/-! THE REFERENCE READS A TEXT: cars, riders, clauses -/
def pd5 (d : PD) (j : Nat) (v : Int32) : PD := (up d.1 j v, d.2)
def pd7 (d : PD) (j : Nat) (v : Int32) : PD := (d.1, up d.2.1 j v, d.2.2)
def pd9 (d : PD) (j : Nat) (v : Int32) : PD := (d.1, d.2.1, up d.2.2.1 j v, d.2.2.2)
def RR (mo : Nat) (tp : Nat → Int32) (n : Nat) (g : PH) (cl : Nat) (r : PR) (h : PH) : Prop := match r with
  | .inl q => SBD mo g h q.1 q.2
  | .inr q => SOK mo tp n g h q.1 cl q.2
/-- before the sign -/
def PM (mo : Nat) (tp : Nat → Int32) (n : Nat) (g : PH) (cl : Nat) (r : PR) (h : PH) : Prop := (∃ k b, r = .inl (k, b) ∧ SBD mo g h k b) ∨ ∃ d b, r = sgB tp n d b ∧ SOK mo tp n g h d cl b
theorem gI_up (h : PH) (a j k : Nat) (v : Int32) {f : Nat → Int32} (e : ∀ j, hI h a j = f j) : hI (sI h a k v) a j = up f k v j := by
  unfold up
  by_cases z : j = k
  · rw [if_pos z, z, gI]
  · rw [if_neg z, gIk _ _ _ z, e]
section Clause
variable {l : Launch} {x : CX} {mo : Nat} {g h : PH} {tp : Nat → Int32} {n : Nat} {d : PD} {cl b : Nat} {rc rs n0 : Nat} {Q : Option Value → PH → Prop} {X : String → PH → Prop}
theorem TKF.row (T : TKF mo tp n h b) {a j : Nat} {v : Int32} (ha : mo ≠ a) : TKF mo tp n (sI h a j v) b := by
  unfold TKF at T ⊢
  rw [gIa _ _ _ _ ha, gIa _ _ _ _ ha, gIa _ _ _ _ ha, gIa _ _ _ _ ha, gIa _ _ _ _ ha]
  exact T
theorem SOK.r5 (S : SOK mo tp n g h d cl b) {j : Nat} {v : Int32} : SOK mo tp n g (sI h (mo + 5) j v) (pd5 d j v) cl b :=
  ⟨S.1.trans (SG.sI (by unfold rdP; omega)), by rw [gIa _ _ _ _ (by omega)]; exact S.2.1, by rw [gIa _ _ _ _ (by omega)]; exact S.2.2.1, ⟨fun i => gI_up _ _ _ _ _ S.2.2.2.1.1, fun i => by rw [gIa _ _ _ _ (by omega)]; exact S.2.2.2.1.2.1 i, fun i => by rw [gIa _ _ _ _ (by omega)]; exact S.2.2.2.1.2.2 i⟩, S.2.2.2.2.1.row (by omega), S.2.2.2.2.2⟩
theorem SOK.r7 (S : SOK mo tp n g h d cl b) {j : Nat} {v : Int32} : SOK mo tp n g (sI h (mo + 7) j v) (pd7 d j v) cl b :=
  ⟨S.1.trans (SG.sI (by unfold rdP; omega)), by rw [gIa _ _ _ _ (by omega)]; exact S.2.1, by rw [gIa _ _ _ _ (by omega)]; exact S.2.2.1, ⟨fun i => by rw [gIa _ _ _ _ (by omega)]; exact S.2.2.2.1.1 i, fun i => gI_up _ _ _ _ _ S.2.2.2.1.2.1, fun i => by rw [gIa _ _ _ _ (by omega)]; exact S.2.2.2.1.2.2 i⟩, S.2.2.2.2.1.row (by omega), S.2.2.2.2.2⟩
theorem SOK.r9 (S : SOK mo tp n g h d cl b) {j : Nat} {v : Int32} : SOK mo tp n g (sI h (mo + 9) j v) (pd9 d j v) cl b :=
  ⟨S.1.trans (SG.sI (by unfold rdP; omega)), by rw [gIa _ _ _ _ (by omega)]; exact S.2.1, by rw [gIa _ _ _ _ (by omega)]; exact S.2.2.1, ⟨fun i => by rw [gIa _ _ _ _ (by omega)]; exact S.2.2.2.1.1 i, fun i => by rw [gIa _ _ _ _ (by omega)]; exact S.2.2.2.1.2.1 i, fun i => gI_up _ _ _ _ _ S.2.2.2.1.2.2⟩, S.2.2.2.2.1.row (by omega), S.2.2.2.2.2⟩
/-- only the rows matter -/
theorem SOK.as (S : SOK mo tp n g h d cl b) {d' : PD} (e : ∀ j, d.1 j = d'.1 j) (e2 : ∀ j, d.2.1 j = d'.2.1 j) (e3 : ∀ j, d.2.2.1 j = d'.2.2.1 j) : SOK mo tp n g h d' cl b :=
  ⟨S.1, S.2.1, S.2.2.1, ⟨fun j => (S.2.2.2.1.1 j).trans (e j), fun j => (S.2.2.2.1.2.1 j).trans (e2 j), fun j => (S.2.2.2.1.2.2 j).trans (e3 j)⟩, S.2.2.2.2⟩
/-! the tail of a clause -/
theorem l_cl183 {u : Int32} {r : PR} (w : GT mo tp n g) (q : RR mo tp n g cl r h) (K : ∀ h', RR mo tp n g (cl + 1) r h' → Q none h') : Gm l x mX8_readClause 8 183 [(0, .ref mo), (1, .int u)] [] h rc rs n0 Q X := by
  have s1 : SG (rdP mo) h (sI h mo 21 (hI h mo 21 + 1)) := SG.sI (by unfold rdP; omega)
  cases r with
  | inl q' =>
    have S : SBD mo g h q'.1 q'.2 := q
    exact wX8_readClause_183 ⟨(w.sg S.1).1.1, K _ (show SBD mo g _ q'.1 q'.2 from ⟨S.1.trans s1, by rw [gIk _ _ _ (by decide)]; exact S.2.1, S.2.2.1, by rw [gIk _ _ _ (by decide)]; exact S.2.2.2⟩)⟩
  | inr q' =>
    have S : SOK mo tp n g h q'.1 cl q'.2 := q
    refine wX8_readClause_183 ⟨(w.sg S.1).1.1, K _ (show SOK mo tp n g _ q'.1 (cl + 1) q'.2 from ⟨S.1.trans s1, by rw [gIk _ _ _ (by decide)]; exact S.2.1, by rw [gI, S.2.2.1, nI_1], ⟨fun i => by rw [gIa _ _ _ _ (by omega)]; exact S.2.2.2.1.1 i, fun i => by rw [gIa _ _ _ _ (by omega)]; exact S.2.2.2.1.2.1 i, fun i => by rw [gIa _ _ _ _ (by omega)]; exact S.2.2.2.1.2.2 i⟩, ?_, S.2.2.2.2.2⟩)⟩
    have T := S.2.2.2.2.1
    unfold TKF at T ⊢
    rw [gIk _ _ _ (by decide), gIk _ _ _ (by decide), gIk _ _ _ (by decide), gIk _ _ _ (by decide), gIk _ _ _ (by decide)]
    exact T
theorem l_cl152 {u : Int32} {r : PR} (w : GT mo tp n g) (q : PM mo tp n g cl r h) (K : ∀ h', RR mo tp n g (cl + 1) r h' → Q none h') : Gm l x mX8_readClause 8 152 [(0, .ref mo), (1, .int u)] [] h rc rs n0 Q X := by
  have bad : ∀ {h : PH} {k : Int32} {b : Nat}, SBD mo g h k b → r = .inl (k, b) → Gm l x mX8_readClause 8 172 [(0, .ref mo), (1, .int u)] [] h rc rs n0 Q X := fun S e =>
    wX8_readClause_172 ⟨(w.sg S.1).1.1, fun _ => l_cl183 w (r := r) (by rw [e]; exact S) K, fun z => absurd (S.2.1.symm.trans z) S.2.2.1⟩
  rcases q with ⟨k, b', e, S⟩ | ⟨d', b', e, S⟩
  · exact wX8_readClause_152 ⟨(w.sg S.1).1.1, fun _ => bad S e, fun z => absurd (S.2.1.symm.trans z) S.2.2.1⟩
  · have T := S.2.2.2.2.1
    have kl := tkK_lt (tp := tp) (n := n) (b := b')
    refine wX8_readClause_152 ⟨(w.sg S.1).1.1, fun z => absurd S.2.1 z, fun _ => ⟨fun z => ?_, fun z => ?_⟩⟩
    · rw [T.2.1] at z
      have z3 : tkK tp n b' = 3 := (nI_eq (b := 3) (by omega) (by decide)).mp z
      refine wX8_readClause_172 ⟨(w.sg S.1).1.1, fun z => absurd S.2.1 z, fun _ => ⟨_, r_stepOn S w, fun h5 S5 => l_cl183 w (r := r) ?_ K⟩⟩
      rw [e]
      unfold sgB
      rw [ite'_t z3]
      exact S5
    · have z3 : ¬ tkK tp n b' = 3 := fun q => z (by rw [T.2.1, q]; rfl)
      refine ⟨_, c_wrong S w (by decide), fun h6 S6 => bad S6 ?_⟩
      rw [e]
      unfold sgB
      rw [ite'_f z3]
/-! a car -/
theorem l_ca129B {u k : Int32} (w : GT mo tp n g) (S : SBD mo g h k b) (K : ∀ h', SBD mo g h' k b → Q none h') : Gm l x mX8_readCar 7 129 [(0, .ref mo), (1, .int u)] [] h rc rs n0 Q X := by
  have r5 := (w.sg S.1).1.row 5 5 7 (by decide)
  have v1 : vp_in 1 (hK h (mo + 5)).2 := by rw [r5.2.2]; exact vp_in_nI (n := 1) (by decide) (by decide)
  exact wX8_readCar_129 ⟨(w.sg S.1).1.1, mo + 5, r5.1, r5.2.1, v1, v1, K _ (S.row (Or.inl rfl))⟩
theorem l_ca57B {k : Int32} {m : Nat} (hm : m < 10) (w : GT mo tp n g) (xn : XN x) (S : SBD mo g h k b) (K : ∀ h', SBD mo g h' k b → Q none h') : Gm l x mX8_readCar 7 57 [(0, .ref mo), (1, .int (nI m))] [] h rc rs n0 Q X := by
  have r7 := (w.sg S.1).1.row 7 7 12 (by decide)
  refine wX8_readCar_57 ⟨(w.sg S.1).1.1, mo + 7, r7.1, _, c_readNumberB S w, fun r7' h6 S6 => ?_⟩
  have r7 := (w.sg S6.1).1.row 7 7 12 (by decide)
  rw [show nI m + 1 = nI (m + 1) from nI_1 m, show nI m + 2 = nI (m + 2) from nI_add m 2]
  refine ⟨r7.2.1, by rw [r7.2.2]; exact vp_in_nI (by omega) (by decide), (w.sg S6.1).1.1, mo + 7, r7.1, xn.tx_RX8_180, _, c_isB (S6.row (Or.inr (Or.inl rfl))) w, ?_⟩
  rintro _ h16 ⟨rfl, eh⟩
  subst eh
  have S16 := S6.row (a := mo + 7) (j := (nI (m + 1)).toNatClampNeg) (v := r7') (Or.inr (Or.inl rfl))
  refine ⟨fun _ => ⟨xn.tx_RX8_182, (w.sg S16.1).1.1, _, c_isB S16 w, ?_⟩, fun z => absurd rfl z⟩
  rintro _ h23 ⟨rfl, eh⟩
  subst eh
  have r7 := (w.sg S16.1).1.row 7 7 12 (by decide)
  have S17 := S16.row (a := mo + 7) (j := (nI (m + 2)).toNatClampNeg) (v := (if (0 : Int32) = 0 then 0 else 2 : Int32)) (Or.inr (Or.inl rfl))
  exact ⟨r7.2.1, by rw [r7.2.2]; exact vp_in_nI (by omega) (by decide), wX8_readCar_107 ⟨(w.sg S17.1).1.1, fun _ => l_ca129B w S17 K, fun z => absurd (S17.2.1.symm.trans z) S17.2.2.1⟩⟩
theorem l_ca129 {u : Int32} {m : Nat} (w : GT mo tp n g) (S : SOK mo tp n g h d cl b) (e1 : d.1 1 = nI m) (K : ∀ h', SOK mo tp n g h' (pd5 d 1 (nI (m + 1))) cl b → Q none h') : Gm l x mX8_readCar 7 129 [(0, .ref mo), (1, .int u)] [] h rc rs n0 Q X := by
  have r5 := (w.sg S.1).1.row 5 5 7 (by decide)
  have v1 : vp_in 1 (hK h (mo + 5)).2 := by rw [r5.2.2]; exact vp_in_nI (n := 1) (by decide) (by decide)
  refine wX8_readCar_129 ⟨(w.sg S.1).1.1, mo + 5, r5.1, r5.2.1, v1, v1, K _ ?_⟩
  rw [show hI h (mo + 5) (Int32.toNatClampNeg 1) = nI m from (S.2.2.2.1.1 1).trans e1, nI_1]
  exact S.r5
theorem l_ca107 {m i s : Nat} (hi : i + 2 < 12) (w : GT mo tp n g) (S : SOK mo tp n g h d cl b) (e1 : d.1 1 = nI m) (es : d.2.1 (i + 2) = nI s) (hs : s < 3) (K : ∀ h', SOK mo tp n g h' (pd5 d 1 (nI (m + 1))) cl (if s = 0 then b else tokB tp n (tkE tp n b)) → Q none h') : Gm l x mX8_readCar 7 107 [(0, .ref mo), (1, .int (nI i))] [] h rc rs n0 Q X := by
  have r7 := (w.sg S.1).1.row 7 7 12 (by decide)
  refine wX8_readCar_107 ⟨(w.sg S.1).1.1, fun z => absurd S.2.1 z, fun _ => ⟨mo + 7, r7.1, r7.2.1, ?_, ?_⟩⟩
  · rw [r7.2.2, show nI i + 2 = nI (i + 2) from nI_add i 2]; exact vp_in_nI (by omega) (by decide)
  · rw [show nI i + 2 = nI (i + 2) from nI_add i 2, nI_clamp (by omega), S.2.2.2.1.2.1, es]
    refine ⟨fun z => l_ca129 w S e1 fun h' S' => K h' ?_, fun z => ⟨_, r_stepOn S w, fun h10 S10 => l_ca129 w S10 e1 fun h' S' => K h' ?_⟩⟩
    · rw [if_pos (Nat.eq_zero_of_not_pos fun q => nI_nle q (by omega) z)]; exact S'
    · rw [if_neg fun q => z (by rw [q]; decide)]; exact S'
noncomputable def caT (tp : Nat → Int32) (n : Nat) (d : PD) (f c e : Nat) : PR := ite' (isW tp n 7 (tokB tp n e)) (sgB tp n (pdC d f c 1) (tokB tp n (tkE tp n (tokB tp n e)))) (ite' (isW tp n 8 (tokB tp n e)) (sgB tp n (pdC d f c 2) (tokB tp n (tkE tp n (tokB tp n e)))) (sgB tp n (pdC d f c 0) (tokB tp n e)))
theorem clCar_eq (z : ¬ d.2.2.2.1 = 4) : clCar tp n d b = nuC tp n 0 99 (tkE tp n b) fun f b1 e1 => ite' (f < d.2.2.2.2.1) (nuC tp n 1 6 e1 fun c _ e2 => caT tp n d f c e2) (.inl (3, b1)) := by
  unfold clCar caT
  rw [ite'_f z]
theorem l_ca57 {f : Nat} (w : GT mo tp n g) (xo : XO l x) (h3 : d.2.2.2.1 < 4) (t1 : d.1 1 = nI d.2.2.2.1) (S : SOK mo tp n g h (pd7 d (3 * d.2.2.2.1) (nI f)) cl (tokB tp n b)) (K : ∀ h', PM mo tp n g cl (nuC tp n 1 6 b fun c _ e2 => caT tp n d f c e2) h' → Q none h') : Gm l x mX8_readCar 7 57 [(0, .ref mo), (1, .int (nI (3 * d.2.2.2.1)))] [] h rc rs n0 Q X := by
  by_cases NBz : NB tp n 1 6 (tokB tp n b)
  · rw [nuC_ok NBz] at K
    have r7 := (w.sg S.1).1.row 7 7 12 (by decide)
    refine wX8_readCar_57 ⟨(w.sg S.1).1.1, mo + 7, r7.1, _, c_readNumber (lo := 1) (hi := 6) S w (by decide) (by decide), ?_⟩
    rintro r h6 (⟨_, er, S6⟩ | ⟨q, _⟩)
    · subst er
      rw [show nI (3 * d.2.2.2.1) + 1 = nI (3 * d.2.2.2.1 + 1) from nI_1 _, show nI (3 * d.2.2.2.1) + 2 = nI (3 * d.2.2.2.1 + 2) from nI_add _ 2, nI_clamp (show 3 * d.2.2.2.1 + 1 < 2 ^ 31 by omega), nI_clamp (show 3 * d.2.2.2.1 + 2 < 2 ^ 31 by omega)]
      have S7 := S6.r7 (j := 3 * d.2.2.2.1 + 1) (v := nI (tkV tp n (tokB tp n b)))
      have r7 := (w.sg S6.1).1.row 7 7 12 (by decide)
      have fin : ∀ {s : Nat} {h8 : PH}, s < 3 → SOK mo tp n g h8 (pd7 (pd7 (pd7 d (3 * d.2.2.2.1) (nI f)) (3 * d.2.2.2.1 + 1) (nI (tkV tp n (tokB tp n b)))) (3 * d.2.2.2.1 + 2) (nI s)) cl (tokB tp n (tkE tp n (tokB tp n b))) → caT tp n d f (tkV tp n (tokB tp n b)) (tkE tp n (tokB tp n b)) = sgB tp n (pdC d f (tkV tp n (tokB tp n b)) s) (if s = 0 then tokB tp n (tkE tp n (tokB tp n b)) else tokB tp n (tkE tp n (tokB tp n (tkE tp n (tokB tp n b))))) → Gm l x mX8_readCar 7 107 [(0, .ref mo), (1, .int (nI (3 * d.2.2.2.1)))] [] h8 rc rs n0 Q X := fun {s h8} hs S8 e => by
        refine l_ca107 (m := d.2.2.2.1) (s := s) (by omega) w S8 t1 (if_pos rfl) hs fun h' S' => K h' (Or.inr ⟨_, _, e, S'.as (fun _ => rfl) (fun _ => rfl) fun _ => rfl⟩)
      refine ⟨r7.2.1, by rw [r7.2.2]; exact vp_in_nI (by omega) (by decide), (w.sg S6.1).1.1, mo + 7, r7.1, xo.1.tx_RX8_180, _, c_is (k := 7) S7 w xo.2 (by decide), ?_⟩
      rintro r17 h16 ⟨q, eh⟩
      subst eh
      have r7 := (w.sg S7.1).1.row 7 7 12 (by decide)
      rcases q with ⟨q1, q2⟩ | ⟨q1, q2⟩
      · refine ⟨fun y => absurd (q2.symm.trans y) (by decide), fun _ => ⟨r7.2.1, by rw [r7.2.2]; exact vp_in_nI (by omega) (by decide), fin (s := 1) (by decide) S7.r7 ?_⟩⟩
        unfold caT
        rw [ite'_t q1, if_neg (by decide)]
      · refine ⟨fun _ => ⟨xo.1.tx_RX8_182, (w.sg S7.1).1.1, _, c_is (k := 8) S7 w xo.2 (by decide), ?_⟩, fun y => absurd q2 y⟩
        rintro r24 h23 ⟨q, eh⟩
        subst eh
        refine ⟨r7.2.1, by rw [r7.2.2]; exact vp_in_nI (by omega) (by decide), ?_⟩
        rcases q with ⟨q3, q4⟩ | ⟨q3, q4⟩
        · rw [q4, if_neg (by decide)]
          refine fin (s := 2) (by decide) S7.r7 ?_
          unfold caT
          rw [ite'_f q1, ite'_t q3, if_neg (by decide)]
        · rw [q4, if_pos rfl]
          refine fin (s := 0) (by decide) S7.r7 ?_
          unfold caT
          rw [ite'_f q1, ite'_f q3, if_pos rfl]
    · exact absurd NBz q
  · rw [nuC_no NBz] at K
    have r7 := (w.sg S.1).1.row 7 7 12 (by decide)
    refine wX8_readCar_57 ⟨(w.sg S.1).1.1, mo + 7, r7.1, _, c_readNumber (lo := 1) (hi := 6) S w (by decide) (by decide), ?_⟩
    rintro r h6 (⟨q, _⟩ | ⟨_, S6⟩)
    · exact absurd q NBz
    · have r7 := (w.sg S6.1).1.row 7 7 12 (by decide)
      rw [show nI (3 * d.2.2.2.1) + 1 = nI (3 * d.2.2.2.1 + 1) from nI_1 _, show nI (3 * d.2.2.2.1) + 2 = nI (3 * d.2.2.2.1 + 2) from nI_add _ 2]
      have S7 := S6.row (a := mo + 7) (j := (nI (3 * d.2.2.2.1 + 1)).toNatClampNeg) (v := r) (Or.inr (Or.inl rfl))
      refine ⟨r7.2.1, by rw [r7.2.2]; exact vp_in_nI (by omega) (by decide), (w.sg S6.1).1.1, mo + 7, r7.1, xo.1.tx_RX8_180, _, c_isB S7 w, ?_⟩
      rintro _ h16 ⟨rfl, eh⟩
      subst eh
      refine ⟨fun _ => ⟨xo.1.tx_RX8_182, (w.sg S7.1).1.1, _, c_isB S7 w, ?_⟩, fun z => absurd rfl z⟩
      rintro _ h23 ⟨rfl, eh⟩
      subst eh
      have r7 := (w.sg S7.1).1.row 7 7 12 (by decide)
      have S17 := S7.row (a := mo + 7) (j := (nI (3 * d.2.2.2.1 + 2)).toNatClampNeg) (v := (if (0 : Int32) = 0 then 0 else 2 : Int32)) (Or.inr (Or.inl rfl))
      exact ⟨r7.2.1, by rw [r7.2.2]; exact vp_in_nI (by omega) (by decide), wX8_readCar_107 ⟨(w.sg S17.1).1.1, fun _ => l_ca129B w S17 fun h' S' => K h' (Or.inl ⟨_, _, rfl, S'⟩), fun z => absurd (S17.2.1.symm.trans z) S17.2.2.1⟩⟩
theorem c_readCar (S : SOK mo tp n g h d cl b) (w : GT mo tp n g) (xo : XO l x) (hT : PDok d) : CV l x mX8_readCar 7 0 0 [.ref mo] h (fun h' => PM mo tp n g cl (clCar tp n d b) h') := by
  have r5 := (w.sg S.1).1.row 5 5 7 (by decide)
  have t0 : d.1 0 = nI d.2.2.2.2.1 := hT.tk.1.1
  have t1 : d.1 1 = nI d.2.2.2.1 := hT.tk.2
  have h4 := hT.c4
  have f12 := hT.f12
  refine Cm.of (by decide) (Nat.le_of_ble_eq_true rfl) (wX8_readCar_0 ⟨(w.sg S.1).1.1, mo + 5, r5.1, r5.2.1, by rw [r5.2.2]; exact vp_in_nI (n := 1) (by decide) (by decide), ?_⟩)
  rw [show hI h (mo + 5) (Int32.toNatClampNeg 1) = nI d.2.2.2.1 from (S.2.2.2.1.1 1).trans t1]
  by_cases z : d.2.2.2.1 = 4
  · refine ⟨fun y => absurd (by rw [z]; rfl) y, fun _ => ⟨_, c_wrong S w (k := 2) (by decide), fun h9 S9 => wX8_readCar_15 ⟨(w.sg S9.1).1.1, fun y => absurd (S9.2.1.symm.trans y) S9.2.2.1, fun _ => ⟨rfl, Or.inl ⟨2, b, ?_, S9⟩⟩⟩⟩⟩
    unfold clCar
    rw [ite'_t z]
  · refine ⟨fun _ => ?_, fun y => absurd ((nI_eq (b := 4) (by omega) (by decide)).mp y) z⟩
    rw [clCar_eq z]
    refine wX8_readCar_15 ⟨(w.sg S.1).1.1, fun _ => ⟨_, r_stepOn S w, fun h5 S5 => ?_⟩, fun y => absurd S.2.1 y⟩
    have r5 := (w.sg S5.1).1.row 5 5 7 (by decide)
    have r7 := (w.sg S5.1).1.row 7 7 12 (by decide)
    refine ⟨(w.sg S5.1).1.1, mo + 5, r5.1, r5.2.1, by rw [r5.2.2]; exact vp_in_nI (n := 1) (by decide) (by decide), mo + 7, r7.1, ?_⟩
    rw [show hI h5 (mo + 5) (Int32.toNatClampNeg 1) = nI d.2.2.2.1 from (S5.2.2.2.1.1 1).trans t1, show 3 * nI d.2.2.2.1 = nI (3 * d.2.2.2.1) from nI_mul 3 _, nI_clamp (show 3 * d.2.2.2.1 < 2 ^ 31 by omega)]
    have bad : ∀ {h15 : PH} {k : Int32} {b' : Nat} {v : Int32} {r : PR}, SBD mo g h15 k b' → r = .inl (k, b') → Gm l x mX8_readCar 7 57 [(0, .ref mo), (1, .int (nI (3 * d.2.2.2.1)))] [] (sI h15 (mo + 7) (3 * d.2.2.2.1) v) 0 0 (hN h) (fun v h' => v = none ∧ PM mo tp n g cl r h') (fun _ _ => False) := fun S15 e =>
      l_ca57B (by omega) w xo.1 (S15.row (Or.inr (Or.inl rfl))) fun h' S' => ⟨rfl, Or.inl ⟨_, _, e, S'⟩⟩
    refine ⟨_, c_floorNow S5 w t0 f12, ?_⟩
    rintro r16 h15 (⟨⟨q1, q2⟩, q3, eh⟩ | ⟨q1, S15⟩ | ⟨⟨q1, q2⟩, S15⟩)
    · obtain rfl := eh.symm
      subst q3
      have S6 := S5.r7 (j := 3 * d.2.2.2.1) (v := nI (tkV tp n (tokB tp n (tkE tp n b))))
      refine ⟨r7.2.1, by rw [r7.2.2]; exact vp_in_nI (by omega) (by decide), (w.sg S5.1).1.1, fun y => absurd S6.2.1 y, fun _ => ⟨_, r_stepOn S6 w, fun h23 S23 => ?_⟩⟩
      refine l_ca57 w xo (by omega) t1 S23 fun h' q => ⟨rfl, ?_⟩
      rw [nuC_ok q1, ite'_t q2]
      exact q
    · have r7 := (w.sg S15.1).1.row 7 7 12 (by decide)
      have S16 := S15.row (a := mo + 7) (j := 3 * d.2.2.2.1) (v := r16) (Or.inr (Or.inl rfl))
      exact ⟨r7.2.1, by rw [r7.2.2]; exact vp_in_nI (by omega) (by decide), (w.sg S15.1).1.1, fun _ => bad S15 (nuC_no q1), fun y => absurd (S16.2.1.symm.trans y) S16.2.2.1⟩
    · have r7 := (w.sg S15.1).1.row 7 7 12 (by decide)
      have S16 := S15.row (a := mo + 7) (j := 3 * d.2.2.2.1) (v := r16) (Or.inr (Or.inl rfl))
      exact ⟨r7.2.1, by rw [r7.2.2]; exact vp_in_nI (by omega) (by decide), (w.sg S15.1).1.1, fun _ => bad S15 (by rw [nuC_ok q1, ite'_f q2]), fun y => absurd (S16.2.1.symm.trans y) S16.2.2.1⟩
end Clause
