/-! THE REFERENCE READS A TEXT: bytes and tokens -/
theorem nI_sub {a b : Nat} (h : b ≤ a) : nI a - nI b = nI (a - b) := by
  have e : nI a = nI (a - b) + nI b := by rw [nI_add, Nat.sub_add_cancel h]
  rw [e]
  exact Int32.add_sub_cancel _ _
def GT (mo : Nat) (tp : Nat → Int32) (n : Nat) (h : PH) : Prop := MW mo h ∧ hI h mo 13 = nI n ∧ (∀ i, i < n → hI h (mo + 10) i = tp i) ∧ n ≤ 900 ∧ BY n tp
def stP (mo b j : Nat) : Prop := b = mo ∧ (j = 12 ∨ j = 14 ∨ j = 15 ∨ j = 16 ∨ j = 17)
def rdP (mo b j : Nat) : Prop := b = mo + 5 ∨ b = mo + 7 ∨ b = mo + 9 ∨ (b = mo ∧ (j = 12 ∨ j = 14 ∨ j = 15 ∨ j = 16 ∨ j = 17 ∨ j = 18 ∨ j = 19 ∨ j = 21))
theorem SG.mo {P Q : Nat → Nat → Prop} {g h : PH} (a : SG P g h) (q : ∀ b j, P b j → Q b j) : SG Q g h := ⟨a.1, a.2.1, a.2.2.1, fun b j z => a.2.2.2 b j fun y => z (q b j y)⟩
theorem stP_rd {mo b j : Nat} (q : stP mo b j) : rdP mo b j := by unfold stP at q; unfold rdP; omega
theorem GT.sg {mo : Nat} {tp : Nat → Int32} {n : Nat} {g h : PH} (w : GT mo tp n g) (a : SG (rdP mo) g h) : GT mo tp n h :=
  ⟨a.mw w.1, (a.2.2.2 mo 13 (by unfold rdP; omega)).trans w.2.1, fun i hi => (a.2.2.2 _ i (by unfold rdP; omega)).trans (w.2.2.1 i hi), w.2.2.2.1, w.2.2.2.2⟩
theorem GT.st {mo : Nat} {tp : Nat → Int32} {n : Nat} {g h : PH} (w : GT mo tp n g) (a : SG (stP mo) g h) : GT mo tp n h := w.sg (a.mo fun _ _ => stP_rd)
/-- the fields of the token that begins at b -/
def TKF (mo : Nat) (tp : Nat → Int32) (n : Nat) (h : PH) (b : Nat) : Prop := hI h mo 12 = nI (tkE tp n b) ∧ hI h mo 14 = nI (tkK tp n b) ∧ hI h mo 16 = nI b ∧ hI h mo 17 = nI (tkE tp n b) ∧ (tkK tp n b = 2 → tkE tp n b - b ≤ 2 → hI h mo 15 = nI (tkV tp n b))
section Token
variable {l : Launch} {x : CX} {mo : Nat} {h : PH} {tp : Nat → Int32} {n : Nat}
def btA (tp : Nat → Int32) (n k : Nat) : Int32 := if k < n then tp k else -1
theorem nI_m1 {c : Nat} (hc : c < 256) : ¬ nI c = -1 := fun e => absurd (show nI c < 0 by rw [e]; decide) (nI_pos (by omega))
theorem c_byteAt (w : GT mo tp n h) {k : Nat} (hk : k ≤ 900) : CI l x mX8_byteAt 0 0 0 [.ref mo, .int (nI k)] h (fun r h' => r = btA tp n k ∧ h' = h) := by
  have w10 := w.1.row 10 10 900 (by decide)
  have hn := w.2.2.2.1
  refine Cm.of (by decide) (Nat.le_of_ble_eq_true rfl) (vX8_byteAt_0 ⟨w.1.1, ?_, ?_⟩)
  · rw [w.2.1]
    intro z
    refine ⟨_, rfl, ?_, rfl⟩
    unfold btA
    rw [if_neg fun y => absurd z (nI_ge y (by omega))]
  · rw [w.2.1]
    intro z
    have y : k < n := Nat.lt_of_not_le fun y => z (nI_le y (by omega))
    refine ⟨mo + 10, w10.1, w10.2.1, by rw [w10.2.2]; exact vp_in_nI (by omega) (by decide), _, rfl, ?_, rfl⟩
    unfold btA
    rw [if_pos y, nI_clamp (by omega), w.2.2.1 k y]
theorem c_isLetter {v : Int32} : CI l x mX8_isLetter 0 0 0 [.int v] h (fun r h' => r = (if bLe v = true then 1 else 0) ∧ h' = h) := by
  refine Cm.of (by decide) (Nat.le_of_ble_eq_true rfl) (vX8_isLetter_0 ⟨?_, _, rfl, ?_, rfl⟩)
  · split
    · exact Or.inl rfl
    · split
      · exact Or.inl rfl
      · exact Or.inr rfl
  · unfold bLe
    by_cases a : v < 97
    · rw [if_pos a, if_neg]
      rw [Bool.and_eq_true, decide_eq_true_eq]
      exact fun z => absurd z.1 (Int32.not_le.mpr a)
    · rw [if_neg a]
      by_cases b : 122 < v
      · rw [if_pos b, if_neg]
        rw [Bool.and_eq_true, decide_eq_true_eq, decide_eq_true_eq]
        exact fun z => absurd z.2 (Int32.not_le.mpr b)
      · rw [if_neg b, if_pos]
        rw [Bool.and_eq_true, decide_eq_true_eq, decide_eq_true_eq]
        exact ⟨Int32.not_lt.mp a, Int32.not_lt.mp b⟩
theorem c_isDigit {v : Int32} : CI l x mX8_isDigit 0 0 0 [.int v] h (fun r h' => r = (if bDi v = true then 1 else 0) ∧ h' = h) := by
  refine Cm.of (by decide) (Nat.le_of_ble_eq_true rfl) (vX8_isDigit_0 ⟨?_, _, rfl, ?_, rfl⟩)
  · split
    · exact Or.inl rfl
    · split
      · exact Or.inl rfl
      · exact Or.inr rfl
  · unfold bDi
    by_cases a : v < 48
    · rw [if_pos a, if_neg]
      rw [Bool.and_eq_true, decide_eq_true_eq]
      exact fun z => absurd z.1 (Int32.not_le.mpr a)
    · rw [if_neg a]
      by_cases b : 57 < v
      · rw [if_pos b, if_neg]
        rw [Bool.and_eq_true, decide_eq_true_eq, decide_eq_true_eq]
        exact fun z => absurd z.2 (Int32.not_le.mpr b)
      · rw [if_neg b, if_pos]
        rw [Bool.and_eq_true, decide_eq_true_eq, decide_eq_true_eq]
        exact ⟨Int32.not_lt.mp a, Int32.not_lt.mp b⟩
variable {rc rs n0 : Nat} {Q : Option Value → PH → Prop} {X : String → PH → Prop}
theorem l_st0 : ∀ (i a : Nat) (h : PH), a + i = n → GT mo tp n h → hI h mo 12 = nI a → (∀ h', SG (stP mo) h h' → hI h' mo 12 = nI (tokB tp n a) → Gm l x mX8_stepOn 1 39 [(0, .ref mo)] [] h' rc rs n0 Q X) → Gm l x mX8_stepOn 1 0 [(0, .ref mo)] [] h rc rs n0 Q X
  | 0, a, h, ha, w, e, K => by
    have hn := w.2.2.2.1
    have eb : btA tp n a = -1 := if_neg (by omega)
    have et : tokB tp n a = a := rE_ge (by omega)
    refine vX8_stepOn_0 ⟨w.1.1, _, by rw [e]; exact c_byteAt w (by omega), ?_⟩
    rintro _ _ ⟨rfl, eh⟩
    obtain rfl := eh.symm
    rw [eb]
    refine ⟨fun z => absurd z (by decide), fun _ => vX8_stepOn_13 ⟨w.1.1, _, by rw [e]; exact c_byteAt w (by omega), ?_⟩⟩
    rintro _ _ ⟨rfl, eh⟩
    obtain rfl := eh.symm
    rw [eb]
    refine ⟨fun _ => K _ (SG.refl _ _) (by rw [et]; exact e), fun z => absurd z (by decide)⟩
  | i + 1, a, h, ha, w, e, K => by
    have hn := w.2.2.2.1
    have eb : btA tp n a = tp a := if_pos (by omega)
    have go : bSp (tp a) = true → Gm l x mX8_stepOn 1 0 [(0, .ref mo)] [] (sI h mo 12 ((hI h mo 12) + 1)) rc rs n0 Q X := fun z => by
      have s1 : SG (stP mo) h (sI h mo 12 (hI h mo 12 + 1)) := SG.sI ⟨rfl, Or.inl rfl⟩
      refine l_st0 i (a + 1) _ (by omega) (w.st s1) (by rw [gI, e, nI_1]) fun h' s e' => K h' (s1.trans s) ?_
      rw [e']
      unfold tokB
      rw [rE_yes (by omega) z]
    refine vX8_stepOn_0 ⟨w.1.1, _, by rw [e]; exact c_byteAt w (by omega), ?_⟩
    rintro _ _ ⟨rfl, eh⟩
    obtain rfl := eh.symm
    rw [eb]
    refine ⟨fun z => ⟨w.1.1, go (by rw [z]; decide)⟩, fun z => vX8_stepOn_13 ⟨w.1.1, _, by rw [e]; exact c_byteAt w (by omega), ?_⟩⟩
    rintro _ _ ⟨rfl, eh⟩
    obtain rfl := eh.symm
    rw [eb]
    refine ⟨fun y => K _ (SG.refl _ _) ?_, fun y => ⟨w.1.1, go (by rw [y]; decide)⟩⟩
    unfold tokB
    rw [rE_no (by omega)]
    · exact e
    · unfold bSp
      rw [Bool.or_eq_true, decide_eq_true_eq, decide_eq_true_eq]
      exact fun q => q.elim z y
theorem l_st76 {v : Int32} : ∀ (i a : Nat) (h : PH), a + i = n → GT mo tp n h → hI h mo 12 = nI a → (∀ h', SG (stP mo) h h' → hI h' mo 12 = nI (rE bLe tp n a) → hI h' mo 14 = 1 → hI h' mo 17 = nI (rE bLe tp n a) → hI h' mo 16 = hI h mo 16 → Q none h') → Gm l x mX8_stepOn 1 76 [(0, .ref mo), (1, .int v)] [] h rc rs n0 Q X
  | 0, a, h, ha, w, e, K => by
    have hn := w.2.2.2.1
    have eb : btA tp n a = -1 := if_neg (by omega)
    refine vX8_stepOn_76 ⟨w.1.1, _, by rw [e]; exact c_byteAt w (by omega), ?_⟩
    rintro _ _ ⟨rfl, eh⟩
    obtain rfl := eh.symm
    refine ⟨_, c_isLetter, ?_⟩
    rintro _ _ ⟨rfl, eh⟩
    obtain rfl := eh.symm
    rw [eb, if_neg (by decide)]
    refine ⟨fun _ => ⟨w.1.1, K _ ((SG.sI ⟨rfl, Or.inr (Or.inl rfl)⟩).trans (SG.sI ⟨rfl, Or.inr (Or.inr (Or.inr (Or.inr rfl)))⟩)) ?_ ?_ ?_ ?_⟩, fun z => absurd rfl z⟩
    · rw [gIk _ _ _ (by decide), gIk _ _ _ (by decide), rE_ge (by omega)]; exact e
    · rw [gIk _ _ _ (by decide), gI]
    · rw [gI, rE_ge (by omega)]; exact e
    · rw [gIk _ _ _ (by decide), gIk _ _ _ (by decide)]
  | i + 1, a, h, ha, w, e, K => by
    have hn := w.2.2.2.1
    have eb : btA tp n a = tp a := if_pos (by omega)
    refine vX8_stepOn_76 ⟨w.1.1, _, by rw [e]; exact c_byteAt w (by omega), ?_⟩
    rintro _ _ ⟨rfl, eh⟩
    obtain rfl := eh.symm
    refine ⟨_, c_isLetter, ?_⟩
    rintro _ _ ⟨rfl, eh⟩
    obtain rfl := eh.symm
    rw [eb]
    by_cases z : bLe (tp a) = true
    · rw [if_pos z]
      refine ⟨fun q => absurd q (by decide), fun _ => ⟨w.1.1, ?_⟩⟩
      have s1 : SG (stP mo) h (sI h mo 12 (hI h mo 12 + 1)) := SG.sI ⟨rfl, Or.inl rfl⟩
      refine l_st76 i (a + 1) _ (by omega) (w.st s1) (by rw [gI, e, nI_1]) fun h' s q1 q2 q3 q4 => K h' (s1.trans s) ?_ q2 ?_ ?_
      · rw [rE_yes (by omega) z]; exact q1
      · rw [rE_yes (by omega) z]; exact q3
      · rw [q4, gIk _ _ _ (by decide)]
    · rw [if_neg z]
      refine ⟨fun _ => ⟨w.1.1, K _ ((SG.sI ⟨rfl, Or.inr (Or.inl rfl)⟩).trans (SG.sI ⟨rfl, Or.inr (Or.inr (Or.inr (Or.inr rfl)))⟩)) ?_ ?_ ?_ ?_⟩, fun z => absurd rfl z⟩
      · rw [gIk _ _ _ (by decide), gIk _ _ _ (by decide), rE_no (by omega) z]; exact e
      · rw [gIk _ _ _ (by decide), gI]
      · rw [gI, rE_no (by omega) z]; exact e
      · rw [gIk _ _ _ (by decide), gIk _ _ _ (by decide)]
theorem dg_st {c m : Nat} (h1 : 48 ≤ c) (h2 : c ≤ 57) (hm : m < 100) : (if 10 * nI m + nI c - 48 < 100000 then 10 * nI m + nI c - 48 else 100000 : Int32) = nI (10 * m + (c - 48)) := by
  have e : 10 * nI m + nI c - 48 = nI (10 * m + (c - 48)) := by
    show nI 10 * nI m + nI c - nI 48 = _
    rw [nI_mul, nI_add, nI_sub (by omega)]
    congr 1
    omega
  rw [e, if_pos]
  exact nI_lt (b := 100000) (by omega) (by decide)
theorem nv_s (tp : Nat → Int32) (b k : Nat) : nv tp b (k + 1) = 10 * nv tp b k + ((tp (b + k)).toNatClampNeg - 48) := rfl
theorem nv_le {b : Nat} (w : BY n tp) : ∀ k, b + k ≤ n → (∀ i, i < k → bDi (tp (b + i)) = true) → nv tp b k < 10 ^ k
  | 0, _, _ => by rw [Nat.pow_zero]; exact Nat.one_pos
  | k + 1, hk, hd => by
    have q := nv_le w k (by omega) fun i hi => hd i (by omega)
    obtain ⟨c, hc, ec⟩ := w (b + k) (by omega)
    have d := hd k (by omega)
    rw [ec] at d
    have d2 := (bDi_iff hc).mp d
    unfold nv
    rw [ec, nI_clamp (by omega), Nat.pow_succ]
    omega
theorem l_st123 {v : Int32} {b : Nat} : ∀ (i a : Nat) (h : PH), a + i = n → b ≤ a → GT mo tp n h → hI h mo 12 = nI a → (∀ j, j < a - b → bDi (tp (b + j)) = true) → (a - b ≤ 2 → hI h mo 15 = nI (nv tp b (a - b))) → (∀ h', SG (stP mo) h h' → hI h' mo 12 = nI (rE bDi tp n a) → hI h' mo 14 = 2 → hI h' mo 17 = nI (rE bDi tp n a) → hI h' mo 16 = hI h mo 16 → (rE bDi tp n a - b ≤ 2 → hI h' mo 15 = nI (nv tp b (rE bDi tp n a - b))) → Q none h') → Gm l x mX8_stepOn 1 123 [(0, .ref mo), (1, .int v)] [] h rc rs n0 Q X
  | 0, a, h, ha, hb, w, e, hd, hv, K => by
    have hn := w.2.2.2.1
    have eb : btA tp n a = -1 := if_neg (by omega)
    refine vX8_stepOn_123 ⟨w.1.1, _, by rw [e]; exact c_byteAt w (by omega), ?_⟩
    rintro _ _ ⟨rfl, eh⟩
    obtain rfl := eh.symm
    refine ⟨_, c_isDigit, ?_⟩
    rintro _ _ ⟨rfl, eh⟩
    obtain rfl := eh.symm
    rw [eb, if_neg (by decide)]
    refine ⟨fun _ => ⟨w.1.1, K _ ((SG.sI ⟨rfl, Or.inr (Or.inl rfl)⟩).trans (SG.sI ⟨rfl, Or.inr (Or.inr (Or.inr (Or.inr rfl)))⟩)) ?_ ?_ ?_ ?_ ?_⟩, fun z => absurd rfl z⟩
    · rw [gIk _ _ _ (by decide), gIk _ _ _ (by decide), rE_ge (by omega)]; exact e
    · rw [gIk _ _ _ (by decide), gI]
    · rw [gI, rE_ge (by omega)]; exact e
    · rw [gIk _ _ _ (by decide), gIk _ _ _ (by decide)]
    · rw [gIk _ _ _ (by decide), gIk _ _ _ (by decide), rE_ge (by omega)]; exact hv
  | i + 1, a, h, ha, hb, w, e, hd, hv, K => by
    have hn := w.2.2.2.1
    have eb : btA tp n a = tp a := if_pos (by omega)
    refine vX8_stepOn_123 ⟨w.1.1, _, by rw [e]; exact c_byteAt w (by omega), ?_⟩
    rintro _ _ ⟨rfl, eh⟩
    obtain rfl := eh.symm
    refine ⟨_, c_isDigit, ?_⟩
    rintro _ _ ⟨rfl, eh⟩
    obtain rfl := eh.symm
    rw [eb]
    by_cases z : bDi (tp a) = true
    · rw [if_pos z]
      refine ⟨fun q => absurd q (by decide), fun _ => ⟨w.1.1, _, by rw [e]; exact c_byteAt w (by omega), ?_⟩⟩
      rintro _ _ ⟨rfl, eh⟩
      obtain rfl := eh.symm
      refine ⟨w.1.1, ?_⟩
      have hd' : ∀ j, j < a + 1 - b → bDi (tp (b + j)) = true := fun j hj => by
        by_cases y : j < a - b
        · exact hd j y
        · rw [show b + j = a by omega]; exact z
      have s1 : ∀ u, SG (stP mo) h (sI (sI h mo 15 u) mo 12 (hI h mo 12 + 1)) := fun u => (SG.sI ⟨rfl, Or.inr (Or.inr (Or.inl rfl))⟩).trans (SG.sI ⟨rfl, Or.inl rfl⟩)
      refine l_st123 (b := b) i (a + 1) _ (by omega) (by omega) (w.st (s1 _)) (by rw [gI, e, nI_1]) hd' (fun y => ?_) fun h' s q1 q2 q3 q4 q5 => K h' ((s1 _).trans s) ?_ q2 ?_ ?_ ?_
      · obtain ⟨c, hc, ec⟩ := w.2.2.2.2 a (by omega)
        have z2 := z
        rw [ec] at z2
        have d2 := (bDi_iff hc).mp z2
        have lt := nv_le w.2.2.2.2 (b := b) (a - b) (by omega) hd
        have lt2 : nv tp b (a - b) < 100 := by
          have : a - b = 0 ∨ a - b = 1 := by omega
          rcases this with q | q <;> rw [q] at lt ⊢ <;> omega
        rw [gIk _ _ _ (by decide), gI, eb, ec, hv (by omega), dg_st d2.1 d2.2 lt2, show a + 1 - b = (a - b) + 1 by omega, nv_s, show b + (a - b) = a by omega, ec, nI_clamp (by omega)]
      · rw [rE_yes (by omega) z]; exact q1
      · rw [rE_yes (by omega) z]; exact q3
      · rw [q4, gIk _ _ _ (by decide), gIk _ _ _ (by decide)]
      · rw [rE_yes (by omega) z]; exact q5
    · rw [if_neg z]
      refine ⟨fun _ => ⟨w.1.1, K _ ((SG.sI ⟨rfl, Or.inr (Or.inl rfl)⟩).trans (SG.sI ⟨rfl, Or.inr (Or.inr (Or.inr (Or.inr rfl)))⟩)) ?_ ?_ ?_ ?_ ?_⟩, fun z => absurd rfl z⟩
      · rw [gIk _ _ _ (by decide), gIk _ _ _ (by decide), rE_no (by omega) z]; exact e
      · rw [gIk _ _ _ (by decide), gI]
      · rw [gI, rE_no (by omega) z]; exact e
      · rw [gIk _ _ _ (by decide), gIk _ _ _ (by decide)]
      · rw [gIk _ _ _ (by decide), gIk _ _ _ (by decide), rE_no (by omega) z]; exact hv
theorem c_stepOn (w : GT mo tp n h) {a : Nat} (ha : a ≤ n) (e : hI h mo 12 = nI a) : CV l x mX8_stepOn 1 0 0 [.ref mo] h (fun h' => SG (stP mo) h h' ∧ TKF mo tp n h' (tokB tp n a)) := by
  have hn := w.2.2.2.1
  refine Cm.of (by decide) (Nat.le_of_ble_eq_true rfl) (l_st0 (n - a) a h (by omega) w e fun h1 s1 e1 => ?_)
  have hb := tokB_le (tp := tp) ha
  have w1 := w.st s1
  generalize tokB tp n a = b at *
  refine vX8_stepOn_39 ⟨w1.1.1, ?_⟩
  rw [e1]
  have sb : SG (stP mo) h1 (sI h1 mo 16 (nI b)) := SG.sI ⟨rfl, Or.inr (Or.inr (Or.inr (Or.inl rfl)))⟩
  have w2 := w1.st sb
  have e2 : hI (sI h1 mo 16 (nI b)) mo 12 = nI b := by rw [gIk _ _ _ (by decide)]; exact e1
  have e16 : hI (sI h1 mo 16 (nI b)) mo 16 = nI b := gI _ _ _ _
  generalize sI h1 mo 16 (nI b) = h2 at *
  refine ⟨_, c_byteAt w2 (by omega), ?_⟩
  rintro _ _ ⟨rfl, eh⟩
  obtain rfl := eh.symm
  by_cases z : n ≤ b
  · have eb : btA tp n b = -1 := if_neg (by omega)
    have ek : tkK tp n b = 0 := if_pos z
    have ee : tkE tp n b = b := if_pos z
    rw [eb]
    refine ⟨fun q => absurd rfl q, fun _ => ⟨w2.1.1, rfl, (s1.trans sb).trans ((SG.sI ⟨rfl, Or.inr (Or.inl rfl)⟩).trans (SG.sI ⟨rfl, Or.inr (Or.inr (Or.inr (Or.inr rfl)))⟩)), ?_, ?_, ?_, ?_, ?_⟩⟩
    · rw [gIk _ _ _ (by decide), gIk _ _ _ (by decide), ee]; exact e2
    · rw [gIk _ _ _ (by decide), gI, ek]; rfl
    · rw [gIk _ _ _ (by decide), gIk _ _ _ (by decide)]; exact e16
    · rw [gI, ee]; exact e2
    · rw [ek]; exact fun q => absurd q (by decide)
  · have eb : btA tp n b = tp b := if_pos (by omega)
    obtain ⟨c, hc, ec⟩ := w.2.2.2.2 b (by omega)
    rw [eb]
    refine ⟨fun _ => ⟨_, c_isLetter, ?_⟩, fun q => absurd (ec.symm.trans q) (nI_m1 hc)⟩
    rintro _ _ ⟨rfl, eh⟩
    obtain rfl := eh.symm
    by_cases z1 : bLe (tp b) = true
    · rw [if_pos z1]
      have ek : tkK tp n b = 1 := by unfold tkK; rw [if_neg z, if_pos z1]
      have ee : tkE tp n b = rE bLe tp n b := by unfold tkE; rw [if_neg z, if_pos z1]
      refine ⟨fun q => absurd q (by decide), fun _ => l_st76 (n - b) b _ (by omega) w2 e2 fun h' s q1 q2 q3 q4 => ⟨rfl, (s1.trans sb).trans s, ?_⟩⟩
      unfold TKF
      rw [ek, ee]
      exact ⟨q1, q2, q4.trans e16, q3, fun q => absurd q (by decide)⟩
    · rw [if_neg z1]
      refine ⟨fun _ => ⟨_, c_isDigit, ?_⟩, fun q => absurd rfl q⟩
      rintro _ _ ⟨rfl, eh⟩
      obtain rfl := eh.symm
      by_cases z2 : bDi (tp b) = true
      · rw [if_pos z2]
        have ek : tkK tp n b = 2 := by unfold tkK; rw [if_neg z, if_neg z1, if_pos z2]
        have ee : tkE tp n b = rE bDi tp n b := by unfold tkE; rw [if_neg z, if_neg z1, if_pos z2]
        refine ⟨fun q => absurd q (by decide), fun _ => ⟨w2.1.1, ?_⟩⟩
        have s3 : SG (stP mo) h2 (sI h2 mo 15 0) := SG.sI ⟨rfl, Or.inr (Or.inr (Or.inl rfl))⟩
        refine l_st123 (b := b) (n - b) b _ (by omega) (Nat.le_refl _) (w2.st s3) (by rw [gIk _ _ _ (by decide)]; exact e2) (fun j hj => by omega) (fun _ => by rw [gI, Nat.sub_self]; rfl) fun h' s q1 q2 q3 q4 q5 => ⟨rfl, ((s1.trans sb).trans s3).trans s, ?_⟩
        unfold TKF tkV
        rw [ek, ee]
        exact ⟨q1, q2, by rw [q4, gIk _ _ _ (by decide)]; exact e16, q3, fun _ => q5⟩
      · rw [if_neg z2]
        have ee : tkE tp n b = b + 1 := by unfold tkE; rw [if_neg z, if_neg z1, if_neg z2]
        have ek : tkK tp n b = if tp b = 59 then 3 else 4 := by unfold tkK; rw [if_neg z, if_neg z1, if_neg z2]
        refine ⟨fun _ => ⟨w2.1.1, rfl, (s1.trans sb).trans (((SG.sI ⟨rfl, Or.inl rfl⟩).trans (SG.sI ⟨rfl, Or.inr (Or.inl rfl)⟩)).trans (SG.sI ⟨rfl, Or.inr (Or.inr (Or.inr (Or.inr rfl)))⟩)), ?_, ?_, ?_, ?_, ?_⟩, fun q => absurd rfl q⟩
        · rw [gIk _ _ _ (by decide), gIk _ _ _ (by decide), gI, ee, e2, nI_1]
        · rw [gIk _ _ _ (by decide), gI, ek]; split <;> rfl
        · rw [gIk _ _ _ (by decide), gIk _ _ _ (by decide), gIk _ _ _ (by decide)]; exact e16
        · rw [gI, gI, ee, e2, nI_1]
        · rw [ek]; split <;> exact fun q => absurd q (by decide)
end Token
