/-! THE CLASS READS A TEXT: tokens, words -/
def ntP (b j : Nat) : Prop := b = 1 ∧ (j = 4 ∨ j = 5 ∨ j = 6 ∨ j = 7)
/-- the Reader, its tape, the Bank that it fills -/
def TH (tp : Nat → Int32) (n : Nat) (h : PH) : Prop := (hK h 1).1 = 4 ∧ hR h 1 0 = some 2 ∧ hK h 2 = (101, 900) ∧ (∀ i, i < n → hI h 2 i = tp i) ∧ n ≤ 900 ∧ BY n tp ∧ hI h 1 3 = nI n ∧ hR h 1 2 = some 3 ∧ BS h 3 ∧ hI h 1 1 = 0
def aE (tp : Nat → Int32) (n b : Nat) : Nat := if tkK tp n b = 4 then b else tkE tp n b
def TKC (tp : Nat → Int32) (n : Nat) (h : PH) (b : Nat) : Prop := hI h 1 4 = nI (aE tp n b) ∧ hI h 1 5 = nI (tkK tp n b) ∧ hI h 1 6 = nI b ∧ (tkK tp n b = 2 → tkE tp n b - b ≤ 2 → hI h 1 7 = nI (tkV tp n b))
section TokenK
variable {l : Launch} {x : CX} {g h h' : PH} {tp : Nat → Int32} {n b : Nat} {rc rs n0 : Nat} {Q : Option Value → PH → Prop} {X : String → PH → Prop}
theorem BS.rk {o : Nat} (q : BS h o) (K : ∀ b, hK h' b = hK h b) (R : ∀ b k, hR h' b k = hR h b k) : BS h' o := by
  unfold BS at q ⊢
  simp only [K, R]
  exact q
theorem TH.sg (w : TH tp n h) (a : SG ntP h h') : TH tp n h' :=
  ⟨by rw [a.hK]; exact w.1, by rw [a.hR]; exact w.2.1, by rw [a.hK]; exact w.2.2.1, fun i hi => (a.2.2.2 2 i (by unfold ntP; omega)).trans (w.2.2.2.1 i hi), w.2.2.2.2.1, w.2.2.2.2.2.1, (a.2.2.2 1 3 (by unfold ntP; omega)).trans w.2.2.2.2.2.2.1, by rw [a.hR]; exact w.2.2.2.2.2.2.2.1, w.2.2.2.2.2.2.2.2.1.rk a.hK a.hR, (a.2.2.2 1 1 (by unfold ntP; omega)).trans w.2.2.2.2.2.2.2.2.2⟩
theorem aE_le (hb : b ≤ n) : b ≤ aE tp n b ∧ aE tp n b ≤ n := by
  unfold aE
  split
  · omega
  · exact tkE_le hb
theorem k_isLetter {v : Int32} : CI l x mX4_isLetter 0 0 0 [.int v] h (fun r h' => r = (if bLe v = true then 1 else 0) ∧ h' = h) := by
  refine Cm.of (by decide) (Nat.le_of_ble_eq_true rfl) (vX4_isLetter_0 ⟨?_, _, rfl, ?_, rfl⟩)
  · split
    · exact Or.inl rfl
    · split
      · exact Or.inl rfl
      · exact Or.inr rfl
  · unfold bLe
    by_cases a : v < 97
    · rw [if_pos a, if_neg]
      rw [Bool.and_eq_true, decide_eq_true_eq]
      exact fun z => absurd z.1 (Int32.not_le.mpr a)
    · rw [if_neg a]
      by_cases b : 122 < v
      · rw [if_pos b, if_neg]
        rw [Bool.and_eq_true, decide_eq_true_eq, decide_eq_true_eq]
        exact fun z => absurd z.2 (Int32.not_le.mpr b)
      · rw [if_neg b, if_pos]
        rw [Bool.and_eq_true, decide_eq_true_eq, decide_eq_true_eq]
        exact ⟨Int32.not_lt.mp a, Int32.not_lt.mp b⟩
theorem k_isDigit {v : Int32} : CI l x mX4_isDigit 0 0 0 [.int v] h (fun r h' => r = (if bDi v = true then 1 else 0) ∧ h' = h) := by
  refine Cm.of (by decide) (Nat.le_of_ble_eq_true rfl) (vX4_isDigit_0 ⟨?_, _, rfl, ?_, rfl⟩)
  · split
    · exact Or.inl rfl
    · split
      · exact Or.inl rfl
      · exact Or.inr rfl
  · unfold bDi
    by_cases a : v < 48
    · rw [if_pos a, if_neg]
      rw [Bool.and_eq_true, decide_eq_true_eq]
      exact fun z => absurd z.1 (Int32.not_le.mpr a)
    · rw [if_neg a]
      by_cases b : 57 < v
      · rw [if_pos b, if_neg]
        rw [Bool.and_eq_true, decide_eq_true_eq, decide_eq_true_eq]
        exact fun z => absurd z.2 (Int32.not_le.mpr b)
      · rw [if_neg b, if_pos]
        rw [Bool.and_eq_true, decide_eq_true_eq, decide_eq_true_eq]
        exact ⟨Int32.not_lt.mp a, Int32.not_lt.mp b⟩
theorem TH.rd (w : TH tp n h) {a : Nat} (e : hI h 1 4 = nI a) (ha : a < n) : hI h 2 (hI h 1 4).toNatClampNeg = tp a := by
  have hn := w.2.2.2.2.1
  rw [e, nI_clamp (by omega)]; exact w.2.2.2.1 a ha
theorem TH.vi (w : TH tp n h) {a : Nat} (e : hI h 1 4 = nI a) (ha : a < n) : vp_in (hI h 1 4) (hK h 2).2 := by
  have hn := w.2.2.2.2.1
  rw [w.2.2.1, e]; exact vp_in_nI (show a < 900 by omega) (by decide)
theorem l_n8 : ∀ (i a : Nat) (h : PH), a + i = n → TH tp n h → hI h 1 4 = nI a → (∀ h', SG ntP h h' → hI h' 1 4 = nI (tokB tp n a) → Gm l x mX4_next 1 60 [(0, .ref 1)] [] h' rc rs n0 Q X) → Gm l x mX4_next 1 8 [(0, .ref 1)] [] h rc rs n0 Q X
  | 0, a, h, ha, w, e, K => by
    have hn := w.2.2.2.2.1
    refine vX4_next_8 ⟨w.1, fun _ => K _ (SG.refl _ _) (by unfold tokB; rw [rE_ge (by omega)]; exact e), fun z => absurd ?_ z⟩
    rw [w.2.2.2.2.2.2.1, e]
    exact nI_le (by omega) (by omega)
  | i + 1, a, h, ha, w, e, K => by
    have hn := w.2.2.2.2.1
    have rd := w.rd e (by omega)
    have vi := w.vi e (by omega)
    have go : bSp (tp a) = true → Gm l x mX4_next 1 8 [(0, .ref 1)] [] (sI h 1 4 (hI h 1 4 + 1)) rc rs n0 Q X := fun z => by
      have s1 : SG ntP h (sI h 1 4 (hI h 1 4 + 1)) := SG.sI ⟨rfl, Or.inl rfl⟩
      refine l_n8 i (a + 1) _ (by omega) (w.sg s1) (by rw [gI, e, nI_1]) fun h' s e' => K h' (s1.trans s) ?_
      rw [e']
      unfold tokB
      rw [rE_yes (by omega) z]
    refine vX4_next_8 ⟨w.1, fun z => absurd z (by rw [w.2.2.2.2.2.2.1, e]; exact nI_ge (by omega) (by omega)), fun _ => ⟨2, w.2.1, by rw [w.2.2.1], vi, fun z => go (by rw [← rd, z]; decide), fun z => ⟨vi, fun y => K _ (SG.refl _ _) ?_, fun y => go (by rw [← rd, y]; decide)⟩⟩⟩
    rw [rd] at z y
    unfold tokB
    rw [rE_no (by omega)]
    · exact e
    · unfold bSp
      rw [Bool.or_eq_true, decide_eq_true_eq, decide_eq_true_eq]
      exact fun q => q.elim z y
theorem l_n139 : ∀ (i a : Nat) (h : PH), a + i = n → TH tp n h → hI h 1 4 = nI a → (∀ h', SG ntP h h' → hI h' 1 4 = nI (rE bLe tp n a) → hI h' 1 5 = hI h 1 5 → hI h' 1 6 = hI h 1 6 → Q none h') → Gm l x mX4_next 1 139 [(0, .ref 1)] [] h rc rs n0 Q X
  | 0, a, h, ha, w, e, K => by
    have hn := w.2.2.2.2.1
    refine vX4_next_139 ⟨w.1, fun _ => K _ (SG.refl _ _) (by rw [rE_ge (by omega)]; exact e) rfl rfl, fun z => absurd ?_ z⟩
    rw [w.2.2.2.2.2.2.1, e]
    exact nI_le (by omega) (by omega)
  | i + 1, a, h, ha, w, e, K => by
    have hn := w.2.2.2.2.1
    have rd := w.rd e (by omega)
    refine vX4_next_139 ⟨w.1, fun z => absurd z (by rw [w.2.2.2.2.2.2.1, e]; exact nI_ge (by omega) (by omega)), fun _ => ⟨2, w.2.1, by rw [w.2.2.1], w.vi e (by omega), _, by rw [rd]; exact k_isLetter, ?_⟩⟩
    rintro _ _ ⟨rfl, eh⟩
    obtain rfl := eh.symm
    by_cases z : bLe (tp a) = true
    · rw [if_pos z]
      refine ⟨fun q => absurd q (by decide), fun _ => ⟨w.1, ?_⟩⟩
      have s1 : SG ntP h (sI h 1 4 (hI h 1 4 + 1)) := SG.sI ⟨rfl, Or.inl rfl⟩
      refine l_n139 i (a + 1) _ (by omega) (w.sg s1) (by rw [gI, e, nI_1]) fun h' s q1 q2 q3 => K h' (s1.trans s) ?_ ?_ ?_
      · rw [rE_yes (by omega) z]; exact q1
      · rw [q2, gIk _ _ _ (by decide)]
      · rw [q3, gIk _ _ _ (by decide)]
    · rw [if_neg z]
      exact ⟨fun _ => K _ (SG.refl _ _) (by rw [rE_no (by omega) z]; exact e) rfl rfl, fun q => absurd rfl q⟩
theorem dg_k {c m : Nat} (h1 : 48 ≤ c) (h2 : c ≤ 57) (hm : m < 100) : (if 999 < nI m * 10 + nI c - 48 then 999 else nI m * 10 + nI c - 48 : Int32) = nI (10 * m + (c - 48)) := by
  have e : nI m * 10 + nI c - 48 = nI (10 * m + (c - 48)) := by
    show nI m * nI 10 + nI c - nI 48 = _
    rw [nI_mul, nI_add, nI_sub (by omega)]
    congr 1
    omega
  rw [e, if_neg]
  exact Int32.not_lt.mpr (nI_le (b := 999) (by omega) (by decide))
theorem l_n203 {b : Nat} : ∀ (i a : Nat) (h : PH), a + i = n → b ≤ a → TH tp n h → hI h 1 4 = nI a → (∀ j, j < a - b → bDi (tp (b + j)) = true) → (a - b ≤ 2 → hI h 1 7 = nI (nv tp b (a - b))) → (∀ h', SG ntP h h' → hI h' 1 4 = nI (rE bDi tp n a) → hI h' 1 5 = hI h 1 5 → hI h' 1 6 = hI h 1 6 → (rE bDi tp n a - b ≤ 2 → hI h' 1 7 = nI (nv tp b (rE bDi tp n a - b))) → Q none h') → Gm l x mX4_next 1 203 [(0, .ref 1)] [] h rc rs n0 Q X
  | 0, a, h, ha, hb, w, e, hd, hv, K => by
    have hn := w.2.2.2.2.1
    refine vX4_next_203 ⟨w.1, fun _ => K _ (SG.refl _ _) (by rw [rE_ge (by omega)]; exact e) rfl rfl (by rw [rE_ge (by omega)]; exact hv), fun z => absurd ?_ z⟩
    rw [w.2.2.2.2.2.2.1, e]
    exact nI_le (by omega) (by omega)
  | i + 1, a, h, ha, hb, w, e, hd, hv, K => by
    have hn := w.2.2.2.2.1
    have rd := w.rd e (by omega)
    refine vX4_next_203 ⟨w.1, fun z => absurd z (by rw [w.2.2.2.2.2.2.1, e]; exact nI_ge (by omega) (by omega)), fun _ => ⟨2, w.2.1, by rw [w.2.2.1], w.vi e (by omega), _, by rw [rd]; exact k_isDigit, ?_⟩⟩
    rintro _ _ ⟨rfl, eh⟩
    obtain rfl := eh.symm
    by_cases z : bDi (tp a) = true
    · rw [if_pos z]
      refine ⟨fun q => absurd q (by decide), fun _ => ⟨w.1, 2, w.2.1, by rw [w.2.2.1], w.vi e (by omega), ?_⟩⟩
      have hd' : ∀ j, j < a + 1 - b → bDi (tp (b + j)) = true := fun j hj => by
        by_cases y : j < a - b
        · exact hd j y
        · rw [show b + j = a by omega]; exact z
      have s1 : ∀ u, SG ntP h (sI (sI h 1 7 u) 1 4 (hI h 1 4 + 1)) := fun u => (SG.sI ⟨rfl, Or.inr (Or.inr (Or.inr rfl))⟩).trans (SG.sI ⟨rfl, Or.inl rfl⟩)
      refine l_n203 (b := b) i (a + 1) _ (by omega) (by omega) (w.sg (s1 _)) (by rw [gI, e, nI_1]) hd' (fun y => ?_) fun h' s q1 q2 q3 q5 => K h' ((s1 _).trans s) ?_ ?_ ?_ ?_
      · obtain ⟨c, hc, ec⟩ := w.2.2.2.2.2.1 a (by omega)
        have z2 := z
        rw [ec] at z2
        have d2 := (bDi_iff hc).mp z2
        have lt := nv_le w.2.2.2.2.2.1 (b := b) (a - b) (by omega) hd
        have lt2 : nv tp b (a - b) < 100 := by
          have : a - b = 0 ∨ a - b = 1 := by omega
          rcases this with q | q <;> rw [q] at lt ⊢ <;> omega
        rw [gIk _ _ _ (by decide), gI, rd, ec, hv (by omega), dg_k d2.1 d2.2 lt2, show a + 1 - b = (a - b) + 1 by omega, nv_s, show b + (a - b) = a by omega, ec, nI_clamp (by omega)]
      · rw [rE_yes (by omega) z]; exact q1
      · rw [q2, gIk _ _ _ (by decide), gIk _ _ _ (by decide)]
      · rw [q3, gIk _ _ _ (by decide), gIk _ _ _ (by decide)]
      · rw [rE_yes (by omega) z]; exact q5
    · rw [if_neg z]
      exact ⟨fun _ => K _ (SG.refl _ _) (by rw [rE_no (by omega) z]; exact e) rfl rfl (by rw [rE_no (by omega) z]; exact hv), fun q => absurd rfl q⟩
theorem k_next (w : TH tp n h) (h9 : hI h 1 10 = 0) {a : Nat} (ha : a ≤ n) (e : hI h 1 4 = nI a) : CV l x mX4_next 1 0 0 [.ref 1] h (fun h' => SG ntP h h' ∧ TKC tp n h' (tokB tp n a)) := by
  have hn := w.2.2.2.2.1
  refine Cm.of (by decide) (Nat.le_of_ble_eq_true rfl) (vX4_next_0 ⟨w.1, fun _ => l_n8 (n - a) a h (by omega) w e fun h1 s1 e1 => ?_, fun z => absurd h9 z⟩)
  have hb := tokB_le (tp := tp) ha
  have w1 := w.sg s1
  generalize tokB tp n a = b at *
  have sb : SG ntP h1 (sI h1 1 6 (hI h1 1 4)) := SG.sI ⟨rfl, Or.inr (Or.inr (Or.inl rfl))⟩
  have w2 := w1.sg sb
  have e2 : hI (sI h1 1 6 (hI h1 1 4)) 1 4 = nI b := by rw [gIk _ _ _ (by decide)]; exact e1
  have e5 : hI (sI h1 1 6 (hI h1 1 4)) 1 6 = nI b := by rw [gI]; exact e1
  have et : hI (sI h1 1 6 (hI h1 1 4)) 2 (hI h1 1 4).toNatClampNeg = hI h1 2 (hI h1 1 4).toNatClampNeg := gIa _ _ _ _ (by decide)
  refine vX4_next_60 ⟨w1.1, fun z => ?_, fun z => ?_⟩
  · rw [w1.2.2.2.2.2.2.1, e1] at z
    have z : b < n := (nI_ltI (by omega) (by omega)).mp z
    have zn : ¬ n ≤ b := by omega
    have rd := w1.rd e1 z
    have vi := w1.vi e1 z
    refine ⟨2, w1.2.1, by rw [w1.2.2.1], vi, ?_⟩
    rw [et, rd]
    refine ⟨fun z5 => ⟨vi, _, k_isLetter, ?_⟩, fun z5 => ?_⟩
    · rintro _ hh ⟨rfl, eh⟩
      rw [eh]
      clear eh hh
      generalize sI h1 1 6 (hI h1 1 4) = h2 at *
      by_cases z1 : bLe (tp b) = true
      · rw [if_pos z1]
        have ek : tkK tp n b = 1 := by unfold tkK; rw [if_neg zn, if_pos z1]
        have ee : tkE tp n b = rE bLe tp n b := by unfold tkE; rw [if_neg zn, if_pos z1]
        have s3 : SG ntP h2 (sI h2 1 5 1) := SG.sI ⟨rfl, Or.inr (Or.inl rfl)⟩
        refine ⟨fun q => absurd q (by decide), fun _ => ⟨w2.1, l_n139 (n - b) b _ (by omega) (w2.sg s3) (by rw [gIk _ _ _ (by decide)]; exact e2) fun h' s q1 q2 q3 => ⟨rfl, ((s1.trans sb).trans s3).trans s, ?_⟩⟩⟩
        unfold TKC aE
        rw [ek, if_neg (by decide), ee]
        exact ⟨q1, by rw [q2, gI]; rfl, by rw [q3, gIk _ _ _ (by decide)]; exact e5, fun q => absurd q (by decide)⟩
      · rw [if_neg z1]
        refine ⟨fun _ => ⟨w2.1, 2, w2.2.1, by rw [w2.2.2.1], w2.vi e2 z, _, by rw [w2.rd e2 z]; exact k_isDigit, ?_⟩, fun q => absurd rfl q⟩
        rintro _ hh ⟨rfl, eh⟩
        rw [eh]
        clear eh hh
        by_cases z2 : bDi (tp b) = true
        · rw [if_pos z2]
          have ek : tkK tp n b = 2 := by unfold tkK; rw [if_neg zn, if_neg z1, if_pos z2]
          have ee : tkE tp n b = rE bDi tp n b := by unfold tkE; rw [if_neg zn, if_neg z1, if_pos z2]
          have s3 : SG ntP h2 (sI (sI h2 1 5 2) 1 7 0) := (SG.sI ⟨rfl, Or.inr (Or.inl rfl)⟩).trans (SG.sI ⟨rfl, Or.inr (Or.inr (Or.inr rfl))⟩)
          refine ⟨fun q => absurd q (by decide), fun _ => ⟨w2.1, l_n203 (b := b) (n - b) b _ (by omega) (Nat.le_refl _) (w2.sg s3) (by rw [gIk _ _ _ (by decide), gIk _ _ _ (by decide)]; exact e2) (fun j hj => by omega) (fun _ => by rw [gI, Nat.sub_self]; rfl) fun h' s q1 q2 q3 q5 => ⟨rfl, ((s1.trans sb).trans s3).trans s, ?_⟩⟩⟩
          unfold TKC aE tkV
          rw [ek, if_neg (by decide), ee]
          exact ⟨q1, by rw [q2, gIk _ _ _ (by decide), gI]; rfl, by rw [q3, gIk _ _ _ (by decide), gIk _ _ _ (by decide)]; exact e5, fun _ => q5⟩
        · rw [if_neg z2]
          have ek : tkK tp n b = 4 := by unfold tkK; rw [if_neg zn, if_neg z1, if_neg z2, if_neg z5]
          refine ⟨fun _ => ⟨w2.1, rfl, (s1.trans sb).trans (SG.sI ⟨rfl, Or.inr (Or.inl rfl)⟩), ?_⟩, fun q => absurd rfl q⟩
          unfold TKC aE
          rw [ek, if_pos rfl]
          exact ⟨by rw [gIk _ _ _ (by decide)]; exact e2, by rw [gI]; rfl, by rw [gIk _ _ _ (by decide)]; exact e5, fun q => absurd q (by decide)⟩
    · have z1 : ¬ bLe (tp b) = true := by rw [z5]; decide
      have z2 : ¬ bDi (tp b) = true := by rw [z5]; decide
      have ek : tkK tp n b = 3 := by unfold tkK; rw [if_neg zn, if_neg z1, if_neg z2, if_pos z5]
      have ee : tkE tp n b = b + 1 := by unfold tkE; rw [if_neg zn, if_neg z1, if_neg z2]
      refine ⟨rfl, (s1.trans sb).trans ((SG.sI ⟨rfl, Or.inr (Or.inl rfl)⟩).trans (SG.sI ⟨rfl, Or.inl rfl⟩)), ?_⟩
      unfold TKC aE
      rw [ek, if_neg (by decide), ee]
      exact ⟨by rw [gI, e1, nI_1], by rw [gIk _ _ _ (by decide), gI]; rfl, by rw [gIk _ _ _ (by decide), gIk _ _ _ (by decide)]; exact e5, fun q => absurd q (by decide)⟩
  · rw [w1.2.2.2.2.2.2.1, e1] at z
    have z : n ≤ b := Nat.le_of_not_lt fun y => z (nI_lt y (by omega))
    have ek : tkK tp n b = 0 := if_pos z
    have ee : tkE tp n b = b := if_pos z
    refine ⟨rfl, (s1.trans sb).trans (SG.sI ⟨rfl, Or.inr (Or.inl rfl)⟩), ?_⟩
    unfold TKC aE
    rw [ek, if_neg (by decide), ee]
    exact ⟨by rw [gIk _ _ _ (by decide)]; exact e2, by rw [gI]; rfl, by rw [gIk _ _ _ (by decide)]; exact e5, fun q => absurd q (by decide)⟩
theorem k_isWord (w : TH tp n h) (T : TKC tp n h b) (hb : b ≤ n) (xs : XS l x) {k : Nat} (hk : k < 10) : CI l x mX4_isWord 6 0 0 [.ref 1, .retAddr k] h (fun r h' => (isW tp n k b ∧ r = 1 ∨ ¬ isW tp n k b ∧ r = 0) ∧ h' = h) := by
  have hn := w.2.2.2.2.1
  have te := tkE_le (tp := tp) hb
  have L : txL k = (wordL k).length := rfl
  have l8 := wordL_len k
  refine Cm.of (by decide) (Nat.le_of_ble_eq_true rfl) (vX4_isWord_0 ⟨w.1, fun z => ⟨Or.inl rfl, _, rfl, Or.inr ⟨fun q => z ?_, rfl⟩, rfl⟩, fun z => ⟨_, xs.1 k _ (by omega), ?_⟩⟩)
  · rw [T.2.1, q.1]; rfl
  · have ek : tkK tp n b = 1 := by
      rw [T.2.1] at z
      exact (nI_eq (b := 1) (by have := tkK_lt (tp := tp) (n := n) (b := b); omega) (by decide)).mp z
    have ea : aE tp n b = tkE tp n b := by unfold aE; rw [ek, if_neg (by decide)]
    rw [T.1, T.2.2.1, ea, nI_sub te.1, L]
    refine ⟨fun z1 => ?_, fun z1 => ⟨Or.inl rfl, _, rfl, Or.inr ⟨fun q => z1 (by rw [show tkE tp n b - b = (wordL k).length by have := q.2.1; omega]), rfl⟩, rfl⟩⟩
    have z1 : tkE tp n b - b = (wordL k).length := (nI_eq (by omega) (by omega)).mp z1
    have loop : ∀ (j i : Nat), i + j = (wordL k).length → (∀ m, m < i → tp (b + m) = nI ((wordL k).getD m 0)) → Gm l x mX4_isWord 6 28 [(0, .ref 1), (1, .retAddr k), (2, .int (nI i))] [] h 0 0 (hN h) (fun v h' => ∃ r, v = some (.int r) ∧ (isW tp n k b ∧ r = 1 ∨ ¬ isW tp n k b ∧ r = 0) ∧ h' = h) (fun _ _ => False) := by
      intro j
      induction j with
      | zero =>
        intro i hi hm
        refine vX4_isWord_28 ⟨_, xs.2.1 k _ (by omega), fun _ => ⟨Or.inr rfl, _, rfl, Or.inl ⟨⟨ek, by omega, fun m hm' => hm m (by omega)⟩, rfl⟩, rfl⟩, fun q => absurd ?_ q⟩
        rw [L]
        exact nI_le (by omega) (by omega)
      | succ j ih =>
        intro i hi hm
        refine vX4_isWord_28 ⟨_, xs.2.1 k _ (by omega), fun q => absurd q (by rw [L]; exact nI_ge (by omega) (by omega)), fun _ => ⟨w.1, 2, w.2.1, by rw [w.2.2.1], ?_, _, xs.2.2.1 k i _ (by omega) (by rw [L]; omega), ?_⟩⟩
        · rw [T.2.2.1, nI_add, w.2.2.1]
          exact vp_in_nI (show b + i < 900 by omega) (by decide)
        · rw [T.2.2.1, nI_add, nI_clamp (by omega), w.2.2.2.1 _ (by omega), show txC k i = (wordL k).getD i 0 from rfl, nI_1]
          refine ⟨fun z2 => ih (i + 1) (by omega) fun m hm' => ?_, fun z2 => ⟨Or.inl rfl, _, rfl, Or.inr ⟨fun q => z2 (q.2.2 i (by omega)), rfl⟩, rfl⟩⟩
          by_cases z3 : m = i
          · rw [z3]; exact z2
          · exact hm m (by omega)
    exact loop _ 0 (Nat.zero_add _) fun m hm => absurd hm (Nat.not_lt_zero m)
end TokenK
