/-! WHAT A CLAUSE LEAVES IS GOOD; the reference reads a clause -/
section Good
variable {tp : Nat → Int32} {n : Nat} {d : PD} {cl b : Nat}
def GoodR (n b : Nat) (r : PR) : Prop := ∀ d' b', r = .inr (d', b') → PDok d' ∧ b < b' ∧ b' ≤ n
theorem good_inl {q : Int32 × Nat} : GoodR n b (.inl q) := fun _ _ e => by cases e
theorem good_sgB {b1 : Nat} (hd : PDok d) (h1 : b < b1) (h2 : b1 ≤ n) : GoodR n b (sgB tp n d b1) := by
  intro d' b' e
  unfold sgB at e
  by_cases z : tkK tp n b1 = 3
  · rw [ite'_t z] at e
    have te := tkE_le (tp := tp) h2
    have tb := tokB_le (tp := tp) te.2
    cases e
    exact ⟨hd, by omega, tb.2⟩
  · rw [ite'_f z] at e
    cases e
theorem good_ite {p : Prop} {a c : PR} (h1 : p → GoodR n b a) (h2 : ¬ p → GoodR n b c) : GoodR n b (ite' p a c) := by
  by_cases z : p
  · rw [ite'_t z]; exact h1 z
  · rw [ite'_f z]; exact h2 z
theorem good_nuC {lo hi a : Nat} {k : Nat → Nat → Nat → PR} (ha : b < a) (hn : a ≤ n) (h1 : NB tp n lo hi (tokB tp n a) → b < tkE tp n (tokB tp n a) → tkE tp n (tokB tp n a) ≤ n → GoodR n b (k (tkV tp n (tokB tp n a)) (tokB tp n a) (tkE tp n (tokB tp n a)))) : GoodR n b (nuC tp n lo hi a k) := by
  have tb := tokB_le (tp := tp) hn
  have te := tkE_le (tp := tp) tb.2
  by_cases z : NB tp n lo hi (tokB tp n a)
  · rw [nuC_ok z]; exact h1 z (by omega) te.2
  · rw [nuC_no z]; exact good_inl
theorem good_tok {a : Nat} (h1 : b < a) (h2 : a ≤ n) : b < tokB tp n a ∧ tokB tp n a ≤ n ∧ b < tkE tp n (tokB tp n a) ∧ tkE tp n (tokB tp n a) ≤ n := by
  have tb := tokB_le (tp := tp) h2
  have te := tkE_le (tp := tp) tb.2
  omega
theorem tells_up {t : Nat → Int32} {k j : Nat} {v : Int32} (h : j ≠ k) : tellsT (up t k v) j = tellsT t j := by
  unfold tellsT
  rw [show up t k v j = t j from if_neg h]
theorem pdC_ok (hd : PDok d) {f c s : Nat} (h4 : ¬ d.2.2.2.1 = 4) (hf : f < d.2.2.2.2.1) (h1 : 1 ≤ c) (h6 : c ≤ 6) (hs : s = 0 ∨ s = 1 ∨ s = 2) : PDok (pdC d f c s) := by
  obtain ⟨t, ct, rt, nc, nf, nr⟩ := d
  have T : TD t ct rt nc nf nr := hd
  have hf' : f < nf := hf
  have h4' : ¬ nc = 4 := h4
  have c4 := T.c4
  have old : ∀ j, j < 3 * nc → up (up (up ct (3 * nc) (nI f)) (3 * nc + 1) (nI c)) (3 * nc + 2) (nI s) j = ct j := fun j hj => by
    unfold up
    rw [if_neg (by omega), if_neg (by omega), if_neg (by omega)]
  have n0 : up (up (up ct (3 * nc) (nI f)) (3 * nc + 1) (nI c)) (3 * nc + 2) (nI s) (3 * nc) = nI f := by
    unfold up
    rw [if_neg (by omega), if_neg (by omega), if_pos rfl]
  have n1 : up (up (up ct (3 * nc) (nI f)) (3 * nc + 1) (nI c)) (3 * nc + 2) (nI s) (3 * nc + 1) = nI c := by
    unfold up
    rw [if_neg (by omega), if_pos rfl]
  have n2 : up (up (up ct (3 * nc) (nI f)) (3 * nc + 1) (nI c)) (3 * nc + 2) (nI s) (3 * nc + 2) = nI s := if_pos rfl
  show TD (up t 1 (nI (nc + 1))) (up (up (up ct (3 * nc) (nI f)) (3 * nc + 1) (nI c)) (3 * nc + 2) (nI s)) rt (nc + 1) nf nr
  refine ⟨⟨⟨(if_neg (by decide)).trans T.tk.1.1, ?_⟩, if_pos rfl⟩, T.f2, T.f12, by omega, (if_neg (by decide)).trans T.t2, T.r20, fun k hk => ?_, fun k hk => ?_, T.ri, ?_, ?_, ?_⟩
  · rw [tells_up (by decide)]; exact T.tk.1.2
  · by_cases z : k = nc
    · rw [z, n2]
      rcases hs with q | q | q <;> subst q
      · exact Or.inl rfl
      · exact Or.inr (Or.inl rfl)
      · exact Or.inr (Or.inr rfl)
    · rw [old _ (by omega)]; exact T.ct' k (by omega)
  · by_cases z : k = nc
    · rw [z, n0, n1]; exact ⟨⟨f, rfl, hf'⟩, c, rfl, h1, h6⟩
    · rw [old _ (by omega), old _ (by omega)]; exact T.ca k (by omega)
  · rw [tells_up (by decide)]; exact T.po
  · rw [tells_up (by decide)]; exact T.la
  · rw [tells_up (by decide)]; exact T.pk
theorem pdR_ok (hd : PDok d) {tm f k s : Nat} (h4 : ¬ d.2.2.2.2.2 = 20) (ht : tm ≤ 99) (hf : f < d.2.2.2.2.1) (hk : k < d.2.2.2.2.1) (hs : s = 1 ∨ s = 2) : PDok (pdR d tm f k s) := by
  obtain ⟨t, ct, rt, nc, nf, nr⟩ := d
  have T : TD t ct rt nc nf nr := hd
  have hf' : f < nf := hf
  have hk' : k < nf := hk
  have h4' : ¬ nr = 20 := h4
  have r20 := T.r20
  have old : ∀ j, j < 4 * nr → up (up (up (up rt (4 * nr) (nI s)) (4 * nr + 1) (nI tm)) (4 * nr + 2) (nI f)) (4 * nr + 3) (nI k) j = rt j := fun j hj => by
    unfold up
    rw [if_neg (by omega), if_neg (by omega), if_neg (by omega), if_neg (by omega)]
  have n0 : up (up (up (up rt (4 * nr) (nI s)) (4 * nr + 1) (nI tm)) (4 * nr + 2) (nI f)) (4 * nr + 3) (nI k) (4 * nr) = nI s := by
    unfold up
    rw [if_neg (by omega), if_neg (by omega), if_neg (by omega), if_pos rfl]
  have n1 : up (up (up (up rt (4 * nr) (nI s)) (4 * nr + 1) (nI tm)) (4 * nr + 2) (nI f)) (4 * nr + 3) (nI k) (4 * nr + 1) = nI tm := by
    unfold up
    rw [if_neg (by omega), if_neg (by omega), if_pos rfl]
  have n2 : up (up (up (up rt (4 * nr) (nI s)) (4 * nr + 1) (nI tm)) (4 * nr + 2) (nI f)) (4 * nr + 3) (nI k) (4 * nr + 2) = nI f := by
    unfold up
    rw [if_neg (by omega), if_pos rfl]
  have n3 : up (up (up (up rt (4 * nr) (nI s)) (4 * nr + 1) (nI tm)) (4 * nr + 2) (nI f)) (4 * nr + 3) (nI k) (4 * nr + 3) = nI k := if_pos rfl
  show TD (up t 2 (nI (nr + 1))) ct (up (up (up (up rt (4 * nr) (nI s)) (4 * nr + 1) (nI tm)) (4 * nr + 2) (nI f)) (4 * nr + 3) (nI k)) nc nf (nr + 1)
  refine ⟨⟨⟨(if_neg (by decide)).trans T.tk.1.1, ?_⟩, (if_neg (by decide)).trans T.tk.2⟩, T.f2, T.f12, T.c4, if_pos rfl, by omega, T.ct', T.ca, fun r hr => ?_, ?_, ?_, ?_⟩
  · rw [tells_up (by decide)]; exact T.tk.1.2
  · by_cases z : r = nr
    · rw [z, n0, n1, n2, n3]
      refine ⟨?_, ⟨tm, rfl, ht⟩, ⟨f, rfl, hf'⟩, k, rfl, hk'⟩
      rcases hs with q | q <;> subst q
      · exact Or.inl rfl
      · exact Or.inr rfl
    · rw [old _ (by omega), old _ (by omega), old _ (by omega), old _ (by omega)]; exact T.ri r (by omega)
  · rw [tells_up (by decide)]; exact T.po
  · rw [tells_up (by decide)]; exact T.la
  · rw [tells_up (by decide)]; exact T.pk
theorem nI_nm {v : Nat} (h : v < 100) : ¬ nI v = -1 := nI_m1 (by omega)
theorem tells_s {t : Nat → Int32} {k v : Nat} (h : v < 100) : tellsT (up t k (nI v)) k = nI v := by
  unfold tellsT
  rw [show up t k (nI v) k = nI v from if_pos rfl, if_neg (nI_nm h)]
theorem pdS_ok (hd : PDok d) {k v : Nat} (hk : k = 0 ∨ 2 < k ∧ k < 7) (h0 : k = 0 → d.2.2.2.1 = 0 ∧ d.2.2.2.2.2 = 0) (h1 : lo7 k ≤ v) (h2 : v ≤ hi7 k) : PDok (pdS d k v) := by
  obtain ⟨t, ct, rt, nc, nf, nr⟩ := d
  have T : TD t ct rt nc nf nr := hd
  have h0' : k = 0 → nc = 0 ∧ nr = 0 := h0
  show TD (up t k (nI v)) ct rt nc (if k = 0 then v else nf) nr
  have ks : k = 0 ∨ k = 3 ∨ k = 4 ∨ k = 5 ∨ k = 6 := by omega
  rcases ks with q | q | q | q | q <;> subst q
  · obtain ⟨rfl, rfl⟩ := h0' rfl
    have a1 : 2 ≤ v := h1
    have a2 : v ≤ 12 := h2
    refine ⟨⟨⟨if_pos rfl, ?_⟩, (if_neg (by decide)).trans T.tk.2⟩, a1, a2, T.c4, (if_neg (by decide)).trans T.t2, T.r20, T.ct', fun c hc => absurd hc (Nat.not_lt_zero _), fun c hc => absurd hc (Nat.not_lt_zero _), ?_, ?_, ?_⟩
    · rw [tells_up (by decide)]; exact T.tk.1.2
    · rw [tells_up (by decide)]; exact T.po
    · rw [tells_up (by decide)]; exact T.la
    · rw [tells_up (by decide)]; exact T.pk
  · have a1 : 1 ≤ v := h1
    have a2 : v ≤ 4 := h2
    refine ⟨⟨⟨(if_neg (by decide)).trans T.tk.1.1, v, tells_s (by omega), a1, a2⟩, (if_neg (by decide)).trans T.tk.2⟩, T.f2, T.f12, T.c4, (if_neg (by decide)).trans T.t2, T.r20, T.ct', T.ca, T.ri, ?_, ?_, ?_⟩
    · rw [tells_up (by decide)]; exact T.po
    · rw [tells_up (by decide)]; exact T.la
    · rw [tells_up (by decide)]; exact T.pk
  · have a2 : v ≤ 11 := h2
    refine ⟨⟨⟨(if_neg (by decide)).trans T.tk.1.1, ?_⟩, (if_neg (by decide)).trans T.tk.2⟩, T.f2, T.f12, T.c4, (if_neg (by decide)).trans T.t2, T.r20, T.ct', T.ca, T.ri, ?_, ⟨v, tells_s (by omega), by omega⟩, ?_⟩
    · rw [tells_up (by decide)]; exact T.tk.1.2
    · rw [tells_up (by decide)]; exact T.po
    · rw [tells_up (by decide)]; exact T.pk
  · have a2 : v ≤ 2 := h2
    refine ⟨⟨⟨(if_neg (by decide)).trans T.tk.1.1, ?_⟩, (if_neg (by decide)).trans T.tk.2⟩, T.f2, T.f12, T.c4, (if_neg (by decide)).trans T.t2, T.r20, T.ct', T.ca, T.ri, ?_, ?_, ?_⟩
    · rw [tells_up (by decide)]; exact T.tk.1.2
    · rw [tells_s (by omega)]
      have : v = 0 ∨ v = 1 ∨ v = 2 := by omega
      rcases this with q | q | q <;> subst q
      · exact Or.inl rfl
      · exact Or.inr (Or.inl rfl)
      · exact Or.inr (Or.inr rfl)
    · rw [tells_up (by decide)]; exact T.la
    · rw [tells_up (by decide)]; exact T.pk
  · have a2 : v ≤ 8 := h2
    refine ⟨⟨⟨(if_neg (by decide)).trans T.tk.1.1, ?_⟩, (if_neg (by decide)).trans T.tk.2⟩, T.f2, T.f12, T.c4, (if_neg (by decide)).trans T.t2, T.r20, T.ct', T.ca, T.ri, ?_, ?_, ⟨v, tells_s (by omega), by omega⟩⟩
    · rw [tells_up (by decide)]; exact T.tk.1.2
    · rw [tells_up (by decide)]; exact T.po
    · rw [tells_up (by decide)]; exact T.la
theorem whB_lt : whB tp n b ≤ 7 := by
  have : ∀ (P : Nat → Prop) (j i : Nat), whA P j i ≤ i + j := by
    intro P j
    induction j with
    | zero => intro i; exact Nat.le_refl _
    | succ j ih =>
      intro i
      unfold whA
      by_cases z : P i
      · rw [ite'_t z]; omega
      · rw [ite'_f z]; have := ih (i + 1); omega
  exact this _ 7 0
theorem good_clOf (hd : PDok d) (hb : b ≤ n) (hk : tkK tp n b ≠ 0) (h0 : cl = 0 → d.2.2.2.1 = 0 ∧ d.2.2.2.2.2 = 0) : GoodR n b (clOf tp n d cl b) := by
  have te := tkE_le (tp := tp) hb
  have tl := tkE_lt hk
  have wl := whB_lt (tp := tp) (n := n) (b := b)
  unfold clOf
  refine good_ite (fun _ => ?_) fun z1 => good_ite (fun _ => ?_) fun z2 => good_ite (fun _ => good_inl) fun z7 => ?_
  · by_cases z : d.2.2.2.1 = 4
    · unfold clCar; rw [ite'_t z]; exact good_inl
    · rw [clCar_eq z]
      refine good_nuC tl te.2 fun q1 a1 a2 => good_ite (fun hf => good_nuC a1 a2 fun q2 a3 a4 => ?_) fun _ => good_inl
      have tk := good_tok (tp := tp) a3 a4
      have tk2 := good_tok (tp := tp) tk.2.2.1 tk.2.2.2
      have C : ∀ s, (s = 0 ∨ s = 1 ∨ s = 2) → PDok (pdC d (tkV tp n (tokB tp n (tkE tp n b))) (tkV tp n (tokB tp n (tkE tp n (tokB tp n (tkE tp n b))))) s) := fun s hs => pdC_ok hd z hf q2.2.2.1 q2.2.2.2 hs
      unfold caT
      exact good_ite (fun _ => good_sgB (C 1 (Or.inr (Or.inl rfl))) tk2.1 tk2.2.1) fun _ => good_ite (fun _ => good_sgB (C 2 (Or.inr (Or.inr rfl))) tk2.1 tk2.2.1) fun _ => good_sgB (C 0 (Or.inl rfl)) tk.1 tk.2.1
  · by_cases z : d.2.2.2.2.2 = 20
    · unfold clRid; rw [ite'_t z]; exact good_inl
    · rw [clRid_eq z]
      refine good_nuC tl te.2 fun q1 a1 a2 => ?_
      unfold riF
      refine good_nuC a1 a2 fun q2 a3 a4 => good_ite (fun hf => ?_) fun _ => good_inl
      unfold riG
      refine good_nuC a3 a4 fun q3 a5 a6 => good_ite (fun hf2 => good_ite (fun _ => good_inl) fun _ => ?_) fun _ => good_inl
      have tk := good_tok (tp := tp) a5 a6
      have tk2 := good_tok (tp := tp) tk.2.2.1 tk.2.2.2
      unfold riT
      exact good_ite (fun _ => good_sgB (pdR_ok hd z q1.2.2.2 hf hf2 (Or.inr rfl)) tk2.1 tk2.2.1) fun _ => good_sgB (pdR_ok hd z q1.2.2.2 hf hf2 (Or.inl rfl)) tk.1 tk.2.1
  · unfold clSet
    have kk : whB tp n b = 0 ∨ 2 < whB tp n b ∧ whB tp n b < 7 := by
      have y1 : ¬ whB tp n b = 1 := z1
      have y2 : ¬ whB tp n b = 2 := z2
      have y7 : ¬ whB tp n b = 7 := z7
      omega
    refine good_ite (fun _ => good_inl) fun q => good_nuC tl te.2 fun q2 a1 a2 => ?_
    have tk := good_tok (tp := tp) a1 a2
    exact good_sgB (pdS_ok hd kk (fun e => h0 (Nat.eq_zero_of_not_pos fun y => q (Or.inl ⟨e, y⟩))) q2.2.2.1 q2.2.2.2) tk.1 tk.2.1
end Good
section Clause2
variable {l : Launch} {x : CX} {mo : Nat} {g h : PH} {tp : Nat → Int32} {n : Nat} {d : PD} {cl b : Nat} {rc rs n0 : Nat} {Q : Option Value → PH → Prop} {X : String → PH → Prop}
theorem l_cl46B {u k : Int32} (w : GT mo tp n g) (S : SBD mo g h k b) (K : Q none h) : Gm l x mX8_readClause 8 46 [(0, .ref mo), (1, .int u)] [] h rc rs n0 Q X :=
  wX8_readClause_46 ⟨(w.sg S.1).1.1, fun y => absurd (S.2.1.symm.trans y) S.2.2.1, fun _ => K⟩
theorem l_cl46S {k : Nat} (w : GT mo tp n g) (S : SOK mo tp n g h d cl b) (hk : k = 0 ∨ 2 < k ∧ k < 7) (K : ∀ h', RR mo tp n g (cl + 1) (nuC tp n (lo7 k) (hi7 k) (tkE tp n b) fun v _ e => sgB tp n (pdS d k v) (tokB tp n e)) h' → Q none h') : Gm l x mX8_readClause 8 46 [(0, .ref mo), (1, .int (nI k))] [] h rc rs n0 Q X := by
  have l7 : lo7 k < 1000 := by unfold lo7; split; decide; split <;> decide
  have h7' : hi7 k < 1000 := by unfold hi7; split; decide; split; decide; split; decide; split <;> decide
  have P : ∀ h7, SOK mo tp n g h7 d cl (tokB tp n (tkE tp n b)) → ∃ (q : Int32 → PH → Prop), CI l x mX8_readNumber 2 0 0 [.ref mo, .int (nI (lo7 k)), .int (nI (hi7 k))] h7 q ∧ ∀ (r : Int32) (h' : PH), q r h' → ((hK h' (mo + 5)).1 = 100) ∧ (vp_in (nI k) (hK h' (mo + 5)).2) ∧ Gm l x mX8_readClause 8 152 [(0, .ref mo), (1, .int (nI k))] [] (sI h' (mo + 5) (nI k).toNatClampNeg r) rc rs n0 Q X := fun h7 S7 => by
    refine ⟨_, c_readNumber S7 w l7 h7', ?_⟩
    rintro r h8 (⟨q1, q3, S8⟩ | ⟨q1, S8⟩)
    · have r5 := (w.sg S8.1).1.row 5 5 7 (by decide)
      refine ⟨r5.2.1, by rw [r5.2.2]; exact vp_in_nI (by omega) (by decide), l_cl152 w (Or.inr ⟨_, _, ?_, (S8.r5 (j := (nI k).toNatClampNeg) (v := r)).as (d' := pdS d k (tkV tp n (tokB tp n (tkE tp n b)))) ?_ (fun _ => rfl) fun _ => rfl⟩) K⟩
      · exact nuC_ok q1
      · intro j
        rw [q3, nI_clamp (by omega)]
        rfl
    · have r5 := (w.sg S8.1).1.row 5 5 7 (by decide)
      exact ⟨r5.2.1, by rw [r5.2.2]; exact vp_in_nI (by omega) (by decide), l_cl152 w (Or.inl ⟨_, _, nuC_no q1, S8.row (Or.inl rfl)⟩) K⟩
  have ks : k = 0 ∨ k = 3 ∨ k = 4 ∨ k = 5 ∨ k = 6 := by omega
  have r5 : ∀ {h7}, SOK mo tp n g h7 d cl (tokB tp n (tkE tp n b)) → hR h7 mo 5 = some (mo + 5) := fun S7 => ((w.sg S7.1).1.row 5 5 7 (by decide)).1
  rcases ks with q | q | q | q | q <;> subst q
  · exact wX8_readClause_46 ⟨(w.sg S.1).1.1, fun _ => ⟨fun _ => ⟨fun _ => ⟨_, r_stepOn S w, fun h7 S7 => ⟨(w.sg S7.1).1.1, mo + 5, r5 S7, fun y => absurd rfl y, fun _ => P h7 S7⟩⟩, fun y => absurd y (by decide)⟩, fun y => absurd y (by decide)⟩, fun y => absurd S.2.1 y⟩
  · exact wX8_readClause_46 ⟨(w.sg S.1).1.1, fun _ => ⟨fun _ => ⟨fun _ => ⟨_, r_stepOn S w, fun h7 S7 => ⟨(w.sg S7.1).1.1, mo + 5, r5 S7, fun _ => ⟨fun y => absurd rfl y, fun _ => P h7 S7⟩, fun y => absurd y (by decide)⟩⟩, fun y => absurd y (by decide)⟩, fun y => absurd y (by decide)⟩, fun y => absurd S.2.1 y⟩
  · exact wX8_readClause_46 ⟨(w.sg S.1).1.1, fun _ => ⟨fun _ => ⟨fun _ => ⟨_, r_stepOn S w, fun h7 S7 => ⟨(w.sg S7.1).1.1, mo + 5, r5 S7, fun _ => ⟨fun _ => ⟨fun y => absurd rfl y, fun _ => P h7 S7⟩, fun y => absurd y (by decide)⟩, fun y => absurd y (by decide)⟩⟩, fun y => absurd y (by decide)⟩, fun y => absurd y (by decide)⟩, fun y => absurd S.2.1 y⟩
  · exact wX8_readClause_46 ⟨(w.sg S.1).1.1, fun _ => ⟨fun _ => ⟨fun _ => ⟨_, r_stepOn S w, fun h7 S7 => ⟨(w.sg S7.1).1.1, mo + 5, r5 S7, fun _ => ⟨fun _ => ⟨fun _ => ⟨fun y => absurd rfl y, fun _ => P h7 S7⟩, fun y => absurd y (by decide)⟩, fun y => absurd y (by decide)⟩, fun y => absurd y (by decide)⟩⟩, fun y => absurd y (by decide)⟩, fun y => absurd y (by decide)⟩, fun y => absurd S.2.1 y⟩
  · exact wX8_readClause_46 ⟨(w.sg S.1).1.1, fun _ => ⟨fun _ => ⟨fun _ => ⟨_, r_stepOn S w, fun h7 S7 => ⟨(w.sg S7.1).1.1, mo + 5, r5 S7, fun _ => ⟨fun _ => ⟨fun _ => ⟨fun _ => P h7 S7, fun y => absurd y (by decide)⟩, fun y => absurd y (by decide)⟩, fun y => absurd y (by decide)⟩, fun y => absurd y (by decide)⟩⟩, fun y => absurd y (by decide)⟩, fun y => absurd y (by decide)⟩, fun y => absurd S.2.1 y⟩
theorem c_readClause (S : SOK mo tp n g h d cl b) (w : GT mo tp n g) (xo : XO l x) (hT : PDok d) (hc : cl < 1000) : CV l x mX8_readClause 8 0 0 [.ref mo] h (fun h' => RR mo tp n g (cl + 1) (clOf tp n d cl b) h') := by
  have r5 := (w.sg S.1).1.row 5 5 7 (by decide)
  refine Cm.of (by decide) (Nat.le_of_ble_eq_true rfl) (wX8_readClause_0 ⟨(w.sg S.1).1.1, _, c_which S w xo.2, ?_⟩)
  rintro r h4 ⟨q, eh⟩
  obtain rfl := eh.symm
  unfold clOf
  unfold whB at q
  generalize whA (fun k => isW tp n k b) 7 0 = k at *
  rcases q with ⟨q1, q2⟩ | ⟨q1, q2⟩
  · subst q1
    subst q2
    refine ⟨fun y => absurd rfl y, fun _ => ⟨(w.sg S.1).1.1, _, c_wrong S w (k := 1) (by decide), fun h10 S10 => wX8_readClause_15 ⟨fun _ => ⟨fun _ => l_cl46B w S10 ⟨rfl, ?_⟩, fun y => absurd (by decide) y⟩, fun y => absurd y (by decide)⟩⟩⟩
    rw [ite'_f (by decide), ite'_f (by decide), ite'_t rfl]
    exact S10
  · subst q2
    refine ⟨fun _ => ?_, fun y => absurd y (nI_m1 (by omega))⟩
    by_cases k1 : k = 1
    · subst k1
      refine wX8_readClause_15 ⟨fun _ => ⟨fun _ => wX8_readClause_46 ⟨(w.sg S.1).1.1, fun _ => ⟨fun y => absurd rfl y, fun _ => ⟨_, c_readCar S w xo hT, fun h6 q6 => l_cl152 w q6 fun h' q' => ⟨rfl, ?_⟩⟩⟩, fun y => absurd S.2.1 y⟩, fun y => absurd (by decide) y⟩, fun y => absurd y (by decide)⟩
      rw [ite'_t rfl]
      exact q'
    · by_cases k2 : k = 2
      · subst k2
        refine wX8_readClause_15 ⟨fun _ => ⟨fun _ => wX8_readClause_46 ⟨(w.sg S.1).1.1, fun _ => ⟨fun _ => ⟨fun y => absurd rfl y, fun _ => ⟨_, c_readRider S w xo hT, fun h6 q6 => l_cl152 w q6 fun h' q' => ⟨rfl, ?_⟩⟩⟩, fun y => absurd y (by decide)⟩, fun y => absurd S.2.1 y⟩, fun y => absurd (by decide) y⟩, fun y => absurd y (by decide)⟩
        rw [ite'_f (by decide), ite'_t rfl]
        exact q'
      · have E : ∀ {A B C : PR}, ite' (k = 1) A (ite' (k = 2) B (ite' (k = 7) C (clSet tp n d cl k b))) = clSet tp n d cl k b := by
          intro A B C
          rw [ite'_f k1, ite'_f k2, ite'_f (by omega)]
        rw [E]
        unfold clSet
        have good : ¬ ((k = 0 ∧ 0 < cl) ∨ (2 < k ∧ ¬ d.1 k = -1)) → Gm l x mX8_readClause 8 46 [(0, .ref mo), (1, .int (nI k))] [] h 0 0 (hN h) (fun v h' => v = none ∧ RR mo tp n g (cl + 1) (ite' ((k = 0 ∧ 0 < cl) ∨ (2 < k ∧ ¬ d.1 k = -1)) (.inl (4, b)) (nuC tp n (lo7 k) (hi7 k) (tkE tp n b) fun v _ e => sgB tp n (pdS d k v) (tokB tp n e))) h') (fun _ _ => False) := fun z => by
          rw [ite'_f z]
          exact l_cl46S w S (by omega) fun h' q' => ⟨rfl, q'⟩
        have bad : ∀ {h11 : PH}, ((k = 0 ∧ 0 < cl) ∨ (2 < k ∧ ¬ d.1 k = -1)) → SBD mo g h11 4 b → Gm l x mX8_readClause 8 46 [(0, .ref mo), (1, .int (nI k))] [] h11 0 0 (hN h) (fun v h' => v = none ∧ RR mo tp n g (cl + 1) (ite' ((k = 0 ∧ 0 < cl) ∨ (2 < k ∧ ¬ d.1 k = -1)) (.inl (4, b)) (nuC tp n (lo7 k) (hi7 k) (tkE tp n b) fun v _ e => sgB tp n (pdS d k v) (tokB tp n e))) h') (fun _ _ => False) := fun z S11 => by
          rw [ite'_t z]
          exact l_cl46B w S11 ⟨rfl, S11⟩
        by_cases k0 : k = 0
        · refine wX8_readClause_15 ⟨fun y => absurd (by rw [k0]; rfl) y, fun _ => ⟨(w.sg S.1).1.1, ?_⟩⟩
          rw [S.2.2.1]
          refine ⟨fun y => ⟨_, c_wrong S w (k := 4) (by decide), fun h11 S11 => bad (Or.inl ⟨k0, Nat.pos_of_ne_zero fun e => absurd y (by rw [e]; decide)⟩) S11⟩, fun y => ⟨fun _ => good fun q => ?_, fun y => absurd (by rw [k0]; decide) y⟩⟩
          rcases q with q | q
          · exact y (nI_lt (a := 0) q.2 (by omega))
          · omega
        · have kg : 2 < k := by omega
          refine wX8_readClause_15 ⟨fun _ => ⟨fun y => absurd y (nI_ge (a := 2) kg (by omega)), fun _ => ⟨(w.sg S.1).1.1, mo + 5, r5.1, r5.2.1, by rw [r5.2.2]; exact vp_in_nI (by omega) (by decide), ?_⟩⟩, fun y => absurd y (nI_ne0 (by omega) (by omega))⟩
          rw [nI_clamp (by omega), S.2.2.2.1.1]
          exact ⟨fun y => good fun q => q.elim (fun q => k0 q.1) fun q => q.2 y, fun y => ⟨_, c_wrong S w (k := 4) (by decide), fun h11 S11 => bad (Or.inr ⟨kg, y⟩) S11⟩⟩
end Clause2
