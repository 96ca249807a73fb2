/-! THE LAW: one call after another (printed by program: gen_cases.py) -/
section Thr
theorem thr1 {p : Prop} {a : Int32} {k : Nat} (e : ite' p (.inl a) (.inr 1) = (.inr k : Int32 ⊕ Nat)) : k = 1 := by
  by_cases z : p
  · rw [ite'_t z] at e; cases e
  · rw [ite'_f z] at e; cases e; rfl
theorem thr2 {p q : Prop} {a : Int32} {k : Nat} (e : ite' p (ite' q (.inl a) (.inr 2)) (.inr 1) = (.inr k : Int32 ⊕ Nat)) : k = 1 ∨ k = 2 := by
  by_cases z : p
  · rw [ite'_t z] at e
    by_cases y : q
    · rw [ite'_t y] at e; cases e
    · rw [ite'_f y] at e; cases e; exact Or.inr rfl
  · rw [ite'_f z] at e; cases e; exact Or.inl rfl
theorem thr3 {p q : Prop} {a : Int32} {k : Nat} (e : ite' p (ite' q (.inr 2) (.inl a)) (.inr 1) = (.inr k : Int32 ⊕ Nat)) : k = 1 ∨ k = 2 := by
  by_cases z : p
  · rw [ite'_t z] at e
    by_cases y : q
    · rw [ite'_t y] at e; cases e; exact Or.inr rfl
    · rw [ite'_f y] at e; cases e
  · rw [ite'_f z] at e; cases e; exact Or.inl rfl
theorem ifl {p : Prop} [Decidable p] {a : Int32} {B : Int32 ⊕ Nat} {j : Nat} (e : (if p then .inl a else B) = .inr j) : B = .inr j := by
  by_cases z : p
  · rw [if_pos z] at e; cases e
  · rw [if_neg z] at e; exact e
theorem thrC {f t ct rt s : Nat → Int32} {nc nf nr nr' n k tl : Nat} {i : Int} {j : Nat} (e : cntV f t ct rt nc nf nr nr' n k tl s i = .inr j) : j = 1 := by
  unfold cntV at e
  iterate 30 replace e := ifl e
  cases e
  rfl
theorem ek_1 {k : Nat} (e : k = 1) : ek1 (exN k) = nI k ∧ ¬ nI k = 0 := by subst e; exact ⟨rfl, by decide⟩
theorem ek_i {k : Nat} (e : k = 1) : ek1 (exI k) = nI k ∧ ¬ nI k = 0 := by subst e; exact ⟨rfl, by decide⟩
theorem ek_2 {k : Nat} (e : k = 1 ∨ k = 2) : ek2 (exN k) = nI k ∧ ¬ nI k = 0 := by
  rcases e with rfl | rfl
  · exact ⟨by decide +kernel, by decide⟩
  · exact ⟨by decide +kernel, by decide⟩
theorem ex_1 {k : Nat} (e : k = 1) : exN k = "java/util/NoSuchElementException" := by subst e; rfl
theorem ex_2 (k : Nat) : exN k = "java/util/NoSuchElementException" ∨ exN k = "java/lang/IllegalArgumentException" := by
  unfold exN
  split
  · exact Or.inl rfl
  · exact Or.inr rfl
end Thr
section Law2
variable {l : Launch} {x : CX} {h : PH} {nc nf nr tl k rc rs n0 xL : Nat} {t ct rt tp : Nat → Int32} {D : DT} {fp : Int32} {I : Option DT} {xs : Nat → Int32} {x4 : Int32} {Q : Option Value → PH → Prop} {X : String → PH → Prop}
theorem law_count (sz : ScrOk x xL xs) (xo : XO l x) (nk : NcOk x) (q : IN h t ct rt nc nf nr D tl tp fp I) (b : BU h (k + 1) rc rs) (v1 : vp_in (x4 + 1) xL) (N : NX l x x4 k n0 Q X) : Gm l x mL_law 15 306 [(0, .retAddr 999), (1, .ref 0), (2, .ref 177), (3, .ref 200), (4, .int x4)] [] h rc rs n0 Q X := by
  have b0 := b
  unfold BU at b0
  refine vL_law_306 sz ⟨v1, 1, 6, _, by omega, by omega, w_count nk q.k7 (k_count xo.1 q.1) (fun v h' z => by obtain ⟨r, e, _, K⟩ := z; exact ⟨r, e, by rw [(K.2.1 200 (by decide) (by decide)).1]; exact q.2.1.2.2.2.2.2⟩) (fun E h' z => by obtain ⟨k, e, e2, _⟩ := z; rw [e2]; exact ex_1 (thrC e)), ?_⟩
  rintro r7 h6 w6
  obtain ⟨q6, b6, c6⟩ := wr_mid q w6 (fun k e => ek_1 (thrC e)) b
  refine ⟨v1, q6.2.1.k8, _, p_count q6.2.1.1 q6.2.1.2.1.1 q.W.1 q.W.2.1.w q6.2.1.2.1.2.1.1 q6.2.1.2.1.2.2.1.1 q6.2.1.2.2.1.1 q6.2.1.2.1.2.2.2, ?_⟩
  rintro r13 h12 p12
  exact wr_tail q6 c6 p12 b6 N
theorem law_car (sz : ScrOk x xL xs) (xo : XO l x) (nk : NcOk x) (q : IN h t ct rt nc nf nr D tl tp fp I) (b : BU h (k + 1) rc rs) (v1 : vp_in (x4 + 1) xL) (v2 : vp_in (x4 + 2) xL) (N : NX l x x4 k n0 Q X) : Gm l x mL_law 15 362 [(0, .retAddr 999), (1, .ref 0), (2, .ref 177), (3, .ref 200), (4, .int x4)] [] h rc rs n0 Q X := by
  have b0 := b
  unfold BU at b0
  refine vL_law_362 sz ⟨v1, v2, 1, 6, _, by omega, by omega, w_car nk q.k7 (k_car xo.1 q.1) (fun v h' z => by obtain ⟨r, e, _, K⟩ := z; exact ⟨r, e, by rw [(K.2.1 200 (by decide) (by decide)).1]; exact q.2.1.2.2.2.2.2⟩) (fun E h' z => by obtain ⟨k, e, e2, _⟩ := z; rw [e2]; exact ex_1 (by unfold aCar at e; exact thr1 e)), ?_⟩
  rintro r7 h6 w6
  obtain ⟨q6, b6, c6⟩ := wr_mid q w6 (fun k e => ek_1 (by unfold aCar at e; exact thr1 e)) b
  refine ⟨v1, v2, q6.2.1.k8, _, p_car q6.2.1.1.1 q6.2.1.2.1.1 q.W.1.tk q.W.2.1.w, ?_⟩
  rintro r13 h12 p12
  exact wr_tail q6 c6 p12 b6 N
theorem law_rider (sz : ScrOk x xL xs) (xo : XO l x) (nk : NcOk x) (q : IN h t ct rt nc nf nr D tl tp fp I) (b : BU h (k + 1) rc rs) (v1 : vp_in (x4 + 1) xL) (v2 : vp_in (x4 + 2) xL) (N : NX l x x4 k n0 Q X) : Gm l x mL_law 15 430 [(0, .retAddr 999), (1, .ref 0), (2, .ref 177), (3, .ref 200), (4, .int x4)] [] h rc rs n0 Q X := by
  have b0 := b
  unfold BU at b0
  refine vL_law_430 sz ⟨v1, v2, 1, 6, _, by omega, by omega, w_rider nk q.k7 (k_rider xo.1 q.1) (fun v h' z => by obtain ⟨r, e, _, K⟩ := z; exact ⟨r, e, by rw [(K.2.1 200 (by decide) (by decide)).1]; exact q.2.1.2.2.2.2.2⟩) (fun E h' z => by obtain ⟨k, e, e2, _⟩ := z; rw [e2]; exact ex_1 (by unfold aRider at e; exact thr1 e)), ?_⟩
  rintro r7 h6 w6
  obtain ⟨q6, b6, c6⟩ := wr_mid q w6 (fun k e => ek_1 (by unfold aRider at e; exact thr1 e)) b
  refine ⟨v1, v2, q6.2.1.k8, _, p_rider q6.2.1.1.1.1 q6.2.1.2.1.1 q.W.2.1.w.f6 q.W.2.1.w.r24, ?_⟩
  rintro r13 h12 p12
  exact wr_tail q6 c6 p12 b6 N
theorem law_given (sz : ScrOk x xL xs) (xo : XO l x) (nk : NcOk x) (q : IN h t ct rt nc nf nr D tl tp fp I) (b : BU h (k + 1) rc rs) (v1 : vp_in (x4 + 1) xL) (v2 : vp_in (x4 + 2) xL) (v3 : vp_in (x4 + 3) xL) (N : NX l x x4 k n0 Q X) : Gm l x mL_law 15 498 [(0, .retAddr 999), (1, .ref 0), (2, .ref 177), (3, .ref 200), (4, .int x4)] [] h rc rs n0 Q X := by
  have b0 := b
  unfold BU at b0
  refine vL_law_498 sz ⟨v1, v2, v3, 1, 6, _, by omega, by omega, w_given nk q.k7 (k_given xo.1 q.1) (fun v h' z => by obtain ⟨r, e, _, K⟩ := z; exact ⟨r, e, by rw [(K.2.1 200 (by decide) (by decide)).1]; exact q.2.1.2.2.2.2.2⟩) (fun E h' z => by obtain ⟨k, e, e2, _⟩ := z; rw [e2]; exact ex_1 (by unfold aGiven at e; exact thr1 e)), ?_⟩
  rintro r7 h6 w6
  obtain ⟨q6, b6, c6⟩ := wr_mid q w6 (fun k e => ek_1 (by unfold aGiven at e; exact thr1 e)) b
  refine ⟨v1, v2, v3, q6.2.1.k8, _, p_given q6.2.1.1.1 q6.2.1.2.1.1 q.W.1.tk q.W.2.1.w, ?_⟩
  rintro r13 h12 p12
  exact wr_tail q6 c6 p12 b6 N
theorem law_cost (sz : ScrOk x xL xs) (xo : XO l x) (nk : NcOk x) (q : IN h t ct rt nc nf nr D tl tp fp I) (b : BU h (k + 1) rc rs) (v1 : vp_in (x4 + 1) xL) (v2 : vp_in (x4 + 2) xL) (v3 : vp_in (x4 + 3) xL) (v4 : vp_in (x4 + 4) xL) (N : NX l x x4 k n0 Q X) : Gm l x mL_law 15 594 [(0, .retAddr 999), (1, .ref 0), (2, .ref 177), (3, .ref 200), (4, .int x4)] [] h rc rs n0 Q X := by
  have b0 := b
  unfold BU at b0
  refine vL_law_594 sz ⟨v1, v2, v3, v4, 1, 6, _, by omega, by omega, w_cost nk q.k7 (k_cost xo.1 q.1) (fun v h' z => by obtain ⟨r, e, _, K⟩ := z; exact ⟨r, e, by rw [(K.2.1 200 (by decide) (by decide)).1]; exact q.2.1.2.2.2.2.2⟩) (fun E h' z => by obtain ⟨k, e, e2, _⟩ := z; rw [e2]; exact ex_2 k), ?_⟩
  rintro r7 h6 w6
  obtain ⟨q6, b6, c6⟩ := wr_mid q w6 (fun k e => ek_2 (by unfold aCost at e; exact thr3 e)) b
  refine ⟨v1, v2, v3, v4, q6.2.1.k8, _, p_cost q6.2.1.1.1 q6.2.1.2.1.1 q.W.1.tk q.W.2.1.w, ?_⟩
  rintro r13 h12 p12
  exact wr_tail q6 c6 p12 b6 N
theorem law_ahead (sz : ScrOk x xL xs) (xo : XO l x) (nk : NcOk x) (q : IN h t ct rt nc nf nr D tl tp fp I) (b : BU h (k + 1) rc rs) (v1 : vp_in (x4 + 1) xL) (v2 : vp_in (x4 + 2) xL) (N : NX l x x4 k n0 Q X) : Gm l x mL_law 15 920 [(0, .retAddr 999), (1, .ref 0), (2, .ref 177), (3, .ref 200), (4, .int x4)] [] h rc rs n0 Q X := by
  have b0 := b
  unfold BU at b0
  refine vL_law_920 sz ⟨v1, v2, 1, 6, _, by omega, by omega, w_ahead nk q.k7 (k_ahead xo.1 q.1) (fun v h' z => by obtain ⟨r, e, _, K⟩ := z; exact ⟨r, e, by rw [(K.2.1 200 (by decide) (by decide)).1]; exact q.2.1.2.2.2.2.2⟩) (fun E h' z => by obtain ⟨k, e, e2, _⟩ := z; rw [e2]; exact ex_2 k), ?_⟩
  rintro r7 h6 w6
  obtain ⟨q6, b6, c6⟩ := wr_mid q w6 (fun k e => ek_2 (by unfold aAhead at e; exact thr2 e)) b
  refine ⟨v1, v2, q6.2.1.k8, _, p_ahead q6.2.1.1 q6.2.1.2.1.1 q.W.1.tk q.W.2.1.w, ?_⟩
  rintro r13 h12 p12
  exact wr_tail q6 c6 p12 b6 N
theorem law_when (sz : ScrOk x xL xs) (xo : XO l x) (nk : NcOk x) (q : IN h t ct rt nc nf nr D tl tp fp I) (b : BU h (k + 1) rc rs) (v1 : vp_in (x4 + 1) xL) (N : NX l x x4 k n0 Q X) : Gm l x mL_law 15 988 [(0, .retAddr 999), (1, .ref 0), (2, .ref 177), (3, .ref 200), (4, .int x4)] [] h rc rs n0 Q X := by
  have b0 := b
  unfold BU at b0
  refine vL_law_988 sz ⟨v1, 1, 6, _, by omega, by omega, w_when nk q.k7 (k_when xo.1 q.1) (fun v h' z => by obtain ⟨r, e, _, K⟩ := z; exact ⟨r, e, by rw [(K.2.1 200 (by decide) (by decide)).1]; exact q.2.1.2.2.2.2.2⟩) (fun E h' z => by obtain ⟨k, e, e2, _⟩ := z; rw [e2]; exact ex_1 (by unfold aWhen at e; exact thr1 e)), ?_⟩
  rintro r7 h6 w6
  obtain ⟨q6, b6, c6⟩ := wr_mid q w6 (fun k e => ek_1 (by unfold aWhen at e; exact thr1 e)) b
  refine ⟨v1, q6.2.1.k8, _, p_when q6.2.1.1 q6.2.1.2.1.1 q.W.1.tk q.W.2.1.w, ?_⟩
  rintro r13 h12 p12
  exact wr_tail q6 c6 p12 b6 N
theorem law_mean (sz : ScrOk x xL xs) (xo : XO l x) (nk : NcOk x) (q : IN h t ct rt nc nf nr D tl tp fp I) (b : BU h (k + 1) rc rs) (v1 : vp_in (x4 + 1) xL) (v2 : vp_in (x4 + 2) xL) (N : NX l x x4 k n0 Q X) : Gm l x mL_law 15 1044 [(0, .retAddr 999), (1, .ref 0), (2, .ref 177), (3, .ref 200), (4, .int x4)] [] h rc rs n0 Q X := by
  have b0 := b
  unfold BU at b0
  refine vL_law_1044 sz ⟨v1, v2, 1, 6, _, by omega, by omega, w_mean nk q.k7 (k_mean xo.1 q.1) (fun v h' z => by obtain ⟨r, e, _, K⟩ := z; exact ⟨r, e, by rw [(K.2.1 200 (by decide) (by decide)).1]; exact q.2.1.2.2.2.2.2⟩) (fun E h' z => by obtain ⟨k, e, e2, _⟩ := z; exact e2), ?_⟩
  rintro r7 h6 w6
  obtain ⟨q6, b6, c6⟩ := wr_mid q w6 (fun k e => ek_i (by unfold aMean at e; exact thr1 e)) b
  refine ⟨v1, v2, q6.2.1.k8, _, p_mean q6.2.1.1 q6.2.1.2.1.1 q.W.1, ?_⟩
  rintro r13 h12 p12
  exact wr_tail q6 c6 p12 b6 N
theorem law_anew (sz : ScrOk x xL xs) (xo : XO l x) (nk : NcOk x) (q : IN h t ct rt nc nf nr D tl tp fp I) (b : BU h (k + 1) rc rs) (v1 : vp_in (x4 + 1) xL) (v2 : vp_in (x4 + 2) xL) (v3 : vp_in (x4 + 3) xL) (N : NX l x x4 k n0 Q X) : Gm l x mL_law 15 1112 [(0, .retAddr 999), (1, .ref 0), (2, .ref 177), (3, .ref 200), (4, .int x4)] [] h rc rs n0 Q X := by
  have b0 := b
  unfold BU at b0
  refine vL_law_1112 sz ⟨v1, v2, v3, 1, 6, _, by omega, by omega, w_anew nk q.k7 (k_anew xo.1 q.1) (fun v h' z => by obtain ⟨r, e, _, K⟩ := z; exact ⟨r, e, by rw [(K.2.1 200 (by decide) (by decide)).1]; exact q.2.1.2.2.2.2.2⟩) (fun E h' z => by obtain ⟨k, e, e2, _⟩ := z; rw [e2]; exact ex_2 k), ?_⟩
  rintro r7 h6 w6
  obtain ⟨q6, b6, c6⟩ := wr_mid q w6 (fun k e => ek_2 (by unfold aAnew at e; exact thr2 e)) b
  refine ⟨v1, v2, v3, q6.2.1.k8, _, p_anew q6.2.1.1 q6.2.1.2.1.1 q.W.1, ?_⟩
  rintro r13 h12 p12
  exact wr_tail q6 c6 p12 b6 N
theorem law_homes (sz : ScrOk x xL xs) (xo : XO l x) (nk : NcOk x) (q : IN h t ct rt nc nf nr D tl tp fp I) (b : BU h (k + 1) rc rs) (v1 : vp_in (x4 + 1) xL) (v2 : vp_in (x4 + 2) xL) (N : NX l x x4 k n0 Q X) : Gm l x mL_law 15 1192 [(0, .retAddr 999), (1, .ref 0), (2, .ref 177), (3, .ref 200), (4, .int x4)] [] h rc rs n0 Q X := by
  have b0 := b
  unfold BU at b0
  have hp : D.1 2 = 0 ∨ D.1 2 = 1 ∨ D.1 2 = 2 := by
    obtain ⟨_, G, _⟩ := id q.W.2.1.w
    exact G.p
  refine vL_law_1192 sz ⟨v1, v2, 1, 6, _, by omega, by omega, w_homes nk q.k7 (k_homes xo.1 q.1) (fun v h' z => by obtain ⟨r, e, _, K⟩ := z; exact ⟨r, e, by rw [(K.2.1 200 (by decide) (by decide)).1]; exact q.2.1.2.2.2.2.2⟩) (fun E h' z => by obtain ⟨k, e, e2, _⟩ := z; rw [e2]; exact ex_1 (by unfold aHomes at e; exact thr1 e)), ?_⟩
  rintro r7 h6 w6
  obtain ⟨q6, b6, c6⟩ := wr_mid q w6 (fun k e => ek_1 (by unfold aHomes at e; exact thr1 e)) b
  refine ⟨v1, v2, q6.2.1.k8, _, p_homes q6.2.1.1 q6.2.1.2.1.1 q.W.1 hp, ?_⟩
  rintro r13 h12 p12
  exact wr_tail q6 c6 p12 b6 N
theorem law_later (sz : ScrOk x xL xs) (xo : XO l x) (nk : NcOk x) (q : IN h t ct rt nc nf nr D tl tp fp I) (b : BU h (k + 1) rc rs) (v1 : vp_in (x4 + 1) xL) (N : NX l x x4 k n0 Q X) : Gm l x mL_law 15 1260 [(0, .retAddr 999), (1, .ref 0), (2, .ref 177), (3, .ref 200), (4, .int x4)] [] h rc rs n0 Q X := by
  have b0 := b
  unfold BU at b0
  have hp : D.1 2 = 0 ∨ D.1 2 = 1 ∨ D.1 2 = 2 := by
    obtain ⟨_, G, _⟩ := id q.W.2.1.w
    exact G.p
  refine vL_law_1260 sz ⟨v1, 1, 6, _, by omega, by omega, w_later nk q.k7 (k_later xo.1 q.1) (fun v h' z => by obtain ⟨r, e, _, K⟩ := z; exact ⟨r, e, by rw [(K.2.1 200 (by decide) (by decide)).1]; exact q.2.1.2.2.2.2.2⟩) (fun E h' z => by obtain ⟨k, e, e2, _⟩ := z; rw [e2]; exact ex_1 (by unfold aLater at e; exact thr1 e)), ?_⟩
  rintro r7 h6 w6
  obtain ⟨q6, b6, c6⟩ := wr_mid q w6 (fun k e => ek_1 (by unfold aLater at e; exact thr1 e)) b
  refine ⟨v1, q6.2.1.k8, _, p_later q6.2.1.1 q6.2.1.2.1.1 q.W.1 hp, ?_⟩
  rintro r13 h12 p12
  exact wr_tail q6 c6 p12 b6 N
theorem law_fits (sz : ScrOk x xL xs) (xo : XO l x) (nk : NcOk x) (q : IN h t ct rt nc nf nr D tl tp fp I) (b : BU h (k + 1) rc rs) (v1 : vp_in (x4 + 1) xL) (N : NX l x x4 k n0 Q X) : Gm l x mL_law 15 1353 [(0, .retAddr 999), (1, .ref 0), (2, .ref 177), (3, .ref 200), (4, .int x4)] [] h rc rs n0 Q X := by
  have b0 := b
  unfold BU at b0
  refine vL_law_1353 sz ⟨v1, 1, 6, _, by omega, by omega, w_fits nk q.k7 (k_fits xo.1 q.1) (fun v h' z => by obtain ⟨r, e, _, K⟩ := z; exact ⟨r, e, by rw [(K.2.1 200 (by decide) (by decide)).1]; exact q.2.1.2.2.2.2.2⟩) (fun E h' z => by obtain ⟨k, e, e2, _⟩ := z; rw [e2]; exact ex_1 (by unfold aFits at e; exact thr1 e)), ?_⟩
  rintro r7 h6 w6
  obtain ⟨q6, b6, c6⟩ := wr_mid q w6 (fun k e => ek_1 (by unfold aFits at e; exact thr1 e)) b
  refine ⟨v1, q6.2.1.k8, _, p_fits q6.2.1.1 q6.2.1.2.1.1 q.W.1 q6.2.1.2.1.2.2.1 q.W.2.1.1.2.2.2 q.W.2.1.2.1, ?_⟩
  rintro r13 h12 p12
  exact wr_tail q6 c6 p12 b6 N
theorem law_look (sz : ScrOk x xL xs) (xo : XO l x) (nk : NcOk x) (q : IN h t ct rt nc nf nr D tl tp fp I) (b : BU h (k + 1) rc rs) (v1 : vp_in (x4 + 1) xL) (N : NX l x x4 k n0 Q X) : Gm l x mL_law 15 1409 [(0, .retAddr 999), (1, .ref 0), (2, .ref 177), (3, .ref 200), (4, .int x4)] [] h rc rs n0 Q X := by
  have b0 := b
  unfold BU at b0
  refine vL_law_1409 sz ⟨v1, 1, 6, _, by omega, by omega, w_look nk q.k7 (k_look xo.1 q.1) (fun v h' z => by obtain ⟨r, e, _, K⟩ := z; exact ⟨r, e, by rw [(K.2.1 200 (by decide) (by decide)).1]; exact q.2.1.2.2.2.2.2⟩) (fun E h' z => by obtain ⟨k, e, e2, _⟩ := z; rw [e2]; exact ex_1 (by unfold aLook at e; exact thr1 e)), ?_⟩
  rintro r7 h6 w6
  obtain ⟨q6, b6, c6⟩ := wr_mid q w6 (fun k e => ek_1 (by unfold aLook at e; exact thr1 e)) b
  refine ⟨v1, q6.2.1.k8, _, p_look q6.2.1.1 q6.2.1.2.1.1 q.W.1 q6.2.1.2.1.2.2.1 q.W.2.1.1.2.2.2 q.W.2.1.2.1, ?_⟩
  rintro r13 h12 p12
  exact wr_tail q6 c6 p12 b6 N
theorem law_years (sz : ScrOk x xL xs) (xo : XO l x) (nk : NcOk x) (q : IN h t ct rt nc nf nr D tl tp fp I) (b : BU h (k + 1) rc rs) (v1 : vp_in (x4 + 1) xL) (v2 : vp_in (x4 + 2) xL) (v3 : vp_in (x4 + 3) xL) (N : NX l x x4 k n0 Q X) : Gm l x mL_law 15 1476 [(0, .retAddr 999), (1, .ref 0), (2, .ref 177), (3, .ref 200), (4, .int x4)] [] h rc rs n0 Q X := by
  have b0 := b
  unfold BU at b0
  refine vL_law_1476 sz ⟨v1, v2, v3, 1, 6, _, by omega, by omega, w_years nk q.k7 (k_years xo.1 q.1) (fun v h' z => by obtain ⟨r, e, _, K⟩ := z; exact ⟨r, e, by rw [(K.2.1 200 (by decide) (by decide)).1]; exact q.2.1.2.2.2.2.2⟩) (fun E h' z => by obtain ⟨k, e, e2, _⟩ := z; rw [e2]; exact ex_2 k), ?_⟩
  rintro r7 h6 w6
  obtain ⟨q6, b6, c6⟩ := wr_mid q w6 (fun k e => ek_2 (by unfold aYears at e; exact thr2 e)) b
  refine ⟨v1, v2, v3, q6.2.1.k8, _, p_years q6.2.1.1 q6.2.1.2.1.1 q.W.1 q.W.2.1.w, ?_⟩
  rintro r13 h12 p12
  exact wr_tail q6 c6 p12 b6 N
theorem law_ticks (sz : ScrOk x xL xs) (xo : XO l x) (nk : NcOk x) (q : IN h t ct rt nc nf nr D tl tp fp I) (b : BU h (k + 1) rc rs) (v1 : vp_in (x4 + 1) xL) (N : NX l x x4 k n0 Q X) : Gm l x mL_law 15 702 [(0, .retAddr 999), (1, .ref 0), (2, .ref 177), (3, .ref 200), (4, .int x4)] [] h rc rs n0 Q X := by
  have b0 := b
  unfold BU at b0
  obtain ⟨mc, ms, m1, m2, C⟩ := k_ticks (l := l) (n := xs (x4 + 1).toNatClampNeg) xo.1 q.1
  refine vL_law_702 sz ⟨v1, q.k7, mc, ms, _, by omega, by omega, C, ?_⟩
  rintro r8 h7 ⟨e8, q7⟩
  have M := q.2.1.ac q7.2.1
  refine ⟨v1, M.k8, _, p_ticks M.1 M.2.1 q.W.1.tk q.W.2.1.w q.W.2.1.2.2.2.2, ?_⟩
  rintro r14 h13 p13
  exact act_tail q b e8 q7 p13 N
theorem law_come (sz : ScrOk x xL xs) (xo : XO l x) (nk : NcOk x) (q : IN h t ct rt nc nf nr D tl tp fp I) (b : BU h (k + 1) rc rs) (v1 : vp_in (x4 + 1) xL) (v2 : vp_in (x4 + 2) xL) (v3 : vp_in (x4 + 3) xL) (N : NX l x x4 k n0 Q X) : Gm l x mL_law 15 727 [(0, .retAddr 999), (1, .ref 0), (2, .ref 177), (3, .ref 200), (4, .int x4)] [] h rc rs n0 Q X := by
  have b0 := b
  unfold BU at b0
  obtain ⟨mc, ms, m1, m2, C⟩ := k_come (l := l) (a := xs (x4 + 1).toNatClampNeg) (b := xs (x4 + 2).toNatClampNeg) (s := xs (x4 + 3).toNatClampNeg) xo.1 q.1
  refine vL_law_727 sz ⟨v1, v2, v3, q.k7, mc, ms, _, by omega, by omega, C, ?_⟩
  rintro r8 h7 ⟨e8, q7⟩
  have M := q.2.1.ac q7.2.1
  refine ⟨v1, v2, v3, M.k8, _, p_come M.1 M.2.1 q.W.1.tk q.W.2.1.w q.W.2.1.2.2.2.2, ?_⟩
  rintro r14 h13 p13
  exact act_tail q b e8 q7 p13 N
theorem law_out (sz : ScrOk x xL xs) (xo : XO l x) (nk : NcOk x) (q : IN h t ct rt nc nf nr D tl tp fp I) (b : BU h (k + 1) rc rs) (v1 : vp_in (x4 + 1) xL) (v2 : vp_in (x4 + 2) xL) (N : NX l x x4 k n0 Q X) : Gm l x mL_law 15 776 [(0, .retAddr 999), (1, .ref 0), (2, .ref 177), (3, .ref 200), (4, .int x4)] [] h rc rs n0 Q X := by
  have b0 := b
  unfold BU at b0
  obtain ⟨mc, ms, m1, m2, C⟩ := k_out (l := l) (c := xs (x4 + 1).toNatClampNeg) (u := (if xs (x4 + 2).toNatClampNeg = 0 then 0 else 1)) xo.1 (by split; exact Or.inl rfl; exact Or.inr rfl) q.1
  refine vL_law_776 sz ⟨v1, v2, q.k7, mc, ms, _, by omega, by omega, C, ?_⟩
  rintro r8 h7 ⟨e8, q7⟩
  have M := q.2.1.ac q7.2.1
  refine ⟨v1, v2, M.k8, _, p_out M.1 M.2.1 q.W.1.tk q.W.2.1.w q.W.2.1.2.2.2.2, ?_⟩
  rintro r14 h13 p13
  exact act_tail q b e8 q7 p13 N
theorem law_fire (sz : ScrOk x xL xs) (xo : XO l x) (nk : NcOk x) (q : IN h t ct rt nc nf nr D tl tp fp I) (b : BU h (k + 1) rc rs) (v1 : vp_in (x4 + 1) xL) (N : NX l x x4 k n0 Q X) : Gm l x mL_law 15 829 [(0, .retAddr 999), (1, .ref 0), (2, .ref 177), (3, .ref 200), (4, .int x4)] [] h rc rs n0 Q X := by
  have b0 := b
  unfold BU at b0
  obtain ⟨mc, ms, m1, m2, C⟩ := k_fire (l := l) (u := (if xs (x4 + 1).toNatClampNeg = 0 then 0 else 1)) xo.1 (by split; exact Or.inl rfl; exact Or.inr rfl) q.1
  refine vL_law_829 sz ⟨v1, q.k7, mc, ms, _, by omega, by omega, C, ?_⟩
  rintro r8 h7 ⟨e8, q7⟩
  have M := q.2.1.ac q7.2.1
  refine ⟨v1, M.k8, _, p_fire M.1 M.2.1 q.W.2.1.2.2.2.2, ?_⟩
  rintro r14 h13 p13
  exact act_tail q b e8 q7 p13 N
theorem law_rule (sz : ScrOk x xL xs) (xo : XO l x) (nk : NcOk x) (q : IN h t ct rt nc nf nr D tl tp fp I) (b : BU h (k + 1) rc rs) (v1 : vp_in (x4 + 1) xL) (v2 : vp_in (x4 + 2) xL) (N : NX l x x4 k n0 Q X) : Gm l x mL_law 15 870 [(0, .retAddr 999), (1, .ref 0), (2, .ref 177), (3, .ref 200), (4, .int x4)] [] h rc rs n0 Q X := by
  have b0 := b
  unfold BU at b0
  obtain ⟨mc, ms, m1, m2, C⟩ := k_rule (l := l) (k := xs (x4 + 1).toNatClampNeg) (v := xs (x4 + 2).toNatClampNeg) xo.1 q.1
  refine vL_law_870 sz ⟨v1, v2, q.k7, mc, ms, _, by omega, by omega, C, ?_⟩
  rintro r8 h7 ⟨e8, q7⟩
  have M := q.2.1.ac q7.2.1
  refine ⟨v1, v2, M.k8, _, p_rule M.1 M.2.1 q.W.2.1.2.2.2.2, ?_⟩
  rintro r14 h13 p13
  exact act_tail q b e8 q7 p13 N
theorem law_undo (sz : ScrOk x xL xs) (xo : XO l x) (nk : NcOk x) (q : IN h t ct rt nc nf nr D tl tp fp I) (b : BU h (k + 1) rc rs) (N : NX l x x4 k n0 Q X) : Gm l x mL_law 15 907 [(0, .retAddr 999), (1, .ref 0), (2, .ref 177), (3, .ref 200), (4, .int x4)] [] h rc rs n0 Q X := by
  have b0 := b
  unfold BU at b0
  obtain ⟨mc, ms, m1, m2, C⟩ := k_undo (l := l) xo.1 q.1
  refine vL_law_907 sz ⟨q.k7, mc, ms, _, by omega, by omega, C, ?_⟩
  rintro r8 h7 ⟨e8, q7⟩
  have M := q.2.1.ac q7.2.1
  refine ⟨M.k8, _, p_undo M.1.1.1 M.2.1 q.W.2.1.2.2.2.2, ?_⟩
  rintro r14 h13 p13
  exact act_tail q b e8 q7 p13 N
theorem law_note (sz : ScrOk x xL xs) (xo : XO l x) (nk : NcOk x) (q : IN h t ct rt nc nf nr D tl tp fp I) (b : BU h (k + 1) rc rs) (v1 : vp_in (x4 + 1) xL) (v2 : vp_in (x4 + 2) xL) (N : NX l x x4 k n0 Q X) : Gm l x mL_law 15 1316 [(0, .retAddr 999), (1, .ref 0), (2, .ref 177), (3, .ref 200), (4, .int x4)] [] h rc rs n0 Q X := by
  have b0 := b
  unfold BU at b0
  refine vL_law_1316 sz ⟨v1, v2, q.k7, _, k_note q.1, ?_⟩
  rintro r8 h7 ⟨e8, q7⟩
  have M := q.2.1.ac q7.2.1
  refine ⟨v1, v2, M.k8, _, p_note M.1 M.2.1 q.W.1 q.W.2.1.1.2.2.2, ?_⟩
  rintro r14 h13 p13
  exact act_tail (mc := 0) (ms := 0) q b e8 q7 p13 N
theorem law_forget (sz : ScrOk x xL xs) (xo : XO l x) (nk : NcOk x) (q : IN h t ct rt nc nf nr D tl tp fp I) (b : BU h (k + 1) rc rs) (N : NX l x x4 k n0 Q X) : Gm l x mL_law 15 1465 [(0, .retAddr 999), (1, .ref 0), (2, .ref 177), (3, .ref 200), (4, .int x4)] [] h rc rs n0 Q X := by
  have b0 := b
  unfold BU at b0
  refine vL_law_1465 sz ⟨q.k7, _, k_forget q.1, ?_⟩
  rintro h7 q7
  have M := q.2.1.ac q7.2.1
  refine ⟨M.k8, _, p_forget M.1.1.1 M.2.1, ?_⟩
  rintro h13 ⟨s, d⟩
  exact N _ _ _ _ _ _ _ _ _ _ _ _ _ _ ⟨q7.1.sg s (fun _ _ => scrA_lo) M.2.2.2.2.2, M.sA s d, q.2.2⟩ ((b.kq q7).dn.sg s)
theorem law_fault (sz : ScrOk x xL xs) (xo : XO l x) (nk : NcOk x) (q : IN h t ct rt nc nf nr D tl tp fp I) (b : BU h (k + 1) rc rs) (N : NX l x x4 k n0 Q X) : Gm l x mL_law 15 293 [(0, .retAddr 999), (1, .ref 0), (2, .ref 177), (3, .ref 200), (4, .int x4)] [] h rc rs n0 Q X := by
  have b0 := b
  unfold BU at b0
  refine vL_law_293 sz ⟨q.k7, _, k_fault q.1, ?_⟩
  rintro r5 h4 ⟨e5, q4⟩
  have M := q.2.1.ac q4.2.1
  refine ⟨M.k8, fun r h' => r = hI h4 177 20 ∧ h' = sI h4 177 1 0, Cm.of (by decide) (Nat.le_of_ble_eq_true rfl) (vX8_fault_0 ⟨M.k8, _, rfl, rfl, rfl⟩), ?_⟩
  rintro r10 h9 ⟨e10, e9⟩
  rw [e9]
  have s : SG (scrA 177) h4 (sI h4 177 1 0) := sA1
  exact ⟨fun _ => N _ _ _ _ _ _ _ _ _ _ _ _ _ _ ⟨q4.1.sg s (fun _ _ => scrA_lo) M.2.2.2.2.2, M.sA s M.2.1.s1, q.2.2⟩ ((b.kq q4).dn.sg s), fun z => absurd (by rw [e5, e10]; exact M.2.2.2.1.symm) z⟩
end Law2
