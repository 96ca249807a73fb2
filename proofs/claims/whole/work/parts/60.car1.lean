/-! THE CLASS: what its objects stand for; a car that stands for a car of a row -/
/-- h' is h but for the cell a -/
def Fr1 (a : Nat) (h h' : PH) : Prop := h'.1 = h.1 ∧ h'.2.1 = h.2.1 ∧ h'.2.2.2.2.2 = h.2.2.2.2.2 ∧ ∀ b, b ≠ a → ∀ k, hI h' b k = hI h b k ∧ hL h' b k = hL h b k ∧ hF h' b k = hF h b k
theorem Fr1.refl (a : Nat) (h : PH) : Fr1 a h h := ⟨rfl, rfl, rfl, fun _ _ _ => ⟨rfl, rfl, rfl⟩⟩
theorem Fr1.trans {a : Nat} {h1 h2 h3 : PH} (p : Fr1 a h1 h2) (q : Fr1 a h2 h3) : Fr1 a h1 h3 := ⟨q.1.trans p.1, q.2.1.trans p.2.1, q.2.2.1.trans p.2.2.1, fun b hb k => ⟨(q.2.2.2 b hb k).1.trans (p.2.2.2 b hb k).1, (q.2.2.2 b hb k).2.1.trans (p.2.2.2 b hb k).2.1, (q.2.2.2 b hb k).2.2.trans (p.2.2.2 b hb k).2.2⟩⟩
theorem Fr1.sI {a : Nat} {h h' : PH} (p : Fr1 a h h') (k : Nat) (v : Int32) : Fr1 a h (sI h' a k v) := p.trans ⟨rfl, rfl, rfl, fun b hb j => ⟨if_neg (fun q => hb q.2), rfl, rfl⟩⟩
theorem Fr1.sL {a : Nat} {h h' : PH} (p : Fr1 a h h') (k : Nat) (v : Int64) : Fr1 a h (sL h' a k v) := p.trans ⟨rfl, rfl, rfl, fun b hb j => ⟨rfl, if_neg (fun q => hb q.2), rfl⟩⟩
theorem Fr1.sF {a : Nat} {h h' : PH} (p : Fr1 a h h') (k : Nat) (v : UInt32) : Fr1 a h (sF h' a k v) := p.trans ⟨rfl, rfl, rfl, fun b hb j => ⟨rfl, rfl, if_neg (fun q => hb q.2)⟩⟩
theorem Fr1.hN {a : Nat} {h h' : PH} (p : Fr1 a h h') : hN h' = hN h := p.1
theorem Fr1.hK {a : Nat} {h h' : PH} (p : Fr1 a h h') (b : Nat) : hK h' b = hK h b := congrFun p.2.1 b
theorem Fr1.hR {a : Nat} {h h' : PH} (p : Fr1 a h h') (b k : Nat) : hR h' b k = hR h b k := congrFun (congrFun p.2.2.1 b) k
theorem Fr1.hI {a : Nat} {h h' : PH} (p : Fr1 a h h') {b : Nat} (hb : b ≠ a) (k : Nat) : hI h' b k = hI h b k := (p.2.2.2 b hb k).1
theorem Fr1.hL {a : Nat} {h h' : PH} (p : Fr1 a h h') {b : Nat} (hb : b ≠ a) (k : Nat) : hL h' b k = hL h b k := (p.2.2.2 b hb k).2.1
theorem Fr1.hF {a : Nat} {h h' : PH} (p : Fr1 a h h') {b : Nat} (hb : b ≠ a) (k : Nat) : hF h' b k = hF h b k := (p.2.2.2 b hb k).2.2
theorem gI (h : PH) (a k : Nat) (v : Int32) : hI (sI h a k v) a k = v := if_pos ⟨rfl, rfl⟩
theorem gIk (h : PH) (a : Nat) {k j : Nat} (v : Int32) (e : j ≠ k) : hI (sI h a k v) a j = hI h a j := if_neg (fun q => e q.1)
theorem gIa (h : PH) {a b : Nat} (k j : Nat) (v : Int32) (e : b ≠ a) : hI (sI h a k v) b j = hI h b j := if_neg (fun q => e q.2)
theorem gL (h : PH) (a k : Nat) (v : Int64) : hL (sL h a k v) a k = v := if_pos ⟨rfl, rfl⟩
theorem gLk (h : PH) (a : Nat) {k j : Nat} (v : Int64) (e : j ≠ k) : hL (sL h a k v) a j = hL h a j := if_neg (fun q => e q.1)
theorem gLa (h : PH) {a b : Nat} (k j : Nat) (v : Int64) (e : b ≠ a) : hL (sL h a k v) b j = hL h b j := if_neg (fun q => e q.2)
theorem gF (h : PH) (a k : Nat) (v : UInt32) : hF (sF h a k v) a k = v := if_pos ⟨rfl, rfl⟩
theorem gFk (h : PH) (a : Nat) {k j : Nat} (v : UInt32) (e : j ≠ k) : hF (sF h a k v) a j = hF h a j := if_neg (fun q => e q.1)
theorem gFa (h : PH) {a b : Nat} (k j : Nat) (v : UInt32) (e : b ≠ a) : hF (sF h a k v) b j = hF h b j := if_neg (fun q => e q.2)
/-- a car's object stands for car c of the row g, its goals left out -/
def CB (h : PH) (a : Nat) (ct g : Nat → Int32) (c : Nat) : Prop :=
  ((hK h a).1 = 2) ∧
  (hI h a 0 = ct (3 * c + 2)) ∧
  (hI h a 1 = g (16 + 8 * c + 6)) ∧
  (hI h a 2 = g (16 + 8 * c + 7)) ∧
  (hI h a 3 = g (16 + 8 * c)) ∧
  (hI h a 4 = g (16 + 8 * c + 1)) ∧
  (hI h a 5 = g (16 + 8 * c + 2)) ∧
  (hI h a 6 = g (16 + 8 * c + 4)) ∧
  (hF h a 7 = (g (16 + 8 * c + 5)).toUInt32) ∧
  (hI h a 9 = g (16 + 8 * c + 3)) ∧
  (hI h a 10 = bc (g (16 + 8 * c + 3))) ∧
  (∀ i, i < 64 → (bL (hL h a 12) i = true ↔ i < 48 ∧ g (264 + i) = nI c + 1))
theorem CB.ck {h : PH} {a : Nat} {ct g : Nat → Int32} {c : Nat} (q : CB h a ct g c) : (hK h a).1 = 2 := q.1
theorem CB.so {h : PH} {a : Nat} {ct g : Nat → Int32} {c : Nat} (q : CB h a ct g c) : hI h a 0 = ct (3 * c + 2) := q.2.1
theorem CB.hm {h : PH} {a : Nat} {ct g : Nat → Int32} {c : Nat} (q : CB h a ct g c) : hI h a 1 = g (16 + 8 * c + 6) := q.2.2.1
theorem CB.ho {h : PH} {a : Nat} {ct g : Nat → Int32} {c : Nat} (q : CB h a ct g c) : hI h a 2 = g (16 + 8 * c + 7) := q.2.2.2.1
theorem CB.fl {h : PH} {a : Nat} {ct g : Nat → Int32} {c : Nat} (q : CB h a ct g c) : hI h a 3 = g (16 + 8 * c) := q.2.2.2.2.1
theorem CB.wy {h : PH} {a : Nat} {ct g : Nat → Int32} {c : Nat} (q : CB h a ct g c) : hI h a 4 = g (16 + 8 * c + 1) := q.2.2.2.2.2.1
theorem CB.dr {h : PH} {a : Nat} {ct g : Nat → Int32} {c : Nat} (q : CB h a ct g c) : hI h a 5 = g (16 + 8 * c + 2) := q.2.2.2.2.2.2.1
theorem CB.inn {h : PH} {a : Nat} {ct g : Nat → Int32} {c : Nat} (q : CB h a ct g c) : hI h a 6 = g (16 + 8 * c + 4) := q.2.2.2.2.2.2.2.1
theorem CB.wk {h : PH} {a : Nat} {ct g : Nat → Int32} {c : Nat} (q : CB h a ct g c) : hF h a 7 = (g (16 + 8 * c + 5)).toUInt32 := q.2.2.2.2.2.2.2.2.1
theorem CB.ab {h : PH} {a : Nat} {ct g : Nat → Int32} {c : Nat} (q : CB h a ct g c) : hI h a 9 = g (16 + 8 * c + 3) := q.2.2.2.2.2.2.2.2.2.1
theorem CB.ld {h : PH} {a : Nat} {ct g : Nat → Int32} {c : Nat} (q : CB h a ct g c) : hI h a 10 = bc (g (16 + 8 * c + 3)) := q.2.2.2.2.2.2.2.2.2.2.1
theorem CB.ca {h : PH} {a : Nat} {ct g : Nat → Int32} {c : Nat} (q : CB h a ct g c) : ∀ i, i < 64 → (bL (hL h a 12) i = true ↔ i < 48 ∧ g (264 + i) = nI c + 1) := q.2.2.2.2.2.2.2.2.2.2.2
/-- its goals, but for the place z -/
def CG (h : PH) (a : Nat) (nr : Nat) (g : Nat → Int32) (c z : Nat) : Prop := ∀ i, i < 64 → i ≠ z → (bL (hL h a 11) i = true ↔ ∃ r, r < nr ∧ bt (g (16 + 8 * c + 3)) r = true ∧ ∃ j, g (48 + 9 * r + 3) = nI j ∧ j < 12 ∧ i = 4 * j)
def CO (h : PH) (a : Nat) (ct : Nat → Int32) (nr : Nat) (g : Nat → Int32) (c : Nat) : Prop := CB h a ct g c ∧ CG h a nr g c 64
/-- a rider's object stands for rider r of the row f -/
def RO (h : PH) (b : Nat) (f : Nat → Int32) (r : Nat) : Prop :=
  (hI h b 0 = f (48 + 9 * r)) ∧
  (hI h b 1 = f (48 + 9 * r + 1)) ∧
  (hI h b 2 = f (48 + 9 * r + 2)) ∧
  (hI h b 3 = f (48 + 9 * r + 3)) ∧
  (hI h b 4 = f (48 + 9 * r + 4)) ∧
  (hI h b 5 = f (48 + 9 * r + 5)) ∧
  (f (48 + 9 * r + 4) = 1 → hI h b 6 = wayR f r) ∧
  (hI h b 7 = f (48 + 9 * r + 6)) ∧
  (hI h b 8 = f (48 + 9 * r + 8)) ∧
  (hI h b 9 = f (48 + 9 * r + 7))
theorem RO.so {h : PH} {b : Nat} {f : Nat → Int32} {r : Nat} (q : RO h b f r) : hI h b 0 = f (48 + 9 * r) := q.1
theorem RO.co {h : PH} {b : Nat} {f : Nat → Int32} {r : Nat} (q : RO h b f r) : hI h b 1 = f (48 + 9 * r + 1) := q.2.1
theorem RO.fr {h : PH} {b : Nat} {f : Nat → Int32} {r : Nat} (q : RO h b f r) : hI h b 2 = f (48 + 9 * r + 2) := q.2.2.1
theorem RO.to {h : PH} {b : Nat} {f : Nat → Int32} {r : Nat} (q : RO h b f r) : hI h b 3 = f (48 + 9 * r + 3) := q.2.2.2.1
theorem RO.wh {h : PH} {b : Nat} {f : Nat → Int32} {r : Nat} (q : RO h b f r) : hI h b 4 = f (48 + 9 * r + 4) := q.2.2.2.2.1
theorem RO.we {h : PH} {b : Nat} {f : Nat → Int32} {r : Nat} (q : RO h b f r) : hI h b 5 = f (48 + 9 * r + 5) := q.2.2.2.2.2.1
theorem RO.wa {h : PH} {b : Nat} {f : Nat → Int32} {r : Nat} (q : RO h b f r) : f (48 + 9 * r + 4) = 1 → hI h b 6 = wayR f r := q.2.2.2.2.2.2.1
theorem RO.wt {h : PH} {b : Nat} {f : Nat → Int32} {r : Nat} (q : RO h b f r) : hI h b 7 = f (48 + 9 * r + 6) := q.2.2.2.2.2.2.2.1
theorem RO.ta {h : PH} {b : Nat} {f : Nat → Int32} {r : Nat} (q : RO h b f r) : hI h b 8 = f (48 + 9 * r + 8) := q.2.2.2.2.2.2.2.2.1
theorem RO.en {h : PH} {b : Nat} {f : Nat → Int32} {r : Nat} (q : RO h b f r) : hI h b 9 = f (48 + 9 * r + 7) := q.2.2.2.2.2.2.2.2.2
/-- the cells of a Bank -/
def BS (h : PH) (o : Nat) : Prop :=
  ((hK h o).1 = 1) ∧
  (hR h o 13 = some (o + 1)) ∧
  (hK h (o + 1) = (105, 4)) ∧
  (∀ c, c < 4 → hR h (o + 1) c = some (o + 4 + c) ∧ (hK h (o + 4 + c)).1 = 2) ∧
  (hR h o 14 = some (o + 2)) ∧
  (hK h (o + 2) = (106, 24)) ∧
  (∀ r, r < 24 → hR h (o + 2) r = some (o + 8 + r) ∧ (hK h (o + 8 + r)).1 = 6) ∧
  (hR h o 15 = some (o + 3)) ∧
  ((hK h (o + 3)).1 = 2)
theorem BS.k {h : PH} {o : Nat} (q : BS h o) : (hK h o).1 = 1 := q.1
theorem BS.l {h : PH} {o : Nat} (q : BS h o) : hR h o 13 = some (o + 1) := q.2.1
theorem BS.lk {h : PH} {o : Nat} (q : BS h o) : hK h (o + 1) = (105, 4) := q.2.2.1
theorem BS.lc {h : PH} {o : Nat} (q : BS h o) : ∀ c, c < 4 → hR h (o + 1) c = some (o + 4 + c) ∧ (hK h (o + 4 + c)).1 = 2 := q.2.2.2.1
theorem BS.p {h : PH} {o : Nat} (q : BS h o) : hR h o 14 = some (o + 2) := q.2.2.2.2.1
theorem BS.pk {h : PH} {o : Nat} (q : BS h o) : hK h (o + 2) = (106, 24) := q.2.2.2.2.2.1
theorem BS.pr {h : PH} {o : Nat} (q : BS h o) : ∀ r, r < 24 → hR h (o + 2) r = some (o + 8 + r) ∧ (hK h (o + 8 + r)).1 = 6 := q.2.2.2.2.2.2.1
theorem BS.t {h : PH} {o : Nat} (q : BS h o) : hR h o 15 = some (o + 3) := q.2.2.2.2.2.2.2.1
theorem BS.tk {h : PH} {o : Nat} (q : BS h o) : (hK h (o + 3)).1 = 2 := q.2.2.2.2.2.2.2.2
/-- its riders stand for those of the row f -/
def PO (h : PH) (o nr : Nat) (f : Nat → Int32) : Prop := BS h o ∧ hI h o 2 = nI nr ∧ ∀ r, r < nr → RO h (o + 8 + r) f r
theorem BS.fr {h h' : PH} {o a : Nat} (q : BS h o) (p : Fr1 a h h') : BS h' o := by
  obtain ⟨q1, q2, q3, q4, q5, q6, q7, q8, q9⟩ := q
  refine ⟨?_, ?_, ?_, fun c hc => ?_, ?_, ?_, fun r hr => ?_, ?_, ?_⟩
  · rw [p.hK]; exact q1
  · rw [p.hR]; exact q2
  · rw [p.hK]; exact q3
  · rw [p.hR, p.hK]; exact q4 c hc
  · rw [p.hR]; exact q5
  · rw [p.hK]; exact q6
  · rw [p.hR, p.hK]; exact q7 r hr
  · rw [p.hR]; exact q8
  · rw [p.hK]; exact q9
theorem RO.fr1 {h h' : PH} {b a r : Nat} {f : Nat → Int32} (q : RO h b f r) (p : Fr1 a h h') (hb : b ≠ a) : RO h' b f r := by
  unfold RO at q ⊢
  rw [p.hI hb, p.hI hb, p.hI hb, p.hI hb, p.hI hb, p.hI hb, p.hI hb, p.hI hb, p.hI hb, p.hI hb]
  exact q
/-- a car's cell may change -/
theorem PO.fr {h h' : PH} {o a nr : Nat} {f : Nat → Int32} (q : PO h o nr f) (p : Fr1 a h h') (h1 : a < o + 8 ∨ o + 32 ≤ a) (h2 : a ≠ o) (h3 : nr ≤ 24) : PO h' o nr f :=
  ⟨q.1.fr p, (p.hI (fun e => h2 e.symm) 2).trans q.2.1, fun r hr => (q.2.2 r hr).fr1 p (by omega)⟩
/-- what a rider is in a row that differs from f by those that left and joined -/
def rd (f : Nat → Int32) (c : Nat) (L J : Bool) (r k : Nat) : Int32 :=
  if k = 4 then (if L then 3 else if J then 2 else f (48 + 9 * r + 4)) else if k = 5 then (if L then -1 else if J then nI c else f (48 + 9 * r + 5)) else if k = 7 then (if L then f 0 else f (48 + 9 * r + 7)) else if k = 8 then (if J then (if f (48 + 9 * r + 8) = -1 then f 0 else f (48 + 9 * r + 8)) else f (48 + 9 * r + 8)) else f (48 + 9 * r + k)
def DR (f g : Nat → Int32) (c nr : Nat) (L J : Int32) : Prop :=
  (g 0 = f 0) ∧
  (∀ r, r < nr → ∀ k, k < 9 → g (48 + 9 * r + k) = rd f c (bt L r) (bt J r) r k) ∧
  (∀ r, r < nr → bt J r = true → f (48 + 9 * r + 4) = 1) ∧
  (∀ r, r < nr → bt L r = true → bt J r = true ∨ f (48 + 9 * r + 4) = 2)
theorem DR.t0 {f g : Nat → Int32} {c nr : Nat} {L J : Int32} (q : DR f g c nr L J) : g 0 = f 0 := q.1
theorem DR.rr {f g : Nat → Int32} {c nr : Nat} {L J : Int32} (q : DR f g c nr L J) : ∀ r, r < nr → ∀ k, k < 9 → g (48 + 9 * r + k) = rd f c (bt L r) (bt J r) r k := q.2.1
theorem DR.jj {f g : Nat → Int32} {c nr : Nat} {L J : Int32} (q : DR f g c nr L J) : ∀ r, r < nr → bt J r = true → f (48 + 9 * r + 4) = 1 := q.2.2.1
theorem DR.ll {f g : Nat → Int32} {c nr : Nat} {L J : Int32} (q : DR f g c nr L J) : ∀ r, r < nr → bt L r = true → bt J r = true ∨ f (48 + 9 * r + 4) = 2 := q.2.2.2
theorem DR.keep {f g : Nat → Int32} {c nr : Nat} {L J : Int32} (D : DR f g c nr L J) {r k : Nat} (hr : r < nr) (hk : k < 9) (h4 : k ≠ 4) (h5 : k ≠ 5) (h7 : k ≠ 7) (h8 : k ≠ 8) : g (48 + 9 * r + k) = f (48 + 9 * r + k) := by
  rw [D.rr r hr k hk]
  unfold rd
  rw [if_neg h4, if_neg h5, if_neg h7, if_neg h8]
theorem b01 {p : Prop} [Decidable p] {v : Int32} (hv : v = 0 ∨ v = 1) (h : ¬ p ↔ ¬ v = 0) : (if p then 0 else 1 : Int32) = v := by
  by_cases e : p
  · rw [if_pos e]
    rcases hv with q | q
    · exact q.symm
    · exact absurd e (h.mpr (by rw [q]; decide))
  · rw [if_neg e]
    rcases hv with q | q
    · exact absurd q (h.mp e)
    · exact q.symm
section CarStop
variable {l : Launch} {x : CX} {h : PH} {a o c nc nf nr m : Nat} {g t ct : Nat → Int32}
theorem has_up {j : Nat} : ¬ hasC g c j 1 = 0 ↔ g (264 + 4 * j) = nI c + 1 ∨ g (264 + (4 * j + 1)) = nI c + 1 := by
  have e1 : kix j 1 1 = 264 + 4 * j := by unfold kix; rw [if_neg (by decide)]; omega
  have e2 : kix j 1 2 = 264 + (4 * j + 1) := by unfold kix; rw [if_neg (by decide)]; omega
  unfold hasC
  rw [e1, e2]
  by_cases q : g (264 + 4 * j) = nI c + 1 ∨ g (264 + (4 * j + 1)) = nI c + 1
  · rw [if_pos q]; exact ⟨fun _ => q, fun _ => by decide⟩
  · rw [if_neg q]; exact ⟨fun z => absurd rfl z, fun z => absurd z q⟩
theorem has_dn {j : Nat} : ¬ hasC g c j (-1) = 0 ↔ g (264 + (4 * j + 2)) = nI c + 1 ∨ g (264 + (4 * j + 3)) = nI c + 1 := by
  have e1 : kix j (-1) 1 = 264 + (4 * j + 2) := by unfold kix; rw [if_pos (by decide)]; omega
  have e2 : kix j (-1) 2 = 264 + (4 * j + 3) := by unfold kix; rw [if_pos (by decide)]; omega
  unfold hasC
  rw [e1, e2]
  by_cases q : g (264 + (4 * j + 2)) = nI c + 1 ∨ g (264 + (4 * j + 3)) = nI c + 1
  · rw [if_pos q]; exact ⟨fun _ => q, fun _ => by decide⟩
  · rw [if_neg q]; exact ⟨fun z => absurd rfl z, fun z => absurd z q⟩
theorem has_01 {j : Nat} {y : Int32} : hasC g c j y = 0 ∨ hasC g c j y = 1 := by
  unfold hasC
  split
  · exact Or.inr rfl
  · exact Or.inl rfl
theorem has_any {j : Nat} : ¬ (hasC g c j 1 = 0 ∧ hasC g c j (-1) = 0) ↔ ∃ i, i < 4 ∧ g (264 + (4 * j + i)) = nI c + 1 := by
  constructor
  · intro q
    by_cases e : hasC g c j 1 = 0
    · rcases has_dn.mp (fun z => q ⟨e, z⟩) with z | z
      · exact ⟨2, by omega, z⟩
      · exact ⟨3, by omega, z⟩
    · rcases has_up.mp e with z | z
      · exact ⟨0, by omega, z⟩
      · exact ⟨1, by omega, z⟩
  · rintro ⟨i, hi, e⟩ ⟨q1, q2⟩
    have : i = 0 ∨ i = 1 ∨ i = 2 ∨ i = 3 := by omega
    rcases this with rfl | rfl | rfl | rfl
    · exact has_up.mpr (Or.inl e) q1
    · exact has_up.mpr (Or.inr e) q1
    · exact has_dn.mpr (Or.inl e) q2
    · exact has_dn.mpr (Or.inr e) q2
theorem CB.full (C : CB h a ct g c) (I : Inv ct nc nf nr m g) (hc : c < nc) : fullC g c = 0 ↔ ¬ hI h a 2 ≤ hI h a 10 := by
  obtain ⟨n, H, l1, l2, l3, l4, l5⟩ := (I.cars c hc).ld
  rw [not_full l1 l2 l3 l5, C.ho, C.ld, l1, l2, nI_leI (by omega) (by omega)]
  omega
theorem CB.full2 (C : CB h a ct g c) (I : Inv ct nc nf nr m g) (hc : c < nc) : fullC g c = 0 ↔ hI h a 10 < hI h a 2 := by
  obtain ⟨n, H, l1, l2, l3, l4, l5⟩ := (I.cars c hc).ld
  rw [not_full l1 l2 l3 l5, C.ho, C.ld, l1, l2, nI_ltI (by omega) (by omega)]
/-- the set of stops of a car's object -/
def stL (h : PH) (a : Nat) : Int64 := if hI h a 2 ≤ hI h a 10 then hL h a 11 else (hL h a 11 ||| hL h a 12)
theorem CO.bit (C : CO h a ct nr g c) (I : Inv ct nc nf nr m g) (hc : c < nc) {i : Nat} (hi : i < 64) : bL (stL h a) i = true → stp g nr nf c (i / 4) := by
  intro e
  have g1 : bL (hL h a 11) i = true → stp g nr nf c (i / 4) := fun q => by
    obtain ⟨r, h1, h2, j, h3, h4, h5⟩ := (C.2 i hi (by omega)).mp q
    refine Or.inl ⟨r, h1, h2, ?_⟩
    rw [h5, show 4 * j / 4 = j by omega]
    exact h3
  unfold stL at e
  by_cases q : hI h a 2 ≤ hI h a 10
  · rw [if_pos q] at e
    exact g1 e
  · rw [if_neg q, bL_or, Bool.or_eq_true] at e
    rcases e with e | e
    · exact g1 e
    · obtain ⟨h1, h2⟩ := (C.1.ca i hi).mp e
      obtain ⟨v, h3, h4, h5⟩ := I.call i h1
      have hv : 0 < v := by
        rcases Nat.eq_zero_or_pos v with z | z
        · have hC := I.hc
          rw [h2, z, nI_1, nI_eq (by omega) (by omega)] at h3
          omega
        · exact z
      refine Or.inr ⟨(C.1.full I hc).mpr q, (h5 hv).1, has_any.mpr ⟨i % 4, by omega, ?_⟩⟩
      rw [show 4 * (i / 4) + i % 4 = i by omega]
      exact h2
theorem CO.bit2 (C : CO h a ct nr g c) (I : Inv ct nc nf nr m g) (hc : c < nc) {j : Nat} (hj : j < 12) (s : stp g nr nf c j) : ∃ i, i < 64 ∧ i / 4 = j ∧ bL (stL h a) i = true := by
  rcases s with ⟨r, h1, h2, h3⟩ | ⟨h1, h2, h3⟩
  · refine ⟨4 * j, by omega, by omega, ?_⟩
    have e := (C.2 (4 * j) (by omega) (by omega)).mpr ⟨r, h1, h2, j, h3, hj, rfl⟩
    unfold stL
    split
    · exact e
    · rw [bL_or, e]; rfl
  · obtain ⟨i, hi, e⟩ := has_any.mp h3
    refine ⟨4 * j + i, by omega, by omega, ?_⟩
    have e2 := (C.1.ca (4 * j + i) (by omega)).mpr ⟨by omega, e⟩
    unfold stL
    rw [if_neg ((C.1.full I hc).mp h1), bL_or, e2, Bool.or_true]
theorem CO.sU (C : CO h a ct nr g c) (I : Inv ct nc nf nr m g) (hc : c < nc) : ¬ lg_cmp (lus (lus (stL h a) (4 * hI h a 3)) 4) 0 = 0 ↔ ¬ isStopC g nr nf c 1 = 0 := by
  have hF := I.hF
  obtain ⟨f1, f2⟩ := I.i_flo hc
  rw [C.1.fl, f1, n4, bL_above _ _ (by omega), I.stopU hc]
  constructor
  · rintro ⟨i, h1, h2, h3⟩
    have s := C.bit I hc h2 h3
    exact ⟨i / 4, by omega, stp_lt (by omega) I.to' I.hF s, s⟩
  · rintro ⟨j, h1, h2, h3⟩
    obtain ⟨i, q1, q2, q3⟩ := C.bit2 I hc (by omega) h3
    exact ⟨i, by omega, q1, q3⟩
theorem CO.sD (C : CO h a ct nr g c) (I : Inv ct nc nf nr m g) (hc : c < nc) : ¬ lg_cmp (stL h a &&& ((lsh 1 (4 * hI h a 3)) - 1)) 0 = 0 ↔ ¬ isStopC g nr nf c (-1) = 0 := by
  have hF := I.hF
  obtain ⟨f1, f2⟩ := I.i_flo hc
  rw [C.1.fl, f1, n4, bL_below _ _ (by omega), I.stopD hc]
  constructor
  · rintro ⟨i, h1, h3⟩
    have s := C.bit I hc (by omega) h3
    exact ⟨i / 4, by omega, s⟩
  · rintro ⟨j, h1, h3⟩
    obtain ⟨i, q1, q2, q3⟩ := C.bit2 I hc (by omega) h3
    exact ⟨i, by omega, q3⟩
theorem isStop_01 {y : Int32} : isStopC g nr nf c y = 0 ∨ isStopC g nr nf c y = 1 := by
  unfold isStopC
  split
  · split
    · exact Or.inl rfl
    · split
      · exact Or.inl rfl
      · exact Or.inr rfl
  · split
    · exact Or.inl rfl
    · exact Or.inr rfl
theorem k_hasStop {y : Int32} (C : CO h a ct nr g c) (I : Inv ct nc nf nr m g) (hc : c < nc) (hy : y = 0 ∨ y = 1 ∨ y = -1) : CI l x mX2_hasStop 0 0 0 [.ref a, .int y] h (fun v h' => v = isStopC g nr nf c y ∧ h' = h) := by
  have key : (if y ≤ 0 then (if 0 ≤ y then 0 else (if (lg_cmp (stL h a &&& ((lsh 1 (4 * (hI h a 3))) - 1)) 0) = 0 then 0 else 1 : Int32) : Int32) else (if (lg_cmp (lus (lus (stL h a) (4 * (hI h a 3))) 4) 0) = 0 then 0 else 1 : Int32) : Int32) = isStopC g nr nf c y := by
    rcases hy with rfl | rfl | rfl
    · rw [isStop_0]; rfl
    · rw [if_neg (by decide)]
      exact b01 isStop_01 (C.sU I hc)
    · rw [if_pos (by decide), if_neg (by decide)]
      exact b01 isStop_01 (C.sD I hc)
  refine Cm.of (by decide) (Nat.le_of_ble_eq_true rfl) (vX2_hasStop_0 ⟨C.1.ck, fun y3 hy3 => ?_⟩)
  change y3 = stL h a at hy3
  subst hy3
  rw [key]
  exact ⟨isStop_01, _, rfl, rfl, rfl⟩
theorem ohA_iff {y : Int32} (hr : nr ≤ 24) : ohA g c y nr = true ↔ ∃ r, r < nr ∧ bt (g (16 + 8 * c + 3)) r = true ∧ g (48 + 9 * r + 3) = y := by
  unfold ohA
  rw [List.any_eq_true]
  constructor
  · rintro ⟨r, h1, h2⟩
    rw [List.mem_range] at h1
    rw [decide_eq_true_eq] at h2
    exact ⟨r, h1, (abit_1 (by omega)).mp h2.1, h2.2⟩
  · rintro ⟨r, h1, h2, h3⟩
    exact ⟨r, List.mem_range.mpr h1, decide_eq_true ⟨(abit_1 (by omega)).mpr h2, h3⟩⟩
/-- calls here, of some of the four -/
theorem CB.here (C : CB h a ct g c) (I : Inv ct nc nf nr m g) (hc : c < nc) (y : Int64) : ¬ lg_cmp ((lus (hL h a 12) (4 * hI h a 3)) &&& y) 0 = 0 ↔ ∃ i, i < 64 ∧ 4 * flo g c + i < 48 ∧ g (264 + (4 * flo g c + i)) = nI c + 1 ∧ bL y i = true := by
  have hF := I.hF
  obtain ⟨f1, f2⟩ := I.i_flo hc
  rw [C.fl, f1, n4, bL_at _ _ _ (by omega)]
  constructor
  · rintro ⟨i, h1, h2, h3⟩
    have h4 : 4 * flo g c + i < 64 := by
      rcases Nat.lt_or_ge (4 * flo g c + i) 64 with q | q
      · exact q
      · rw [bL_big q] at h2; cases h2
    obtain ⟨q1, q2⟩ := (C.ca _ h4).mp h2
    exact ⟨i, h1, q1, q2, h3⟩
  · rintro ⟨i, h1, h2, h3, h4⟩
    exact ⟨i, h1, (C.ca _ (by omega)).mpr ⟨h2, h3⟩, h4⟩
theorem CB.here3 (C : CB h a ct g c) (I : Inv ct nc nf nr m g) (hc : c < nc) : ¬ lg_cmp ((lus (hL h a 12) (4 * hI h a 3)) &&& 3) 0 = 0 ↔ ¬ hasC g c (flo g c) 1 = 0 := by
  have hF := I.hF
  obtain ⟨f1, f2⟩ := I.i_flo hc
  rw [C.here I hc, has_up]
  constructor
  · rintro ⟨i, h1, h2, h3, h4⟩
    rw [bL_c3 i h1, decide_eq_true_eq] at h4
    have : i = 0 ∨ i = 1 := by omega
    rcases this with rfl | rfl
    · exact Or.inl h3
    · exact Or.inr h3
  · rintro (e | e)
    · exact ⟨0, by omega, by omega, e, by decide⟩
    · exact ⟨1, by omega, by omega, e, by decide⟩
theorem CB.here12 (C : CB h a ct g c) (I : Inv ct nc nf nr m g) (hc : c < nc) : ¬ lg_cmp ((lus (hL h a 12) (4 * hI h a 3)) &&& 12) 0 = 0 ↔ ¬ hasC g c (flo g c) (-1) = 0 := by
  have hF := I.hF
  obtain ⟨f1, f2⟩ := I.i_flo hc
  rw [C.here I hc, has_dn]
  constructor
  · rintro ⟨i, h1, h2, h3, h4⟩
    rw [bL_c12 i h1, decide_eq_true_eq] at h4
    have : i = 2 ∨ i = 3 := by omega
    rcases this with rfl | rfl
    · exact Or.inl h3
    · exact Or.inr h3
  · rintro (e | e)
    · exact ⟨2, by omega, by omega, e, by decide⟩
    · exact ⟨3, by omega, by omega, e, by decide⟩
theorem ohB_01 {j : Nat} : ohB g c j = 0 ∨ ohB g c j = 1 := by
  unfold ohB
  split
  · split
    · exact Or.inl rfl
    · exact Or.inr rfl
  · exact Or.inr rfl
theorem ohB_nz {j : Nat} : ¬ ohB g c j = 0 ↔ ¬ (hasC g c j 1 = 0 ∧ hasC g c j (-1) = 0) := by
  unfold ohB
  by_cases e1 : hasC g c j 1 = 0
  · rw [if_pos e1]
    by_cases e2 : hasC g c j (-1) = 0
    · rw [if_pos e2]
      exact ⟨fun q => absurd rfl q, fun q => absurd ⟨e1, e2⟩ q⟩
    · rw [if_neg e2]
      exact ⟨fun _ q => e2 q.2, fun _ => by decide⟩
  · rw [if_neg e1]
    exact ⟨fun _ q => e1 q.1, fun _ => by decide⟩
theorem CB.here15 (C : CB h a ct g c) (I : Inv ct nc nf nr m g) (hc : c < nc) : ¬ lg_cmp ((lus (hL h a 12) (4 * hI h a 3)) &&& 15) 0 = 0 ↔ ¬ ohB g c (flo g c) = 0 := by
  have hF := I.hF
  obtain ⟨f1, f2⟩ := I.i_flo hc
  rw [C.here I hc, ohB_nz, has_any]
  constructor
  · rintro ⟨i, h1, h2, h3, h4⟩
    rw [bL_c15 i h1, decide_eq_true_eq] at h4
    exact ⟨i, h4, h3⟩
  · rintro ⟨i, h1, h2⟩
    exact ⟨i, by omega, by omega, h2, by rw [bL_c15 i (by omega)]; exact decide_eq_true h1⟩
theorem k_opensHere (C : CO h a ct nr g c) (I : Inv ct nc nf nr m g) (hc : c < nc) : CI l x mX2_opensHere 0 0 0 [.ref a, .int (isStopC g nr nf c (g (16 + 8 * c + 1)))] h (fun v h' => v = opensHereC g nr nf c (flo g c) ∧ h' = h) := by
  have hF := I.hF
  have hR := I.hr
  obtain ⟨f1, f2⟩ := I.i_flo hc
  have hA : ¬ lg_cmp ((lus (hL h a 11) (4 * hI h a 3)) &&& 1) 0 = 0 ↔ ohA g c (g (16 + 8 * c)) nr = true := by
    rw [ohA_iff hR, C.1.fl, f1, n4, bL_at _ _ _ (by omega)]
    constructor
    · rintro ⟨i, h1, h2, h3⟩
      rw [bL_c1 i h1, decide_eq_true_eq] at h3
      subst h3
      obtain ⟨r, q1, q2, j, q3, q4, q5⟩ := (C.2 _ (by omega) (by omega)).mp h2
      exact ⟨r, q1, q2, by rw [q3, show j = flo g c by omega]⟩
    · rintro ⟨r, q1, q2, q3⟩
      exact ⟨0, by omega, (C.2 _ (by omega) (by omega)).mpr ⟨r, q1, q2, _, q3, by omega, rfl⟩, by decide⟩
  refine Cm.of (by decide) (Nat.le_of_ble_eq_true rfl) (vX2_opensHere_0 ⟨C.1.ck, fun e => ?_, fun e => ⟨Or.inr rfl, _, rfl, ?_, rfl⟩⟩)
  · have eA : ¬ ohA g c (g (16 + 8 * c)) nr = true := fun q => hA.mpr q e
    refine ⟨fun e2 y7 hy7 => ?_, fun e2 => ⟨Or.inl rfl, _, rfl, ?_, rfl⟩⟩
    · have ef := (C.1.full2 I hc).mpr e2
      rw [Int64.and_assoc]
      have key : (if (lg_cmp ((lus (hL h a 12) (4 * (hI h a 3))) &&& (15 &&& y7)) 0) = 0 then 0 else 1 : Int32) = opensHereC g nr nf c (flo g c) := by
        rw [opensHereC, if_neg eA]
        unfold ohC
        rw [if_pos ef]
        rw [C.1.wy] at hy7
        by_cases w0 : g (16 + 8 * c + 1) = 0
        · rw [if_pos w0] at hy7
          rw [if_pos w0, hy7]
          exact b01 ohB_01 (C.1.here15 I hc)
        · rw [if_neg w0] at hy7
          rw [if_neg w0]
          by_cases a0 : isStopC g nr nf c (g (16 + 8 * c + 1)) = 0
          · rw [if_pos a0] at hy7
            rw [hy7, if_pos a0]
            have e15 := C.1.here15 I hc
            by_cases h0 : hasC g c (flo g c) (g (16 + 8 * c + 1)) = 0
            · rw [if_pos h0]
              exact b01 ohB_01 e15
            · rw [if_neg h0]
              refine b01 (Or.inr rfl) ⟨fun _ => by decide, fun _ => e15.mpr (ohB_nz.mpr fun q => ?_)⟩
              rcases (I.cars c hc).wy with z | z | z
              · exact w0 z
              · exact h0 (by rw [z]; exact q.1)
              · exact h0 (by rw [z]; exact q.2)
          · rw [if_neg a0] at hy7
            rw [if_neg a0]
            rcases (I.cars c hc).wy with z | z | z
            · exact absurd z w0
            · rw [z, if_neg (by decide)] at hy7
              rw [z, hy7]
              refine (b01 has_01 (C.1.here3 I hc)).trans ?_
              by_cases h0 : hasC g c (flo g c) 1 = 0
              · rw [if_pos h0, h0]
              · rw [if_neg h0]
                rcases has_01 (g := g) (c := c) (j := flo g c) (y := 1) with q | q
                · exact absurd q h0
                · exact q
            · rw [z, if_pos (by decide)] at hy7
              rw [z, hy7]
              refine (b01 has_01 (C.1.here12 I hc)).trans ?_
              by_cases h0 : hasC g c (flo g c) (-1) = 0
              · rw [if_pos h0, h0]
              · rw [if_neg h0]
                rcases has_01 (g := g) (c := c) (j := flo g c) (y := -1) with q | q
                · exact absurd q h0
                · exact q
      rw [key]
      exact ⟨oh_01 g nr nf c (flo g c), _, rfl, rfl, rfl⟩
    · have ef : ¬ fullC g c = 0 := fun q => e2 ((C.1.full2 I hc).mp q)
      rw [opensHereC, if_neg eA]
      unfold ohC
      rw [if_neg ef]
  · rw [opensHereC, if_pos (hA.mp e)]
end CarStop
