/-! THE TEXT: tokens, words, numbers; and the clauses, as both sides read them -/
section Text
def bSp (v : Int32) : Bool := decide (v = 32) || decide (v = 10)
def bLe (v : Int32) : Bool := decide (97 ≤ v) && decide (v ≤ 122)
def bDi (v : Int32) : Bool := decide (48 ≤ v) && decide (v ≤ 57)
def rnA (p : Int32 → Bool) (tp : Nat → Int32) : Nat → Nat → Nat
  | 0, a => a
  | k + 1, a => if p (tp a) then rnA p tp k (a + 1) else a
def rE (p : Int32 → Bool) (tp : Nat → Int32) (n a : Nat) : Nat := rnA p tp (n - a) a
variable {p : Int32 → Bool} {tp : Nat → Int32} {n a b : Nat}
theorem rE_ge (h : n ≤ a) : rE p tp n a = a := by unfold rE; rw [show n - a = 0 by omega]; rfl
theorem rE_yes (h : a < n) (hp : p (tp a) = true) : rE p tp n a = rE p tp n (a + 1) := by
  unfold rE
  rw [show n - a = (n - (a + 1)) + 1 by omega]
  show (if p (tp a) then rnA p tp (n - (a + 1)) (a + 1) else a) = _
  rw [if_pos hp]
theorem rE_no (h : a < n) (hp : ¬ p (tp a) = true) : rE p tp n a = a := by
  unfold rE
  rw [show n - a = (n - (a + 1)) + 1 by omega]
  show (if p (tp a) then rnA p tp (n - (a + 1)) (a + 1) else a) = _
  rw [if_neg hp]
theorem rnA_le : ∀ k a, a ≤ rnA p tp k a ∧ rnA p tp k a ≤ a + k
  | 0, a => ⟨Nat.le_refl _, Nat.le_refl _⟩
  | k + 1, a => by
    unfold rnA
    split
    · have := rnA_le k (a + 1); omega
    · omega
theorem rE_le (h : a ≤ n) : a ≤ rE p tp n a ∧ rE p tp n a ≤ n := by
  have := rnA_le (p := p) (tp := tp) (n - a) a
  unfold rE
  omega
def tkK (tp : Nat → Int32) (n b : Nat) : Nat := if n ≤ b then 0 else if bLe (tp b) = true then 1 else if bDi (tp b) = true then 2 else if tp b = 59 then 3 else 4
def tkE (tp : Nat → Int32) (n b : Nat) : Nat := if n ≤ b then b else if bLe (tp b) = true then rE bLe tp n b else if bDi (tp b) = true then rE bDi tp n b else b + 1
def tokB (tp : Nat → Int32) (n a : Nat) : Nat := rE bSp tp n a
def nv (tp : Nat → Int32) (b : Nat) : Nat → Nat
  | 0 => 0
  | k + 1 => 10 * nv tp b k + ((tp (b + k)).toNatClampNeg - 48)
def tkV (tp : Nat → Int32) (n b : Nat) : Nat := nv tp b (tkE tp n b - b)
theorem tokB_le (h : a ≤ n) : a ≤ tokB tp n a ∧ tokB tp n a ≤ n := rE_le h
theorem tkE_le (h : b ≤ n) : b ≤ tkE tp n b ∧ tkE tp n b ≤ n := by
  unfold tkE
  split
  · omega
  · split
    · exact rE_le h
    · split
      · exact rE_le h
      · omega
theorem tkE_lt (h : tkK tp n b ≠ 0) : b < tkE tp n b := by
  unfold tkK at h
  unfold tkE
  by_cases e : n ≤ b
  · rw [if_pos e] at h; exact absurd rfl h
  · rw [if_neg e]
    have hb : b < n := by omega
    split
    · rename_i q
      rw [rE_yes hb q]
      have := rE_le (p := bLe) (tp := tp) (n := n) (a := b + 1) (by omega)
      omega
    · split
      · rename_i q
        rw [rE_yes hb q]
        have := rE_le (p := bDi) (tp := tp) (n := n) (a := b + 1) (by omega)
        omega
      · omega
def BY (n : Nat) (tp : Nat → Int32) : Prop := ∀ i, i < n → ∃ c, c < 256 ∧ tp i = nI c
theorem bDi_iff {c : Nat} (hc : c < 256) : bDi (nI c) = true ↔ 48 ≤ c ∧ c ≤ 57 := by
  unfold bDi
  rw [Bool.and_eq_true, decide_eq_true_eq, decide_eq_true_eq]
  exact and_congr (nI_leI (a := 48) (by decide) (by omega)) (nI_leI (b := 57) (by omega) (by decide))
/-- the word number k (of ten) stands from b to e -/
def WM (tp : Nat → Int32) (k b e : Nat) : Prop := e = b + (wordL k).length ∧ ∀ i, i < (wordL k).length → tp (b + i) = nI ((wordL k).getD i 0)
def isW (tp : Nat → Int32) (n k b : Nat) : Prop := tkK tp n b = 1 ∧ WM tp k b (tkE tp n b)
noncomputable def whA (P : Nat → Prop) : Nat → Nat → Nat
  | 0, k => k
  | j + 1, k => ite' (P k) k (whA P j (k + 1))
theorem whA_eq {P : Nat → Prop} {k : Nat} (hk : P k) : ∀ j i, i ≤ k → k < i + j → (∀ m, i ≤ m → m < k → ¬ P m) → whA P j i = k
  | 0, i, h1, h2, _ => by omega
  | j + 1, i, h1, h2, h3 => by
    unfold whA
    by_cases e : i = k
    · rw [e, ite'_t hk]
    · rw [ite'_f (h3 i (Nat.le_refl _) (by omega))]
      exact whA_eq hk j (i + 1) (by omega) (by omega) fun m q1 q2 => h3 m (by omega) q2
theorem whA_no {P : Nat → Prop} : ∀ j i, (∀ m, i ≤ m → m < i + j → ¬ P m) → whA P j i = i + j
  | 0, i, _ => rfl
  | j + 1, i, h => by
    unfold whA
    rw [ite'_f (h i (Nat.le_refl _) (by omega)), whA_no j (i + 1) fun m q1 q2 => h m (by omega) (by omega)]
    omega
/-- what was told so far: the rows read, carRead, riderRead; cars, floors, riders -/
abbrev PD : Type := (Nat → Int32) × (Nat → Int32) × (Nat → Int32) × Nat × Nat × Nat
abbrev PR : Type := (Int32 × Nat) ⊕ (PD × Nat)
noncomputable def sgB (tp : Nat → Int32) (n : Nat) (d : PD) (b : Nat) : PR := ite' (tkK tp n b = 3) (.inr (d, tokB tp n (tkE tp n b))) (.inl (1, b))
noncomputable def nuC (tp : Nat → Int32) (n lo hi a : Nat) (k : Nat → Nat → Nat → PR) : PR := ite' (tkK tp n (tokB tp n a) = 2) (ite' (tkE tp n (tokB tp n a) - tokB tp n a ≤ 2 ∧ lo ≤ tkV tp n (tokB tp n a) ∧ tkV tp n (tokB tp n a) ≤ hi) (k (tkV tp n (tokB tp n a)) (tokB tp n a) (tkE tp n (tokB tp n a))) (.inl (2, tokB tp n a))) (.inl (1, tokB tp n a))
def pdS (d : PD) (k v : Nat) : PD := (up d.1 k (nI v), d.2.1, d.2.2.1, d.2.2.2.1, (if k = 0 then v else d.2.2.2.2.1), d.2.2.2.2.2)
def pdC (d : PD) (f c s : Nat) : PD := (up d.1 1 (nI (d.2.2.2.1 + 1)), up (up (up d.2.1 (3 * d.2.2.2.1) (nI f)) (3 * d.2.2.2.1 + 1) (nI c)) (3 * d.2.2.2.1 + 2) (nI s), d.2.2.1, d.2.2.2.1 + 1, d.2.2.2.2.1, d.2.2.2.2.2)
def pdR (d : PD) (tm f g s : Nat) : PD := (up d.1 2 (nI (d.2.2.2.2.2 + 1)), d.2.1, up (up (up (up d.2.2.1 (4 * d.2.2.2.2.2) (nI s)) (4 * d.2.2.2.2.2 + 1) (nI tm)) (4 * d.2.2.2.2.2 + 2) (nI f)) (4 * d.2.2.2.2.2 + 3) (nI g), d.2.2.2.1, d.2.2.2.2.1, d.2.2.2.2.2 + 1)
noncomputable def clCar (tp : Nat → Int32) (n : Nat) (d : PD) (b : Nat) : PR :=
  ite' (d.2.2.2.1 = 4) (.inl (2, b)) (nuC tp n 0 99 (tkE tp n b) fun f b1 e1 => ite' (f < d.2.2.2.2.1) (nuC tp n 1 6 e1 fun c _ e2 => ite' (isW tp n 7 (tokB tp n e2)) (sgB tp n (pdC d f c 1) (tokB tp n (tkE tp n (tokB tp n e2)))) (ite' (isW tp n 8 (tokB tp n e2)) (sgB tp n (pdC d f c 2) (tokB tp n (tkE tp n (tokB tp n e2)))) (sgB tp n (pdC d f c 0) (tokB tp n e2)))) (.inl (3, b1)))
noncomputable def clRid (tp : Nat → Int32) (n : Nat) (d : PD) (b : Nat) : PR :=
  ite' (d.2.2.2.2.2 = 20) (.inl (2, b)) (nuC tp n 0 99 (tkE tp n b) fun tm _ e1 => nuC tp n 0 99 e1 fun f b2 e2 => ite' (f < d.2.2.2.2.1) (nuC tp n 0 99 e2 fun g b3 e3 => ite' (g < d.2.2.2.2.1) (ite' (g = f) (.inl (5, b3)) (ite' (isW tp n 9 (tokB tp n e3)) (sgB tp n (pdR d tm f g 2) (tokB tp n (tkE tp n (tokB tp n e3)))) (sgB tp n (pdR d tm f g 1) (tokB tp n e3)))) (.inl (3, b3))) (.inl (3, b2)))
def lo7 (k : Nat) : Nat := if k = 0 then 2 else if k = 3 then 1 else 0
def hi7 (k : Nat) : Nat := if k = 0 then 12 else if k = 3 then 4 else if k = 4 then 11 else if k = 5 then 2 else 8
noncomputable def clSet (tp : Nat → Int32) (n : Nat) (d : PD) (cl k b : Nat) : PR :=
  ite' ((k = 0 ∧ 0 < cl) ∨ (2 < k ∧ ¬ d.1 k = -1)) (.inl (4, b)) (nuC tp n (lo7 k) (hi7 k) (tkE tp n b) fun v _ e => sgB tp n (pdS d k v) (tokB tp n e))
noncomputable def clOf (tp : Nat → Int32) (n : Nat) (d : PD) (cl b : Nat) : PR :=
  ite' (whA (fun k => isW tp n k b) 7 0 = 1) (clCar tp n d b) (ite' (whA (fun k => isW tp n k b) 7 0 = 2) (clRid tp n d b) (ite' (whA (fun k => isW tp n k b) 7 0 = 7) (.inl (1, b)) (clSet tp n d cl (whA (fun k => isW tp n k b) 7 0) b)))
noncomputable def prs (tp : Nat → Int32) (n : Nat) : Nat → PD → Nat → Nat → (Int32 × Nat) ⊕ PD
  | 0, d, _, _ => .inr d
  | k + 1, d, cl, b => ite' (tkK tp n b = 0) (.inr d) (match clOf tp n d cl b with | .inl q => .inl q | .inr q => prs tp n k q.1 (cl + 1) q.2)
/-! what a good parse has -/
def PDok (d : PD) : Prop := TD d.1 d.2.1 d.2.2.1 d.2.2.2.1 d.2.2.2.2.1 d.2.2.2.2.2
end Text
