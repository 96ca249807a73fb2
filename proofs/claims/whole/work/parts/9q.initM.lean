/-! THE REFERENCE: its rows, one after another, when it is made -/
section InitM
variable {h h0 h' : PH} {mo k : Nat}
/-- k rows stand; the last is not yet told to the reference -/
def MK (h0 : PH) (mo k : Nat) (h : PH) : Prop := hN h = mo + k + 1 ∧ (hK h mo).1 = 8 ∧ (∀ b, b < mo → Ac b h0 h) ∧ (∀ q ∈ mtab, q.2.1 < k → hR h mo q.1 = some (mo + q.2.1)) ∧ (∀ q ∈ mtab, q.2.1 ≤ k → hK h (mo + q.2.1) = (100, q.2.2)) ∧ hR h mo 0 = some (mo + 1) ∧ hK h (mo + 1) = (108, 7) ∧ (∀ j, j < 7 → hR h (mo + 1) j = some (10 + j)) ∧ (∀ j, j ≠ 20 → hI h mo j = hI h0 mo j) ∧ ∀ q ∈ mtab, q.2.1 ≤ k → ∀ j, hI h (mo + q.2.1) j = 0
theorem MK.step {f n : Nat} (q : MK h0 mo k h) (h2 : 2 ≤ k) (hf0 : f ≠ 0) (hf : ∀ q ∈ mtab, q.1 = f ↔ q.2.1 = k) (hn : ∀ q ∈ mtab, q.2.1 = k + 1 → q.2.2 = n) (hlo : ∀ q ∈ mtab, 2 ≤ q.2.1) (e : h' = nw (sR h mo f (some (mo + k))) (100, n)) : MK h0 mo (k + 1) h' := by
  obtain ⟨q1, q2, q3, q4, q5, q6, q7, q8, q9, q10⟩ := q
  obtain ⟨n1, k1, r1, o1, kd1, i1, A1, z1, _⟩ := st_new (d := mo) (by omega) e
  rw [q1] at n1 k1 A1 z1
  have Am := A1 (mo + 1) (by omega) (by omega)
  refine ⟨by omega, by rw [kd1]; exact q2, fun b hb => (q3 b hb).trans (A1 b (by omega) (by omega)), fun p hp hk => ?_, fun p hp hk => ?_, by rw [o1 0 (fun z => hf0 z.symm)]; exact q6, by rw [Am.1]; exact q7, fun j hj => by rw [Am.hR]; exact q8 j hj, fun j hj => (i1 j).trans (q9 j hj), fun p hp hk j => ?_⟩
  · by_cases z : p.1 = f
    · rw [z, (hf p hp).mp z]; exact r1
    · rw [o1 _ z]
      refine q4 p hp ?_
      have : p.2.1 ≠ k := fun y => z ((hf p hp).mpr y)
      omega
  · by_cases z : p.2.1 = k + 1
    · rw [z, hn p hp z]; exact k1
    · have := hlo p hp
      rw [(A1 (mo + p.2.1) (by omega) (by omega)).1]
      exact q5 p hp (by omega)
  · by_cases z : p.2.1 = k + 1
    · rw [z]; exact z1 j
    · have := hlo p hp
      rw [(A1 (mo + p.2.1) (by omega) (by omega)).hI]
      exact q10 p hp (by omega) j
theorem MK.s20 (q : MK h0 mo k h) : MK h0 mo k (sI h mo 20 (-1)) := by
  obtain ⟨q1, q2, q3, q4, q5, q6, q7, q8, q9, q10⟩ := q
  refine ⟨q1, q2, fun b hb => (q3 b hb).trans (sI_Ac (by omega)), q4, q5, q6, q7, q8, fun j hj => ?_, fun p hp hk j => ?_⟩
  · rw [hI_sI, if_neg fun z => hj z.1]; exact q9 j hj
  · have : 2 ≤ p.2.1 := (by decide : ∀ q ∈ mtab, 2 ≤ q.2.1) p hp
    rw [hI_sI, if_neg fun z => by omega]
    exact q10 p hp hk j
end InitM
