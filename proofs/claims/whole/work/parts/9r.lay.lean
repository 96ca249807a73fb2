/-! THE REFERENCE: what is told when nothing is -/
section Lay
variable {l : Launch} {x : CX} {h h' : PH} {a : Nat}
/-- the row read, when nothing was told -/
def tZ (k : Nat) : Int32 := if k = 0 then 8 else if k = 1 then 0 else if k = 2 then 0 else -1
theorem c_layFirst (hk : hK h a = (100, 7)) : CV l x mX8_layFirst 0 0 0 [.ref a] h (fun h' => Fr1 a h h' ∧ ∀ k, k < 7 → hI h' a k = tZ k) := by
  have loop : ∀ (j i : Nat) (g : PH), i + j = 7 → Fr1 a h g → (∀ k, k < i → hI g a k = -1) → Gm l x mX8_layFirst 0 2 [(0, .ref a), (1, .int (nI i))] [] g 0 0 (hN h) (fun v h' => v = none ∧ Fr1 a h h' ∧ ∀ k, k < 7 → hI h' a k = tZ k) (fun _ _ => False) := by
    intro j
    induction j with
    | zero =>
      intro i g hi pg z
      obtain rfl : i = 7 := by omega
      have kg : hK g a = (100, 7) := by rw [pg.hK]; exact hk
      refine vX8_layFirst_2 ⟨fun _ => ⟨by rw [kg], by rw [kg]; exact vp_in_nI (n := 0) (by decide) (by decide), by rw [kg]; exact vp_in_nI (n := 1) (by decide) (by decide), by rw [kg]; exact vp_in_nI (n := 2) (by decide) (by decide), rfl, ((pg.sI _ _).sI _ _).sI _ _, fun k hk => ?_⟩, fun e => absurd (by decide) e⟩
      rw [show Int32.toNatClampNeg 0 = 0 from rfl, show Int32.toNatClampNeg 1 = 1 from rfl, show Int32.toNatClampNeg 2 = 2 from rfl, hI_sI, hI_sI, hI_sI]
      unfold tZ
      by_cases e2 : k = 2
      · rw [if_pos ⟨e2, rfl⟩, if_neg (by omega), if_neg (by omega), if_pos e2]
      · rw [if_neg fun q => e2 q.1]
        by_cases e1 : k = 1
        · rw [if_pos ⟨e1, rfl⟩, if_neg (by omega), if_pos e1]
        · rw [if_neg fun q => e1 q.1]
          by_cases e0 : k = 0
          · rw [if_pos ⟨e0, rfl⟩, if_pos e0]
          · rw [if_neg fun q => e0 q.1, if_neg e0, if_neg e1, if_neg e2]
            exact z k hk
    | succ j ih =>
      intro i g hi pg z
      have kg : hK g a = (100, 7) := by rw [pg.hK]; exact hk
      refine vX8_layFirst_2 ⟨fun e => absurd e (nI_ge (b := 7) (by omega) (by decide)), fun _ => ⟨by rw [kg], by rw [kg]; exact vp_in_nI (by omega) (by decide), ?_⟩⟩
      rw [nI_clamp (by omega), nI_1]
      refine ih (i + 1) _ (by omega) (pg.sI _ _) (fun k hk => ?_)
      rw [hI_sI]
      by_cases e : k = i
      · rw [if_pos ⟨e, rfl⟩]
      · rw [if_neg fun q => e q.1]
        exact z k (by omega)
  exact Cm.of (by decide) (Nat.le_of_ble_eq_true rfl) (vX8_layFirst_0 (loop 7 0 h rfl (Fr1.refl _ _) (fun k hk => absurd hk (Nat.not_lt_zero _))))
end Lay
