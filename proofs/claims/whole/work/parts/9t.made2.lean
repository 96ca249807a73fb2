/-! THE REFERENCE: it is made, whole -/
section MadeM2
variable {l : Launch} {x : CX} {h h' : PH} {mo : Nat}
theorem SB.ac {S : List Nat} {b : Nat} (a : SB S mo h h') (hb : ∀ s ∈ S, b ≠ mo + s) : Ac b h h' :=
  ⟨congrFun a.2.1 b, fun k => ⟨a.2.2.2 b hb k, congrFun (congrFun (congrArg (fun q => q.1) a.2.2.1) b) k, congrFun (congrFun (congrArg (fun q => q.2.1) a.2.2.1) b) k, congrFun (congrFun (congrArg (fun q => q.2.2) a.2.2.1) b) k⟩⟩
theorem SG.ac {P : Nat → Nat → Prop} {b : Nat} (a : SG P h h') (hb : ∀ j, ¬ P b j) : Ac b h h' :=
  ⟨congrFun a.2.1 b, fun k => ⟨a.2.2.2 b k (hb k), congrFun (congrFun (congrArg (fun q => q.1) a.2.2.1) b) k, congrFun (congrFun (congrArg (fun q => q.2.1) a.2.2.1) b) k, congrFun (congrFun (congrArg (fun q => q.2.2) a.2.2.1) b) k⟩⟩
/-- a new reference -/
def M0 (h : PH) (mo : Nat) (h' : PH) : Prop := hN h' = mo + 23 ∧ (∀ b, b < mo → Ac b h h') ∧ ∃ t, (∀ k, k < 7 → t k = tZ k) ∧ RX mo t (fun _ => 0) (fun _ => 0) h' ∧ NR mo h' (bgF t (fun _ => 0) (fun _ => 0) 0 0) ∧ (∀ j, j ≠ 20 → hI h' mo j = hI h mo j) ∧ hI h' mo 20 = -1 ∧ ∀ j, hI h' (mo + 3) j = 0
theorem c_initM (O : XN x) (hk : (hK h mo).1 = 8) (hn : hN h = mo + 1) : CV l x mX8_init 2 22 28383 [.ref mo] h (fun h' => M0 h mo h') := by
  refine c_rows O hk hn _ (fun g M g20 => ?_)
  obtain ⟨m1, m2, m3, m4, m5, m6, m7, m8, m9, m10⟩ := M
  have k4 : hK (sR g mo 41 (some (mo + 22))) (mo + 4) = (100, 7) := m5 (4, 4, 7) (by decide) (by decide)
  refine ⟨_, c_layFirst k4, ?_⟩
  rintro h1 ⟨p1, e1⟩
  have w1 : MW mo h1 := by
    refine ⟨by rw [p1.hK]; exact m2, fun q hq => ⟨?_, by rw [p1.hK]; exact m5 q hq ((by decide : ∀ q ∈ mtab, q.2.1 ≤ 22) q hq)⟩, ?_, by rw [p1.hK]; exact m7, fun j hj => ?_⟩
    · rw [p1.hR]
      have t41 := (by decide : ∀ q ∈ mtab, q.1 = 41 ∧ q.2.1 = 22 ∨ q.1 ≠ 41 ∧ q.2.1 < 22) q hq
      rcases t41 with ⟨z1, z2⟩ | ⟨z1, z2⟩
      · rw [z1, z2]; exact sR_at _ _ _ _
      · rw [sR_ne _ _ _ z1]; exact m4 q hq z2
    · rw [p1.hR, sR_ne _ _ _ (by decide)]; exact m6
    · rw [p1.hR]
      exact ((sR_Ac (h := g) (a := mo) (k := 41) (v := some (mo + 22)) (b := mo + 1) (by omega)).hR j).trans (m8 j hj)
  have z : ∀ q ∈ mtab, q.2.1 ≠ 4 → ∀ j, hI h1 (mo + q.2.1) j = 0 := fun q hq hn4 j => by
    rw [p1.hI (by omega)]
    exact m10 q hq ((by decide : ∀ q ∈ mtab, q.2.1 ≤ 22) q hq) j
  have X1 : RX mo (fun k => hI h1 (mo + 4) k) (fun _ => 0) (fun _ => 0) h1 := ⟨⟨w1, fun _ => rfl, z (6, 6, 12) (by decide) (by decide)⟩, z (8, 8, 80) (by decide) (by decide)⟩
  refine ⟨w1.1, _, r_begin (nc := 0) (nr := 0) X1 (e1 1 (by decide)) (by decide) (e1 2 (by decide)) (by decide), ?_⟩
  rintro h2 ⟨s2, n2⟩
  refine ⟨by have := s2.1; have := p1.hN; show h2.1 = _; rw [s2.1]; show hN h1 = _; rw [p1.hN, hN_sR]; exact m1, fun b hb => (((m3 b hb).trans (sR_Ac (by omega))).trans (p1.ac (by omega))).trans (s2.ac fun s hs => by omega), _, e1, X1.sb s2 (by decide) (by decide) (by decide), n2, fun j hj => ?_, ?_, fun j => ?_⟩
  · rw [s2.fldE (by decide), p1.hI (by omega)]
    exact m9 j hj
  · rw [s2.fldE (by decide), p1.hI (by omega)]
    exact g20
  · rw [s2.rowE (by decide)]
    exact z (3, 3, 3) (by decide) (by decide) j
theorem TD_zero {t ct rt : Nat → Int32} (e : ∀ k, k < 7 → t k = tZ k) : TD t ct rt 0 8 0 := by
  have d : ∀ k, 3 ≤ k → k < 7 → tellsT t k = (if k = 3 then 2 else if k = 5 then 1 else 0) := fun k h1 h2 => by
    unfold tellsT
    rw [if_pos]
    rw [e k h2]
    unfold tZ
    rw [if_neg (by omega), if_neg (by omega), if_neg (by omega)]
  refine ⟨⟨⟨e 0 (by decide), 2, d 3 (by decide) (by decide), by decide, by decide⟩, e 1 (by decide)⟩, by decide, by decide, by decide, e 2 (by decide), by decide, fun c hc => absurd hc (Nat.not_lt_zero _), fun c hc => absurd hc (Nat.not_lt_zero _), fun c hc => absurd hc (Nat.not_lt_zero _), Or.inr (Or.inl (d 5 (by decide) (by decide))), ⟨0, d 4 (by decide) (by decide), by decide⟩, ⟨0, d 6 (by decide) (by decide), by decide⟩⟩
end MadeM2
