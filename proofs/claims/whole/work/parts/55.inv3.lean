/-! A CAR'S STEP KEEPS THE INVARIANT -/
section InvStep
variable {t ct : Nat → Int32} {nc nf nr m : Nat} {f : Nat → Int32}
theorem flo_eq {c fl : Nat} (h : f (16 + 8 * c) = nI fl) (hf : fl < 12) : flo f c = fl := by
  unfold flo
  rw [h, nI_clamp (by omega)]
theorem Inv.i_flo (I : Inv ct nc nf nr m f) {c : Nat} (hc : c < nc) : f (16 + 8 * c) = nI (flo f c) ∧ flo f c < nf := by
  obtain ⟨n, h1, h2⟩ := (I.cars c hc).fl
  have := I.hF
  rw [flo_eq h1 (by omega)]
  exact ⟨h1, h2⟩
theorem Inv.i_lod (I : Inv ct nc nf nr m f) {c : Nat} (hc : c < nc) : bc (f (16 + 8 * c + 3)) = nI (lod f c) ∧ lod f c < 7 := by
  obtain ⟨n, H, h1, h2, h3, h4, h5⟩ := (I.cars c hc).ld
  unfold lod
  rw [h1, nI_clamp (by omega)]
  exact ⟨rfl, by omega⟩
theorem Inv.cvd (I : Inv ct nc nf nr m f) {c : Nat} (hc : c < nc) : CVd f c (flo f c) (lod f c) := by
  have h1 := I.i_flo hc
  have h2 := I.i_lod hc
  have := I.hF
  exact ⟨h1.1, by omega, h2.1, h2.2, (I.cars c hc).wk⟩
theorem Inv.mlt (I : Inv ct nc nf nr m f) : m ≤ 24 := by
  have h1 := I.hm
  have h2 := fb_ct_le (fun r => decide (¬ f (48 + 9 * r + 4) = 0)) nr
  have h3 := I.hr
  omega
theorem Inv.rv (I : Inv ct nc nf nr m f) {mo : Nat} {h : PH} (h0 : t 0 = nI nf) (ht : ∀ k, hI h (mo + 4) k = t k) : RV mo h f t nr nf m := by
  have h1 := I.mlt
  have h2 := I.hf
  exact ⟨I.h6, I.hr, (ht 0).trans h0, by omega, I.hF, I.h7, by omega, ht⟩
theorem Inv.to' (I : Inv ct nc nf nr m f) : ∀ r, r < nr → ∃ n, f (48 + 9 * r + 3) = nI n ∧ n < nf := fun r hr => (I.rids r hr).to
theorem Inv.stopU (I : Inv ct nc nf nr m f) {c : Nat} (hc : c < nc) : ¬ isStopC f nr nf c 1 = 0 ↔ ∃ j, flo f c < j ∧ j < nf ∧ stp f nr nf c j :=
  isStop_up I.to' I.hr I.hF (I.i_flo hc).1 (I.i_flo hc).2
theorem Inv.stopD (I : Inv ct nc nf nr m f) {c : Nat} (hc : c < nc) : ¬ isStopC f nr nf c (-1) = 0 ↔ ∃ j, j < flo f c ∧ stp f nr nf c j :=
  isStop_dn I.to' I.hr I.hF (I.i_flo hc).1 (I.i_flo hc).2
theorem Inv.i_goW (I : Inv ct nc nf nr m f) {c : Nat} (hc : c < nc) : goW f nr nf c = 0 ∨ (goW f nr nf c = 1 ∧ flo f c + 1 < nf) ∨ (goW f nr nf c = -1 ∧ 0 < flo f c) := by
  have U : ¬ isStopC f nr nf c 1 = 0 → flo f c + 1 < nf := fun q => by
    obtain ⟨j, h1, h2, _⟩ := (I.stopU hc).mp q
    omega
  have D : ¬ isStopC f nr nf c (-1) = 0 → 0 < flo f c := fun q => by
    obtain ⟨j, h1, _⟩ := (I.stopD hc).mp q
    omega
  unfold goW turnedC
  rcases (I.cars c hc).wy with e | e | e
  · rw [e, if_pos rfl, if_pos rfl]
    by_cases h1 : isStopC f nr nf c 1 = 0
    · rw [if_pos h1]
      by_cases h2 : isStopC f nr nf c (-1) = 0
      · rw [if_pos h2]; exact Or.inl rfl
      · rw [if_neg h2]; exact Or.inr (Or.inr ⟨rfl, D h2⟩)
    · rw [if_neg h1]; exact Or.inr (Or.inl ⟨rfl, U h1⟩)
  · rw [e, if_neg (show ¬ (1 : Int32) = 0 by decide), if_neg (show ¬ (1 : Int32) = 0 by decide)]
    by_cases h1 : isStopC f nr nf c 1 = 0
    · rw [if_pos h1]
      by_cases h2 : isStopC f nr nf c (-1) = 0
      · rw [if_pos h2]; exact Or.inl rfl
      · rw [if_neg h2]; exact Or.inr (Or.inr ⟨rfl, D h2⟩)
    · rw [if_neg h1]; exact Or.inr (Or.inl ⟨rfl, U h1⟩)
  · rw [e, if_neg (show ¬ (-1 : Int32) = 0 by decide), if_neg (show ¬ (-1 : Int32) = 0 by decide), show (- -1 : Int32) = 1 from by decide]
    by_cases h1 : isStopC f nr nf c (-1) = 0
    · rw [if_pos h1]
      by_cases h2 : isStopC f nr nf c 1 = 0
      · rw [if_pos h2]; exact Or.inl rfl
      · rw [if_neg h2]; exact Or.inr (Or.inl ⟨rfl, U h2⟩)
    · rw [if_neg h1]; exact Or.inr (Or.inr ⟨rfl, D h1⟩)
theorem Inv.i_stepG (I : Inv ct nc nf nr m f) {c : Nat} (hc : c < nc) : Inv ct nc nf nr m (stepG f c) := by
  unfold stepG
  split
  · exact I
  · rename_i q
    obtain ⟨n, h1, h2⟩ := (I.cars c hc).dr
    cases n with
    | zero => rw [h1] at q; exact absurd (by decide) q
    | succ n => exact I.setDr (n := n) hc (by rw [h1, nI_pred]) (by omega)
theorem nI_up1 {k : Nat} : nI k + 1 = nI (k + 1) := nI_1 k
theorem nI_dn1 {k : Nat} (h : 0 < k) : nI k + -1 = nI (k - 1) := by
  obtain ⟨j, rfl⟩ : ∃ j, k = j + 1 := ⟨k - 1, by omega⟩
  rw [← Int32.sub_eq_add_neg, nI_pred]
  rfl
theorem parks_nI (I : Inv ct nc nf nr m f) {c : Nat} (hc : c < nc) (k : Nat) : ∃ n, parksC f t k c = nI n ∧ n < nf := by
  unfold parksC
  split
  · exact (I.cars c hc).hm
  · exact ⟨0, rfl, by have := I.hf; omega⟩
theorem Inv.i_goesD (I : Inv ct nc nf nr m f) {c n k : Nat} {y : Int32} (hc : c < nc) (hn : n < 7) (hy : y = 0 ∨ (y = 1 ∧ flo f c + 1 < nf) ∨ (y = -1 ∧ 0 < flo f c)) : Inv ct nc nf nr m (goesD f t k c (flo f c) n y) := by
  have hF := I.hF
  obtain ⟨h1, h2⟩ := I.i_flo hc
  unfold goesD
  rcases hy with rfl | ⟨rfl, h3⟩ | ⟨rfl, h3⟩
  · rw [if_pos rfl]
    obtain ⟨p, hp, hp2⟩ := parks_nI (t := t) I hc (min 8 k)
    split
    · exact I
    · rename_i q
      rw [hp, h1, nI_eq (by omega) (by omega)] at q
      rw [hp, h1]
      by_cases e : p ≤ flo f c
      · rw [if_pos (nI_le e (by omega))]
        exact I.moves (k := flo f c - 1) hc hn (by rw [h1]; exact nI_dn1 (by omega)) (by omega)
      · rw [if_neg (nI_ge (by omega) (by omega))]
        exact I.moves (k := flo f c + 1) hc hn (by rw [h1]; exact nI_up1) (by omega)
  · rw [if_neg (by decide)]
    have I5 : Inv ct nc nf nr m (up f 5 (f 5 + 1)) := I.upL (by omega) (by omega) (by omega)
    have e5 : up f 5 (f 5 + 1) (16 + 8 * c) = f (16 + 8 * c) := up_ne (by omega)
    split
    · exact I.moves (k := flo f c + 1) hc hn (by rw [h1]; exact nI_up1) h3
    · split
      · exact I.moves (k := flo f c + 1) hc hn (by rw [h1]; exact nI_up1) h3
      · exact I5.moves (k := flo f c + 1) hc hn (by rw [e5, h1]; exact nI_up1) h3
  · rw [if_neg (by decide)]
    have I5 : Inv ct nc nf nr m (up f 5 (f 5 + 1)) := I.upL (by omega) (by omega) (by omega)
    have e5 : up f 5 (f 5 + 1) (16 + 8 * c) = f (16 + 8 * c) := up_ne (by omega)
    split
    · exact I.moves (k := flo f c - 1) hc hn (by rw [h1]; exact nI_dn1 h3) (by omega)
    · split
      · exact I.moves (k := flo f c - 1) hc hn (by rw [h1]; exact nI_dn1 h3) (by omega)
      · exact I5.moves (k := flo f c - 1) hc hn (by rw [e5, h1]; exact nI_dn1 h3) (by omega)
theorem Inv.goes (I : Inv ct nc nf nr m f) {c k : Nat} (hc : c < nc) : Inv ct nc nf nr m (goesC f t nr nf k c (flo f c) (lod f c)) := by
  have h1 := I.i_goW hc
  have e : flo (up f (16 + 8 * c + 1) (goW f nr nf c)) c = flo f c := by
    unfold flo
    rw [up_ne (by omega)]
  have I2 : Inv ct nc nf nr m (up f (16 + 8 * c + 1) (goW f nr nf c)) := I.setWy hc (by
    rcases h1 with q | q | q
    · exact Or.inl q
    · exact Or.inr (Or.inl q.1)
    · exact Or.inr (Or.inr q.1))
  have := I2.i_goesD (t := t) (c := c) (n := lod f c) (k := k) (y := goW f nr nf c) hc (I.i_lod hc).2 (by rw [e]; exact h1)
  rw [e] at this
  exact this
theorem abit_0 {a : Int32} {r : Nat} (hr : r < 32) : abit a r = 0 ↔ bt a r = false := by
  rw [abit_bt a r hr]
  cases bt a r
  · exact ⟨fun _ => rfl, fun _ => rfl⟩
  · exact ⟨fun q => absurd q (by decide), fun q => absurd q (by decide)⟩
theorem abit_1 {a : Int32} {r : Nat} (hr : r < 32) : abit a r = 1 ↔ bt a r = true := by
  rw [abit_bt a r hr]
  cases bt a r
  · exact ⟨fun q => absurd q (by decide), fun q => absurd q (by decide)⟩
  · exact ⟨fun _ => rfl, fun _ => rfl⟩
theorem Inv.i_offR (I : Inv ct nc nf nr m f) {c r : Nat} {y : Int32} (hc : c < nc) (hr : r < nr) : Inv ct nc nf nr m (offR f c r y) := by
  have h4 := I.hr
  unfold offR
  split
  · exact I
  · rename_i q
    split
    · refine I.off hc hr ?_
      rw [abit_0 (by omega)] at q
      cases e : bt (f (16 + 8 * c + 3)) r with
      | false => exact absurd e q
      | true => rfl
    · exact I
theorem Inv.i_opA (I : Inv ct nc nf nr m f) {c : Nat} {y : Int32} (hc : c < nc) : ∀ r, r ≤ nr → Inv ct nc nf nr m (opA f c y r)
  | 0, _ => I
  | r + 1, h => (Inv.i_opA I hc r (by omega)).i_offR hc (by omega)
theorem Inv.i_onR (I : Inv ct nc nf nr m f) {c r : Nat} {y w : Int32} (hc : c < nc) (hr : r < nr) : Inv ct nc nf nr m (onR ct f c r y w) := by
  have h4 := I.hr
  unfold onR
  split
  · rename_i q
    have I2 := I.on hc hr q.2.1 q.1
    split
    · exact I2.upR (r := r) (j := 8) (by omega) rfl (by omega) (by omega)
    · exact I2
  · exact I
theorem Inv.i_opB (I : Inv ct nc nf nr m f) {c : Nat} {y w : Int32} (hc : c < nc) : ∀ r, r ≤ nr → Inv ct nc nf nr m (opB ct f c y w r)
  | 0, _ => I
  | r + 1, h => (Inv.i_opB I hc r (by omega)).i_onR hc (by omega)
theorem turned_3 (I : Inv ct nc nf nr m f) {c : Nat} {y : Int32} (hy : y = 0 ∨ y = 1 ∨ y = -1) : turnedC f nr nf c y = 0 ∨ turnedC f nr nf c y = 1 ∨ turnedC f nr nf c y = -1 := by
  unfold turnedC
  rcases hy with rfl | rfl | rfl
  · rw [if_pos rfl]
    split
    · split
      · exact Or.inl rfl
      · exact Or.inr (Or.inr rfl)
    · exact Or.inr (Or.inl rfl)
  · rw [if_neg (by decide)]
    split
    · exact Or.inl rfl
    · exact Or.inr (Or.inr rfl)
  · rw [if_neg (by decide)]
    split
    · exact Or.inl rfl
    · exact Or.inr (Or.inl rfl)
theorem Inv.i_opW (I : Inv ct nc nf nr m f) {c fl : Nat} (hc : c < nc) : opW f nr nf c fl = 0 ∨ opW f nr nf c fl = 1 ∨ opW f nr nf c fl = -1 := by
  have hy := (I.cars c hc).wy
  have h2 := turned_3 (c := c) I hy
  have h3 : opWd f nr nf c fl (f (16 + 8 * c + 1)) = 0 ∨ opWd f nr nf c fl (f (16 + 8 * c + 1)) = 1 ∨ opWd f nr nf c fl (f (16 + 8 * c + 1)) = -1 := by
    unfold opWd
    split
    · split
      · exact h2
      · exact Or.inr (Or.inr rfl)
    · exact Or.inr (Or.inl rfl)
  unfold opW
  split
  · exact h3
  · split
    · split
      · exact h3
      · exact hy
    · exact hy
theorem kix_264 {fl s : Nat} {w : Int32} (hfl : fl < 12) (h1 : 1 ≤ s) (h2 : s ≤ 2) : ∃ i, i < 48 ∧ kix fl w s = 264 + i :=
  ⟨kix fl w s - 264, by have := kix_lt (y := w) hfl h1 h2; omega, by unfold kix; omega⟩
theorem Inv.i_clr (I : Inv ct nc nf nr m f) {c fl s : Nat} {w : Int32} (hfl : fl < 12) (h1 : 1 ≤ s) (h2 : s ≤ 2) : Inv ct nc nf nr m (clr ct f c fl w s) := by
  unfold clr
  split
  · exact I
  · obtain ⟨i, h3, h4⟩ := kix_264 (w := w) hfl h1 h2
    rw [h4]
    exact I.setK0 h3
theorem Inv.i_opX (I : Inv ct nc nf nr m f) {c fl : Nat} {w : Int32} (hfl : fl < 12) : Inv ct nc nf nr m (opX ct f c fl w) := by
  unfold opX
  split
  · exact I
  · exact (I.i_clr hfl (by omega) (by omega)).i_clr hfl (by omega) (by omega)
/-- what is told: the floors, and how long doors stay open -/
def Tok (t : Nat → Int32) (nf : Nat) : Prop := t 0 = nI nf ∧ ∃ n, tellsT t 3 = nI n ∧ 1 ≤ n ∧ n ≤ 4
theorem Inv.opens (I : Inv ct nc nf nr m f) {c fl : Nat} (ht : Tok t nf) (hc : c < nc) (hfl : fl < 12) : Inv ct nc nf nr m (opensC f t ct nr nf c fl) := by
  obtain ⟨n, h1, h2, h3⟩ := ht.2
  have IA : Inv ct nc nf nr m (opG f c fl nr) := I.i_opA hc nr (Nat.le_refl _)
  have IB : Inv ct nc nf nr m (opH f ct nr nf c fl) := (IA.setWy hc (IA.i_opW hc)).i_opB hc nr (Nat.le_refl _)
  exact (((IB.i_opX hfl).setDr hc h1 h3).works hc (by show 8388608 ≤ (1053609165 : UInt32).toNat ∧ (1053609165 : UInt32).toNat ≤ 1082130432; decide))
theorem Inv.i_stR (I : Inv ct nc nf nr m f) {c k : Nat} (ht : Tok t nf) (hc : c < nc) : Inv ct nc nf nr m (stR t ct nr nf k c f) := by
  have hF := I.hF
  have I1 := I.i_stepG hc
  have e1 : flo f c = flo (stepG f c) c := by
    unfold flo stepG
    split
    · rfl
    · rw [up_ne (by omega)]
  have e2 : lod f c = lod (stepG f c) c := by
    unfold lod stepG
    split
    · rfl
    · rw [up_ne (by omega)]
  have hfl := (I1.i_flo hc).2
  unfold stR stepR
  rw [e1, e2]
  split
  · split
    · exact I1.goes hc
    · exact I1.opens ht hc (by omega)
  · exact I1
theorem Inv.good {mo : Nat} {h : PH} {c : Nat} (hT : Tok t nf) (hc : c < nc) (ht : ∀ k, hI h (mo + 4) k = t k) : GoodC mo h t ct nr nf m c (Inv ct nc nf nr m) :=
  ⟨fun _ I => ⟨I.rv hT.1 ht, I.cvd hc⟩, fun _ I => I.i_stR hT hc⟩
/-- the row over which a cost is found -/
theorem Inv.kp (I : Inv ct nc nf nr m f) {c : Nat} : ∀ i, i ≤ 48 → Inv ct nc nf nr m (kpA f c (264 + i))
  | 0, _ => by
    rw [show kpA f c (264 + 0) = f from funext fun j => if_neg (fun q => by omega)]
    exact I
  | i + 1, h => by
    have ih := Inv.kp I (c := c) i (by omega)
    have h9 := kpA_step (f := f) (c := c) (i := 264 + i) (by omega) _ rfl
    rw [show 264 + (i + 1) = 264 + i + 1 from rfl, ← h9]
    by_cases e : f (264 + i) = nI c + 1
    · rw [if_pos e]
      have e0 : kpA f c (264 + i) (264 + i) = f (264 + i) := if_neg (fun q => by omega)
      refine ih.upK (by omega) rfl ?_
      obtain ⟨v, z1, z2⟩ := I.call i (by omega)
      exact ⟨v, by rw [up_eq]; exact z1, z2⟩
    · rw [if_neg e]
      exact ih.setK0 (by omega)
theorem Inv.setK {c fl s : Nat} {w : Int32} (I : Inv ct nc nf nr m f) (hc : c < nc) (hfl : fl < nf) (h1 : 1 ≤ s) (h2 : s ≤ 2) (htk : ¬ takesC ct c (nI s) = 0) : Inv ct nc nf nr m (up f (kix fl w s) (nI c + 1)) := by
  have hF := I.hF
  obtain ⟨i, h3, h4⟩ := kix_264 (w := w) (by omega : fl < 12) h1 h2
  have h5 : i / 4 = fl ∧ i % 2 + 1 = s := by
    unfold kix at h4
    split at h4 <;> omega
  rw [h4]
  refine I.upK h3 rfl ⟨c + 1, by rw [up_eq, nI_1], by omega, fun _ => ?_⟩
  rw [h5.1, h5.2]
  exact ⟨hfl, htk⟩
theorem Inv.cst {c fl s : Nat} {w : Int32} (I : Inv ct nc nf nr m f) (hc : c < nc) (hfl : fl < nf) (h1 : 1 ≤ s) (h2 : s ≤ 2) (htk : ¬ takesC ct c (nI s) = 0) : Inv ct nc nf nr m (up (kpA f c 312) (kix fl w s) (nI c + 1)) :=
  (I.kp 48 (by omega)).setK hc hfl h1 h2 htk
end InvStep
