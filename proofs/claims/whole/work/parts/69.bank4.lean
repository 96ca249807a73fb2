/-! THE CLASS: cars move in a tick -/
section Bank4
variable {l : Launch} {x : CX} {h h' : PH} {o a c nc nf nr m : Nat} {f f' g g' t ct : Nat → Int32}
theorem BR.mk' (R : BR h o t ct nc nf nr g) (S : BS h' o) (e0 : ∀ k, k ≠ 12 → hI h' o k = hI h o k) (e12 : hI h' o 12 = nI (cnt g' 3 nr)) (ef : ∀ j, j < 16 → j ≠ 5 → g' j = g j) (ca : ∀ c, c < nc → CO h' (o + 4 + c) ct nr g' c) (ri : ∀ r, r < nr → RO h' (o + 8 + r) g' r) (pa : ps h' o nc = g' 5) : BR h' o t ct nc nf nr g' := by
  have em : mm g' = mm g := by unfold mm; rw [ef 7 (by omega) (by omega)]
  refine ⟨S, (e0 0 (by omega)).trans R.fl, (e0 1 (by omega)).trans R.nc, (e0 2 (by omega)).trans R.nr, (e0 3 (by omega)).trans R.dw, ?_, ?_, (e0 6 (by omega)).trans R.pk, ?_, ?_, ?_, ?_, ?_, e12, ca, ri, pa⟩
  · rw [e0 4 (by omega), ef 3 (by omega) (by omega)]; exact R.la
  · rw [e0 5 (by omega), ef 2 (by omega) (by omega)]; exact R.po
  · rw [e0 7 (by omega), ef 0 (by omega) (by omega)]; exact R.ti
  · rw [e0 8 (by omega), ef 1 (by omega) (by omega)]; exact R.bu
  · rw [e0 9 (by omega), ef 4 (by omega) (by omega)]; exact R.tu
  · rw [e0 10 (by omega)]
    exact R.ar.same fun j h1 h2 => ef j (by omega) (by omega)
  · rw [e0 11 (by omega), em, peak_same (by omega) (fun j h1 h2 => ef j (by omega) (by omega))]; exact R.ru
theorem ps_add {d : Int32} (hc : c < nc) (e : hI h' (o + 4 + c) 8 = hI h (o + 4 + c) 8 + d) (e2 : ∀ c', c' ≠ c → hI h' (o + 4 + c') 8 = hI h (o + 4 + c') 8) : ∀ k, ps h' o k = if c < k then ps h o k + d else ps h o k
  | 0 => by rw [if_neg (by omega)]; rfl
  | k + 1 => by
    have ih := ps_add hc e e2 k
    unfold ps
    rw [ih]
    by_cases z : k = c
    · subst z
      rw [if_neg (by omega), if_pos (by omega), e, Int32.add_assoc]
    · rw [e2 k z]
      by_cases y : c < k
      · rw [if_pos y, if_pos (by omega), Int32.add_assoc, Int32.add_assoc, Int32.add_comm d]
      · rw [if_neg y, if_neg (by omega)]
/-- the sorts of cars -/
def CT (ct : Nat → Int32) (nc : Nat) : Prop := ∀ c, c < nc → ct (3 * c + 2) = 0 ∨ ct (3 * c + 2) = 1 ∨ ct (3 * c + 2) = 2
def ansd (ct : Nat → Int32) (c fl : Nat) (w : Int32) (i : Nat) : Prop := ¬ w = 0 ∧ ((264 + i = kix fl w 1 ∧ ¬ takesC ct c 1 = 0) ∨ (264 + i = kix fl w 2 ∧ ¬ takesC ct c 2 = 0))
theorem opX_ans {fl i : Nat} {w : Int32} : opX ct g c fl w (264 + i) = 0 ∧ ansd ct c fl w i ∨ opX ct g c fl w (264 + i) = g (264 + i) ∧ ¬ ansd ct c fl w i := by
  have cl : ∀ (u : Nat → Int32) (s : Nat), clr ct u c fl w s (264 + i) = if 264 + i = kix fl w s ∧ ¬ takesC ct c (nI s) = 0 then 0 else u (264 + i) := by
    intro u s
    unfold clr
    by_cases e : takesC ct c (nI s) = 0
    · rw [if_pos e, if_neg (fun q => q.2 e)]
    · rw [if_neg e, up]
      by_cases e2 : 264 + i = kix fl w s
      · rw [if_pos e2, if_pos ⟨e2, e⟩]
      · rw [if_neg e2, if_neg (fun q => e2 q.1)]
  unfold opX ansd
  by_cases w0 : w = 0
  · rw [if_pos w0]
    exact Or.inr ⟨rfl, fun q => q.1 w0⟩
  · rw [if_neg w0, cl, cl]
    by_cases e2 : 264 + i = kix fl w 2 ∧ ¬ takesC ct c (nI 2) = 0
    · rw [if_pos e2]
      exact Or.inl ⟨rfl, w0, Or.inr e2⟩
    · rw [if_neg e2]
      by_cases e1 : 264 + i = kix fl w 1 ∧ ¬ takesC ct c (nI 1) = 0
      · rw [if_pos e1]
        exact Or.inl ⟨rfl, w0, Or.inl e1⟩
      · rw [if_neg e1]
        exact Or.inr ⟨rfl, fun q => q.2.elim e1 e2⟩
theorem k_callsAnswered {fl : Nat} {w : Int32} (C : CB h a ct g c) (hct : ct (3 * c + 2) = 0 ∨ ct (3 * c + 2) = 1 ∨ ct (3 * c + 2) = 2) (hw : w = 0 ∨ w = 1 ∨ w = -1) (e1 : g (16 + 8 * c) = nI fl) (hfl : fl < 12) (e2 : g (16 + 8 * c + 1) = w) : CJ l x mX2_callsAnswered 0 0 0 [.ref a] h (fun v h' => (∀ i, i < 64 → (bL v i = true ↔ ansd ct c fl w i)) ∧ h' = h) := by
  refine Cm.of (by decide) (Nat.le_of_ble_eq_true rfl) (vX2_callsAnswered_0 ⟨C.ck, fun y4 h4 y8 h8 => ⟨_, rfl, fun i hi => ?_, rfl⟩⟩)
  rw [C.so] at h4
  rw [C.wy, e2] at h8
  rw [C.fl, e1, n4]
  have t4 : ∀ j, j < 64 → (bL y4 j = true ↔ (j = 0 ∧ ¬ takesC ct c 1 = 0) ∨ (j = 1 ∧ ¬ takesC ct c 2 = 0)) := by
    intro j hj
    unfold takesC
    rcases hct with q | q | q
    · rw [q] at h4 ⊢
      rw [h4, if_pos rfl, bL_c3 j hj, decide_eq_true_eq, if_pos (Or.inl rfl), if_pos (Or.inl rfl)]
      constructor
      · intro z
        have : j = 0 ∨ j = 1 := by omega
        rcases this with y | y
        · exact Or.inl ⟨y, by decide⟩
        · exact Or.inr ⟨y, by decide⟩
      · rintro (z | z) <;> omega
    · rw [q] at h4 ⊢
      rw [h4, if_neg (by decide), if_pos rfl, bL_c1 j hj, decide_eq_true_eq, if_pos (Or.inr rfl), if_neg (by decide)]
      constructor
      · intro z
        exact Or.inl ⟨z, by decide⟩
      · rintro (z | z)
        · exact z.1
        · exact absurd rfl z.2
    · rw [q] at h4 ⊢
      rw [h4, if_neg (by decide), if_neg (by decide), bL_c2 j hj, decide_eq_true_eq, if_neg (by decide), if_pos (Or.inr rfl)]
      constructor
      · intro z
        exact Or.inr ⟨z, by decide⟩
      · rintro (z | z)
        · exact absurd rfl z.2
        · exact z.1
  unfold ansd
  rw [bL_shl _ (by omega) _ hi]
  rcases hw with rfl | rfl | rfl
  · rw [if_pos (by decide), if_pos (by decide)] at h8
    rw [h8, bL_0, Bool.and_false]
    exact ⟨(fun q => by cases q), fun q => absurd rfl q.1⟩
  · rw [if_neg (by decide)] at h8
    rw [h8, Bool.and_eq_true, decide_eq_true_eq, t4 _ (by omega)]
    unfold kix
    rw [if_neg (by decide)]
    constructor
    · rintro ⟨z, y | y⟩
      · exact ⟨by decide, Or.inl ⟨by omega, y.2⟩⟩
      · exact ⟨by decide, Or.inr ⟨by omega, y.2⟩⟩
    · rintro ⟨_, y | y⟩
      · exact ⟨by omega, Or.inl ⟨by omega, y.2⟩⟩
      · exact ⟨by omega, Or.inr ⟨by omega, y.2⟩⟩
  · rw [if_pos (by decide), if_neg (by decide)] at h8
    rw [h8, Bool.and_eq_true, decide_eq_true_eq]
    by_cases z : 4 * fl ≤ i
    · rw [show (2 : Int32) = nI 2 from rfl, bL_shl 2 (by omega) _ (by omega), Bool.and_eq_true, decide_eq_true_eq, t4 _ (by omega)]
      unfold kix
      rw [if_pos (by decide)]
      constructor
      · rintro ⟨_, z2, y | y⟩
        · exact ⟨by decide, Or.inl ⟨by omega, y.2⟩⟩
        · exact ⟨by decide, Or.inr ⟨by omega, y.2⟩⟩
      · rintro ⟨_, y | y⟩
        · exact ⟨z, by omega, Or.inl ⟨by omega, y.2⟩⟩
        · exact ⟨z, by omega, Or.inr ⟨by omega, y.2⟩⟩
    · refine ⟨fun q => absurd q.1 z, ?_⟩
      unfold kix
      rw [if_pos (by decide)]
      rintro ⟨_, y | y⟩ <;> omega
/-- riders of one row up to r, of another behind it -/
def mixR (g f : Nat → Int32) (r : Nat) : Nat → Int32 := fun j => if 48 ≤ j ∧ j < 48 + 9 * r then g j else f j
theorem mix_lo {r r' k : Nat} (hr : r' < r) (hk : k < 9) : mixR g f r (48 + 9 * r' + k) = g (48 + 9 * r' + k) := if_pos (by omega)
theorem mix_hi {r r' k : Nat} (hr : r ≤ r') : mixR g f r (48 + 9 * r' + k) = f (48 + 9 * r' + k) := if_neg (by omega)
theorem cnt_mix {v : Int32} {r : Nat} (hr : r < nr) : cnt (mixR g f (r + 1)) v nr + (if f (48 + 9 * r + 4) = v then 1 else 0) = cnt (mixR g f r) v nr + (if g (48 + 9 * r + 4) = v then 1 else 0) := by
  have h9 := fb_ct_upd (fun r' => decide (mixR g f r (48 + 9 * r' + 4) = v)) (decide (g (48 + 9 * r + 4) = v)) hr
  have e1 : (decide (mixR g f r (48 + 9 * r + 4) = v)) = decide (f (48 + 9 * r + 4) = v) := by rw [mix_hi (Nat.le_refl _)]
  have e2 : fb_ct (fun k => if k = r then decide (g (48 + 9 * r + 4) = v) else decide (mixR g f r (48 + 9 * k + 4) = v)) nr = cnt (mixR g f (r + 1)) v nr := by
    refine fb_ct_cong fun k hk => ?_
    by_cases e : k = r
    · subst e
      rw [if_pos rfl, mix_lo (by omega) (by omega)]
    · rw [if_neg e]
      by_cases z : k < r
      · rw [mix_lo z (by omega), mix_lo (by omega) (by omega)]
      · rw [mix_hi (by omega), mix_hi (by omega)]
  rw [e2, e1] at h9
  simp only [decide_eq_true_eq] at h9
  exact h9
/-- what a rider's object is in a mixed row -/
theorem RO.mix {b r r' : Nat} (hr : r' < r) (q : RO h b g r') : RO h b (mixR g f r) r' := q.row fun k hk => mix_lo hr hk
theorem RO.mix2 {b r r' : Nat} (hr : r ≤ r') (q : RO h b f r') : RO h b (mixR g f r) r' := q.row fun k _ => mix_hi hr
theorem k_finish {b r : Nat} (hb : b = o + 8 + r) (S : BS h o) (hr : r < 24) (q : RO h b f r) (e : ∀ k, k < 9 → g (48 + 9 * r + k) = if k = 4 then 3 else if k = 5 then -1 else if k = 7 then hI h o 7 else f (48 + 9 * r + k)) : CV l x mX1_finish 0 0 0 [.ref o, .ref b] h (fun h' => FrB o h h' ∧ (∀ b', b' ≠ b → b' ≠ o → Ac b' h h') ∧ RO h' b g r ∧ (∀ k, k ≠ 12 → hI h' o k = hI h o k) ∧ hI h' o 12 = hI h o 12 + 1) := by
  subst hb
  have pr := S.pr r hr
  refine Cm.of (by decide) (Nat.le_of_ble_eq_true rfl) (vX1_finish_0 ⟨pr.2, S.k, rfl, ?_, ?_, ?_, ?_, ?_⟩)
  · exact ((((Fr1.refl (o + 8 + r) h).sI _ _).sI _ _).sI _ _).frb (by omega) (by omega) |>.trans (((Fr1.refl o _).sI _ _).frb (by omega) (by omega))
  · intro b' h1 h2
    exact (((((Fr1.refl (o + 8 + r) h).sI _ _).sI _ _).sI _ _).ac h1).trans (((Fr1.refl o _).sI _ _).ac h2)
  · obtain ⟨q0, q1, q2, q3, q4, q5, q6, q7, q8, q9⟩ := q
    have g0 : g (48 + 9 * r) = f (48 + 9 * r) := e 0 (by omega)
    have ne : o + 8 + r ≠ o := by omega
    refine ⟨?_, ?_, ?_, ?_, ?_, ?_, ?_, ?_, ?_, ?_⟩
    · rw [gIa _ _ _ _ ne, gIk _ _ _ (by decide), gIk _ _ _ (by decide), gIk _ _ _ (by decide), g0]; exact q0
    · rw [gIa _ _ _ _ ne, gIk _ _ _ (by decide), gIk _ _ _ (by decide), gIk _ _ _ (by decide), e 1 (by omega)]; exact q1
    · rw [gIa _ _ _ _ ne, gIk _ _ _ (by decide), gIk _ _ _ (by decide), gIk _ _ _ (by decide), e 2 (by omega)]; exact q2
    · rw [gIa _ _ _ _ ne, gIk _ _ _ (by decide), gIk _ _ _ (by decide), gIk _ _ _ (by decide), e 3 (by omega)]; exact q3
    · rw [gIa _ _ _ _ ne, gIk _ _ _ (by decide), gIk _ _ _ (by decide), gI, e 4 (by omega)]; rfl
    · rw [gIa _ _ _ _ ne, gIk _ _ _ (by decide), gI, e 5 (by omega)]; rfl
    · intro z
      rw [e 4 (by omega), if_pos rfl] at z
      exact absurd z (by decide)
    · rw [gIa _ _ _ _ ne, gIk _ _ _ (by decide), gIk _ _ _ (by decide), gIk _ _ _ (by decide), e 6 (by omega)]; exact q7
    · rw [gIa _ _ _ _ ne, gIk _ _ _ (by decide), gIk _ _ _ (by decide), gIk _ _ _ (by decide), e 8 (by omega)]; exact q8
    · rw [gIa _ _ _ _ ne, gI, e 7 (by omega)]; rfl
  · intro k hk
    have ne : o ≠ o + 8 + r := by omega
    rw [gIk _ _ _ hk, gIa _ _ _ _ ne, gIa _ _ _ _ ne, gIa _ _ _ _ ne]
  · rw [gI]
end Bank4
