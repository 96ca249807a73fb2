/-! THE REFERENCE'S FACE: fits, look -/
section Look
variable {l : Launch} {x : CX} {mo nc nf nr nr' m nn : Nat} {g : PH} {f F t ct rt ri ti : Nat → Int32}
theorem p_fits {k : Int32} (w : RX mo t ct rt g) (q : NR mo g f) (T : TD t ct rt nc nf nr) (hNt : NT mo g nn ri ti) (h8 : nn ≤ 8) (hri : ∀ i, i < nn → inR (ri i) nr) : CI l x mX8_fits 13 0 0 [.ref mo, .int k] g (fun v h' => PQ mo g f (aFits (ftB (enV t ct rt nc nf nr) nn ri ti) k) v h') := by
  have w1 : RX mo t ct rt (sI g mo 1 0) := w.sg s10
  have i1 : (¬ (if k < 0 then 0 else (if 1 < k then 0 else 1 : Int32) : Int32) = 0) ↔ inR k 2 := inR_k (n := 2) rfl (by decide)
  refine Cm.of (by decide) (Nat.le_of_ble_eq_true rfl) (vX8_fits_0 ⟨w.1.1.1, _, c_isIn, ?_⟩)
  rintro _ _ ⟨rfl, rfl⟩
  refine ⟨fun e => ⟨w1.1.1.1, _, r_tellFits w1 q.s1 T (hNt.sg s10) h8 hri, ?_⟩, fun e => PQ.mkFail rfl w1.1.1 (SG.refl _ _) q.s1 (ite'_f fun z => i1.mpr z e)⟩
  rintro h10 ⟨g10, n10, c10, f10⟩
  have c0 : hI h10 mo 1 = 0 := c10.trans (gI _ _ _ _)
  have w10 := w1.sg g10
  refine ⟨fun e2 => ⟨w10.1.1.1, _, rfl, PQ.mkOk g10 n10 (ite'_t (i1.mp e)) ?_ c0⟩, fun e2 => ⟨w10.1.1.1, _, rfl, PQ.mkOk g10 n10 (ite'_t (i1.mp e)) ?_ c0⟩⟩
  · rw [if_neg e2]; exact f10.2.1
  · rw [if_pos e2]; exact f10.1
theorem r_unlike {p : Nat → Bool} {e : Nat → Nat → Int32} {r : Nat} (w : MW mo g) (hF : FI mo g p e nr 36) (hr : r < nr) (h20 : nr ≤ 20) : CI l x mX8_unlike 0 0 0 [.ref mo, .int (nI r)] g (fun v h' => v = nI (fb_ct (ulB p (fun j => e j r)) 36) ∧ h' = g) := by
  have hM := fb_ct_le p 36
  have w16 := w.row 31 16 720 (by decide)
  have ei : ∀ b : Nat, (20 : Int32) * nI b + nI r = nI (20 * b + r) := fun b => by
    show nI 20 * nI b + nI r = _
    rw [nI_mul, nI_add]
  have vi : ∀ b : Nat, b < 36 → vp_in ((20 : Int32) * nI b + nI r) (hK g (mo + 16)).2 := fun b hb => by rw [ei, w16.2.2]; exact vp_in_nI (by omega) (by decide)
  have ev : ∀ b : Nat, b < 36 → hI g (mo + 16) ((20 : Int32) * nI b + nI r).toNatClampNeg = hI g (mo + 16) (20 * b + r) := fun b hb => by rw [ei, nI_clamp (by omega)]
  have res : fb_ct (frB (fun b => hI g (mo + 16) (20 * b + r))) (fb_ct p 36) = fb_ct (ulB p (fun j => e j r)) 36 := ul_fr 36 (fun k hk hp => hF.2.2 k hk hp r hr)
  rw [← res]
  have loop : ∀ (j a : Nat), a + j = fb_ct p 36 → Gm l x mX8_unlike 0 4 [(0, .ref mo), (1, .int (nI r)), (2, .int (nI (fb_ct (frB (fun b => hI g (mo + 16) (20 * b + r))) a))), (3, .int (nI a))] [] g 0 0 (hN g) (fun v h' => ∃ r', v = some (.int r') ∧ r' = nI (fb_ct (frB (fun b => hI g (mo + 16) (20 * b + r))) (fb_ct p 36)) ∧ h' = g) (fun _ _ => False) := by
    intro j
    induction j with
    | zero =>
      intro a ha
      obtain rfl : a = fb_ct p 36 := by omega
      refine vX8_unlike_4 ⟨w.1, fun _ => ⟨_, rfl, rfl, rfl⟩, fun z => absurd ?_ z⟩
      rw [hF.1]
      exact nI_le (Nat.le_refl _) (by omega)
    | succ j ih =>
      intro a ha
      refine vX8_unlike_4 ⟨w.1, fun z => absurd z ?_, fun _ => ?_⟩
      · rw [hF.1]
        exact nI_ge (by omega) (by omega)
      have inner : ∀ (i b : Nat) (x4 : Int32), b + i = a → (¬ x4 = 0 ↔ ∀ b', b' < b → ¬ hI g (mo + 16) (20 * b' + r) = hI g (mo + 16) (20 * a + r)) → Gm l x mX8_unlike 0 18 [(0, .ref mo), (1, .int (nI r)), (2, .int (nI (fb_ct (frB (fun b => hI g (mo + 16) (20 * b + r))) a))), (3, .int (nI a)), (4, .int x4), (5, .int (nI b))] [] g 0 0 (hN g) (fun v h' => ∃ r', v = some (.int r') ∧ r' = nI (fb_ct (frB (fun b => hI g (mo + 16) (20 * b + r))) (fb_ct p 36)) ∧ h' = g) (fun _ _ => False) := by
        intro i
        induction i with
        | zero =>
          intro b x4 hb hx
          obtain rfl : b = a := by omega
          refine vX8_unlike_18 ⟨fun _ => ?_, fun z => absurd (nI_le (Nat.le_refl _) (by omega)) z⟩
          have h1 := ih (b + 1) (by omega)
          rw [fb_ct_succ, ← nI_add, ← nI_1] at h1
          have e9 : nI (if frB (fun b => hI g (mo + 16) (20 * b + r)) b = true then 1 else 0) = (if x4 = 0 then 0 else 1 : Int32) := by
            by_cases z : x4 = 0
            · rw [if_pos z, if_neg (by unfold frB; rw [decide_eq_true_eq]; exact fun y => hx.mpr y z)]; rfl
            · rw [if_neg z, if_pos (by unfold frB; rw [decide_eq_true_eq]; exact hx.mp z)]; rfl
          rw [e9] at h1
          exact h1
        | succ i ih2 =>
          intro b x4 hb hx
          refine vX8_unlike_18 ⟨fun z => absurd z (nI_ge (by omega) (by omega)), fun _ => ⟨fun z => ?_, fun z => ⟨w.1, mo + 16, w16.1, w16.2.1, vi b (by omega), vi a (by omega), ?_⟩⟩⟩
          · rw [nI_1]
            exact ih2 (b + 1) 0 (by omega) ⟨fun y => absurd rfl y, fun y => absurd z (hx.mpr fun b' hb' => y b' (by omega))⟩
          · rw [ev b (by omega), ev a (by omega), nI_1]
            rintro y11 rfl
            refine ih2 (b + 1) _ (by omega) ?_
            by_cases y : hI g (mo + 16) (20 * b + r) = hI g (mo + 16) (20 * a + r)
            · rw [if_pos y]
              exact ⟨fun u => absurd rfl u, fun u => absurd y (u b (by omega))⟩
            · rw [if_neg y]
              refine ⟨fun _ b' hb' => ?_, fun _ => by decide⟩
              rcases Nat.lt_or_ge b' b with u | u
              · exact hx.mp z b' u
              · obtain rfl : b' = b := by omega
                exact y
      exact inner a 0 1 (by omega) ⟨fun _ b' z => absurd z (Nat.not_lt_zero b'), fun _ => by decide⟩
  exact Cm.of (by decide) (Nat.le_of_ble_eq_true rfl) (vX8_unlike_0 (loop (fb_ct p 36) 0 (by omega)))
theorem p_look {k : Int32} (w : RX mo t ct rt g) (q : NR mo g f) (T : TD t ct rt nc nf nr) (hNt : NT mo g nn ri ti) (h8 : nn ≤ 8) (hri : ∀ i, i < nn → inR (ri i) nr) : CI l x mX8_look 13 0 0 [.ref mo, .int k] g (fun v h' => PQ mo g f (aLook (ftB (enV t ct rt nc nf nr) nn ri ti) (enV t ct rt nc nf nr) nr k) v h') := by
  have h20 := T.r20
  have w1 : RX mo t ct rt (sI g mo 1 0) := w.sg s10
  have i1 : (¬ (if k < 0 then 0 else (if 1 < k then 0 else 1 : Int32) : Int32) = 0) ↔ inR k 2 := inR_k (n := 2) rfl (by decide)
  refine Cm.of (by decide) (Nat.le_of_ble_eq_true rfl) (vX8_look_0 ⟨w.1.1.1, _, c_isIn, ?_⟩)
  rintro _ _ ⟨rfl, rfl⟩
  refine ⟨fun e => ⟨w1.1.1.1, _, r_tellFits w1 q.s1 T (hNt.sg s10) h8 hri, ?_⟩, fun e => PQ.mkFail rfl w1.1.1 (SG.refl _ _) q.s1 (ite'_f fun z => i1.mpr z e)⟩
  rintro h10 ⟨g10, n10, c10, f10⟩
  have c0 : hI h10 mo 1 = 0 := c10.trans (gI _ _ _ _)
  have w10 := w1.sg g10
  have w4 := w10.1.1.row 4 4 7 (by decide)
  have t2 : hI h10 (mo + 4) (Int32.toNatClampNeg 2) = nI nr := (w10.1.2.1 2).trans T.t2
  generalize hp : ftB (enV t ct rt nc nf nr) nn ri ti = p at f10
  have loop : ∀ (j r : Nat), r + j = nr → Gm l x mX8_look 13 31 [(0, .ref mo), (1, .int k), (2, .int (lkA (fun r => nI (fb_ct (ulB p (fun j => enV t ct rt nc nf nr j r)) 36)) r).1), (3, .int (lkA (fun r => nI (fb_ct (ulB p (fun j => enV t ct rt nc nf nr j r)) 36)) r).2), (4, .int (nI r))] [] h10 0 0 (hN g) (fun v h' => ∃ r, v = some (.int r) ∧ PQ mo g f (aLook p (enV t ct rt nc nf nr) nr k) r h') (fun _ _ => False) := by
    intro j
    induction j with
    | zero =>
      intro r hr
      obtain rfl : r = nr := by omega
      refine vX8_look_31 ⟨w10.1.1.1, mo + 4, w4.1, w4.2.1, by rw [w4.2.2]; exact vp_in_nI (n := 2) (by decide) (by decide), fun _ => ⟨_, rfl, PQ.mkOk g10 n10 (ite'_t (i1.mp e)) rfl c0⟩, fun z => absurd ?_ z⟩
      rw [t2]
      exact nI_le (Nat.le_refl _) (by omega)
    | succ j ih =>
      intro r hr
      refine vX8_look_31 ⟨w10.1.1.1, mo + 4, w4.1, w4.2.1, by rw [w4.2.2]; exact vp_in_nI (n := 2) (by decide) (by decide), fun z => absurd z ?_, fun _ => ⟨_, r_unlike w10.1.1 f10 (show r < nr by omega) h20, ?_⟩⟩
      · rw [t2]
        exact nI_ge (by omega) (by omega)
      rintro _ _ ⟨rfl, rfl⟩
      have h1 := ih (r + 1) (by omega)
      rw [lkA, ← nI_1] at h1
      by_cases z : (lkA (fun r => nI (fb_ct (ulB p (fun j => enV t ct rt nc nf nr j r)) 36)) r).2 < nI (fb_ct (ulB p (fun j => enV t ct rt nc nf nr j r)) 36)
      · rw [if_pos z] at h1
        rw [if_pos z, if_pos z]
        exact h1
      · rw [if_neg z] at h1
        rw [if_neg z, if_neg z]
        exact h1
  exact loop nr 0 (by omega)
end Look
