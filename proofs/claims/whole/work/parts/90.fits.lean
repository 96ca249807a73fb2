/-! THE REFERENCE'S FACE: fits, look -/
/-- when rider r is done in the run k -/
def enV (t ct rt : Nat → Int32) (nc nf nr k r : Nat) : Int32 := run t ct nc nf nr (anF t ct rt nc nr (nI (k / 12)) (nI (k % 12))) (48 + 9 * r + 7)
/-- whether the run k fits the notes -/
def ftB (e : Nat → Nat → Int32) (nn : Nat) (ri ti : Nat → Int32) (k : Nat) : Bool := decide (∀ i, i < nn → e k (ri i).toNatClampNeg = ti i)
def ffA (p : Nat → Bool) : Nat → Int32
  | 0 => -1
  | k + 1 => if ffA p k = -1 then (if p k then nI k else -1) else ffA p k
def frB (E : Nat → Int32) (a : Nat) : Bool := decide (∀ b, b < a → ¬ E b = E a)
def ulB (p : Nat → Bool) (e : Nat → Int32) (k : Nat) : Bool := p k && decide (∀ j, j < k → p j = true → ¬ e j = e k)
theorem ul_fr {p : Nat → Bool} {e E : Nat → Int32} : ∀ n, (∀ k, k < n → p k = true → E (fb_ct p k) = e k) → fb_ct (frB E) (fb_ct p n) = fb_ct (ulB p e) n
  | 0, _ => rfl
  | n + 1, h => by
    have ih := ul_fr (p := p) (e := e) (E := E) n (fun k hk => h k (by omega))
    rw [fb_ct_succ, fb_ct_succ]
    cases hp : p n with
    | false =>
      rw [if_neg (by decide), Nat.add_zero, ih, if_neg (by unfold ulB; rw [hp, Bool.false_and]; decide), Nat.add_zero]
    | true =>
      rw [if_pos rfl, fb_ct_succ, ih]
      have key : frB E (fb_ct p n) = ulB p e n := by
        unfold frB ulB
        rw [hp, Bool.true_and]
        refine decide_eq_decide.mpr ⟨fun z j hj hpj => ?_, fun z b hb => ?_⟩
        · have h1 := fb_ct_mono p (m := j + 1) (n := n) (by omega)
          rw [fb_ct_succ, hpj, if_pos rfl] at h1
          have h2 := z (fb_ct p j) (by omega)
          rw [h j (by omega) hpj, h n (by omega) hp] at h2
          exact h2
        · obtain ⟨i, h1, h2, h3⟩ := fb_ct_kth hb
          have h4 := z i h1 h2
          rw [← h3, h i (by omega) h2, h n (by omega) hp]
          exact h4
      rw [key]
def lkA (u : Nat → Int32) : Nat → Int32 × Int32
  | 0 => (-1, 0)
  | r + 1 => if (lkA u r).2 < u r then (nI r, u r) else lkA u r
noncomputable def aFits (p : Nat → Bool) (k : Int32) : Int32 ⊕ Nat := ite' (inR k 2) (.inl (if k = 0 then nI (fb_ct p 36) else ffA p 36)) (.inr 1)
noncomputable def aLook (p : Nat → Bool) (e : Nat → Nat → Int32) (nr : Nat) (k : Int32) : Int32 ⊕ Nat := ite' (inR k 2) (.inl (if k = 0 then (lkA (fun r => nI (fb_ct (ulB p (fun j => e j r)) 36)) nr).1 else (lkA (fun r => nI (fb_ct (ulB p (fun j => e j r)) 36)) nr).2)) (.inr 1)
theorem k36 : ∀ k, k < 36 → nI k / 12 = nI (k / 12) ∧ nI k - nI k / 12 * 12 = nI (k % 12) := by decide +kernel
section Fits
variable {l : Launch} {x : CX} {mo nc nf nr nr' m nn : Nat} {g : PH} {f F t ct rt ri ti : Nat → Int32}
/-- the notes, in the reference -/
def NT (mo : Nat) (h : PH) (nn : Nat) (ri ti : Nat → Int32) : Prop := hI h mo 26 = nI nn ∧ ∀ i, i < nn → hI h (mo + 14) i = ri i ∧ hI h (mo + 15) i = ti i
theorem NT.sg {h' : PH} (q : NT mo g nn ri ti) (a : SG (scr mo) g h') : NT mo h' nn ri ti :=
  ⟨(a.fldE (by decide) (by decide) (by decide) (by decide)).trans q.1, fun i hi => ⟨(a.rowE (by decide) (by decide) (by decide) (by decide) (by decide) (by decide) (by decide) i).trans (q.2 i hi).1, (a.rowE (by decide) (by decide) (by decide) (by decide) (by decide) (by decide) (by decide) i).trans (q.2 i hi).2⟩⟩
/-- what tellFits has found among the first k runs -/
def FI (mo : Nat) (h : PH) (p : Nat → Bool) (e : Nat → Nat → Int32) (nr k : Nat) : Prop := hI h mo 29 = nI (fb_ct p k) ∧ hI h mo 30 = ffA p k ∧ ∀ j, j < k → p j = true → ∀ r, r < nr → hI h (mo + 16) (20 * fb_ct p j + r) = e j r
theorem FI.sb {h' : PH} {S : List Nat} {p : Nat → Bool} {e : Nat → Nat → Int32} {k : Nat} (q : FI mo g p e nr k) (a : SB S mo g h') (h0 : 0 ∉ S) (h16 : 16 ∉ S) : FI mo h' p e nr k :=
  ⟨(a.fldE h0 29).trans q.1, (a.fldE h0 30).trans q.2.1, fun j hj hp r hr => (a.rowE h16 _).trans (q.2.2 j hj hp r hr)⟩
set_option maxHeartbeats 2000000 in
theorem r_tellFits (w : RX mo t ct rt g) (q : NR mo g f) (T : TD t ct rt nc nf nr) (hNt : NT mo g nn ri ti) (h8 : nn ≤ 8) (hri : ∀ i, i < nn → inR (ri i) nr) : CV l x mX8_tellFits 12 0 0 [.ref mo] g (fun h' => SG (scr mo) g h' ∧ NR mo h' f ∧ hI h' mo 1 = hI g mo 1 ∧ FI mo h' (ftB (enV t ct rt nc nf nr) nn ri ti) (enV t ct rt nc nf nr) nr 36) := by
  have h20 := T.r20
  generalize hp : ftB (enV t ct rt nc nf nr) nn ri ti = p
  have loop : ∀ (j k : Nat) (h : PH), k + j = 36 → SG (scr mo) g h → NR mo h f → hI h mo 1 = hI g mo 1 → FI mo h p (enV t ct rt nc nf nr) nr k → Gm l x mX8_tellFits 12 12 [(0, .ref mo), (1, .int (nI k))] [] h 0 0 (hN g) (fun v h' => v = none ∧ SG (scr mo) g h' ∧ NR mo h' f ∧ hI h' mo 1 = hI g mo 1 ∧ FI mo h' p (enV t ct rt nc nf nr) nr 36) (fun _ _ => False) := by
    intro j
    induction j with
    | zero =>
      intro k h hk sh nh ch fh
      obtain rfl : k = 36 := by omega
      exact vX8_tellFits_12 ⟨fun _ => ⟨rfl, sh, nh, ch, fh⟩, fun e => absurd (by decide) e⟩
    | succ j ih =>
      intro k h hk sh nh ch fh
      have wh := w.sg sh
      have hM := fb_ct_le p k
      refine vX8_tellFits_12 ⟨fun e => absurd e (nI_ge (b := 36) (by omega) (by decide)), fun _ => ⟨wh.1.1.1, ?_⟩⟩
      rw [(k36 k (by omega)).1]
      rw [show nI k - nI (k / 12) * 12 = nI (k % 12) from by rw [← (k36 k (by omega)).1]; exact (k36 k (by omega)).2]
      refine ⟨_, r_anewBegins wh nh T.tk.2 T.c4 T.t2 T.r20, ?_⟩
      rintro h9 ⟨s9, n9, e9⟩
      have w9 := wh.sb s9 (by decide) (by decide) (by decide)
      have W9 := Row_an (y := nI (k % 12)) T (p012 (k / 12) (by omega))
      refine ⟨w9.1.1.1, _, r_ticks (n := 200) w9.1 n9 T.tk W9 (by decide), ?_⟩
      rintro h13 ⟨s13, n13⟩
      have f13 : FI mo h13 p (enV t ct rt nc nf nr) nr k := (fh.sb s9 (by decide) (by decide)).sb s13 (by decide) (by decide)
      have c13 : hI h13 mo 1 = hI g mo 1 := by rw [s13.fldE (by decide), s9.fldE (by decide)]; exact ch
      have e13 : ∀ j, j < 312 → hI h13 (mo + 12) j = f j := fun j hj => by rw [s13.rowE (by decide)]; exact e9 j hj
      have g13 : SG (scr mo) g h13 := (sh.trans (s9.sg (by decide))).trans (s13.sg (by decide))
      -- the row is put back, and the next run comes
      have fin : ∀ (h' : PH) (x2 : Int32), SG (scr mo) g h' → hI h' mo 1 = hI g mo 1 → (∀ j, j < 312 → hI h' (mo + 12) j = f j) → FI mo h' p (enV t ct rt nc nf nr) nr k → (x2 = 0 ↔ p k = false) → (p k = true → ∀ r, r < nr → hI h' (mo + 16) (20 * fb_ct p k + r) = enV t ct rt nc nf nr k r) → ∃ b7, hR h' mo 2 = some b7 ∧ ∃ b9, hR h' mo 23 = some b9 ∧ ∃ q11 : PH → Prop, CV l x mX8_copyTo 0 0 0 [.ref b7, .ref b9] h' q11 ∧ ∀ h13 : PH, q11 h13 → ((¬ x2 = 0 → ((hK h13 mo).1 = 8) ∧ Gm l x mX8_tellFits 12 12 [(0, .ref mo), (1, .int (nI k + 1))] [] (sI (sI h13 mo 30 (if (hI h13 mo 30) = (-1) then nI k else (hI h13 mo 30) : Int32)) mo 29 ((hI h13 mo 29) + 1)) 0 0 (hN g) (fun v h' => v = none ∧ SG (scr mo) g h' ∧ NR mo h' f ∧ hI h' mo 1 = hI g mo 1 ∧ FI mo h' p (enV t ct rt nc nf nr) nr 36) (fun _ _ => False)) ∧ (x2 = 0 → Gm l x mX8_tellFits 12 12 [(0, .ref mo), (1, .int (nI k + 1))] [] h13 0 0 (hN g) (fun v h' => v = none ∧ SG (scr mo) g h' ∧ NR mo h' f ∧ hI h' mo 1 = hI g mo 1 ∧ FI mo h' p (enV t ct rt nc nf nr) nr 36) (fun _ _ => False))) := by
        intro h' x2 sg' c' e' f' hx hen
        have w' := w.sg sg'
        refine ⟨mo + 2, (w'.1.1.row 2 2 312 (by decide)).1, mo + 12, (w'.1.1.row 23 12 312 (by decide)).1, _, r_back (f := f) w'.1.1 e', ?_⟩
        rintro h26 ⟨s26, n26⟩
        have w26 := w'.sb s26 (by decide) (by decide) (by decide)
        have f26 := f'.sb s26 (by decide) (by decide)
        have g26 := sg'.trans (s26.sg (by decide))
        have c26 : hI h26 mo 1 = hI g mo 1 := by rw [s26.fldE (by decide)]; exact c'
        rw [nI_1]
        refine ⟨fun e => ⟨w26.1.1.1, ?_⟩, fun e => ?_⟩
        · have pk : p k = true := by
            cases hb : p k with
            | true => rfl
            | false => exact absurd (hx.mpr hb) e
          refine ih (k + 1) _ (by omega) ((g26.trans (SG.sI (Or.inr (Or.inr (Or.inr (Or.inr (Or.inr ⟨rfl, Or.inr (Or.inr (Or.inl rfl))⟩))))))).trans (SG.sI (Or.inr (Or.inr (Or.inr (Or.inr (Or.inr ⟨rfl, Or.inr (Or.inl rfl)⟩))))))) n26.s1.s1 ?_ ⟨?_, ?_, fun j hj hpj r hr => ?_⟩
          · rw [gIk _ _ _ (by decide), gIk _ _ _ (by decide)]; exact c26
          · rw [gI, f26.1, fb_ct_succ, pk, if_pos rfl, nI_1]
          · rw [gIk _ _ _ (by decide), gI, f26.2.1, ffA, pk, if_pos rfl]
          · rw [gIa _ _ _ _ (by omega), gIa _ _ _ _ (by omega)]
            rcases Nat.lt_or_ge j k with z | z
            · exact f26.2.2 j z hpj r hr
            · obtain rfl : j = k := by omega
              rw [s26.rowE (by decide)]
              exact hen pk r hr
        · have pk := hx.mp e
          refine ih (k + 1) h26 (by omega) g26 n26 c26 ⟨?_, ?_, fun j hj hpj r hr => ?_⟩
          · rw [f26.1, fb_ct_succ, pk, if_neg (by decide), Nat.add_zero]
          · rw [f26.2.1, ffA, pk]
            by_cases z : ffA p k = -1
            · rw [if_pos z, z]; rfl
            · rw [if_neg z]
          · rcases Nat.lt_or_ge j k with z | z
            · exact f26.2.2 j z hpj r hr
            · obtain rfl : j = k := by omega
              rw [pk] at hpj; cases hpj
      -- its ends are kept
      have l88 : ∀ (i r : Nat) (h' : PH) (x2 : Int32), r + i = nr → SG (scr mo) g h' → NR mo h' (run t ct nc nf nr (anF t ct rt nc nr (nI (k / 12)) (nI (k % 12)))) → hI h' mo 1 = hI g mo 1 → (∀ j, j < 312 → hI h' (mo + 12) j = f j) → FI mo h' p (enV t ct rt nc nf nr) nr k → (x2 = 0 ↔ p k = false) → (p k = true → ∀ r', r' < r → hI h' (mo + 16) (20 * fb_ct p k + r') = enV t ct rt nc nf nr k r') → Gm l x mX8_tellFits 12 88 [(0, .ref mo), (1, .int (nI k)), (2, .int x2), (3, .int (nI r))] [] h' 0 0 (hN g) (fun v h' => v = none ∧ SG (scr mo) g h' ∧ NR mo h' f ∧ hI h' mo 1 = hI g mo 1 ∧ FI mo h' p (enV t ct rt nc nf nr) nr 36) (fun _ _ => False) := by
        intro i
        induction i with
        | zero =>
          intro r h' x2 hr sg' n' c' e' f' hx hen
          obtain rfl : r = nr := by omega
          have w' := w.sg sg'
          have w4 := w'.1.1.row 4 4 7 (by decide)
          refine vX8_tellFits_88 ⟨w'.1.1.1, mo + 4, w4.1, w4.2.1, by rw [w4.2.2]; exact vp_in_nI (n := 2) (by decide) (by decide), fun _ => fin h' x2 sg' c' e' f' hx hen, fun e => absurd ?_ e⟩
          rw [show hI h' (mo + 4) (Int32.toNatClampNeg 2) = nI r from (w'.1.2.1 2).trans T.t2]
          exact nI_le (Nat.le_refl _) (by omega)
        | succ i ih2 =>
          intro r h' x2 hr sg' n' c' e' f' hx hen
          have w' := w.sg sg'
          have w4 := w'.1.1.row 4 4 7 (by decide)
          have w16 := w'.1.1.row 31 16 720 (by decide)
          refine vX8_tellFits_88 ⟨w'.1.1.1, mo + 4, w4.1, w4.2.1, by rw [w4.2.2]; exact vp_in_nI (n := 2) (by decide) (by decide), fun e => absurd e ?_, fun _ => ⟨fun e => fin h' x2 sg' c' e' f' hx (fun z => absurd (hx.mp e) (by rw [z]; decide)), fun e => ⟨mo + 16, w16.1, _, r_same w'.1.1 n' (c_of (k := 7) w'.1.1 (by omega) (by decide)), ?_⟩⟩⟩
          · rw [show hI h' (mo + 4) (Int32.toNatClampNeg 2) = nI nr from (w'.1.2.1 2).trans T.t2]
            exact nI_ge (by omega) (by omega)
          rintro _ h32 ⟨rfl, s32, n32⟩
          have pk : p k = true := by
            cases hb : p k with
            | true => rfl
            | false => exact absurd (hx.mpr hb) e
          have f32 := f'.sb s32 (by decide) (by decide)
          have ei : (20 : Int32) * hI h' mo 29 + nI r = nI (20 * fb_ct p k + r) := by
            rw [f'.1]
            show nI 20 * nI _ + nI r = _
            rw [nI_mul, nI_add]
          have w32 := w'.sb s32 (by decide) (by decide) (by decide)
          have v16 := w32.1.1.row 31 16 720 (by decide)
          refine ⟨v16.2.1, by rw [v16.2.2, ei]; exact vp_in_nI (by omega) (by decide), ?_⟩
          rw [ei, nI_clamp (by omega), nI_1]
          have s9' : SB [16] mo h32 (sI h32 (mo + 16) (20 * fb_ct p k + r) (run t ct nc nf nr (anF t ct rt nc nr (nI (k / 12)) (nI (k % 12))) (48 + 9 * r + 7))) := ⟨rfl, rfl, rfl, fun b hb j => gIa _ _ _ _ (hb 16 (by decide))⟩
          refine ih2 (r + 1) _ x2 (by omega) ((sg'.trans (s32.sg (by decide))).trans (s9'.sg (by decide))) (n32.sb s9' (by decide)) ?_ (fun j hj => ?_) ⟨?_, ?_, fun j hj hpj r' hr' => ?_⟩ hx (fun _ r' hr' => ?_)
          · rw [s9'.fldE (by decide), s32.fldE (by decide)]; exact c'
          · rw [s9'.rowE (by decide), s32.rowE (by decide)]; exact e' j hj
          · rw [s9'.fldE (by decide)]; exact f32.1
          · rw [s9'.fldE (by decide)]; exact f32.2.1
          · have h1 := fb_ct_mono p (m := j + 1) (n := k) (by omega)
            rw [fb_ct_succ, hpj, if_pos rfl] at h1
            rw [gIk _ _ _ (by omega)]
            exact f32.2.2 j hj hpj r' hr'
          · by_cases z : r' = r
            · rw [z]
              exact gI _ _ _ _
            · rw [gIk _ _ _ (by omega), s32.rowE (by decide)]
              exact hen pk r' (by omega)
      -- the notes are held against it
      have l41 : ∀ (i n : Nat) (h' : PH) (x2 : Int32), n + i = nn → SG (scr mo) g h' → NR mo h' (run t ct nc nf nr (anF t ct rt nc nr (nI (k / 12)) (nI (k % 12)))) → hI h' mo 1 = hI g mo 1 → (∀ j, j < 312 → hI h' (mo + 12) j = f j) → FI mo h' p (enV t ct rt nc nf nr) nr k → (¬ x2 = 0 ↔ ∀ i, i < n → enV t ct rt nc nf nr k (ri i).toNatClampNeg = ti i) → Gm l x mX8_tellFits 12 41 [(0, .ref mo), (1, .int (nI k)), (2, .int x2), (3, .int (nI n))] [] h' 0 0 (hN g) (fun v h' => v = none ∧ SG (scr mo) g h' ∧ NR mo h' f ∧ hI h' mo 1 = hI g mo 1 ∧ FI mo h' p (enV t ct rt nc nf nr) nr 36) (fun _ _ => False) := by
        intro i
        induction i with
        | zero =>
          intro n h' x2 hn sg' n' c' e' f' hx
          obtain rfl : n = nn := by omega
          have w' := w.sg sg'
          have hN' := hNt.sg sg'
          refine vX8_tellFits_41 ⟨w'.1.1.1, fun _ => l88 nr 0 h' x2 (by omega) sg' n' c' e' f' ?_ (fun _ r' z => absurd z (Nat.not_lt_zero r')), fun e => absurd ?_ e⟩
          · rw [← hp]
            unfold ftB
            rw [decide_eq_false_iff_not, ← hx]
            exact Decidable.not_not.symm
          · rw [hN'.1]
            exact nI_le (Nat.le_refl _) (by omega)
        | succ i ih2 =>
          intro n h' x2 hn sg' n' c' e' f' hx
          have w' := w.sg sg'
          have hN' := hNt.sg sg'
          have w14 := w'.1.1.row 27 14 8 (by decide)
          refine vX8_tellFits_41 ⟨w'.1.1.1, fun e => absurd e ?_, fun _ => ⟨fun e => ?_, fun e => ⟨mo + 14, w14.1, w14.2.1, by rw [w14.2.2]; exact vp_in_nI (by omega) (by decide), ?_⟩⟩⟩
          · rw [hN'.1]
            exact nI_ge (by omega) (by omega)
          · rw [nI_1]
            refine ih2 (n + 1) h' 0 (by omega) sg' n' c' e' f' ⟨fun z => absurd rfl z, fun z => ?_⟩
            exact absurd e (hx.mpr fun i hi => z i (by omega))
          · rw [nI_clamp (by omega), (hN'.2 n (by omega)).1]
            obtain ⟨R, hR', eR⟩ := hri n (by omega)
            rw [eR]
            refine ⟨_, r_same w'.1.1 n' (c_of (k := 7) w'.1.1 (by omega) (by decide)), ?_⟩
            rintro _ h10 ⟨rfl, s10', n10⟩
            have sg2 := sg'.trans (s10'.sg (by decide))
            have w10 := w.sg sg2
            have w15 := w10.1.1.row 28 15 8 (by decide)
            refine ⟨w10.1.1.1, mo + 15, w15.1, w15.2.1, by rw [w15.2.2]; exact vp_in_nI (by omega) (by decide), ?_⟩
            rintro y18 hy
            rw [nI_1]
            refine ih2 (n + 1) h10 y18 (by omega) sg2 n10 (by rw [s10'.fldE (by decide)]; exact c') (fun j hj => by rw [s10'.rowE (by decide)]; exact e' j hj) (f'.sb s10' (by decide) (by decide)) ?_
            have eT : hI h10 (mo + 15) n = ti n := ((hNt.sg sg2).2 n (by omega)).2
            rw [eT] at hy
            have eE : enV t ct rt nc nf nr k (ri n).toNatClampNeg = run t ct nc nf nr (anF t ct rt nc nr (nI (k / 12)) (nI (k % 12))) (48 + 9 * R + 7) := by
              rw [eR, nI_clamp (by omega)]; rfl
            by_cases z : run t ct nc nf nr (anF t ct rt nc nr (nI (k / 12)) (nI (k % 12))) (48 + 9 * R + 7) = ti n
            · rw [hy, if_pos z]
              refine ⟨fun _ i hi => ?_, fun _ => by decide⟩
              rcases Nat.lt_or_ge i n with z1 | z1
              · exact hx.mp e i z1
              · obtain rfl : i = n := by omega
                exact eE.trans z
            · rw [hy, if_neg z]
              exact ⟨fun z1 => absurd rfl z1, fun z1 => absurd (eE.symm.trans (z1 n (by omega))) z⟩
      exact l41 nn 0 h13 1 (by omega) g13 n13 c13 e13 f13 ⟨fun _ i z => absurd z (Nat.not_lt_zero i), fun _ => by decide⟩
  refine Cm.of (by decide) (Nat.le_of_ble_eq_true rfl) (vX8_tellFits_0 ⟨w.1.1.1, ?_⟩)
  refine loop 36 0 _ rfl ((SG.sI (Or.inr (Or.inr (Or.inr (Or.inr (Or.inr ⟨rfl, Or.inr (Or.inl rfl)⟩)))))).trans (SG.sI (Or.inr (Or.inr (Or.inr (Or.inr (Or.inr ⟨rfl, Or.inr (Or.inr (Or.inl rfl))⟩))))))) q.s1.s1 ?_ ⟨?_, ?_, fun j z => absurd z (Nat.not_lt_zero j)⟩
  · rw [gIk _ _ _ (by decide), gIk _ _ _ (by decide)]
  · rw [gIk _ _ _ (by decide)]; exact gI _ _ _ _
  · exact gI _ _ _ _
end Fits
