/-! THE CLASS: cars told; riders overtaken; how many calls -/
section ToldK2
variable {l : Launch} {x : CX} {h : PH} {o nc nf nr m c : Nat} {f t ct rt : Nat → Int32} {tm a b s : Int32}
theorem k_emptyCar {d : Nat} (hk : (hK h d).1 = 2) : CV l x mX2_empty 0 0 0 [.ref d] h (fun h' => h' = sI (sI (sL (sI (sI h d 9 0) d 10 0) d 11 0) d 13 0) d 14 0) :=
  Cm.of (by decide) (Nat.le_of_ble_eq_true rfl) (vX2_empty_0 ⟨hk, rfl, rfl⟩)
theorem k_tellCar {d : Nat} {hm cp so : Int32} (hk : (hK h d).1 = 2) : CV l x mX2_tell 1 0 0 [.ref d, .int hm, .int cp, .int so] h (fun h' => Fr1 d h h' ∧ hI h' d 0 = so ∧ hI h' d 1 = hm ∧ hI h' d 2 = cp ∧ hI h' d 3 = hm ∧ hI h' d 4 = 0 ∧ hI h' d 5 = 0 ∧ hI h' d 6 = 1 ∧ hF h' d 7 = FP.fconst0 ∧ hI h' d 8 = 0 ∧ hI h' d 9 = 0 ∧ hI h' d 10 = 0 ∧ hL h' d 11 = 0 ∧ hL h' d 12 = 0) := by
  refine Cm.of (by decide) (Nat.le_of_ble_eq_true rfl) (vX2_tell_0 ⟨hk, _, k_emptyCar hk, ?_⟩)
  rintro _ rfl
  refine ⟨rfl, (((((((((((((((Fr1.refl d h).sI _ _).sI _ _).sI _ _).sI _ _).sI _ _).sI _ _).sI _ _).sF _ _).sI _ _).sL _ _).sI _ _).sI _ _).sL _ _).sI _ _).sI _ _, ?_⟩
  refine ⟨?_, ?_, ?_, ?_, ?_, ?_, ?_, ?_, ?_, ?_, ?_, ?_, ?_⟩
  all_goals simp (disch := decide) only [gI, gIk, gL, gLk, gF, gFk, hI_sL, hI_sF, hL_sI, hL_sF, hF_sI, hF_sL]
/-- the rows of a Bank that a text told of -/
abbrev BT (h : PH) (o : Nat) (t ct rt : Nat → Int32) (nc nf nr : Nat) : Prop := BR h o t ct nc nf nr (bgF t ct rt nc nr)
theorem tell_up {k j : Nat} {v : Int32} (e : k ≠ j) : tellsT (up t k v) j = tellsT t j := by unfold tellsT; rw [up_ne (Ne.symm e)]
theorem k_addCar {hm cp so : Int32} (R : BT h o t ct rt nc nf nr) (hC : nc < 4) (h20 : nr ≤ 20) : CV l x mX1_addCar 2 0 0 [.ref o, .int hm, .int cp, .int so] h (fun h' => FrB o h h' ∧ BT h' o (up t 1 (nI (nc + 1))) (up (up (up ct (3 * nc) hm) (3 * nc + 1) cp) (3 * nc + 2) so) rt (nc + 1) nf nr) := by
  have S := R.s
  refine Cm.of (by decide) (Nat.le_of_ble_eq_true rfl) (vX1_addCar_0 ⟨S.k, ?_⟩)
  rw [R.nc]
  refine ⟨fun z => absurd z (nI_ge (b := 4) hC (by decide)), fun _ => ⟨o + 1, S.l, by rw [S.lk], by rw [S.lk]; exact vp_in_nI hC (by decide), o + 4 + nc, by rw [nI_clamp (by omega)]; exact (S.lc nc hC).1, (S.lc nc hC).2, _, k_tellCar (S.lc nc hC).2, ?_⟩⟩
  rintro h12 ⟨f12, v0, v1, v2, v3, v4, v5, v6, v7, v8, v9, v10, v11, v12⟩
  have S12 := S.fr f12
  have e1 : hI h12 o 1 = nI nc := (f12.hI (by omega) 1).trans R.nc
  rw [e1, nI_1]
  have fo : Fr1 o h12 (sI h12 o 1 (nI (nc + 1))) := (Fr1.refl _ _).sI _ _
  have Sf := S12.fr fo
  have oI : ∀ k, k ≠ 1 → hI (sI h12 o 1 (nI (nc + 1))) o k = hI h o k := fun k hk => (gIk _ _ _ hk).trans (f12.hI (by omega) k)
  have ac : ∀ b', b' ≠ o → b' ≠ o + 4 + nc → Ac b' h (sI h12 o 1 (nI (nc + 1))) := fun b' h1 h2 => (f12.ac h2).trans (fo.ac h1)
  have acn : Ac (o + 4 + nc) h12 (sI h12 o 1 (nI (nc + 1))) := fo.ac (by omega)
  generalize hct : up (up (up ct (3 * nc) hm) (3 * nc + 1) cp) (3 * nc + 2) so = ct'
  generalize hT : up t 1 (nI (nc + 1)) = t'
  have ctl : ∀ k, k < 3 * nc → ct' k = ct k := fun k hk => by rw [← hct, up_ne (by omega), up_ne (by omega), up_ne (by omega)]
  have c0 : ct' (3 * nc) = hm := by rw [← hct, up_ne (by omega), up_ne (by omega), up_eq]
  have c1 : ct' (3 * nc + 1) = cp := by rw [← hct, up_ne (by omega), up_eq]
  have c2 : ct' (3 * nc + 2) = so := by rw [← hct, up_eq]
  have tt : ∀ k, k ≠ 1 → tellsT t' k = tellsT t k := fun k hk => by rw [← hT]; exact tell_up (Ne.symm hk)
  have t2 : t' 2 = t 2 := by rw [← hT, up_ne (by decide)]
  -- the new row where it is the old one
  have ro : ∀ j, j < 312 → (j < 16 + 8 * nc ∨ 16 + 8 * nc + 8 ≤ j) → bgF t' ct' rt (nc + 1) nr j = bgF t ct rt nc nr j := fun j hj h9 => by
    rcases j_cases hj with z | ⟨c', k', z1, z2, rfl⟩ | ⟨r', k', z1, z2, rfl⟩ | z
    · rw [bg_lo z, bg_lo z, tt 5 (by decide), tt 4 (by decide), t2]
    · rcases Nat.lt_or_ge c' nc with y | y
      · rw [bg_c (by omega) z2, bg_c y z2, ctl _ (by omega), ctl _ (by omega)]
      · rw [bg_c0 (by omega) z1 z2, bg_c0 y z1 z2]
    · rcases Nat.lt_or_ge r' nr with y | y
      · rw [bg_r (by omega) y z2, bg_r (by omega) y z2]
      · rw [bg_r0 (by omega) y, bg_r0 (by omega) y]
    · rw [bg_hi (by omega) (by omega) z, bg_hi (by omega) (by omega) z]
  have rn' : ∀ k, k < 8 → bgF t' ct' rt (nc + 1) nr (16 + 8 * nc + k) = if k = 0 ∨ k = 6 then hm else if k = 7 then cp else if k = 4 then 1 else 0 := fun k hk => by
    rw [bg_c (by omega) hk, c0, c1]
  have em : mm (bgF t' ct' rt (nc + 1) nr) = mm (bgF t ct rt nc nr) := by unfold mm; rw [ro 7 (by decide) (by omega)]
  refine ⟨S12.k, rfl, (f12.frb (by omega) (by omega)).trans (fo.frb (by omega) (by omega)), Sf, ?_, gI _ _ _ _, ?_, ?_, ?_, ?_, ?_, ?_, ?_, ?_, ?_, ?_, ?_, fun c hc => ?_, fun r hr => ?_, ?_⟩
  · rw [oI 0 (by decide)]; exact R.fl
  · rw [oI 2 (by decide)]; exact R.nr
  · rw [oI 3 (by decide), tt 3 (by decide)]; exact R.dw
  · rw [oI 4 (by decide), ro 3 (by decide) (by omega)]; exact R.la
  · rw [oI 5 (by decide), ro 2 (by decide) (by omega)]; exact R.po
  · rw [oI 6 (by decide), tt 6 (by decide)]; exact R.pk
  · rw [oI 7 (by decide), ro 0 (by decide) (by omega)]; exact R.ti
  · rw [oI 8 (by decide), ro 1 (by decide) (by omega)]; exact R.bu
  · rw [oI 9 (by decide), ro 4 (by decide) (by omega)]; exact R.tu
  · rw [oI 10 (by decide)]
    exact R.ar.same fun j h1 h2 => ro j (by omega) (by omega)
  · rw [oI 11 (by decide), em, peak_same (f := bgF t ct rt nc nr) (by omega) (fun j h1 h2 => ro j (by omega) (by omega)), R.ru]
    unfold peakC
    rw [tt 6 (by decide)]
  · rw [oI 12 (by decide), R.fi, cnt_same (f := bgF t ct rt nc nr) (fun r hr => ro _ (by omega) (by omega))]
  · rcases Nat.lt_or_ge c nc with y | y
    · obtain ⟨⟨q1, q2, q3, q4, q5, q6, q7, q8, q9, q10, q11, q12⟩, G⟩ := (R.ca c y).ac (ac (o + 4 + c) (by omega) (by omega))
      have cc : ∀ k, k < 8 → bgF t' ct' rt (nc + 1) nr (16 + 8 * c + k) = bgF t ct rt nc nr (16 + 8 * c + k) := fun k hk => ro _ (by omega) (by omega)
      refine ⟨⟨q1, ?_, ?_, ?_, ?_, ?_, ?_, ?_, ?_, ?_, ?_, fun i hi => ?_⟩, G.same rfl (cc 3 (by decide)) (fun r hr => ro _ (by omega) (by omega))⟩
      · rw [ctl _ (by omega)]; exact q2
      · rw [cc 6 (by decide)]; exact q3
      · rw [cc 7 (by decide)]; exact q4
      · rw [show bgF t' ct' rt (nc + 1) nr (16 + 8 * c) = _ from cc 0 (by decide)]; exact q5
      · rw [cc 1 (by decide)]; exact q6
      · rw [cc 2 (by decide)]; exact q7
      · rw [cc 4 (by decide)]; exact q8
      · rw [cc 5 (by decide)]; exact q9
      · rw [cc 3 (by decide)]; exact q10
      · rw [cc 3 (by decide)]; exact q11
      · rw [q12 i hi]
        constructor
        · rintro ⟨y1, y2⟩; exact ⟨y1, (ro _ (by omega) (by omega)).trans y2⟩
        · rintro ⟨y1, y2⟩; exact ⟨y1, (ro _ (by omega) (by omega)).symm.trans y2⟩
    · obtain rfl : c = nc := by omega
      have bc0 : bc 0 = 0 := by decide +kernel
      refine ⟨⟨?_, ?_, ?_, ?_, ?_, ?_, ?_, ?_, ?_, ?_, ?_, fun i hi => ?_⟩, fun i hi _ => ?_⟩
      · exact (Sf.lc c hC).2
      · rw [acn.hI, v0, c2]
      · rw [acn.hI, v1, rn' 6 (by decide)]; rfl
      · rw [acn.hI, v2, rn' 7 (by decide)]; rfl
      · rw [acn.hI, v3, show bgF t' ct' rt (c + 1) nr (16 + 8 * c) = _ from rn' 0 (by decide)]; rfl
      · rw [acn.hI, v4, rn' 1 (by decide)]; rfl
      · rw [acn.hI, v5, rn' 2 (by decide)]; rfl
      · rw [acn.hI, v6, rn' 4 (by decide)]; rfl
      · rw [(acn.2 7).2.2.1, v7, rn' 5 (by decide)]; rfl
      · rw [acn.hI, v9, rn' 3 (by decide)]; rfl
      · rw [acn.hI, v10, rn' 3 (by decide)]; exact bc0.symm
      · rw [(acn.2 12).2.1, v12, bL_0, bg_hi (by omega) (by omega) (by omega)]
        exact ⟨fun z => by simp at z, fun z => absurd z.2 (nz1 c hC)⟩
      · rw [(acn.2 11).2.1, v11, bL_0, rn' 3 (by decide)]
        refine ⟨fun z => by simp at z, ?_⟩
        rintro ⟨r, y1, y2, _⟩
        rw [show (if 3 = 0 ∨ 3 = 6 then hm else if 3 = 7 then cp else if 3 = 4 then 1 else 0 : Int32) = 0 from rfl, b_0] at y2
        cases y2
  · exact ((R.ri r hr).ac (ac (o + 8 + r) (by omega) (by omega))).row fun k hk => ro _ (by omega) (by omega)
  · show ps _ o nc + hI (sI h12 o 1 (nI (nc + 1))) (o + 4 + nc) 8 = _
    rw [ps_Ac (fun c' hc' => (ac (o + 4 + c') (by omega) (by omega)).hI 8), R.pa, acn.hI, v8, ro 5 (by decide) (by omega), Int32.add_zero]
/-! the rider that a text told -/
theorem bg_add (hC : nc ≤ 4) {tm a b s : Int32} : adF (bgF t ct rt nc nr) nr tm a b s = bgF (up t 2 (nI (nr + 1))) ct (up (up (up (up rt (4 * nr) s) (4 * nr + 1) tm) (4 * nr + 2) a) (4 * nr + 3) b) nc (nr + 1) := by
  funext j
  generalize hr : up (up (up (up rt (4 * nr) s) (4 * nr + 1) tm) (4 * nr + 2) a) (4 * nr + 3) b = rt'
  have rl : ∀ k, k < 4 * nr → rt' k = rt k := fun k hk => by rw [← hr, up_ne (by omega), up_ne (by omega), up_ne (by omega), up_ne (by omega)]
  have r0 : rt' (4 * nr + 0) = s := by rw [← hr, up_ne (by omega), up_ne (by omega), up_ne (by omega)]; exact up_eq
  have r1 : rt' (4 * nr + 1) = tm := by rw [← hr, up_ne (by omega), up_ne (by omega), up_eq]
  have r2 : rt' (4 * nr + 2) = a := by rw [← hr, up_ne (by omega), up_eq]
  have r3 : rt' (4 * nr + 3) = b := by rw [← hr, up_eq]
  by_cases z : 48 + 9 * nr ≤ j ∧ j < 48 + 9 * nr + 9
  · obtain ⟨k, rfl⟩ : ∃ k, j = 48 + 9 * nr + k := ⟨j - (48 + 9 * nr), by omega⟩
    have hk : k < 9 := by omega
    rw [ad_at hk, bg_r hC (by omega) hk]
    have : k = 0 ∨ k = 1 ∨ k = 2 ∨ k = 3 ∨ k = 4 ∨ k = 5 ∨ k = 6 ∨ k = 7 ∨ k = 8 := by omega
    rcases this with rfl | rfl | rfl | rfl | rfl | rfl | rfl | rfl | rfl
    · rw [if_pos (by decide), r0]; rfl
    · rw [if_pos (by decide), r1]; rfl
    · rw [if_pos (by decide), r2]; rfl
    · rw [if_pos (by decide), r3]; rfl
    all_goals rfl
  · by_cases z6 : j = 6
    · rw [z6, ad_6, bg_lo (by decide), up_eq]; rfl
    · rw [ad_ne (by omega) z6]
      unfold bgF
      rw [tell_up (by decide), tell_up (by decide), if_neg z6, if_neg z6]
      by_cases y1 : j = 2
      · rw [if_pos y1, if_pos y1]
      · rw [if_neg y1, if_neg y1]
        by_cases y2 : j = 3
        · rw [if_pos y2, if_pos y2]
        · rw [if_neg y2, if_neg y2]
          by_cases y3 : j = 4
          · rw [if_pos y3, if_pos y3]
          · rw [if_neg y3, if_neg y3]
            by_cases y4 : 16 ≤ j ∧ j < 16 + 8 * nc
            · rw [if_pos y4, if_pos y4]
            · rw [if_neg y4, if_neg y4]
              by_cases y5 : 48 ≤ j ∧ j < 48 + 9 * nr
              · rw [if_pos y5, if_pos (show 48 ≤ j ∧ j < 48 + 9 * (nr + 1) by omega)]
                by_cases y6 : (j - 48) % 9 < 4
                · rw [if_pos y6, if_pos y6, rl _ (by omega)]
                · rw [if_neg y6, if_neg y6]
              · rw [if_neg y5, if_neg (show ¬ (48 ≤ j ∧ j < 48 + 9 * (nr + 1)) by omega)]
theorem k_addTold (R : BT h o t ct rt nc nf nr) (hC : nc ≤ 4) (h24 : nr < 24) : CV l x mX1_addRider 1 0 0 [.ref o, .int tm, .int a, .int b, .int s] h (fun h' => FrB o h h' ∧ BT h' o (up t 2 (nI (nr + 1))) ct (up (up (up (up rt (4 * nr) s) (4 * nr + 1) tm) (4 * nr + 2) a) (4 * nr + 3) b) nc nf (nr + 1)) := by
  refine Cm.mono (k_addRider R hC h24 (fun c hc r hr hb => ?_)) ?_
  · rw [bg_c (k := 3) hc (by decide), show (if 3 = 0 ∨ 3 = 6 then ct (3 * c) else if 3 = 7 then ct (3 * c + 1) else if 3 = 4 then 1 else 0 : Int32) = 0 from rfl, b_0] at hb
    cases hb
  · rintro v h' ⟨e1, e2, e3⟩
    rw [bg_add hC] at e3
    exact ⟨e1, e2, e3.tl (tell_up (by decide)) (tell_up (by decide))⟩
end ToldK2
