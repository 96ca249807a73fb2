/-! THE CLASS: small methods of Bank and Car -/
section BankA
variable {l : Launch} {x : CX} {h : PH} {o nc nf nr m c : Nat} {f t ct rt : Nat → Int32}
theorem k_hasFloor {v : Int32} (hk : (hK h o).1 = 1) (hf : hI h o 0 = nI nf) (hn : nf < 2 ^ 31) : CI l x mX1_hasFloor 0 0 0 [.ref o, .int v] h (fun r h' => (¬ r = 0 ↔ inR v nf) ∧ h' = h) := by
  refine Cm.of (by decide) (Nat.le_of_ble_eq_true rfl) (vX1_hasFloor_0 ⟨fun e => ⟨by decide, _, rfl, ⟨fun z => absurd rfl z, fun z => absurd e ((inR_iff hn).mpr z).1⟩, rfl⟩, fun e => ⟨hk, ?_⟩⟩)
  rw [hf]
  by_cases e2 : nI nf ≤ v
  · rw [if_pos e2]
    exact ⟨by decide, _, rfl, ⟨fun z => absurd rfl z, fun z => absurd e2 ((inR_iff hn).mpr z).2⟩, rfl⟩
  · rw [if_neg e2]
    exact ⟨by decide, _, rfl, ⟨fun _ => (inR_iff hn).mp ⟨e, e2⟩, fun _ => by decide⟩, rfl⟩
theorem k_takes {a : Nat} {s : Int32} (hk : (hK h a).1 = 2) (hs : hI h a 0 = ct (3 * c + 2)) : CI l x mX2_takes 0 0 0 [.ref a, .int s] h (fun r h' => r = takesC ct c s ∧ h' = h) := by
  have e : (if hI h a 0 = 0 then 1 else (if hI h a 0 = s then 1 else 0 : Int32) : Int32) = takesC ct c s := by
    rw [hs]
    unfold takesC
    by_cases e1 : ct (3 * c + 2) = 0
    · rw [if_pos e1, if_pos (Or.inl e1)]
    · rw [if_neg e1]
      by_cases e2 : ct (3 * c + 2) = s
      · rw [if_pos e2, if_pos (Or.inr e2)]
      · rw [if_neg e2, if_neg (fun z => z.elim e1 e2)]
  refine Cm.of (by decide) (Nat.le_of_ble_eq_true rfl) (vX2_takes_0 ⟨hk, ?_⟩)
  rw [e]
  refine ⟨?_, _, rfl, rfl, rfl⟩
  unfold takesC
  split
  · exact Or.inr rfl
  · exact Or.inl rfl
theorem k_stopFloors {a : Nat} (C : CO h a ct nr f c) (I : Inv ct nc nf nr m f) (hc : c < nc) : CI l x mX2_stopFloors 0 0 0 [.ref a, .int (nI nf)] h (fun v h' => v = stopsC f nr nf c ∧ h' = h) := by
  have hF := I.hF
  have h24 := I.hr
  have key : ∀ j, j < nf → (¬ lg_cmp ((lus (stL h a) (4 * nI j)) &&& 15) 0 = 0 ↔ stp f nr nf c j) := by
    intro j hj
    rw [n4, bL_at _ _ j (by omega)]
    constructor
    · rintro ⟨i, h1, h2, h3⟩
      rw [bL_c15 i h1, decide_eq_true_eq] at h3
      have h4 := C.bit I hc (i := 4 * j + i) (by omega) h2
      rw [show (4 * j + i) / 4 = j by omega] at h4
      exact h4
    · intro s
      obtain ⟨i, h1, h2, h3⟩ := C.bit2 I hc (by omega) s
      refine ⟨i - 4 * j, by omega, ?_, ?_⟩
      · rw [show 4 * j + (i - 4 * j) = i by omega]; exact h3
      · rw [bL_c15 _ (by omega), decide_eq_true_eq]; omega
  have loop : ∀ (i k : Nat) (v : Int32), k + i = nf → (∀ j, j < 32 → (bt v j = true ↔ j < k ∧ stp f nr nf c j)) → Gm l x mX2_stopFloors 0 34 [(0, .ref a), (1, .int (nI nf)), (2, .long (stL h a)), (4, .int v), (5, .int (nI k))] [] h 0 0 (hN h) (fun v h' => ∃ r, v = some (.int r) ∧ r = stopsC f nr nf c ∧ h' = h) (fun _ _ => False) := by
    intro i
    induction i with
    | zero =>
      intro k v hk hv
      obtain rfl : k = nf := by omega
      refine vX2_stopFloors_34 ⟨fun _ => ⟨_, rfl, b_ext fun j hj => ?_, rfl⟩, fun z => absurd (nI_le (Nat.le_refl _) (by omega)) z⟩
      have e1 := stops_bt (c := c) I.to h24 hF hj
      have e2 := hv j hj
      cases hb : bt v j with
      | true => exact (e1.mpr (e2.mp hb).2).symm
      | false =>
        cases hb2 : bt (stopsC f nr k c) j with
        | false => rfl
        | true =>
          have h3 := e1.mp hb2
          rw [e2.mpr ⟨stp_lt (by omega) I.to' hF h3, h3⟩] at hb
          cases hb
    | succ i ih =>
      intro k v hk hv
      refine vX2_stopFloors_34 ⟨fun z => absurd z (nI_ge (by omega) (by omega)), fun _ => ?_⟩
      rw [nI_1]
      refine ih (k + 1) _ (by omega) (fun j hj => ?_)
      by_cases e : lg_cmp ((lus (stL h a) (4 * nI k)) &&& 15) 0 = 0
      · rw [if_pos e, hv j hj]
        refine ⟨fun z => ⟨by omega, z.2⟩, fun z => ⟨?_, z.2⟩⟩
        rcases Nat.lt_or_ge j k with y | y
        · exact y
        · obtain rfl : j = k := by omega
          exact absurd e ((key j (by omega)).mpr z.2)
      · rw [if_neg e, bt_set _ k (by omega) j hj]
        by_cases y : j = k
        · subst y
          rw [if_pos rfl]
          exact ⟨fun _ => ⟨by omega, (key j (by omega)).mp e⟩, fun _ => rfl⟩
        · rw [if_neg y, hv j hj]
          exact ⟨fun z => ⟨by omega, z.2⟩, fun z => ⟨by omega, z.2⟩⟩
  refine Cm.of (by decide) (Nat.le_of_ble_eq_true rfl) (vX2_stopFloors_0 ⟨C.1.ck, ?_⟩)
  rintro y3 rfl
  exact loop nf 0 0 (by omega) (fun j _ => by rw [b_0]; exact ⟨fun z => by simp at z, fun z => absurd z.1 (Nat.not_lt_zero j)⟩)
/-! the bits of a float -/
set_option maxHeartbeats 4000000 in
theorem k_bitsOf {b : UInt32} (hb : b.toNat = 0 ∨ (8388608 ≤ b.toNat ∧ b.toNat < 2139095040)) : CI l x mX7_bitsOf 0 0 0 [.float b] h (fun r h' => r = b.toInt32 ∧ h' = h) := by
  have fk : Fok b := by show b.toNat ≤ _; rcases hb with z | z <;> omega
  have cm : ∀ {a b : UInt32} {o : CmpOp}, Fok a → Fok b → (Op.cmpValue (FP.fcmp a b) o) = if a.toNat < b.toNat then -1 else if a.toNat = b.toNat then 0 else 1 := fun ha hb => cmp_l ha hb
  refine Cm.of (by decide) (Nat.le_of_ble_eq_true rfl) (vX7_bitsOf_0 ?_)
  rw [cm fk f_0, n_0]
  rcases hb with z | ⟨h1, h2⟩
  · rw [if_neg (by omega), if_pos z]
    refine ⟨fun e => absurd e (by decide), fun _ => ⟨_, rfl, ?_, rfl⟩⟩
    have e0 : b = 0 := UInt32.toNat_inj.mp z
    rw [e0]; rfl
  · rw [if_neg (by omega), if_neg (by omega)]
    refine ⟨fun _ => ?_, fun e => absurd (by decide) e⟩
    obtain ⟨E, T, hE1, hE2, hT, rfl⟩ := fb_of h1 h2
    -- at exponent 127: the tail is told
    have fin : ∀ (X : Nat) (x3 : Int32), X = E → Gm l x mX7_bitsOf 0 43 [(0, .float (fb E T)), (1, .float (fb 127 T)), (2, .int (nI X)), (3, .int x3)] [] h 0 0 (hN h) (fun v h' => ∃ r, v = some (.int r) ∧ r = (fb E T).toInt32 ∧ h' = h) (fun _ _ => False) := by
      intro X x3 hX
      obtain ⟨⟨c, q, hv⟩, hi⟩ := fb_tail hT
      have e2 : FP.f2i (FP.fmul (FP.fsub (fb 127 T) FP.fconst1) 1258291200) = nI T := by
        refine Jvm.FP.Core.f2i_int ?_
        rw [nI_toInt (by omega)]
        exact hi
      have last : vf_n32 (FP.fsub (fb 127 T) FP.fconst1) ∧ vf_n32 (FP.fmul (FP.fsub (fb 127 T) FP.fconst1) 1258291200) ∧ ∃ r, some (Value.int ((nI X <<< ((23 : Int32) &&& 31)) ||| FP.f2i (FP.fmul (FP.fsub (fb 127 T) FP.fconst1) 1258291200))) = some (.int r) ∧ r = (fb E T).toInt32 ∧ h = h := ⟨n32_fin hv, n32_int hi, _, rfl, by rw [e2, hX]; exact fb_join hE2 hT, rfl⟩
      refine vX7_bitsOf_43 ⟨fun _ => last, fun _ => ⟨fun _ => last, fun e => absurd ?_ e⟩⟩
      rw [cm (fb_ok (by decide) hT) f_1, fb_n (by decide) hT, n_1, if_neg (by omega)]
      split <;> decide
    -- below 1: doubled
    have up : ∀ (i e k : Nat), e + i = 127 → 1 ≤ e → k + E = e → Gm l x mX7_bitsOf 0 43 [(0, .float (fb E T)), (1, .float (fb e T)), (2, .int (nI (127 - k))), (3, .int (nI k))] [] h 0 0 (hN h) (fun v h' => ∃ r, v = some (.int r) ∧ r = (fb E T).toInt32 ∧ h' = h) (fun _ _ => False) := by
      intro i
      induction i with
      | zero =>
        intro e k he h1 hk
        obtain rfl : e = 127 := by omega
        exact fin (127 - k) (nI k) (by omega)
      | succ i ih =>
        intro e k he h1 hk
        refine vX7_bitsOf_43 ⟨fun z => absurd z (nI_ge (b := 128) (by omega) (by decide)), fun _ => ?_⟩
        rw [cm (fb_ok (by omega) hT) f_1, fb_n (by omega) hT, n_1, if_pos (by omega), fb_twice h1 (by omega) hT]
        refine ⟨fun z => absurd z (by decide), fun _ => ⟨(fb_ok (by omega) hT).n, ?_⟩⟩
        have h2 := ih (e + 1) (k + 1) (by omega) (by omega) (by omega)
        rw [← nI_1 k] at h2
        rw [show nI (127 - k) + (-1) = nI (127 - (k + 1)) from by rw [nI_dn1 (by omega), show 127 - k - 1 = 127 - (k + 1) by omega]]
        exact h2
    -- 2 and above: halved
    have dn : ∀ (i e k : Nat), 127 + i = e → e ≤ 254 → k + e = E → Gm l x mX7_bitsOf 0 15 [(0, .float (fb E T)), (1, .float (fb e T)), (2, .int (nI (127 + k))), (3, .int (nI k))] [] h 0 0 (hN h) (fun v h' => ∃ r, v = some (.int r) ∧ r = (fb E T).toInt32 ∧ h' = h) (fun _ _ => False) := by
      intro i
      induction i with
      | zero =>
        intro e k he h1 hk
        obtain rfl : e = 127 := by omega
        have h9 := fin (127 + k) 0 (by omega)
        refine vX7_bitsOf_15 ⟨fun _ => h9, fun _ => ⟨fun _ => h9, fun z => absurd ?_ z⟩⟩
        rw [cm (fb_ok (by omega) hT) f_2, fb_n (by omega) hT, n_2, if_pos (by omega)]
        decide
      | succ i ih =>
        intro e k he h1 hk
        refine vX7_bitsOf_15 ⟨fun z => absurd z (nI_ge (b := 128) (by omega) (by decide)), fun _ => ?_⟩
        rw [cm (fb_ok (by omega) hT) f_2, fb_n (by omega) hT, n_2, if_neg (by omega)]
        refine ⟨fun z => absurd z (by split <;> decide), fun _ => ?_⟩
        rw [fb_half (by omega) (by omega) hT, nI_1, nI_1, show 127 + k + 1 = 127 + (k + 1) by omega]
        exact ⟨(fb_ok (by omega) hT).n, ih (e - 1) (k + 1) (by omega) (by omega) (by omega)⟩
    rcases Nat.lt_or_ge E 127 with z | z
    · have h9 := up (127 - E) E 0 (by omega) hE1 (by omega)
      refine vX7_bitsOf_15 ⟨fun y => absurd y (by decide), fun _ => ⟨fun _ => h9, fun y => absurd ?_ y⟩⟩
      rw [cm (fb_ok (by omega) hT) f_2, fb_n (by omega) hT, n_2, if_pos (by omega)]
      decide
    · exact dn (E - 127) E 0 (by omega) hE2 (by omega)
end BankA
