/-! THE CLASS'S FACE: group -/
section GroupK
variable {l : Launch} {x : CX} {h h' : PH} {nc nf nr fi tl rp o : Nat} {t ct rt tp : Nat → Int32} {ow : Nat → Nat} {D : DT} {fp : Int32} {I : Option DT} {t' ct' rt' : Nat → Int32} {f : Nat → Int32}
theorem k_beginR2 (P : PS h rp) (S1 : BS h (rp + 1)) (S2 : BS h (rp + 33)) (B : BT h o t ct rt nc nf nr) (T : TD t ct rt nc nf nr) (hd : o + 32 ≤ rp + 1 ∨ rp + 33 ≤ o) : CV l x mX5_begin 2 0 0 [.ref rp, .ref o] h (fun h' => FrX (rp + 1) (rp + 66) h h' ∧ RP h' rp t ct rt nc nf nr ∧ ∀ i, i < 36 → hI h' (rp + 65) i = 0) := by
  have hC := T.c4
  have h20 := T.r20
  obtain ⟨⟨m, I⟩, G, _⟩ := Row_bg T
  refine Cm.of (by decide) (Nat.le_of_ble_eq_true rfl) (vX5_begin_0 ⟨P.1, rp + 1, P.2.1, S1.k, _, k_copyBank B S1 I G (by omega), ?_⟩)
  rintro h7 ⟨p7, B7⟩
  have loop : ∀ (j k : Nat) (g : PH), k + j = 36 → FrX (rp + 65) (rp + 66) h7 g → (∀ i, i < k → hI g (rp + 65) i = 0) → Gm l x mX5_begin 2 10 [(0, .ref rp), (1, .ref o), (2, .int (nI k))] [] g 0 0 (hN h) (fun v h' => v = none ∧ FrX (rp + 1) (rp + 66) h h' ∧ RP h' rp t ct rt nc nf nr ∧ ∀ i, i < 36 → hI h' (rp + 65) i = 0) (fun _ _ => False) := by
    intro j
    induction j with
    | zero =>
      intro k g hk pg z
      obtain rfl : k = 36 := by omega
      have Pg := (P.frb p7).frx pg
      refine vX5_begin_10 ⟨Pg.1, rp + 65, Pg.2.2.2.1, by rw [Pg.2.2.2.2.1], fun _ => ⟨rfl, (p7.frx (by omega) (by omega)).trans (pg.mono (by omega) (by omega)), ⟨Pg, B7.frx hC (by omega) pg (Or.inr (by omega)), (S2.frb p7).frx pg, fun i hi e => absurd (z i hi) e⟩, z⟩, fun e => absurd (by rw [Pg.2.2.2.2.1]; decide) e⟩
    | succ j ih =>
      intro k g hk pg z
      have Pg := (P.frb p7).frx pg
      refine vX5_begin_10 ⟨Pg.1, rp + 65, Pg.2.2.2.1, by rw [Pg.2.2.2.2.1], fun e => absurd e (by rw [Pg.2.2.2.2.1]; exact nI_ge (b := 36) (by omega) (by decide)), fun _ => ⟨by rw [Pg.2.2.2.2.1]; exact vp_in_nI (by omega) (by decide), ?_⟩⟩
      rw [nI_clamp (by omega), nI_1]
      refine ih (k + 1) _ (by omega) (pg.trans (((Fr1.refl _ _).sI _ _).frx (by omega) (by omega))) (fun i hi => ?_)
      rw [hI_sI]
      by_cases e : i = k
      · rw [if_pos ⟨e, rfl⟩]; rfl
      · rw [if_neg fun q => e q.1]
        exact z i (by omega)
  exact loop 36 0 h7 rfl (FrX.refl _ _ _) (fun i hi => absurd hi (Nat.not_lt_zero _))
theorem TD_cg2 (T : TD t ct rt nc nf nr) (e : ∀ k, k < 7 → t' k = t k) (e2 : ∀ k, k < 3 * nc → ct' k = ct k) (e3 : ∀ k, k < 4 * nr → rt' k = rt k) : TD t' ct' rt' nc nf nr := by
  have tl : ∀ k, k < 7 → tellsT t' k = tellsT t k := fun k hk => by unfold tellsT; rw [e k hk]
  have c4 := T.c4
  have r20 := T.r20
  refine ⟨⟨⟨(e 0 (by decide)).trans T.tk.1.1, by rw [tl 3 (by decide)]; exact T.tk.1.2⟩, (e 1 (by decide)).trans T.tk.2⟩, T.f2, T.f12, T.c4, (e 2 (by decide)).trans T.t2, T.r20, fun c hc => ?_, fun c hc => ?_, fun r hr => ?_, ?_, ?_, ?_⟩
  · rw [e2 _ (by omega)]; exact T.ct' c hc
  · rw [e2 _ (by omega), e2 _ (by omega)]; exact T.ca c hc
  · rw [e3 _ (by omega), e3 _ (by omega), e3 _ (by omega), e3 _ (by omega)]; exact T.ri r hr
  · rw [tl 5 (by decide)]; exact T.po
  · rw [tl 4 (by decide)]; exact T.la
  · rw [tl 6 (by decide)]; exact T.pk
theorem bgF_cg (e1 : ∀ k, k < 7 → t' k = t k) (e2 : ∀ k, k < 3 * nc → ct' k = ct k) (e3 : ∀ k, k < 4 * nr → rt' k = rt k) (hC : nc ≤ 4) (hr : nr ≤ 20) : bgF t' ct' rt' nc nr = bgF t ct rt nc nr := by
  funext j
  have u : ∀ k, k < 7 → tellsT t' k = tellsT t k := fun k hk => by unfold tellsT; rw [e1 k hk]
  unfold bgF
  rw [u 5 (by decide), u 4 (by decide), e1 2 (by decide)]
  by_cases z : 16 ≤ j ∧ j < 16 + 8 * nc
  · rw [if_pos z, if_pos z, e2 _ (by omega), e2 _ (by omega)]
  · rw [if_neg z, if_neg z]
    by_cases y : 48 ≤ j ∧ j < 48 + 9 * nr
    · rw [if_pos y, if_pos y]
      by_cases w : (j - 48) % 9 < 4
      · rw [if_pos w, if_pos w, e3 _ (by omega)]
      · rw [if_neg w, if_neg w]
    · rw [if_neg y, if_neg y]
theorem BR.cc (R : BR h o t ct nc nf nr f) (e1 : ∀ k, k < 7 → t' k = t k) (e2 : ∀ k, k < 3 * nc → ct' k = ct k) (hC : nc ≤ 4) : BR h o t' ct' nc nf nr f := by
  have u : ∀ k, k < 7 → tellsT t' k = tellsT t k := fun k hk => by unfold tellsT; rw [e1 k hk]
  obtain ⟨q0, q1, q2, q3, q4, q5, q6, q7, q8, q9, q10, q11, q12, q13, q14, q15, q16⟩ := R.tl (u 3 (by decide)) (u 6 (by decide))
  refine ⟨q0, q1, q2, q3, q4, q5, q6, q7, q8, q9, q10, q11, q12, q13, fun c hc => ?_, q15, q16⟩
  obtain ⟨⟨c1, c2, c3⟩, c4⟩ := q14 c hc
  exact ⟨⟨c1, by rw [e2 _ (by omega)]; exact c2, c3⟩, c4⟩
abbrev z0 : Nat → Int32 := fun _ => 0
noncomputable def prG (tp : Nat → Int32) (n : Nat) : (Int32 × Nat) ⊕ PD := prs tp n (n + 1) (tZ, z0, z0, 0, 8, 0) 0 (tokB tp n 0)
def AG (d : PD) (t ct rt : Nat → Int32) : Prop := (∀ k, k < 7 → t k = d.1 k) ∧ (∀ k, k < 3 * d.2.2.2.1 → ct k = d.2.1 k) ∧ ∀ k, k < 4 * d.2.2.2.2.2 → rt k = d.2.2.1 k
def GC (h : PH) (t ct rt : Nat → Int32) (nc nf nr : Nat) (D : DT) (tp : Nat → Int32) (I : Option DT) (p : (Int32 × Nat) ⊕ PD) (r : Int32) (h' : PH) : Prop := match p with
  | .inl q => r = q.1 ∧ KQ h 0 0 (KZ t ct rt nc nf nr (dRef D 0) 0 tp (nI q.2) I) h'
  | .inr d => r = 0 ∧ ∀ t' ct' rt', AG d t' ct' rt' → KQ h 0 0 (KZ t' ct' rt' d.2.2.2.1 d.2.2.2.2.1 d.2.2.2.2.2 (bgF t' ct' rt' d.2.2.2.1 d.2.2.2.2.2, (0, D.2.1.2), (0, D.2.2.1.2), D.2.2.2) 0 tp (-1) none) h'
theorem Fr1.frS {a : Nat} (p : Fr1 a h h') : FrS (fun b => b = a) h h' := ⟨by rw [p.hN]; exact Nat.le_refl _, fun b _ hb => p.ac hb⟩
/-- a number of the LiftBank's own cell is set -/
theorem KO.own {k : Nat} {v : Int32} (K : KO h ow fi t ct rt nc nf nr D tl tp fp I) (W : SO t ct rt nc nf nr D I) (hk : k ≠ 6) {fp' : Int32} (F : hI (sI h 0 k v) 0 1 = fp') : KO (sI h 0 k v) ow fi t ct rt nc nf nr D tl tp fp' I := by
  have f1 : Fr1 0 h (sI h 0 k v) := (Fr1.refl _ _).sI _ _
  refine K.gen W f1.frS (fun b z => by omega) (fun b h1 h2 z => by omega) ?_ (K.1.rk f1.hK f1.hR) (K.R.acs W.1.c4 (by have := W.1.r20; omega) fun b h1 h2 => f1.ac (by omega)) (K.2.2.2.1.acs (f1.ac (by omega)) (f1.ac (by omega))) F (f1.hR _ _) (gIk _ _ _ (by omega))
  rw [f1.hK]
  exact K.2.2.2.2.2.2.2.1
theorem KO.ref0 (K : KO h ow fi t ct rt nc nf nr D tl tp fp I) (W : SO t ct rt nc nf nr D I) : KQ h 0 0 (KZ t ct rt nc nf nr (dRef D 0) tl tp fp I) (sI h 176 0 (hI h 176 0 + 1)) := by
  have f1 : Fr1 176 h (sI h 176 0 (hI h 176 0 + 1)) := (Fr1.refl _ _).sI _ _
  refine K.note (D' := dRef D 0) W W (f1.frx (by decide) (by decide)) (fun b h1 h2 => f1.ac (by omega)) ?_ rfl rfl
  obtain ⟨d1, d2, d3⟩ := K.V.2.2.2.2.1
  refine ⟨by rw [f1.hI (by decide)]; exact d1, fun i hi => by rw [f1.hI (by decide), f1.hI (by decide)]; exact d2 i hi, fun i hi => ?_⟩
  show hI (sI h 176 0 (hI h 176 0 + 1)) 176 i = up D.2.2.2 0 (D.2.2.2 0 + 1) i
  by_cases z : i = 0
  · rw [z, gI, up_eq]
    have := d3 0 (by decide)
    exact congrArg (· + 1) this
  · rw [gIk _ _ _ z, up_ne z]
    exact d3 i hi
theorem k_group {v : Int32} (xo : XO l x) (K : KS h t ct rt nc nf nr D tl tp fp I) (hby : BY tl tp) : Cm l x mX7_group 10 1 6 [.ref 0, .int v] h (fun w h' => ∃ n r, n ≤ tl ∧ v = nI n ∧ w = some (.int r) ∧ GC h t ct rt nc nf nr D tp I (prG tp n) r h') (fun c h' => ¬ inR v (tl + 1) ∧ c = "java/lang/IllegalArgumentException" ∧ KQ h 0 0 (KZ t ct rt nc nf nr D tl tp fp I) h') := by
  have Kq : KQ h 0 0 (KZ t ct rt nc nf nr D tl tp fp I) h := KQ.refl K
  obtain ⟨W, ow, fi, K⟩ := K
  have t1 : hI h 1 1 = nI tl := K.2.2.2.1.1
  have t9 : tl ≤ 900 := K.2.2.2.1.2.1
  have tt := K.2.2.2.1.2.2
  refine Cm.of (by decide) (Nat.le_of_ble_eq_true rfl) (vX7_group_0 ⟨fun z => ⟨xo.1.th_57, Nat.le_refl _, Nat.le_refl _, fun y => ?_, rfl, Kq⟩, fun z => ⟨K.k0, 1, K.rr, K.kr, fun z2 => ?_, fun z2 => ⟨xo.1.th_57, Nat.le_refl _, Nat.le_refl _, fun y => ?_, rfl, Kq⟩⟩⟩)
  · obtain ⟨c, hc, rfl⟩ := y
    exact absurd z (nI_pos (by omega))
  · obtain ⟨n, hn, rfl⟩ := nI_of z
    rw [t1] at z2
    have hle : n ≤ tl := Nat.le_of_not_lt fun y => absurd z2 (nI_ge y (by omega))
    have L := K.1
    refine ⟨_, k_read (t0 := tZ) (ct0 := z0) (rt0 := z0) (tp := tp) L t1 hle t9 (fun i hi => tt i (by omega)) (fun i hi => hby i (by omega)) xo (fun _ _ => rfl), ?_⟩
    rintro r11 h10 ⟨er, q10⟩
    have fx : FrX 1 35 h h10 ∧ hI h10 1 1 = 0 := by
      unfold RK at q10
      split at q10
      · obtain ⟨⟨_, T⟩, _⟩ := q10
        exact ⟨T.1, T.2.1.2.2.2.2.2.2.2.2.2⟩
      · obtain ⟨_, _, S⟩ := q10
        exact ⟨S.gd.1.1, S.gd.1.2.1.2.2.2.2.2.2.2.2.2⟩
    obtain ⟨fx, i1⟩ := fx
    have A0 := fx.ac (c := 0) (by decide)
    have e168 : (hK h10 200).1 = 104 := by rw [fx.hK]; exact K.2.2.2.2.2.2.2.1
    have L10 := L.rk fx.hK fx.hR
    have h24 : nr ≤ 24 := by have := W.1.r20; omega
    have K10 : KO h10 ow fi t ct rt nc nf nr D 0 tp fp I := K.gen W (fx.frs (S := fun c => 1 ≤ c ∧ c < 35) fun c h1 h2 => ⟨h1, h2⟩) (fun c z => by omega) (fun c h1 h2 z => by omega) e168 L10 (K.R.acs W.1.c4 h24 fun b h1 h2 => fx.ac (by omega)) ⟨by rw [i1]; rfl, Nat.zero_le _, fun i hi => absurd hi (Nat.not_lt_zero _)⟩ (by rw [A0.hI]; exact K.2.2.2.2.1) (A0.hR 5) (A0.hI 6)
    refine ⟨L10.1, 1, L10.2.1, L10.2.2.1, ?_⟩
    have fF : Fr1 0 h10 (sI h10 0 1 (hI h10 1 11)) := (Fr1.refl _ _).sI _ _
    have K11 : KO (sI h10 0 1 (hI h10 1 11)) ow fi t ct rt nc nf nr D 0 tp (hI h10 1 11) I := K10.own W (by decide) (gI _ _ _ _)
    have x0 : FrX 0 177 h (sI h10 0 1 (hI h10 1 11)) := (fx.mono (by decide) (by decide)).trans (fF.frx (by decide) (by decide))
    cases hp : prs tp n (n + 1) (tZ, z0, z0, 0, 8, 0) 0 (tokB tp n 0) with
    | inl q =>
      rw [hp] at q10
      have S : SS tp n h 0 h10 (.inl q) := q10
      have rf := K10.rf
      have v0 : vp_in 0 (hK h10 176).2 := by rw [rf.2]; exact vp_in_nI (n := 0) (by decide) (by decide)
      refine ⟨fun y => absurd (S.2.1.symm.trans (er.symm.trans y)) S.2.2.1, fun _ => ⟨139, K10.r6, K10.kd, 176, rf.1, by rw [rf.2], v0, v0, n, _, hle, rfl, rfl, ?_⟩⟩
      show GC h t ct rt nc nf nr D tp I (prs tp n (n + 1) (tZ, z0, z0, 0, 8, 0) 0 (tokB tp n 0)) _ _
      rw [hp]
      refine ⟨er.trans S.2.1, ?_⟩
      rw [← S.2.2.2.1]
      exact (KQ.frx (P := fun _ => True) trivial x0 (by decide)).trans (K11.ref0 W)
    | inr d =>
      rw [hp] at q10
      obtain ⟨cl, b, S⟩ := q10
      obtain ⟨_, e9, e10, _, _, B, T⟩ := S.gd
      have P11 := K11.R.1
      have B11 : BT (sI h10 0 1 (hI h10 1 11)) 3 d.1 d.2.1 d.2.2.1 d.2.2.2.1 d.2.2.2.2.1 d.2.2.2.2.2 := B.ac T.c4 (by have := T.r20; omega) (B.s.fr fF) fun c h1 h2 _ => fF.ac (by omega)
      refine ⟨fun _ => ⟨67, K10.r5, 3, L10.2.2.2.2.2.1, K10.R.1.1, _, k_beginR2 (rp := 67) (o := 3) P11 K11.R.2.1.s K11.R.2.2.1 B11 T (by decide), ?_⟩, fun y => absurd (er.trans e9) y⟩
      rintro h24 ⟨p24, R24, z24⟩
      have L24 := K11.1.rk p24.hK p24.hR
      have V := K11.V
      have B24 : BT h24 3 d.1 d.2.1 d.2.2.1 d.2.2.2.1 d.2.2.2.2.1 d.2.2.2.2.2 := B11.ac T.c4 (by have := T.r20; omega) (B11.s.rk p24.hK p24.hR) fun c h1 h2 _ => p24.ac (by omega)
      have D24 : DS h24 139 := V.1.frs (p24.frs (S := fun c => 68 ≤ c ∧ c < 133) fun c h1 h2 => ⟨h1, h2⟩) fun b h1 h2 z => by omega
      have o24 : AO h24 172 ow 100 := fun i hi b e => by
        rw [p24.hR] at e
        have y := V.2.1 i hi b e
        exact ⟨y.1.rk p24.hK p24.hR, by rw [p24.hN]; exact y.2.1, y.2.2⟩
      have s24 : ∀ i, i < 3 → hI h24 (139 + 37) i = D.2.2.2 i := fun i hi => by rw [(p24.ac (c := 139 + 37) (by decide)).hI]; exact V.2.2.2.2.1.2.2 i hi
      refine ⟨L24.1, 139, L24.2.2.2.2.2.2.2.2.2.2, 1, L24.2.1, L24.2.2.1, 3, L24.2.2.2.2.2.1, D24.1, _, k_beginDesk (d := 139) (ow := ow) (T := 100) (A := D.2.1.2) (u := D.2.2.1.2.1) (v := D.2.2.1.2.2) D24 o24 V.2.2.2.2.2 B24 T (by decide) s24, ?_⟩
      rintro h33 ⟨p33, V33⟩
      have L33 := L24.rk p33.hK p33.hR
      have fz : Fr1 0 h33 (sI h33 0 6 0) := (Fr1.refl _ _).sI _ _
      refine ⟨L33.1, n, _, hle, rfl, rfl, ?_⟩
      show GC h t ct rt nc nf nr D tp I (prs tp n (n + 1) (tZ, z0, z0, 0, 8, 0) 0 (tokB tp n 0)) _ _
      rw [hp]
      refine ⟨rfl, fun t' ct' rt' ag => ?_⟩
      have xF : FrX 0 177 h (sI h33 0 6 0) := ((x0.trans (p24.mono (by decide) (by decide))).trans (p33.mono (by decide) (by decide))).trans (fz.frx (by decide) (by decide))
      have T' : TD t' ct' rt' d.2.2.2.1 d.2.2.2.2.1 d.2.2.2.2.2 := TD_cg2 T ag.1 ag.2.1 ag.2.2
      have eb := bgF_cg (t := d.1) (ct := d.2.1) (rt := d.2.2.1) ag.1 ag.2.1 ag.2.2 T.c4 T.r20
      have W' := Row_bg T'
      have rn' := W'.rnE
      refine KQ.frx ⟨⟨T', ⟨⟨T'.c4, ?_, fun i hi => absurd hi (Nat.not_lt_zero _), Nat.zero_le _⟩, fun i hi => absurd hi (Nat.not_lt_zero _), ?_, fun i hi => absurd hi (Nat.not_lt_zero _), Nat.zero_le _⟩, fun J e => by cases e⟩, ow, 0, ?_⟩ xF (by decide)
      · show Row ct' _ _ (rn (bgF t' ct' rt' d.2.2.2.1 d.2.2.2.2.2)) _
        rw [rn']; exact W'
      · obtain ⟨y, hy, h12⟩ := T'.la
        refine ⟨y, ?_, h12⟩
        show bgF t' ct' rt' d.2.2.2.1 d.2.2.2.2.2 3 = nI y
        rw [bg_lo (by decide)]
        exact hy
      · have c4 := T.c4
        have r20 := T.r20
        have k6 := K.2.2.2.2.2.1
        have k8 := K.2.2.2.2.2.2.2.1
        have xS : FrS (fun b => b < 177) h (sI h33 0 6 0) := xF.frs fun c h1 h2 => h2
        refine ⟨K.1.rk xF.hK xF.hR, ?_, ?_, ⟨?_, Nat.zero_le _, fun i hi => absurd hi (Nat.not_lt_zero _)⟩, ?_, k6, by rw [xF.hN]; exact K.2.2.2.2.2.2.1, by rw [xF.hK]; exact k8, ?_, Or.inl ⟨rfl, gI _ _ _ _⟩⟩
        · have R33 : RP (sI h33 0 6 0) 67 d.1 d.2.1 d.2.2.1 d.2.2.2.1 d.2.2.2.2.1 d.2.2.2.2.2 := R24.acs c4 (by omega) fun b h1 h2 => (p33.ac (by omega)).trans (fz.ac (by omega))
          refine ⟨R33.1, ?_, R33.2.2.1, fun k hk e => absurd ?_ e⟩
          · show BR _ _ t' ct' _ _ _ (bgF t' ct' rt' d.2.2.2.1 d.2.2.2.2.2)
            rw [eb]
            exact BR.cc R33.2.1 ag.1 ag.2.1 c4
          · rw [((p33.ac (c := 67 + 65) (by decide)).trans (fz.ac (by decide))).hI]
            exact z24 k hk
        · have DW0 : DW d.2.1 d.2.2.2.1 d.2.2.2.2.1 (bgF d.1 d.2.1 d.2.2.1 d.2.2.2.1 d.2.2.2.2.2, (0, D.2.1.2), (0, D.2.2.1.2.1, D.2.2.1.2.2), D.2.2.2) := ⟨c4, by
            show Row d.2.1 _ _ (rn (bgF d.1 d.2.1 d.2.2.1 d.2.2.2.1 d.2.2.2.2.2)) _
            rw [(Row_bg T).rnE]; exact Row_bg T, fun i hi => absurd hi (Nat.not_lt_zero _), Nat.zero_le _⟩
          have e168' : (hK h33 200).1 = 104 := by rw [p33.hK, p24.hK]; exact K11.2.2.2.2.2.2.2.1
          obtain ⟨v1, v2, v3, v4, v5, v6⟩ := V33.frs (S := fun b => b = 0) (ow' := ow) DW0 fz.frS ⟨fun b h1 h2 z => by omega, offA_lo V33.2.1 (by decide) k6 e168' (fun b z => by omega) (by omega) (by omega)⟩ (fun _ _ => rfl)
          refine ⟨v1, v2, ⟨v3.1, v3.2.1, v3.2.2.1, v3.2.2.2.1, fun i hi => absurd hi (Nat.not_lt_zero _)⟩, ?_, v5, v6⟩
          show BR _ _ t' ct' _ _ (rn (bgF t' ct' rt' d.2.2.2.1 d.2.2.2.2.2)) (bgF t' ct' rt' d.2.2.2.1 d.2.2.2.2.2)
          rw [eb]
          exact BR.cc v4 ag.1 ag.2.1 c4
        · rw [gIa _ _ _ _ (by decide), (p33.ac (c := 1) (by decide)).hI, (p24.ac (c := 1) (by decide)).hI]; exact K11.2.2.2.1.1
        · rw [gIk _ _ _ (by decide), (p33.ac (c := 0) (by decide)).hI, (p24.ac (c := 0) (by decide)).hI, gI]; exact e10
        · rcases K.2.2.2.2.2.2.2.2.1.lo k6 k8 W.2.2 xS (fun b z => by omega) (xF.hR 0 5) with ⟨y1, _⟩ | ⟨p0, y1, y2, y3, y4, y5, _⟩
          · exact Or.inl ⟨y1, rfl⟩
          · exact Or.inr ⟨p0, y1, y2, y3, y4, y5, fun J e => by cases e⟩
  · obtain ⟨c, hc, e⟩ := y
    rw [e, t1] at z2
    exact z2 (nI_le (by omega) (by omega))
end GroupK
