/-! TWO READINGS OF ONE TEXT: what lies behind the rows' ends doesn't matter -/
section PrsE
variable {tp : Nat → Int32} {n b cl : Nat} {d d' : PD}
def PE (d d' : PD) : Prop := (∀ k, k < 7 → d.1 k = d'.1 k) ∧ (∀ k, k < 3 * d.2.2.2.1 → d.2.1 k = d'.2.1 k) ∧ (∀ k, k < 4 * d.2.2.2.2.2 → d.2.2.1 k = d'.2.2.1 k) ∧ d.2.2.2 = d'.2.2.2
def RE (r r' : PR) : Prop := (∃ q, r = .inl q ∧ r' = .inl q) ∨ ∃ d d' b, r = .inr (d, b) ∧ r' = .inr (d', b) ∧ PE d d'
theorem re_inl {q : Int32 × Nat} : RE (.inl q) (.inl q) := Or.inl ⟨q, rfl, rfl⟩
theorem re_ite {p : Prop} {a b a' b' : PR} (h1 : p → RE a a') (h2 : ¬ p → RE b b') : RE (ite' p a b) (ite' p a' b') := by
  by_cases z : p
  · rw [ite'_t z, ite'_t z]; exact h1 z
  · rw [ite'_f z, ite'_f z]; exact h2 z
theorem re_nuC {lo hi a : Nat} {k k' : Nat → Nat → Nat → PR} (h : ∀ v b e, RE (k v b e) (k' v b e)) : RE (nuC tp n lo hi a k) (nuC tp n lo hi a k') := by
  unfold nuC
  exact re_ite (fun _ => re_ite (fun _ => h _ _ _) fun _ => re_inl) fun _ => re_inl
theorem re_sgB (h : PE d d') : RE (sgB tp n d b) (sgB tp n d' b) := by
  unfold sgB
  exact re_ite (fun _ => Or.inr ⟨d, d', _, rfl, rfl, h⟩) fun _ => re_inl
theorem up_cg {f f' : Nat → Int32} {N i : Nat} {v : Int32} (h : ∀ k, k < N → f k = f' k) : ∀ k, k < N → up f i v k = up f' i v k := fun k hk => by
  by_cases z : k = i
  · rw [z, up_eq, up_eq]
  · rw [up_ne z, up_ne z]; exact h k hk
theorem up_sg {f f' : Nat → Int32} {i : Nat} {v : Int32} {k : Nat} (h : k ≠ i → f k = f' k) : up f i v k = up f' i v k := by
  by_cases z : k = i
  · rw [z, up_eq, up_eq]
  · rw [up_ne z, up_ne z]; exact h z
theorem PE.c (h : PE d d') (f c s : Nat) : PE (pdC d f c s) (pdC d' f c s) := by
  obtain ⟨a, b, c0, m⟩ := d
  obtain ⟨a', b', c', m'⟩ := d'
  obtain ⟨h1, h2, h3, h4⟩ := h
  obtain rfl : m = m' := h4
  refine ⟨up_cg h1, fun k hk => ?_, h3, rfl⟩
  have hk : k < 3 * (m.1 + 1) := hk
  exact up_sg fun z1 => up_sg fun z2 => up_sg fun z3 => h2 k (by show k < 3 * m.1; have z1 : k ≠ 3 * m.1 + 2 := z1; have z2 : k ≠ 3 * m.1 + 1 := z2; have z3 : k ≠ 3 * m.1 := z3; omega)
theorem PE.r (h : PE d d') (tm f g s : Nat) : PE (pdR d tm f g s) (pdR d' tm f g s) := by
  obtain ⟨a, b, c0, m⟩ := d
  obtain ⟨a', b', c', m'⟩ := d'
  obtain ⟨h1, h2, h3, h4⟩ := h
  obtain rfl : m = m' := h4
  refine ⟨up_cg h1, h2, fun k hk => ?_, rfl⟩
  have hk : k < 4 * (m.2.2 + 1) := hk
  exact up_sg fun z1 => up_sg fun z2 => up_sg fun z3 => up_sg fun z4 => h3 k (by show k < 4 * m.2.2; have z1 : k ≠ 4 * m.2.2 + 3 := z1; have z2 : k ≠ 4 * m.2.2 + 2 := z2; have z3 : k ≠ 4 * m.2.2 + 1 := z3; have z4 : k ≠ 4 * m.2.2 := z4; omega)
theorem PE.s (h : PE d d') (k v : Nat) : PE (pdS d k v) (pdS d' k v) := by
  obtain ⟨a, b, c0, m⟩ := d
  obtain ⟨a', b', c', m'⟩ := d'
  obtain ⟨h1, h2, h3, h4⟩ := h
  obtain rfl : m = m' := h4
  exact ⟨up_cg h1, h2, h3, rfl⟩
theorem re_clOf (h : PE d d') : RE (clOf tp n d cl b) (clOf tp n d' cl b) := by
  have wl := whB_lt (tp := tp) (n := n) (b := b)
  have e4 := h.2.2.2
  have ec : d.2.2.2.1 = d'.2.2.2.1 := by rw [e4]
  have ef : d.2.2.2.2.1 = d'.2.2.2.2.1 := by rw [e4]
  have er : d.2.2.2.2.2 = d'.2.2.2.2.2 := by rw [e4]
  unfold clOf
  refine re_ite (fun _ => ?_) fun z1 => re_ite (fun _ => ?_) fun z2 => re_ite (fun _ => re_inl) fun z7 => ?_
  · unfold clCar
    rw [ec, ef]
    refine re_ite (fun _ => re_inl) fun _ => re_nuC fun f b1 e1 => re_ite (fun _ => re_nuC fun c _ e2 => ?_) fun _ => re_inl
    exact re_ite (fun _ => re_sgB (h.c _ _ _)) fun _ => re_ite (fun _ => re_sgB (h.c _ _ _)) fun _ => re_sgB (h.c _ _ _)
  · unfold clRid
    rw [er, ef]
    refine re_ite (fun _ => re_inl) fun _ => re_nuC fun tm _ e1 => re_nuC fun f b2 e2 => re_ite (fun _ => re_nuC fun g b3 e3 => re_ite (fun _ => re_ite (fun _ => re_inl) fun _ => ?_) fun _ => re_inl) fun _ => re_inl
    exact re_ite (fun _ => re_sgB (h.r _ _ _ _)) fun _ => re_sgB (h.r _ _ _ _)
  · unfold clSet
    have k7 : whA (fun k => isW tp n k b) 7 0 < 7 := by
      have y7 : ¬ whB tp n b = 7 := z7
      show whB tp n b < 7
      omega
    rw [h.1 _ k7]
    exact re_ite (fun _ => re_inl) fun _ => re_nuC fun v _ e => re_sgB (h.s _ _)
theorem prs_cg : ∀ (k : Nat) (d d' : PD) (cl b : Nat), PE d d' → (∃ q, prs tp n k d cl b = .inl q ∧ prs tp n k d' cl b = .inl q) ∨ ∃ e e', prs tp n k d cl b = .inr e ∧ prs tp n k d' cl b = .inr e' ∧ PE e e'
  | 0, d, d', cl, b, h => Or.inr ⟨d, d', rfl, rfl, h⟩
  | k + 1, d, d', cl, b, h => by
    by_cases z : tkK tp n b = 0
    · rw [prs_0 z, prs_0 z]
      exact Or.inr ⟨d, d', rfl, rfl, h⟩
    · rcases re_clOf (tp := tp) (n := n) (cl := cl) (b := b) h with ⟨q, e1, e2⟩ | ⟨u, u', b', e1, e2, e3⟩
      · rw [prs_l z e1, prs_l z e2]
        exact Or.inl ⟨q, rfl, rfl⟩
      · rw [prs_r z e1, prs_r z e2]
        exact prs_cg k u u' (cl + 1) b' e3
end PrsE
