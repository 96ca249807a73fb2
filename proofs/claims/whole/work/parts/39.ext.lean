/-! WHAT LIES BEHIND A ROW'S END doesn't matter -/
def hEq (h h' : PH) : Prop := hN h' = hN h ∧ (∀ a, hK h' a = hK h a) ∧ (∀ a j, hL h' a j = hL h a j) ∧ (∀ a j, hF h' a j = hF h a j) ∧ (∀ a j, hR h' a j = hR h a j) ∧ ∀ a j, hI h' a j = hI h a j ∨ (100 ≤ (hK h a).1 ∧ (hK h a).2 ≤ j)
theorem cell_ext {cA : ClassId} {n : Nat} {f g : Nat → Int32} (hfg : ∀ j, j < n → f j = g j) : vp_cell cA (n, .inl f) = vp_cell cA (n, .inl g) := by
  simp only [vp_cell, arrV]
  congr 1
  apply Array.ext
  · simp
  · intro i h1 h2
    simp only [Array.getElem_ofFn]
    rw [hfg i (by simpa using h1)]
theorem Wd.ext {x : CX} {ad : Nat → Nat} {h h' : PH} {U : State} {H : Heap} (e : hEq h h') (hw : Wd x ad h U H) : Wd x ad h' U H := by
  obtain ⟨e0, e1, e2, e3, e4, e5⟩ := e
  have hce : ∀ a, (hK h a).1 < 100 → ce (xA x) (xS x) ad h' a = ce (xA x) (xS x) ad h a := fun a ha =>
    ce_congr (e1 a) (fun j => (e5 a j).elim id (fun q => absurd q.1 (by omega))) (e2 a) (e3 a) (e4 a)
  refine ⟨hw.1, ?_, ?_, ?_, hw.2.2.2.2.1, hw.2.2.2.2.2⟩
  · intro k q hk
    have hkl : k < hN h' := by
      have := (List.getElem?_eq_some_iff.mp hk).1
      rwa [ws_len] at this
    rw [ws_at hkl] at hk
    cases hk
    have h9 := hw.2.1 k (ad k, ce (xA x) (xS x) ad h k) (ws_at (by rw [← e0]; exact hkl))
    by_cases hc : (hK h k).1 < 100
    · rw [hce k hc]; exact h9
    · have e6 : ce (xA x) (xS x) ad h k = .inl (xA x ((hK h k).1 - 100), (hK h k).2, ac (xS x) ad h k ((hK h k).1 - 100)) := by simp only [ce, if_neg hc]
      have e7 : ce (xA x) (xS x) ad h' k = .inl (xA x ((hK h k).1 - 100), (hK h k).2, ac (xS x) ad h' k ((hK h k).1 - 100)) := by simp only [ce, e1, if_neg hc]
      rw [e6] at h9
      rw [e7]
      show H[ad k]? = some (vp_cell (xA x ((hK h k).1 - 100)) ((hK h k).2, ac (xS x) ad h' k ((hK h k).1 - 100)))
      rw [show H[ad k]? = some (vp_cell (xA x ((hK h k).1 - 100)) ((hK h k).2, ac (xS x) ad h k ((hK h k).1 - 100))) from h9]
      congr 1
      have hin : ∀ j, j < (hK h k).2 → hI h k j = hI h' k j := fun j hj => ((e5 k j).elim id (fun q => absurd q.2 (by omega))).symm
      generalize (hK h k).1 - 100 = t
      match t with
      | 0 => exact cell_ext hin
      | 1 => exact cell_ext hin
      | 2 => exact cell_ext hin
      | 3 => simp only [ac, e3]
      | 4 => simp only [ac, e2]
      | 5 => simp only [ac, e4]
      | 6 => simp only [ac, e4]
      | 7 => simp only [ac, e4]
      | 8 => simp only [ac, e4]
      | t + 9 => simp only [ac, e4]
  · refine ⟨fun i j p q hi hj hpq => ?_, fun k q hk => ?_⟩
    · have hil : i < hN h' := by have := (List.getElem?_eq_some_iff.mp hi).1; rwa [ws_len] at this
      have hjl : j < hN h' := by have := (List.getElem?_eq_some_iff.mp hj).1; rwa [ws_len] at this
      rw [ws_at hil] at hi
      rw [ws_at hjl] at hj
      cases hi
      cases hj
      exact hw.2.2.1.1 i j (ad i, ce (xA x) (xS x) ad h i) (ad j, ce (xA x) (xS x) ad h j) (ws_at (by rw [← e0]; exact hil)) (ws_at (by rw [← e0]; exact hjl)) hpq
    · have hkl : k < hN h' := by have := (List.getElem?_eq_some_iff.mp hk).1; rwa [ws_len] at this
      rw [ws_at hkl] at hk
      cases hk
      exact hw.2.2.1.2 k (ad k, ce (xA x) (xS x) ad h k) (ws_at (by rw [← e0]; exact hkl))
  · refine ⟨fun a ha => by rw [e1]; exact hw.2.2.2.1.1 a (by omega), fun a j b e hk => ?_⟩
    rw [e4] at e
    rw [e1] at hk
    rw [e0]
    exact hw.2.2.2.1.2 a j b e hk
theorem Gm.ext {l : Launch} {x : CX} {M : MD} {d pc : Nat} {lv : List (Nat × Value)} {st : List Value} {h h' : PH} {rc rs n0 : Nat} {Q : Option Value → PH → Prop} {X : String → PH → Prop} (e : hEq h h') (k : Gm l x M d pc lv st h' rc rs n0 Q X) : Gm l x M d pc lv st h rc rs n0 Q X := by
  intro hx p e9 R s m args below meth c H locs cells slots mc ms ls ad ad0 hB h1 h2 h3 h4 h5 h6 hb hw hS ha hn hl hst hv
  have e0 : hN h' = hN h := e.1
  exact k hx p e9 R s m args below meth c H locs cells slots mc ms ls ad ad0 hB h1 h2 h3 h4 h5 h6 hb (hw.ext e) hS ha (by rw [e0]; exact hn) (hl.le (by rw [e0]; exact Nat.le_refl _)) (hst.le (by rw [e0]; exact Nat.le_refl _)) hv
