/-! THE WORLD: what holds at the law's start, and goes on holding -/
/-- words that a warmed machine keeps -/
def stab (w : Cond) : Bool := goodWord w || (match w with | .declares _ => true | .castable _ _ => true | .methodLinkNest _ _ _ _ => true | _ => false)
theorem stab_at {args a' : Array Value} {s U : State} {w : Cond} (hW : s.WarmedH U.vm) (hg : stab w = true) (h : w.before args s = true) : w.before a' U = true := by
  unfold stab at hg
  rw [Bool.or_eq_true] at hg
  rcases hg with hg | hg
  · exact word_at hW (good_of_word hg) h
  · split at hg
    · exact va_Nw.use rfl (va_Nw.warmD hW (va_Nw.of rfl h))
    · exact va_Nw.use rfl (va_Nw.warmC hW (va_Nw.of rfl h))
    · exact va_Nw.use rfl (va_Nw.warmM hW (va_Nw.of rfl h))
    · cases hg
theorem at_iae : (vx_aT RX7 59 "java/lang/IllegalArgumentException" ["java/lang/RuntimeException", "java/lang/Exception"]).all stab = true := by decide +kernel
theorem at_nse : (vx_aT RX7 179 "java/util/NoSuchElementException" ["java/lang/RuntimeException", "java/lang/Exception"]).all stab = true := by decide +kernel
theorem ot_iae : (vx_aT RX7 59 "java/lang/IllegalArgumentException" ["java/lang/RuntimeException", "java/lang/Exception"]).all vx_ot = true := by decide +kernel
theorem ot_nse : (vx_aT RX7 179 "java/util/NoSuchElementException" ["java/lang/RuntimeException", "java/lang/Exception"]).all vx_ot = true := by decide +kernel
theorem in_iae : (vx_aT RX7 59 "java/lang/IllegalArgumentException" ["java/lang/RuntimeException", "java/lang/Exception"]).all (fun w => decide (w ∈ lw_tbl)) = true := by decide +kernel
theorem in_nse : (vx_aT RX7 179 "java/util/NoSuchElementException" ["java/lang/RuntimeException", "java/lang/Exception"]).all (fun w => decide (w ∈ lw_tbl)) = true := by decide +kernel
