theorem zz_try (a b : Int) (h : 0 ≤ a ∧ a < 9) : (if 0 ≤ a ∧ a < 9 then b else 0) = b := by simp (disch := omega) only [if_pos]
theorem i_vc : Claimed_1_1 ∧ Claimed_1_2 := sorry
