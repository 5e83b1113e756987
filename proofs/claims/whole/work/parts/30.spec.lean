/-! SPECIFICATIONS of the methods: first the small ones of the model -/
def b2i (c : Prop) [Decidable c] : Int := if c then 1 else 0
theorem b2i_01 {c : Prop} [Decidable c] : (0 : Int) ≤ b2i c ∧ b2i c ≤ (1 : Int) := by
  unfold b2i
  split <;> omega
theorem sX12_thrown (h : HH) : nX12_thrown h = some (h.1 71 10) := rfl
theorem sX12_in (h : HH) (v a z : Int) : nX12_in h v a z = some (b2i (a ≤ v ∧ v ≤ z)) := by
  unfold nX12_in bX12_in b2i
  rw [gd_t (by omega), gd_t (by omega)]
  by_cases h1 : v < a
  · rw [if_pos h1, if_neg (by omega)]
  · rw [if_neg h1]
    by_cases h2 : z < v
    · rw [if_pos h2, if_neg (by omega)]
    · rw [if_neg h2, if_pos (by omega)]
theorem sX12_isPlace (h : HH) (v : Int) : nX12_isPlace h v = some (b2i (0 ≤ v ∧ v ≤ 15)) := by
  unfold nX12_isPlace bX12_isPlace
  rw [sX12_in, bnd_some, gd_t b2i_01]
theorem sX11_needThat (x : Int) (h : HH) : nX11_needThat x h = some (if x = 0 then .inr 1 else .inl (), (h, 0)) := by
  unfold nX11_needThat bX11_needThat
  rw [gd_t (by omega), gd_t (by omega)]
  by_cases h1 : x = 0
  · simp [h1]
  · simp [h1]
