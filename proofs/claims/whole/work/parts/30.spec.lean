/-! SPECIFICATIONS of the methods: first the small ones of the model -/
def b2i (c : Prop) [Decidable c] : Int := if c then 1 else 0
theorem b2i_01 {c : Prop} [Decidable c] : (0 : Int) ≤ b2i c ∧ b2i c ≤ (1 : Int) := by
  unfold b2i
  split <;> omega
theorem sX12_thrown (h : HH) : nX12_thrown h = some (h.1 71 10) := rfl
theorem sX12_in (h : HH) (v a z : Int) : nX12_in h v a z = some (b2i (a ≤ v ∧ v ≤ z)) := by
  unfold nX12_in bX12_in b2i
  rw [gd_t (by omega), gd_t (by omega)]
  by_cases h1 : v < a
  · rw [if_pos h1, if_neg (by omega)]
  · rw [if_neg h1]
    by_cases h2 : z < v
    · rw [if_pos h2, if_neg (by omega)]
    · rw [if_neg h2, if_pos (by omega)]
theorem sX12_isPlace (h : HH) (v : Int) : nX12_isPlace h v = some (b2i (0 ≤ v ∧ v ≤ 15)) := by
  unfold nX12_isPlace bX12_isPlace
  rw [sX12_in, bnd_some, gd_t b2i_01]
theorem sX11_needThat (x : Int) (h : HH) : nX11_needThat x h = some (if x = 0 then .inr 1 else .inl (), (h, 0)) := by
  unfold nX11_needThat bX11_needThat
  rw [gd_t (by omega), gd_t (by omega)]
  by_cases h1 : x = 0
  · simp [h1]
  · simp [h1]
theorem sX12_refuse (x : Int) (h : HH) : nX12_refuse x h = some (0, hI h 71 10 x) := rfl
theorem sX12_told (x : Int) (h : HH) : nX12_told x h = some (x, hI h 71 10 0) := rfl
theorem sX11_needIndex (v a z : Int) (h : HH) : nX11_needIndex v a z h = some (if a ≤ v ∧ v ≤ z then .inl () else .inr 0, (h, 0)) := by
  unfold nX11_needIndex bX11_needIndex nX11_needIndex_10 bX11_needIndex_10
  rw [gd_t (by omega), gd_t (by decide)]
  by_cases h1 : v < a
  · rw [if_pos h1, if_neg (by omega)]
  · rw [if_neg h1]
    by_cases h2 : z < v
    · rw [if_pos h2, if_neg (by omega)]
    · rw [if_neg h2, if_pos (by omega)]
theorem sX11_needRange (v a z : Int) (h : HH) : nX11_needRange v a z h = some (if a ≤ v ∧ v ≤ z then .inl () else .inr 1, (h, 1)) := by
  have e : ∀ y : Int, nX11_needRange_15 y (h, 0) = some (if y = 0 then .inr 1 else .inl (), (h, 1)) := by
    intro y
    unfold nX11_needRange_15 bX11_needRange_15
    rw [sX11_needThat, bnd_some]
    by_cases hy : y = 0
    · simp [hy, gd, tcase]
    · simp [hy, gd, tcase]
  unfold nX11_needRange bX11_needRange nX11_needRange_14 bX11_needRange_14
  by_cases h1 : v < a
  · rw [if_pos h1, e, if_pos rfl, if_neg (by omega)]
  · rw [if_neg h1]
    by_cases h2 : z < v
    · rw [if_pos h2, e, if_pos rfl, if_neg (by omega)]
    · rw [if_neg h2, e, if_neg (by decide), if_pos (by omega)]
theorem sX12_factor (x1 x2 : Int) (h : HH) : nX12_factor x1 x2 h = some (if (0 ≤ x1 ∧ x1 ≤ 23) ∧ (50 ≤ x2 ∧ x2 ≤ 300) then (h.1 77 x1, hI (hI h 77 x1 x2) 71 10 0) else (0, hI h 71 10 1)) := by
  have e : nX12_factor_22 h = some (0, hI h 71 10 1) := rfl
  unfold nX12_factor bX12_factor
  rw [sX12_in, bnd_some, sX12_in, e]
  by_cases h1 : 0 ≤ x1 ∧ x1 ≤ 23
  · by_cases h2 : 50 ≤ x2 ∧ x2 ≤ 300
    · simp only [b2i, if_pos h1, if_pos h2, bnd_some, if_pos (And.intro h1 h2)]
      rw [if_neg (by decide), if_neg (by decide), gd_t (by omega), gd_t (by omega), sX12_told, bnd_some]
    · simp [b2i, h1, h2, bnd_some]
  · simp [b2i, h1]
theorem sX11_factor (x1 x2 : Int) (h : HH) : ∃ n, nX11_factor x1 x2 h = some (if (0 ≤ x1 ∧ x1 ≤ 23) ∧ (50 ≤ x2 ∧ x2 ≤ 300) then (.inl (h.1 10 x1), (hI h 10 x1 x2, n)) else (.inr 1, (h, n))) := by
  unfold nX11_factor bX11_factor
  rw [sX11_needRange, bnd_some]
  by_cases h1 : 0 ≤ x1 ∧ x1 ≤ 23
  · by_cases h2 : 50 ≤ x2 ∧ x2 ≤ 300
    · refine ⟨4, ?_⟩
      rw [if_pos (And.intro h1 h2), if_pos h1, gd_t (by omega)]
      simp only [tcase]
      rw [sX11_needRange, bnd_some, if_pos h2, gd_t (by omega)]
      simp only [bnd_some]
      rw [gd_t (by omega), gd_t (by omega), gd_t (by omega)]
    · refine ⟨4, ?_⟩
      have hn : ¬ ((0 ≤ x1 ∧ x1 ≤ 23) ∧ (50 ≤ x2 ∧ x2 ≤ 300)) := fun q => h2 q.2
      rw [if_neg hn, if_pos h1, gd_t (by omega)]
      simp only [tcase]
      rw [sX11_needRange, bnd_some, if_neg h2, gd_t (by omega)]
      simp only []
      rw [gd_t (by omega)]
  · refine ⟨2, ?_⟩
    have hn : ¬ ((0 ≤ x1 ∧ x1 ≤ 23) ∧ (50 ≤ x2 ∧ x2 ≤ 300)) := fun q => h1 q.1
    rw [if_neg hn, if_neg h1, gd_t (by omega)]
    simp only [tcase]
    rw [gd_t (by omega)]
theorem sX12_rates (x1 x2 : Int) (h : HH) : nX12_rates x1 x2 h = some (if (0 ≤ x1 ∧ x1 ≤ 9999) ∧ (0 ≤ x2 ∧ x2 ≤ 9999) then (h.1 71 41, hI (hI (hI h 71 41 x1) 71 42 x2) 71 10 0) else (0, hI h 71 10 1)) := by
  have e : nX12_rates_22 h = some (0, hI h 71 10 1) := rfl
  unfold nX12_rates bX12_rates
  rw [sX12_in, bnd_some, sX12_in, e]
  by_cases h1 : 0 ≤ x1 ∧ x1 ≤ 9999
  · by_cases h2 : 0 ≤ x2 ∧ x2 ≤ 9999
    · simp only [b2i, if_pos h1, if_pos h2, bnd_some, if_pos (And.intro h1 h2)]
      rw [if_neg (by decide), if_neg (by decide), sX12_told, bnd_some]
    · simp [b2i, h1, h2, bnd_some]
  · simp [b2i, h1]
theorem sX11_rates (x1 x2 : Int) (h : HH) : ∃ n, nX11_rates x1 x2 h = some (if (0 ≤ x1 ∧ x1 ≤ 9999) ∧ (0 ≤ x2 ∧ x2 ≤ 9999) then (.inl (h.1 67 0), (hI (hI h 67 0 x1) 67 1 x2, n)) else (.inr 1, (h, n))) := by
  unfold nX11_rates bX11_rates
  rw [sX11_needRange, bnd_some]
  by_cases h1 : 0 ≤ x1 ∧ x1 ≤ 9999
  · by_cases h2 : 0 ≤ x2 ∧ x2 ≤ 9999
    · refine ⟨4, ?_⟩
      rw [if_pos (And.intro h1 h2), if_pos h1, gd_t (by omega)]
      simp only [tcase]
      rw [sX11_needRange, bnd_some, if_pos h2, gd_t (by omega)]
      simp only [bnd_some]
      rw [gd_t (by omega)]
    · refine ⟨4, ?_⟩
      have hn : ¬ ((0 ≤ x1 ∧ x1 ≤ 9999) ∧ (0 ≤ x2 ∧ x2 ≤ 9999)) := fun q => h2 q.2
      rw [if_neg hn, if_pos h1, gd_t (by omega)]
      simp only [tcase]
      rw [sX11_needRange, bnd_some, if_neg h2, gd_t (by omega)]
      simp only []
      rw [gd_t (by omega)]
  · refine ⟨2, ?_⟩
    have hn : ¬ ((0 ≤ x1 ∧ x1 ≤ 9999) ∧ (0 ≤ x2 ∧ x2 ≤ 9999)) := fun q => h1 q.1
    rw [if_neg hn, if_neg h1, gd_t (by omega)]
    simp only [tcase]
    rw [gd_t (by omega)]
theorem sX11_needState (x : Int) (h : HH) : nX11_needState x h = some (if x = 0 then .inr 2 else .inl (), (h, 0)) := by
  unfold nX11_needState bX11_needState
  rw [gd_t (by omega), gd_t (by omega)]
  by_cases h1 : x = 0
  · simp [h1]
  · simp [h1]
theorem sX11_needPlace (v : Int) (h : HH) : nX11_needPlace v h = some (if 0 ≤ v ∧ v ≤ 15 then .inl () else .inr 0, (h, 1)) := by
  unfold nX11_needPlace bX11_needPlace
  rw [sX11_needIndex, bnd_some]
  by_cases h1 : 0 ≤ v ∧ v ≤ 15
  · simp [h1, gd, tcase]
  · simp [h1, gd, tcase]
theorem sX11_needSender (v : Int) (h : HH) : nX11_needSender v h = some (if 0 ≤ v ∧ v ≤ 2 then .inl () else .inr 0, (h, 1)) := by
  unfold nX11_needSender bX11_needSender
  rw [sX11_needIndex, bnd_some]
  by_cases h1 : 0 ≤ v ∧ v ≤ 2
  · simp [h1, gd, tcase]
  · simp [h1, gd, tcase]
theorem sX12_clock (x1 x2 x3 : Int) (h : HH) : nX12_clock x1 x2 x3 h = some (if (0 ≤ x1 ∧ x1 ≤ 23) ∧ (0 ≤ x2 ∧ x2 ≤ 59) ∧ (0 ≤ x3 ∧ x3 ≤ 100000) then ((60 * x1 + x2 + x3) % 1440, hI h 71 10 0) else (0, hI h 71 10 1)) := by
  have e : nX12_clock_30 h = some (0, hI h 71 10 1) := rfl
  unfold nX12_clock bX12_clock
  rw [sX12_in, bnd_some, sX12_in, sX12_in, e]
  by_cases h1 : 0 ≤ x1 ∧ x1 ≤ 23
  · by_cases h2 : 0 ≤ x2 ∧ x2 ≤ 59
    · by_cases h3 : 0 ≤ x3 ∧ x3 ≤ 100000
      · simp only [b2i, if_pos h1, if_pos h2, if_pos h3, bnd_some, if_pos (And.intro h1 (And.intro h2 h3))]
        rw [if_neg (by decide), if_neg (by decide), if_neg (by decide), gd_t ⟨by omega, by omega⟩, gd_t ⟨by omega, by omega⟩, gd_t ⟨by omega, by omega⟩, gd_t ⟨by omega, by omega⟩, sX12_told, bnd_some]
      · simp [b2i, h1, h2, h3, bnd_some]
    · simp [b2i, h1, h2, bnd_some]
  · simp [b2i, h1]
theorem sX11_clock (x1 x2 x3 : Int) (h : HH) : ∃ n, nX11_clock x1 x2 x3 h = some (if (0 ≤ x1 ∧ x1 ≤ 23) ∧ (0 ≤ x2 ∧ x2 ≤ 59) ∧ (0 ≤ x3 ∧ x3 ≤ 100000) then (.inl ((60 * x1 + x2 + x3) % 1440), (h, n)) else (.inr 1, (h, n))) := by
  unfold nX11_clock bX11_clock
  rw [sX11_needRange, bnd_some, gd_t (by omega)]
  by_cases h1 : 0 ≤ x1 ∧ x1 ≤ 23
  · rw [if_pos h1]
    simp only [tcase]
    rw [sX11_needRange, bnd_some, gd_t (by omega)]
    by_cases h2 : 0 ≤ x2 ∧ x2 ≤ 59
    · rw [if_pos h2]
      simp only []
      rw [sX11_needRange, bnd_some, gd_t (by omega)]
      by_cases h3 : 0 ≤ x3 ∧ x3 ≤ 100000
      · refine ⟨6, ?_⟩
        rw [if_pos h3, if_pos (And.intro h1 (And.intro h2 h3))]
        simp only []
        rw [gd_t ⟨by omega, by omega⟩, gd_t ⟨by omega, by omega⟩, gd_t ⟨by omega, by omega⟩, gd_t ⟨by omega, by omega⟩, gd_t (by omega), Int.mul_comm x1 60]
      · refine ⟨6, ?_⟩
        have hn : ¬ ((0 ≤ x1 ∧ x1 ≤ 23) ∧ (0 ≤ x2 ∧ x2 ≤ 59) ∧ (0 ≤ x3 ∧ x3 ≤ 100000)) := fun q => h3 q.2.2
        rw [if_neg hn, if_neg h3]
        simp only []
        rw [gd_t (by omega)]
    · refine ⟨4, ?_⟩
      have hn : ¬ ((0 ≤ x1 ∧ x1 ≤ 23) ∧ (0 ≤ x2 ∧ x2 ≤ 59) ∧ (0 ≤ x3 ∧ x3 ≤ 100000)) := fun q => h2 q.2.1
      rw [if_neg hn, if_neg h2]
      simp only []
      rw [gd_t (by omega)]
  · refine ⟨2, ?_⟩
    have hn : ¬ ((0 ≤ x1 ∧ x1 ≤ 23) ∧ (0 ≤ x2 ∧ x2 ≤ 59) ∧ (0 ≤ x3 ∧ x3 ≤ 100000)) := fun q => h1 q.1
    rw [if_neg hn, if_neg h1]
    simp only [tcase]
    rw [gd_t (by omega)]
theorem sX12_setZone (x1 x2 : Int) (h : HH) : nX12_setZone x1 x2 h = some (if 0 ≤ x1 ∧ x1 ≤ 15 then (if x1 ≠ 0 ∧ (0 ≤ x2 ∧ x2 ≤ 2) then (h.1 100 x1, hI (hI h 100 x1 x2) 71 10 0) else (0, hI h 71 10 2)) else (0, hI h 71 10 1)) := by
  have e : nX12_setZone_26 h = some (0, hI h 71 10 2) := rfl
  unfold nX12_setZone bX12_setZone
  rw [sX12_isPlace, bnd_some, sX12_in, sX12_refuse, e]
  by_cases h1 : 0 ≤ x1 ∧ x1 ≤ 15
  · by_cases h0 : x1 = 0
    · simp [b2i, h0]
    · by_cases h2 : 0 ≤ x2 ∧ x2 ≤ 2
      · rw [if_pos h1, if_pos (And.intro h0 h2)]
        simp only [b2i, if_pos h1, if_pos h2, bnd_some]
        rw [if_neg (by decide), if_neg h0, if_neg (by decide), gd_t (by omega), gd_t (by omega), sX12_told, bnd_some]
      · have hn : ¬ (x1 ≠ 0 ∧ (0 ≤ x2 ∧ x2 ≤ 2)) := fun q => h2 q.2
        rw [if_pos h1, if_neg hn]
        simp only [b2i, if_pos h1, if_neg h2, bnd_some]
        rw [if_neg (by decide), if_neg h0, if_pos trivial]
  · rw [if_neg h1]
    simp only [b2i, if_neg h1, bnd_some]
    rw [if_pos trivial]
