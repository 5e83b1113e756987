/-! REFERENCES rest on references alone -/
def sR (σ τ : SG) : Prop := σ.1 = τ.1 ∧ σ.2.1 = τ.2.1
section SR
variable {σ τ : SG}
theorem sR_N (h : sR σ τ) : sR (uN σ) (uN τ) := by
  unfold sR uN
  rw [h.1, h.2]
  exact ⟨rfl, rfl⟩
theorem sR_R {k : Nat} {i : Int} {x : Nat} (h : sR σ τ) : sR (uR σ k i x) (uR τ k i x) := by
  unfold sR uR
  rw [h.1, h.2]
  exact ⟨rfl, rfl⟩
theorem sR_I {k : Nat} {i x : Int} (h : sR σ τ) : sR (uI σ k i x) (uI τ k i x) := h
theorem sR_M {n : Nat} (h : sR σ τ) : sR (uM σ n) (uM τ n) := by
  unfold sR uM
  rw [h.1, h.2]
  exact ⟨rfl, rfl⟩
theorem sR_F {k : Nat} {n x : Int} (h : sR σ τ) : sR (fillW k n x σ) (fillW k n x τ) := h
theorem sR_D {k : Nat} (h : sR σ τ) : sR (dgW k σ) (dgW k τ) := h
theorem sR_wX11_12 (h : sR σ τ) : sR (wX11_12 σ) (wX11_12 τ) := (sR_R (sR_N h))
theorem sR_wX11_11 (h : sR σ τ) : sR (wX11_11 σ) (wX11_11 τ) := (sR_wX11_12 (sR_R (sR_N h)))
theorem sR_wX5_2 (h : sR σ τ) : sR (wX5_2 σ) (wX5_2 τ) := (sR_R (sR_N h))
theorem sR_wX5_1 (h : sR σ τ) : sR (wX5_1 σ) (wX5_1 τ) := (sR_wX5_2 (sR_I h))
theorem sR_wX5_0 (h : sR σ τ) : sR (wX5_0 σ) (wX5_0 τ) := (sR_wX5_1 (sR_I h))
theorem sR_wX5 (h : sR σ τ) : sR (wX5 σ) (wX5 τ) := (sR_wX5_0 h)
theorem sR_wX11_10 (h : sR σ τ) : sR (wX11_10 σ) (wX11_10 τ) := (sR_wX11_11 (sR_R (sR_wX5 (sR_N h))))
theorem sR_wX8_2 (h : sR σ τ) : sR (wX8_2 σ) (wX8_2 τ) := (sR_R h)
theorem sR_wX8_1 (h : sR σ τ) : sR (wX8_1 σ) (wX8_1 τ) := (sR_wX8_2 (sR_R h))
theorem sR_wX8_0 (h : sR σ τ) : sR (wX8_0 σ) (wX8_0 τ) := (sR_wX8_1 (sR_R (sR_N h)))
theorem sR_wX8 (h : sR σ τ) : sR (wX8 σ) (wX8 τ) := (sR_wX8_0 h)
theorem sR_wX11_9 (h : sR σ τ) : sR (wX11_9 σ) (wX11_9 τ) := (sR_wX11_10 (sR_R (sR_wX8 (sR_N h))))
theorem sR_wX0_5 (h : sR σ τ) : sR (wX0_5 σ) (wX0_5 τ) := (sR_I h)
theorem sR_wX0_4 (h : sR σ τ) : sR (wX0_4 σ) (wX0_4 τ) := (sR_wX0_5 (sR_R h))
theorem sR_wX0_3 (h : sR σ τ) : sR (wX0_3 σ) (wX0_3 τ) := (sR_wX0_4 (sR_R (sR_N h)))
theorem sR_wX0_2 (h : sR σ τ) : sR (wX0_2 σ) (wX0_2 τ) := (sR_wX0_3 (sR_R (sR_N h)))
theorem sR_wX0_1 (h : sR σ τ) : sR (wX0_1 σ) (wX0_1 τ) := (sR_wX0_2 (sR_R (sR_N h)))
theorem sR_wX0_0 (h : sR σ τ) : sR (wX0_0 σ) (wX0_0 τ) := (sR_wX0_1 (sR_R (sR_N h)))
theorem sR_wX0 (h : sR σ τ) : sR (wX0 σ) (wX0 τ) := (sR_wX0_0 h)
theorem sR_wX11_8 (h : sR σ τ) : sR (wX11_8 σ) (wX11_8 τ) := (sR_wX11_9 (sR_R (sR_wX0 (sR_N h))))
theorem sR_wX4_3 (h : sR σ τ) : sR (wX4_3 σ) (wX4_3 τ) := (sR_I h)
theorem sR_wX4_2 (h : sR σ τ) : sR (wX4_2 σ) (wX4_2 τ) := (sR_wX4_3 (sR_I h))
theorem sR_wX4_1 (h : sR σ τ) : sR (wX4_1 σ) (wX4_1 τ) := (sR_wX4_2 (sR_I h))
theorem sR_wX4_0 (h : sR σ τ) : sR (wX4_0 σ) (wX4_0 τ) := (sR_wX4_1 (sR_I h))
theorem sR_wX4 (h : sR σ τ) : sR (wX4 σ) (wX4 τ) := (sR_wX4_0 h)
theorem sR_wX11_7 (h : sR σ τ) : sR (wX11_7 σ) (wX11_7 τ) := (sR_wX11_8 (sR_R (sR_wX4 (sR_N h))))
theorem sR_wX10_5 (h : sR σ τ) : sR (wX10_5 σ) (wX10_5 τ) := (sR_R h)
theorem sR_wX10_4 (h : sR σ τ) : sR (wX10_4 σ) (wX10_4 τ) := (sR_wX10_5 (sR_R (sR_N h)))
theorem sR_wX10_3 (h : sR σ τ) : sR (wX10_3 σ) (wX10_3 τ) := (sR_wX10_4 (sR_R (sR_N h)))
theorem sR_wX10_2 (h : sR σ τ) : sR (wX10_2 σ) (wX10_2 τ) := (sR_wX10_3 (sR_R (sR_N h)))
theorem sR_wX10_1 (h : sR σ τ) : sR (wX10_1 σ) (wX10_1 τ) := (sR_wX10_2 (sR_R (sR_N h)))
theorem sR_wX10_0 (h : sR σ τ) : sR (wX10_0 σ) (wX10_0 τ) := (sR_wX10_1 (sR_R (sR_N h)))
theorem sR_wX10 (h : sR σ τ) : sR (wX10 σ) (wX10 τ) := (sR_wX10_0 h)
theorem sR_wX11_6 (h : sR σ τ) : sR (wX11_6 σ) (wX11_6 τ) := (sR_wX11_7 (sR_R (sR_wX10 (sR_N h))))
theorem sR_wX1_3 (h : sR σ τ) : sR (wX1_3 σ) (wX1_3 τ) := (sR_R h)
theorem sR_wX1_2 (h : sR σ τ) : sR (wX1_2 σ) (wX1_2 τ) := (sR_wX1_3 (sR_R (sR_N h)))
theorem sR_wX1_1 (h : sR σ τ) : sR (wX1_1 σ) (wX1_1 τ) := (sR_wX1_2 (sR_R (sR_N h)))
theorem sR_wX1_0 (h : sR σ τ) : sR (wX1_0 σ) (wX1_0 τ) := (sR_wX1_1 (sR_R (sR_N h)))
theorem sR_wX1 (h : sR σ τ) : sR (wX1 σ) (wX1 τ) := (sR_wX1_0 h)
theorem sR_wX11_5 (h : sR σ τ) : sR (wX11_5 σ) (wX11_5 τ) := (sR_wX11_6 (sR_R (sR_wX1 (sR_N h))))
theorem sR_wX7_6 (h : sR σ τ) : sR (wX7_6 σ) (wX7_6 τ) := (sR_R h)
theorem sR_wX7_5 (h : sR σ τ) : sR (wX7_5 σ) (wX7_5 τ) := (sR_wX7_6 (sR_R h))
theorem sR_wX7_4 (h : sR σ τ) : sR (wX7_4 σ) (wX7_4 τ) := (sR_wX7_5 (sR_R (sR_N h)))
theorem sR_wX7_3 (h : sR σ τ) : sR (wX7_3 σ) (wX7_3 τ) := (sR_wX7_4 (sR_R (sR_M h)))
theorem sR_wX7_2 (h : sR σ τ) : sR (wX7_2 σ) (wX7_2 τ) := (sR_wX7_3 (sR_R (sR_N h)))
theorem sR_wX7_1 (h : sR σ τ) : sR (wX7_1 σ) (wX7_1 τ) := (sR_wX7_2 (sR_R (sR_N h)))
theorem sR_wX7_0 (h : sR σ τ) : sR (wX7_0 σ) (wX7_0 τ) := (sR_wX7_1 (sR_R (sR_N h)))
theorem sR_wX7 (h : sR σ τ) : sR (wX7 σ) (wX7 τ) := (sR_wX7_0 h)
theorem sR_wX11_4 (h : sR σ τ) : sR (wX11_4 σ) (wX11_4 τ) := (sR_wX11_5 (sR_R (sR_wX7 (sR_N h))))
theorem sR_wX3_0 (h : sR σ τ) : sR (wX3_0 σ) (wX3_0 τ) := (sR_R (sR_N h))
theorem sR_wX3 (h : sR σ τ) : sR (wX3 σ) (wX3 τ) := (sR_wX3_0 h)
theorem sR_wX11_3 (h : sR σ τ) : sR (wX11_3 σ) (wX11_3 τ) := (sR_wX11_4 (sR_R (sR_wX3 (sR_N h))))
theorem sR_wX6_2 (h : sR σ τ) : sR (wX6_2 σ) (wX6_2 τ) := (sR_R h)
theorem sR_wX6_1 (h : sR σ τ) : sR (wX6_1 σ) (wX6_1 τ) := (sR_wX6_2 (sR_R (sR_N h)))
theorem sR_wX6_0 (h : sR σ τ) : sR (wX6_0 σ) (wX6_0 τ) := (sR_wX6_1 (sR_R (sR_M h)))
theorem sR_wX6 (h : sR σ τ) : sR (wX6 σ) (wX6 τ) := (sR_wX6_0 h)
theorem sR_wX11_2 (h : sR σ τ) : sR (wX11_2 σ) (wX11_2 τ) := (sR_wX11_3 (sR_R (sR_wX6 (sR_N h))))
theorem sR_wX2_12 (h : sR σ τ) : sR (wX2_12 σ) (wX2_12 τ) := (sR_R h)
theorem sR_wX2_11 (h : sR σ τ) : sR (wX2_11 σ) (wX2_11 τ) := (sR_wX2_12 (sR_R (sR_N h)))
theorem sR_wX2_10 (h : sR σ τ) : sR (wX2_10 σ) (wX2_10 τ) := (sR_wX2_11 (sR_R (sR_N h)))
theorem sR_wX2_9 (h : sR σ τ) : sR (wX2_9 σ) (wX2_9 τ) := (sR_wX2_10 (sR_R (sR_N h)))
theorem sR_wX2_8 (h : sR σ τ) : sR (wX2_8 σ) (wX2_8 τ) := (sR_wX2_9 (sR_R (sR_N h)))
theorem sR_wX2_7 (h : sR σ τ) : sR (wX2_7 σ) (wX2_7 τ) := (sR_wX2_8 (sR_R (sR_N h)))
theorem sR_wX2_6 (h : sR σ τ) : sR (wX2_6 σ) (wX2_6 τ) := (sR_wX2_7 (sR_R (sR_N h)))
theorem sR_wX2_5 (h : sR σ τ) : sR (wX2_5 σ) (wX2_5 τ) := (sR_wX2_6 (sR_R (sR_N h)))
theorem sR_wX2_4 (h : sR σ τ) : sR (wX2_4 σ) (wX2_4 τ) := (sR_wX2_5 (sR_R (sR_N h)))
theorem sR_wX2_3 (h : sR σ τ) : sR (wX2_3 σ) (wX2_3 τ) := (sR_wX2_4 (sR_R (sR_N h)))
theorem sR_wX2_2 (h : sR σ τ) : sR (wX2_2 σ) (wX2_2 τ) := (sR_wX2_3 (sR_R (sR_N h)))
theorem sR_wX2_1 (h : sR σ τ) : sR (wX2_1 σ) (wX2_1 τ) := (sR_wX2_2 (sR_R (sR_N h)))
theorem sR_wX2_0 (h : sR σ τ) : sR (wX2_0 σ) (wX2_0 τ) := (sR_wX2_1 (sR_R (sR_N h)))
theorem sR_wX2 (h : sR σ τ) : sR (wX2 σ) (wX2 τ) := (sR_wX2_0 h)
theorem sR_wX11_1 (h : sR σ τ) : sR (wX11_1 σ) (wX11_1 τ) := (sR_wX11_2 (sR_R (sR_wX2 (sR_N h))))
theorem sR_wX9_e (h : sR σ τ) : sR (wX9_e σ) (wX9_e τ) := (sR_F h)
theorem sR_wX9_13 (h : sR σ τ) : sR (wX9_13 σ) (wX9_13 τ) := (sR_wX9_e (sR_D h))
theorem sR_wX9_12 (h : sR σ τ) : sR (wX9_12 σ) (wX9_12 τ) := (sR_wX9_13 h)
theorem sR_wX9_11 (h : sR σ τ) : sR (wX9_11 σ) (wX9_11 τ) := (sR_wX9_12 (sR_F h))
theorem sR_wX9_10 (h : sR σ τ) : sR (wX9_10 σ) (wX9_10 τ) := (sR_wX9_11 (sR_F h))
theorem sR_wX9_9 (h : sR σ τ) : sR (wX9_9 σ) (wX9_9 τ) := (sR_wX9_10 (sR_F h))
theorem sR_wX9_8 (h : sR σ τ) : sR (wX9_8 σ) (wX9_8 τ) := (sR_wX9_9 (sR_R (sR_N h)))
theorem sR_wX9_7 (h : sR σ τ) : sR (wX9_7 σ) (wX9_7 τ) := (sR_wX9_8 (sR_R (sR_N h)))
theorem sR_wX9_6 (h : sR σ τ) : sR (wX9_6 σ) (wX9_6 τ) := (sR_wX9_7 (sR_R (sR_N h)))
theorem sR_wX9_5 (h : sR σ τ) : sR (wX9_5 σ) (wX9_5 τ) := (sR_wX9_6 (sR_R (sR_N h)))
theorem sR_wX9_4 (h : sR σ τ) : sR (wX9_4 σ) (wX9_4 τ) := (sR_wX9_5 (sR_R (sR_N h)))
theorem sR_wX9_3 (h : sR σ τ) : sR (wX9_3 σ) (wX9_3 τ) := (sR_wX9_4 (sR_R (sR_N h)))
theorem sR_wX9_2 (h : sR σ τ) : sR (wX9_2 σ) (wX9_2 τ) := (sR_wX9_3 (sR_R (sR_N h)))
theorem sR_wX9_1 (h : sR σ τ) : sR (wX9_1 σ) (wX9_1 τ) := (sR_wX9_2 (sR_R (sR_N h)))
theorem sR_wX9_0 (h : sR σ τ) : sR (wX9_0 σ) (wX9_0 τ) := (sR_wX9_1 (sR_R (sR_N h)))
theorem sR_wX9 (h : sR σ τ) : sR (wX9 σ) (wX9 τ) := (sR_wX9_0 h)
theorem sR_wX11_0 (h : sR σ τ) : sR (wX11_0 σ) (wX11_0 τ) := (sR_wX11_1 (sR_R (sR_wX9 (sR_N h))))
theorem sR_wX11 (h : sR σ τ) : sR (wX11 σ) (wX11 τ) := (sR_wX11_0 h)
end SR
theorem same_11 : sameB 70 (wX11 (uN (1, fun _ _ => 0, fun _ _ => 0, fun _ _ => 0, fun _ _ => 0))).2.1 rC70 = true := by decide +kernel
theorem same_E (xs : Nat → Int32) : sameR 70 (wX11 (uN (σE xs))).2.1 rC70 := by
  have q := sR_wX11 (sR_N (σ := σE xs) (τ := (1, fun _ _ => 0, fun _ _ => 0, fun _ _ => 0, fun _ _ => 0)) ⟨rfl, rfl⟩)
  rw [q.2]
  exact sameB_ok same_11
theorem same_R : sameB 121 (upC (upC rRK 120 (fun _ => 0)) 121 (fun _ => 0)) rRK = true := by decide +kernel
