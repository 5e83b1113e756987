/-! INTS; what both sides of calls that do not throw are -/
section INTS
theorem bnd_gd {α β : Type} {c : Prop} [Decidable c] {x : Option α} {f : α → Option β} : bnd (gd c x) f = gd c (bnd x f) := by
  unfold gd
  by_cases h : c
  · rw [if_pos h, if_pos h]
  · rw [if_neg h, if_neg h]; rfl
theorem bnd_ite {α β : Type} {c : Prop} [Decidable c] {x y : Option α} {f : α → Option β} : bnd (if c then x else y) f = if c then bnd x f else bnd y f := by
  by_cases h : c
  · rw [if_pos h, if_pos h]
  · rw [if_neg h, if_neg h]
theorem bnd_bnd {α β γ : Type} {x : Option α} {g : α → Option β} {f : β → Option γ} : bnd (bnd x g) f = bnd x (fun a => bnd (g a) f) := by
  cases x <;> rfl
theorem div_b {a b : Int} (ha : 0 ≤ a) (hb : 30 ≤ b) : 0 ≤ a / b ∧ a / b ≤ a := ⟨Int.ediv_nonneg ha (by omega), Int.ediv_le_self b ha⟩
theorem mul_b {a b A B : Int} (ha : 0 ≤ a ∧ a ≤ A) (hb : 0 ≤ b ∧ b ≤ B) : 0 ≤ a * b ∧ a * b ≤ A * B := ⟨Int.mul_nonneg ha.1 hb.1, Int.mul_le_mul ha.2 hb.2 hb.1 (by omega)⟩
theorem div_1 {a b : Int} (hb : 30 ≤ b) : (a + b) / b = a / b + 1 := by
  have := Int.add_mul_ediv_right a 1 (c := b) (by omega)
  rw [Int.one_mul] at this
  exact this
/-- calls that don't throw -/
def bothP (h : HH) (x : Option Int) (y : Option (Int × HH)) : Prop := Ok x (fun z => Ok y (fun r => (r.2.1 71 10 = 0 ∧ r.1 = z) ∧ INV h r.2))
def bothW (x y : Option (Int × HH)) : Prop := Ok x (fun z => Ok y (fun r => (r.2.1 71 10 = 0 ∧ r.1 = z.1) ∧ INV z.2 r.2))
theorem bothP_ok {h h' : HH} {z a : Int} (e : z = a) (i : INV h h') : Ok (some (z, hI h' 71 10 0)) (fun r => (r.2.1 71 10 = 0 ∧ r.1 = a) ∧ INV h r.2) := ok_some ⟨⟨rI_s ▸ updI_s, e⟩, INV_thr i⟩
theorem sX3_forget (h : HH) : nX3_forget h = some (hI h 32 2 0) := rfl
end INTS
