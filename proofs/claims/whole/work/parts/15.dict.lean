/-! THE TWO DICTIONARIES: a side's store only read; a side's store read and written -/
def okS (lo hi k t : Nat) : Bool := !(Nat.beq t 9) && Nat.beq (tgS lo hi k) t
theorem okS_9 (lo hi k : Nat) : okS lo hi k 9 = false := rfl
theorem okS_in {lo hi k t : Nat} (h9 : t ≠ 9) (h : okS lo hi k t = true) (h99 : t ≠ 99) : (lo ≤ k ∧ k ≤ hi) ∧ tgK k = t := by
  unfold okS at h
  obtain ⟨-, b⟩ := Bool.and_eq_true_iff.mp h
  exact tgS_in b h99
theorem tgS_99 {lo hi k : Nat} (hl : 2 ≤ lo) (hh : hi ≤ 121) (h : okS lo hi k 99 = true) (hk : ∀ j, j < 122 → tgK j = 99 → j < 2) : False ∨ ¬ (lo ≤ k ∧ k ≤ hi) := by
  by_cases q : lo ≤ k ∧ k ≤ hi
  · refine Or.inl ?_
    unfold okS at h
    obtain ⟨-, b⟩ := Bool.and_eq_true_iff.mp h
    have e := Nat.eq_of_beq_eq_true b
    unfold tgS at e
    rw [show (Nat.ble lo k && Nat.ble k hi) = true by rw [Nat.ble_eq_true_of_le q.1, Nat.ble_eq_true_of_le q.2]; rfl] at e
    have := hk k (by omega) e
    omega
  · exact Or.inr q
section DICT
variable {β : Type}
/-- the store h is only read -/
def segP (lo hi : Nat) (h : HH) (kr : Option AV → Option β) (cl : Nat → AS → (AO → Option β) → Option β) (cs : List (Nat × List (Nat × ARow))) (cut : Nat → Option (AL → AS → Option β)) (N pc : Nat) (l : AL) (st : AS) : Option β :=
  seg (S := Unit) (fun _ k i => h.1 k i) (fun _ k i => h.2 k i) (fun _ _ _ => 0) (fun _ k i => rRK k i) (fun _ _ _ _ => none) (fun _ _ _ _ => none) (fun _ _ _ _ => none) (fun _ _ _ _ => none) (fun _ _ _ => none) (fun _ k t => okS lo hi k t) lnK (fun _ _ => none) (fun _ _ _ => none) (fun _ _ _ => none) noH (fun v _ => kr v) (fun _ _ => none) (fun n as _ f => cl n as (fun o => f o ())) (fnd2 cs) (fun pc => match cut pc with | some f => some (fun l st _ => f l st) | none => none) N pc l st ()
/-- the store is read and written; a count of the calls that may have thrown -/
abbrev HU : Type := HH × Nat
def segW (lo hi : Nat) (kr : Option AV → HU → Option β) (kx : Nat → HU → Option β) (cl : Nat → AS → HU → (AO → HU → Option β) → Option β) (cs : List (Nat × List (Nat × ARow))) (cut : Nat → Option (AL → AS → HU → Option β)) (N pc : Nat) (l : AL) (st : AS) (s : HU) : Option β :=
  seg (S := HU) (fun s k i => s.1.1 k i) (fun s k i => s.1.2 k i) (fun _ _ _ => 0) (fun _ k i => rRK k i) (fun s k i x => some ((up2 s.1.1 k i x, s.1.2), s.2)) (fun s k i x => some ((s.1.1, up2 s.1.2 k i x), s.2)) (fun _ _ _ _ => none) (fun _ _ _ _ => none) (fun s k g => some ((upC s.1.1 k g, s.1.2), s.2)) (fun _ k t => okS lo hi k t) lnK (fun _ _ => none) (fun _ _ _ => none) (fun _ _ _ => none) noH kr kx cl (fnd2 cs) cut N pc l st s
theorem tg99 : ∀ j, j < 122 → tgK j = 99 → j < 2 := by decide +kernel
end DICT
