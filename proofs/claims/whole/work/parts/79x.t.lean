section T
variable {h h' m : HH} {K K1 : Nat → Int → Int} {v n : Int}
theorem or_8 : ∀ (s : Fin 8) (i : Fin 3), orI (s.val : Int) (shlI 1 (i.val : Int)) = ((s.val ||| 2 ^ i.val : Nat) : Int) := by decide +kernel
theorem or_8b : ∀ (s : Fin 8) (i : Fin 3), (s.val ||| 2 ^ i.val) < 8 := by decide +kernel
def cnN (s : Nat) : Nat → Nat
  | 0 => 0
  | k + 1 => cnN s k + if Nat.testBit s k = true then 1 else 0
theorem bitC {h : HH} {s : Nat} (hs : s < 1024) : nJ6_bitCount_0f7a4 h (s : Int) = some ((cnN s 10 : Nat) : Int) := sorry
def sumN (g : Nat → Int) : Nat → Int
  | 0 => 0
  | n + 1 => sumN g n + g n
theorem sumN_b {g : Nat → Int} {B : Int} (hB : 0 ≤ B) : ∀ {n : Nat}, (∀ k, k < n → -B ≤ g k ∧ g k ≤ B) → -(B * n) ≤ sumN g n ∧ sumN g n ≤ B * n
  | 0, _ => by simp [sumN]
  | n + 1, h => by
    have a := sumN_b hB (n := n) (fun k hk => h k (by omega))
    have b := h n (by omega)
    have e : B * ((n + 1 : Nat) : Int) = B * n + B := by rw [show ((n + 1 : Nat) : Int) = (n : Int) + 1 by omega, Int.mul_add, Int.mul_one]
    rw [sumN, e]
    generalize B * (n : Int) = y at *
    omega
def sxT (f : Int → Int) (x k : Nat) : Int := if Nat.testBit k x = true then 0 else if cnN k 10 = 1 then 1 * (f ((k ||| 2 ^ x : Nat) : Int) - f (k : Int)) else 2 * (f ((k ||| 2 ^ x : Nat) : Int) - f (k : Int))
theorem sxT_b {f : Int → Int} (hb : ∀ s : Int, 0 ≤ s → s < 8 → -1 ≤ f s ∧ f s ≤ 2000) {x k : Nat} (hx : x < 3) (hk : k < 8) : -4002 ≤ sxT f x k ∧ sxT f x k ≤ 4002 := by
  have hlt := or_8b ⟨k, hk⟩ ⟨x, hx⟩
  dsimp only at hlt
  have b1 := hb (k : Int) (by omega) (by omega)
  have b2 := hb ((k ||| 2 ^ x : Nat) : Int) (Int.natCast_nonneg _) (by exact_mod_cast hlt)
  unfold sxT
  generalize f ((k ||| 2 ^ x : Nat) : Int) = a at *
  clear hlt
  split
  · omega
  · split <;> omega
theorem c_six (hb : ∀ s : Int, 0 ≤ s → s < 8 → -1 ≤ h.1 66 s ∧ h.1 66 s ≤ 2000) {x : Nat} (hx : x < 3) : nX8_sixfold h (x : Int) = some (sumN (sxT (h.1 66) x) 8) := by
  have key : ∀ (r N k : Nat), r < N → k + r = 8 → nX8_sixfold_4 h N (x : Int) (sumN (sxT (h.1 66) x) k) k = some (sumN (sxT (h.1 66) x) 8) := by
    intro r
    induction r with
    | zero =>
      intro N k hN hk
      obtain ⟨M, rfl⟩ := fuel_s hN
      rw [nX8_sixfold_4_s]
      simp only [bX8_sixfold_4]
      rw [if_neg (by omega), show k = 8 by omega]
    | succ r ih =>
      intro N k hN hk
      obtain ⟨M, rfl⟩ := fuel_s hN
      have hs := sumN_b (g := sxT (h.1 66) x) (B := 4002) (by omega) (n := k) (fun j hj => sxT_b hb hx (by omega))
      have ek : (k : Int) + 1 = ((k + 1 : Nat) : Int) := by omega
      have hi := ih M (k + 1) (by omega) (by omega)
      rw [sumN] at hi
      have hlt := or_8b ⟨k, by omega⟩ ⟨x, hx⟩
      have eo := or_8 ⟨k, by omega⟩ ⟨x, hx⟩
      dsimp only at hlt eo
      rw [nX8_sixfold_4_s]
      simp only [bX8_sixfold_4, nX8_sixfold_31, bX8_sixfold_31, nX8_sixfold_56, bX8_sixfold_56]
      refine ok_is ?_
      refine ok_pos (by omega) ?_
      refine ok_be (sX8_isIn (S := (k : Int)) (i := (x : Int)) (by omega) (by omega)) ?_
      have ebt : bt (k : Int) (x : Int) = Nat.testBit k x := by unfold bt; rw [Int.toNat_natCast, Int.toNat_natCast]
      rw [ebt]
      by_cases c : Nat.testBit k x = true
      · rw [if_pos c]
        refine ok_neg (by decide) ?_
        refine ok_gd (by omega) ?_
        rw [ek]
        unfold sxT at hi
        rw [if_pos c, Int.add_zero] at hi
        exact ok_of hi rfl
      · rw [if_neg c]
        refine ok_pos rfl ?_
        refine ok_be (bitC (by omega)) ?_
        rw [eo]
        have b1 := hb (k : Int) (by omega) (by omega)
        have b2 := hb ((k ||| 2 ^ x : Nat) : Int) (Int.natCast_nonneg _) (by exact_mod_cast hlt)
        have hi2 : nX8_sixfold_4 h M (x : Int) (sumN (sxT (h.1 66) x) k + if cnN k 10 = 1 then 1 * (h.1 66 ((k ||| 2 ^ x : Nat) : Int) - h.1 66 (k : Int)) else 2 * (h.1 66 ((k ||| 2 ^ x : Nat) : Int) - h.1 66 (k : Int))) ((k + 1 : Nat) : Int) = some (sumN (sxT (h.1 66) x) 8) := by
          have e : sxT (h.1 66) x k = if cnN k 10 = 1 then 1 * (h.1 66 ((k ||| 2 ^ x : Nat) : Int) - h.1 66 (k : Int)) else 2 * (h.1 66 ((k ||| 2 ^ x : Nat) : Int) - h.1 66 (k : Int)) := by
            conv => lhs; unfold sxT
            rw [if_neg c]
          rw [← e]
          exact hi
        clear hi ih
        generalize hz : (k ||| 2 ^ x) = z at *
        generalize sumN (sxT (h.1 66) x) k = y at *
        by_cases d : cnN k 10 = 1
        · rw [if_pos d] at hi2
          refine ok_pos (by omega) ?_
          refine ok_gd (by omega) ?_
          refine ok_gd (by omega) ?_
          refine ok_gd (by omega) ?_
          refine ok_gd (by omega) ?_
          refine ok_gd (by omega) ?_
          refine ok_gd (by omega) ?_
          rw [ek]
          exact ok_of hi2 rfl
        · rw [if_neg d] at hi2
          refine ok_neg (by omega) ?_
          refine ok_gd (by omega) ?_
          refine ok_gd (by omega) ?_
          refine ok_gd (by omega) ?_
          refine ok_gd (by omega) ?_
          refine ok_gd (by omega) ?_
          refine ok_gd (by omega) ?_
          rw [ek]
          exact ok_of hi2 rfl
  unfold nX8_sixfold bX8_sixfold
  have q := key 8 100000 0 (by omega) (by omega)
  sorry
end T
