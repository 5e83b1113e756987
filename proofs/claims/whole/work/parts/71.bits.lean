/-! SETS as numbers -/
section BITS
def bt (S i : Int) : Bool := Nat.testBit S.toNat i.toNat
theorem bit_and : ∀ (s : Fin 512) (i : Fin 9), andI (shrI (s.val : Int) (i.val : Int)) 1 = if Nat.testBit s.val i.val then 1 else 0 := by decide +kernel
theorem bit_xor : ∀ (s : Fin 512) (i : Fin 9), xorI (s.val : Int) (shlI 1 (i.val : Int)) = ((s.val ^^^ 2 ^ i.val : Nat) : Int) := by decide +kernel
theorem bit_or : ∀ (s : Fin 512) (i : Fin 9), orI (s.val : Int) (shlI 1 (i.val : Int)) = ((s.val ||| 2 ^ i.val : Nat) : Int) := by decide +kernel
theorem bit_clr : ∀ (s : Fin 512) (i : Fin 9), andI (s.val : Int) (xorI (shlI 1 (i.val : Int)) (-1)) = ((s.val &&& (511 ^^^ 2 ^ i.val) : Nat) : Int) := by decide +kernel
theorem bit_self : ∀ (s : Fin 512), andI (s.val : Int) (s.val : Int) = (s.val : Int) := by decide +kernel
theorem bit_shl : ∀ (i : Fin 10), shlI 1 (i.val : Int) = ((2 ^ i.val : Nat) : Int) := by decide +kernel
theorem bit_xlt : ∀ (s : Fin 512) (i : Fin 9), Nat.testBit s.val i.val = true → (s.val ^^^ 2 ^ i.val) < s.val := by decide +kernel
theorem bit_zero : ∀ (s : Fin 512), (∀ i : Fin 9, Nat.testBit s.val i.val = false) → s.val = 0 := by decide +kernel
theorem bit_all : ∀ (n : Fin 10) (i : Fin 9), Nat.testBit (2 ^ n.val - 1) i.val = decide (i.val < n.val) := by decide +kernel
/-- a set without one of its own -/
def rmS (S i : Int) : Int := xorI S (shlI 1 i)
theorem bt_has {S i : Int} (hS : 0 ≤ S ∧ S < 512) (hi : 0 ≤ i ∧ i < 9) : andI (shrI S i) 1 = if bt S i = true then 1 else 0 := by
  have := bit_and ⟨S.toNat, by omega⟩ ⟨i.toNat, by omega⟩
  dsimp only at this
  rw [show ((S.toNat : Nat) : Int) = S by omega, show ((i.toNat : Nat) : Int) = i by omega] at this
  exact this
theorem rmS_n {S i : Int} (hS : 0 ≤ S ∧ S < 512) (hi : 0 ≤ i ∧ i < 9) : rmS S i = ((S.toNat ^^^ 2 ^ i.toNat : Nat) : Int) := by
  have := bit_xor ⟨S.toNat, by omega⟩ ⟨i.toNat, by omega⟩
  dsimp only at this
  rw [show ((S.toNat : Nat) : Int) = S by omega, show ((i.toNat : Nat) : Int) = i by omega] at this
  exact this
theorem rmS_b {S i : Int} (hS : 0 ≤ S ∧ S < 512) (hi : 0 ≤ i ∧ i < 9) (hb : bt S i = true) : 0 ≤ rmS S i ∧ rmS S i < S := by
  have e := rmS_n hS hi
  have := bit_xlt ⟨S.toNat, by omega⟩ ⟨i.toNat, by omega⟩ hb
  dsimp only at this
  rw [e]
  omega
theorem rmS_bt {S i j : Int} (hS : 0 ≤ S ∧ S < 512) (hi : 0 ≤ i ∧ i < 9) (hb : bt S i = true) (hj : 0 ≤ j ∧ j < 9) : bt (rmS S i) j = true ↔ bt S j = true ∧ j ≠ i := by
  have e : bt (rmS S i) j = (Nat.testBit S.toNat j.toNat ^^ decide (i.toNat = j.toNat)) := by
    unfold bt
    rw [rmS_n hS hi, Int.toNat_natCast, Nat.testBit_xor, Nat.testBit_two_pow]
  rw [e]
  by_cases c : j = i
  · rw [c]
    unfold bt at hb
    rw [hb]
    simp
  · rw [decide_eq_false (by omega)]
    unfold bt
    simp [c]
theorem bt_0 {S : Int} (hS : 0 ≤ S ∧ S < 512) (h : ∀ j, 0 ≤ j → j < 9 → bt S j = false) : S = 0 := by
  have := bit_zero ⟨S.toNat, by omega⟩ (fun i => by
    have := h (i.val : Int) (by omega) (by omega)
    unfold bt at this
    rw [Int.toNat_natCast] at this
    exact this)
  dsimp only at this
  omega
theorem bt_z (j : Int) : bt 0 j = false := by
  unfold bt
  exact Nat.zero_testBit _
/-- all of the first n -/
def allS (n : Int) : Int := shlI 1 n - 1
theorem allS_n {n : Int} (hn : 0 ≤ n ∧ n ≤ 9) : allS n = ((2 ^ n.toNat : Nat) : Int) - 1 := by
  have := bit_shl ⟨n.toNat, by omega⟩
  dsimp only at this
  rw [show ((n.toNat : Nat) : Int) = n by omega] at this
  unfold allS
  rw [this]
theorem allS_b {n : Int} (hn : 0 ≤ n ∧ n ≤ 9) : 0 ≤ allS n ∧ allS n < 512 := by
  rw [allS_n hn]
  have h1 : 2 ^ n.toNat ≤ 2 ^ 9 := Nat.pow_le_pow_right (by omega) (by omega)
  have h2 : 0 < 2 ^ n.toNat := Nat.pow_pos (by omega)
  omega
theorem allS_bt {n j : Int} (hn : 0 ≤ n ∧ n ≤ 9) (hj : 0 ≤ j ∧ j < 9) : bt (allS n) j = true ↔ j < n := by
  have := bit_all ⟨n.toNat, by omega⟩ ⟨j.toNat, by omega⟩
  dsimp only at this
  have h2 : 0 < 2 ^ n.toNat := Nat.pow_pos (by omega)
  unfold bt
  rw [allS_n hn, show (((2 ^ n.toNat : Nat) : Int) - 1).toNat = 2 ^ n.toNat - 1 by omega, this]
  simp
  omega
theorem bt_le {S n j : Int} (hn : 0 ≤ n ∧ n ≤ 9) (hS : 0 ≤ S ∧ S ≤ allS n) (hj : 0 ≤ j ∧ j < 9) (hb : bt S j = true) : j < n := by
  rw [allS_n hn] at hS
  have h2 : 0 < 2 ^ n.toNat := Nat.pow_pos (by omega)
  by_cases c : j < n
  · exact c
  · have h3 : S.toNat < 2 ^ j.toNat := Nat.lt_of_lt_of_le (show S.toNat < 2 ^ n.toNat by omega) (Nat.pow_le_pow_right (by omega) (by omega))
    unfold bt at hb
    rw [Nat.testBit_lt_two_pow h3] at hb
    cases hb
/-- an order of a set -/
def ofS (S : Int) (l : List Int) : Prop := l.Nodup ∧ ∀ i, i ∈ l ↔ (0 ≤ i ∧ i < 9) ∧ bt S i = true
theorem ofS_nil {S : Int} (hS : 0 ≤ S ∧ S < 512) : ofS S [] ↔ S = 0 := by
  constructor
  · intro h
    refine bt_0 hS (fun j j0 j1 => ?_)
    cases z : bt S j
    · rfl
    · exact absurd ((h.2 j).mpr ⟨⟨j0, j1⟩, z⟩) List.not_mem_nil
  · intro h
    refine ⟨List.nodup_nil, fun i => ⟨fun q => absurd q List.not_mem_nil, fun q => ?_⟩⟩
    rw [h, bt_z] at q
    cases q.2
theorem ofS_perm {S : Int} {l l' : List Int} (hp : l.Perm l') : ofS S l ↔ ofS S l' := by
  unfold ofS
  rw [hp.nodup_iff]
  constructor
  · rintro ⟨h1, h2⟩
    exact ⟨h1, fun i => by rw [← hp.mem_iff]; exact h2 i⟩
  · rintro ⟨h1, h2⟩
    exact ⟨h1, fun i => by rw [hp.mem_iff]; exact h2 i⟩
theorem ofS_cons {S i : Int} {l : List Int} (hS : 0 ≤ S ∧ S < 512) : ofS S (i :: l) ↔ ((0 ≤ i ∧ i < 9) ∧ bt S i = true) ∧ ofS (rmS S i) l := by
  constructor
  · rintro ⟨h1, h2⟩
    have hi := (h2 i).mp List.mem_cons_self
    obtain ⟨n1, n2⟩ := List.nodup_cons.mp h1
    refine ⟨hi, n2, fun j => ⟨fun q => ?_, fun q => ?_⟩⟩
    · have hj := (h2 j).mp (List.mem_cons_of_mem _ q)
      exact ⟨hj.1, (rmS_bt hS hi.1 hi.2 hj.1).mpr ⟨hj.2, fun e => n1 (e ▸ q)⟩⟩
    · obtain ⟨q1, q2⟩ := (rmS_bt hS hi.1 hi.2 q.1).mp q.2
      rcases List.mem_cons.mp ((h2 j).mpr ⟨q.1, q1⟩) with e | e
      · exact absurd e q2
      · exact e
  · rintro ⟨hi, h1, h2⟩
    have ni : i ∉ l := fun q => ((rmS_bt hS hi.1 hi.2 hi.1).mp ((h2 i).mp q).2).2 rfl
    refine ⟨List.nodup_cons.mpr ⟨ni, h1⟩, fun j => ⟨fun q => ?_, fun q => ?_⟩⟩
    · rcases List.mem_cons.mp q with e | e
      · rw [e]; exact hi
      · have z := (h2 j).mp e
        exact ⟨z.1, ((rmS_bt hS hi.1 hi.2 z.1).mp z.2).1⟩
    · by_cases c : j = i
      · rw [c]; exact List.mem_cons_self
      · exact List.mem_cons_of_mem _ ((h2 j).mpr ⟨q.1, (rmS_bt hS hi.1 hi.2 q.1).mpr ⟨q.2, c⟩⟩)
theorem ofS_snoc {S i : Int} {l : List Int} (hS : 0 ≤ S ∧ S < 512) : ofS S (l ++ [i]) ↔ ((0 ≤ i ∧ i < 9) ∧ bt S i = true) ∧ ofS (rmS S i) l := by
  rw [ofS_perm (List.perm_append_singleton i l)]
  exact ofS_cons hS
end BITS
