/-! NO NaN comes of what is divided here -/
section FPN
theorem enc32 (s : Bool) (c : Nat) (q : Int) : FP.Core.encode FP.Core.b32 (FP.Core.settle FP.Core.b32 s c q) % 2147483648 ≤ 2139095040 := by
  have e1 : FP.Core.b32.tails = 8388608 := by decide
  have e2 : FP.Core.b32.exps = 256 := by decide
  have e3 : FP.Core.b32.qmin = -149 := by decide
  have e4 : FP.Core.b32.qmax = 104 := by decide
  have e5 : 2 ^ FP.Core.b32.p = 16777216 := by decide
  have hs : s.toNat = 0 ∨ s.toNat = 1 := by cases s <;> decide
  unfold FP.Core.settle FP.Core.bound
  rw [e5, e4]
  by_cases c1 : c < 16777216
  · rw [if_pos c1]
    by_cases c2 : q ≤ 104
    · rw [if_pos c2]
      simp only [FP.Core.encode, FP.Core.assemble, e1, e2, e3]
      by_cases c3 : c < 8388608
      · rw [if_pos c3]; omega
      · rw [if_neg c3]; omega
    · rw [if_neg c2]
      simp only [FP.Core.encode, FP.Core.assemble, e1, e2, e3]
      omega
  · rw [if_neg c1]
    by_cases c2 : q + 1 ≤ 104
    · rw [if_pos c2]
      simp only [FP.Core.encode, FP.Core.assemble, e1, e2, e3]
      rw [if_neg (by omega)]
      omega
    · rw [if_neg c2]
      simp only [FP.Core.encode, FP.Core.assemble, e1, e2, e3]
      omega
theorem enc64 (s : Bool) (c : Nat) (q : Int) : FP.Core.encode FP.Core.b64 (FP.Core.settle FP.Core.b64 s c q) % 9223372036854775808 ≤ 9218868437227405312 := by
  have e1 : FP.Core.b64.tails = 4503599627370496 := by decide
  have e2 : FP.Core.b64.exps = 2048 := by decide
  have e3 : FP.Core.b64.qmin = -1074 := by decide
  have e4 : FP.Core.b64.qmax = 971 := by decide
  have e5 : 2 ^ FP.Core.b64.p = 9007199254740992 := by decide
  have hs : s.toNat = 0 ∨ s.toNat = 1 := by cases s <;> decide
  unfold FP.Core.settle FP.Core.bound
  rw [e5, e4]
  by_cases c1 : c < 9007199254740992
  · rw [if_pos c1]
    by_cases c2 : q ≤ 971
    · rw [if_pos c2]
      simp only [FP.Core.encode, FP.Core.assemble, e1, e2, e3]
      by_cases c3 : c < 4503599627370496
      · rw [if_pos c3]; omega
      · rw [if_neg c3]; omega
    · rw [if_neg c2]
      simp only [FP.Core.encode, FP.Core.assemble, e1, e2, e3]
      omega
  · rw [if_neg c1]
    by_cases c2 : q + 1 ≤ 971
    · rw [if_pos c2]
      simp only [FP.Core.encode, FP.Core.assemble, e1, e2, e3]
      rw [if_neg (by omega)]
      omega
    · rw [if_neg c2]
      simp only [FP.Core.encode, FP.Core.assemble, e1, e2, e3]
      omega
theorem rat32 (s : Bool) (n d : Nat) (e : Int) : FP.Core.encode FP.Core.b32 (FP.Core.roundRatio FP.Core.b32 s n d e) % 2147483648 ≤ 2139095040 := by
  unfold FP.Core.roundRatio
  by_cases c : n = 0
  · rw [if_pos c]
    have e1 : FP.Core.b32.tails = 8388608 := by decide
    have e2 : FP.Core.b32.exps = 256 := by decide
    have hs : s.toNat = 0 ∨ s.toNat = 1 := by cases s <;> decide
    simp only [FP.Core.encode, FP.Core.assemble, e1, e2]
    rw [if_pos (by omega)]
    omega
  · rw [if_neg c]
    exact enc32 _ _ _
theorem rat64 (s : Bool) (n d : Nat) (e : Int) : FP.Core.encode FP.Core.b64 (FP.Core.roundRatio FP.Core.b64 s n d e) % 9223372036854775808 ≤ 9218868437227405312 := by
  unfold FP.Core.roundRatio
  by_cases c : n = 0
  · rw [if_pos c]
    have e1 : FP.Core.b64.tails = 4503599627370496 := by decide
    have e2 : FP.Core.b64.exps = 2048 := by decide
    have hs : s.toNat = 0 ∨ s.toNat = 1 := by cases s <;> decide
    simp only [FP.Core.encode, FP.Core.assemble, e1, e2]
    rw [if_pos (by omega)]
    omega
  · rw [if_neg c]
    exact enc64 _ _ _
theorem dec32 {n : Nat} (h : n % 2147483648 ≤ 2139095040) : FP.Core.decode FP.Core.b32 n ≠ .nan := by
  have e1 : FP.Core.b32.tails = 8388608 := by decide
  have e2 : FP.Core.b32.exps = 256 := by decide
  unfold FP.Core.decode FP.Core.fieldE FP.Core.fieldT
  rw [e1, e2]
  by_cases c : n / 8388608 % 256 = 256 - 1
  · rw [if_pos c, if_pos (by omega)]
    exact FP.Core.Datum.noConfusion
  · rw [if_neg c]
    by_cases c2 : n / 8388608 % 256 = 0
    · rw [if_pos c2]
      exact FP.Core.Datum.noConfusion
    · rw [if_neg c2]
      exact FP.Core.Datum.noConfusion
theorem dec64 {n : Nat} (h : n % 9223372036854775808 ≤ 9218868437227405312) : FP.Core.decode FP.Core.b64 n ≠ .nan := by
  have e1 : FP.Core.b64.tails = 4503599627370496 := by decide
  have e2 : FP.Core.b64.exps = 2048 := by decide
  unfold FP.Core.decode FP.Core.fieldE FP.Core.fieldT
  rw [e1, e2]
  by_cases c : n / 4503599627370496 % 2048 = 2048 - 1
  · rw [if_pos c, if_pos (by omega)]
    exact FP.Core.Datum.noConfusion
  · rw [if_neg c]
    by_cases c2 : n / 4503599627370496 % 2048 = 0
    · rw [if_pos c2]
      exact FP.Core.Datum.noConfusion
    · rw [if_neg c2]
      exact FP.Core.Datum.noConfusion
/-- may be divided by -/
def fpd : FP.Core.Datum → Bool
  | .nan => false
  | .inf _ => false
  | .fin _ d _ => d != 0
theorem quo32 {X Y : FP.Core.Datum} (hx : X ≠ .nan) (hy : fpd Y = true) : FP.Core.encode FP.Core.b32 (FP.Core.quotient FP.Core.b32 X Y) % 2147483648 ≤ 2139095040 := by
  cases Y with
  | nan => cases hy
  | inf t => cases hy
  | fin t d r =>
    have hd : ¬ d = 0 := fun e => by rw [e] at hy; simp [fpd] at hy
    cases X with
    | nan => exact absurd rfl hx
    | inf s =>
      have e1 : FP.Core.b32.tails = 8388608 := by decide
      have e2 : FP.Core.b32.exps = 256 := by decide
      have hs : (s != t).toNat = 0 ∨ (s != t).toNat = 1 := by cases (s != t) <;> decide
      simp only [FP.Core.quotient, FP.Core.encode, FP.Core.assemble, e1, e2]
      omega
    | fin s c q =>
      simp only [FP.Core.quotient]
      rw [if_neg hd]
      exact rat32 _ _ _ _
theorem quo64 {X Y : FP.Core.Datum} (hx : X ≠ .nan) (hy : fpd Y = true) : FP.Core.encode FP.Core.b64 (FP.Core.quotient FP.Core.b64 X Y) % 9223372036854775808 ≤ 9218868437227405312 := by
  cases Y with
  | nan => cases hy
  | inf t => cases hy
  | fin t d r =>
    have hd : ¬ d = 0 := fun e => by rw [e] at hy; simp [fpd] at hy
    cases X with
    | nan => exact absurd rfl hx
    | inf s =>
      have e1 : FP.Core.b64.tails = 4503599627370496 := by decide
      have e2 : FP.Core.b64.exps = 2048 := by decide
      have hs : (s != t).toNat = 0 ∨ (s != t).toNat = 1 := by cases (s != t) <;> decide
      simp only [FP.Core.quotient, FP.Core.encode, FP.Core.assemble, e1, e2]
      omega
    | fin s c q =>
      simp only [FP.Core.quotient]
      rw [if_neg hd]
      exact rat64 _ _ _ _
theorem n32_of {n : Nat} (h : n % 2147483648 ≤ 2139095040) : n32 (UInt32.ofNat n) := by
  show UInt32.ofNat n &&& 0x7fffffff ≤ 0x7f800000
  rw [UInt32.le_iff_toNat_le, UInt32.toNat_and, UInt32.toNat_ofNat']
  have e : (0x7fffffff : UInt32).toNat = 2 ^ 31 - 1 := by decide
  have e' : (0x7f800000 : UInt32).toNat = 2139095040 := by decide
  rw [e, e', Nat.and_two_pow_sub_one_eq_mod]
  omega
theorem n64_of {n : Nat} (h : n % 9223372036854775808 ≤ 9218868437227405312) : n64 (UInt64.ofNat n) := by
  show UInt64.ofNat n &&& 0x7fffffffffffffff ≤ 0x7ff0000000000000
  rw [UInt64.le_iff_toNat_le, UInt64.toNat_and, UInt64.toNat_ofNat']
  have e : (0x7fffffffffffffff : UInt64).toNat = 2 ^ 63 - 1 := by decide
  have e' : (0x7ff0000000000000 : UInt64).toNat = 9218868437227405312 := by decide
  rw [e, e', Nat.and_two_pow_sub_one_eq_mod]
  omega
theorem i2f_ok (a : Int32) : FP.Core.decode FP.Core.b32 (FP.i2f a).toNat ≠ .nan := by
  refine dec32 ?_
  show (UInt32.ofNat (FP.Core.fromInt FP.Core.b32 a.toInt)).toNat % 2147483648 ≤ 2139095040
  rw [UInt32.toNat_ofNat']
  have := rat32 (decide (a.toInt < 0)) a.toInt.natAbs 1 0
  have e : FP.Core.fromInt FP.Core.b32 a.toInt = FP.Core.encode FP.Core.b32 (FP.Core.roundRatio FP.Core.b32 (decide (a.toInt < 0)) a.toInt.natAbs 1 0) := rfl
  rw [e]
  omega
theorem l2d_ok (a : Int64) : FP.Core.decode FP.Core.b64 (FP.l2d a).toNat ≠ .nan := by
  refine dec64 ?_
  show (UInt64.ofNat (FP.Core.fromInt FP.Core.b64 a.toInt)).toNat % 9223372036854775808 ≤ 9218868437227405312
  rw [UInt64.toNat_ofNat']
  have := rat64 (decide (a.toInt < 0)) a.toInt.natAbs 1 0
  have e : FP.Core.fromInt FP.Core.b64 a.toInt = FP.Core.encode FP.Core.b64 (FP.Core.roundRatio FP.Core.b64 (decide (a.toInt < 0)) a.toInt.natAbs 1 0) := rfl
  rw [e]
  omega
theorem fd900 : ∀ b : Fin 900, fpd (FP.Core.decode FP.Core.b32 (FP.i2f (Int32.ofInt ((b.val : Int) + 1))).toNat) = true := by decide +kernel
theorem dd50 : ∀ b : Fin 50, fpd (FP.Core.decode FP.Core.b64 (FP.i2d (Int32.ofInt ((b.val : Int) + 1))).toNat) = true := by decide +kernel
theorem fdiv_ok {a b : Int} (hb : 1 ≤ b ∧ b ≤ 900) : n32 (FP.fdiv (FP.i2f (Int32.ofInt a)) (FP.i2f (Int32.ofInt b))) := by
  refine n32_of (quo32 (i2f_ok _) ?_)
  have := fd900 ⟨(b - 1).toNat, by omega⟩
  rw [show (((⟨(b - 1).toNat, by omega⟩ : Fin 900).val : Nat) : Int) + 1 = b by show ((b - 1).toNat : Int) + 1 = b; omega] at this
  exact this
theorem ddiv_ok {a b : Int} (hb : 1 ≤ b ∧ b ≤ 50) : n64 (FP.ddiv (FP.l2d (Int64.ofInt a)) (FP.i2d (Int32.ofInt b))) := by
  refine n64_of (quo64 (l2d_ok _) ?_)
  have := dd50 ⟨(b - 1).toNat, by omega⟩
  rw [show (((⟨(b - 1).toNat, by omega⟩ : Fin 50).val : Nat) : Int) + 1 = b by show ((b - 1).toNat : Int) + 1 = b; omega] at this
  exact this
end FPN
/-! PAY -/
section PAY
variable {h h' : HH}
theorem sumS_c {g : Int → Int} : ∀ {n : Nat}, (∀ j : Nat, j < n → 0 ≤ g j ∧ g j ≤ 100000000000000) → 0 ≤ sumS g n ∧ sumS g n ≤ 100000000000000 * n
  | 0, _ => ⟨Int.le_refl _, Int.le_refl _⟩
  | n + 1, hj => by
    have := sumS_c (g := g) (n := n) (fun j q => hj j (by omega))
    have := hj n (by omega)
    rw [sumS]
    omega
theorem sX12_sumOfBooks {m : HH} {T : Nat} (hT : m.1 71 44 = T) (h50 : T ≤ 50) (hm : ∀ k : Nat, k < T → (0 ≤ m.2 103 k ∧ m.2 103 k ≤ 100000000000000)) : nX12_sumOfBooks m = some (sumS (m.2 103) T) := by
  have key : ∀ (r N k : Nat), r < N → k + r = T → nX12_sumOfBooks_4 m N (sumS (m.2 103) k) k = some (sumS (m.2 103) T) := by
    intro r
    induction r with
    | zero =>
      intro N k hN hk
      obtain ⟨M, rfl⟩ := fuel_s hN
      rw [nX12_sumOfBooks_4_s]
      simp only [bX12_sumOfBooks_4]
      rw [if_neg (by omega), show k = T by omega]
    | succ r ih =>
      intro N k hN hk
      obtain ⟨M, rfl⟩ := fuel_s hN
      have h4 := hm k (by omega)
      have hs := sumS_c (g := m.2 103) (n := k) (fun j q => hm j (by omega))
      rw [nX12_sumOfBooks_4_s]
      simp only [bX12_sumOfBooks_4]
      rw [if_pos (by omega), gd_t (by omega), gd_t (by omega), gd_t (by omega), show (k : Int) + 1 = ((k + 1 : Nat) : Int) by omega]
      exact ih M (k + 1) (by omega) (by omega)
  unfold nX12_sumOfBooks bX12_sumOfBooks
  exact key T 100000 0 (by omega) (by omega)
theorem inv_books (i : INV h h') : ∃ T : Nat, ((T : Int) = h.1 67 4 ∧ T ≤ 50) ∧ (∀ k : Nat, k < T → h.2 68 k = h'.2 103 k ∧ (0 ≤ h.2 68 k ∧ h.2 68 k ≤ 100000000000000)) ∧ h.2 67 5 = sumS (h'.2 103) T ∧ (0 ≤ h.2 67 5 ∧ h.2 67 5 ≤ 100000000000000 * h.1 67 4) := by
  obtain ⟨d1, d2, d3⟩ := i.2.2.2.2
  refine ⟨(h.1 67 4).toNat, by omega, fun k hk => d2 k (by omega) (by omega), ?_, ?_⟩
  · rw [d3]
    exact sumS_cg (fun j hj => (d2 j (by omega) (by omega)).1)
  · have := sumS_c (g := h.2 68) (n := (h.1 67 4).toNat) (fun j hj => (d2 j (by omega) (by omega)).2)
    omega
theorem inv_sumOfBooks (i : INV h h') {m : HH} (f : Fr scM h' m) : nX12_sumOfBooks m = some (h.2 67 5) := by
  obtain ⟨T, t1, t2, t3, t4⟩ := inv_books i
  have e44 : m.1 71 44 = h'.1 71 44 := f.2 71 44 (by unfold scM; omega)
  have e : m.2 = h'.2 := f.1
  have d := i.2.2.2.2.1
  rw [sX12_sumOfBooks (m := m) (T := T) (by omega) t1.2 (fun k hk => by rw [e]; have := t2 k hk; omega), e, t3]
theorem op_books (i : INV h h') (x1 : Int) (hx : R32 x1) : both (nX11_books x1 h) (nX12_books x1 h') (cdX 0 0 0 1) := by
  have i0 := i
  obtain ⟨T, t1, t2, t3, t4⟩ := inv_books i
  have d := i.2.2.2.2.1
  have fI : ∀ {m : HH}, Fr scM h' m → ∀ {x : Int}, Fr scM h' (hI m 71 10 x) := fun f => fr_I f (by unfold scM; omega)
  simp only [nX11_books, bX11_books, nX11_books_32, bX11_books_32, nX11_books_33, bX11_books_33, nX12_books, bX12_books, nX12_books_20, bX12_books_20, nX12_books_25, bX12_books_25, both]
  by_cases p1 : x1 = -1
  · repeat (first | with_reducible refine ok_gd (by first | omega | decide) ?_ | with_reducible refine ok_bs ?_ | with_reducible refine ok_be (sX12_refuse _ _) ?_ | with_reducible refine ok_be (sX12_told _ _) ?_ | with_reducible refine ok_ndt (sX11_needElement _ _) (by omega) ?_ | with_reducible refine ok_ndf (sX11_needElement _ _) (by omega) ?_ | with_reducible refine ok_ndt (sX11_needIndex _ _ _ _) (by omega) ?_ | with_reducible refine ok_ndf (sX11_needIndex _ _ _ _) (by omega) ?_ | with_reducible refine ok_ndt (sX11_needRange _ _ _ _) (by omega) ?_ | with_reducible refine ok_ndf (sX11_needRange _ _ _ _) (by omega) ?_ | with_reducible refine ok_ndt (sX11_needThat2 _ _) (by omega) ?_ | with_reducible refine ok_ndf (sX11_needThat2 _ _) (by omega) ?_ | with_reducible refine ok_ndt (sX11_needState2 _ _) (by omega) ?_ | with_reducible refine ok_ndf (sX11_needState2 _ _) (by omega) ?_ | with_reducible refine ok_ndt (sX11_needElement _ _) (by omega) ?_ | with_reducible refine ok_ndf (sX11_needElement _ _) (by omega) ?_ | with_reducible refine ok_ndt (sX11_needPlace _ _) (by omega) ?_ | with_reducible refine ok_ndf (sX11_needPlace _ _) (by omega) ?_ | with_reducible refine ok_ndt (sX11_needSender _ _) (by omega) ?_ | with_reducible refine ok_ndf (sX11_needSender _ _) (by omega) ?_ | with_reducible refine ok_b2t (sX12_in _ _ _ _) (by omega) ?_ | with_reducible refine ok_b2f (sX12_in _ _ _ _) (by omega) ?_ | with_reducible refine ok_b2t (sX12_isPlace _ _) (by omega) ?_ | with_reducible refine ok_b2f (sX12_isPlace _ _) (by omega) ?_ | with_reducible refine ok_pos (by omega) ?_ | with_reducible refine ok_neg (by omega) ?_ | with_reducible refine ok_tl ?_ | with_reducible refine ok_tr ?_ | simp (disch := decide) only [rI_s, rI_n, rI_2, rC_s, rC_n, rC_2, rJ_1, rJ_s, rJ_n, updI_at, if_pos, if_neg] | dsimp only)
    refine ok_some ?_
    repeat (first | with_reducible refine ok_gd (by first | omega | decide) ?_ | with_reducible refine ok_bs ?_ | with_reducible refine ok_be (inv_sumOfBooks i (fI fr_r)) ?_ | with_reducible refine ok_be (sX12_refuse _ _) ?_ | with_reducible refine ok_be (sX12_told _ _) ?_ | with_reducible refine ok_ndt (sX11_needIndex _ _ _ _) (by omega) ?_ | with_reducible refine ok_ndf (sX11_needIndex _ _ _ _) (by omega) ?_ | with_reducible refine ok_ndt (sX11_needRange _ _ _ _) (by omega) ?_ | with_reducible refine ok_ndf (sX11_needRange _ _ _ _) (by omega) ?_ | with_reducible refine ok_ndt (sX11_needThat2 _ _) (by omega) ?_ | with_reducible refine ok_ndf (sX11_needThat2 _ _) (by omega) ?_ | with_reducible refine ok_ndt (sX11_needState2 _ _) (by omega) ?_ | with_reducible refine ok_ndf (sX11_needState2 _ _) (by omega) ?_ | with_reducible refine ok_ndt (sX11_needElement _ _) (by omega) ?_ | with_reducible refine ok_ndf (sX11_needElement _ _) (by omega) ?_ | with_reducible refine ok_ndt (sX11_needPlace _ _) (by omega) ?_ | with_reducible refine ok_ndf (sX11_needPlace _ _) (by omega) ?_ | with_reducible refine ok_ndt (sX11_needSender _ _) (by omega) ?_ | with_reducible refine ok_ndf (sX11_needSender _ _) (by omega) ?_ | with_reducible refine ok_b2t (sX12_in _ _ _ _) (by omega) ?_ | with_reducible refine ok_b2f (sX12_in _ _ _ _) (by omega) ?_ | with_reducible refine ok_b2t (sX12_isPlace _ _) (by omega) ?_ | with_reducible refine ok_b2f (sX12_isPlace _ _) (by omega) ?_ | with_reducible refine ok_pos (by omega) ?_ | with_reducible refine ok_neg (by omega) ?_ | with_reducible refine ok_tl ?_ | with_reducible refine ok_tr ?_ | simp (disch := decide) only [rI_s, rI_n, rI_2, rC_s, rC_n, rC_2, rJ_1, rJ_s, rJ_n, updI_at, if_pos, if_neg] | dsimp only)
    exact both_ok rfl (INV_thr i0)
  · by_cases p2 : 0 ≤ x1 ∧ x1 < h.1 67 4
    · repeat (first | with_reducible refine ok_gd (by first | omega | decide) ?_ | with_reducible refine ok_bs ?_ | with_reducible refine ok_be (sX12_refuse _ _) ?_ | with_reducible refine ok_be (sX12_told _ _) ?_ | with_reducible refine ok_ndt (sX11_needElement _ _) (by omega) ?_ | with_reducible refine ok_ndf (sX11_needElement _ _) (by omega) ?_ | with_reducible refine ok_ndt (sX11_needIndex _ _ _ _) (by omega) ?_ | with_reducible refine ok_ndf (sX11_needIndex _ _ _ _) (by omega) ?_ | with_reducible refine ok_ndt (sX11_needRange _ _ _ _) (by omega) ?_ | with_reducible refine ok_ndf (sX11_needRange _ _ _ _) (by omega) ?_ | with_reducible refine ok_ndt (sX11_needThat2 _ _) (by omega) ?_ | with_reducible refine ok_ndf (sX11_needThat2 _ _) (by omega) ?_ | with_reducible refine ok_ndt (sX11_needState2 _ _) (by omega) ?_ | with_reducible refine ok_ndf (sX11_needState2 _ _) (by omega) ?_ | with_reducible refine ok_ndt (sX11_needElement _ _) (by omega) ?_ | with_reducible refine ok_ndf (sX11_needElement _ _) (by omega) ?_ | with_reducible refine ok_ndt (sX11_needPlace _ _) (by omega) ?_ | with_reducible refine ok_ndf (sX11_needPlace _ _) (by omega) ?_ | with_reducible refine ok_ndt (sX11_needSender _ _) (by omega) ?_ | with_reducible refine ok_ndf (sX11_needSender _ _) (by omega) ?_ | with_reducible refine ok_b2t (sX12_in _ _ _ _) (by omega) ?_ | with_reducible refine ok_b2f (sX12_in _ _ _ _) (by omega) ?_ | with_reducible refine ok_b2t (sX12_isPlace _ _) (by omega) ?_ | with_reducible refine ok_b2f (sX12_isPlace _ _) (by omega) ?_ | with_reducible refine ok_pos (by omega) ?_ | with_reducible refine ok_neg (by omega) ?_ | with_reducible refine ok_tl ?_ | with_reducible refine ok_tr ?_ | simp (disch := decide) only [rI_s, rI_n, rI_2, rC_s, rC_n, rC_2, rJ_1, rJ_s, rJ_n, updI_at, if_pos, if_neg] | dsimp only)
      refine ok_some ?_
      have hb := (t2 x1.toNat (by omega)).1
      rw [show ((x1.toNat : Nat) : Int) = x1 by omega] at hb
      repeat (first | with_reducible refine ok_gd (by first | omega | decide) ?_ | with_reducible refine ok_bs ?_ | with_reducible refine ok_be (sX12_refuse _ _) ?_ | with_reducible refine ok_be (sX12_told _ _) ?_ | with_reducible refine ok_ndt (sX11_needIndex _ _ _ _) (by omega) ?_ | with_reducible refine ok_ndf (sX11_needIndex _ _ _ _) (by omega) ?_ | with_reducible refine ok_ndt (sX11_needRange _ _ _ _) (by omega) ?_ | with_reducible refine ok_ndf (sX11_needRange _ _ _ _) (by omega) ?_ | with_reducible refine ok_ndt (sX11_needThat2 _ _) (by omega) ?_ | with_reducible refine ok_ndf (sX11_needThat2 _ _) (by omega) ?_ | with_reducible refine ok_ndt (sX11_needState2 _ _) (by omega) ?_ | with_reducible refine ok_ndf (sX11_needState2 _ _) (by omega) ?_ | with_reducible refine ok_ndt (sX11_needElement _ _) (by omega) ?_ | with_reducible refine ok_ndf (sX11_needElement _ _) (by omega) ?_ | with_reducible refine ok_ndt (sX11_needPlace _ _) (by omega) ?_ | with_reducible refine ok_ndf (sX11_needPlace _ _) (by omega) ?_ | with_reducible refine ok_ndt (sX11_needSender _ _) (by omega) ?_ | with_reducible refine ok_ndf (sX11_needSender _ _) (by omega) ?_ | with_reducible refine ok_b2t (sX12_in _ _ _ _) (by omega) ?_ | with_reducible refine ok_b2f (sX12_in _ _ _ _) (by omega) ?_ | with_reducible refine ok_b2t (sX12_isPlace _ _) (by omega) ?_ | with_reducible refine ok_b2f (sX12_isPlace _ _) (by omega) ?_ | with_reducible refine ok_pos (by omega) ?_ | with_reducible refine ok_neg (by omega) ?_ | with_reducible refine ok_tl ?_ | with_reducible refine ok_tr ?_ | simp (disch := decide) only [rI_s, rI_n, rI_2, rC_s, rC_n, rC_2, rJ_1, rJ_s, rJ_n, updI_at, if_pos, if_neg] | dsimp only)
      exact both_ok (by show (hI h' 71 10 0).2 103 x1 = h.2 68 x1; rw [rI_2, hb]) (INV_thr i0)
    · by_cases p3 : x1 < 0
      · repeat (first | with_reducible refine ok_gd (by first | omega | decide) ?_ | with_reducible refine ok_bs ?_ | with_reducible refine ok_be (sX12_refuse _ _) ?_ | with_reducible refine ok_be (sX12_told _ _) ?_ | with_reducible refine ok_ndt (sX11_needElement _ _) (by omega) ?_ | with_reducible refine ok_ndf (sX11_needElement _ _) (by omega) ?_ | with_reducible refine ok_ndt (sX11_needIndex _ _ _ _) (by omega) ?_ | with_reducible refine ok_ndf (sX11_needIndex _ _ _ _) (by omega) ?_ | with_reducible refine ok_ndt (sX11_needRange _ _ _ _) (by omega) ?_ | with_reducible refine ok_ndf (sX11_needRange _ _ _ _) (by omega) ?_ | with_reducible refine ok_ndt (sX11_needThat2 _ _) (by omega) ?_ | with_reducible refine ok_ndf (sX11_needThat2 _ _) (by omega) ?_ | with_reducible refine ok_ndt (sX11_needState2 _ _) (by omega) ?_ | with_reducible refine ok_ndf (sX11_needState2 _ _) (by omega) ?_ | with_reducible refine ok_ndt (sX11_needElement _ _) (by omega) ?_ | with_reducible refine ok_ndf (sX11_needElement _ _) (by omega) ?_ | with_reducible refine ok_ndt (sX11_needPlace _ _) (by omega) ?_ | with_reducible refine ok_ndf (sX11_needPlace _ _) (by omega) ?_ | with_reducible refine ok_ndt (sX11_needSender _ _) (by omega) ?_ | with_reducible refine ok_ndf (sX11_needSender _ _) (by omega) ?_ | with_reducible refine ok_b2t (sX12_in _ _ _ _) (by omega) ?_ | with_reducible refine ok_b2f (sX12_in _ _ _ _) (by omega) ?_ | with_reducible refine ok_b2t (sX12_isPlace _ _) (by omega) ?_ | with_reducible refine ok_b2f (sX12_isPlace _ _) (by omega) ?_ | with_reducible refine ok_pos (by omega) ?_ | with_reducible refine ok_neg (by omega) ?_ | with_reducible refine ok_tl ?_ | with_reducible refine ok_tr ?_ | simp (disch := decide) only [rI_s, rI_n, rI_2, rC_s, rC_n, rC_2, rJ_1, rJ_s, rJ_n, updI_at, if_pos, if_neg] | dsimp only)
        refine ok_some ?_
        repeat (first | with_reducible refine ok_gd (by first | omega | decide) ?_ | with_reducible refine ok_bs ?_ | with_reducible refine ok_be (sX12_refuse _ _) ?_ | with_reducible refine ok_be (sX12_told _ _) ?_ | with_reducible refine ok_ndt (sX11_needIndex _ _ _ _) (by omega) ?_ | with_reducible refine ok_ndf (sX11_needIndex _ _ _ _) (by omega) ?_ | with_reducible refine ok_ndt (sX11_needRange _ _ _ _) (by omega) ?_ | with_reducible refine ok_ndf (sX11_needRange _ _ _ _) (by omega) ?_ | with_reducible refine ok_ndt (sX11_needThat2 _ _) (by omega) ?_ | with_reducible refine ok_ndf (sX11_needThat2 _ _) (by omega) ?_ | with_reducible refine ok_ndt (sX11_needState2 _ _) (by omega) ?_ | with_reducible refine ok_ndf (sX11_needState2 _ _) (by omega) ?_ | with_reducible refine ok_ndt (sX11_needElement _ _) (by omega) ?_ | with_reducible refine ok_ndf (sX11_needElement _ _) (by omega) ?_ | with_reducible refine ok_ndt (sX11_needPlace _ _) (by omega) ?_ | with_reducible refine ok_ndf (sX11_needPlace _ _) (by omega) ?_ | with_reducible refine ok_ndt (sX11_needSender _ _) (by omega) ?_ | with_reducible refine ok_ndf (sX11_needSender _ _) (by omega) ?_ | with_reducible refine ok_b2t (sX12_in _ _ _ _) (by omega) ?_ | with_reducible refine ok_b2f (sX12_in _ _ _ _) (by omega) ?_ | with_reducible refine ok_b2t (sX12_isPlace _ _) (by omega) ?_ | with_reducible refine ok_b2f (sX12_isPlace _ _) (by omega) ?_ | with_reducible refine ok_pos (by omega) ?_ | with_reducible refine ok_neg (by omega) ?_ | with_reducible refine ok_tl ?_ | with_reducible refine ok_tr ?_ | simp (disch := decide) only [rI_s, rI_n, rI_2, rC_s, rC_n, rC_2, rJ_1, rJ_s, rJ_n, updI_at, if_pos, if_neg] | dsimp only)
        exact both_thr i0 (by decide) rfl
      · repeat (first | with_reducible refine ok_gd (by first | omega | decide) ?_ | with_reducible refine ok_bs ?_ | with_reducible refine ok_be (sX12_refuse _ _) ?_ | with_reducible refine ok_be (sX12_told _ _) ?_ | with_reducible refine ok_ndt (sX11_needElement _ _) (by omega) ?_ | with_reducible refine ok_ndf (sX11_needElement _ _) (by omega) ?_ | with_reducible refine ok_ndt (sX11_needIndex _ _ _ _) (by omega) ?_ | with_reducible refine ok_ndf (sX11_needIndex _ _ _ _) (by omega) ?_ | with_reducible refine ok_ndt (sX11_needRange _ _ _ _) (by omega) ?_ | with_reducible refine ok_ndf (sX11_needRange _ _ _ _) (by omega) ?_ | with_reducible refine ok_ndt (sX11_needThat2 _ _) (by omega) ?_ | with_reducible refine ok_ndf (sX11_needThat2 _ _) (by omega) ?_ | with_reducible refine ok_ndt (sX11_needState2 _ _) (by omega) ?_ | with_reducible refine ok_ndf (sX11_needState2 _ _) (by omega) ?_ | with_reducible refine ok_ndt (sX11_needElement _ _) (by omega) ?_ | with_reducible refine ok_ndf (sX11_needElement _ _) (by omega) ?_ | with_reducible refine ok_ndt (sX11_needPlace _ _) (by omega) ?_ | with_reducible refine ok_ndf (sX11_needPlace _ _) (by omega) ?_ | with_reducible refine ok_ndt (sX11_needSender _ _) (by omega) ?_ | with_reducible refine ok_ndf (sX11_needSender _ _) (by omega) ?_ | with_reducible refine ok_b2t (sX12_in _ _ _ _) (by omega) ?_ | with_reducible refine ok_b2f (sX12_in _ _ _ _) (by omega) ?_ | with_reducible refine ok_b2t (sX12_isPlace _ _) (by omega) ?_ | with_reducible refine ok_b2f (sX12_isPlace _ _) (by omega) ?_ | with_reducible refine ok_pos (by omega) ?_ | with_reducible refine ok_neg (by omega) ?_ | with_reducible refine ok_tl ?_ | with_reducible refine ok_tr ?_ | simp (disch := decide) only [rI_s, rI_n, rI_2, rC_s, rC_n, rC_2, rJ_1, rJ_s, rJ_n, updI_at, if_pos, if_neg] | dsimp only)
        refine ok_some ?_
        repeat (first | with_reducible refine ok_gd (by first | omega | decide) ?_ | with_reducible refine ok_bs ?_ | with_reducible refine ok_be (sX12_refuse _ _) ?_ | with_reducible refine ok_be (sX12_told _ _) ?_ | with_reducible refine ok_ndt (sX11_needIndex _ _ _ _) (by omega) ?_ | with_reducible refine ok_ndf (sX11_needIndex _ _ _ _) (by omega) ?_ | with_reducible refine ok_ndt (sX11_needRange _ _ _ _) (by omega) ?_ | with_reducible refine ok_ndf (sX11_needRange _ _ _ _) (by omega) ?_ | with_reducible refine ok_ndt (sX11_needThat2 _ _) (by omega) ?_ | with_reducible refine ok_ndf (sX11_needThat2 _ _) (by omega) ?_ | with_reducible refine ok_ndt (sX11_needState2 _ _) (by omega) ?_ | with_reducible refine ok_ndf (sX11_needState2 _ _) (by omega) ?_ | with_reducible refine ok_ndt (sX11_needElement _ _) (by omega) ?_ | with_reducible refine ok_ndf (sX11_needElement _ _) (by omega) ?_ | with_reducible refine ok_ndt (sX11_needPlace _ _) (by omega) ?_ | with_reducible refine ok_ndf (sX11_needPlace _ _) (by omega) ?_ | with_reducible refine ok_ndt (sX11_needSender _ _) (by omega) ?_ | with_reducible refine ok_ndf (sX11_needSender _ _) (by omega) ?_ | with_reducible refine ok_b2t (sX12_in _ _ _ _) (by omega) ?_ | with_reducible refine ok_b2f (sX12_in _ _ _ _) (by omega) ?_ | with_reducible refine ok_b2t (sX12_isPlace _ _) (by omega) ?_ | with_reducible refine ok_b2f (sX12_isPlace _ _) (by omega) ?_ | with_reducible refine ok_pos (by omega) ?_ | with_reducible refine ok_neg (by omega) ?_ | with_reducible refine ok_tl ?_ | with_reducible refine ok_tr ?_ | simp (disch := decide) only [rI_s, rI_n, rI_2, rC_s, rC_n, rC_2, rJ_1, rJ_s, rJ_n, updI_at, if_pos, if_neg] | dsimp only)
        exact both_thr i0 (by decide) rfl
def bothD (h : HH) (x : Option UInt64) (y : Option (UInt64 × HH)) : Prop := Ok x (fun z => Ok y (fun r => (r.2.1 71 10 = 0 ∧ r.1 = z) ∧ INV h r.2))
theorem op_meanPay (i : INV h h') : bothD h (nX11_meanPay h) (nX12_meanPay h') := by
  obtain ⟨T, t1, t2, t3, t4⟩ := inv_books i
  have d := i.2.2.2.2.1
  have fI : ∀ {m : HH}, Fr scM h' m → ∀ {x : Int}, Fr scM h' (hI m 71 10 x) := fun f => fr_I f (by unfold scM; omega)
  have e44 : (hI h' 71 10 0).1 71 44 = h.1 67 4 := by simp (disch := decide) only [rI_s, rI_n, rI_2, rC_s, rC_n, rC_2, rJ_1, rJ_s, rJ_n, updI_at, if_pos, if_neg]; omega
  simp only [nX11_meanPay, bX11_meanPay, nX12_meanPay, bX12_meanPay, bothD]
  by_cases c : h.1 67 4 = 0
  · repeat (first | with_reducible refine ok_gd (by first | omega | decide) ?_ | with_reducible refine ok_bs ?_ | with_reducible refine ok_be (sX12_refuse _ _) ?_ | with_reducible refine ok_be (sX12_told _ _) ?_ | with_reducible refine ok_ndt (sX11_needIndex _ _ _ _) (by omega) ?_ | with_reducible refine ok_ndf (sX11_needIndex _ _ _ _) (by omega) ?_ | with_reducible refine ok_ndt (sX11_needRange _ _ _ _) (by omega) ?_ | with_reducible refine ok_ndf (sX11_needRange _ _ _ _) (by omega) ?_ | with_reducible refine ok_ndt (sX11_needThat2 _ _) (by omega) ?_ | with_reducible refine ok_ndf (sX11_needThat2 _ _) (by omega) ?_ | with_reducible refine ok_ndt (sX11_needState2 _ _) (by omega) ?_ | with_reducible refine ok_ndf (sX11_needState2 _ _) (by omega) ?_ | with_reducible refine ok_ndt (sX11_needElement _ _) (by omega) ?_ | with_reducible refine ok_ndf (sX11_needElement _ _) (by omega) ?_ | with_reducible refine ok_ndt (sX11_needPlace _ _) (by omega) ?_ | with_reducible refine ok_ndf (sX11_needPlace _ _) (by omega) ?_ | with_reducible refine ok_ndt (sX11_needSender _ _) (by omega) ?_ | with_reducible refine ok_ndf (sX11_needSender _ _) (by omega) ?_ | with_reducible refine ok_b2t (sX12_in _ _ _ _) (by omega) ?_ | with_reducible refine ok_b2f (sX12_in _ _ _ _) (by omega) ?_ | with_reducible refine ok_b2t (sX12_isPlace _ _) (by omega) ?_ | with_reducible refine ok_b2f (sX12_isPlace _ _) (by omega) ?_ | with_reducible refine ok_pos (by omega) ?_ | with_reducible refine ok_neg (by omega) ?_ | with_reducible refine ok_tl ?_ | with_reducible refine ok_tr ?_ | dsimp only)
    refine ok_some ?_
    repeat (first | with_reducible refine ok_gd (by first | omega | decide) ?_ | with_reducible refine ok_bs ?_ | with_reducible refine ok_be (sX12_refuse _ _) ?_ | with_reducible refine ok_be (sX12_told _ _) ?_ | with_reducible refine ok_ndt (sX11_needIndex _ _ _ _) (by omega) ?_ | with_reducible refine ok_ndf (sX11_needIndex _ _ _ _) (by omega) ?_ | with_reducible refine ok_ndt (sX11_needRange _ _ _ _) (by omega) ?_ | with_reducible refine ok_ndf (sX11_needRange _ _ _ _) (by omega) ?_ | with_reducible refine ok_ndt (sX11_needThat2 _ _) (by omega) ?_ | with_reducible refine ok_ndf (sX11_needThat2 _ _) (by omega) ?_ | with_reducible refine ok_ndt (sX11_needState2 _ _) (by omega) ?_ | with_reducible refine ok_ndf (sX11_needState2 _ _) (by omega) ?_ | with_reducible refine ok_ndt (sX11_needElement _ _) (by omega) ?_ | with_reducible refine ok_ndf (sX11_needElement _ _) (by omega) ?_ | with_reducible refine ok_ndt (sX11_needPlace _ _) (by omega) ?_ | with_reducible refine ok_ndf (sX11_needPlace _ _) (by omega) ?_ | with_reducible refine ok_ndt (sX11_needSender _ _) (by omega) ?_ | with_reducible refine ok_ndf (sX11_needSender _ _) (by omega) ?_ | with_reducible refine ok_b2t (sX12_in _ _ _ _) (by omega) ?_ | with_reducible refine ok_b2f (sX12_in _ _ _ _) (by omega) ?_ | with_reducible refine ok_b2t (sX12_isPlace _ _) (by omega) ?_ | with_reducible refine ok_b2f (sX12_isPlace _ _) (by omega) ?_ | with_reducible refine ok_pos (by omega) ?_ | with_reducible refine ok_neg (by omega) ?_ | with_reducible refine ok_tl ?_ | with_reducible refine ok_tr ?_ | dsimp only)
    exact ok_some ⟨⟨rI_s ▸ updI_s, rfl⟩, INV_thr i⟩
  · refine ok_neg c ?_
    refine ok_gd (ddiv_ok (by omega)) ?_
    refine ok_some ?_
    refine ok_bs ?_
    refine ok_neg (by omega) ?_
    refine ok_be (inv_sumOfBooks i (fI fr_r)) ?_
    rw [e44]
    refine ok_gd (ddiv_ok (by omega)) ?_
    exact ok_some ⟨⟨rI_s ▸ updI_s, rfl⟩, INV_thr i⟩
theorem ok_and {α : Type} {x : Option α} {P Q : α → Prop} (a : Ok x P) (b : Ok x Q) : Ok x (fun r => P r ∧ Q r) := by
  obtain ⟨a1, e1, p1⟩ := a
  obtain ⟨a2, e2, p2⟩ := b
  rw [e1] at e2
  cases e2
  exact ⟨a1, e1, p1, p2⟩
theorem inv_costOf10 (i : INV h h') {v : Int} (v0 : 0 ≤ v) (v1 : v < h.1 13 14) : Ok (nX12_costOf v h') (fun r => r.2.1 71 10 = h'.1 71 10) := by
  have hn := inv_n i
  have hr := inv_RV i v v0 (by omega)
  simp only [nX12_costOf, bX12_costOf]
  refine ok_bnd (inv_loads i v0 (by omega)) (fun m1 w1 => ?_)
  have i1 : INV h m1 := INV_scr i fr_r (row_scM w1.1)
  refine ok_bnd (inv_drives i1 v0 v1 (by omega) w1.2.2 hr.2) (fun m2 w2 => ?_)
  refine ok_some ?_
  show m2.2.1 71 10 = h'.1 71 10
  rw [w2.2.1.2 71 10 (by unfold sDr; omega), w1.1.2 71 10 (by unfold sRow; omega)]
def bothF (x : Option ((UInt32 ⊕ Nat) × HU)) (y : Option (UInt32 × HH)) (cd : Nat → Int) : Prop := Ok x (fun r => Ok y (fun r' => Sum.elim (fun z => r'.2.1 71 10 = 0 ∧ r'.1 = z) (fun e => cd e ≠ 0 ∧ r'.2.1 71 10 = cd e) r.1 ∧ INV r.2.1 r'.2))
theorem op_filled (i : INV h h') (x1 : Int) : bothF (nX11_filled x1 h) (nX12_filled x1 h') (cdX 1 0 0 0) := by
  have i0 := i
  have hv := i.1.1.1
  have hm := i.1.1.2
  have hn := inv_n i
  simp only [nX11_filled, bX11_filled, nX12_filled, bX12_filled, nX12_filled_14, bX12_filled_14, bothF]
  by_cases p1 : 0 ≤ x1 ∧ x1 < h.1 13 14
  · have hvv := v_v hv p1.1 p1.2
    have hrv := rm_v hm p1.1 p1.2
    have i1 : INV h (hI h' 71 10 0) := INV_thr i
    repeat (first | with_reducible refine ok_gd (by first | omega | decide) ?_ | with_reducible refine ok_bs ?_ | with_reducible refine ok_be (inv_sumOfSizes i p1.1 (by omega)) ?_ | with_reducible refine ok_be (sX12_refuse _ _) ?_ | with_reducible refine ok_be (sX12_told _ _) ?_ | with_reducible refine ok_ndt (sX11_needVan hv) (by omega) ?_ | with_reducible refine ok_ndf (sX11_needVan hv) (by omega) ?_ | with_reducible refine ok_ndt (sX11_needParcel hv) (by omega) ?_ | with_reducible refine ok_ndf (sX11_needParcel hv) (by omega) ?_ | with_reducible refine ok_ndt (sX11_needIndex _ _ _ _) (by omega) ?_ | with_reducible refine ok_ndf (sX11_needIndex _ _ _ _) (by omega) ?_ | with_reducible refine ok_ndt (sX11_needRange _ _ _ _) (by omega) ?_ | with_reducible refine ok_ndf (sX11_needRange _ _ _ _) (by omega) ?_ | with_reducible refine ok_ndt (sX11_needThat2 _ _) (by omega) ?_ | with_reducible refine ok_ndf (sX11_needThat2 _ _) (by omega) ?_ | with_reducible refine ok_ndt (sX11_needState2 _ _) (by omega) ?_ | with_reducible refine ok_ndf (sX11_needState2 _ _) (by omega) ?_ | with_reducible refine ok_ndt (sX11_needElement _ _) (by omega) ?_ | with_reducible refine ok_ndf (sX11_needElement _ _) (by omega) ?_ | with_reducible refine ok_ndt (sX11_needPlace _ _) (by omega) ?_ | with_reducible refine ok_ndf (sX11_needPlace _ _) (by omega) ?_ | with_reducible refine ok_ndt (sX11_needSender _ _) (by omega) ?_ | with_reducible refine ok_ndf (sX11_needSender _ _) (by omega) ?_ | with_reducible refine ok_b2t (sX12_isVan hm hv) (by omega) ?_ | with_reducible refine ok_b2f (sX12_isVan hm hv) (by omega) ?_ | with_reducible refine ok_b2t (sX12_isParcel hm hv) (by omega) ?_ | with_reducible refine ok_b2f (sX12_isParcel hm hv) (by omega) ?_ | with_reducible refine ok_b2t (sX12_in _ _ _ _) (by omega) ?_ | with_reducible refine ok_b2f (sX12_in _ _ _ _) (by omega) ?_ | with_reducible refine ok_b2t (sX12_isPlace _ _) (by omega) ?_ | with_reducible refine ok_b2f (sX12_isPlace _ _) (by omega) ?_ | with_reducible refine ok_pos (by omega) ?_ | with_reducible refine ok_neg (by omega) ?_ | with_reducible refine ok_tl ?_ | with_reducible refine ok_tr ?_ | dsimp only)
    refine ok_gd (fdiv_ok (by omega)) ?_
    repeat (first | with_reducible refine ok_gd (by first | omega | decide) ?_ | with_reducible refine ok_bs ?_ | with_reducible refine ok_be (sX12_refuse _ _) ?_ | with_reducible refine ok_be (sX12_told _ _) ?_ | with_reducible refine ok_ndt (sX11_needIndex _ _ _ _) (by omega) ?_ | with_reducible refine ok_ndf (sX11_needIndex _ _ _ _) (by omega) ?_ | with_reducible refine ok_ndt (sX11_needRange _ _ _ _) (by omega) ?_ | with_reducible refine ok_ndf (sX11_needRange _ _ _ _) (by omega) ?_ | with_reducible refine ok_ndt (sX11_needThat2 _ _) (by omega) ?_ | with_reducible refine ok_ndf (sX11_needThat2 _ _) (by omega) ?_ | with_reducible refine ok_ndt (sX11_needState2 _ _) (by omega) ?_ | with_reducible refine ok_ndf (sX11_needState2 _ _) (by omega) ?_ | with_reducible refine ok_ndt (sX11_needElement _ _) (by omega) ?_ | with_reducible refine ok_ndf (sX11_needElement _ _) (by omega) ?_ | with_reducible refine ok_ndt (sX11_needPlace _ _) (by omega) ?_ | with_reducible refine ok_ndf (sX11_needPlace _ _) (by omega) ?_ | with_reducible refine ok_ndt (sX11_needSender _ _) (by omega) ?_ | with_reducible refine ok_ndf (sX11_needSender _ _) (by omega) ?_ | with_reducible refine ok_b2t (sX12_in _ _ _ _) (by omega) ?_ | with_reducible refine ok_b2f (sX12_in _ _ _ _) (by omega) ?_ | with_reducible refine ok_b2t (sX12_isPlace _ _) (by omega) ?_ | with_reducible refine ok_b2f (sX12_isPlace _ _) (by omega) ?_ | with_reducible refine ok_pos (by omega) ?_ | with_reducible refine ok_neg (by omega) ?_ | with_reducible refine ok_tl ?_ | with_reducible refine ok_tr ?_ | dsimp only)
    refine ok_some ?_
    repeat (first | with_reducible refine ok_gd (by first | omega | decide) ?_ | with_reducible refine ok_bs ?_ | with_reducible refine ok_be (sX12_refuse _ _) ?_ | with_reducible refine ok_be (sX12_told _ _) ?_ | with_reducible refine ok_ndt (sX11_needVan hv) (by omega) ?_ | with_reducible refine ok_ndf (sX11_needVan hv) (by omega) ?_ | with_reducible refine ok_ndt (sX11_needParcel hv) (by omega) ?_ | with_reducible refine ok_ndf (sX11_needParcel hv) (by omega) ?_ | with_reducible refine ok_ndt (sX11_needIndex _ _ _ _) (by omega) ?_ | with_reducible refine ok_ndf (sX11_needIndex _ _ _ _) (by omega) ?_ | with_reducible refine ok_ndt (sX11_needRange _ _ _ _) (by omega) ?_ | with_reducible refine ok_ndf (sX11_needRange _ _ _ _) (by omega) ?_ | with_reducible refine ok_ndt (sX11_needThat2 _ _) (by omega) ?_ | with_reducible refine ok_ndf (sX11_needThat2 _ _) (by omega) ?_ | with_reducible refine ok_ndt (sX11_needState2 _ _) (by omega) ?_ | with_reducible refine ok_ndf (sX11_needState2 _ _) (by omega) ?_ | with_reducible refine ok_ndt (sX11_needElement _ _) (by omega) ?_ | with_reducible refine ok_ndf (sX11_needElement _ _) (by omega) ?_ | with_reducible refine ok_ndt (sX11_needPlace _ _) (by omega) ?_ | with_reducible refine ok_ndf (sX11_needPlace _ _) (by omega) ?_ | with_reducible refine ok_ndt (sX11_needSender _ _) (by omega) ?_ | with_reducible refine ok_ndf (sX11_needSender _ _) (by omega) ?_ | with_reducible refine ok_b2t (sX12_isVan hm hv) (by omega) ?_ | with_reducible refine ok_b2f (sX12_isVan hm hv) (by omega) ?_ | with_reducible refine ok_b2t (sX12_isParcel hm hv) (by omega) ?_ | with_reducible refine ok_b2f (sX12_isParcel hm hv) (by omega) ?_ | with_reducible refine ok_b2t (sX12_in _ _ _ _) (by omega) ?_ | with_reducible refine ok_b2f (sX12_in _ _ _ _) (by omega) ?_ | with_reducible refine ok_b2t (sX12_isPlace _ _) (by omega) ?_ | with_reducible refine ok_b2f (sX12_isPlace _ _) (by omega) ?_ | with_reducible refine ok_pos (by omega) ?_ | with_reducible refine ok_neg (by omega) ?_ | with_reducible refine ok_tl ?_ | with_reducible refine ok_tr ?_ | simp (disch := decide) only [rI_s, rI_n, rI_2, rC_s, rC_n, rC_2, rJ_1, rJ_s, rJ_n, updI_at, if_pos, if_neg] | dsimp only)
    refine ok_bnd (ok_and (inv_costOf i1 p1.1 p1.2) (inv_costOf10 i1 p1.1 p1.2)) (fun r q2 => ?_)
    obtain ⟨q, q10⟩ := q2
    have e57 := q.2.2.1.2.2.2.2
    have e91 : r.2.1 91 x1 = h.1 23 x1 := by
      rw [q.2.1.1.2 91 _ (by unfold scM; omega)]
      simp (disch := decide) only [rI_s, rI_n, rI_2, rC_s, rC_n, rC_2, rJ_1, rJ_s, rJ_n, updI_at, if_pos, if_neg]
      exact hrv.1
    have e10 : r.2.1 71 10 = 0 := by rw [q10]; exact rI_s ▸ updI_s
    rw [e57, e91]
    refine ok_gd (by omega) ?_
    refine ok_gd (fdiv_ok (by omega)) ?_
    exact ok_some ⟨⟨e10, rfl⟩, INV_scr i1 fr_r q.2.1.1⟩
  · repeat (first | with_reducible refine ok_gd (by first | omega | decide) ?_ | with_reducible refine ok_bs ?_ | with_reducible refine ok_be (sX12_refuse _ _) ?_ | with_reducible refine ok_be (sX12_told _ _) ?_ | with_reducible refine ok_ndt (sX11_needVan hv) (by omega) ?_ | with_reducible refine ok_ndf (sX11_needVan hv) (by omega) ?_ | with_reducible refine ok_ndt (sX11_needParcel hv) (by omega) ?_ | with_reducible refine ok_ndf (sX11_needParcel hv) (by omega) ?_ | with_reducible refine ok_ndt (sX11_needIndex _ _ _ _) (by omega) ?_ | with_reducible refine ok_ndf (sX11_needIndex _ _ _ _) (by omega) ?_ | with_reducible refine ok_ndt (sX11_needRange _ _ _ _) (by omega) ?_ | with_reducible refine ok_ndf (sX11_needRange _ _ _ _) (by omega) ?_ | with_reducible refine ok_ndt (sX11_needThat2 _ _) (by omega) ?_ | with_reducible refine ok_ndf (sX11_needThat2 _ _) (by omega) ?_ | with_reducible refine ok_ndt (sX11_needState2 _ _) (by omega) ?_ | with_reducible refine ok_ndf (sX11_needState2 _ _) (by omega) ?_ | with_reducible refine ok_ndt (sX11_needElement _ _) (by omega) ?_ | with_reducible refine ok_ndf (sX11_needElement _ _) (by omega) ?_ | with_reducible refine ok_ndt (sX11_needPlace _ _) (by omega) ?_ | with_reducible refine ok_ndf (sX11_needPlace _ _) (by omega) ?_ | with_reducible refine ok_ndt (sX11_needSender _ _) (by omega) ?_ | with_reducible refine ok_ndf (sX11_needSender _ _) (by omega) ?_ | with_reducible refine ok_b2t (sX12_isVan hm hv) (by omega) ?_ | with_reducible refine ok_b2f (sX12_isVan hm hv) (by omega) ?_ | with_reducible refine ok_b2t (sX12_isParcel hm hv) (by omega) ?_ | with_reducible refine ok_b2f (sX12_isParcel hm hv) (by omega) ?_ | with_reducible refine ok_b2t (sX12_in _ _ _ _) (by omega) ?_ | with_reducible refine ok_b2f (sX12_in _ _ _ _) (by omega) ?_ | with_reducible refine ok_b2t (sX12_isPlace _ _) (by omega) ?_ | with_reducible refine ok_b2f (sX12_isPlace _ _) (by omega) ?_ | with_reducible refine ok_pos (by omega) ?_ | with_reducible refine ok_neg (by omega) ?_ | with_reducible refine ok_tl ?_ | with_reducible refine ok_tr ?_ | dsimp only)
    refine ok_some ?_
    repeat (first | with_reducible refine ok_gd (by first | omega | decide) ?_ | with_reducible refine ok_bs ?_ | with_reducible refine ok_be (sX12_refuse _ _) ?_ | with_reducible refine ok_be (sX12_told _ _) ?_ | with_reducible refine ok_ndt (sX11_needVan hv) (by omega) ?_ | with_reducible refine ok_ndf (sX11_needVan hv) (by omega) ?_ | with_reducible refine ok_ndt (sX11_needParcel hv) (by omega) ?_ | with_reducible refine ok_ndf (sX11_needParcel hv) (by omega) ?_ | with_reducible refine ok_ndt (sX11_needIndex _ _ _ _) (by omega) ?_ | with_reducible refine ok_ndf (sX11_needIndex _ _ _ _) (by omega) ?_ | with_reducible refine ok_ndt (sX11_needRange _ _ _ _) (by omega) ?_ | with_reducible refine ok_ndf (sX11_needRange _ _ _ _) (by omega) ?_ | with_reducible refine ok_ndt (sX11_needThat2 _ _) (by omega) ?_ | with_reducible refine ok_ndf (sX11_needThat2 _ _) (by omega) ?_ | with_reducible refine ok_ndt (sX11_needState2 _ _) (by omega) ?_ | with_reducible refine ok_ndf (sX11_needState2 _ _) (by omega) ?_ | with_reducible refine ok_ndt (sX11_needElement _ _) (by omega) ?_ | with_reducible refine ok_ndf (sX11_needElement _ _) (by omega) ?_ | with_reducible refine ok_ndt (sX11_needPlace _ _) (by omega) ?_ | with_reducible refine ok_ndf (sX11_needPlace _ _) (by omega) ?_ | with_reducible refine ok_ndt (sX11_needSender _ _) (by omega) ?_ | with_reducible refine ok_ndf (sX11_needSender _ _) (by omega) ?_ | with_reducible refine ok_b2t (sX12_isVan hm hv) (by omega) ?_ | with_reducible refine ok_b2f (sX12_isVan hm hv) (by omega) ?_ | with_reducible refine ok_b2t (sX12_isParcel hm hv) (by omega) ?_ | with_reducible refine ok_b2f (sX12_isParcel hm hv) (by omega) ?_ | with_reducible refine ok_b2t (sX12_in _ _ _ _) (by omega) ?_ | with_reducible refine ok_b2f (sX12_in _ _ _ _) (by omega) ?_ | with_reducible refine ok_b2t (sX12_isPlace _ _) (by omega) ?_ | with_reducible refine ok_b2f (sX12_isPlace _ _) (by omega) ?_ | with_reducible refine ok_pos (by omega) ?_ | with_reducible refine ok_neg (by omega) ?_ | with_reducible refine ok_tl ?_ | with_reducible refine ok_tr ?_ | simp (disch := decide) only [rI_s, rI_n, rI_2, rC_s, rC_n, rC_2, rJ_1, rJ_s, rJ_n, updI_at, if_pos, if_neg] | dsimp only)
    exact ok_some ⟨⟨by decide, rI_s ▸ updI_s⟩, INV_thr i0⟩
theorem op_pay (i : INV h h') (x1 x2 : Int) : both (nX11_pay x1 x2 h) (nX12_pay x1 x2 h') (cdX 0 1 2 0) := by
  have i0 := i
  have hn := inv_n i
  obtain ⟨T, t1, t2, t3, t4⟩ := inv_books i
  obtain ⟨⟨⟨a1, a2⟩, a3, a4, a5⟩, ⟨b1, b2, b3⟩, c1, c2, c3⟩ := i
  obtain ⟨d1, d2, d3⟩ := c3
  obtain ⟨e1, e2, e3, e4, e5, e6, e7⟩ := d1
  obtain ⟨q1, q2, q3⟩ := b3
  have hs := sumS_1 (g := fun p => if h.1 20 p = 1 then 1 else 0) (n := (h.1 13 10).toNat) (fun j _ => by
    show 0 ≤ (if h.1 20 (j : Int) = 1 then (1 : Int) else 0) ∧ (if h.1 20 (j : Int) = 1 then (1 : Int) else 0) ≤ 1
    split <;> omega)
  simp only [nX11_pay, bX11_pay, nX11_pay_33, bX11_pay_33, nX5_enter, bX5_enter, bnd_gd, bnd_bnd, nX12_pay, bX12_pay, nX12_pay_22, bX12_pay_22, nX12_pay_77, bX12_pay_77, both]
  by_cases p1 : 0 ≤ x1 ∧ x1 ≤ 9000000
  · by_cases p2 : 0 ≤ x2 ∧ x2 ≤ 99999
    · by_cases p3 : h.1 67 4 < 50
      · have m1 := mul_b (A := 9) (B := 9999) (a := h.1 67 2) (b := h.1 67 0) (by omega) (by omega)
        have m2 := mul_b (A := 9000000) (B := 9999) (a := x1) (b := h.1 67 1) (by omega) (by omega)
        have m3 : 0 ≤ (x1 * h.1 67 1 + 500) / 1000 ∧ (x1 * h.1 67 1 + 500) / 1000 ≤ x1 * h.1 67 1 + 500 := div_b (by omega) (by omega)
        obtain ⟨c, hc⟩ : ∃ c, c = h.1 67 2 * h.1 67 0 + (x1 * h.1 67 1 + 500) / 1000 + x2 := ⟨_, rfl⟩
        have hcb : 0 ≤ c ∧ c ≤ 100000000000000 := by omega
        have hc' : h'.1 71 43 * h'.1 71 41 + (x1 * h'.1 71 42 + 500) / 1000 + x2 = c := by rw [hc, e4, e5, e6]
        have n1 := mul_b (A := 9) (B := 9999) (a := h'.1 71 43) (b := h'.1 71 41) (by omega) (by omega)
        have n2 := mul_b (A := 9000000) (B := 9999) (a := x1) (b := h'.1 71 42) (by omega) (by omega)
        have n3 : 0 ≤ (x1 * h'.1 71 42 + 500) / 1000 ∧ (x1 * h'.1 71 42 + 500) / 1000 ≤ x1 * h'.1 71 42 + 500 := div_b (by omega) (by omega)
        repeat (first | with_reducible refine ok_gd (by first | omega | decide) ?_ | with_reducible refine ok_bs ?_ | with_reducible refine ok_be (sX12_refuse _ _) ?_ | with_reducible refine ok_be (sX12_told _ _) ?_ | with_reducible refine ok_ndt (sX11_needIndex _ _ _ _) (by omega) ?_ | with_reducible refine ok_ndf (sX11_needIndex _ _ _ _) (by omega) ?_ | with_reducible refine ok_ndt (sX11_needRange _ _ _ _) (by omega) ?_ | with_reducible refine ok_ndf (sX11_needRange _ _ _ _) (by omega) ?_ | with_reducible refine ok_ndt (sX11_needThat2 _ _) (by omega) ?_ | with_reducible refine ok_ndf (sX11_needThat2 _ _) (by omega) ?_ | with_reducible refine ok_ndt (sX11_needState2 _ _) (by omega) ?_ | with_reducible refine ok_ndf (sX11_needState2 _ _) (by omega) ?_ | with_reducible refine ok_ndt (sX11_needElement _ _) (by omega) ?_ | with_reducible refine ok_ndf (sX11_needElement _ _) (by omega) ?_ | with_reducible refine ok_ndt (sX11_needPlace _ _) (by omega) ?_ | with_reducible refine ok_ndf (sX11_needPlace _ _) (by omega) ?_ | with_reducible refine ok_ndt (sX11_needSender _ _) (by omega) ?_ | with_reducible refine ok_ndf (sX11_needSender _ _) (by omega) ?_ | with_reducible refine ok_b2t (sX12_in _ _ _ _) (by omega) ?_ | with_reducible refine ok_b2f (sX12_in _ _ _ _) (by omega) ?_ | with_reducible refine ok_b2t (sX12_isPlace _ _) (by omega) ?_ | with_reducible refine ok_b2f (sX12_isPlace _ _) (by omega) ?_ | with_reducible refine ok_pos (by omega) ?_ | with_reducible refine ok_neg (by omega) ?_ | with_reducible refine ok_tl ?_ | with_reducible refine ok_tr ?_ | simp (disch := decide) only [rI_s, rI_n, rI_2, rC_s, rC_n, rC_2, rJ_1, rJ_s, rJ_n, updI_at, if_pos, if_neg] | dsimp only)
        refine ok_some ?_
        rw [← hc, hc']
        repeat (first | with_reducible refine ok_gd (by first | omega | decide) ?_ | with_reducible refine ok_bs ?_ | with_reducible refine ok_be (sX12_refuse _ _) ?_ | with_reducible refine ok_be (sX12_told _ _) ?_ | with_reducible refine ok_ndt (sX11_needIndex _ _ _ _) (by omega) ?_ | with_reducible refine ok_ndf (sX11_needIndex _ _ _ _) (by omega) ?_ | with_reducible refine ok_ndt (sX11_needRange _ _ _ _) (by omega) ?_ | with_reducible refine ok_ndf (sX11_needRange _ _ _ _) (by omega) ?_ | with_reducible refine ok_ndt (sX11_needThat2 _ _) (by omega) ?_ | with_reducible refine ok_ndf (sX11_needThat2 _ _) (by omega) ?_ | with_reducible refine ok_ndt (sX11_needState2 _ _) (by omega) ?_ | with_reducible refine ok_ndf (sX11_needState2 _ _) (by omega) ?_ | with_reducible refine ok_ndt (sX11_needElement _ _) (by omega) ?_ | with_reducible refine ok_ndf (sX11_needElement _ _) (by omega) ?_ | with_reducible refine ok_ndt (sX11_needPlace _ _) (by omega) ?_ | with_reducible refine ok_ndf (sX11_needPlace _ _) (by omega) ?_ | with_reducible refine ok_ndt (sX11_needSender _ _) (by omega) ?_ | with_reducible refine ok_ndf (sX11_needSender _ _) (by omega) ?_ | with_reducible refine ok_b2t (sX12_in _ _ _ _) (by omega) ?_ | with_reducible refine ok_b2f (sX12_in _ _ _ _) (by omega) ?_ | with_reducible refine ok_b2t (sX12_isPlace _ _) (by omega) ?_ | with_reducible refine ok_b2f (sX12_isPlace _ _) (by omega) ?_ | with_reducible refine ok_pos (by omega) ?_ | with_reducible refine ok_neg (by omega) ?_ | with_reducible refine ok_tl ?_ | with_reducible refine ok_tr ?_ | simp (disch := decide) only [rI_s, rI_n, rI_2, rC_s, rC_n, rC_2, rJ_1, rJ_s, rJ_n, updI_at, if_pos, if_neg] | dsimp only)
        refine ok_gd (by unfold R32; omega) ?_
        repeat (first | with_reducible refine ok_gd (by first | omega | decide) ?_ | with_reducible refine ok_bs ?_ | with_reducible refine ok_be (sX12_refuse _ _) ?_ | with_reducible refine ok_be (sX12_told _ _) ?_ | with_reducible refine ok_ndt (sX11_needIndex _ _ _ _) (by omega) ?_ | with_reducible refine ok_ndf (sX11_needIndex _ _ _ _) (by omega) ?_ | with_reducible refine ok_ndt (sX11_needRange _ _ _ _) (by omega) ?_ | with_reducible refine ok_ndf (sX11_needRange _ _ _ _) (by omega) ?_ | with_reducible refine ok_ndt (sX11_needThat2 _ _) (by omega) ?_ | with_reducible refine ok_ndf (sX11_needThat2 _ _) (by omega) ?_ | with_reducible refine ok_ndt (sX11_needState2 _ _) (by omega) ?_ | with_reducible refine ok_ndf (sX11_needState2 _ _) (by omega) ?_ | with_reducible refine ok_ndt (sX11_needElement _ _) (by omega) ?_ | with_reducible refine ok_ndf (sX11_needElement _ _) (by omega) ?_ | with_reducible refine ok_ndt (sX11_needPlace _ _) (by omega) ?_ | with_reducible refine ok_ndf (sX11_needPlace _ _) (by omega) ?_ | with_reducible refine ok_ndt (sX11_needSender _ _) (by omega) ?_ | with_reducible refine ok_ndf (sX11_needSender _ _) (by omega) ?_ | with_reducible refine ok_b2t (sX12_in _ _ _ _) (by omega) ?_ | with_reducible refine ok_b2f (sX12_in _ _ _ _) (by omega) ?_ | with_reducible refine ok_b2t (sX12_isPlace _ _) (by omega) ?_ | with_reducible refine ok_b2f (sX12_isPlace _ _) (by omega) ?_ | with_reducible refine ok_pos (by omega) ?_ | with_reducible refine ok_neg (by omega) ?_ | with_reducible refine ok_tl ?_ | with_reducible refine ok_tr ?_ | simp (disch := decide) only [rI_s, rI_n, rI_2, rC_s, rC_n, rC_2, rJ_1, rJ_s, rJ_n, updI_at, if_pos, if_neg] | dsimp only)
        refine both_ok rfl (INV_thr ?_)
        have f : True ∧ ∀ k, ¬ scT (fun k => k = 67) k → (hJ (hI (hJ (hI h 67 2 0) 68 (h.1 67 4) c) 67 4 (h.1 67 4 + 1)) 67 5 (h.2 67 5 + c)).1 k = h.1 k := ⟨trivial, fun k hk => by
          have : k ≠ 67 := fun q => hk (Or.inr q)
          rw [rJ_1, rI_n this, rJ_1, rI_n this]⟩
        have f' : True ∧ (∀ k, k ≠ 71 → ¬ scU (fun k => k = 0) k → (hI (hI (hJ h' 103 (h'.1 71 44) c) 71 44 (h'.1 71 44 + 1)) 71 43 0).1 k = h'.1 k) ∧ ∀ k, ¬ sc7 (fun k => k = 43 ∨ k = 44) k → (hI (hI (hJ h' 103 (h'.1 71 44) c) 71 44 (h'.1 71 44 + 1)) 71 43 0).1 71 k = h'.1 71 k := ⟨trivial, fun k h71 _ => by rw [rI_n h71, rI_n h71, rJ_1], fun k hk => by
          have g1 : k ≠ 43 := fun q => hk (Or.inr (Or.inl q))
          have g2 : k ≠ 44 := fun q => hk (Or.inr (Or.inr q))
          rw [rI_s, updI_n g1, rI_s, updI_n g2, rJ_1]⟩
        refine ⟨⟨⟨(VAL_eq a1 (fun c hc => f.2 c (by dsimp only [scT, scU, sc7, rC, rMm, r7]; omega)) (by rw [f.2 13 (by dsimp only [scT, scU, sc7, rC, rMm, r7]; omega)]; exact ⟨rfl, rfl⟩)), (RM_eq (RM_K a2 (fun c hc => f.2 c (by dsimp only [scT, scU, sc7, rC, rMm, r7]; omega)) (by rw [f.2 13 (by dsimp only [scT, scU, sc7, rC, rMm, r7]; omega)]; exact ⟨rfl, rfl⟩)) (fun c hc => f'.2.1 c (by omega) (by dsimp only [scT, scU, sc7, rC, rMm, r7]; omega)) (fun i hi => f'.2.2 i (by dsimp only [scT, scU, sc7, rC, rMm, r7]; omega)))⟩, (iS_eq a3 (fun c hc => f.2 c (by dsimp only [scT, scU, sc7, rC, rMm, r7]; omega)) (fun c hc => f'.2.1 c (by omega) (by dsimp only [scT, scU, sc7, rC, rMm, r7]; omega)) (f'.2.2 9 (by dsimp only [scT, scU, sc7, rC, rMm, r7]; omega))), (iY_eq a4 (fun c hc => f.2 c (by dsimp only [scT, scU, sc7, rC, rMm, r7]; omega)) (fun c hc => f'.2.1 c (by omega) (by dsimp only [scT, scU, sc7, rC, rMm, r7]; omega))), (iF_eq a5 (f.2 10 (by dsimp only [scT, scU, sc7, rC, rMm, r7]; omega)) (f'.2.1 77 (by omega) (by dsimp only [scT, scU, sc7, rC, rMm, r7]; omega)))⟩, ⟨(iR_eq b1 (f.2 7 (by dsimp only [scT, scU, sc7, rC, rMm, r7]; omega)) (fun c hc => f.2 c (by dsimp only [scT, scU, sc7, rC, rMm, r7]; omega)) (by rw [f.2 13 (by dsimp only [scT, scU, sc7, rC, rMm, r7]; omega)]; exact ⟨rfl, rfl⟩) (fun c hc => f'.2.1 c (by omega) (by dsimp only [scT, scU, sc7, rC, rMm, r7]; omega))), (iH_eq b2 (f.2 7 (by dsimp only [scT, scU, sc7, rC, rMm, r7]; omega)) (fun c hc => f.2 c (by dsimp only [scT, scU, sc7, rC, rMm, r7]; omega)) (by rw [f.2 13 (by dsimp only [scT, scU, sc7, rC, rMm, r7]; omega)]; exact ⟨rfl, rfl⟩) (fun c hc => f'.2.1 c (by omega) (by dsimp only [scT, scU, sc7, rC, rMm, r7]; omega)) (f'.2.2 30 (by dsimp only [scT, scU, sc7, rC, rMm, r7]; omega))), ?_⟩, (iO_eq c1 (f.2 59 (by dsimp only [scT, scU, sc7, rC, rMm, r7]; omega)) (fun c hc => f'.2.1 c (by omega) (by dsimp only [scT, scU, sc7, rC, rMm, r7]; omega)) (fun i hi => f'.2.2 i (by dsimp only [scT, scU, sc7, rC, rMm, r7]; omega))), (iD_eq c2 (fun c hc => f.2 c (by dsimp only [scT, scU, sc7, rC, rMm, r7]; omega)) (fun c hc => f'.2.1 c (by omega) (by dsimp only [scT, scU, sc7, rC, rMm, r7]; omega)) (f'.2.2 40 (by dsimp only [scT, scU, sc7, rC, rMm, r7]; omega))), ?_⟩
        · unfold iQ
          rw [f.2 20 (by dsimp only [scT, scU, sc7, rC, rMm, r7]; omega), f.2 21 (by dsimp only [scT, scU, sc7, rC, rMm, r7]; omega), f.2 13 (by dsimp only [scT, scU, sc7, rC, rMm, r7]; omega), f'.2.1 84 (by decide) (by dsimp only [scT, scU, sc7, rC, rMm, r7]; omega), f'.2.1 86 (by decide) (by dsimp only [scT, scU, sc7, rC, rMm, r7]; omega), f'.2.1 87 (by decide) (by dsimp only [scT, scU, sc7, rC, rMm, r7]; omega), f'.2.1 88 (by decide) (by dsimp only [scT, scU, sc7, rC, rMm, r7]; omega)]
          simp (disch := decide) only [rI_s, rI_n, rI_2, rC_s, rC_n, rC_2, rJ_1, rJ_s, rJ_n, updI_at, if_pos, if_neg]
          exact ⟨q1, q2, by omega, Int.le_trans q3.1 q3.2⟩
        · unfold iL
          have g44 : h'.1 71 44 = T := by omega
          have g4 : h.1 67 4 = T := t1.1.symm
          simp (disch := decide) only [rI_s, rI_n, rI_2, rC_s, rC_n, rC_2, rJ_1, rJ_s, rJ_n, updI_at, if_pos, if_neg]
          rw [g44, g4]
          refine ⟨⟨e1, e2, by omega, by omega, by omega, trivial, rfl⟩, fun k k0 k1 => ?_, ?_⟩
          · by_cases q : k = T
            · rw [if_pos q, if_pos q]; exact ⟨rfl, hcb⟩
            · rw [if_neg q, if_neg q]
              exact d2 k k0 (by omega)
          · rw [show ((T : Int) + 1).toNat = T + 1 by omega, sumS, updI_s, d3, g4, show ((T : Int)).toNat = T by omega]
            congr 1
            exact (sumS_cg (fun j hj => updI_n (by omega))).symm
      · repeat (first | with_reducible refine ok_gd (by first | omega | decide) ?_ | with_reducible refine ok_bs ?_ | with_reducible refine ok_be (sX12_refuse _ _) ?_ | with_reducible refine ok_be (sX12_told _ _) ?_ | with_reducible refine ok_ndt (sX11_needIndex _ _ _ _) (by omega) ?_ | with_reducible refine ok_ndf (sX11_needIndex _ _ _ _) (by omega) ?_ | with_reducible refine ok_ndt (sX11_needRange _ _ _ _) (by omega) ?_ | with_reducible refine ok_ndf (sX11_needRange _ _ _ _) (by omega) ?_ | with_reducible refine ok_ndt (sX11_needThat2 _ _) (by omega) ?_ | with_reducible refine ok_ndf (sX11_needThat2 _ _) (by omega) ?_ | with_reducible refine ok_ndt (sX11_needState2 _ _) (by omega) ?_ | with_reducible refine ok_ndf (sX11_needState2 _ _) (by omega) ?_ | with_reducible refine ok_ndt (sX11_needElement _ _) (by omega) ?_ | with_reducible refine ok_ndf (sX11_needElement _ _) (by omega) ?_ | with_reducible refine ok_ndt (sX11_needPlace _ _) (by omega) ?_ | with_reducible refine ok_ndf (sX11_needPlace _ _) (by omega) ?_ | with_reducible refine ok_ndt (sX11_needSender _ _) (by omega) ?_ | with_reducible refine ok_ndf (sX11_needSender _ _) (by omega) ?_ | with_reducible refine ok_b2t (sX12_in _ _ _ _) (by omega) ?_ | with_reducible refine ok_b2f (sX12_in _ _ _ _) (by omega) ?_ | with_reducible refine ok_b2t (sX12_isPlace _ _) (by omega) ?_ | with_reducible refine ok_b2f (sX12_isPlace _ _) (by omega) ?_ | with_reducible refine ok_pos (by omega) ?_ | with_reducible refine ok_neg (by omega) ?_ | with_reducible refine ok_tl ?_ | with_reducible refine ok_tr ?_ | simp (disch := decide) only [rI_s, rI_n, rI_2, rC_s, rC_n, rC_2, rJ_1, rJ_s, rJ_n, updI_at, if_pos, if_neg] | dsimp only)
        refine ok_some ?_
        repeat (first | with_reducible refine ok_gd (by first | omega | decide) ?_ | with_reducible refine ok_bs ?_ | with_reducible refine ok_be (sX12_refuse _ _) ?_ | with_reducible refine ok_be (sX12_told _ _) ?_ | with_reducible refine ok_ndt (sX11_needIndex _ _ _ _) (by omega) ?_ | with_reducible refine ok_ndf (sX11_needIndex _ _ _ _) (by omega) ?_ | with_reducible refine ok_ndt (sX11_needRange _ _ _ _) (by omega) ?_ | with_reducible refine ok_ndf (sX11_needRange _ _ _ _) (by omega) ?_ | with_reducible refine ok_ndt (sX11_needThat2 _ _) (by omega) ?_ | with_reducible refine ok_ndf (sX11_needThat2 _ _) (by omega) ?_ | with_reducible refine ok_ndt (sX11_needState2 _ _) (by omega) ?_ | with_reducible refine ok_ndf (sX11_needState2 _ _) (by omega) ?_ | with_reducible refine ok_ndt (sX11_needElement _ _) (by omega) ?_ | with_reducible refine ok_ndf (sX11_needElement _ _) (by omega) ?_ | with_reducible refine ok_ndt (sX11_needPlace _ _) (by omega) ?_ | with_reducible refine ok_ndf (sX11_needPlace _ _) (by omega) ?_ | with_reducible refine ok_ndt (sX11_needSender _ _) (by omega) ?_ | with_reducible refine ok_ndf (sX11_needSender _ _) (by omega) ?_ | with_reducible refine ok_b2t (sX12_in _ _ _ _) (by omega) ?_ | with_reducible refine ok_b2f (sX12_in _ _ _ _) (by omega) ?_ | with_reducible refine ok_b2t (sX12_isPlace _ _) (by omega) ?_ | with_reducible refine ok_b2f (sX12_isPlace _ _) (by omega) ?_ | with_reducible refine ok_pos (by omega) ?_ | with_reducible refine ok_neg (by omega) ?_ | with_reducible refine ok_tl ?_ | with_reducible refine ok_tr ?_ | simp (disch := decide) only [rI_s, rI_n, rI_2, rC_s, rC_n, rC_2, rJ_1, rJ_s, rJ_n, updI_at, if_pos, if_neg] | dsimp only)
        exact both_thr i0 (by decide) rfl
    · repeat (first | with_reducible refine ok_gd (by first | omega | decide) ?_ | with_reducible refine ok_bs ?_ | with_reducible refine ok_be (sX12_refuse _ _) ?_ | with_reducible refine ok_be (sX12_told _ _) ?_ | with_reducible refine ok_ndt (sX11_needIndex _ _ _ _) (by omega) ?_ | with_reducible refine ok_ndf (sX11_needIndex _ _ _ _) (by omega) ?_ | with_reducible refine ok_ndt (sX11_needRange _ _ _ _) (by omega) ?_ | with_reducible refine ok_ndf (sX11_needRange _ _ _ _) (by omega) ?_ | with_reducible refine ok_ndt (sX11_needThat2 _ _) (by omega) ?_ | with_reducible refine ok_ndf (sX11_needThat2 _ _) (by omega) ?_ | with_reducible refine ok_ndt (sX11_needState2 _ _) (by omega) ?_ | with_reducible refine ok_ndf (sX11_needState2 _ _) (by omega) ?_ | with_reducible refine ok_ndt (sX11_needElement _ _) (by omega) ?_ | with_reducible refine ok_ndf (sX11_needElement _ _) (by omega) ?_ | with_reducible refine ok_ndt (sX11_needPlace _ _) (by omega) ?_ | with_reducible refine ok_ndf (sX11_needPlace _ _) (by omega) ?_ | with_reducible refine ok_ndt (sX11_needSender _ _) (by omega) ?_ | with_reducible refine ok_ndf (sX11_needSender _ _) (by omega) ?_ | with_reducible refine ok_b2t (sX12_in _ _ _ _) (by omega) ?_ | with_reducible refine ok_b2f (sX12_in _ _ _ _) (by omega) ?_ | with_reducible refine ok_b2t (sX12_isPlace _ _) (by omega) ?_ | with_reducible refine ok_b2f (sX12_isPlace _ _) (by omega) ?_ | with_reducible refine ok_pos (by omega) ?_ | with_reducible refine ok_neg (by omega) ?_ | with_reducible refine ok_tl ?_ | with_reducible refine ok_tr ?_ | simp (disch := decide) only [rI_s, rI_n, rI_2, rC_s, rC_n, rC_2, rJ_1, rJ_s, rJ_n, updI_at, if_pos, if_neg] | dsimp only)
      refine ok_some ?_
      repeat (first | with_reducible refine ok_gd (by first | omega | decide) ?_ | with_reducible refine ok_bs ?_ | with_reducible refine ok_be (sX12_refuse _ _) ?_ | with_reducible refine ok_be (sX12_told _ _) ?_ | with_reducible refine ok_ndt (sX11_needIndex _ _ _ _) (by omega) ?_ | with_reducible refine ok_ndf (sX11_needIndex _ _ _ _) (by omega) ?_ | with_reducible refine ok_ndt (sX11_needRange _ _ _ _) (by omega) ?_ | with_reducible refine ok_ndf (sX11_needRange _ _ _ _) (by omega) ?_ | with_reducible refine ok_ndt (sX11_needThat2 _ _) (by omega) ?_ | with_reducible refine ok_ndf (sX11_needThat2 _ _) (by omega) ?_ | with_reducible refine ok_ndt (sX11_needState2 _ _) (by omega) ?_ | with_reducible refine ok_ndf (sX11_needState2 _ _) (by omega) ?_ | with_reducible refine ok_ndt (sX11_needElement _ _) (by omega) ?_ | with_reducible refine ok_ndf (sX11_needElement _ _) (by omega) ?_ | with_reducible refine ok_ndt (sX11_needPlace _ _) (by omega) ?_ | with_reducible refine ok_ndf (sX11_needPlace _ _) (by omega) ?_ | with_reducible refine ok_ndt (sX11_needSender _ _) (by omega) ?_ | with_reducible refine ok_ndf (sX11_needSender _ _) (by omega) ?_ | with_reducible refine ok_b2t (sX12_in _ _ _ _) (by omega) ?_ | with_reducible refine ok_b2f (sX12_in _ _ _ _) (by omega) ?_ | with_reducible refine ok_b2t (sX12_isPlace _ _) (by omega) ?_ | with_reducible refine ok_b2f (sX12_isPlace _ _) (by omega) ?_ | with_reducible refine ok_pos (by omega) ?_ | with_reducible refine ok_neg (by omega) ?_ | with_reducible refine ok_tl ?_ | with_reducible refine ok_tr ?_ | simp (disch := decide) only [rI_s, rI_n, rI_2, rC_s, rC_n, rC_2, rJ_1, rJ_s, rJ_n, updI_at, if_pos, if_neg] | dsimp only)
      exact both_thr i0 (by decide) rfl
  · repeat (first | with_reducible refine ok_gd (by first | omega | decide) ?_ | with_reducible refine ok_bs ?_ | with_reducible refine ok_be (sX12_refuse _ _) ?_ | with_reducible refine ok_be (sX12_told _ _) ?_ | with_reducible refine ok_ndt (sX11_needIndex _ _ _ _) (by omega) ?_ | with_reducible refine ok_ndf (sX11_needIndex _ _ _ _) (by omega) ?_ | with_reducible refine ok_ndt (sX11_needRange _ _ _ _) (by omega) ?_ | with_reducible refine ok_ndf (sX11_needRange _ _ _ _) (by omega) ?_ | with_reducible refine ok_ndt (sX11_needThat2 _ _) (by omega) ?_ | with_reducible refine ok_ndf (sX11_needThat2 _ _) (by omega) ?_ | with_reducible refine ok_ndt (sX11_needState2 _ _) (by omega) ?_ | with_reducible refine ok_ndf (sX11_needState2 _ _) (by omega) ?_ | with_reducible refine ok_ndt (sX11_needElement _ _) (by omega) ?_ | with_reducible refine ok_ndf (sX11_needElement _ _) (by omega) ?_ | with_reducible refine ok_ndt (sX11_needPlace _ _) (by omega) ?_ | with_reducible refine ok_ndf (sX11_needPlace _ _) (by omega) ?_ | with_reducible refine ok_ndt (sX11_needSender _ _) (by omega) ?_ | with_reducible refine ok_ndf (sX11_needSender _ _) (by omega) ?_ | with_reducible refine ok_b2t (sX12_in _ _ _ _) (by omega) ?_ | with_reducible refine ok_b2f (sX12_in _ _ _ _) (by omega) ?_ | with_reducible refine ok_b2t (sX12_isPlace _ _) (by omega) ?_ | with_reducible refine ok_b2f (sX12_isPlace _ _) (by omega) ?_ | with_reducible refine ok_pos (by omega) ?_ | with_reducible refine ok_neg (by omega) ?_ | with_reducible refine ok_tl ?_ | with_reducible refine ok_tr ?_ | simp (disch := decide) only [rI_s, rI_n, rI_2, rC_s, rC_n, rC_2, rJ_1, rJ_s, rJ_n, updI_at, if_pos, if_neg] | dsimp only)
    refine ok_some ?_
    repeat (first | with_reducible refine ok_gd (by first | omega | decide) ?_ | with_reducible refine ok_bs ?_ | with_reducible refine ok_be (sX12_refuse _ _) ?_ | with_reducible refine ok_be (sX12_told _ _) ?_ | with_reducible refine ok_ndt (sX11_needIndex _ _ _ _) (by omega) ?_ | with_reducible refine ok_ndf (sX11_needIndex _ _ _ _) (by omega) ?_ | with_reducible refine ok_ndt (sX11_needRange _ _ _ _) (by omega) ?_ | with_reducible refine ok_ndf (sX11_needRange _ _ _ _) (by omega) ?_ | with_reducible refine ok_ndt (sX11_needThat2 _ _) (by omega) ?_ | with_reducible refine ok_ndf (sX11_needThat2 _ _) (by omega) ?_ | with_reducible refine ok_ndt (sX11_needState2 _ _) (by omega) ?_ | with_reducible refine ok_ndf (sX11_needState2 _ _) (by omega) ?_ | with_reducible refine ok_ndt (sX11_needElement _ _) (by omega) ?_ | with_reducible refine ok_ndf (sX11_needElement _ _) (by omega) ?_ | with_reducible refine ok_ndt (sX11_needPlace _ _) (by omega) ?_ | with_reducible refine ok_ndf (sX11_needPlace _ _) (by omega) ?_ | with_reducible refine ok_ndt (sX11_needSender _ _) (by omega) ?_ | with_reducible refine ok_ndf (sX11_needSender _ _) (by omega) ?_ | with_reducible refine ok_b2t (sX12_in _ _ _ _) (by omega) ?_ | with_reducible refine ok_b2f (sX12_in _ _ _ _) (by omega) ?_ | with_reducible refine ok_b2t (sX12_isPlace _ _) (by omega) ?_ | with_reducible refine ok_b2f (sX12_isPlace _ _) (by omega) ?_ | with_reducible refine ok_pos (by omega) ?_ | with_reducible refine ok_neg (by omega) ?_ | with_reducible refine ok_tl ?_ | with_reducible refine ok_tr ?_ | simp (disch := decide) only [rI_s, rI_n, rI_2, rC_s, rC_n, rC_2, rJ_1, rJ_s, rJ_n, updI_at, if_pos, if_neg] | dsimp only)
    exact both_thr i0 (by decide) rfl
end PAY
