/-! THE LAW'S LOOP: floats and doubles -/
section LAWF
theorem order_self (X : FP.Core.Datum) : FP.Core.order X X = none ∨ FP.Core.order X X = some .eq := by
  have e : ∀ x : Int, compare x x = .eq := fun x => by simp [compare, compareOfLessAndEq]
  cases X with
  | nan => exact Or.inl rfl
  | inf t => exact Or.inr (congrArg some (e _))
  | fin t c q => exact Or.inr (congrArg some (e _))
theorem dcmp_self (x : UInt64) : (Op.cmpValue (FP.dcmp x x) .l).toInt = 0 ∨ (Op.cmpValue (FP.dcmp x x) .l).toInt = -1 := by
  have q : FP.dcmp x x = none ∨ FP.dcmp x x = some .eq := order_self _
  rcases q with q | q
  · rw [q]; exact Or.inr rfl
  · rw [q]; exact Or.inl rfl
theorem n32_at {y : UInt32} (q : n32 y) : y.toNat % 2147483648 ≤ 2139095040 := by
  have q : y &&& 0x7fffffff ≤ 0x7f800000 := q
  rw [UInt32.le_iff_toNat_le, UInt32.toNat_and] at q
  have e : (0x7fffffff : UInt32).toNat = 2 ^ 31 - 1 := by decide
  have e' : (0x7f800000 : UInt32).toNat = 2139095040 := by decide
  rw [e, e', Nat.and_two_pow_sub_one_eq_mod] at q
  omega
theorem n64_at {y : UInt64} (q : n64 y) : y.toNat % 9223372036854775808 ≤ 9218868437227405312 := by
  have q : y &&& 0x7fffffffffffffff ≤ 0x7ff0000000000000 := q
  rw [UInt64.le_iff_toNat_le, UInt64.toNat_and] at q
  have e : (0x7fffffffffffffff : UInt64).toNat = 2 ^ 63 - 1 := by decide
  have e' : (0x7ff0000000000000 : UInt64).toNat = 9218868437227405312 := by decide
  rw [e, e', Nat.and_two_pow_sub_one_eq_mod] at q
  omega
theorem f2d_ok {y : UInt32} (q : n32 y) : n64 (FP.f2d y) := by
  have hx := dec32 (n32_at q)
  have e0 : FP.f2d y = UInt64.ofNat (FP.Core.encode FP.Core.b64 (FP.Core.round FP.Core.b64 (FP.Core.decode FP.Core.b32 y.toNat))) := by
    have hn : FP.Core.fIsNaN y = false := decide_eq_false hx
    show (if FP.Core.fIsNaN y = true then _ else _) = _
    rw [hn, if_neg (by decide)]
    rfl
  rw [e0]
  refine n64_of ?_
  show FP.Core.encode FP.Core.b64 (FP.Core.round FP.Core.b64 (FP.Core.decode FP.Core.b32 y.toNat)) % 9223372036854775808 ≤ 9218868437227405312
  generalize FP.Core.decode FP.Core.b32 y.toNat = X at hx
  cases X with
  | nan => exact absurd rfl hx
  | inf t =>
    have e1 : FP.Core.b64.tails = 4503599627370496 := by decide
    have e2 : FP.Core.b64.exps = 2048 := by decide
    have hs : t.toNat = 0 ∨ t.toNat = 1 := by cases t <;> decide
    simp only [FP.Core.round, FP.Core.encode, FP.Core.assemble, e1, e2]
    omega
  | fin t c q => exact rat64 _ _ _ _
theorem dcmp_ok {x : UInt64} (q : n64 x) : (Op.cmpValue (FP.dcmp x x) .l).toInt = 0 := by
  have hx := dec64 (n64_at q)
  have z : FP.dcmp x x = some .eq := by
    have z : FP.Core.order (FP.Core.decode FP.Core.b64 x.toNat) (FP.Core.decode FP.Core.b64 x.toNat) = some .eq := by
      rcases order_self (FP.Core.decode FP.Core.b64 x.toNat) with z | z
      · exfalso
        generalize FP.Core.decode FP.Core.b64 x.toNat = X at hx z
        cases X with
        | nan => exact hx rfl
        | inf t => cases z
        | fin t c q => cases z
      · exact z
    exact z
  rw [z]
  rfl
theorem fil_n {h : HH} {x1 : Int} {y : UInt32} {u : HU} (q : nX11_filled x1 h = some (.inl y, u)) : n32 y := by
  unfold nX11_filled bX11_filled at q
  obtain ⟨r1, z1, z2⟩ := bnd_of q
  obtain ⟨_, z2⟩ := gd_some z2
  unfold tcase at z2
  split at z2
  · obtain ⟨_, z2⟩ := gd_some z2
    obtain ⟨r3, _, z3⟩ := bnd_of z2
    obtain ⟨_, z3⟩ := gd_some z3
    obtain ⟨w, z3⟩ := gd_some z3
    obtain ⟨_, z3⟩ := gd_some z3
    have e := congrArg Prod.fst (Option.some.inj z3)
    have e : FP.fdiv (FP.i2f (Int32.ofInt r3)) (FP.i2f (Int32.ofInt (r1.2.1.1 23 x1))) = y := Sum.inl.inj e
    rw [← e]
    exact w
  · obtain ⟨_, z3⟩ := gd_some z2
    cases z3
end LAWF
