/-! WHAT STAYS of the invariant when other rows change -/
section EQ2
variable {K K1 M M1 L ML : Nat → Int → Int}
theorem iS_eq (a : iS K M) (e : ∀ c, 3 ≤ c ∧ c ≤ 6 → K1 c = K c) (e' : ∀ c, 72 ≤ c ∧ c ≤ 76 → M1 c = M c) (e9 : M1 71 9 = M 71 9) : iS K1 M1 := by
  unfold iS at a ⊢
  rw [e 3 (by omega), e 4 (by omega), e 5 (by omega), e 6 (by omega), e9, e' 72 (by omega), e' 73 (by omega), e' 74 (by omega), e' 75 (by omega), e' 76 (by omega)]
  exact a
theorem iY_eq (a : iY K M) (e : ∀ c, c = 3 ∨ (7 ≤ c ∧ c ≤ 9) → K1 c = K c) (e' : ∀ c, 72 ≤ c ∧ c ≤ 76 → M1 c = M c) : iY K1 M1 := by
  unfold iY dK wE at a ⊢
  rw [e 3 (by omega), e 7 (by omega), e 8 (by omega), e 9 (by omega), e' 72 (by omega), e' 73 (by omega), e' 74 (by omega), e' 75 (by omega), e' 76 (by omega)]
  exact a
theorem iF_eq (a : iF K M) (e : K1 10 = K 10) (e' : M1 77 = M 77) : iF K1 M1 := by
  unfold iF at a ⊢
  rw [e, e']
  exact a
theorem iQ_eq (a : iQ K M) (e : ∀ c, c = 20 ∨ c = 21 → K1 c = K c) (h13 : K1 13 10 = K 13 10) (h67 : K1 67 2 = K 67 2) (e' : ∀ c, c = 84 ∨ (86 ≤ c ∧ c ≤ 88) → M1 c = M c) : iQ K1 M1 := by
  unfold iQ at a ⊢
  rw [e 20 (by omega), e 21 (by omega), h13, h67, e' 84 (by omega), e' 86 (by omega), e' 87 (by omega), e' 88 (by omega)]
  exact a
theorem iO_eq (a : iO K M) (e : K1 59 = K 59) (e' : ∀ c, c = 98 ∨ c = 99 → M1 c = M c) (e7 : ∀ i, 33 ≤ i ∧ i ≤ 36 → M1 71 i = M 71 i) : iO K1 M1 := by
  unfold iO at a ⊢
  rw [e, e7 33 (by omega), e7 34 (by omega), e7 35 (by omega), e7 36 (by omega), e' 98 (by omega), e' 99 (by omega)]
  exact a
theorem iD_eq (a : iD K M) (e : ∀ c, 60 ≤ c ∧ c ≤ 63 → K1 c = K c) (e' : ∀ c, 100 ≤ c ∧ c ≤ 102 → M1 c = M c) (e7 : M1 71 40 = M 71 40) : iD K1 M1 := by
  unfold iD at a ⊢
  rw [e 60 (by omega), e 61 (by omega), e 62 (by omega), e 63 (by omega), e7, e' 100 (by omega), e' 101 (by omega), e' 102 (by omega)]
  exact a
theorem iL_eq (a : iL K L M ML) (e : K1 67 = K 67) (e7 : ∀ i, 41 ≤ i ∧ i ≤ 44 → M1 71 i = M 71 i) : iL K1 L M1 ML := by
  unfold iL at a ⊢
  rw [e, e7 41 (by omega), e7 42 (by omega), e7 43 (by omega), e7 44 (by omega)]
  exact a
theorem RM_eq {h h1 : HH} (hm : RM K h) (e' : ∀ c, (78 ≤ c ∧ c ≤ 89) ∨ (91 ≤ c ∧ c ≤ 93) → h1.1 c = h.1 c) (e7 : ∀ i, i = 21 ∨ i = 27 → h1.1 71 i = h.1 71 i) : RM K h1 := by
  unfold RM at hm ⊢
  rw [e' 78 (by omega), e' 79 (by omega), e' 80 (by omega), e' 81 (by omega), e' 82 (by omega), e' 83 (by omega), e' 84 (by omega), e' 85 (by omega), e' 86 (by omega), e' 87 (by omega), e' 88 (by omega), e' 89 (by omega), e' 91 (by omega), e' 92 (by omega), e' 93 (by omega), e7 21 (by omega), e7 27 (by omega)]
  exact hm
end EQ2
/-- rows and fields that one side's writes leave as they are -/
def cTc (T : Nat → Prop) (h h1 : HH) : Prop := h1.2 = h.2 ∧ ∀ c, ¬ T c → h1.1 c = h.1 c
def cTm (T : Nat → Prop) (U : Int → Prop) (h h1 : HH) : Prop := h1.2 = h.2 ∧ (∀ c, c ≠ 71 → ¬ T c → h1.1 c = h.1 c) ∧ ∀ i, ¬ U i → h1.1 71 i = h.1 71 i
theorem cTc_of {S : Nat → Int → Prop} {T : Nat → Prop} {h h1 : HH} (f : Fr S h h1) (q : ∀ c i, S c i → T c) : cTc T h h1 := ⟨f.1, fun c hc => fr_c f c (fun i s => hc (q c i s))⟩
theorem cTm_of {S : Nat → Int → Prop} {T : Nat → Prop} {U : Int → Prop} {h h1 : HH} (f : Fr S h h1) (q : ∀ c i, S c i → c ≠ 71 → T c) (q7 : ∀ i, S 71 i → U i) : cTm T U h h1 := ⟨f.1, fun c h71 hc => fr_c f c (fun i s => hc (q c i s h71)), fun i hi => f.2 71 i (fun s => hi (q7 i s))⟩
/-- scratch of the class, with one thing more -/
abbrev scT (X : Nat → Prop) : Nat → Prop := fun c => ((c = 11 ∨ c = 12) ∨ (34 ≤ c ∧ c ≤ 58) ∨ (c = 64 ∨ c = 66 ∨ c = 69 ∨ c = 70)) ∨ X c
abbrev scU (X : Nat → Prop) : Nat → Prop := fun c => 104 ≤ c ∨ X c
abbrev sc7 (X : Int → Prop) : Int → Prop := fun i => (i = 10 ∨ 51 ≤ i) ∨ X i
/-- what a change of rounds writes -/
abbrev rC : Nat → Prop := scT (fun c => (28 ≤ c ∧ c ≤ 31) ∨ (c = 32 ∨ c = 33))
abbrev rMm : Nat → Prop := scU (fun c => c = 90 ∨ (94 ≤ c ∧ c ≤ 97))
abbrev r7 : Int → Prop := sc7 (fun i => i = 30)
