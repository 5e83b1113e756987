def csX9_longerThanOver : List (Nat × List (Nat × ARow)) := [(41, [(0, 1, .aload_n 0, 0, 0, 0), (1, 1, .iload_n 1, 0, 0, 0), (2, 1, .iload_n 2, 0, 0, 0), (3, 3, .invokevirtual 78, 87, 3, 9), (6, 1, .istore_n 3, 0, 0, 0), (7, 1, .iconst 0, 0, 0, 0), (8, 2, .istore 4, 0, 0, 0), (10, 1, .iconst 0, 0, 0, 0), (11, 2, .istore 5, 0, 0, 0), (13, 2, .iload 5, 0, 0, 0), (15, 2, .bipush 16, 0, 0, 0), (17, 3, .if_icmp .ge 56, 73, 0, 0), (20, 1, .aload_n 0, 0, 0, 0), (21, 1, .iload_n 1, 0, 0, 0), (22, 2, .iload 5, 0, 0, 0), (24, 3, .invokevirtual 78, 87, 3, 9), (27, 2, .istore 6, 0, 0, 0), (29, 1, .aload_n 0, 0, 0, 0), (30, 2, .iload 5, 0, 0, 0), (32, 1, .iload_n 2, 0, 0, 0), (33, 3, .invokevirtual 78, 87, 3, 9), (36, 2, .istore 7, 0, 0, 0), (38, 2, .iload 6, 0, 0, 0), (40, 1, .iconst (-1), 0, 0, 0)]),
  (100000, [(41, 3, .if_icmp .eq 26, 67, 0, 0), (44, 2, .iload 7, 0, 0, 0), (46, 1, .iconst (-1), 0, 0, 0), (47, 3, .if_icmp .eq 20, 67, 0, 0), (50, 1, .iload_n 3, 0, 0, 0), (51, 1, .iconst (-1), 0, 0, 0), (52, 3, .if_icmp .eq 12, 64, 0, 0), (55, 1, .iload_n 3, 0, 0, 0), (56, 2, .iload 6, 0, 0, 0), (58, 2, .iload 7, 0, 0, 0), (60, 1, .iadd, 0, 0, 0), (61, 3, .if_icmp .le 6, 67, 0, 0), (64, 3, .iinc 4 1, 0, 0, 0), (67, 3, .iinc 5 1, 0, 0, 0), (70, 3, .goto (-57), 13, 0, 0), (73, 2, .iload 4, 0, 0, 0), (75, 1, .ireturn, 0, 0, 0)])]
theorem rwX9_longerThanOver : rowsB (mB 99) (mO 99) (mX 99) (mIni 99) (mFr 99) (mLo 99) (mT 99) csX9_longerThanOver = true := by decide +kernel
def bX9_longerThanOver_67 (h : HH) (c13 : Int → Int → Int → Int → Int → Option Int) (x1 : Int) (x2 : Int) (x3 : Int) (x4 : Int) (x5 : Int) : Option Int :=
  gd (R32 (x5 + 1)) <|
    c13 x1 x2 x3 x4 (x5 + 1)
theorem uX9_longerThanOver_67 {g : SG} (hg : GOK g) {σ0 : SG} {h : HH} {c13 : Int → Int → Int → Int → Int → Option Int} (k13 : ∀ (x1 : Int) (x2 : Int) (x3 : Int) (x4 : Int) (x5 : Int) (b : Int), c13 x1 x2 x3 x4 x5 = some b → WK 99 (.inl (some (aI b))) σ0 (abH 2 70 g h) 13 [(0, aR 3), (1, aI x1), (2, aI x2), (3, aI x3), (4, aI x4), (5, aI x5)] [] (abH 2 70 g h) 0 0) : ∀ {x1 : Int} {x2 : Int} {x3 : Int} {x4 : Int} {x5 : Int} {b : Int}, bX9_longerThanOver_67 h c13 x1 x2 x3 x4 x5 = some b → WK 99 (.inl (some (aI b))) σ0 (abH 2 70 g h) 67 [(0, aR 3), (1, aI x1), (2, aI x2), (3, aI x3), (4, aI x4), (5, aI x5)] [] (abH 2 70 g h) 0 0 := by
  intro x1 x2 x3 x4 x5 b q
  have e : bX9_longerThanOver_67 h c13 x1 x2 x3 x4 x5 = segP 2 70 g.2.2.2.2 h krPI clNP csX9_longerThanOver (cuC 13 (fun l st s => tkC 0 3 l <| tkI 1 l fun x1 => tkI 2 l fun x2 => tkI 3 l fun x3 => tkI 4 l fun x4 => tkI 5 l fun x5 => skE st (c13 x1 x2 x3 x4 x5)) cuN) 1000 67 [(0, aR 3), (1, aI x1), (2, aI x2), (3, aI x3), (4, aI x4), (5, aI x5)] [] := rfl
  rw [e] at q
  clear e
  refine segP_wk (by decide) (by decide) hg rwX9_longerThanOver CLKP_N krPI_ok ?_ q
  clear q
  refine ct_C ?_ (ct_N)
  · intro l st _ q
    obtain ⟨m0, q1⟩ := tkC_of q
    obtain ⟨x1, m1, q2⟩ := tkI_of q1
    obtain ⟨x2, m2, q3⟩ := tkI_of q2
    obtain ⟨x3, m3, q4⟩ := tkI_of q3
    obtain ⟨x4, m4, q5⟩ := tkI_of q4
    obtain ⟨x5, m5, q6⟩ := tkI_of q5
    obtain ⟨rfl, q7⟩ := skE_of q6
    exact WK_less (k13 _ _ _ _ _ _ q7) (List.forall_mem_cons.mpr ⟨m0, (List.forall_mem_cons.mpr ⟨m1, (List.forall_mem_cons.mpr ⟨m2, (List.forall_mem_cons.mpr ⟨m3, (List.forall_mem_cons.mpr ⟨m4, (List.forall_mem_cons.mpr ⟨m5, (fun _ h => absurd h List.not_mem_nil)⟩)⟩)⟩)⟩)⟩)⟩)
def nX9_longerThanOver_67 (h : HH) (c13 : Int → Int → Int → Int → Int → Option Int) (x1 : Int) (x2 : Int) (x3 : Int) (x4 : Int) (x5 : Int) : Option Int := bX9_longerThanOver_67 h c13 x1 x2 x3 x4 x5
theorem wX9_longerThanOver_67 {g : SG} (hg : GOK g) {σ0 : SG} {h : HH} {c13 : Int → Int → Int → Int → Int → Option Int} (k13 : ∀ (x1 : Int) (x2 : Int) (x3 : Int) (x4 : Int) (x5 : Int) (b : Int), c13 x1 x2 x3 x4 x5 = some b → WK 99 (.inl (some (aI b))) σ0 (abH 2 70 g h) 13 [(0, aR 3), (1, aI x1), (2, aI x2), (3, aI x3), (4, aI x4), (5, aI x5)] [] (abH 2 70 g h) 0 0) : ∀ {x1 : Int} {x2 : Int} {x3 : Int} {x4 : Int} {x5 : Int} {b : Int}, nX9_longerThanOver_67 h c13 x1 x2 x3 x4 x5 = some b → WK 99 (.inl (some (aI b))) σ0 (abH 2 70 g h) 67 [(0, aR 3), (1, aI x1), (2, aI x2), (3, aI x3), (4, aI x4), (5, aI x5)] [] (abH 2 70 g h) 0 0 := by
  intro x1 x2 x3 x4 x5 b q
  exact uX9_longerThanOver_67 hg k13 q
def bX9_longerThanOver_64 (h : HH) (c67 : Int → Int → Int → Int → Int → Option Int) (x1 : Int) (x2 : Int) (x3 : Int) (x4 : Int) (x5 : Int) : Option Int :=
  gd (R32 (x4 + 1)) <|
    c67 x1 x2 x3 (x4 + 1) x5
theorem uX9_longerThanOver_64 {g : SG} (hg : GOK g) {σ0 : SG} {h : HH} {c67 : Int → Int → Int → Int → Int → Option Int} (k67 : ∀ (x1 : Int) (x2 : Int) (x3 : Int) (x4 : Int) (x5 : Int) (b : Int), c67 x1 x2 x3 x4 x5 = some b → WK 99 (.inl (some (aI b))) σ0 (abH 2 70 g h) 67 [(0, aR 3), (1, aI x1), (2, aI x2), (3, aI x3), (4, aI x4), (5, aI x5)] [] (abH 2 70 g h) 0 0) : ∀ {x1 : Int} {x2 : Int} {x3 : Int} {x4 : Int} {x5 : Int} {b : Int}, bX9_longerThanOver_64 h c67 x1 x2 x3 x4 x5 = some b → WK 99 (.inl (some (aI b))) σ0 (abH 2 70 g h) 64 [(0, aR 3), (1, aI x1), (2, aI x2), (3, aI x3), (4, aI x4), (5, aI x5)] [] (abH 2 70 g h) 0 0 := by
  intro x1 x2 x3 x4 x5 b q
  have e : bX9_longerThanOver_64 h c67 x1 x2 x3 x4 x5 = segP 2 70 g.2.2.2.2 h krPI clNP csX9_longerThanOver (cuC 67 (fun l st s => tkC 0 3 l <| tkI 1 l fun x1 => tkI 2 l fun x2 => tkI 3 l fun x3 => tkI 4 l fun x4 => tkI 5 l fun x5 => skE st (c67 x1 x2 x3 x4 x5)) cuN) 1000 64 [(0, aR 3), (1, aI x1), (2, aI x2), (3, aI x3), (4, aI x4), (5, aI x5)] [] := rfl
  rw [e] at q
  clear e
  refine segP_wk (by decide) (by decide) hg rwX9_longerThanOver CLKP_N krPI_ok ?_ q
  clear q
  refine ct_C ?_ (ct_N)
  · intro l st _ q
    obtain ⟨m0, q1⟩ := tkC_of q
    obtain ⟨x1, m1, q2⟩ := tkI_of q1
    obtain ⟨x2, m2, q3⟩ := tkI_of q2
    obtain ⟨x3, m3, q4⟩ := tkI_of q3
    obtain ⟨x4, m4, q5⟩ := tkI_of q4
    obtain ⟨x5, m5, q6⟩ := tkI_of q5
    obtain ⟨rfl, q7⟩ := skE_of q6
    exact WK_less (k67 _ _ _ _ _ _ q7) (List.forall_mem_cons.mpr ⟨m0, (List.forall_mem_cons.mpr ⟨m1, (List.forall_mem_cons.mpr ⟨m2, (List.forall_mem_cons.mpr ⟨m3, (List.forall_mem_cons.mpr ⟨m4, (List.forall_mem_cons.mpr ⟨m5, (fun _ h => absurd h List.not_mem_nil)⟩)⟩)⟩)⟩)⟩)⟩)
def nX9_longerThanOver_64 (h : HH) (c13 : Int → Int → Int → Int → Int → Option Int) (x1 : Int) (x2 : Int) (x3 : Int) (x4 : Int) (x5 : Int) : Option Int := bX9_longerThanOver_64 h (nX9_longerThanOver_67 h c13) x1 x2 x3 x4 x5
theorem wX9_longerThanOver_64 {g : SG} (hg : GOK g) {σ0 : SG} {h : HH} {c13 : Int → Int → Int → Int → Int → Option Int} (k13 : ∀ (x1 : Int) (x2 : Int) (x3 : Int) (x4 : Int) (x5 : Int) (b : Int), c13 x1 x2 x3 x4 x5 = some b → WK 99 (.inl (some (aI b))) σ0 (abH 2 70 g h) 13 [(0, aR 3), (1, aI x1), (2, aI x2), (3, aI x3), (4, aI x4), (5, aI x5)] [] (abH 2 70 g h) 0 0) : ∀ {x1 : Int} {x2 : Int} {x3 : Int} {x4 : Int} {x5 : Int} {b : Int}, nX9_longerThanOver_64 h c13 x1 x2 x3 x4 x5 = some b → WK 99 (.inl (some (aI b))) σ0 (abH 2 70 g h) 64 [(0, aR 3), (1, aI x1), (2, aI x2), (3, aI x3), (4, aI x4), (5, aI x5)] [] (abH 2 70 g h) 0 0 := by
  intro x1 x2 x3 x4 x5 b q
  exact uX9_longerThanOver_64 hg (fun _ _ _ _ _ _ q => wX9_longerThanOver_67 hg k13 q) q
def bX9_longerThanOver_13 (f87 : HH → Int → Int → Option Int) (h : HH) (c64 : Int → Int → Int → Int → Int → Option Int) (c67 : Int → Int → Int → Int → Int → Option Int) (x1 : Int) (x2 : Int) (x3 : Int) (x4 : Int) (x5 : Int) : Option Int :=
  if x5 < (16 : Int) then
    bnd (f87 h x1 x5) fun r1 =>
    bnd (f87 h x5 x2) fun r2 =>
    if r1 = ((-1) : Int) then
    c67 x1 x2 x3 x4 x5
  else
    if r2 = ((-1) : Int) then
    c67 x1 x2 x3 x4 x5
  else
    if x3 = ((-1) : Int) then
    c64 x1 x2 x3 x4 x5
  else
    gd (R32 (r1 + r2)) <|
    if ((r1 + r2) : Int) < x3 then
    c64 x1 x2 x3 x4 x5
  else
    c67 x1 x2 x3 x4 x5
  else
    some x4
theorem uX9_longerThanOver_13 {g : SG} (hg : GOK g) {σ0 : SG} {h : HH} {c64 : Int → Int → Int → Int → Int → Option Int} {c67 : Int → Int → Int → Int → Int → Option Int} (k64 : ∀ (x1 : Int) (x2 : Int) (x3 : Int) (x4 : Int) (x5 : Int) (b : Int), c64 x1 x2 x3 x4 x5 = some b → WK 99 (.inl (some (aI b))) σ0 (abH 2 70 g h) 64 [(0, aR 3), (1, aI x1), (2, aI x2), (3, aI x3), (4, aI x4), (5, aI x5)] [] (abH 2 70 g h) 0 0) (k67 : ∀ (x1 : Int) (x2 : Int) (x3 : Int) (x4 : Int) (x5 : Int) (b : Int), c67 x1 x2 x3 x4 x5 = some b → WK 99 (.inl (some (aI b))) σ0 (abH 2 70 g h) 67 [(0, aR 3), (1, aI x1), (2, aI x2), (3, aI x3), (4, aI x4), (5, aI x5)] [] (abH 2 70 g h) 0 0) : ∀ {x1 : Int} {x2 : Int} {x3 : Int} {x4 : Int} {x5 : Int} {b : Int}, bX9_longerThanOver_13 nX9_minutesOf h c64 c67 x1 x2 x3 x4 x5 = some b → WK 99 (.inl (some (aI b))) σ0 (abH 2 70 g h) 13 [(0, aR 3), (1, aI x1), (2, aI x2), (3, aI x3), (4, aI x4), (5, aI x5)] [] (abH 2 70 g h) 0 0 := by
  intro x1 x2 x3 x4 x5 b q
  have e : ∀ (f87 : HH → Int → Int → Option Int) , bX9_longerThanOver_13 f87 h c64 c67 x1 x2 x3 x4 x5 = segP 2 70 g.2.2.2.2 h krPI (clCP 87 (pX9_minutesOf f87 h) clNP) csX9_longerThanOver (cuC 64 (fun l st s => tkC 0 3 l <| tkI 1 l fun x1 => tkI 2 l fun x2 => tkI 3 l fun x3 => tkI 4 l fun x4 => tkI 5 l fun x5 => skE st (c64 x1 x2 x3 x4 x5)) (cuC 67 (fun l st s => tkC 0 3 l <| tkI 1 l fun x1 => tkI 2 l fun x2 => tkI 3 l fun x3 => tkI 4 l fun x4 => tkI 5 l fun x5 => skE st (c67 x1 x2 x3 x4 x5)) cuN)) 1000 13 [(0, aR 3), (1, aI x1), (2, aI x2), (3, aI x3), (4, aI x4), (5, aI x5)] [] := fun _ => rfl
  rw [e nX9_minutesOf] at q
  clear e
  refine segP_wk (by decide) (by decide) hg rwX9_longerThanOver (CLKP_C (pX9_minutesOf_ok hg) CLKP_N) krPI_ok ?_ q
  clear q
  refine ct_C ?_ (ct_C ?_ (ct_N))
  · intro l st _ q
    obtain ⟨m0, q1⟩ := tkC_of q
    obtain ⟨x1, m1, q2⟩ := tkI_of q1
    obtain ⟨x2, m2, q3⟩ := tkI_of q2
    obtain ⟨x3, m3, q4⟩ := tkI_of q3
    obtain ⟨x4, m4, q5⟩ := tkI_of q4
    obtain ⟨x5, m5, q6⟩ := tkI_of q5
    obtain ⟨rfl, q7⟩ := skE_of q6
    exact WK_less (k64 _ _ _ _ _ _ q7) (List.forall_mem_cons.mpr ⟨m0, (List.forall_mem_cons.mpr ⟨m1, (List.forall_mem_cons.mpr ⟨m2, (List.forall_mem_cons.mpr ⟨m3, (List.forall_mem_cons.mpr ⟨m4, (List.forall_mem_cons.mpr ⟨m5, (fun _ h => absurd h List.not_mem_nil)⟩)⟩)⟩)⟩)⟩)⟩)
  · intro l st _ q
    obtain ⟨m0, q1⟩ := tkC_of q
    obtain ⟨x1, m1, q2⟩ := tkI_of q1
    obtain ⟨x2, m2, q3⟩ := tkI_of q2
    obtain ⟨x3, m3, q4⟩ := tkI_of q3
    obtain ⟨x4, m4, q5⟩ := tkI_of q4
    obtain ⟨x5, m5, q6⟩ := tkI_of q5
    obtain ⟨rfl, q7⟩ := skE_of q6
    exact WK_less (k67 _ _ _ _ _ _ q7) (List.forall_mem_cons.mpr ⟨m0, (List.forall_mem_cons.mpr ⟨m1, (List.forall_mem_cons.mpr ⟨m2, (List.forall_mem_cons.mpr ⟨m3, (List.forall_mem_cons.mpr ⟨m4, (List.forall_mem_cons.mpr ⟨m5, (fun _ h => absurd h List.not_mem_nil)⟩)⟩)⟩)⟩)⟩)⟩)
def nX9_longerThanOver_13 (h : HH) : Nat → Int → Int → Int → Int → Int → Option Int := iter (fun _ _ _ _ _ => none) (fun self => bX9_longerThanOver_13 nX9_minutesOf h (nX9_longerThanOver_64 h self) (nX9_longerThanOver_67 h self))
theorem nX9_longerThanOver_13_s {h : HH} {F : Nat} : nX9_longerThanOver_13 h (F + 1) = bX9_longerThanOver_13 nX9_minutesOf h (nX9_longerThanOver_64 h (nX9_longerThanOver_13 h F)) (nX9_longerThanOver_67 h (nX9_longerThanOver_13 h F)) := rfl
theorem wX9_longerThanOver_13 {g : SG} (hg : GOK g) {σ0 : SG} {h : HH} : ∀ {F : Nat}, ∀ {x1 : Int} {x2 : Int} {x3 : Int} {x4 : Int} {x5 : Int} {b : Int}, nX9_longerThanOver_13 h F x1 x2 x3 x4 x5 = some b → WK 99 (.inl (some (aI b))) σ0 (abH 2 70 g h) 13 [(0, aR 3), (1, aI x1), (2, aI x2), (3, aI x3), (4, aI x4), (5, aI x5)] [] (abH 2 70 g h) 0 0 := by
  intro F
  have z : ∀ (x1 : Int) (x2 : Int) (x3 : Int) (x4 : Int) (x5 : Int) (b : Int), nX9_longerThanOver_13 h F x1 x2 x3 x4 x5 = some b → WK 99 (.inl (some (aI b))) σ0 (abH 2 70 g h) 13 [(0, aR 3), (1, aI x1), (2, aI x2), (3, aI x3), (4, aI x4), (5, aI x5)] [] (abH 2 70 g h) 0 0 := iter_ind (P := fun (c : Int → Int → Int → Int → Int → Option Int) => ∀ (x1 : Int) (x2 : Int) (x3 : Int) (x4 : Int) (x5 : Int) (b : Int), c x1 x2 x3 x4 x5 = some b → WK 99 (.inl (some (aI b))) σ0 (abH 2 70 g h) 13 [(0, aR 3), (1, aI x1), (2, aI x2), (3, aI x3), (4, aI x4), (5, aI x5)] [] (abH 2 70 g h) 0 0) (by
    intro x1 x2 x3 x4 x5 b q
    cases q) (fun self ih => by
    intro x1 x2 x3 x4 x5 b q
    exact uX9_longerThanOver_13 hg (fun _ _ _ _ _ _ q => wX9_longerThanOver_64 hg ih q) (fun _ _ _ _ _ _ q => wX9_longerThanOver_67 hg ih q) q) F
  intro x1 x2 x3 x4 x5 b q
  exact z _ _ _ _ _ _ q
def bX9_longerThanOver (f87 : HH → Int → Int → Option Int) (h : HH) (c13 : Int → Int → Int → Int → Int → Option Int) (x1 : Int) (x2 : Int) : Option Int :=
  bnd (f87 h x1 x2) fun r1 =>
    c13 x1 x2 r1 0 0
theorem uX9_longerThanOver {g : SG} (hg : GOK g) {σ0 : SG} {h : HH} {c13 : Int → Int → Int → Int → Int → Option Int} (k13 : ∀ (x1 : Int) (x2 : Int) (x3 : Int) (x4 : Int) (x5 : Int) (b : Int), c13 x1 x2 x3 x4 x5 = some b → WK 99 (.inl (some (aI b))) σ0 (abH 2 70 g h) 13 [(0, aR 3), (1, aI x1), (2, aI x2), (3, aI x3), (4, aI x4), (5, aI x5)] [] (abH 2 70 g h) 0 0) : ∀ {x1 : Int} {x2 : Int} {b : Int}, bX9_longerThanOver nX9_minutesOf h c13 x1 x2 = some b → WK 99 (.inl (some (aI b))) σ0 (abH 2 70 g h) 0 [(0, aR 3), (1, aI x1), (2, aI x2)] [] (abH 2 70 g h) 0 0 := by
  intro x1 x2 b q
  have e : ∀ (f87 : HH → Int → Int → Option Int) , bX9_longerThanOver f87 h c13 x1 x2 = segP 2 70 g.2.2.2.2 h krPI (clCP 87 (pX9_minutesOf f87 h) clNP) csX9_longerThanOver (cuC 13 (fun l st s => tkC 0 3 l <| tkI 1 l fun x1 => tkI 2 l fun x2 => tkI 3 l fun x3 => tkI 4 l fun x4 => tkI 5 l fun x5 => skE st (c13 x1 x2 x3 x4 x5)) cuN) 1000 0 [(0, aR 3), (1, aI x1), (2, aI x2)] [] := fun _ => rfl
  rw [e nX9_minutesOf] at q
  clear e
  refine segP_wk (by decide) (by decide) hg rwX9_longerThanOver (CLKP_C (pX9_minutesOf_ok hg) CLKP_N) krPI_ok ?_ q
  clear q
  refine ct_C ?_ (ct_N)
  · intro l st _ q
    obtain ⟨m0, q1⟩ := tkC_of q
    obtain ⟨x1, m1, q2⟩ := tkI_of q1
    obtain ⟨x2, m2, q3⟩ := tkI_of q2
    obtain ⟨x3, m3, q4⟩ := tkI_of q3
    obtain ⟨x4, m4, q5⟩ := tkI_of q4
    obtain ⟨x5, m5, q6⟩ := tkI_of q5
    obtain ⟨rfl, q7⟩ := skE_of q6
    exact WK_less (k13 _ _ _ _ _ _ q7) (List.forall_mem_cons.mpr ⟨m0, (List.forall_mem_cons.mpr ⟨m1, (List.forall_mem_cons.mpr ⟨m2, (List.forall_mem_cons.mpr ⟨m3, (List.forall_mem_cons.mpr ⟨m4, (List.forall_mem_cons.mpr ⟨m5, (fun _ h => absurd h List.not_mem_nil)⟩)⟩)⟩)⟩)⟩)⟩)
def nX9_longerThanOver (h : HH) (x1 : Int) (x2 : Int) : Option Int := bX9_longerThanOver nX9_minutesOf h (nX9_longerThanOver_13 h 100000) x1 x2
theorem wX9_longerThanOver {g : SG} (hg : GOK g) {σ0 : SG} {h : HH} : ∀ {x1 : Int} {x2 : Int} {b : Int}, nX9_longerThanOver h x1 x2 = some b → WK 99 (.inl (some (aI b))) σ0 (abH 2 70 g h) 0 [(0, aR 3), (1, aI x1), (2, aI x2)] [] (abH 2 70 g h) 0 0 := by
  intro x1 x2 b q
  exact uX9_longerThanOver hg (fun _ _ _ _ _ _ q => wX9_longerThanOver_13 hg q) q
theorem mX9_longerThanOver {g : SG} (hg : GOK g) {h : HH} {x1 : Int} {x2 : Int} {b : Int} (q : nX9_longerThanOver h x1 x2 = some b) : MCT 99 [] [aR 3, aI x1, aI x2] (abH 2 70 g h) (.inl (some (aI b))) (abH 2 70 g h) :=
  mct_of (by decide) (MFok 99 (by decide +kernel)) (fun _ => Nat.le_of_ble_eq_true rfl) (wX9_longerThanOver hg q)
def pX9_longerThanOver {β : Type} (z : HH → Int → Int → Option Int) : PP β := fun h as f => skC 3 as fun as => skI as fun x1 as => skI as fun x2 as => skE as (bnd (z h x1 x2) fun r => f (.inl (some (aI r))))
theorem pX9_longerThanOver_ok {β : Type} {g : SG} (hg : GOK g) : CP1 (β := β) 99 (pX9_longerThanOver nX9_longerThanOver) 2 70 g := fun h as f b q => by
  obtain ⟨as, rfl, q1⟩ := skC_of q
  obtain ⟨x1, as, rfl, q2⟩ := skI_of q1
  obtain ⟨x2, as, rfl, q3⟩ := skI_of q2
  obtain ⟨rfl, q0⟩ := skE_of q3
  obtain ⟨r, z1, z2⟩ := bnd_of q0
  exact ⟨_, z2, by decide, mX9_longerThanOver hg z1, rfl, rfl, fun z => absurd z (by decide)⟩
def csX9_wrongWays : List (Nat × List (Nat × ARow)) := [(36, [(0, 1, .iconst 0, 0, 0, 0), (1, 1, .istore_n 1, 0, 0, 0), (2, 1, .iconst 0, 0, 0, 0), (3, 1, .istore_n 2, 0, 0, 0), (4, 1, .iload_n 2, 0, 0, 0), (5, 1, .aload_n 0, 0, 0, 0), (6, 3, .getfield 46, 9, 3, 0), (9, 3, .if_icmp .ge 44, 53, 0, 0), (12, 1, .aload_n 0, 0, 0, 0), (13, 1, .aload_n 0, 0, 0, 0), (14, 3, .getfield 9, 9, 0, 2), (17, 1, .iload_n 2, 0, 0, 0), (18, 1, .iaload, 0, 0, 0), (19, 1, .aload_n 0, 0, 0, 0), (20, 3, .getfield 15, 9, 1, 2), (23, 1, .iload_n 2, 0, 0, 0), (24, 1, .iaload, 0, 0, 0), (25, 3, .invokevirtual 78, 87, 3, 9), (28, 1, .istore_n 3, 0, 0, 0), (29, 1, .iload_n 3, 0, 0, 0), (30, 1, .iconst (-1), 0, 0, 0), (31, 3, .if_icmp .eq 13, 44, 0, 0), (34, 1, .iload_n 3, 0, 0, 0), (35, 1, .aload_n 0, 0, 0, 0)]),
  (78, [(36, 3, .getfield 18, 9, 2, 2), (39, 1, .iload_n 2, 0, 0, 0), (40, 1, .iaload, 0, 0, 0), (41, 3, .if_icmp .le 6, 47, 0, 0), (44, 3, .iinc 1 1, 0, 0, 0), (47, 3, .iinc 2 1, 0, 0, 0), (50, 3, .goto (-46), 4, 0, 0), (53, 1, .iconst 0, 0, 0, 0), (54, 1, .istore_n 2, 0, 0, 0), (55, 1, .iload_n 2, 0, 0, 0), (56, 2, .bipush 16, 0, 0, 0), (58, 3, .if_icmp .ge 32, 90, 0, 0), (61, 1, .iconst 0, 0, 0, 0), (62, 1, .istore_n 3, 0, 0, 0), (63, 1, .iload_n 3, 0, 0, 0), (64, 2, .bipush 16, 0, 0, 0), (66, 3, .if_icmp .ge 18, 84, 0, 0), (69, 1, .iload_n 1, 0, 0, 0), (70, 1, .aload_n 0, 0, 0, 0), (71, 1, .iload_n 2, 0, 0, 0), (72, 1, .iload_n 3, 0, 0, 0), (73, 3, .invokevirtual 81, 99, 3, 9), (76, 1, .iadd, 0, 0, 0), (77, 1, .istore_n 1, 0, 0, 0)]),
  (100000, [(78, 3, .iinc 3 1, 0, 0, 0), (81, 3, .goto (-18), 63, 0, 0), (84, 3, .iinc 2 1, 0, 0, 0), (87, 3, .goto (-32), 55, 0, 0), (90, 1, .iload_n 1, 0, 0, 0), (91, 1, .ireturn, 0, 0, 0)])]
theorem rwX9_wrongWays : rowsB (mB 98) (mO 98) (mX 98) (mIni 98) (mFr 98) (mLo 98) (mT 98) csX9_wrongWays = true := by decide +kernel
def bX9_wrongWays_63 (f99 : HH → Int → Int → Option Int) (h : HH) (c55 : Int → Int → Option Int) (c63 : Int → Int → Int → Option Int) (x1 : Int) (x2 : Int) (x3 : Int) : Option Int :=
  if x3 < (16 : Int) then
    bnd (f99 h x2 x3) fun r1 =>
    gd (R32 (x1 + r1)) <|
    gd (R32 (x3 + 1)) <|
    c63 (x1 + r1) x2 (x3 + 1)
  else
    gd (R32 (x2 + 1)) <|
    c55 x1 (x2 + 1)
theorem uX9_wrongWays_63 {g : SG} (hg : GOK g) {σ0 : SG} {h : HH} {c55 : Int → Int → Option Int} {c63 : Int → Int → Int → Option Int} (k55 : ∀ (x1 : Int) (x2 : Int) (b : Int), c55 x1 x2 = some b → WK 98 (.inl (some (aI b))) σ0 (abH 2 70 g h) 55 [(0, aR 3), (1, aI x1), (2, aI x2)] [] (abH 2 70 g h) 0 0) (k63 : ∀ (x1 : Int) (x2 : Int) (x3 : Int) (b : Int), c63 x1 x2 x3 = some b → WK 98 (.inl (some (aI b))) σ0 (abH 2 70 g h) 63 [(0, aR 3), (1, aI x1), (2, aI x2), (3, aI x3)] [] (abH 2 70 g h) 0 0) : ∀ {x1 : Int} {x2 : Int} {x3 : Int} {b : Int}, bX9_wrongWays_63 nX9_longerThanOver h c55 c63 x1 x2 x3 = some b → WK 98 (.inl (some (aI b))) σ0 (abH 2 70 g h) 63 [(0, aR 3), (1, aI x1), (2, aI x2), (3, aI x3)] [] (abH 2 70 g h) 0 0 := by
  intro x1 x2 x3 b q
  have e : ∀ (f99 : HH → Int → Int → Option Int) , bX9_wrongWays_63 f99 h c55 c63 x1 x2 x3 = segP 2 70 g.2.2.2.2 h krPI (clCP 99 (pX9_longerThanOver f99 h) clNP) csX9_wrongWays (cuC 55 (fun l st s => tkC 0 3 l <| tkI 1 l fun x1 => tkI 2 l fun x2 => skE st (c55 x1 x2)) (cuC 63 (fun l st s => tkC 0 3 l <| tkI 1 l fun x1 => tkI 2 l fun x2 => tkI 3 l fun x3 => skE st (c63 x1 x2 x3)) cuN)) 1000 63 [(0, aR 3), (1, aI x1), (2, aI x2), (3, aI x3)] [] := fun _ => rfl
  rw [e nX9_longerThanOver] at q
  clear e
  refine segP_wk (by decide) (by decide) hg rwX9_wrongWays (CLKP_C (pX9_longerThanOver_ok hg) CLKP_N) krPI_ok ?_ q
  clear q
  refine ct_C ?_ (ct_C ?_ (ct_N))
  · intro l st _ q
    obtain ⟨m0, q1⟩ := tkC_of q
    obtain ⟨x1, m1, q2⟩ := tkI_of q1
    obtain ⟨x2, m2, q3⟩ := tkI_of q2
    obtain ⟨rfl, q4⟩ := skE_of q3
    exact WK_less (k55 _ _ _ q4) (List.forall_mem_cons.mpr ⟨m0, (List.forall_mem_cons.mpr ⟨m1, (List.forall_mem_cons.mpr ⟨m2, (fun _ h => absurd h List.not_mem_nil)⟩)⟩)⟩)
  · intro l st _ q
    obtain ⟨m0, q1⟩ := tkC_of q
    obtain ⟨x1, m1, q2⟩ := tkI_of q1
    obtain ⟨x2, m2, q3⟩ := tkI_of q2
    obtain ⟨x3, m3, q4⟩ := tkI_of q3
    obtain ⟨rfl, q5⟩ := skE_of q4
    exact WK_less (k63 _ _ _ _ q5) (List.forall_mem_cons.mpr ⟨m0, (List.forall_mem_cons.mpr ⟨m1, (List.forall_mem_cons.mpr ⟨m2, (List.forall_mem_cons.mpr ⟨m3, (fun _ h => absurd h List.not_mem_nil)⟩)⟩)⟩)⟩)
def nX9_wrongWays_63 (h : HH) (c55 : Int → Int → Option Int) : Nat → Int → Int → Int → Option Int := iter (fun _ _ _ => none) (fun self => bX9_wrongWays_63 nX9_longerThanOver h c55 self)
theorem nX9_wrongWays_63_s {h : HH} {c55 : Int → Int → Option Int} {F : Nat} : nX9_wrongWays_63 h c55 (F + 1) = bX9_wrongWays_63 nX9_longerThanOver h c55 (nX9_wrongWays_63 h c55 F) := rfl
theorem wX9_wrongWays_63 {g : SG} (hg : GOK g) {σ0 : SG} {h : HH} {c55 : Int → Int → Option Int} (k55 : ∀ (x1 : Int) (x2 : Int) (b : Int), c55 x1 x2 = some b → WK 98 (.inl (some (aI b))) σ0 (abH 2 70 g h) 55 [(0, aR 3), (1, aI x1), (2, aI x2)] [] (abH 2 70 g h) 0 0) : ∀ {F : Nat}, ∀ {x1 : Int} {x2 : Int} {x3 : Int} {b : Int}, nX9_wrongWays_63 h c55 F x1 x2 x3 = some b → WK 98 (.inl (some (aI b))) σ0 (abH 2 70 g h) 63 [(0, aR 3), (1, aI x1), (2, aI x2), (3, aI x3)] [] (abH 2 70 g h) 0 0 := by
  intro F
  have z : ∀ (x1 : Int) (x2 : Int) (x3 : Int) (b : Int), nX9_wrongWays_63 h c55 F x1 x2 x3 = some b → WK 98 (.inl (some (aI b))) σ0 (abH 2 70 g h) 63 [(0, aR 3), (1, aI x1), (2, aI x2), (3, aI x3)] [] (abH 2 70 g h) 0 0 := iter_ind (P := fun (c : Int → Int → Int → Option Int) => ∀ (x1 : Int) (x2 : Int) (x3 : Int) (b : Int), c x1 x2 x3 = some b → WK 98 (.inl (some (aI b))) σ0 (abH 2 70 g h) 63 [(0, aR 3), (1, aI x1), (2, aI x2), (3, aI x3)] [] (abH 2 70 g h) 0 0) (by
    intro x1 x2 x3 b q
    cases q) (fun self ih => by
    intro x1 x2 x3 b q
    exact uX9_wrongWays_63 hg k55 ih q) F
  intro x1 x2 x3 b q
  exact z _ _ _ _ q
def bX9_wrongWays_55 (h : HH) (c63 : Int → Int → Int → Option Int) (x1 : Int) (x2 : Int) : Option Int :=
  if x2 < (16 : Int) then
    c63 x1 x2 0
  else
    some x1
theorem uX9_wrongWays_55 {g : SG} (hg : GOK g) {σ0 : SG} {h : HH} {c63 : Int → Int → Int → Option Int} (k63 : ∀ (x1 : Int) (x2 : Int) (x3 : Int) (b : Int), c63 x1 x2 x3 = some b → WK 98 (.inl (some (aI b))) σ0 (abH 2 70 g h) 63 [(0, aR 3), (1, aI x1), (2, aI x2), (3, aI x3)] [] (abH 2 70 g h) 0 0) : ∀ {x1 : Int} {x2 : Int} {b : Int}, bX9_wrongWays_55 h c63 x1 x2 = some b → WK 98 (.inl (some (aI b))) σ0 (abH 2 70 g h) 55 [(0, aR 3), (1, aI x1), (2, aI x2)] [] (abH 2 70 g h) 0 0 := by
  intro x1 x2 b q
  have e : bX9_wrongWays_55 h c63 x1 x2 = segP 2 70 g.2.2.2.2 h krPI clNP csX9_wrongWays (cuC 63 (fun l st s => tkC 0 3 l <| tkI 1 l fun x1 => tkI 2 l fun x2 => tkI 3 l fun x3 => skE st (c63 x1 x2 x3)) cuN) 1000 55 [(0, aR 3), (1, aI x1), (2, aI x2)] [] := rfl
  rw [e] at q
  clear e
  refine segP_wk (by decide) (by decide) hg rwX9_wrongWays CLKP_N krPI_ok ?_ q
  clear q
  refine ct_C ?_ (ct_N)
  · intro l st _ q
    obtain ⟨m0, q1⟩ := tkC_of q
    obtain ⟨x1, m1, q2⟩ := tkI_of q1
    obtain ⟨x2, m2, q3⟩ := tkI_of q2
    obtain ⟨x3, m3, q4⟩ := tkI_of q3
    obtain ⟨rfl, q5⟩ := skE_of q4
    exact WK_less (k63 _ _ _ _ q5) (List.forall_mem_cons.mpr ⟨m0, (List.forall_mem_cons.mpr ⟨m1, (List.forall_mem_cons.mpr ⟨m2, (List.forall_mem_cons.mpr ⟨m3, (fun _ h => absurd h List.not_mem_nil)⟩)⟩)⟩)⟩)
def nX9_wrongWays_55 (h : HH) : Nat → Int → Int → Option Int := iter (fun _ _ => none) (fun self => bX9_wrongWays_55 h (nX9_wrongWays_63 h self 100000))
theorem nX9_wrongWays_55_s {h : HH} {F : Nat} : nX9_wrongWays_55 h (F + 1) = bX9_wrongWays_55 h (nX9_wrongWays_63 h (nX9_wrongWays_55 h F) 100000) := rfl
theorem wX9_wrongWays_55 {g : SG} (hg : GOK g) {σ0 : SG} {h : HH} : ∀ {F : Nat}, ∀ {x1 : Int} {x2 : Int} {b : Int}, nX9_wrongWays_55 h F x1 x2 = some b → WK 98 (.inl (some (aI b))) σ0 (abH 2 70 g h) 55 [(0, aR 3), (1, aI x1), (2, aI x2)] [] (abH 2 70 g h) 0 0 := by
  intro F
  have z : ∀ (x1 : Int) (x2 : Int) (b : Int), nX9_wrongWays_55 h F x1 x2 = some b → WK 98 (.inl (some (aI b))) σ0 (abH 2 70 g h) 55 [(0, aR 3), (1, aI x1), (2, aI x2)] [] (abH 2 70 g h) 0 0 := iter_ind (P := fun (c : Int → Int → Option Int) => ∀ (x1 : Int) (x2 : Int) (b : Int), c x1 x2 = some b → WK 98 (.inl (some (aI b))) σ0 (abH 2 70 g h) 55 [(0, aR 3), (1, aI x1), (2, aI x2)] [] (abH 2 70 g h) 0 0) (by
    intro x1 x2 b q
    cases q) (fun self ih => by
    intro x1 x2 b q
    exact uX9_wrongWays_55 hg (fun _ _ _ _ q => wX9_wrongWays_63 hg ih q) q) F
  intro x1 x2 b q
  exact z _ _ _ q
def bX9_wrongWays_47 (h : HH) (c4 : Int → Int → Option Int) (x1 : Int) (x2 : Int) : Option Int :=
  gd (R32 (x2 + 1)) <|
    c4 x1 (x2 + 1)
theorem uX9_wrongWays_47 {g : SG} (hg : GOK g) {σ0 : SG} {h : HH} {c4 : Int → Int → Option Int} (k4 : ∀ (x1 : Int) (x2 : Int) (b : Int), c4 x1 x2 = some b → WK 98 (.inl (some (aI b))) σ0 (abH 2 70 g h) 4 [(0, aR 3), (1, aI x1), (2, aI x2)] [] (abH 2 70 g h) 0 0) : ∀ {x1 : Int} {x2 : Int} {b : Int}, bX9_wrongWays_47 h c4 x1 x2 = some b → WK 98 (.inl (some (aI b))) σ0 (abH 2 70 g h) 47 [(0, aR 3), (1, aI x1), (2, aI x2)] [] (abH 2 70 g h) 0 0 := by
  intro x1 x2 b q
  have e : bX9_wrongWays_47 h c4 x1 x2 = segP 2 70 g.2.2.2.2 h krPI clNP csX9_wrongWays (cuC 4 (fun l st s => tkC 0 3 l <| tkI 1 l fun x1 => tkI 2 l fun x2 => skE st (c4 x1 x2)) cuN) 1000 47 [(0, aR 3), (1, aI x1), (2, aI x2)] [] := rfl
  rw [e] at q
  clear e
  refine segP_wk (by decide) (by decide) hg rwX9_wrongWays CLKP_N krPI_ok ?_ q
  clear q
  refine ct_C ?_ (ct_N)
  · intro l st _ q
    obtain ⟨m0, q1⟩ := tkC_of q
    obtain ⟨x1, m1, q2⟩ := tkI_of q1
    obtain ⟨x2, m2, q3⟩ := tkI_of q2
    obtain ⟨rfl, q4⟩ := skE_of q3
    exact WK_less (k4 _ _ _ q4) (List.forall_mem_cons.mpr ⟨m0, (List.forall_mem_cons.mpr ⟨m1, (List.forall_mem_cons.mpr ⟨m2, (fun _ h => absurd h List.not_mem_nil)⟩)⟩)⟩)
def nX9_wrongWays_47 (h : HH) (c4 : Int → Int → Option Int) (x1 : Int) (x2 : Int) : Option Int := bX9_wrongWays_47 h c4 x1 x2
theorem wX9_wrongWays_47 {g : SG} (hg : GOK g) {σ0 : SG} {h : HH} {c4 : Int → Int → Option Int} (k4 : ∀ (x1 : Int) (x2 : Int) (b : Int), c4 x1 x2 = some b → WK 98 (.inl (some (aI b))) σ0 (abH 2 70 g h) 4 [(0, aR 3), (1, aI x1), (2, aI x2)] [] (abH 2 70 g h) 0 0) : ∀ {x1 : Int} {x2 : Int} {b : Int}, nX9_wrongWays_47 h c4 x1 x2 = some b → WK 98 (.inl (some (aI b))) σ0 (abH 2 70 g h) 47 [(0, aR 3), (1, aI x1), (2, aI x2)] [] (abH 2 70 g h) 0 0 := by
  intro x1 x2 b q
  exact uX9_wrongWays_47 hg k4 q
def bX9_wrongWays_44 (h : HH) (c47 : Int → Int → Option Int) (x1 : Int) (x2 : Int) : Option Int :=
  gd (R32 (x1 + 1)) <|
    c47 (x1 + 1) x2
theorem uX9_wrongWays_44 {g : SG} (hg : GOK g) {σ0 : SG} {h : HH} {c47 : Int → Int → Option Int} (k47 : ∀ (x1 : Int) (x2 : Int) (b : Int), c47 x1 x2 = some b → WK 98 (.inl (some (aI b))) σ0 (abH 2 70 g h) 47 [(0, aR 3), (1, aI x1), (2, aI x2)] [] (abH 2 70 g h) 0 0) : ∀ {x1 : Int} {x2 : Int} {b : Int}, bX9_wrongWays_44 h c47 x1 x2 = some b → WK 98 (.inl (some (aI b))) σ0 (abH 2 70 g h) 44 [(0, aR 3), (1, aI x1), (2, aI x2)] [] (abH 2 70 g h) 0 0 := by
  intro x1 x2 b q
  have e : bX9_wrongWays_44 h c47 x1 x2 = segP 2 70 g.2.2.2.2 h krPI clNP csX9_wrongWays (cuC 47 (fun l st s => tkC 0 3 l <| tkI 1 l fun x1 => tkI 2 l fun x2 => skE st (c47 x1 x2)) cuN) 1000 44 [(0, aR 3), (1, aI x1), (2, aI x2)] [] := rfl
  rw [e] at q
  clear e
  refine segP_wk (by decide) (by decide) hg rwX9_wrongWays CLKP_N krPI_ok ?_ q
  clear q
  refine ct_C ?_ (ct_N)
  · intro l st _ q
    obtain ⟨m0, q1⟩ := tkC_of q
    obtain ⟨x1, m1, q2⟩ := tkI_of q1
    obtain ⟨x2, m2, q3⟩ := tkI_of q2
    obtain ⟨rfl, q4⟩ := skE_of q3
    exact WK_less (k47 _ _ _ q4) (List.forall_mem_cons.mpr ⟨m0, (List.forall_mem_cons.mpr ⟨m1, (List.forall_mem_cons.mpr ⟨m2, (fun _ h => absurd h List.not_mem_nil)⟩)⟩)⟩)
def nX9_wrongWays_44 (h : HH) (c4 : Int → Int → Option Int) (x1 : Int) (x2 : Int) : Option Int := bX9_wrongWays_44 h (nX9_wrongWays_47 h c4) x1 x2
theorem wX9_wrongWays_44 {g : SG} (hg : GOK g) {σ0 : SG} {h : HH} {c4 : Int → Int → Option Int} (k4 : ∀ (x1 : Int) (x2 : Int) (b : Int), c4 x1 x2 = some b → WK 98 (.inl (some (aI b))) σ0 (abH 2 70 g h) 4 [(0, aR 3), (1, aI x1), (2, aI x2)] [] (abH 2 70 g h) 0 0) : ∀ {x1 : Int} {x2 : Int} {b : Int}, nX9_wrongWays_44 h c4 x1 x2 = some b → WK 98 (.inl (some (aI b))) σ0 (abH 2 70 g h) 44 [(0, aR 3), (1, aI x1), (2, aI x2)] [] (abH 2 70 g h) 0 0 := by
  intro x1 x2 b q
  exact uX9_wrongWays_44 hg (fun _ _ _ q => wX9_wrongWays_47 hg k4 q) q
def bX9_wrongWays_4 (f87 : HH → Int → Int → Option Int) (h : HH) (c44 : Int → Int → Option Int) (c47 : Int → Int → Option Int) (c55 : Int → Int → Option Int) (x1 : Int) (x2 : Int) : Option Int :=
  if x2 < ((h.1 3 3) : Int) then
    gd ((0 : Int) ≤ x2 ∧ x2 < (60 : Int)) <|
    gd ((0 : Int) ≤ x2 ∧ x2 < (60 : Int)) <|
    bnd (f87 h (h.1 4 x2) (h.1 5 x2)) fun r1 =>
    if r1 = ((-1) : Int) then
    c44 x1 x2
  else
    gd ((0 : Int) ≤ x2 ∧ x2 < (60 : Int)) <|
    if ((h.1 6 x2) : Int) < r1 then
    c44 x1 x2
  else
    c47 x1 x2
  else
    c55 x1 0
theorem uX9_wrongWays_4 {g : SG} (hg : GOK g) {σ0 : SG} {h : HH} {c44 : Int → Int → Option Int} {c47 : Int → Int → Option Int} {c55 : Int → Int → Option Int} (k44 : ∀ (x1 : Int) (x2 : Int) (b : Int), c44 x1 x2 = some b → WK 98 (.inl (some (aI b))) σ0 (abH 2 70 g h) 44 [(0, aR 3), (1, aI x1), (2, aI x2)] [] (abH 2 70 g h) 0 0) (k47 : ∀ (x1 : Int) (x2 : Int) (b : Int), c47 x1 x2 = some b → WK 98 (.inl (some (aI b))) σ0 (abH 2 70 g h) 47 [(0, aR 3), (1, aI x1), (2, aI x2)] [] (abH 2 70 g h) 0 0) (k55 : ∀ (x1 : Int) (x2 : Int) (b : Int), c55 x1 x2 = some b → WK 98 (.inl (some (aI b))) σ0 (abH 2 70 g h) 55 [(0, aR 3), (1, aI x1), (2, aI x2)] [] (abH 2 70 g h) 0 0) : ∀ {x1 : Int} {x2 : Int} {b : Int}, bX9_wrongWays_4 nX9_minutesOf h c44 c47 c55 x1 x2 = some b → WK 98 (.inl (some (aI b))) σ0 (abH 2 70 g h) 4 [(0, aR 3), (1, aI x1), (2, aI x2)] [] (abH 2 70 g h) 0 0 := by
  intro x1 x2 b q
  have e : ∀ (f87 : HH → Int → Int → Option Int) , bX9_wrongWays_4 f87 h c44 c47 c55 x1 x2 = segP 2 70 g.2.2.2.2 h krPI (clCP 87 (pX9_minutesOf f87 h) clNP) csX9_wrongWays (cuC 44 (fun l st s => tkC 0 3 l <| tkI 1 l fun x1 => tkI 2 l fun x2 => skE st (c44 x1 x2)) (cuC 47 (fun l st s => tkC 0 3 l <| tkI 1 l fun x1 => tkI 2 l fun x2 => skE st (c47 x1 x2)) (cuC 55 (fun l st s => tkC 0 3 l <| tkI 1 l fun x1 => tkI 2 l fun x2 => skE st (c55 x1 x2)) cuN))) 1000 4 [(0, aR 3), (1, aI x1), (2, aI x2)] [] := fun _ => rfl
  rw [e nX9_minutesOf] at q
  clear e
  refine segP_wk (by decide) (by decide) hg rwX9_wrongWays (CLKP_C (pX9_minutesOf_ok hg) CLKP_N) krPI_ok ?_ q
  clear q
  refine ct_C ?_ (ct_C ?_ (ct_C ?_ (ct_N)))
  · intro l st _ q
    obtain ⟨m0, q1⟩ := tkC_of q
    obtain ⟨x1, m1, q2⟩ := tkI_of q1
    obtain ⟨x2, m2, q3⟩ := tkI_of q2
    obtain ⟨rfl, q4⟩ := skE_of q3
    exact WK_less (k44 _ _ _ q4) (List.forall_mem_cons.mpr ⟨m0, (List.forall_mem_cons.mpr ⟨m1, (List.forall_mem_cons.mpr ⟨m2, (fun _ h => absurd h List.not_mem_nil)⟩)⟩)⟩)
  · intro l st _ q
    obtain ⟨m0, q1⟩ := tkC_of q
    obtain ⟨x1, m1, q2⟩ := tkI_of q1
    obtain ⟨x2, m2, q3⟩ := tkI_of q2
    obtain ⟨rfl, q4⟩ := skE_of q3
    exact WK_less (k47 _ _ _ q4) (List.forall_mem_cons.mpr ⟨m0, (List.forall_mem_cons.mpr ⟨m1, (List.forall_mem_cons.mpr ⟨m2, (fun _ h => absurd h List.not_mem_nil)⟩)⟩)⟩)
  · intro l st _ q
    obtain ⟨m0, q1⟩ := tkC_of q
    obtain ⟨x1, m1, q2⟩ := tkI_of q1
    obtain ⟨x2, m2, q3⟩ := tkI_of q2
    obtain ⟨rfl, q4⟩ := skE_of q3
    exact WK_less (k55 _ _ _ q4) (List.forall_mem_cons.mpr ⟨m0, (List.forall_mem_cons.mpr ⟨m1, (List.forall_mem_cons.mpr ⟨m2, (fun _ h => absurd h List.not_mem_nil)⟩)⟩)⟩)
def nX9_wrongWays_4 (h : HH) : Nat → Int → Int → Option Int := iter (fun _ _ => none) (fun self => bX9_wrongWays_4 nX9_minutesOf h (nX9_wrongWays_44 h self) (nX9_wrongWays_47 h self) (nX9_wrongWays_55 h 100000))
theorem nX9_wrongWays_4_s {h : HH} {F : Nat} : nX9_wrongWays_4 h (F + 1) = bX9_wrongWays_4 nX9_minutesOf h (nX9_wrongWays_44 h (nX9_wrongWays_4 h F)) (nX9_wrongWays_47 h (nX9_wrongWays_4 h F)) (nX9_wrongWays_55 h 100000) := rfl
theorem wX9_wrongWays_4 {g : SG} (hg : GOK g) {σ0 : SG} {h : HH} : ∀ {F : Nat}, ∀ {x1 : Int} {x2 : Int} {b : Int}, nX9_wrongWays_4 h F x1 x2 = some b → WK 98 (.inl (some (aI b))) σ0 (abH 2 70 g h) 4 [(0, aR 3), (1, aI x1), (2, aI x2)] [] (abH 2 70 g h) 0 0 := by
  intro F
  have z : ∀ (x1 : Int) (x2 : Int) (b : Int), nX9_wrongWays_4 h F x1 x2 = some b → WK 98 (.inl (some (aI b))) σ0 (abH 2 70 g h) 4 [(0, aR 3), (1, aI x1), (2, aI x2)] [] (abH 2 70 g h) 0 0 := iter_ind (P := fun (c : Int → Int → Option Int) => ∀ (x1 : Int) (x2 : Int) (b : Int), c x1 x2 = some b → WK 98 (.inl (some (aI b))) σ0 (abH 2 70 g h) 4 [(0, aR 3), (1, aI x1), (2, aI x2)] [] (abH 2 70 g h) 0 0) (by
    intro x1 x2 b q
    cases q) (fun self ih => by
    intro x1 x2 b q
    exact uX9_wrongWays_4 hg (fun _ _ _ q => wX9_wrongWays_44 hg ih q) (fun _ _ _ q => wX9_wrongWays_47 hg ih q) (fun _ _ _ q => wX9_wrongWays_55 hg q) q) F
  intro x1 x2 b q
  exact z _ _ _ q
def bX9_wrongWays (h : HH) (c4 : Int → Int → Option Int) : Option Int :=
  c4 0 0
theorem uX9_wrongWays {g : SG} (hg : GOK g) {σ0 : SG} {h : HH} {c4 : Int → Int → Option Int} (k4 : ∀ (x1 : Int) (x2 : Int) (b : Int), c4 x1 x2 = some b → WK 98 (.inl (some (aI b))) σ0 (abH 2 70 g h) 4 [(0, aR 3), (1, aI x1), (2, aI x2)] [] (abH 2 70 g h) 0 0) : ∀ {b : Int}, bX9_wrongWays h c4 = some b → WK 98 (.inl (some (aI b))) σ0 (abH 2 70 g h) 0 [(0, aR 3)] [] (abH 2 70 g h) 0 0 := by
  intro  b q
  have e : bX9_wrongWays h c4 = segP 2 70 g.2.2.2.2 h krPI clNP csX9_wrongWays (cuC 4 (fun l st s => tkC 0 3 l <| tkI 1 l fun x1 => tkI 2 l fun x2 => skE st (c4 x1 x2)) cuN) 1000 0 [(0, aR 3)] [] := rfl
  rw [e] at q
  clear e
  refine segP_wk (by decide) (by decide) hg rwX9_wrongWays CLKP_N krPI_ok ?_ q
  clear q
  refine ct_C ?_ (ct_N)
  · intro l st _ q
    obtain ⟨m0, q1⟩ := tkC_of q
    obtain ⟨x1, m1, q2⟩ := tkI_of q1
    obtain ⟨x2, m2, q3⟩ := tkI_of q2
    obtain ⟨rfl, q4⟩ := skE_of q3
    exact WK_less (k4 _ _ _ q4) (List.forall_mem_cons.mpr ⟨m0, (List.forall_mem_cons.mpr ⟨m1, (List.forall_mem_cons.mpr ⟨m2, (fun _ h => absurd h List.not_mem_nil)⟩)⟩)⟩)
def nX9_wrongWays (h : HH) : Option Int := bX9_wrongWays h (nX9_wrongWays_4 h 100000)
theorem wX9_wrongWays {g : SG} (hg : GOK g) {σ0 : SG} {h : HH} : ∀ {b : Int}, nX9_wrongWays h = some b → WK 98 (.inl (some (aI b))) σ0 (abH 2 70 g h) 0 [(0, aR 3)] [] (abH 2 70 g h) 0 0 := by
  intro  b q
  exact uX9_wrongWays hg (fun _ _ _ q => wX9_wrongWays_4 hg q) q
theorem mX9_wrongWays {g : SG} (hg : GOK g) {h : HH} {b : Int} (q : nX9_wrongWays h = some b) : MCT 98 [] [aR 3] (abH 2 70 g h) (.inl (some (aI b))) (abH 2 70 g h) :=
  mct_of (by decide) (MFok 98 (by decide +kernel)) (fun _ => Nat.le_of_ble_eq_true rfl) (wX9_wrongWays hg q)
def pX9_wrongWays {β : Type} (z : HH → Option Int) : PP β := fun h as f => skC 3 as fun as => skE as (bnd (z h) fun r => f (.inl (some (aI r))))
theorem pX9_wrongWays_ok {β : Type} {g : SG} (hg : GOK g) : CP1 (β := β) 98 (pX9_wrongWays nX9_wrongWays) 2 70 g := fun h as f b q => by
  obtain ⟨as, rfl, q1⟩ := skC_of q
  obtain ⟨rfl, q0⟩ := skE_of q1
  obtain ⟨r, z1, z2⟩ := bnd_of q0
  exact ⟨_, z2, by decide, mX9_wrongWays hg z1, rfl, rfl, fun z => absurd z (by decide)⟩
def csX10_gatherDoors : List (Nat × List (Nat × ARow)) := [(43, [(0, 1, .aload_n 0, 0, 0, 0), (1, 3, .getfield 11, 10, 1, 2), (4, 1, .iconst 0, 0, 0, 0), (5, 1, .iconst 0, 0, 0, 0), (6, 1, .iastore, 0, 0, 0), (7, 1, .aload_n 0, 0, 0, 0), (8, 1, .iconst 1, 0, 0, 0), (9, 3, .putfield 35, 10, 2, 0), (12, 1, .iconst 1, 0, 0, 0), (13, 2, .istore 4, 0, 0, 0), (15, 2, .iload 4, 0, 0, 0), (17, 2, .bipush 16, 0, 0, 0), (19, 3, .if_icmp .ge 88, 107, 0, 0), (22, 1, .iconst 0, 0, 0, 0), (23, 2, .istore 5, 0, 0, 0), (25, 1, .iconst 0, 0, 0, 0), (26, 2, .istore 6, 0, 0, 0), (28, 2, .iload 6, 0, 0, 0), (30, 1, .iload_n 3, 0, 0, 0), (31, 3, .if_icmp .ge 35, 66, 0, 0), (34, 2, .iload 5, 0, 0, 0), (36, 3, .ifCond .ne 17, 53, 0, 0), (39, 1, .aload_n 1, 0, 0, 0), (40, 3, .getfield 43, 2, 1, 2)]),
  (91, [(43, 1, .aload_n 2, 0, 0, 0), (44, 2, .iload 6, 0, 0, 0), (46, 1, .iaload, 0, 0, 0), (47, 1, .iaload, 0, 0, 0), (48, 2, .iload 4, 0, 0, 0), (50, 3, .if_icmp .ne 7, 57, 0, 0), (53, 1, .iconst 1, 0, 0, 0), (54, 3, .goto 4, 58, 0, 0), (57, 1, .iconst 0, 0, 0, 0), (58, 2, .istore 5, 0, 0, 0), (60, 3, .iinc 6 1, 0, 0, 0), (63, 3, .goto (-35), 28, 0, 0), (66, 2, .iload 5, 0, 0, 0), (68, 3, .ifCond .eq 33, 101, 0, 0), (71, 1, .aload_n 0, 0, 0, 0), (72, 3, .getfield 35, 10, 2, 0), (75, 2, .bipush 10, 0, 0, 0), (77, 3, .if_icmp .ge 24, 101, 0, 0), (80, 1, .aload_n 0, 0, 0, 0), (81, 3, .getfield 11, 10, 1, 2), (84, 1, .aload_n 0, 0, 0, 0), (85, 3, .getfield 35, 10, 2, 0), (88, 2, .iload 4, 0, 0, 0), (90, 1, .iastore, 0, 0, 0)]),
  (100000, [(91, 1, .aload_n 0, 0, 0, 0), (92, 1, .dup, 0, 0, 0), (93, 3, .getfield 35, 10, 2, 0), (96, 1, .iconst 1, 0, 0, 0), (97, 1, .iadd, 0, 0, 0), (98, 3, .putfield 35, 10, 2, 0), (101, 3, .iinc 4 1, 0, 0, 0), (104, 3, .goto (-89), 15, 0, 0), (107, 1, .return_, 0, 0, 0)])]
theorem rwX10_gatherDoors : rowsB (mB 102) (mO 102) (mX 102) (mIni 102) (mFr 102) (mLo 102) (mT 102) csX10_gatherDoors = true := by decide +kernel
def bX10_gatherDoors_101 (c15 : Nat → Int → Int → HH → Option HH) (x2 : Nat) (x3 : Int) (x4 : Int) (h : HH) : Option HH :=
  gd (R32 (x4 + 1)) <|
    c15 x2 x3 (x4 + 1) h
theorem uX10_gatherDoors_101 {g : SG} (hg : GOK g) {σ0 : SG} {c15 : Nat → Int → Int → HH → Option HH} (k15 : ∀ (x2 : Nat) (x3 : Int) (x4 : Int) (h : HH) (b : HH), c15 x2 x3 x4 h = some b → WK 102 (.inl none) σ0 (abH 2 70 g b) 15 [(0, aR 53), (1, aR 13), (2, aR x2), (3, aI x3), (4, aI x4)] [] (abH 2 70 g h) 0 0) : ∀ {x2 : Nat} {x3 : Int} {x4 : Int} {h : HH} {b : HH}, bX10_gatherDoors_101 c15 x2 x3 x4 h = some b → WK 102 (.inl none) σ0 (abH 2 70 g b) 101 [(0, aR 53), (1, aR 13), (2, aR x2), (3, aI x3), (4, aI x4)] [] (abH 2 70 g h) 0 0 := by
  intro x2 x3 x4 h b q
  have e : bX10_gatherDoors_101 c15 x2 x3 x4 h = segW 2 70 g.2.2.2.2 krWV clN csX10_gatherDoors (cuC 15 (fun l st s => tkC 0 53 l <| tkC 1 13 l <| tkR 2 l fun x2 => tkI 3 l fun x3 => tkI 4 l fun x4 => skE st (c15 x2 x3 x4 s)) cuN) 1000 101 [(0, aR 53), (1, aR 13), (2, aR x2), (3, aI x3), (4, aI x4)] [] h := rfl
  rw [e] at q
  clear e
  refine segW_wk (by decide) (by decide) hg rwX10_gatherDoors CLKW_N krWV_ok ?_ q
  clear q
  refine ct_C ?_ (ct_N)
  · intro l st h q
    obtain ⟨m0, q1⟩ := tkC_of q
    obtain ⟨m1, q2⟩ := tkC_of q1
    obtain ⟨x2, m2, q3⟩ := tkR_of q2
    obtain ⟨x3, m3, q4⟩ := tkI_of q3
    obtain ⟨x4, m4, q5⟩ := tkI_of q4
    obtain ⟨rfl, q6⟩ := skE_of q5
    exact WK_less (k15 _ _ _ _ _ q6) (List.forall_mem_cons.mpr ⟨m0, (List.forall_mem_cons.mpr ⟨m1, (List.forall_mem_cons.mpr ⟨m2, (List.forall_mem_cons.mpr ⟨m3, (List.forall_mem_cons.mpr ⟨m4, (fun _ h => absurd h List.not_mem_nil)⟩)⟩)⟩)⟩)⟩)
def nX10_gatherDoors_101 (c15 : Nat → Int → Int → HH → Option HH) (x2 : Nat) (x3 : Int) (x4 : Int) (h : HH) : Option HH := bX10_gatherDoors_101 c15 x2 x3 x4 h
theorem wX10_gatherDoors_101 {g : SG} (hg : GOK g) {σ0 : SG} {c15 : Nat → Int → Int → HH → Option HH} (k15 : ∀ (x2 : Nat) (x3 : Int) (x4 : Int) (h : HH) (b : HH), c15 x2 x3 x4 h = some b → WK 102 (.inl none) σ0 (abH 2 70 g b) 15 [(0, aR 53), (1, aR 13), (2, aR x2), (3, aI x3), (4, aI x4)] [] (abH 2 70 g h) 0 0) : ∀ {x2 : Nat} {x3 : Int} {x4 : Int} {h : HH} {b : HH}, nX10_gatherDoors_101 c15 x2 x3 x4 h = some b → WK 102 (.inl none) σ0 (abH 2 70 g b) 101 [(0, aR 53), (1, aR 13), (2, aR x2), (3, aI x3), (4, aI x4)] [] (abH 2 70 g h) 0 0 := by
  intro x2 x3 x4 h b q
  exact uX10_gatherDoors_101 hg k15 q
def bX10_gatherDoors_58 (c28 : Nat → Int → Int → Int → Int → HH → Option HH) (x2 : Nat) (x3 : Int) (x4 : Int) (x6 : Int) (y0 : Int) (h : HH) : Option HH :=
  gd (R32 (x6 + 1)) <|
    c28 x2 x3 x4 y0 (x6 + 1) h
theorem uX10_gatherDoors_58 {g : SG} (hg : GOK g) {σ0 : SG} {c28 : Nat → Int → Int → Int → Int → HH → Option HH} (k28 : ∀ (x2 : Nat) (x3 : Int) (x4 : Int) (x5 : Int) (x6 : Int) (h : HH) (b : HH), c28 x2 x3 x4 x5 x6 h = some b → WK 102 (.inl none) σ0 (abH 2 70 g b) 28 [(0, aR 53), (1, aR 13), (2, aR x2), (3, aI x3), (4, aI x4), (5, aI x5), (6, aI x6)] [] (abH 2 70 g h) 0 0) : ∀ {x2 : Nat} {x3 : Int} {x4 : Int} {x6 : Int} {y0 : Int} {h : HH} {b : HH}, bX10_gatherDoors_58 c28 x2 x3 x4 x6 y0 h = some b → WK 102 (.inl none) σ0 (abH 2 70 g b) 58 [(0, aR 53), (1, aR 13), (2, aR x2), (3, aI x3), (4, aI x4), (6, aI x6)] [aI y0] (abH 2 70 g h) 0 0 := by
  intro x2 x3 x4 x6 y0 h b q
  have e : bX10_gatherDoors_58 c28 x2 x3 x4 x6 y0 h = segW 2 70 g.2.2.2.2 krWV clN csX10_gatherDoors (cuC 28 (fun l st s => tkC 0 53 l <| tkC 1 13 l <| tkR 2 l fun x2 => tkI 3 l fun x3 => tkI 4 l fun x4 => tkI 5 l fun x5 => tkI 6 l fun x6 => skE st (c28 x2 x3 x4 x5 x6 s)) cuN) 1000 58 [(0, aR 53), (1, aR 13), (2, aR x2), (3, aI x3), (4, aI x4), (6, aI x6)] [aI y0] h := rfl
  rw [e] at q
  clear e
  refine segW_wk (by decide) (by decide) hg rwX10_gatherDoors CLKW_N krWV_ok ?_ q
  clear q
  refine ct_C ?_ (ct_N)
  · intro l st h q
    obtain ⟨m0, q1⟩ := tkC_of q
    obtain ⟨m1, q2⟩ := tkC_of q1
    obtain ⟨x2, m2, q3⟩ := tkR_of q2
    obtain ⟨x3, m3, q4⟩ := tkI_of q3
    obtain ⟨x4, m4, q5⟩ := tkI_of q4
    obtain ⟨x5, m5, q6⟩ := tkI_of q5
    obtain ⟨x6, m6, q7⟩ := tkI_of q6
    obtain ⟨rfl, q8⟩ := skE_of q7
    exact WK_less (k28 _ _ _ _ _ _ _ q8) (List.forall_mem_cons.mpr ⟨m0, (List.forall_mem_cons.mpr ⟨m1, (List.forall_mem_cons.mpr ⟨m2, (List.forall_mem_cons.mpr ⟨m3, (List.forall_mem_cons.mpr ⟨m4, (List.forall_mem_cons.mpr ⟨m5, (List.forall_mem_cons.mpr ⟨m6, (fun _ h => absurd h List.not_mem_nil)⟩)⟩)⟩)⟩)⟩)⟩)⟩)
def nX10_gatherDoors_58 (c15 : Nat → Int → Int → HH → Option HH) (c28 : Nat → Int → Int → Int → Int → HH → Option HH) (x2 : Nat) (x3 : Int) (x4 : Int) (x6 : Int) (y0 : Int) (h : HH) : Option HH := bX10_gatherDoors_58 c28 x2 x3 x4 x6 y0 h
theorem wX10_gatherDoors_58 {g : SG} (hg : GOK g) {σ0 : SG} {c15 : Nat → Int → Int → HH → Option HH} {c28 : Nat → Int → Int → Int → Int → HH → Option HH} (k15 : ∀ (x2 : Nat) (x3 : Int) (x4 : Int) (h : HH) (b : HH), c15 x2 x3 x4 h = some b → WK 102 (.inl none) σ0 (abH 2 70 g b) 15 [(0, aR 53), (1, aR 13), (2, aR x2), (3, aI x3), (4, aI x4)] [] (abH 2 70 g h) 0 0) (k28 : ∀ (x2 : Nat) (x3 : Int) (x4 : Int) (x5 : Int) (x6 : Int) (h : HH) (b : HH), c28 x2 x3 x4 x5 x6 h = some b → WK 102 (.inl none) σ0 (abH 2 70 g b) 28 [(0, aR 53), (1, aR 13), (2, aR x2), (3, aI x3), (4, aI x4), (5, aI x5), (6, aI x6)] [] (abH 2 70 g h) 0 0) : ∀ {x2 : Nat} {x3 : Int} {x4 : Int} {x6 : Int} {y0 : Int} {h : HH} {b : HH}, nX10_gatherDoors_58 c15 c28 x2 x3 x4 x6 y0 h = some b → WK 102 (.inl none) σ0 (abH 2 70 g b) 58 [(0, aR 53), (1, aR 13), (2, aR x2), (3, aI x3), (4, aI x4), (6, aI x6)] [aI y0] (abH 2 70 g h) 0 0 := by
  intro x2 x3 x4 x6 y0 h b q
  exact uX10_gatherDoors_58 hg k28 q
def bX10_gatherDoors_53 (c58 : Nat → Int → Int → Int → Int → HH → Option HH) (x2 : Nat) (x3 : Int) (x4 : Int) (x6 : Int) (h : HH) : Option HH :=
  c58 x2 x3 x4 x6 1 h
theorem uX10_gatherDoors_53 {g : SG} (hg : GOK g) {σ0 : SG} {c58 : Nat → Int → Int → Int → Int → HH → Option HH} (k58 : ∀ (x2 : Nat) (x3 : Int) (x4 : Int) (x6 : Int) (y0 : Int) (h : HH) (b : HH), c58 x2 x3 x4 x6 y0 h = some b → WK 102 (.inl none) σ0 (abH 2 70 g b) 58 [(0, aR 53), (1, aR 13), (2, aR x2), (3, aI x3), (4, aI x4), (6, aI x6)] [aI y0] (abH 2 70 g h) 0 0) : ∀ {x2 : Nat} {x3 : Int} {x4 : Int} {x6 : Int} {h : HH} {b : HH}, bX10_gatherDoors_53 c58 x2 x3 x4 x6 h = some b → WK 102 (.inl none) σ0 (abH 2 70 g b) 53 [(0, aR 53), (1, aR 13), (2, aR x2), (3, aI x3), (4, aI x4), (6, aI x6)] [] (abH 2 70 g h) 0 0 := by
  intro x2 x3 x4 x6 h b q
  have e : bX10_gatherDoors_53 c58 x2 x3 x4 x6 h = segW 2 70 g.2.2.2.2 krWV clN csX10_gatherDoors (cuC 58 (fun l st s => tkC 0 53 l <| tkC 1 13 l <| tkR 2 l fun x2 => tkI 3 l fun x3 => tkI 4 l fun x4 => tkI 6 l fun x6 => skI st fun y0 st => skE st (c58 x2 x3 x4 x6 y0 s)) cuN) 1000 53 [(0, aR 53), (1, aR 13), (2, aR x2), (3, aI x3), (4, aI x4), (6, aI x6)] [] h := rfl
  rw [e] at q
  clear e
  refine segW_wk (by decide) (by decide) hg rwX10_gatherDoors CLKW_N krWV_ok ?_ q
  clear q
  refine ct_C ?_ (ct_N)
  · intro l st h q
    obtain ⟨m0, q1⟩ := tkC_of q
    obtain ⟨m1, q2⟩ := tkC_of q1
    obtain ⟨x2, m2, q3⟩ := tkR_of q2
    obtain ⟨x3, m3, q4⟩ := tkI_of q3
    obtain ⟨x4, m4, q5⟩ := tkI_of q4
    obtain ⟨x6, m6, q6⟩ := tkI_of q5
    obtain ⟨y0, t0, rfl, q7⟩ := skI_of q6
    obtain ⟨rfl, q8⟩ := skE_of q7
    exact WK_less (k58 _ _ _ _ _ _ _ q8) (List.forall_mem_cons.mpr ⟨m0, (List.forall_mem_cons.mpr ⟨m1, (List.forall_mem_cons.mpr ⟨m2, (List.forall_mem_cons.mpr ⟨m3, (List.forall_mem_cons.mpr ⟨m4, (List.forall_mem_cons.mpr ⟨m6, (fun _ h => absurd h List.not_mem_nil)⟩)⟩)⟩)⟩)⟩)⟩)
def nX10_gatherDoors_53 (c15 : Nat → Int → Int → HH → Option HH) (c28 : Nat → Int → Int → Int → Int → HH → Option HH) (x2 : Nat) (x3 : Int) (x4 : Int) (x6 : Int) (h : HH) : Option HH := bX10_gatherDoors_53 (nX10_gatherDoors_58 c15 c28) x2 x3 x4 x6 h
theorem wX10_gatherDoors_53 {g : SG} (hg : GOK g) {σ0 : SG} {c15 : Nat → Int → Int → HH → Option HH} {c28 : Nat → Int → Int → Int → Int → HH → Option HH} (k15 : ∀ (x2 : Nat) (x3 : Int) (x4 : Int) (h : HH) (b : HH), c15 x2 x3 x4 h = some b → WK 102 (.inl none) σ0 (abH 2 70 g b) 15 [(0, aR 53), (1, aR 13), (2, aR x2), (3, aI x3), (4, aI x4)] [] (abH 2 70 g h) 0 0) (k28 : ∀ (x2 : Nat) (x3 : Int) (x4 : Int) (x5 : Int) (x6 : Int) (h : HH) (b : HH), c28 x2 x3 x4 x5 x6 h = some b → WK 102 (.inl none) σ0 (abH 2 70 g b) 28 [(0, aR 53), (1, aR 13), (2, aR x2), (3, aI x3), (4, aI x4), (5, aI x5), (6, aI x6)] [] (abH 2 70 g h) 0 0) : ∀ {x2 : Nat} {x3 : Int} {x4 : Int} {x6 : Int} {h : HH} {b : HH}, nX10_gatherDoors_53 c15 c28 x2 x3 x4 x6 h = some b → WK 102 (.inl none) σ0 (abH 2 70 g b) 53 [(0, aR 53), (1, aR 13), (2, aR x2), (3, aI x3), (4, aI x4), (6, aI x6)] [] (abH 2 70 g h) 0 0 := by
  intro x2 x3 x4 x6 h b q
  exact uX10_gatherDoors_53 hg (fun _ _ _ _ _ _ _ q => wX10_gatherDoors_58 hg k15 k28 q) q
def bX10_gatherDoors_28 (c53 : Nat → Int → Int → Int → HH → Option HH) (c58 : Nat → Int → Int → Int → Int → HH → Option HH) (c101 : Nat → Int → Int → HH → Option HH) (x2 : Nat) (x3 : Int) (x4 : Int) (x5 : Int) (x6 : Int) (h : HH) : Option HH :=
  if x6 < (x3 : Int) then
    if x5 = (0 : Int) then
    bif okS 2 70 x2 0 || okS 2 70 x2 9 then
    gd ((0 : Int) ≤ x6 ∧ x6 < ((lnK x2) : Int)) <|
    gd ((0 : Int) ≤ (h.1 x2 x6) ∧ (h.1 x2 x6) < (9 : Int)) <|
    if (h.1 14 (h.1 x2 x6)) = (x4 : Int) then
    c53 x2 x3 x4 x6 h
  else
    c58 x2 x3 x4 x6 0 h
  else none
  else
    c53 x2 x3 x4 x6 h
  else
    if x5 = (0 : Int) then
    c101 x2 x3 x4 h
  else
    if (h.1 53 2) < (10 : Int) then
    gd ((0 : Int) ≤ (h.1 53 2) ∧ (h.1 53 2) < (10 : Int)) <|
    bnd (some (hI h 54 (h.1 53 2) x4)) fun h1 =>
    gd (R32 ((h1.1 53 2) + 1)) <|
    bnd (some (hI h1 53 2 ((h1.1 53 2) + 1))) fun h2 =>
    c101 x2 x3 x4 h2
  else
    c101 x2 x3 x4 h
theorem uX10_gatherDoors_28 {g : SG} (hg : GOK g) {σ0 : SG} {c53 : Nat → Int → Int → Int → HH → Option HH} {c58 : Nat → Int → Int → Int → Int → HH → Option HH} {c101 : Nat → Int → Int → HH → Option HH} (k53 : ∀ (x2 : Nat) (x3 : Int) (x4 : Int) (x6 : Int) (h : HH) (b : HH), c53 x2 x3 x4 x6 h = some b → WK 102 (.inl none) σ0 (abH 2 70 g b) 53 [(0, aR 53), (1, aR 13), (2, aR x2), (3, aI x3), (4, aI x4), (6, aI x6)] [] (abH 2 70 g h) 0 0) (k58 : ∀ (x2 : Nat) (x3 : Int) (x4 : Int) (x6 : Int) (y0 : Int) (h : HH) (b : HH), c58 x2 x3 x4 x6 y0 h = some b → WK 102 (.inl none) σ0 (abH 2 70 g b) 58 [(0, aR 53), (1, aR 13), (2, aR x2), (3, aI x3), (4, aI x4), (6, aI x6)] [aI y0] (abH 2 70 g h) 0 0) (k101 : ∀ (x2 : Nat) (x3 : Int) (x4 : Int) (h : HH) (b : HH), c101 x2 x3 x4 h = some b → WK 102 (.inl none) σ0 (abH 2 70 g b) 101 [(0, aR 53), (1, aR 13), (2, aR x2), (3, aI x3), (4, aI x4)] [] (abH 2 70 g h) 0 0) : ∀ {x2 : Nat} {x3 : Int} {x4 : Int} {x5 : Int} {x6 : Int} {h : HH} {b : HH}, bX10_gatherDoors_28 c53 c58 c101 x2 x3 x4 x5 x6 h = some b → WK 102 (.inl none) σ0 (abH 2 70 g b) 28 [(0, aR 53), (1, aR 13), (2, aR x2), (3, aI x3), (4, aI x4), (5, aI x5), (6, aI x6)] [] (abH 2 70 g h) 0 0 := by
  intro x2 x3 x4 x5 x6 h b q
  have e : bX10_gatherDoors_28 c53 c58 c101 x2 x3 x4 x5 x6 h = segW 2 70 g.2.2.2.2 krWV clN csX10_gatherDoors (cuC 53 (fun l st s => tkC 0 53 l <| tkC 1 13 l <| tkR 2 l fun x2 => tkI 3 l fun x3 => tkI 4 l fun x4 => tkI 6 l fun x6 => skE st (c53 x2 x3 x4 x6 s)) (cuC 58 (fun l st s => tkC 0 53 l <| tkC 1 13 l <| tkR 2 l fun x2 => tkI 3 l fun x3 => tkI 4 l fun x4 => tkI 6 l fun x6 => skI st fun y0 st => skE st (c58 x2 x3 x4 x6 y0 s)) (cuC 101 (fun l st s => tkC 0 53 l <| tkC 1 13 l <| tkR 2 l fun x2 => tkI 3 l fun x3 => tkI 4 l fun x4 => skE st (c101 x2 x3 x4 s)) cuN))) 1000 28 [(0, aR 53), (1, aR 13), (2, aR x2), (3, aI x3), (4, aI x4), (5, aI x5), (6, aI x6)] [] h := rfl
  rw [e] at q
  clear e
  refine segW_wk (by decide) (by decide) hg rwX10_gatherDoors CLKW_N krWV_ok ?_ q
  clear q
  refine ct_C ?_ (ct_C ?_ (ct_C ?_ (ct_N)))
  · intro l st h q
    obtain ⟨m0, q1⟩ := tkC_of q
    obtain ⟨m1, q2⟩ := tkC_of q1
    obtain ⟨x2, m2, q3⟩ := tkR_of q2
    obtain ⟨x3, m3, q4⟩ := tkI_of q3
    obtain ⟨x4, m4, q5⟩ := tkI_of q4
    obtain ⟨x6, m6, q6⟩ := tkI_of q5
    obtain ⟨rfl, q7⟩ := skE_of q6
    exact WK_less (k53 _ _ _ _ _ _ q7) (List.forall_mem_cons.mpr ⟨m0, (List.forall_mem_cons.mpr ⟨m1, (List.forall_mem_cons.mpr ⟨m2, (List.forall_mem_cons.mpr ⟨m3, (List.forall_mem_cons.mpr ⟨m4, (List.forall_mem_cons.mpr ⟨m6, (fun _ h => absurd h List.not_mem_nil)⟩)⟩)⟩)⟩)⟩)⟩)
  · intro l st h q
    obtain ⟨m0, q1⟩ := tkC_of q
    obtain ⟨m1, q2⟩ := tkC_of q1
    obtain ⟨x2, m2, q3⟩ := tkR_of q2
    obtain ⟨x3, m3, q4⟩ := tkI_of q3
    obtain ⟨x4, m4, q5⟩ := tkI_of q4
    obtain ⟨x6, m6, q6⟩ := tkI_of q5
    obtain ⟨y0, t0, rfl, q7⟩ := skI_of q6
    obtain ⟨rfl, q8⟩ := skE_of q7
    exact WK_less (k58 _ _ _ _ _ _ _ q8) (List.forall_mem_cons.mpr ⟨m0, (List.forall_mem_cons.mpr ⟨m1, (List.forall_mem_cons.mpr ⟨m2, (List.forall_mem_cons.mpr ⟨m3, (List.forall_mem_cons.mpr ⟨m4, (List.forall_mem_cons.mpr ⟨m6, (fun _ h => absurd h List.not_mem_nil)⟩)⟩)⟩)⟩)⟩)⟩)
  · intro l st h q
    obtain ⟨m0, q1⟩ := tkC_of q
    obtain ⟨m1, q2⟩ := tkC_of q1
    obtain ⟨x2, m2, q3⟩ := tkR_of q2
    obtain ⟨x3, m3, q4⟩ := tkI_of q3
    obtain ⟨x4, m4, q5⟩ := tkI_of q4
    obtain ⟨rfl, q6⟩ := skE_of q5
    exact WK_less (k101 _ _ _ _ _ q6) (List.forall_mem_cons.mpr ⟨m0, (List.forall_mem_cons.mpr ⟨m1, (List.forall_mem_cons.mpr ⟨m2, (List.forall_mem_cons.mpr ⟨m3, (List.forall_mem_cons.mpr ⟨m4, (fun _ h => absurd h List.not_mem_nil)⟩)⟩)⟩)⟩)⟩)
def nX10_gatherDoors_28 (c15 : Nat → Int → Int → HH → Option HH) : Nat → Nat → Int → Int → Int → Int → HH → Option HH := iter (fun _ _ _ _ _ _ => none) (fun self => bX10_gatherDoors_28 (nX10_gatherDoors_53 c15 self) (nX10_gatherDoors_58 c15 self) (nX10_gatherDoors_101 c15))
theorem nX10_gatherDoors_28_s {c15 : Nat → Int → Int → HH → Option HH} {F : Nat} : nX10_gatherDoors_28 c15 (F + 1) = bX10_gatherDoors_28 (nX10_gatherDoors_53 c15 (nX10_gatherDoors_28 c15 F)) (nX10_gatherDoors_58 c15 (nX10_gatherDoors_28 c15 F)) (nX10_gatherDoors_101 c15) := rfl
theorem wX10_gatherDoors_28 {g : SG} (hg : GOK g) {σ0 : SG} {c15 : Nat → Int → Int → HH → Option HH} (k15 : ∀ (x2 : Nat) (x3 : Int) (x4 : Int) (h : HH) (b : HH), c15 x2 x3 x4 h = some b → WK 102 (.inl none) σ0 (abH 2 70 g b) 15 [(0, aR 53), (1, aR 13), (2, aR x2), (3, aI x3), (4, aI x4)] [] (abH 2 70 g h) 0 0) : ∀ {F : Nat}, ∀ {x2 : Nat} {x3 : Int} {x4 : Int} {x5 : Int} {x6 : Int} {h : HH} {b : HH}, nX10_gatherDoors_28 c15 F x2 x3 x4 x5 x6 h = some b → WK 102 (.inl none) σ0 (abH 2 70 g b) 28 [(0, aR 53), (1, aR 13), (2, aR x2), (3, aI x3), (4, aI x4), (5, aI x5), (6, aI x6)] [] (abH 2 70 g h) 0 0 := by
  intro F
  have z : ∀ (x2 : Nat) (x3 : Int) (x4 : Int) (x5 : Int) (x6 : Int) (h : HH) (b : HH), nX10_gatherDoors_28 c15 F x2 x3 x4 x5 x6 h = some b → WK 102 (.inl none) σ0 (abH 2 70 g b) 28 [(0, aR 53), (1, aR 13), (2, aR x2), (3, aI x3), (4, aI x4), (5, aI x5), (6, aI x6)] [] (abH 2 70 g h) 0 0 := iter_ind (P := fun (c : Nat → Int → Int → Int → Int → HH → Option HH) => ∀ (x2 : Nat) (x3 : Int) (x4 : Int) (x5 : Int) (x6 : Int) (h : HH) (b : HH), c x2 x3 x4 x5 x6 h = some b → WK 102 (.inl none) σ0 (abH 2 70 g b) 28 [(0, aR 53), (1, aR 13), (2, aR x2), (3, aI x3), (4, aI x4), (5, aI x5), (6, aI x6)] [] (abH 2 70 g h) 0 0) (by
    intro x2 x3 x4 x5 x6 h b q
    cases q) (fun self ih => by
    intro x2 x3 x4 x5 x6 h b q
    exact uX10_gatherDoors_28 hg (fun _ _ _ _ _ _ q => wX10_gatherDoors_53 hg k15 ih q) (fun _ _ _ _ _ _ _ q => wX10_gatherDoors_58 hg k15 ih q) (fun _ _ _ _ _ q => wX10_gatherDoors_101 hg k15 q) q) F
  intro x2 x3 x4 x5 x6 h b q
  exact z _ _ _ _ _ _ _ q
def bX10_gatherDoors_15 (c28 : Nat → Int → Int → Int → Int → HH → Option HH) (x2 : Nat) (x3 : Int) (x4 : Int) (h : HH) : Option HH :=
  if x4 < (16 : Int) then
    c28 x2 x3 x4 0 0 h
  else
    some h
theorem uX10_gatherDoors_15 {g : SG} (hg : GOK g) {σ0 : SG} {c28 : Nat → Int → Int → Int → Int → HH → Option HH} (k28 : ∀ (x2 : Nat) (x3 : Int) (x4 : Int) (x5 : Int) (x6 : Int) (h : HH) (b : HH), c28 x2 x3 x4 x5 x6 h = some b → WK 102 (.inl none) σ0 (abH 2 70 g b) 28 [(0, aR 53), (1, aR 13), (2, aR x2), (3, aI x3), (4, aI x4), (5, aI x5), (6, aI x6)] [] (abH 2 70 g h) 0 0) : ∀ {x2 : Nat} {x3 : Int} {x4 : Int} {h : HH} {b : HH}, bX10_gatherDoors_15 c28 x2 x3 x4 h = some b → WK 102 (.inl none) σ0 (abH 2 70 g b) 15 [(0, aR 53), (1, aR 13), (2, aR x2), (3, aI x3), (4, aI x4)] [] (abH 2 70 g h) 0 0 := by
  intro x2 x3 x4 h b q
  have e : bX10_gatherDoors_15 c28 x2 x3 x4 h = segW 2 70 g.2.2.2.2 krWV clN csX10_gatherDoors (cuC 28 (fun l st s => tkC 0 53 l <| tkC 1 13 l <| tkR 2 l fun x2 => tkI 3 l fun x3 => tkI 4 l fun x4 => tkI 5 l fun x5 => tkI 6 l fun x6 => skE st (c28 x2 x3 x4 x5 x6 s)) cuN) 1000 15 [(0, aR 53), (1, aR 13), (2, aR x2), (3, aI x3), (4, aI x4)] [] h := rfl
  rw [e] at q
  clear e
  refine segW_wk (by decide) (by decide) hg rwX10_gatherDoors CLKW_N krWV_ok ?_ q
  clear q
  refine ct_C ?_ (ct_N)
  · intro l st h q
    obtain ⟨m0, q1⟩ := tkC_of q
    obtain ⟨m1, q2⟩ := tkC_of q1
    obtain ⟨x2, m2, q3⟩ := tkR_of q2
    obtain ⟨x3, m3, q4⟩ := tkI_of q3
    obtain ⟨x4, m4, q5⟩ := tkI_of q4
    obtain ⟨x5, m5, q6⟩ := tkI_of q5
    obtain ⟨x6, m6, q7⟩ := tkI_of q6
    obtain ⟨rfl, q8⟩ := skE_of q7
    exact WK_less (k28 _ _ _ _ _ _ _ q8) (List.forall_mem_cons.mpr ⟨m0, (List.forall_mem_cons.mpr ⟨m1, (List.forall_mem_cons.mpr ⟨m2, (List.forall_mem_cons.mpr ⟨m3, (List.forall_mem_cons.mpr ⟨m4, (List.forall_mem_cons.mpr ⟨m5, (List.forall_mem_cons.mpr ⟨m6, (fun _ h => absurd h List.not_mem_nil)⟩)⟩)⟩)⟩)⟩)⟩)⟩)
def nX10_gatherDoors_15 : Nat → Nat → Int → Int → HH → Option HH := iter (fun _ _ _ _ => none) (fun self => bX10_gatherDoors_15 (nX10_gatherDoors_28 self 100000))
theorem nX10_gatherDoors_15_s {F : Nat} : nX10_gatherDoors_15 (F + 1) = bX10_gatherDoors_15 (nX10_gatherDoors_28 (nX10_gatherDoors_15 F) 100000) := rfl
theorem wX10_gatherDoors_15 {g : SG} (hg : GOK g) {σ0 : SG} : ∀ {F : Nat}, ∀ {x2 : Nat} {x3 : Int} {x4 : Int} {h : HH} {b : HH}, nX10_gatherDoors_15 F x2 x3 x4 h = some b → WK 102 (.inl none) σ0 (abH 2 70 g b) 15 [(0, aR 53), (1, aR 13), (2, aR x2), (3, aI x3), (4, aI x4)] [] (abH 2 70 g h) 0 0 := by
  intro F
  have z : ∀ (x2 : Nat) (x3 : Int) (x4 : Int) (h : HH) (b : HH), nX10_gatherDoors_15 F x2 x3 x4 h = some b → WK 102 (.inl none) σ0 (abH 2 70 g b) 15 [(0, aR 53), (1, aR 13), (2, aR x2), (3, aI x3), (4, aI x4)] [] (abH 2 70 g h) 0 0 := iter_ind (P := fun (c : Nat → Int → Int → HH → Option HH) => ∀ (x2 : Nat) (x3 : Int) (x4 : Int) (h : HH) (b : HH), c x2 x3 x4 h = some b → WK 102 (.inl none) σ0 (abH 2 70 g b) 15 [(0, aR 53), (1, aR 13), (2, aR x2), (3, aI x3), (4, aI x4)] [] (abH 2 70 g h) 0 0) (by
    intro x2 x3 x4 h b q
    cases q) (fun self ih => by
    intro x2 x3 x4 h b q
    exact uX10_gatherDoors_15 hg (fun _ _ _ _ _ _ _ q => wX10_gatherDoors_28 hg ih q) q) F
  intro x2 x3 x4 h b q
  exact z _ _ _ _ _ q
def bX10_gatherDoors (c15 : Nat → Int → Int → HH → Option HH) (x2 : Nat) (x3 : Int) (h : HH) : Option HH :=
  gd ((0 : Int) ≤ 0 ∧ 0 < (10 : Int)) <|
    bnd (some (hI h 54 0 0)) fun h1 =>
    bnd (some (hI h1 53 2 1)) fun h2 =>
    c15 x2 x3 1 h2
theorem uX10_gatherDoors {g : SG} (hg : GOK g) {σ0 : SG} {c15 : Nat → Int → Int → HH → Option HH} (k15 : ∀ (x2 : Nat) (x3 : Int) (x4 : Int) (h : HH) (b : HH), c15 x2 x3 x4 h = some b → WK 102 (.inl none) σ0 (abH 2 70 g b) 15 [(0, aR 53), (1, aR 13), (2, aR x2), (3, aI x3), (4, aI x4)] [] (abH 2 70 g h) 0 0) : ∀ {x2 : Nat} {x3 : Int} {h : HH} {b : HH}, bX10_gatherDoors c15 x2 x3 h = some b → WK 102 (.inl none) σ0 (abH 2 70 g b) 0 [(0, aR 53), (1, aR 13), (2, aR x2), (3, aI x3)] [] (abH 2 70 g h) 0 0 := by
  intro x2 x3 h b q
  have e : bX10_gatherDoors c15 x2 x3 h = segW 2 70 g.2.2.2.2 krWV clN csX10_gatherDoors (cuC 15 (fun l st s => tkC 0 53 l <| tkC 1 13 l <| tkR 2 l fun x2 => tkI 3 l fun x3 => tkI 4 l fun x4 => skE st (c15 x2 x3 x4 s)) cuN) 1000 0 [(0, aR 53), (1, aR 13), (2, aR x2), (3, aI x3)] [] h := rfl
  rw [e] at q
  clear e
  refine segW_wk (by decide) (by decide) hg rwX10_gatherDoors CLKW_N krWV_ok ?_ q
  clear q
  refine ct_C ?_ (ct_N)
  · intro l st h q
    obtain ⟨m0, q1⟩ := tkC_of q
    obtain ⟨m1, q2⟩ := tkC_of q1
    obtain ⟨x2, m2, q3⟩ := tkR_of q2
    obtain ⟨x3, m3, q4⟩ := tkI_of q3
    obtain ⟨x4, m4, q5⟩ := tkI_of q4
    obtain ⟨rfl, q6⟩ := skE_of q5
    exact WK_less (k15 _ _ _ _ _ q6) (List.forall_mem_cons.mpr ⟨m0, (List.forall_mem_cons.mpr ⟨m1, (List.forall_mem_cons.mpr ⟨m2, (List.forall_mem_cons.mpr ⟨m3, (List.forall_mem_cons.mpr ⟨m4, (fun _ h => absurd h List.not_mem_nil)⟩)⟩)⟩)⟩)⟩)
def nX10_gatherDoors (x2 : Nat) (x3 : Int) (h : HH) : Option HH := bX10_gatherDoors (nX10_gatherDoors_15 100000) x2 x3 h
theorem wX10_gatherDoors {g : SG} (hg : GOK g) {σ0 : SG} : ∀ {x2 : Nat} {x3 : Int} {h : HH} {b : HH}, nX10_gatherDoors x2 x3 h = some b → WK 102 (.inl none) σ0 (abH 2 70 g b) 0 [(0, aR 53), (1, aR 13), (2, aR x2), (3, aI x3)] [] (abH 2 70 g h) 0 0 := by
  intro x2 x3 h b q
  exact uX10_gatherDoors hg (fun _ _ _ _ _ q => wX10_gatherDoors_15 hg q) q
theorem mX10_gatherDoors {g : SG} (hg : GOK g) {h : HH} {x2 : Nat} {x3 : Int} {b : HH} (q : nX10_gatherDoors x2 x3 h = some b) : MCT 102 [] [aR 53, aR 13, aR x2, aI x3] (abH 2 70 g h) (.inl none) (abH 2 70 g b) :=
  mct_of (by decide) (MFok 102 (by decide +kernel)) (fun _ => Nat.le_of_ble_eq_true rfl) (wX10_gatherDoors hg q)
def pX10_gatherDoors {β : Type} (z : Nat → Int → HH → Option HH) : PW β := fun as h f => skC 53 as fun as => skC 13 as fun as => skR as fun x2 as => skI as fun x3 as => skE as (bnd (z x2 x3 h) fun r => f (.inl none) r)
theorem pX10_gatherDoors_ok {β : Type} {g : SG} (hg : GOK g) : CW1 (β := β) 102 (pX10_gatherDoors nX10_gatherDoors) 2 70 g := fun as h f b q => by
  obtain ⟨as, rfl, q1⟩ := skC_of q
  obtain ⟨as, rfl, q2⟩ := skC_of q1
  obtain ⟨x2, as, rfl, q3⟩ := skR_of q2
  obtain ⟨x3, as, rfl, q4⟩ := skI_of q3
  obtain ⟨rfl, q0⟩ := skE_of q4
  obtain ⟨r, z1, z2⟩ := bnd_of q0
  exact ⟨_, _, z2, by decide, mX10_gatherDoors hg z1, rfl, rfl, fun z => absurd z (by decide)⟩
def csX10_weightOf : List (Nat × List (Nat × ARow)) := [(41, [(0, 1, .aload_n 0, 0, 0, 0), (1, 3, .getfield 27, 10, 0, 2), (4, 1, .aload_n 0, 0, 0, 0), (5, 3, .getfield 11, 10, 1, 2), (8, 1, .iload_n 1, 0, 0, 0), (9, 1, .iaload, 0, 0, 0), (10, 1, .aload_n 0, 0, 0, 0), (11, 3, .getfield 11, 10, 1, 2), (14, 1, .iload_n 2, 0, 0, 0), (15, 1, .iaload, 0, 0, 0), (16, 3, .invokevirtual 48, 87, 3, 9), (19, 1, .istore_n 3, 0, 0, 0), (20, 1, .aload_n 0, 0, 0, 0), (21, 3, .getfield 27, 10, 0, 2), (24, 1, .aload_n 0, 0, 0, 0), (25, 3, .getfield 11, 10, 1, 2), (28, 1, .iload_n 2, 0, 0, 0), (29, 1, .iaload, 0, 0, 0), (30, 1, .aload_n 0, 0, 0, 0), (31, 3, .getfield 11, 10, 1, 2), (34, 1, .iload_n 1, 0, 0, 0), (35, 1, .iaload, 0, 0, 0), (36, 3, .invokevirtual 48, 87, 3, 9), (39, 2, .istore 4, 0, 0, 0)]),
  (100000, [(41, 1, .iload_n 3, 0, 0, 0), (42, 1, .iconst (-1), 0, 0, 0), (43, 3, .if_icmp .eq 9, 52, 0, 0), (46, 2, .iload 4, 0, 0, 0), (48, 1, .iconst (-1), 0, 0, 0), (49, 3, .if_icmp .ne 21, 70, 0, 0), (52, 1, .iload_n 3, 0, 0, 0), (53, 2, .iload 4, 0, 0, 0), (55, 3, .if_icmp .ne 8, 63, 0, 0), (58, 2, .ldc 54, 10000000, 0, 0), (60, 3, .goto 9, 69, 0, 0), (63, 1, .iload_n 3, 0, 0, 0), (64, 2, .iload 4, 0, 0, 0), (66, 3, .invokestatic 55, 1000, 2, 0), (69, 1, .ireturn, 0, 0, 0), (70, 1, .iload_n 3, 0, 0, 0), (71, 2, .iload 4, 0, 0, 0), (73, 3, .invokestatic 60, 1001, 2, 0), (76, 1, .ireturn, 0, 0, 0)])]
theorem rwX10_weightOf : rowsB (mB 103) (mO 103) (mX 103) (mIni 103) (mFr 103) (mLo 103) (mT 103) csX10_weightOf = true := by decide +kernel
def bX10_weightOf_52 (h : HH) (x3 : Int) (x4 : Int) : Option Int :=
  if x3 = (x4 : Int) then
    some 10000000
  else
    some (max x3 x4)
theorem uX10_weightOf_52 {g : SG} (hg : GOK g) {σ0 : SG} {h : HH} : ∀ {x3 : Int} {x4 : Int} {b : Int}, bX10_weightOf_52 h x3 x4 = some b → WK 103 (.inl (some (aI b))) σ0 (abH 2 70 g h) 52 [(3, aI x3), (4, aI x4)] [] (abH 2 70 g h) 0 0 := by
  intro x3 x4 b q
  have e : bX10_weightOf_52 h x3 x4 = segP 2 70 g.2.2.2.2 h krPI clNP csX10_weightOf cuN 1000 52 [(3, aI x3), (4, aI x4)] [] := rfl
  rw [e] at q
  clear e
  refine segP_wk (by decide) (by decide) hg rwX10_weightOf CLKP_N krPI_ok ?_ q
  clear q
  exact ct_N
def nX10_weightOf_52 (h : HH) (x3 : Int) (x4 : Int) : Option Int := bX10_weightOf_52 h x3 x4
theorem wX10_weightOf_52 {g : SG} (hg : GOK g) {σ0 : SG} {h : HH} : ∀ {x3 : Int} {x4 : Int} {b : Int}, nX10_weightOf_52 h x3 x4 = some b → WK 103 (.inl (some (aI b))) σ0 (abH 2 70 g h) 52 [(3, aI x3), (4, aI x4)] [] (abH 2 70 g h) 0 0 := by
  intro x3 x4 b q
  exact uX10_weightOf_52 hg q
def bX10_weightOf (f87 : HH → Int → Int → Option Int) (h : HH) (c52 : Int → Int → Option Int) (x1 : Int) (x2 : Int) : Option Int :=
  gd ((0 : Int) ≤ x1 ∧ x1 < (10 : Int)) <|
    gd ((0 : Int) ≤ x2 ∧ x2 < (10 : Int)) <|
    bnd (f87 h (h.1 54 x1) (h.1 54 x2)) fun r1 =>
    gd ((0 : Int) ≤ x2 ∧ x2 < (10 : Int)) <|
    gd ((0 : Int) ≤ x1 ∧ x1 < (10 : Int)) <|
    bnd (f87 h (h.1 54 x2) (h.1 54 x1)) fun r2 =>
    if r1 = ((-1) : Int) then
    c52 r1 r2
  else
    if r2 = ((-1) : Int) then
    c52 r1 r2
  else
    some (min r1 r2)
theorem uX10_weightOf {g : SG} (hg : GOK g) {σ0 : SG} {h : HH} {c52 : Int → Int → Option Int} (k52 : ∀ (x3 : Int) (x4 : Int) (b : Int), c52 x3 x4 = some b → WK 103 (.inl (some (aI b))) σ0 (abH 2 70 g h) 52 [(3, aI x3), (4, aI x4)] [] (abH 2 70 g h) 0 0) : ∀ {x1 : Int} {x2 : Int} {b : Int}, bX10_weightOf nX9_minutesOf h c52 x1 x2 = some b → WK 103 (.inl (some (aI b))) σ0 (abH 2 70 g h) 0 [(0, aR 53), (1, aI x1), (2, aI x2)] [] (abH 2 70 g h) 0 0 := by
  intro x1 x2 b q
  have e : ∀ (f87 : HH → Int → Int → Option Int) , bX10_weightOf f87 h c52 x1 x2 = segP 2 70 g.2.2.2.2 h krPI (clCP 87 (pX9_minutesOf f87 h) clNP) csX10_weightOf (cuC 52 (fun l st s => tkI 3 l fun x3 => tkI 4 l fun x4 => skE st (c52 x3 x4)) cuN) 1000 0 [(0, aR 53), (1, aI x1), (2, aI x2)] [] := fun _ => rfl
  rw [e nX9_minutesOf] at q
  clear e
  refine segP_wk (by decide) (by decide) hg rwX10_weightOf (CLKP_C (pX9_minutesOf_ok hg) CLKP_N) krPI_ok ?_ q
  clear q
  refine ct_C ?_ (ct_N)
  · intro l st _ q
    obtain ⟨x3, m3, q1⟩ := tkI_of q
    obtain ⟨x4, m4, q2⟩ := tkI_of q1
    obtain ⟨rfl, q3⟩ := skE_of q2
    exact WK_less (k52 _ _ _ q3) (List.forall_mem_cons.mpr ⟨m3, (List.forall_mem_cons.mpr ⟨m4, (fun _ h => absurd h List.not_mem_nil)⟩)⟩)
def nX10_weightOf (h : HH) (x1 : Int) (x2 : Int) : Option Int := bX10_weightOf nX9_minutesOf h (nX10_weightOf_52 h) x1 x2
theorem wX10_weightOf {g : SG} (hg : GOK g) {σ0 : SG} {h : HH} : ∀ {x1 : Int} {x2 : Int} {b : Int}, nX10_weightOf h x1 x2 = some b → WK 103 (.inl (some (aI b))) σ0 (abH 2 70 g h) 0 [(0, aR 53), (1, aI x1), (2, aI x2)] [] (abH 2 70 g h) 0 0 := by
  intro x1 x2 b q
  exact uX10_weightOf hg (fun _ _ _ q => wX10_weightOf_52 hg q) q
theorem mX10_weightOf {g : SG} (hg : GOK g) {h : HH} {x1 : Int} {x2 : Int} {b : Int} (q : nX10_weightOf h x1 x2 = some b) : MCT 103 [] [aR 53, aI x1, aI x2] (abH 2 70 g h) (.inl (some (aI b))) (abH 2 70 g h) :=
  mct_of (by decide) (MFok 103 (by decide +kernel)) (fun _ => Nat.le_of_ble_eq_true rfl) (wX10_weightOf hg q)
def pX10_weightOf {β : Type} (z : HH → Int → Int → Option Int) : PP β := fun h as f => skC 53 as fun as => skI as fun x1 as => skI as fun x2 as => skE as (bnd (z h x1 x2) fun r => f (.inl (some (aI r))))
theorem pX10_weightOf_ok {β : Type} {g : SG} (hg : GOK g) : CP1 (β := β) 103 (pX10_weightOf nX10_weightOf) 2 70 g := fun h as f b q => by
  obtain ⟨as, rfl, q1⟩ := skC_of q
  obtain ⟨x1, as, rfl, q2⟩ := skI_of q1
  obtain ⟨x2, as, rfl, q3⟩ := skI_of q2
  obtain ⟨rfl, q0⟩ := skE_of q3
  obtain ⟨r, z1, z2⟩ := bnd_of q0
  exact ⟨_, z2, by decide, mX10_weightOf hg z1, rfl, rfl, fun z => absurd z (by decide)⟩
def csX10_merge : List (Nat × List (Nat × ARow)) := [(100000, [(0, 1, .iconst 0, 0, 0, 0), (1, 1, .istore_n 3, 0, 0, 0), (2, 1, .iload_n 3, 0, 0, 0), (3, 1, .aload_n 0, 0, 0, 0), (4, 3, .getfield 35, 10, 2, 0), (7, 3, .if_icmp .ge 26, 33, 0, 0), (10, 1, .aload_n 0, 0, 0, 0), (11, 3, .getfield 15, 10, 3, 2), (14, 1, .iload_n 3, 0, 0, 0), (15, 1, .iaload, 0, 0, 0), (16, 1, .iload_n 2, 0, 0, 0), (17, 3, .if_icmp .ne 10, 27, 0, 0), (20, 1, .aload_n 0, 0, 0, 0), (21, 3, .getfield 15, 10, 3, 2), (24, 1, .iload_n 3, 0, 0, 0), (25, 1, .iload_n 1, 0, 0, 0), (26, 1, .iastore, 0, 0, 0), (27, 3, .iinc 3 1, 0, 0, 0), (30, 3, .goto (-28), 2, 0, 0), (33, 1, .return_, 0, 0, 0)])]
theorem rwX10_merge : rowsB (mB 105) (mO 105) (mX 105) (mIni 105) (mFr 105) (mLo 105) (mT 105) csX10_merge = true := by decide +kernel
def bX10_merge_27 (c2 : Int → Int → Int → HH → Option HH) (x1 : Int) (x2 : Int) (x3 : Int) (h : HH) : Option HH :=
  gd (R32 (x3 + 1)) <|
    c2 x1 x2 (x3 + 1) h
theorem uX10_merge_27 {g : SG} (hg : GOK g) {σ0 : SG} {c2 : Int → Int → Int → HH → Option HH} (k2 : ∀ (x1 : Int) (x2 : Int) (x3 : Int) (h : HH) (b : HH), c2 x1 x2 x3 h = some b → WK 105 (.inl none) σ0 (abH 2 70 g b) 2 [(0, aR 53), (1, aI x1), (2, aI x2), (3, aI x3)] [] (abH 2 70 g h) 0 0) : ∀ {x1 : Int} {x2 : Int} {x3 : Int} {h : HH} {b : HH}, bX10_merge_27 c2 x1 x2 x3 h = some b → WK 105 (.inl none) σ0 (abH 2 70 g b) 27 [(0, aR 53), (1, aI x1), (2, aI x2), (3, aI x3)] [] (abH 2 70 g h) 0 0 := by
  intro x1 x2 x3 h b q
  have e : bX10_merge_27 c2 x1 x2 x3 h = segW 2 70 g.2.2.2.2 krWV clN csX10_merge (cuC 2 (fun l st s => tkC 0 53 l <| tkI 1 l fun x1 => tkI 2 l fun x2 => tkI 3 l fun x3 => skE st (c2 x1 x2 x3 s)) cuN) 1000 27 [(0, aR 53), (1, aI x1), (2, aI x2), (3, aI x3)] [] h := rfl
  rw [e] at q
  clear e
  refine segW_wk (by decide) (by decide) hg rwX10_merge CLKW_N krWV_ok ?_ q
  clear q
  refine ct_C ?_ (ct_N)
  · intro l st h q
    obtain ⟨m0, q1⟩ := tkC_of q
    obtain ⟨x1, m1, q2⟩ := tkI_of q1
    obtain ⟨x2, m2, q3⟩ := tkI_of q2
    obtain ⟨x3, m3, q4⟩ := tkI_of q3
    obtain ⟨rfl, q5⟩ := skE_of q4
    exact WK_less (k2 _ _ _ _ _ q5) (List.forall_mem_cons.mpr ⟨m0, (List.forall_mem_cons.mpr ⟨m1, (List.forall_mem_cons.mpr ⟨m2, (List.forall_mem_cons.mpr ⟨m3, (fun _ h => absurd h List.not_mem_nil)⟩)⟩)⟩)⟩)
def nX10_merge_27 (c2 : Int → Int → Int → HH → Option HH) (x1 : Int) (x2 : Int) (x3 : Int) (h : HH) : Option HH := bX10_merge_27 c2 x1 x2 x3 h
theorem wX10_merge_27 {g : SG} (hg : GOK g) {σ0 : SG} {c2 : Int → Int → Int → HH → Option HH} (k2 : ∀ (x1 : Int) (x2 : Int) (x3 : Int) (h : HH) (b : HH), c2 x1 x2 x3 h = some b → WK 105 (.inl none) σ0 (abH 2 70 g b) 2 [(0, aR 53), (1, aI x1), (2, aI x2), (3, aI x3)] [] (abH 2 70 g h) 0 0) : ∀ {x1 : Int} {x2 : Int} {x3 : Int} {h : HH} {b : HH}, nX10_merge_27 c2 x1 x2 x3 h = some b → WK 105 (.inl none) σ0 (abH 2 70 g b) 27 [(0, aR 53), (1, aI x1), (2, aI x2), (3, aI x3)] [] (abH 2 70 g h) 0 0 := by
  intro x1 x2 x3 h b q
  exact uX10_merge_27 hg k2 q
def bX10_merge_2 (c27 : Int → Int → Int → HH → Option HH) (x1 : Int) (x2 : Int) (x3 : Int) (h : HH) : Option HH :=
  if x3 < ((h.1 53 2) : Int) then
    gd ((0 : Int) ≤ x3 ∧ x3 < (10 : Int)) <|
    if (h.1 55 x3) = (x2 : Int) then
    gd ((0 : Int) ≤ x3 ∧ x3 < (10 : Int)) <|
    bnd (some (hI h 55 x3 x1)) fun h1 =>
    c27 x1 x2 x3 h1
  else
    c27 x1 x2 x3 h
  else
    some h
theorem uX10_merge_2 {g : SG} (hg : GOK g) {σ0 : SG} {c27 : Int → Int → Int → HH → Option HH} (k27 : ∀ (x1 : Int) (x2 : Int) (x3 : Int) (h : HH) (b : HH), c27 x1 x2 x3 h = some b → WK 105 (.inl none) σ0 (abH 2 70 g b) 27 [(0, aR 53), (1, aI x1), (2, aI x2), (3, aI x3)] [] (abH 2 70 g h) 0 0) : ∀ {x1 : Int} {x2 : Int} {x3 : Int} {h : HH} {b : HH}, bX10_merge_2 c27 x1 x2 x3 h = some b → WK 105 (.inl none) σ0 (abH 2 70 g b) 2 [(0, aR 53), (1, aI x1), (2, aI x2), (3, aI x3)] [] (abH 2 70 g h) 0 0 := by
  intro x1 x2 x3 h b q
  have e : bX10_merge_2 c27 x1 x2 x3 h = segW 2 70 g.2.2.2.2 krWV clN csX10_merge (cuC 27 (fun l st s => tkC 0 53 l <| tkI 1 l fun x1 => tkI 2 l fun x2 => tkI 3 l fun x3 => skE st (c27 x1 x2 x3 s)) cuN) 1000 2 [(0, aR 53), (1, aI x1), (2, aI x2), (3, aI x3)] [] h := rfl
  rw [e] at q
  clear e
  refine segW_wk (by decide) (by decide) hg rwX10_merge CLKW_N krWV_ok ?_ q
  clear q
  refine ct_C ?_ (ct_N)
  · intro l st h q
    obtain ⟨m0, q1⟩ := tkC_of q
    obtain ⟨x1, m1, q2⟩ := tkI_of q1
    obtain ⟨x2, m2, q3⟩ := tkI_of q2
    obtain ⟨x3, m3, q4⟩ := tkI_of q3
    obtain ⟨rfl, q5⟩ := skE_of q4
    exact WK_less (k27 _ _ _ _ _ q5) (List.forall_mem_cons.mpr ⟨m0, (List.forall_mem_cons.mpr ⟨m1, (List.forall_mem_cons.mpr ⟨m2, (List.forall_mem_cons.mpr ⟨m3, (fun _ h => absurd h List.not_mem_nil)⟩)⟩)⟩)⟩)
def nX10_merge_2 : Nat → Int → Int → Int → HH → Option HH := iter (fun _ _ _ _ => none) (fun self => bX10_merge_2 (nX10_merge_27 self))
theorem nX10_merge_2_s {F : Nat} : nX10_merge_2 (F + 1) = bX10_merge_2 (nX10_merge_27 (nX10_merge_2 F)) := rfl
theorem wX10_merge_2 {g : SG} (hg : GOK g) {σ0 : SG} : ∀ {F : Nat}, ∀ {x1 : Int} {x2 : Int} {x3 : Int} {h : HH} {b : HH}, nX10_merge_2 F x1 x2 x3 h = some b → WK 105 (.inl none) σ0 (abH 2 70 g b) 2 [(0, aR 53), (1, aI x1), (2, aI x2), (3, aI x3)] [] (abH 2 70 g h) 0 0 := by
  intro F
  have z : ∀ (x1 : Int) (x2 : Int) (x3 : Int) (h : HH) (b : HH), nX10_merge_2 F x1 x2 x3 h = some b → WK 105 (.inl none) σ0 (abH 2 70 g b) 2 [(0, aR 53), (1, aI x1), (2, aI x2), (3, aI x3)] [] (abH 2 70 g h) 0 0 := iter_ind (P := fun (c : Int → Int → Int → HH → Option HH) => ∀ (x1 : Int) (x2 : Int) (x3 : Int) (h : HH) (b : HH), c x1 x2 x3 h = some b → WK 105 (.inl none) σ0 (abH 2 70 g b) 2 [(0, aR 53), (1, aI x1), (2, aI x2), (3, aI x3)] [] (abH 2 70 g h) 0 0) (by
    intro x1 x2 x3 h b q
    cases q) (fun self ih => by
    intro x1 x2 x3 h b q
    exact uX10_merge_2 hg (fun _ _ _ _ _ q => wX10_merge_27 hg ih q) q) F
  intro x1 x2 x3 h b q
  exact z _ _ _ _ _ q
def bX10_merge (c2 : Int → Int → Int → HH → Option HH) (x1 : Int) (x2 : Int) (h : HH) : Option HH :=
  c2 x1 x2 0 h
theorem uX10_merge {g : SG} (hg : GOK g) {σ0 : SG} {c2 : Int → Int → Int → HH → Option HH} (k2 : ∀ (x1 : Int) (x2 : Int) (x3 : Int) (h : HH) (b : HH), c2 x1 x2 x3 h = some b → WK 105 (.inl none) σ0 (abH 2 70 g b) 2 [(0, aR 53), (1, aI x1), (2, aI x2), (3, aI x3)] [] (abH 2 70 g h) 0 0) : ∀ {x1 : Int} {x2 : Int} {h : HH} {b : HH}, bX10_merge c2 x1 x2 h = some b → WK 105 (.inl none) σ0 (abH 2 70 g b) 0 [(0, aR 53), (1, aI x1), (2, aI x2)] [] (abH 2 70 g h) 0 0 := by
  intro x1 x2 h b q
  have e : bX10_merge c2 x1 x2 h = segW 2 70 g.2.2.2.2 krWV clN csX10_merge (cuC 2 (fun l st s => tkC 0 53 l <| tkI 1 l fun x1 => tkI 2 l fun x2 => tkI 3 l fun x3 => skE st (c2 x1 x2 x3 s)) cuN) 1000 0 [(0, aR 53), (1, aI x1), (2, aI x2)] [] h := rfl
  rw [e] at q
  clear e
  refine segW_wk (by decide) (by decide) hg rwX10_merge CLKW_N krWV_ok ?_ q
  clear q
  refine ct_C ?_ (ct_N)
  · intro l st h q
    obtain ⟨m0, q1⟩ := tkC_of q
    obtain ⟨x1, m1, q2⟩ := tkI_of q1
    obtain ⟨x2, m2, q3⟩ := tkI_of q2
    obtain ⟨x3, m3, q4⟩ := tkI_of q3
    obtain ⟨rfl, q5⟩ := skE_of q4
    exact WK_less (k2 _ _ _ _ _ q5) (List.forall_mem_cons.mpr ⟨m0, (List.forall_mem_cons.mpr ⟨m1, (List.forall_mem_cons.mpr ⟨m2, (List.forall_mem_cons.mpr ⟨m3, (fun _ h => absurd h List.not_mem_nil)⟩)⟩)⟩)⟩)
def nX10_merge (x1 : Int) (x2 : Int) (h : HH) : Option HH := bX10_merge (nX10_merge_2 100000) x1 x2 h
theorem wX10_merge {g : SG} (hg : GOK g) {σ0 : SG} : ∀ {x1 : Int} {x2 : Int} {h : HH} {b : HH}, nX10_merge x1 x2 h = some b → WK 105 (.inl none) σ0 (abH 2 70 g b) 0 [(0, aR 53), (1, aI x1), (2, aI x2)] [] (abH 2 70 g h) 0 0 := by
  intro x1 x2 h b q
  exact uX10_merge hg (fun _ _ _ _ _ q => wX10_merge_2 hg q) q
theorem mX10_merge {g : SG} (hg : GOK g) {h : HH} {x1 : Int} {x2 : Int} {b : HH} (q : nX10_merge x1 x2 h = some b) : MCT 105 [] [aR 53, aI x1, aI x2] (abH 2 70 g h) (.inl none) (abH 2 70 g b) :=
  mct_of (by decide) (MFok 105 (by decide +kernel)) (fun _ => Nat.le_of_ble_eq_true rfl) (wX10_merge hg q)
def pX10_merge {β : Type} (z : Int → Int → HH → Option HH) : PW β := fun as h f => skC 53 as fun as => skI as fun x1 as => skI as fun x2 as => skE as (bnd (z x1 x2 h) fun r => f (.inl none) r)
theorem pX10_merge_ok {β : Type} {g : SG} (hg : GOK g) : CW1 (β := β) 105 (pX10_merge nX10_merge) 2 70 g := fun as h f b q => by
  obtain ⟨as, rfl, q1⟩ := skC_of q
  obtain ⟨x1, as, rfl, q2⟩ := skI_of q1
  obtain ⟨x2, as, rfl, q3⟩ := skI_of q2
  obtain ⟨rfl, q0⟩ := skE_of q3
  obtain ⟨r, z1, z2⟩ := bnd_of q0
  exact ⟨_, _, z2, by decide, mX10_merge hg z1, rfl, rfl, fun z => absurd z (by decide)⟩
def csX10_joinLeast : List (Nat × List (Nat × ARow)) := [(41, [(0, 2, .ldc 54, 10000000, 0, 0), (2, 1, .istore_n 1, 0, 0, 0), (3, 1, .iconst (-1), 0, 0, 0), (4, 1, .istore_n 2, 0, 0, 0), (5, 1, .iconst (-1), 0, 0, 0), (6, 1, .istore_n 3, 0, 0, 0), (7, 1, .iconst 0, 0, 0, 0), (8, 2, .istore 4, 0, 0, 0), (10, 2, .iload 4, 0, 0, 0), (12, 1, .aload_n 0, 0, 0, 0), (13, 3, .getfield 35, 10, 2, 0), (16, 3, .if_icmp .ge 74, 90, 0, 0), (19, 2, .iload 4, 0, 0, 0), (21, 1, .iconst 1, 0, 0, 0), (22, 1, .iadd, 0, 0, 0), (23, 2, .istore 5, 0, 0, 0), (25, 2, .iload 5, 0, 0, 0), (27, 1, .aload_n 0, 0, 0, 0), (28, 3, .getfield 35, 10, 2, 0), (31, 3, .if_icmp .ge 53, 84, 0, 0), (34, 1, .aload_n 0, 0, 0, 0), (35, 3, .getfield 15, 10, 3, 2), (38, 2, .iload 4, 0, 0, 0), (40, 1, .iaload, 0, 0, 0)]),
  (90, [(41, 1, .aload_n 0, 0, 0, 0), (42, 3, .getfield 15, 10, 3, 2), (45, 2, .iload 5, 0, 0, 0), (47, 1, .iaload, 0, 0, 0), (48, 3, .if_icmp .eq 30, 78, 0, 0), (51, 1, .aload_n 0, 0, 0, 0), (52, 2, .iload 4, 0, 0, 0), (54, 2, .iload 5, 0, 0, 0), (56, 3, .invokevirtual 63, 103, 3, 10), (59, 1, .iload_n 1, 0, 0, 0), (60, 3, .if_icmp .ge 18, 78, 0, 0), (63, 1, .aload_n 0, 0, 0, 0), (64, 2, .iload 4, 0, 0, 0), (66, 2, .iload 5, 0, 0, 0), (68, 3, .invokevirtual 63, 103, 3, 10), (71, 1, .istore_n 1, 0, 0, 0), (72, 2, .iload 4, 0, 0, 0), (74, 1, .istore_n 2, 0, 0, 0), (75, 2, .iload 5, 0, 0, 0), (77, 1, .istore_n 3, 0, 0, 0), (78, 3, .iinc 5 1, 0, 0, 0), (81, 3, .goto (-56), 25, 0, 0), (84, 3, .iinc 4 1, 0, 0, 0), (87, 3, .goto (-77), 10, 0, 0)]),
  (122, [(90, 1, .iload_n 2, 0, 0, 0), (91, 1, .iconst (-1), 0, 0, 0), (92, 3, .if_icmp .ne 5, 97, 0, 0), (95, 1, .iconst 0, 0, 0, 0), (96, 1, .ireturn, 0, 0, 0), (97, 1, .aload_n 0, 0, 0, 0), (98, 3, .getfield 18, 10, 4, 2), (101, 1, .iload_n 2, 0, 0, 0), (102, 1, .dup2, 0, 0, 0), (103, 1, .iaload, 0, 0, 0), (104, 1, .iconst 1, 0, 0, 0), (105, 1, .iadd, 0, 0, 0), (106, 1, .iastore, 0, 0, 0), (107, 1, .aload_n 0, 0, 0, 0), (108, 3, .getfield 18, 10, 4, 2), (111, 1, .iload_n 3, 0, 0, 0), (112, 1, .dup2, 0, 0, 0), (113, 1, .iaload, 0, 0, 0), (114, 1, .iconst 1, 0, 0, 0), (115, 1, .iadd, 0, 0, 0), (116, 1, .iastore, 0, 0, 0), (117, 1, .aload_n 0, 0, 0, 0), (118, 1, .aload_n 0, 0, 0, 0), (119, 3, .getfield 15, 10, 3, 2)]),
  (100000, [(122, 1, .iload_n 2, 0, 0, 0), (123, 1, .iaload, 0, 0, 0), (124, 1, .aload_n 0, 0, 0, 0), (125, 3, .getfield 15, 10, 3, 2), (128, 1, .iload_n 3, 0, 0, 0), (129, 1, .iaload, 0, 0, 0), (130, 3, .invokevirtual 66, 105, 3, 10), (133, 1, .iload_n 1, 0, 0, 0), (134, 1, .ireturn, 0, 0, 0)])]
theorem rwX10_joinLeast : rowsB (mB 104) (mO 104) (mX 104) (mIni 104) (mFr 104) (mLo 104) (mT 104) csX10_joinLeast = true := by decide +kernel
def bX10_joinLeast_78 (c25 : Int → Int → Int → Int → Int → HH → Option (Int × HH)) (x1 : Int) (x2 : Int) (x3 : Int) (x4 : Int) (x5 : Int) (h : HH) : Option (Int × HH) :=
  gd (R32 (x5 + 1)) <|
    c25 x1 x2 x3 x4 (x5 + 1) h
theorem uX10_joinLeast_78 {g : SG} (hg : GOK g) {σ0 : SG} {c25 : Int → Int → Int → Int → Int → HH → Option (Int × HH)} (k25 : ∀ (x1 : Int) (x2 : Int) (x3 : Int) (x4 : Int) (x5 : Int) (h : HH) (b : (Int × HH)), c25 x1 x2 x3 x4 x5 h = some b → WK 104 (.inl (some (aI b.1))) σ0 (abH 2 70 g b.2) 25 [(0, aR 53), (1, aI x1), (2, aI x2), (3, aI x3), (4, aI x4), (5, aI x5)] [] (abH 2 70 g h) 0 0) : ∀ {x1 : Int} {x2 : Int} {x3 : Int} {x4 : Int} {x5 : Int} {h : HH} {b : (Int × HH)}, bX10_joinLeast_78 c25 x1 x2 x3 x4 x5 h = some b → WK 104 (.inl (some (aI b.1))) σ0 (abH 2 70 g b.2) 78 [(0, aR 53), (1, aI x1), (2, aI x2), (3, aI x3), (4, aI x4), (5, aI x5)] [] (abH 2 70 g h) 0 0 := by
  intro x1 x2 x3 x4 x5 h b q
  have e : bX10_joinLeast_78 c25 x1 x2 x3 x4 x5 h = segW 2 70 g.2.2.2.2 krWI clN csX10_joinLeast (cuC 25 (fun l st s => tkC 0 53 l <| tkI 1 l fun x1 => tkI 2 l fun x2 => tkI 3 l fun x3 => tkI 4 l fun x4 => tkI 5 l fun x5 => skE st (c25 x1 x2 x3 x4 x5 s)) cuN) 1000 78 [(0, aR 53), (1, aI x1), (2, aI x2), (3, aI x3), (4, aI x4), (5, aI x5)] [] h := rfl
  rw [e] at q
  clear e
  refine segW_wk (by decide) (by decide) hg rwX10_joinLeast CLKW_N krWI_ok ?_ q
  clear q
  refine ct_C ?_ (ct_N)
  · intro l st h q
    obtain ⟨m0, q1⟩ := tkC_of q
    obtain ⟨x1, m1, q2⟩ := tkI_of q1
    obtain ⟨x2, m2, q3⟩ := tkI_of q2
    obtain ⟨x3, m3, q4⟩ := tkI_of q3
    obtain ⟨x4, m4, q5⟩ := tkI_of q4
    obtain ⟨x5, m5, q6⟩ := tkI_of q5
    obtain ⟨rfl, q7⟩ := skE_of q6
    exact WK_less (k25 _ _ _ _ _ _ _ q7) (List.forall_mem_cons.mpr ⟨m0, (List.forall_mem_cons.mpr ⟨m1, (List.forall_mem_cons.mpr ⟨m2, (List.forall_mem_cons.mpr ⟨m3, (List.forall_mem_cons.mpr ⟨m4, (List.forall_mem_cons.mpr ⟨m5, (fun _ h => absurd h List.not_mem_nil)⟩)⟩)⟩)⟩)⟩)⟩)
def nX10_joinLeast_78 (c10 : Int → Int → Int → Int → HH → Option (Int × HH)) (c25 : Int → Int → Int → Int → Int → HH → Option (Int × HH)) (x1 : Int) (x2 : Int) (x3 : Int) (x4 : Int) (x5 : Int) (h : HH) : Option (Int × HH) := bX10_joinLeast_78 c25 x1 x2 x3 x4 x5 h
theorem wX10_joinLeast_78 {g : SG} (hg : GOK g) {σ0 : SG} {c10 : Int → Int → Int → Int → HH → Option (Int × HH)} {c25 : Int → Int → Int → Int → Int → HH → Option (Int × HH)} (k10 : ∀ (x1 : Int) (x2 : Int) (x3 : Int) (x4 : Int) (h : HH) (b : (Int × HH)), c10 x1 x2 x3 x4 h = some b → WK 104 (.inl (some (aI b.1))) σ0 (abH 2 70 g b.2) 10 [(0, aR 53), (1, aI x1), (2, aI x2), (3, aI x3), (4, aI x4)] [] (abH 2 70 g h) 0 0) (k25 : ∀ (x1 : Int) (x2 : Int) (x3 : Int) (x4 : Int) (x5 : Int) (h : HH) (b : (Int × HH)), c25 x1 x2 x3 x4 x5 h = some b → WK 104 (.inl (some (aI b.1))) σ0 (abH 2 70 g b.2) 25 [(0, aR 53), (1, aI x1), (2, aI x2), (3, aI x3), (4, aI x4), (5, aI x5)] [] (abH 2 70 g h) 0 0) : ∀ {x1 : Int} {x2 : Int} {x3 : Int} {x4 : Int} {x5 : Int} {h : HH} {b : (Int × HH)}, nX10_joinLeast_78 c10 c25 x1 x2 x3 x4 x5 h = some b → WK 104 (.inl (some (aI b.1))) σ0 (abH 2 70 g b.2) 78 [(0, aR 53), (1, aI x1), (2, aI x2), (3, aI x3), (4, aI x4), (5, aI x5)] [] (abH 2 70 g h) 0 0 := by
  intro x1 x2 x3 x4 x5 h b q
  exact uX10_joinLeast_78 hg k25 q
def bX10_joinLeast_25 (f103 : HH → Int → Int → Option Int) (c10 : Int → Int → Int → Int → HH → Option (Int × HH)) (c78 : Int → Int → Int → Int → Int → HH → Option (Int × HH)) (x1 : Int) (x2 : Int) (x3 : Int) (x4 : Int) (x5 : Int) (h : HH) : Option (Int × HH) :=
  if x5 < ((h.1 53 2) : Int) then
    gd ((0 : Int) ≤ x4 ∧ x4 < (10 : Int)) <|
    gd ((0 : Int) ≤ x5 ∧ x5 < (10 : Int)) <|
    if (h.1 55 x4) = ((h.1 55 x5) : Int) then
    c78 x1 x2 x3 x4 x5 h
  else
    bnd (f103 h x4 x5) fun r1 =>
    if r1 < (x1 : Int) then
    bnd (f103 h x4 x5) fun r2 =>
    c78 r2 x4 x5 x4 x5 h
  else
    c78 x1 x2 x3 x4 x5 h
  else
    gd (R32 (x4 + 1)) <|
    c10 x1 x2 x3 (x4 + 1) h
theorem uX10_joinLeast_25 {g : SG} (hg : GOK g) {σ0 : SG} {c10 : Int → Int → Int → Int → HH → Option (Int × HH)} {c78 : Int → Int → Int → Int → Int → HH → Option (Int × HH)} (k10 : ∀ (x1 : Int) (x2 : Int) (x3 : Int) (x4 : Int) (h : HH) (b : (Int × HH)), c10 x1 x2 x3 x4 h = some b → WK 104 (.inl (some (aI b.1))) σ0 (abH 2 70 g b.2) 10 [(0, aR 53), (1, aI x1), (2, aI x2), (3, aI x3), (4, aI x4)] [] (abH 2 70 g h) 0 0) (k78 : ∀ (x1 : Int) (x2 : Int) (x3 : Int) (x4 : Int) (x5 : Int) (h : HH) (b : (Int × HH)), c78 x1 x2 x3 x4 x5 h = some b → WK 104 (.inl (some (aI b.1))) σ0 (abH 2 70 g b.2) 78 [(0, aR 53), (1, aI x1), (2, aI x2), (3, aI x3), (4, aI x4), (5, aI x5)] [] (abH 2 70 g h) 0 0) : ∀ {x1 : Int} {x2 : Int} {x3 : Int} {x4 : Int} {x5 : Int} {h : HH} {b : (Int × HH)}, bX10_joinLeast_25 nX10_weightOf c10 c78 x1 x2 x3 x4 x5 h = some b → WK 104 (.inl (some (aI b.1))) σ0 (abH 2 70 g b.2) 25 [(0, aR 53), (1, aI x1), (2, aI x2), (3, aI x3), (4, aI x4), (5, aI x5)] [] (abH 2 70 g h) 0 0 := by
  intro x1 x2 x3 x4 x5 h b q
  have e : ∀ (f103 : HH → Int → Int → Option Int) , bX10_joinLeast_25 f103 c10 c78 x1 x2 x3 x4 x5 h = segW 2 70 g.2.2.2.2 krWI (clC 103 (liPW (pX10_weightOf f103)) clN) csX10_joinLeast (cuC 10 (fun l st s => tkC 0 53 l <| tkI 1 l fun x1 => tkI 2 l fun x2 => tkI 3 l fun x3 => tkI 4 l fun x4 => skE st (c10 x1 x2 x3 x4 s)) (cuC 78 (fun l st s => tkC 0 53 l <| tkI 1 l fun x1 => tkI 2 l fun x2 => tkI 3 l fun x3 => tkI 4 l fun x4 => tkI 5 l fun x5 => skE st (c78 x1 x2 x3 x4 x5 s)) cuN)) 1000 25 [(0, aR 53), (1, aI x1), (2, aI x2), (3, aI x3), (4, aI x4), (5, aI x5)] [] h := fun _ => rfl
  rw [e nX10_weightOf] at q
  clear e
  refine segW_wk (by decide) (by decide) hg rwX10_joinLeast (CLKW_C (liPW_ok (pX10_weightOf_ok hg)) CLKW_N) krWI_ok ?_ q
  clear q
  refine ct_C ?_ (ct_C ?_ (ct_N))
  · intro l st h q
    obtain ⟨m0, q1⟩ := tkC_of q
    obtain ⟨x1, m1, q2⟩ := tkI_of q1
    obtain ⟨x2, m2, q3⟩ := tkI_of q2
    obtain ⟨x3, m3, q4⟩ := tkI_of q3
    obtain ⟨x4, m4, q5⟩ := tkI_of q4
    obtain ⟨rfl, q6⟩ := skE_of q5
    exact WK_less (k10 _ _ _ _ _ _ q6) (List.forall_mem_cons.mpr ⟨m0, (List.forall_mem_cons.mpr ⟨m1, (List.forall_mem_cons.mpr ⟨m2, (List.forall_mem_cons.mpr ⟨m3, (List.forall_mem_cons.mpr ⟨m4, (fun _ h => absurd h List.not_mem_nil)⟩)⟩)⟩)⟩)⟩)
  · intro l st h q
    obtain ⟨m0, q1⟩ := tkC_of q
    obtain ⟨x1, m1, q2⟩ := tkI_of q1
    obtain ⟨x2, m2, q3⟩ := tkI_of q2
    obtain ⟨x3, m3, q4⟩ := tkI_of q3
    obtain ⟨x4, m4, q5⟩ := tkI_of q4
    obtain ⟨x5, m5, q6⟩ := tkI_of q5
    obtain ⟨rfl, q7⟩ := skE_of q6
    exact WK_less (k78 _ _ _ _ _ _ _ q7) (List.forall_mem_cons.mpr ⟨m0, (List.forall_mem_cons.mpr ⟨m1, (List.forall_mem_cons.mpr ⟨m2, (List.forall_mem_cons.mpr ⟨m3, (List.forall_mem_cons.mpr ⟨m4, (List.forall_mem_cons.mpr ⟨m5, (fun _ h => absurd h List.not_mem_nil)⟩)⟩)⟩)⟩)⟩)⟩)
def nX10_joinLeast_25 (c10 : Int → Int → Int → Int → HH → Option (Int × HH)) : Nat → Int → Int → Int → Int → Int → HH → Option (Int × HH) := iter (fun _ _ _ _ _ _ => none) (fun self => bX10_joinLeast_25 nX10_weightOf c10 (nX10_joinLeast_78 c10 self))
theorem nX10_joinLeast_25_s {c10 : Int → Int → Int → Int → HH → Option (Int × HH)} {F : Nat} : nX10_joinLeast_25 c10 (F + 1) = bX10_joinLeast_25 nX10_weightOf c10 (nX10_joinLeast_78 c10 (nX10_joinLeast_25 c10 F)) := rfl
theorem wX10_joinLeast_25 {g : SG} (hg : GOK g) {σ0 : SG} {c10 : Int → Int → Int → Int → HH → Option (Int × HH)} (k10 : ∀ (x1 : Int) (x2 : Int) (x3 : Int) (x4 : Int) (h : HH) (b : (Int × HH)), c10 x1 x2 x3 x4 h = some b → WK 104 (.inl (some (aI b.1))) σ0 (abH 2 70 g b.2) 10 [(0, aR 53), (1, aI x1), (2, aI x2), (3, aI x3), (4, aI x4)] [] (abH 2 70 g h) 0 0) : ∀ {F : Nat}, ∀ {x1 : Int} {x2 : Int} {x3 : Int} {x4 : Int} {x5 : Int} {h : HH} {b : (Int × HH)}, nX10_joinLeast_25 c10 F x1 x2 x3 x4 x5 h = some b → WK 104 (.inl (some (aI b.1))) σ0 (abH 2 70 g b.2) 25 [(0, aR 53), (1, aI x1), (2, aI x2), (3, aI x3), (4, aI x4), (5, aI x5)] [] (abH 2 70 g h) 0 0 := by
  intro F
  have z : ∀ (x1 : Int) (x2 : Int) (x3 : Int) (x4 : Int) (x5 : Int) (h : HH) (b : (Int × HH)), nX10_joinLeast_25 c10 F x1 x2 x3 x4 x5 h = some b → WK 104 (.inl (some (aI b.1))) σ0 (abH 2 70 g b.2) 25 [(0, aR 53), (1, aI x1), (2, aI x2), (3, aI x3), (4, aI x4), (5, aI x5)] [] (abH 2 70 g h) 0 0 := iter_ind (P := fun (c : Int → Int → Int → Int → Int → HH → Option (Int × HH)) => ∀ (x1 : Int) (x2 : Int) (x3 : Int) (x4 : Int) (x5 : Int) (h : HH) (b : (Int × HH)), c x1 x2 x3 x4 x5 h = some b → WK 104 (.inl (some (aI b.1))) σ0 (abH 2 70 g b.2) 25 [(0, aR 53), (1, aI x1), (2, aI x2), (3, aI x3), (4, aI x4), (5, aI x5)] [] (abH 2 70 g h) 0 0) (by
    intro x1 x2 x3 x4 x5 h b q
    cases q) (fun self ih => by
    intro x1 x2 x3 x4 x5 h b q
    exact uX10_joinLeast_25 hg k10 (fun _ _ _ _ _ _ _ q => wX10_joinLeast_78 hg k10 ih q) q) F
  intro x1 x2 x3 x4 x5 h b q
  exact z _ _ _ _ _ _ _ q
def bX10_joinLeast_10 (f105 : Int → Int → HH → Option HH) (c25 : Int → Int → Int → Int → Int → HH → Option (Int × HH)) (x1 : Int) (x2 : Int) (x3 : Int) (x4 : Int) (h : HH) : Option (Int × HH) :=
  if x4 < ((h.1 53 2) : Int) then
    gd (R32 (x4 + 1)) <|
    c25 x1 x2 x3 x4 (x4 + 1) h
  else
    if x2 = ((-1) : Int) then
    some (0, h)
  else
    gd ((0 : Int) ≤ x2 ∧ x2 < (10 : Int)) <|
    gd (R32 ((h.1 56 x2) + 1)) <|
    gd ((0 : Int) ≤ x2 ∧ x2 < (10 : Int)) <|
    bnd (some (hI h 56 x2 ((h.1 56 x2) + 1))) fun h1 =>
    gd ((0 : Int) ≤ x3 ∧ x3 < (10 : Int)) <|
    gd (R32 ((h1.1 56 x3) + 1)) <|
    gd ((0 : Int) ≤ x3 ∧ x3 < (10 : Int)) <|
    bnd (some (hI h1 56 x3 ((h1.1 56 x3) + 1))) fun h2 =>
    gd ((0 : Int) ≤ x2 ∧ x2 < (10 : Int)) <|
    gd ((0 : Int) ≤ x3 ∧ x3 < (10 : Int)) <|
    bnd (f105 (h2.1 55 x2) (h2.1 55 x3) h2) fun r3 =>
    some (x1, r3)
theorem uX10_joinLeast_10 {g : SG} (hg : GOK g) {σ0 : SG} {c25 : Int → Int → Int → Int → Int → HH → Option (Int × HH)} (k25 : ∀ (x1 : Int) (x2 : Int) (x3 : Int) (x4 : Int) (x5 : Int) (h : HH) (b : (Int × HH)), c25 x1 x2 x3 x4 x5 h = some b → WK 104 (.inl (some (aI b.1))) σ0 (abH 2 70 g b.2) 25 [(0, aR 53), (1, aI x1), (2, aI x2), (3, aI x3), (4, aI x4), (5, aI x5)] [] (abH 2 70 g h) 0 0) : ∀ {x1 : Int} {x2 : Int} {x3 : Int} {x4 : Int} {h : HH} {b : (Int × HH)}, bX10_joinLeast_10 nX10_merge c25 x1 x2 x3 x4 h = some b → WK 104 (.inl (some (aI b.1))) σ0 (abH 2 70 g b.2) 10 [(0, aR 53), (1, aI x1), (2, aI x2), (3, aI x3), (4, aI x4)] [] (abH 2 70 g h) 0 0 := by
  intro x1 x2 x3 x4 h b q
  have e : ∀ (f105 : Int → Int → HH → Option HH) , bX10_joinLeast_10 f105 c25 x1 x2 x3 x4 h = segW 2 70 g.2.2.2.2 krWI (clC 105 (pX10_merge f105) clN) csX10_joinLeast (cuC 25 (fun l st s => tkC 0 53 l <| tkI 1 l fun x1 => tkI 2 l fun x2 => tkI 3 l fun x3 => tkI 4 l fun x4 => tkI 5 l fun x5 => skE st (c25 x1 x2 x3 x4 x5 s)) cuN) 1000 10 [(0, aR 53), (1, aI x1), (2, aI x2), (3, aI x3), (4, aI x4)] [] h := fun _ => rfl
  rw [e nX10_merge] at q
  clear e
  refine segW_wk (by decide) (by decide) hg rwX10_joinLeast (CLKW_C (pX10_merge_ok hg) CLKW_N) krWI_ok ?_ q
  clear q
  refine ct_C ?_ (ct_N)
  · intro l st h q
    obtain ⟨m0, q1⟩ := tkC_of q
    obtain ⟨x1, m1, q2⟩ := tkI_of q1
    obtain ⟨x2, m2, q3⟩ := tkI_of q2
    obtain ⟨x3, m3, q4⟩ := tkI_of q3
    obtain ⟨x4, m4, q5⟩ := tkI_of q4
    obtain ⟨x5, m5, q6⟩ := tkI_of q5
    obtain ⟨rfl, q7⟩ := skE_of q6
    exact WK_less (k25 _ _ _ _ _ _ _ q7) (List.forall_mem_cons.mpr ⟨m0, (List.forall_mem_cons.mpr ⟨m1, (List.forall_mem_cons.mpr ⟨m2, (List.forall_mem_cons.mpr ⟨m3, (List.forall_mem_cons.mpr ⟨m4, (List.forall_mem_cons.mpr ⟨m5, (fun _ h => absurd h List.not_mem_nil)⟩)⟩)⟩)⟩)⟩)⟩)
def nX10_joinLeast_10 : Nat → Int → Int → Int → Int → HH → Option (Int × HH) := iter (fun _ _ _ _ _ => none) (fun self => bX10_joinLeast_10 nX10_merge (nX10_joinLeast_25 self 100000))
theorem nX10_joinLeast_10_s {F : Nat} : nX10_joinLeast_10 (F + 1) = bX10_joinLeast_10 nX10_merge (nX10_joinLeast_25 (nX10_joinLeast_10 F) 100000) := rfl
theorem wX10_joinLeast_10 {g : SG} (hg : GOK g) {σ0 : SG} : ∀ {F : Nat}, ∀ {x1 : Int} {x2 : Int} {x3 : Int} {x4 : Int} {h : HH} {b : (Int × HH)}, nX10_joinLeast_10 F x1 x2 x3 x4 h = some b → WK 104 (.inl (some (aI b.1))) σ0 (abH 2 70 g b.2) 10 [(0, aR 53), (1, aI x1), (2, aI x2), (3, aI x3), (4, aI x4)] [] (abH 2 70 g h) 0 0 := by
  intro F
  have z : ∀ (x1 : Int) (x2 : Int) (x3 : Int) (x4 : Int) (h : HH) (b : (Int × HH)), nX10_joinLeast_10 F x1 x2 x3 x4 h = some b → WK 104 (.inl (some (aI b.1))) σ0 (abH 2 70 g b.2) 10 [(0, aR 53), (1, aI x1), (2, aI x2), (3, aI x3), (4, aI x4)] [] (abH 2 70 g h) 0 0 := iter_ind (P := fun (c : Int → Int → Int → Int → HH → Option (Int × HH)) => ∀ (x1 : Int) (x2 : Int) (x3 : Int) (x4 : Int) (h : HH) (b : (Int × HH)), c x1 x2 x3 x4 h = some b → WK 104 (.inl (some (aI b.1))) σ0 (abH 2 70 g b.2) 10 [(0, aR 53), (1, aI x1), (2, aI x2), (3, aI x3), (4, aI x4)] [] (abH 2 70 g h) 0 0) (by
    intro x1 x2 x3 x4 h b q
    cases q) (fun self ih => by
    intro x1 x2 x3 x4 h b q
    exact uX10_joinLeast_10 hg (fun _ _ _ _ _ _ _ q => wX10_joinLeast_25 hg ih q) q) F
  intro x1 x2 x3 x4 h b q
  exact z _ _ _ _ _ _ q
def bX10_joinLeast (c10 : Int → Int → Int → Int → HH → Option (Int × HH)) (h : HH) : Option (Int × HH) :=
  c10 10000000 (-1) (-1) 0 h
theorem uX10_joinLeast {g : SG} (hg : GOK g) {σ0 : SG} {c10 : Int → Int → Int → Int → HH → Option (Int × HH)} (k10 : ∀ (x1 : Int) (x2 : Int) (x3 : Int) (x4 : Int) (h : HH) (b : (Int × HH)), c10 x1 x2 x3 x4 h = some b → WK 104 (.inl (some (aI b.1))) σ0 (abH 2 70 g b.2) 10 [(0, aR 53), (1, aI x1), (2, aI x2), (3, aI x3), (4, aI x4)] [] (abH 2 70 g h) 0 0) : ∀ {h : HH} {b : (Int × HH)}, bX10_joinLeast c10 h = some b → WK 104 (.inl (some (aI b.1))) σ0 (abH 2 70 g b.2) 0 [(0, aR 53)] [] (abH 2 70 g h) 0 0 := by
  intro h b q
  have e : bX10_joinLeast c10 h = segW 2 70 g.2.2.2.2 krWI clN csX10_joinLeast (cuC 10 (fun l st s => tkC 0 53 l <| tkI 1 l fun x1 => tkI 2 l fun x2 => tkI 3 l fun x3 => tkI 4 l fun x4 => skE st (c10 x1 x2 x3 x4 s)) cuN) 1000 0 [(0, aR 53)] [] h := rfl
  rw [e] at q
  clear e
  refine segW_wk (by decide) (by decide) hg rwX10_joinLeast CLKW_N krWI_ok ?_ q
  clear q
  refine ct_C ?_ (ct_N)
  · intro l st h q
    obtain ⟨m0, q1⟩ := tkC_of q
    obtain ⟨x1, m1, q2⟩ := tkI_of q1
    obtain ⟨x2, m2, q3⟩ := tkI_of q2
    obtain ⟨x3, m3, q4⟩ := tkI_of q3
    obtain ⟨x4, m4, q5⟩ := tkI_of q4
    obtain ⟨rfl, q6⟩ := skE_of q5
    exact WK_less (k10 _ _ _ _ _ _ q6) (List.forall_mem_cons.mpr ⟨m0, (List.forall_mem_cons.mpr ⟨m1, (List.forall_mem_cons.mpr ⟨m2, (List.forall_mem_cons.mpr ⟨m3, (List.forall_mem_cons.mpr ⟨m4, (fun _ h => absurd h List.not_mem_nil)⟩)⟩)⟩)⟩)⟩)
def nX10_joinLeast (h : HH) : Option (Int × HH) := bX10_joinLeast (nX10_joinLeast_10 100000) h
theorem wX10_joinLeast {g : SG} (hg : GOK g) {σ0 : SG} : ∀ {h : HH} {b : (Int × HH)}, nX10_joinLeast h = some b → WK 104 (.inl (some (aI b.1))) σ0 (abH 2 70 g b.2) 0 [(0, aR 53)] [] (abH 2 70 g h) 0 0 := by
  intro h b q
  exact uX10_joinLeast hg (fun _ _ _ _ _ _ q => wX10_joinLeast_10 hg q) q
theorem mX10_joinLeast {g : SG} (hg : GOK g) {h : HH} {b : (Int × HH)} (q : nX10_joinLeast h = some b) : MCT 104 [] [aR 53] (abH 2 70 g h) (.inl (some (aI b.1))) (abH 2 70 g b.2) :=
  mct_of (by decide) (MFok 104 (by decide +kernel)) (fun _ => Nat.le_of_ble_eq_true rfl) (wX10_joinLeast hg q)
def pX10_joinLeast {β : Type} (z : HH → Option (Int × HH)) : PW β := fun as h f => skC 53 as fun as => skE as (bnd (z h) fun r => f (.inl (some (aI r.1))) r.2)
theorem pX10_joinLeast_ok {β : Type} {g : SG} (hg : GOK g) : CW1 (β := β) 104 (pX10_joinLeast nX10_joinLeast) 2 70 g := fun as h f b q => by
  obtain ⟨as, rfl, q1⟩ := skC_of q
  obtain ⟨rfl, q0⟩ := skE_of q1
  obtain ⟨r, z1, z2⟩ := bnd_of q0
  exact ⟨_, _, z2, by decide, mX10_joinLeast hg z1, rfl, rfl, fun z => absurd z (by decide)⟩
def csX10_grow : List (Nat × List (Nat × ARow)) := [(43, [(0, 1, .aload_n 0, 0, 0, 0), (1, 1, .aload_n 1, 0, 0, 0), (2, 1, .aload_n 2, 0, 0, 0), (3, 1, .iload_n 3, 0, 0, 0), (4, 3, .invokevirtual 31, 102, 4, 10), (7, 1, .iconst 0, 0, 0, 0), (8, 2, .istore 4, 0, 0, 0), (10, 2, .iload 4, 0, 0, 0), (12, 1, .aload_n 0, 0, 0, 0), (13, 3, .getfield 35, 10, 2, 0), (16, 3, .if_icmp .ge 26, 42, 0, 0), (19, 1, .aload_n 0, 0, 0, 0), (20, 3, .getfield 15, 10, 3, 2), (23, 2, .iload 4, 0, 0, 0), (25, 2, .iload 4, 0, 0, 0), (27, 1, .iastore, 0, 0, 0), (28, 1, .aload_n 0, 0, 0, 0), (29, 3, .getfield 18, 10, 4, 2), (32, 2, .iload 4, 0, 0, 0), (34, 1, .iconst 0, 0, 0, 0), (35, 1, .iastore, 0, 0, 0), (36, 3, .iinc 4 1, 0, 0, 0), (39, 3, .goto (-29), 10, 0, 0), (42, 1, .iconst 0, 0, 0, 0)]),
  (100000, [(43, 2, .istore 4, 0, 0, 0), (45, 1, .iconst 1, 0, 0, 0), (46, 2, .istore 5, 0, 0, 0), (48, 2, .iload 5, 0, 0, 0), (50, 1, .aload_n 0, 0, 0, 0), (51, 3, .getfield 35, 10, 2, 0), (54, 3, .if_icmp .ge 18, 72, 0, 0), (57, 2, .iload 4, 0, 0, 0), (59, 1, .aload_n 0, 0, 0, 0), (60, 3, .invokevirtual 39, 104, 1, 10), (63, 1, .iadd, 0, 0, 0), (64, 2, .istore 4, 0, 0, 0), (66, 3, .iinc 5 1, 0, 0, 0), (69, 3, .goto (-21), 48, 0, 0), (72, 2, .iload 4, 0, 0, 0), (74, 1, .ireturn, 0, 0, 0)])]
theorem rwX10_grow : rowsB (mB 101) (mO 101) (mX 101) (mIni 101) (mFr 101) (mLo 101) (mT 101) csX10_grow = true := by decide +kernel
def bX10_grow_48 (f104 : HH → Option (Int × HH)) (c48 : Int → Int → HH → Option (Int × HH)) (x4 : Int) (x5 : Int) (h : HH) : Option (Int × HH) :=
  if x5 < ((h.1 53 2) : Int) then
    bnd (f104 h) fun r1 =>
    gd (R32 (x4 + r1.1)) <|
    gd (R32 (x5 + 1)) <|
    c48 (x4 + r1.1) (x5 + 1) r1.2
  else
    some (x4, h)
theorem uX10_grow_48 {g : SG} (hg : GOK g) {σ0 : SG} {c48 : Int → Int → HH → Option (Int × HH)} (k48 : ∀ (x4 : Int) (x5 : Int) (h : HH) (b : (Int × HH)), c48 x4 x5 h = some b → WK 101 (.inl (some (aI b.1))) σ0 (abH 2 70 g b.2) 48 [(0, aR 53), (4, aI x4), (5, aI x5)] [] (abH 2 70 g h) 0 0) : ∀ {x4 : Int} {x5 : Int} {h : HH} {b : (Int × HH)}, bX10_grow_48 nX10_joinLeast c48 x4 x5 h = some b → WK 101 (.inl (some (aI b.1))) σ0 (abH 2 70 g b.2) 48 [(0, aR 53), (4, aI x4), (5, aI x5)] [] (abH 2 70 g h) 0 0 := by
  intro x4 x5 h b q
  have e : ∀ (f104 : HH → Option (Int × HH)) , bX10_grow_48 f104 c48 x4 x5 h = segW 2 70 g.2.2.2.2 krWI (clC 104 (pX10_joinLeast f104) clN) csX10_grow (cuC 48 (fun l st s => tkC 0 53 l <| tkI 4 l fun x4 => tkI 5 l fun x5 => skE st (c48 x4 x5 s)) cuN) 1000 48 [(0, aR 53), (4, aI x4), (5, aI x5)] [] h := fun _ => rfl
  rw [e nX10_joinLeast] at q
  clear e
  refine segW_wk (by decide) (by decide) hg rwX10_grow (CLKW_C (pX10_joinLeast_ok hg) CLKW_N) krWI_ok ?_ q
  clear q
  refine ct_C ?_ (ct_N)
  · intro l st h q
    obtain ⟨m0, q1⟩ := tkC_of q
    obtain ⟨x4, m4, q2⟩ := tkI_of q1
    obtain ⟨x5, m5, q3⟩ := tkI_of q2
    obtain ⟨rfl, q4⟩ := skE_of q3
    exact WK_less (k48 _ _ _ _ q4) (List.forall_mem_cons.mpr ⟨m0, (List.forall_mem_cons.mpr ⟨m4, (List.forall_mem_cons.mpr ⟨m5, (fun _ h => absurd h List.not_mem_nil)⟩)⟩)⟩)
def nX10_grow_48 : Nat → Int → Int → HH → Option (Int × HH) := iter (fun _ _ _ => none) (fun self => bX10_grow_48 nX10_joinLeast self)
theorem nX10_grow_48_s {F : Nat} : nX10_grow_48 (F + 1) = bX10_grow_48 nX10_joinLeast (nX10_grow_48 F) := rfl
theorem wX10_grow_48 {g : SG} (hg : GOK g) {σ0 : SG} : ∀ {F : Nat}, ∀ {x4 : Int} {x5 : Int} {h : HH} {b : (Int × HH)}, nX10_grow_48 F x4 x5 h = some b → WK 101 (.inl (some (aI b.1))) σ0 (abH 2 70 g b.2) 48 [(0, aR 53), (4, aI x4), (5, aI x5)] [] (abH 2 70 g h) 0 0 := by
  intro F
  have z : ∀ (x4 : Int) (x5 : Int) (h : HH) (b : (Int × HH)), nX10_grow_48 F x4 x5 h = some b → WK 101 (.inl (some (aI b.1))) σ0 (abH 2 70 g b.2) 48 [(0, aR 53), (4, aI x4), (5, aI x5)] [] (abH 2 70 g h) 0 0 := iter_ind (P := fun (c : Int → Int → HH → Option (Int × HH)) => ∀ (x4 : Int) (x5 : Int) (h : HH) (b : (Int × HH)), c x4 x5 h = some b → WK 101 (.inl (some (aI b.1))) σ0 (abH 2 70 g b.2) 48 [(0, aR 53), (4, aI x4), (5, aI x5)] [] (abH 2 70 g h) 0 0) (by
    intro x4 x5 h b q
    cases q) (fun self ih => by
    intro x4 x5 h b q
    exact uX10_grow_48 hg ih q) F
  intro x4 x5 h b q
  exact z _ _ _ _ q
def bX10_grow_10 (c10 : Int → HH → Option (Int × HH)) (c48 : Int → Int → HH → Option (Int × HH)) (x4 : Int) (h : HH) : Option (Int × HH) :=
  if x4 < ((h.1 53 2) : Int) then
    gd ((0 : Int) ≤ x4 ∧ x4 < (10 : Int)) <|
    bnd (some (hI h 55 x4 x4)) fun h1 =>
    gd ((0 : Int) ≤ x4 ∧ x4 < (10 : Int)) <|
    bnd (some (hI h1 56 x4 0)) fun h2 =>
    gd (R32 (x4 + 1)) <|
    c10 (x4 + 1) h2
  else
    c48 0 1 h
theorem uX10_grow_10 {g : SG} (hg : GOK g) {σ0 : SG} {c10 : Int → HH → Option (Int × HH)} {c48 : Int → Int → HH → Option (Int × HH)} (k10 : ∀ (x4 : Int) (h : HH) (b : (Int × HH)), c10 x4 h = some b → WK 101 (.inl (some (aI b.1))) σ0 (abH 2 70 g b.2) 10 [(0, aR 53), (4, aI x4)] [] (abH 2 70 g h) 0 0) (k48 : ∀ (x4 : Int) (x5 : Int) (h : HH) (b : (Int × HH)), c48 x4 x5 h = some b → WK 101 (.inl (some (aI b.1))) σ0 (abH 2 70 g b.2) 48 [(0, aR 53), (4, aI x4), (5, aI x5)] [] (abH 2 70 g h) 0 0) : ∀ {x4 : Int} {h : HH} {b : (Int × HH)}, bX10_grow_10 c10 c48 x4 h = some b → WK 101 (.inl (some (aI b.1))) σ0 (abH 2 70 g b.2) 10 [(0, aR 53), (4, aI x4)] [] (abH 2 70 g h) 0 0 := by
  intro x4 h b q
  have e : bX10_grow_10 c10 c48 x4 h = segW 2 70 g.2.2.2.2 krWI clN csX10_grow (cuC 10 (fun l st s => tkC 0 53 l <| tkI 4 l fun x4 => skE st (c10 x4 s)) (cuC 48 (fun l st s => tkC 0 53 l <| tkI 4 l fun x4 => tkI 5 l fun x5 => skE st (c48 x4 x5 s)) cuN)) 1000 10 [(0, aR 53), (4, aI x4)] [] h := rfl
  rw [e] at q
  clear e
  refine segW_wk (by decide) (by decide) hg rwX10_grow CLKW_N krWI_ok ?_ q
  clear q
  refine ct_C ?_ (ct_C ?_ (ct_N))
  · intro l st h q
    obtain ⟨m0, q1⟩ := tkC_of q
    obtain ⟨x4, m4, q2⟩ := tkI_of q1
    obtain ⟨rfl, q3⟩ := skE_of q2
    exact WK_less (k10 _ _ _ q3) (List.forall_mem_cons.mpr ⟨m0, (List.forall_mem_cons.mpr ⟨m4, (fun _ h => absurd h List.not_mem_nil)⟩)⟩)
  · intro l st h q
    obtain ⟨m0, q1⟩ := tkC_of q
    obtain ⟨x4, m4, q2⟩ := tkI_of q1
    obtain ⟨x5, m5, q3⟩ := tkI_of q2
    obtain ⟨rfl, q4⟩ := skE_of q3
    exact WK_less (k48 _ _ _ _ q4) (List.forall_mem_cons.mpr ⟨m0, (List.forall_mem_cons.mpr ⟨m4, (List.forall_mem_cons.mpr ⟨m5, (fun _ h => absurd h List.not_mem_nil)⟩)⟩)⟩)
def nX10_grow_10 : Nat → Int → HH → Option (Int × HH) := iter (fun _ _ => none) (fun self => bX10_grow_10 self (nX10_grow_48 100000))
theorem nX10_grow_10_s {F : Nat} : nX10_grow_10 (F + 1) = bX10_grow_10 (nX10_grow_10 F) (nX10_grow_48 100000) := rfl
theorem wX10_grow_10 {g : SG} (hg : GOK g) {σ0 : SG} : ∀ {F : Nat}, ∀ {x4 : Int} {h : HH} {b : (Int × HH)}, nX10_grow_10 F x4 h = some b → WK 101 (.inl (some (aI b.1))) σ0 (abH 2 70 g b.2) 10 [(0, aR 53), (4, aI x4)] [] (abH 2 70 g h) 0 0 := by
  intro F
  have z : ∀ (x4 : Int) (h : HH) (b : (Int × HH)), nX10_grow_10 F x4 h = some b → WK 101 (.inl (some (aI b.1))) σ0 (abH 2 70 g b.2) 10 [(0, aR 53), (4, aI x4)] [] (abH 2 70 g h) 0 0 := iter_ind (P := fun (c : Int → HH → Option (Int × HH)) => ∀ (x4 : Int) (h : HH) (b : (Int × HH)), c x4 h = some b → WK 101 (.inl (some (aI b.1))) σ0 (abH 2 70 g b.2) 10 [(0, aR 53), (4, aI x4)] [] (abH 2 70 g h) 0 0) (by
    intro x4 h b q
    cases q) (fun self ih => by
    intro x4 h b q
    exact uX10_grow_10 hg ih (fun _ _ _ _ q => wX10_grow_48 hg q) q) F
  intro x4 h b q
  exact z _ _ _ q
def bX10_grow (f102 : Nat → Int → HH → Option HH) (c10 : Int → HH → Option (Int × HH)) (x2 : Nat) (x3 : Int) (h : HH) : Option (Int × HH) :=
  bnd (f102 x2 x3 h) fun r1 =>
    c10 0 r1
theorem uX10_grow {g : SG} (hg : GOK g) {σ0 : SG} {c10 : Int → HH → Option (Int × HH)} (k10 : ∀ (x4 : Int) (h : HH) (b : (Int × HH)), c10 x4 h = some b → WK 101 (.inl (some (aI b.1))) σ0 (abH 2 70 g b.2) 10 [(0, aR 53), (4, aI x4)] [] (abH 2 70 g h) 0 0) : ∀ {x2 : Nat} {x3 : Int} {h : HH} {b : (Int × HH)}, bX10_grow nX10_gatherDoors c10 x2 x3 h = some b → WK 101 (.inl (some (aI b.1))) σ0 (abH 2 70 g b.2) 0 [(0, aR 53), (1, aR 13), (2, aR x2), (3, aI x3)] [] (abH 2 70 g h) 0 0 := by
  intro x2 x3 h b q
  have e : ∀ (f102 : Nat → Int → HH → Option HH) , bX10_grow f102 c10 x2 x3 h = segW 2 70 g.2.2.2.2 krWI (clC 102 (pX10_gatherDoors f102) clN) csX10_grow (cuC 10 (fun l st s => tkC 0 53 l <| tkI 4 l fun x4 => skE st (c10 x4 s)) cuN) 1000 0 [(0, aR 53), (1, aR 13), (2, aR x2), (3, aI x3)] [] h := fun _ => rfl
  rw [e nX10_gatherDoors] at q
  clear e
  refine segW_wk (by decide) (by decide) hg rwX10_grow (CLKW_C (pX10_gatherDoors_ok hg) CLKW_N) krWI_ok ?_ q
  clear q
  refine ct_C ?_ (ct_N)
  · intro l st h q
    obtain ⟨m0, q1⟩ := tkC_of q
    obtain ⟨x4, m4, q2⟩ := tkI_of q1
    obtain ⟨rfl, q3⟩ := skE_of q2
    exact WK_less (k10 _ _ _ q3) (List.forall_mem_cons.mpr ⟨m0, (List.forall_mem_cons.mpr ⟨m4, (fun _ h => absurd h List.not_mem_nil)⟩)⟩)
def nX10_grow (x2 : Nat) (x3 : Int) (h : HH) : Option (Int × HH) := bX10_grow nX10_gatherDoors (nX10_grow_10 100000) x2 x3 h
theorem wX10_grow {g : SG} (hg : GOK g) {σ0 : SG} : ∀ {x2 : Nat} {x3 : Int} {h : HH} {b : (Int × HH)}, nX10_grow x2 x3 h = some b → WK 101 (.inl (some (aI b.1))) σ0 (abH 2 70 g b.2) 0 [(0, aR 53), (1, aR 13), (2, aR x2), (3, aI x3)] [] (abH 2 70 g h) 0 0 := by
  intro x2 x3 h b q
  exact uX10_grow hg (fun _ _ _ q => wX10_grow_10 hg q) q
theorem mX10_grow {g : SG} (hg : GOK g) {h : HH} {x2 : Nat} {x3 : Int} {b : (Int × HH)} (q : nX10_grow x2 x3 h = some b) : MCT 101 [] [aR 53, aR 13, aR x2, aI x3] (abH 2 70 g h) (.inl (some (aI b.1))) (abH 2 70 g b.2) :=
  mct_of (by decide) (MFok 101 (by decide +kernel)) (fun _ => Nat.le_of_ble_eq_true rfl) (wX10_grow hg q)
def pX10_grow {β : Type} (z : Nat → Int → HH → Option (Int × HH)) : PW β := fun as h f => skC 53 as fun as => skC 13 as fun as => skR as fun x2 as => skI as fun x3 as => skE as (bnd (z x2 x3 h) fun r => f (.inl (some (aI r.1))) r.2)
theorem pX10_grow_ok {β : Type} {g : SG} (hg : GOK g) : CW1 (β := β) 101 (pX10_grow nX10_grow) 2 70 g := fun as h f b q => by
  obtain ⟨as, rfl, q1⟩ := skC_of q
  obtain ⟨as, rfl, q2⟩ := skC_of q1
  obtain ⟨x2, as, rfl, q3⟩ := skR_of q2
  obtain ⟨x3, as, rfl, q4⟩ := skI_of q3
  obtain ⟨rfl, q0⟩ := skE_of q4
  obtain ⟨r, z1, z2⟩ := bnd_of q0
  exact ⟨_, _, z2, by decide, mX10_grow hg z1, rfl, rfl, fun z => absurd z (by decide)⟩
def csX10_leastOfSet : List (Nat × List (Nat × ARow)) := [(38, [(0, 1, .iconst 0, 0, 0, 0), (1, 1, .istore_n 3, 0, 0, 0), (2, 1, .iload_n 3, 0, 0, 0), (3, 1, .iload_n 2, 0, 0, 0), (4, 1, .iconst 1, 0, 0, 0), (5, 1, .isub, 0, 0, 0), (6, 3, .if_icmp .ge 17, 23, 0, 0), (9, 1, .iload_n 1, 0, 0, 0), (10, 1, .iload_n 3, 0, 0, 0), (11, 1, .ishr, 0, 0, 0), (12, 1, .iconst 1, 0, 0, 0), (13, 1, .iand, 0, 0, 0), (14, 3, .ifCond .ne 9, 23, 0, 0), (17, 3, .iinc 3 1, 0, 0, 0), (20, 3, .goto (-18), 2, 0, 0), (23, 2, .ldc 54, 10000000, 0, 0), (25, 2, .istore 4, 0, 0, 0), (27, 1, .iload_n 3, 0, 0, 0), (28, 1, .iconst 1, 0, 0, 0), (29, 1, .iadd, 0, 0, 0), (30, 2, .istore 5, 0, 0, 0), (32, 2, .iload 5, 0, 0, 0), (34, 1, .iload_n 2, 0, 0, 0), (35, 3, .if_icmp .ge 63, 98, 0, 0)]),
  (71, [(38, 1, .iload_n 1, 0, 0, 0), (39, 2, .iload 5, 0, 0, 0), (41, 1, .ishr, 0, 0, 0), (42, 1, .iconst 1, 0, 0, 0), (43, 1, .iand, 0, 0, 0), (44, 1, .iconst 1, 0, 0, 0), (45, 3, .if_icmp .ne 47, 92, 0, 0), (48, 1, .iload_n 1, 0, 0, 0), (49, 1, .iconst 1, 0, 0, 0), (50, 1, .iload_n 3, 0, 0, 0), (51, 1, .ishl, 0, 0, 0), (52, 1, .ixor, 0, 0, 0), (53, 1, .iconst 1, 0, 0, 0), (54, 2, .iload 5, 0, 0, 0), (56, 1, .ishl, 0, 0, 0), (57, 1, .ixor, 0, 0, 0), (58, 2, .istore 6, 0, 0, 0), (60, 2, .iload 4, 0, 0, 0), (62, 1, .aload_n 0, 0, 0, 0), (63, 3, .getfield 24, 10, 6, 2), (66, 2, .iload 6, 0, 0, 0), (68, 1, .iaload, 0, 0, 0), (69, 1, .aload_n 0, 0, 0, 0), (70, 1, .aload_n 0, 0, 0, 0)]),
  (100000, [(71, 3, .getfield 21, 10, 5, 2), (74, 1, .iload_n 3, 0, 0, 0), (75, 1, .iaload, 0, 0, 0), (76, 1, .aload_n 0, 0, 0, 0), (77, 3, .getfield 21, 10, 5, 2), (80, 2, .iload 5, 0, 0, 0), (82, 1, .iaload, 0, 0, 0), (83, 3, .invokevirtual 63, 103, 3, 10), (86, 1, .iadd, 0, 0, 0), (87, 3, .invokestatic 60, 1001, 2, 0), (90, 2, .istore 4, 0, 0, 0), (92, 3, .iinc 5 1, 0, 0, 0), (95, 3, .goto (-63), 32, 0, 0), (98, 2, .iload 4, 0, 0, 0), (100, 1, .ireturn, 0, 0, 0)])]
theorem rwX10_leastOfSet : rowsB (mB 107) (mO 107) (mX 107) (mIni 107) (mFr 107) (mLo 107) (mT 107) csX10_leastOfSet = true := by decide +kernel
def bX10_leastOfSet_92 (h : HH) (c32 : Int → Int → Int → Int → Int → Option Int) (x1 : Int) (x2 : Int) (x3 : Int) (x4 : Int) (x5 : Int) : Option Int :=
  gd (R32 (x5 + 1)) <|
    c32 x1 x2 x3 x4 (x5 + 1)
theorem uX10_leastOfSet_92 {g : SG} (hg : GOK g) {σ0 : SG} {h : HH} {c32 : Int → Int → Int → Int → Int → Option Int} (k32 : ∀ (x1 : Int) (x2 : Int) (x3 : Int) (x4 : Int) (x5 : Int) (b : Int), c32 x1 x2 x3 x4 x5 = some b → WK 107 (.inl (some (aI b))) σ0 (abH 2 70 g h) 32 [(0, aR 53), (1, aI x1), (2, aI x2), (3, aI x3), (4, aI x4), (5, aI x5)] [] (abH 2 70 g h) 0 0) : ∀ {x1 : Int} {x2 : Int} {x3 : Int} {x4 : Int} {x5 : Int} {b : Int}, bX10_leastOfSet_92 h c32 x1 x2 x3 x4 x5 = some b → WK 107 (.inl (some (aI b))) σ0 (abH 2 70 g h) 92 [(0, aR 53), (1, aI x1), (2, aI x2), (3, aI x3), (4, aI x4), (5, aI x5)] [] (abH 2 70 g h) 0 0 := by
  intro x1 x2 x3 x4 x5 b q
  have e : bX10_leastOfSet_92 h c32 x1 x2 x3 x4 x5 = segP 2 70 g.2.2.2.2 h krPI clNP csX10_leastOfSet (cuC 32 (fun l st s => tkC 0 53 l <| tkI 1 l fun x1 => tkI 2 l fun x2 => tkI 3 l fun x3 => tkI 4 l fun x4 => tkI 5 l fun x5 => skE st (c32 x1 x2 x3 x4 x5)) cuN) 1000 92 [(0, aR 53), (1, aI x1), (2, aI x2), (3, aI x3), (4, aI x4), (5, aI x5)] [] := rfl
  rw [e] at q
  clear e
  refine segP_wk (by decide) (by decide) hg rwX10_leastOfSet CLKP_N krPI_ok ?_ q
  clear q
  refine ct_C ?_ (ct_N)
  · intro l st _ q
    obtain ⟨m0, q1⟩ := tkC_of q
    obtain ⟨x1, m1, q2⟩ := tkI_of q1
    obtain ⟨x2, m2, q3⟩ := tkI_of q2
    obtain ⟨x3, m3, q4⟩ := tkI_of q3
    obtain ⟨x4, m4, q5⟩ := tkI_of q4
    obtain ⟨x5, m5, q6⟩ := tkI_of q5
    obtain ⟨rfl, q7⟩ := skE_of q6
    exact WK_less (k32 _ _ _ _ _ _ q7) (List.forall_mem_cons.mpr ⟨m0, (List.forall_mem_cons.mpr ⟨m1, (List.forall_mem_cons.mpr ⟨m2, (List.forall_mem_cons.mpr ⟨m3, (List.forall_mem_cons.mpr ⟨m4, (List.forall_mem_cons.mpr ⟨m5, (fun _ h => absurd h List.not_mem_nil)⟩)⟩)⟩)⟩)⟩)⟩)
def nX10_leastOfSet_92 (h : HH) (c32 : Int → Int → Int → Int → Int → Option Int) (x1 : Int) (x2 : Int) (x3 : Int) (x4 : Int) (x5 : Int) : Option Int := bX10_leastOfSet_92 h c32 x1 x2 x3 x4 x5
theorem wX10_leastOfSet_92 {g : SG} (hg : GOK g) {σ0 : SG} {h : HH} {c32 : Int → Int → Int → Int → Int → Option Int} (k32 : ∀ (x1 : Int) (x2 : Int) (x3 : Int) (x4 : Int) (x5 : Int) (b : Int), c32 x1 x2 x3 x4 x5 = some b → WK 107 (.inl (some (aI b))) σ0 (abH 2 70 g h) 32 [(0, aR 53), (1, aI x1), (2, aI x2), (3, aI x3), (4, aI x4), (5, aI x5)] [] (abH 2 70 g h) 0 0) : ∀ {x1 : Int} {x2 : Int} {x3 : Int} {x4 : Int} {x5 : Int} {b : Int}, nX10_leastOfSet_92 h c32 x1 x2 x3 x4 x5 = some b → WK 107 (.inl (some (aI b))) σ0 (abH 2 70 g h) 92 [(0, aR 53), (1, aI x1), (2, aI x2), (3, aI x3), (4, aI x4), (5, aI x5)] [] (abH 2 70 g h) 0 0 := by
  intro x1 x2 x3 x4 x5 b q
  exact uX10_leastOfSet_92 hg k32 q
def bX10_leastOfSet_32 (f103 : HH → Int → Int → Option Int) (h : HH) (c92 : Int → Int → Int → Int → Int → Option Int) (x1 : Int) (x2 : Int) (x3 : Int) (x4 : Int) (x5 : Int) : Option Int :=
  if x5 < (x2 : Int) then
    if (andI (shrI x1 x5) 1) = (1 : Int) then
    gd ((0 : Int) ≤ (xorI (xorI x1 (shlI 1 x3)) (shlI 1 x5)) ∧ (xorI (xorI x1 (shlI 1 x3)) (shlI 1 x5)) < (1024 : Int)) <|
    gd ((0 : Int) ≤ x3 ∧ x3 < (10 : Int)) <|
    gd ((0 : Int) ≤ x5 ∧ x5 < (10 : Int)) <|
    bnd (f103 h (h.1 57 x3) (h.1 57 x5)) fun r1 =>
    gd (R32 ((h.1 58 (xorI (xorI x1 (shlI 1 x3)) (shlI 1 x5))) + r1)) <|
    c92 x1 x2 x3 (min x4 ((h.1 58 (xorI (xorI x1 (shlI 1 x3)) (shlI 1 x5))) + r1)) x5
  else
    c92 x1 x2 x3 x4 x5
  else
    some x4
theorem uX10_leastOfSet_32 {g : SG} (hg : GOK g) {σ0 : SG} {h : HH} {c92 : Int → Int → Int → Int → Int → Option Int} (k92 : ∀ (x1 : Int) (x2 : Int) (x3 : Int) (x4 : Int) (x5 : Int) (b : Int), c92 x1 x2 x3 x4 x5 = some b → WK 107 (.inl (some (aI b))) σ0 (abH 2 70 g h) 92 [(0, aR 53), (1, aI x1), (2, aI x2), (3, aI x3), (4, aI x4), (5, aI x5)] [] (abH 2 70 g h) 0 0) : ∀ {x1 : Int} {x2 : Int} {x3 : Int} {x4 : Int} {x5 : Int} {b : Int}, bX10_leastOfSet_32 nX10_weightOf h c92 x1 x2 x3 x4 x5 = some b → WK 107 (.inl (some (aI b))) σ0 (abH 2 70 g h) 32 [(0, aR 53), (1, aI x1), (2, aI x2), (3, aI x3), (4, aI x4), (5, aI x5)] [] (abH 2 70 g h) 0 0 := by
  intro x1 x2 x3 x4 x5 b q
  have e : ∀ (f103 : HH → Int → Int → Option Int) , bX10_leastOfSet_32 f103 h c92 x1 x2 x3 x4 x5 = segP 2 70 g.2.2.2.2 h krPI (clCP 103 (pX10_weightOf f103 h) clNP) csX10_leastOfSet (cuC 92 (fun l st s => tkC 0 53 l <| tkI 1 l fun x1 => tkI 2 l fun x2 => tkI 3 l fun x3 => tkI 4 l fun x4 => tkI 5 l fun x5 => skE st (c92 x1 x2 x3 x4 x5)) cuN) 1000 32 [(0, aR 53), (1, aI x1), (2, aI x2), (3, aI x3), (4, aI x4), (5, aI x5)] [] := fun _ => rfl
  rw [e nX10_weightOf] at q
  clear e
  refine segP_wk (by decide) (by decide) hg rwX10_leastOfSet (CLKP_C (pX10_weightOf_ok hg) CLKP_N) krPI_ok ?_ q
  clear q
  refine ct_C ?_ (ct_N)
  · intro l st _ q
    obtain ⟨m0, q1⟩ := tkC_of q
    obtain ⟨x1, m1, q2⟩ := tkI_of q1
    obtain ⟨x2, m2, q3⟩ := tkI_of q2
    obtain ⟨x3, m3, q4⟩ := tkI_of q3
    obtain ⟨x4, m4, q5⟩ := tkI_of q4
    obtain ⟨x5, m5, q6⟩ := tkI_of q5
    obtain ⟨rfl, q7⟩ := skE_of q6
    exact WK_less (k92 _ _ _ _ _ _ q7) (List.forall_mem_cons.mpr ⟨m0, (List.forall_mem_cons.mpr ⟨m1, (List.forall_mem_cons.mpr ⟨m2, (List.forall_mem_cons.mpr ⟨m3, (List.forall_mem_cons.mpr ⟨m4, (List.forall_mem_cons.mpr ⟨m5, (fun _ h => absurd h List.not_mem_nil)⟩)⟩)⟩)⟩)⟩)⟩)
def nX10_leastOfSet_32 (h : HH) : Nat → Int → Int → Int → Int → Int → Option Int := iter (fun _ _ _ _ _ => none) (fun self => bX10_leastOfSet_32 nX10_weightOf h (nX10_leastOfSet_92 h self))
theorem nX10_leastOfSet_32_s {h : HH} {F : Nat} : nX10_leastOfSet_32 h (F + 1) = bX10_leastOfSet_32 nX10_weightOf h (nX10_leastOfSet_92 h (nX10_leastOfSet_32 h F)) := rfl
theorem wX10_leastOfSet_32 {g : SG} (hg : GOK g) {σ0 : SG} {h : HH} : ∀ {F : Nat}, ∀ {x1 : Int} {x2 : Int} {x3 : Int} {x4 : Int} {x5 : Int} {b : Int}, nX10_leastOfSet_32 h F x1 x2 x3 x4 x5 = some b → WK 107 (.inl (some (aI b))) σ0 (abH 2 70 g h) 32 [(0, aR 53), (1, aI x1), (2, aI x2), (3, aI x3), (4, aI x4), (5, aI x5)] [] (abH 2 70 g h) 0 0 := by
  intro F
  have z : ∀ (x1 : Int) (x2 : Int) (x3 : Int) (x4 : Int) (x5 : Int) (b : Int), nX10_leastOfSet_32 h F x1 x2 x3 x4 x5 = some b → WK 107 (.inl (some (aI b))) σ0 (abH 2 70 g h) 32 [(0, aR 53), (1, aI x1), (2, aI x2), (3, aI x3), (4, aI x4), (5, aI x5)] [] (abH 2 70 g h) 0 0 := iter_ind (P := fun (c : Int → Int → Int → Int → Int → Option Int) => ∀ (x1 : Int) (x2 : Int) (x3 : Int) (x4 : Int) (x5 : Int) (b : Int), c x1 x2 x3 x4 x5 = some b → WK 107 (.inl (some (aI b))) σ0 (abH 2 70 g h) 32 [(0, aR 53), (1, aI x1), (2, aI x2), (3, aI x3), (4, aI x4), (5, aI x5)] [] (abH 2 70 g h) 0 0) (by
    intro x1 x2 x3 x4 x5 b q
    cases q) (fun self ih => by
    intro x1 x2 x3 x4 x5 b q
    exact uX10_leastOfSet_32 hg (fun _ _ _ _ _ _ q => wX10_leastOfSet_92 hg ih q) q) F
  intro x1 x2 x3 x4 x5 b q
  exact z _ _ _ _ _ _ q
def bX10_leastOfSet_23 (h : HH) (c32 : Int → Int → Int → Int → Int → Option Int) (x1 : Int) (x2 : Int) (x3 : Int) : Option Int :=
  gd (R32 (x3 + 1)) <|
    c32 x1 x2 x3 10000000 (x3 + 1)
theorem uX10_leastOfSet_23 {g : SG} (hg : GOK g) {σ0 : SG} {h : HH} {c32 : Int → Int → Int → Int → Int → Option Int} (k32 : ∀ (x1 : Int) (x2 : Int) (x3 : Int) (x4 : Int) (x5 : Int) (b : Int), c32 x1 x2 x3 x4 x5 = some b → WK 107 (.inl (some (aI b))) σ0 (abH 2 70 g h) 32 [(0, aR 53), (1, aI x1), (2, aI x2), (3, aI x3), (4, aI x4), (5, aI x5)] [] (abH 2 70 g h) 0 0) : ∀ {x1 : Int} {x2 : Int} {x3 : Int} {b : Int}, bX10_leastOfSet_23 h c32 x1 x2 x3 = some b → WK 107 (.inl (some (aI b))) σ0 (abH 2 70 g h) 23 [(0, aR 53), (1, aI x1), (2, aI x2), (3, aI x3)] [] (abH 2 70 g h) 0 0 := by
  intro x1 x2 x3 b q
  have e : bX10_leastOfSet_23 h c32 x1 x2 x3 = segP 2 70 g.2.2.2.2 h krPI clNP csX10_leastOfSet (cuC 32 (fun l st s => tkC 0 53 l <| tkI 1 l fun x1 => tkI 2 l fun x2 => tkI 3 l fun x3 => tkI 4 l fun x4 => tkI 5 l fun x5 => skE st (c32 x1 x2 x3 x4 x5)) cuN) 1000 23 [(0, aR 53), (1, aI x1), (2, aI x2), (3, aI x3)] [] := rfl
  rw [e] at q
  clear e
  refine segP_wk (by decide) (by decide) hg rwX10_leastOfSet CLKP_N krPI_ok ?_ q
  clear q
  refine ct_C ?_ (ct_N)
  · intro l st _ q
    obtain ⟨m0, q1⟩ := tkC_of q
    obtain ⟨x1, m1, q2⟩ := tkI_of q1
    obtain ⟨x2, m2, q3⟩ := tkI_of q2
    obtain ⟨x3, m3, q4⟩ := tkI_of q3
    obtain ⟨x4, m4, q5⟩ := tkI_of q4
    obtain ⟨x5, m5, q6⟩ := tkI_of q5
    obtain ⟨rfl, q7⟩ := skE_of q6
    exact WK_less (k32 _ _ _ _ _ _ q7) (List.forall_mem_cons.mpr ⟨m0, (List.forall_mem_cons.mpr ⟨m1, (List.forall_mem_cons.mpr ⟨m2, (List.forall_mem_cons.mpr ⟨m3, (List.forall_mem_cons.mpr ⟨m4, (List.forall_mem_cons.mpr ⟨m5, (fun _ h => absurd h List.not_mem_nil)⟩)⟩)⟩)⟩)⟩)⟩)
def nX10_leastOfSet_23 (h : HH) (x1 : Int) (x2 : Int) (x3 : Int) : Option Int := bX10_leastOfSet_23 h (nX10_leastOfSet_32 h 100000) x1 x2 x3
theorem wX10_leastOfSet_23 {g : SG} (hg : GOK g) {σ0 : SG} {h : HH} : ∀ {x1 : Int} {x2 : Int} {x3 : Int} {b : Int}, nX10_leastOfSet_23 h x1 x2 x3 = some b → WK 107 (.inl (some (aI b))) σ0 (abH 2 70 g h) 23 [(0, aR 53), (1, aI x1), (2, aI x2), (3, aI x3)] [] (abH 2 70 g h) 0 0 := by
  intro x1 x2 x3 b q
  exact uX10_leastOfSet_23 hg (fun _ _ _ _ _ _ q => wX10_leastOfSet_32 hg q) q
def bX10_leastOfSet_2 (h : HH) (c2 : Int → Int → Int → Option Int) (c23 : Int → Int → Int → Option Int) (x1 : Int) (x2 : Int) (x3 : Int) : Option Int :=
  gd (R32 (x2 - 1)) <|
    if x3 < ((x2 - 1) : Int) then
    if (andI (shrI x1 x3) 1) = (0 : Int) then
    gd (R32 (x3 + 1)) <|
    c2 x1 x2 (x3 + 1)
  else
    c23 x1 x2 x3
  else
    c23 x1 x2 x3
theorem uX10_leastOfSet_2 {g : SG} (hg : GOK g) {σ0 : SG} {h : HH} {c2 : Int → Int → Int → Option Int} {c23 : Int → Int → Int → Option Int} (k2 : ∀ (x1 : Int) (x2 : Int) (x3 : Int) (b : Int), c2 x1 x2 x3 = some b → WK 107 (.inl (some (aI b))) σ0 (abH 2 70 g h) 2 [(0, aR 53), (1, aI x1), (2, aI x2), (3, aI x3)] [] (abH 2 70 g h) 0 0) (k23 : ∀ (x1 : Int) (x2 : Int) (x3 : Int) (b : Int), c23 x1 x2 x3 = some b → WK 107 (.inl (some (aI b))) σ0 (abH 2 70 g h) 23 [(0, aR 53), (1, aI x1), (2, aI x2), (3, aI x3)] [] (abH 2 70 g h) 0 0) : ∀ {x1 : Int} {x2 : Int} {x3 : Int} {b : Int}, bX10_leastOfSet_2 h c2 c23 x1 x2 x3 = some b → WK 107 (.inl (some (aI b))) σ0 (abH 2 70 g h) 2 [(0, aR 53), (1, aI x1), (2, aI x2), (3, aI x3)] [] (abH 2 70 g h) 0 0 := by
  intro x1 x2 x3 b q
  have e : bX10_leastOfSet_2 h c2 c23 x1 x2 x3 = segP 2 70 g.2.2.2.2 h krPI clNP csX10_leastOfSet (cuC 2 (fun l st s => tkC 0 53 l <| tkI 1 l fun x1 => tkI 2 l fun x2 => tkI 3 l fun x3 => skE st (c2 x1 x2 x3)) (cuC 23 (fun l st s => tkC 0 53 l <| tkI 1 l fun x1 => tkI 2 l fun x2 => tkI 3 l fun x3 => skE st (c23 x1 x2 x3)) cuN)) 1000 2 [(0, aR 53), (1, aI x1), (2, aI x2), (3, aI x3)] [] := rfl
  rw [e] at q
  clear e
  refine segP_wk (by decide) (by decide) hg rwX10_leastOfSet CLKP_N krPI_ok ?_ q
  clear q
  refine ct_C ?_ (ct_C ?_ (ct_N))
  · intro l st _ q
    obtain ⟨m0, q1⟩ := tkC_of q
    obtain ⟨x1, m1, q2⟩ := tkI_of q1
    obtain ⟨x2, m2, q3⟩ := tkI_of q2
    obtain ⟨x3, m3, q4⟩ := tkI_of q3
    obtain ⟨rfl, q5⟩ := skE_of q4
    exact WK_less (k2 _ _ _ _ q5) (List.forall_mem_cons.mpr ⟨m0, (List.forall_mem_cons.mpr ⟨m1, (List.forall_mem_cons.mpr ⟨m2, (List.forall_mem_cons.mpr ⟨m3, (fun _ h => absurd h List.not_mem_nil)⟩)⟩)⟩)⟩)
  · intro l st _ q
    obtain ⟨m0, q1⟩ := tkC_of q
    obtain ⟨x1, m1, q2⟩ := tkI_of q1
    obtain ⟨x2, m2, q3⟩ := tkI_of q2
    obtain ⟨x3, m3, q4⟩ := tkI_of q3
    obtain ⟨rfl, q5⟩ := skE_of q4
    exact WK_less (k23 _ _ _ _ q5) (List.forall_mem_cons.mpr ⟨m0, (List.forall_mem_cons.mpr ⟨m1, (List.forall_mem_cons.mpr ⟨m2, (List.forall_mem_cons.mpr ⟨m3, (fun _ h => absurd h List.not_mem_nil)⟩)⟩)⟩)⟩)
def nX10_leastOfSet_2 (h : HH) : Nat → Int → Int → Int → Option Int := iter (fun _ _ _ => none) (fun self => bX10_leastOfSet_2 h self (nX10_leastOfSet_23 h))
theorem nX10_leastOfSet_2_s {h : HH} {F : Nat} : nX10_leastOfSet_2 h (F + 1) = bX10_leastOfSet_2 h (nX10_leastOfSet_2 h F) (nX10_leastOfSet_23 h) := rfl
theorem wX10_leastOfSet_2 {g : SG} (hg : GOK g) {σ0 : SG} {h : HH} : ∀ {F : Nat}, ∀ {x1 : Int} {x2 : Int} {x3 : Int} {b : Int}, nX10_leastOfSet_2 h F x1 x2 x3 = some b → WK 107 (.inl (some (aI b))) σ0 (abH 2 70 g h) 2 [(0, aR 53), (1, aI x1), (2, aI x2), (3, aI x3)] [] (abH 2 70 g h) 0 0 := by
  intro F
  have z : ∀ (x1 : Int) (x2 : Int) (x3 : Int) (b : Int), nX10_leastOfSet_2 h F x1 x2 x3 = some b → WK 107 (.inl (some (aI b))) σ0 (abH 2 70 g h) 2 [(0, aR 53), (1, aI x1), (2, aI x2), (3, aI x3)] [] (abH 2 70 g h) 0 0 := iter_ind (P := fun (c : Int → Int → Int → Option Int) => ∀ (x1 : Int) (x2 : Int) (x3 : Int) (b : Int), c x1 x2 x3 = some b → WK 107 (.inl (some (aI b))) σ0 (abH 2 70 g h) 2 [(0, aR 53), (1, aI x1), (2, aI x2), (3, aI x3)] [] (abH 2 70 g h) 0 0) (by
    intro x1 x2 x3 b q
    cases q) (fun self ih => by
    intro x1 x2 x3 b q
    exact uX10_leastOfSet_2 hg ih (fun _ _ _ _ q => wX10_leastOfSet_23 hg q) q) F
  intro x1 x2 x3 b q
  exact z _ _ _ _ q
def bX10_leastOfSet (h : HH) (c2 : Int → Int → Int → Option Int) (x1 : Int) (x2 : Int) : Option Int :=
  c2 x1 x2 0
theorem uX10_leastOfSet {g : SG} (hg : GOK g) {σ0 : SG} {h : HH} {c2 : Int → Int → Int → Option Int} (k2 : ∀ (x1 : Int) (x2 : Int) (x3 : Int) (b : Int), c2 x1 x2 x3 = some b → WK 107 (.inl (some (aI b))) σ0 (abH 2 70 g h) 2 [(0, aR 53), (1, aI x1), (2, aI x2), (3, aI x3)] [] (abH 2 70 g h) 0 0) : ∀ {x1 : Int} {x2 : Int} {b : Int}, bX10_leastOfSet h c2 x1 x2 = some b → WK 107 (.inl (some (aI b))) σ0 (abH 2 70 g h) 0 [(0, aR 53), (1, aI x1), (2, aI x2)] [] (abH 2 70 g h) 0 0 := by
  intro x1 x2 b q
  have e : bX10_leastOfSet h c2 x1 x2 = segP 2 70 g.2.2.2.2 h krPI clNP csX10_leastOfSet (cuC 2 (fun l st s => tkC 0 53 l <| tkI 1 l fun x1 => tkI 2 l fun x2 => tkI 3 l fun x3 => skE st (c2 x1 x2 x3)) cuN) 1000 0 [(0, aR 53), (1, aI x1), (2, aI x2)] [] := rfl
  rw [e] at q
  clear e
  refine segP_wk (by decide) (by decide) hg rwX10_leastOfSet CLKP_N krPI_ok ?_ q
  clear q
  refine ct_C ?_ (ct_N)
  · intro l st _ q
    obtain ⟨m0, q1⟩ := tkC_of q
    obtain ⟨x1, m1, q2⟩ := tkI_of q1
    obtain ⟨x2, m2, q3⟩ := tkI_of q2
    obtain ⟨x3, m3, q4⟩ := tkI_of q3
    obtain ⟨rfl, q5⟩ := skE_of q4
    exact WK_less (k2 _ _ _ _ q5) (List.forall_mem_cons.mpr ⟨m0, (List.forall_mem_cons.mpr ⟨m1, (List.forall_mem_cons.mpr ⟨m2, (List.forall_mem_cons.mpr ⟨m3, (fun _ h => absurd h List.not_mem_nil)⟩)⟩)⟩)⟩)
def nX10_leastOfSet (h : HH) (x1 : Int) (x2 : Int) : Option Int := bX10_leastOfSet h (nX10_leastOfSet_2 h 100000) x1 x2
theorem wX10_leastOfSet {g : SG} (hg : GOK g) {σ0 : SG} {h : HH} : ∀ {x1 : Int} {x2 : Int} {b : Int}, nX10_leastOfSet h x1 x2 = some b → WK 107 (.inl (some (aI b))) σ0 (abH 2 70 g h) 0 [(0, aR 53), (1, aI x1), (2, aI x2)] [] (abH 2 70 g h) 0 0 := by
  intro x1 x2 b q
  exact uX10_leastOfSet hg (fun _ _ _ _ q => wX10_leastOfSet_2 hg q) q
theorem mX10_leastOfSet {g : SG} (hg : GOK g) {h : HH} {x1 : Int} {x2 : Int} {b : Int} (q : nX10_leastOfSet h x1 x2 = some b) : MCT 107 [] [aR 53, aI x1, aI x2] (abH 2 70 g h) (.inl (some (aI b))) (abH 2 70 g h) :=
  mct_of (by decide) (MFok 107 (by decide +kernel)) (fun _ => Nat.le_of_ble_eq_true rfl) (wX10_leastOfSet hg q)
def pX10_leastOfSet {β : Type} (z : HH → Int → Int → Option Int) : PP β := fun h as f => skC 53 as fun as => skI as fun x1 as => skI as fun x2 as => skE as (bnd (z h x1 x2) fun r => f (.inl (some (aI r))))
theorem pX10_leastOfSet_ok {β : Type} {g : SG} (hg : GOK g) : CP1 (β := β) 107 (pX10_leastOfSet nX10_leastOfSet) 2 70 g := fun h as f b q => by
  obtain ⟨as, rfl, q1⟩ := skC_of q
  obtain ⟨x1, as, rfl, q2⟩ := skI_of q1
  obtain ⟨x2, as, rfl, q3⟩ := skI_of q2
  obtain ⟨rfl, q0⟩ := skE_of q3
  obtain ⟨r, z1, z2⟩ := bnd_of q0
  exact ⟨_, z2, by decide, mX10_leastOfSet hg z1, rfl, rfl, fun z => absurd z (by decide)⟩
def csX10_leastPairing : List (Nat × List (Nat × ARow)) := [(40, [(0, 1, .iconst 0, 0, 0, 0), (1, 1, .istore_n 1, 0, 0, 0), (2, 1, .iconst 0, 0, 0, 0), (3, 1, .istore_n 2, 0, 0, 0), (4, 1, .iload_n 2, 0, 0, 0), (5, 1, .aload_n 0, 0, 0, 0), (6, 3, .getfield 35, 10, 2, 0), (9, 3, .if_icmp .ge 31, 40, 0, 0), (12, 1, .aload_n 0, 0, 0, 0), (13, 3, .getfield 18, 10, 4, 2), (16, 1, .iload_n 2, 0, 0, 0), (17, 1, .iaload, 0, 0, 0), (18, 1, .iconst 2, 0, 0, 0), (19, 1, .irem, 0, 0, 0), (20, 1, .iconst 1, 0, 0, 0), (21, 3, .if_icmp .ne 13, 34, 0, 0), (24, 1, .aload_n 0, 0, 0, 0), (25, 3, .getfield 21, 10, 5, 2), (28, 1, .iload_n 1, 0, 0, 0), (29, 1, .iload_n 2, 0, 0, 0), (30, 1, .iastore, 0, 0, 0), (31, 3, .iinc 1 1, 0, 0, 0), (34, 3, .iinc 2 1, 0, 0, 0), (37, 3, .goto (-33), 4, 0, 0)]),
  (74, [(40, 1, .aload_n 0, 0, 0, 0), (41, 3, .getfield 24, 10, 6, 2), (44, 1, .iconst 0, 0, 0, 0), (45, 1, .iconst 0, 0, 0, 0), (46, 1, .iastore, 0, 0, 0), (47, 1, .iconst 1, 0, 0, 0), (48, 1, .iload_n 1, 0, 0, 0), (49, 1, .ishl, 0, 0, 0), (50, 1, .iconst 1, 0, 0, 0), (51, 1, .isub, 0, 0, 0), (52, 1, .istore_n 2, 0, 0, 0), (53, 1, .iconst 1, 0, 0, 0), (54, 1, .istore_n 3, 0, 0, 0), (55, 1, .iload_n 3, 0, 0, 0), (56, 1, .iload_n 2, 0, 0, 0), (57, 3, .if_icmp .gt 35, 92, 0, 0), (60, 1, .aload_n 0, 0, 0, 0), (61, 3, .getfield 24, 10, 6, 2), (64, 1, .iload_n 3, 0, 0, 0), (65, 1, .iload_n 3, 0, 0, 0), (66, 3, .invokestatic 70, 274, 1, 0), (69, 1, .iconst 2, 0, 0, 0), (70, 1, .irem, 0, 0, 0), (71, 3, .ifCond .ne 12, 83, 0, 0)]),
  (100000, [(74, 1, .aload_n 0, 0, 0, 0), (75, 1, .iload_n 3, 0, 0, 0), (76, 1, .iload_n 1, 0, 0, 0), (77, 3, .invokevirtual 76, 107, 3, 10), (80, 3, .goto 5, 85, 0, 0), (83, 2, .ldc 54, 10000000, 0, 0), (85, 1, .iastore, 0, 0, 0), (86, 3, .iinc 3 1, 0, 0, 0), (89, 3, .goto (-34), 55, 0, 0), (92, 1, .aload_n 0, 0, 0, 0), (93, 3, .getfield 24, 10, 6, 2), (96, 1, .iload_n 2, 0, 0, 0), (97, 1, .iaload, 0, 0, 0), (98, 1, .ireturn, 0, 0, 0)])]
theorem rwX10_leastPairing : rowsB (mB 106) (mO 106) (mX 106) (mIni 106) (mFr 106) (mLo 106) (mT 106) csX10_leastPairing = true := by decide +kernel
def bX10_leastPairing_85 (c55 : Int → Int → Int → HH → Option (Int × HH)) (x1 : Int) (x2 : Int) (x3 : Int) (y0 : Int) (y1 : Int) (h : HH) : Option (Int × HH) :=
  gd ((0 : Int) ≤ y1 ∧ y1 < (1024 : Int)) <|
    bnd (some (hI h 58 y1 y0)) fun h1 =>
    gd (R32 (x3 + 1)) <|
    c55 x1 x2 (x3 + 1) h1
theorem uX10_leastPairing_85 {g : SG} (hg : GOK g) {σ0 : SG} {c55 : Int → Int → Int → HH → Option (Int × HH)} (k55 : ∀ (x1 : Int) (x2 : Int) (x3 : Int) (h : HH) (b : (Int × HH)), c55 x1 x2 x3 h = some b → WK 106 (.inl (some (aI b.1))) σ0 (abH 2 70 g b.2) 55 [(0, aR 53), (1, aI x1), (2, aI x2), (3, aI x3)] [] (abH 2 70 g h) 0 0) : ∀ {x1 : Int} {x2 : Int} {x3 : Int} {y0 : Int} {y1 : Int} {h : HH} {b : (Int × HH)}, bX10_leastPairing_85 c55 x1 x2 x3 y0 y1 h = some b → WK 106 (.inl (some (aI b.1))) σ0 (abH 2 70 g b.2) 85 [(0, aR 53), (1, aI x1), (2, aI x2), (3, aI x3)] [aI y0, aI y1, aR 58] (abH 2 70 g h) 0 0 := by
  intro x1 x2 x3 y0 y1 h b q
  have e : bX10_leastPairing_85 c55 x1 x2 x3 y0 y1 h = segW 2 70 g.2.2.2.2 krWI clN csX10_leastPairing (cuC 55 (fun l st s => tkC 0 53 l <| tkI 1 l fun x1 => tkI 2 l fun x2 => tkI 3 l fun x3 => skE st (c55 x1 x2 x3 s)) cuN) 1000 85 [(0, aR 53), (1, aI x1), (2, aI x2), (3, aI x3)] [aI y0, aI y1, aR 58] h := rfl
  rw [e] at q
  clear e
  refine segW_wk (by decide) (by decide) hg rwX10_leastPairing CLKW_N krWI_ok ?_ q
  clear q
  refine ct_C ?_ (ct_N)
  · intro l st h q
    obtain ⟨m0, q1⟩ := tkC_of q
    obtain ⟨x1, m1, q2⟩ := tkI_of q1
    obtain ⟨x2, m2, q3⟩ := tkI_of q2
    obtain ⟨x3, m3, q4⟩ := tkI_of q3
    obtain ⟨rfl, q5⟩ := skE_of q4
    exact WK_less (k55 _ _ _ _ _ q5) (List.forall_mem_cons.mpr ⟨m0, (List.forall_mem_cons.mpr ⟨m1, (List.forall_mem_cons.mpr ⟨m2, (List.forall_mem_cons.mpr ⟨m3, (fun _ h => absurd h List.not_mem_nil)⟩)⟩)⟩)⟩)
def nX10_leastPairing_85 (c55 : Int → Int → Int → HH → Option (Int × HH)) (x1 : Int) (x2 : Int) (x3 : Int) (y0 : Int) (y1 : Int) (h : HH) : Option (Int × HH) := bX10_leastPairing_85 c55 x1 x2 x3 y0 y1 h
theorem wX10_leastPairing_85 {g : SG} (hg : GOK g) {σ0 : SG} {c55 : Int → Int → Int → HH → Option (Int × HH)} (k55 : ∀ (x1 : Int) (x2 : Int) (x3 : Int) (h : HH) (b : (Int × HH)), c55 x1 x2 x3 h = some b → WK 106 (.inl (some (aI b.1))) σ0 (abH 2 70 g b.2) 55 [(0, aR 53), (1, aI x1), (2, aI x2), (3, aI x3)] [] (abH 2 70 g h) 0 0) : ∀ {x1 : Int} {x2 : Int} {x3 : Int} {y0 : Int} {y1 : Int} {h : HH} {b : (Int × HH)}, nX10_leastPairing_85 c55 x1 x2 x3 y0 y1 h = some b → WK 106 (.inl (some (aI b.1))) σ0 (abH 2 70 g b.2) 85 [(0, aR 53), (1, aI x1), (2, aI x2), (3, aI x3)] [aI y0, aI y1, aR 58] (abH 2 70 g h) 0 0 := by
  intro x1 x2 x3 y0 y1 h b q
  exact uX10_leastPairing_85 hg k55 q
def bX10_leastPairing_55 (f274 : HH → Int → Option Int) (f107 : HH → Int → Int → Option Int) (c85 : Int → Int → Int → Int → Int → HH → Option (Int × HH)) (x1 : Int) (x2 : Int) (x3 : Int) (h : HH) : Option (Int × HH) :=
  if (x2 : Int) < x3 then
    gd ((0 : Int) ≤ x2 ∧ x2 < (1024 : Int)) <|
    some ((h.1 58 x2), h)
  else
    bnd (f274 h x3) fun r1 =>
    gd ((0 : Int) ≤ r1 ∧ (0 : Int) < 2) <|
    if (r1 % 2) = (0 : Int) then
    bnd (f107 h x3 x1) fun r2 =>
    c85 x1 x2 x3 r2 x3 h
  else
    c85 x1 x2 x3 10000000 x3 h
theorem uX10_leastPairing_55 {g : SG} (hg : GOK g) {σ0 : SG} {c85 : Int → Int → Int → Int → Int → HH → Option (Int × HH)} (k85 : ∀ (x1 : Int) (x2 : Int) (x3 : Int) (y0 : Int) (y1 : Int) (h : HH) (b : (Int × HH)), c85 x1 x2 x3 y0 y1 h = some b → WK 106 (.inl (some (aI b.1))) σ0 (abH 2 70 g b.2) 85 [(0, aR 53), (1, aI x1), (2, aI x2), (3, aI x3)] [aI y0, aI y1, aR 58] (abH 2 70 g h) 0 0) : ∀ {x1 : Int} {x2 : Int} {x3 : Int} {h : HH} {b : (Int × HH)}, bX10_leastPairing_55 nJ6_bitCount_0f7a4 nX10_leastOfSet c85 x1 x2 x3 h = some b → WK 106 (.inl (some (aI b.1))) σ0 (abH 2 70 g b.2) 55 [(0, aR 53), (1, aI x1), (2, aI x2), (3, aI x3)] [] (abH 2 70 g h) 0 0 := by
  intro x1 x2 x3 h b q
  have e : ∀ (f274 : HH → Int → Option Int) (f107 : HH → Int → Int → Option Int) , bX10_leastPairing_55 f274 f107 c85 x1 x2 x3 h = segW 2 70 g.2.2.2.2 krWI (clC 274 (liPW (pJ6_bitCount_0f7a4 f274)) (clC 107 (liPW (pX10_leastOfSet f107)) clN)) csX10_leastPairing (cuC 85 (fun l st s => tkC 0 53 l <| tkI 1 l fun x1 => tkI 2 l fun x2 => tkI 3 l fun x3 => skI st fun y0 st => skI st fun y1 st => skC 58 st fun st => skE st (c85 x1 x2 x3 y0 y1 s)) cuN) 1000 55 [(0, aR 53), (1, aI x1), (2, aI x2), (3, aI x3)] [] h := fun _ _ => rfl
  rw [e nJ6_bitCount_0f7a4 nX10_leastOfSet] at q
  clear e
  refine segW_wk (by decide) (by decide) hg rwX10_leastPairing (CLKW_C (liPW_ok (pJ6_bitCount_0f7a4_ok hg)) (CLKW_C (liPW_ok (pX10_leastOfSet_ok hg)) CLKW_N)) krWI_ok ?_ q
  clear q
  refine ct_C ?_ (ct_N)
  · intro l st h q
    obtain ⟨m0, q1⟩ := tkC_of q
    obtain ⟨x1, m1, q2⟩ := tkI_of q1
    obtain ⟨x2, m2, q3⟩ := tkI_of q2
    obtain ⟨x3, m3, q4⟩ := tkI_of q3
    obtain ⟨y0, t0, rfl, q5⟩ := skI_of q4
    obtain ⟨y1, t1, rfl, q6⟩ := skI_of q5
    obtain ⟨t2, rfl, q7⟩ := skC_of q6
    obtain ⟨rfl, q8⟩ := skE_of q7
    exact WK_less (k85 _ _ _ _ _ _ _ q8) (List.forall_mem_cons.mpr ⟨m0, (List.forall_mem_cons.mpr ⟨m1, (List.forall_mem_cons.mpr ⟨m2, (List.forall_mem_cons.mpr ⟨m3, (fun _ h => absurd h List.not_mem_nil)⟩)⟩)⟩)⟩)
def nX10_leastPairing_55 : Nat → Int → Int → Int → HH → Option (Int × HH) := iter (fun _ _ _ _ => none) (fun self => bX10_leastPairing_55 nJ6_bitCount_0f7a4 nX10_leastOfSet (nX10_leastPairing_85 self))
theorem nX10_leastPairing_55_s {F : Nat} : nX10_leastPairing_55 (F + 1) = bX10_leastPairing_55 nJ6_bitCount_0f7a4 nX10_leastOfSet (nX10_leastPairing_85 (nX10_leastPairing_55 F)) := rfl
theorem wX10_leastPairing_55 {g : SG} (hg : GOK g) {σ0 : SG} : ∀ {F : Nat}, ∀ {x1 : Int} {x2 : Int} {x3 : Int} {h : HH} {b : (Int × HH)}, nX10_leastPairing_55 F x1 x2 x3 h = some b → WK 106 (.inl (some (aI b.1))) σ0 (abH 2 70 g b.2) 55 [(0, aR 53), (1, aI x1), (2, aI x2), (3, aI x3)] [] (abH 2 70 g h) 0 0 := by
  intro F
  have z : ∀ (x1 : Int) (x2 : Int) (x3 : Int) (h : HH) (b : (Int × HH)), nX10_leastPairing_55 F x1 x2 x3 h = some b → WK 106 (.inl (some (aI b.1))) σ0 (abH 2 70 g b.2) 55 [(0, aR 53), (1, aI x1), (2, aI x2), (3, aI x3)] [] (abH 2 70 g h) 0 0 := iter_ind (P := fun (c : Int → Int → Int → HH → Option (Int × HH)) => ∀ (x1 : Int) (x2 : Int) (x3 : Int) (h : HH) (b : (Int × HH)), c x1 x2 x3 h = some b → WK 106 (.inl (some (aI b.1))) σ0 (abH 2 70 g b.2) 55 [(0, aR 53), (1, aI x1), (2, aI x2), (3, aI x3)] [] (abH 2 70 g h) 0 0) (by
    intro x1 x2 x3 h b q
    cases q) (fun self ih => by
    intro x1 x2 x3 h b q
    exact uX10_leastPairing_55 hg (fun _ _ _ _ _ _ _ q => wX10_leastPairing_85 hg ih q) q) F
  intro x1 x2 x3 h b q
  exact z _ _ _ _ _ q
def bX10_leastPairing_34 (c4 : Int → Int → HH → Option (Int × HH)) (x1 : Int) (x2 : Int) (h : HH) : Option (Int × HH) :=
  gd (R32 (x2 + 1)) <|
    c4 x1 (x2 + 1) h
theorem uX10_leastPairing_34 {g : SG} (hg : GOK g) {σ0 : SG} {c4 : Int → Int → HH → Option (Int × HH)} (k4 : ∀ (x1 : Int) (x2 : Int) (h : HH) (b : (Int × HH)), c4 x1 x2 h = some b → WK 106 (.inl (some (aI b.1))) σ0 (abH 2 70 g b.2) 4 [(0, aR 53), (1, aI x1), (2, aI x2)] [] (abH 2 70 g h) 0 0) : ∀ {x1 : Int} {x2 : Int} {h : HH} {b : (Int × HH)}, bX10_leastPairing_34 c4 x1 x2 h = some b → WK 106 (.inl (some (aI b.1))) σ0 (abH 2 70 g b.2) 34 [(0, aR 53), (1, aI x1), (2, aI x2)] [] (abH 2 70 g h) 0 0 := by
  intro x1 x2 h b q
  have e : bX10_leastPairing_34 c4 x1 x2 h = segW 2 70 g.2.2.2.2 krWI clN csX10_leastPairing (cuC 4 (fun l st s => tkC 0 53 l <| tkI 1 l fun x1 => tkI 2 l fun x2 => skE st (c4 x1 x2 s)) cuN) 1000 34 [(0, aR 53), (1, aI x1), (2, aI x2)] [] h := rfl
  rw [e] at q
  clear e
  refine segW_wk (by decide) (by decide) hg rwX10_leastPairing CLKW_N krWI_ok ?_ q
  clear q
  refine ct_C ?_ (ct_N)
  · intro l st h q
    obtain ⟨m0, q1⟩ := tkC_of q
    obtain ⟨x1, m1, q2⟩ := tkI_of q1
    obtain ⟨x2, m2, q3⟩ := tkI_of q2
    obtain ⟨rfl, q4⟩ := skE_of q3
    exact WK_less (k4 _ _ _ _ q4) (List.forall_mem_cons.mpr ⟨m0, (List.forall_mem_cons.mpr ⟨m1, (List.forall_mem_cons.mpr ⟨m2, (fun _ h => absurd h List.not_mem_nil)⟩)⟩)⟩)
def nX10_leastPairing_34 (c4 : Int → Int → HH → Option (Int × HH)) (x1 : Int) (x2 : Int) (h : HH) : Option (Int × HH) := bX10_leastPairing_34 c4 x1 x2 h
theorem wX10_leastPairing_34 {g : SG} (hg : GOK g) {σ0 : SG} {c4 : Int → Int → HH → Option (Int × HH)} (k4 : ∀ (x1 : Int) (x2 : Int) (h : HH) (b : (Int × HH)), c4 x1 x2 h = some b → WK 106 (.inl (some (aI b.1))) σ0 (abH 2 70 g b.2) 4 [(0, aR 53), (1, aI x1), (2, aI x2)] [] (abH 2 70 g h) 0 0) : ∀ {x1 : Int} {x2 : Int} {h : HH} {b : (Int × HH)}, nX10_leastPairing_34 c4 x1 x2 h = some b → WK 106 (.inl (some (aI b.1))) σ0 (abH 2 70 g b.2) 34 [(0, aR 53), (1, aI x1), (2, aI x2)] [] (abH 2 70 g h) 0 0 := by
  intro x1 x2 h b q
  exact uX10_leastPairing_34 hg k4 q
def bX10_leastPairing_4 (c34 : Int → Int → HH → Option (Int × HH)) (c55 : Int → Int → Int → HH → Option (Int × HH)) (x1 : Int) (x2 : Int) (h : HH) : Option (Int × HH) :=
  if x2 < ((h.1 53 2) : Int) then
    gd ((0 : Int) ≤ x2 ∧ x2 < (10 : Int)) <|
    gd ((0 : Int) ≤ (h.1 56 x2) ∧ (0 : Int) < 2) <|
    if ((h.1 56 x2) % 2) = (1 : Int) then
    gd ((0 : Int) ≤ x1 ∧ x1 < (10 : Int)) <|
    bnd (some (hI h 57 x1 x2)) fun h2 =>
    gd (R32 (x1 + 1)) <|
    c34 (x1 + 1) x2 h2
  else
    c34 x1 x2 h
  else
    gd ((0 : Int) ≤ 0 ∧ 0 < (1024 : Int)) <|
    bnd (some (hI h 58 0 0)) fun h1 =>
    gd (R32 ((shlI 1 x1) - 1)) <|
    c55 x1 ((shlI 1 x1) - 1) 1 h1
theorem uX10_leastPairing_4 {g : SG} (hg : GOK g) {σ0 : SG} {c34 : Int → Int → HH → Option (Int × HH)} {c55 : Int → Int → Int → HH → Option (Int × HH)} (k34 : ∀ (x1 : Int) (x2 : Int) (h : HH) (b : (Int × HH)), c34 x1 x2 h = some b → WK 106 (.inl (some (aI b.1))) σ0 (abH 2 70 g b.2) 34 [(0, aR 53), (1, aI x1), (2, aI x2)] [] (abH 2 70 g h) 0 0) (k55 : ∀ (x1 : Int) (x2 : Int) (x3 : Int) (h : HH) (b : (Int × HH)), c55 x1 x2 x3 h = some b → WK 106 (.inl (some (aI b.1))) σ0 (abH 2 70 g b.2) 55 [(0, aR 53), (1, aI x1), (2, aI x2), (3, aI x3)] [] (abH 2 70 g h) 0 0) : ∀ {x1 : Int} {x2 : Int} {h : HH} {b : (Int × HH)}, bX10_leastPairing_4 c34 c55 x1 x2 h = some b → WK 106 (.inl (some (aI b.1))) σ0 (abH 2 70 g b.2) 4 [(0, aR 53), (1, aI x1), (2, aI x2)] [] (abH 2 70 g h) 0 0 := by
  intro x1 x2 h b q
  have e : bX10_leastPairing_4 c34 c55 x1 x2 h = segW 2 70 g.2.2.2.2 krWI clN csX10_leastPairing (cuC 34 (fun l st s => tkC 0 53 l <| tkI 1 l fun x1 => tkI 2 l fun x2 => skE st (c34 x1 x2 s)) (cuC 55 (fun l st s => tkC 0 53 l <| tkI 1 l fun x1 => tkI 2 l fun x2 => tkI 3 l fun x3 => skE st (c55 x1 x2 x3 s)) cuN)) 1000 4 [(0, aR 53), (1, aI x1), (2, aI x2)] [] h := rfl
  rw [e] at q
  clear e
  refine segW_wk (by decide) (by decide) hg rwX10_leastPairing CLKW_N krWI_ok ?_ q
  clear q
  refine ct_C ?_ (ct_C ?_ (ct_N))
  · intro l st h q
    obtain ⟨m0, q1⟩ := tkC_of q
    obtain ⟨x1, m1, q2⟩ := tkI_of q1
    obtain ⟨x2, m2, q3⟩ := tkI_of q2
    obtain ⟨rfl, q4⟩ := skE_of q3
    exact WK_less (k34 _ _ _ _ q4) (List.forall_mem_cons.mpr ⟨m0, (List.forall_mem_cons.mpr ⟨m1, (List.forall_mem_cons.mpr ⟨m2, (fun _ h => absurd h List.not_mem_nil)⟩)⟩)⟩)
  · intro l st h q
    obtain ⟨m0, q1⟩ := tkC_of q
    obtain ⟨x1, m1, q2⟩ := tkI_of q1
    obtain ⟨x2, m2, q3⟩ := tkI_of q2
    obtain ⟨x3, m3, q4⟩ := tkI_of q3
    obtain ⟨rfl, q5⟩ := skE_of q4
    exact WK_less (k55 _ _ _ _ _ q5) (List.forall_mem_cons.mpr ⟨m0, (List.forall_mem_cons.mpr ⟨m1, (List.forall_mem_cons.mpr ⟨m2, (List.forall_mem_cons.mpr ⟨m3, (fun _ h => absurd h List.not_mem_nil)⟩)⟩)⟩)⟩)
def nX10_leastPairing_4 : Nat → Int → Int → HH → Option (Int × HH) := iter (fun _ _ _ => none) (fun self => bX10_leastPairing_4 (nX10_leastPairing_34 self) (nX10_leastPairing_55 100000))
theorem nX10_leastPairing_4_s {F : Nat} : nX10_leastPairing_4 (F + 1) = bX10_leastPairing_4 (nX10_leastPairing_34 (nX10_leastPairing_4 F)) (nX10_leastPairing_55 100000) := rfl
theorem wX10_leastPairing_4 {g : SG} (hg : GOK g) {σ0 : SG} : ∀ {F : Nat}, ∀ {x1 : Int} {x2 : Int} {h : HH} {b : (Int × HH)}, nX10_leastPairing_4 F x1 x2 h = some b → WK 106 (.inl (some (aI b.1))) σ0 (abH 2 70 g b.2) 4 [(0, aR 53), (1, aI x1), (2, aI x2)] [] (abH 2 70 g h) 0 0 := by
  intro F
  have z : ∀ (x1 : Int) (x2 : Int) (h : HH) (b : (Int × HH)), nX10_leastPairing_4 F x1 x2 h = some b → WK 106 (.inl (some (aI b.1))) σ0 (abH 2 70 g b.2) 4 [(0, aR 53), (1, aI x1), (2, aI x2)] [] (abH 2 70 g h) 0 0 := iter_ind (P := fun (c : Int → Int → HH → Option (Int × HH)) => ∀ (x1 : Int) (x2 : Int) (h : HH) (b : (Int × HH)), c x1 x2 h = some b → WK 106 (.inl (some (aI b.1))) σ0 (abH 2 70 g b.2) 4 [(0, aR 53), (1, aI x1), (2, aI x2)] [] (abH 2 70 g h) 0 0) (by
    intro x1 x2 h b q
    cases q) (fun self ih => by
    intro x1 x2 h b q
    exact uX10_leastPairing_4 hg (fun _ _ _ _ q => wX10_leastPairing_34 hg ih q) (fun _ _ _ _ _ q => wX10_leastPairing_55 hg q) q) F
  intro x1 x2 h b q
  exact z _ _ _ _ q
def bX10_leastPairing (c4 : Int → Int → HH → Option (Int × HH)) (h : HH) : Option (Int × HH) :=
  c4 0 0 h
theorem uX10_leastPairing {g : SG} (hg : GOK g) {σ0 : SG} {c4 : Int → Int → HH → Option (Int × HH)} (k4 : ∀ (x1 : Int) (x2 : Int) (h : HH) (b : (Int × HH)), c4 x1 x2 h = some b → WK 106 (.inl (some (aI b.1))) σ0 (abH 2 70 g b.2) 4 [(0, aR 53), (1, aI x1), (2, aI x2)] [] (abH 2 70 g h) 0 0) : ∀ {h : HH} {b : (Int × HH)}, bX10_leastPairing c4 h = some b → WK 106 (.inl (some (aI b.1))) σ0 (abH 2 70 g b.2) 0 [(0, aR 53)] [] (abH 2 70 g h) 0 0 := by
  intro h b q
  have e : bX10_leastPairing c4 h = segW 2 70 g.2.2.2.2 krWI clN csX10_leastPairing (cuC 4 (fun l st s => tkC 0 53 l <| tkI 1 l fun x1 => tkI 2 l fun x2 => skE st (c4 x1 x2 s)) cuN) 1000 0 [(0, aR 53)] [] h := rfl
  rw [e] at q
  clear e
  refine segW_wk (by decide) (by decide) hg rwX10_leastPairing CLKW_N krWI_ok ?_ q
  clear q
  refine ct_C ?_ (ct_N)
  · intro l st h q
    obtain ⟨m0, q1⟩ := tkC_of q
    obtain ⟨x1, m1, q2⟩ := tkI_of q1
    obtain ⟨x2, m2, q3⟩ := tkI_of q2
    obtain ⟨rfl, q4⟩ := skE_of q3
    exact WK_less (k4 _ _ _ _ q4) (List.forall_mem_cons.mpr ⟨m0, (List.forall_mem_cons.mpr ⟨m1, (List.forall_mem_cons.mpr ⟨m2, (fun _ h => absurd h List.not_mem_nil)⟩)⟩)⟩)
def nX10_leastPairing (h : HH) : Option (Int × HH) := bX10_leastPairing (nX10_leastPairing_4 100000) h
theorem wX10_leastPairing {g : SG} (hg : GOK g) {σ0 : SG} : ∀ {h : HH} {b : (Int × HH)}, nX10_leastPairing h = some b → WK 106 (.inl (some (aI b.1))) σ0 (abH 2 70 g b.2) 0 [(0, aR 53)] [] (abH 2 70 g h) 0 0 := by
  intro h b q
  exact uX10_leastPairing hg (fun _ _ _ _ q => wX10_leastPairing_4 hg q) q
theorem mX10_leastPairing {g : SG} (hg : GOK g) {h : HH} {b : (Int × HH)} (q : nX10_leastPairing h = some b) : MCT 106 [] [aR 53] (abH 2 70 g h) (.inl (some (aI b.1))) (abH 2 70 g b.2) :=
  mct_of (by decide) (MFok 106 (by decide +kernel)) (fun _ => Nat.le_of_ble_eq_true rfl) (wX10_leastPairing hg q)
def pX10_leastPairing {β : Type} (z : HH → Option (Int × HH)) : PW β := fun as h f => skC 53 as fun as => skE as (bnd (z h) fun r => f (.inl (some (aI r.1))) r.2)
theorem pX10_leastPairing_ok {β : Type} {g : SG} (hg : GOK g) : CW1 (β := β) 106 (pX10_leastPairing nX10_leastPairing) 2 70 g := fun as h f b q => by
  obtain ⟨as, rfl, q1⟩ := skC_of q
  obtain ⟨rfl, q0⟩ := skE_of q1
  obtain ⟨r, z1, z2⟩ := bnd_of q0
  exact ⟨_, _, z2, by decide, mX10_leastPairing hg z1, rfl, rfl, fun z => absurd z (by decide)⟩
def csX10_isSameBothWays : List (Nat × List (Nat × ARow)) := [(38, [(0, 1, .iconst 0, 0, 0, 0), (1, 1, .istore_n 1, 0, 0, 0), (2, 1, .iload_n 1, 0, 0, 0), (3, 1, .aload_n 0, 0, 0, 0), (4, 3, .getfield 35, 10, 2, 0), (7, 3, .if_icmp .ge 77, 84, 0, 0), (10, 1, .iload_n 1, 0, 0, 0), (11, 1, .iconst 1, 0, 0, 0), (12, 1, .iadd, 0, 0, 0), (13, 1, .istore_n 2, 0, 0, 0), (14, 1, .iload_n 2, 0, 0, 0), (15, 1, .aload_n 0, 0, 0, 0), (16, 3, .getfield 35, 10, 2, 0), (19, 3, .if_icmp .ge 59, 78, 0, 0), (22, 1, .aload_n 0, 0, 0, 0), (23, 3, .getfield 27, 10, 0, 2), (26, 1, .aload_n 0, 0, 0, 0), (27, 3, .getfield 11, 10, 1, 2), (30, 1, .iload_n 1, 0, 0, 0), (31, 1, .iaload, 0, 0, 0), (32, 1, .aload_n 0, 0, 0, 0), (33, 3, .getfield 11, 10, 1, 2), (36, 1, .iload_n 2, 0, 0, 0), (37, 1, .iaload, 0, 0, 0)]),
  (84, [(38, 3, .invokevirtual 48, 87, 3, 9), (41, 1, .istore_n 3, 0, 0, 0), (42, 1, .iload_n 3, 0, 0, 0), (43, 1, .iconst (-1), 0, 0, 0), (44, 3, .if_icmp .eq 26, 70, 0, 0), (47, 1, .iload_n 3, 0, 0, 0), (48, 1, .aload_n 0, 0, 0, 0), (49, 3, .getfield 27, 10, 0, 2), (52, 1, .aload_n 0, 0, 0, 0), (53, 3, .getfield 11, 10, 1, 2), (56, 1, .iload_n 2, 0, 0, 0), (57, 1, .iaload, 0, 0, 0), (58, 1, .aload_n 0, 0, 0, 0), (59, 3, .getfield 11, 10, 1, 2), (62, 1, .iload_n 1, 0, 0, 0), (63, 1, .iaload, 0, 0, 0), (64, 3, .invokevirtual 48, 87, 3, 9), (67, 3, .if_icmp .eq 5, 72, 0, 0), (70, 1, .iconst 0, 0, 0, 0), (71, 1, .ireturn, 1, 0, 0), (72, 3, .iinc 2 1, 0, 0, 0), (75, 3, .goto (-61), 14, 0, 0), (78, 3, .iinc 1 1, 0, 0, 0), (81, 3, .goto (-79), 2, 0, 0)]),
  (100000, [(84, 1, .iconst 1, 0, 0, 0), (85, 1, .ireturn, 1, 0, 0)])]
theorem rwX10_isSameBothWays : rowsB (mB 108) (mO 108) (mX 108) (mIni 108) (mFr 108) (mLo 108) (mT 108) csX10_isSameBothWays = true := by decide +kernel
def bX10_isSameBothWays_14 (f87 : HH → Int → Int → Option Int) (h : HH) (c2 : Int → Option Int) (c14 : Int → Int → Option Int) (x1 : Int) (x2 : Int) : Option Int :=
  if x2 < ((h.1 53 2) : Int) then
    gd ((0 : Int) ≤ x1 ∧ x1 < (10 : Int)) <|
    gd ((0 : Int) ≤ x2 ∧ x2 < (10 : Int)) <|
    bnd (f87 h (h.1 54 x1) (h.1 54 x2)) fun r1 =>
    if r1 = ((-1) : Int) then
    gd ((0 : Int) ≤ 0 ∧ 0 ≤ (1 : Int)) <|
    some 0
  else
    gd ((0 : Int) ≤ x2 ∧ x2 < (10 : Int)) <|
    gd ((0 : Int) ≤ x1 ∧ x1 < (10 : Int)) <|
    bnd (f87 h (h.1 54 x2) (h.1 54 x1)) fun r2 =>
    if r1 = (r2 : Int) then
    gd (R32 (x2 + 1)) <|
    c14 x1 (x2 + 1)
  else
    gd ((0 : Int) ≤ 0 ∧ 0 ≤ (1 : Int)) <|
    some 0
  else
    gd (R32 (x1 + 1)) <|
    c2 (x1 + 1)
theorem uX10_isSameBothWays_14 {g : SG} (hg : GOK g) {σ0 : SG} {h : HH} {c2 : Int → Option Int} {c14 : Int → Int → Option Int} (k2 : ∀ (x1 : Int) (b : Int), c2 x1 = some b → WK 108 (.inl (some (aI b))) σ0 (abH 2 70 g h) 2 [(0, aR 53), (1, aI x1)] [] (abH 2 70 g h) 0 0) (k14 : ∀ (x1 : Int) (x2 : Int) (b : Int), c14 x1 x2 = some b → WK 108 (.inl (some (aI b))) σ0 (abH 2 70 g h) 14 [(0, aR 53), (1, aI x1), (2, aI x2)] [] (abH 2 70 g h) 0 0) : ∀ {x1 : Int} {x2 : Int} {b : Int}, bX10_isSameBothWays_14 nX9_minutesOf h c2 c14 x1 x2 = some b → WK 108 (.inl (some (aI b))) σ0 (abH 2 70 g h) 14 [(0, aR 53), (1, aI x1), (2, aI x2)] [] (abH 2 70 g h) 0 0 := by
  intro x1 x2 b q
  have e : ∀ (f87 : HH → Int → Int → Option Int) , bX10_isSameBothWays_14 f87 h c2 c14 x1 x2 = segP 2 70 g.2.2.2.2 h krPI (clCP 87 (pX9_minutesOf f87 h) clNP) csX10_isSameBothWays (cuC 2 (fun l st s => tkC 0 53 l <| tkI 1 l fun x1 => skE st (c2 x1)) (cuC 14 (fun l st s => tkC 0 53 l <| tkI 1 l fun x1 => tkI 2 l fun x2 => skE st (c14 x1 x2)) cuN)) 1000 14 [(0, aR 53), (1, aI x1), (2, aI x2)] [] := fun _ => rfl
  rw [e nX9_minutesOf] at q
  clear e
  refine segP_wk (by decide) (by decide) hg rwX10_isSameBothWays (CLKP_C (pX9_minutesOf_ok hg) CLKP_N) krPI_ok ?_ q
  clear q
  refine ct_C ?_ (ct_C ?_ (ct_N))
  · intro l st _ q
    obtain ⟨m0, q1⟩ := tkC_of q
    obtain ⟨x1, m1, q2⟩ := tkI_of q1
    obtain ⟨rfl, q3⟩ := skE_of q2
    exact WK_less (k2 _ _ q3) (List.forall_mem_cons.mpr ⟨m0, (List.forall_mem_cons.mpr ⟨m1, (fun _ h => absurd h List.not_mem_nil)⟩)⟩)
  · intro l st _ q
    obtain ⟨m0, q1⟩ := tkC_of q
    obtain ⟨x1, m1, q2⟩ := tkI_of q1
    obtain ⟨x2, m2, q3⟩ := tkI_of q2
    obtain ⟨rfl, q4⟩ := skE_of q3
    exact WK_less (k14 _ _ _ q4) (List.forall_mem_cons.mpr ⟨m0, (List.forall_mem_cons.mpr ⟨m1, (List.forall_mem_cons.mpr ⟨m2, (fun _ h => absurd h List.not_mem_nil)⟩)⟩)⟩)
def nX10_isSameBothWays_14 (h : HH) (c2 : Int → Option Int) : Nat → Int → Int → Option Int := iter (fun _ _ => none) (fun self => bX10_isSameBothWays_14 nX9_minutesOf h c2 self)
theorem nX10_isSameBothWays_14_s {h : HH} {c2 : Int → Option Int} {F : Nat} : nX10_isSameBothWays_14 h c2 (F + 1) = bX10_isSameBothWays_14 nX9_minutesOf h c2 (nX10_isSameBothWays_14 h c2 F) := rfl
theorem wX10_isSameBothWays_14 {g : SG} (hg : GOK g) {σ0 : SG} {h : HH} {c2 : Int → Option Int} (k2 : ∀ (x1 : Int) (b : Int), c2 x1 = some b → WK 108 (.inl (some (aI b))) σ0 (abH 2 70 g h) 2 [(0, aR 53), (1, aI x1)] [] (abH 2 70 g h) 0 0) : ∀ {F : Nat}, ∀ {x1 : Int} {x2 : Int} {b : Int}, nX10_isSameBothWays_14 h c2 F x1 x2 = some b → WK 108 (.inl (some (aI b))) σ0 (abH 2 70 g h) 14 [(0, aR 53), (1, aI x1), (2, aI x2)] [] (abH 2 70 g h) 0 0 := by
  intro F
  have z : ∀ (x1 : Int) (x2 : Int) (b : Int), nX10_isSameBothWays_14 h c2 F x1 x2 = some b → WK 108 (.inl (some (aI b))) σ0 (abH 2 70 g h) 14 [(0, aR 53), (1, aI x1), (2, aI x2)] [] (abH 2 70 g h) 0 0 := iter_ind (P := fun (c : Int → Int → Option Int) => ∀ (x1 : Int) (x2 : Int) (b : Int), c x1 x2 = some b → WK 108 (.inl (some (aI b))) σ0 (abH 2 70 g h) 14 [(0, aR 53), (1, aI x1), (2, aI x2)] [] (abH 2 70 g h) 0 0) (by
    intro x1 x2 b q
    cases q) (fun self ih => by
    intro x1 x2 b q
    exact uX10_isSameBothWays_14 hg k2 ih q) F
  intro x1 x2 b q
  exact z _ _ _ q
def bX10_isSameBothWays_2 (h : HH) (c14 : Int → Int → Option Int) (x1 : Int) : Option Int :=
  if x1 < ((h.1 53 2) : Int) then
    gd (R32 (x1 + 1)) <|
    c14 x1 (x1 + 1)
  else
    gd ((0 : Int) ≤ 1 ∧ 1 ≤ (1 : Int)) <|
    some 1
theorem uX10_isSameBothWays_2 {g : SG} (hg : GOK g) {σ0 : SG} {h : HH} {c14 : Int → Int → Option Int} (k14 : ∀ (x1 : Int) (x2 : Int) (b : Int), c14 x1 x2 = some b → WK 108 (.inl (some (aI b))) σ0 (abH 2 70 g h) 14 [(0, aR 53), (1, aI x1), (2, aI x2)] [] (abH 2 70 g h) 0 0) : ∀ {x1 : Int} {b : Int}, bX10_isSameBothWays_2 h c14 x1 = some b → WK 108 (.inl (some (aI b))) σ0 (abH 2 70 g h) 2 [(0, aR 53), (1, aI x1)] [] (abH 2 70 g h) 0 0 := by
  intro x1 b q
  have e : bX10_isSameBothWays_2 h c14 x1 = segP 2 70 g.2.2.2.2 h krPI clNP csX10_isSameBothWays (cuC 14 (fun l st s => tkC 0 53 l <| tkI 1 l fun x1 => tkI 2 l fun x2 => skE st (c14 x1 x2)) cuN) 1000 2 [(0, aR 53), (1, aI x1)] [] := rfl
  rw [e] at q
  clear e
  refine segP_wk (by decide) (by decide) hg rwX10_isSameBothWays CLKP_N krPI_ok ?_ q
  clear q
  refine ct_C ?_ (ct_N)
  · intro l st _ q
    obtain ⟨m0, q1⟩ := tkC_of q
    obtain ⟨x1, m1, q2⟩ := tkI_of q1
    obtain ⟨x2, m2, q3⟩ := tkI_of q2
    obtain ⟨rfl, q4⟩ := skE_of q3
    exact WK_less (k14 _ _ _ q4) (List.forall_mem_cons.mpr ⟨m0, (List.forall_mem_cons.mpr ⟨m1, (List.forall_mem_cons.mpr ⟨m2, (fun _ h => absurd h List.not_mem_nil)⟩)⟩)⟩)
def nX10_isSameBothWays_2 (h : HH) : Nat → Int → Option Int := iter (fun _ => none) (fun self => bX10_isSameBothWays_2 h (nX10_isSameBothWays_14 h self 100000))
theorem nX10_isSameBothWays_2_s {h : HH} {F : Nat} : nX10_isSameBothWays_2 h (F + 1) = bX10_isSameBothWays_2 h (nX10_isSameBothWays_14 h (nX10_isSameBothWays_2 h F) 100000) := rfl
theorem wX10_isSameBothWays_2 {g : SG} (hg : GOK g) {σ0 : SG} {h : HH} : ∀ {F : Nat}, ∀ {x1 : Int} {b : Int}, nX10_isSameBothWays_2 h F x1 = some b → WK 108 (.inl (some (aI b))) σ0 (abH 2 70 g h) 2 [(0, aR 53), (1, aI x1)] [] (abH 2 70 g h) 0 0 := by
  intro F
  have z : ∀ (x1 : Int) (b : Int), nX10_isSameBothWays_2 h F x1 = some b → WK 108 (.inl (some (aI b))) σ0 (abH 2 70 g h) 2 [(0, aR 53), (1, aI x1)] [] (abH 2 70 g h) 0 0 := iter_ind (P := fun (c : Int → Option Int) => ∀ (x1 : Int) (b : Int), c x1 = some b → WK 108 (.inl (some (aI b))) σ0 (abH 2 70 g h) 2 [(0, aR 53), (1, aI x1)] [] (abH 2 70 g h) 0 0) (by
    intro x1 b q
    cases q) (fun self ih => by
    intro x1 b q
    exact uX10_isSameBothWays_2 hg (fun _ _ _ q => wX10_isSameBothWays_14 hg ih q) q) F
  intro x1 b q
  exact z _ _ q
def bX10_isSameBothWays (h : HH) (c2 : Int → Option Int) : Option Int :=
  c2 0
theorem uX10_isSameBothWays {g : SG} (hg : GOK g) {σ0 : SG} {h : HH} {c2 : Int → Option Int} (k2 : ∀ (x1 : Int) (b : Int), c2 x1 = some b → WK 108 (.inl (some (aI b))) σ0 (abH 2 70 g h) 2 [(0, aR 53), (1, aI x1)] [] (abH 2 70 g h) 0 0) : ∀ {b : Int}, bX10_isSameBothWays h c2 = some b → WK 108 (.inl (some (aI b))) σ0 (abH 2 70 g h) 0 [(0, aR 53)] [] (abH 2 70 g h) 0 0 := by
  intro  b q
  have e : bX10_isSameBothWays h c2 = segP 2 70 g.2.2.2.2 h krPI clNP csX10_isSameBothWays (cuC 2 (fun l st s => tkC 0 53 l <| tkI 1 l fun x1 => skE st (c2 x1)) cuN) 1000 0 [(0, aR 53)] [] := rfl
  rw [e] at q
  clear e
  refine segP_wk (by decide) (by decide) hg rwX10_isSameBothWays CLKP_N krPI_ok ?_ q
  clear q
  refine ct_C ?_ (ct_N)
  · intro l st _ q
    obtain ⟨m0, q1⟩ := tkC_of q
    obtain ⟨x1, m1, q2⟩ := tkI_of q1
    obtain ⟨rfl, q3⟩ := skE_of q2
    exact WK_less (k2 _ _ q3) (List.forall_mem_cons.mpr ⟨m0, (List.forall_mem_cons.mpr ⟨m1, (fun _ h => absurd h List.not_mem_nil)⟩)⟩)
def nX10_isSameBothWays (h : HH) : Option Int := bX10_isSameBothWays h (nX10_isSameBothWays_2 h 100000)
theorem wX10_isSameBothWays {g : SG} (hg : GOK g) {σ0 : SG} {h : HH} : ∀ {b : Int}, nX10_isSameBothWays h = some b → WK 108 (.inl (some (aI b))) σ0 (abH 2 70 g h) 0 [(0, aR 53)] [] (abH 2 70 g h) 0 0 := by
  intro  b q
  exact uX10_isSameBothWays hg (fun _ _ q => wX10_isSameBothWays_2 hg q) q
theorem mX10_isSameBothWays {g : SG} (hg : GOK g) {h : HH} {b : Int} (q : nX10_isSameBothWays h = some b) : MCT 108 [] [aR 53] (abH 2 70 g h) (.inl (some (aI b))) (abH 2 70 g h) :=
  mct_of (by decide) (MFok 108 (by decide +kernel)) (fun _ => Nat.le_of_ble_eq_true rfl) (wX10_isSameBothWays hg q)
def pX10_isSameBothWays {β : Type} (z : HH → Option Int) : PP β := fun h as f => skC 53 as fun as => skE as (bnd (z h) fun r => f (.inl (some (aI r))))
theorem pX10_isSameBothWays_ok {β : Type} {g : SG} (hg : GOK g) : CP1 (β := β) 108 (pX10_isSameBothWays nX10_isSameBothWays) 2 70 g := fun h as f b q => by
  obtain ⟨as, rfl, q1⟩ := skC_of q
  obtain ⟨rfl, q0⟩ := skE_of q1
  obtain ⟨r, z1, z2⟩ := bnd_of q0
  exact ⟨_, z2, by decide, mX10_isSameBothWays hg z1, rfl, rfl, fun z => absurd z (by decide)⟩
def csX10_leastTo : List (Nat × List (Nat × ARow)) := [(43, [(0, 2, .ldc 54, 10000000, 0, 0), (2, 1, .istore_n 3, 0, 0, 0), (3, 1, .iconst 0, 0, 0, 0), (4, 2, .istore 4, 0, 0, 0), (6, 2, .iload 4, 0, 0, 0), (8, 1, .aload_n 0, 0, 0, 0), (9, 3, .getfield 35, 10, 2, 0), (12, 3, .if_icmp .ge 31, 43, 0, 0), (15, 1, .iload_n 2, 0, 0, 0), (16, 2, .iload 4, 0, 0, 0), (18, 1, .ishr, 0, 0, 0), (19, 1, .iconst 1, 0, 0, 0), (20, 1, .iand, 0, 0, 0), (21, 1, .iconst 1, 0, 0, 0), (22, 3, .if_icmp .ne 15, 37, 0, 0), (25, 1, .iload_n 3, 0, 0, 0), (26, 1, .aload_n 0, 0, 0, 0), (27, 2, .iload 4, 0, 0, 0), (29, 1, .iload_n 1, 0, 0, 0), (30, 3, .invokevirtual 63, 103, 3, 10), (33, 3, .invokestatic 60, 1001, 2, 0), (36, 1, .istore_n 3, 0, 0, 0), (37, 3, .iinc 4 1, 0, 0, 0), (40, 3, .goto (-34), 6, 0, 0)]),
  (100000, [(43, 1, .iload_n 3, 0, 0, 0), (44, 1, .ireturn, 0, 0, 0)])]
theorem rwX10_leastTo : rowsB (mB 110) (mO 110) (mX 110) (mIni 110) (mFr 110) (mLo 110) (mT 110) csX10_leastTo = true := by decide +kernel
def bX10_leastTo_37 (h : HH) (c6 : Int → Int → Int → Int → Option Int) (x1 : Int) (x2 : Int) (x3 : Int) (x4 : Int) : Option Int :=
  gd (R32 (x4 + 1)) <|
    c6 x1 x2 x3 (x4 + 1)
theorem uX10_leastTo_37 {g : SG} (hg : GOK g) {σ0 : SG} {h : HH} {c6 : Int → Int → Int → Int → Option Int} (k6 : ∀ (x1 : Int) (x2 : Int) (x3 : Int) (x4 : Int) (b : Int), c6 x1 x2 x3 x4 = some b → WK 110 (.inl (some (aI b))) σ0 (abH 2 70 g h) 6 [(0, aR 53), (1, aI x1), (2, aI x2), (3, aI x3), (4, aI x4)] [] (abH 2 70 g h) 0 0) : ∀ {x1 : Int} {x2 : Int} {x3 : Int} {x4 : Int} {b : Int}, bX10_leastTo_37 h c6 x1 x2 x3 x4 = some b → WK 110 (.inl (some (aI b))) σ0 (abH 2 70 g h) 37 [(0, aR 53), (1, aI x1), (2, aI x2), (3, aI x3), (4, aI x4)] [] (abH 2 70 g h) 0 0 := by
  intro x1 x2 x3 x4 b q
  have e : bX10_leastTo_37 h c6 x1 x2 x3 x4 = segP 2 70 g.2.2.2.2 h krPI clNP csX10_leastTo (cuC 6 (fun l st s => tkC 0 53 l <| tkI 1 l fun x1 => tkI 2 l fun x2 => tkI 3 l fun x3 => tkI 4 l fun x4 => skE st (c6 x1 x2 x3 x4)) cuN) 1000 37 [(0, aR 53), (1, aI x1), (2, aI x2), (3, aI x3), (4, aI x4)] [] := rfl
  rw [e] at q
  clear e
  refine segP_wk (by decide) (by decide) hg rwX10_leastTo CLKP_N krPI_ok ?_ q
  clear q
  refine ct_C ?_ (ct_N)
  · intro l st _ q
    obtain ⟨m0, q1⟩ := tkC_of q
    obtain ⟨x1, m1, q2⟩ := tkI_of q1
    obtain ⟨x2, m2, q3⟩ := tkI_of q2
    obtain ⟨x3, m3, q4⟩ := tkI_of q3
    obtain ⟨x4, m4, q5⟩ := tkI_of q4
    obtain ⟨rfl, q6⟩ := skE_of q5
    exact WK_less (k6 _ _ _ _ _ q6) (List.forall_mem_cons.mpr ⟨m0, (List.forall_mem_cons.mpr ⟨m1, (List.forall_mem_cons.mpr ⟨m2, (List.forall_mem_cons.mpr ⟨m3, (List.forall_mem_cons.mpr ⟨m4, (fun _ h => absurd h List.not_mem_nil)⟩)⟩)⟩)⟩)⟩)
def nX10_leastTo_37 (h : HH) (c6 : Int → Int → Int → Int → Option Int) (x1 : Int) (x2 : Int) (x3 : Int) (x4 : Int) : Option Int := bX10_leastTo_37 h c6 x1 x2 x3 x4
theorem wX10_leastTo_37 {g : SG} (hg : GOK g) {σ0 : SG} {h : HH} {c6 : Int → Int → Int → Int → Option Int} (k6 : ∀ (x1 : Int) (x2 : Int) (x3 : Int) (x4 : Int) (b : Int), c6 x1 x2 x3 x4 = some b → WK 110 (.inl (some (aI b))) σ0 (abH 2 70 g h) 6 [(0, aR 53), (1, aI x1), (2, aI x2), (3, aI x3), (4, aI x4)] [] (abH 2 70 g h) 0 0) : ∀ {x1 : Int} {x2 : Int} {x3 : Int} {x4 : Int} {b : Int}, nX10_leastTo_37 h c6 x1 x2 x3 x4 = some b → WK 110 (.inl (some (aI b))) σ0 (abH 2 70 g h) 37 [(0, aR 53), (1, aI x1), (2, aI x2), (3, aI x3), (4, aI x4)] [] (abH 2 70 g h) 0 0 := by
  intro x1 x2 x3 x4 b q
  exact uX10_leastTo_37 hg k6 q
def bX10_leastTo_6 (f103 : HH → Int → Int → Option Int) (h : HH) (c37 : Int → Int → Int → Int → Option Int) (x1 : Int) (x2 : Int) (x3 : Int) (x4 : Int) : Option Int :=
  if x4 < ((h.1 53 2) : Int) then
    if (andI (shrI x2 x4) 1) = (1 : Int) then
    bnd (f103 h x4 x1) fun r1 =>
    c37 x1 x2 (min x3 r1) x4
  else
    c37 x1 x2 x3 x4
  else
    some x3
theorem uX10_leastTo_6 {g : SG} (hg : GOK g) {σ0 : SG} {h : HH} {c37 : Int → Int → Int → Int → Option Int} (k37 : ∀ (x1 : Int) (x2 : Int) (x3 : Int) (x4 : Int) (b : Int), c37 x1 x2 x3 x4 = some b → WK 110 (.inl (some (aI b))) σ0 (abH 2 70 g h) 37 [(0, aR 53), (1, aI x1), (2, aI x2), (3, aI x3), (4, aI x4)] [] (abH 2 70 g h) 0 0) : ∀ {x1 : Int} {x2 : Int} {x3 : Int} {x4 : Int} {b : Int}, bX10_leastTo_6 nX10_weightOf h c37 x1 x2 x3 x4 = some b → WK 110 (.inl (some (aI b))) σ0 (abH 2 70 g h) 6 [(0, aR 53), (1, aI x1), (2, aI x2), (3, aI x3), (4, aI x4)] [] (abH 2 70 g h) 0 0 := by
  intro x1 x2 x3 x4 b q
  have e : ∀ (f103 : HH → Int → Int → Option Int) , bX10_leastTo_6 f103 h c37 x1 x2 x3 x4 = segP 2 70 g.2.2.2.2 h krPI (clCP 103 (pX10_weightOf f103 h) clNP) csX10_leastTo (cuC 37 (fun l st s => tkC 0 53 l <| tkI 1 l fun x1 => tkI 2 l fun x2 => tkI 3 l fun x3 => tkI 4 l fun x4 => skE st (c37 x1 x2 x3 x4)) cuN) 1000 6 [(0, aR 53), (1, aI x1), (2, aI x2), (3, aI x3), (4, aI x4)] [] := fun _ => rfl
  rw [e nX10_weightOf] at q
  clear e
  refine segP_wk (by decide) (by decide) hg rwX10_leastTo (CLKP_C (pX10_weightOf_ok hg) CLKP_N) krPI_ok ?_ q
  clear q
  refine ct_C ?_ (ct_N)
  · intro l st _ q
    obtain ⟨m0, q1⟩ := tkC_of q
    obtain ⟨x1, m1, q2⟩ := tkI_of q1
    obtain ⟨x2, m2, q3⟩ := tkI_of q2
    obtain ⟨x3, m3, q4⟩ := tkI_of q3
    obtain ⟨x4, m4, q5⟩ := tkI_of q4
    obtain ⟨rfl, q6⟩ := skE_of q5
    exact WK_less (k37 _ _ _ _ _ q6) (List.forall_mem_cons.mpr ⟨m0, (List.forall_mem_cons.mpr ⟨m1, (List.forall_mem_cons.mpr ⟨m2, (List.forall_mem_cons.mpr ⟨m3, (List.forall_mem_cons.mpr ⟨m4, (fun _ h => absurd h List.not_mem_nil)⟩)⟩)⟩)⟩)⟩)
def nX10_leastTo_6 (h : HH) : Nat → Int → Int → Int → Int → Option Int := iter (fun _ _ _ _ => none) (fun self => bX10_leastTo_6 nX10_weightOf h (nX10_leastTo_37 h self))
theorem nX10_leastTo_6_s {h : HH} {F : Nat} : nX10_leastTo_6 h (F + 1) = bX10_leastTo_6 nX10_weightOf h (nX10_leastTo_37 h (nX10_leastTo_6 h F)) := rfl
theorem wX10_leastTo_6 {g : SG} (hg : GOK g) {σ0 : SG} {h : HH} : ∀ {F : Nat}, ∀ {x1 : Int} {x2 : Int} {x3 : Int} {x4 : Int} {b : Int}, nX10_leastTo_6 h F x1 x2 x3 x4 = some b → WK 110 (.inl (some (aI b))) σ0 (abH 2 70 g h) 6 [(0, aR 53), (1, aI x1), (2, aI x2), (3, aI x3), (4, aI x4)] [] (abH 2 70 g h) 0 0 := by
  intro F
  have z : ∀ (x1 : Int) (x2 : Int) (x3 : Int) (x4 : Int) (b : Int), nX10_leastTo_6 h F x1 x2 x3 x4 = some b → WK 110 (.inl (some (aI b))) σ0 (abH 2 70 g h) 6 [(0, aR 53), (1, aI x1), (2, aI x2), (3, aI x3), (4, aI x4)] [] (abH 2 70 g h) 0 0 := iter_ind (P := fun (c : Int → Int → Int → Int → Option Int) => ∀ (x1 : Int) (x2 : Int) (x3 : Int) (x4 : Int) (b : Int), c x1 x2 x3 x4 = some b → WK 110 (.inl (some (aI b))) σ0 (abH 2 70 g h) 6 [(0, aR 53), (1, aI x1), (2, aI x2), (3, aI x3), (4, aI x4)] [] (abH 2 70 g h) 0 0) (by
    intro x1 x2 x3 x4 b q
    cases q) (fun self ih => by
    intro x1 x2 x3 x4 b q
    exact uX10_leastTo_6 hg (fun _ _ _ _ _ q => wX10_leastTo_37 hg ih q) q) F
  intro x1 x2 x3 x4 b q
  exact z _ _ _ _ _ q
def bX10_leastTo (h : HH) (c6 : Int → Int → Int → Int → Option Int) (x1 : Int) (x2 : Int) : Option Int :=
  c6 x1 x2 10000000 0
theorem uX10_leastTo {g : SG} (hg : GOK g) {σ0 : SG} {h : HH} {c6 : Int → Int → Int → Int → Option Int} (k6 : ∀ (x1 : Int) (x2 : Int) (x3 : Int) (x4 : Int) (b : Int), c6 x1 x2 x3 x4 = some b → WK 110 (.inl (some (aI b))) σ0 (abH 2 70 g h) 6 [(0, aR 53), (1, aI x1), (2, aI x2), (3, aI x3), (4, aI x4)] [] (abH 2 70 g h) 0 0) : ∀ {x1 : Int} {x2 : Int} {b : Int}, bX10_leastTo h c6 x1 x2 = some b → WK 110 (.inl (some (aI b))) σ0 (abH 2 70 g h) 0 [(0, aR 53), (1, aI x1), (2, aI x2)] [] (abH 2 70 g h) 0 0 := by
  intro x1 x2 b q
  have e : bX10_leastTo h c6 x1 x2 = segP 2 70 g.2.2.2.2 h krPI clNP csX10_leastTo (cuC 6 (fun l st s => tkC 0 53 l <| tkI 1 l fun x1 => tkI 2 l fun x2 => tkI 3 l fun x3 => tkI 4 l fun x4 => skE st (c6 x1 x2 x3 x4)) cuN) 1000 0 [(0, aR 53), (1, aI x1), (2, aI x2)] [] := rfl
  rw [e] at q
  clear e
  refine segP_wk (by decide) (by decide) hg rwX10_leastTo CLKP_N krPI_ok ?_ q
  clear q
  refine ct_C ?_ (ct_N)
  · intro l st _ q
    obtain ⟨m0, q1⟩ := tkC_of q
    obtain ⟨x1, m1, q2⟩ := tkI_of q1
    obtain ⟨x2, m2, q3⟩ := tkI_of q2
    obtain ⟨x3, m3, q4⟩ := tkI_of q3
    obtain ⟨x4, m4, q5⟩ := tkI_of q4
    obtain ⟨rfl, q6⟩ := skE_of q5
    exact WK_less (k6 _ _ _ _ _ q6) (List.forall_mem_cons.mpr ⟨m0, (List.forall_mem_cons.mpr ⟨m1, (List.forall_mem_cons.mpr ⟨m2, (List.forall_mem_cons.mpr ⟨m3, (List.forall_mem_cons.mpr ⟨m4, (fun _ h => absurd h List.not_mem_nil)⟩)⟩)⟩)⟩)⟩)
def nX10_leastTo (h : HH) (x1 : Int) (x2 : Int) : Option Int := bX10_leastTo h (nX10_leastTo_6 h 100000) x1 x2
theorem wX10_leastTo {g : SG} (hg : GOK g) {σ0 : SG} {h : HH} : ∀ {x1 : Int} {x2 : Int} {b : Int}, nX10_leastTo h x1 x2 = some b → WK 110 (.inl (some (aI b))) σ0 (abH 2 70 g h) 0 [(0, aR 53), (1, aI x1), (2, aI x2)] [] (abH 2 70 g h) 0 0 := by
  intro x1 x2 b q
  exact uX10_leastTo hg (fun _ _ _ _ _ q => wX10_leastTo_6 hg q) q
theorem mX10_leastTo {g : SG} (hg : GOK g) {h : HH} {x1 : Int} {x2 : Int} {b : Int} (q : nX10_leastTo h x1 x2 = some b) : MCT 110 [] [aR 53, aI x1, aI x2] (abH 2 70 g h) (.inl (some (aI b))) (abH 2 70 g h) :=
  mct_of (by decide) (MFok 110 (by decide +kernel)) (fun _ => Nat.le_of_ble_eq_true rfl) (wX10_leastTo hg q)
def pX10_leastTo {β : Type} (z : HH → Int → Int → Option Int) : PP β := fun h as f => skC 53 as fun as => skI as fun x1 as => skI as fun x2 as => skE as (bnd (z h x1 x2) fun r => f (.inl (some (aI r))))
theorem pX10_leastTo_ok {β : Type} {g : SG} (hg : GOK g) : CP1 (β := β) 110 (pX10_leastTo nX10_leastTo) 2 70 g := fun h as f b q => by
  obtain ⟨as, rfl, q1⟩ := skC_of q
  obtain ⟨x1, as, rfl, q2⟩ := skI_of q1
  obtain ⟨x2, as, rfl, q3⟩ := skI_of q2
  obtain ⟨rfl, q0⟩ := skE_of q3
  obtain ⟨r, z1, z2⟩ := bnd_of q0
  exact ⟨_, z2, by decide, mX10_leastTo hg z1, rfl, rfl, fun z => absurd z (by decide)⟩
def csX10_sumFromDepot : List (Nat × List (Nat × ARow)) := [(38, [(0, 1, .iconst 1, 0, 0, 0), (1, 1, .istore_n 1, 0, 0, 0), (2, 1, .iconst 0, 0, 0, 0), (3, 1, .istore_n 2, 0, 0, 0), (4, 1, .iconst 1, 0, 0, 0), (5, 1, .istore_n 3, 0, 0, 0), (6, 1, .iload_n 3, 0, 0, 0), (7, 1, .aload_n 0, 0, 0, 0), (8, 3, .getfield 35, 10, 2, 0), (11, 3, .if_icmp .ge 91, 102, 0, 0), (14, 1, .iconst (-1), 0, 0, 0), (15, 2, .istore 4, 0, 0, 0), (17, 2, .ldc 54, 10000000, 0, 0), (19, 2, .istore 5, 0, 0, 0), (21, 1, .iconst 1, 0, 0, 0), (22, 2, .istore 6, 0, 0, 0), (24, 2, .iload 6, 0, 0, 0), (26, 1, .aload_n 0, 0, 0, 0), (27, 3, .getfield 35, 10, 2, 0), (30, 3, .if_icmp .ge 48, 78, 0, 0), (33, 1, .iload_n 1, 0, 0, 0), (34, 2, .iload 6, 0, 0, 0), (36, 1, .ishr, 0, 0, 0), (37, 1, .iconst 1, 0, 0, 0)]),
  (86, [(38, 1, .iand, 0, 0, 0), (39, 1, .iconst 1, 0, 0, 0), (40, 3, .if_icmp .ne 8, 48, 0, 0), (43, 2, .ldc 54, 10000000, 0, 0), (45, 3, .goto 10, 55, 0, 0), (48, 1, .aload_n 0, 0, 0, 0), (49, 2, .iload 6, 0, 0, 0), (51, 1, .iload_n 1, 0, 0, 0), (52, 3, .invokevirtual 79, 110, 3, 10), (55, 2, .istore 7, 0, 0, 0), (57, 2, .iload 7, 0, 0, 0), (59, 2, .iload 5, 0, 0, 0), (61, 3, .if_icmp .ge 11, 72, 0, 0), (64, 2, .iload 7, 0, 0, 0), (66, 2, .istore 5, 0, 0, 0), (68, 2, .iload 6, 0, 0, 0), (70, 2, .istore 4, 0, 0, 0), (72, 3, .iinc 6 1, 0, 0, 0), (75, 3, .goto (-51), 24, 0, 0), (78, 2, .iload 4, 0, 0, 0), (80, 1, .iconst (-1), 0, 0, 0), (81, 3, .if_icmp .eq 15, 96, 0, 0), (84, 1, .iload_n 1, 0, 0, 0), (85, 1, .iconst 1, 0, 0, 0)]),
  (100000, [(86, 2, .iload 4, 0, 0, 0), (88, 1, .ishl, 0, 0, 0), (89, 1, .ior, 0, 0, 0), (90, 1, .istore_n 1, 0, 0, 0), (91, 1, .iload_n 2, 0, 0, 0), (92, 2, .iload 5, 0, 0, 0), (94, 1, .iadd, 0, 0, 0), (95, 1, .istore_n 2, 0, 0, 0), (96, 3, .iinc 3 1, 0, 0, 0), (99, 3, .goto (-93), 6, 0, 0), (102, 1, .iload_n 2, 0, 0, 0), (103, 1, .ireturn, 0, 0, 0)])]
theorem rwX10_sumFromDepot : rowsB (mB 109) (mO 109) (mX 109) (mIni 109) (mFr 109) (mLo 109) (mT 109) csX10_sumFromDepot = true := by decide +kernel
def bX10_sumFromDepot_96 (h : HH) (c6 : Int → Int → Int → Option Int) (x1 : Int) (x2 : Int) (x3 : Int) : Option Int :=
  gd (R32 (x3 + 1)) <|
    c6 x1 x2 (x3 + 1)
theorem uX10_sumFromDepot_96 {g : SG} (hg : GOK g) {σ0 : SG} {h : HH} {c6 : Int → Int → Int → Option Int} (k6 : ∀ (x1 : Int) (x2 : Int) (x3 : Int) (b : Int), c6 x1 x2 x3 = some b → WK 109 (.inl (some (aI b))) σ0 (abH 2 70 g h) 6 [(0, aR 53), (1, aI x1), (2, aI x2), (3, aI x3)] [] (abH 2 70 g h) 0 0) : ∀ {x1 : Int} {x2 : Int} {x3 : Int} {b : Int}, bX10_sumFromDepot_96 h c6 x1 x2 x3 = some b → WK 109 (.inl (some (aI b))) σ0 (abH 2 70 g h) 96 [(0, aR 53), (1, aI x1), (2, aI x2), (3, aI x3)] [] (abH 2 70 g h) 0 0 := by
  intro x1 x2 x3 b q
  have e : bX10_sumFromDepot_96 h c6 x1 x2 x3 = segP 2 70 g.2.2.2.2 h krPI clNP csX10_sumFromDepot (cuC 6 (fun l st s => tkC 0 53 l <| tkI 1 l fun x1 => tkI 2 l fun x2 => tkI 3 l fun x3 => skE st (c6 x1 x2 x3)) cuN) 1000 96 [(0, aR 53), (1, aI x1), (2, aI x2), (3, aI x3)] [] := rfl
  rw [e] at q
  clear e
  refine segP_wk (by decide) (by decide) hg rwX10_sumFromDepot CLKP_N krPI_ok ?_ q
  clear q
  refine ct_C ?_ (ct_N)
  · intro l st _ q
    obtain ⟨m0, q1⟩ := tkC_of q
    obtain ⟨x1, m1, q2⟩ := tkI_of q1
    obtain ⟨x2, m2, q3⟩ := tkI_of q2
    obtain ⟨x3, m3, q4⟩ := tkI_of q3
    obtain ⟨rfl, q5⟩ := skE_of q4
    exact WK_less (k6 _ _ _ _ q5) (List.forall_mem_cons.mpr ⟨m0, (List.forall_mem_cons.mpr ⟨m1, (List.forall_mem_cons.mpr ⟨m2, (List.forall_mem_cons.mpr ⟨m3, (fun _ h => absurd h List.not_mem_nil)⟩)⟩)⟩)⟩)
def nX10_sumFromDepot_96 (h : HH) (c6 : Int → Int → Int → Option Int) (x1 : Int) (x2 : Int) (x3 : Int) : Option Int := bX10_sumFromDepot_96 h c6 x1 x2 x3
theorem wX10_sumFromDepot_96 {g : SG} (hg : GOK g) {σ0 : SG} {h : HH} {c6 : Int → Int → Int → Option Int} (k6 : ∀ (x1 : Int) (x2 : Int) (x3 : Int) (b : Int), c6 x1 x2 x3 = some b → WK 109 (.inl (some (aI b))) σ0 (abH 2 70 g h) 6 [(0, aR 53), (1, aI x1), (2, aI x2), (3, aI x3)] [] (abH 2 70 g h) 0 0) : ∀ {x1 : Int} {x2 : Int} {x3 : Int} {b : Int}, nX10_sumFromDepot_96 h c6 x1 x2 x3 = some b → WK 109 (.inl (some (aI b))) σ0 (abH 2 70 g h) 96 [(0, aR 53), (1, aI x1), (2, aI x2), (3, aI x3)] [] (abH 2 70 g h) 0 0 := by
  intro x1 x2 x3 b q
  exact uX10_sumFromDepot_96 hg k6 q
def bX10_sumFromDepot_72 (h : HH) (c24 : Int → Int → Int → Int → Int → Int → Option Int) (x1 : Int) (x2 : Int) (x3 : Int) (x4 : Int) (x5 : Int) (x6 : Int) : Option Int :=
  gd (R32 (x6 + 1)) <|
    c24 x1 x2 x3 x4 x5 (x6 + 1)
theorem uX10_sumFromDepot_72 {g : SG} (hg : GOK g) {σ0 : SG} {h : HH} {c24 : Int → Int → Int → Int → Int → Int → Option Int} (k24 : ∀ (x1 : Int) (x2 : Int) (x3 : Int) (x4 : Int) (x5 : Int) (x6 : Int) (b : Int), c24 x1 x2 x3 x4 x5 x6 = some b → WK 109 (.inl (some (aI b))) σ0 (abH 2 70 g h) 24 [(0, aR 53), (1, aI x1), (2, aI x2), (3, aI x3), (4, aI x4), (5, aI x5), (6, aI x6)] [] (abH 2 70 g h) 0 0) : ∀ {x1 : Int} {x2 : Int} {x3 : Int} {x4 : Int} {x5 : Int} {x6 : Int} {b : Int}, bX10_sumFromDepot_72 h c24 x1 x2 x3 x4 x5 x6 = some b → WK 109 (.inl (some (aI b))) σ0 (abH 2 70 g h) 72 [(0, aR 53), (1, aI x1), (2, aI x2), (3, aI x3), (4, aI x4), (5, aI x5), (6, aI x6)] [] (abH 2 70 g h) 0 0 := by
  intro x1 x2 x3 x4 x5 x6 b q
  have e : bX10_sumFromDepot_72 h c24 x1 x2 x3 x4 x5 x6 = segP 2 70 g.2.2.2.2 h krPI clNP csX10_sumFromDepot (cuC 24 (fun l st s => tkC 0 53 l <| tkI 1 l fun x1 => tkI 2 l fun x2 => tkI 3 l fun x3 => tkI 4 l fun x4 => tkI 5 l fun x5 => tkI 6 l fun x6 => skE st (c24 x1 x2 x3 x4 x5 x6)) cuN) 1000 72 [(0, aR 53), (1, aI x1), (2, aI x2), (3, aI x3), (4, aI x4), (5, aI x5), (6, aI x6)] [] := rfl
  rw [e] at q
  clear e
  refine segP_wk (by decide) (by decide) hg rwX10_sumFromDepot CLKP_N krPI_ok ?_ q
  clear q
  refine ct_C ?_ (ct_N)
  · intro l st _ q
    obtain ⟨m0, q1⟩ := tkC_of q
    obtain ⟨x1, m1, q2⟩ := tkI_of q1
    obtain ⟨x2, m2, q3⟩ := tkI_of q2
    obtain ⟨x3, m3, q4⟩ := tkI_of q3
    obtain ⟨x4, m4, q5⟩ := tkI_of q4
    obtain ⟨x5, m5, q6⟩ := tkI_of q5
    obtain ⟨x6, m6, q7⟩ := tkI_of q6
    obtain ⟨rfl, q8⟩ := skE_of q7
    exact WK_less (k24 _ _ _ _ _ _ _ q8) (List.forall_mem_cons.mpr ⟨m0, (List.forall_mem_cons.mpr ⟨m1, (List.forall_mem_cons.mpr ⟨m2, (List.forall_mem_cons.mpr ⟨m3, (List.forall_mem_cons.mpr ⟨m4, (List.forall_mem_cons.mpr ⟨m5, (List.forall_mem_cons.mpr ⟨m6, (fun _ h => absurd h List.not_mem_nil)⟩)⟩)⟩)⟩)⟩)⟩)⟩)
def nX10_sumFromDepot_72 (h : HH) (c6 : Int → Int → Int → Option Int) (c24 : Int → Int → Int → Int → Int → Int → Option Int) (x1 : Int) (x2 : Int) (x3 : Int) (x4 : Int) (x5 : Int) (x6 : Int) : Option Int := bX10_sumFromDepot_72 h c24 x1 x2 x3 x4 x5 x6
theorem wX10_sumFromDepot_72 {g : SG} (hg : GOK g) {σ0 : SG} {h : HH} {c6 : Int → Int → Int → Option Int} {c24 : Int → Int → Int → Int → Int → Int → Option Int} (k6 : ∀ (x1 : Int) (x2 : Int) (x3 : Int) (b : Int), c6 x1 x2 x3 = some b → WK 109 (.inl (some (aI b))) σ0 (abH 2 70 g h) 6 [(0, aR 53), (1, aI x1), (2, aI x2), (3, aI x3)] [] (abH 2 70 g h) 0 0) (k24 : ∀ (x1 : Int) (x2 : Int) (x3 : Int) (x4 : Int) (x5 : Int) (x6 : Int) (b : Int), c24 x1 x2 x3 x4 x5 x6 = some b → WK 109 (.inl (some (aI b))) σ0 (abH 2 70 g h) 24 [(0, aR 53), (1, aI x1), (2, aI x2), (3, aI x3), (4, aI x4), (5, aI x5), (6, aI x6)] [] (abH 2 70 g h) 0 0) : ∀ {x1 : Int} {x2 : Int} {x3 : Int} {x4 : Int} {x5 : Int} {x6 : Int} {b : Int}, nX10_sumFromDepot_72 h c6 c24 x1 x2 x3 x4 x5 x6 = some b → WK 109 (.inl (some (aI b))) σ0 (abH 2 70 g h) 72 [(0, aR 53), (1, aI x1), (2, aI x2), (3, aI x3), (4, aI x4), (5, aI x5), (6, aI x6)] [] (abH 2 70 g h) 0 0 := by
  intro x1 x2 x3 x4 x5 x6 b q
  exact uX10_sumFromDepot_72 hg k24 q
def bX10_sumFromDepot_55 (h : HH) (c72 : Int → Int → Int → Int → Int → Int → Option Int) (x1 : Int) (x2 : Int) (x3 : Int) (x4 : Int) (x5 : Int) (x6 : Int) (y0 : Int) : Option Int :=
  if y0 < (x5 : Int) then
    c72 x1 x2 x3 x6 y0 x6
  else
    c72 x1 x2 x3 x4 x5 x6
theorem uX10_sumFromDepot_55 {g : SG} (hg : GOK g) {σ0 : SG} {h : HH} {c72 : Int → Int → Int → Int → Int → Int → Option Int} (k72 : ∀ (x1 : Int) (x2 : Int) (x3 : Int) (x4 : Int) (x5 : Int) (x6 : Int) (b : Int), c72 x1 x2 x3 x4 x5 x6 = some b → WK 109 (.inl (some (aI b))) σ0 (abH 2 70 g h) 72 [(0, aR 53), (1, aI x1), (2, aI x2), (3, aI x3), (4, aI x4), (5, aI x5), (6, aI x6)] [] (abH 2 70 g h) 0 0) : ∀ {x1 : Int} {x2 : Int} {x3 : Int} {x4 : Int} {x5 : Int} {x6 : Int} {y0 : Int} {b : Int}, bX10_sumFromDepot_55 h c72 x1 x2 x3 x4 x5 x6 y0 = some b → WK 109 (.inl (some (aI b))) σ0 (abH 2 70 g h) 55 [(0, aR 53), (1, aI x1), (2, aI x2), (3, aI x3), (4, aI x4), (5, aI x5), (6, aI x6)] [aI y0] (abH 2 70 g h) 0 0 := by
  intro x1 x2 x3 x4 x5 x6 y0 b q
  have e : bX10_sumFromDepot_55 h c72 x1 x2 x3 x4 x5 x6 y0 = segP 2 70 g.2.2.2.2 h krPI clNP csX10_sumFromDepot (cuC 72 (fun l st s => tkC 0 53 l <| tkI 1 l fun x1 => tkI 2 l fun x2 => tkI 3 l fun x3 => tkI 4 l fun x4 => tkI 5 l fun x5 => tkI 6 l fun x6 => skE st (c72 x1 x2 x3 x4 x5 x6)) cuN) 1000 55 [(0, aR 53), (1, aI x1), (2, aI x2), (3, aI x3), (4, aI x4), (5, aI x5), (6, aI x6)] [aI y0] := rfl
  rw [e] at q
  clear e
  refine segP_wk (by decide) (by decide) hg rwX10_sumFromDepot CLKP_N krPI_ok ?_ q
  clear q
  refine ct_C ?_ (ct_N)
  · intro l st _ q
    obtain ⟨m0, q1⟩ := tkC_of q
    obtain ⟨x1, m1, q2⟩ := tkI_of q1
    obtain ⟨x2, m2, q3⟩ := tkI_of q2
    obtain ⟨x3, m3, q4⟩ := tkI_of q3
    obtain ⟨x4, m4, q5⟩ := tkI_of q4
    obtain ⟨x5, m5, q6⟩ := tkI_of q5
    obtain ⟨x6, m6, q7⟩ := tkI_of q6
    obtain ⟨rfl, q8⟩ := skE_of q7
    exact WK_less (k72 _ _ _ _ _ _ _ q8) (List.forall_mem_cons.mpr ⟨m0, (List.forall_mem_cons.mpr ⟨m1, (List.forall_mem_cons.mpr ⟨m2, (List.forall_mem_cons.mpr ⟨m3, (List.forall_mem_cons.mpr ⟨m4, (List.forall_mem_cons.mpr ⟨m5, (List.forall_mem_cons.mpr ⟨m6, (fun _ h => absurd h List.not_mem_nil)⟩)⟩)⟩)⟩)⟩)⟩)⟩)
def nX10_sumFromDepot_55 (h : HH) (c6 : Int → Int → Int → Option Int) (c24 : Int → Int → Int → Int → Int → Int → Option Int) (x1 : Int) (x2 : Int) (x3 : Int) (x4 : Int) (x5 : Int) (x6 : Int) (y0 : Int) : Option Int := bX10_sumFromDepot_55 h (nX10_sumFromDepot_72 h c6 c24) x1 x2 x3 x4 x5 x6 y0
theorem wX10_sumFromDepot_55 {g : SG} (hg : GOK g) {σ0 : SG} {h : HH} {c6 : Int → Int → Int → Option Int} {c24 : Int → Int → Int → Int → Int → Int → Option Int} (k6 : ∀ (x1 : Int) (x2 : Int) (x3 : Int) (b : Int), c6 x1 x2 x3 = some b → WK 109 (.inl (some (aI b))) σ0 (abH 2 70 g h) 6 [(0, aR 53), (1, aI x1), (2, aI x2), (3, aI x3)] [] (abH 2 70 g h) 0 0) (k24 : ∀ (x1 : Int) (x2 : Int) (x3 : Int) (x4 : Int) (x5 : Int) (x6 : Int) (b : Int), c24 x1 x2 x3 x4 x5 x6 = some b → WK 109 (.inl (some (aI b))) σ0 (abH 2 70 g h) 24 [(0, aR 53), (1, aI x1), (2, aI x2), (3, aI x3), (4, aI x4), (5, aI x5), (6, aI x6)] [] (abH 2 70 g h) 0 0) : ∀ {x1 : Int} {x2 : Int} {x3 : Int} {x4 : Int} {x5 : Int} {x6 : Int} {y0 : Int} {b : Int}, nX10_sumFromDepot_55 h c6 c24 x1 x2 x3 x4 x5 x6 y0 = some b → WK 109 (.inl (some (aI b))) σ0 (abH 2 70 g h) 55 [(0, aR 53), (1, aI x1), (2, aI x2), (3, aI x3), (4, aI x4), (5, aI x5), (6, aI x6)] [aI y0] (abH 2 70 g h) 0 0 := by
  intro x1 x2 x3 x4 x5 x6 y0 b q
  exact uX10_sumFromDepot_55 hg (fun _ _ _ _ _ _ _ q => wX10_sumFromDepot_72 hg k6 k24 q) q
def bX10_sumFromDepot_24 (f110 : HH → Int → Int → Option Int) (h : HH) (c55 : Int → Int → Int → Int → Int → Int → Int → Option Int) (c96 : Int → Int → Int → Option Int) (x1 : Int) (x2 : Int) (x3 : Int) (x4 : Int) (x5 : Int) (x6 : Int) : Option Int :=
  if x6 < ((h.1 53 2) : Int) then
    if (andI (shrI x1 x6) 1) = (1 : Int) then
    c55 x1 x2 x3 x4 x5 x6 10000000
  else
    bnd (f110 h x6 x1) fun r1 =>
    c55 x1 x2 x3 x4 x5 x6 r1
  else
    if x4 = ((-1) : Int) then
    c96 x1 x2 x3
  else
    gd (R32 (x2 + x5)) <|
    c96 (orI x1 (shlI 1 x4)) (x2 + x5) x3
theorem uX10_sumFromDepot_24 {g : SG} (hg : GOK g) {σ0 : SG} {h : HH} {c55 : Int → Int → Int → Int → Int → Int → Int → Option Int} {c96 : Int → Int → Int → Option Int} (k55 : ∀ (x1 : Int) (x2 : Int) (x3 : Int) (x4 : Int) (x5 : Int) (x6 : Int) (y0 : Int) (b : Int), c55 x1 x2 x3 x4 x5 x6 y0 = some b → WK 109 (.inl (some (aI b))) σ0 (abH 2 70 g h) 55 [(0, aR 53), (1, aI x1), (2, aI x2), (3, aI x3), (4, aI x4), (5, aI x5), (6, aI x6)] [aI y0] (abH 2 70 g h) 0 0) (k96 : ∀ (x1 : Int) (x2 : Int) (x3 : Int) (b : Int), c96 x1 x2 x3 = some b → WK 109 (.inl (some (aI b))) σ0 (abH 2 70 g h) 96 [(0, aR 53), (1, aI x1), (2, aI x2), (3, aI x3)] [] (abH 2 70 g h) 0 0) : ∀ {x1 : Int} {x2 : Int} {x3 : Int} {x4 : Int} {x5 : Int} {x6 : Int} {b : Int}, bX10_sumFromDepot_24 nX10_leastTo h c55 c96 x1 x2 x3 x4 x5 x6 = some b → WK 109 (.inl (some (aI b))) σ0 (abH 2 70 g h) 24 [(0, aR 53), (1, aI x1), (2, aI x2), (3, aI x3), (4, aI x4), (5, aI x5), (6, aI x6)] [] (abH 2 70 g h) 0 0 := by
  intro x1 x2 x3 x4 x5 x6 b q
  have e : ∀ (f110 : HH → Int → Int → Option Int) , bX10_sumFromDepot_24 f110 h c55 c96 x1 x2 x3 x4 x5 x6 = segP 2 70 g.2.2.2.2 h krPI (clCP 110 (pX10_leastTo f110 h) clNP) csX10_sumFromDepot (cuC 55 (fun l st s => tkC 0 53 l <| tkI 1 l fun x1 => tkI 2 l fun x2 => tkI 3 l fun x3 => tkI 4 l fun x4 => tkI 5 l fun x5 => tkI 6 l fun x6 => skI st fun y0 st => skE st (c55 x1 x2 x3 x4 x5 x6 y0)) (cuC 96 (fun l st s => tkC 0 53 l <| tkI 1 l fun x1 => tkI 2 l fun x2 => tkI 3 l fun x3 => skE st (c96 x1 x2 x3)) cuN)) 1000 24 [(0, aR 53), (1, aI x1), (2, aI x2), (3, aI x3), (4, aI x4), (5, aI x5), (6, aI x6)] [] := fun _ => rfl
  rw [e nX10_leastTo] at q
  clear e
  refine segP_wk (by decide) (by decide) hg rwX10_sumFromDepot (CLKP_C (pX10_leastTo_ok hg) CLKP_N) krPI_ok ?_ q
  clear q
  refine ct_C ?_ (ct_C ?_ (ct_N))
  · intro l st _ q
    obtain ⟨m0, q1⟩ := tkC_of q
    obtain ⟨x1, m1, q2⟩ := tkI_of q1
    obtain ⟨x2, m2, q3⟩ := tkI_of q2
    obtain ⟨x3, m3, q4⟩ := tkI_of q3
    obtain ⟨x4, m4, q5⟩ := tkI_of q4
    obtain ⟨x5, m5, q6⟩ := tkI_of q5
    obtain ⟨x6, m6, q7⟩ := tkI_of q6
    obtain ⟨y0, t0, rfl, q8⟩ := skI_of q7
    obtain ⟨rfl, q9⟩ := skE_of q8
    exact WK_less (k55 _ _ _ _ _ _ _ _ q9) (List.forall_mem_cons.mpr ⟨m0, (List.forall_mem_cons.mpr ⟨m1, (List.forall_mem_cons.mpr ⟨m2, (List.forall_mem_cons.mpr ⟨m3, (List.forall_mem_cons.mpr ⟨m4, (List.forall_mem_cons.mpr ⟨m5, (List.forall_mem_cons.mpr ⟨m6, (fun _ h => absurd h List.not_mem_nil)⟩)⟩)⟩)⟩)⟩)⟩)⟩)
  · intro l st _ q
    obtain ⟨m0, q1⟩ := tkC_of q
    obtain ⟨x1, m1, q2⟩ := tkI_of q1
    obtain ⟨x2, m2, q3⟩ := tkI_of q2
    obtain ⟨x3, m3, q4⟩ := tkI_of q3
    obtain ⟨rfl, q5⟩ := skE_of q4
    exact WK_less (k96 _ _ _ _ q5) (List.forall_mem_cons.mpr ⟨m0, (List.forall_mem_cons.mpr ⟨m1, (List.forall_mem_cons.mpr ⟨m2, (List.forall_mem_cons.mpr ⟨m3, (fun _ h => absurd h List.not_mem_nil)⟩)⟩)⟩)⟩)
def nX10_sumFromDepot_24 (h : HH) (c6 : Int → Int → Int → Option Int) : Nat → Int → Int → Int → Int → Int → Int → Option Int := iter (fun _ _ _ _ _ _ => none) (fun self => bX10_sumFromDepot_24 nX10_leastTo h (nX10_sumFromDepot_55 h c6 self) (nX10_sumFromDepot_96 h c6))
theorem nX10_sumFromDepot_24_s {h : HH} {c6 : Int → Int → Int → Option Int} {F : Nat} : nX10_sumFromDepot_24 h c6 (F + 1) = bX10_sumFromDepot_24 nX10_leastTo h (nX10_sumFromDepot_55 h c6 (nX10_sumFromDepot_24 h c6 F)) (nX10_sumFromDepot_96 h c6) := rfl
theorem wX10_sumFromDepot_24 {g : SG} (hg : GOK g) {σ0 : SG} {h : HH} {c6 : Int → Int → Int → Option Int} (k6 : ∀ (x1 : Int) (x2 : Int) (x3 : Int) (b : Int), c6 x1 x2 x3 = some b → WK 109 (.inl (some (aI b))) σ0 (abH 2 70 g h) 6 [(0, aR 53), (1, aI x1), (2, aI x2), (3, aI x3)] [] (abH 2 70 g h) 0 0) : ∀ {F : Nat}, ∀ {x1 : Int} {x2 : Int} {x3 : Int} {x4 : Int} {x5 : Int} {x6 : Int} {b : Int}, nX10_sumFromDepot_24 h c6 F x1 x2 x3 x4 x5 x6 = some b → WK 109 (.inl (some (aI b))) σ0 (abH 2 70 g h) 24 [(0, aR 53), (1, aI x1), (2, aI x2), (3, aI x3), (4, aI x4), (5, aI x5), (6, aI x6)] [] (abH 2 70 g h) 0 0 := by
  intro F
  have z : ∀ (x1 : Int) (x2 : Int) (x3 : Int) (x4 : Int) (x5 : Int) (x6 : Int) (b : Int), nX10_sumFromDepot_24 h c6 F x1 x2 x3 x4 x5 x6 = some b → WK 109 (.inl (some (aI b))) σ0 (abH 2 70 g h) 24 [(0, aR 53), (1, aI x1), (2, aI x2), (3, aI x3), (4, aI x4), (5, aI x5), (6, aI x6)] [] (abH 2 70 g h) 0 0 := iter_ind (P := fun (c : Int → Int → Int → Int → Int → Int → Option Int) => ∀ (x1 : Int) (x2 : Int) (x3 : Int) (x4 : Int) (x5 : Int) (x6 : Int) (b : Int), c x1 x2 x3 x4 x5 x6 = some b → WK 109 (.inl (some (aI b))) σ0 (abH 2 70 g h) 24 [(0, aR 53), (1, aI x1), (2, aI x2), (3, aI x3), (4, aI x4), (5, aI x5), (6, aI x6)] [] (abH 2 70 g h) 0 0) (by
    intro x1 x2 x3 x4 x5 x6 b q
    cases q) (fun self ih => by
    intro x1 x2 x3 x4 x5 x6 b q
    exact uX10_sumFromDepot_24 hg (fun _ _ _ _ _ _ _ _ q => wX10_sumFromDepot_55 hg k6 ih q) (fun _ _ _ _ q => wX10_sumFromDepot_96 hg k6 q) q) F
  intro x1 x2 x3 x4 x5 x6 b q
  exact z _ _ _ _ _ _ _ q
def bX10_sumFromDepot_6 (h : HH) (c24 : Int → Int → Int → Int → Int → Int → Option Int) (x1 : Int) (x2 : Int) (x3 : Int) : Option Int :=
  if x3 < ((h.1 53 2) : Int) then
    c24 x1 x2 x3 (-1) 10000000 1
  else
    some x2
theorem uX10_sumFromDepot_6 {g : SG} (hg : GOK g) {σ0 : SG} {h : HH} {c24 : Int → Int → Int → Int → Int → Int → Option Int} (k24 : ∀ (x1 : Int) (x2 : Int) (x3 : Int) (x4 : Int) (x5 : Int) (x6 : Int) (b : Int), c24 x1 x2 x3 x4 x5 x6 = some b → WK 109 (.inl (some (aI b))) σ0 (abH 2 70 g h) 24 [(0, aR 53), (1, aI x1), (2, aI x2), (3, aI x3), (4, aI x4), (5, aI x5), (6, aI x6)] [] (abH 2 70 g h) 0 0) : ∀ {x1 : Int} {x2 : Int} {x3 : Int} {b : Int}, bX10_sumFromDepot_6 h c24 x1 x2 x3 = some b → WK 109 (.inl (some (aI b))) σ0 (abH 2 70 g h) 6 [(0, aR 53), (1, aI x1), (2, aI x2), (3, aI x3)] [] (abH 2 70 g h) 0 0 := by
  intro x1 x2 x3 b q
  have e : bX10_sumFromDepot_6 h c24 x1 x2 x3 = segP 2 70 g.2.2.2.2 h krPI clNP csX10_sumFromDepot (cuC 24 (fun l st s => tkC 0 53 l <| tkI 1 l fun x1 => tkI 2 l fun x2 => tkI 3 l fun x3 => tkI 4 l fun x4 => tkI 5 l fun x5 => tkI 6 l fun x6 => skE st (c24 x1 x2 x3 x4 x5 x6)) cuN) 1000 6 [(0, aR 53), (1, aI x1), (2, aI x2), (3, aI x3)] [] := rfl
  rw [e] at q
  clear e
  refine segP_wk (by decide) (by decide) hg rwX10_sumFromDepot CLKP_N krPI_ok ?_ q
  clear q
  refine ct_C ?_ (ct_N)
  · intro l st _ q
    obtain ⟨m0, q1⟩ := tkC_of q
    obtain ⟨x1, m1, q2⟩ := tkI_of q1
    obtain ⟨x2, m2, q3⟩ := tkI_of q2
    obtain ⟨x3, m3, q4⟩ := tkI_of q3
    obtain ⟨x4, m4, q5⟩ := tkI_of q4
    obtain ⟨x5, m5, q6⟩ := tkI_of q5
    obtain ⟨x6, m6, q7⟩ := tkI_of q6
    obtain ⟨rfl, q8⟩ := skE_of q7
    exact WK_less (k24 _ _ _ _ _ _ _ q8) (List.forall_mem_cons.mpr ⟨m0, (List.forall_mem_cons.mpr ⟨m1, (List.forall_mem_cons.mpr ⟨m2, (List.forall_mem_cons.mpr ⟨m3, (List.forall_mem_cons.mpr ⟨m4, (List.forall_mem_cons.mpr ⟨m5, (List.forall_mem_cons.mpr ⟨m6, (fun _ h => absurd h List.not_mem_nil)⟩)⟩)⟩)⟩)⟩)⟩)⟩)
def nX10_sumFromDepot_6 (h : HH) : Nat → Int → Int → Int → Option Int := iter (fun _ _ _ => none) (fun self => bX10_sumFromDepot_6 h (nX10_sumFromDepot_24 h self 100000))
theorem nX10_sumFromDepot_6_s {h : HH} {F : Nat} : nX10_sumFromDepot_6 h (F + 1) = bX10_sumFromDepot_6 h (nX10_sumFromDepot_24 h (nX10_sumFromDepot_6 h F) 100000) := rfl
theorem wX10_sumFromDepot_6 {g : SG} (hg : GOK g) {σ0 : SG} {h : HH} : ∀ {F : Nat}, ∀ {x1 : Int} {x2 : Int} {x3 : Int} {b : Int}, nX10_sumFromDepot_6 h F x1 x2 x3 = some b → WK 109 (.inl (some (aI b))) σ0 (abH 2 70 g h) 6 [(0, aR 53), (1, aI x1), (2, aI x2), (3, aI x3)] [] (abH 2 70 g h) 0 0 := by
  intro F
  have z : ∀ (x1 : Int) (x2 : Int) (x3 : Int) (b : Int), nX10_sumFromDepot_6 h F x1 x2 x3 = some b → WK 109 (.inl (some (aI b))) σ0 (abH 2 70 g h) 6 [(0, aR 53), (1, aI x1), (2, aI x2), (3, aI x3)] [] (abH 2 70 g h) 0 0 := iter_ind (P := fun (c : Int → Int → Int → Option Int) => ∀ (x1 : Int) (x2 : Int) (x3 : Int) (b : Int), c x1 x2 x3 = some b → WK 109 (.inl (some (aI b))) σ0 (abH 2 70 g h) 6 [(0, aR 53), (1, aI x1), (2, aI x2), (3, aI x3)] [] (abH 2 70 g h) 0 0) (by
    intro x1 x2 x3 b q
    cases q) (fun self ih => by
    intro x1 x2 x3 b q
    exact uX10_sumFromDepot_6 hg (fun _ _ _ _ _ _ _ q => wX10_sumFromDepot_24 hg ih q) q) F
  intro x1 x2 x3 b q
  exact z _ _ _ _ q
def bX10_sumFromDepot (h : HH) (c6 : Int → Int → Int → Option Int) : Option Int :=
  c6 1 0 1
theorem uX10_sumFromDepot {g : SG} (hg : GOK g) {σ0 : SG} {h : HH} {c6 : Int → Int → Int → Option Int} (k6 : ∀ (x1 : Int) (x2 : Int) (x3 : Int) (b : Int), c6 x1 x2 x3 = some b → WK 109 (.inl (some (aI b))) σ0 (abH 2 70 g h) 6 [(0, aR 53), (1, aI x1), (2, aI x2), (3, aI x3)] [] (abH 2 70 g h) 0 0) : ∀ {b : Int}, bX10_sumFromDepot h c6 = some b → WK 109 (.inl (some (aI b))) σ0 (abH 2 70 g h) 0 [(0, aR 53)] [] (abH 2 70 g h) 0 0 := by
  intro  b q
  have e : bX10_sumFromDepot h c6 = segP 2 70 g.2.2.2.2 h krPI clNP csX10_sumFromDepot (cuC 6 (fun l st s => tkC 0 53 l <| tkI 1 l fun x1 => tkI 2 l fun x2 => tkI 3 l fun x3 => skE st (c6 x1 x2 x3)) cuN) 1000 0 [(0, aR 53)] [] := rfl
  rw [e] at q
  clear e
  refine segP_wk (by decide) (by decide) hg rwX10_sumFromDepot CLKP_N krPI_ok ?_ q
  clear q
  refine ct_C ?_ (ct_N)
  · intro l st _ q
    obtain ⟨m0, q1⟩ := tkC_of q
    obtain ⟨x1, m1, q2⟩ := tkI_of q1
    obtain ⟨x2, m2, q3⟩ := tkI_of q2
    obtain ⟨x3, m3, q4⟩ := tkI_of q3
    obtain ⟨rfl, q5⟩ := skE_of q4
    exact WK_less (k6 _ _ _ _ q5) (List.forall_mem_cons.mpr ⟨m0, (List.forall_mem_cons.mpr ⟨m1, (List.forall_mem_cons.mpr ⟨m2, (List.forall_mem_cons.mpr ⟨m3, (fun _ h => absurd h List.not_mem_nil)⟩)⟩)⟩)⟩)
def nX10_sumFromDepot (h : HH) : Option Int := bX10_sumFromDepot h (nX10_sumFromDepot_6 h 100000)
theorem wX10_sumFromDepot {g : SG} (hg : GOK g) {σ0 : SG} {h : HH} : ∀ {b : Int}, nX10_sumFromDepot h = some b → WK 109 (.inl (some (aI b))) σ0 (abH 2 70 g h) 0 [(0, aR 53)] [] (abH 2 70 g h) 0 0 := by
  intro  b q
  exact uX10_sumFromDepot hg (fun _ _ _ _ q => wX10_sumFromDepot_6 hg q) q
theorem mX10_sumFromDepot {g : SG} (hg : GOK g) {h : HH} {b : Int} (q : nX10_sumFromDepot h = some b) : MCT 109 [] [aR 53] (abH 2 70 g h) (.inl (some (aI b))) (abH 2 70 g h) :=
  mct_of (by decide) (MFok 109 (by decide +kernel)) (fun _ => Nat.le_of_ble_eq_true rfl) (wX10_sumFromDepot hg q)
def pX10_sumFromDepot {β : Type} (z : HH → Option Int) : PP β := fun h as f => skC 53 as fun as => skE as (bnd (z h) fun r => f (.inl (some (aI r))))
theorem pX10_sumFromDepot_ok {β : Type} {g : SG} (hg : GOK g) : CP1 (β := β) 109 (pX10_sumFromDepot nX10_sumFromDepot) 2 70 g := fun h as f b q => by
  obtain ⟨as, rfl, q1⟩ := skC_of q
  obtain ⟨rfl, q0⟩ := skE_of q1
  obtain ⟨r, z1, z2⟩ := bnd_of q0
  exact ⟨_, z2, by decide, mX10_sumFromDepot hg z1, rfl, rfl, fun z => absurd z (by decide)⟩
def csX11_needIndex : List (Nat × List (Nat × ARow)) := [(100000, [(0, 1, .iload_n 0, 0, 0, 0), (1, 1, .iload_n 1, 0, 0, 0), (2, 3, .if_icmp .lt 8, 10, 0, 0), (5, 1, .iload_n 0, 0, 0, 0), (6, 1, .iload_n 2, 0, 0, 0), (7, 3, .if_icmp .le 11, 18, 0, 0), (10, 3, .new 389, 100, 0, 0), (18, 1, .return_, 0, 0, 0)])]
theorem rwX11_needIndex : rowsB (mB 158) (mO 158) (mX 158) (mIni 158) (mFr 158) (mLo 158) (mT 158) csX11_needIndex = true := by decide +kernel
def bX11_needIndex_10 (s : HU) : Option ((Unit ⊕ Nat) × HU) :=
  gd (s.2 + 1 ≤ 1) (some (.inr 0, s))
theorem uX11_needIndex_10 {g : SG} (hg : GOK g) {σ0 : SG} : ∀ {s : HU} {b : ((Unit ⊕ Nat) × HU)}, bX11_needIndex_10 s = some b → WK 158 (oT (fun _ => none) b.1) σ0 (abU 2 70 g b.2) 10 [] [] (abU 2 70 g s) (cnU s).1 (cnU s).2 := by
  intro s b q
  have e : bX11_needIndex_10 s = segT 2 70 g.2.2.2.2 (krTV 1) (kxT 1) clN csX11_needIndex cuN 1000 10 [] [] s := rfl
  rw [e] at q
  clear e
  refine segT_wk (by decide) (by decide) hg rwX11_needIndex CLK_N (by decide) (krTV_ok (by decide)) (kxT_ok (by decide)) ?_ q
  clear q
  exact ct_N
def nX11_needIndex_10 (s : HU) : Option ((Unit ⊕ Nat) × HU) := bX11_needIndex_10 s
theorem wX11_needIndex_10 {g : SG} (hg : GOK g) {σ0 : SG} : ∀ {s : HU} {b : ((Unit ⊕ Nat) × HU)}, nX11_needIndex_10 s = some b → WK 158 (oT (fun _ => none) b.1) σ0 (abU 2 70 g b.2) 10 [] [] (abU 2 70 g s) (cnU s).1 (cnU s).2 := by
  intro s b q
  exact uX11_needIndex_10 hg q
def bX11_needIndex (c10 : HU → Option ((Unit ⊕ Nat) × HU)) (x0 : Int) (x1 : Int) (x2 : Int) (h : HH) : Option ((Unit ⊕ Nat) × HU) :=
  if x0 < (x1 : Int) then
    c10 (h, 0)
  else
    if (x2 : Int) < x0 then
    c10 (h, 0)
  else
    gd (0 ≤ 1) (some (.inl (), (h, 0)))
theorem uX11_needIndex {g : SG} (hg : GOK g) {σ0 : SG} {c10 : HU → Option ((Unit ⊕ Nat) × HU)} (k10 : ∀ (s : HU) (b : ((Unit ⊕ Nat) × HU)), c10 s = some b → WK 158 (oT (fun _ => none) b.1) σ0 (abU 2 70 g b.2) 10 [] [] (abU 2 70 g s) (cnU s).1 (cnU s).2) : ∀ {x0 : Int} {x1 : Int} {x2 : Int} {h : HH} {b : ((Unit ⊕ Nat) × HU)}, bX11_needIndex c10 x0 x1 x2 h = some b → WK 158 (oT (fun _ => none) b.1) σ0 (abU 2 70 g b.2) 0 [(0, aI x0), (1, aI x1), (2, aI x2)] [] (abU 2 70 g (h, 0)) (cnU (h, 0)).1 (cnU (h, 0)).2 := by
  intro x0 x1 x2 h b q
  have e : bX11_needIndex c10 x0 x1 x2 h = segT 2 70 g.2.2.2.2 (krTV 1) (kxT 1) clN csX11_needIndex (cuC 10 (fun l st s => skE st (c10 s)) cuN) 1000 0 [(0, aI x0), (1, aI x1), (2, aI x2)] [] (h, 0) := rfl
  rw [e] at q
  clear e
  refine segT_wk (by decide) (by decide) hg rwX11_needIndex CLK_N (by decide) (krTV_ok (by decide)) (kxT_ok (by decide)) ?_ q
  clear q
  refine ct_C ?_ (ct_N)
  · intro l st s q
    obtain ⟨rfl, q1⟩ := skE_of q
    exact WK_less (k10 _ _ q1) (fun _ h => absurd h List.not_mem_nil)
def nX11_needIndex (x0 : Int) (x1 : Int) (x2 : Int) (h : HH) : Option ((Unit ⊕ Nat) × HU) := bX11_needIndex nX11_needIndex_10 x0 x1 x2 h
theorem wX11_needIndex {g : SG} (hg : GOK g) {σ0 : SG} : ∀ {x0 : Int} {x1 : Int} {x2 : Int} {h : HH} {b : ((Unit ⊕ Nat) × HU)}, nX11_needIndex x0 x1 x2 h = some b → WK 158 (oT (fun _ => none) b.1) σ0 (abU 2 70 g b.2) 0 [(0, aI x0), (1, aI x1), (2, aI x2)] [] (abU 2 70 g (h, 0)) (cnU (h, 0)).1 (cnU (h, 0)).2 := by
  intro x0 x1 x2 h b q
  exact uX11_needIndex hg (fun _ _ q => wX11_needIndex_10 hg q) q
theorem mX11_needIndex {g : SG} (hg : GOK g) {h : HH} {x0 : Int} {x1 : Int} {x2 : Int} {b : ((Unit ⊕ Nat) × HU)} (q : nX11_needIndex x0 x1 x2 h = some b) : MCT 158 [] [aI x0, aI x1, aI x2] (abU 2 70 g (h, 0)) (oT (fun _ => none) b.1) (abU 2 70 g b.2) :=
  mct_of (by decide) (MFok 158 (by decide +kernel)) (fun _ => Nat.le_of_ble_eq_true rfl) (wX11_needIndex hg q)
def pX11_needIndex {β : Type} (z : Int → Int → Int → HH → Option ((Unit ⊕ Nat) × HU)) (rc : Nat) : PT β := fun as s f => skI as fun x0 as => skI as fun x1 as => skI as fun x2 as => skE as (liTT rc 1 (fun _ => none) s (z x0 x1 x2 s.1) f)
theorem pX11_needIndex_ok {β : Type} {g : SG} (hg : GOK g) {rc rs : Nat} (hrs : 6 * rc ≤ rs) : CLK1 (β := β) 158 (pX11_needIndex nX11_needIndex rc) (abU 2 70 g) cnU rc rs := fun as s f b q => by
  obtain ⟨x0, as, rfl, q1⟩ := skI_of q
  obtain ⟨x1, as, rfl, q2⟩ := skI_of q1
  obtain ⟨x2, as, rfl, q3⟩ := skI_of q2
  obtain ⟨rfl, q0⟩ := skE_of q3
  exact liTT_ok q0 (by decide) (fun _ e => mX11_needIndex hg e) rfl rfl hrs
def csX11_needPlace : List (Nat × List (Nat × ARow)) := [(100000, [(0, 1, .iload_n 0, 0, 0, 0), (1, 1, .iconst 0, 0, 0, 0), (2, 2, .bipush 15, 0, 0, 0), (4, 3, .invokestatic 180, 158, 3, 0), (7, 1, .return_, 0, 0, 0)])]
theorem rwX11_needPlace : rowsB (mB 154) (mO 154) (mX 154) (mIni 154) (mFr 154) (mLo 154) (mT 154) csX11_needPlace = true := by decide +kernel
def bX11_needPlace (f158 : Int → Int → Int → HH → Option ((Unit ⊕ Nat) × HU)) (x0 : Int) (h : HH) : Option ((Unit ⊕ Nat) × HU) :=
  bnd (f158 x0 0 15 h) fun r1 => gd (0 + 1 ≤ 2) <| tcase r1.1 (fun _ =>
    gd ((0 + 1) ≤ 2) (some (.inl (), (r1.2.1, (0 + 1))))) (fun e => gd ((0 + 1) + 1 ≤ 2) (some (.inr e, (r1.2.1, (0 + 1)))))
theorem uX11_needPlace {g : SG} (hg : GOK g) {σ0 : SG} : ∀ {x0 : Int} {h : HH} {b : ((Unit ⊕ Nat) × HU)}, bX11_needPlace nX11_needIndex x0 h = some b → WK 154 (oT (fun _ => none) b.1) σ0 (abU 2 70 g b.2) 0 [(0, aI x0)] [] (abU 2 70 g (h, 0)) (cnU (h, 0)).1 (cnU (h, 0)).2 := by
  intro x0 h b q
  have e : ∀ (f158 : Int → Int → Int → HH → Option ((Unit ⊕ Nat) × HU)) , bX11_needPlace f158 x0 h = segT 2 70 g.2.2.2.2 (krTV 2) (kxT 2) (clC 158 (pX11_needIndex f158 2) clN) csX11_needPlace cuN 1000 0 [(0, aI x0)] [] (h, 0) := fun _ => rfl
  rw [e nX11_needIndex] at q
  clear e
  refine segT_wk (by decide) (by decide) hg rwX11_needPlace (CLK_C (pX11_needIndex_ok hg (by decide)) CLK_N) (by decide) (krTV_ok (by decide)) (kxT_ok (by decide)) ?_ q
  clear q
  exact ct_N
def nX11_needPlace (x0 : Int) (h : HH) : Option ((Unit ⊕ Nat) × HU) := bX11_needPlace nX11_needIndex x0 h
theorem wX11_needPlace {g : SG} (hg : GOK g) {σ0 : SG} : ∀ {x0 : Int} {h : HH} {b : ((Unit ⊕ Nat) × HU)}, nX11_needPlace x0 h = some b → WK 154 (oT (fun _ => none) b.1) σ0 (abU 2 70 g b.2) 0 [(0, aI x0)] [] (abU 2 70 g (h, 0)) (cnU (h, 0)).1 (cnU (h, 0)).2 := by
  intro x0 h b q
  exact uX11_needPlace hg q
theorem mX11_needPlace {g : SG} (hg : GOK g) {h : HH} {x0 : Int} {b : ((Unit ⊕ Nat) × HU)} (q : nX11_needPlace x0 h = some b) : MCT 154 [] [aI x0] (abU 2 70 g (h, 0)) (oT (fun _ => none) b.1) (abU 2 70 g b.2) :=
  mct_of (by decide) (MFok 154 (by decide +kernel)) (fun _ => Nat.le_of_ble_eq_true rfl) (wX11_needPlace hg q)
def pX11_needPlace {β : Type} (z : Int → HH → Option ((Unit ⊕ Nat) × HU)) (rc : Nat) : PT β := fun as s f => skI as fun x0 as => skE as (liTT rc 2 (fun _ => none) s (z x0 s.1) f)
theorem pX11_needPlace_ok {β : Type} {g : SG} (hg : GOK g) {rc rs : Nat} (hrs : 6 * rc ≤ rs) : CLK1 (β := β) 154 (pX11_needPlace nX11_needPlace rc) (abU 2 70 g) cnU rc rs := fun as s f b q => by
  obtain ⟨x0, as, rfl, q1⟩ := skI_of q
  obtain ⟨rfl, q0⟩ := skE_of q1
  exact liTT_ok q0 (by decide) (fun _ e => mX11_needPlace hg e) rfl rfl hrs
def csX11_needThat : List (Nat × List (Nat × ARow)) := [(100000, [(0, 1, .iload_n 0, 0, 0, 0), (1, 3, .ifCond .ne 11, 12, 0, 0), (4, 3, .new 392, 101, 0, 0), (12, 1, .return_, 0, 0, 0)])]
theorem rwX11_needThat : rowsB (mB 160) (mO 160) (mX 160) (mIni 160) (mFr 160) (mLo 160) (mT 160) csX11_needThat = true := by decide +kernel
def bX11_needThat (x0 : Int) (h : HH) : Option ((Unit ⊕ Nat) × HU) :=
  if x0 = (0 : Int) then
    gd (0 + 1 ≤ 1) (some (.inr 1, (h, 0)))
  else
    gd (0 ≤ 1) (some (.inl (), (h, 0)))
theorem uX11_needThat {g : SG} (hg : GOK g) {σ0 : SG} : ∀ {x0 : Int} {h : HH} {b : ((Unit ⊕ Nat) × HU)}, bX11_needThat x0 h = some b → WK 160 (oT (fun _ => none) b.1) σ0 (abU 2 70 g b.2) 0 [(0, aI x0)] [] (abU 2 70 g (h, 0)) (cnU (h, 0)).1 (cnU (h, 0)).2 := by
  intro x0 h b q
  have e : bX11_needThat x0 h = segT 2 70 g.2.2.2.2 (krTV 1) (kxT 1) clN csX11_needThat cuN 1000 0 [(0, aI x0)] [] (h, 0) := rfl
  rw [e] at q
  clear e
  refine segT_wk (by decide) (by decide) hg rwX11_needThat CLK_N (by decide) (krTV_ok (by decide)) (kxT_ok (by decide)) ?_ q
  clear q
  exact ct_N
def nX11_needThat (x0 : Int) (h : HH) : Option ((Unit ⊕ Nat) × HU) := bX11_needThat x0 h
theorem wX11_needThat {g : SG} (hg : GOK g) {σ0 : SG} : ∀ {x0 : Int} {h : HH} {b : ((Unit ⊕ Nat) × HU)}, nX11_needThat x0 h = some b → WK 160 (oT (fun _ => none) b.1) σ0 (abU 2 70 g b.2) 0 [(0, aI x0)] [] (abU 2 70 g (h, 0)) (cnU (h, 0)).1 (cnU (h, 0)).2 := by
  intro x0 h b q
  exact uX11_needThat hg q
theorem mX11_needThat {g : SG} (hg : GOK g) {h : HH} {x0 : Int} {b : ((Unit ⊕ Nat) × HU)} (q : nX11_needThat x0 h = some b) : MCT 160 [] [aI x0] (abU 2 70 g (h, 0)) (oT (fun _ => none) b.1) (abU 2 70 g b.2) :=
  mct_of (by decide) (MFok 160 (by decide +kernel)) (fun _ => Nat.le_of_ble_eq_true rfl) (wX11_needThat hg q)
def pX11_needThat {β : Type} (z : Int → HH → Option ((Unit ⊕ Nat) × HU)) (rc : Nat) : PT β := fun as s f => skI as fun x0 as => skE as (liTT rc 1 (fun _ => none) s (z x0 s.1) f)
theorem pX11_needThat_ok {β : Type} {g : SG} (hg : GOK g) {rc rs : Nat} (hrs : 6 * rc ≤ rs) : CLK1 (β := β) 160 (pX11_needThat nX11_needThat rc) (abU 2 70 g) cnU rc rs := fun as s f b q => by
  obtain ⟨x0, as, rfl, q1⟩ := skI_of q
  obtain ⟨rfl, q0⟩ := skE_of q1
  exact liTT_ok q0 (by decide) (fun _ e => mX11_needThat hg e) rfl rfl hrs
def csX11_needRange : List (Nat × List (Nat × ARow)) := [(100000, [(0, 1, .iload_n 0, 0, 0, 0), (1, 1, .iload_n 1, 0, 0, 0), (2, 3, .if_icmp .lt 12, 14, 0, 0), (5, 1, .iload_n 0, 0, 0, 0), (6, 1, .iload_n 2, 0, 0, 0), (7, 3, .if_icmp .gt 7, 14, 0, 0), (10, 1, .iconst 1, 0, 0, 0), (11, 3, .goto 4, 15, 0, 0), (14, 1, .iconst 0, 0, 0, 0), (15, 3, .invokestatic 105, 160, 1, 0), (18, 1, .return_, 0, 0, 0)])]
theorem rwX11_needRange : rowsB (mB 159) (mO 159) (mX 159) (mIni 159) (mFr 159) (mLo 159) (mT 159) csX11_needRange = true := by decide +kernel
def bX11_needRange_15 (f160 : Int → HH → Option ((Unit ⊕ Nat) × HU)) (y0 : Int) (s : HU) : Option ((Unit ⊕ Nat) × HU) :=
  bnd (f160 y0 s.1) fun r1 => gd (s.2 + 1 ≤ 2) <| tcase r1.1 (fun _ =>
    gd ((s.2 + 1) ≤ 2) (some (.inl (), (r1.2.1, (s.2 + 1))))) (fun e => gd ((s.2 + 1) + 1 ≤ 2) (some (.inr e, (r1.2.1, (s.2 + 1)))))
theorem uX11_needRange_15 {g : SG} (hg : GOK g) {σ0 : SG} : ∀ {y0 : Int} {s : HU} {b : ((Unit ⊕ Nat) × HU)}, bX11_needRange_15 nX11_needThat y0 s = some b → WK 159 (oT (fun _ => none) b.1) σ0 (abU 2 70 g b.2) 15 [] [aI y0] (abU 2 70 g s) (cnU s).1 (cnU s).2 := by
  intro y0 s b q
  have e : ∀ (f160 : Int → HH → Option ((Unit ⊕ Nat) × HU)) , bX11_needRange_15 f160 y0 s = segT 2 70 g.2.2.2.2 (krTV 2) (kxT 2) (clC 160 (pX11_needThat f160 2) clN) csX11_needRange cuN 1000 15 [] [aI y0] s := fun _ => rfl
  rw [e nX11_needThat] at q
  clear e
  refine segT_wk (by decide) (by decide) hg rwX11_needRange (CLK_C (pX11_needThat_ok hg (by decide)) CLK_N) (by decide) (krTV_ok (by decide)) (kxT_ok (by decide)) ?_ q
  clear q
  exact ct_N
def nX11_needRange_15 (y0 : Int) (s : HU) : Option ((Unit ⊕ Nat) × HU) := bX11_needRange_15 nX11_needThat y0 s
theorem wX11_needRange_15 {g : SG} (hg : GOK g) {σ0 : SG} : ∀ {y0 : Int} {s : HU} {b : ((Unit ⊕ Nat) × HU)}, nX11_needRange_15 y0 s = some b → WK 159 (oT (fun _ => none) b.1) σ0 (abU 2 70 g b.2) 15 [] [aI y0] (abU 2 70 g s) (cnU s).1 (cnU s).2 := by
  intro y0 s b q
  exact uX11_needRange_15 hg q
def bX11_needRange_14 (c15 : Int → HU → Option ((Unit ⊕ Nat) × HU)) (s : HU) : Option ((Unit ⊕ Nat) × HU) :=
  c15 0 s
theorem uX11_needRange_14 {g : SG} (hg : GOK g) {σ0 : SG} {c15 : Int → HU → Option ((Unit ⊕ Nat) × HU)} (k15 : ∀ (y0 : Int) (s : HU) (b : ((Unit ⊕ Nat) × HU)), c15 y0 s = some b → WK 159 (oT (fun _ => none) b.1) σ0 (abU 2 70 g b.2) 15 [] [aI y0] (abU 2 70 g s) (cnU s).1 (cnU s).2) : ∀ {s : HU} {b : ((Unit ⊕ Nat) × HU)}, bX11_needRange_14 c15 s = some b → WK 159 (oT (fun _ => none) b.1) σ0 (abU 2 70 g b.2) 14 [] [] (abU 2 70 g s) (cnU s).1 (cnU s).2 := by
  intro s b q
  have e : bX11_needRange_14 c15 s = segT 2 70 g.2.2.2.2 (krTV 2) (kxT 2) clN csX11_needRange (cuC 15 (fun l st s => skI st fun y0 st => skE st (c15 y0 s)) cuN) 1000 14 [] [] s := rfl
  rw [e] at q
  clear e
  refine segT_wk (by decide) (by decide) hg rwX11_needRange CLK_N (by decide) (krTV_ok (by decide)) (kxT_ok (by decide)) ?_ q
  clear q
  refine ct_C ?_ (ct_N)
  · intro l st s q
    obtain ⟨y0, t0, rfl, q1⟩ := skI_of q
    obtain ⟨rfl, q2⟩ := skE_of q1
    exact WK_less (k15 _ _ _ q2) (fun _ h => absurd h List.not_mem_nil)
def nX11_needRange_14 (s : HU) : Option ((Unit ⊕ Nat) × HU) := bX11_needRange_14 nX11_needRange_15 s
theorem wX11_needRange_14 {g : SG} (hg : GOK g) {σ0 : SG} : ∀ {s : HU} {b : ((Unit ⊕ Nat) × HU)}, nX11_needRange_14 s = some b → WK 159 (oT (fun _ => none) b.1) σ0 (abU 2 70 g b.2) 14 [] [] (abU 2 70 g s) (cnU s).1 (cnU s).2 := by
  intro s b q
  exact uX11_needRange_14 hg (fun _ _ _ q => wX11_needRange_15 hg q) q
def bX11_needRange (c14 : HU → Option ((Unit ⊕ Nat) × HU)) (c15 : Int → HU → Option ((Unit ⊕ Nat) × HU)) (x0 : Int) (x1 : Int) (x2 : Int) (h : HH) : Option ((Unit ⊕ Nat) × HU) :=
  if x0 < (x1 : Int) then
    c14 (h, 0)
  else
    if (x2 : Int) < x0 then
    c14 (h, 0)
  else
    c15 1 (h, 0)
theorem uX11_needRange {g : SG} (hg : GOK g) {σ0 : SG} {c14 : HU → Option ((Unit ⊕ Nat) × HU)} {c15 : Int → HU → Option ((Unit ⊕ Nat) × HU)} (k14 : ∀ (s : HU) (b : ((Unit ⊕ Nat) × HU)), c14 s = some b → WK 159 (oT (fun _ => none) b.1) σ0 (abU 2 70 g b.2) 14 [] [] (abU 2 70 g s) (cnU s).1 (cnU s).2) (k15 : ∀ (y0 : Int) (s : HU) (b : ((Unit ⊕ Nat) × HU)), c15 y0 s = some b → WK 159 (oT (fun _ => none) b.1) σ0 (abU 2 70 g b.2) 15 [] [aI y0] (abU 2 70 g s) (cnU s).1 (cnU s).2) : ∀ {x0 : Int} {x1 : Int} {x2 : Int} {h : HH} {b : ((Unit ⊕ Nat) × HU)}, bX11_needRange c14 c15 x0 x1 x2 h = some b → WK 159 (oT (fun _ => none) b.1) σ0 (abU 2 70 g b.2) 0 [(0, aI x0), (1, aI x1), (2, aI x2)] [] (abU 2 70 g (h, 0)) (cnU (h, 0)).1 (cnU (h, 0)).2 := by
  intro x0 x1 x2 h b q
  have e : bX11_needRange c14 c15 x0 x1 x2 h = segT 2 70 g.2.2.2.2 (krTV 2) (kxT 2) clN csX11_needRange (cuC 14 (fun l st s => skE st (c14 s)) (cuC 15 (fun l st s => skI st fun y0 st => skE st (c15 y0 s)) cuN)) 1000 0 [(0, aI x0), (1, aI x1), (2, aI x2)] [] (h, 0) := rfl
  rw [e] at q
  clear e
  refine segT_wk (by decide) (by decide) hg rwX11_needRange CLK_N (by decide) (krTV_ok (by decide)) (kxT_ok (by decide)) ?_ q
  clear q
  refine ct_C ?_ (ct_C ?_ (ct_N))
  · intro l st s q
    obtain ⟨rfl, q1⟩ := skE_of q
    exact WK_less (k14 _ _ q1) (fun _ h => absurd h List.not_mem_nil)
  · intro l st s q
    obtain ⟨y0, t0, rfl, q1⟩ := skI_of q
    obtain ⟨rfl, q2⟩ := skE_of q1
    exact WK_less (k15 _ _ _ q2) (fun _ h => absurd h List.not_mem_nil)
def nX11_needRange (x0 : Int) (x1 : Int) (x2 : Int) (h : HH) : Option ((Unit ⊕ Nat) × HU) := bX11_needRange nX11_needRange_14 nX11_needRange_15 x0 x1 x2 h
theorem wX11_needRange {g : SG} (hg : GOK g) {σ0 : SG} : ∀ {x0 : Int} {x1 : Int} {x2 : Int} {h : HH} {b : ((Unit ⊕ Nat) × HU)}, nX11_needRange x0 x1 x2 h = some b → WK 159 (oT (fun _ => none) b.1) σ0 (abU 2 70 g b.2) 0 [(0, aI x0), (1, aI x1), (2, aI x2)] [] (abU 2 70 g (h, 0)) (cnU (h, 0)).1 (cnU (h, 0)).2 := by
  intro x0 x1 x2 h b q
  exact uX11_needRange hg (fun _ _ q => wX11_needRange_14 hg q) (fun _ _ _ q => wX11_needRange_15 hg q) q
theorem mX11_needRange {g : SG} (hg : GOK g) {h : HH} {x0 : Int} {x1 : Int} {x2 : Int} {b : ((Unit ⊕ Nat) × HU)} (q : nX11_needRange x0 x1 x2 h = some b) : MCT 159 [] [aI x0, aI x1, aI x2] (abU 2 70 g (h, 0)) (oT (fun _ => none) b.1) (abU 2 70 g b.2) :=
  mct_of (by decide) (MFok 159 (by decide +kernel)) (fun _ => Nat.le_of_ble_eq_true rfl) (wX11_needRange hg q)
def pX11_needRange {β : Type} (z : Int → Int → Int → HH → Option ((Unit ⊕ Nat) × HU)) (rc : Nat) : PT β := fun as s f => skI as fun x0 as => skI as fun x1 as => skI as fun x2 as => skE as (liTT rc 2 (fun _ => none) s (z x0 x1 x2 s.1) f)
theorem pX11_needRange_ok {β : Type} {g : SG} (hg : GOK g) {rc rs : Nat} (hrs : 6 * rc ≤ rs) : CLK1 (β := β) 159 (pX11_needRange nX11_needRange rc) (abU 2 70 g) cnU rc rs := fun as s f b q => by
  obtain ⟨x0, as, rfl, q1⟩ := skI_of q
  obtain ⟨x1, as, rfl, q2⟩ := skI_of q1
  obtain ⟨x2, as, rfl, q3⟩ := skI_of q2
  obtain ⟨rfl, q0⟩ := skE_of q3
  exact liTT_ok q0 (by decide) (fun _ e => mX11_needRange hg e) rfl rfl hrs
def csX11_needState : List (Nat × List (Nat × ARow)) := [(100000, [(0, 1, .iload_n 0, 0, 0, 0), (1, 3, .ifCond .ne 11, 12, 0, 0), (4, 3, .new 395, 102, 0, 0), (12, 1, .return_, 0, 0, 0)])]
theorem rwX11_needState : rowsB (mB 161) (mO 161) (mX 161) (mIni 161) (mFr 161) (mLo 161) (mT 161) csX11_needState = true := by decide +kernel
def bX11_needState (x0 : Int) (h : HH) : Option ((Unit ⊕ Nat) × HU) :=
  if x0 = (0 : Int) then
    gd (0 + 1 ≤ 1) (some (.inr 2, (h, 0)))
  else
    gd (0 ≤ 1) (some (.inl (), (h, 0)))
theorem uX11_needState {g : SG} (hg : GOK g) {σ0 : SG} : ∀ {x0 : Int} {h : HH} {b : ((Unit ⊕ Nat) × HU)}, bX11_needState x0 h = some b → WK 161 (oT (fun _ => none) b.1) σ0 (abU 2 70 g b.2) 0 [(0, aI x0)] [] (abU 2 70 g (h, 0)) (cnU (h, 0)).1 (cnU (h, 0)).2 := by
  intro x0 h b q
  have e : bX11_needState x0 h = segT 2 70 g.2.2.2.2 (krTV 1) (kxT 1) clN csX11_needState cuN 1000 0 [(0, aI x0)] [] (h, 0) := rfl
  rw [e] at q
  clear e
  refine segT_wk (by decide) (by decide) hg rwX11_needState CLK_N (by decide) (krTV_ok (by decide)) (kxT_ok (by decide)) ?_ q
  clear q
  exact ct_N
def nX11_needState (x0 : Int) (h : HH) : Option ((Unit ⊕ Nat) × HU) := bX11_needState x0 h
theorem wX11_needState {g : SG} (hg : GOK g) {σ0 : SG} : ∀ {x0 : Int} {h : HH} {b : ((Unit ⊕ Nat) × HU)}, nX11_needState x0 h = some b → WK 161 (oT (fun _ => none) b.1) σ0 (abU 2 70 g b.2) 0 [(0, aI x0)] [] (abU 2 70 g (h, 0)) (cnU (h, 0)).1 (cnU (h, 0)).2 := by
  intro x0 h b q
  exact uX11_needState hg q
theorem mX11_needState {g : SG} (hg : GOK g) {h : HH} {x0 : Int} {b : ((Unit ⊕ Nat) × HU)} (q : nX11_needState x0 h = some b) : MCT 161 [] [aI x0] (abU 2 70 g (h, 0)) (oT (fun _ => none) b.1) (abU 2 70 g b.2) :=
  mct_of (by decide) (MFok 161 (by decide +kernel)) (fun _ => Nat.le_of_ble_eq_true rfl) (wX11_needState hg q)
def pX11_needState {β : Type} (z : Int → HH → Option ((Unit ⊕ Nat) × HU)) (rc : Nat) : PT β := fun as s f => skI as fun x0 as => skE as (liTT rc 1 (fun _ => none) s (z x0 s.1) f)
theorem pX11_needState_ok {β : Type} {g : SG} (hg : GOK g) {rc rs : Nat} (hrs : 6 * rc ≤ rs) : CLK1 (β := β) 161 (pX11_needState nX11_needState rc) (abU 2 70 g) cnU rc rs := fun as s f b q => by
  obtain ⟨x0, as, rfl, q1⟩ := skI_of q
  obtain ⟨rfl, q0⟩ := skE_of q1
  exact liTT_ok q0 (by decide) (fun _ e => mX11_needState hg e) rfl rfl hrs
def csX11_street : List (Nat × List (Nat × ARow)) := [(46, [(0, 1, .iload_n 1, 0, 0, 0), (1, 3, .invokestatic 101, 154, 1, 0), (4, 1, .iload_n 2, 0, 0, 0), (5, 3, .invokestatic 101, 154, 1, 0), (8, 1, .iload_n 1, 0, 0, 0), (9, 1, .iload_n 2, 0, 0, 0), (10, 3, .if_icmp .eq 7, 17, 0, 0), (13, 1, .iconst 1, 0, 0, 0), (14, 3, .goto 4, 18, 0, 0), (17, 1, .iconst 0, 0, 0, 0), (18, 3, .invokestatic 105, 160, 1, 0), (21, 1, .iload_n 3, 0, 0, 0), (22, 1, .iconst 1, 0, 0, 0), (23, 2, .bipush 120, 0, 0, 0), (25, 3, .invokestatic 109, 159, 3, 0), (28, 2, .iload 4, 0, 0, 0), (30, 1, .iconst 1, 0, 0, 0), (31, 2, .ldc 113, 50000, 0, 0), (33, 3, .invokestatic 109, 159, 3, 0), (36, 2, .iload 5, 0, 0, 0), (38, 1, .iconst 0, 0, 0, 0), (39, 3, .sipush 9999, 0, 0, 0), (42, 3, .invokestatic 109, 159, 3, 0), (45, 1, .aload_n 0, 0, 0, 0)]),
  (100000, [(46, 3, .getfield 12, 11, 0, 2), (49, 3, .getfield 114, 9, 3, 0), (52, 2, .bipush 60, 0, 0, 0), (54, 3, .if_icmp .ge 17, 71, 0, 0), (57, 1, .aload_n 0, 0, 0, 0), (58, 3, .getfield 30, 11, 2, 2), (61, 3, .invokevirtual 118, 47, 1, 6), (64, 3, .ifCond .eq 7, 71, 0, 0), (67, 1, .iconst 1, 0, 0, 0), (68, 3, .goto 4, 72, 0, 0), (71, 1, .iconst 0, 0, 0, 0), (72, 3, .invokestatic 122, 161, 1, 0), (75, 1, .aload_n 0, 0, 0, 0), (76, 3, .getfield 12, 11, 0, 2), (79, 1, .iload_n 1, 0, 0, 0), (80, 1, .iload_n 2, 0, 0, 0), (81, 1, .iload_n 3, 0, 0, 0), (82, 2, .iload 4, 0, 0, 0), (84, 2, .iload 5, 0, 0, 0), (86, 3, .invokevirtual 125, 89, 6, 9), (89, 1, .aload_n 0, 0, 0, 0), (90, 3, .getfield 12, 11, 0, 2), (93, 3, .getfield 114, 9, 3, 0), (96, 1, .ireturn, 0, 0, 0)])]
theorem rwX11_street : rowsB (mB 112) (mO 112) (mX 112) (mIni 112) (mFr 112) (mLo 112) (mT 112) csX11_street = true := by decide +kernel
def bX11_street_72 (f161 : Int → HH → Option ((Unit ⊕ Nat) × HU)) (f89 : Int → Int → Int → Int → Int → HH → Option HH) (x1 : Int) (x2 : Int) (x3 : Int) (x4 : Int) (x5 : Int) (y0 : Int) (s : HU) : Option ((Int ⊕ Nat) × HU) :=
  bnd (f161 y0 s.1) fun r1 => gd (s.2 + 1 ≤ 13) <| tcase r1.1 (fun _ =>
    gd ((s.2 + 1) ≤ 13) <|
    bnd (f89 x1 x2 x3 x4 x5 r1.2.1) fun r3 =>
    gd ((s.2 + 1) ≤ 13) (some (.inl (r3.1 3 3), (r3, (s.2 + 1))))) (fun e => gd ((s.2 + 1) + 1 ≤ 13) (some (.inr e, (r1.2.1, (s.2 + 1)))))
theorem uX11_street_72 {g : SG} (hg : GOK g) {σ0 : SG} : ∀ {x1 : Int} {x2 : Int} {x3 : Int} {x4 : Int} {x5 : Int} {y0 : Int} {s : HU} {b : ((Int ⊕ Nat) × HU)}, bX11_street_72 nX11_needState nX9_add x1 x2 x3 x4 x5 y0 s = some b → WK 112 (oT (fun r => some (aI r)) b.1) σ0 (abU 2 70 g b.2) 72 [(0, aR 2), (1, aI x1), (2, aI x2), (3, aI x3), (4, aI x4), (5, aI x5)] [aI y0] (abU 2 70 g s) (cnU s).1 (cnU s).2 := by
  intro x1 x2 x3 x4 x5 y0 s b q
  have e : ∀ (f161 : Int → HH → Option ((Unit ⊕ Nat) × HU)) (f89 : Int → Int → Int → Int → Int → HH → Option HH) , bX11_street_72 f161 f89 x1 x2 x3 x4 x5 y0 s = segT 2 70 g.2.2.2.2 (krTI 13) (kxT 13) (clC 161 (pX11_needState f161 13) (clC 89 (guT 13 (liWT (pX9_add f89))) clN)) csX11_street cuN 1000 72 [(0, aR 2), (1, aI x1), (2, aI x2), (3, aI x3), (4, aI x4), (5, aI x5)] [aI y0] s := fun _ _ => rfl
  rw [e nX11_needState nX9_add] at q
  clear e
  refine segT_wk (by decide) (by decide) hg rwX11_street (CLK_C (pX11_needState_ok hg (by decide)) (CLK_C (liWT_ck (pX9_add_ok hg) (by decide)) CLK_N)) (by decide) (krTI_ok (by decide)) (kxT_ok (by decide)) ?_ q
  clear q
  exact ct_N
def nX11_street_72 (x1 : Int) (x2 : Int) (x3 : Int) (x4 : Int) (x5 : Int) (y0 : Int) (s : HU) : Option ((Int ⊕ Nat) × HU) := bX11_street_72 nX11_needState nX9_add x1 x2 x3 x4 x5 y0 s
theorem wX11_street_72 {g : SG} (hg : GOK g) {σ0 : SG} : ∀ {x1 : Int} {x2 : Int} {x3 : Int} {x4 : Int} {x5 : Int} {y0 : Int} {s : HU} {b : ((Int ⊕ Nat) × HU)}, nX11_street_72 x1 x2 x3 x4 x5 y0 s = some b → WK 112 (oT (fun r => some (aI r)) b.1) σ0 (abU 2 70 g b.2) 72 [(0, aR 2), (1, aI x1), (2, aI x2), (3, aI x3), (4, aI x4), (5, aI x5)] [aI y0] (abU 2 70 g s) (cnU s).1 (cnU s).2 := by
  intro x1 x2 x3 x4 x5 y0 s b q
  exact uX11_street_72 hg q
def bX11_street_71 (c72 : Int → Int → Int → Int → Int → Int → HU → Option ((Int ⊕ Nat) × HU)) (x1 : Int) (x2 : Int) (x3 : Int) (x4 : Int) (x5 : Int) (s : HU) : Option ((Int ⊕ Nat) × HU) :=
  c72 x1 x2 x3 x4 x5 0 s
theorem uX11_street_71 {g : SG} (hg : GOK g) {σ0 : SG} {c72 : Int → Int → Int → Int → Int → Int → HU → Option ((Int ⊕ Nat) × HU)} (k72 : ∀ (x1 : Int) (x2 : Int) (x3 : Int) (x4 : Int) (x5 : Int) (y0 : Int) (s : HU) (b : ((Int ⊕ Nat) × HU)), c72 x1 x2 x3 x4 x5 y0 s = some b → WK 112 (oT (fun r => some (aI r)) b.1) σ0 (abU 2 70 g b.2) 72 [(0, aR 2), (1, aI x1), (2, aI x2), (3, aI x3), (4, aI x4), (5, aI x5)] [aI y0] (abU 2 70 g s) (cnU s).1 (cnU s).2) : ∀ {x1 : Int} {x2 : Int} {x3 : Int} {x4 : Int} {x5 : Int} {s : HU} {b : ((Int ⊕ Nat) × HU)}, bX11_street_71 c72 x1 x2 x3 x4 x5 s = some b → WK 112 (oT (fun r => some (aI r)) b.1) σ0 (abU 2 70 g b.2) 71 [(0, aR 2), (1, aI x1), (2, aI x2), (3, aI x3), (4, aI x4), (5, aI x5)] [] (abU 2 70 g s) (cnU s).1 (cnU s).2 := by
  intro x1 x2 x3 x4 x5 s b q
  have e : bX11_street_71 c72 x1 x2 x3 x4 x5 s = segT 2 70 g.2.2.2.2 (krTI 13) (kxT 13) clN csX11_street (cuC 72 (fun l st s => tkC 0 2 l <| tkI 1 l fun x1 => tkI 2 l fun x2 => tkI 3 l fun x3 => tkI 4 l fun x4 => tkI 5 l fun x5 => skI st fun y0 st => skE st (c72 x1 x2 x3 x4 x5 y0 s)) cuN) 1000 71 [(0, aR 2), (1, aI x1), (2, aI x2), (3, aI x3), (4, aI x4), (5, aI x5)] [] s := rfl
  rw [e] at q
  clear e
  refine segT_wk (by decide) (by decide) hg rwX11_street CLK_N (by decide) (krTI_ok (by decide)) (kxT_ok (by decide)) ?_ q
  clear q
  refine ct_C ?_ (ct_N)
  · intro l st s q
    obtain ⟨m0, q1⟩ := tkC_of q
    obtain ⟨x1, m1, q2⟩ := tkI_of q1
    obtain ⟨x2, m2, q3⟩ := tkI_of q2
    obtain ⟨x3, m3, q4⟩ := tkI_of q3
    obtain ⟨x4, m4, q5⟩ := tkI_of q4
    obtain ⟨x5, m5, q6⟩ := tkI_of q5
    obtain ⟨y0, t0, rfl, q7⟩ := skI_of q6
    obtain ⟨rfl, q8⟩ := skE_of q7
    exact WK_less (k72 _ _ _ _ _ _ _ _ q8) (List.forall_mem_cons.mpr ⟨m0, (List.forall_mem_cons.mpr ⟨m1, (List.forall_mem_cons.mpr ⟨m2, (List.forall_mem_cons.mpr ⟨m3, (List.forall_mem_cons.mpr ⟨m4, (List.forall_mem_cons.mpr ⟨m5, (fun _ h => absurd h List.not_mem_nil)⟩)⟩)⟩)⟩)⟩)⟩)
def nX11_street_71 (x1 : Int) (x2 : Int) (x3 : Int) (x4 : Int) (x5 : Int) (s : HU) : Option ((Int ⊕ Nat) × HU) := bX11_street_71 nX11_street_72 x1 x2 x3 x4 x5 s
theorem wX11_street_71 {g : SG} (hg : GOK g) {σ0 : SG} : ∀ {x1 : Int} {x2 : Int} {x3 : Int} {x4 : Int} {x5 : Int} {s : HU} {b : ((Int ⊕ Nat) × HU)}, nX11_street_71 x1 x2 x3 x4 x5 s = some b → WK 112 (oT (fun r => some (aI r)) b.1) σ0 (abU 2 70 g b.2) 71 [(0, aR 2), (1, aI x1), (2, aI x2), (3, aI x3), (4, aI x4), (5, aI x5)] [] (abU 2 70 g s) (cnU s).1 (cnU s).2 := by
  intro x1 x2 x3 x4 x5 s b q
  exact uX11_street_71 hg (fun _ _ _ _ _ _ _ _ q => wX11_street_72 hg q) q
def bX11_street_18 (f160 : Int → HH → Option ((Unit ⊕ Nat) × HU)) (f159 : Int → Int → Int → HH → Option ((Unit ⊕ Nat) × HU)) (f47 : HH → Option Int) (c71 : Int → Int → Int → Int → Int → HU → Option ((Int ⊕ Nat) × HU)) (c72 : Int → Int → Int → Int → Int → Int → HU → Option ((Int ⊕ Nat) × HU)) (x1 : Int) (x2 : Int) (x3 : Int) (x4 : Int) (x5 : Int) (y0 : Int) (s : HU) : Option ((Int ⊕ Nat) × HU) :=
  bnd (f160 y0 s.1) fun r1 => gd (s.2 + 1 ≤ 13) <| tcase r1.1 (fun _ =>
    bnd (f159 x3 1 120 r1.2.1) fun r3 => gd ((s.2 + 1) + 2 ≤ 13) <| tcase r3.1 (fun _ =>
    bnd (f159 x4 1 50000 r3.2.1) fun r5 => gd (((s.2 + 1) + 2) + 2 ≤ 13) <| tcase r5.1 (fun _ =>
    bnd (f159 x5 0 9999 r5.2.1) fun r7 => gd ((((s.2 + 1) + 2) + 2) + 2 ≤ 13) <| tcase r7.1 (fun _ =>
    if (r7.2.1.1 3 3) < (60 : Int) then
    gd (((((s.2 + 1) + 2) + 2) + 2) ≤ 13) <|
    bnd (f47 r7.2.1) fun r9 =>
    if r9 = (0 : Int) then
    c71 x1 x2 x3 x4 x5 (r7.2.1, ((((s.2 + 1) + 2) + 2) + 2))
  else
    c72 x1 x2 x3 x4 x5 1 (r7.2.1, ((((s.2 + 1) + 2) + 2) + 2))
  else
    c71 x1 x2 x3 x4 x5 (r7.2.1, ((((s.2 + 1) + 2) + 2) + 2))) (fun e => gd (((((s.2 + 1) + 2) + 2) + 2) + 1 ≤ 13) (some (.inr e, (r7.2.1, ((((s.2 + 1) + 2) + 2) + 2)))))) (fun e => gd ((((s.2 + 1) + 2) + 2) + 1 ≤ 13) (some (.inr e, (r5.2.1, (((s.2 + 1) + 2) + 2)))))) (fun e => gd (((s.2 + 1) + 2) + 1 ≤ 13) (some (.inr e, (r3.2.1, ((s.2 + 1) + 2)))))) (fun e => gd ((s.2 + 1) + 1 ≤ 13) (some (.inr e, (r1.2.1, (s.2 + 1)))))
set_option maxRecDepth 100000 in
theorem uX11_street_18 {g : SG} (hg : GOK g) {σ0 : SG} {c71 : Int → Int → Int → Int → Int → HU → Option ((Int ⊕ Nat) × HU)} {c72 : Int → Int → Int → Int → Int → Int → HU → Option ((Int ⊕ Nat) × HU)} (k71 : ∀ (x1 : Int) (x2 : Int) (x3 : Int) (x4 : Int) (x5 : Int) (s : HU) (b : ((Int ⊕ Nat) × HU)), c71 x1 x2 x3 x4 x5 s = some b → WK 112 (oT (fun r => some (aI r)) b.1) σ0 (abU 2 70 g b.2) 71 [(0, aR 2), (1, aI x1), (2, aI x2), (3, aI x3), (4, aI x4), (5, aI x5)] [] (abU 2 70 g s) (cnU s).1 (cnU s).2) (k72 : ∀ (x1 : Int) (x2 : Int) (x3 : Int) (x4 : Int) (x5 : Int) (y0 : Int) (s : HU) (b : ((Int ⊕ Nat) × HU)), c72 x1 x2 x3 x4 x5 y0 s = some b → WK 112 (oT (fun r => some (aI r)) b.1) σ0 (abU 2 70 g b.2) 72 [(0, aR 2), (1, aI x1), (2, aI x2), (3, aI x3), (4, aI x4), (5, aI x5)] [aI y0] (abU 2 70 g s) (cnU s).1 (cnU s).2) : ∀ {x1 : Int} {x2 : Int} {x3 : Int} {x4 : Int} {x5 : Int} {y0 : Int} {s : HU} {b : ((Int ⊕ Nat) × HU)}, bX11_street_18 nX11_needThat nX11_needRange nX6_areEmpty c71 c72 x1 x2 x3 x4 x5 y0 s = some b → WK 112 (oT (fun r => some (aI r)) b.1) σ0 (abU 2 70 g b.2) 18 [(0, aR 2), (1, aI x1), (2, aI x2), (3, aI x3), (4, aI x4), (5, aI x5)] [aI y0] (abU 2 70 g s) (cnU s).1 (cnU s).2 := by
  intro x1 x2 x3 x4 x5 y0 s b q
  have e : ∀ (f160 : Int → HH → Option ((Unit ⊕ Nat) × HU)) (f159 : Int → Int → Int → HH → Option ((Unit ⊕ Nat) × HU)) (f47 : HH → Option Int) , bX11_street_18 f160 f159 f47 c71 c72 x1 x2 x3 x4 x5 y0 s = segT 2 70 g.2.2.2.2 (krTI 13) (kxT 13) (clC 160 (pX11_needThat f160 13) (clC 159 (pX11_needRange f159 13) (clC 47 (guT 13 (liWT (liPW (pX6_areEmpty f47)))) clN))) csX11_street (cuC 71 (fun l st s => tkC 0 2 l <| tkI 1 l fun x1 => tkI 2 l fun x2 => tkI 3 l fun x3 => tkI 4 l fun x4 => tkI 5 l fun x5 => skE st (c71 x1 x2 x3 x4 x5 s)) (cuC 72 (fun l st s => tkC 0 2 l <| tkI 1 l fun x1 => tkI 2 l fun x2 => tkI 3 l fun x3 => tkI 4 l fun x4 => tkI 5 l fun x5 => skI st fun y0 st => skE st (c72 x1 x2 x3 x4 x5 y0 s)) cuN)) 1000 18 [(0, aR 2), (1, aI x1), (2, aI x2), (3, aI x3), (4, aI x4), (5, aI x5)] [aI y0] s := fun _ _ _ => rfl
  rw [e nX11_needThat nX11_needRange nX6_areEmpty] at q
  clear e
  refine segT_wk (by decide) (by decide) hg rwX11_street (CLK_C (pX11_needThat_ok hg (by decide)) (CLK_C (pX11_needRange_ok hg (by decide)) (CLK_C (liWT_ck (liPW_ok (pX6_areEmpty_ok hg)) (by decide)) CLK_N))) (by decide) (krTI_ok (by decide)) (kxT_ok (by decide)) ?_ q
  clear q
  refine ct_C ?_ (ct_C ?_ (ct_N))
  · intro l st s q
    obtain ⟨m0, q1⟩ := tkC_of q
    obtain ⟨x1, m1, q2⟩ := tkI_of q1
    obtain ⟨x2, m2, q3⟩ := tkI_of q2
    obtain ⟨x3, m3, q4⟩ := tkI_of q3
    obtain ⟨x4, m4, q5⟩ := tkI_of q4
    obtain ⟨x5, m5, q6⟩ := tkI_of q5
    obtain ⟨rfl, q7⟩ := skE_of q6
    exact WK_less (k71 _ _ _ _ _ _ _ q7) (List.forall_mem_cons.mpr ⟨m0, (List.forall_mem_cons.mpr ⟨m1, (List.forall_mem_cons.mpr ⟨m2, (List.forall_mem_cons.mpr ⟨m3, (List.forall_mem_cons.mpr ⟨m4, (List.forall_mem_cons.mpr ⟨m5, (fun _ h => absurd h List.not_mem_nil)⟩)⟩)⟩)⟩)⟩)⟩)
  · intro l st s q
    obtain ⟨m0, q1⟩ := tkC_of q
    obtain ⟨x1, m1, q2⟩ := tkI_of q1
    obtain ⟨x2, m2, q3⟩ := tkI_of q2
    obtain ⟨x3, m3, q4⟩ := tkI_of q3
    obtain ⟨x4, m4, q5⟩ := tkI_of q4
    obtain ⟨x5, m5, q6⟩ := tkI_of q5
    obtain ⟨y0, t0, rfl, q7⟩ := skI_of q6
    obtain ⟨rfl, q8⟩ := skE_of q7
    exact WK_less (k72 _ _ _ _ _ _ _ _ q8) (List.forall_mem_cons.mpr ⟨m0, (List.forall_mem_cons.mpr ⟨m1, (List.forall_mem_cons.mpr ⟨m2, (List.forall_mem_cons.mpr ⟨m3, (List.forall_mem_cons.mpr ⟨m4, (List.forall_mem_cons.mpr ⟨m5, (fun _ h => absurd h List.not_mem_nil)⟩)⟩)⟩)⟩)⟩)⟩)
def nX11_street_18 (x1 : Int) (x2 : Int) (x3 : Int) (x4 : Int) (x5 : Int) (y0 : Int) (s : HU) : Option ((Int ⊕ Nat) × HU) := bX11_street_18 nX11_needThat nX11_needRange nX6_areEmpty nX11_street_71 nX11_street_72 x1 x2 x3 x4 x5 y0 s
theorem wX11_street_18 {g : SG} (hg : GOK g) {σ0 : SG} : ∀ {x1 : Int} {x2 : Int} {x3 : Int} {x4 : Int} {x5 : Int} {y0 : Int} {s : HU} {b : ((Int ⊕ Nat) × HU)}, nX11_street_18 x1 x2 x3 x4 x5 y0 s = some b → WK 112 (oT (fun r => some (aI r)) b.1) σ0 (abU 2 70 g b.2) 18 [(0, aR 2), (1, aI x1), (2, aI x2), (3, aI x3), (4, aI x4), (5, aI x5)] [aI y0] (abU 2 70 g s) (cnU s).1 (cnU s).2 := by
  intro x1 x2 x3 x4 x5 y0 s b q
  exact uX11_street_18 hg (fun _ _ _ _ _ _ _ q => wX11_street_71 hg q) (fun _ _ _ _ _ _ _ _ q => wX11_street_72 hg q) q
def bX11_street (f154 : Int → HH → Option ((Unit ⊕ Nat) × HU)) (c18 : Int → Int → Int → Int → Int → Int → HU → Option ((Int ⊕ Nat) × HU)) (x1 : Int) (x2 : Int) (x3 : Int) (x4 : Int) (x5 : Int) (h : HH) : Option ((Int ⊕ Nat) × HU) :=
  bnd (f154 x1 h) fun r1 => gd (0 + 2 ≤ 13) <| tcase r1.1 (fun _ =>
    bnd (f154 x2 r1.2.1) fun r3 => gd ((0 + 2) + 2 ≤ 13) <| tcase r3.1 (fun _ =>
    if x1 = (x2 : Int) then
    c18 x1 x2 x3 x4 x5 0 (r3.2.1, ((0 + 2) + 2))
  else
    c18 x1 x2 x3 x4 x5 1 (r3.2.1, ((0 + 2) + 2))) (fun e => gd (((0 + 2) + 2) + 1 ≤ 13) (some (.inr e, (r3.2.1, ((0 + 2) + 2)))))) (fun e => gd ((0 + 2) + 1 ≤ 13) (some (.inr e, (r1.2.1, (0 + 2)))))
theorem uX11_street {g : SG} (hg : GOK g) {σ0 : SG} {c18 : Int → Int → Int → Int → Int → Int → HU → Option ((Int ⊕ Nat) × HU)} (k18 : ∀ (x1 : Int) (x2 : Int) (x3 : Int) (x4 : Int) (x5 : Int) (y0 : Int) (s : HU) (b : ((Int ⊕ Nat) × HU)), c18 x1 x2 x3 x4 x5 y0 s = some b → WK 112 (oT (fun r => some (aI r)) b.1) σ0 (abU 2 70 g b.2) 18 [(0, aR 2), (1, aI x1), (2, aI x2), (3, aI x3), (4, aI x4), (5, aI x5)] [aI y0] (abU 2 70 g s) (cnU s).1 (cnU s).2) : ∀ {x1 : Int} {x2 : Int} {x3 : Int} {x4 : Int} {x5 : Int} {h : HH} {b : ((Int ⊕ Nat) × HU)}, bX11_street nX11_needPlace c18 x1 x2 x3 x4 x5 h = some b → WK 112 (oT (fun r => some (aI r)) b.1) σ0 (abU 2 70 g b.2) 0 [(0, aR 2), (1, aI x1), (2, aI x2), (3, aI x3), (4, aI x4), (5, aI x5)] [] (abU 2 70 g (h, 0)) (cnU (h, 0)).1 (cnU (h, 0)).2 := by
  intro x1 x2 x3 x4 x5 h b q
  have e : ∀ (f154 : Int → HH → Option ((Unit ⊕ Nat) × HU)) , bX11_street f154 c18 x1 x2 x3 x4 x5 h = segT 2 70 g.2.2.2.2 (krTI 13) (kxT 13) (clC 154 (pX11_needPlace f154 13) clN) csX11_street (cuC 18 (fun l st s => tkC 0 2 l <| tkI 1 l fun x1 => tkI 2 l fun x2 => tkI 3 l fun x3 => tkI 4 l fun x4 => tkI 5 l fun x5 => skI st fun y0 st => skE st (c18 x1 x2 x3 x4 x5 y0 s)) cuN) 1000 0 [(0, aR 2), (1, aI x1), (2, aI x2), (3, aI x3), (4, aI x4), (5, aI x5)] [] (h, 0) := fun _ => rfl
  rw [e nX11_needPlace] at q
  clear e
  refine segT_wk (by decide) (by decide) hg rwX11_street (CLK_C (pX11_needPlace_ok hg (by decide)) CLK_N) (by decide) (krTI_ok (by decide)) (kxT_ok (by decide)) ?_ q
  clear q
  refine ct_C ?_ (ct_N)
  · intro l st s q
    obtain ⟨m0, q1⟩ := tkC_of q
    obtain ⟨x1, m1, q2⟩ := tkI_of q1
    obtain ⟨x2, m2, q3⟩ := tkI_of q2
    obtain ⟨x3, m3, q4⟩ := tkI_of q3
    obtain ⟨x4, m4, q5⟩ := tkI_of q4
    obtain ⟨x5, m5, q6⟩ := tkI_of q5
    obtain ⟨y0, t0, rfl, q7⟩ := skI_of q6
    obtain ⟨rfl, q8⟩ := skE_of q7
    exact WK_less (k18 _ _ _ _ _ _ _ _ q8) (List.forall_mem_cons.mpr ⟨m0, (List.forall_mem_cons.mpr ⟨m1, (List.forall_mem_cons.mpr ⟨m2, (List.forall_mem_cons.mpr ⟨m3, (List.forall_mem_cons.mpr ⟨m4, (List.forall_mem_cons.mpr ⟨m5, (fun _ h => absurd h List.not_mem_nil)⟩)⟩)⟩)⟩)⟩)⟩)
def nX11_street (x1 : Int) (x2 : Int) (x3 : Int) (x4 : Int) (x5 : Int) (h : HH) : Option ((Int ⊕ Nat) × HU) := bX11_street nX11_needPlace nX11_street_18 x1 x2 x3 x4 x5 h
theorem wX11_street {g : SG} (hg : GOK g) {σ0 : SG} : ∀ {x1 : Int} {x2 : Int} {x3 : Int} {x4 : Int} {x5 : Int} {h : HH} {b : ((Int ⊕ Nat) × HU)}, nX11_street x1 x2 x3 x4 x5 h = some b → WK 112 (oT (fun r => some (aI r)) b.1) σ0 (abU 2 70 g b.2) 0 [(0, aR 2), (1, aI x1), (2, aI x2), (3, aI x3), (4, aI x4), (5, aI x5)] [] (abU 2 70 g (h, 0)) (cnU (h, 0)).1 (cnU (h, 0)).2 := by
  intro x1 x2 x3 x4 x5 h b q
  exact uX11_street hg (fun _ _ _ _ _ _ _ _ q => wX11_street_18 hg q) q
theorem mX11_street {g : SG} (hg : GOK g) {h : HH} {x1 : Int} {x2 : Int} {x3 : Int} {x4 : Int} {x5 : Int} {b : ((Int ⊕ Nat) × HU)} (q : nX11_street x1 x2 x3 x4 x5 h = some b) : MCT 112 [] [aR 2, aI x1, aI x2, aI x3, aI x4, aI x5] (abU 2 70 g (h, 0)) (oT (fun r => some (aI r)) b.1) (abU 2 70 g b.2) :=
  mct_of (by decide) (MFok 112 (by decide +kernel)) (fun _ => Nat.le_of_ble_eq_true rfl) (wX11_street hg q)
def pX11_street {β : Type} (z : Int → Int → Int → Int → Int → HH → Option ((Int ⊕ Nat) × HU)) (rc : Nat) : PT β := fun as s f => skC 2 as fun as => skI as fun x1 as => skI as fun x2 as => skI as fun x3 as => skI as fun x4 as => skI as fun x5 as => skE as (liTT rc 13 (fun r => some (aI r)) s (z x1 x2 x3 x4 x5 s.1) f)
theorem pX11_street_ok {β : Type} {g : SG} (hg : GOK g) {rc rs : Nat} (hrs : 6 * rc ≤ rs) : CLK1 (β := β) 112 (pX11_street nX11_street rc) (abU 2 70 g) cnU rc rs := fun as s f b q => by
  obtain ⟨as, rfl, q1⟩ := skC_of q
  obtain ⟨x1, as, rfl, q2⟩ := skI_of q1
  obtain ⟨x2, as, rfl, q3⟩ := skI_of q2
  obtain ⟨x3, as, rfl, q4⟩ := skI_of q3
  obtain ⟨x4, as, rfl, q5⟩ := skI_of q4
  obtain ⟨x5, as, rfl, q6⟩ := skI_of q5
  obtain ⟨rfl, q0⟩ := skE_of q6
  exact liTT_ok q0 (by decide) (fun _ e => mX11_street hg e) rfl rfl hrs
