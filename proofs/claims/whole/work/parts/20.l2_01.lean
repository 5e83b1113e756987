def csX1_costOfSet : List (Nat × List (Nat × ARow)) := [(45, [(0, 1, .iload_n 2, 0, 0, 0), (1, 3, .ifCond .ne 5, 6, 0, 0), (4, 1, .iconst 0, 0, 0, 0), (5, 1, .ireturn, 0, 0, 0), (6, 1, .iconst (-1), 0, 0, 0), (7, 1, .istore_n 3, 0, 0, 0), (8, 1, .iconst 0, 0, 0, 0), (9, 2, .istore 4, 0, 0, 0), (11, 1, .iconst 0, 0, 0, 0), (12, 2, .istore 5, 0, 0, 0), (14, 2, .iload 5, 0, 0, 0), (16, 1, .aload_n 0, 0, 0, 0), (17, 3, .getfield 25, 1, 2, 0), (20, 3, .if_icmp .ge 92, 112, 0, 0), (23, 1, .iload_n 2, 0, 0, 0), (24, 2, .iload 5, 0, 0, 0), (26, 3, .invokestatic 33, 15, 2, 0), (29, 3, .ifCond .eq 77, 106, 0, 0), (32, 2, .iload 4, 0, 0, 0), (34, 1, .aload_n 0, 0, 0, 0), (35, 3, .getfield 21, 1, 0, 2), (38, 3, .getfield 55, 2, 2, 2), (41, 1, .aload_n 0, 0, 0, 0), (42, 3, .getfield 9, 1, 1, 2)]),
  (86, [(45, 2, .iload 5, 0, 0, 0), (47, 1, .iaload, 0, 0, 0), (48, 1, .iaload, 0, 0, 0), (49, 1, .iadd, 0, 0, 0), (50, 2, .istore 4, 0, 0, 0), (52, 1, .aload_n 0, 0, 0, 0), (53, 3, .getfield 15, 1, 3, 2), (56, 1, .iload_n 2, 0, 0, 0), (57, 2, .bipush 9, 0, 0, 0), (59, 1, .imul, 0, 0, 0), (60, 2, .iload 5, 0, 0, 0), (62, 1, .iadd, 0, 0, 0), (63, 1, .iaload, 0, 0, 0), (64, 2, .istore 6, 0, 0, 0), (66, 1, .aload_n 0, 0, 0, 0), (67, 2, .iload 5, 0, 0, 0), (69, 3, .invokevirtual 58, 19, 2, 1), (72, 2, .istore 7, 0, 0, 0), (74, 2, .iload 6, 0, 0, 0), (76, 1, .iconst (-1), 0, 0, 0), (77, 3, .if_icmp .eq 29, 106, 0, 0), (80, 2, .iload 7, 0, 0, 0), (82, 1, .iconst (-1), 0, 0, 0), (83, 3, .if_icmp .eq 23, 106, 0, 0)]),
  (130, [(86, 1, .iload_n 3, 0, 0, 0), (87, 1, .iconst (-1), 0, 0, 0), (88, 3, .if_icmp .eq 12, 100, 0, 0), (91, 2, .iload 6, 0, 0, 0), (93, 2, .iload 7, 0, 0, 0), (95, 1, .iadd, 0, 0, 0), (96, 1, .iload_n 3, 0, 0, 0), (97, 3, .if_icmp .ge 9, 106, 0, 0), (100, 2, .iload 6, 0, 0, 0), (102, 2, .iload 7, 0, 0, 0), (104, 1, .iadd, 0, 0, 0), (105, 1, .istore_n 3, 0, 0, 0), (106, 3, .iinc 5 1, 0, 0, 0), (109, 3, .goto (-95), 14, 0, 0), (112, 1, .iload_n 3, 0, 0, 0), (113, 1, .iconst (-1), 0, 0, 0), (114, 3, .if_icmp .eq 34, 148, 0, 0), (117, 1, .iload_n 3, 0, 0, 0), (118, 1, .aload_n 0, 0, 0, 0), (119, 3, .getfield 21, 1, 0, 2), (122, 3, .getfield 62, 2, 13, 2), (125, 1, .iload_n 1, 0, 0, 0), (126, 1, .iaload, 0, 0, 0), (127, 3, .if_icmp .gt 21, 148, 0, 0)]),
  (100000, [(130, 2, .iload 4, 0, 0, 0), (132, 1, .aload_n 0, 0, 0, 0), (133, 3, .getfield 21, 1, 0, 2), (136, 3, .getfield 65, 2, 11, 2), (139, 1, .iload_n 1, 0, 0, 0), (140, 1, .iaload, 0, 0, 0), (141, 3, .if_icmp .gt 7, 148, 0, 0), (144, 1, .iconst 1, 0, 0, 0), (145, 3, .goto 4, 149, 0, 0), (148, 1, .iconst 0, 0, 0, 0), (149, 2, .istore 5, 0, 0, 0), (151, 2, .iload 5, 0, 0, 0), (153, 3, .ifCond .eq 17, 170, 0, 0), (156, 1, .iload_n 3, 0, 0, 0), (157, 1, .aload_n 0, 0, 0, 0), (158, 3, .getfield 21, 1, 0, 2), (161, 3, .getfield 41, 2, 12, 2), (164, 1, .iload_n 1, 0, 0, 0), (165, 1, .iaload, 0, 0, 0), (166, 1, .isub, 0, 0, 0), (167, 3, .goto 4, 171, 0, 0), (170, 1, .iconst (-1), 0, 0, 0), (171, 1, .ireturn, 0, 0, 0)])]
theorem rwX1_costOfSet : rowsB (mB 17) (mO 17) (mX 17) (mIni 17) (mFr 17) (mLo 17) (mT 17) csX1_costOfSet = true := by decide +kernel
def bX1_costOfSet_149 (h : HH) (x1 : Int) (x3 : Int) (y0 : Int) : Option Int :=
  if y0 = (0 : Int) then
    some (-1)
  else
    gd ((0 : Int) ≤ x1 ∧ x1 < (3 : Int)) <|
    gd (R32 (x3 - (h.1 24 x1))) <|
    some (x3 - (h.1 24 x1))
theorem uX1_costOfSet_149 {g : SG} (hg : GOK g) {σ0 : SG} {h : HH} : ∀ {x1 : Int} {x3 : Int} {y0 : Int} {b : Int}, bX1_costOfSet_149 h x1 x3 y0 = some b → WK 17 (.inl (some (aI b))) σ0 (abH 2 70 g h) 149 [(0, aR 49), (1, aI x1), (3, aI x3)] [aI y0] (abH 2 70 g h) 0 0 := by
  intro x1 x3 y0 b q
  have e : bX1_costOfSet_149 h x1 x3 y0 = segP 2 70 g.2.2.2.2 h krPI clNP csX1_costOfSet cuN 1000 149 [(0, aR 49), (1, aI x1), (3, aI x3)] [aI y0] := rfl
  rw [e] at q
  clear e
  refine segP_wk (by decide) (by decide) hg rwX1_costOfSet CLKP_N krPI_ok ?_ q
  clear q
  exact ct_N
def nX1_costOfSet_149 (h : HH) (x1 : Int) (x3 : Int) (y0 : Int) : Option Int := bX1_costOfSet_149 h x1 x3 y0
theorem wX1_costOfSet_149 {g : SG} (hg : GOK g) {σ0 : SG} {h : HH} : ∀ {x1 : Int} {x3 : Int} {y0 : Int} {b : Int}, nX1_costOfSet_149 h x1 x3 y0 = some b → WK 17 (.inl (some (aI b))) σ0 (abH 2 70 g h) 149 [(0, aR 49), (1, aI x1), (3, aI x3)] [aI y0] (abH 2 70 g h) 0 0 := by
  intro x1 x3 y0 b q
  exact uX1_costOfSet_149 hg q
def bX1_costOfSet_148 (h : HH) (c149 : Int → Int → Int → Option Int) (x1 : Int) (x3 : Int) : Option Int :=
  c149 x1 x3 0
theorem uX1_costOfSet_148 {g : SG} (hg : GOK g) {σ0 : SG} {h : HH} {c149 : Int → Int → Int → Option Int} (k149 : ∀ (x1 : Int) (x3 : Int) (y0 : Int) (b : Int), c149 x1 x3 y0 = some b → WK 17 (.inl (some (aI b))) σ0 (abH 2 70 g h) 149 [(0, aR 49), (1, aI x1), (3, aI x3)] [aI y0] (abH 2 70 g h) 0 0) : ∀ {x1 : Int} {x3 : Int} {b : Int}, bX1_costOfSet_148 h c149 x1 x3 = some b → WK 17 (.inl (some (aI b))) σ0 (abH 2 70 g h) 148 [(0, aR 49), (1, aI x1), (3, aI x3)] [] (abH 2 70 g h) 0 0 := by
  intro x1 x3 b q
  have e : bX1_costOfSet_148 h c149 x1 x3 = segP 2 70 g.2.2.2.2 h krPI clNP csX1_costOfSet (cuC 149 (fun l st s => tkC 0 49 l <| tkI 1 l fun x1 => tkI 3 l fun x3 => skI st fun y0 st => skE st (c149 x1 x3 y0)) cuN) 1000 148 [(0, aR 49), (1, aI x1), (3, aI x3)] [] := rfl
  rw [e] at q
  clear e
  refine segP_wk (by decide) (by decide) hg rwX1_costOfSet CLKP_N krPI_ok ?_ q
  clear q
  refine ct_C ?_ (ct_N)
  · intro l st _ q
    obtain ⟨m0, q1⟩ := tkC_of q
    obtain ⟨x1, m1, q2⟩ := tkI_of q1
    obtain ⟨x3, m3, q3⟩ := tkI_of q2
    obtain ⟨y0, t0, rfl, q4⟩ := skI_of q3
    obtain ⟨rfl, q5⟩ := skE_of q4
    exact WK_less (k149 _ _ _ _ q5) (List.forall_mem_cons.mpr ⟨m0, (List.forall_mem_cons.mpr ⟨m1, (List.forall_mem_cons.mpr ⟨m3, (fun _ h => absurd h List.not_mem_nil)⟩)⟩)⟩)
def nX1_costOfSet_148 (h : HH) (x1 : Int) (x3 : Int) : Option Int := bX1_costOfSet_148 h (nX1_costOfSet_149 h) x1 x3
theorem wX1_costOfSet_148 {g : SG} (hg : GOK g) {σ0 : SG} {h : HH} : ∀ {x1 : Int} {x3 : Int} {b : Int}, nX1_costOfSet_148 h x1 x3 = some b → WK 17 (.inl (some (aI b))) σ0 (abH 2 70 g h) 148 [(0, aR 49), (1, aI x1), (3, aI x3)] [] (abH 2 70 g h) 0 0 := by
  intro x1 x3 b q
  exact uX1_costOfSet_148 hg (fun _ _ _ _ q => wX1_costOfSet_149 hg q) q
def bX1_costOfSet_106 (h : HH) (c14 : Int → Int → Int → Int → Int → Option Int) (x1 : Int) (x2 : Int) (x3 : Int) (x4 : Int) (x5 : Int) : Option Int :=
  gd (R32 (x5 + 1)) <|
    c14 x1 x2 x3 x4 (x5 + 1)
theorem uX1_costOfSet_106 {g : SG} (hg : GOK g) {σ0 : SG} {h : HH} {c14 : Int → Int → Int → Int → Int → Option Int} (k14 : ∀ (x1 : Int) (x2 : Int) (x3 : Int) (x4 : Int) (x5 : Int) (b : Int), c14 x1 x2 x3 x4 x5 = some b → WK 17 (.inl (some (aI b))) σ0 (abH 2 70 g h) 14 [(0, aR 49), (1, aI x1), (2, aI x2), (3, aI x3), (4, aI x4), (5, aI x5)] [] (abH 2 70 g h) 0 0) : ∀ {x1 : Int} {x2 : Int} {x3 : Int} {x4 : Int} {x5 : Int} {b : Int}, bX1_costOfSet_106 h c14 x1 x2 x3 x4 x5 = some b → WK 17 (.inl (some (aI b))) σ0 (abH 2 70 g h) 106 [(0, aR 49), (1, aI x1), (2, aI x2), (3, aI x3), (4, aI x4), (5, aI x5)] [] (abH 2 70 g h) 0 0 := by
  intro x1 x2 x3 x4 x5 b q
  have e : bX1_costOfSet_106 h c14 x1 x2 x3 x4 x5 = segP 2 70 g.2.2.2.2 h krPI clNP csX1_costOfSet (cuC 14 (fun l st s => tkC 0 49 l <| tkI 1 l fun x1 => tkI 2 l fun x2 => tkI 3 l fun x3 => tkI 4 l fun x4 => tkI 5 l fun x5 => skE st (c14 x1 x2 x3 x4 x5)) cuN) 1000 106 [(0, aR 49), (1, aI x1), (2, aI x2), (3, aI x3), (4, aI x4), (5, aI x5)] [] := rfl
  rw [e] at q
  clear e
  refine segP_wk (by decide) (by decide) hg rwX1_costOfSet CLKP_N krPI_ok ?_ q
  clear q
  refine ct_C ?_ (ct_N)
  · intro l st _ q
    obtain ⟨m0, q1⟩ := tkC_of q
    obtain ⟨x1, m1, q2⟩ := tkI_of q1
    obtain ⟨x2, m2, q3⟩ := tkI_of q2
    obtain ⟨x3, m3, q4⟩ := tkI_of q3
    obtain ⟨x4, m4, q5⟩ := tkI_of q4
    obtain ⟨x5, m5, q6⟩ := tkI_of q5
    obtain ⟨rfl, q7⟩ := skE_of q6
    exact WK_less (k14 _ _ _ _ _ _ q7) (List.forall_mem_cons.mpr ⟨m0, (List.forall_mem_cons.mpr ⟨m1, (List.forall_mem_cons.mpr ⟨m2, (List.forall_mem_cons.mpr ⟨m3, (List.forall_mem_cons.mpr ⟨m4, (List.forall_mem_cons.mpr ⟨m5, (fun _ h => absurd h List.not_mem_nil)⟩)⟩)⟩)⟩)⟩)⟩)
def nX1_costOfSet_106 (h : HH) (c14 : Int → Int → Int → Int → Int → Option Int) (x1 : Int) (x2 : Int) (x3 : Int) (x4 : Int) (x5 : Int) : Option Int := bX1_costOfSet_106 h c14 x1 x2 x3 x4 x5
theorem wX1_costOfSet_106 {g : SG} (hg : GOK g) {σ0 : SG} {h : HH} {c14 : Int → Int → Int → Int → Int → Option Int} (k14 : ∀ (x1 : Int) (x2 : Int) (x3 : Int) (x4 : Int) (x5 : Int) (b : Int), c14 x1 x2 x3 x4 x5 = some b → WK 17 (.inl (some (aI b))) σ0 (abH 2 70 g h) 14 [(0, aR 49), (1, aI x1), (2, aI x2), (3, aI x3), (4, aI x4), (5, aI x5)] [] (abH 2 70 g h) 0 0) : ∀ {x1 : Int} {x2 : Int} {x3 : Int} {x4 : Int} {x5 : Int} {b : Int}, nX1_costOfSet_106 h c14 x1 x2 x3 x4 x5 = some b → WK 17 (.inl (some (aI b))) σ0 (abH 2 70 g h) 106 [(0, aR 49), (1, aI x1), (2, aI x2), (3, aI x3), (4, aI x4), (5, aI x5)] [] (abH 2 70 g h) 0 0 := by
  intro x1 x2 x3 x4 x5 b q
  exact uX1_costOfSet_106 hg k14 q
def bX1_costOfSet_100 (h : HH) (c106 : Int → Int → Int → Int → Int → Option Int) (x1 : Int) (x2 : Int) (x4 : Int) (x5 : Int) (x6 : Int) (x7 : Int) : Option Int :=
  gd (R32 (x6 + x7)) <|
    c106 x1 x2 (x6 + x7) x4 x5
theorem uX1_costOfSet_100 {g : SG} (hg : GOK g) {σ0 : SG} {h : HH} {c106 : Int → Int → Int → Int → Int → Option Int} (k106 : ∀ (x1 : Int) (x2 : Int) (x3 : Int) (x4 : Int) (x5 : Int) (b : Int), c106 x1 x2 x3 x4 x5 = some b → WK 17 (.inl (some (aI b))) σ0 (abH 2 70 g h) 106 [(0, aR 49), (1, aI x1), (2, aI x2), (3, aI x3), (4, aI x4), (5, aI x5)] [] (abH 2 70 g h) 0 0) : ∀ {x1 : Int} {x2 : Int} {x4 : Int} {x5 : Int} {x6 : Int} {x7 : Int} {b : Int}, bX1_costOfSet_100 h c106 x1 x2 x4 x5 x6 x7 = some b → WK 17 (.inl (some (aI b))) σ0 (abH 2 70 g h) 100 [(0, aR 49), (1, aI x1), (2, aI x2), (4, aI x4), (5, aI x5), (6, aI x6), (7, aI x7)] [] (abH 2 70 g h) 0 0 := by
  intro x1 x2 x4 x5 x6 x7 b q
  have e : bX1_costOfSet_100 h c106 x1 x2 x4 x5 x6 x7 = segP 2 70 g.2.2.2.2 h krPI clNP csX1_costOfSet (cuC 106 (fun l st s => tkC 0 49 l <| tkI 1 l fun x1 => tkI 2 l fun x2 => tkI 3 l fun x3 => tkI 4 l fun x4 => tkI 5 l fun x5 => skE st (c106 x1 x2 x3 x4 x5)) cuN) 1000 100 [(0, aR 49), (1, aI x1), (2, aI x2), (4, aI x4), (5, aI x5), (6, aI x6), (7, aI x7)] [] := rfl
  rw [e] at q
  clear e
  refine segP_wk (by decide) (by decide) hg rwX1_costOfSet CLKP_N krPI_ok ?_ q
  clear q
  refine ct_C ?_ (ct_N)
  · intro l st _ q
    obtain ⟨m0, q1⟩ := tkC_of q
    obtain ⟨x1, m1, q2⟩ := tkI_of q1
    obtain ⟨x2, m2, q3⟩ := tkI_of q2
    obtain ⟨x3, m3, q4⟩ := tkI_of q3
    obtain ⟨x4, m4, q5⟩ := tkI_of q4
    obtain ⟨x5, m5, q6⟩ := tkI_of q5
    obtain ⟨rfl, q7⟩ := skE_of q6
    exact WK_less (k106 _ _ _ _ _ _ q7) (List.forall_mem_cons.mpr ⟨m0, (List.forall_mem_cons.mpr ⟨m1, (List.forall_mem_cons.mpr ⟨m2, (List.forall_mem_cons.mpr ⟨m3, (List.forall_mem_cons.mpr ⟨m4, (List.forall_mem_cons.mpr ⟨m5, (fun _ h => absurd h List.not_mem_nil)⟩)⟩)⟩)⟩)⟩)⟩)
def nX1_costOfSet_100 (h : HH) (c14 : Int → Int → Int → Int → Int → Option Int) (x1 : Int) (x2 : Int) (x4 : Int) (x5 : Int) (x6 : Int) (x7 : Int) : Option Int := bX1_costOfSet_100 h (nX1_costOfSet_106 h c14) x1 x2 x4 x5 x6 x7
theorem wX1_costOfSet_100 {g : SG} (hg : GOK g) {σ0 : SG} {h : HH} {c14 : Int → Int → Int → Int → Int → Option Int} (k14 : ∀ (x1 : Int) (x2 : Int) (x3 : Int) (x4 : Int) (x5 : Int) (b : Int), c14 x1 x2 x3 x4 x5 = some b → WK 17 (.inl (some (aI b))) σ0 (abH 2 70 g h) 14 [(0, aR 49), (1, aI x1), (2, aI x2), (3, aI x3), (4, aI x4), (5, aI x5)] [] (abH 2 70 g h) 0 0) : ∀ {x1 : Int} {x2 : Int} {x4 : Int} {x5 : Int} {x6 : Int} {x7 : Int} {b : Int}, nX1_costOfSet_100 h c14 x1 x2 x4 x5 x6 x7 = some b → WK 17 (.inl (some (aI b))) σ0 (abH 2 70 g h) 100 [(0, aR 49), (1, aI x1), (2, aI x2), (4, aI x4), (5, aI x5), (6, aI x6), (7, aI x7)] [] (abH 2 70 g h) 0 0 := by
  intro x1 x2 x4 x5 x6 x7 b q
  exact uX1_costOfSet_100 hg (fun _ _ _ _ _ _ q => wX1_costOfSet_106 hg k14 q) q
def bX1_costOfSet_32 (f19 : HH → Int → Option Int) (h : HH) (c100 : Int → Int → Int → Int → Int → Int → Option Int) (c106 : Int → Int → Int → Int → Int → Option Int) (x1 : Int) (x2 : Int) (x3 : Int) (x4 : Int) (x5 : Int) : Option Int :=
  gd ((0 : Int) ≤ x5 ∧ x5 < (9 : Int)) <|
    gd ((0 : Int) ≤ (h.1 50 x5) ∧ (h.1 50 x5) < (9 : Int)) <|
    gd (R32 (x4 + (h.1 15 (h.1 50 x5)))) <|
    gd (R32 (x2 * 9)) <|
    gd (R32 ((x2 * 9) + x5)) <|
    gd ((0 : Int) ≤ ((x2 * 9) + x5) ∧ ((x2 * 9) + x5) < (4608 : Int)) <|
    bnd (f19 h x5) fun r1 =>
    if (h.1 51 ((x2 * 9) + x5)) = ((-1) : Int) then
    c106 x1 x2 x3 (x4 + (h.1 15 (h.1 50 x5))) x5
  else
    if r1 = ((-1) : Int) then
    c106 x1 x2 x3 (x4 + (h.1 15 (h.1 50 x5))) x5
  else
    if x3 = ((-1) : Int) then
    c100 x1 x2 (x4 + (h.1 15 (h.1 50 x5))) x5 (h.1 51 ((x2 * 9) + x5)) r1
  else
    gd (R32 ((h.1 51 ((x2 * 9) + x5)) + r1)) <|
    if ((h.1 51 ((x2 * 9) + x5)) + r1) < (x3 : Int) then
    c100 x1 x2 (x4 + (h.1 15 (h.1 50 x5))) x5 (h.1 51 ((x2 * 9) + x5)) r1
  else
    c106 x1 x2 x3 (x4 + (h.1 15 (h.1 50 x5))) x5
theorem uX1_costOfSet_32 {g : SG} (hg : GOK g) {σ0 : SG} {h : HH} {c100 : Int → Int → Int → Int → Int → Int → Option Int} {c106 : Int → Int → Int → Int → Int → Option Int} (k100 : ∀ (x1 : Int) (x2 : Int) (x4 : Int) (x5 : Int) (x6 : Int) (x7 : Int) (b : Int), c100 x1 x2 x4 x5 x6 x7 = some b → WK 17 (.inl (some (aI b))) σ0 (abH 2 70 g h) 100 [(0, aR 49), (1, aI x1), (2, aI x2), (4, aI x4), (5, aI x5), (6, aI x6), (7, aI x7)] [] (abH 2 70 g h) 0 0) (k106 : ∀ (x1 : Int) (x2 : Int) (x3 : Int) (x4 : Int) (x5 : Int) (b : Int), c106 x1 x2 x3 x4 x5 = some b → WK 17 (.inl (some (aI b))) σ0 (abH 2 70 g h) 106 [(0, aR 49), (1, aI x1), (2, aI x2), (3, aI x3), (4, aI x4), (5, aI x5)] [] (abH 2 70 g h) 0 0) : ∀ {x1 : Int} {x2 : Int} {x3 : Int} {x4 : Int} {x5 : Int} {b : Int}, bX1_costOfSet_32 nX1_homeFrom h c100 c106 x1 x2 x3 x4 x5 = some b → WK 17 (.inl (some (aI b))) σ0 (abH 2 70 g h) 32 [(0, aR 49), (1, aI x1), (2, aI x2), (3, aI x3), (4, aI x4), (5, aI x5)] [] (abH 2 70 g h) 0 0 := by
  intro x1 x2 x3 x4 x5 b q
  have e : ∀ (f19 : HH → Int → Option Int) , bX1_costOfSet_32 f19 h c100 c106 x1 x2 x3 x4 x5 = segP 2 70 g.2.2.2.2 h krPI (clCP 19 (pX1_homeFrom f19 h) clNP) csX1_costOfSet (cuC 100 (fun l st s => tkC 0 49 l <| tkI 1 l fun x1 => tkI 2 l fun x2 => tkI 4 l fun x4 => tkI 5 l fun x5 => tkI 6 l fun x6 => tkI 7 l fun x7 => skE st (c100 x1 x2 x4 x5 x6 x7)) (cuC 106 (fun l st s => tkC 0 49 l <| tkI 1 l fun x1 => tkI 2 l fun x2 => tkI 3 l fun x3 => tkI 4 l fun x4 => tkI 5 l fun x5 => skE st (c106 x1 x2 x3 x4 x5)) cuN)) 1000 32 [(0, aR 49), (1, aI x1), (2, aI x2), (3, aI x3), (4, aI x4), (5, aI x5)] [] := fun _ => rfl
  rw [e nX1_homeFrom] at q
  clear e
  refine segP_wk (by decide) (by decide) hg rwX1_costOfSet (CLKP_C (pX1_homeFrom_ok hg) CLKP_N) krPI_ok ?_ q
  clear q
  refine ct_C ?_ (ct_C ?_ (ct_N))
  · intro l st _ q
    obtain ⟨m0, q1⟩ := tkC_of q
    obtain ⟨x1, m1, q2⟩ := tkI_of q1
    obtain ⟨x2, m2, q3⟩ := tkI_of q2
    obtain ⟨x4, m4, q4⟩ := tkI_of q3
    obtain ⟨x5, m5, q5⟩ := tkI_of q4
    obtain ⟨x6, m6, q6⟩ := tkI_of q5
    obtain ⟨x7, m7, q7⟩ := tkI_of q6
    obtain ⟨rfl, q8⟩ := skE_of q7
    exact WK_less (k100 _ _ _ _ _ _ _ q8) (List.forall_mem_cons.mpr ⟨m0, (List.forall_mem_cons.mpr ⟨m1, (List.forall_mem_cons.mpr ⟨m2, (List.forall_mem_cons.mpr ⟨m4, (List.forall_mem_cons.mpr ⟨m5, (List.forall_mem_cons.mpr ⟨m6, (List.forall_mem_cons.mpr ⟨m7, (fun _ h => absurd h List.not_mem_nil)⟩)⟩)⟩)⟩)⟩)⟩)⟩)
  · intro l st _ q
    obtain ⟨m0, q1⟩ := tkC_of q
    obtain ⟨x1, m1, q2⟩ := tkI_of q1
    obtain ⟨x2, m2, q3⟩ := tkI_of q2
    obtain ⟨x3, m3, q4⟩ := tkI_of q3
    obtain ⟨x4, m4, q5⟩ := tkI_of q4
    obtain ⟨x5, m5, q6⟩ := tkI_of q5
    obtain ⟨rfl, q7⟩ := skE_of q6
    exact WK_less (k106 _ _ _ _ _ _ q7) (List.forall_mem_cons.mpr ⟨m0, (List.forall_mem_cons.mpr ⟨m1, (List.forall_mem_cons.mpr ⟨m2, (List.forall_mem_cons.mpr ⟨m3, (List.forall_mem_cons.mpr ⟨m4, (List.forall_mem_cons.mpr ⟨m5, (fun _ h => absurd h List.not_mem_nil)⟩)⟩)⟩)⟩)⟩)⟩)
def nX1_costOfSet_32 (h : HH) (c14 : Int → Int → Int → Int → Int → Option Int) (x1 : Int) (x2 : Int) (x3 : Int) (x4 : Int) (x5 : Int) : Option Int := bX1_costOfSet_32 nX1_homeFrom h (nX1_costOfSet_100 h c14) (nX1_costOfSet_106 h c14) x1 x2 x3 x4 x5
theorem wX1_costOfSet_32 {g : SG} (hg : GOK g) {σ0 : SG} {h : HH} {c14 : Int → Int → Int → Int → Int → Option Int} (k14 : ∀ (x1 : Int) (x2 : Int) (x3 : Int) (x4 : Int) (x5 : Int) (b : Int), c14 x1 x2 x3 x4 x5 = some b → WK 17 (.inl (some (aI b))) σ0 (abH 2 70 g h) 14 [(0, aR 49), (1, aI x1), (2, aI x2), (3, aI x3), (4, aI x4), (5, aI x5)] [] (abH 2 70 g h) 0 0) : ∀ {x1 : Int} {x2 : Int} {x3 : Int} {x4 : Int} {x5 : Int} {b : Int}, nX1_costOfSet_32 h c14 x1 x2 x3 x4 x5 = some b → WK 17 (.inl (some (aI b))) σ0 (abH 2 70 g h) 32 [(0, aR 49), (1, aI x1), (2, aI x2), (3, aI x3), (4, aI x4), (5, aI x5)] [] (abH 2 70 g h) 0 0 := by
  intro x1 x2 x3 x4 x5 b q
  exact uX1_costOfSet_32 hg (fun _ _ _ _ _ _ _ q => wX1_costOfSet_100 hg k14 q) (fun _ _ _ _ _ _ q => wX1_costOfSet_106 hg k14 q) q
def bX1_costOfSet_14 (f15 : HH → Int → Int → Option Int) (h : HH) (c32 : Int → Int → Int → Int → Int → Option Int) (c106 : Int → Int → Int → Int → Int → Option Int) (c148 : Int → Int → Option Int) (c149 : Int → Int → Int → Option Int) (x1 : Int) (x2 : Int) (x3 : Int) (x4 : Int) (x5 : Int) : Option Int :=
  if x5 < ((h.1 49 2) : Int) then
    bnd (f15 h x2 x5) fun r1 =>
    if r1 = (0 : Int) then
    c106 x1 x2 x3 x4 x5
  else
    c32 x1 x2 x3 x4 x5
  else
    if x3 = ((-1) : Int) then
    c148 x1 x3
  else
    gd ((0 : Int) ≤ x1 ∧ x1 < (3 : Int)) <|
    if ((h.1 25 x1) : Int) < x3 then
    c148 x1 x3
  else
    gd ((0 : Int) ≤ x1 ∧ x1 < (3 : Int)) <|
    if ((h.1 23 x1) : Int) < x4 then
    c148 x1 x3
  else
    c149 x1 x3 1
theorem uX1_costOfSet_14 {g : SG} (hg : GOK g) {σ0 : SG} {h : HH} {c32 : Int → Int → Int → Int → Int → Option Int} {c106 : Int → Int → Int → Int → Int → Option Int} {c148 : Int → Int → Option Int} {c149 : Int → Int → Int → Option Int} (k32 : ∀ (x1 : Int) (x2 : Int) (x3 : Int) (x4 : Int) (x5 : Int) (b : Int), c32 x1 x2 x3 x4 x5 = some b → WK 17 (.inl (some (aI b))) σ0 (abH 2 70 g h) 32 [(0, aR 49), (1, aI x1), (2, aI x2), (3, aI x3), (4, aI x4), (5, aI x5)] [] (abH 2 70 g h) 0 0) (k106 : ∀ (x1 : Int) (x2 : Int) (x3 : Int) (x4 : Int) (x5 : Int) (b : Int), c106 x1 x2 x3 x4 x5 = some b → WK 17 (.inl (some (aI b))) σ0 (abH 2 70 g h) 106 [(0, aR 49), (1, aI x1), (2, aI x2), (3, aI x3), (4, aI x4), (5, aI x5)] [] (abH 2 70 g h) 0 0) (k148 : ∀ (x1 : Int) (x3 : Int) (b : Int), c148 x1 x3 = some b → WK 17 (.inl (some (aI b))) σ0 (abH 2 70 g h) 148 [(0, aR 49), (1, aI x1), (3, aI x3)] [] (abH 2 70 g h) 0 0) (k149 : ∀ (x1 : Int) (x3 : Int) (y0 : Int) (b : Int), c149 x1 x3 y0 = some b → WK 17 (.inl (some (aI b))) σ0 (abH 2 70 g h) 149 [(0, aR 49), (1, aI x1), (3, aI x3)] [aI y0] (abH 2 70 g h) 0 0) : ∀ {x1 : Int} {x2 : Int} {x3 : Int} {x4 : Int} {x5 : Int} {b : Int}, bX1_costOfSet_14 nX1_has h c32 c106 c148 c149 x1 x2 x3 x4 x5 = some b → WK 17 (.inl (some (aI b))) σ0 (abH 2 70 g h) 14 [(0, aR 49), (1, aI x1), (2, aI x2), (3, aI x3), (4, aI x4), (5, aI x5)] [] (abH 2 70 g h) 0 0 := by
  intro x1 x2 x3 x4 x5 b q
  have e : ∀ (f15 : HH → Int → Int → Option Int) , bX1_costOfSet_14 f15 h c32 c106 c148 c149 x1 x2 x3 x4 x5 = segP 2 70 g.2.2.2.2 h krPI (clCP 15 (pX1_has f15 h) clNP) csX1_costOfSet (cuC 32 (fun l st s => tkC 0 49 l <| tkI 1 l fun x1 => tkI 2 l fun x2 => tkI 3 l fun x3 => tkI 4 l fun x4 => tkI 5 l fun x5 => skE st (c32 x1 x2 x3 x4 x5)) (cuC 106 (fun l st s => tkC 0 49 l <| tkI 1 l fun x1 => tkI 2 l fun x2 => tkI 3 l fun x3 => tkI 4 l fun x4 => tkI 5 l fun x5 => skE st (c106 x1 x2 x3 x4 x5)) (cuC 148 (fun l st s => tkC 0 49 l <| tkI 1 l fun x1 => tkI 3 l fun x3 => skE st (c148 x1 x3)) (cuC 149 (fun l st s => tkC 0 49 l <| tkI 1 l fun x1 => tkI 3 l fun x3 => skI st fun y0 st => skE st (c149 x1 x3 y0)) cuN)))) 1000 14 [(0, aR 49), (1, aI x1), (2, aI x2), (3, aI x3), (4, aI x4), (5, aI x5)] [] := fun _ => rfl
  rw [e nX1_has] at q
  clear e
  refine segP_wk (by decide) (by decide) hg rwX1_costOfSet (CLKP_C (pX1_has_ok hg) CLKP_N) krPI_ok ?_ q
  clear q
  refine ct_C ?_ (ct_C ?_ (ct_C ?_ (ct_C ?_ (ct_N))))
  · intro l st _ q
    obtain ⟨m0, q1⟩ := tkC_of q
    obtain ⟨x1, m1, q2⟩ := tkI_of q1
    obtain ⟨x2, m2, q3⟩ := tkI_of q2
    obtain ⟨x3, m3, q4⟩ := tkI_of q3
    obtain ⟨x4, m4, q5⟩ := tkI_of q4
    obtain ⟨x5, m5, q6⟩ := tkI_of q5
    obtain ⟨rfl, q7⟩ := skE_of q6
    exact WK_less (k32 _ _ _ _ _ _ q7) (List.forall_mem_cons.mpr ⟨m0, (List.forall_mem_cons.mpr ⟨m1, (List.forall_mem_cons.mpr ⟨m2, (List.forall_mem_cons.mpr ⟨m3, (List.forall_mem_cons.mpr ⟨m4, (List.forall_mem_cons.mpr ⟨m5, (fun _ h => absurd h List.not_mem_nil)⟩)⟩)⟩)⟩)⟩)⟩)
  · intro l st _ q
    obtain ⟨m0, q1⟩ := tkC_of q
    obtain ⟨x1, m1, q2⟩ := tkI_of q1
    obtain ⟨x2, m2, q3⟩ := tkI_of q2
    obtain ⟨x3, m3, q4⟩ := tkI_of q3
    obtain ⟨x4, m4, q5⟩ := tkI_of q4
    obtain ⟨x5, m5, q6⟩ := tkI_of q5
    obtain ⟨rfl, q7⟩ := skE_of q6
    exact WK_less (k106 _ _ _ _ _ _ q7) (List.forall_mem_cons.mpr ⟨m0, (List.forall_mem_cons.mpr ⟨m1, (List.forall_mem_cons.mpr ⟨m2, (List.forall_mem_cons.mpr ⟨m3, (List.forall_mem_cons.mpr ⟨m4, (List.forall_mem_cons.mpr ⟨m5, (fun _ h => absurd h List.not_mem_nil)⟩)⟩)⟩)⟩)⟩)⟩)
  · intro l st _ q
    obtain ⟨m0, q1⟩ := tkC_of q
    obtain ⟨x1, m1, q2⟩ := tkI_of q1
    obtain ⟨x3, m3, q3⟩ := tkI_of q2
    obtain ⟨rfl, q4⟩ := skE_of q3
    exact WK_less (k148 _ _ _ q4) (List.forall_mem_cons.mpr ⟨m0, (List.forall_mem_cons.mpr ⟨m1, (List.forall_mem_cons.mpr ⟨m3, (fun _ h => absurd h List.not_mem_nil)⟩)⟩)⟩)
  · intro l st _ q
    obtain ⟨m0, q1⟩ := tkC_of q
    obtain ⟨x1, m1, q2⟩ := tkI_of q1
    obtain ⟨x3, m3, q3⟩ := tkI_of q2
    obtain ⟨y0, t0, rfl, q4⟩ := skI_of q3
    obtain ⟨rfl, q5⟩ := skE_of q4
    exact WK_less (k149 _ _ _ _ q5) (List.forall_mem_cons.mpr ⟨m0, (List.forall_mem_cons.mpr ⟨m1, (List.forall_mem_cons.mpr ⟨m3, (fun _ h => absurd h List.not_mem_nil)⟩)⟩)⟩)
def nX1_costOfSet_14 (h : HH) : Nat → Int → Int → Int → Int → Int → Option Int := iter (fun _ _ _ _ _ => none) (fun self => bX1_costOfSet_14 nX1_has h (nX1_costOfSet_32 h self) (nX1_costOfSet_106 h self) (nX1_costOfSet_148 h) (nX1_costOfSet_149 h))
theorem nX1_costOfSet_14_s {h : HH} {F : Nat} : nX1_costOfSet_14 h (F + 1) = bX1_costOfSet_14 nX1_has h (nX1_costOfSet_32 h (nX1_costOfSet_14 h F)) (nX1_costOfSet_106 h (nX1_costOfSet_14 h F)) (nX1_costOfSet_148 h) (nX1_costOfSet_149 h) := rfl
theorem wX1_costOfSet_14 {g : SG} (hg : GOK g) {σ0 : SG} {h : HH} : ∀ {F : Nat}, ∀ {x1 : Int} {x2 : Int} {x3 : Int} {x4 : Int} {x5 : Int} {b : Int}, nX1_costOfSet_14 h F x1 x2 x3 x4 x5 = some b → WK 17 (.inl (some (aI b))) σ0 (abH 2 70 g h) 14 [(0, aR 49), (1, aI x1), (2, aI x2), (3, aI x3), (4, aI x4), (5, aI x5)] [] (abH 2 70 g h) 0 0 := by
  intro F
  have z : ∀ (x1 : Int) (x2 : Int) (x3 : Int) (x4 : Int) (x5 : Int) (b : Int), nX1_costOfSet_14 h F x1 x2 x3 x4 x5 = some b → WK 17 (.inl (some (aI b))) σ0 (abH 2 70 g h) 14 [(0, aR 49), (1, aI x1), (2, aI x2), (3, aI x3), (4, aI x4), (5, aI x5)] [] (abH 2 70 g h) 0 0 := iter_ind (P := fun (c : Int → Int → Int → Int → Int → Option Int) => ∀ (x1 : Int) (x2 : Int) (x3 : Int) (x4 : Int) (x5 : Int) (b : Int), c x1 x2 x3 x4 x5 = some b → WK 17 (.inl (some (aI b))) σ0 (abH 2 70 g h) 14 [(0, aR 49), (1, aI x1), (2, aI x2), (3, aI x3), (4, aI x4), (5, aI x5)] [] (abH 2 70 g h) 0 0) (by
    intro x1 x2 x3 x4 x5 b q
    cases q) (fun self ih => by
    intro x1 x2 x3 x4 x5 b q
    exact uX1_costOfSet_14 hg (fun _ _ _ _ _ _ q => wX1_costOfSet_32 hg ih q) (fun _ _ _ _ _ _ q => wX1_costOfSet_106 hg ih q) (fun _ _ _ q => wX1_costOfSet_148 hg q) (fun _ _ _ _ q => wX1_costOfSet_149 hg q) q) F
  intro x1 x2 x3 x4 x5 b q
  exact z _ _ _ _ _ _ q
def bX1_costOfSet (h : HH) (c14 : Int → Int → Int → Int → Int → Option Int) (x1 : Int) (x2 : Int) : Option Int :=
  if x2 = (0 : Int) then
    some 0
  else
    c14 x1 x2 (-1) 0 0
theorem uX1_costOfSet {g : SG} (hg : GOK g) {σ0 : SG} {h : HH} {c14 : Int → Int → Int → Int → Int → Option Int} (k14 : ∀ (x1 : Int) (x2 : Int) (x3 : Int) (x4 : Int) (x5 : Int) (b : Int), c14 x1 x2 x3 x4 x5 = some b → WK 17 (.inl (some (aI b))) σ0 (abH 2 70 g h) 14 [(0, aR 49), (1, aI x1), (2, aI x2), (3, aI x3), (4, aI x4), (5, aI x5)] [] (abH 2 70 g h) 0 0) : ∀ {x1 : Int} {x2 : Int} {b : Int}, bX1_costOfSet h c14 x1 x2 = some b → WK 17 (.inl (some (aI b))) σ0 (abH 2 70 g h) 0 [(0, aR 49), (1, aI x1), (2, aI x2)] [] (abH 2 70 g h) 0 0 := by
  intro x1 x2 b q
  have e : bX1_costOfSet h c14 x1 x2 = segP 2 70 g.2.2.2.2 h krPI clNP csX1_costOfSet (cuC 14 (fun l st s => tkC 0 49 l <| tkI 1 l fun x1 => tkI 2 l fun x2 => tkI 3 l fun x3 => tkI 4 l fun x4 => tkI 5 l fun x5 => skE st (c14 x1 x2 x3 x4 x5)) cuN) 1000 0 [(0, aR 49), (1, aI x1), (2, aI x2)] [] := rfl
  rw [e] at q
  clear e
  refine segP_wk (by decide) (by decide) hg rwX1_costOfSet CLKP_N krPI_ok ?_ q
  clear q
  refine ct_C ?_ (ct_N)
  · intro l st _ q
    obtain ⟨m0, q1⟩ := tkC_of q
    obtain ⟨x1, m1, q2⟩ := tkI_of q1
    obtain ⟨x2, m2, q3⟩ := tkI_of q2
    obtain ⟨x3, m3, q4⟩ := tkI_of q3
    obtain ⟨x4, m4, q5⟩ := tkI_of q4
    obtain ⟨x5, m5, q6⟩ := tkI_of q5
    obtain ⟨rfl, q7⟩ := skE_of q6
    exact WK_less (k14 _ _ _ _ _ _ q7) (List.forall_mem_cons.mpr ⟨m0, (List.forall_mem_cons.mpr ⟨m1, (List.forall_mem_cons.mpr ⟨m2, (List.forall_mem_cons.mpr ⟨m3, (List.forall_mem_cons.mpr ⟨m4, (List.forall_mem_cons.mpr ⟨m5, (fun _ h => absurd h List.not_mem_nil)⟩)⟩)⟩)⟩)⟩)⟩)
def nX1_costOfSet (h : HH) (x1 : Int) (x2 : Int) : Option Int := bX1_costOfSet h (nX1_costOfSet_14 h 100000) x1 x2
theorem wX1_costOfSet {g : SG} (hg : GOK g) {σ0 : SG} {h : HH} : ∀ {x1 : Int} {x2 : Int} {b : Int}, nX1_costOfSet h x1 x2 = some b → WK 17 (.inl (some (aI b))) σ0 (abH 2 70 g h) 0 [(0, aR 49), (1, aI x1), (2, aI x2)] [] (abH 2 70 g h) 0 0 := by
  intro x1 x2 b q
  exact uX1_costOfSet hg (fun _ _ _ _ _ _ q => wX1_costOfSet_14 hg q) q
theorem mX1_costOfSet {g : SG} (hg : GOK g) {h : HH} {x1 : Int} {x2 : Int} {b : Int} (q : nX1_costOfSet h x1 x2 = some b) : MCT 17 [] [aR 49, aI x1, aI x2] (abH 2 70 g h) (.inl (some (aI b))) (abH 2 70 g h) :=
  mct_of (by decide) (MFok 17 (by decide +kernel)) (fun _ => Nat.le_of_ble_eq_true rfl) (wX1_costOfSet hg q)
def pX1_costOfSet {β : Type} (z : HH → Int → Int → Option Int) : PP β := fun h as f => skC 49 as fun as => skI as fun x1 as => skI as fun x2 as => skE as (bnd (z h x1 x2) fun r => f (.inl (some (aI r))))
theorem pX1_costOfSet_ok {β : Type} {g : SG} (hg : GOK g) : CP1 (β := β) 17 (pX1_costOfSet nX1_costOfSet) 2 70 g := fun h as f b q => by
  obtain ⟨as, rfl, q1⟩ := skC_of q
  obtain ⟨x1, as, rfl, q2⟩ := skI_of q1
  obtain ⟨x2, as, rfl, q3⟩ := skI_of q2
  obtain ⟨rfl, q0⟩ := skE_of q3
  obtain ⟨r, z1, z2⟩ := bnd_of q0
  exact ⟨_, z2, by decide, mX1_costOfSet hg z1, rfl, rfl, fun z => absurd z (by decide)⟩
def csX1_setOf : List (Nat × List (Nat × ARow)) := [(38, [(0, 1, .iconst 0, 0, 0, 0), (1, 1, .istore_n 2, 0, 0, 0), (2, 1, .iconst 0, 0, 0, 0), (3, 1, .istore_n 3, 0, 0, 0), (4, 1, .iload_n 3, 0, 0, 0), (5, 1, .aload_n 0, 0, 0, 0), (6, 3, .getfield 25, 1, 2, 0), (9, 3, .if_icmp .ge 36, 45, 0, 0), (12, 1, .iload_n 1, 0, 0, 0), (13, 1, .aload_n 0, 0, 0, 0), (14, 3, .getfield 21, 1, 0, 2), (17, 3, .getfield 68, 2, 3, 2), (20, 1, .aload_n 0, 0, 0, 0), (21, 3, .getfield 9, 1, 1, 2), (24, 1, .iload_n 3, 0, 0, 0), (25, 1, .iaload, 0, 0, 0), (26, 1, .iaload, 0, 0, 0), (27, 3, .invokestatic 33, 15, 2, 0), (30, 3, .ifCond .eq 9, 39, 0, 0), (33, 1, .iload_n 2, 0, 0, 0), (34, 1, .iconst 1, 0, 0, 0), (35, 1, .iload_n 3, 0, 0, 0), (36, 1, .ishl, 0, 0, 0), (37, 1, .ior, 0, 0, 0)]),
  (100000, [(38, 1, .istore_n 2, 0, 0, 0), (39, 3, .iinc 3 1, 0, 0, 0), (42, 3, .goto (-38), 4, 0, 0), (45, 1, .iload_n 2, 0, 0, 0), (46, 1, .ireturn, 0, 0, 0)])]
theorem rwX1_setOf : rowsB (mB 18) (mO 18) (mX 18) (mIni 18) (mFr 18) (mLo 18) (mT 18) csX1_setOf = true := by decide +kernel
def bX1_setOf_39 (h : HH) (c4 : Int → Int → Int → Option Int) (x1 : Int) (x2 : Int) (x3 : Int) : Option Int :=
  gd (R32 (x3 + 1)) <|
    c4 x1 x2 (x3 + 1)
theorem uX1_setOf_39 {g : SG} (hg : GOK g) {σ0 : SG} {h : HH} {c4 : Int → Int → Int → Option Int} (k4 : ∀ (x1 : Int) (x2 : Int) (x3 : Int) (b : Int), c4 x1 x2 x3 = some b → WK 18 (.inl (some (aI b))) σ0 (abH 2 70 g h) 4 [(0, aR 49), (1, aI x1), (2, aI x2), (3, aI x3)] [] (abH 2 70 g h) 0 0) : ∀ {x1 : Int} {x2 : Int} {x3 : Int} {b : Int}, bX1_setOf_39 h c4 x1 x2 x3 = some b → WK 18 (.inl (some (aI b))) σ0 (abH 2 70 g h) 39 [(0, aR 49), (1, aI x1), (2, aI x2), (3, aI x3)] [] (abH 2 70 g h) 0 0 := by
  intro x1 x2 x3 b q
  have e : bX1_setOf_39 h c4 x1 x2 x3 = segP 2 70 g.2.2.2.2 h krPI clNP csX1_setOf (cuC 4 (fun l st s => tkC 0 49 l <| tkI 1 l fun x1 => tkI 2 l fun x2 => tkI 3 l fun x3 => skE st (c4 x1 x2 x3)) cuN) 1000 39 [(0, aR 49), (1, aI x1), (2, aI x2), (3, aI x3)] [] := rfl
  rw [e] at q
  clear e
  refine segP_wk (by decide) (by decide) hg rwX1_setOf CLKP_N krPI_ok ?_ q
  clear q
  refine ct_C ?_ (ct_N)
  · intro l st _ q
    obtain ⟨m0, q1⟩ := tkC_of q
    obtain ⟨x1, m1, q2⟩ := tkI_of q1
    obtain ⟨x2, m2, q3⟩ := tkI_of q2
    obtain ⟨x3, m3, q4⟩ := tkI_of q3
    obtain ⟨rfl, q5⟩ := skE_of q4
    exact WK_less (k4 _ _ _ _ q5) (List.forall_mem_cons.mpr ⟨m0, (List.forall_mem_cons.mpr ⟨m1, (List.forall_mem_cons.mpr ⟨m2, (List.forall_mem_cons.mpr ⟨m3, (fun _ h => absurd h List.not_mem_nil)⟩)⟩)⟩)⟩)
def nX1_setOf_39 (h : HH) (c4 : Int → Int → Int → Option Int) (x1 : Int) (x2 : Int) (x3 : Int) : Option Int := bX1_setOf_39 h c4 x1 x2 x3
theorem wX1_setOf_39 {g : SG} (hg : GOK g) {σ0 : SG} {h : HH} {c4 : Int → Int → Int → Option Int} (k4 : ∀ (x1 : Int) (x2 : Int) (x3 : Int) (b : Int), c4 x1 x2 x3 = some b → WK 18 (.inl (some (aI b))) σ0 (abH 2 70 g h) 4 [(0, aR 49), (1, aI x1), (2, aI x2), (3, aI x3)] [] (abH 2 70 g h) 0 0) : ∀ {x1 : Int} {x2 : Int} {x3 : Int} {b : Int}, nX1_setOf_39 h c4 x1 x2 x3 = some b → WK 18 (.inl (some (aI b))) σ0 (abH 2 70 g h) 39 [(0, aR 49), (1, aI x1), (2, aI x2), (3, aI x3)] [] (abH 2 70 g h) 0 0 := by
  intro x1 x2 x3 b q
  exact uX1_setOf_39 hg k4 q
def bX1_setOf_4 (f15 : HH → Int → Int → Option Int) (h : HH) (c39 : Int → Int → Int → Option Int) (x1 : Int) (x2 : Int) (x3 : Int) : Option Int :=
  if x3 < ((h.1 49 2) : Int) then
    gd ((0 : Int) ≤ x3 ∧ x3 < (9 : Int)) <|
    gd ((0 : Int) ≤ (h.1 50 x3) ∧ (h.1 50 x3) < (9 : Int)) <|
    bnd (f15 h x1 (h.1 16 (h.1 50 x3))) fun r1 =>
    if r1 = (0 : Int) then
    c39 x1 x2 x3
  else
    c39 x1 (orI x2 (shlI 1 x3)) x3
  else
    some x2
theorem uX1_setOf_4 {g : SG} (hg : GOK g) {σ0 : SG} {h : HH} {c39 : Int → Int → Int → Option Int} (k39 : ∀ (x1 : Int) (x2 : Int) (x3 : Int) (b : Int), c39 x1 x2 x3 = some b → WK 18 (.inl (some (aI b))) σ0 (abH 2 70 g h) 39 [(0, aR 49), (1, aI x1), (2, aI x2), (3, aI x3)] [] (abH 2 70 g h) 0 0) : ∀ {x1 : Int} {x2 : Int} {x3 : Int} {b : Int}, bX1_setOf_4 nX1_has h c39 x1 x2 x3 = some b → WK 18 (.inl (some (aI b))) σ0 (abH 2 70 g h) 4 [(0, aR 49), (1, aI x1), (2, aI x2), (3, aI x3)] [] (abH 2 70 g h) 0 0 := by
  intro x1 x2 x3 b q
  have e : ∀ (f15 : HH → Int → Int → Option Int) , bX1_setOf_4 f15 h c39 x1 x2 x3 = segP 2 70 g.2.2.2.2 h krPI (clCP 15 (pX1_has f15 h) clNP) csX1_setOf (cuC 39 (fun l st s => tkC 0 49 l <| tkI 1 l fun x1 => tkI 2 l fun x2 => tkI 3 l fun x3 => skE st (c39 x1 x2 x3)) cuN) 1000 4 [(0, aR 49), (1, aI x1), (2, aI x2), (3, aI x3)] [] := fun _ => rfl
  rw [e nX1_has] at q
  clear e
  refine segP_wk (by decide) (by decide) hg rwX1_setOf (CLKP_C (pX1_has_ok hg) CLKP_N) krPI_ok ?_ q
  clear q
  refine ct_C ?_ (ct_N)
  · intro l st _ q
    obtain ⟨m0, q1⟩ := tkC_of q
    obtain ⟨x1, m1, q2⟩ := tkI_of q1
    obtain ⟨x2, m2, q3⟩ := tkI_of q2
    obtain ⟨x3, m3, q4⟩ := tkI_of q3
    obtain ⟨rfl, q5⟩ := skE_of q4
    exact WK_less (k39 _ _ _ _ q5) (List.forall_mem_cons.mpr ⟨m0, (List.forall_mem_cons.mpr ⟨m1, (List.forall_mem_cons.mpr ⟨m2, (List.forall_mem_cons.mpr ⟨m3, (fun _ h => absurd h List.not_mem_nil)⟩)⟩)⟩)⟩)
def nX1_setOf_4 (h : HH) : Nat → Int → Int → Int → Option Int := iter (fun _ _ _ => none) (fun self => bX1_setOf_4 nX1_has h (nX1_setOf_39 h self))
theorem nX1_setOf_4_s {h : HH} {F : Nat} : nX1_setOf_4 h (F + 1) = bX1_setOf_4 nX1_has h (nX1_setOf_39 h (nX1_setOf_4 h F)) := rfl
theorem wX1_setOf_4 {g : SG} (hg : GOK g) {σ0 : SG} {h : HH} : ∀ {F : Nat}, ∀ {x1 : Int} {x2 : Int} {x3 : Int} {b : Int}, nX1_setOf_4 h F x1 x2 x3 = some b → WK 18 (.inl (some (aI b))) σ0 (abH 2 70 g h) 4 [(0, aR 49), (1, aI x1), (2, aI x2), (3, aI x3)] [] (abH 2 70 g h) 0 0 := by
  intro F
  have z : ∀ (x1 : Int) (x2 : Int) (x3 : Int) (b : Int), nX1_setOf_4 h F x1 x2 x3 = some b → WK 18 (.inl (some (aI b))) σ0 (abH 2 70 g h) 4 [(0, aR 49), (1, aI x1), (2, aI x2), (3, aI x3)] [] (abH 2 70 g h) 0 0 := iter_ind (P := fun (c : Int → Int → Int → Option Int) => ∀ (x1 : Int) (x2 : Int) (x3 : Int) (b : Int), c x1 x2 x3 = some b → WK 18 (.inl (some (aI b))) σ0 (abH 2 70 g h) 4 [(0, aR 49), (1, aI x1), (2, aI x2), (3, aI x3)] [] (abH 2 70 g h) 0 0) (by
    intro x1 x2 x3 b q
    cases q) (fun self ih => by
    intro x1 x2 x3 b q
    exact uX1_setOf_4 hg (fun _ _ _ _ q => wX1_setOf_39 hg ih q) q) F
  intro x1 x2 x3 b q
  exact z _ _ _ _ q
def bX1_setOf (h : HH) (c4 : Int → Int → Int → Option Int) (x1 : Int) : Option Int :=
  c4 x1 0 0
theorem uX1_setOf {g : SG} (hg : GOK g) {σ0 : SG} {h : HH} {c4 : Int → Int → Int → Option Int} (k4 : ∀ (x1 : Int) (x2 : Int) (x3 : Int) (b : Int), c4 x1 x2 x3 = some b → WK 18 (.inl (some (aI b))) σ0 (abH 2 70 g h) 4 [(0, aR 49), (1, aI x1), (2, aI x2), (3, aI x3)] [] (abH 2 70 g h) 0 0) : ∀ {x1 : Int} {b : Int}, bX1_setOf h c4 x1 = some b → WK 18 (.inl (some (aI b))) σ0 (abH 2 70 g h) 0 [(0, aR 49), (1, aI x1)] [] (abH 2 70 g h) 0 0 := by
  intro x1 b q
  have e : bX1_setOf h c4 x1 = segP 2 70 g.2.2.2.2 h krPI clNP csX1_setOf (cuC 4 (fun l st s => tkC 0 49 l <| tkI 1 l fun x1 => tkI 2 l fun x2 => tkI 3 l fun x3 => skE st (c4 x1 x2 x3)) cuN) 1000 0 [(0, aR 49), (1, aI x1)] [] := rfl
  rw [e] at q
  clear e
  refine segP_wk (by decide) (by decide) hg rwX1_setOf CLKP_N krPI_ok ?_ q
  clear q
  refine ct_C ?_ (ct_N)
  · intro l st _ q
    obtain ⟨m0, q1⟩ := tkC_of q
    obtain ⟨x1, m1, q2⟩ := tkI_of q1
    obtain ⟨x2, m2, q3⟩ := tkI_of q2
    obtain ⟨x3, m3, q4⟩ := tkI_of q3
    obtain ⟨rfl, q5⟩ := skE_of q4
    exact WK_less (k4 _ _ _ _ q5) (List.forall_mem_cons.mpr ⟨m0, (List.forall_mem_cons.mpr ⟨m1, (List.forall_mem_cons.mpr ⟨m2, (List.forall_mem_cons.mpr ⟨m3, (fun _ h => absurd h List.not_mem_nil)⟩)⟩)⟩)⟩)
def nX1_setOf (h : HH) (x1 : Int) : Option Int := bX1_setOf h (nX1_setOf_4 h 100000) x1
theorem wX1_setOf {g : SG} (hg : GOK g) {σ0 : SG} {h : HH} : ∀ {x1 : Int} {b : Int}, nX1_setOf h x1 = some b → WK 18 (.inl (some (aI b))) σ0 (abH 2 70 g h) 0 [(0, aR 49), (1, aI x1)] [] (abH 2 70 g h) 0 0 := by
  intro x1 b q
  exact uX1_setOf hg (fun _ _ _ _ q => wX1_setOf_4 hg q) q
theorem mX1_setOf {g : SG} (hg : GOK g) {h : HH} {x1 : Int} {b : Int} (q : nX1_setOf h x1 = some b) : MCT 18 [] [aR 49, aI x1] (abH 2 70 g h) (.inl (some (aI b))) (abH 2 70 g h) :=
  mct_of (by decide) (MFok 18 (by decide +kernel)) (fun _ => Nat.le_of_ble_eq_true rfl) (wX1_setOf hg q)
def pX1_setOf {β : Type} (z : HH → Int → Option Int) : PP β := fun h as f => skC 49 as fun as => skI as fun x1 as => skE as (bnd (z h x1) fun r => f (.inl (some (aI r))))
theorem pX1_setOf_ok {β : Type} {g : SG} (hg : GOK g) : CP1 (β := β) 18 (pX1_setOf nX1_setOf) 2 70 g := fun h as f b q => by
  obtain ⟨as, rfl, q1⟩ := skC_of q
  obtain ⟨x1, as, rfl, q2⟩ := skI_of q1
  obtain ⟨rfl, q0⟩ := skE_of q2
  obtain ⟨r, z1, z2⟩ := bnd_of q0
  exact ⟨_, z2, by decide, mX1_setOf hg z1, rfl, rfl, fun z => absurd z (by decide)⟩
def csX1_latestToCome : List (Nat × List (Nat × ARow)) := [(40, [(0, 1, .aload_n 0, 0, 0, 0), (1, 3, .getfield 9, 1, 1, 2), (4, 1, .iload_n 2, 0, 0, 0), (5, 1, .iaload, 0, 0, 0), (6, 2, .istore 4, 0, 0, 0), (8, 1, .iload_n 1, 0, 0, 0), (9, 3, .ifCond .ne 22, 31, 0, 0), (12, 1, .aload_n 0, 0, 0, 0), (13, 1, .iload_n 2, 0, 0, 0), (14, 3, .invokevirtual 58, 19, 2, 1), (17, 1, .iconst (-1), 0, 0, 0), (18, 3, .if_icmp .eq 13, 31, 0, 0), (21, 1, .iload_n 3, 0, 0, 0), (22, 1, .aload_n 0, 0, 0, 0), (23, 1, .iload_n 2, 0, 0, 0), (24, 3, .invokevirtual 58, 19, 2, 1), (27, 1, .isub, 0, 0, 0), (28, 3, .goto 4, 32, 0, 0), (31, 1, .iconst (-1), 0, 0, 0), (32, 2, .istore 5, 0, 0, 0), (34, 1, .iconst 0, 0, 0, 0), (35, 2, .istore 6, 0, 0, 0), (37, 2, .iload 6, 0, 0, 0), (39, 1, .aload_n 0, 0, 0, 0)]),
  (85, [(40, 3, .getfield 25, 1, 2, 0), (43, 3, .if_icmp .ge 102, 145, 0, 0), (46, 1, .iload_n 1, 0, 0, 0), (47, 2, .iload 6, 0, 0, 0), (49, 3, .invokestatic 33, 15, 2, 0), (52, 3, .ifCond .eq 23, 75, 0, 0), (55, 1, .aload_n 0, 0, 0, 0), (56, 3, .getfield 18, 1, 4, 2), (59, 1, .iload_n 1, 0, 0, 0), (60, 1, .iconst 1, 0, 0, 0), (61, 2, .iload 6, 0, 0, 0), (63, 1, .ishl, 0, 0, 0), (64, 1, .ixor, 0, 0, 0), (65, 2, .bipush 9, 0, 0, 0), (67, 1, .imul, 0, 0, 0), (68, 2, .iload 6, 0, 0, 0), (70, 1, .iadd, 0, 0, 0), (71, 1, .iaload, 0, 0, 0), (72, 3, .goto 4, 76, 0, 0), (75, 1, .iconst (-1), 0, 0, 0), (76, 2, .istore 7, 0, 0, 0), (78, 1, .aload_n 0, 0, 0, 0), (79, 3, .getfield 21, 1, 0, 2), (82, 3, .getfield 71, 2, 0, 2)]),
  (133, [(85, 1, .aload_n 0, 0, 0, 0), (86, 3, .getfield 21, 1, 0, 2), (89, 3, .getfield 49, 2, 1, 2), (92, 2, .iload 4, 0, 0, 0), (94, 1, .iaload, 0, 0, 0), (95, 1, .aload_n 0, 0, 0, 0), (96, 3, .getfield 21, 1, 0, 2), (99, 3, .getfield 49, 2, 1, 2), (102, 1, .aload_n 0, 0, 0, 0), (103, 3, .getfield 9, 1, 1, 2), (106, 2, .iload 6, 0, 0, 0), (108, 1, .iaload, 0, 0, 0), (109, 1, .iaload, 0, 0, 0), (110, 3, .invokevirtual 75, 87, 3, 9), (113, 2, .istore 8, 0, 0, 0), (115, 2, .iload 7, 0, 0, 0), (117, 1, .iconst (-1), 0, 0, 0), (118, 3, .if_icmp .eq 21, 139, 0, 0), (121, 2, .iload 8, 0, 0, 0), (123, 1, .iconst (-1), 0, 0, 0), (124, 3, .if_icmp .eq 15, 139, 0, 0), (127, 2, .iload 5, 0, 0, 0), (129, 2, .iload 7, 0, 0, 0), (131, 2, .iload 8, 0, 0, 0)]),
  (184, [(133, 1, .isub, 0, 0, 0), (134, 3, .invokestatic 97, 1000, 2, 0), (137, 2, .istore 5, 0, 0, 0), (139, 3, .iinc 6 1, 0, 0, 0), (142, 3, .goto (-105), 37, 0, 0), (145, 2, .iload 5, 0, 0, 0), (147, 1, .aload_n 0, 0, 0, 0), (148, 3, .getfield 21, 1, 0, 2), (151, 3, .getfield 52, 2, 6, 2), (154, 2, .iload 4, 0, 0, 0), (156, 1, .iaload, 0, 0, 0), (157, 1, .isub, 0, 0, 0), (158, 1, .aload_n 0, 0, 0, 0), (159, 3, .getfield 21, 1, 0, 2), (162, 3, .getfield 102, 2, 5, 2), (165, 2, .iload 4, 0, 0, 0), (167, 1, .iaload, 0, 0, 0), (168, 3, .invokestatic 105, 1001, 2, 0), (171, 2, .istore 6, 0, 0, 0), (173, 2, .iload 6, 0, 0, 0), (175, 1, .aload_n 0, 0, 0, 0), (176, 3, .getfield 21, 1, 0, 2), (179, 3, .getfield 108, 2, 4, 2), (182, 2, .iload 4, 0, 0, 0)]),
  (100000, [(184, 1, .iaload, 0, 0, 0), (185, 3, .if_icmp .ge 7, 192, 0, 0), (188, 1, .iconst (-1), 0, 0, 0), (189, 3, .goto 5, 194, 0, 0), (192, 2, .iload 6, 0, 0, 0), (194, 1, .ireturn, 0, 0, 0)])]
theorem rwX1_latestToCome : rowsB (mB 22) (mO 22) (mX 22) (mIni 22) (mFr 22) (mLo 22) (mT 22) csX1_latestToCome = true := by decide +kernel
def bX1_latestToCome_139 (h : HH) (c37 : Int → Int → Int → Int → Option Int) (x1 : Int) (x4 : Int) (x5 : Int) (x6 : Int) : Option Int :=
  gd (R32 (x6 + 1)) <|
    c37 x1 x4 x5 (x6 + 1)
theorem uX1_latestToCome_139 {g : SG} (hg : GOK g) {σ0 : SG} {h : HH} {c37 : Int → Int → Int → Int → Option Int} (k37 : ∀ (x1 : Int) (x4 : Int) (x5 : Int) (x6 : Int) (b : Int), c37 x1 x4 x5 x6 = some b → WK 22 (.inl (some (aI b))) σ0 (abH 2 70 g h) 37 [(0, aR 49), (1, aI x1), (4, aI x4), (5, aI x5), (6, aI x6)] [] (abH 2 70 g h) 0 0) : ∀ {x1 : Int} {x4 : Int} {x5 : Int} {x6 : Int} {b : Int}, bX1_latestToCome_139 h c37 x1 x4 x5 x6 = some b → WK 22 (.inl (some (aI b))) σ0 (abH 2 70 g h) 139 [(0, aR 49), (1, aI x1), (4, aI x4), (5, aI x5), (6, aI x6)] [] (abH 2 70 g h) 0 0 := by
  intro x1 x4 x5 x6 b q
  have e : bX1_latestToCome_139 h c37 x1 x4 x5 x6 = segP 2 70 g.2.2.2.2 h krPI clNP csX1_latestToCome (cuC 37 (fun l st s => tkC 0 49 l <| tkI 1 l fun x1 => tkI 4 l fun x4 => tkI 5 l fun x5 => tkI 6 l fun x6 => skE st (c37 x1 x4 x5 x6)) cuN) 1000 139 [(0, aR 49), (1, aI x1), (4, aI x4), (5, aI x5), (6, aI x6)] [] := rfl
  rw [e] at q
  clear e
  refine segP_wk (by decide) (by decide) hg rwX1_latestToCome CLKP_N krPI_ok ?_ q
  clear q
  refine ct_C ?_ (ct_N)
  · intro l st _ q
    obtain ⟨m0, q1⟩ := tkC_of q
    obtain ⟨x1, m1, q2⟩ := tkI_of q1
    obtain ⟨x4, m4, q3⟩ := tkI_of q2
    obtain ⟨x5, m5, q4⟩ := tkI_of q3
    obtain ⟨x6, m6, q5⟩ := tkI_of q4
    obtain ⟨rfl, q6⟩ := skE_of q5
    exact WK_less (k37 _ _ _ _ _ q6) (List.forall_mem_cons.mpr ⟨m0, (List.forall_mem_cons.mpr ⟨m1, (List.forall_mem_cons.mpr ⟨m4, (List.forall_mem_cons.mpr ⟨m5, (List.forall_mem_cons.mpr ⟨m6, (fun _ h => absurd h List.not_mem_nil)⟩)⟩)⟩)⟩)⟩)
def nX1_latestToCome_139 (h : HH) (c37 : Int → Int → Int → Int → Option Int) (x1 : Int) (x4 : Int) (x5 : Int) (x6 : Int) : Option Int := bX1_latestToCome_139 h c37 x1 x4 x5 x6
theorem wX1_latestToCome_139 {g : SG} (hg : GOK g) {σ0 : SG} {h : HH} {c37 : Int → Int → Int → Int → Option Int} (k37 : ∀ (x1 : Int) (x4 : Int) (x5 : Int) (x6 : Int) (b : Int), c37 x1 x4 x5 x6 = some b → WK 22 (.inl (some (aI b))) σ0 (abH 2 70 g h) 37 [(0, aR 49), (1, aI x1), (4, aI x4), (5, aI x5), (6, aI x6)] [] (abH 2 70 g h) 0 0) : ∀ {x1 : Int} {x4 : Int} {x5 : Int} {x6 : Int} {b : Int}, nX1_latestToCome_139 h c37 x1 x4 x5 x6 = some b → WK 22 (.inl (some (aI b))) σ0 (abH 2 70 g h) 139 [(0, aR 49), (1, aI x1), (4, aI x4), (5, aI x5), (6, aI x6)] [] (abH 2 70 g h) 0 0 := by
  intro x1 x4 x5 x6 b q
  exact uX1_latestToCome_139 hg k37 q
def bX1_latestToCome_76 (f87 : HH → Int → Int → Option Int) (h : HH) (c139 : Int → Int → Int → Int → Option Int) (x1 : Int) (x4 : Int) (x5 : Int) (x6 : Int) (y0 : Int) : Option Int :=
  gd ((0 : Int) ≤ x4 ∧ x4 < (9 : Int)) <|
    gd ((0 : Int) ≤ x6 ∧ x6 < (9 : Int)) <|
    gd ((0 : Int) ≤ (h.1 50 x6) ∧ (h.1 50 x6) < (9 : Int)) <|
    bnd (f87 h (h.1 14 x4) (h.1 14 (h.1 50 x6))) fun r1 =>
    if y0 = ((-1) : Int) then
    c139 x1 x4 x5 x6
  else
    if r1 = ((-1) : Int) then
    c139 x1 x4 x5 x6
  else
    gd (R32 (y0 - r1)) <|
    c139 x1 x4 (max x5 (y0 - r1)) x6
theorem uX1_latestToCome_76 {g : SG} (hg : GOK g) {σ0 : SG} {h : HH} {c139 : Int → Int → Int → Int → Option Int} (k139 : ∀ (x1 : Int) (x4 : Int) (x5 : Int) (x6 : Int) (b : Int), c139 x1 x4 x5 x6 = some b → WK 22 (.inl (some (aI b))) σ0 (abH 2 70 g h) 139 [(0, aR 49), (1, aI x1), (4, aI x4), (5, aI x5), (6, aI x6)] [] (abH 2 70 g h) 0 0) : ∀ {x1 : Int} {x4 : Int} {x5 : Int} {x6 : Int} {y0 : Int} {b : Int}, bX1_latestToCome_76 nX9_minutesOf h c139 x1 x4 x5 x6 y0 = some b → WK 22 (.inl (some (aI b))) σ0 (abH 2 70 g h) 76 [(0, aR 49), (1, aI x1), (4, aI x4), (5, aI x5), (6, aI x6)] [aI y0] (abH 2 70 g h) 0 0 := by
  intro x1 x4 x5 x6 y0 b q
  have e : ∀ (f87 : HH → Int → Int → Option Int) , bX1_latestToCome_76 f87 h c139 x1 x4 x5 x6 y0 = segP 2 70 g.2.2.2.2 h krPI (clCP 87 (pX9_minutesOf f87 h) clNP) csX1_latestToCome (cuC 139 (fun l st s => tkC 0 49 l <| tkI 1 l fun x1 => tkI 4 l fun x4 => tkI 5 l fun x5 => tkI 6 l fun x6 => skE st (c139 x1 x4 x5 x6)) cuN) 1000 76 [(0, aR 49), (1, aI x1), (4, aI x4), (5, aI x5), (6, aI x6)] [aI y0] := fun _ => rfl
  rw [e nX9_minutesOf] at q
  clear e
  refine segP_wk (by decide) (by decide) hg rwX1_latestToCome (CLKP_C (pX9_minutesOf_ok hg) CLKP_N) krPI_ok ?_ q
  clear q
  refine ct_C ?_ (ct_N)
  · intro l st _ q
    obtain ⟨m0, q1⟩ := tkC_of q
    obtain ⟨x1, m1, q2⟩ := tkI_of q1
    obtain ⟨x4, m4, q3⟩ := tkI_of q2
    obtain ⟨x5, m5, q4⟩ := tkI_of q3
    obtain ⟨x6, m6, q5⟩ := tkI_of q4
    obtain ⟨rfl, q6⟩ := skE_of q5
    exact WK_less (k139 _ _ _ _ _ q6) (List.forall_mem_cons.mpr ⟨m0, (List.forall_mem_cons.mpr ⟨m1, (List.forall_mem_cons.mpr ⟨m4, (List.forall_mem_cons.mpr ⟨m5, (List.forall_mem_cons.mpr ⟨m6, (fun _ h => absurd h List.not_mem_nil)⟩)⟩)⟩)⟩)⟩)
def nX1_latestToCome_76 (h : HH) (c37 : Int → Int → Int → Int → Option Int) (x1 : Int) (x4 : Int) (x5 : Int) (x6 : Int) (y0 : Int) : Option Int := bX1_latestToCome_76 nX9_minutesOf h (nX1_latestToCome_139 h c37) x1 x4 x5 x6 y0
theorem wX1_latestToCome_76 {g : SG} (hg : GOK g) {σ0 : SG} {h : HH} {c37 : Int → Int → Int → Int → Option Int} (k37 : ∀ (x1 : Int) (x4 : Int) (x5 : Int) (x6 : Int) (b : Int), c37 x1 x4 x5 x6 = some b → WK 22 (.inl (some (aI b))) σ0 (abH 2 70 g h) 37 [(0, aR 49), (1, aI x1), (4, aI x4), (5, aI x5), (6, aI x6)] [] (abH 2 70 g h) 0 0) : ∀ {x1 : Int} {x4 : Int} {x5 : Int} {x6 : Int} {y0 : Int} {b : Int}, nX1_latestToCome_76 h c37 x1 x4 x5 x6 y0 = some b → WK 22 (.inl (some (aI b))) σ0 (abH 2 70 g h) 76 [(0, aR 49), (1, aI x1), (4, aI x4), (5, aI x5), (6, aI x6)] [aI y0] (abH 2 70 g h) 0 0 := by
  intro x1 x4 x5 x6 y0 b q
  exact uX1_latestToCome_76 hg (fun _ _ _ _ _ q => wX1_latestToCome_139 hg k37 q) q
def bX1_latestToCome_37 (f15 : HH → Int → Int → Option Int) (h : HH) (c76 : Int → Int → Int → Int → Int → Option Int) (x1 : Int) (x4 : Int) (x5 : Int) (x6 : Int) : Option Int :=
  if x6 < ((h.1 49 2) : Int) then
    bnd (f15 h x1 x6) fun r1 =>
    if r1 = (0 : Int) then
    c76 x1 x4 x5 x6 (-1)
  else
    gd (R32 ((xorI x1 (shlI 1 x6)) * 9)) <|
    gd (R32 (((xorI x1 (shlI 1 x6)) * 9) + x6)) <|
    gd ((0 : Int) ≤ (((xorI x1 (shlI 1 x6)) * 9) + x6) ∧ (((xorI x1 (shlI 1 x6)) * 9) + x6) < (4608 : Int)) <|
    c76 x1 x4 x5 x6 (h.1 52 (((xorI x1 (shlI 1 x6)) * 9) + x6))
  else
    gd ((0 : Int) ≤ x4 ∧ x4 < (9 : Int)) <|
    gd (R32 (x5 - (h.1 19 x4))) <|
    gd ((0 : Int) ≤ x4 ∧ x4 < (9 : Int)) <|
    gd ((0 : Int) ≤ x4 ∧ x4 < (9 : Int)) <|
    if (min (x5 - (h.1 19 x4)) (h.1 18 x4)) < ((h.1 17 x4) : Int) then
    some (-1)
  else
    some (min (x5 - (h.1 19 x4)) (h.1 18 x4))
theorem uX1_latestToCome_37 {g : SG} (hg : GOK g) {σ0 : SG} {h : HH} {c76 : Int → Int → Int → Int → Int → Option Int} (k76 : ∀ (x1 : Int) (x4 : Int) (x5 : Int) (x6 : Int) (y0 : Int) (b : Int), c76 x1 x4 x5 x6 y0 = some b → WK 22 (.inl (some (aI b))) σ0 (abH 2 70 g h) 76 [(0, aR 49), (1, aI x1), (4, aI x4), (5, aI x5), (6, aI x6)] [aI y0] (abH 2 70 g h) 0 0) : ∀ {x1 : Int} {x4 : Int} {x5 : Int} {x6 : Int} {b : Int}, bX1_latestToCome_37 nX1_has h c76 x1 x4 x5 x6 = some b → WK 22 (.inl (some (aI b))) σ0 (abH 2 70 g h) 37 [(0, aR 49), (1, aI x1), (4, aI x4), (5, aI x5), (6, aI x6)] [] (abH 2 70 g h) 0 0 := by
  intro x1 x4 x5 x6 b q
  have e : ∀ (f15 : HH → Int → Int → Option Int) , bX1_latestToCome_37 f15 h c76 x1 x4 x5 x6 = segP 2 70 g.2.2.2.2 h krPI (clCP 15 (pX1_has f15 h) clNP) csX1_latestToCome (cuC 76 (fun l st s => tkC 0 49 l <| tkI 1 l fun x1 => tkI 4 l fun x4 => tkI 5 l fun x5 => tkI 6 l fun x6 => skI st fun y0 st => skE st (c76 x1 x4 x5 x6 y0)) cuN) 1000 37 [(0, aR 49), (1, aI x1), (4, aI x4), (5, aI x5), (6, aI x6)] [] := fun _ => rfl
  rw [e nX1_has] at q
  clear e
  refine segP_wk (by decide) (by decide) hg rwX1_latestToCome (CLKP_C (pX1_has_ok hg) CLKP_N) krPI_ok ?_ q
  clear q
  refine ct_C ?_ (ct_N)
  · intro l st _ q
    obtain ⟨m0, q1⟩ := tkC_of q
    obtain ⟨x1, m1, q2⟩ := tkI_of q1
    obtain ⟨x4, m4, q3⟩ := tkI_of q2
    obtain ⟨x5, m5, q4⟩ := tkI_of q3
    obtain ⟨x6, m6, q5⟩ := tkI_of q4
    obtain ⟨y0, t0, rfl, q6⟩ := skI_of q5
    obtain ⟨rfl, q7⟩ := skE_of q6
    exact WK_less (k76 _ _ _ _ _ _ q7) (List.forall_mem_cons.mpr ⟨m0, (List.forall_mem_cons.mpr ⟨m1, (List.forall_mem_cons.mpr ⟨m4, (List.forall_mem_cons.mpr ⟨m5, (List.forall_mem_cons.mpr ⟨m6, (fun _ h => absurd h List.not_mem_nil)⟩)⟩)⟩)⟩)⟩)
def nX1_latestToCome_37 (h : HH) : Nat → Int → Int → Int → Int → Option Int := iter (fun _ _ _ _ => none) (fun self => bX1_latestToCome_37 nX1_has h (nX1_latestToCome_76 h self))
theorem nX1_latestToCome_37_s {h : HH} {F : Nat} : nX1_latestToCome_37 h (F + 1) = bX1_latestToCome_37 nX1_has h (nX1_latestToCome_76 h (nX1_latestToCome_37 h F)) := rfl
theorem wX1_latestToCome_37 {g : SG} (hg : GOK g) {σ0 : SG} {h : HH} : ∀ {F : Nat}, ∀ {x1 : Int} {x4 : Int} {x5 : Int} {x6 : Int} {b : Int}, nX1_latestToCome_37 h F x1 x4 x5 x6 = some b → WK 22 (.inl (some (aI b))) σ0 (abH 2 70 g h) 37 [(0, aR 49), (1, aI x1), (4, aI x4), (5, aI x5), (6, aI x6)] [] (abH 2 70 g h) 0 0 := by
  intro F
  have z : ∀ (x1 : Int) (x4 : Int) (x5 : Int) (x6 : Int) (b : Int), nX1_latestToCome_37 h F x1 x4 x5 x6 = some b → WK 22 (.inl (some (aI b))) σ0 (abH 2 70 g h) 37 [(0, aR 49), (1, aI x1), (4, aI x4), (5, aI x5), (6, aI x6)] [] (abH 2 70 g h) 0 0 := iter_ind (P := fun (c : Int → Int → Int → Int → Option Int) => ∀ (x1 : Int) (x4 : Int) (x5 : Int) (x6 : Int) (b : Int), c x1 x4 x5 x6 = some b → WK 22 (.inl (some (aI b))) σ0 (abH 2 70 g h) 37 [(0, aR 49), (1, aI x1), (4, aI x4), (5, aI x5), (6, aI x6)] [] (abH 2 70 g h) 0 0) (by
    intro x1 x4 x5 x6 b q
    cases q) (fun self ih => by
    intro x1 x4 x5 x6 b q
    exact uX1_latestToCome_37 hg (fun _ _ _ _ _ _ q => wX1_latestToCome_76 hg ih q) q) F
  intro x1 x4 x5 x6 b q
  exact z _ _ _ _ _ q
def bX1_latestToCome_32 (h : HH) (c37 : Int → Int → Int → Int → Option Int) (x1 : Int) (x4 : Int) (y0 : Int) : Option Int :=
  c37 x1 x4 y0 0
theorem uX1_latestToCome_32 {g : SG} (hg : GOK g) {σ0 : SG} {h : HH} {c37 : Int → Int → Int → Int → Option Int} (k37 : ∀ (x1 : Int) (x4 : Int) (x5 : Int) (x6 : Int) (b : Int), c37 x1 x4 x5 x6 = some b → WK 22 (.inl (some (aI b))) σ0 (abH 2 70 g h) 37 [(0, aR 49), (1, aI x1), (4, aI x4), (5, aI x5), (6, aI x6)] [] (abH 2 70 g h) 0 0) : ∀ {x1 : Int} {x4 : Int} {y0 : Int} {b : Int}, bX1_latestToCome_32 h c37 x1 x4 y0 = some b → WK 22 (.inl (some (aI b))) σ0 (abH 2 70 g h) 32 [(0, aR 49), (1, aI x1), (4, aI x4)] [aI y0] (abH 2 70 g h) 0 0 := by
  intro x1 x4 y0 b q
  have e : bX1_latestToCome_32 h c37 x1 x4 y0 = segP 2 70 g.2.2.2.2 h krPI clNP csX1_latestToCome (cuC 37 (fun l st s => tkC 0 49 l <| tkI 1 l fun x1 => tkI 4 l fun x4 => tkI 5 l fun x5 => tkI 6 l fun x6 => skE st (c37 x1 x4 x5 x6)) cuN) 1000 32 [(0, aR 49), (1, aI x1), (4, aI x4)] [aI y0] := rfl
  rw [e] at q
  clear e
  refine segP_wk (by decide) (by decide) hg rwX1_latestToCome CLKP_N krPI_ok ?_ q
  clear q
  refine ct_C ?_ (ct_N)
  · intro l st _ q
    obtain ⟨m0, q1⟩ := tkC_of q
    obtain ⟨x1, m1, q2⟩ := tkI_of q1
    obtain ⟨x4, m4, q3⟩ := tkI_of q2
    obtain ⟨x5, m5, q4⟩ := tkI_of q3
    obtain ⟨x6, m6, q5⟩ := tkI_of q4
    obtain ⟨rfl, q6⟩ := skE_of q5
    exact WK_less (k37 _ _ _ _ _ q6) (List.forall_mem_cons.mpr ⟨m0, (List.forall_mem_cons.mpr ⟨m1, (List.forall_mem_cons.mpr ⟨m4, (List.forall_mem_cons.mpr ⟨m5, (List.forall_mem_cons.mpr ⟨m6, (fun _ h => absurd h List.not_mem_nil)⟩)⟩)⟩)⟩)⟩)
def nX1_latestToCome_32 (h : HH) (x1 : Int) (x4 : Int) (y0 : Int) : Option Int := bX1_latestToCome_32 h (nX1_latestToCome_37 h 100000) x1 x4 y0
theorem wX1_latestToCome_32 {g : SG} (hg : GOK g) {σ0 : SG} {h : HH} : ∀ {x1 : Int} {x4 : Int} {y0 : Int} {b : Int}, nX1_latestToCome_32 h x1 x4 y0 = some b → WK 22 (.inl (some (aI b))) σ0 (abH 2 70 g h) 32 [(0, aR 49), (1, aI x1), (4, aI x4)] [aI y0] (abH 2 70 g h) 0 0 := by
  intro x1 x4 y0 b q
  exact uX1_latestToCome_32 hg (fun _ _ _ _ _ q => wX1_latestToCome_37 hg q) q
def bX1_latestToCome_31 (h : HH) (c32 : Int → Int → Int → Option Int) (x1 : Int) (x4 : Int) : Option Int :=
  c32 x1 x4 (-1)
theorem uX1_latestToCome_31 {g : SG} (hg : GOK g) {σ0 : SG} {h : HH} {c32 : Int → Int → Int → Option Int} (k32 : ∀ (x1 : Int) (x4 : Int) (y0 : Int) (b : Int), c32 x1 x4 y0 = some b → WK 22 (.inl (some (aI b))) σ0 (abH 2 70 g h) 32 [(0, aR 49), (1, aI x1), (4, aI x4)] [aI y0] (abH 2 70 g h) 0 0) : ∀ {x1 : Int} {x4 : Int} {b : Int}, bX1_latestToCome_31 h c32 x1 x4 = some b → WK 22 (.inl (some (aI b))) σ0 (abH 2 70 g h) 31 [(0, aR 49), (1, aI x1), (4, aI x4)] [] (abH 2 70 g h) 0 0 := by
  intro x1 x4 b q
  have e : bX1_latestToCome_31 h c32 x1 x4 = segP 2 70 g.2.2.2.2 h krPI clNP csX1_latestToCome (cuC 32 (fun l st s => tkC 0 49 l <| tkI 1 l fun x1 => tkI 4 l fun x4 => skI st fun y0 st => skE st (c32 x1 x4 y0)) cuN) 1000 31 [(0, aR 49), (1, aI x1), (4, aI x4)] [] := rfl
  rw [e] at q
  clear e
  refine segP_wk (by decide) (by decide) hg rwX1_latestToCome CLKP_N krPI_ok ?_ q
  clear q
  refine ct_C ?_ (ct_N)
  · intro l st _ q
    obtain ⟨m0, q1⟩ := tkC_of q
    obtain ⟨x1, m1, q2⟩ := tkI_of q1
    obtain ⟨x4, m4, q3⟩ := tkI_of q2
    obtain ⟨y0, t0, rfl, q4⟩ := skI_of q3
    obtain ⟨rfl, q5⟩ := skE_of q4
    exact WK_less (k32 _ _ _ _ q5) (List.forall_mem_cons.mpr ⟨m0, (List.forall_mem_cons.mpr ⟨m1, (List.forall_mem_cons.mpr ⟨m4, (fun _ h => absurd h List.not_mem_nil)⟩)⟩)⟩)
def nX1_latestToCome_31 (h : HH) (x1 : Int) (x4 : Int) : Option Int := bX1_latestToCome_31 h (nX1_latestToCome_32 h) x1 x4
theorem wX1_latestToCome_31 {g : SG} (hg : GOK g) {σ0 : SG} {h : HH} : ∀ {x1 : Int} {x4 : Int} {b : Int}, nX1_latestToCome_31 h x1 x4 = some b → WK 22 (.inl (some (aI b))) σ0 (abH 2 70 g h) 31 [(0, aR 49), (1, aI x1), (4, aI x4)] [] (abH 2 70 g h) 0 0 := by
  intro x1 x4 b q
  exact uX1_latestToCome_31 hg (fun _ _ _ _ q => wX1_latestToCome_32 hg q) q
def bX1_latestToCome (f19 : HH → Int → Option Int) (h : HH) (c31 : Int → Int → Option Int) (c32 : Int → Int → Int → Option Int) (x1 : Int) (x2 : Int) (x3 : Int) : Option Int :=
  gd ((0 : Int) ≤ x2 ∧ x2 < (9 : Int)) <|
    if x1 = (0 : Int) then
    bnd (f19 h x2) fun r1 =>
    if r1 = ((-1) : Int) then
    c31 x1 (h.1 50 x2)
  else
    bnd (f19 h x2) fun r2 =>
    gd (R32 (x3 - r2)) <|
    c32 x1 (h.1 50 x2) (x3 - r2)
  else
    c31 x1 (h.1 50 x2)
theorem uX1_latestToCome {g : SG} (hg : GOK g) {σ0 : SG} {h : HH} {c31 : Int → Int → Option Int} {c32 : Int → Int → Int → Option Int} (k31 : ∀ (x1 : Int) (x4 : Int) (b : Int), c31 x1 x4 = some b → WK 22 (.inl (some (aI b))) σ0 (abH 2 70 g h) 31 [(0, aR 49), (1, aI x1), (4, aI x4)] [] (abH 2 70 g h) 0 0) (k32 : ∀ (x1 : Int) (x4 : Int) (y0 : Int) (b : Int), c32 x1 x4 y0 = some b → WK 22 (.inl (some (aI b))) σ0 (abH 2 70 g h) 32 [(0, aR 49), (1, aI x1), (4, aI x4)] [aI y0] (abH 2 70 g h) 0 0) : ∀ {x1 : Int} {x2 : Int} {x3 : Int} {b : Int}, bX1_latestToCome nX1_homeFrom h c31 c32 x1 x2 x3 = some b → WK 22 (.inl (some (aI b))) σ0 (abH 2 70 g h) 0 [(0, aR 49), (1, aI x1), (2, aI x2), (3, aI x3)] [] (abH 2 70 g h) 0 0 := by
  intro x1 x2 x3 b q
  have e : ∀ (f19 : HH → Int → Option Int) , bX1_latestToCome f19 h c31 c32 x1 x2 x3 = segP 2 70 g.2.2.2.2 h krPI (clCP 19 (pX1_homeFrom f19 h) clNP) csX1_latestToCome (cuC 31 (fun l st s => tkC 0 49 l <| tkI 1 l fun x1 => tkI 4 l fun x4 => skE st (c31 x1 x4)) (cuC 32 (fun l st s => tkC 0 49 l <| tkI 1 l fun x1 => tkI 4 l fun x4 => skI st fun y0 st => skE st (c32 x1 x4 y0)) cuN)) 1000 0 [(0, aR 49), (1, aI x1), (2, aI x2), (3, aI x3)] [] := fun _ => rfl
  rw [e nX1_homeFrom] at q
  clear e
  refine segP_wk (by decide) (by decide) hg rwX1_latestToCome (CLKP_C (pX1_homeFrom_ok hg) CLKP_N) krPI_ok ?_ q
  clear q
  refine ct_C ?_ (ct_C ?_ (ct_N))
  · intro l st _ q
    obtain ⟨m0, q1⟩ := tkC_of q
    obtain ⟨x1, m1, q2⟩ := tkI_of q1
    obtain ⟨x4, m4, q3⟩ := tkI_of q2
    obtain ⟨rfl, q4⟩ := skE_of q3
    exact WK_less (k31 _ _ _ q4) (List.forall_mem_cons.mpr ⟨m0, (List.forall_mem_cons.mpr ⟨m1, (List.forall_mem_cons.mpr ⟨m4, (fun _ h => absurd h List.not_mem_nil)⟩)⟩)⟩)
  · intro l st _ q
    obtain ⟨m0, q1⟩ := tkC_of q
    obtain ⟨x1, m1, q2⟩ := tkI_of q1
    obtain ⟨x4, m4, q3⟩ := tkI_of q2
    obtain ⟨y0, t0, rfl, q4⟩ := skI_of q3
    obtain ⟨rfl, q5⟩ := skE_of q4
    exact WK_less (k32 _ _ _ _ q5) (List.forall_mem_cons.mpr ⟨m0, (List.forall_mem_cons.mpr ⟨m1, (List.forall_mem_cons.mpr ⟨m4, (fun _ h => absurd h List.not_mem_nil)⟩)⟩)⟩)
def nX1_latestToCome (h : HH) (x1 : Int) (x2 : Int) (x3 : Int) : Option Int := bX1_latestToCome nX1_homeFrom h (nX1_latestToCome_31 h) (nX1_latestToCome_32 h) x1 x2 x3
theorem wX1_latestToCome {g : SG} (hg : GOK g) {σ0 : SG} {h : HH} : ∀ {x1 : Int} {x2 : Int} {x3 : Int} {b : Int}, nX1_latestToCome h x1 x2 x3 = some b → WK 22 (.inl (some (aI b))) σ0 (abH 2 70 g h) 0 [(0, aR 49), (1, aI x1), (2, aI x2), (3, aI x3)] [] (abH 2 70 g h) 0 0 := by
  intro x1 x2 x3 b q
  exact uX1_latestToCome hg (fun _ _ _ q => wX1_latestToCome_31 hg q) (fun _ _ _ _ q => wX1_latestToCome_32 hg q) q
theorem mX1_latestToCome {g : SG} (hg : GOK g) {h : HH} {x1 : Int} {x2 : Int} {x3 : Int} {b : Int} (q : nX1_latestToCome h x1 x2 x3 = some b) : MCT 22 [] [aR 49, aI x1, aI x2, aI x3] (abH 2 70 g h) (.inl (some (aI b))) (abH 2 70 g h) :=
  mct_of (by decide) (MFok 22 (by decide +kernel)) (fun _ => Nat.le_of_ble_eq_true rfl) (wX1_latestToCome hg q)
def pX1_latestToCome {β : Type} (z : HH → Int → Int → Int → Option Int) : PP β := fun h as f => skC 49 as fun as => skI as fun x1 as => skI as fun x2 as => skI as fun x3 as => skE as (bnd (z h x1 x2 x3) fun r => f (.inl (some (aI r))))
theorem pX1_latestToCome_ok {β : Type} {g : SG} (hg : GOK g) : CP1 (β := β) 22 (pX1_latestToCome nX1_latestToCome) 2 70 g := fun h as f b q => by
  obtain ⟨as, rfl, q1⟩ := skC_of q
  obtain ⟨x1, as, rfl, q2⟩ := skI_of q1
  obtain ⟨x2, as, rfl, q3⟩ := skI_of q2
  obtain ⟨x3, as, rfl, q4⟩ := skI_of q3
  obtain ⟨rfl, q0⟩ := skE_of q4
  obtain ⟨r, z1, z2⟩ := bnd_of q0
  exact ⟨_, z2, by decide, mX1_latestToCome hg z1, rfl, rfl, fun z => absurd z (by decide)⟩
def csX1_fillLatest : List (Nat × List (Nat × ARow)) := [(39, [(0, 1, .iconst 0, 0, 0, 0), (1, 1, .istore_n 2, 0, 0, 0), (2, 1, .iload_n 2, 0, 0, 0), (3, 1, .aload_n 0, 0, 0, 0), (4, 3, .invokevirtual 29, 13, 1, 1), (7, 3, .if_icmp .ge 51, 58, 0, 0), (10, 1, .iconst 0, 0, 0, 0), (11, 1, .istore_n 3, 0, 0, 0), (12, 1, .iload_n 3, 0, 0, 0), (13, 1, .aload_n 0, 0, 0, 0), (14, 3, .getfield 25, 1, 2, 0), (17, 3, .if_icmp .ge 35, 52, 0, 0), (20, 1, .iload_n 2, 0, 0, 0), (21, 1, .iload_n 3, 0, 0, 0), (22, 3, .invokestatic 33, 15, 2, 0), (25, 3, .ifCond .ne 21, 46, 0, 0), (28, 1, .aload_n 0, 0, 0, 0), (29, 3, .getfield 18, 1, 4, 2), (32, 1, .iload_n 2, 0, 0, 0), (33, 2, .bipush 9, 0, 0, 0), (35, 1, .imul, 0, 0, 0), (36, 1, .iload_n 3, 0, 0, 0), (37, 1, .iadd, 0, 0, 0), (38, 1, .aload_n 0, 0, 0, 0)]),
  (100000, [(39, 1, .iload_n 2, 0, 0, 0), (40, 1, .iload_n 3, 0, 0, 0), (41, 1, .iload_n 1, 0, 0, 0), (42, 3, .invokevirtual 94, 22, 4, 1), (45, 1, .iastore, 0, 0, 0), (46, 3, .iinc 3 1, 0, 0, 0), (49, 3, .goto (-37), 12, 0, 0), (52, 3, .iinc 2 1, 0, 0, 0), (55, 3, .goto (-53), 2, 0, 0), (58, 1, .return_, 0, 0, 0)])]
theorem rwX1_fillLatest : rowsB (mB 21) (mO 21) (mX 21) (mIni 21) (mFr 21) (mLo 21) (mT 21) csX1_fillLatest = true := by decide +kernel
def bX1_fillLatest_46 (c12 : Int → Int → Int → HH → Option HH) (x1 : Int) (x2 : Int) (x3 : Int) (h : HH) : Option HH :=
  gd (R32 (x3 + 1)) <|
    c12 x1 x2 (x3 + 1) h
theorem uX1_fillLatest_46 {g : SG} (hg : GOK g) {σ0 : SG} {c12 : Int → Int → Int → HH → Option HH} (k12 : ∀ (x1 : Int) (x2 : Int) (x3 : Int) (h : HH) (b : HH), c12 x1 x2 x3 h = some b → WK 21 (.inl none) σ0 (abH 2 70 g b) 12 [(0, aR 49), (1, aI x1), (2, aI x2), (3, aI x3)] [] (abH 2 70 g h) 0 0) : ∀ {x1 : Int} {x2 : Int} {x3 : Int} {h : HH} {b : HH}, bX1_fillLatest_46 c12 x1 x2 x3 h = some b → WK 21 (.inl none) σ0 (abH 2 70 g b) 46 [(0, aR 49), (1, aI x1), (2, aI x2), (3, aI x3)] [] (abH 2 70 g h) 0 0 := by
  intro x1 x2 x3 h b q
  have e : bX1_fillLatest_46 c12 x1 x2 x3 h = segW 2 70 g.2.2.2.2 krWV clN csX1_fillLatest (cuC 12 (fun l st s => tkC 0 49 l <| tkI 1 l fun x1 => tkI 2 l fun x2 => tkI 3 l fun x3 => skE st (c12 x1 x2 x3 s)) cuN) 1000 46 [(0, aR 49), (1, aI x1), (2, aI x2), (3, aI x3)] [] h := rfl
  rw [e] at q
  clear e
  refine segW_wk (by decide) (by decide) hg rwX1_fillLatest CLKW_N krWV_ok ?_ q
  clear q
  refine ct_C ?_ (ct_N)
  · intro l st h q
    obtain ⟨m0, q1⟩ := tkC_of q
    obtain ⟨x1, m1, q2⟩ := tkI_of q1
    obtain ⟨x2, m2, q3⟩ := tkI_of q2
    obtain ⟨x3, m3, q4⟩ := tkI_of q3
    obtain ⟨rfl, q5⟩ := skE_of q4
    exact WK_less (k12 _ _ _ _ _ q5) (List.forall_mem_cons.mpr ⟨m0, (List.forall_mem_cons.mpr ⟨m1, (List.forall_mem_cons.mpr ⟨m2, (List.forall_mem_cons.mpr ⟨m3, (fun _ h => absurd h List.not_mem_nil)⟩)⟩)⟩)⟩)
def nX1_fillLatest_46 (c2 : Int → Int → HH → Option HH) (c12 : Int → Int → Int → HH → Option HH) (x1 : Int) (x2 : Int) (x3 : Int) (h : HH) : Option HH := bX1_fillLatest_46 c12 x1 x2 x3 h
theorem wX1_fillLatest_46 {g : SG} (hg : GOK g) {σ0 : SG} {c2 : Int → Int → HH → Option HH} {c12 : Int → Int → Int → HH → Option HH} (k2 : ∀ (x1 : Int) (x2 : Int) (h : HH) (b : HH), c2 x1 x2 h = some b → WK 21 (.inl none) σ0 (abH 2 70 g b) 2 [(0, aR 49), (1, aI x1), (2, aI x2)] [] (abH 2 70 g h) 0 0) (k12 : ∀ (x1 : Int) (x2 : Int) (x3 : Int) (h : HH) (b : HH), c12 x1 x2 x3 h = some b → WK 21 (.inl none) σ0 (abH 2 70 g b) 12 [(0, aR 49), (1, aI x1), (2, aI x2), (3, aI x3)] [] (abH 2 70 g h) 0 0) : ∀ {x1 : Int} {x2 : Int} {x3 : Int} {h : HH} {b : HH}, nX1_fillLatest_46 c2 c12 x1 x2 x3 h = some b → WK 21 (.inl none) σ0 (abH 2 70 g b) 46 [(0, aR 49), (1, aI x1), (2, aI x2), (3, aI x3)] [] (abH 2 70 g h) 0 0 := by
  intro x1 x2 x3 h b q
  exact uX1_fillLatest_46 hg k12 q
def bX1_fillLatest_12 (f15 : HH → Int → Int → Option Int) (f22 : HH → Int → Int → Int → Option Int) (c2 : Int → Int → HH → Option HH) (c46 : Int → Int → Int → HH → Option HH) (x1 : Int) (x2 : Int) (x3 : Int) (h : HH) : Option HH :=
  if x3 < ((h.1 49 2) : Int) then
    bnd (f15 h x2 x3) fun r1 =>
    if r1 = (0 : Int) then
    gd (R32 (x2 * 9)) <|
    gd (R32 ((x2 * 9) + x3)) <|
    bnd (f22 h x2 x3 x1) fun r2 =>
    gd ((0 : Int) ≤ ((x2 * 9) + x3) ∧ ((x2 * 9) + x3) < (4608 : Int)) <|
    bnd (some (hI h 52 ((x2 * 9) + x3) r2)) fun h3 =>
    c46 x1 x2 x3 h3
  else
    c46 x1 x2 x3 h
  else
    gd (R32 (x2 + 1)) <|
    c2 x1 (x2 + 1) h
theorem uX1_fillLatest_12 {g : SG} (hg : GOK g) {σ0 : SG} {c2 : Int → Int → HH → Option HH} {c46 : Int → Int → Int → HH → Option HH} (k2 : ∀ (x1 : Int) (x2 : Int) (h : HH) (b : HH), c2 x1 x2 h = some b → WK 21 (.inl none) σ0 (abH 2 70 g b) 2 [(0, aR 49), (1, aI x1), (2, aI x2)] [] (abH 2 70 g h) 0 0) (k46 : ∀ (x1 : Int) (x2 : Int) (x3 : Int) (h : HH) (b : HH), c46 x1 x2 x3 h = some b → WK 21 (.inl none) σ0 (abH 2 70 g b) 46 [(0, aR 49), (1, aI x1), (2, aI x2), (3, aI x3)] [] (abH 2 70 g h) 0 0) : ∀ {x1 : Int} {x2 : Int} {x3 : Int} {h : HH} {b : HH}, bX1_fillLatest_12 nX1_has nX1_latestToCome c2 c46 x1 x2 x3 h = some b → WK 21 (.inl none) σ0 (abH 2 70 g b) 12 [(0, aR 49), (1, aI x1), (2, aI x2), (3, aI x3)] [] (abH 2 70 g h) 0 0 := by
  intro x1 x2 x3 h b q
  have e : ∀ (f15 : HH → Int → Int → Option Int) (f22 : HH → Int → Int → Int → Option Int) , bX1_fillLatest_12 f15 f22 c2 c46 x1 x2 x3 h = segW 2 70 g.2.2.2.2 krWV (clC 15 (liPW (pX1_has f15)) (clC 22 (liPW (pX1_latestToCome f22)) clN)) csX1_fillLatest (cuC 2 (fun l st s => tkC 0 49 l <| tkI 1 l fun x1 => tkI 2 l fun x2 => skE st (c2 x1 x2 s)) (cuC 46 (fun l st s => tkC 0 49 l <| tkI 1 l fun x1 => tkI 2 l fun x2 => tkI 3 l fun x3 => skE st (c46 x1 x2 x3 s)) cuN)) 1000 12 [(0, aR 49), (1, aI x1), (2, aI x2), (3, aI x3)] [] h := fun _ _ => rfl
  rw [e nX1_has nX1_latestToCome] at q
  clear e
  refine segW_wk (by decide) (by decide) hg rwX1_fillLatest (CLKW_C (liPW_ok (pX1_has_ok hg)) (CLKW_C (liPW_ok (pX1_latestToCome_ok hg)) CLKW_N)) krWV_ok ?_ q
  clear q
  refine ct_C ?_ (ct_C ?_ (ct_N))
  · intro l st h q
    obtain ⟨m0, q1⟩ := tkC_of q
    obtain ⟨x1, m1, q2⟩ := tkI_of q1
    obtain ⟨x2, m2, q3⟩ := tkI_of q2
    obtain ⟨rfl, q4⟩ := skE_of q3
    exact WK_less (k2 _ _ _ _ q4) (List.forall_mem_cons.mpr ⟨m0, (List.forall_mem_cons.mpr ⟨m1, (List.forall_mem_cons.mpr ⟨m2, (fun _ h => absurd h List.not_mem_nil)⟩)⟩)⟩)
  · intro l st h q
    obtain ⟨m0, q1⟩ := tkC_of q
    obtain ⟨x1, m1, q2⟩ := tkI_of q1
    obtain ⟨x2, m2, q3⟩ := tkI_of q2
    obtain ⟨x3, m3, q4⟩ := tkI_of q3
    obtain ⟨rfl, q5⟩ := skE_of q4
    exact WK_less (k46 _ _ _ _ _ q5) (List.forall_mem_cons.mpr ⟨m0, (List.forall_mem_cons.mpr ⟨m1, (List.forall_mem_cons.mpr ⟨m2, (List.forall_mem_cons.mpr ⟨m3, (fun _ h => absurd h List.not_mem_nil)⟩)⟩)⟩)⟩)
def nX1_fillLatest_12 (c2 : Int → Int → HH → Option HH) : Nat → Int → Int → Int → HH → Option HH := iter (fun _ _ _ _ => none) (fun self => bX1_fillLatest_12 nX1_has nX1_latestToCome c2 (nX1_fillLatest_46 c2 self))
theorem nX1_fillLatest_12_s {c2 : Int → Int → HH → Option HH} {F : Nat} : nX1_fillLatest_12 c2 (F + 1) = bX1_fillLatest_12 nX1_has nX1_latestToCome c2 (nX1_fillLatest_46 c2 (nX1_fillLatest_12 c2 F)) := rfl
theorem wX1_fillLatest_12 {g : SG} (hg : GOK g) {σ0 : SG} {c2 : Int → Int → HH → Option HH} (k2 : ∀ (x1 : Int) (x2 : Int) (h : HH) (b : HH), c2 x1 x2 h = some b → WK 21 (.inl none) σ0 (abH 2 70 g b) 2 [(0, aR 49), (1, aI x1), (2, aI x2)] [] (abH 2 70 g h) 0 0) : ∀ {F : Nat}, ∀ {x1 : Int} {x2 : Int} {x3 : Int} {h : HH} {b : HH}, nX1_fillLatest_12 c2 F x1 x2 x3 h = some b → WK 21 (.inl none) σ0 (abH 2 70 g b) 12 [(0, aR 49), (1, aI x1), (2, aI x2), (3, aI x3)] [] (abH 2 70 g h) 0 0 := by
  intro F
  have z : ∀ (x1 : Int) (x2 : Int) (x3 : Int) (h : HH) (b : HH), nX1_fillLatest_12 c2 F x1 x2 x3 h = some b → WK 21 (.inl none) σ0 (abH 2 70 g b) 12 [(0, aR 49), (1, aI x1), (2, aI x2), (3, aI x3)] [] (abH 2 70 g h) 0 0 := iter_ind (P := fun (c : Int → Int → Int → HH → Option HH) => ∀ (x1 : Int) (x2 : Int) (x3 : Int) (h : HH) (b : HH), c x1 x2 x3 h = some b → WK 21 (.inl none) σ0 (abH 2 70 g b) 12 [(0, aR 49), (1, aI x1), (2, aI x2), (3, aI x3)] [] (abH 2 70 g h) 0 0) (by
    intro x1 x2 x3 h b q
    cases q) (fun self ih => by
    intro x1 x2 x3 h b q
    exact uX1_fillLatest_12 hg k2 (fun _ _ _ _ _ q => wX1_fillLatest_46 hg k2 ih q) q) F
  intro x1 x2 x3 h b q
  exact z _ _ _ _ _ q
def bX1_fillLatest_2 (f13 : HH → Option Int) (c12 : Int → Int → Int → HH → Option HH) (x1 : Int) (x2 : Int) (h : HH) : Option HH :=
  bnd (f13 h) fun r1 =>
    if x2 < (r1 : Int) then
    c12 x1 x2 0 h
  else
    some h
theorem uX1_fillLatest_2 {g : SG} (hg : GOK g) {σ0 : SG} {c12 : Int → Int → Int → HH → Option HH} (k12 : ∀ (x1 : Int) (x2 : Int) (x3 : Int) (h : HH) (b : HH), c12 x1 x2 x3 h = some b → WK 21 (.inl none) σ0 (abH 2 70 g b) 12 [(0, aR 49), (1, aI x1), (2, aI x2), (3, aI x3)] [] (abH 2 70 g h) 0 0) : ∀ {x1 : Int} {x2 : Int} {h : HH} {b : HH}, bX1_fillLatest_2 nX1_all c12 x1 x2 h = some b → WK 21 (.inl none) σ0 (abH 2 70 g b) 2 [(0, aR 49), (1, aI x1), (2, aI x2)] [] (abH 2 70 g h) 0 0 := by
  intro x1 x2 h b q
  have e : ∀ (f13 : HH → Option Int) , bX1_fillLatest_2 f13 c12 x1 x2 h = segW 2 70 g.2.2.2.2 krWV (clC 13 (liPW (pX1_all f13)) clN) csX1_fillLatest (cuC 12 (fun l st s => tkC 0 49 l <| tkI 1 l fun x1 => tkI 2 l fun x2 => tkI 3 l fun x3 => skE st (c12 x1 x2 x3 s)) cuN) 1000 2 [(0, aR 49), (1, aI x1), (2, aI x2)] [] h := fun _ => rfl
  rw [e nX1_all] at q
  clear e
  refine segW_wk (by decide) (by decide) hg rwX1_fillLatest (CLKW_C (liPW_ok (pX1_all_ok hg)) CLKW_N) krWV_ok ?_ q
  clear q
  refine ct_C ?_ (ct_N)
  · intro l st h q
    obtain ⟨m0, q1⟩ := tkC_of q
    obtain ⟨x1, m1, q2⟩ := tkI_of q1
    obtain ⟨x2, m2, q3⟩ := tkI_of q2
    obtain ⟨x3, m3, q4⟩ := tkI_of q3
    obtain ⟨rfl, q5⟩ := skE_of q4
    exact WK_less (k12 _ _ _ _ _ q5) (List.forall_mem_cons.mpr ⟨m0, (List.forall_mem_cons.mpr ⟨m1, (List.forall_mem_cons.mpr ⟨m2, (List.forall_mem_cons.mpr ⟨m3, (fun _ h => absurd h List.not_mem_nil)⟩)⟩)⟩)⟩)
def nX1_fillLatest_2 : Nat → Int → Int → HH → Option HH := iter (fun _ _ _ => none) (fun self => bX1_fillLatest_2 nX1_all (nX1_fillLatest_12 self 100000))
theorem nX1_fillLatest_2_s {F : Nat} : nX1_fillLatest_2 (F + 1) = bX1_fillLatest_2 nX1_all (nX1_fillLatest_12 (nX1_fillLatest_2 F) 100000) := rfl
theorem wX1_fillLatest_2 {g : SG} (hg : GOK g) {σ0 : SG} : ∀ {F : Nat}, ∀ {x1 : Int} {x2 : Int} {h : HH} {b : HH}, nX1_fillLatest_2 F x1 x2 h = some b → WK 21 (.inl none) σ0 (abH 2 70 g b) 2 [(0, aR 49), (1, aI x1), (2, aI x2)] [] (abH 2 70 g h) 0 0 := by
  intro F
  have z : ∀ (x1 : Int) (x2 : Int) (h : HH) (b : HH), nX1_fillLatest_2 F x1 x2 h = some b → WK 21 (.inl none) σ0 (abH 2 70 g b) 2 [(0, aR 49), (1, aI x1), (2, aI x2)] [] (abH 2 70 g h) 0 0 := iter_ind (P := fun (c : Int → Int → HH → Option HH) => ∀ (x1 : Int) (x2 : Int) (h : HH) (b : HH), c x1 x2 h = some b → WK 21 (.inl none) σ0 (abH 2 70 g b) 2 [(0, aR 49), (1, aI x1), (2, aI x2)] [] (abH 2 70 g h) 0 0) (by
    intro x1 x2 h b q
    cases q) (fun self ih => by
    intro x1 x2 h b q
    exact uX1_fillLatest_2 hg (fun _ _ _ _ _ q => wX1_fillLatest_12 hg ih q) q) F
  intro x1 x2 h b q
  exact z _ _ _ _ q
def bX1_fillLatest (c2 : Int → Int → HH → Option HH) (x1 : Int) (h : HH) : Option HH :=
  c2 x1 0 h
theorem uX1_fillLatest {g : SG} (hg : GOK g) {σ0 : SG} {c2 : Int → Int → HH → Option HH} (k2 : ∀ (x1 : Int) (x2 : Int) (h : HH) (b : HH), c2 x1 x2 h = some b → WK 21 (.inl none) σ0 (abH 2 70 g b) 2 [(0, aR 49), (1, aI x1), (2, aI x2)] [] (abH 2 70 g h) 0 0) : ∀ {x1 : Int} {h : HH} {b : HH}, bX1_fillLatest c2 x1 h = some b → WK 21 (.inl none) σ0 (abH 2 70 g b) 0 [(0, aR 49), (1, aI x1)] [] (abH 2 70 g h) 0 0 := by
  intro x1 h b q
  have e : bX1_fillLatest c2 x1 h = segW 2 70 g.2.2.2.2 krWV clN csX1_fillLatest (cuC 2 (fun l st s => tkC 0 49 l <| tkI 1 l fun x1 => tkI 2 l fun x2 => skE st (c2 x1 x2 s)) cuN) 1000 0 [(0, aR 49), (1, aI x1)] [] h := rfl
  rw [e] at q
  clear e
  refine segW_wk (by decide) (by decide) hg rwX1_fillLatest CLKW_N krWV_ok ?_ q
  clear q
  refine ct_C ?_ (ct_N)
  · intro l st h q
    obtain ⟨m0, q1⟩ := tkC_of q
    obtain ⟨x1, m1, q2⟩ := tkI_of q1
    obtain ⟨x2, m2, q3⟩ := tkI_of q2
    obtain ⟨rfl, q4⟩ := skE_of q3
    exact WK_less (k2 _ _ _ _ q4) (List.forall_mem_cons.mpr ⟨m0, (List.forall_mem_cons.mpr ⟨m1, (List.forall_mem_cons.mpr ⟨m2, (fun _ h => absurd h List.not_mem_nil)⟩)⟩)⟩)
def nX1_fillLatest (x1 : Int) (h : HH) : Option HH := bX1_fillLatest (nX1_fillLatest_2 100000) x1 h
theorem wX1_fillLatest {g : SG} (hg : GOK g) {σ0 : SG} : ∀ {x1 : Int} {h : HH} {b : HH}, nX1_fillLatest x1 h = some b → WK 21 (.inl none) σ0 (abH 2 70 g b) 0 [(0, aR 49), (1, aI x1)] [] (abH 2 70 g h) 0 0 := by
  intro x1 h b q
  exact uX1_fillLatest hg (fun _ _ _ _ q => wX1_fillLatest_2 hg q) q
theorem mX1_fillLatest {g : SG} (hg : GOK g) {h : HH} {x1 : Int} {b : HH} (q : nX1_fillLatest x1 h = some b) : MCT 21 [] [aR 49, aI x1] (abH 2 70 g h) (.inl none) (abH 2 70 g b) :=
  mct_of (by decide) (MFok 21 (by decide +kernel)) (fun _ => Nat.le_of_ble_eq_true rfl) (wX1_fillLatest hg q)
def pX1_fillLatest {β : Type} (z : Int → HH → Option HH) : PW β := fun as h f => skC 49 as fun as => skI as fun x1 as => skE as (bnd (z x1 h) fun r => f (.inl none) r)
theorem pX1_fillLatest_ok {β : Type} {g : SG} (hg : GOK g) : CW1 (β := β) 21 (pX1_fillLatest nX1_fillLatest) 2 70 g := fun as h f b q => by
  obtain ⟨as, rfl, q1⟩ := skC_of q
  obtain ⟨x1, as, rfl, q2⟩ := skI_of q1
  obtain ⟨rfl, q0⟩ := skE_of q2
  obtain ⟨r, z1, z2⟩ := bnd_of q0
  exact ⟨_, _, z2, by decide, mX1_fillLatest hg z1, rfl, rfl, fun z => absurd z (by decide)⟩
def csX1_firstThatGoes : List (Nat × List (Nat × ARow)) := [(49, [(0, 1, .iconst 0, 0, 0, 0), (1, 2, .istore 4, 0, 0, 0), (3, 2, .iload 4, 0, 0, 0), (5, 1, .aload_n 0, 0, 0, 0), (6, 3, .getfield 25, 1, 2, 0), (9, 3, .if_icmp .ge 83, 92, 0, 0), (12, 1, .iload_n 1, 0, 0, 0), (13, 2, .iload 4, 0, 0, 0), (15, 3, .invokestatic 33, 15, 2, 0), (18, 3, .ifCond .eq 68, 86, 0, 0), (21, 1, .aload_n 0, 0, 0, 0), (22, 3, .getfield 21, 1, 0, 2), (25, 3, .getfield 71, 2, 0, 2), (28, 1, .iload_n 2, 0, 0, 0), (29, 1, .aload_n 0, 0, 0, 0), (30, 3, .getfield 21, 1, 0, 2), (33, 3, .getfield 49, 2, 1, 2), (36, 1, .aload_n 0, 0, 0, 0), (37, 3, .getfield 9, 1, 1, 2), (40, 2, .iload 4, 0, 0, 0), (42, 1, .iaload, 0, 0, 0), (43, 1, .iaload, 0, 0, 0), (44, 3, .invokevirtual 75, 87, 3, 9), (47, 2, .istore 5, 0, 0, 0)]),
  (89, [(49, 1, .aload_n 0, 0, 0, 0), (50, 3, .getfield 18, 1, 4, 2), (53, 1, .iload_n 1, 0, 0, 0), (54, 1, .iconst 1, 0, 0, 0), (55, 2, .iload 4, 0, 0, 0), (57, 1, .ishl, 0, 0, 0), (58, 1, .ixor, 0, 0, 0), (59, 2, .bipush 9, 0, 0, 0), (61, 1, .imul, 0, 0, 0), (62, 2, .iload 4, 0, 0, 0), (64, 1, .iadd, 0, 0, 0), (65, 1, .iaload, 0, 0, 0), (66, 2, .istore 6, 0, 0, 0), (68, 2, .iload 5, 0, 0, 0), (70, 1, .iconst (-1), 0, 0, 0), (71, 3, .if_icmp .eq 15, 86, 0, 0), (74, 1, .iload_n 3, 0, 0, 0), (75, 2, .iload 5, 0, 0, 0), (77, 1, .iadd, 0, 0, 0), (78, 2, .iload 6, 0, 0, 0), (80, 3, .if_icmp .gt 6, 86, 0, 0), (83, 2, .iload 4, 0, 0, 0), (85, 1, .ireturn, 0, 0, 0), (86, 3, .iinc 4 1, 0, 0, 0)]),
  (100000, [(89, 3, .goto (-86), 3, 0, 0), (92, 1, .iconst (-1), 0, 0, 0), (93, 1, .ireturn, 0, 0, 0)])]
theorem rwX1_firstThatGoes : rowsB (mB 23) (mO 23) (mX 23) (mIni 23) (mFr 23) (mLo 23) (mT 23) csX1_firstThatGoes = true := by decide +kernel
def bX1_firstThatGoes_86 (h : HH) (c3 : Int → Int → Int → Int → Option Int) (x1 : Int) (x2 : Int) (x3 : Int) (x4 : Int) : Option Int :=
  gd (R32 (x4 + 1)) <|
    c3 x1 x2 x3 (x4 + 1)
theorem uX1_firstThatGoes_86 {g : SG} (hg : GOK g) {σ0 : SG} {h : HH} {c3 : Int → Int → Int → Int → Option Int} (k3 : ∀ (x1 : Int) (x2 : Int) (x3 : Int) (x4 : Int) (b : Int), c3 x1 x2 x3 x4 = some b → WK 23 (.inl (some (aI b))) σ0 (abH 2 70 g h) 3 [(0, aR 49), (1, aI x1), (2, aI x2), (3, aI x3), (4, aI x4)] [] (abH 2 70 g h) 0 0) : ∀ {x1 : Int} {x2 : Int} {x3 : Int} {x4 : Int} {b : Int}, bX1_firstThatGoes_86 h c3 x1 x2 x3 x4 = some b → WK 23 (.inl (some (aI b))) σ0 (abH 2 70 g h) 86 [(0, aR 49), (1, aI x1), (2, aI x2), (3, aI x3), (4, aI x4)] [] (abH 2 70 g h) 0 0 := by
  intro x1 x2 x3 x4 b q
  have e : bX1_firstThatGoes_86 h c3 x1 x2 x3 x4 = segP 2 70 g.2.2.2.2 h krPI clNP csX1_firstThatGoes (cuC 3 (fun l st s => tkC 0 49 l <| tkI 1 l fun x1 => tkI 2 l fun x2 => tkI 3 l fun x3 => tkI 4 l fun x4 => skE st (c3 x1 x2 x3 x4)) cuN) 1000 86 [(0, aR 49), (1, aI x1), (2, aI x2), (3, aI x3), (4, aI x4)] [] := rfl
  rw [e] at q
  clear e
  refine segP_wk (by decide) (by decide) hg rwX1_firstThatGoes CLKP_N krPI_ok ?_ q
  clear q
  refine ct_C ?_ (ct_N)
  · intro l st _ q
    obtain ⟨m0, q1⟩ := tkC_of q
    obtain ⟨x1, m1, q2⟩ := tkI_of q1
    obtain ⟨x2, m2, q3⟩ := tkI_of q2
    obtain ⟨x3, m3, q4⟩ := tkI_of q3
    obtain ⟨x4, m4, q5⟩ := tkI_of q4
    obtain ⟨rfl, q6⟩ := skE_of q5
    exact WK_less (k3 _ _ _ _ _ q6) (List.forall_mem_cons.mpr ⟨m0, (List.forall_mem_cons.mpr ⟨m1, (List.forall_mem_cons.mpr ⟨m2, (List.forall_mem_cons.mpr ⟨m3, (List.forall_mem_cons.mpr ⟨m4, (fun _ h => absurd h List.not_mem_nil)⟩)⟩)⟩)⟩)⟩)
def nX1_firstThatGoes_86 (h : HH) (c3 : Int → Int → Int → Int → Option Int) (x1 : Int) (x2 : Int) (x3 : Int) (x4 : Int) : Option Int := bX1_firstThatGoes_86 h c3 x1 x2 x3 x4
theorem wX1_firstThatGoes_86 {g : SG} (hg : GOK g) {σ0 : SG} {h : HH} {c3 : Int → Int → Int → Int → Option Int} (k3 : ∀ (x1 : Int) (x2 : Int) (x3 : Int) (x4 : Int) (b : Int), c3 x1 x2 x3 x4 = some b → WK 23 (.inl (some (aI b))) σ0 (abH 2 70 g h) 3 [(0, aR 49), (1, aI x1), (2, aI x2), (3, aI x3), (4, aI x4)] [] (abH 2 70 g h) 0 0) : ∀ {x1 : Int} {x2 : Int} {x3 : Int} {x4 : Int} {b : Int}, nX1_firstThatGoes_86 h c3 x1 x2 x3 x4 = some b → WK 23 (.inl (some (aI b))) σ0 (abH 2 70 g h) 86 [(0, aR 49), (1, aI x1), (2, aI x2), (3, aI x3), (4, aI x4)] [] (abH 2 70 g h) 0 0 := by
  intro x1 x2 x3 x4 b q
  exact uX1_firstThatGoes_86 hg k3 q
def bX1_firstThatGoes_3 (f15 : HH → Int → Int → Option Int) (f87 : HH → Int → Int → Option Int) (h : HH) (c86 : Int → Int → Int → Int → Option Int) (x1 : Int) (x2 : Int) (x3 : Int) (x4 : Int) : Option Int :=
  if x4 < ((h.1 49 2) : Int) then
    bnd (f15 h x1 x4) fun r1 =>
    if r1 = (0 : Int) then
    c86 x1 x2 x3 x4
  else
    gd ((0 : Int) ≤ x4 ∧ x4 < (9 : Int)) <|
    gd ((0 : Int) ≤ (h.1 50 x4) ∧ (h.1 50 x4) < (9 : Int)) <|
    bnd (f87 h x2 (h.1 14 (h.1 50 x4))) fun r2 =>
    gd (R32 ((xorI x1 (shlI 1 x4)) * 9)) <|
    gd (R32 (((xorI x1 (shlI 1 x4)) * 9) + x4)) <|
    gd ((0 : Int) ≤ (((xorI x1 (shlI 1 x4)) * 9) + x4) ∧ (((xorI x1 (shlI 1 x4)) * 9) + x4) < (4608 : Int)) <|
    if r2 = ((-1) : Int) then
    c86 x1 x2 x3 x4
  else
    gd (R32 (x3 + r2)) <|
    if ((h.1 52 (((xorI x1 (shlI 1 x4)) * 9) + x4)) : Int) < (x3 + r2) then
    c86 x1 x2 x3 x4
  else
    some x4
  else
    some (-1)
theorem uX1_firstThatGoes_3 {g : SG} (hg : GOK g) {σ0 : SG} {h : HH} {c86 : Int → Int → Int → Int → Option Int} (k86 : ∀ (x1 : Int) (x2 : Int) (x3 : Int) (x4 : Int) (b : Int), c86 x1 x2 x3 x4 = some b → WK 23 (.inl (some (aI b))) σ0 (abH 2 70 g h) 86 [(0, aR 49), (1, aI x1), (2, aI x2), (3, aI x3), (4, aI x4)] [] (abH 2 70 g h) 0 0) : ∀ {x1 : Int} {x2 : Int} {x3 : Int} {x4 : Int} {b : Int}, bX1_firstThatGoes_3 nX1_has nX9_minutesOf h c86 x1 x2 x3 x4 = some b → WK 23 (.inl (some (aI b))) σ0 (abH 2 70 g h) 3 [(0, aR 49), (1, aI x1), (2, aI x2), (3, aI x3), (4, aI x4)] [] (abH 2 70 g h) 0 0 := by
  intro x1 x2 x3 x4 b q
  have e : ∀ (f15 : HH → Int → Int → Option Int) (f87 : HH → Int → Int → Option Int) , bX1_firstThatGoes_3 f15 f87 h c86 x1 x2 x3 x4 = segP 2 70 g.2.2.2.2 h krPI (clCP 15 (pX1_has f15 h) (clCP 87 (pX9_minutesOf f87 h) clNP)) csX1_firstThatGoes (cuC 86 (fun l st s => tkC 0 49 l <| tkI 1 l fun x1 => tkI 2 l fun x2 => tkI 3 l fun x3 => tkI 4 l fun x4 => skE st (c86 x1 x2 x3 x4)) cuN) 1000 3 [(0, aR 49), (1, aI x1), (2, aI x2), (3, aI x3), (4, aI x4)] [] := fun _ _ => rfl
  rw [e nX1_has nX9_minutesOf] at q
  clear e
  refine segP_wk (by decide) (by decide) hg rwX1_firstThatGoes (CLKP_C (pX1_has_ok hg) (CLKP_C (pX9_minutesOf_ok hg) CLKP_N)) krPI_ok ?_ q
  clear q
  refine ct_C ?_ (ct_N)
  · intro l st _ q
    obtain ⟨m0, q1⟩ := tkC_of q
    obtain ⟨x1, m1, q2⟩ := tkI_of q1
    obtain ⟨x2, m2, q3⟩ := tkI_of q2
    obtain ⟨x3, m3, q4⟩ := tkI_of q3
    obtain ⟨x4, m4, q5⟩ := tkI_of q4
    obtain ⟨rfl, q6⟩ := skE_of q5
    exact WK_less (k86 _ _ _ _ _ q6) (List.forall_mem_cons.mpr ⟨m0, (List.forall_mem_cons.mpr ⟨m1, (List.forall_mem_cons.mpr ⟨m2, (List.forall_mem_cons.mpr ⟨m3, (List.forall_mem_cons.mpr ⟨m4, (fun _ h => absurd h List.not_mem_nil)⟩)⟩)⟩)⟩)⟩)
def nX1_firstThatGoes_3 (h : HH) : Nat → Int → Int → Int → Int → Option Int := iter (fun _ _ _ _ => none) (fun self => bX1_firstThatGoes_3 nX1_has nX9_minutesOf h (nX1_firstThatGoes_86 h self))
theorem nX1_firstThatGoes_3_s {h : HH} {F : Nat} : nX1_firstThatGoes_3 h (F + 1) = bX1_firstThatGoes_3 nX1_has nX9_minutesOf h (nX1_firstThatGoes_86 h (nX1_firstThatGoes_3 h F)) := rfl
theorem wX1_firstThatGoes_3 {g : SG} (hg : GOK g) {σ0 : SG} {h : HH} : ∀ {F : Nat}, ∀ {x1 : Int} {x2 : Int} {x3 : Int} {x4 : Int} {b : Int}, nX1_firstThatGoes_3 h F x1 x2 x3 x4 = some b → WK 23 (.inl (some (aI b))) σ0 (abH 2 70 g h) 3 [(0, aR 49), (1, aI x1), (2, aI x2), (3, aI x3), (4, aI x4)] [] (abH 2 70 g h) 0 0 := by
  intro F
  have z : ∀ (x1 : Int) (x2 : Int) (x3 : Int) (x4 : Int) (b : Int), nX1_firstThatGoes_3 h F x1 x2 x3 x4 = some b → WK 23 (.inl (some (aI b))) σ0 (abH 2 70 g h) 3 [(0, aR 49), (1, aI x1), (2, aI x2), (3, aI x3), (4, aI x4)] [] (abH 2 70 g h) 0 0 := iter_ind (P := fun (c : Int → Int → Int → Int → Option Int) => ∀ (x1 : Int) (x2 : Int) (x3 : Int) (x4 : Int) (b : Int), c x1 x2 x3 x4 = some b → WK 23 (.inl (some (aI b))) σ0 (abH 2 70 g h) 3 [(0, aR 49), (1, aI x1), (2, aI x2), (3, aI x3), (4, aI x4)] [] (abH 2 70 g h) 0 0) (by
    intro x1 x2 x3 x4 b q
    cases q) (fun self ih => by
    intro x1 x2 x3 x4 b q
    exact uX1_firstThatGoes_3 hg (fun _ _ _ _ _ q => wX1_firstThatGoes_86 hg ih q) q) F
  intro x1 x2 x3 x4 b q
  exact z _ _ _ _ _ q
def bX1_firstThatGoes (h : HH) (c3 : Int → Int → Int → Int → Option Int) (x1 : Int) (x2 : Int) (x3 : Int) : Option Int :=
  c3 x1 x2 x3 0
theorem uX1_firstThatGoes {g : SG} (hg : GOK g) {σ0 : SG} {h : HH} {c3 : Int → Int → Int → Int → Option Int} (k3 : ∀ (x1 : Int) (x2 : Int) (x3 : Int) (x4 : Int) (b : Int), c3 x1 x2 x3 x4 = some b → WK 23 (.inl (some (aI b))) σ0 (abH 2 70 g h) 3 [(0, aR 49), (1, aI x1), (2, aI x2), (3, aI x3), (4, aI x4)] [] (abH 2 70 g h) 0 0) : ∀ {x1 : Int} {x2 : Int} {x3 : Int} {b : Int}, bX1_firstThatGoes h c3 x1 x2 x3 = some b → WK 23 (.inl (some (aI b))) σ0 (abH 2 70 g h) 0 [(0, aR 49), (1, aI x1), (2, aI x2), (3, aI x3)] [] (abH 2 70 g h) 0 0 := by
  intro x1 x2 x3 b q
  have e : bX1_firstThatGoes h c3 x1 x2 x3 = segP 2 70 g.2.2.2.2 h krPI clNP csX1_firstThatGoes (cuC 3 (fun l st s => tkC 0 49 l <| tkI 1 l fun x1 => tkI 2 l fun x2 => tkI 3 l fun x3 => tkI 4 l fun x4 => skE st (c3 x1 x2 x3 x4)) cuN) 1000 0 [(0, aR 49), (1, aI x1), (2, aI x2), (3, aI x3)] [] := rfl
  rw [e] at q
  clear e
  refine segP_wk (by decide) (by decide) hg rwX1_firstThatGoes CLKP_N krPI_ok ?_ q
  clear q
  refine ct_C ?_ (ct_N)
  · intro l st _ q
    obtain ⟨m0, q1⟩ := tkC_of q
    obtain ⟨x1, m1, q2⟩ := tkI_of q1
    obtain ⟨x2, m2, q3⟩ := tkI_of q2
    obtain ⟨x3, m3, q4⟩ := tkI_of q3
    obtain ⟨x4, m4, q5⟩ := tkI_of q4
    obtain ⟨rfl, q6⟩ := skE_of q5
    exact WK_less (k3 _ _ _ _ _ q6) (List.forall_mem_cons.mpr ⟨m0, (List.forall_mem_cons.mpr ⟨m1, (List.forall_mem_cons.mpr ⟨m2, (List.forall_mem_cons.mpr ⟨m3, (List.forall_mem_cons.mpr ⟨m4, (fun _ h => absurd h List.not_mem_nil)⟩)⟩)⟩)⟩)⟩)
def nX1_firstThatGoes (h : HH) (x1 : Int) (x2 : Int) (x3 : Int) : Option Int := bX1_firstThatGoes h (nX1_firstThatGoes_3 h 100000) x1 x2 x3
theorem wX1_firstThatGoes {g : SG} (hg : GOK g) {σ0 : SG} {h : HH} : ∀ {x1 : Int} {x2 : Int} {x3 : Int} {b : Int}, nX1_firstThatGoes h x1 x2 x3 = some b → WK 23 (.inl (some (aI b))) σ0 (abH 2 70 g h) 0 [(0, aR 49), (1, aI x1), (2, aI x2), (3, aI x3)] [] (abH 2 70 g h) 0 0 := by
  intro x1 x2 x3 b q
  exact uX1_firstThatGoes hg (fun _ _ _ _ _ q => wX1_firstThatGoes_3 hg q) q
theorem mX1_firstThatGoes {g : SG} (hg : GOK g) {h : HH} {x1 : Int} {x2 : Int} {x3 : Int} {b : Int} (q : nX1_firstThatGoes h x1 x2 x3 = some b) : MCT 23 [] [aR 49, aI x1, aI x2, aI x3] (abH 2 70 g h) (.inl (some (aI b))) (abH 2 70 g h) :=
  mct_of (by decide) (MFok 23 (by decide +kernel)) (fun _ => Nat.le_of_ble_eq_true rfl) (wX1_firstThatGoes hg q)
def pX1_firstThatGoes {β : Type} (z : HH → Int → Int → Int → Option Int) : PP β := fun h as f => skC 49 as fun as => skI as fun x1 as => skI as fun x2 as => skI as fun x3 as => skE as (bnd (z h x1 x2 x3) fun r => f (.inl (some (aI r))))
theorem pX1_firstThatGoes_ok {β : Type} {g : SG} (hg : GOK g) : CP1 (β := β) 23 (pX1_firstThatGoes nX1_firstThatGoes) 2 70 g := fun h as f b q => by
  obtain ⟨as, rfl, q1⟩ := skC_of q
  obtain ⟨x1, as, rfl, q2⟩ := skI_of q1
  obtain ⟨x2, as, rfl, q3⟩ := skI_of q2
  obtain ⟨x3, as, rfl, q4⟩ := skI_of q3
  obtain ⟨rfl, q0⟩ := skE_of q4
  obtain ⟨r, z1, z2⟩ := bnd_of q0
  exact ⟨_, z2, by decide, mX1_firstThatGoes hg z1, rfl, rfl, fun z => absurd z (by decide)⟩
def csX1_writeLeast : List (Nat × List (Nat × ARow)) := [(40, [(0, 1, .aload_n 0, 0, 0, 0), (1, 1, .iload_n 1, 0, 0, 0), (2, 3, .invokevirtual 81, 14, 2, 1), (5, 1, .aload_n 0, 0, 0, 0), (6, 1, .iload_n 1, 0, 0, 0), (7, 1, .aload_n 0, 0, 0, 0), (8, 3, .invokevirtual 29, 13, 1, 1), (11, 3, .invokevirtual 85, 17, 3, 1), (14, 1, .istore_n 3, 0, 0, 0), (15, 1, .iload_n 3, 0, 0, 0), (16, 1, .iconst (-1), 0, 0, 0), (17, 3, .if_icmp .ne 4, 21, 0, 0), (20, 1, .return_, 0, 0, 0), (21, 1, .aload_n 0, 0, 0, 0), (22, 1, .aload_n 0, 0, 0, 0), (23, 3, .getfield 21, 1, 0, 2), (26, 3, .getfield 41, 2, 12, 2), (29, 1, .iload_n 1, 0, 0, 0), (30, 1, .iaload, 0, 0, 0), (31, 1, .iload_n 3, 0, 0, 0), (32, 1, .iadd, 0, 0, 0), (33, 3, .invokevirtual 88, 21, 2, 1), (36, 1, .aload_n 0, 0, 0, 0), (37, 3, .invokevirtual 29, 13, 1, 1)]),
  (86, [(40, 2, .istore 4, 0, 0, 0), (42, 1, .iconst 0, 0, 0, 0), (43, 2, .istore 5, 0, 0, 0), (45, 1, .aload_n 0, 0, 0, 0), (46, 3, .getfield 21, 1, 0, 2), (49, 3, .getfield 41, 2, 12, 2), (52, 1, .iload_n 1, 0, 0, 0), (53, 1, .iaload, 0, 0, 0), (54, 2, .istore 6, 0, 0, 0), (56, 1, .iconst 0, 0, 0, 0), (57, 2, .istore 7, 0, 0, 0), (59, 2, .iload 7, 0, 0, 0), (61, 1, .aload_n 0, 0, 0, 0), (62, 3, .getfield 25, 1, 2, 0), (65, 3, .if_icmp .ge 90, 155, 0, 0), (68, 1, .aload_n 0, 0, 0, 0), (69, 2, .iload 4, 0, 0, 0), (71, 2, .iload 5, 0, 0, 0), (73, 2, .iload 6, 0, 0, 0), (75, 3, .invokevirtual 91, 23, 4, 1), (78, 2, .istore 8, 0, 0, 0), (80, 2, .iload 8, 0, 0, 0), (82, 1, .iconst (-1), 0, 0, 0), (83, 3, .if_icmp .ne 4, 87, 0, 0)]),
  (129, [(86, 1, .return_, 0, 0, 0), (87, 1, .aload_n 0, 0, 0, 0), (88, 3, .getfield 9, 1, 1, 2), (91, 2, .iload 8, 0, 0, 0), (93, 1, .iaload, 0, 0, 0), (94, 2, .istore 9, 0, 0, 0), (96, 1, .aload_n 2, 0, 0, 0), (97, 2, .iload 7, 0, 0, 0), (99, 2, .iload 9, 0, 0, 0), (101, 1, .iastore, 0, 0, 0), (102, 1, .aload_n 0, 0, 0, 0), (103, 3, .getfield 21, 1, 0, 2), (106, 2, .iload 9, 0, 0, 0), (108, 2, .iload 5, 0, 0, 0), (110, 2, .iload 6, 0, 0, 0), (112, 3, .invokevirtual 46, 28, 4, 2), (115, 1, .aload_n 0, 0, 0, 0), (116, 3, .getfield 21, 1, 0, 2), (119, 3, .getfield 52, 2, 6, 2), (122, 2, .iload 9, 0, 0, 0), (124, 1, .iaload, 0, 0, 0), (125, 1, .iadd, 0, 0, 0), (126, 2, .istore 6, 0, 0, 0), (128, 1, .aload_n 0, 0, 0, 0)]),
  (100000, [(129, 3, .getfield 21, 1, 0, 2), (132, 3, .getfield 49, 2, 1, 2), (135, 2, .iload 9, 0, 0, 0), (137, 1, .iaload, 0, 0, 0), (138, 2, .istore 5, 0, 0, 0), (140, 2, .iload 4, 0, 0, 0), (142, 1, .iconst 1, 0, 0, 0), (143, 2, .iload 8, 0, 0, 0), (145, 1, .ishl, 0, 0, 0), (146, 1, .ixor, 0, 0, 0), (147, 2, .istore 4, 0, 0, 0), (149, 3, .iinc 7 1, 0, 0, 0), (152, 3, .goto (-93), 59, 0, 0), (155, 1, .return_, 0, 0, 0)])]
theorem rwX1_writeLeast : rowsB (mB 20) (mO 20) (mX 20) (mIni 20) (mFr 20) (mLo 20) (mT 20) csX1_writeLeast = true := by decide +kernel
def bX1_writeLeast_59 (f23 : HH → Int → Int → Int → Option Int) (f28 : HH → Int → Int → Int → Option Int) (c59 : Nat → Int → Int → Int → Int → HH → Option HH) (x2 : Nat) (x4 : Int) (x5 : Int) (x6 : Int) (x7 : Int) (h : HH) : Option HH :=
  if x7 < ((h.1 49 2) : Int) then
    bnd (f23 h x4 x5 x6) fun r1 =>
    if r1 = ((-1) : Int) then
    some h
  else
    gd ((0 : Int) ≤ r1 ∧ r1 < (9 : Int)) <|
    bif okS 2 70 x2 0 then
    gd ((0 : Int) ≤ x7 ∧ x7 < ((lnK x2) : Int)) <|
    bnd (bif inS 2 70 x2 then some (hI h x2 x7 (h.1 50 r1)) else none) fun h2 =>
    bnd (f28 h2 (h.1 50 r1) x5 x6) fun r3 =>
    gd ((0 : Int) ≤ (h.1 50 r1) ∧ (h.1 50 r1) < (9 : Int)) <|
    gd (R32 (r3 + (h2.1 19 (h.1 50 r1)))) <|
    gd ((0 : Int) ≤ (h.1 50 r1) ∧ (h.1 50 r1) < (9 : Int)) <|
    gd (R32 (x7 + 1)) <|
    c59 x2 (xorI x4 (shlI 1 r1)) (h2.1 14 (h.1 50 r1)) (r3 + (h2.1 19 (h.1 50 r1))) (x7 + 1) h2
  else none
  else
    some h
theorem uX1_writeLeast_59 {g : SG} (hg : GOK g) {σ0 : SG} {c59 : Nat → Int → Int → Int → Int → HH → Option HH} (k59 : ∀ (x2 : Nat) (x4 : Int) (x5 : Int) (x6 : Int) (x7 : Int) (h : HH) (b : HH), c59 x2 x4 x5 x6 x7 h = some b → WK 20 (.inl none) σ0 (abH 2 70 g b) 59 [(0, aR 49), (2, aR x2), (4, aI x4), (5, aI x5), (6, aI x6), (7, aI x7)] [] (abH 2 70 g h) 0 0) : ∀ {x2 : Nat} {x4 : Int} {x5 : Int} {x6 : Int} {x7 : Int} {h : HH} {b : HH}, bX1_writeLeast_59 nX1_firstThatGoes nX2_serveAt c59 x2 x4 x5 x6 x7 h = some b → WK 20 (.inl none) σ0 (abH 2 70 g b) 59 [(0, aR 49), (2, aR x2), (4, aI x4), (5, aI x5), (6, aI x6), (7, aI x7)] [] (abH 2 70 g h) 0 0 := by
  intro x2 x4 x5 x6 x7 h b q
  have e : ∀ (f23 : HH → Int → Int → Int → Option Int) (f28 : HH → Int → Int → Int → Option Int) , bX1_writeLeast_59 f23 f28 c59 x2 x4 x5 x6 x7 h = segW 2 70 g.2.2.2.2 krWV (clC 23 (liPW (pX1_firstThatGoes f23)) (clC 28 (liPW (pX2_serveAt f28)) clN)) csX1_writeLeast (cuC 59 (fun l st s => tkC 0 49 l <| tkR 2 l fun x2 => tkI 4 l fun x4 => tkI 5 l fun x5 => tkI 6 l fun x6 => tkI 7 l fun x7 => skE st (c59 x2 x4 x5 x6 x7 s)) cuN) 1000 59 [(0, aR 49), (2, aR x2), (4, aI x4), (5, aI x5), (6, aI x6), (7, aI x7)] [] h := fun _ _ => rfl
  rw [e nX1_firstThatGoes nX2_serveAt] at q
  clear e
  refine segW_wk (by decide) (by decide) hg rwX1_writeLeast (CLKW_C (liPW_ok (pX1_firstThatGoes_ok hg)) (CLKW_C (liPW_ok (pX2_serveAt_ok hg)) CLKW_N)) krWV_ok ?_ q
  clear q
  refine ct_C ?_ (ct_N)
  · intro l st h q
    obtain ⟨m0, q1⟩ := tkC_of q
    obtain ⟨x2, m2, q2⟩ := tkR_of q1
    obtain ⟨x4, m4, q3⟩ := tkI_of q2
    obtain ⟨x5, m5, q4⟩ := tkI_of q3
    obtain ⟨x6, m6, q5⟩ := tkI_of q4
    obtain ⟨x7, m7, q6⟩ := tkI_of q5
    obtain ⟨rfl, q7⟩ := skE_of q6
    exact WK_less (k59 _ _ _ _ _ _ _ q7) (List.forall_mem_cons.mpr ⟨m0, (List.forall_mem_cons.mpr ⟨m2, (List.forall_mem_cons.mpr ⟨m4, (List.forall_mem_cons.mpr ⟨m5, (List.forall_mem_cons.mpr ⟨m6, (List.forall_mem_cons.mpr ⟨m7, (fun _ h => absurd h List.not_mem_nil)⟩)⟩)⟩)⟩)⟩)⟩)
def nX1_writeLeast_59 : Nat → Nat → Int → Int → Int → Int → HH → Option HH := iter (fun _ _ _ _ _ _ => none) (fun self => bX1_writeLeast_59 nX1_firstThatGoes nX2_serveAt self)
theorem nX1_writeLeast_59_s {F : Nat} : nX1_writeLeast_59 (F + 1) = bX1_writeLeast_59 nX1_firstThatGoes nX2_serveAt (nX1_writeLeast_59 F) := rfl
theorem wX1_writeLeast_59 {g : SG} (hg : GOK g) {σ0 : SG} : ∀ {F : Nat}, ∀ {x2 : Nat} {x4 : Int} {x5 : Int} {x6 : Int} {x7 : Int} {h : HH} {b : HH}, nX1_writeLeast_59 F x2 x4 x5 x6 x7 h = some b → WK 20 (.inl none) σ0 (abH 2 70 g b) 59 [(0, aR 49), (2, aR x2), (4, aI x4), (5, aI x5), (6, aI x6), (7, aI x7)] [] (abH 2 70 g h) 0 0 := by
  intro F
  have z : ∀ (x2 : Nat) (x4 : Int) (x5 : Int) (x6 : Int) (x7 : Int) (h : HH) (b : HH), nX1_writeLeast_59 F x2 x4 x5 x6 x7 h = some b → WK 20 (.inl none) σ0 (abH 2 70 g b) 59 [(0, aR 49), (2, aR x2), (4, aI x4), (5, aI x5), (6, aI x6), (7, aI x7)] [] (abH 2 70 g h) 0 0 := iter_ind (P := fun (c : Nat → Int → Int → Int → Int → HH → Option HH) => ∀ (x2 : Nat) (x4 : Int) (x5 : Int) (x6 : Int) (x7 : Int) (h : HH) (b : HH), c x2 x4 x5 x6 x7 h = some b → WK 20 (.inl none) σ0 (abH 2 70 g b) 59 [(0, aR 49), (2, aR x2), (4, aI x4), (5, aI x5), (6, aI x6), (7, aI x7)] [] (abH 2 70 g h) 0 0) (by
    intro x2 x4 x5 x6 x7 h b q
    cases q) (fun self ih => by
    intro x2 x4 x5 x6 x7 h b q
    exact uX1_writeLeast_59 hg ih q) F
  intro x2 x4 x5 x6 x7 h b q
  exact z _ _ _ _ _ _ _ q
def bX1_writeLeast (f14 : Int → HH → Option HH) (f13 : HH → Option Int) (f17 : HH → Int → Int → Option Int) (f21 : Int → HH → Option HH) (c59 : Nat → Int → Int → Int → Int → HH → Option HH) (x1 : Int) (x2 : Nat) (h : HH) : Option HH :=
  bnd (f14 x1 h) fun r1 =>
    bnd (f13 r1) fun r2 =>
    bnd (f17 r1 x1 r2) fun r3 =>
    if r3 = ((-1) : Int) then
    some r1
  else
    gd ((0 : Int) ≤ x1 ∧ x1 < (3 : Int)) <|
    gd (R32 ((r1.1 24 x1) + r3)) <|
    bnd (f21 ((r1.1 24 x1) + r3) r1) fun r4 =>
    bnd (f13 r4) fun r5 =>
    gd ((0 : Int) ≤ x1 ∧ x1 < (3 : Int)) <|
    c59 x2 r5 0 (r4.1 24 x1) 0 r4
theorem uX1_writeLeast {g : SG} (hg : GOK g) {σ0 : SG} {c59 : Nat → Int → Int → Int → Int → HH → Option HH} (k59 : ∀ (x2 : Nat) (x4 : Int) (x5 : Int) (x6 : Int) (x7 : Int) (h : HH) (b : HH), c59 x2 x4 x5 x6 x7 h = some b → WK 20 (.inl none) σ0 (abH 2 70 g b) 59 [(0, aR 49), (2, aR x2), (4, aI x4), (5, aI x5), (6, aI x6), (7, aI x7)] [] (abH 2 70 g h) 0 0) : ∀ {x1 : Int} {x2 : Nat} {h : HH} {b : HH}, bX1_writeLeast nX1_drive nX1_all nX1_costOfSet nX1_fillLatest c59 x1 x2 h = some b → WK 20 (.inl none) σ0 (abH 2 70 g b) 0 [(0, aR 49), (1, aI x1), (2, aR x2)] [] (abH 2 70 g h) 0 0 := by
  intro x1 x2 h b q
  have e : ∀ (f14 : Int → HH → Option HH) (f13 : HH → Option Int) (f17 : HH → Int → Int → Option Int) (f21 : Int → HH → Option HH) , bX1_writeLeast f14 f13 f17 f21 c59 x1 x2 h = segW 2 70 g.2.2.2.2 krWV (clC 14 (pX1_drive f14) (clC 13 (liPW (pX1_all f13)) (clC 17 (liPW (pX1_costOfSet f17)) (clC 21 (pX1_fillLatest f21) clN)))) csX1_writeLeast (cuC 59 (fun l st s => tkC 0 49 l <| tkR 2 l fun x2 => tkI 4 l fun x4 => tkI 5 l fun x5 => tkI 6 l fun x6 => tkI 7 l fun x7 => skE st (c59 x2 x4 x5 x6 x7 s)) cuN) 1000 0 [(0, aR 49), (1, aI x1), (2, aR x2)] [] h := fun _ _ _ _ => rfl
  rw [e nX1_drive nX1_all nX1_costOfSet nX1_fillLatest] at q
  clear e
  refine segW_wk (by decide) (by decide) hg rwX1_writeLeast (CLKW_C (pX1_drive_ok hg) (CLKW_C (liPW_ok (pX1_all_ok hg)) (CLKW_C (liPW_ok (pX1_costOfSet_ok hg)) (CLKW_C (pX1_fillLatest_ok hg) CLKW_N)))) krWV_ok ?_ q
  clear q
  refine ct_C ?_ (ct_N)
  · intro l st h q
    obtain ⟨m0, q1⟩ := tkC_of q
    obtain ⟨x2, m2, q2⟩ := tkR_of q1
    obtain ⟨x4, m4, q3⟩ := tkI_of q2
    obtain ⟨x5, m5, q4⟩ := tkI_of q3
    obtain ⟨x6, m6, q5⟩ := tkI_of q4
    obtain ⟨x7, m7, q6⟩ := tkI_of q5
    obtain ⟨rfl, q7⟩ := skE_of q6
    exact WK_less (k59 _ _ _ _ _ _ _ q7) (List.forall_mem_cons.mpr ⟨m0, (List.forall_mem_cons.mpr ⟨m2, (List.forall_mem_cons.mpr ⟨m4, (List.forall_mem_cons.mpr ⟨m5, (List.forall_mem_cons.mpr ⟨m6, (List.forall_mem_cons.mpr ⟨m7, (fun _ h => absurd h List.not_mem_nil)⟩)⟩)⟩)⟩)⟩)⟩)
def nX1_writeLeast (x1 : Int) (x2 : Nat) (h : HH) : Option HH := bX1_writeLeast nX1_drive nX1_all nX1_costOfSet nX1_fillLatest (nX1_writeLeast_59 100000) x1 x2 h
theorem wX1_writeLeast {g : SG} (hg : GOK g) {σ0 : SG} : ∀ {x1 : Int} {x2 : Nat} {h : HH} {b : HH}, nX1_writeLeast x1 x2 h = some b → WK 20 (.inl none) σ0 (abH 2 70 g b) 0 [(0, aR 49), (1, aI x1), (2, aR x2)] [] (abH 2 70 g h) 0 0 := by
  intro x1 x2 h b q
  exact uX1_writeLeast hg (fun _ _ _ _ _ _ _ q => wX1_writeLeast_59 hg q) q
theorem mX1_writeLeast {g : SG} (hg : GOK g) {h : HH} {x1 : Int} {x2 : Nat} {b : HH} (q : nX1_writeLeast x1 x2 h = some b) : MCT 20 [] [aR 49, aI x1, aR x2] (abH 2 70 g h) (.inl none) (abH 2 70 g b) :=
  mct_of (by decide) (MFok 20 (by decide +kernel)) (fun _ => Nat.le_of_ble_eq_true rfl) (wX1_writeLeast hg q)
def pX1_writeLeast {β : Type} (z : Int → Nat → HH → Option HH) : PW β := fun as h f => skC 49 as fun as => skI as fun x1 as => skR as fun x2 as => skE as (bnd (z x1 x2 h) fun r => f (.inl none) r)
theorem pX1_writeLeast_ok {β : Type} {g : SG} (hg : GOK g) : CW1 (β := β) 20 (pX1_writeLeast nX1_writeLeast) 2 70 g := fun as h f b q => by
  obtain ⟨as, rfl, q1⟩ := skC_of q
  obtain ⟨x1, as, rfl, q2⟩ := skI_of q1
  obtain ⟨x2, as, rfl, q3⟩ := skR_of q2
  obtain ⟨rfl, q0⟩ := skE_of q3
  obtain ⟨r, z1, z2⟩ := bnd_of q0
  exact ⟨_, _, z2, by decide, mX1_writeLeast hg z1, rfl, rfl, fun z => absurd z (by decide)⟩
def csX2_addParcel : List (Nat × List (Nat × ARow)) := [(40, [(0, 1, .aload_n 0, 0, 0, 0), (1, 3, .getfield 52, 2, 10, 0), (4, 2, .istore 4, 0, 0, 0), (6, 1, .aload_n 0, 0, 0, 0), (7, 1, .dup, 0, 0, 0), (8, 3, .getfield 52, 2, 10, 0), (11, 1, .iconst 1, 0, 0, 0), (12, 1, .iadd, 0, 0, 0), (13, 3, .putfield 52, 2, 10, 0), (16, 1, .aload_n 0, 0, 0, 0), (17, 3, .getfield 9, 2, 1, 2), (20, 2, .iload 4, 0, 0, 0), (22, 1, .iload_n 1, 0, 0, 0), (23, 1, .iastore, 0, 0, 0), (24, 1, .aload_n 0, 0, 0, 0), (25, 3, .getfield 15, 2, 2, 2), (28, 2, .iload 4, 0, 0, 0), (30, 1, .iload_n 2, 0, 0, 0), (31, 1, .iastore, 0, 0, 0), (32, 1, .aload_n 0, 0, 0, 0), (33, 3, .getfield 18, 2, 3, 2), (36, 2, .iload 4, 0, 0, 0), (38, 1, .iload_n 3, 0, 0, 0), (39, 1, .iastore, 0, 0, 0)]),
  (81, [(40, 1, .aload_n 0, 0, 0, 0), (41, 3, .getfield 21, 2, 4, 2), (44, 2, .iload 4, 0, 0, 0), (46, 1, .iconst 0, 0, 0, 0), (47, 1, .iastore, 0, 0, 0), (48, 1, .aload_n 0, 0, 0, 0), (49, 3, .getfield 24, 2, 5, 2), (52, 2, .iload 4, 0, 0, 0), (54, 3, .sipush 1439, 0, 0, 0), (57, 1, .iastore, 0, 0, 0), (58, 1, .aload_n 0, 0, 0, 0), (59, 3, .getfield 27, 2, 6, 2), (62, 2, .iload 4, 0, 0, 0), (64, 1, .iconst 0, 0, 0, 0), (65, 1, .iastore, 0, 0, 0), (66, 1, .aload_n 0, 0, 0, 0), (67, 3, .getfield 30, 2, 7, 2), (70, 2, .iload 4, 0, 0, 0), (72, 1, .iconst 0, 0, 0, 0), (73, 1, .iastore, 0, 0, 0), (74, 1, .aload_n 0, 0, 0, 0), (75, 3, .getfield 33, 2, 8, 2), (78, 2, .iload 4, 0, 0, 0), (80, 1, .iconst 0, 0, 0, 0)]),
  (100000, [(81, 1, .iastore, 0, 0, 0), (82, 1, .aload_n 0, 0, 0, 0), (83, 3, .getfield 36, 2, 9, 2), (86, 2, .iload 4, 0, 0, 0), (88, 1, .iconst (-1), 0, 0, 0), (89, 1, .iastore, 0, 0, 0), (90, 2, .iload 4, 0, 0, 0), (92, 1, .ireturn, 0, 0, 0)])]
theorem rwX2_addParcel : rowsB (mB 25) (mO 25) (mX 25) (mIni 25) (mFr 25) (mLo 25) (mT 25) csX2_addParcel = true := by decide +kernel
def bX2_addParcel_48 (x4 : Int) (h : HH) : Option (Int × HH) :=
  gd ((0 : Int) ≤ x4 ∧ x4 < (9 : Int)) <|
    bnd (some (hI h 18 x4 1439)) fun h1 =>
    gd ((0 : Int) ≤ x4 ∧ x4 < (9 : Int)) <|
    bnd (some (hI h1 19 x4 0)) fun h2 =>
    gd ((0 : Int) ≤ x4 ∧ x4 < (9 : Int)) <|
    bnd (some (hI h2 20 x4 0)) fun h3 =>
    gd ((0 : Int) ≤ x4 ∧ x4 < (9 : Int)) <|
    bnd (some (hI h3 21 x4 0)) fun h4 =>
    gd ((0 : Int) ≤ x4 ∧ x4 < (9 : Int)) <|
    bnd (some (hI h4 22 x4 (-1))) fun h5 =>
    some (x4, h5)
theorem uX2_addParcel_48 {g : SG} (hg : GOK g) {σ0 : SG} : ∀ {x4 : Int} {h : HH} {b : (Int × HH)}, bX2_addParcel_48 x4 h = some b → WK 25 (.inl (some (aI b.1))) σ0 (abH 2 70 g b.2) 48 [(0, aR 13), (4, aI x4)] [] (abH 2 70 g h) 0 0 := by
  intro x4 h b q
  have e : bX2_addParcel_48 x4 h = segW 2 70 g.2.2.2.2 krWI clN csX2_addParcel cuN 1000 48 [(0, aR 13), (4, aI x4)] [] h := rfl
  rw [e] at q
  clear e
  refine segW_wk (by decide) (by decide) hg rwX2_addParcel CLKW_N krWI_ok ?_ q
  clear q
  exact ct_N
def nX2_addParcel_48 (x4 : Int) (h : HH) : Option (Int × HH) := bX2_addParcel_48 x4 h
theorem wX2_addParcel_48 {g : SG} (hg : GOK g) {σ0 : SG} : ∀ {x4 : Int} {h : HH} {b : (Int × HH)}, nX2_addParcel_48 x4 h = some b → WK 25 (.inl (some (aI b.1))) σ0 (abH 2 70 g b.2) 48 [(0, aR 13), (4, aI x4)] [] (abH 2 70 g h) 0 0 := by
  intro x4 h b q
  exact uX2_addParcel_48 hg q
def bX2_addParcel (c48 : Int → HH → Option (Int × HH)) (x1 : Int) (x2 : Int) (x3 : Int) (h : HH) : Option (Int × HH) :=
  gd (R32 ((h.1 13 10) + 1)) <|
    bnd (some (hI h 13 10 ((h.1 13 10) + 1))) fun h1 =>
    gd ((0 : Int) ≤ (h.1 13 10) ∧ (h.1 13 10) < (9 : Int)) <|
    bnd (some (hI h1 14 (h.1 13 10) x1)) fun h2 =>
    gd ((0 : Int) ≤ (h.1 13 10) ∧ (h.1 13 10) < (9 : Int)) <|
    bnd (some (hI h2 15 (h.1 13 10) x2)) fun h3 =>
    gd ((0 : Int) ≤ (h.1 13 10) ∧ (h.1 13 10) < (9 : Int)) <|
    bnd (some (hI h3 16 (h.1 13 10) x3)) fun h4 =>
    gd ((0 : Int) ≤ (h.1 13 10) ∧ (h.1 13 10) < (9 : Int)) <|
    bnd (some (hI h4 17 (h.1 13 10) 0)) fun h5 =>
    c48 (h.1 13 10) h5
theorem uX2_addParcel {g : SG} (hg : GOK g) {σ0 : SG} {c48 : Int → HH → Option (Int × HH)} (k48 : ∀ (x4 : Int) (h : HH) (b : (Int × HH)), c48 x4 h = some b → WK 25 (.inl (some (aI b.1))) σ0 (abH 2 70 g b.2) 48 [(0, aR 13), (4, aI x4)] [] (abH 2 70 g h) 0 0) : ∀ {x1 : Int} {x2 : Int} {x3 : Int} {h : HH} {b : (Int × HH)}, bX2_addParcel c48 x1 x2 x3 h = some b → WK 25 (.inl (some (aI b.1))) σ0 (abH 2 70 g b.2) 0 [(0, aR 13), (1, aI x1), (2, aI x2), (3, aI x3)] [] (abH 2 70 g h) 0 0 := by
  intro x1 x2 x3 h b q
  have e : bX2_addParcel c48 x1 x2 x3 h = segW 2 70 g.2.2.2.2 krWI clN csX2_addParcel (cuC 48 (fun l st s => tkC 0 13 l <| tkI 4 l fun x4 => skE st (c48 x4 s)) cuN) 1000 0 [(0, aR 13), (1, aI x1), (2, aI x2), (3, aI x3)] [] h := rfl
  rw [e] at q
  clear e
  refine segW_wk (by decide) (by decide) hg rwX2_addParcel CLKW_N krWI_ok ?_ q
  clear q
  refine ct_C ?_ (ct_N)
  · intro l st h q
    obtain ⟨m0, q1⟩ := tkC_of q
    obtain ⟨x4, m4, q2⟩ := tkI_of q1
    obtain ⟨rfl, q3⟩ := skE_of q2
    exact WK_less (k48 _ _ _ q3) (List.forall_mem_cons.mpr ⟨m0, (List.forall_mem_cons.mpr ⟨m4, (fun _ h => absurd h List.not_mem_nil)⟩)⟩)
def nX2_addParcel (x1 : Int) (x2 : Int) (x3 : Int) (h : HH) : Option (Int × HH) := bX2_addParcel nX2_addParcel_48 x1 x2 x3 h
theorem wX2_addParcel {g : SG} (hg : GOK g) {σ0 : SG} : ∀ {x1 : Int} {x2 : Int} {x3 : Int} {h : HH} {b : (Int × HH)}, nX2_addParcel x1 x2 x3 h = some b → WK 25 (.inl (some (aI b.1))) σ0 (abH 2 70 g b.2) 0 [(0, aR 13), (1, aI x1), (2, aI x2), (3, aI x3)] [] (abH 2 70 g h) 0 0 := by
  intro x1 x2 x3 h b q
  exact uX2_addParcel hg (fun _ _ _ q => wX2_addParcel_48 hg q) q
theorem mX2_addParcel {g : SG} (hg : GOK g) {h : HH} {x1 : Int} {x2 : Int} {x3 : Int} {b : (Int × HH)} (q : nX2_addParcel x1 x2 x3 h = some b) : MCT 25 [] [aR 13, aI x1, aI x2, aI x3] (abH 2 70 g h) (.inl (some (aI b.1))) (abH 2 70 g b.2) :=
  mct_of (by decide) (MFok 25 (by decide +kernel)) (fun _ => Nat.le_of_ble_eq_true rfl) (wX2_addParcel hg q)
def pX2_addParcel {β : Type} (z : Int → Int → Int → HH → Option (Int × HH)) : PW β := fun as h f => skC 13 as fun as => skI as fun x1 as => skI as fun x2 as => skI as fun x3 as => skE as (bnd (z x1 x2 x3 h) fun r => f (.inl (some (aI r.1))) r.2)
theorem pX2_addParcel_ok {β : Type} {g : SG} (hg : GOK g) : CW1 (β := β) 25 (pX2_addParcel nX2_addParcel) 2 70 g := fun as h f b q => by
  obtain ⟨as, rfl, q1⟩ := skC_of q
  obtain ⟨x1, as, rfl, q2⟩ := skI_of q1
  obtain ⟨x2, as, rfl, q3⟩ := skI_of q2
  obtain ⟨x3, as, rfl, q4⟩ := skI_of q3
  obtain ⟨rfl, q0⟩ := skE_of q4
  obtain ⟨r, z1, z2⟩ := bnd_of q0
  exact ⟨_, _, z2, by decide, mX2_addParcel hg z1, rfl, rfl, fun z => absurd z (by decide)⟩
def csX2_addVan : List (Nat × List (Nat × ARow)) := [(40, [(0, 1, .aload_n 0, 0, 0, 0), (1, 3, .getfield 56, 2, 14, 0), (4, 2, .istore 4, 0, 0, 0), (6, 1, .aload_n 0, 0, 0, 0), (7, 1, .dup, 0, 0, 0), (8, 3, .getfield 56, 2, 14, 0), (11, 1, .iconst 1, 0, 0, 0), (12, 1, .iadd, 0, 0, 0), (13, 3, .putfield 56, 2, 14, 0), (16, 1, .aload_n 0, 0, 0, 0), (17, 3, .getfield 39, 2, 11, 2), (20, 2, .iload 4, 0, 0, 0), (22, 1, .iload_n 1, 0, 0, 0), (23, 1, .iastore, 0, 0, 0), (24, 1, .aload_n 0, 0, 0, 0), (25, 3, .getfield 42, 2, 12, 2), (28, 2, .iload 4, 0, 0, 0), (30, 1, .iload_n 2, 0, 0, 0), (31, 1, .iastore, 0, 0, 0), (32, 1, .aload_n 0, 0, 0, 0), (33, 3, .getfield 45, 2, 13, 2), (36, 2, .iload 4, 0, 0, 0), (38, 1, .iload_n 3, 0, 0, 0), (39, 1, .iastore, 0, 0, 0)]),
  (100000, [(40, 2, .iload 4, 0, 0, 0), (42, 1, .ireturn, 0, 0, 0)])]
theorem rwX2_addVan : rowsB (mB 26) (mO 26) (mX 26) (mIni 26) (mFr 26) (mLo 26) (mT 26) csX2_addVan = true := by decide +kernel
def bX2_addVan (x1 : Int) (x2 : Int) (x3 : Int) (h : HH) : Option (Int × HH) :=
  gd (R32 ((h.1 13 14) + 1)) <|
    bnd (some (hI h 13 14 ((h.1 13 14) + 1))) fun h1 =>
    gd ((0 : Int) ≤ (h.1 13 14) ∧ (h.1 13 14) < (3 : Int)) <|
    bnd (some (hI h1 23 (h.1 13 14) x1)) fun h2 =>
    gd ((0 : Int) ≤ (h.1 13 14) ∧ (h.1 13 14) < (3 : Int)) <|
    bnd (some (hI h2 24 (h.1 13 14) x2)) fun h3 =>
    gd ((0 : Int) ≤ (h.1 13 14) ∧ (h.1 13 14) < (3 : Int)) <|
    bnd (some (hI h3 25 (h.1 13 14) x3)) fun h4 =>
    some ((h.1 13 14), h4)
theorem uX2_addVan {g : SG} (hg : GOK g) {σ0 : SG} : ∀ {x1 : Int} {x2 : Int} {x3 : Int} {h : HH} {b : (Int × HH)}, bX2_addVan x1 x2 x3 h = some b → WK 26 (.inl (some (aI b.1))) σ0 (abH 2 70 g b.2) 0 [(0, aR 13), (1, aI x1), (2, aI x2), (3, aI x3)] [] (abH 2 70 g h) 0 0 := by
  intro x1 x2 x3 h b q
  have e : bX2_addVan x1 x2 x3 h = segW 2 70 g.2.2.2.2 krWI clN csX2_addVan cuN 1000 0 [(0, aR 13), (1, aI x1), (2, aI x2), (3, aI x3)] [] h := rfl
  rw [e] at q
  clear e
  refine segW_wk (by decide) (by decide) hg rwX2_addVan CLKW_N krWI_ok ?_ q
  clear q
  exact ct_N
def nX2_addVan (x1 : Int) (x2 : Int) (x3 : Int) (h : HH) : Option (Int × HH) := bX2_addVan x1 x2 x3 h
theorem wX2_addVan {g : SG} (hg : GOK g) {σ0 : SG} : ∀ {x1 : Int} {x2 : Int} {x3 : Int} {h : HH} {b : (Int × HH)}, nX2_addVan x1 x2 x3 h = some b → WK 26 (.inl (some (aI b.1))) σ0 (abH 2 70 g b.2) 0 [(0, aR 13), (1, aI x1), (2, aI x2), (3, aI x3)] [] (abH 2 70 g h) 0 0 := by
  intro x1 x2 x3 h b q
  exact uX2_addVan hg q
theorem mX2_addVan {g : SG} (hg : GOK g) {h : HH} {x1 : Int} {x2 : Int} {x3 : Int} {b : (Int × HH)} (q : nX2_addVan x1 x2 x3 h = some b) : MCT 26 [] [aR 13, aI x1, aI x2, aI x3] (abH 2 70 g h) (.inl (some (aI b.1))) (abH 2 70 g b.2) :=
  mct_of (by decide) (MFok 26 (by decide +kernel)) (fun _ => Nat.le_of_ble_eq_true rfl) (wX2_addVan hg q)
def pX2_addVan {β : Type} (z : Int → Int → Int → HH → Option (Int × HH)) : PW β := fun as h f => skC 13 as fun as => skI as fun x1 as => skI as fun x2 as => skI as fun x3 as => skE as (bnd (z x1 x2 x3 h) fun r => f (.inl (some (aI r.1))) r.2)
theorem pX2_addVan_ok {β : Type} {g : SG} (hg : GOK g) : CW1 (β := β) 26 (pX2_addVan nX2_addVan) 2 70 g := fun as h f b q => by
  obtain ⟨as, rfl, q1⟩ := skC_of q
  obtain ⟨x1, as, rfl, q2⟩ := skI_of q1
  obtain ⟨x2, as, rfl, q3⟩ := skI_of q2
  obtain ⟨x3, as, rfl, q4⟩ := skI_of q3
  obtain ⟨rfl, q0⟩ := skE_of q4
  obtain ⟨r, z1, z2⟩ := bnd_of q0
  exact ⟨_, _, z2, by decide, mX2_addVan hg z1, rfl, rfl, fun z => absurd z (by decide)⟩
def csX2_costOf : List (Nat × List (Nat × ARow)) := [(41, [(0, 1, .aload_n 0, 0, 0, 0), (1, 3, .getfield 42, 2, 12, 2), (4, 1, .iload_n 1, 0, 0, 0), (5, 1, .iaload, 0, 0, 0), (6, 2, .istore 4, 0, 0, 0), (8, 1, .iconst 0, 0, 0, 0), (9, 2, .istore 5, 0, 0, 0), (11, 1, .iconst 0, 0, 0, 0), (12, 2, .istore 6, 0, 0, 0), (14, 1, .iconst 0, 0, 0, 0), (15, 2, .istore 7, 0, 0, 0), (17, 2, .iload 7, 0, 0, 0), (19, 1, .iload_n 3, 0, 0, 0), (20, 3, .if_icmp .ge 68, 88, 0, 0), (23, 1, .aload_n 2, 0, 0, 0), (24, 2, .iload 7, 0, 0, 0), (26, 1, .iaload, 0, 0, 0), (27, 2, .istore 8, 0, 0, 0), (29, 1, .aload_n 0, 0, 0, 0), (30, 2, .iload 8, 0, 0, 0), (32, 2, .iload 5, 0, 0, 0), (34, 2, .iload 4, 0, 0, 0), (36, 3, .invokevirtual 59, 28, 4, 2), (39, 2, .istore 4, 0, 0, 0)]),
  (82, [(41, 2, .iload 4, 0, 0, 0), (43, 1, .iconst (-1), 0, 0, 0), (44, 3, .if_icmp .ne 5, 49, 0, 0), (47, 1, .iconst (-1), 0, 0, 0), (48, 1, .ireturn, 0, 0, 0), (49, 2, .iload 4, 0, 0, 0), (51, 1, .aload_n 0, 0, 0, 0), (52, 3, .getfield 27, 2, 6, 2), (55, 2, .iload 8, 0, 0, 0), (57, 1, .iaload, 0, 0, 0), (58, 1, .iadd, 0, 0, 0), (59, 2, .istore 4, 0, 0, 0), (61, 2, .iload 6, 0, 0, 0), (63, 1, .aload_n 0, 0, 0, 0), (64, 3, .getfield 15, 2, 2, 2), (67, 2, .iload 8, 0, 0, 0), (69, 1, .iaload, 0, 0, 0), (70, 1, .iadd, 0, 0, 0), (71, 2, .istore 6, 0, 0, 0), (73, 1, .aload_n 0, 0, 0, 0), (74, 3, .getfield 9, 2, 1, 2), (77, 2, .iload 8, 0, 0, 0), (79, 1, .iaload, 0, 0, 0), (80, 2, .istore 5, 0, 0, 0)]),
  (128, [(82, 3, .iinc 7 1, 0, 0, 0), (85, 3, .goto (-68), 17, 0, 0), (88, 1, .aload_n 0, 0, 0, 0), (89, 3, .getfield 48, 2, 0, 2), (92, 2, .iload 5, 0, 0, 0), (94, 1, .iconst 0, 0, 0, 0), (95, 3, .invokevirtual 63, 87, 3, 9), (98, 2, .istore 7, 0, 0, 0), (100, 2, .iload 7, 0, 0, 0), (102, 1, .iconst (-1), 0, 0, 0), (103, 3, .if_icmp .eq 32, 135, 0, 0), (106, 2, .iload 4, 0, 0, 0), (108, 2, .iload 7, 0, 0, 0), (110, 1, .iadd, 0, 0, 0), (111, 1, .aload_n 0, 0, 0, 0), (112, 3, .getfield 45, 2, 13, 2), (115, 1, .iload_n 1, 0, 0, 0), (116, 1, .iaload, 0, 0, 0), (117, 3, .if_icmp .gt 18, 135, 0, 0), (120, 2, .iload 6, 0, 0, 0), (122, 1, .aload_n 0, 0, 0, 0), (123, 3, .getfield 39, 2, 11, 2), (126, 1, .iload_n 1, 0, 0, 0), (127, 1, .iaload, 0, 0, 0)]),
  (100000, [(128, 3, .if_icmp .gt 7, 135, 0, 0), (131, 1, .iconst 1, 0, 0, 0), (132, 3, .goto 4, 136, 0, 0), (135, 1, .iconst 0, 0, 0, 0), (136, 2, .istore 8, 0, 0, 0), (138, 2, .iload 8, 0, 0, 0), (140, 3, .ifCond .eq 18, 158, 0, 0), (143, 2, .iload 4, 0, 0, 0), (145, 2, .iload 7, 0, 0, 0), (147, 1, .iadd, 0, 0, 0), (148, 1, .aload_n 0, 0, 0, 0), (149, 3, .getfield 42, 2, 12, 2), (152, 1, .iload_n 1, 0, 0, 0), (153, 1, .iaload, 0, 0, 0), (154, 1, .isub, 0, 0, 0), (155, 3, .goto 4, 159, 0, 0), (158, 1, .iconst (-1), 0, 0, 0), (159, 1, .ireturn, 0, 0, 0)])]
theorem rwX2_costOf : rowsB (mB 27) (mO 27) (mX 27) (mIni 27) (mFr 27) (mLo 27) (mT 27) csX2_costOf = true := by decide +kernel
def bX2_costOf_136 (h : HH) (x1 : Int) (x4 : Int) (x7 : Int) (y0 : Int) : Option Int :=
  if y0 = (0 : Int) then
    some (-1)
  else
    gd (R32 (x4 + x7)) <|
    gd ((0 : Int) ≤ x1 ∧ x1 < (3 : Int)) <|
    gd (R32 ((x4 + x7) - (h.1 24 x1))) <|
    some ((x4 + x7) - (h.1 24 x1))
theorem uX2_costOf_136 {g : SG} (hg : GOK g) {σ0 : SG} {h : HH} : ∀ {x1 : Int} {x4 : Int} {x7 : Int} {y0 : Int} {b : Int}, bX2_costOf_136 h x1 x4 x7 y0 = some b → WK 27 (.inl (some (aI b))) σ0 (abH 2 70 g h) 136 [(0, aR 13), (1, aI x1), (4, aI x4), (7, aI x7)] [aI y0] (abH 2 70 g h) 0 0 := by
  intro x1 x4 x7 y0 b q
  have e : bX2_costOf_136 h x1 x4 x7 y0 = segP 2 70 g.2.2.2.2 h krPI clNP csX2_costOf cuN 1000 136 [(0, aR 13), (1, aI x1), (4, aI x4), (7, aI x7)] [aI y0] := rfl
  rw [e] at q
  clear e
  refine segP_wk (by decide) (by decide) hg rwX2_costOf CLKP_N krPI_ok ?_ q
  clear q
  exact ct_N
def nX2_costOf_136 (h : HH) (x1 : Int) (x4 : Int) (x7 : Int) (y0 : Int) : Option Int := bX2_costOf_136 h x1 x4 x7 y0
theorem wX2_costOf_136 {g : SG} (hg : GOK g) {σ0 : SG} {h : HH} : ∀ {x1 : Int} {x4 : Int} {x7 : Int} {y0 : Int} {b : Int}, nX2_costOf_136 h x1 x4 x7 y0 = some b → WK 27 (.inl (some (aI b))) σ0 (abH 2 70 g h) 136 [(0, aR 13), (1, aI x1), (4, aI x4), (7, aI x7)] [aI y0] (abH 2 70 g h) 0 0 := by
  intro x1 x4 x7 y0 b q
  exact uX2_costOf_136 hg q
def bX2_costOf_135 (h : HH) (c136 : Int → Int → Int → Int → Option Int) (x1 : Int) (x4 : Int) (x7 : Int) : Option Int :=
  c136 x1 x4 x7 0
theorem uX2_costOf_135 {g : SG} (hg : GOK g) {σ0 : SG} {h : HH} {c136 : Int → Int → Int → Int → Option Int} (k136 : ∀ (x1 : Int) (x4 : Int) (x7 : Int) (y0 : Int) (b : Int), c136 x1 x4 x7 y0 = some b → WK 27 (.inl (some (aI b))) σ0 (abH 2 70 g h) 136 [(0, aR 13), (1, aI x1), (4, aI x4), (7, aI x7)] [aI y0] (abH 2 70 g h) 0 0) : ∀ {x1 : Int} {x4 : Int} {x7 : Int} {b : Int}, bX2_costOf_135 h c136 x1 x4 x7 = some b → WK 27 (.inl (some (aI b))) σ0 (abH 2 70 g h) 135 [(0, aR 13), (1, aI x1), (4, aI x4), (7, aI x7)] [] (abH 2 70 g h) 0 0 := by
  intro x1 x4 x7 b q
  have e : bX2_costOf_135 h c136 x1 x4 x7 = segP 2 70 g.2.2.2.2 h krPI clNP csX2_costOf (cuC 136 (fun l st s => tkC 0 13 l <| tkI 1 l fun x1 => tkI 4 l fun x4 => tkI 7 l fun x7 => skI st fun y0 st => skE st (c136 x1 x4 x7 y0)) cuN) 1000 135 [(0, aR 13), (1, aI x1), (4, aI x4), (7, aI x7)] [] := rfl
  rw [e] at q
  clear e
  refine segP_wk (by decide) (by decide) hg rwX2_costOf CLKP_N krPI_ok ?_ q
  clear q
  refine ct_C ?_ (ct_N)
  · intro l st _ q
    obtain ⟨m0, q1⟩ := tkC_of q
    obtain ⟨x1, m1, q2⟩ := tkI_of q1
    obtain ⟨x4, m4, q3⟩ := tkI_of q2
    obtain ⟨x7, m7, q4⟩ := tkI_of q3
    obtain ⟨y0, t0, rfl, q5⟩ := skI_of q4
    obtain ⟨rfl, q6⟩ := skE_of q5
    exact WK_less (k136 _ _ _ _ _ q6) (List.forall_mem_cons.mpr ⟨m0, (List.forall_mem_cons.mpr ⟨m1, (List.forall_mem_cons.mpr ⟨m4, (List.forall_mem_cons.mpr ⟨m7, (fun _ h => absurd h List.not_mem_nil)⟩)⟩)⟩)⟩)
def nX2_costOf_135 (h : HH) (x1 : Int) (x4 : Int) (x7 : Int) : Option Int := bX2_costOf_135 h (nX2_costOf_136 h) x1 x4 x7
theorem wX2_costOf_135 {g : SG} (hg : GOK g) {σ0 : SG} {h : HH} : ∀ {x1 : Int} {x4 : Int} {x7 : Int} {b : Int}, nX2_costOf_135 h x1 x4 x7 = some b → WK 27 (.inl (some (aI b))) σ0 (abH 2 70 g h) 135 [(0, aR 13), (1, aI x1), (4, aI x4), (7, aI x7)] [] (abH 2 70 g h) 0 0 := by
  intro x1 x4 x7 b q
  exact uX2_costOf_135 hg (fun _ _ _ _ _ q => wX2_costOf_136 hg q) q
def bX2_costOf_29 (f28 : HH → Int → Int → Int → Option Int) (h : HH) (c17 : Int → Nat → Int → Int → Int → Int → Int → Option Int) (x1 : Int) (x2 : Nat) (x3 : Int) (x4 : Int) (x5 : Int) (x6 : Int) (x7 : Int) (x8 : Int) : Option Int :=
  bnd (f28 h x8 x5 x4) fun r1 =>
    if r1 = ((-1) : Int) then
    some (-1)
  else
    gd ((0 : Int) ≤ x8 ∧ x8 < (9 : Int)) <|
    gd (R32 (r1 + (h.1 19 x8))) <|
    gd ((0 : Int) ≤ x8 ∧ x8 < (9 : Int)) <|
    gd (R32 (x6 + (h.1 15 x8))) <|
    gd ((0 : Int) ≤ x8 ∧ x8 < (9 : Int)) <|
    gd (R32 (x7 + 1)) <|
    c17 x1 x2 x3 (r1 + (h.1 19 x8)) (h.1 14 x8) (x6 + (h.1 15 x8)) (x7 + 1)
theorem uX2_costOf_29 {g : SG} (hg : GOK g) {σ0 : SG} {h : HH} {c17 : Int → Nat → Int → Int → Int → Int → Int → Option Int} (k17 : ∀ (x1 : Int) (x2 : Nat) (x3 : Int) (x4 : Int) (x5 : Int) (x6 : Int) (x7 : Int) (b : Int), c17 x1 x2 x3 x4 x5 x6 x7 = some b → WK 27 (.inl (some (aI b))) σ0 (abH 2 70 g h) 17 [(0, aR 13), (1, aI x1), (2, aR x2), (3, aI x3), (4, aI x4), (5, aI x5), (6, aI x6), (7, aI x7)] [] (abH 2 70 g h) 0 0) : ∀ {x1 : Int} {x2 : Nat} {x3 : Int} {x4 : Int} {x5 : Int} {x6 : Int} {x7 : Int} {x8 : Int} {b : Int}, bX2_costOf_29 nX2_serveAt h c17 x1 x2 x3 x4 x5 x6 x7 x8 = some b → WK 27 (.inl (some (aI b))) σ0 (abH 2 70 g h) 29 [(0, aR 13), (1, aI x1), (2, aR x2), (3, aI x3), (4, aI x4), (5, aI x5), (6, aI x6), (7, aI x7), (8, aI x8)] [] (abH 2 70 g h) 0 0 := by
  intro x1 x2 x3 x4 x5 x6 x7 x8 b q
  have e : ∀ (f28 : HH → Int → Int → Int → Option Int) , bX2_costOf_29 f28 h c17 x1 x2 x3 x4 x5 x6 x7 x8 = segP 2 70 g.2.2.2.2 h krPI (clCP 28 (pX2_serveAt f28 h) clNP) csX2_costOf (cuC 17 (fun l st s => tkC 0 13 l <| tkI 1 l fun x1 => tkR 2 l fun x2 => tkI 3 l fun x3 => tkI 4 l fun x4 => tkI 5 l fun x5 => tkI 6 l fun x6 => tkI 7 l fun x7 => skE st (c17 x1 x2 x3 x4 x5 x6 x7)) cuN) 1000 29 [(0, aR 13), (1, aI x1), (2, aR x2), (3, aI x3), (4, aI x4), (5, aI x5), (6, aI x6), (7, aI x7), (8, aI x8)] [] := fun _ => rfl
  rw [e nX2_serveAt] at q
  clear e
  refine segP_wk (by decide) (by decide) hg rwX2_costOf (CLKP_C (pX2_serveAt_ok hg) CLKP_N) krPI_ok ?_ q
  clear q
  refine ct_C ?_ (ct_N)
  · intro l st _ q
    obtain ⟨m0, q1⟩ := tkC_of q
    obtain ⟨x1, m1, q2⟩ := tkI_of q1
    obtain ⟨x2, m2, q3⟩ := tkR_of q2
    obtain ⟨x3, m3, q4⟩ := tkI_of q3
    obtain ⟨x4, m4, q5⟩ := tkI_of q4
    obtain ⟨x5, m5, q6⟩ := tkI_of q5
    obtain ⟨x6, m6, q7⟩ := tkI_of q6
    obtain ⟨x7, m7, q8⟩ := tkI_of q7
    obtain ⟨rfl, q9⟩ := skE_of q8
    exact WK_less (k17 _ _ _ _ _ _ _ _ q9) (List.forall_mem_cons.mpr ⟨m0, (List.forall_mem_cons.mpr ⟨m1, (List.forall_mem_cons.mpr ⟨m2, (List.forall_mem_cons.mpr ⟨m3, (List.forall_mem_cons.mpr ⟨m4, (List.forall_mem_cons.mpr ⟨m5, (List.forall_mem_cons.mpr ⟨m6, (List.forall_mem_cons.mpr ⟨m7, (fun _ h => absurd h List.not_mem_nil)⟩)⟩)⟩)⟩)⟩)⟩)⟩)⟩)
def nX2_costOf_29 (h : HH) (c17 : Int → Nat → Int → Int → Int → Int → Int → Option Int) (x1 : Int) (x2 : Nat) (x3 : Int) (x4 : Int) (x5 : Int) (x6 : Int) (x7 : Int) (x8 : Int) : Option Int := bX2_costOf_29 nX2_serveAt h c17 x1 x2 x3 x4 x5 x6 x7 x8
theorem wX2_costOf_29 {g : SG} (hg : GOK g) {σ0 : SG} {h : HH} {c17 : Int → Nat → Int → Int → Int → Int → Int → Option Int} (k17 : ∀ (x1 : Int) (x2 : Nat) (x3 : Int) (x4 : Int) (x5 : Int) (x6 : Int) (x7 : Int) (b : Int), c17 x1 x2 x3 x4 x5 x6 x7 = some b → WK 27 (.inl (some (aI b))) σ0 (abH 2 70 g h) 17 [(0, aR 13), (1, aI x1), (2, aR x2), (3, aI x3), (4, aI x4), (5, aI x5), (6, aI x6), (7, aI x7)] [] (abH 2 70 g h) 0 0) : ∀ {x1 : Int} {x2 : Nat} {x3 : Int} {x4 : Int} {x5 : Int} {x6 : Int} {x7 : Int} {x8 : Int} {b : Int}, nX2_costOf_29 h c17 x1 x2 x3 x4 x5 x6 x7 x8 = some b → WK 27 (.inl (some (aI b))) σ0 (abH 2 70 g h) 29 [(0, aR 13), (1, aI x1), (2, aR x2), (3, aI x3), (4, aI x4), (5, aI x5), (6, aI x6), (7, aI x7), (8, aI x8)] [] (abH 2 70 g h) 0 0 := by
  intro x1 x2 x3 x4 x5 x6 x7 x8 b q
  exact uX2_costOf_29 hg k17 q
def bX2_costOf_17 (f87 : HH → Int → Int → Option Int) (h : HH) (c29 : Int → Nat → Int → Int → Int → Int → Int → Int → Option Int) (c135 : Int → Int → Int → Option Int) (c136 : Int → Int → Int → Int → Option Int) (x1 : Int) (x2 : Nat) (x3 : Int) (x4 : Int) (x5 : Int) (x6 : Int) (x7 : Int) : Option Int :=
  if x7 < (x3 : Int) then
    bif okS 2 70 x2 0 || okS 2 70 x2 9 then
    gd ((0 : Int) ≤ x7 ∧ x7 < ((lnK x2) : Int)) <|
    c29 x1 x2 x3 x4 x5 x6 x7 (h.1 x2 x7)
  else none
  else
    bnd (f87 h x5 0) fun r1 =>
    if r1 = ((-1) : Int) then
    c135 x1 x4 r1
  else
    gd (R32 (x4 + r1)) <|
    gd ((0 : Int) ≤ x1 ∧ x1 < (3 : Int)) <|
    if ((h.1 25 x1) : Int) < (x4 + r1) then
    c135 x1 x4 r1
  else
    gd ((0 : Int) ≤ x1 ∧ x1 < (3 : Int)) <|
    if ((h.1 23 x1) : Int) < x6 then
    c135 x1 x4 r1
  else
    c136 x1 x4 r1 1
theorem uX2_costOf_17 {g : SG} (hg : GOK g) {σ0 : SG} {h : HH} {c29 : Int → Nat → Int → Int → Int → Int → Int → Int → Option Int} {c135 : Int → Int → Int → Option Int} {c136 : Int → Int → Int → Int → Option Int} (k29 : ∀ (x1 : Int) (x2 : Nat) (x3 : Int) (x4 : Int) (x5 : Int) (x6 : Int) (x7 : Int) (x8 : Int) (b : Int), c29 x1 x2 x3 x4 x5 x6 x7 x8 = some b → WK 27 (.inl (some (aI b))) σ0 (abH 2 70 g h) 29 [(0, aR 13), (1, aI x1), (2, aR x2), (3, aI x3), (4, aI x4), (5, aI x5), (6, aI x6), (7, aI x7), (8, aI x8)] [] (abH 2 70 g h) 0 0) (k135 : ∀ (x1 : Int) (x4 : Int) (x7 : Int) (b : Int), c135 x1 x4 x7 = some b → WK 27 (.inl (some (aI b))) σ0 (abH 2 70 g h) 135 [(0, aR 13), (1, aI x1), (4, aI x4), (7, aI x7)] [] (abH 2 70 g h) 0 0) (k136 : ∀ (x1 : Int) (x4 : Int) (x7 : Int) (y0 : Int) (b : Int), c136 x1 x4 x7 y0 = some b → WK 27 (.inl (some (aI b))) σ0 (abH 2 70 g h) 136 [(0, aR 13), (1, aI x1), (4, aI x4), (7, aI x7)] [aI y0] (abH 2 70 g h) 0 0) : ∀ {x1 : Int} {x2 : Nat} {x3 : Int} {x4 : Int} {x5 : Int} {x6 : Int} {x7 : Int} {b : Int}, bX2_costOf_17 nX9_minutesOf h c29 c135 c136 x1 x2 x3 x4 x5 x6 x7 = some b → WK 27 (.inl (some (aI b))) σ0 (abH 2 70 g h) 17 [(0, aR 13), (1, aI x1), (2, aR x2), (3, aI x3), (4, aI x4), (5, aI x5), (6, aI x6), (7, aI x7)] [] (abH 2 70 g h) 0 0 := by
  intro x1 x2 x3 x4 x5 x6 x7 b q
  have e : ∀ (f87 : HH → Int → Int → Option Int) , bX2_costOf_17 f87 h c29 c135 c136 x1 x2 x3 x4 x5 x6 x7 = segP 2 70 g.2.2.2.2 h krPI (clCP 87 (pX9_minutesOf f87 h) clNP) csX2_costOf (cuC 29 (fun l st s => tkC 0 13 l <| tkI 1 l fun x1 => tkR 2 l fun x2 => tkI 3 l fun x3 => tkI 4 l fun x4 => tkI 5 l fun x5 => tkI 6 l fun x6 => tkI 7 l fun x7 => tkI 8 l fun x8 => skE st (c29 x1 x2 x3 x4 x5 x6 x7 x8)) (cuC 135 (fun l st s => tkC 0 13 l <| tkI 1 l fun x1 => tkI 4 l fun x4 => tkI 7 l fun x7 => skE st (c135 x1 x4 x7)) (cuC 136 (fun l st s => tkC 0 13 l <| tkI 1 l fun x1 => tkI 4 l fun x4 => tkI 7 l fun x7 => skI st fun y0 st => skE st (c136 x1 x4 x7 y0)) cuN))) 1000 17 [(0, aR 13), (1, aI x1), (2, aR x2), (3, aI x3), (4, aI x4), (5, aI x5), (6, aI x6), (7, aI x7)] [] := fun _ => rfl
  rw [e nX9_minutesOf] at q
  clear e
  refine segP_wk (by decide) (by decide) hg rwX2_costOf (CLKP_C (pX9_minutesOf_ok hg) CLKP_N) krPI_ok ?_ q
  clear q
  refine ct_C ?_ (ct_C ?_ (ct_C ?_ (ct_N)))
  · intro l st _ q
    obtain ⟨m0, q1⟩ := tkC_of q
    obtain ⟨x1, m1, q2⟩ := tkI_of q1
    obtain ⟨x2, m2, q3⟩ := tkR_of q2
    obtain ⟨x3, m3, q4⟩ := tkI_of q3
    obtain ⟨x4, m4, q5⟩ := tkI_of q4
    obtain ⟨x5, m5, q6⟩ := tkI_of q5
    obtain ⟨x6, m6, q7⟩ := tkI_of q6
    obtain ⟨x7, m7, q8⟩ := tkI_of q7
    obtain ⟨x8, m8, q9⟩ := tkI_of q8
    obtain ⟨rfl, q10⟩ := skE_of q9
    exact WK_less (k29 _ _ _ _ _ _ _ _ _ q10) (List.forall_mem_cons.mpr ⟨m0, (List.forall_mem_cons.mpr ⟨m1, (List.forall_mem_cons.mpr ⟨m2, (List.forall_mem_cons.mpr ⟨m3, (List.forall_mem_cons.mpr ⟨m4, (List.forall_mem_cons.mpr ⟨m5, (List.forall_mem_cons.mpr ⟨m6, (List.forall_mem_cons.mpr ⟨m7, (List.forall_mem_cons.mpr ⟨m8, (fun _ h => absurd h List.not_mem_nil)⟩)⟩)⟩)⟩)⟩)⟩)⟩)⟩)⟩)
  · intro l st _ q
    obtain ⟨m0, q1⟩ := tkC_of q
    obtain ⟨x1, m1, q2⟩ := tkI_of q1
    obtain ⟨x4, m4, q3⟩ := tkI_of q2
    obtain ⟨x7, m7, q4⟩ := tkI_of q3
    obtain ⟨rfl, q5⟩ := skE_of q4
    exact WK_less (k135 _ _ _ _ q5) (List.forall_mem_cons.mpr ⟨m0, (List.forall_mem_cons.mpr ⟨m1, (List.forall_mem_cons.mpr ⟨m4, (List.forall_mem_cons.mpr ⟨m7, (fun _ h => absurd h List.not_mem_nil)⟩)⟩)⟩)⟩)
  · intro l st _ q
    obtain ⟨m0, q1⟩ := tkC_of q
    obtain ⟨x1, m1, q2⟩ := tkI_of q1
    obtain ⟨x4, m4, q3⟩ := tkI_of q2
    obtain ⟨x7, m7, q4⟩ := tkI_of q3
    obtain ⟨y0, t0, rfl, q5⟩ := skI_of q4
    obtain ⟨rfl, q6⟩ := skE_of q5
    exact WK_less (k136 _ _ _ _ _ q6) (List.forall_mem_cons.mpr ⟨m0, (List.forall_mem_cons.mpr ⟨m1, (List.forall_mem_cons.mpr ⟨m4, (List.forall_mem_cons.mpr ⟨m7, (fun _ h => absurd h List.not_mem_nil)⟩)⟩)⟩)⟩)
def nX2_costOf_17 (h : HH) : Nat → Int → Nat → Int → Int → Int → Int → Int → Option Int := iter (fun _ _ _ _ _ _ _ => none) (fun self => bX2_costOf_17 nX9_minutesOf h (nX2_costOf_29 h self) (nX2_costOf_135 h) (nX2_costOf_136 h))
theorem nX2_costOf_17_s {h : HH} {F : Nat} : nX2_costOf_17 h (F + 1) = bX2_costOf_17 nX9_minutesOf h (nX2_costOf_29 h (nX2_costOf_17 h F)) (nX2_costOf_135 h) (nX2_costOf_136 h) := rfl
theorem wX2_costOf_17 {g : SG} (hg : GOK g) {σ0 : SG} {h : HH} : ∀ {F : Nat}, ∀ {x1 : Int} {x2 : Nat} {x3 : Int} {x4 : Int} {x5 : Int} {x6 : Int} {x7 : Int} {b : Int}, nX2_costOf_17 h F x1 x2 x3 x4 x5 x6 x7 = some b → WK 27 (.inl (some (aI b))) σ0 (abH 2 70 g h) 17 [(0, aR 13), (1, aI x1), (2, aR x2), (3, aI x3), (4, aI x4), (5, aI x5), (6, aI x6), (7, aI x7)] [] (abH 2 70 g h) 0 0 := by
  intro F
  have z : ∀ (x1 : Int) (x2 : Nat) (x3 : Int) (x4 : Int) (x5 : Int) (x6 : Int) (x7 : Int) (b : Int), nX2_costOf_17 h F x1 x2 x3 x4 x5 x6 x7 = some b → WK 27 (.inl (some (aI b))) σ0 (abH 2 70 g h) 17 [(0, aR 13), (1, aI x1), (2, aR x2), (3, aI x3), (4, aI x4), (5, aI x5), (6, aI x6), (7, aI x7)] [] (abH 2 70 g h) 0 0 := iter_ind (P := fun (c : Int → Nat → Int → Int → Int → Int → Int → Option Int) => ∀ (x1 : Int) (x2 : Nat) (x3 : Int) (x4 : Int) (x5 : Int) (x6 : Int) (x7 : Int) (b : Int), c x1 x2 x3 x4 x5 x6 x7 = some b → WK 27 (.inl (some (aI b))) σ0 (abH 2 70 g h) 17 [(0, aR 13), (1, aI x1), (2, aR x2), (3, aI x3), (4, aI x4), (5, aI x5), (6, aI x6), (7, aI x7)] [] (abH 2 70 g h) 0 0) (by
    intro x1 x2 x3 x4 x5 x6 x7 b q
    cases q) (fun self ih => by
    intro x1 x2 x3 x4 x5 x6 x7 b q
    exact uX2_costOf_17 hg (fun _ _ _ _ _ _ _ _ _ q => wX2_costOf_29 hg ih q) (fun _ _ _ _ q => wX2_costOf_135 hg q) (fun _ _ _ _ _ q => wX2_costOf_136 hg q) q) F
  intro x1 x2 x3 x4 x5 x6 x7 b q
  exact z _ _ _ _ _ _ _ _ q
def bX2_costOf (h : HH) (c17 : Int → Nat → Int → Int → Int → Int → Int → Option Int) (x1 : Int) (x2 : Nat) (x3 : Int) : Option Int :=
  gd ((0 : Int) ≤ x1 ∧ x1 < (3 : Int)) <|
    c17 x1 x2 x3 (h.1 24 x1) 0 0 0
theorem uX2_costOf {g : SG} (hg : GOK g) {σ0 : SG} {h : HH} {c17 : Int → Nat → Int → Int → Int → Int → Int → Option Int} (k17 : ∀ (x1 : Int) (x2 : Nat) (x3 : Int) (x4 : Int) (x5 : Int) (x6 : Int) (x7 : Int) (b : Int), c17 x1 x2 x3 x4 x5 x6 x7 = some b → WK 27 (.inl (some (aI b))) σ0 (abH 2 70 g h) 17 [(0, aR 13), (1, aI x1), (2, aR x2), (3, aI x3), (4, aI x4), (5, aI x5), (6, aI x6), (7, aI x7)] [] (abH 2 70 g h) 0 0) : ∀ {x1 : Int} {x2 : Nat} {x3 : Int} {b : Int}, bX2_costOf h c17 x1 x2 x3 = some b → WK 27 (.inl (some (aI b))) σ0 (abH 2 70 g h) 0 [(0, aR 13), (1, aI x1), (2, aR x2), (3, aI x3)] [] (abH 2 70 g h) 0 0 := by
  intro x1 x2 x3 b q
  have e : bX2_costOf h c17 x1 x2 x3 = segP 2 70 g.2.2.2.2 h krPI clNP csX2_costOf (cuC 17 (fun l st s => tkC 0 13 l <| tkI 1 l fun x1 => tkR 2 l fun x2 => tkI 3 l fun x3 => tkI 4 l fun x4 => tkI 5 l fun x5 => tkI 6 l fun x6 => tkI 7 l fun x7 => skE st (c17 x1 x2 x3 x4 x5 x6 x7)) cuN) 1000 0 [(0, aR 13), (1, aI x1), (2, aR x2), (3, aI x3)] [] := rfl
  rw [e] at q
  clear e
  refine segP_wk (by decide) (by decide) hg rwX2_costOf CLKP_N krPI_ok ?_ q
  clear q
  refine ct_C ?_ (ct_N)
  · intro l st _ q
    obtain ⟨m0, q1⟩ := tkC_of q
    obtain ⟨x1, m1, q2⟩ := tkI_of q1
    obtain ⟨x2, m2, q3⟩ := tkR_of q2
    obtain ⟨x3, m3, q4⟩ := tkI_of q3
    obtain ⟨x4, m4, q5⟩ := tkI_of q4
    obtain ⟨x5, m5, q6⟩ := tkI_of q5
    obtain ⟨x6, m6, q7⟩ := tkI_of q6
    obtain ⟨x7, m7, q8⟩ := tkI_of q7
    obtain ⟨rfl, q9⟩ := skE_of q8
    exact WK_less (k17 _ _ _ _ _ _ _ _ q9) (List.forall_mem_cons.mpr ⟨m0, (List.forall_mem_cons.mpr ⟨m1, (List.forall_mem_cons.mpr ⟨m2, (List.forall_mem_cons.mpr ⟨m3, (List.forall_mem_cons.mpr ⟨m4, (List.forall_mem_cons.mpr ⟨m5, (List.forall_mem_cons.mpr ⟨m6, (List.forall_mem_cons.mpr ⟨m7, (fun _ h => absurd h List.not_mem_nil)⟩)⟩)⟩)⟩)⟩)⟩)⟩)⟩)
def nX2_costOf (h : HH) (x1 : Int) (x2 : Nat) (x3 : Int) : Option Int := bX2_costOf h (nX2_costOf_17 h 100000) x1 x2 x3
theorem wX2_costOf {g : SG} (hg : GOK g) {σ0 : SG} {h : HH} : ∀ {x1 : Int} {x2 : Nat} {x3 : Int} {b : Int}, nX2_costOf h x1 x2 x3 = some b → WK 27 (.inl (some (aI b))) σ0 (abH 2 70 g h) 0 [(0, aR 13), (1, aI x1), (2, aR x2), (3, aI x3)] [] (abH 2 70 g h) 0 0 := by
  intro x1 x2 x3 b q
  exact uX2_costOf hg (fun _ _ _ _ _ _ _ _ q => wX2_costOf_17 hg q) q
theorem mX2_costOf {g : SG} (hg : GOK g) {h : HH} {x1 : Int} {x2 : Nat} {x3 : Int} {b : Int} (q : nX2_costOf h x1 x2 x3 = some b) : MCT 27 [] [aR 13, aI x1, aR x2, aI x3] (abH 2 70 g h) (.inl (some (aI b))) (abH 2 70 g h) :=
  mct_of (by decide) (MFok 27 (by decide +kernel)) (fun _ => Nat.le_of_ble_eq_true rfl) (wX2_costOf hg q)
def pX2_costOf {β : Type} (z : HH → Int → Nat → Int → Option Int) : PP β := fun h as f => skC 13 as fun as => skI as fun x1 as => skR as fun x2 as => skI as fun x3 as => skE as (bnd (z h x1 x2 x3) fun r => f (.inl (some (aI r))))
theorem pX2_costOf_ok {β : Type} {g : SG} (hg : GOK g) : CP1 (β := β) 27 (pX2_costOf nX2_costOf) 2 70 g := fun h as f b q => by
  obtain ⟨as, rfl, q1⟩ := skC_of q
  obtain ⟨x1, as, rfl, q2⟩ := skI_of q1
  obtain ⟨x2, as, rfl, q3⟩ := skR_of q2
  obtain ⟨x3, as, rfl, q4⟩ := skI_of q3
  obtain ⟨rfl, q0⟩ := skE_of q4
  obtain ⟨r, z1, z2⟩ := bnd_of q0
  exact ⟨_, z2, by decide, mX2_costOf hg z1, rfl, rfl, fun z => absurd z (by decide)⟩
def csX2_savingOf : List (Nat × List (Nat × ARow)) := [(40, [(0, 1, .aload_n 0, 0, 0, 0), (1, 3, .getfield 48, 2, 0, 2), (4, 1, .aload_n 0, 0, 0, 0), (5, 3, .getfield 9, 2, 1, 2), (8, 1, .iload_n 1, 0, 0, 0), (9, 1, .iaload, 0, 0, 0), (10, 1, .iconst 0, 0, 0, 0), (11, 3, .invokevirtual 63, 87, 3, 9), (14, 1, .aload_n 0, 0, 0, 0), (15, 3, .getfield 48, 2, 0, 2), (18, 1, .iconst 0, 0, 0, 0), (19, 1, .aload_n 0, 0, 0, 0), (20, 3, .getfield 9, 2, 1, 2), (23, 1, .iload_n 2, 0, 0, 0), (24, 1, .iaload, 0, 0, 0), (25, 3, .invokevirtual 63, 87, 3, 9), (28, 1, .iadd, 0, 0, 0), (29, 1, .aload_n 0, 0, 0, 0), (30, 3, .getfield 48, 2, 0, 2), (33, 1, .aload_n 0, 0, 0, 0), (34, 3, .getfield 9, 2, 1, 2), (37, 1, .iload_n 1, 0, 0, 0), (38, 1, .iaload, 0, 0, 0), (39, 1, .aload_n 0, 0, 0, 0)]),
  (100000, [(40, 3, .getfield 9, 2, 1, 2), (43, 1, .iload_n 2, 0, 0, 0), (44, 1, .iaload, 0, 0, 0), (45, 3, .invokevirtual 63, 87, 3, 9), (48, 1, .isub, 0, 0, 0), (49, 1, .ireturn, 0, 0, 0)])]
theorem rwX2_savingOf : rowsB (mB 29) (mO 29) (mX 29) (mIni 29) (mFr 29) (mLo 29) (mT 29) csX2_savingOf = true := by decide +kernel
def bX2_savingOf (f87 : HH → Int → Int → Option Int) (h : HH) (x1 : Int) (x2 : Int) : Option Int :=
  gd ((0 : Int) ≤ x1 ∧ x1 < (9 : Int)) <|
    bnd (f87 h (h.1 14 x1) 0) fun r1 =>
    gd ((0 : Int) ≤ x2 ∧ x2 < (9 : Int)) <|
    bnd (f87 h 0 (h.1 14 x2)) fun r2 =>
    gd (R32 (r1 + r2)) <|
    gd ((0 : Int) ≤ x1 ∧ x1 < (9 : Int)) <|
    gd ((0 : Int) ≤ x2 ∧ x2 < (9 : Int)) <|
    bnd (f87 h (h.1 14 x1) (h.1 14 x2)) fun r3 =>
    gd (R32 ((r1 + r2) - r3)) <|
    some ((r1 + r2) - r3)
theorem uX2_savingOf {g : SG} (hg : GOK g) {σ0 : SG} {h : HH} : ∀ {x1 : Int} {x2 : Int} {b : Int}, bX2_savingOf nX9_minutesOf h x1 x2 = some b → WK 29 (.inl (some (aI b))) σ0 (abH 2 70 g h) 0 [(0, aR 13), (1, aI x1), (2, aI x2)] [] (abH 2 70 g h) 0 0 := by
  intro x1 x2 b q
  have e : ∀ (f87 : HH → Int → Int → Option Int) , bX2_savingOf f87 h x1 x2 = segP 2 70 g.2.2.2.2 h krPI (clCP 87 (pX9_minutesOf f87 h) clNP) csX2_savingOf cuN 1000 0 [(0, aR 13), (1, aI x1), (2, aI x2)] [] := fun _ => rfl
  rw [e nX9_minutesOf] at q
  clear e
  refine segP_wk (by decide) (by decide) hg rwX2_savingOf (CLKP_C (pX9_minutesOf_ok hg) CLKP_N) krPI_ok ?_ q
  clear q
  exact ct_N
def nX2_savingOf (h : HH) (x1 : Int) (x2 : Int) : Option Int := bX2_savingOf nX9_minutesOf h x1 x2
theorem wX2_savingOf {g : SG} (hg : GOK g) {σ0 : SG} {h : HH} : ∀ {x1 : Int} {x2 : Int} {b : Int}, nX2_savingOf h x1 x2 = some b → WK 29 (.inl (some (aI b))) σ0 (abH 2 70 g h) 0 [(0, aR 13), (1, aI x1), (2, aI x2)] [] (abH 2 70 g h) 0 0 := by
  intro x1 x2 b q
  exact uX2_savingOf hg q
theorem mX2_savingOf {g : SG} (hg : GOK g) {h : HH} {x1 : Int} {x2 : Int} {b : Int} (q : nX2_savingOf h x1 x2 = some b) : MCT 29 [] [aR 13, aI x1, aI x2] (abH 2 70 g h) (.inl (some (aI b))) (abH 2 70 g h) :=
  mct_of (by decide) (MFok 29 (by decide +kernel)) (fun _ => Nat.le_of_ble_eq_true rfl) (wX2_savingOf hg q)
def pX2_savingOf {β : Type} (z : HH → Int → Int → Option Int) : PP β := fun h as f => skC 13 as fun as => skI as fun x1 as => skI as fun x2 as => skE as (bnd (z h x1 x2) fun r => f (.inl (some (aI r))))
theorem pX2_savingOf_ok {β : Type} {g : SG} (hg : GOK g) : CP1 (β := β) 29 (pX2_savingOf nX2_savingOf) 2 70 g := fun h as f b q => by
  obtain ⟨as, rfl, q1⟩ := skC_of q
  obtain ⟨x1, as, rfl, q2⟩ := skI_of q1
  obtain ⟨x2, as, rfl, q3⟩ := skI_of q2
  obtain ⟨rfl, q0⟩ := skE_of q3
  obtain ⟨r, z1, z2⟩ := bnd_of q0
  exact ⟨_, z2, by decide, mX2_savingOf hg z1, rfl, rfl, fun z => absurd z (by decide)⟩
def csX3_forget : List (Nat × List (Nat × ARow)) := [(100000, [(0, 1, .aload_n 0, 0, 0, 0), (1, 1, .iconst 0, 0, 0, 0), (2, 3, .putfield 15, 3, 2, 0), (5, 1, .return_, 0, 0, 0)])]
theorem rwX3_forget : rowsB (mB 31) (mO 31) (mX 31) (mIni 31) (mFr 31) (mLo 31) (mT 31) csX3_forget = true := by decide +kernel
def bX3_forget (h : HH) : Option HH :=
  bnd (some (hI h 32 2 0)) fun h1 =>
    some h1
theorem uX3_forget {g : SG} (hg : GOK g) {σ0 : SG} : ∀ {h : HH} {b : HH}, bX3_forget h = some b → WK 31 (.inl none) σ0 (abH 2 70 g b) 0 [(0, aR 32)] [] (abH 2 70 g h) 0 0 := by
  intro h b q
  have e : bX3_forget h = segW 2 70 g.2.2.2.2 krWV clN csX3_forget cuN 1000 0 [(0, aR 32)] [] h := rfl
  rw [e] at q
  clear e
  refine segW_wk (by decide) (by decide) hg rwX3_forget CLKW_N krWV_ok ?_ q
  clear q
  exact ct_N
def nX3_forget (h : HH) : Option HH := bX3_forget h
theorem wX3_forget {g : SG} (hg : GOK g) {σ0 : SG} : ∀ {h : HH} {b : HH}, nX3_forget h = some b → WK 31 (.inl none) σ0 (abH 2 70 g b) 0 [(0, aR 32)] [] (abH 2 70 g h) 0 0 := by
  intro h b q
  exact uX3_forget hg q
theorem mX3_forget {g : SG} (hg : GOK g) {h : HH} {b : HH} (q : nX3_forget h = some b) : MCT 31 [] [aR 32] (abH 2 70 g h) (.inl none) (abH 2 70 g b) :=
  mct_of (by decide) (MFok 31 (by decide +kernel)) (fun _ => Nat.le_of_ble_eq_true rfl) (wX3_forget hg q)
def pX3_forget {β : Type} (z : HH → Option HH) : PW β := fun as h f => skC 32 as fun as => skE as (bnd (z h) fun r => f (.inl none) r)
theorem pX3_forget_ok {β : Type} {g : SG} (hg : GOK g) : CW1 (β := β) 31 (pX3_forget nX3_forget) 2 70 g := fun as h f b q => by
  obtain ⟨as, rfl, q1⟩ := skC_of q
  obtain ⟨rfl, q0⟩ := skE_of q1
  obtain ⟨r, z1, z2⟩ := bnd_of q0
  exact ⟨_, _, z2, by decide, mX3_forget hg z1, rfl, rfl, fun z => absurd z (by decide)⟩
def csX3_remember : List (Nat × List (Nat × ARow)) := [(43, [(0, 1, .aload_n 0, 0, 0, 0), (1, 3, .getfield 15, 3, 2, 0), (4, 2, .bipush 20, 0, 0, 0), (6, 3, .if_icmp .ne 26, 32, 0, 0), (9, 1, .aload_n 0, 0, 0, 0), (10, 1, .aload_n 0, 0, 0, 0), (11, 3, .getfield 19, 3, 1, 0), (14, 1, .iconst 1, 0, 0, 0), (15, 1, .iadd, 0, 0, 0), (16, 2, .bipush 20, 0, 0, 0), (18, 1, .irem, 0, 0, 0), (19, 3, .putfield 19, 3, 1, 0), (22, 1, .aload_n 0, 0, 0, 0), (23, 1, .dup, 0, 0, 0), (24, 3, .getfield 15, 3, 2, 0), (27, 1, .iconst 1, 0, 0, 0), (28, 1, .isub, 0, 0, 0), (29, 3, .putfield 15, 3, 2, 0), (32, 1, .aload_n 0, 0, 0, 0), (33, 3, .getfield 19, 3, 1, 0), (36, 1, .aload_n 0, 0, 0, 0), (37, 3, .getfield 15, 3, 2, 0), (40, 1, .iadd, 0, 0, 0), (41, 2, .bipush 20, 0, 0, 0)]),
  (79, [(43, 1, .irem, 0, 0, 0), (44, 2, .bipush 12, 0, 0, 0), (46, 1, .imul, 0, 0, 0), (47, 1, .istore_n 2, 0, 0, 0), (48, 1, .aload_n 0, 0, 0, 0), (49, 1, .dup, 0, 0, 0), (50, 3, .getfield 15, 3, 2, 0), (53, 1, .iconst 1, 0, 0, 0), (54, 1, .iadd, 0, 0, 0), (55, 3, .putfield 15, 3, 2, 0), (58, 1, .iload_n 2, 0, 0, 0), (59, 1, .iconst 3, 0, 0, 0), (60, 1, .iadd, 0, 0, 0), (61, 1, .istore_n 3, 0, 0, 0), (62, 1, .iconst 0, 0, 0, 0), (63, 2, .istore 4, 0, 0, 0), (65, 2, .iload 4, 0, 0, 0), (67, 1, .iconst 3, 0, 0, 0), (68, 3, .if_icmp .ge 58, 126, 0, 0), (71, 1, .aload_n 0, 0, 0, 0), (72, 3, .getfield 11, 3, 0, 2), (75, 1, .iload_n 2, 0, 0, 0), (76, 2, .iload 4, 0, 0, 0), (78, 1, .iadd, 0, 0, 0)]),
  (119, [(79, 1, .aload_n 1, 0, 0, 0), (80, 3, .getfield 22, 6, 2, 2), (83, 2, .iload 4, 0, 0, 0), (85, 1, .iaload, 0, 0, 0), (86, 1, .iastore, 0, 0, 0), (87, 1, .aload_n 1, 0, 0, 0), (88, 3, .getfield 27, 6, 1, 2), (91, 2, .iload 4, 0, 0, 0), (93, 1, .aaload, 0, 0, 0), (94, 1, .iconst 0, 0, 0, 0), (95, 1, .aload_n 0, 0, 0, 0), (96, 3, .getfield 11, 3, 0, 2), (99, 1, .iload_n 3, 0, 0, 0), (100, 1, .aload_n 1, 0, 0, 0), (101, 3, .getfield 22, 6, 2, 2), (104, 2, .iload 4, 0, 0, 0), (106, 1, .iaload, 0, 0, 0), (107, 3, .invokestatic 31, 1003, 5, 0), (110, 1, .iload_n 3, 0, 0, 0), (111, 1, .aload_n 1, 0, 0, 0), (112, 3, .getfield 22, 6, 2, 2), (115, 2, .iload 4, 0, 0, 0), (117, 1, .iaload, 0, 0, 0), (118, 1, .iadd, 0, 0, 0)]),
  (100000, [(119, 1, .istore_n 3, 0, 0, 0), (120, 3, .iinc 4 1, 0, 0, 0), (123, 3, .goto (-58), 65, 0, 0), (126, 1, .return_, 0, 0, 0)])]
theorem rwX3_remember : rowsB (mB 32) (mO 32) (mX 32) (mIni 32) (mFr 32) (mLo 32) (mT 32) csX3_remember = true := by decide +kernel
def bX3_remember_65 (c65 : Int → Int → Int → HH → Option HH) (x2 : Int) (x3 : Int) (x4 : Int) (h : HH) : Option HH :=
  if x4 < (3 : Int) then
    gd (R32 (x2 + x4)) <|
    gd ((0 : Int) ≤ x4 ∧ x4 < (3 : Int)) <|
    gd ((0 : Int) ≤ (x2 + x4) ∧ (x2 + x4) < (240 : Int)) <|
    bnd (some (hI h 33 (x2 + x4) (h.1 31 x4))) fun h1 =>
    gd ((0 : Int) ≤ x4 ∧ x4 < (3 : Int)) <|
    bif Nat.beq (rwK 3 28 x4) 0 then none else
    gd ((0 : Int) ≤ x4 ∧ x4 < (3 : Int)) <|
    bif (okS 2 70 (rwK 3 28 x4) 0 && okS 2 70 33 0) && true then
    gd ((0 : Int) ≤ (h1.1 31 x4) ∧ (0 : Int) ≤ 0 ∧ (0 : Int) ≤ x3 ∧ 0 + (h1.1 31 x4) ≤ ((lnK (rwK 3 28 x4)) : Int) ∧ x3 + (h1.1 31 x4) ≤ (240 : Int)) <|
    bnd (some (hC h1 33 (fun j => if x3 ≤ j ∧ j < x3 + (h1.1 31 x4) then h1.1 (rwK 3 28 x4) (0 + (j - x3)) else h1.1 33 j))) fun h2 =>
    gd ((0 : Int) ≤ x4 ∧ x4 < (3 : Int)) <|
    gd (R32 (x3 + (h2.1 31 x4))) <|
    gd (R32 (x4 + 1)) <|
    c65 x2 (x3 + (h2.1 31 x4)) (x4 + 1) h2
  else none
  else
    some h
theorem uX3_remember_65 {g : SG} (hg : GOK g) {σ0 : SG} {c65 : Int → Int → Int → HH → Option HH} (k65 : ∀ (x2 : Int) (x3 : Int) (x4 : Int) (h : HH) (b : HH), c65 x2 x3 x4 h = some b → WK 32 (.inl none) σ0 (abH 2 70 g b) 65 [(0, aR 32), (1, aR 26), (2, aI x2), (3, aI x3), (4, aI x4)] [] (abH 2 70 g h) 0 0) : ∀ {x2 : Int} {x3 : Int} {x4 : Int} {h : HH} {b : HH}, bX3_remember_65 c65 x2 x3 x4 h = some b → WK 32 (.inl none) σ0 (abH 2 70 g b) 65 [(0, aR 32), (1, aR 26), (2, aI x2), (3, aI x3), (4, aI x4)] [] (abH 2 70 g h) 0 0 := by
  intro x2 x3 x4 h b q
  have e : bX3_remember_65 c65 x2 x3 x4 h = segW 2 70 g.2.2.2.2 krWV clN csX3_remember (cuC 65 (fun l st s => tkC 0 32 l <| tkC 1 26 l <| tkI 2 l fun x2 => tkI 3 l fun x3 => tkI 4 l fun x4 => skE st (c65 x2 x3 x4 s)) cuN) 1000 65 [(0, aR 32), (1, aR 26), (2, aI x2), (3, aI x3), (4, aI x4)] [] h := rfl
  rw [e] at q
  clear e
  refine segW_wk (by decide) (by decide) hg rwX3_remember CLKW_N krWV_ok ?_ q
  clear q
  refine ct_C ?_ (ct_N)
  · intro l st h q
    obtain ⟨m0, q1⟩ := tkC_of q
    obtain ⟨m1, q2⟩ := tkC_of q1
    obtain ⟨x2, m2, q3⟩ := tkI_of q2
    obtain ⟨x3, m3, q4⟩ := tkI_of q3
    obtain ⟨x4, m4, q5⟩ := tkI_of q4
    obtain ⟨rfl, q6⟩ := skE_of q5
    exact WK_less (k65 _ _ _ _ _ q6) (List.forall_mem_cons.mpr ⟨m0, (List.forall_mem_cons.mpr ⟨m1, (List.forall_mem_cons.mpr ⟨m2, (List.forall_mem_cons.mpr ⟨m3, (List.forall_mem_cons.mpr ⟨m4, (fun _ h => absurd h List.not_mem_nil)⟩)⟩)⟩)⟩)⟩)
def nX3_remember_65 : Nat → Int → Int → Int → HH → Option HH := iter (fun _ _ _ _ => none) (fun self => bX3_remember_65 self)
theorem nX3_remember_65_s {F : Nat} : nX3_remember_65 (F + 1) = bX3_remember_65 (nX3_remember_65 F) := rfl
theorem wX3_remember_65 {g : SG} (hg : GOK g) {σ0 : SG} : ∀ {F : Nat}, ∀ {x2 : Int} {x3 : Int} {x4 : Int} {h : HH} {b : HH}, nX3_remember_65 F x2 x3 x4 h = some b → WK 32 (.inl none) σ0 (abH 2 70 g b) 65 [(0, aR 32), (1, aR 26), (2, aI x2), (3, aI x3), (4, aI x4)] [] (abH 2 70 g h) 0 0 := by
  intro F
  have z : ∀ (x2 : Int) (x3 : Int) (x4 : Int) (h : HH) (b : HH), nX3_remember_65 F x2 x3 x4 h = some b → WK 32 (.inl none) σ0 (abH 2 70 g b) 65 [(0, aR 32), (1, aR 26), (2, aI x2), (3, aI x3), (4, aI x4)] [] (abH 2 70 g h) 0 0 := iter_ind (P := fun (c : Int → Int → Int → HH → Option HH) => ∀ (x2 : Int) (x3 : Int) (x4 : Int) (h : HH) (b : HH), c x2 x3 x4 h = some b → WK 32 (.inl none) σ0 (abH 2 70 g b) 65 [(0, aR 32), (1, aR 26), (2, aI x2), (3, aI x3), (4, aI x4)] [] (abH 2 70 g h) 0 0) (by
    intro x2 x3 x4 h b q
    cases q) (fun self ih => by
    intro x2 x3 x4 h b q
    exact uX3_remember_65 hg ih q) F
  intro x2 x3 x4 h b q
  exact z _ _ _ _ _ q
def bX3_remember_32 (c65 : Int → Int → Int → HH → Option HH) (h : HH) : Option HH :=
  gd (R32 ((h.1 32 1) + (h.1 32 2))) <|
    gd ((0 : Int) ≤ ((h.1 32 1) + (h.1 32 2)) ∧ (0 : Int) < 20) <|
    gd (R32 ((((h.1 32 1) + (h.1 32 2)) % 20) * 12)) <|
    gd (R32 ((h.1 32 2) + 1)) <|
    bnd (some (hI h 32 2 ((h.1 32 2) + 1))) fun h1 =>
    gd (R32 (((((h.1 32 1) + (h.1 32 2)) % 20) * 12) + 3)) <|
    c65 ((((h.1 32 1) + (h.1 32 2)) % 20) * 12) (((((h.1 32 1) + (h.1 32 2)) % 20) * 12) + 3) 0 h1
theorem uX3_remember_32 {g : SG} (hg : GOK g) {σ0 : SG} {c65 : Int → Int → Int → HH → Option HH} (k65 : ∀ (x2 : Int) (x3 : Int) (x4 : Int) (h : HH) (b : HH), c65 x2 x3 x4 h = some b → WK 32 (.inl none) σ0 (abH 2 70 g b) 65 [(0, aR 32), (1, aR 26), (2, aI x2), (3, aI x3), (4, aI x4)] [] (abH 2 70 g h) 0 0) : ∀ {h : HH} {b : HH}, bX3_remember_32 c65 h = some b → WK 32 (.inl none) σ0 (abH 2 70 g b) 32 [(0, aR 32), (1, aR 26)] [] (abH 2 70 g h) 0 0 := by
  intro h b q
  have e : bX3_remember_32 c65 h = segW 2 70 g.2.2.2.2 krWV clN csX3_remember (cuC 65 (fun l st s => tkC 0 32 l <| tkC 1 26 l <| tkI 2 l fun x2 => tkI 3 l fun x3 => tkI 4 l fun x4 => skE st (c65 x2 x3 x4 s)) cuN) 1000 32 [(0, aR 32), (1, aR 26)] [] h := rfl
  rw [e] at q
  clear e
  refine segW_wk (by decide) (by decide) hg rwX3_remember CLKW_N krWV_ok ?_ q
  clear q
  refine ct_C ?_ (ct_N)
  · intro l st h q
    obtain ⟨m0, q1⟩ := tkC_of q
    obtain ⟨m1, q2⟩ := tkC_of q1
    obtain ⟨x2, m2, q3⟩ := tkI_of q2
    obtain ⟨x3, m3, q4⟩ := tkI_of q3
    obtain ⟨x4, m4, q5⟩ := tkI_of q4
    obtain ⟨rfl, q6⟩ := skE_of q5
    exact WK_less (k65 _ _ _ _ _ q6) (List.forall_mem_cons.mpr ⟨m0, (List.forall_mem_cons.mpr ⟨m1, (List.forall_mem_cons.mpr ⟨m2, (List.forall_mem_cons.mpr ⟨m3, (List.forall_mem_cons.mpr ⟨m4, (fun _ h => absurd h List.not_mem_nil)⟩)⟩)⟩)⟩)⟩)
def nX3_remember_32 (h : HH) : Option HH := bX3_remember_32 (nX3_remember_65 100000) h
theorem wX3_remember_32 {g : SG} (hg : GOK g) {σ0 : SG} : ∀ {h : HH} {b : HH}, nX3_remember_32 h = some b → WK 32 (.inl none) σ0 (abH 2 70 g b) 32 [(0, aR 32), (1, aR 26)] [] (abH 2 70 g h) 0 0 := by
  intro h b q
  exact uX3_remember_32 hg (fun _ _ _ _ _ q => wX3_remember_65 hg q) q
def bX3_remember (c32 : HH → Option HH) (h : HH) : Option HH :=
  if (h.1 32 2) = (20 : Int) then
    gd (R32 ((h.1 32 1) + 1)) <|
    gd ((0 : Int) ≤ ((h.1 32 1) + 1) ∧ (0 : Int) < 20) <|
    bnd (some (hI h 32 1 (((h.1 32 1) + 1) % 20))) fun h1 =>
    gd (R32 ((h1.1 32 2) - 1)) <|
    bnd (some (hI h1 32 2 ((h1.1 32 2) - 1))) fun h2 =>
    c32 h2
  else
    c32 h
theorem uX3_remember {g : SG} (hg : GOK g) {σ0 : SG} {c32 : HH → Option HH} (k32 : ∀ (h : HH) (b : HH), c32 h = some b → WK 32 (.inl none) σ0 (abH 2 70 g b) 32 [(0, aR 32), (1, aR 26)] [] (abH 2 70 g h) 0 0) : ∀ {h : HH} {b : HH}, bX3_remember c32 h = some b → WK 32 (.inl none) σ0 (abH 2 70 g b) 0 [(0, aR 32), (1, aR 26)] [] (abH 2 70 g h) 0 0 := by
  intro h b q
  have e : bX3_remember c32 h = segW 2 70 g.2.2.2.2 krWV clN csX3_remember (cuC 32 (fun l st s => tkC 0 32 l <| tkC 1 26 l <| skE st (c32 s)) cuN) 1000 0 [(0, aR 32), (1, aR 26)] [] h := rfl
  rw [e] at q
  clear e
  refine segW_wk (by decide) (by decide) hg rwX3_remember CLKW_N krWV_ok ?_ q
  clear q
  refine ct_C ?_ (ct_N)
  · intro l st h q
    obtain ⟨m0, q1⟩ := tkC_of q
    obtain ⟨m1, q2⟩ := tkC_of q1
    obtain ⟨rfl, q3⟩ := skE_of q2
    exact WK_less (k32 _ _ q3) (List.forall_mem_cons.mpr ⟨m0, (List.forall_mem_cons.mpr ⟨m1, (fun _ h => absurd h List.not_mem_nil)⟩)⟩)
def nX3_remember (h : HH) : Option HH := bX3_remember nX3_remember_32 h
theorem wX3_remember {g : SG} (hg : GOK g) {σ0 : SG} : ∀ {h : HH} {b : HH}, nX3_remember h = some b → WK 32 (.inl none) σ0 (abH 2 70 g b) 0 [(0, aR 32), (1, aR 26)] [] (abH 2 70 g h) 0 0 := by
  intro h b q
  exact uX3_remember hg (fun _ _ q => wX3_remember_32 hg q) q
theorem mX3_remember {g : SG} (hg : GOK g) {h : HH} {b : HH} (q : nX3_remember h = some b) : MCT 32 [] [aR 32, aR 26] (abH 2 70 g h) (.inl none) (abH 2 70 g b) :=
  mct_of (by decide) (MFok 32 (by decide +kernel)) (fun _ => Nat.le_of_ble_eq_true rfl) (wX3_remember hg q)
def pX3_remember {β : Type} (z : HH → Option HH) : PW β := fun as h f => skC 32 as fun as => skC 26 as fun as => skE as (bnd (z h) fun r => f (.inl none) r)
theorem pX3_remember_ok {β : Type} {g : SG} (hg : GOK g) : CW1 (β := β) 32 (pX3_remember nX3_remember) 2 70 g := fun as h f b q => by
  obtain ⟨as, rfl, q1⟩ := skC_of q
  obtain ⟨as, rfl, q2⟩ := skC_of q1
  obtain ⟨rfl, q0⟩ := skE_of q2
  obtain ⟨r, z1, z2⟩ := bnd_of q0
  exact ⟨_, _, z2, by decide, mX3_remember hg z1, rfl, rfl, fun z => absurd z (by decide)⟩
