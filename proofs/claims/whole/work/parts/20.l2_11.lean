def csX12_joinsAll : List (Nat × List (Nat × ARow)) := [(40, [(0, 1, .iconst 1, 0, 0, 0), (1, 1, .istore_n 2, 0, 0, 0), (2, 1, .iload_n 2, 0, 0, 0), (3, 3, .ifCond .eq 421, 424, 0, 0), (6, 1, .iconst (-1), 0, 0, 0), (7, 1, .istore_n 3, 0, 0, 0), (8, 1, .iconst (-1), 0, 0, 0), (9, 2, .istore 4, 0, 0, 0), (11, 1, .iconst 0, 0, 0, 0), (12, 2, .istore 5, 0, 0, 0), (14, 1, .iconst 0, 0, 0, 0), (15, 2, .istore 6, 0, 0, 0), (17, 2, .iload 6, 0, 0, 0), (19, 1, .aload_n 0, 0, 0, 0), (20, 3, .getfield 292, 12, 62, 0), (23, 1, .aload_n 0, 0, 0, 0), (24, 3, .getfield 292, 12, 62, 0), (27, 1, .imul, 0, 0, 0), (28, 3, .if_icmp .ge 228, 256, 0, 0), (31, 2, .iload 6, 0, 0, 0), (33, 1, .aload_n 0, 0, 0, 0), (34, 3, .getfield 292, 12, 62, 0), (37, 1, .idiv, 0, 0, 0), (38, 2, .istore 7, 0, 0, 0)]),
  (88, [(40, 2, .iload 6, 0, 0, 0), (42, 1, .aload_n 0, 0, 0, 0), (43, 3, .getfield 292, 12, 62, 0), (46, 1, .irem, 0, 0, 0), (47, 2, .istore 8, 0, 0, 0), (49, 2, .iload 7, 0, 0, 0), (51, 2, .iload 8, 0, 0, 0), (53, 3, .if_icmp .ne 6, 59, 0, 0), (56, 3, .goto 194, 250, 0, 0), (59, 1, .aload_n 0, 0, 0, 0), (60, 2, .iload 7, 0, 0, 0), (62, 2, .iload 8, 0, 0, 0), (64, 3, .invokevirtual 295, 211, 3, 12), (67, 1, .aload_n 0, 0, 0, 0), (68, 1, .iload_n 1, 0, 0, 0), (69, 3, .invokevirtual 254, 192, 2, 12), (72, 1, .iconst (-1), 0, 0, 0), (73, 3, .if_icmp .ne 6, 79, 0, 0), (76, 3, .goto 174, 250, 0, 0), (79, 1, .aload_n 0, 0, 0, 0), (80, 2, .iload 7, 0, 0, 0), (82, 3, .invokevirtual 298, 212, 2, 12), (85, 2, .istore 9, 0, 0, 0), (87, 1, .aload_n 0, 0, 0, 0)]),
  (129, [(88, 2, .iload 8, 0, 0, 0), (90, 3, .invokevirtual 301, 213, 2, 12), (93, 2, .istore 10, 0, 0, 0), (95, 1, .aload_n 0, 0, 0, 0), (96, 1, .aload_n 0, 0, 0, 0), (97, 3, .getfield 37, 12, 11, 2), (100, 2, .iload 9, 0, 0, 0), (102, 1, .iaload, 0, 0, 0), (103, 1, .iconst 0, 0, 0, 0), (104, 3, .invokevirtual 244, 181, 3, 12), (107, 1, .aload_n 0, 0, 0, 0), (108, 1, .iconst 0, 0, 0, 0), (109, 1, .aload_n 0, 0, 0, 0), (110, 3, .getfield 37, 12, 11, 2), (113, 2, .iload 10, 0, 0, 0), (115, 1, .iaload, 0, 0, 0), (116, 3, .invokevirtual 244, 181, 3, 12), (119, 1, .iadd, 0, 0, 0), (120, 1, .aload_n 0, 0, 0, 0), (121, 1, .aload_n 0, 0, 0, 0), (122, 3, .getfield 37, 12, 11, 2), (125, 2, .iload 9, 0, 0, 0), (127, 1, .iaload, 0, 0, 0), (128, 1, .aload_n 0, 0, 0, 0)]),
  (175, [(129, 3, .getfield 37, 12, 11, 2), (132, 2, .iload 10, 0, 0, 0), (134, 1, .iaload, 0, 0, 0), (135, 3, .invokevirtual 244, 181, 3, 12), (138, 1, .isub, 0, 0, 0), (139, 2, .istore 11, 0, 0, 0), (141, 1, .iload_n 3, 0, 0, 0), (142, 1, .iconst (-1), 0, 0, 0), (143, 3, .if_icmp .eq 10, 153, 0, 0), (146, 2, .iload 11, 0, 0, 0), (148, 2, .iload 5, 0, 0, 0), (150, 3, .if_icmp .le 7, 157, 0, 0), (153, 1, .iconst 1, 0, 0, 0), (154, 3, .goto 4, 158, 0, 0), (157, 1, .iconst 0, 0, 0, 0), (158, 2, .istore 12, 0, 0, 0), (160, 1, .iload_n 3, 0, 0, 0), (161, 1, .iconst (-1), 0, 0, 0), (162, 3, .if_icmp .eq 48, 210, 0, 0), (165, 2, .iload 11, 0, 0, 0), (167, 2, .iload 5, 0, 0, 0), (169, 3, .if_icmp .ne 41, 210, 0, 0), (172, 2, .iload 9, 0, 0, 0), (174, 1, .aload_n 0, 0, 0, 0)]),
  (224, [(175, 1, .iload_n 3, 0, 0, 0), (176, 3, .invokevirtual 298, 212, 2, 12), (179, 3, .if_icmp .lt 24, 203, 0, 0), (182, 2, .iload 9, 0, 0, 0), (184, 1, .aload_n 0, 0, 0, 0), (185, 1, .iload_n 3, 0, 0, 0), (186, 3, .invokevirtual 298, 212, 2, 12), (189, 3, .if_icmp .ne 18, 207, 0, 0), (192, 2, .iload 10, 0, 0, 0), (194, 1, .aload_n 0, 0, 0, 0), (195, 2, .iload 4, 0, 0, 0), (197, 3, .invokevirtual 301, 213, 2, 12), (200, 3, .if_icmp .ge 7, 207, 0, 0), (203, 1, .iconst 1, 0, 0, 0), (204, 3, .goto 4, 208, 0, 0), (207, 1, .iconst 0, 0, 0, 0), (208, 2, .istore 12, 0, 0, 0), (210, 2, .iload 12, 0, 0, 0), (212, 3, .ifCond .eq 8, 220, 0, 0), (215, 2, .iload 7, 0, 0, 0), (217, 3, .goto 4, 221, 0, 0), (220, 1, .iload_n 3, 0, 0, 0), (221, 1, .istore_n 3, 0, 0, 0), (222, 2, .iload 12, 0, 0, 0)]),
  (273, [(224, 3, .ifCond .eq 8, 232, 0, 0), (227, 2, .iload 8, 0, 0, 0), (229, 3, .goto 5, 234, 0, 0), (232, 2, .iload 4, 0, 0, 0), (234, 2, .istore 4, 0, 0, 0), (236, 2, .iload 12, 0, 0, 0), (238, 3, .ifCond .eq 8, 246, 0, 0), (241, 2, .iload 11, 0, 0, 0), (243, 3, .goto 5, 248, 0, 0), (246, 2, .iload 5, 0, 0, 0), (248, 2, .istore 5, 0, 0, 0), (250, 3, .iinc 6 1, 0, 0, 0), (253, 3, .goto (-236), 17, 0, 0), (256, 1, .iload_n 3, 0, 0, 0), (257, 1, .iconst (-1), 0, 0, 0), (258, 3, .if_icmp .eq 7, 265, 0, 0), (261, 1, .iconst 1, 0, 0, 0), (262, 3, .goto 4, 266, 0, 0), (265, 1, .iconst 0, 0, 0, 0), (266, 1, .istore_n 2, 0, 0, 0), (267, 1, .iload_n 2, 0, 0, 0), (268, 3, .ifCond .eq 153, 421, 0, 0), (271, 1, .aload_n 0, 0, 0, 0), (272, 1, .iload_n 3, 0, 0, 0)]),
  (319, [(273, 2, .iload 4, 0, 0, 0), (275, 3, .invokevirtual 295, 211, 3, 12), (278, 1, .iconst 0, 0, 0, 0), (279, 2, .istore 6, 0, 0, 0), (281, 2, .iload 6, 0, 0, 0), (283, 1, .aload_n 0, 0, 0, 0), (284, 3, .getfield 241, 12, 51, 0), (287, 3, .if_icmp .ge 28, 315, 0, 0), (290, 1, .aload_n 0, 0, 0, 0), (291, 3, .getfield 142, 12, 60, 2), (294, 2, .bipush 9, 0, 0, 0), (296, 1, .iload_n 3, 0, 0, 0), (297, 1, .imul, 0, 0, 0), (298, 2, .iload 6, 0, 0, 0), (300, 1, .iadd, 0, 0, 0), (301, 1, .aload_n 0, 0, 0, 0), (302, 3, .getfield 127, 12, 47, 2), (305, 2, .iload 6, 0, 0, 0), (307, 1, .iaload, 0, 0, 0), (308, 1, .iastore, 0, 0, 0), (309, 3, .iinc 6 1, 0, 0, 0), (312, 3, .goto (-31), 281, 0, 0), (315, 1, .aload_n 0, 0, 0, 0), (316, 3, .getfield 145, 12, 61, 2)]),
  (361, [(319, 1, .iload_n 3, 0, 0, 0), (320, 1, .aload_n 0, 0, 0, 0), (321, 3, .getfield 241, 12, 51, 0), (324, 1, .iastore, 0, 0, 0), (325, 1, .aload_n 0, 0, 0, 0), (326, 1, .dup, 0, 0, 0), (327, 3, .getfield 292, 12, 62, 0), (330, 1, .iconst 1, 0, 0, 0), (331, 1, .isub, 0, 0, 0), (332, 3, .putfield 292, 12, 62, 0), (335, 1, .iconst 0, 0, 0, 0), (336, 2, .istore 6, 0, 0, 0), (338, 2, .iload 6, 0, 0, 0), (340, 1, .aload_n 0, 0, 0, 0), (341, 3, .getfield 145, 12, 61, 2), (344, 1, .aload_n 0, 0, 0, 0), (345, 3, .getfield 292, 12, 62, 0), (348, 1, .iaload, 0, 0, 0), (349, 3, .if_icmp .ge 37, 386, 0, 0), (352, 1, .aload_n 0, 0, 0, 0), (353, 3, .getfield 142, 12, 60, 2), (356, 2, .bipush 9, 0, 0, 0), (358, 2, .iload 4, 0, 0, 0), (360, 1, .imul, 0, 0, 0)]),
  (407, [(361, 2, .iload 6, 0, 0, 0), (363, 1, .iadd, 0, 0, 0), (364, 1, .aload_n 0, 0, 0, 0), (365, 3, .getfield 142, 12, 60, 2), (368, 2, .bipush 9, 0, 0, 0), (370, 1, .aload_n 0, 0, 0, 0), (371, 3, .getfield 292, 12, 62, 0), (374, 1, .imul, 0, 0, 0), (375, 2, .iload 6, 0, 0, 0), (377, 1, .iadd, 0, 0, 0), (378, 1, .iaload, 0, 0, 0), (379, 1, .iastore, 0, 0, 0), (380, 3, .iinc 6 1, 0, 0, 0), (383, 3, .goto (-45), 338, 0, 0), (386, 1, .aload_n 0, 0, 0, 0), (387, 3, .getfield 145, 12, 61, 2), (390, 2, .iload 4, 0, 0, 0), (392, 2, .iload 4, 0, 0, 0), (394, 1, .aload_n 0, 0, 0, 0), (395, 3, .getfield 292, 12, 62, 0), (398, 3, .if_icmp .ne 13, 411, 0, 0), (401, 1, .aload_n 0, 0, 0, 0), (402, 3, .getfield 145, 12, 61, 2), (405, 2, .iload 4, 0, 0, 0)]),
  (100000, [(407, 1, .iaload, 0, 0, 0), (408, 3, .goto 12, 420, 0, 0), (411, 1, .aload_n 0, 0, 0, 0), (412, 3, .getfield 145, 12, 61, 2), (415, 1, .aload_n 0, 0, 0, 0), (416, 3, .getfield 292, 12, 62, 0), (419, 1, .iaload, 0, 0, 0), (420, 1, .iastore, 0, 0, 0), (421, 3, .goto (-419), 2, 0, 0), (424, 1, .return_, 0, 0, 0)])]
theorem rwX12_joinsAll : rowsB (mB 214) (mO 214) (mX 214) (mIni 214) (mFr 214) (mLo 214) (mT 214) csX12_joinsAll = true := by decide +kernel
def bX12_joinsAll_421 (c2 : Int → Int → HH → Option HH) (x1 : Int) (x2 : Int) (h : HH) : Option HH :=
  c2 x1 x2 h
theorem uX12_joinsAll_421 {g : SG} (hg : GOK g) {σ0 : SG} {c2 : Int → Int → HH → Option HH} (k2 : ∀ (x1 : Int) (x2 : Int) (h : HH) (b : HH), c2 x1 x2 h = some b → WK 214 (.inl none) σ0 (abH 71 119 g b) 2 [(0, aR 71), (1, aI x1), (2, aI x2)] [] (abH 71 119 g h) 0 0) : ∀ {x1 : Int} {x2 : Int} {h : HH} {b : HH}, bX12_joinsAll_421 c2 x1 x2 h = some b → WK 214 (.inl none) σ0 (abH 71 119 g b) 421 [(0, aR 71), (1, aI x1), (2, aI x2)] [] (abH 71 119 g h) 0 0 := by
  intro x1 x2 h b q
  have e : bX12_joinsAll_421 c2 x1 x2 h = segW 71 119 g.2.2.2.2 krWV clN csX12_joinsAll (cuC 2 (fun l st s => tkC 0 71 l <| tkI 1 l fun x1 => tkI 2 l fun x2 => skE st (c2 x1 x2 s)) cuN) 1000 421 [(0, aR 71), (1, aI x1), (2, aI x2)] [] h := rfl
  rw [e] at q
  clear e
  refine segW_wk (by decide) (by decide) hg rwX12_joinsAll CLKW_N krWV_ok ?_ q
  clear q
  refine ct_C ?_ (ct_N)
  · intro l st h q
    obtain ⟨m0, q1⟩ := tkC_of q
    obtain ⟨x1, m1, q2⟩ := tkI_of q1
    obtain ⟨x2, m2, q3⟩ := tkI_of q2
    obtain ⟨rfl, q4⟩ := skE_of q3
    exact WK_less (k2 _ _ _ _ q4) (List.forall_mem_cons.mpr ⟨m0, (List.forall_mem_cons.mpr ⟨m1, (List.forall_mem_cons.mpr ⟨m2, (fun _ h => absurd h List.not_mem_nil)⟩)⟩)⟩)
def nX12_joinsAll_421 (c2 : Int → Int → HH → Option HH) (x1 : Int) (x2 : Int) (h : HH) : Option HH := bX12_joinsAll_421 c2 x1 x2 h
theorem wX12_joinsAll_421 {g : SG} (hg : GOK g) {σ0 : SG} {c2 : Int → Int → HH → Option HH} (k2 : ∀ (x1 : Int) (x2 : Int) (h : HH) (b : HH), c2 x1 x2 h = some b → WK 214 (.inl none) σ0 (abH 71 119 g b) 2 [(0, aR 71), (1, aI x1), (2, aI x2)] [] (abH 71 119 g h) 0 0) : ∀ {x1 : Int} {x2 : Int} {h : HH} {b : HH}, nX12_joinsAll_421 c2 x1 x2 h = some b → WK 214 (.inl none) σ0 (abH 71 119 g b) 421 [(0, aR 71), (1, aI x1), (2, aI x2)] [] (abH 71 119 g h) 0 0 := by
  intro x1 x2 h b q
  exact uX12_joinsAll_421 hg k2 q
def bX12_joinsAll_420 (c421 : Int → Int → HH → Option HH) (x1 : Int) (x2 : Int) (y0 : Int) (y1 : Int) (h : HH) : Option HH :=
  gd ((0 : Int) ≤ y1 ∧ y1 < (9 : Int)) <|
    bnd (some (hI h 111 y1 y0)) fun h1 =>
    c421 x1 x2 h1
theorem uX12_joinsAll_420 {g : SG} (hg : GOK g) {σ0 : SG} {c421 : Int → Int → HH → Option HH} (k421 : ∀ (x1 : Int) (x2 : Int) (h : HH) (b : HH), c421 x1 x2 h = some b → WK 214 (.inl none) σ0 (abH 71 119 g b) 421 [(0, aR 71), (1, aI x1), (2, aI x2)] [] (abH 71 119 g h) 0 0) : ∀ {x1 : Int} {x2 : Int} {y0 : Int} {y1 : Int} {h : HH} {b : HH}, bX12_joinsAll_420 c421 x1 x2 y0 y1 h = some b → WK 214 (.inl none) σ0 (abH 71 119 g b) 420 [(0, aR 71), (1, aI x1), (2, aI x2)] [aI y0, aI y1, aR 111] (abH 71 119 g h) 0 0 := by
  intro x1 x2 y0 y1 h b q
  have e : bX12_joinsAll_420 c421 x1 x2 y0 y1 h = segW 71 119 g.2.2.2.2 krWV clN csX12_joinsAll (cuC 421 (fun l st s => tkC 0 71 l <| tkI 1 l fun x1 => tkI 2 l fun x2 => skE st (c421 x1 x2 s)) cuN) 1000 420 [(0, aR 71), (1, aI x1), (2, aI x2)] [aI y0, aI y1, aR 111] h := rfl
  rw [e] at q
  clear e
  refine segW_wk (by decide) (by decide) hg rwX12_joinsAll CLKW_N krWV_ok ?_ q
  clear q
  refine ct_C ?_ (ct_N)
  · intro l st h q
    obtain ⟨m0, q1⟩ := tkC_of q
    obtain ⟨x1, m1, q2⟩ := tkI_of q1
    obtain ⟨x2, m2, q3⟩ := tkI_of q2
    obtain ⟨rfl, q4⟩ := skE_of q3
    exact WK_less (k421 _ _ _ _ q4) (List.forall_mem_cons.mpr ⟨m0, (List.forall_mem_cons.mpr ⟨m1, (List.forall_mem_cons.mpr ⟨m2, (fun _ h => absurd h List.not_mem_nil)⟩)⟩)⟩)
def nX12_joinsAll_420 (c2 : Int → Int → HH → Option HH) (x1 : Int) (x2 : Int) (y0 : Int) (y1 : Int) (h : HH) : Option HH := bX12_joinsAll_420 (nX12_joinsAll_421 c2) x1 x2 y0 y1 h
theorem wX12_joinsAll_420 {g : SG} (hg : GOK g) {σ0 : SG} {c2 : Int → Int → HH → Option HH} (k2 : ∀ (x1 : Int) (x2 : Int) (h : HH) (b : HH), c2 x1 x2 h = some b → WK 214 (.inl none) σ0 (abH 71 119 g b) 2 [(0, aR 71), (1, aI x1), (2, aI x2)] [] (abH 71 119 g h) 0 0) : ∀ {x1 : Int} {x2 : Int} {y0 : Int} {y1 : Int} {h : HH} {b : HH}, nX12_joinsAll_420 c2 x1 x2 y0 y1 h = some b → WK 214 (.inl none) σ0 (abH 71 119 g b) 420 [(0, aR 71), (1, aI x1), (2, aI x2)] [aI y0, aI y1, aR 111] (abH 71 119 g h) 0 0 := by
  intro x1 x2 y0 y1 h b q
  exact uX12_joinsAll_420 hg (fun _ _ _ _ q => wX12_joinsAll_421 hg k2 q) q
def bX12_joinsAll_338 (c338 : Int → Int → Int → Int → HH → Option HH) (c420 : Int → Int → Int → Int → HH → Option HH) (x1 : Int) (x2 : Int) (x4 : Int) (x6 : Int) (h : HH) : Option HH :=
  gd ((0 : Int) ≤ (h.1 71 62) ∧ (h.1 71 62) < (9 : Int)) <|
    if x6 < ((h.1 111 (h.1 71 62)) : Int) then
    gd (R32 (9 * x4)) <|
    gd (R32 ((9 * x4) + x6)) <|
    gd (R32 (9 * (h.1 71 62))) <|
    gd (R32 ((9 * (h.1 71 62)) + x6)) <|
    gd ((0 : Int) ≤ ((9 * (h.1 71 62)) + x6) ∧ ((9 * (h.1 71 62)) + x6) < (81 : Int)) <|
    gd ((0 : Int) ≤ ((9 * x4) + x6) ∧ ((9 * x4) + x6) < (81 : Int)) <|
    bnd (some (hI h 110 ((9 * x4) + x6) (h.1 110 ((9 * (h.1 71 62)) + x6)))) fun h1 =>
    gd (R32 (x6 + 1)) <|
    c338 x1 x2 x4 (x6 + 1) h1
  else
    if x4 = ((h.1 71 62) : Int) then
    gd ((0 : Int) ≤ x4 ∧ x4 < (9 : Int)) <|
    c420 x1 x2 (h.1 111 x4) x4 h
  else
    gd ((0 : Int) ≤ (h.1 71 62) ∧ (h.1 71 62) < (9 : Int)) <|
    c420 x1 x2 (h.1 111 (h.1 71 62)) x4 h
set_option maxRecDepth 100000 in
theorem uX12_joinsAll_338 {g : SG} (hg : GOK g) {σ0 : SG} {c338 : Int → Int → Int → Int → HH → Option HH} {c420 : Int → Int → Int → Int → HH → Option HH} (k338 : ∀ (x1 : Int) (x2 : Int) (x4 : Int) (x6 : Int) (h : HH) (b : HH), c338 x1 x2 x4 x6 h = some b → WK 214 (.inl none) σ0 (abH 71 119 g b) 338 [(0, aR 71), (1, aI x1), (2, aI x2), (4, aI x4), (6, aI x6)] [] (abH 71 119 g h) 0 0) (k420 : ∀ (x1 : Int) (x2 : Int) (y0 : Int) (y1 : Int) (h : HH) (b : HH), c420 x1 x2 y0 y1 h = some b → WK 214 (.inl none) σ0 (abH 71 119 g b) 420 [(0, aR 71), (1, aI x1), (2, aI x2)] [aI y0, aI y1, aR 111] (abH 71 119 g h) 0 0) : ∀ {x1 : Int} {x2 : Int} {x4 : Int} {x6 : Int} {h : HH} {b : HH}, bX12_joinsAll_338 c338 c420 x1 x2 x4 x6 h = some b → WK 214 (.inl none) σ0 (abH 71 119 g b) 338 [(0, aR 71), (1, aI x1), (2, aI x2), (4, aI x4), (6, aI x6)] [] (abH 71 119 g h) 0 0 := by
  intro x1 x2 x4 x6 h b q
  have e : bX12_joinsAll_338 c338 c420 x1 x2 x4 x6 h = segW 71 119 g.2.2.2.2 krWV clN csX12_joinsAll (cuC 338 (fun l st s => tkC 0 71 l <| tkI 1 l fun x1 => tkI 2 l fun x2 => tkI 4 l fun x4 => tkI 6 l fun x6 => skE st (c338 x1 x2 x4 x6 s)) (cuC 420 (fun l st s => tkC 0 71 l <| tkI 1 l fun x1 => tkI 2 l fun x2 => skI st fun y0 st => skI st fun y1 st => skC 111 st fun st => skE st (c420 x1 x2 y0 y1 s)) cuN)) 1000 338 [(0, aR 71), (1, aI x1), (2, aI x2), (4, aI x4), (6, aI x6)] [] h := rfl
  rw [e] at q
  clear e
  refine segW_wk (by decide) (by decide) hg rwX12_joinsAll CLKW_N krWV_ok ?_ q
  clear q
  refine ct_C ?_ (ct_C ?_ (ct_N))
  · intro l st h q
    obtain ⟨m0, q1⟩ := tkC_of q
    obtain ⟨x1, m1, q2⟩ := tkI_of q1
    obtain ⟨x2, m2, q3⟩ := tkI_of q2
    obtain ⟨x4, m4, q4⟩ := tkI_of q3
    obtain ⟨x6, m6, q5⟩ := tkI_of q4
    obtain ⟨rfl, q6⟩ := skE_of q5
    exact WK_less (k338 _ _ _ _ _ _ q6) (List.forall_mem_cons.mpr ⟨m0, (List.forall_mem_cons.mpr ⟨m1, (List.forall_mem_cons.mpr ⟨m2, (List.forall_mem_cons.mpr ⟨m4, (List.forall_mem_cons.mpr ⟨m6, (fun _ h => absurd h List.not_mem_nil)⟩)⟩)⟩)⟩)⟩)
  · intro l st h q
    obtain ⟨m0, q1⟩ := tkC_of q
    obtain ⟨x1, m1, q2⟩ := tkI_of q1
    obtain ⟨x2, m2, q3⟩ := tkI_of q2
    obtain ⟨y0, t0, rfl, q4⟩ := skI_of q3
    obtain ⟨y1, t1, rfl, q5⟩ := skI_of q4
    obtain ⟨t2, rfl, q6⟩ := skC_of q5
    obtain ⟨rfl, q7⟩ := skE_of q6
    exact WK_less (k420 _ _ _ _ _ _ q7) (List.forall_mem_cons.mpr ⟨m0, (List.forall_mem_cons.mpr ⟨m1, (List.forall_mem_cons.mpr ⟨m2, (fun _ h => absurd h List.not_mem_nil)⟩)⟩)⟩)
def nX12_joinsAll_338 (c2 : Int → Int → HH → Option HH) : Nat → Int → Int → Int → Int → HH → Option HH := iter (fun _ _ _ _ _ => none) (fun self => bX12_joinsAll_338 self (nX12_joinsAll_420 c2))
theorem nX12_joinsAll_338_s {c2 : Int → Int → HH → Option HH} {F : Nat} : nX12_joinsAll_338 c2 (F + 1) = bX12_joinsAll_338 (nX12_joinsAll_338 c2 F) (nX12_joinsAll_420 c2) := rfl
theorem wX12_joinsAll_338 {g : SG} (hg : GOK g) {σ0 : SG} {c2 : Int → Int → HH → Option HH} (k2 : ∀ (x1 : Int) (x2 : Int) (h : HH) (b : HH), c2 x1 x2 h = some b → WK 214 (.inl none) σ0 (abH 71 119 g b) 2 [(0, aR 71), (1, aI x1), (2, aI x2)] [] (abH 71 119 g h) 0 0) : ∀ {F : Nat}, ∀ {x1 : Int} {x2 : Int} {x4 : Int} {x6 : Int} {h : HH} {b : HH}, nX12_joinsAll_338 c2 F x1 x2 x4 x6 h = some b → WK 214 (.inl none) σ0 (abH 71 119 g b) 338 [(0, aR 71), (1, aI x1), (2, aI x2), (4, aI x4), (6, aI x6)] [] (abH 71 119 g h) 0 0 := by
  intro F
  have z : ∀ (x1 : Int) (x2 : Int) (x4 : Int) (x6 : Int) (h : HH) (b : HH), nX12_joinsAll_338 c2 F x1 x2 x4 x6 h = some b → WK 214 (.inl none) σ0 (abH 71 119 g b) 338 [(0, aR 71), (1, aI x1), (2, aI x2), (4, aI x4), (6, aI x6)] [] (abH 71 119 g h) 0 0 := iter_ind (P := fun (c : Int → Int → Int → Int → HH → Option HH) => ∀ (x1 : Int) (x2 : Int) (x4 : Int) (x6 : Int) (h : HH) (b : HH), c x1 x2 x4 x6 h = some b → WK 214 (.inl none) σ0 (abH 71 119 g b) 338 [(0, aR 71), (1, aI x1), (2, aI x2), (4, aI x4), (6, aI x6)] [] (abH 71 119 g h) 0 0) (by
    intro x1 x2 x4 x6 h b q
    cases q) (fun self ih => by
    intro x1 x2 x4 x6 h b q
    exact uX12_joinsAll_338 hg ih (fun _ _ _ _ _ _ q => wX12_joinsAll_420 hg k2 q) q) F
  intro x1 x2 x4 x6 h b q
  exact z _ _ _ _ _ _ q
def bX12_joinsAll_281 (c281 : Int → Int → Int → Int → Int → HH → Option HH) (c338 : Int → Int → Int → Int → HH → Option HH) (x1 : Int) (x2 : Int) (x3 : Int) (x4 : Int) (x6 : Int) (h : HH) : Option HH :=
  if x6 < ((h.1 71 51) : Int) then
    gd (R32 (9 * x3)) <|
    gd (R32 ((9 * x3) + x6)) <|
    gd ((0 : Int) ≤ x6 ∧ x6 < (10 : Int)) <|
    gd ((0 : Int) ≤ ((9 * x3) + x6) ∧ ((9 * x3) + x6) < (81 : Int)) <|
    bnd (some (hI h 110 ((9 * x3) + x6) (h.1 105 x6))) fun h3 =>
    gd (R32 (x6 + 1)) <|
    c281 x1 x2 x3 x4 (x6 + 1) h3
  else
    gd ((0 : Int) ≤ x3 ∧ x3 < (9 : Int)) <|
    bnd (some (hI h 111 x3 (h.1 71 51))) fun h1 =>
    gd (R32 ((h1.1 71 62) - 1)) <|
    bnd (some (hI h1 71 62 ((h1.1 71 62) - 1))) fun h2 =>
    c338 x1 x2 x4 0 h2
set_option maxRecDepth 100000 in
theorem uX12_joinsAll_281 {g : SG} (hg : GOK g) {σ0 : SG} {c281 : Int → Int → Int → Int → Int → HH → Option HH} {c338 : Int → Int → Int → Int → HH → Option HH} (k281 : ∀ (x1 : Int) (x2 : Int) (x3 : Int) (x4 : Int) (x6 : Int) (h : HH) (b : HH), c281 x1 x2 x3 x4 x6 h = some b → WK 214 (.inl none) σ0 (abH 71 119 g b) 281 [(0, aR 71), (1, aI x1), (2, aI x2), (3, aI x3), (4, aI x4), (6, aI x6)] [] (abH 71 119 g h) 0 0) (k338 : ∀ (x1 : Int) (x2 : Int) (x4 : Int) (x6 : Int) (h : HH) (b : HH), c338 x1 x2 x4 x6 h = some b → WK 214 (.inl none) σ0 (abH 71 119 g b) 338 [(0, aR 71), (1, aI x1), (2, aI x2), (4, aI x4), (6, aI x6)] [] (abH 71 119 g h) 0 0) : ∀ {x1 : Int} {x2 : Int} {x3 : Int} {x4 : Int} {x6 : Int} {h : HH} {b : HH}, bX12_joinsAll_281 c281 c338 x1 x2 x3 x4 x6 h = some b → WK 214 (.inl none) σ0 (abH 71 119 g b) 281 [(0, aR 71), (1, aI x1), (2, aI x2), (3, aI x3), (4, aI x4), (6, aI x6)] [] (abH 71 119 g h) 0 0 := by
  intro x1 x2 x3 x4 x6 h b q
  have e : bX12_joinsAll_281 c281 c338 x1 x2 x3 x4 x6 h = segW 71 119 g.2.2.2.2 krWV clN csX12_joinsAll (cuC 281 (fun l st s => tkC 0 71 l <| tkI 1 l fun x1 => tkI 2 l fun x2 => tkI 3 l fun x3 => tkI 4 l fun x4 => tkI 6 l fun x6 => skE st (c281 x1 x2 x3 x4 x6 s)) (cuC 338 (fun l st s => tkC 0 71 l <| tkI 1 l fun x1 => tkI 2 l fun x2 => tkI 4 l fun x4 => tkI 6 l fun x6 => skE st (c338 x1 x2 x4 x6 s)) cuN)) 1000 281 [(0, aR 71), (1, aI x1), (2, aI x2), (3, aI x3), (4, aI x4), (6, aI x6)] [] h := rfl
  rw [e] at q
  clear e
  refine segW_wk (by decide) (by decide) hg rwX12_joinsAll CLKW_N krWV_ok ?_ q
  clear q
  refine ct_C ?_ (ct_C ?_ (ct_N))
  · intro l st h q
    obtain ⟨m0, q1⟩ := tkC_of q
    obtain ⟨x1, m1, q2⟩ := tkI_of q1
    obtain ⟨x2, m2, q3⟩ := tkI_of q2
    obtain ⟨x3, m3, q4⟩ := tkI_of q3
    obtain ⟨x4, m4, q5⟩ := tkI_of q4
    obtain ⟨x6, m6, q6⟩ := tkI_of q5
    obtain ⟨rfl, q7⟩ := skE_of q6
    exact WK_less (k281 _ _ _ _ _ _ _ q7) (List.forall_mem_cons.mpr ⟨m0, (List.forall_mem_cons.mpr ⟨m1, (List.forall_mem_cons.mpr ⟨m2, (List.forall_mem_cons.mpr ⟨m3, (List.forall_mem_cons.mpr ⟨m4, (List.forall_mem_cons.mpr ⟨m6, (fun _ h => absurd h List.not_mem_nil)⟩)⟩)⟩)⟩)⟩)⟩)
  · intro l st h q
    obtain ⟨m0, q1⟩ := tkC_of q
    obtain ⟨x1, m1, q2⟩ := tkI_of q1
    obtain ⟨x2, m2, q3⟩ := tkI_of q2
    obtain ⟨x4, m4, q4⟩ := tkI_of q3
    obtain ⟨x6, m6, q5⟩ := tkI_of q4
    obtain ⟨rfl, q6⟩ := skE_of q5
    exact WK_less (k338 _ _ _ _ _ _ q6) (List.forall_mem_cons.mpr ⟨m0, (List.forall_mem_cons.mpr ⟨m1, (List.forall_mem_cons.mpr ⟨m2, (List.forall_mem_cons.mpr ⟨m4, (List.forall_mem_cons.mpr ⟨m6, (fun _ h => absurd h List.not_mem_nil)⟩)⟩)⟩)⟩)⟩)
def nX12_joinsAll_281 (c2 : Int → Int → HH → Option HH) : Nat → Int → Int → Int → Int → Int → HH → Option HH := iter (fun _ _ _ _ _ _ => none) (fun self => bX12_joinsAll_281 self (nX12_joinsAll_338 c2 100000))
theorem nX12_joinsAll_281_s {c2 : Int → Int → HH → Option HH} {F : Nat} : nX12_joinsAll_281 c2 (F + 1) = bX12_joinsAll_281 (nX12_joinsAll_281 c2 F) (nX12_joinsAll_338 c2 100000) := rfl
theorem wX12_joinsAll_281 {g : SG} (hg : GOK g) {σ0 : SG} {c2 : Int → Int → HH → Option HH} (k2 : ∀ (x1 : Int) (x2 : Int) (h : HH) (b : HH), c2 x1 x2 h = some b → WK 214 (.inl none) σ0 (abH 71 119 g b) 2 [(0, aR 71), (1, aI x1), (2, aI x2)] [] (abH 71 119 g h) 0 0) : ∀ {F : Nat}, ∀ {x1 : Int} {x2 : Int} {x3 : Int} {x4 : Int} {x6 : Int} {h : HH} {b : HH}, nX12_joinsAll_281 c2 F x1 x2 x3 x4 x6 h = some b → WK 214 (.inl none) σ0 (abH 71 119 g b) 281 [(0, aR 71), (1, aI x1), (2, aI x2), (3, aI x3), (4, aI x4), (6, aI x6)] [] (abH 71 119 g h) 0 0 := by
  intro F
  have z : ∀ (x1 : Int) (x2 : Int) (x3 : Int) (x4 : Int) (x6 : Int) (h : HH) (b : HH), nX12_joinsAll_281 c2 F x1 x2 x3 x4 x6 h = some b → WK 214 (.inl none) σ0 (abH 71 119 g b) 281 [(0, aR 71), (1, aI x1), (2, aI x2), (3, aI x3), (4, aI x4), (6, aI x6)] [] (abH 71 119 g h) 0 0 := iter_ind (P := fun (c : Int → Int → Int → Int → Int → HH → Option HH) => ∀ (x1 : Int) (x2 : Int) (x3 : Int) (x4 : Int) (x6 : Int) (h : HH) (b : HH), c x1 x2 x3 x4 x6 h = some b → WK 214 (.inl none) σ0 (abH 71 119 g b) 281 [(0, aR 71), (1, aI x1), (2, aI x2), (3, aI x3), (4, aI x4), (6, aI x6)] [] (abH 71 119 g h) 0 0) (by
    intro x1 x2 x3 x4 x6 h b q
    cases q) (fun self ih => by
    intro x1 x2 x3 x4 x6 h b q
    exact uX12_joinsAll_281 hg ih (fun _ _ _ _ _ _ q => wX12_joinsAll_338 hg k2 q) q) F
  intro x1 x2 x3 x4 x6 h b q
  exact z _ _ _ _ _ _ _ q
def bX12_joinsAll_266 (f211 : Int → Int → HH → Option HH) (c281 : Int → Int → Int → Int → Int → HH → Option HH) (c421 : Int → Int → HH → Option HH) (x1 : Int) (x3 : Int) (x4 : Int) (y0 : Int) (h : HH) : Option HH :=
  if y0 = (0 : Int) then
    c421 x1 y0 h
  else
    bnd (f211 x3 x4 h) fun r1 =>
    c281 x1 y0 x3 x4 0 r1
theorem uX12_joinsAll_266 {g : SG} (hg : GOK g) {σ0 : SG} {c281 : Int → Int → Int → Int → Int → HH → Option HH} {c421 : Int → Int → HH → Option HH} (k281 : ∀ (x1 : Int) (x2 : Int) (x3 : Int) (x4 : Int) (x6 : Int) (h : HH) (b : HH), c281 x1 x2 x3 x4 x6 h = some b → WK 214 (.inl none) σ0 (abH 71 119 g b) 281 [(0, aR 71), (1, aI x1), (2, aI x2), (3, aI x3), (4, aI x4), (6, aI x6)] [] (abH 71 119 g h) 0 0) (k421 : ∀ (x1 : Int) (x2 : Int) (h : HH) (b : HH), c421 x1 x2 h = some b → WK 214 (.inl none) σ0 (abH 71 119 g b) 421 [(0, aR 71), (1, aI x1), (2, aI x2)] [] (abH 71 119 g h) 0 0) : ∀ {x1 : Int} {x3 : Int} {x4 : Int} {y0 : Int} {h : HH} {b : HH}, bX12_joinsAll_266 nX12_joinsPieces c281 c421 x1 x3 x4 y0 h = some b → WK 214 (.inl none) σ0 (abH 71 119 g b) 266 [(0, aR 71), (1, aI x1), (3, aI x3), (4, aI x4)] [aI y0] (abH 71 119 g h) 0 0 := by
  intro x1 x3 x4 y0 h b q
  have e : ∀ (f211 : Int → Int → HH → Option HH) , bX12_joinsAll_266 f211 c281 c421 x1 x3 x4 y0 h = segW 71 119 g.2.2.2.2 krWV (clC 211 (pX12_joinsPieces f211) clN) csX12_joinsAll (cuC 281 (fun l st s => tkC 0 71 l <| tkI 1 l fun x1 => tkI 2 l fun x2 => tkI 3 l fun x3 => tkI 4 l fun x4 => tkI 6 l fun x6 => skE st (c281 x1 x2 x3 x4 x6 s)) (cuC 421 (fun l st s => tkC 0 71 l <| tkI 1 l fun x1 => tkI 2 l fun x2 => skE st (c421 x1 x2 s)) cuN)) 1000 266 [(0, aR 71), (1, aI x1), (3, aI x3), (4, aI x4)] [aI y0] h := fun _ => rfl
  rw [e nX12_joinsPieces] at q
  clear e
  refine segW_wk (by decide) (by decide) hg rwX12_joinsAll (CLKW_C (pX12_joinsPieces_ok hg) CLKW_N) krWV_ok ?_ q
  clear q
  refine ct_C ?_ (ct_C ?_ (ct_N))
  · intro l st h q
    obtain ⟨m0, q1⟩ := tkC_of q
    obtain ⟨x1, m1, q2⟩ := tkI_of q1
    obtain ⟨x2, m2, q3⟩ := tkI_of q2
    obtain ⟨x3, m3, q4⟩ := tkI_of q3
    obtain ⟨x4, m4, q5⟩ := tkI_of q4
    obtain ⟨x6, m6, q6⟩ := tkI_of q5
    obtain ⟨rfl, q7⟩ := skE_of q6
    exact WK_less (k281 _ _ _ _ _ _ _ q7) (List.forall_mem_cons.mpr ⟨m0, (List.forall_mem_cons.mpr ⟨m1, (List.forall_mem_cons.mpr ⟨m2, (List.forall_mem_cons.mpr ⟨m3, (List.forall_mem_cons.mpr ⟨m4, (List.forall_mem_cons.mpr ⟨m6, (fun _ h => absurd h List.not_mem_nil)⟩)⟩)⟩)⟩)⟩)⟩)
  · intro l st h q
    obtain ⟨m0, q1⟩ := tkC_of q
    obtain ⟨x1, m1, q2⟩ := tkI_of q1
    obtain ⟨x2, m2, q3⟩ := tkI_of q2
    obtain ⟨rfl, q4⟩ := skE_of q3
    exact WK_less (k421 _ _ _ _ q4) (List.forall_mem_cons.mpr ⟨m0, (List.forall_mem_cons.mpr ⟨m1, (List.forall_mem_cons.mpr ⟨m2, (fun _ h => absurd h List.not_mem_nil)⟩)⟩)⟩)
def nX12_joinsAll_266 (c2 : Int → Int → HH → Option HH) (x1 : Int) (x3 : Int) (x4 : Int) (y0 : Int) (h : HH) : Option HH := bX12_joinsAll_266 nX12_joinsPieces (nX12_joinsAll_281 c2 100000) (nX12_joinsAll_421 c2) x1 x3 x4 y0 h
theorem wX12_joinsAll_266 {g : SG} (hg : GOK g) {σ0 : SG} {c2 : Int → Int → HH → Option HH} (k2 : ∀ (x1 : Int) (x2 : Int) (h : HH) (b : HH), c2 x1 x2 h = some b → WK 214 (.inl none) σ0 (abH 71 119 g b) 2 [(0, aR 71), (1, aI x1), (2, aI x2)] [] (abH 71 119 g h) 0 0) : ∀ {x1 : Int} {x3 : Int} {x4 : Int} {y0 : Int} {h : HH} {b : HH}, nX12_joinsAll_266 c2 x1 x3 x4 y0 h = some b → WK 214 (.inl none) σ0 (abH 71 119 g b) 266 [(0, aR 71), (1, aI x1), (3, aI x3), (4, aI x4)] [aI y0] (abH 71 119 g h) 0 0 := by
  intro x1 x3 x4 y0 h b q
  exact uX12_joinsAll_266 hg (fun _ _ _ _ _ _ _ q => wX12_joinsAll_281 hg k2 q) (fun _ _ _ _ q => wX12_joinsAll_421 hg k2 q) q
def bX12_joinsAll_250 (c17 : Int → Int → Int → Int → Int → HH → Option HH) (x1 : Int) (x3 : Int) (x4 : Int) (x5 : Int) (x6 : Int) (h : HH) : Option HH :=
  gd (R32 (x6 + 1)) <|
    c17 x1 x3 x4 x5 (x6 + 1) h
theorem uX12_joinsAll_250 {g : SG} (hg : GOK g) {σ0 : SG} {c17 : Int → Int → Int → Int → Int → HH → Option HH} (k17 : ∀ (x1 : Int) (x3 : Int) (x4 : Int) (x5 : Int) (x6 : Int) (h : HH) (b : HH), c17 x1 x3 x4 x5 x6 h = some b → WK 214 (.inl none) σ0 (abH 71 119 g b) 17 [(0, aR 71), (1, aI x1), (3, aI x3), (4, aI x4), (5, aI x5), (6, aI x6)] [] (abH 71 119 g h) 0 0) : ∀ {x1 : Int} {x3 : Int} {x4 : Int} {x5 : Int} {x6 : Int} {h : HH} {b : HH}, bX12_joinsAll_250 c17 x1 x3 x4 x5 x6 h = some b → WK 214 (.inl none) σ0 (abH 71 119 g b) 250 [(0, aR 71), (1, aI x1), (3, aI x3), (4, aI x4), (5, aI x5), (6, aI x6)] [] (abH 71 119 g h) 0 0 := by
  intro x1 x3 x4 x5 x6 h b q
  have e : bX12_joinsAll_250 c17 x1 x3 x4 x5 x6 h = segW 71 119 g.2.2.2.2 krWV clN csX12_joinsAll (cuC 17 (fun l st s => tkC 0 71 l <| tkI 1 l fun x1 => tkI 3 l fun x3 => tkI 4 l fun x4 => tkI 5 l fun x5 => tkI 6 l fun x6 => skE st (c17 x1 x3 x4 x5 x6 s)) cuN) 1000 250 [(0, aR 71), (1, aI x1), (3, aI x3), (4, aI x4), (5, aI x5), (6, aI x6)] [] h := rfl
  rw [e] at q
  clear e
  refine segW_wk (by decide) (by decide) hg rwX12_joinsAll CLKW_N krWV_ok ?_ q
  clear q
  refine ct_C ?_ (ct_N)
  · intro l st h q
    obtain ⟨m0, q1⟩ := tkC_of q
    obtain ⟨x1, m1, q2⟩ := tkI_of q1
    obtain ⟨x3, m3, q3⟩ := tkI_of q2
    obtain ⟨x4, m4, q4⟩ := tkI_of q3
    obtain ⟨x5, m5, q5⟩ := tkI_of q4
    obtain ⟨x6, m6, q6⟩ := tkI_of q5
    obtain ⟨rfl, q7⟩ := skE_of q6
    exact WK_less (k17 _ _ _ _ _ _ _ q7) (List.forall_mem_cons.mpr ⟨m0, (List.forall_mem_cons.mpr ⟨m1, (List.forall_mem_cons.mpr ⟨m3, (List.forall_mem_cons.mpr ⟨m4, (List.forall_mem_cons.mpr ⟨m5, (List.forall_mem_cons.mpr ⟨m6, (fun _ h => absurd h List.not_mem_nil)⟩)⟩)⟩)⟩)⟩)⟩)
def nX12_joinsAll_250 (c2 : Int → Int → HH → Option HH) (c17 : Int → Int → Int → Int → Int → HH → Option HH) (x1 : Int) (x3 : Int) (x4 : Int) (x5 : Int) (x6 : Int) (h : HH) : Option HH := bX12_joinsAll_250 c17 x1 x3 x4 x5 x6 h
theorem wX12_joinsAll_250 {g : SG} (hg : GOK g) {σ0 : SG} {c2 : Int → Int → HH → Option HH} {c17 : Int → Int → Int → Int → Int → HH → Option HH} (k2 : ∀ (x1 : Int) (x2 : Int) (h : HH) (b : HH), c2 x1 x2 h = some b → WK 214 (.inl none) σ0 (abH 71 119 g b) 2 [(0, aR 71), (1, aI x1), (2, aI x2)] [] (abH 71 119 g h) 0 0) (k17 : ∀ (x1 : Int) (x3 : Int) (x4 : Int) (x5 : Int) (x6 : Int) (h : HH) (b : HH), c17 x1 x3 x4 x5 x6 h = some b → WK 214 (.inl none) σ0 (abH 71 119 g b) 17 [(0, aR 71), (1, aI x1), (3, aI x3), (4, aI x4), (5, aI x5), (6, aI x6)] [] (abH 71 119 g h) 0 0) : ∀ {x1 : Int} {x3 : Int} {x4 : Int} {x5 : Int} {x6 : Int} {h : HH} {b : HH}, nX12_joinsAll_250 c2 c17 x1 x3 x4 x5 x6 h = some b → WK 214 (.inl none) σ0 (abH 71 119 g b) 250 [(0, aR 71), (1, aI x1), (3, aI x3), (4, aI x4), (5, aI x5), (6, aI x6)] [] (abH 71 119 g h) 0 0 := by
  intro x1 x3 x4 x5 x6 h b q
  exact uX12_joinsAll_250 hg k17 q
def bX12_joinsAll_248 (c250 : Int → Int → Int → Int → Int → HH → Option HH) (x1 : Int) (x3 : Int) (x4 : Int) (x6 : Int) (y0 : Int) (h : HH) : Option HH :=
  c250 x1 x3 x4 y0 x6 h
theorem uX12_joinsAll_248 {g : SG} (hg : GOK g) {σ0 : SG} {c250 : Int → Int → Int → Int → Int → HH → Option HH} (k250 : ∀ (x1 : Int) (x3 : Int) (x4 : Int) (x5 : Int) (x6 : Int) (h : HH) (b : HH), c250 x1 x3 x4 x5 x6 h = some b → WK 214 (.inl none) σ0 (abH 71 119 g b) 250 [(0, aR 71), (1, aI x1), (3, aI x3), (4, aI x4), (5, aI x5), (6, aI x6)] [] (abH 71 119 g h) 0 0) : ∀ {x1 : Int} {x3 : Int} {x4 : Int} {x6 : Int} {y0 : Int} {h : HH} {b : HH}, bX12_joinsAll_248 c250 x1 x3 x4 x6 y0 h = some b → WK 214 (.inl none) σ0 (abH 71 119 g b) 248 [(0, aR 71), (1, aI x1), (3, aI x3), (4, aI x4), (6, aI x6)] [aI y0] (abH 71 119 g h) 0 0 := by
  intro x1 x3 x4 x6 y0 h b q
  have e : bX12_joinsAll_248 c250 x1 x3 x4 x6 y0 h = segW 71 119 g.2.2.2.2 krWV clN csX12_joinsAll (cuC 250 (fun l st s => tkC 0 71 l <| tkI 1 l fun x1 => tkI 3 l fun x3 => tkI 4 l fun x4 => tkI 5 l fun x5 => tkI 6 l fun x6 => skE st (c250 x1 x3 x4 x5 x6 s)) cuN) 1000 248 [(0, aR 71), (1, aI x1), (3, aI x3), (4, aI x4), (6, aI x6)] [aI y0] h := rfl
  rw [e] at q
  clear e
  refine segW_wk (by decide) (by decide) hg rwX12_joinsAll CLKW_N krWV_ok ?_ q
  clear q
  refine ct_C ?_ (ct_N)
  · intro l st h q
    obtain ⟨m0, q1⟩ := tkC_of q
    obtain ⟨x1, m1, q2⟩ := tkI_of q1
    obtain ⟨x3, m3, q3⟩ := tkI_of q2
    obtain ⟨x4, m4, q4⟩ := tkI_of q3
    obtain ⟨x5, m5, q5⟩ := tkI_of q4
    obtain ⟨x6, m6, q6⟩ := tkI_of q5
    obtain ⟨rfl, q7⟩ := skE_of q6
    exact WK_less (k250 _ _ _ _ _ _ _ q7) (List.forall_mem_cons.mpr ⟨m0, (List.forall_mem_cons.mpr ⟨m1, (List.forall_mem_cons.mpr ⟨m3, (List.forall_mem_cons.mpr ⟨m4, (List.forall_mem_cons.mpr ⟨m5, (List.forall_mem_cons.mpr ⟨m6, (fun _ h => absurd h List.not_mem_nil)⟩)⟩)⟩)⟩)⟩)⟩)
def nX12_joinsAll_248 (c2 : Int → Int → HH → Option HH) (c17 : Int → Int → Int → Int → Int → HH → Option HH) (x1 : Int) (x3 : Int) (x4 : Int) (x6 : Int) (y0 : Int) (h : HH) : Option HH := bX12_joinsAll_248 (nX12_joinsAll_250 c2 c17) x1 x3 x4 x6 y0 h
theorem wX12_joinsAll_248 {g : SG} (hg : GOK g) {σ0 : SG} {c2 : Int → Int → HH → Option HH} {c17 : Int → Int → Int → Int → Int → HH → Option HH} (k2 : ∀ (x1 : Int) (x2 : Int) (h : HH) (b : HH), c2 x1 x2 h = some b → WK 214 (.inl none) σ0 (abH 71 119 g b) 2 [(0, aR 71), (1, aI x1), (2, aI x2)] [] (abH 71 119 g h) 0 0) (k17 : ∀ (x1 : Int) (x3 : Int) (x4 : Int) (x5 : Int) (x6 : Int) (h : HH) (b : HH), c17 x1 x3 x4 x5 x6 h = some b → WK 214 (.inl none) σ0 (abH 71 119 g b) 17 [(0, aR 71), (1, aI x1), (3, aI x3), (4, aI x4), (5, aI x5), (6, aI x6)] [] (abH 71 119 g h) 0 0) : ∀ {x1 : Int} {x3 : Int} {x4 : Int} {x6 : Int} {y0 : Int} {h : HH} {b : HH}, nX12_joinsAll_248 c2 c17 x1 x3 x4 x6 y0 h = some b → WK 214 (.inl none) σ0 (abH 71 119 g b) 248 [(0, aR 71), (1, aI x1), (3, aI x3), (4, aI x4), (6, aI x6)] [aI y0] (abH 71 119 g h) 0 0 := by
  intro x1 x3 x4 x6 y0 h b q
  exact uX12_joinsAll_248 hg (fun _ _ _ _ _ _ _ q => wX12_joinsAll_250 hg k2 k17 q) q
def bX12_joinsAll_234 (c248 : Int → Int → Int → Int → Int → HH → Option HH) (x1 : Int) (x3 : Int) (x5 : Int) (x6 : Int) (x11 : Int) (x12 : Int) (y0 : Int) (h : HH) : Option HH :=
  if x12 = (0 : Int) then
    c248 x1 x3 y0 x6 x5 h
  else
    c248 x1 x3 y0 x6 x11 h
theorem uX12_joinsAll_234 {g : SG} (hg : GOK g) {σ0 : SG} {c248 : Int → Int → Int → Int → Int → HH → Option HH} (k248 : ∀ (x1 : Int) (x3 : Int) (x4 : Int) (x6 : Int) (y0 : Int) (h : HH) (b : HH), c248 x1 x3 x4 x6 y0 h = some b → WK 214 (.inl none) σ0 (abH 71 119 g b) 248 [(0, aR 71), (1, aI x1), (3, aI x3), (4, aI x4), (6, aI x6)] [aI y0] (abH 71 119 g h) 0 0) : ∀ {x1 : Int} {x3 : Int} {x5 : Int} {x6 : Int} {x11 : Int} {x12 : Int} {y0 : Int} {h : HH} {b : HH}, bX12_joinsAll_234 c248 x1 x3 x5 x6 x11 x12 y0 h = some b → WK 214 (.inl none) σ0 (abH 71 119 g b) 234 [(0, aR 71), (1, aI x1), (3, aI x3), (5, aI x5), (6, aI x6), (11, aI x11), (12, aI x12)] [aI y0] (abH 71 119 g h) 0 0 := by
  intro x1 x3 x5 x6 x11 x12 y0 h b q
  have e : bX12_joinsAll_234 c248 x1 x3 x5 x6 x11 x12 y0 h = segW 71 119 g.2.2.2.2 krWV clN csX12_joinsAll (cuC 248 (fun l st s => tkC 0 71 l <| tkI 1 l fun x1 => tkI 3 l fun x3 => tkI 4 l fun x4 => tkI 6 l fun x6 => skI st fun y0 st => skE st (c248 x1 x3 x4 x6 y0 s)) cuN) 1000 234 [(0, aR 71), (1, aI x1), (3, aI x3), (5, aI x5), (6, aI x6), (11, aI x11), (12, aI x12)] [aI y0] h := rfl
  rw [e] at q
  clear e
  refine segW_wk (by decide) (by decide) hg rwX12_joinsAll CLKW_N krWV_ok ?_ q
  clear q
  refine ct_C ?_ (ct_N)
  · intro l st h q
    obtain ⟨m0, q1⟩ := tkC_of q
    obtain ⟨x1, m1, q2⟩ := tkI_of q1
    obtain ⟨x3, m3, q3⟩ := tkI_of q2
    obtain ⟨x4, m4, q4⟩ := tkI_of q3
    obtain ⟨x6, m6, q5⟩ := tkI_of q4
    obtain ⟨y0, t0, rfl, q6⟩ := skI_of q5
    obtain ⟨rfl, q7⟩ := skE_of q6
    exact WK_less (k248 _ _ _ _ _ _ _ q7) (List.forall_mem_cons.mpr ⟨m0, (List.forall_mem_cons.mpr ⟨m1, (List.forall_mem_cons.mpr ⟨m3, (List.forall_mem_cons.mpr ⟨m4, (List.forall_mem_cons.mpr ⟨m6, (fun _ h => absurd h List.not_mem_nil)⟩)⟩)⟩)⟩)⟩)
def nX12_joinsAll_234 (c2 : Int → Int → HH → Option HH) (c17 : Int → Int → Int → Int → Int → HH → Option HH) (x1 : Int) (x3 : Int) (x5 : Int) (x6 : Int) (x11 : Int) (x12 : Int) (y0 : Int) (h : HH) : Option HH := bX12_joinsAll_234 (nX12_joinsAll_248 c2 c17) x1 x3 x5 x6 x11 x12 y0 h
theorem wX12_joinsAll_234 {g : SG} (hg : GOK g) {σ0 : SG} {c2 : Int → Int → HH → Option HH} {c17 : Int → Int → Int → Int → Int → HH → Option HH} (k2 : ∀ (x1 : Int) (x2 : Int) (h : HH) (b : HH), c2 x1 x2 h = some b → WK 214 (.inl none) σ0 (abH 71 119 g b) 2 [(0, aR 71), (1, aI x1), (2, aI x2)] [] (abH 71 119 g h) 0 0) (k17 : ∀ (x1 : Int) (x3 : Int) (x4 : Int) (x5 : Int) (x6 : Int) (h : HH) (b : HH), c17 x1 x3 x4 x5 x6 h = some b → WK 214 (.inl none) σ0 (abH 71 119 g b) 17 [(0, aR 71), (1, aI x1), (3, aI x3), (4, aI x4), (5, aI x5), (6, aI x6)] [] (abH 71 119 g h) 0 0) : ∀ {x1 : Int} {x3 : Int} {x5 : Int} {x6 : Int} {x11 : Int} {x12 : Int} {y0 : Int} {h : HH} {b : HH}, nX12_joinsAll_234 c2 c17 x1 x3 x5 x6 x11 x12 y0 h = some b → WK 214 (.inl none) σ0 (abH 71 119 g b) 234 [(0, aR 71), (1, aI x1), (3, aI x3), (5, aI x5), (6, aI x6), (11, aI x11), (12, aI x12)] [aI y0] (abH 71 119 g h) 0 0 := by
  intro x1 x3 x5 x6 x11 x12 y0 h b q
  exact uX12_joinsAll_234 hg (fun _ _ _ _ _ _ _ q => wX12_joinsAll_248 hg k2 k17 q) q
def bX12_joinsAll_221 (c234 : Int → Int → Int → Int → Int → Int → Int → HH → Option HH) (x1 : Int) (x4 : Int) (x5 : Int) (x6 : Int) (x8 : Int) (x11 : Int) (x12 : Int) (y0 : Int) (h : HH) : Option HH :=
  if x12 = (0 : Int) then
    c234 x1 y0 x5 x6 x11 x12 x4 h
  else
    c234 x1 y0 x5 x6 x11 x12 x8 h
theorem uX12_joinsAll_221 {g : SG} (hg : GOK g) {σ0 : SG} {c234 : Int → Int → Int → Int → Int → Int → Int → HH → Option HH} (k234 : ∀ (x1 : Int) (x3 : Int) (x5 : Int) (x6 : Int) (x11 : Int) (x12 : Int) (y0 : Int) (h : HH) (b : HH), c234 x1 x3 x5 x6 x11 x12 y0 h = some b → WK 214 (.inl none) σ0 (abH 71 119 g b) 234 [(0, aR 71), (1, aI x1), (3, aI x3), (5, aI x5), (6, aI x6), (11, aI x11), (12, aI x12)] [aI y0] (abH 71 119 g h) 0 0) : ∀ {x1 : Int} {x4 : Int} {x5 : Int} {x6 : Int} {x8 : Int} {x11 : Int} {x12 : Int} {y0 : Int} {h : HH} {b : HH}, bX12_joinsAll_221 c234 x1 x4 x5 x6 x8 x11 x12 y0 h = some b → WK 214 (.inl none) σ0 (abH 71 119 g b) 221 [(0, aR 71), (1, aI x1), (4, aI x4), (5, aI x5), (6, aI x6), (8, aI x8), (11, aI x11), (12, aI x12)] [aI y0] (abH 71 119 g h) 0 0 := by
  intro x1 x4 x5 x6 x8 x11 x12 y0 h b q
  have e : bX12_joinsAll_221 c234 x1 x4 x5 x6 x8 x11 x12 y0 h = segW 71 119 g.2.2.2.2 krWV clN csX12_joinsAll (cuC 234 (fun l st s => tkC 0 71 l <| tkI 1 l fun x1 => tkI 3 l fun x3 => tkI 5 l fun x5 => tkI 6 l fun x6 => tkI 11 l fun x11 => tkI 12 l fun x12 => skI st fun y0 st => skE st (c234 x1 x3 x5 x6 x11 x12 y0 s)) cuN) 1000 221 [(0, aR 71), (1, aI x1), (4, aI x4), (5, aI x5), (6, aI x6), (8, aI x8), (11, aI x11), (12, aI x12)] [aI y0] h := rfl
  rw [e] at q
  clear e
  refine segW_wk (by decide) (by decide) hg rwX12_joinsAll CLKW_N krWV_ok ?_ q
  clear q
  refine ct_C ?_ (ct_N)
  · intro l st h q
    obtain ⟨m0, q1⟩ := tkC_of q
    obtain ⟨x1, m1, q2⟩ := tkI_of q1
    obtain ⟨x3, m3, q3⟩ := tkI_of q2
    obtain ⟨x5, m5, q4⟩ := tkI_of q3
    obtain ⟨x6, m6, q5⟩ := tkI_of q4
    obtain ⟨x11, m11, q6⟩ := tkI_of q5
    obtain ⟨x12, m12, q7⟩ := tkI_of q6
    obtain ⟨y0, t0, rfl, q8⟩ := skI_of q7
    obtain ⟨rfl, q9⟩ := skE_of q8
    exact WK_less (k234 _ _ _ _ _ _ _ _ _ q9) (List.forall_mem_cons.mpr ⟨m0, (List.forall_mem_cons.mpr ⟨m1, (List.forall_mem_cons.mpr ⟨m3, (List.forall_mem_cons.mpr ⟨m5, (List.forall_mem_cons.mpr ⟨m6, (List.forall_mem_cons.mpr ⟨m11, (List.forall_mem_cons.mpr ⟨m12, (fun _ h => absurd h List.not_mem_nil)⟩)⟩)⟩)⟩)⟩)⟩)⟩)
def nX12_joinsAll_221 (c2 : Int → Int → HH → Option HH) (c17 : Int → Int → Int → Int → Int → HH → Option HH) (x1 : Int) (x4 : Int) (x5 : Int) (x6 : Int) (x8 : Int) (x11 : Int) (x12 : Int) (y0 : Int) (h : HH) : Option HH := bX12_joinsAll_221 (nX12_joinsAll_234 c2 c17) x1 x4 x5 x6 x8 x11 x12 y0 h
theorem wX12_joinsAll_221 {g : SG} (hg : GOK g) {σ0 : SG} {c2 : Int → Int → HH → Option HH} {c17 : Int → Int → Int → Int → Int → HH → Option HH} (k2 : ∀ (x1 : Int) (x2 : Int) (h : HH) (b : HH), c2 x1 x2 h = some b → WK 214 (.inl none) σ0 (abH 71 119 g b) 2 [(0, aR 71), (1, aI x1), (2, aI x2)] [] (abH 71 119 g h) 0 0) (k17 : ∀ (x1 : Int) (x3 : Int) (x4 : Int) (x5 : Int) (x6 : Int) (h : HH) (b : HH), c17 x1 x3 x4 x5 x6 h = some b → WK 214 (.inl none) σ0 (abH 71 119 g b) 17 [(0, aR 71), (1, aI x1), (3, aI x3), (4, aI x4), (5, aI x5), (6, aI x6)] [] (abH 71 119 g h) 0 0) : ∀ {x1 : Int} {x4 : Int} {x5 : Int} {x6 : Int} {x8 : Int} {x11 : Int} {x12 : Int} {y0 : Int} {h : HH} {b : HH}, nX12_joinsAll_221 c2 c17 x1 x4 x5 x6 x8 x11 x12 y0 h = some b → WK 214 (.inl none) σ0 (abH 71 119 g b) 221 [(0, aR 71), (1, aI x1), (4, aI x4), (5, aI x5), (6, aI x6), (8, aI x8), (11, aI x11), (12, aI x12)] [aI y0] (abH 71 119 g h) 0 0 := by
  intro x1 x4 x5 x6 x8 x11 x12 y0 h b q
  exact uX12_joinsAll_221 hg (fun _ _ _ _ _ _ _ _ _ q => wX12_joinsAll_234 hg k2 k17 q) q
def bX12_joinsAll_210 (c221 : Int → Int → Int → Int → Int → Int → Int → Int → HH → Option HH) (x1 : Int) (x3 : Int) (x4 : Int) (x5 : Int) (x6 : Int) (x7 : Int) (x8 : Int) (x11 : Int) (x12 : Int) (h : HH) : Option HH :=
  if x12 = (0 : Int) then
    c221 x1 x4 x5 x6 x8 x11 x12 x3 h
  else
    c221 x1 x4 x5 x6 x8 x11 x12 x7 h
theorem uX12_joinsAll_210 {g : SG} (hg : GOK g) {σ0 : SG} {c221 : Int → Int → Int → Int → Int → Int → Int → Int → HH → Option HH} (k221 : ∀ (x1 : Int) (x4 : Int) (x5 : Int) (x6 : Int) (x8 : Int) (x11 : Int) (x12 : Int) (y0 : Int) (h : HH) (b : HH), c221 x1 x4 x5 x6 x8 x11 x12 y0 h = some b → WK 214 (.inl none) σ0 (abH 71 119 g b) 221 [(0, aR 71), (1, aI x1), (4, aI x4), (5, aI x5), (6, aI x6), (8, aI x8), (11, aI x11), (12, aI x12)] [aI y0] (abH 71 119 g h) 0 0) : ∀ {x1 : Int} {x3 : Int} {x4 : Int} {x5 : Int} {x6 : Int} {x7 : Int} {x8 : Int} {x11 : Int} {x12 : Int} {h : HH} {b : HH}, bX12_joinsAll_210 c221 x1 x3 x4 x5 x6 x7 x8 x11 x12 h = some b → WK 214 (.inl none) σ0 (abH 71 119 g b) 210 [(0, aR 71), (1, aI x1), (3, aI x3), (4, aI x4), (5, aI x5), (6, aI x6), (7, aI x7), (8, aI x8), (11, aI x11), (12, aI x12)] [] (abH 71 119 g h) 0 0 := by
  intro x1 x3 x4 x5 x6 x7 x8 x11 x12 h b q
  have e : bX12_joinsAll_210 c221 x1 x3 x4 x5 x6 x7 x8 x11 x12 h = segW 71 119 g.2.2.2.2 krWV clN csX12_joinsAll (cuC 221 (fun l st s => tkC 0 71 l <| tkI 1 l fun x1 => tkI 4 l fun x4 => tkI 5 l fun x5 => tkI 6 l fun x6 => tkI 8 l fun x8 => tkI 11 l fun x11 => tkI 12 l fun x12 => skI st fun y0 st => skE st (c221 x1 x4 x5 x6 x8 x11 x12 y0 s)) cuN) 1000 210 [(0, aR 71), (1, aI x1), (3, aI x3), (4, aI x4), (5, aI x5), (6, aI x6), (7, aI x7), (8, aI x8), (11, aI x11), (12, aI x12)] [] h := rfl
  rw [e] at q
  clear e
  refine segW_wk (by decide) (by decide) hg rwX12_joinsAll CLKW_N krWV_ok ?_ q
  clear q
  refine ct_C ?_ (ct_N)
  · intro l st h q
    obtain ⟨m0, q1⟩ := tkC_of q
    obtain ⟨x1, m1, q2⟩ := tkI_of q1
    obtain ⟨x4, m4, q3⟩ := tkI_of q2
    obtain ⟨x5, m5, q4⟩ := tkI_of q3
    obtain ⟨x6, m6, q5⟩ := tkI_of q4
    obtain ⟨x8, m8, q6⟩ := tkI_of q5
    obtain ⟨x11, m11, q7⟩ := tkI_of q6
    obtain ⟨x12, m12, q8⟩ := tkI_of q7
    obtain ⟨y0, t0, rfl, q9⟩ := skI_of q8
    obtain ⟨rfl, q10⟩ := skE_of q9
    exact WK_less (k221 _ _ _ _ _ _ _ _ _ _ q10) (List.forall_mem_cons.mpr ⟨m0, (List.forall_mem_cons.mpr ⟨m1, (List.forall_mem_cons.mpr ⟨m4, (List.forall_mem_cons.mpr ⟨m5, (List.forall_mem_cons.mpr ⟨m6, (List.forall_mem_cons.mpr ⟨m8, (List.forall_mem_cons.mpr ⟨m11, (List.forall_mem_cons.mpr ⟨m12, (fun _ h => absurd h List.not_mem_nil)⟩)⟩)⟩)⟩)⟩)⟩)⟩)⟩)
def nX12_joinsAll_210 (c2 : Int → Int → HH → Option HH) (c17 : Int → Int → Int → Int → Int → HH → Option HH) (x1 : Int) (x3 : Int) (x4 : Int) (x5 : Int) (x6 : Int) (x7 : Int) (x8 : Int) (x11 : Int) (x12 : Int) (h : HH) : Option HH := bX12_joinsAll_210 (nX12_joinsAll_221 c2 c17) x1 x3 x4 x5 x6 x7 x8 x11 x12 h
theorem wX12_joinsAll_210 {g : SG} (hg : GOK g) {σ0 : SG} {c2 : Int → Int → HH → Option HH} {c17 : Int → Int → Int → Int → Int → HH → Option HH} (k2 : ∀ (x1 : Int) (x2 : Int) (h : HH) (b : HH), c2 x1 x2 h = some b → WK 214 (.inl none) σ0 (abH 71 119 g b) 2 [(0, aR 71), (1, aI x1), (2, aI x2)] [] (abH 71 119 g h) 0 0) (k17 : ∀ (x1 : Int) (x3 : Int) (x4 : Int) (x5 : Int) (x6 : Int) (h : HH) (b : HH), c17 x1 x3 x4 x5 x6 h = some b → WK 214 (.inl none) σ0 (abH 71 119 g b) 17 [(0, aR 71), (1, aI x1), (3, aI x3), (4, aI x4), (5, aI x5), (6, aI x6)] [] (abH 71 119 g h) 0 0) : ∀ {x1 : Int} {x3 : Int} {x4 : Int} {x5 : Int} {x6 : Int} {x7 : Int} {x8 : Int} {x11 : Int} {x12 : Int} {h : HH} {b : HH}, nX12_joinsAll_210 c2 c17 x1 x3 x4 x5 x6 x7 x8 x11 x12 h = some b → WK 214 (.inl none) σ0 (abH 71 119 g b) 210 [(0, aR 71), (1, aI x1), (3, aI x3), (4, aI x4), (5, aI x5), (6, aI x6), (7, aI x7), (8, aI x8), (11, aI x11), (12, aI x12)] [] (abH 71 119 g h) 0 0 := by
  intro x1 x3 x4 x5 x6 x7 x8 x11 x12 h b q
  exact uX12_joinsAll_210 hg (fun _ _ _ _ _ _ _ _ _ _ q => wX12_joinsAll_221 hg k2 k17 q) q
def bX12_joinsAll_208 (c210 : Int → Int → Int → Int → Int → Int → Int → Int → Int → HH → Option HH) (x1 : Int) (x3 : Int) (x4 : Int) (x5 : Int) (x6 : Int) (x7 : Int) (x8 : Int) (x11 : Int) (y0 : Int) (h : HH) : Option HH :=
  c210 x1 x3 x4 x5 x6 x7 x8 x11 y0 h
theorem uX12_joinsAll_208 {g : SG} (hg : GOK g) {σ0 : SG} {c210 : Int → Int → Int → Int → Int → Int → Int → Int → Int → HH → Option HH} (k210 : ∀ (x1 : Int) (x3 : Int) (x4 : Int) (x5 : Int) (x6 : Int) (x7 : Int) (x8 : Int) (x11 : Int) (x12 : Int) (h : HH) (b : HH), c210 x1 x3 x4 x5 x6 x7 x8 x11 x12 h = some b → WK 214 (.inl none) σ0 (abH 71 119 g b) 210 [(0, aR 71), (1, aI x1), (3, aI x3), (4, aI x4), (5, aI x5), (6, aI x6), (7, aI x7), (8, aI x8), (11, aI x11), (12, aI x12)] [] (abH 71 119 g h) 0 0) : ∀ {x1 : Int} {x3 : Int} {x4 : Int} {x5 : Int} {x6 : Int} {x7 : Int} {x8 : Int} {x11 : Int} {y0 : Int} {h : HH} {b : HH}, bX12_joinsAll_208 c210 x1 x3 x4 x5 x6 x7 x8 x11 y0 h = some b → WK 214 (.inl none) σ0 (abH 71 119 g b) 208 [(0, aR 71), (1, aI x1), (3, aI x3), (4, aI x4), (5, aI x5), (6, aI x6), (7, aI x7), (8, aI x8), (11, aI x11)] [aI y0] (abH 71 119 g h) 0 0 := by
  intro x1 x3 x4 x5 x6 x7 x8 x11 y0 h b q
  have e : bX12_joinsAll_208 c210 x1 x3 x4 x5 x6 x7 x8 x11 y0 h = segW 71 119 g.2.2.2.2 krWV clN csX12_joinsAll (cuC 210 (fun l st s => tkC 0 71 l <| tkI 1 l fun x1 => tkI 3 l fun x3 => tkI 4 l fun x4 => tkI 5 l fun x5 => tkI 6 l fun x6 => tkI 7 l fun x7 => tkI 8 l fun x8 => tkI 11 l fun x11 => tkI 12 l fun x12 => skE st (c210 x1 x3 x4 x5 x6 x7 x8 x11 x12 s)) cuN) 1000 208 [(0, aR 71), (1, aI x1), (3, aI x3), (4, aI x4), (5, aI x5), (6, aI x6), (7, aI x7), (8, aI x8), (11, aI x11)] [aI y0] h := rfl
  rw [e] at q
  clear e
  refine segW_wk (by decide) (by decide) hg rwX12_joinsAll CLKW_N krWV_ok ?_ q
  clear q
  refine ct_C ?_ (ct_N)
  · intro l st h q
    obtain ⟨m0, q1⟩ := tkC_of q
    obtain ⟨x1, m1, q2⟩ := tkI_of q1
    obtain ⟨x3, m3, q3⟩ := tkI_of q2
    obtain ⟨x4, m4, q4⟩ := tkI_of q3
    obtain ⟨x5, m5, q5⟩ := tkI_of q4
    obtain ⟨x6, m6, q6⟩ := tkI_of q5
    obtain ⟨x7, m7, q7⟩ := tkI_of q6
    obtain ⟨x8, m8, q8⟩ := tkI_of q7
    obtain ⟨x11, m11, q9⟩ := tkI_of q8
    obtain ⟨x12, m12, q10⟩ := tkI_of q9
    obtain ⟨rfl, q11⟩ := skE_of q10
    exact WK_less (k210 _ _ _ _ _ _ _ _ _ _ _ q11) (List.forall_mem_cons.mpr ⟨m0, (List.forall_mem_cons.mpr ⟨m1, (List.forall_mem_cons.mpr ⟨m3, (List.forall_mem_cons.mpr ⟨m4, (List.forall_mem_cons.mpr ⟨m5, (List.forall_mem_cons.mpr ⟨m6, (List.forall_mem_cons.mpr ⟨m7, (List.forall_mem_cons.mpr ⟨m8, (List.forall_mem_cons.mpr ⟨m11, (List.forall_mem_cons.mpr ⟨m12, (fun _ h => absurd h List.not_mem_nil)⟩)⟩)⟩)⟩)⟩)⟩)⟩)⟩)⟩)⟩)
def nX12_joinsAll_208 (c2 : Int → Int → HH → Option HH) (c17 : Int → Int → Int → Int → Int → HH → Option HH) (x1 : Int) (x3 : Int) (x4 : Int) (x5 : Int) (x6 : Int) (x7 : Int) (x8 : Int) (x11 : Int) (y0 : Int) (h : HH) : Option HH := bX12_joinsAll_208 (nX12_joinsAll_210 c2 c17) x1 x3 x4 x5 x6 x7 x8 x11 y0 h
theorem wX12_joinsAll_208 {g : SG} (hg : GOK g) {σ0 : SG} {c2 : Int → Int → HH → Option HH} {c17 : Int → Int → Int → Int → Int → HH → Option HH} (k2 : ∀ (x1 : Int) (x2 : Int) (h : HH) (b : HH), c2 x1 x2 h = some b → WK 214 (.inl none) σ0 (abH 71 119 g b) 2 [(0, aR 71), (1, aI x1), (2, aI x2)] [] (abH 71 119 g h) 0 0) (k17 : ∀ (x1 : Int) (x3 : Int) (x4 : Int) (x5 : Int) (x6 : Int) (h : HH) (b : HH), c17 x1 x3 x4 x5 x6 h = some b → WK 214 (.inl none) σ0 (abH 71 119 g b) 17 [(0, aR 71), (1, aI x1), (3, aI x3), (4, aI x4), (5, aI x5), (6, aI x6)] [] (abH 71 119 g h) 0 0) : ∀ {x1 : Int} {x3 : Int} {x4 : Int} {x5 : Int} {x6 : Int} {x7 : Int} {x8 : Int} {x11 : Int} {y0 : Int} {h : HH} {b : HH}, nX12_joinsAll_208 c2 c17 x1 x3 x4 x5 x6 x7 x8 x11 y0 h = some b → WK 214 (.inl none) σ0 (abH 71 119 g b) 208 [(0, aR 71), (1, aI x1), (3, aI x3), (4, aI x4), (5, aI x5), (6, aI x6), (7, aI x7), (8, aI x8), (11, aI x11)] [aI y0] (abH 71 119 g h) 0 0 := by
  intro x1 x3 x4 x5 x6 x7 x8 x11 y0 h b q
  exact uX12_joinsAll_208 hg (fun _ _ _ _ _ _ _ _ _ _ _ q => wX12_joinsAll_210 hg k2 k17 q) q
def bX12_joinsAll_203 (c208 : Int → Int → Int → Int → Int → Int → Int → Int → Int → HH → Option HH) (x1 : Int) (x3 : Int) (x4 : Int) (x5 : Int) (x6 : Int) (x7 : Int) (x8 : Int) (x11 : Int) (h : HH) : Option HH :=
  c208 x1 x3 x4 x5 x6 x7 x8 x11 1 h
theorem uX12_joinsAll_203 {g : SG} (hg : GOK g) {σ0 : SG} {c208 : Int → Int → Int → Int → Int → Int → Int → Int → Int → HH → Option HH} (k208 : ∀ (x1 : Int) (x3 : Int) (x4 : Int) (x5 : Int) (x6 : Int) (x7 : Int) (x8 : Int) (x11 : Int) (y0 : Int) (h : HH) (b : HH), c208 x1 x3 x4 x5 x6 x7 x8 x11 y0 h = some b → WK 214 (.inl none) σ0 (abH 71 119 g b) 208 [(0, aR 71), (1, aI x1), (3, aI x3), (4, aI x4), (5, aI x5), (6, aI x6), (7, aI x7), (8, aI x8), (11, aI x11)] [aI y0] (abH 71 119 g h) 0 0) : ∀ {x1 : Int} {x3 : Int} {x4 : Int} {x5 : Int} {x6 : Int} {x7 : Int} {x8 : Int} {x11 : Int} {h : HH} {b : HH}, bX12_joinsAll_203 c208 x1 x3 x4 x5 x6 x7 x8 x11 h = some b → WK 214 (.inl none) σ0 (abH 71 119 g b) 203 [(0, aR 71), (1, aI x1), (3, aI x3), (4, aI x4), (5, aI x5), (6, aI x6), (7, aI x7), (8, aI x8), (11, aI x11)] [] (abH 71 119 g h) 0 0 := by
  intro x1 x3 x4 x5 x6 x7 x8 x11 h b q
  have e : bX12_joinsAll_203 c208 x1 x3 x4 x5 x6 x7 x8 x11 h = segW 71 119 g.2.2.2.2 krWV clN csX12_joinsAll (cuC 208 (fun l st s => tkC 0 71 l <| tkI 1 l fun x1 => tkI 3 l fun x3 => tkI 4 l fun x4 => tkI 5 l fun x5 => tkI 6 l fun x6 => tkI 7 l fun x7 => tkI 8 l fun x8 => tkI 11 l fun x11 => skI st fun y0 st => skE st (c208 x1 x3 x4 x5 x6 x7 x8 x11 y0 s)) cuN) 1000 203 [(0, aR 71), (1, aI x1), (3, aI x3), (4, aI x4), (5, aI x5), (6, aI x6), (7, aI x7), (8, aI x8), (11, aI x11)] [] h := rfl
  rw [e] at q
  clear e
  refine segW_wk (by decide) (by decide) hg rwX12_joinsAll CLKW_N krWV_ok ?_ q
  clear q
  refine ct_C ?_ (ct_N)
  · intro l st h q
    obtain ⟨m0, q1⟩ := tkC_of q
    obtain ⟨x1, m1, q2⟩ := tkI_of q1
    obtain ⟨x3, m3, q3⟩ := tkI_of q2
    obtain ⟨x4, m4, q4⟩ := tkI_of q3
    obtain ⟨x5, m5, q5⟩ := tkI_of q4
    obtain ⟨x6, m6, q6⟩ := tkI_of q5
    obtain ⟨x7, m7, q7⟩ := tkI_of q6
    obtain ⟨x8, m8, q8⟩ := tkI_of q7
    obtain ⟨x11, m11, q9⟩ := tkI_of q8
    obtain ⟨y0, t0, rfl, q10⟩ := skI_of q9
    obtain ⟨rfl, q11⟩ := skE_of q10
    exact WK_less (k208 _ _ _ _ _ _ _ _ _ _ _ q11) (List.forall_mem_cons.mpr ⟨m0, (List.forall_mem_cons.mpr ⟨m1, (List.forall_mem_cons.mpr ⟨m3, (List.forall_mem_cons.mpr ⟨m4, (List.forall_mem_cons.mpr ⟨m5, (List.forall_mem_cons.mpr ⟨m6, (List.forall_mem_cons.mpr ⟨m7, (List.forall_mem_cons.mpr ⟨m8, (List.forall_mem_cons.mpr ⟨m11, (fun _ h => absurd h List.not_mem_nil)⟩)⟩)⟩)⟩)⟩)⟩)⟩)⟩)⟩)
def nX12_joinsAll_203 (c2 : Int → Int → HH → Option HH) (c17 : Int → Int → Int → Int → Int → HH → Option HH) (x1 : Int) (x3 : Int) (x4 : Int) (x5 : Int) (x6 : Int) (x7 : Int) (x8 : Int) (x11 : Int) (h : HH) : Option HH := bX12_joinsAll_203 (nX12_joinsAll_208 c2 c17) x1 x3 x4 x5 x6 x7 x8 x11 h
theorem wX12_joinsAll_203 {g : SG} (hg : GOK g) {σ0 : SG} {c2 : Int → Int → HH → Option HH} {c17 : Int → Int → Int → Int → Int → HH → Option HH} (k2 : ∀ (x1 : Int) (x2 : Int) (h : HH) (b : HH), c2 x1 x2 h = some b → WK 214 (.inl none) σ0 (abH 71 119 g b) 2 [(0, aR 71), (1, aI x1), (2, aI x2)] [] (abH 71 119 g h) 0 0) (k17 : ∀ (x1 : Int) (x3 : Int) (x4 : Int) (x5 : Int) (x6 : Int) (h : HH) (b : HH), c17 x1 x3 x4 x5 x6 h = some b → WK 214 (.inl none) σ0 (abH 71 119 g b) 17 [(0, aR 71), (1, aI x1), (3, aI x3), (4, aI x4), (5, aI x5), (6, aI x6)] [] (abH 71 119 g h) 0 0) : ∀ {x1 : Int} {x3 : Int} {x4 : Int} {x5 : Int} {x6 : Int} {x7 : Int} {x8 : Int} {x11 : Int} {h : HH} {b : HH}, nX12_joinsAll_203 c2 c17 x1 x3 x4 x5 x6 x7 x8 x11 h = some b → WK 214 (.inl none) σ0 (abH 71 119 g b) 203 [(0, aR 71), (1, aI x1), (3, aI x3), (4, aI x4), (5, aI x5), (6, aI x6), (7, aI x7), (8, aI x8), (11, aI x11)] [] (abH 71 119 g h) 0 0 := by
  intro x1 x3 x4 x5 x6 x7 x8 x11 h b q
  exact uX12_joinsAll_203 hg (fun _ _ _ _ _ _ _ _ _ _ _ q => wX12_joinsAll_208 hg k2 k17 q) q
def bX12_joinsAll_207 (c208 : Int → Int → Int → Int → Int → Int → Int → Int → Int → HH → Option HH) (x1 : Int) (x3 : Int) (x4 : Int) (x5 : Int) (x6 : Int) (x7 : Int) (x8 : Int) (x11 : Int) (h : HH) : Option HH :=
  c208 x1 x3 x4 x5 x6 x7 x8 x11 0 h
theorem uX12_joinsAll_207 {g : SG} (hg : GOK g) {σ0 : SG} {c208 : Int → Int → Int → Int → Int → Int → Int → Int → Int → HH → Option HH} (k208 : ∀ (x1 : Int) (x3 : Int) (x4 : Int) (x5 : Int) (x6 : Int) (x7 : Int) (x8 : Int) (x11 : Int) (y0 : Int) (h : HH) (b : HH), c208 x1 x3 x4 x5 x6 x7 x8 x11 y0 h = some b → WK 214 (.inl none) σ0 (abH 71 119 g b) 208 [(0, aR 71), (1, aI x1), (3, aI x3), (4, aI x4), (5, aI x5), (6, aI x6), (7, aI x7), (8, aI x8), (11, aI x11)] [aI y0] (abH 71 119 g h) 0 0) : ∀ {x1 : Int} {x3 : Int} {x4 : Int} {x5 : Int} {x6 : Int} {x7 : Int} {x8 : Int} {x11 : Int} {h : HH} {b : HH}, bX12_joinsAll_207 c208 x1 x3 x4 x5 x6 x7 x8 x11 h = some b → WK 214 (.inl none) σ0 (abH 71 119 g b) 207 [(0, aR 71), (1, aI x1), (3, aI x3), (4, aI x4), (5, aI x5), (6, aI x6), (7, aI x7), (8, aI x8), (11, aI x11)] [] (abH 71 119 g h) 0 0 := by
  intro x1 x3 x4 x5 x6 x7 x8 x11 h b q
  have e : bX12_joinsAll_207 c208 x1 x3 x4 x5 x6 x7 x8 x11 h = segW 71 119 g.2.2.2.2 krWV clN csX12_joinsAll (cuC 208 (fun l st s => tkC 0 71 l <| tkI 1 l fun x1 => tkI 3 l fun x3 => tkI 4 l fun x4 => tkI 5 l fun x5 => tkI 6 l fun x6 => tkI 7 l fun x7 => tkI 8 l fun x8 => tkI 11 l fun x11 => skI st fun y0 st => skE st (c208 x1 x3 x4 x5 x6 x7 x8 x11 y0 s)) cuN) 1000 207 [(0, aR 71), (1, aI x1), (3, aI x3), (4, aI x4), (5, aI x5), (6, aI x6), (7, aI x7), (8, aI x8), (11, aI x11)] [] h := rfl
  rw [e] at q
  clear e
  refine segW_wk (by decide) (by decide) hg rwX12_joinsAll CLKW_N krWV_ok ?_ q
  clear q
  refine ct_C ?_ (ct_N)
  · intro l st h q
    obtain ⟨m0, q1⟩ := tkC_of q
    obtain ⟨x1, m1, q2⟩ := tkI_of q1
    obtain ⟨x3, m3, q3⟩ := tkI_of q2
    obtain ⟨x4, m4, q4⟩ := tkI_of q3
    obtain ⟨x5, m5, q5⟩ := tkI_of q4
    obtain ⟨x6, m6, q6⟩ := tkI_of q5
    obtain ⟨x7, m7, q7⟩ := tkI_of q6
    obtain ⟨x8, m8, q8⟩ := tkI_of q7
    obtain ⟨x11, m11, q9⟩ := tkI_of q8
    obtain ⟨y0, t0, rfl, q10⟩ := skI_of q9
    obtain ⟨rfl, q11⟩ := skE_of q10
    exact WK_less (k208 _ _ _ _ _ _ _ _ _ _ _ q11) (List.forall_mem_cons.mpr ⟨m0, (List.forall_mem_cons.mpr ⟨m1, (List.forall_mem_cons.mpr ⟨m3, (List.forall_mem_cons.mpr ⟨m4, (List.forall_mem_cons.mpr ⟨m5, (List.forall_mem_cons.mpr ⟨m6, (List.forall_mem_cons.mpr ⟨m7, (List.forall_mem_cons.mpr ⟨m8, (List.forall_mem_cons.mpr ⟨m11, (fun _ h => absurd h List.not_mem_nil)⟩)⟩)⟩)⟩)⟩)⟩)⟩)⟩)⟩)
def nX12_joinsAll_207 (c2 : Int → Int → HH → Option HH) (c17 : Int → Int → Int → Int → Int → HH → Option HH) (x1 : Int) (x3 : Int) (x4 : Int) (x5 : Int) (x6 : Int) (x7 : Int) (x8 : Int) (x11 : Int) (h : HH) : Option HH := bX12_joinsAll_207 (nX12_joinsAll_208 c2 c17) x1 x3 x4 x5 x6 x7 x8 x11 h
theorem wX12_joinsAll_207 {g : SG} (hg : GOK g) {σ0 : SG} {c2 : Int → Int → HH → Option HH} {c17 : Int → Int → Int → Int → Int → HH → Option HH} (k2 : ∀ (x1 : Int) (x2 : Int) (h : HH) (b : HH), c2 x1 x2 h = some b → WK 214 (.inl none) σ0 (abH 71 119 g b) 2 [(0, aR 71), (1, aI x1), (2, aI x2)] [] (abH 71 119 g h) 0 0) (k17 : ∀ (x1 : Int) (x3 : Int) (x4 : Int) (x5 : Int) (x6 : Int) (h : HH) (b : HH), c17 x1 x3 x4 x5 x6 h = some b → WK 214 (.inl none) σ0 (abH 71 119 g b) 17 [(0, aR 71), (1, aI x1), (3, aI x3), (4, aI x4), (5, aI x5), (6, aI x6)] [] (abH 71 119 g h) 0 0) : ∀ {x1 : Int} {x3 : Int} {x4 : Int} {x5 : Int} {x6 : Int} {x7 : Int} {x8 : Int} {x11 : Int} {h : HH} {b : HH}, nX12_joinsAll_207 c2 c17 x1 x3 x4 x5 x6 x7 x8 x11 h = some b → WK 214 (.inl none) σ0 (abH 71 119 g b) 207 [(0, aR 71), (1, aI x1), (3, aI x3), (4, aI x4), (5, aI x5), (6, aI x6), (7, aI x7), (8, aI x8), (11, aI x11)] [] (abH 71 119 g h) 0 0 := by
  intro x1 x3 x4 x5 x6 x7 x8 x11 h b q
  exact uX12_joinsAll_207 hg (fun _ _ _ _ _ _ _ _ _ _ _ q => wX12_joinsAll_208 hg k2 k17 q) q
def bX12_joinsAll_158 (f212 : HH → Int → Option Int) (f213 : HH → Int → Option Int) (c203 : Int → Int → Int → Int → Int → Int → Int → Int → HH → Option HH) (c207 : Int → Int → Int → Int → Int → Int → Int → Int → HH → Option HH) (c210 : Int → Int → Int → Int → Int → Int → Int → Int → Int → HH → Option HH) (x1 : Int) (x3 : Int) (x4 : Int) (x5 : Int) (x6 : Int) (x7 : Int) (x8 : Int) (x9 : Int) (x10 : Int) (x11 : Int) (y0 : Int) (h : HH) : Option HH :=
  if x3 = ((-1) : Int) then
    c210 x1 x3 x4 x5 x6 x7 x8 x11 y0 h
  else
    if x11 = (x5 : Int) then
    bnd (f212 h x3) fun r1 =>
    if x9 < (r1 : Int) then
    c203 x1 x3 x4 x5 x6 x7 x8 x11 h
  else
    bnd (f212 h x3) fun r2 =>
    if x9 = (r2 : Int) then
    bnd (f213 h x4) fun r3 =>
    if x10 < (r3 : Int) then
    c203 x1 x3 x4 x5 x6 x7 x8 x11 h
  else
    c207 x1 x3 x4 x5 x6 x7 x8 x11 h
  else
    c207 x1 x3 x4 x5 x6 x7 x8 x11 h
  else
    c210 x1 x3 x4 x5 x6 x7 x8 x11 y0 h
set_option maxRecDepth 100000 in
theorem uX12_joinsAll_158 {g : SG} (hg : GOK g) {σ0 : SG} {c203 : Int → Int → Int → Int → Int → Int → Int → Int → HH → Option HH} {c207 : Int → Int → Int → Int → Int → Int → Int → Int → HH → Option HH} {c210 : Int → Int → Int → Int → Int → Int → Int → Int → Int → HH → Option HH} (k203 : ∀ (x1 : Int) (x3 : Int) (x4 : Int) (x5 : Int) (x6 : Int) (x7 : Int) (x8 : Int) (x11 : Int) (h : HH) (b : HH), c203 x1 x3 x4 x5 x6 x7 x8 x11 h = some b → WK 214 (.inl none) σ0 (abH 71 119 g b) 203 [(0, aR 71), (1, aI x1), (3, aI x3), (4, aI x4), (5, aI x5), (6, aI x6), (7, aI x7), (8, aI x8), (11, aI x11)] [] (abH 71 119 g h) 0 0) (k207 : ∀ (x1 : Int) (x3 : Int) (x4 : Int) (x5 : Int) (x6 : Int) (x7 : Int) (x8 : Int) (x11 : Int) (h : HH) (b : HH), c207 x1 x3 x4 x5 x6 x7 x8 x11 h = some b → WK 214 (.inl none) σ0 (abH 71 119 g b) 207 [(0, aR 71), (1, aI x1), (3, aI x3), (4, aI x4), (5, aI x5), (6, aI x6), (7, aI x7), (8, aI x8), (11, aI x11)] [] (abH 71 119 g h) 0 0) (k210 : ∀ (x1 : Int) (x3 : Int) (x4 : Int) (x5 : Int) (x6 : Int) (x7 : Int) (x8 : Int) (x11 : Int) (x12 : Int) (h : HH) (b : HH), c210 x1 x3 x4 x5 x6 x7 x8 x11 x12 h = some b → WK 214 (.inl none) σ0 (abH 71 119 g b) 210 [(0, aR 71), (1, aI x1), (3, aI x3), (4, aI x4), (5, aI x5), (6, aI x6), (7, aI x7), (8, aI x8), (11, aI x11), (12, aI x12)] [] (abH 71 119 g h) 0 0) : ∀ {x1 : Int} {x3 : Int} {x4 : Int} {x5 : Int} {x6 : Int} {x7 : Int} {x8 : Int} {x9 : Int} {x10 : Int} {x11 : Int} {y0 : Int} {h : HH} {b : HH}, bX12_joinsAll_158 nX12_lastOf nX12_firstOf c203 c207 c210 x1 x3 x4 x5 x6 x7 x8 x9 x10 x11 y0 h = some b → WK 214 (.inl none) σ0 (abH 71 119 g b) 158 [(0, aR 71), (1, aI x1), (3, aI x3), (4, aI x4), (5, aI x5), (6, aI x6), (7, aI x7), (8, aI x8), (9, aI x9), (10, aI x10), (11, aI x11)] [aI y0] (abH 71 119 g h) 0 0 := by
  intro x1 x3 x4 x5 x6 x7 x8 x9 x10 x11 y0 h b q
  have e : ∀ (f212 : HH → Int → Option Int) (f213 : HH → Int → Option Int) , bX12_joinsAll_158 f212 f213 c203 c207 c210 x1 x3 x4 x5 x6 x7 x8 x9 x10 x11 y0 h = segW 71 119 g.2.2.2.2 krWV (clC 212 (liPW (pX12_lastOf f212)) (clC 213 (liPW (pX12_firstOf f213)) clN)) csX12_joinsAll (cuC 203 (fun l st s => tkC 0 71 l <| tkI 1 l fun x1 => tkI 3 l fun x3 => tkI 4 l fun x4 => tkI 5 l fun x5 => tkI 6 l fun x6 => tkI 7 l fun x7 => tkI 8 l fun x8 => tkI 11 l fun x11 => skE st (c203 x1 x3 x4 x5 x6 x7 x8 x11 s)) (cuC 207 (fun l st s => tkC 0 71 l <| tkI 1 l fun x1 => tkI 3 l fun x3 => tkI 4 l fun x4 => tkI 5 l fun x5 => tkI 6 l fun x6 => tkI 7 l fun x7 => tkI 8 l fun x8 => tkI 11 l fun x11 => skE st (c207 x1 x3 x4 x5 x6 x7 x8 x11 s)) (cuC 210 (fun l st s => tkC 0 71 l <| tkI 1 l fun x1 => tkI 3 l fun x3 => tkI 4 l fun x4 => tkI 5 l fun x5 => tkI 6 l fun x6 => tkI 7 l fun x7 => tkI 8 l fun x8 => tkI 11 l fun x11 => tkI 12 l fun x12 => skE st (c210 x1 x3 x4 x5 x6 x7 x8 x11 x12 s)) cuN))) 1000 158 [(0, aR 71), (1, aI x1), (3, aI x3), (4, aI x4), (5, aI x5), (6, aI x6), (7, aI x7), (8, aI x8), (9, aI x9), (10, aI x10), (11, aI x11)] [aI y0] h := fun _ _ => rfl
  rw [e nX12_lastOf nX12_firstOf] at q
  clear e
  refine segW_wk (by decide) (by decide) hg rwX12_joinsAll (CLKW_C (liPW_ok (pX12_lastOf_ok hg)) (CLKW_C (liPW_ok (pX12_firstOf_ok hg)) CLKW_N)) krWV_ok ?_ q
  clear q
  refine ct_C ?_ (ct_C ?_ (ct_C ?_ (ct_N)))
  · intro l st h q
    obtain ⟨m0, q1⟩ := tkC_of q
    obtain ⟨x1, m1, q2⟩ := tkI_of q1
    obtain ⟨x3, m3, q3⟩ := tkI_of q2
    obtain ⟨x4, m4, q4⟩ := tkI_of q3
    obtain ⟨x5, m5, q5⟩ := tkI_of q4
    obtain ⟨x6, m6, q6⟩ := tkI_of q5
    obtain ⟨x7, m7, q7⟩ := tkI_of q6
    obtain ⟨x8, m8, q8⟩ := tkI_of q7
    obtain ⟨x11, m11, q9⟩ := tkI_of q8
    obtain ⟨rfl, q10⟩ := skE_of q9
    exact WK_less (k203 _ _ _ _ _ _ _ _ _ _ q10) (List.forall_mem_cons.mpr ⟨m0, (List.forall_mem_cons.mpr ⟨m1, (List.forall_mem_cons.mpr ⟨m3, (List.forall_mem_cons.mpr ⟨m4, (List.forall_mem_cons.mpr ⟨m5, (List.forall_mem_cons.mpr ⟨m6, (List.forall_mem_cons.mpr ⟨m7, (List.forall_mem_cons.mpr ⟨m8, (List.forall_mem_cons.mpr ⟨m11, (fun _ h => absurd h List.not_mem_nil)⟩)⟩)⟩)⟩)⟩)⟩)⟩)⟩)⟩)
  · intro l st h q
    obtain ⟨m0, q1⟩ := tkC_of q
    obtain ⟨x1, m1, q2⟩ := tkI_of q1
    obtain ⟨x3, m3, q3⟩ := tkI_of q2
    obtain ⟨x4, m4, q4⟩ := tkI_of q3
    obtain ⟨x5, m5, q5⟩ := tkI_of q4
    obtain ⟨x6, m6, q6⟩ := tkI_of q5
    obtain ⟨x7, m7, q7⟩ := tkI_of q6
    obtain ⟨x8, m8, q8⟩ := tkI_of q7
    obtain ⟨x11, m11, q9⟩ := tkI_of q8
    obtain ⟨rfl, q10⟩ := skE_of q9
    exact WK_less (k207 _ _ _ _ _ _ _ _ _ _ q10) (List.forall_mem_cons.mpr ⟨m0, (List.forall_mem_cons.mpr ⟨m1, (List.forall_mem_cons.mpr ⟨m3, (List.forall_mem_cons.mpr ⟨m4, (List.forall_mem_cons.mpr ⟨m5, (List.forall_mem_cons.mpr ⟨m6, (List.forall_mem_cons.mpr ⟨m7, (List.forall_mem_cons.mpr ⟨m8, (List.forall_mem_cons.mpr ⟨m11, (fun _ h => absurd h List.not_mem_nil)⟩)⟩)⟩)⟩)⟩)⟩)⟩)⟩)⟩)
  · intro l st h q
    obtain ⟨m0, q1⟩ := tkC_of q
    obtain ⟨x1, m1, q2⟩ := tkI_of q1
    obtain ⟨x3, m3, q3⟩ := tkI_of q2
    obtain ⟨x4, m4, q4⟩ := tkI_of q3
    obtain ⟨x5, m5, q5⟩ := tkI_of q4
    obtain ⟨x6, m6, q6⟩ := tkI_of q5
    obtain ⟨x7, m7, q7⟩ := tkI_of q6
    obtain ⟨x8, m8, q8⟩ := tkI_of q7
    obtain ⟨x11, m11, q9⟩ := tkI_of q8
    obtain ⟨x12, m12, q10⟩ := tkI_of q9
    obtain ⟨rfl, q11⟩ := skE_of q10
    exact WK_less (k210 _ _ _ _ _ _ _ _ _ _ _ q11) (List.forall_mem_cons.mpr ⟨m0, (List.forall_mem_cons.mpr ⟨m1, (List.forall_mem_cons.mpr ⟨m3, (List.forall_mem_cons.mpr ⟨m4, (List.forall_mem_cons.mpr ⟨m5, (List.forall_mem_cons.mpr ⟨m6, (List.forall_mem_cons.mpr ⟨m7, (List.forall_mem_cons.mpr ⟨m8, (List.forall_mem_cons.mpr ⟨m11, (List.forall_mem_cons.mpr ⟨m12, (fun _ h => absurd h List.not_mem_nil)⟩)⟩)⟩)⟩)⟩)⟩)⟩)⟩)⟩)⟩)
def nX12_joinsAll_158 (c2 : Int → Int → HH → Option HH) (c17 : Int → Int → Int → Int → Int → HH → Option HH) (x1 : Int) (x3 : Int) (x4 : Int) (x5 : Int) (x6 : Int) (x7 : Int) (x8 : Int) (x9 : Int) (x10 : Int) (x11 : Int) (y0 : Int) (h : HH) : Option HH := bX12_joinsAll_158 nX12_lastOf nX12_firstOf (nX12_joinsAll_203 c2 c17) (nX12_joinsAll_207 c2 c17) (nX12_joinsAll_210 c2 c17) x1 x3 x4 x5 x6 x7 x8 x9 x10 x11 y0 h
theorem wX12_joinsAll_158 {g : SG} (hg : GOK g) {σ0 : SG} {c2 : Int → Int → HH → Option HH} {c17 : Int → Int → Int → Int → Int → HH → Option HH} (k2 : ∀ (x1 : Int) (x2 : Int) (h : HH) (b : HH), c2 x1 x2 h = some b → WK 214 (.inl none) σ0 (abH 71 119 g b) 2 [(0, aR 71), (1, aI x1), (2, aI x2)] [] (abH 71 119 g h) 0 0) (k17 : ∀ (x1 : Int) (x3 : Int) (x4 : Int) (x5 : Int) (x6 : Int) (h : HH) (b : HH), c17 x1 x3 x4 x5 x6 h = some b → WK 214 (.inl none) σ0 (abH 71 119 g b) 17 [(0, aR 71), (1, aI x1), (3, aI x3), (4, aI x4), (5, aI x5), (6, aI x6)] [] (abH 71 119 g h) 0 0) : ∀ {x1 : Int} {x3 : Int} {x4 : Int} {x5 : Int} {x6 : Int} {x7 : Int} {x8 : Int} {x9 : Int} {x10 : Int} {x11 : Int} {y0 : Int} {h : HH} {b : HH}, nX12_joinsAll_158 c2 c17 x1 x3 x4 x5 x6 x7 x8 x9 x10 x11 y0 h = some b → WK 214 (.inl none) σ0 (abH 71 119 g b) 158 [(0, aR 71), (1, aI x1), (3, aI x3), (4, aI x4), (5, aI x5), (6, aI x6), (7, aI x7), (8, aI x8), (9, aI x9), (10, aI x10), (11, aI x11)] [aI y0] (abH 71 119 g h) 0 0 := by
  intro x1 x3 x4 x5 x6 x7 x8 x9 x10 x11 y0 h b q
  exact uX12_joinsAll_158 hg (fun _ _ _ _ _ _ _ _ _ _ q => wX12_joinsAll_203 hg k2 k17 q) (fun _ _ _ _ _ _ _ _ _ _ q => wX12_joinsAll_207 hg k2 k17 q) (fun _ _ _ _ _ _ _ _ _ _ _ q => wX12_joinsAll_210 hg k2 k17 q) q
def bX12_joinsAll_153 (c158 : Int → Int → Int → Int → Int → Int → Int → Int → Int → Int → Int → HH → Option HH) (x1 : Int) (x3 : Int) (x4 : Int) (x5 : Int) (x6 : Int) (x7 : Int) (x8 : Int) (x9 : Int) (x10 : Int) (x11 : Int) (h : HH) : Option HH :=
  c158 x1 x3 x4 x5 x6 x7 x8 x9 x10 x11 1 h
theorem uX12_joinsAll_153 {g : SG} (hg : GOK g) {σ0 : SG} {c158 : Int → Int → Int → Int → Int → Int → Int → Int → Int → Int → Int → HH → Option HH} (k158 : ∀ (x1 : Int) (x3 : Int) (x4 : Int) (x5 : Int) (x6 : Int) (x7 : Int) (x8 : Int) (x9 : Int) (x10 : Int) (x11 : Int) (y0 : Int) (h : HH) (b : HH), c158 x1 x3 x4 x5 x6 x7 x8 x9 x10 x11 y0 h = some b → WK 214 (.inl none) σ0 (abH 71 119 g b) 158 [(0, aR 71), (1, aI x1), (3, aI x3), (4, aI x4), (5, aI x5), (6, aI x6), (7, aI x7), (8, aI x8), (9, aI x9), (10, aI x10), (11, aI x11)] [aI y0] (abH 71 119 g h) 0 0) : ∀ {x1 : Int} {x3 : Int} {x4 : Int} {x5 : Int} {x6 : Int} {x7 : Int} {x8 : Int} {x9 : Int} {x10 : Int} {x11 : Int} {h : HH} {b : HH}, bX12_joinsAll_153 c158 x1 x3 x4 x5 x6 x7 x8 x9 x10 x11 h = some b → WK 214 (.inl none) σ0 (abH 71 119 g b) 153 [(0, aR 71), (1, aI x1), (3, aI x3), (4, aI x4), (5, aI x5), (6, aI x6), (7, aI x7), (8, aI x8), (9, aI x9), (10, aI x10), (11, aI x11)] [] (abH 71 119 g h) 0 0 := by
  intro x1 x3 x4 x5 x6 x7 x8 x9 x10 x11 h b q
  have e : bX12_joinsAll_153 c158 x1 x3 x4 x5 x6 x7 x8 x9 x10 x11 h = segW 71 119 g.2.2.2.2 krWV clN csX12_joinsAll (cuC 158 (fun l st s => tkC 0 71 l <| tkI 1 l fun x1 => tkI 3 l fun x3 => tkI 4 l fun x4 => tkI 5 l fun x5 => tkI 6 l fun x6 => tkI 7 l fun x7 => tkI 8 l fun x8 => tkI 9 l fun x9 => tkI 10 l fun x10 => tkI 11 l fun x11 => skI st fun y0 st => skE st (c158 x1 x3 x4 x5 x6 x7 x8 x9 x10 x11 y0 s)) cuN) 1000 153 [(0, aR 71), (1, aI x1), (3, aI x3), (4, aI x4), (5, aI x5), (6, aI x6), (7, aI x7), (8, aI x8), (9, aI x9), (10, aI x10), (11, aI x11)] [] h := rfl
  rw [e] at q
  clear e
  refine segW_wk (by decide) (by decide) hg rwX12_joinsAll CLKW_N krWV_ok ?_ q
  clear q
  refine ct_C ?_ (ct_N)
  · intro l st h q
    obtain ⟨m0, q1⟩ := tkC_of q
    obtain ⟨x1, m1, q2⟩ := tkI_of q1
    obtain ⟨x3, m3, q3⟩ := tkI_of q2
    obtain ⟨x4, m4, q4⟩ := tkI_of q3
    obtain ⟨x5, m5, q5⟩ := tkI_of q4
    obtain ⟨x6, m6, q6⟩ := tkI_of q5
    obtain ⟨x7, m7, q7⟩ := tkI_of q6
    obtain ⟨x8, m8, q8⟩ := tkI_of q7
    obtain ⟨x9, m9, q9⟩ := tkI_of q8
    obtain ⟨x10, m10, q10⟩ := tkI_of q9
    obtain ⟨x11, m11, q11⟩ := tkI_of q10
    obtain ⟨y0, t0, rfl, q12⟩ := skI_of q11
    obtain ⟨rfl, q13⟩ := skE_of q12
    exact WK_less (k158 _ _ _ _ _ _ _ _ _ _ _ _ _ q13) (List.forall_mem_cons.mpr ⟨m0, (List.forall_mem_cons.mpr ⟨m1, (List.forall_mem_cons.mpr ⟨m3, (List.forall_mem_cons.mpr ⟨m4, (List.forall_mem_cons.mpr ⟨m5, (List.forall_mem_cons.mpr ⟨m6, (List.forall_mem_cons.mpr ⟨m7, (List.forall_mem_cons.mpr ⟨m8, (List.forall_mem_cons.mpr ⟨m9, (List.forall_mem_cons.mpr ⟨m10, (List.forall_mem_cons.mpr ⟨m11, (fun _ h => absurd h List.not_mem_nil)⟩)⟩)⟩)⟩)⟩)⟩)⟩)⟩)⟩)⟩)⟩)
def nX12_joinsAll_153 (c2 : Int → Int → HH → Option HH) (c17 : Int → Int → Int → Int → Int → HH → Option HH) (x1 : Int) (x3 : Int) (x4 : Int) (x5 : Int) (x6 : Int) (x7 : Int) (x8 : Int) (x9 : Int) (x10 : Int) (x11 : Int) (h : HH) : Option HH := bX12_joinsAll_153 (nX12_joinsAll_158 c2 c17) x1 x3 x4 x5 x6 x7 x8 x9 x10 x11 h
theorem wX12_joinsAll_153 {g : SG} (hg : GOK g) {σ0 : SG} {c2 : Int → Int → HH → Option HH} {c17 : Int → Int → Int → Int → Int → HH → Option HH} (k2 : ∀ (x1 : Int) (x2 : Int) (h : HH) (b : HH), c2 x1 x2 h = some b → WK 214 (.inl none) σ0 (abH 71 119 g b) 2 [(0, aR 71), (1, aI x1), (2, aI x2)] [] (abH 71 119 g h) 0 0) (k17 : ∀ (x1 : Int) (x3 : Int) (x4 : Int) (x5 : Int) (x6 : Int) (h : HH) (b : HH), c17 x1 x3 x4 x5 x6 h = some b → WK 214 (.inl none) σ0 (abH 71 119 g b) 17 [(0, aR 71), (1, aI x1), (3, aI x3), (4, aI x4), (5, aI x5), (6, aI x6)] [] (abH 71 119 g h) 0 0) : ∀ {x1 : Int} {x3 : Int} {x4 : Int} {x5 : Int} {x6 : Int} {x7 : Int} {x8 : Int} {x9 : Int} {x10 : Int} {x11 : Int} {h : HH} {b : HH}, nX12_joinsAll_153 c2 c17 x1 x3 x4 x5 x6 x7 x8 x9 x10 x11 h = some b → WK 214 (.inl none) σ0 (abH 71 119 g b) 153 [(0, aR 71), (1, aI x1), (3, aI x3), (4, aI x4), (5, aI x5), (6, aI x6), (7, aI x7), (8, aI x8), (9, aI x9), (10, aI x10), (11, aI x11)] [] (abH 71 119 g h) 0 0 := by
  intro x1 x3 x4 x5 x6 x7 x8 x9 x10 x11 h b q
  exact uX12_joinsAll_153 hg (fun _ _ _ _ _ _ _ _ _ _ _ _ _ q => wX12_joinsAll_158 hg k2 k17 q) q
def bX12_joinsAll_87 (f213 : HH → Int → Option Int) (f181 : HH → Int → Int → Option Int) (c153 : Int → Int → Int → Int → Int → Int → Int → Int → Int → Int → HH → Option HH) (c158 : Int → Int → Int → Int → Int → Int → Int → Int → Int → Int → Int → HH → Option HH) (x1 : Int) (x3 : Int) (x4 : Int) (x5 : Int) (x6 : Int) (x7 : Int) (x8 : Int) (x9 : Int) (h : HH) : Option HH :=
  bnd (f213 h x8) fun r1 =>
    gd ((0 : Int) ≤ x9 ∧ x9 < (9 : Int)) <|
    bnd (f181 h (h.1 81 x9) 0) fun r2 =>
    gd ((0 : Int) ≤ r1 ∧ r1 < (9 : Int)) <|
    bnd (f181 h 0 (h.1 81 r1)) fun r3 =>
    gd (R32 (r2 + r3)) <|
    gd ((0 : Int) ≤ x9 ∧ x9 < (9 : Int)) <|
    gd ((0 : Int) ≤ r1 ∧ r1 < (9 : Int)) <|
    bnd (f181 h (h.1 81 x9) (h.1 81 r1)) fun r4 =>
    gd (R32 ((r2 + r3) - r4)) <|
    if x3 = ((-1) : Int) then
    c153 x1 x3 x4 x5 x6 x7 x8 x9 r1 ((r2 + r3) - r4) h
  else
    if (x5 : Int) < ((r2 + r3) - r4) then
    c153 x1 x3 x4 x5 x6 x7 x8 x9 r1 ((r2 + r3) - r4) h
  else
    c158 x1 x3 x4 x5 x6 x7 x8 x9 r1 ((r2 + r3) - r4) 0 h
set_option maxRecDepth 100000 in
theorem uX12_joinsAll_87 {g : SG} (hg : GOK g) {σ0 : SG} {c153 : Int → Int → Int → Int → Int → Int → Int → Int → Int → Int → HH → Option HH} {c158 : Int → Int → Int → Int → Int → Int → Int → Int → Int → Int → Int → HH → Option HH} (k153 : ∀ (x1 : Int) (x3 : Int) (x4 : Int) (x5 : Int) (x6 : Int) (x7 : Int) (x8 : Int) (x9 : Int) (x10 : Int) (x11 : Int) (h : HH) (b : HH), c153 x1 x3 x4 x5 x6 x7 x8 x9 x10 x11 h = some b → WK 214 (.inl none) σ0 (abH 71 119 g b) 153 [(0, aR 71), (1, aI x1), (3, aI x3), (4, aI x4), (5, aI x5), (6, aI x6), (7, aI x7), (8, aI x8), (9, aI x9), (10, aI x10), (11, aI x11)] [] (abH 71 119 g h) 0 0) (k158 : ∀ (x1 : Int) (x3 : Int) (x4 : Int) (x5 : Int) (x6 : Int) (x7 : Int) (x8 : Int) (x9 : Int) (x10 : Int) (x11 : Int) (y0 : Int) (h : HH) (b : HH), c158 x1 x3 x4 x5 x6 x7 x8 x9 x10 x11 y0 h = some b → WK 214 (.inl none) σ0 (abH 71 119 g b) 158 [(0, aR 71), (1, aI x1), (3, aI x3), (4, aI x4), (5, aI x5), (6, aI x6), (7, aI x7), (8, aI x8), (9, aI x9), (10, aI x10), (11, aI x11)] [aI y0] (abH 71 119 g h) 0 0) : ∀ {x1 : Int} {x3 : Int} {x4 : Int} {x5 : Int} {x6 : Int} {x7 : Int} {x8 : Int} {x9 : Int} {h : HH} {b : HH}, bX12_joinsAll_87 nX12_firstOf nX12_d c153 c158 x1 x3 x4 x5 x6 x7 x8 x9 h = some b → WK 214 (.inl none) σ0 (abH 71 119 g b) 87 [(0, aR 71), (1, aI x1), (3, aI x3), (4, aI x4), (5, aI x5), (6, aI x6), (7, aI x7), (8, aI x8), (9, aI x9)] [] (abH 71 119 g h) 0 0 := by
  intro x1 x3 x4 x5 x6 x7 x8 x9 h b q
  have e : ∀ (f213 : HH → Int → Option Int) (f181 : HH → Int → Int → Option Int) , bX12_joinsAll_87 f213 f181 c153 c158 x1 x3 x4 x5 x6 x7 x8 x9 h = segW 71 119 g.2.2.2.2 krWV (clC 213 (liPW (pX12_firstOf f213)) (clC 181 (liPW (pX12_d f181)) clN)) csX12_joinsAll (cuC 153 (fun l st s => tkC 0 71 l <| tkI 1 l fun x1 => tkI 3 l fun x3 => tkI 4 l fun x4 => tkI 5 l fun x5 => tkI 6 l fun x6 => tkI 7 l fun x7 => tkI 8 l fun x8 => tkI 9 l fun x9 => tkI 10 l fun x10 => tkI 11 l fun x11 => skE st (c153 x1 x3 x4 x5 x6 x7 x8 x9 x10 x11 s)) (cuC 158 (fun l st s => tkC 0 71 l <| tkI 1 l fun x1 => tkI 3 l fun x3 => tkI 4 l fun x4 => tkI 5 l fun x5 => tkI 6 l fun x6 => tkI 7 l fun x7 => tkI 8 l fun x8 => tkI 9 l fun x9 => tkI 10 l fun x10 => tkI 11 l fun x11 => skI st fun y0 st => skE st (c158 x1 x3 x4 x5 x6 x7 x8 x9 x10 x11 y0 s)) cuN)) 1000 87 [(0, aR 71), (1, aI x1), (3, aI x3), (4, aI x4), (5, aI x5), (6, aI x6), (7, aI x7), (8, aI x8), (9, aI x9)] [] h := fun _ _ => rfl
  rw [e nX12_firstOf nX12_d] at q
  clear e
  refine segW_wk (by decide) (by decide) hg rwX12_joinsAll (CLKW_C (liPW_ok (pX12_firstOf_ok hg)) (CLKW_C (liPW_ok (pX12_d_ok hg)) CLKW_N)) krWV_ok ?_ q
  clear q
  refine ct_C ?_ (ct_C ?_ (ct_N))
  · intro l st h q
    obtain ⟨m0, q1⟩ := tkC_of q
    obtain ⟨x1, m1, q2⟩ := tkI_of q1
    obtain ⟨x3, m3, q3⟩ := tkI_of q2
    obtain ⟨x4, m4, q4⟩ := tkI_of q3
    obtain ⟨x5, m5, q5⟩ := tkI_of q4
    obtain ⟨x6, m6, q6⟩ := tkI_of q5
    obtain ⟨x7, m7, q7⟩ := tkI_of q6
    obtain ⟨x8, m8, q8⟩ := tkI_of q7
    obtain ⟨x9, m9, q9⟩ := tkI_of q8
    obtain ⟨x10, m10, q10⟩ := tkI_of q9
    obtain ⟨x11, m11, q11⟩ := tkI_of q10
    obtain ⟨rfl, q12⟩ := skE_of q11
    exact WK_less (k153 _ _ _ _ _ _ _ _ _ _ _ _ q12) (List.forall_mem_cons.mpr ⟨m0, (List.forall_mem_cons.mpr ⟨m1, (List.forall_mem_cons.mpr ⟨m3, (List.forall_mem_cons.mpr ⟨m4, (List.forall_mem_cons.mpr ⟨m5, (List.forall_mem_cons.mpr ⟨m6, (List.forall_mem_cons.mpr ⟨m7, (List.forall_mem_cons.mpr ⟨m8, (List.forall_mem_cons.mpr ⟨m9, (List.forall_mem_cons.mpr ⟨m10, (List.forall_mem_cons.mpr ⟨m11, (fun _ h => absurd h List.not_mem_nil)⟩)⟩)⟩)⟩)⟩)⟩)⟩)⟩)⟩)⟩)⟩)
  · intro l st h q
    obtain ⟨m0, q1⟩ := tkC_of q
    obtain ⟨x1, m1, q2⟩ := tkI_of q1
    obtain ⟨x3, m3, q3⟩ := tkI_of q2
    obtain ⟨x4, m4, q4⟩ := tkI_of q3
    obtain ⟨x5, m5, q5⟩ := tkI_of q4
    obtain ⟨x6, m6, q6⟩ := tkI_of q5
    obtain ⟨x7, m7, q7⟩ := tkI_of q6
    obtain ⟨x8, m8, q8⟩ := tkI_of q7
    obtain ⟨x9, m9, q9⟩ := tkI_of q8
    obtain ⟨x10, m10, q10⟩ := tkI_of q9
    obtain ⟨x11, m11, q11⟩ := tkI_of q10
    obtain ⟨y0, t0, rfl, q12⟩ := skI_of q11
    obtain ⟨rfl, q13⟩ := skE_of q12
    exact WK_less (k158 _ _ _ _ _ _ _ _ _ _ _ _ _ q13) (List.forall_mem_cons.mpr ⟨m0, (List.forall_mem_cons.mpr ⟨m1, (List.forall_mem_cons.mpr ⟨m3, (List.forall_mem_cons.mpr ⟨m4, (List.forall_mem_cons.mpr ⟨m5, (List.forall_mem_cons.mpr ⟨m6, (List.forall_mem_cons.mpr ⟨m7, (List.forall_mem_cons.mpr ⟨m8, (List.forall_mem_cons.mpr ⟨m9, (List.forall_mem_cons.mpr ⟨m10, (List.forall_mem_cons.mpr ⟨m11, (fun _ h => absurd h List.not_mem_nil)⟩)⟩)⟩)⟩)⟩)⟩)⟩)⟩)⟩)⟩)⟩)
def nX12_joinsAll_87 (c2 : Int → Int → HH → Option HH) (c17 : Int → Int → Int → Int → Int → HH → Option HH) (x1 : Int) (x3 : Int) (x4 : Int) (x5 : Int) (x6 : Int) (x7 : Int) (x8 : Int) (x9 : Int) (h : HH) : Option HH := bX12_joinsAll_87 nX12_firstOf nX12_d (nX12_joinsAll_153 c2 c17) (nX12_joinsAll_158 c2 c17) x1 x3 x4 x5 x6 x7 x8 x9 h
theorem wX12_joinsAll_87 {g : SG} (hg : GOK g) {σ0 : SG} {c2 : Int → Int → HH → Option HH} {c17 : Int → Int → Int → Int → Int → HH → Option HH} (k2 : ∀ (x1 : Int) (x2 : Int) (h : HH) (b : HH), c2 x1 x2 h = some b → WK 214 (.inl none) σ0 (abH 71 119 g b) 2 [(0, aR 71), (1, aI x1), (2, aI x2)] [] (abH 71 119 g h) 0 0) (k17 : ∀ (x1 : Int) (x3 : Int) (x4 : Int) (x5 : Int) (x6 : Int) (h : HH) (b : HH), c17 x1 x3 x4 x5 x6 h = some b → WK 214 (.inl none) σ0 (abH 71 119 g b) 17 [(0, aR 71), (1, aI x1), (3, aI x3), (4, aI x4), (5, aI x5), (6, aI x6)] [] (abH 71 119 g h) 0 0) : ∀ {x1 : Int} {x3 : Int} {x4 : Int} {x5 : Int} {x6 : Int} {x7 : Int} {x8 : Int} {x9 : Int} {h : HH} {b : HH}, nX12_joinsAll_87 c2 c17 x1 x3 x4 x5 x6 x7 x8 x9 h = some b → WK 214 (.inl none) σ0 (abH 71 119 g b) 87 [(0, aR 71), (1, aI x1), (3, aI x3), (4, aI x4), (5, aI x5), (6, aI x6), (7, aI x7), (8, aI x8), (9, aI x9)] [] (abH 71 119 g h) 0 0 := by
  intro x1 x3 x4 x5 x6 x7 x8 x9 h b q
  exact uX12_joinsAll_87 hg (fun _ _ _ _ _ _ _ _ _ _ _ _ q => wX12_joinsAll_153 hg k2 k17 q) (fun _ _ _ _ _ _ _ _ _ _ _ _ _ q => wX12_joinsAll_158 hg k2 k17 q) q
def bX12_joinsAll_17 (f211 : Int → Int → HH → Option HH) (f192 : Int → HH → Option (Int × HH)) (f212 : HH → Int → Option Int) (c87 : Int → Int → Int → Int → Int → Int → Int → Int → HH → Option HH) (c250 : Int → Int → Int → Int → Int → HH → Option HH) (c266 : Int → Int → Int → Int → HH → Option HH) (x1 : Int) (x3 : Int) (x4 : Int) (x5 : Int) (x6 : Int) (h : HH) : Option HH :=
  gd (R32 ((h.1 71 62) * (h.1 71 62))) <|
    if x6 < (((h.1 71 62) * (h.1 71 62)) : Int) then
    gd ((0 : Int) ≤ x6 ∧ (0 : Int) < (h.1 71 62)) <|
    gd ((0 : Int) ≤ x6 ∧ (0 : Int) < (h.1 71 62)) <|
    if (x6 / (h.1 71 62)) = ((x6 % (h.1 71 62)) : Int) then
    c250 x1 x3 x4 x5 x6 h
  else
    bnd (f211 (x6 / (h.1 71 62)) (x6 % (h.1 71 62)) h) fun r1 =>
    bnd (f192 x1 r1) fun r2 =>
    if r2.1 = ((-1) : Int) then
    c250 x1 x3 x4 x5 x6 r2.2
  else
    bnd (f212 r2.2 (x6 / (h.1 71 62))) fun r3 =>
    c87 x1 x3 x4 x5 x6 (x6 / (h.1 71 62)) (x6 % (h.1 71 62)) r3 r2.2
  else
    if x3 = ((-1) : Int) then
    c266 x1 x3 x4 0 h
  else
    c266 x1 x3 x4 1 h
set_option maxRecDepth 100000 in
theorem uX12_joinsAll_17 {g : SG} (hg : GOK g) {σ0 : SG} {c87 : Int → Int → Int → Int → Int → Int → Int → Int → HH → Option HH} {c250 : Int → Int → Int → Int → Int → HH → Option HH} {c266 : Int → Int → Int → Int → HH → Option HH} (k87 : ∀ (x1 : Int) (x3 : Int) (x4 : Int) (x5 : Int) (x6 : Int) (x7 : Int) (x8 : Int) (x9 : Int) (h : HH) (b : HH), c87 x1 x3 x4 x5 x6 x7 x8 x9 h = some b → WK 214 (.inl none) σ0 (abH 71 119 g b) 87 [(0, aR 71), (1, aI x1), (3, aI x3), (4, aI x4), (5, aI x5), (6, aI x6), (7, aI x7), (8, aI x8), (9, aI x9)] [] (abH 71 119 g h) 0 0) (k250 : ∀ (x1 : Int) (x3 : Int) (x4 : Int) (x5 : Int) (x6 : Int) (h : HH) (b : HH), c250 x1 x3 x4 x5 x6 h = some b → WK 214 (.inl none) σ0 (abH 71 119 g b) 250 [(0, aR 71), (1, aI x1), (3, aI x3), (4, aI x4), (5, aI x5), (6, aI x6)] [] (abH 71 119 g h) 0 0) (k266 : ∀ (x1 : Int) (x3 : Int) (x4 : Int) (y0 : Int) (h : HH) (b : HH), c266 x1 x3 x4 y0 h = some b → WK 214 (.inl none) σ0 (abH 71 119 g b) 266 [(0, aR 71), (1, aI x1), (3, aI x3), (4, aI x4)] [aI y0] (abH 71 119 g h) 0 0) : ∀ {x1 : Int} {x3 : Int} {x4 : Int} {x5 : Int} {x6 : Int} {h : HH} {b : HH}, bX12_joinsAll_17 nX12_joinsPieces nX12_drives nX12_lastOf c87 c250 c266 x1 x3 x4 x5 x6 h = some b → WK 214 (.inl none) σ0 (abH 71 119 g b) 17 [(0, aR 71), (1, aI x1), (3, aI x3), (4, aI x4), (5, aI x5), (6, aI x6)] [] (abH 71 119 g h) 0 0 := by
  intro x1 x3 x4 x5 x6 h b q
  have e : ∀ (f211 : Int → Int → HH → Option HH) (f192 : Int → HH → Option (Int × HH)) (f212 : HH → Int → Option Int) , bX12_joinsAll_17 f211 f192 f212 c87 c250 c266 x1 x3 x4 x5 x6 h = segW 71 119 g.2.2.2.2 krWV (clC 211 (pX12_joinsPieces f211) (clC 192 (pX12_drives f192) (clC 212 (liPW (pX12_lastOf f212)) clN))) csX12_joinsAll (cuC 87 (fun l st s => tkC 0 71 l <| tkI 1 l fun x1 => tkI 3 l fun x3 => tkI 4 l fun x4 => tkI 5 l fun x5 => tkI 6 l fun x6 => tkI 7 l fun x7 => tkI 8 l fun x8 => tkI 9 l fun x9 => skE st (c87 x1 x3 x4 x5 x6 x7 x8 x9 s)) (cuC 250 (fun l st s => tkC 0 71 l <| tkI 1 l fun x1 => tkI 3 l fun x3 => tkI 4 l fun x4 => tkI 5 l fun x5 => tkI 6 l fun x6 => skE st (c250 x1 x3 x4 x5 x6 s)) (cuC 266 (fun l st s => tkC 0 71 l <| tkI 1 l fun x1 => tkI 3 l fun x3 => tkI 4 l fun x4 => skI st fun y0 st => skE st (c266 x1 x3 x4 y0 s)) cuN))) 1000 17 [(0, aR 71), (1, aI x1), (3, aI x3), (4, aI x4), (5, aI x5), (6, aI x6)] [] h := fun _ _ _ => rfl
  rw [e nX12_joinsPieces nX12_drives nX12_lastOf] at q
  clear e
  refine segW_wk (by decide) (by decide) hg rwX12_joinsAll (CLKW_C (pX12_joinsPieces_ok hg) (CLKW_C (pX12_drives_ok hg) (CLKW_C (liPW_ok (pX12_lastOf_ok hg)) CLKW_N))) krWV_ok ?_ q
  clear q
  refine ct_C ?_ (ct_C ?_ (ct_C ?_ (ct_N)))
  · intro l st h q
    obtain ⟨m0, q1⟩ := tkC_of q
    obtain ⟨x1, m1, q2⟩ := tkI_of q1
    obtain ⟨x3, m3, q3⟩ := tkI_of q2
    obtain ⟨x4, m4, q4⟩ := tkI_of q3
    obtain ⟨x5, m5, q5⟩ := tkI_of q4
    obtain ⟨x6, m6, q6⟩ := tkI_of q5
    obtain ⟨x7, m7, q7⟩ := tkI_of q6
    obtain ⟨x8, m8, q8⟩ := tkI_of q7
    obtain ⟨x9, m9, q9⟩ := tkI_of q8
    obtain ⟨rfl, q10⟩ := skE_of q9
    exact WK_less (k87 _ _ _ _ _ _ _ _ _ _ q10) (List.forall_mem_cons.mpr ⟨m0, (List.forall_mem_cons.mpr ⟨m1, (List.forall_mem_cons.mpr ⟨m3, (List.forall_mem_cons.mpr ⟨m4, (List.forall_mem_cons.mpr ⟨m5, (List.forall_mem_cons.mpr ⟨m6, (List.forall_mem_cons.mpr ⟨m7, (List.forall_mem_cons.mpr ⟨m8, (List.forall_mem_cons.mpr ⟨m9, (fun _ h => absurd h List.not_mem_nil)⟩)⟩)⟩)⟩)⟩)⟩)⟩)⟩)⟩)
  · intro l st h q
    obtain ⟨m0, q1⟩ := tkC_of q
    obtain ⟨x1, m1, q2⟩ := tkI_of q1
    obtain ⟨x3, m3, q3⟩ := tkI_of q2
    obtain ⟨x4, m4, q4⟩ := tkI_of q3
    obtain ⟨x5, m5, q5⟩ := tkI_of q4
    obtain ⟨x6, m6, q6⟩ := tkI_of q5
    obtain ⟨rfl, q7⟩ := skE_of q6
    exact WK_less (k250 _ _ _ _ _ _ _ q7) (List.forall_mem_cons.mpr ⟨m0, (List.forall_mem_cons.mpr ⟨m1, (List.forall_mem_cons.mpr ⟨m3, (List.forall_mem_cons.mpr ⟨m4, (List.forall_mem_cons.mpr ⟨m5, (List.forall_mem_cons.mpr ⟨m6, (fun _ h => absurd h List.not_mem_nil)⟩)⟩)⟩)⟩)⟩)⟩)
  · intro l st h q
    obtain ⟨m0, q1⟩ := tkC_of q
    obtain ⟨x1, m1, q2⟩ := tkI_of q1
    obtain ⟨x3, m3, q3⟩ := tkI_of q2
    obtain ⟨x4, m4, q4⟩ := tkI_of q3
    obtain ⟨y0, t0, rfl, q5⟩ := skI_of q4
    obtain ⟨rfl, q6⟩ := skE_of q5
    exact WK_less (k266 _ _ _ _ _ _ q6) (List.forall_mem_cons.mpr ⟨m0, (List.forall_mem_cons.mpr ⟨m1, (List.forall_mem_cons.mpr ⟨m3, (List.forall_mem_cons.mpr ⟨m4, (fun _ h => absurd h List.not_mem_nil)⟩)⟩)⟩)⟩)
def nX12_joinsAll_17 (c2 : Int → Int → HH → Option HH) : Nat → Int → Int → Int → Int → Int → HH → Option HH := iter (fun _ _ _ _ _ _ => none) (fun self => bX12_joinsAll_17 nX12_joinsPieces nX12_drives nX12_lastOf (nX12_joinsAll_87 c2 self) (nX12_joinsAll_250 c2 self) (nX12_joinsAll_266 c2))
theorem nX12_joinsAll_17_s {c2 : Int → Int → HH → Option HH} {F : Nat} : nX12_joinsAll_17 c2 (F + 1) = bX12_joinsAll_17 nX12_joinsPieces nX12_drives nX12_lastOf (nX12_joinsAll_87 c2 (nX12_joinsAll_17 c2 F)) (nX12_joinsAll_250 c2 (nX12_joinsAll_17 c2 F)) (nX12_joinsAll_266 c2) := rfl
theorem wX12_joinsAll_17 {g : SG} (hg : GOK g) {σ0 : SG} {c2 : Int → Int → HH → Option HH} (k2 : ∀ (x1 : Int) (x2 : Int) (h : HH) (b : HH), c2 x1 x2 h = some b → WK 214 (.inl none) σ0 (abH 71 119 g b) 2 [(0, aR 71), (1, aI x1), (2, aI x2)] [] (abH 71 119 g h) 0 0) : ∀ {F : Nat}, ∀ {x1 : Int} {x3 : Int} {x4 : Int} {x5 : Int} {x6 : Int} {h : HH} {b : HH}, nX12_joinsAll_17 c2 F x1 x3 x4 x5 x6 h = some b → WK 214 (.inl none) σ0 (abH 71 119 g b) 17 [(0, aR 71), (1, aI x1), (3, aI x3), (4, aI x4), (5, aI x5), (6, aI x6)] [] (abH 71 119 g h) 0 0 := by
  intro F
  have z : ∀ (x1 : Int) (x3 : Int) (x4 : Int) (x5 : Int) (x6 : Int) (h : HH) (b : HH), nX12_joinsAll_17 c2 F x1 x3 x4 x5 x6 h = some b → WK 214 (.inl none) σ0 (abH 71 119 g b) 17 [(0, aR 71), (1, aI x1), (3, aI x3), (4, aI x4), (5, aI x5), (6, aI x6)] [] (abH 71 119 g h) 0 0 := iter_ind (P := fun (c : Int → Int → Int → Int → Int → HH → Option HH) => ∀ (x1 : Int) (x3 : Int) (x4 : Int) (x5 : Int) (x6 : Int) (h : HH) (b : HH), c x1 x3 x4 x5 x6 h = some b → WK 214 (.inl none) σ0 (abH 71 119 g b) 17 [(0, aR 71), (1, aI x1), (3, aI x3), (4, aI x4), (5, aI x5), (6, aI x6)] [] (abH 71 119 g h) 0 0) (by
    intro x1 x3 x4 x5 x6 h b q
    cases q) (fun self ih => by
    intro x1 x3 x4 x5 x6 h b q
    exact uX12_joinsAll_17 hg (fun _ _ _ _ _ _ _ _ _ _ q => wX12_joinsAll_87 hg k2 ih q) (fun _ _ _ _ _ _ _ q => wX12_joinsAll_250 hg k2 ih q) (fun _ _ _ _ _ _ q => wX12_joinsAll_266 hg k2 q) q) F
  intro x1 x3 x4 x5 x6 h b q
  exact z _ _ _ _ _ _ _ q
def bX12_joinsAll_2 (c17 : Int → Int → Int → Int → Int → HH → Option HH) (x1 : Int) (x2 : Int) (h : HH) : Option HH :=
  if x2 = (0 : Int) then
    some h
  else
    c17 x1 (-1) (-1) 0 0 h
theorem uX12_joinsAll_2 {g : SG} (hg : GOK g) {σ0 : SG} {c17 : Int → Int → Int → Int → Int → HH → Option HH} (k17 : ∀ (x1 : Int) (x3 : Int) (x4 : Int) (x5 : Int) (x6 : Int) (h : HH) (b : HH), c17 x1 x3 x4 x5 x6 h = some b → WK 214 (.inl none) σ0 (abH 71 119 g b) 17 [(0, aR 71), (1, aI x1), (3, aI x3), (4, aI x4), (5, aI x5), (6, aI x6)] [] (abH 71 119 g h) 0 0) : ∀ {x1 : Int} {x2 : Int} {h : HH} {b : HH}, bX12_joinsAll_2 c17 x1 x2 h = some b → WK 214 (.inl none) σ0 (abH 71 119 g b) 2 [(0, aR 71), (1, aI x1), (2, aI x2)] [] (abH 71 119 g h) 0 0 := by
  intro x1 x2 h b q
  have e : bX12_joinsAll_2 c17 x1 x2 h = segW 71 119 g.2.2.2.2 krWV clN csX12_joinsAll (cuC 17 (fun l st s => tkC 0 71 l <| tkI 1 l fun x1 => tkI 3 l fun x3 => tkI 4 l fun x4 => tkI 5 l fun x5 => tkI 6 l fun x6 => skE st (c17 x1 x3 x4 x5 x6 s)) cuN) 1000 2 [(0, aR 71), (1, aI x1), (2, aI x2)] [] h := rfl
  rw [e] at q
  clear e
  refine segW_wk (by decide) (by decide) hg rwX12_joinsAll CLKW_N krWV_ok ?_ q
  clear q
  refine ct_C ?_ (ct_N)
  · intro l st h q
    obtain ⟨m0, q1⟩ := tkC_of q
    obtain ⟨x1, m1, q2⟩ := tkI_of q1
    obtain ⟨x3, m3, q3⟩ := tkI_of q2
    obtain ⟨x4, m4, q4⟩ := tkI_of q3
    obtain ⟨x5, m5, q5⟩ := tkI_of q4
    obtain ⟨x6, m6, q6⟩ := tkI_of q5
    obtain ⟨rfl, q7⟩ := skE_of q6
    exact WK_less (k17 _ _ _ _ _ _ _ q7) (List.forall_mem_cons.mpr ⟨m0, (List.forall_mem_cons.mpr ⟨m1, (List.forall_mem_cons.mpr ⟨m3, (List.forall_mem_cons.mpr ⟨m4, (List.forall_mem_cons.mpr ⟨m5, (List.forall_mem_cons.mpr ⟨m6, (fun _ h => absurd h List.not_mem_nil)⟩)⟩)⟩)⟩)⟩)⟩)
def nX12_joinsAll_2 : Nat → Int → Int → HH → Option HH := iter (fun _ _ _ => none) (fun self => bX12_joinsAll_2 (nX12_joinsAll_17 self 100000))
theorem nX12_joinsAll_2_s {F : Nat} : nX12_joinsAll_2 (F + 1) = bX12_joinsAll_2 (nX12_joinsAll_17 (nX12_joinsAll_2 F) 100000) := rfl
theorem wX12_joinsAll_2 {g : SG} (hg : GOK g) {σ0 : SG} : ∀ {F : Nat}, ∀ {x1 : Int} {x2 : Int} {h : HH} {b : HH}, nX12_joinsAll_2 F x1 x2 h = some b → WK 214 (.inl none) σ0 (abH 71 119 g b) 2 [(0, aR 71), (1, aI x1), (2, aI x2)] [] (abH 71 119 g h) 0 0 := by
  intro F
  have z : ∀ (x1 : Int) (x2 : Int) (h : HH) (b : HH), nX12_joinsAll_2 F x1 x2 h = some b → WK 214 (.inl none) σ0 (abH 71 119 g b) 2 [(0, aR 71), (1, aI x1), (2, aI x2)] [] (abH 71 119 g h) 0 0 := iter_ind (P := fun (c : Int → Int → HH → Option HH) => ∀ (x1 : Int) (x2 : Int) (h : HH) (b : HH), c x1 x2 h = some b → WK 214 (.inl none) σ0 (abH 71 119 g b) 2 [(0, aR 71), (1, aI x1), (2, aI x2)] [] (abH 71 119 g h) 0 0) (by
    intro x1 x2 h b q
    cases q) (fun self ih => by
    intro x1 x2 h b q
    exact uX12_joinsAll_2 hg (fun _ _ _ _ _ _ _ q => wX12_joinsAll_17 hg ih q) q) F
  intro x1 x2 h b q
  exact z _ _ _ _ q
def bX12_joinsAll (c2 : Int → Int → HH → Option HH) (x1 : Int) (h : HH) : Option HH :=
  c2 x1 1 h
theorem uX12_joinsAll {g : SG} (hg : GOK g) {σ0 : SG} {c2 : Int → Int → HH → Option HH} (k2 : ∀ (x1 : Int) (x2 : Int) (h : HH) (b : HH), c2 x1 x2 h = some b → WK 214 (.inl none) σ0 (abH 71 119 g b) 2 [(0, aR 71), (1, aI x1), (2, aI x2)] [] (abH 71 119 g h) 0 0) : ∀ {x1 : Int} {h : HH} {b : HH}, bX12_joinsAll c2 x1 h = some b → WK 214 (.inl none) σ0 (abH 71 119 g b) 0 [(0, aR 71), (1, aI x1)] [] (abH 71 119 g h) 0 0 := by
  intro x1 h b q
  have e : bX12_joinsAll c2 x1 h = segW 71 119 g.2.2.2.2 krWV clN csX12_joinsAll (cuC 2 (fun l st s => tkC 0 71 l <| tkI 1 l fun x1 => tkI 2 l fun x2 => skE st (c2 x1 x2 s)) cuN) 1000 0 [(0, aR 71), (1, aI x1)] [] h := rfl
  rw [e] at q
  clear e
  refine segW_wk (by decide) (by decide) hg rwX12_joinsAll CLKW_N krWV_ok ?_ q
  clear q
  refine ct_C ?_ (ct_N)
  · intro l st h q
    obtain ⟨m0, q1⟩ := tkC_of q
    obtain ⟨x1, m1, q2⟩ := tkI_of q1
    obtain ⟨x2, m2, q3⟩ := tkI_of q2
    obtain ⟨rfl, q4⟩ := skE_of q3
    exact WK_less (k2 _ _ _ _ q4) (List.forall_mem_cons.mpr ⟨m0, (List.forall_mem_cons.mpr ⟨m1, (List.forall_mem_cons.mpr ⟨m2, (fun _ h => absurd h List.not_mem_nil)⟩)⟩)⟩)
def nX12_joinsAll (x1 : Int) (h : HH) : Option HH := bX12_joinsAll (nX12_joinsAll_2 100000) x1 h
theorem wX12_joinsAll {g : SG} (hg : GOK g) {σ0 : SG} : ∀ {x1 : Int} {h : HH} {b : HH}, nX12_joinsAll x1 h = some b → WK 214 (.inl none) σ0 (abH 71 119 g b) 0 [(0, aR 71), (1, aI x1)] [] (abH 71 119 g h) 0 0 := by
  intro x1 h b q
  exact uX12_joinsAll hg (fun _ _ _ _ q => wX12_joinsAll_2 hg q) q
theorem mX12_joinsAll {g : SG} (hg : GOK g) {h : HH} {x1 : Int} {b : HH} (q : nX12_joinsAll x1 h = some b) : MCT 214 [] [aR 71, aI x1] (abH 71 119 g h) (.inl none) (abH 71 119 g b) :=
  mct_of (by decide) (MFok 214 (by decide +kernel)) (fun _ => Nat.le_of_ble_eq_true rfl) (wX12_joinsAll hg q)
def pX12_joinsAll {β : Type} (z : Int → HH → Option HH) : PW β := fun as h f => skC 71 as fun as => skI as fun x1 as => skE as (bnd (z x1 h) fun r => f (.inl none) r)
theorem pX12_joinsAll_ok {β : Type} {g : SG} (hg : GOK g) : CW1 (β := β) 214 (pX12_joinsAll nX12_joinsAll) 71 119 g := fun as h f b q => by
  obtain ⟨as, rfl, q1⟩ := skC_of q
  obtain ⟨x1, as, rfl, q2⟩ := skI_of q1
  obtain ⟨rfl, q0⟩ := skE_of q2
  obtain ⟨r, z1, z2⟩ := bnd_of q0
  exact ⟨_, _, z2, by decide, mX12_joinsAll hg z1, rfl, rfl, fun z => absurd z (by decide)⟩
def csX12_savings : List (Nat × List (Nat × ARow)) := [(38, [(0, 1, .aload_n 0, 0, 0, 0), (1, 1, .iload_n 1, 0, 0, 0), (2, 3, .invokevirtual 260, 176, 2, 12), (5, 3, .ifCond .ne 9, 14, 0, 0), (8, 1, .aload_n 0, 0, 0, 0), (9, 1, .iconst 1, 0, 0, 0), (10, 3, .invokevirtual 200, 177, 2, 12), (13, 1, .ireturn, 0, 0, 0), (14, 1, .aload_n 0, 0, 0, 0), (15, 3, .getfield 79, 12, 26, 2), (18, 1, .iload_n 1, 0, 0, 0), (19, 1, .iaload, 0, 0, 0), (20, 3, .ifCond .le 9, 29, 0, 0), (23, 1, .aload_n 0, 0, 0, 0), (24, 1, .iconst 2, 0, 0, 0), (25, 3, .invokevirtual 200, 177, 2, 12), (28, 1, .ireturn, 0, 0, 0), (29, 1, .aload_n 0, 0, 0, 0), (30, 1, .iconst 0, 0, 0, 0), (31, 3, .putfield 292, 12, 62, 0), (34, 1, .iconst 0, 0, 0, 0), (35, 1, .istore_n 2, 0, 0, 0), (36, 1, .iload_n 2, 0, 0, 0), (37, 1, .aload_n 0, 0, 0, 0)]),
  (83, [(38, 3, .getfield 182, 12, 21, 0), (41, 3, .if_icmp .ge 71, 112, 0, 0), (44, 1, .aload_n 0, 0, 0, 0), (45, 1, .iconst 1, 0, 0, 0), (46, 3, .putfield 241, 12, 51, 0), (49, 1, .aload_n 0, 0, 0, 0), (50, 3, .getfield 127, 12, 47, 2), (53, 1, .iconst 0, 0, 0, 0), (54, 1, .iload_n 2, 0, 0, 0), (55, 1, .iastore, 0, 0, 0), (56, 1, .aload_n 0, 0, 0, 0), (57, 1, .iload_n 2, 0, 0, 0), (58, 3, .invokevirtual 263, 199, 2, 12), (61, 3, .ifCond .eq 45, 106, 0, 0), (64, 1, .aload_n 0, 0, 0, 0), (65, 1, .iload_n 1, 0, 0, 0), (66, 3, .invokevirtual 254, 192, 2, 12), (69, 1, .iconst (-1), 0, 0, 0), (70, 3, .if_icmp .eq 36, 106, 0, 0), (73, 1, .aload_n 0, 0, 0, 0), (74, 3, .getfield 142, 12, 60, 2), (77, 2, .bipush 9, 0, 0, 0), (79, 1, .aload_n 0, 0, 0, 0), (80, 3, .getfield 292, 12, 62, 0)]),
  (121, [(83, 1, .imul, 0, 0, 0), (84, 1, .iload_n 2, 0, 0, 0), (85, 1, .iastore, 0, 0, 0), (86, 1, .aload_n 0, 0, 0, 0), (87, 3, .getfield 145, 12, 61, 2), (90, 1, .aload_n 0, 0, 0, 0), (91, 3, .getfield 292, 12, 62, 0), (94, 1, .iconst 1, 0, 0, 0), (95, 1, .iastore, 0, 0, 0), (96, 1, .aload_n 0, 0, 0, 0), (97, 1, .dup, 0, 0, 0), (98, 3, .getfield 292, 12, 62, 0), (101, 1, .iconst 1, 0, 0, 0), (102, 1, .iadd, 0, 0, 0), (103, 3, .putfield 292, 12, 62, 0), (106, 3, .iinc 2 1, 0, 0, 0), (109, 3, .goto (-73), 36, 0, 0), (112, 1, .aload_n 0, 0, 0, 0), (113, 1, .iload_n 1, 0, 0, 0), (114, 3, .invokevirtual 304, 214, 2, 12), (117, 1, .iconst (-1), 0, 0, 0), (118, 1, .istore_n 2, 0, 0, 0), (119, 1, .iconst 0, 0, 0, 0), (120, 1, .istore_n 3, 0, 0, 0)]),
  (161, [(121, 1, .iload_n 3, 0, 0, 0), (122, 1, .aload_n 0, 0, 0, 0), (123, 3, .getfield 292, 12, 62, 0), (126, 3, .if_icmp .ge 75, 201, 0, 0), (129, 1, .iload_n 2, 0, 0, 0), (130, 1, .iconst (-1), 0, 0, 0), (131, 3, .if_icmp .eq 46, 177, 0, 0), (134, 1, .aload_n 0, 0, 0, 0), (135, 3, .getfield 145, 12, 61, 2), (138, 1, .iload_n 3, 0, 0, 0), (139, 1, .iaload, 0, 0, 0), (140, 1, .aload_n 0, 0, 0, 0), (141, 3, .getfield 145, 12, 61, 2), (144, 1, .iload_n 2, 0, 0, 0), (145, 1, .iaload, 0, 0, 0), (146, 3, .if_icmp .gt 31, 177, 0, 0), (149, 1, .aload_n 0, 0, 0, 0), (150, 3, .getfield 145, 12, 61, 2), (153, 1, .iload_n 3, 0, 0, 0), (154, 1, .iaload, 0, 0, 0), (155, 1, .aload_n 0, 0, 0, 0), (156, 3, .getfield 145, 12, 61, 2), (159, 1, .iload_n 2, 0, 0, 0), (160, 1, .iaload, 0, 0, 0)]),
  (207, [(161, 3, .if_icmp .ne 20, 181, 0, 0), (164, 1, .aload_n 0, 0, 0, 0), (165, 1, .iload_n 3, 0, 0, 0), (166, 3, .invokevirtual 301, 213, 2, 12), (169, 1, .aload_n 0, 0, 0, 0), (170, 1, .iload_n 2, 0, 0, 0), (171, 3, .invokevirtual 301, 213, 2, 12), (174, 3, .if_icmp .ge 7, 181, 0, 0), (177, 1, .iconst 1, 0, 0, 0), (178, 3, .goto 4, 182, 0, 0), (181, 1, .iconst 0, 0, 0, 0), (182, 2, .istore 4, 0, 0, 0), (184, 2, .iload 4, 0, 0, 0), (186, 3, .ifCond .eq 7, 193, 0, 0), (189, 1, .iload_n 3, 0, 0, 0), (190, 3, .goto 4, 194, 0, 0), (193, 1, .iload_n 2, 0, 0, 0), (194, 1, .istore_n 2, 0, 0, 0), (195, 3, .iinc 3 1, 0, 0, 0), (198, 3, .goto (-77), 121, 0, 0), (201, 1, .aload_n 0, 0, 0, 0), (202, 1, .iload_n 2, 0, 0, 0), (203, 1, .iconst (-1), 0, 0, 0), (204, 3, .if_icmp .ne 7, 211, 0, 0)]),
  (246, [(207, 1, .iconst 0, 0, 0, 0), (208, 3, .goto 9, 217, 0, 0), (211, 1, .aload_n 0, 0, 0, 0), (212, 3, .getfield 145, 12, 61, 2), (215, 1, .iload_n 2, 0, 0, 0), (216, 1, .iaload, 0, 0, 0), (217, 3, .putfield 241, 12, 51, 0), (220, 1, .iconst 0, 0, 0, 0), (221, 1, .istore_n 3, 0, 0, 0), (222, 1, .iload_n 3, 0, 0, 0), (223, 1, .aload_n 0, 0, 0, 0), (224, 3, .getfield 241, 12, 51, 0), (227, 3, .if_icmp .ge 26, 253, 0, 0), (230, 1, .aload_n 0, 0, 0, 0), (231, 3, .getfield 127, 12, 47, 2), (234, 1, .iload_n 3, 0, 0, 0), (235, 1, .aload_n 0, 0, 0, 0), (236, 3, .getfield 142, 12, 60, 2), (239, 2, .bipush 9, 0, 0, 0), (241, 1, .iload_n 2, 0, 0, 0), (242, 1, .imul, 0, 0, 0), (243, 1, .iload_n 3, 0, 0, 0), (244, 1, .iadd, 0, 0, 0), (245, 1, .iaload, 0, 0, 0)]),
  (100000, [(246, 1, .iastore, 0, 0, 0), (247, 3, .iinc 3 1, 0, 0, 0), (250, 3, .goto (-28), 222, 0, 0), (253, 1, .aload_n 0, 0, 0, 0), (254, 3, .invokevirtual 270, 200, 1, 12), (257, 1, .aload_n 0, 0, 0, 0), (258, 1, .iload_n 1, 0, 0, 0), (259, 3, .invokevirtual 257, 194, 2, 12), (262, 1, .aload_n 0, 0, 0, 0), (263, 1, .aload_n 0, 0, 0, 0), (264, 3, .getfield 241, 12, 51, 0), (267, 3, .invokevirtual 209, 178, 2, 12), (270, 1, .ireturn, 0, 0, 0)])]
theorem rwX12_savings : rowsB (mB 215) (mO 215) (mX 215) (mIni 215) (mFr 215) (mLo 215) (mT 215) csX12_savings = true := by decide +kernel
def bX12_savings_222 (f200 : HH → Option HH) (f194 : Int → HH → Option HH) (f178 : Int → HH → Option (Int × HH)) (c222 : Int → Int → Int → HH → Option (Int × HH)) (x1 : Int) (x2 : Int) (x3 : Int) (h : HH) : Option (Int × HH) :=
  if x3 < ((h.1 71 51) : Int) then
    gd (R32 (9 * x2)) <|
    gd (R32 ((9 * x2) + x3)) <|
    gd ((0 : Int) ≤ ((9 * x2) + x3) ∧ ((9 * x2) + x3) < (81 : Int)) <|
    gd ((0 : Int) ≤ x3 ∧ x3 < (10 : Int)) <|
    bnd (some (hI h 105 x3 (h.1 110 ((9 * x2) + x3)))) fun h4 =>
    gd (R32 (x3 + 1)) <|
    c222 x1 x2 (x3 + 1) h4
  else
    bnd (f200 h) fun r1 =>
    bnd (f194 x1 r1) fun r2 =>
    bnd (f178 (r2.1 71 51) r2) fun r3 =>
    some (r3.1, r3.2)
set_option maxRecDepth 100000 in
theorem uX12_savings_222 {g : SG} (hg : GOK g) {σ0 : SG} {c222 : Int → Int → Int → HH → Option (Int × HH)} (k222 : ∀ (x1 : Int) (x2 : Int) (x3 : Int) (h : HH) (b : (Int × HH)), c222 x1 x2 x3 h = some b → WK 215 (.inl (some (aI b.1))) σ0 (abH 71 119 g b.2) 222 [(0, aR 71), (1, aI x1), (2, aI x2), (3, aI x3)] [] (abH 71 119 g h) 0 0) : ∀ {x1 : Int} {x2 : Int} {x3 : Int} {h : HH} {b : (Int × HH)}, bX12_savings_222 nX12_keeps nX12_lays nX12_told c222 x1 x2 x3 h = some b → WK 215 (.inl (some (aI b.1))) σ0 (abH 71 119 g b.2) 222 [(0, aR 71), (1, aI x1), (2, aI x2), (3, aI x3)] [] (abH 71 119 g h) 0 0 := by
  intro x1 x2 x3 h b q
  have e : ∀ (f200 : HH → Option HH) (f194 : Int → HH → Option HH) (f178 : Int → HH → Option (Int × HH)) , bX12_savings_222 f200 f194 f178 c222 x1 x2 x3 h = segW 71 119 g.2.2.2.2 krWI (clC 200 (pX12_keeps f200) (clC 194 (pX12_lays f194) (clC 178 (pX12_told f178) clN))) csX12_savings (cuC 222 (fun l st s => tkC 0 71 l <| tkI 1 l fun x1 => tkI 2 l fun x2 => tkI 3 l fun x3 => skE st (c222 x1 x2 x3 s)) cuN) 1000 222 [(0, aR 71), (1, aI x1), (2, aI x2), (3, aI x3)] [] h := fun _ _ _ => rfl
  rw [e nX12_keeps nX12_lays nX12_told] at q
  clear e
  refine segW_wk (by decide) (by decide) hg rwX12_savings (CLKW_C (pX12_keeps_ok hg) (CLKW_C (pX12_lays_ok hg) (CLKW_C (pX12_told_ok hg) CLKW_N))) krWI_ok ?_ q
  clear q
  refine ct_C ?_ (ct_N)
  · intro l st h q
    obtain ⟨m0, q1⟩ := tkC_of q
    obtain ⟨x1, m1, q2⟩ := tkI_of q1
    obtain ⟨x2, m2, q3⟩ := tkI_of q2
    obtain ⟨x3, m3, q4⟩ := tkI_of q3
    obtain ⟨rfl, q5⟩ := skE_of q4
    exact WK_less (k222 _ _ _ _ _ q5) (List.forall_mem_cons.mpr ⟨m0, (List.forall_mem_cons.mpr ⟨m1, (List.forall_mem_cons.mpr ⟨m2, (List.forall_mem_cons.mpr ⟨m3, (fun _ h => absurd h List.not_mem_nil)⟩)⟩)⟩)⟩)
def nX12_savings_222 : Nat → Int → Int → Int → HH → Option (Int × HH) := iter (fun _ _ _ _ => none) (fun self => bX12_savings_222 nX12_keeps nX12_lays nX12_told self)
theorem nX12_savings_222_s {F : Nat} : nX12_savings_222 (F + 1) = bX12_savings_222 nX12_keeps nX12_lays nX12_told (nX12_savings_222 F) := rfl
theorem wX12_savings_222 {g : SG} (hg : GOK g) {σ0 : SG} : ∀ {F : Nat}, ∀ {x1 : Int} {x2 : Int} {x3 : Int} {h : HH} {b : (Int × HH)}, nX12_savings_222 F x1 x2 x3 h = some b → WK 215 (.inl (some (aI b.1))) σ0 (abH 71 119 g b.2) 222 [(0, aR 71), (1, aI x1), (2, aI x2), (3, aI x3)] [] (abH 71 119 g h) 0 0 := by
  intro F
  have z : ∀ (x1 : Int) (x2 : Int) (x3 : Int) (h : HH) (b : (Int × HH)), nX12_savings_222 F x1 x2 x3 h = some b → WK 215 (.inl (some (aI b.1))) σ0 (abH 71 119 g b.2) 222 [(0, aR 71), (1, aI x1), (2, aI x2), (3, aI x3)] [] (abH 71 119 g h) 0 0 := iter_ind (P := fun (c : Int → Int → Int → HH → Option (Int × HH)) => ∀ (x1 : Int) (x2 : Int) (x3 : Int) (h : HH) (b : (Int × HH)), c x1 x2 x3 h = some b → WK 215 (.inl (some (aI b.1))) σ0 (abH 71 119 g b.2) 222 [(0, aR 71), (1, aI x1), (2, aI x2), (3, aI x3)] [] (abH 71 119 g h) 0 0) (by
    intro x1 x2 x3 h b q
    cases q) (fun self ih => by
    intro x1 x2 x3 h b q
    exact uX12_savings_222 hg ih q) F
  intro x1 x2 x3 h b q
  exact z _ _ _ _ _ q
def bX12_savings_217 (c222 : Int → Int → Int → HH → Option (Int × HH)) (x1 : Int) (x2 : Int) (y0 : Int) (h : HH) : Option (Int × HH) :=
  bnd (some (hI h 71 51 y0)) fun h1 =>
    c222 x1 x2 0 h1
theorem uX12_savings_217 {g : SG} (hg : GOK g) {σ0 : SG} {c222 : Int → Int → Int → HH → Option (Int × HH)} (k222 : ∀ (x1 : Int) (x2 : Int) (x3 : Int) (h : HH) (b : (Int × HH)), c222 x1 x2 x3 h = some b → WK 215 (.inl (some (aI b.1))) σ0 (abH 71 119 g b.2) 222 [(0, aR 71), (1, aI x1), (2, aI x2), (3, aI x3)] [] (abH 71 119 g h) 0 0) : ∀ {x1 : Int} {x2 : Int} {y0 : Int} {h : HH} {b : (Int × HH)}, bX12_savings_217 c222 x1 x2 y0 h = some b → WK 215 (.inl (some (aI b.1))) σ0 (abH 71 119 g b.2) 217 [(0, aR 71), (1, aI x1), (2, aI x2)] [aI y0, aR 71] (abH 71 119 g h) 0 0 := by
  intro x1 x2 y0 h b q
  have e : bX12_savings_217 c222 x1 x2 y0 h = segW 71 119 g.2.2.2.2 krWI clN csX12_savings (cuC 222 (fun l st s => tkC 0 71 l <| tkI 1 l fun x1 => tkI 2 l fun x2 => tkI 3 l fun x3 => skE st (c222 x1 x2 x3 s)) cuN) 1000 217 [(0, aR 71), (1, aI x1), (2, aI x2)] [aI y0, aR 71] h := rfl
  rw [e] at q
  clear e
  refine segW_wk (by decide) (by decide) hg rwX12_savings CLKW_N krWI_ok ?_ q
  clear q
  refine ct_C ?_ (ct_N)
  · intro l st h q
    obtain ⟨m0, q1⟩ := tkC_of q
    obtain ⟨x1, m1, q2⟩ := tkI_of q1
    obtain ⟨x2, m2, q3⟩ := tkI_of q2
    obtain ⟨x3, m3, q4⟩ := tkI_of q3
    obtain ⟨rfl, q5⟩ := skE_of q4
    exact WK_less (k222 _ _ _ _ _ q5) (List.forall_mem_cons.mpr ⟨m0, (List.forall_mem_cons.mpr ⟨m1, (List.forall_mem_cons.mpr ⟨m2, (List.forall_mem_cons.mpr ⟨m3, (fun _ h => absurd h List.not_mem_nil)⟩)⟩)⟩)⟩)
def nX12_savings_217 (x1 : Int) (x2 : Int) (y0 : Int) (h : HH) : Option (Int × HH) := bX12_savings_217 (nX12_savings_222 100000) x1 x2 y0 h
theorem wX12_savings_217 {g : SG} (hg : GOK g) {σ0 : SG} : ∀ {x1 : Int} {x2 : Int} {y0 : Int} {h : HH} {b : (Int × HH)}, nX12_savings_217 x1 x2 y0 h = some b → WK 215 (.inl (some (aI b.1))) σ0 (abH 71 119 g b.2) 217 [(0, aR 71), (1, aI x1), (2, aI x2)] [aI y0, aR 71] (abH 71 119 g h) 0 0 := by
  intro x1 x2 y0 h b q
  exact uX12_savings_217 hg (fun _ _ _ _ _ q => wX12_savings_222 hg q) q
def bX12_savings_194 (c121 : Int → Int → Int → HH → Option (Int × HH)) (x1 : Int) (x3 : Int) (y0 : Int) (h : HH) : Option (Int × HH) :=
  gd (R32 (x3 + 1)) <|
    c121 x1 y0 (x3 + 1) h
theorem uX12_savings_194 {g : SG} (hg : GOK g) {σ0 : SG} {c121 : Int → Int → Int → HH → Option (Int × HH)} (k121 : ∀ (x1 : Int) (x2 : Int) (x3 : Int) (h : HH) (b : (Int × HH)), c121 x1 x2 x3 h = some b → WK 215 (.inl (some (aI b.1))) σ0 (abH 71 119 g b.2) 121 [(0, aR 71), (1, aI x1), (2, aI x2), (3, aI x3)] [] (abH 71 119 g h) 0 0) : ∀ {x1 : Int} {x3 : Int} {y0 : Int} {h : HH} {b : (Int × HH)}, bX12_savings_194 c121 x1 x3 y0 h = some b → WK 215 (.inl (some (aI b.1))) σ0 (abH 71 119 g b.2) 194 [(0, aR 71), (1, aI x1), (3, aI x3)] [aI y0] (abH 71 119 g h) 0 0 := by
  intro x1 x3 y0 h b q
  have e : bX12_savings_194 c121 x1 x3 y0 h = segW 71 119 g.2.2.2.2 krWI clN csX12_savings (cuC 121 (fun l st s => tkC 0 71 l <| tkI 1 l fun x1 => tkI 2 l fun x2 => tkI 3 l fun x3 => skE st (c121 x1 x2 x3 s)) cuN) 1000 194 [(0, aR 71), (1, aI x1), (3, aI x3)] [aI y0] h := rfl
  rw [e] at q
  clear e
  refine segW_wk (by decide) (by decide) hg rwX12_savings CLKW_N krWI_ok ?_ q
  clear q
  refine ct_C ?_ (ct_N)
  · intro l st h q
    obtain ⟨m0, q1⟩ := tkC_of q
    obtain ⟨x1, m1, q2⟩ := tkI_of q1
    obtain ⟨x2, m2, q3⟩ := tkI_of q2
    obtain ⟨x3, m3, q4⟩ := tkI_of q3
    obtain ⟨rfl, q5⟩ := skE_of q4
    exact WK_less (k121 _ _ _ _ _ q5) (List.forall_mem_cons.mpr ⟨m0, (List.forall_mem_cons.mpr ⟨m1, (List.forall_mem_cons.mpr ⟨m2, (List.forall_mem_cons.mpr ⟨m3, (fun _ h => absurd h List.not_mem_nil)⟩)⟩)⟩)⟩)
def nX12_savings_194 (c121 : Int → Int → Int → HH → Option (Int × HH)) (x1 : Int) (x3 : Int) (y0 : Int) (h : HH) : Option (Int × HH) := bX12_savings_194 c121 x1 x3 y0 h
theorem wX12_savings_194 {g : SG} (hg : GOK g) {σ0 : SG} {c121 : Int → Int → Int → HH → Option (Int × HH)} (k121 : ∀ (x1 : Int) (x2 : Int) (x3 : Int) (h : HH) (b : (Int × HH)), c121 x1 x2 x3 h = some b → WK 215 (.inl (some (aI b.1))) σ0 (abH 71 119 g b.2) 121 [(0, aR 71), (1, aI x1), (2, aI x2), (3, aI x3)] [] (abH 71 119 g h) 0 0) : ∀ {x1 : Int} {x3 : Int} {y0 : Int} {h : HH} {b : (Int × HH)}, nX12_savings_194 c121 x1 x3 y0 h = some b → WK 215 (.inl (some (aI b.1))) σ0 (abH 71 119 g b.2) 194 [(0, aR 71), (1, aI x1), (3, aI x3)] [aI y0] (abH 71 119 g h) 0 0 := by
  intro x1 x3 y0 h b q
  exact uX12_savings_194 hg k121 q
def bX12_savings_182 (c194 : Int → Int → Int → HH → Option (Int × HH)) (x1 : Int) (x2 : Int) (x3 : Int) (y0 : Int) (h : HH) : Option (Int × HH) :=
  if y0 = (0 : Int) then
    c194 x1 x3 x2 h
  else
    c194 x1 x3 x3 h
theorem uX12_savings_182 {g : SG} (hg : GOK g) {σ0 : SG} {c194 : Int → Int → Int → HH → Option (Int × HH)} (k194 : ∀ (x1 : Int) (x3 : Int) (y0 : Int) (h : HH) (b : (Int × HH)), c194 x1 x3 y0 h = some b → WK 215 (.inl (some (aI b.1))) σ0 (abH 71 119 g b.2) 194 [(0, aR 71), (1, aI x1), (3, aI x3)] [aI y0] (abH 71 119 g h) 0 0) : ∀ {x1 : Int} {x2 : Int} {x3 : Int} {y0 : Int} {h : HH} {b : (Int × HH)}, bX12_savings_182 c194 x1 x2 x3 y0 h = some b → WK 215 (.inl (some (aI b.1))) σ0 (abH 71 119 g b.2) 182 [(0, aR 71), (1, aI x1), (2, aI x2), (3, aI x3)] [aI y0] (abH 71 119 g h) 0 0 := by
  intro x1 x2 x3 y0 h b q
  have e : bX12_savings_182 c194 x1 x2 x3 y0 h = segW 71 119 g.2.2.2.2 krWI clN csX12_savings (cuC 194 (fun l st s => tkC 0 71 l <| tkI 1 l fun x1 => tkI 3 l fun x3 => skI st fun y0 st => skE st (c194 x1 x3 y0 s)) cuN) 1000 182 [(0, aR 71), (1, aI x1), (2, aI x2), (3, aI x3)] [aI y0] h := rfl
  rw [e] at q
  clear e
  refine segW_wk (by decide) (by decide) hg rwX12_savings CLKW_N krWI_ok ?_ q
  clear q
  refine ct_C ?_ (ct_N)
  · intro l st h q
    obtain ⟨m0, q1⟩ := tkC_of q
    obtain ⟨x1, m1, q2⟩ := tkI_of q1
    obtain ⟨x3, m3, q3⟩ := tkI_of q2
    obtain ⟨y0, t0, rfl, q4⟩ := skI_of q3
    obtain ⟨rfl, q5⟩ := skE_of q4
    exact WK_less (k194 _ _ _ _ _ q5) (List.forall_mem_cons.mpr ⟨m0, (List.forall_mem_cons.mpr ⟨m1, (List.forall_mem_cons.mpr ⟨m3, (fun _ h => absurd h List.not_mem_nil)⟩)⟩)⟩)
def nX12_savings_182 (c121 : Int → Int → Int → HH → Option (Int × HH)) (x1 : Int) (x2 : Int) (x3 : Int) (y0 : Int) (h : HH) : Option (Int × HH) := bX12_savings_182 (nX12_savings_194 c121) x1 x2 x3 y0 h
theorem wX12_savings_182 {g : SG} (hg : GOK g) {σ0 : SG} {c121 : Int → Int → Int → HH → Option (Int × HH)} (k121 : ∀ (x1 : Int) (x2 : Int) (x3 : Int) (h : HH) (b : (Int × HH)), c121 x1 x2 x3 h = some b → WK 215 (.inl (some (aI b.1))) σ0 (abH 71 119 g b.2) 121 [(0, aR 71), (1, aI x1), (2, aI x2), (3, aI x3)] [] (abH 71 119 g h) 0 0) : ∀ {x1 : Int} {x2 : Int} {x3 : Int} {y0 : Int} {h : HH} {b : (Int × HH)}, nX12_savings_182 c121 x1 x2 x3 y0 h = some b → WK 215 (.inl (some (aI b.1))) σ0 (abH 71 119 g b.2) 182 [(0, aR 71), (1, aI x1), (2, aI x2), (3, aI x3)] [aI y0] (abH 71 119 g h) 0 0 := by
  intro x1 x2 x3 y0 h b q
  exact uX12_savings_182 hg (fun _ _ _ _ _ q => wX12_savings_194 hg k121 q) q
def bX12_savings_177 (c182 : Int → Int → Int → Int → HH → Option (Int × HH)) (x1 : Int) (x2 : Int) (x3 : Int) (h : HH) : Option (Int × HH) :=
  c182 x1 x2 x3 1 h
theorem uX12_savings_177 {g : SG} (hg : GOK g) {σ0 : SG} {c182 : Int → Int → Int → Int → HH → Option (Int × HH)} (k182 : ∀ (x1 : Int) (x2 : Int) (x3 : Int) (y0 : Int) (h : HH) (b : (Int × HH)), c182 x1 x2 x3 y0 h = some b → WK 215 (.inl (some (aI b.1))) σ0 (abH 71 119 g b.2) 182 [(0, aR 71), (1, aI x1), (2, aI x2), (3, aI x3)] [aI y0] (abH 71 119 g h) 0 0) : ∀ {x1 : Int} {x2 : Int} {x3 : Int} {h : HH} {b : (Int × HH)}, bX12_savings_177 c182 x1 x2 x3 h = some b → WK 215 (.inl (some (aI b.1))) σ0 (abH 71 119 g b.2) 177 [(0, aR 71), (1, aI x1), (2, aI x2), (3, aI x3)] [] (abH 71 119 g h) 0 0 := by
  intro x1 x2 x3 h b q
  have e : bX12_savings_177 c182 x1 x2 x3 h = segW 71 119 g.2.2.2.2 krWI clN csX12_savings (cuC 182 (fun l st s => tkC 0 71 l <| tkI 1 l fun x1 => tkI 2 l fun x2 => tkI 3 l fun x3 => skI st fun y0 st => skE st (c182 x1 x2 x3 y0 s)) cuN) 1000 177 [(0, aR 71), (1, aI x1), (2, aI x2), (3, aI x3)] [] h := rfl
  rw [e] at q
  clear e
  refine segW_wk (by decide) (by decide) hg rwX12_savings CLKW_N krWI_ok ?_ q
  clear q
  refine ct_C ?_ (ct_N)
  · intro l st h q
    obtain ⟨m0, q1⟩ := tkC_of q
    obtain ⟨x1, m1, q2⟩ := tkI_of q1
    obtain ⟨x2, m2, q3⟩ := tkI_of q2
    obtain ⟨x3, m3, q4⟩ := tkI_of q3
    obtain ⟨y0, t0, rfl, q5⟩ := skI_of q4
    obtain ⟨rfl, q6⟩ := skE_of q5
    exact WK_less (k182 _ _ _ _ _ _ q6) (List.forall_mem_cons.mpr ⟨m0, (List.forall_mem_cons.mpr ⟨m1, (List.forall_mem_cons.mpr ⟨m2, (List.forall_mem_cons.mpr ⟨m3, (fun _ h => absurd h List.not_mem_nil)⟩)⟩)⟩)⟩)
def nX12_savings_177 (c121 : Int → Int → Int → HH → Option (Int × HH)) (x1 : Int) (x2 : Int) (x3 : Int) (h : HH) : Option (Int × HH) := bX12_savings_177 (nX12_savings_182 c121) x1 x2 x3 h
theorem wX12_savings_177 {g : SG} (hg : GOK g) {σ0 : SG} {c121 : Int → Int → Int → HH → Option (Int × HH)} (k121 : ∀ (x1 : Int) (x2 : Int) (x3 : Int) (h : HH) (b : (Int × HH)), c121 x1 x2 x3 h = some b → WK 215 (.inl (some (aI b.1))) σ0 (abH 71 119 g b.2) 121 [(0, aR 71), (1, aI x1), (2, aI x2), (3, aI x3)] [] (abH 71 119 g h) 0 0) : ∀ {x1 : Int} {x2 : Int} {x3 : Int} {h : HH} {b : (Int × HH)}, nX12_savings_177 c121 x1 x2 x3 h = some b → WK 215 (.inl (some (aI b.1))) σ0 (abH 71 119 g b.2) 177 [(0, aR 71), (1, aI x1), (2, aI x2), (3, aI x3)] [] (abH 71 119 g h) 0 0 := by
  intro x1 x2 x3 h b q
  exact uX12_savings_177 hg (fun _ _ _ _ _ _ q => wX12_savings_182 hg k121 q) q
def bX12_savings_181 (c182 : Int → Int → Int → Int → HH → Option (Int × HH)) (x1 : Int) (x2 : Int) (x3 : Int) (h : HH) : Option (Int × HH) :=
  c182 x1 x2 x3 0 h
theorem uX12_savings_181 {g : SG} (hg : GOK g) {σ0 : SG} {c182 : Int → Int → Int → Int → HH → Option (Int × HH)} (k182 : ∀ (x1 : Int) (x2 : Int) (x3 : Int) (y0 : Int) (h : HH) (b : (Int × HH)), c182 x1 x2 x3 y0 h = some b → WK 215 (.inl (some (aI b.1))) σ0 (abH 71 119 g b.2) 182 [(0, aR 71), (1, aI x1), (2, aI x2), (3, aI x3)] [aI y0] (abH 71 119 g h) 0 0) : ∀ {x1 : Int} {x2 : Int} {x3 : Int} {h : HH} {b : (Int × HH)}, bX12_savings_181 c182 x1 x2 x3 h = some b → WK 215 (.inl (some (aI b.1))) σ0 (abH 71 119 g b.2) 181 [(0, aR 71), (1, aI x1), (2, aI x2), (3, aI x3)] [] (abH 71 119 g h) 0 0 := by
  intro x1 x2 x3 h b q
  have e : bX12_savings_181 c182 x1 x2 x3 h = segW 71 119 g.2.2.2.2 krWI clN csX12_savings (cuC 182 (fun l st s => tkC 0 71 l <| tkI 1 l fun x1 => tkI 2 l fun x2 => tkI 3 l fun x3 => skI st fun y0 st => skE st (c182 x1 x2 x3 y0 s)) cuN) 1000 181 [(0, aR 71), (1, aI x1), (2, aI x2), (3, aI x3)] [] h := rfl
  rw [e] at q
  clear e
  refine segW_wk (by decide) (by decide) hg rwX12_savings CLKW_N krWI_ok ?_ q
  clear q
  refine ct_C ?_ (ct_N)
  · intro l st h q
    obtain ⟨m0, q1⟩ := tkC_of q
    obtain ⟨x1, m1, q2⟩ := tkI_of q1
    obtain ⟨x2, m2, q3⟩ := tkI_of q2
    obtain ⟨x3, m3, q4⟩ := tkI_of q3
    obtain ⟨y0, t0, rfl, q5⟩ := skI_of q4
    obtain ⟨rfl, q6⟩ := skE_of q5
    exact WK_less (k182 _ _ _ _ _ _ q6) (List.forall_mem_cons.mpr ⟨m0, (List.forall_mem_cons.mpr ⟨m1, (List.forall_mem_cons.mpr ⟨m2, (List.forall_mem_cons.mpr ⟨m3, (fun _ h => absurd h List.not_mem_nil)⟩)⟩)⟩)⟩)
def nX12_savings_181 (c121 : Int → Int → Int → HH → Option (Int × HH)) (x1 : Int) (x2 : Int) (x3 : Int) (h : HH) : Option (Int × HH) := bX12_savings_181 (nX12_savings_182 c121) x1 x2 x3 h
theorem wX12_savings_181 {g : SG} (hg : GOK g) {σ0 : SG} {c121 : Int → Int → Int → HH → Option (Int × HH)} (k121 : ∀ (x1 : Int) (x2 : Int) (x3 : Int) (h : HH) (b : (Int × HH)), c121 x1 x2 x3 h = some b → WK 215 (.inl (some (aI b.1))) σ0 (abH 71 119 g b.2) 121 [(0, aR 71), (1, aI x1), (2, aI x2), (3, aI x3)] [] (abH 71 119 g h) 0 0) : ∀ {x1 : Int} {x2 : Int} {x3 : Int} {h : HH} {b : (Int × HH)}, nX12_savings_181 c121 x1 x2 x3 h = some b → WK 215 (.inl (some (aI b.1))) σ0 (abH 71 119 g b.2) 181 [(0, aR 71), (1, aI x1), (2, aI x2), (3, aI x3)] [] (abH 71 119 g h) 0 0 := by
  intro x1 x2 x3 h b q
  exact uX12_savings_181 hg (fun _ _ _ _ _ _ q => wX12_savings_182 hg k121 q) q
def bX12_savings_121 (f213 : HH → Int → Option Int) (c177 : Int → Int → Int → HH → Option (Int × HH)) (c181 : Int → Int → Int → HH → Option (Int × HH)) (c217 : Int → Int → Int → HH → Option (Int × HH)) (x1 : Int) (x2 : Int) (x3 : Int) (h : HH) : Option (Int × HH) :=
  if x3 < ((h.1 71 62) : Int) then
    if x2 = ((-1) : Int) then
    c177 x1 x2 x3 h
  else
    gd ((0 : Int) ≤ x3 ∧ x3 < (9 : Int)) <|
    gd ((0 : Int) ≤ x2 ∧ x2 < (9 : Int)) <|
    if ((h.1 111 x2) : Int) < (h.1 111 x3) then
    c177 x1 x2 x3 h
  else
    gd ((0 : Int) ≤ x3 ∧ x3 < (9 : Int)) <|
    gd ((0 : Int) ≤ x2 ∧ x2 < (9 : Int)) <|
    if (h.1 111 x3) = ((h.1 111 x2) : Int) then
    bnd (f213 h x3) fun r1 =>
    bnd (f213 h x2) fun r2 =>
    if r1 < (r2 : Int) then
    c177 x1 x2 x3 h
  else
    c181 x1 x2 x3 h
  else
    c181 x1 x2 x3 h
  else
    if x2 = ((-1) : Int) then
    c217 x1 x2 0 h
  else
    gd ((0 : Int) ≤ x2 ∧ x2 < (9 : Int)) <|
    c217 x1 x2 (h.1 111 x2) h
set_option maxRecDepth 100000 in
theorem uX12_savings_121 {g : SG} (hg : GOK g) {σ0 : SG} {c177 : Int → Int → Int → HH → Option (Int × HH)} {c181 : Int → Int → Int → HH → Option (Int × HH)} {c217 : Int → Int → Int → HH → Option (Int × HH)} (k177 : ∀ (x1 : Int) (x2 : Int) (x3 : Int) (h : HH) (b : (Int × HH)), c177 x1 x2 x3 h = some b → WK 215 (.inl (some (aI b.1))) σ0 (abH 71 119 g b.2) 177 [(0, aR 71), (1, aI x1), (2, aI x2), (3, aI x3)] [] (abH 71 119 g h) 0 0) (k181 : ∀ (x1 : Int) (x2 : Int) (x3 : Int) (h : HH) (b : (Int × HH)), c181 x1 x2 x3 h = some b → WK 215 (.inl (some (aI b.1))) σ0 (abH 71 119 g b.2) 181 [(0, aR 71), (1, aI x1), (2, aI x2), (3, aI x3)] [] (abH 71 119 g h) 0 0) (k217 : ∀ (x1 : Int) (x2 : Int) (y0 : Int) (h : HH) (b : (Int × HH)), c217 x1 x2 y0 h = some b → WK 215 (.inl (some (aI b.1))) σ0 (abH 71 119 g b.2) 217 [(0, aR 71), (1, aI x1), (2, aI x2)] [aI y0, aR 71] (abH 71 119 g h) 0 0) : ∀ {x1 : Int} {x2 : Int} {x3 : Int} {h : HH} {b : (Int × HH)}, bX12_savings_121 nX12_firstOf c177 c181 c217 x1 x2 x3 h = some b → WK 215 (.inl (some (aI b.1))) σ0 (abH 71 119 g b.2) 121 [(0, aR 71), (1, aI x1), (2, aI x2), (3, aI x3)] [] (abH 71 119 g h) 0 0 := by
  intro x1 x2 x3 h b q
  have e : ∀ (f213 : HH → Int → Option Int) , bX12_savings_121 f213 c177 c181 c217 x1 x2 x3 h = segW 71 119 g.2.2.2.2 krWI (clC 213 (liPW (pX12_firstOf f213)) clN) csX12_savings (cuC 177 (fun l st s => tkC 0 71 l <| tkI 1 l fun x1 => tkI 2 l fun x2 => tkI 3 l fun x3 => skE st (c177 x1 x2 x3 s)) (cuC 181 (fun l st s => tkC 0 71 l <| tkI 1 l fun x1 => tkI 2 l fun x2 => tkI 3 l fun x3 => skE st (c181 x1 x2 x3 s)) (cuC 217 (fun l st s => tkC 0 71 l <| tkI 1 l fun x1 => tkI 2 l fun x2 => skI st fun y0 st => skC 71 st fun st => skE st (c217 x1 x2 y0 s)) cuN))) 1000 121 [(0, aR 71), (1, aI x1), (2, aI x2), (3, aI x3)] [] h := fun _ => rfl
  rw [e nX12_firstOf] at q
  clear e
  refine segW_wk (by decide) (by decide) hg rwX12_savings (CLKW_C (liPW_ok (pX12_firstOf_ok hg)) CLKW_N) krWI_ok ?_ q
  clear q
  refine ct_C ?_ (ct_C ?_ (ct_C ?_ (ct_N)))
  · intro l st h q
    obtain ⟨m0, q1⟩ := tkC_of q
    obtain ⟨x1, m1, q2⟩ := tkI_of q1
    obtain ⟨x2, m2, q3⟩ := tkI_of q2
    obtain ⟨x3, m3, q4⟩ := tkI_of q3
    obtain ⟨rfl, q5⟩ := skE_of q4
    exact WK_less (k177 _ _ _ _ _ q5) (List.forall_mem_cons.mpr ⟨m0, (List.forall_mem_cons.mpr ⟨m1, (List.forall_mem_cons.mpr ⟨m2, (List.forall_mem_cons.mpr ⟨m3, (fun _ h => absurd h List.not_mem_nil)⟩)⟩)⟩)⟩)
  · intro l st h q
    obtain ⟨m0, q1⟩ := tkC_of q
    obtain ⟨x1, m1, q2⟩ := tkI_of q1
    obtain ⟨x2, m2, q3⟩ := tkI_of q2
    obtain ⟨x3, m3, q4⟩ := tkI_of q3
    obtain ⟨rfl, q5⟩ := skE_of q4
    exact WK_less (k181 _ _ _ _ _ q5) (List.forall_mem_cons.mpr ⟨m0, (List.forall_mem_cons.mpr ⟨m1, (List.forall_mem_cons.mpr ⟨m2, (List.forall_mem_cons.mpr ⟨m3, (fun _ h => absurd h List.not_mem_nil)⟩)⟩)⟩)⟩)
  · intro l st h q
    obtain ⟨m0, q1⟩ := tkC_of q
    obtain ⟨x1, m1, q2⟩ := tkI_of q1
    obtain ⟨x2, m2, q3⟩ := tkI_of q2
    obtain ⟨y0, t0, rfl, q4⟩ := skI_of q3
    obtain ⟨t1, rfl, q5⟩ := skC_of q4
    obtain ⟨rfl, q6⟩ := skE_of q5
    exact WK_less (k217 _ _ _ _ _ q6) (List.forall_mem_cons.mpr ⟨m0, (List.forall_mem_cons.mpr ⟨m1, (List.forall_mem_cons.mpr ⟨m2, (fun _ h => absurd h List.not_mem_nil)⟩)⟩)⟩)
def nX12_savings_121 : Nat → Int → Int → Int → HH → Option (Int × HH) := iter (fun _ _ _ _ => none) (fun self => bX12_savings_121 nX12_firstOf (nX12_savings_177 self) (nX12_savings_181 self) nX12_savings_217)
theorem nX12_savings_121_s {F : Nat} : nX12_savings_121 (F + 1) = bX12_savings_121 nX12_firstOf (nX12_savings_177 (nX12_savings_121 F)) (nX12_savings_181 (nX12_savings_121 F)) nX12_savings_217 := rfl
theorem wX12_savings_121 {g : SG} (hg : GOK g) {σ0 : SG} : ∀ {F : Nat}, ∀ {x1 : Int} {x2 : Int} {x3 : Int} {h : HH} {b : (Int × HH)}, nX12_savings_121 F x1 x2 x3 h = some b → WK 215 (.inl (some (aI b.1))) σ0 (abH 71 119 g b.2) 121 [(0, aR 71), (1, aI x1), (2, aI x2), (3, aI x3)] [] (abH 71 119 g h) 0 0 := by
  intro F
  have z : ∀ (x1 : Int) (x2 : Int) (x3 : Int) (h : HH) (b : (Int × HH)), nX12_savings_121 F x1 x2 x3 h = some b → WK 215 (.inl (some (aI b.1))) σ0 (abH 71 119 g b.2) 121 [(0, aR 71), (1, aI x1), (2, aI x2), (3, aI x3)] [] (abH 71 119 g h) 0 0 := iter_ind (P := fun (c : Int → Int → Int → HH → Option (Int × HH)) => ∀ (x1 : Int) (x2 : Int) (x3 : Int) (h : HH) (b : (Int × HH)), c x1 x2 x3 h = some b → WK 215 (.inl (some (aI b.1))) σ0 (abH 71 119 g b.2) 121 [(0, aR 71), (1, aI x1), (2, aI x2), (3, aI x3)] [] (abH 71 119 g h) 0 0) (by
    intro x1 x2 x3 h b q
    cases q) (fun self ih => by
    intro x1 x2 x3 h b q
    exact uX12_savings_121 hg (fun _ _ _ _ _ q => wX12_savings_177 hg ih q) (fun _ _ _ _ _ q => wX12_savings_181 hg ih q) (fun _ _ _ _ _ q => wX12_savings_217 hg q) q) F
  intro x1 x2 x3 h b q
  exact z _ _ _ _ _ q
def bX12_savings_106 (c36 : Int → Int → HH → Option (Int × HH)) (x1 : Int) (x2 : Int) (h : HH) : Option (Int × HH) :=
  gd (R32 (x2 + 1)) <|
    c36 x1 (x2 + 1) h
theorem uX12_savings_106 {g : SG} (hg : GOK g) {σ0 : SG} {c36 : Int → Int → HH → Option (Int × HH)} (k36 : ∀ (x1 : Int) (x2 : Int) (h : HH) (b : (Int × HH)), c36 x1 x2 h = some b → WK 215 (.inl (some (aI b.1))) σ0 (abH 71 119 g b.2) 36 [(0, aR 71), (1, aI x1), (2, aI x2)] [] (abH 71 119 g h) 0 0) : ∀ {x1 : Int} {x2 : Int} {h : HH} {b : (Int × HH)}, bX12_savings_106 c36 x1 x2 h = some b → WK 215 (.inl (some (aI b.1))) σ0 (abH 71 119 g b.2) 106 [(0, aR 71), (1, aI x1), (2, aI x2)] [] (abH 71 119 g h) 0 0 := by
  intro x1 x2 h b q
  have e : bX12_savings_106 c36 x1 x2 h = segW 71 119 g.2.2.2.2 krWI clN csX12_savings (cuC 36 (fun l st s => tkC 0 71 l <| tkI 1 l fun x1 => tkI 2 l fun x2 => skE st (c36 x1 x2 s)) cuN) 1000 106 [(0, aR 71), (1, aI x1), (2, aI x2)] [] h := rfl
  rw [e] at q
  clear e
  refine segW_wk (by decide) (by decide) hg rwX12_savings CLKW_N krWI_ok ?_ q
  clear q
  refine ct_C ?_ (ct_N)
  · intro l st h q
    obtain ⟨m0, q1⟩ := tkC_of q
    obtain ⟨x1, m1, q2⟩ := tkI_of q1
    obtain ⟨x2, m2, q3⟩ := tkI_of q2
    obtain ⟨rfl, q4⟩ := skE_of q3
    exact WK_less (k36 _ _ _ _ q4) (List.forall_mem_cons.mpr ⟨m0, (List.forall_mem_cons.mpr ⟨m1, (List.forall_mem_cons.mpr ⟨m2, (fun _ h => absurd h List.not_mem_nil)⟩)⟩)⟩)
def nX12_savings_106 (c36 : Int → Int → HH → Option (Int × HH)) (x1 : Int) (x2 : Int) (h : HH) : Option (Int × HH) := bX12_savings_106 c36 x1 x2 h
theorem wX12_savings_106 {g : SG} (hg : GOK g) {σ0 : SG} {c36 : Int → Int → HH → Option (Int × HH)} (k36 : ∀ (x1 : Int) (x2 : Int) (h : HH) (b : (Int × HH)), c36 x1 x2 h = some b → WK 215 (.inl (some (aI b.1))) σ0 (abH 71 119 g b.2) 36 [(0, aR 71), (1, aI x1), (2, aI x2)] [] (abH 71 119 g h) 0 0) : ∀ {x1 : Int} {x2 : Int} {h : HH} {b : (Int × HH)}, nX12_savings_106 c36 x1 x2 h = some b → WK 215 (.inl (some (aI b.1))) σ0 (abH 71 119 g b.2) 106 [(0, aR 71), (1, aI x1), (2, aI x2)] [] (abH 71 119 g h) 0 0 := by
  intro x1 x2 h b q
  exact uX12_savings_106 hg k36 q
def bX12_savings_36 (f214 : Int → HH → Option HH) (f199 : HH → Int → Option Int) (f192 : Int → HH → Option (Int × HH)) (c106 : Int → Int → HH → Option (Int × HH)) (c121 : Int → Int → Int → HH → Option (Int × HH)) (x1 : Int) (x2 : Int) (h : HH) : Option (Int × HH) :=
  if x2 < ((h.1 71 21) : Int) then
    bnd (some (hI h 71 51 1)) fun h2 =>
    gd ((0 : Int) ≤ 0 ∧ 0 < (10 : Int)) <|
    bnd (some (hI h2 105 0 x2)) fun h3 =>
    bnd (f199 h3 x2) fun r4 =>
    if r4 = (0 : Int) then
    c106 x1 x2 h3
  else
    bnd (f192 x1 h3) fun r5 =>
    if r5.1 = ((-1) : Int) then
    c106 x1 x2 r5.2
  else
    gd (R32 (9 * (r5.2.1 71 62))) <|
    gd ((0 : Int) ≤ (9 * (r5.2.1 71 62)) ∧ (9 * (r5.2.1 71 62)) < (81 : Int)) <|
    bnd (some (hI r5.2 110 (9 * (r5.2.1 71 62)) x2)) fun h6 =>
    gd ((0 : Int) ≤ (h6.1 71 62) ∧ (h6.1 71 62) < (9 : Int)) <|
    bnd (some (hI h6 111 (h6.1 71 62) 1)) fun h7 =>
    gd (R32 ((h7.1 71 62) + 1)) <|
    bnd (some (hI h7 71 62 ((h7.1 71 62) + 1))) fun h8 =>
    c106 x1 x2 h8
  else
    bnd (f214 x1 h) fun r1 =>
    c121 x1 (-1) 0 r1
set_option maxRecDepth 100000 in
theorem uX12_savings_36 {g : SG} (hg : GOK g) {σ0 : SG} {c106 : Int → Int → HH → Option (Int × HH)} {c121 : Int → Int → Int → HH → Option (Int × HH)} (k106 : ∀ (x1 : Int) (x2 : Int) (h : HH) (b : (Int × HH)), c106 x1 x2 h = some b → WK 215 (.inl (some (aI b.1))) σ0 (abH 71 119 g b.2) 106 [(0, aR 71), (1, aI x1), (2, aI x2)] [] (abH 71 119 g h) 0 0) (k121 : ∀ (x1 : Int) (x2 : Int) (x3 : Int) (h : HH) (b : (Int × HH)), c121 x1 x2 x3 h = some b → WK 215 (.inl (some (aI b.1))) σ0 (abH 71 119 g b.2) 121 [(0, aR 71), (1, aI x1), (2, aI x2), (3, aI x3)] [] (abH 71 119 g h) 0 0) : ∀ {x1 : Int} {x2 : Int} {h : HH} {b : (Int × HH)}, bX12_savings_36 nX12_joinsAll nX12_canBePut nX12_drives c106 c121 x1 x2 h = some b → WK 215 (.inl (some (aI b.1))) σ0 (abH 71 119 g b.2) 36 [(0, aR 71), (1, aI x1), (2, aI x2)] [] (abH 71 119 g h) 0 0 := by
  intro x1 x2 h b q
  have e : ∀ (f214 : Int → HH → Option HH) (f199 : HH → Int → Option Int) (f192 : Int → HH → Option (Int × HH)) , bX12_savings_36 f214 f199 f192 c106 c121 x1 x2 h = segW 71 119 g.2.2.2.2 krWI (clC 214 (pX12_joinsAll f214) (clC 199 (liPW (pX12_canBePut f199)) (clC 192 (pX12_drives f192) clN))) csX12_savings (cuC 106 (fun l st s => tkC 0 71 l <| tkI 1 l fun x1 => tkI 2 l fun x2 => skE st (c106 x1 x2 s)) (cuC 121 (fun l st s => tkC 0 71 l <| tkI 1 l fun x1 => tkI 2 l fun x2 => tkI 3 l fun x3 => skE st (c121 x1 x2 x3 s)) cuN)) 1000 36 [(0, aR 71), (1, aI x1), (2, aI x2)] [] h := fun _ _ _ => rfl
  rw [e nX12_joinsAll nX12_canBePut nX12_drives] at q
  clear e
  refine segW_wk (by decide) (by decide) hg rwX12_savings (CLKW_C (pX12_joinsAll_ok hg) (CLKW_C (liPW_ok (pX12_canBePut_ok hg)) (CLKW_C (pX12_drives_ok hg) CLKW_N))) krWI_ok ?_ q
  clear q
  refine ct_C ?_ (ct_C ?_ (ct_N))
  · intro l st h q
    obtain ⟨m0, q1⟩ := tkC_of q
    obtain ⟨x1, m1, q2⟩ := tkI_of q1
    obtain ⟨x2, m2, q3⟩ := tkI_of q2
    obtain ⟨rfl, q4⟩ := skE_of q3
    exact WK_less (k106 _ _ _ _ q4) (List.forall_mem_cons.mpr ⟨m0, (List.forall_mem_cons.mpr ⟨m1, (List.forall_mem_cons.mpr ⟨m2, (fun _ h => absurd h List.not_mem_nil)⟩)⟩)⟩)
  · intro l st h q
    obtain ⟨m0, q1⟩ := tkC_of q
    obtain ⟨x1, m1, q2⟩ := tkI_of q1
    obtain ⟨x2, m2, q3⟩ := tkI_of q2
    obtain ⟨x3, m3, q4⟩ := tkI_of q3
    obtain ⟨rfl, q5⟩ := skE_of q4
    exact WK_less (k121 _ _ _ _ _ q5) (List.forall_mem_cons.mpr ⟨m0, (List.forall_mem_cons.mpr ⟨m1, (List.forall_mem_cons.mpr ⟨m2, (List.forall_mem_cons.mpr ⟨m3, (fun _ h => absurd h List.not_mem_nil)⟩)⟩)⟩)⟩)
def nX12_savings_36 : Nat → Int → Int → HH → Option (Int × HH) := iter (fun _ _ _ => none) (fun self => bX12_savings_36 nX12_joinsAll nX12_canBePut nX12_drives (nX12_savings_106 self) (nX12_savings_121 100000))
theorem nX12_savings_36_s {F : Nat} : nX12_savings_36 (F + 1) = bX12_savings_36 nX12_joinsAll nX12_canBePut nX12_drives (nX12_savings_106 (nX12_savings_36 F)) (nX12_savings_121 100000) := rfl
theorem wX12_savings_36 {g : SG} (hg : GOK g) {σ0 : SG} : ∀ {F : Nat}, ∀ {x1 : Int} {x2 : Int} {h : HH} {b : (Int × HH)}, nX12_savings_36 F x1 x2 h = some b → WK 215 (.inl (some (aI b.1))) σ0 (abH 71 119 g b.2) 36 [(0, aR 71), (1, aI x1), (2, aI x2)] [] (abH 71 119 g h) 0 0 := by
  intro F
  have z : ∀ (x1 : Int) (x2 : Int) (h : HH) (b : (Int × HH)), nX12_savings_36 F x1 x2 h = some b → WK 215 (.inl (some (aI b.1))) σ0 (abH 71 119 g b.2) 36 [(0, aR 71), (1, aI x1), (2, aI x2)] [] (abH 71 119 g h) 0 0 := iter_ind (P := fun (c : Int → Int → HH → Option (Int × HH)) => ∀ (x1 : Int) (x2 : Int) (h : HH) (b : (Int × HH)), c x1 x2 h = some b → WK 215 (.inl (some (aI b.1))) σ0 (abH 71 119 g b.2) 36 [(0, aR 71), (1, aI x1), (2, aI x2)] [] (abH 71 119 g h) 0 0) (by
    intro x1 x2 h b q
    cases q) (fun self ih => by
    intro x1 x2 h b q
    exact uX12_savings_36 hg (fun _ _ _ _ q => wX12_savings_106 hg ih q) (fun _ _ _ _ _ q => wX12_savings_121 hg q) q) F
  intro x1 x2 h b q
  exact z _ _ _ _ q
def bX12_savings (f176 : HH → Int → Option Int) (f177 : Int → HH → Option (Int × HH)) (c36 : Int → Int → HH → Option (Int × HH)) (x1 : Int) (h : HH) : Option (Int × HH) :=
  bnd (f176 h x1) fun r1 =>
    if r1 = (0 : Int) then
    bnd (f177 1 h) fun r4 =>
    some (r4.1, r4.2)
  else
    gd ((0 : Int) ≤ x1 ∧ x1 < (3 : Int)) <|
    if (0 : Int) < (h.1 95 x1) then
    bnd (f177 2 h) fun r3 =>
    some (r3.1, r3.2)
  else
    bnd (some (hI h 71 62 0)) fun h2 =>
    c36 x1 0 h2
theorem uX12_savings {g : SG} (hg : GOK g) {σ0 : SG} {c36 : Int → Int → HH → Option (Int × HH)} (k36 : ∀ (x1 : Int) (x2 : Int) (h : HH) (b : (Int × HH)), c36 x1 x2 h = some b → WK 215 (.inl (some (aI b.1))) σ0 (abH 71 119 g b.2) 36 [(0, aR 71), (1, aI x1), (2, aI x2)] [] (abH 71 119 g h) 0 0) : ∀ {x1 : Int} {h : HH} {b : (Int × HH)}, bX12_savings nX12_isVan nX12_refuse c36 x1 h = some b → WK 215 (.inl (some (aI b.1))) σ0 (abH 71 119 g b.2) 0 [(0, aR 71), (1, aI x1)] [] (abH 71 119 g h) 0 0 := by
  intro x1 h b q
  have e : ∀ (f176 : HH → Int → Option Int) (f177 : Int → HH → Option (Int × HH)) , bX12_savings f176 f177 c36 x1 h = segW 71 119 g.2.2.2.2 krWI (clC 176 (liPW (pX12_isVan f176)) (clC 177 (pX12_refuse f177) clN)) csX12_savings (cuC 36 (fun l st s => tkC 0 71 l <| tkI 1 l fun x1 => tkI 2 l fun x2 => skE st (c36 x1 x2 s)) cuN) 1000 0 [(0, aR 71), (1, aI x1)] [] h := fun _ _ => rfl
  rw [e nX12_isVan nX12_refuse] at q
  clear e
  refine segW_wk (by decide) (by decide) hg rwX12_savings (CLKW_C (liPW_ok (pX12_isVan_ok hg)) (CLKW_C (pX12_refuse_ok hg) CLKW_N)) krWI_ok ?_ q
  clear q
  refine ct_C ?_ (ct_N)
  · intro l st h q
    obtain ⟨m0, q1⟩ := tkC_of q
    obtain ⟨x1, m1, q2⟩ := tkI_of q1
    obtain ⟨x2, m2, q3⟩ := tkI_of q2
    obtain ⟨rfl, q4⟩ := skE_of q3
    exact WK_less (k36 _ _ _ _ q4) (List.forall_mem_cons.mpr ⟨m0, (List.forall_mem_cons.mpr ⟨m1, (List.forall_mem_cons.mpr ⟨m2, (fun _ h => absurd h List.not_mem_nil)⟩)⟩)⟩)
def nX12_savings (x1 : Int) (h : HH) : Option (Int × HH) := bX12_savings nX12_isVan nX12_refuse (nX12_savings_36 100000) x1 h
theorem wX12_savings {g : SG} (hg : GOK g) {σ0 : SG} : ∀ {x1 : Int} {h : HH} {b : (Int × HH)}, nX12_savings x1 h = some b → WK 215 (.inl (some (aI b.1))) σ0 (abH 71 119 g b.2) 0 [(0, aR 71), (1, aI x1)] [] (abH 71 119 g h) 0 0 := by
  intro x1 h b q
  exact uX12_savings hg (fun _ _ _ _ q => wX12_savings_36 hg q) q
theorem mX12_savings {g : SG} (hg : GOK g) {h : HH} {x1 : Int} {b : (Int × HH)} (q : nX12_savings x1 h = some b) : MCT 215 [] [aR 71, aI x1] (abH 71 119 g h) (.inl (some (aI b.1))) (abH 71 119 g b.2) :=
  mct_of (by decide) (MFok 215 (by decide +kernel)) (fun _ => Nat.le_of_ble_eq_true rfl) (wX12_savings hg q)
def pX12_savings {β : Type} (z : Int → HH → Option (Int × HH)) : PW β := fun as h f => skC 71 as fun as => skI as fun x1 as => skE as (bnd (z x1 h) fun r => f (.inl (some (aI r.1))) r.2)
theorem pX12_savings_ok {β : Type} {g : SG} (hg : GOK g) : CW1 (β := β) 215 (pX12_savings nX12_savings) 71 119 g := fun as h f b q => by
  obtain ⟨as, rfl, q1⟩ := skC_of q
  obtain ⟨x1, as, rfl, q2⟩ := skI_of q1
  obtain ⟨rfl, q0⟩ := skE_of q2
  obtain ⟨r, z1, z2⟩ := bnd_of q0
  exact ⟨_, _, z2, by decide, mX12_savings hg z1, rfl, rfl, fun z => absurd z (by decide)⟩
def csX12_looksFor : List (Nat × List (Nat × ARow)) := [(40, [(0, 1, .aload_n 0, 0, 0, 0), (1, 1, .iconst (-1), 0, 0, 0), (2, 3, .putfield 307, 12, 63, 0), (5, 1, .iconst 0, 0, 0, 0), (6, 1, .istore_n 2, 0, 0, 0), (7, 1, .iload_n 2, 0, 0, 0), (8, 1, .aload_n 0, 0, 0, 0), (9, 3, .getfield 185, 12, 27, 0), (12, 3, .if_icmp .ge 98, 110, 0, 0), (15, 1, .aload_n 0, 0, 0, 0), (16, 1, .iload_n 2, 0, 0, 0), (17, 3, .invokevirtual 310, 197, 2, 12), (20, 1, .istore_n 3, 0, 0, 0), (21, 1, .iconst 0, 0, 0, 0), (22, 2, .istore 4, 0, 0, 0), (24, 2, .iload 4, 0, 0, 0), (26, 1, .aload_n 0, 0, 0, 0), (27, 3, .getfield 79, 12, 26, 2), (30, 1, .iload_n 2, 0, 0, 0), (31, 1, .iaload, 0, 0, 0), (32, 3, .if_icmp .gt 72, 104, 0, 0), (35, 1, .aload_n 0, 0, 0, 0), (36, 1, .iload_n 2, 0, 0, 0), (37, 3, .invokevirtual 250, 193, 2, 12)]),
  (84, [(40, 1, .aload_n 0, 0, 0, 0), (41, 2, .iload 4, 0, 0, 0), (43, 1, .iload_n 1, 0, 0, 0), (44, 3, .invokevirtual 266, 195, 3, 12), (47, 1, .aload_n 0, 0, 0, 0), (48, 1, .iload_n 2, 0, 0, 0), (49, 3, .invokevirtual 254, 192, 2, 12), (52, 2, .istore 5, 0, 0, 0), (54, 2, .iload 5, 0, 0, 0), (56, 1, .iconst (-1), 0, 0, 0), (57, 3, .if_icmp .eq 41, 98, 0, 0), (60, 1, .aload_n 0, 0, 0, 0), (61, 3, .getfield 307, 12, 63, 0), (64, 1, .iconst (-1), 0, 0, 0), (65, 3, .if_icmp .eq 14, 79, 0, 0), (68, 2, .iload 5, 0, 0, 0), (70, 1, .iload_n 3, 0, 0, 0), (71, 1, .isub, 0, 0, 0), (72, 1, .aload_n 0, 0, 0, 0), (73, 3, .getfield 313, 12, 65, 0), (76, 3, .if_icmp .ge 22, 98, 0, 0), (79, 1, .aload_n 0, 0, 0, 0), (80, 1, .iload_n 2, 0, 0, 0), (81, 3, .putfield 307, 12, 63, 0)]),
  (100000, [(84, 1, .aload_n 0, 0, 0, 0), (85, 2, .iload 4, 0, 0, 0), (87, 3, .putfield 316, 12, 64, 0), (90, 1, .aload_n 0, 0, 0, 0), (91, 2, .iload 5, 0, 0, 0), (93, 1, .iload_n 3, 0, 0, 0), (94, 1, .isub, 0, 0, 0), (95, 3, .putfield 313, 12, 65, 0), (98, 3, .iinc 4 1, 0, 0, 0), (101, 3, .goto (-77), 24, 0, 0), (104, 3, .iinc 2 1, 0, 0, 0), (107, 3, .goto (-100), 7, 0, 0), (110, 1, .return_, 0, 0, 0)])]
theorem rwX12_looksFor : rowsB (mB 216) (mO 216) (mX 216) (mIni 216) (mFr 216) (mLo 216) (mT 216) csX12_looksFor = true := by decide +kernel
def bX12_looksFor_98 (c24 : Int → Int → Int → Int → HH → Option HH) (x1 : Int) (x2 : Int) (x3 : Int) (x4 : Int) (h : HH) : Option HH :=
  gd (R32 (x4 + 1)) <|
    c24 x1 x2 x3 (x4 + 1) h
theorem uX12_looksFor_98 {g : SG} (hg : GOK g) {σ0 : SG} {c24 : Int → Int → Int → Int → HH → Option HH} (k24 : ∀ (x1 : Int) (x2 : Int) (x3 : Int) (x4 : Int) (h : HH) (b : HH), c24 x1 x2 x3 x4 h = some b → WK 216 (.inl none) σ0 (abH 71 119 g b) 24 [(0, aR 71), (1, aI x1), (2, aI x2), (3, aI x3), (4, aI x4)] [] (abH 71 119 g h) 0 0) : ∀ {x1 : Int} {x2 : Int} {x3 : Int} {x4 : Int} {h : HH} {b : HH}, bX12_looksFor_98 c24 x1 x2 x3 x4 h = some b → WK 216 (.inl none) σ0 (abH 71 119 g b) 98 [(0, aR 71), (1, aI x1), (2, aI x2), (3, aI x3), (4, aI x4)] [] (abH 71 119 g h) 0 0 := by
  intro x1 x2 x3 x4 h b q
  have e : bX12_looksFor_98 c24 x1 x2 x3 x4 h = segW 71 119 g.2.2.2.2 krWV clN csX12_looksFor (cuC 24 (fun l st s => tkC 0 71 l <| tkI 1 l fun x1 => tkI 2 l fun x2 => tkI 3 l fun x3 => tkI 4 l fun x4 => skE st (c24 x1 x2 x3 x4 s)) cuN) 1000 98 [(0, aR 71), (1, aI x1), (2, aI x2), (3, aI x3), (4, aI x4)] [] h := rfl
  rw [e] at q
  clear e
  refine segW_wk (by decide) (by decide) hg rwX12_looksFor CLKW_N krWV_ok ?_ q
  clear q
  refine ct_C ?_ (ct_N)
  · intro l st h q
    obtain ⟨m0, q1⟩ := tkC_of q
    obtain ⟨x1, m1, q2⟩ := tkI_of q1
    obtain ⟨x2, m2, q3⟩ := tkI_of q2
    obtain ⟨x3, m3, q4⟩ := tkI_of q3
    obtain ⟨x4, m4, q5⟩ := tkI_of q4
    obtain ⟨rfl, q6⟩ := skE_of q5
    exact WK_less (k24 _ _ _ _ _ _ q6) (List.forall_mem_cons.mpr ⟨m0, (List.forall_mem_cons.mpr ⟨m1, (List.forall_mem_cons.mpr ⟨m2, (List.forall_mem_cons.mpr ⟨m3, (List.forall_mem_cons.mpr ⟨m4, (fun _ h => absurd h List.not_mem_nil)⟩)⟩)⟩)⟩)⟩)
def nX12_looksFor_98 (c7 : Int → Int → HH → Option HH) (c24 : Int → Int → Int → Int → HH → Option HH) (x1 : Int) (x2 : Int) (x3 : Int) (x4 : Int) (h : HH) : Option HH := bX12_looksFor_98 c24 x1 x2 x3 x4 h
theorem wX12_looksFor_98 {g : SG} (hg : GOK g) {σ0 : SG} {c7 : Int → Int → HH → Option HH} {c24 : Int → Int → Int → Int → HH → Option HH} (k7 : ∀ (x1 : Int) (x2 : Int) (h : HH) (b : HH), c7 x1 x2 h = some b → WK 216 (.inl none) σ0 (abH 71 119 g b) 7 [(0, aR 71), (1, aI x1), (2, aI x2)] [] (abH 71 119 g h) 0 0) (k24 : ∀ (x1 : Int) (x2 : Int) (x3 : Int) (x4 : Int) (h : HH) (b : HH), c24 x1 x2 x3 x4 h = some b → WK 216 (.inl none) σ0 (abH 71 119 g b) 24 [(0, aR 71), (1, aI x1), (2, aI x2), (3, aI x3), (4, aI x4)] [] (abH 71 119 g h) 0 0) : ∀ {x1 : Int} {x2 : Int} {x3 : Int} {x4 : Int} {h : HH} {b : HH}, nX12_looksFor_98 c7 c24 x1 x2 x3 x4 h = some b → WK 216 (.inl none) σ0 (abH 71 119 g b) 98 [(0, aR 71), (1, aI x1), (2, aI x2), (3, aI x3), (4, aI x4)] [] (abH 71 119 g h) 0 0 := by
  intro x1 x2 x3 x4 h b q
  exact uX12_looksFor_98 hg k24 q
def bX12_looksFor_79 (c98 : Int → Int → Int → Int → HH → Option HH) (x1 : Int) (x2 : Int) (x3 : Int) (x4 : Int) (x5 : Int) (h : HH) : Option HH :=
  bnd (some (hI h 71 63 x2)) fun h1 =>
    bnd (some (hI h1 71 64 x4)) fun h2 =>
    gd (R32 (x5 - x3)) <|
    bnd (some (hI h2 71 65 (x5 - x3))) fun h3 =>
    c98 x1 x2 x3 x4 h3
theorem uX12_looksFor_79 {g : SG} (hg : GOK g) {σ0 : SG} {c98 : Int → Int → Int → Int → HH → Option HH} (k98 : ∀ (x1 : Int) (x2 : Int) (x3 : Int) (x4 : Int) (h : HH) (b : HH), c98 x1 x2 x3 x4 h = some b → WK 216 (.inl none) σ0 (abH 71 119 g b) 98 [(0, aR 71), (1, aI x1), (2, aI x2), (3, aI x3), (4, aI x4)] [] (abH 71 119 g h) 0 0) : ∀ {x1 : Int} {x2 : Int} {x3 : Int} {x4 : Int} {x5 : Int} {h : HH} {b : HH}, bX12_looksFor_79 c98 x1 x2 x3 x4 x5 h = some b → WK 216 (.inl none) σ0 (abH 71 119 g b) 79 [(0, aR 71), (1, aI x1), (2, aI x2), (3, aI x3), (4, aI x4), (5, aI x5)] [] (abH 71 119 g h) 0 0 := by
  intro x1 x2 x3 x4 x5 h b q
  have e : bX12_looksFor_79 c98 x1 x2 x3 x4 x5 h = segW 71 119 g.2.2.2.2 krWV clN csX12_looksFor (cuC 98 (fun l st s => tkC 0 71 l <| tkI 1 l fun x1 => tkI 2 l fun x2 => tkI 3 l fun x3 => tkI 4 l fun x4 => skE st (c98 x1 x2 x3 x4 s)) cuN) 1000 79 [(0, aR 71), (1, aI x1), (2, aI x2), (3, aI x3), (4, aI x4), (5, aI x5)] [] h := rfl
  rw [e] at q
  clear e
  refine segW_wk (by decide) (by decide) hg rwX12_looksFor CLKW_N krWV_ok ?_ q
  clear q
  refine ct_C ?_ (ct_N)
  · intro l st h q
    obtain ⟨m0, q1⟩ := tkC_of q
    obtain ⟨x1, m1, q2⟩ := tkI_of q1
    obtain ⟨x2, m2, q3⟩ := tkI_of q2
    obtain ⟨x3, m3, q4⟩ := tkI_of q3
    obtain ⟨x4, m4, q5⟩ := tkI_of q4
    obtain ⟨rfl, q6⟩ := skE_of q5
    exact WK_less (k98 _ _ _ _ _ _ q6) (List.forall_mem_cons.mpr ⟨m0, (List.forall_mem_cons.mpr ⟨m1, (List.forall_mem_cons.mpr ⟨m2, (List.forall_mem_cons.mpr ⟨m3, (List.forall_mem_cons.mpr ⟨m4, (fun _ h => absurd h List.not_mem_nil)⟩)⟩)⟩)⟩)⟩)
def nX12_looksFor_79 (c7 : Int → Int → HH → Option HH) (c24 : Int → Int → Int → Int → HH → Option HH) (x1 : Int) (x2 : Int) (x3 : Int) (x4 : Int) (x5 : Int) (h : HH) : Option HH := bX12_looksFor_79 (nX12_looksFor_98 c7 c24) x1 x2 x3 x4 x5 h
theorem wX12_looksFor_79 {g : SG} (hg : GOK g) {σ0 : SG} {c7 : Int → Int → HH → Option HH} {c24 : Int → Int → Int → Int → HH → Option HH} (k7 : ∀ (x1 : Int) (x2 : Int) (h : HH) (b : HH), c7 x1 x2 h = some b → WK 216 (.inl none) σ0 (abH 71 119 g b) 7 [(0, aR 71), (1, aI x1), (2, aI x2)] [] (abH 71 119 g h) 0 0) (k24 : ∀ (x1 : Int) (x2 : Int) (x3 : Int) (x4 : Int) (h : HH) (b : HH), c24 x1 x2 x3 x4 h = some b → WK 216 (.inl none) σ0 (abH 71 119 g b) 24 [(0, aR 71), (1, aI x1), (2, aI x2), (3, aI x3), (4, aI x4)] [] (abH 71 119 g h) 0 0) : ∀ {x1 : Int} {x2 : Int} {x3 : Int} {x4 : Int} {x5 : Int} {h : HH} {b : HH}, nX12_looksFor_79 c7 c24 x1 x2 x3 x4 x5 h = some b → WK 216 (.inl none) σ0 (abH 71 119 g b) 79 [(0, aR 71), (1, aI x1), (2, aI x2), (3, aI x3), (4, aI x4), (5, aI x5)] [] (abH 71 119 g h) 0 0 := by
  intro x1 x2 x3 x4 x5 h b q
  exact uX12_looksFor_79 hg (fun _ _ _ _ _ _ q => wX12_looksFor_98 hg k7 k24 q) q
def bX12_looksFor_24 (f193 : Int → HH → Option HH) (f195 : Int → Int → HH → Option HH) (f192 : Int → HH → Option (Int × HH)) (c7 : Int → Int → HH → Option HH) (c79 : Int → Int → Int → Int → Int → HH → Option HH) (c98 : Int → Int → Int → Int → HH → Option HH) (x1 : Int) (x2 : Int) (x3 : Int) (x4 : Int) (h : HH) : Option HH :=
  gd ((0 : Int) ≤ x2 ∧ x2 < (3 : Int)) <|
    if ((h.1 95 x2) : Int) < x4 then
    gd (R32 (x2 + 1)) <|
    c7 x1 (x2 + 1) h
  else
    bnd (f193 x2 h) fun r1 =>
    bnd (f195 x4 x1 r1) fun r2 =>
    bnd (f192 x2 r2) fun r3 =>
    if r3.1 = ((-1) : Int) then
    c98 x1 x2 x3 x4 r3.2
  else
    if (r3.2.1 71 63) = ((-1) : Int) then
    c79 x1 x2 x3 x4 r3.1 r3.2
  else
    gd (R32 (r3.1 - x3)) <|
    if (r3.1 - x3) < ((r3.2.1 71 65) : Int) then
    c79 x1 x2 x3 x4 r3.1 r3.2
  else
    c98 x1 x2 x3 x4 r3.2
set_option maxRecDepth 100000 in
theorem uX12_looksFor_24 {g : SG} (hg : GOK g) {σ0 : SG} {c7 : Int → Int → HH → Option HH} {c79 : Int → Int → Int → Int → Int → HH → Option HH} {c98 : Int → Int → Int → Int → HH → Option HH} (k7 : ∀ (x1 : Int) (x2 : Int) (h : HH) (b : HH), c7 x1 x2 h = some b → WK 216 (.inl none) σ0 (abH 71 119 g b) 7 [(0, aR 71), (1, aI x1), (2, aI x2)] [] (abH 71 119 g h) 0 0) (k79 : ∀ (x1 : Int) (x2 : Int) (x3 : Int) (x4 : Int) (x5 : Int) (h : HH) (b : HH), c79 x1 x2 x3 x4 x5 h = some b → WK 216 (.inl none) σ0 (abH 71 119 g b) 79 [(0, aR 71), (1, aI x1), (2, aI x2), (3, aI x3), (4, aI x4), (5, aI x5)] [] (abH 71 119 g h) 0 0) (k98 : ∀ (x1 : Int) (x2 : Int) (x3 : Int) (x4 : Int) (h : HH) (b : HH), c98 x1 x2 x3 x4 h = some b → WK 216 (.inl none) σ0 (abH 71 119 g b) 98 [(0, aR 71), (1, aI x1), (2, aI x2), (3, aI x3), (4, aI x4)] [] (abH 71 119 g h) 0 0) : ∀ {x1 : Int} {x2 : Int} {x3 : Int} {x4 : Int} {h : HH} {b : HH}, bX12_looksFor_24 nX12_loads nX12_inserts nX12_drives c7 c79 c98 x1 x2 x3 x4 h = some b → WK 216 (.inl none) σ0 (abH 71 119 g b) 24 [(0, aR 71), (1, aI x1), (2, aI x2), (3, aI x3), (4, aI x4)] [] (abH 71 119 g h) 0 0 := by
  intro x1 x2 x3 x4 h b q
  have e : ∀ (f193 : Int → HH → Option HH) (f195 : Int → Int → HH → Option HH) (f192 : Int → HH → Option (Int × HH)) , bX12_looksFor_24 f193 f195 f192 c7 c79 c98 x1 x2 x3 x4 h = segW 71 119 g.2.2.2.2 krWV (clC 193 (pX12_loads f193) (clC 195 (pX12_inserts f195) (clC 192 (pX12_drives f192) clN))) csX12_looksFor (cuC 7 (fun l st s => tkC 0 71 l <| tkI 1 l fun x1 => tkI 2 l fun x2 => skE st (c7 x1 x2 s)) (cuC 79 (fun l st s => tkC 0 71 l <| tkI 1 l fun x1 => tkI 2 l fun x2 => tkI 3 l fun x3 => tkI 4 l fun x4 => tkI 5 l fun x5 => skE st (c79 x1 x2 x3 x4 x5 s)) (cuC 98 (fun l st s => tkC 0 71 l <| tkI 1 l fun x1 => tkI 2 l fun x2 => tkI 3 l fun x3 => tkI 4 l fun x4 => skE st (c98 x1 x2 x3 x4 s)) cuN))) 1000 24 [(0, aR 71), (1, aI x1), (2, aI x2), (3, aI x3), (4, aI x4)] [] h := fun _ _ _ => rfl
  rw [e nX12_loads nX12_inserts nX12_drives] at q
  clear e
  refine segW_wk (by decide) (by decide) hg rwX12_looksFor (CLKW_C (pX12_loads_ok hg) (CLKW_C (pX12_inserts_ok hg) (CLKW_C (pX12_drives_ok hg) CLKW_N))) krWV_ok ?_ q
  clear q
  refine ct_C ?_ (ct_C ?_ (ct_C ?_ (ct_N)))
  · intro l st h q
    obtain ⟨m0, q1⟩ := tkC_of q
    obtain ⟨x1, m1, q2⟩ := tkI_of q1
    obtain ⟨x2, m2, q3⟩ := tkI_of q2
    obtain ⟨rfl, q4⟩ := skE_of q3
    exact WK_less (k7 _ _ _ _ q4) (List.forall_mem_cons.mpr ⟨m0, (List.forall_mem_cons.mpr ⟨m1, (List.forall_mem_cons.mpr ⟨m2, (fun _ h => absurd h List.not_mem_nil)⟩)⟩)⟩)
  · intro l st h q
    obtain ⟨m0, q1⟩ := tkC_of q
    obtain ⟨x1, m1, q2⟩ := tkI_of q1
    obtain ⟨x2, m2, q3⟩ := tkI_of q2
    obtain ⟨x3, m3, q4⟩ := tkI_of q3
    obtain ⟨x4, m4, q5⟩ := tkI_of q4
    obtain ⟨x5, m5, q6⟩ := tkI_of q5
    obtain ⟨rfl, q7⟩ := skE_of q6
    exact WK_less (k79 _ _ _ _ _ _ _ q7) (List.forall_mem_cons.mpr ⟨m0, (List.forall_mem_cons.mpr ⟨m1, (List.forall_mem_cons.mpr ⟨m2, (List.forall_mem_cons.mpr ⟨m3, (List.forall_mem_cons.mpr ⟨m4, (List.forall_mem_cons.mpr ⟨m5, (fun _ h => absurd h List.not_mem_nil)⟩)⟩)⟩)⟩)⟩)⟩)
  · intro l st h q
    obtain ⟨m0, q1⟩ := tkC_of q
    obtain ⟨x1, m1, q2⟩ := tkI_of q1
    obtain ⟨x2, m2, q3⟩ := tkI_of q2
    obtain ⟨x3, m3, q4⟩ := tkI_of q3
    obtain ⟨x4, m4, q5⟩ := tkI_of q4
    obtain ⟨rfl, q6⟩ := skE_of q5
    exact WK_less (k98 _ _ _ _ _ _ q6) (List.forall_mem_cons.mpr ⟨m0, (List.forall_mem_cons.mpr ⟨m1, (List.forall_mem_cons.mpr ⟨m2, (List.forall_mem_cons.mpr ⟨m3, (List.forall_mem_cons.mpr ⟨m4, (fun _ h => absurd h List.not_mem_nil)⟩)⟩)⟩)⟩)⟩)
def nX12_looksFor_24 (c7 : Int → Int → HH → Option HH) : Nat → Int → Int → Int → Int → HH → Option HH := iter (fun _ _ _ _ _ => none) (fun self => bX12_looksFor_24 nX12_loads nX12_inserts nX12_drives c7 (nX12_looksFor_79 c7 self) (nX12_looksFor_98 c7 self))
theorem nX12_looksFor_24_s {c7 : Int → Int → HH → Option HH} {F : Nat} : nX12_looksFor_24 c7 (F + 1) = bX12_looksFor_24 nX12_loads nX12_inserts nX12_drives c7 (nX12_looksFor_79 c7 (nX12_looksFor_24 c7 F)) (nX12_looksFor_98 c7 (nX12_looksFor_24 c7 F)) := rfl
theorem wX12_looksFor_24 {g : SG} (hg : GOK g) {σ0 : SG} {c7 : Int → Int → HH → Option HH} (k7 : ∀ (x1 : Int) (x2 : Int) (h : HH) (b : HH), c7 x1 x2 h = some b → WK 216 (.inl none) σ0 (abH 71 119 g b) 7 [(0, aR 71), (1, aI x1), (2, aI x2)] [] (abH 71 119 g h) 0 0) : ∀ {F : Nat}, ∀ {x1 : Int} {x2 : Int} {x3 : Int} {x4 : Int} {h : HH} {b : HH}, nX12_looksFor_24 c7 F x1 x2 x3 x4 h = some b → WK 216 (.inl none) σ0 (abH 71 119 g b) 24 [(0, aR 71), (1, aI x1), (2, aI x2), (3, aI x3), (4, aI x4)] [] (abH 71 119 g h) 0 0 := by
  intro F
  have z : ∀ (x1 : Int) (x2 : Int) (x3 : Int) (x4 : Int) (h : HH) (b : HH), nX12_looksFor_24 c7 F x1 x2 x3 x4 h = some b → WK 216 (.inl none) σ0 (abH 71 119 g b) 24 [(0, aR 71), (1, aI x1), (2, aI x2), (3, aI x3), (4, aI x4)] [] (abH 71 119 g h) 0 0 := iter_ind (P := fun (c : Int → Int → Int → Int → HH → Option HH) => ∀ (x1 : Int) (x2 : Int) (x3 : Int) (x4 : Int) (h : HH) (b : HH), c x1 x2 x3 x4 h = some b → WK 216 (.inl none) σ0 (abH 71 119 g b) 24 [(0, aR 71), (1, aI x1), (2, aI x2), (3, aI x3), (4, aI x4)] [] (abH 71 119 g h) 0 0) (by
    intro x1 x2 x3 x4 h b q
    cases q) (fun self ih => by
    intro x1 x2 x3 x4 h b q
    exact uX12_looksFor_24 hg k7 (fun _ _ _ _ _ _ _ q => wX12_looksFor_79 hg k7 ih q) (fun _ _ _ _ _ _ q => wX12_looksFor_98 hg k7 ih q) q) F
  intro x1 x2 x3 x4 h b q
  exact z _ _ _ _ _ _ q
def bX12_looksFor_7 (f197 : Int → HH → Option (Int × HH)) (c24 : Int → Int → Int → Int → HH → Option HH) (x1 : Int) (x2 : Int) (h : HH) : Option HH :=
  if x2 < ((h.1 71 27) : Int) then
    bnd (f197 x2 h) fun r1 =>
    c24 x1 x2 r1.1 0 r1.2
  else
    some h
theorem uX12_looksFor_7 {g : SG} (hg : GOK g) {σ0 : SG} {c24 : Int → Int → Int → Int → HH → Option HH} (k24 : ∀ (x1 : Int) (x2 : Int) (x3 : Int) (x4 : Int) (h : HH) (b : HH), c24 x1 x2 x3 x4 h = some b → WK 216 (.inl none) σ0 (abH 71 119 g b) 24 [(0, aR 71), (1, aI x1), (2, aI x2), (3, aI x3), (4, aI x4)] [] (abH 71 119 g h) 0 0) : ∀ {x1 : Int} {x2 : Int} {h : HH} {b : HH}, bX12_looksFor_7 nX12_costOf c24 x1 x2 h = some b → WK 216 (.inl none) σ0 (abH 71 119 g b) 7 [(0, aR 71), (1, aI x1), (2, aI x2)] [] (abH 71 119 g h) 0 0 := by
  intro x1 x2 h b q
  have e : ∀ (f197 : Int → HH → Option (Int × HH)) , bX12_looksFor_7 f197 c24 x1 x2 h = segW 71 119 g.2.2.2.2 krWV (clC 197 (pX12_costOf f197) clN) csX12_looksFor (cuC 24 (fun l st s => tkC 0 71 l <| tkI 1 l fun x1 => tkI 2 l fun x2 => tkI 3 l fun x3 => tkI 4 l fun x4 => skE st (c24 x1 x2 x3 x4 s)) cuN) 1000 7 [(0, aR 71), (1, aI x1), (2, aI x2)] [] h := fun _ => rfl
  rw [e nX12_costOf] at q
  clear e
  refine segW_wk (by decide) (by decide) hg rwX12_looksFor (CLKW_C (pX12_costOf_ok hg) CLKW_N) krWV_ok ?_ q
  clear q
  refine ct_C ?_ (ct_N)
  · intro l st h q
    obtain ⟨m0, q1⟩ := tkC_of q
    obtain ⟨x1, m1, q2⟩ := tkI_of q1
    obtain ⟨x2, m2, q3⟩ := tkI_of q2
    obtain ⟨x3, m3, q4⟩ := tkI_of q3
    obtain ⟨x4, m4, q5⟩ := tkI_of q4
    obtain ⟨rfl, q6⟩ := skE_of q5
    exact WK_less (k24 _ _ _ _ _ _ q6) (List.forall_mem_cons.mpr ⟨m0, (List.forall_mem_cons.mpr ⟨m1, (List.forall_mem_cons.mpr ⟨m2, (List.forall_mem_cons.mpr ⟨m3, (List.forall_mem_cons.mpr ⟨m4, (fun _ h => absurd h List.not_mem_nil)⟩)⟩)⟩)⟩)⟩)
def nX12_looksFor_7 : Nat → Int → Int → HH → Option HH := iter (fun _ _ _ => none) (fun self => bX12_looksFor_7 nX12_costOf (nX12_looksFor_24 self 100000))
theorem nX12_looksFor_7_s {F : Nat} : nX12_looksFor_7 (F + 1) = bX12_looksFor_7 nX12_costOf (nX12_looksFor_24 (nX12_looksFor_7 F) 100000) := rfl
theorem wX12_looksFor_7 {g : SG} (hg : GOK g) {σ0 : SG} : ∀ {F : Nat}, ∀ {x1 : Int} {x2 : Int} {h : HH} {b : HH}, nX12_looksFor_7 F x1 x2 h = some b → WK 216 (.inl none) σ0 (abH 71 119 g b) 7 [(0, aR 71), (1, aI x1), (2, aI x2)] [] (abH 71 119 g h) 0 0 := by
  intro F
  have z : ∀ (x1 : Int) (x2 : Int) (h : HH) (b : HH), nX12_looksFor_7 F x1 x2 h = some b → WK 216 (.inl none) σ0 (abH 71 119 g b) 7 [(0, aR 71), (1, aI x1), (2, aI x2)] [] (abH 71 119 g h) 0 0 := iter_ind (P := fun (c : Int → Int → HH → Option HH) => ∀ (x1 : Int) (x2 : Int) (h : HH) (b : HH), c x1 x2 h = some b → WK 216 (.inl none) σ0 (abH 71 119 g b) 7 [(0, aR 71), (1, aI x1), (2, aI x2)] [] (abH 71 119 g h) 0 0) (by
    intro x1 x2 h b q
    cases q) (fun self ih => by
    intro x1 x2 h b q
    exact uX12_looksFor_7 hg (fun _ _ _ _ _ _ q => wX12_looksFor_24 hg ih q) q) F
  intro x1 x2 h b q
  exact z _ _ _ _ q
def bX12_looksFor (c7 : Int → Int → HH → Option HH) (x1 : Int) (h : HH) : Option HH :=
  bnd (some (hI h 71 63 (-1))) fun h1 =>
    c7 x1 0 h1
theorem uX12_looksFor {g : SG} (hg : GOK g) {σ0 : SG} {c7 : Int → Int → HH → Option HH} (k7 : ∀ (x1 : Int) (x2 : Int) (h : HH) (b : HH), c7 x1 x2 h = some b → WK 216 (.inl none) σ0 (abH 71 119 g b) 7 [(0, aR 71), (1, aI x1), (2, aI x2)] [] (abH 71 119 g h) 0 0) : ∀ {x1 : Int} {h : HH} {b : HH}, bX12_looksFor c7 x1 h = some b → WK 216 (.inl none) σ0 (abH 71 119 g b) 0 [(0, aR 71), (1, aI x1)] [] (abH 71 119 g h) 0 0 := by
  intro x1 h b q
  have e : bX12_looksFor c7 x1 h = segW 71 119 g.2.2.2.2 krWV clN csX12_looksFor (cuC 7 (fun l st s => tkC 0 71 l <| tkI 1 l fun x1 => tkI 2 l fun x2 => skE st (c7 x1 x2 s)) cuN) 1000 0 [(0, aR 71), (1, aI x1)] [] h := rfl
  rw [e] at q
  clear e
  refine segW_wk (by decide) (by decide) hg rwX12_looksFor CLKW_N krWV_ok ?_ q
  clear q
  refine ct_C ?_ (ct_N)
  · intro l st h q
    obtain ⟨m0, q1⟩ := tkC_of q
    obtain ⟨x1, m1, q2⟩ := tkI_of q1
    obtain ⟨x2, m2, q3⟩ := tkI_of q2
    obtain ⟨rfl, q4⟩ := skE_of q3
    exact WK_less (k7 _ _ _ _ q4) (List.forall_mem_cons.mpr ⟨m0, (List.forall_mem_cons.mpr ⟨m1, (List.forall_mem_cons.mpr ⟨m2, (fun _ h => absurd h List.not_mem_nil)⟩)⟩)⟩)
def nX12_looksFor (x1 : Int) (h : HH) : Option HH := bX12_looksFor (nX12_looksFor_7 100000) x1 h
theorem wX12_looksFor {g : SG} (hg : GOK g) {σ0 : SG} : ∀ {x1 : Int} {h : HH} {b : HH}, nX12_looksFor x1 h = some b → WK 216 (.inl none) σ0 (abH 71 119 g b) 0 [(0, aR 71), (1, aI x1)] [] (abH 71 119 g h) 0 0 := by
  intro x1 h b q
  exact uX12_looksFor hg (fun _ _ _ _ q => wX12_looksFor_7 hg q) q
theorem mX12_looksFor {g : SG} (hg : GOK g) {h : HH} {x1 : Int} {b : HH} (q : nX12_looksFor x1 h = some b) : MCT 216 [] [aR 71, aI x1] (abH 71 119 g h) (.inl none) (abH 71 119 g b) :=
  mct_of (by decide) (MFok 216 (by decide +kernel)) (fun _ => Nat.le_of_ble_eq_true rfl) (wX12_looksFor hg q)
def pX12_looksFor {β : Type} (z : Int → HH → Option HH) : PW β := fun as h f => skC 71 as fun as => skI as fun x1 as => skE as (bnd (z x1 h) fun r => f (.inl none) r)
theorem pX12_looksFor_ok {β : Type} {g : SG} (hg : GOK g) : CW1 (β := β) 216 (pX12_looksFor nX12_looksFor) 71 119 g := fun as h f b q => by
  obtain ⟨as, rfl, q1⟩ := skC_of q
  obtain ⟨x1, as, rfl, q2⟩ := skI_of q1
  obtain ⟨rfl, q0⟩ := skE_of q2
  obtain ⟨r, z1, z2⟩ := bnd_of q0
  exact ⟨_, _, z2, by decide, mX12_looksFor hg z1, rfl, rfl, fun z => absurd z (by decide)⟩
def csX12_putIn : List (Nat × List (Nat × ARow)) := [(42, [(0, 1, .aload_n 0, 0, 0, 0), (1, 1, .iload_n 1, 0, 0, 0), (2, 3, .invokevirtual 220, 175, 2, 12), (5, 3, .ifCond .ne 9, 14, 0, 0), (8, 1, .aload_n 0, 0, 0, 0), (9, 1, .iconst 1, 0, 0, 0), (10, 3, .invokevirtual 200, 177, 2, 12), (13, 1, .ireturn, 0, 0, 0), (14, 1, .aload_n 0, 0, 0, 0), (15, 1, .iload_n 1, 0, 0, 0), (16, 3, .invokevirtual 263, 199, 2, 12), (19, 3, .ifCond .ne 9, 28, 0, 0), (22, 1, .aload_n 0, 0, 0, 0), (23, 1, .iconst 2, 0, 0, 0), (24, 3, .invokevirtual 200, 177, 2, 12), (27, 1, .ireturn, 0, 0, 0), (28, 1, .aload_n 0, 0, 0, 0), (29, 1, .iload_n 1, 0, 0, 0), (30, 3, .invokevirtual 319, 216, 2, 12), (33, 1, .aload_n 0, 0, 0, 0), (34, 3, .getfield 307, 12, 63, 0), (37, 1, .iconst (-1), 0, 0, 0), (38, 3, .if_icmp .ne 9, 47, 0, 0), (41, 1, .aload_n 0, 0, 0, 0)]),
  (100000, [(42, 1, .iconst 3, 0, 0, 0), (43, 3, .invokevirtual 200, 177, 2, 12), (46, 1, .ireturn, 0, 0, 0), (47, 1, .aload_n 0, 0, 0, 0), (48, 3, .invokevirtual 270, 200, 1, 12), (51, 1, .aload_n 0, 0, 0, 0), (52, 1, .aload_n 0, 0, 0, 0), (53, 3, .getfield 307, 12, 63, 0), (56, 3, .invokevirtual 250, 193, 2, 12), (59, 1, .aload_n 0, 0, 0, 0), (60, 1, .aload_n 0, 0, 0, 0), (61, 3, .getfield 316, 12, 64, 0), (64, 1, .iload_n 1, 0, 0, 0), (65, 3, .invokevirtual 266, 195, 3, 12), (68, 1, .aload_n 0, 0, 0, 0), (69, 1, .aload_n 0, 0, 0, 0), (70, 3, .getfield 307, 12, 63, 0), (73, 3, .invokevirtual 257, 194, 2, 12), (76, 1, .aload_n 0, 0, 0, 0), (77, 1, .aload_n 0, 0, 0, 0), (78, 3, .getfield 307, 12, 63, 0), (81, 3, .invokevirtual 209, 178, 2, 12), (84, 1, .ireturn, 0, 0, 0)])]
theorem rwX12_putIn : rowsB (mB 217) (mO 217) (mX 217) (mIni 217) (mFr 217) (mLo 217) (mT 217) csX12_putIn = true := by decide +kernel
def bX12_putIn (f175 : HH → Int → Option Int) (f199 : HH → Int → Option Int) (f216 : Int → HH → Option HH) (f200 : HH → Option HH) (f193 : Int → HH → Option HH) (f195 : Int → Int → HH → Option HH) (f194 : Int → HH → Option HH) (f178 : Int → HH → Option (Int × HH)) (f177 : Int → HH → Option (Int × HH)) (x1 : Int) (h : HH) : Option (Int × HH) :=
  bnd (f175 h x1) fun r1 =>
    if r1 = (0 : Int) then
    bnd (f177 1 h) fun r11 =>
    some (r11.1, r11.2)
  else
    bnd (f199 h x1) fun r2 =>
    if r2 = (0 : Int) then
    bnd (f177 2 h) fun r10 =>
    some (r10.1, r10.2)
  else
    bnd (f216 x1 h) fun r3 =>
    if (r3.1 71 63) = ((-1) : Int) then
    bnd (f177 3 r3) fun r9 =>
    some (r9.1, r9.2)
  else
    bnd (f200 r3) fun r4 =>
    bnd (f193 (r4.1 71 63) r4) fun r5 =>
    bnd (f195 (r5.1 71 64) x1 r5) fun r6 =>
    bnd (f194 (r6.1 71 63) r6) fun r7 =>
    bnd (f178 (r7.1 71 63) r7) fun r8 =>
    some (r8.1, r8.2)
set_option maxRecDepth 100000 in
theorem uX12_putIn {g : SG} (hg : GOK g) {σ0 : SG} : ∀ {x1 : Int} {h : HH} {b : (Int × HH)}, bX12_putIn nX12_isParcel nX12_canBePut nX12_looksFor nX12_keeps nX12_loads nX12_inserts nX12_lays nX12_told nX12_refuse x1 h = some b → WK 217 (.inl (some (aI b.1))) σ0 (abH 71 119 g b.2) 0 [(0, aR 71), (1, aI x1)] [] (abH 71 119 g h) 0 0 := by
  intro x1 h b q
  have e : ∀ (f175 : HH → Int → Option Int) (f199 : HH → Int → Option Int) (f216 : Int → HH → Option HH) (f200 : HH → Option HH) (f193 : Int → HH → Option HH) (f195 : Int → Int → HH → Option HH) (f194 : Int → HH → Option HH) (f178 : Int → HH → Option (Int × HH)) (f177 : Int → HH → Option (Int × HH)) , bX12_putIn f175 f199 f216 f200 f193 f195 f194 f178 f177 x1 h = segW 71 119 g.2.2.2.2 krWI (clC 175 (liPW (pX12_isParcel f175)) (clC 199 (liPW (pX12_canBePut f199)) (clC 216 (pX12_looksFor f216) (clC 200 (pX12_keeps f200) (clC 193 (pX12_loads f193) (clC 195 (pX12_inserts f195) (clC 194 (pX12_lays f194) (clC 178 (pX12_told f178) (clC 177 (pX12_refuse f177) clN))))))))) csX12_putIn cuN 1000 0 [(0, aR 71), (1, aI x1)] [] h := fun _ _ _ _ _ _ _ _ _ => rfl
  rw [e nX12_isParcel nX12_canBePut nX12_looksFor nX12_keeps nX12_loads nX12_inserts nX12_lays nX12_told nX12_refuse] at q
  clear e
  refine segW_wk (by decide) (by decide) hg rwX12_putIn (CLKW_C (liPW_ok (pX12_isParcel_ok hg)) (CLKW_C (liPW_ok (pX12_canBePut_ok hg)) (CLKW_C (pX12_looksFor_ok hg) (CLKW_C (pX12_keeps_ok hg) (CLKW_C (pX12_loads_ok hg) (CLKW_C (pX12_inserts_ok hg) (CLKW_C (pX12_lays_ok hg) (CLKW_C (pX12_told_ok hg) (CLKW_C (pX12_refuse_ok hg) CLKW_N))))))))) krWI_ok ?_ q
  clear q
  exact ct_N
def nX12_putIn (x1 : Int) (h : HH) : Option (Int × HH) := bX12_putIn nX12_isParcel nX12_canBePut nX12_looksFor nX12_keeps nX12_loads nX12_inserts nX12_lays nX12_told nX12_refuse x1 h
theorem wX12_putIn {g : SG} (hg : GOK g) {σ0 : SG} : ∀ {x1 : Int} {h : HH} {b : (Int × HH)}, nX12_putIn x1 h = some b → WK 217 (.inl (some (aI b.1))) σ0 (abH 71 119 g b.2) 0 [(0, aR 71), (1, aI x1)] [] (abH 71 119 g h) 0 0 := by
  intro x1 h b q
  exact uX12_putIn hg q
theorem mX12_putIn {g : SG} (hg : GOK g) {h : HH} {x1 : Int} {b : (Int × HH)} (q : nX12_putIn x1 h = some b) : MCT 217 [] [aR 71, aI x1] (abH 71 119 g h) (.inl (some (aI b.1))) (abH 71 119 g b.2) :=
  mct_of (by decide) (MFok 217 (by decide +kernel)) (fun _ => Nat.le_of_ble_eq_true rfl) (wX12_putIn hg q)
def pX12_putIn {β : Type} (z : Int → HH → Option (Int × HH)) : PW β := fun as h f => skC 71 as fun as => skI as fun x1 as => skE as (bnd (z x1 h) fun r => f (.inl (some (aI r.1))) r.2)
theorem pX12_putIn_ok {β : Type} {g : SG} (hg : GOK g) : CW1 (β := β) 217 (pX12_putIn nX12_putIn) 71 119 g := fun as h f b q => by
  obtain ⟨as, rfl, q1⟩ := skC_of q
  obtain ⟨x1, as, rfl, q2⟩ := skI_of q1
  obtain ⟨rfl, q0⟩ := skE_of q2
  obtain ⟨r, z1, z2⟩ := bnd_of q0
  exact ⟨_, _, z2, by decide, mX12_putIn hg z1, rfl, rfl, fun z => absurd z (by decide)⟩
def csX12_putInCost : List (Nat × List (Nat × ARow)) := [(42, [(0, 1, .aload_n 0, 0, 0, 0), (1, 1, .iload_n 1, 0, 0, 0), (2, 3, .invokevirtual 220, 175, 2, 12), (5, 3, .ifCond .ne 9, 14, 0, 0), (8, 1, .aload_n 0, 0, 0, 0), (9, 1, .iconst 1, 0, 0, 0), (10, 3, .invokevirtual 200, 177, 2, 12), (13, 1, .ireturn, 0, 0, 0), (14, 1, .aload_n 0, 0, 0, 0), (15, 1, .iload_n 1, 0, 0, 0), (16, 3, .invokevirtual 263, 199, 2, 12), (19, 3, .ifCond .ne 9, 28, 0, 0), (22, 1, .aload_n 0, 0, 0, 0), (23, 1, .iconst 2, 0, 0, 0), (24, 3, .invokevirtual 200, 177, 2, 12), (27, 1, .ireturn, 0, 0, 0), (28, 1, .aload_n 0, 0, 0, 0), (29, 1, .iload_n 1, 0, 0, 0), (30, 3, .invokevirtual 319, 216, 2, 12), (33, 1, .aload_n 0, 0, 0, 0), (34, 1, .aload_n 0, 0, 0, 0), (35, 3, .getfield 307, 12, 63, 0), (38, 1, .iconst (-1), 0, 0, 0), (39, 3, .if_icmp .ne 7, 46, 0, 0)]),
  (100000, [(42, 1, .iconst (-1), 0, 0, 0), (43, 3, .goto 7, 50, 0, 0), (46, 1, .aload_n 0, 0, 0, 0), (47, 3, .getfield 313, 12, 65, 0), (50, 3, .invokevirtual 209, 178, 2, 12), (53, 1, .ireturn, 0, 0, 0)])]
theorem rwX12_putInCost : rowsB (mB 218) (mO 218) (mX 218) (mIni 218) (mFr 218) (mLo 218) (mT 218) csX12_putInCost = true := by decide +kernel
def bX12_putInCost_50 (f178 : Int → HH → Option (Int × HH)) (y0 : Int) (h : HH) : Option (Int × HH) :=
  bnd (f178 y0 h) fun r1 =>
    some (r1.1, r1.2)
theorem uX12_putInCost_50 {g : SG} (hg : GOK g) {σ0 : SG} : ∀ {y0 : Int} {h : HH} {b : (Int × HH)}, bX12_putInCost_50 nX12_told y0 h = some b → WK 218 (.inl (some (aI b.1))) σ0 (abH 71 119 g b.2) 50 [] [aI y0, aR 71] (abH 71 119 g h) 0 0 := by
  intro y0 h b q
  have e : ∀ (f178 : Int → HH → Option (Int × HH)) , bX12_putInCost_50 f178 y0 h = segW 71 119 g.2.2.2.2 krWI (clC 178 (pX12_told f178) clN) csX12_putInCost cuN 1000 50 [] [aI y0, aR 71] h := fun _ => rfl
  rw [e nX12_told] at q
  clear e
  refine segW_wk (by decide) (by decide) hg rwX12_putInCost (CLKW_C (pX12_told_ok hg) CLKW_N) krWI_ok ?_ q
  clear q
  exact ct_N
def nX12_putInCost_50 (y0 : Int) (h : HH) : Option (Int × HH) := bX12_putInCost_50 nX12_told y0 h
theorem wX12_putInCost_50 {g : SG} (hg : GOK g) {σ0 : SG} : ∀ {y0 : Int} {h : HH} {b : (Int × HH)}, nX12_putInCost_50 y0 h = some b → WK 218 (.inl (some (aI b.1))) σ0 (abH 71 119 g b.2) 50 [] [aI y0, aR 71] (abH 71 119 g h) 0 0 := by
  intro y0 h b q
  exact uX12_putInCost_50 hg q
def bX12_putInCost (f175 : HH → Int → Option Int) (f199 : HH → Int → Option Int) (f216 : Int → HH → Option HH) (f177 : Int → HH → Option (Int × HH)) (c50 : Int → HH → Option (Int × HH)) (x1 : Int) (h : HH) : Option (Int × HH) :=
  bnd (f175 h x1) fun r1 =>
    if r1 = (0 : Int) then
    bnd (f177 1 h) fun r5 =>
    some (r5.1, r5.2)
  else
    bnd (f199 h x1) fun r2 =>
    if r2 = (0 : Int) then
    bnd (f177 2 h) fun r4 =>
    some (r4.1, r4.2)
  else
    bnd (f216 x1 h) fun r3 =>
    if (r3.1 71 63) = ((-1) : Int) then
    c50 (-1) r3
  else
    c50 (r3.1 71 65) r3
set_option maxRecDepth 100000 in
theorem uX12_putInCost {g : SG} (hg : GOK g) {σ0 : SG} {c50 : Int → HH → Option (Int × HH)} (k50 : ∀ (y0 : Int) (h : HH) (b : (Int × HH)), c50 y0 h = some b → WK 218 (.inl (some (aI b.1))) σ0 (abH 71 119 g b.2) 50 [] [aI y0, aR 71] (abH 71 119 g h) 0 0) : ∀ {x1 : Int} {h : HH} {b : (Int × HH)}, bX12_putInCost nX12_isParcel nX12_canBePut nX12_looksFor nX12_refuse c50 x1 h = some b → WK 218 (.inl (some (aI b.1))) σ0 (abH 71 119 g b.2) 0 [(0, aR 71), (1, aI x1)] [] (abH 71 119 g h) 0 0 := by
  intro x1 h b q
  have e : ∀ (f175 : HH → Int → Option Int) (f199 : HH → Int → Option Int) (f216 : Int → HH → Option HH) (f177 : Int → HH → Option (Int × HH)) , bX12_putInCost f175 f199 f216 f177 c50 x1 h = segW 71 119 g.2.2.2.2 krWI (clC 175 (liPW (pX12_isParcel f175)) (clC 199 (liPW (pX12_canBePut f199)) (clC 216 (pX12_looksFor f216) (clC 177 (pX12_refuse f177) clN)))) csX12_putInCost (cuC 50 (fun l st s => skI st fun y0 st => skC 71 st fun st => skE st (c50 y0 s)) cuN) 1000 0 [(0, aR 71), (1, aI x1)] [] h := fun _ _ _ _ => rfl
  rw [e nX12_isParcel nX12_canBePut nX12_looksFor nX12_refuse] at q
  clear e
  refine segW_wk (by decide) (by decide) hg rwX12_putInCost (CLKW_C (liPW_ok (pX12_isParcel_ok hg)) (CLKW_C (liPW_ok (pX12_canBePut_ok hg)) (CLKW_C (pX12_looksFor_ok hg) (CLKW_C (pX12_refuse_ok hg) CLKW_N)))) krWI_ok ?_ q
  clear q
  refine ct_C ?_ (ct_N)
  · intro l st h q
    obtain ⟨y0, t0, rfl, q1⟩ := skI_of q
    obtain ⟨t1, rfl, q2⟩ := skC_of q1
    obtain ⟨rfl, q3⟩ := skE_of q2
    exact WK_less (k50 _ _ _ q3) (fun _ h => absurd h List.not_mem_nil)
def nX12_putInCost (x1 : Int) (h : HH) : Option (Int × HH) := bX12_putInCost nX12_isParcel nX12_canBePut nX12_looksFor nX12_refuse nX12_putInCost_50 x1 h
theorem wX12_putInCost {g : SG} (hg : GOK g) {σ0 : SG} : ∀ {x1 : Int} {h : HH} {b : (Int × HH)}, nX12_putInCost x1 h = some b → WK 218 (.inl (some (aI b.1))) σ0 (abH 71 119 g b.2) 0 [(0, aR 71), (1, aI x1)] [] (abH 71 119 g h) 0 0 := by
  intro x1 h b q
  exact uX12_putInCost hg (fun _ _ _ q => wX12_putInCost_50 hg q) q
theorem mX12_putInCost {g : SG} (hg : GOK g) {h : HH} {x1 : Int} {b : (Int × HH)} (q : nX12_putInCost x1 h = some b) : MCT 218 [] [aR 71, aI x1] (abH 71 119 g h) (.inl (some (aI b.1))) (abH 71 119 g b.2) :=
  mct_of (by decide) (MFok 218 (by decide +kernel)) (fun _ => Nat.le_of_ble_eq_true rfl) (wX12_putInCost hg q)
def pX12_putInCost {β : Type} (z : Int → HH → Option (Int × HH)) : PW β := fun as h f => skC 71 as fun as => skI as fun x1 as => skE as (bnd (z x1 h) fun r => f (.inl (some (aI r.1))) r.2)
theorem pX12_putInCost_ok {β : Type} {g : SG} (hg : GOK g) : CW1 (β := β) 218 (pX12_putInCost nX12_putInCost) 71 119 g := fun as h f b q => by
  obtain ⟨as, rfl, q1⟩ := skC_of q
  obtain ⟨x1, as, rfl, q2⟩ := skI_of q1
  obtain ⟨rfl, q0⟩ := skE_of q2
  obtain ⟨r, z1, z2⟩ := bnd_of q0
  exact ⟨_, _, z2, by decide, mX12_putInCost hg z1, rfl, rfl, fun z => absurd z (by decide)⟩
def csX12_bestMove : List (Nat × List (Nat × ARow)) := [(37, [(0, 1, .aload_n 0, 0, 0, 0), (1, 3, .getfield 79, 12, 26, 2), (4, 1, .iload_n 1, 0, 0, 0), (5, 1, .iaload, 0, 0, 0), (6, 1, .istore_n 3, 0, 0, 0), (7, 1, .iload_n 2, 0, 0, 0), (8, 2, .istore 4, 0, 0, 0), (10, 1, .iconst 0, 0, 0, 0), (11, 2, .istore 5, 0, 0, 0), (13, 1, .iconst 0, 0, 0, 0), (14, 2, .istore 6, 0, 0, 0), (16, 2, .iload 6, 0, 0, 0), (18, 1, .iload_n 3, 0, 0, 0), (19, 1, .iload_n 3, 0, 0, 0), (20, 1, .imul, 0, 0, 0), (21, 3, .if_icmp .ge 158, 179, 0, 0), (24, 1, .iconst 0, 0, 0, 0), (25, 2, .istore 7, 0, 0, 0), (27, 2, .iload 7, 0, 0, 0), (29, 1, .iconst 2, 0, 0, 0), (30, 3, .if_icmp .ge 143, 173, 0, 0), (33, 2, .iload 6, 0, 0, 0), (35, 1, .iload_n 3, 0, 0, 0), (36, 1, .idiv, 0, 0, 0)]),
  (83, [(37, 2, .istore 8, 0, 0, 0), (39, 2, .iload 6, 0, 0, 0), (41, 1, .iload_n 3, 0, 0, 0), (42, 1, .irem, 0, 0, 0), (43, 2, .istore 9, 0, 0, 0), (45, 1, .aload_n 0, 0, 0, 0), (46, 1, .iload_n 1, 0, 0, 0), (47, 3, .invokevirtual 250, 193, 2, 12), (50, 2, .iload 7, 0, 0, 0), (52, 3, .ifCond .ne 23, 75, 0, 0), (55, 2, .iload 8, 0, 0, 0), (57, 2, .iload 9, 0, 0, 0), (59, 3, .if_icmp .ge 16, 75, 0, 0), (62, 1, .aload_n 0, 0, 0, 0), (63, 2, .iload 8, 0, 0, 0), (65, 2, .iload 9, 0, 0, 0), (67, 1, .iconst 1, 0, 0, 0), (68, 1, .iadd, 0, 0, 0), (69, 3, .invokevirtual 279, 204, 3, 12), (72, 3, .goto 39, 111, 0, 0), (75, 2, .iload 7, 0, 0, 0), (77, 1, .iconst 1, 0, 0, 0), (78, 3, .if_icmp .ne 89, 167, 0, 0), (81, 2, .iload 8, 0, 0, 0)]),
  (130, [(83, 2, .iload 9, 0, 0, 0), (85, 3, .if_icmp .eq 82, 167, 0, 0), (88, 1, .aload_n 0, 0, 0, 0), (89, 3, .getfield 127, 12, 47, 2), (92, 2, .iload 8, 0, 0, 0), (94, 1, .iaload, 0, 0, 0), (95, 2, .istore 10, 0, 0, 0), (97, 1, .aload_n 0, 0, 0, 0), (98, 2, .iload 8, 0, 0, 0), (100, 3, .invokevirtual 276, 196, 2, 12), (103, 1, .aload_n 0, 0, 0, 0), (104, 2, .iload 9, 0, 0, 0), (106, 2, .iload 10, 0, 0, 0), (108, 3, .invokevirtual 266, 195, 3, 12), (111, 1, .aload_n 0, 0, 0, 0), (112, 1, .iload_n 1, 0, 0, 0), (113, 3, .invokevirtual 254, 192, 2, 12), (116, 2, .istore 10, 0, 0, 0), (118, 2, .iload 10, 0, 0, 0), (120, 1, .iconst (-1), 0, 0, 0), (121, 3, .if_icmp .eq 46, 167, 0, 0), (124, 2, .iload 10, 0, 0, 0), (126, 1, .iload_n 2, 0, 0, 0), (127, 3, .if_icmp .ge 40, 167, 0, 0)]),
  (186, [(130, 2, .iload 5, 0, 0, 0), (132, 3, .ifCond .eq 24, 156, 0, 0), (135, 2, .iload 10, 0, 0, 0), (137, 2, .iload 4, 0, 0, 0), (139, 3, .if_icmp .lt 17, 156, 0, 0), (142, 2, .iload 10, 0, 0, 0), (144, 2, .iload 4, 0, 0, 0), (146, 3, .if_icmp .ne 21, 167, 0, 0), (149, 1, .aload_n 0, 0, 0, 0), (150, 3, .invokevirtual 322, 208, 1, 12), (153, 3, .ifCond .eq 14, 167, 0, 0), (156, 1, .iconst 1, 0, 0, 0), (157, 2, .istore 5, 0, 0, 0), (159, 2, .iload 10, 0, 0, 0), (161, 2, .istore 4, 0, 0, 0), (163, 1, .aload_n 0, 0, 0, 0), (164, 3, .invokevirtual 325, 209, 1, 12), (167, 3, .iinc 7 1, 0, 0, 0), (170, 3, .goto (-143), 27, 0, 0), (173, 3, .iinc 6 1, 0, 0, 0), (176, 3, .goto (-160), 16, 0, 0), (179, 2, .iload 5, 0, 0, 0), (181, 3, .ifCond .eq 8, 189, 0, 0), (184, 2, .iload 4, 0, 0, 0)]),
  (100000, [(186, 3, .goto 4, 190, 0, 0), (189, 1, .iload_n 2, 0, 0, 0), (190, 1, .ireturn, 0, 0, 0)])]
theorem rwX12_bestMove : rowsB (mB 219) (mO 219) (mX 219) (mIni 219) (mFr 219) (mLo 219) (mT 219) csX12_bestMove = true := by decide +kernel
def bX12_bestMove_167 (c27 : Int → Int → Int → Int → Int → Int → Int → HH → Option (Int × HH)) (x1 : Int) (x2 : Int) (x3 : Int) (x4 : Int) (x5 : Int) (x6 : Int) (x7 : Int) (h : HH) : Option (Int × HH) :=
  gd (R32 (x7 + 1)) <|
    c27 x1 x2 x3 x4 x5 x6 (x7 + 1) h
theorem uX12_bestMove_167 {g : SG} (hg : GOK g) {σ0 : SG} {c27 : Int → Int → Int → Int → Int → Int → Int → HH → Option (Int × HH)} (k27 : ∀ (x1 : Int) (x2 : Int) (x3 : Int) (x4 : Int) (x5 : Int) (x6 : Int) (x7 : Int) (h : HH) (b : (Int × HH)), c27 x1 x2 x3 x4 x5 x6 x7 h = some b → WK 219 (.inl (some (aI b.1))) σ0 (abH 71 119 g b.2) 27 [(0, aR 71), (1, aI x1), (2, aI x2), (3, aI x3), (4, aI x4), (5, aI x5), (6, aI x6), (7, aI x7)] [] (abH 71 119 g h) 0 0) : ∀ {x1 : Int} {x2 : Int} {x3 : Int} {x4 : Int} {x5 : Int} {x6 : Int} {x7 : Int} {h : HH} {b : (Int × HH)}, bX12_bestMove_167 c27 x1 x2 x3 x4 x5 x6 x7 h = some b → WK 219 (.inl (some (aI b.1))) σ0 (abH 71 119 g b.2) 167 [(0, aR 71), (1, aI x1), (2, aI x2), (3, aI x3), (4, aI x4), (5, aI x5), (6, aI x6), (7, aI x7)] [] (abH 71 119 g h) 0 0 := by
  intro x1 x2 x3 x4 x5 x6 x7 h b q
  have e : bX12_bestMove_167 c27 x1 x2 x3 x4 x5 x6 x7 h = segW 71 119 g.2.2.2.2 krWI clN csX12_bestMove (cuC 27 (fun l st s => tkC 0 71 l <| tkI 1 l fun x1 => tkI 2 l fun x2 => tkI 3 l fun x3 => tkI 4 l fun x4 => tkI 5 l fun x5 => tkI 6 l fun x6 => tkI 7 l fun x7 => skE st (c27 x1 x2 x3 x4 x5 x6 x7 s)) cuN) 1000 167 [(0, aR 71), (1, aI x1), (2, aI x2), (3, aI x3), (4, aI x4), (5, aI x5), (6, aI x6), (7, aI x7)] [] h := rfl
  rw [e] at q
  clear e
  refine segW_wk (by decide) (by decide) hg rwX12_bestMove CLKW_N krWI_ok ?_ q
  clear q
  refine ct_C ?_ (ct_N)
  · intro l st h q
    obtain ⟨m0, q1⟩ := tkC_of q
    obtain ⟨x1, m1, q2⟩ := tkI_of q1
    obtain ⟨x2, m2, q3⟩ := tkI_of q2
    obtain ⟨x3, m3, q4⟩ := tkI_of q3
    obtain ⟨x4, m4, q5⟩ := tkI_of q4
    obtain ⟨x5, m5, q6⟩ := tkI_of q5
    obtain ⟨x6, m6, q7⟩ := tkI_of q6
    obtain ⟨x7, m7, q8⟩ := tkI_of q7
    obtain ⟨rfl, q9⟩ := skE_of q8
    exact WK_less (k27 _ _ _ _ _ _ _ _ _ q9) (List.forall_mem_cons.mpr ⟨m0, (List.forall_mem_cons.mpr ⟨m1, (List.forall_mem_cons.mpr ⟨m2, (List.forall_mem_cons.mpr ⟨m3, (List.forall_mem_cons.mpr ⟨m4, (List.forall_mem_cons.mpr ⟨m5, (List.forall_mem_cons.mpr ⟨m6, (List.forall_mem_cons.mpr ⟨m7, (fun _ h => absurd h List.not_mem_nil)⟩)⟩)⟩)⟩)⟩)⟩)⟩)⟩)
def nX12_bestMove_167 (c16 : Int → Int → Int → Int → Int → Int → HH → Option (Int × HH)) (c27 : Int → Int → Int → Int → Int → Int → Int → HH → Option (Int × HH)) (x1 : Int) (x2 : Int) (x3 : Int) (x4 : Int) (x5 : Int) (x6 : Int) (x7 : Int) (h : HH) : Option (Int × HH) := bX12_bestMove_167 c27 x1 x2 x3 x4 x5 x6 x7 h
theorem wX12_bestMove_167 {g : SG} (hg : GOK g) {σ0 : SG} {c16 : Int → Int → Int → Int → Int → Int → HH → Option (Int × HH)} {c27 : Int → Int → Int → Int → Int → Int → Int → HH → Option (Int × HH)} (k16 : ∀ (x1 : Int) (x2 : Int) (x3 : Int) (x4 : Int) (x5 : Int) (x6 : Int) (h : HH) (b : (Int × HH)), c16 x1 x2 x3 x4 x5 x6 h = some b → WK 219 (.inl (some (aI b.1))) σ0 (abH 71 119 g b.2) 16 [(0, aR 71), (1, aI x1), (2, aI x2), (3, aI x3), (4, aI x4), (5, aI x5), (6, aI x6)] [] (abH 71 119 g h) 0 0) (k27 : ∀ (x1 : Int) (x2 : Int) (x3 : Int) (x4 : Int) (x5 : Int) (x6 : Int) (x7 : Int) (h : HH) (b : (Int × HH)), c27 x1 x2 x3 x4 x5 x6 x7 h = some b → WK 219 (.inl (some (aI b.1))) σ0 (abH 71 119 g b.2) 27 [(0, aR 71), (1, aI x1), (2, aI x2), (3, aI x3), (4, aI x4), (5, aI x5), (6, aI x6), (7, aI x7)] [] (abH 71 119 g h) 0 0) : ∀ {x1 : Int} {x2 : Int} {x3 : Int} {x4 : Int} {x5 : Int} {x6 : Int} {x7 : Int} {h : HH} {b : (Int × HH)}, nX12_bestMove_167 c16 c27 x1 x2 x3 x4 x5 x6 x7 h = some b → WK 219 (.inl (some (aI b.1))) σ0 (abH 71 119 g b.2) 167 [(0, aR 71), (1, aI x1), (2, aI x2), (3, aI x3), (4, aI x4), (5, aI x5), (6, aI x6), (7, aI x7)] [] (abH 71 119 g h) 0 0 := by
  intro x1 x2 x3 x4 x5 x6 x7 h b q
  exact uX12_bestMove_167 hg k27 q
def bX12_bestMove_156 (f209 : HH → Option HH) (c167 : Int → Int → Int → Int → Int → Int → Int → HH → Option (Int × HH)) (x1 : Int) (x2 : Int) (x3 : Int) (x6 : Int) (x7 : Int) (x10 : Int) (h : HH) : Option (Int × HH) :=
  bnd (f209 h) fun r1 =>
    c167 x1 x2 x3 x10 1 x6 x7 r1
theorem uX12_bestMove_156 {g : SG} (hg : GOK g) {σ0 : SG} {c167 : Int → Int → Int → Int → Int → Int → Int → HH → Option (Int × HH)} (k167 : ∀ (x1 : Int) (x2 : Int) (x3 : Int) (x4 : Int) (x5 : Int) (x6 : Int) (x7 : Int) (h : HH) (b : (Int × HH)), c167 x1 x2 x3 x4 x5 x6 x7 h = some b → WK 219 (.inl (some (aI b.1))) σ0 (abH 71 119 g b.2) 167 [(0, aR 71), (1, aI x1), (2, aI x2), (3, aI x3), (4, aI x4), (5, aI x5), (6, aI x6), (7, aI x7)] [] (abH 71 119 g h) 0 0) : ∀ {x1 : Int} {x2 : Int} {x3 : Int} {x6 : Int} {x7 : Int} {x10 : Int} {h : HH} {b : (Int × HH)}, bX12_bestMove_156 nX12_isBest c167 x1 x2 x3 x6 x7 x10 h = some b → WK 219 (.inl (some (aI b.1))) σ0 (abH 71 119 g b.2) 156 [(0, aR 71), (1, aI x1), (2, aI x2), (3, aI x3), (6, aI x6), (7, aI x7), (10, aI x10)] [] (abH 71 119 g h) 0 0 := by
  intro x1 x2 x3 x6 x7 x10 h b q
  have e : ∀ (f209 : HH → Option HH) , bX12_bestMove_156 f209 c167 x1 x2 x3 x6 x7 x10 h = segW 71 119 g.2.2.2.2 krWI (clC 209 (pX12_isBest f209) clN) csX12_bestMove (cuC 167 (fun l st s => tkC 0 71 l <| tkI 1 l fun x1 => tkI 2 l fun x2 => tkI 3 l fun x3 => tkI 4 l fun x4 => tkI 5 l fun x5 => tkI 6 l fun x6 => tkI 7 l fun x7 => skE st (c167 x1 x2 x3 x4 x5 x6 x7 s)) cuN) 1000 156 [(0, aR 71), (1, aI x1), (2, aI x2), (3, aI x3), (6, aI x6), (7, aI x7), (10, aI x10)] [] h := fun _ => rfl
  rw [e nX12_isBest] at q
  clear e
  refine segW_wk (by decide) (by decide) hg rwX12_bestMove (CLKW_C (pX12_isBest_ok hg) CLKW_N) krWI_ok ?_ q
  clear q
  refine ct_C ?_ (ct_N)
  · intro l st h q
    obtain ⟨m0, q1⟩ := tkC_of q
    obtain ⟨x1, m1, q2⟩ := tkI_of q1
    obtain ⟨x2, m2, q3⟩ := tkI_of q2
    obtain ⟨x3, m3, q4⟩ := tkI_of q3
    obtain ⟨x4, m4, q5⟩ := tkI_of q4
    obtain ⟨x5, m5, q6⟩ := tkI_of q5
    obtain ⟨x6, m6, q7⟩ := tkI_of q6
    obtain ⟨x7, m7, q8⟩ := tkI_of q7
    obtain ⟨rfl, q9⟩ := skE_of q8
    exact WK_less (k167 _ _ _ _ _ _ _ _ _ q9) (List.forall_mem_cons.mpr ⟨m0, (List.forall_mem_cons.mpr ⟨m1, (List.forall_mem_cons.mpr ⟨m2, (List.forall_mem_cons.mpr ⟨m3, (List.forall_mem_cons.mpr ⟨m4, (List.forall_mem_cons.mpr ⟨m5, (List.forall_mem_cons.mpr ⟨m6, (List.forall_mem_cons.mpr ⟨m7, (fun _ h => absurd h List.not_mem_nil)⟩)⟩)⟩)⟩)⟩)⟩)⟩)⟩)
def nX12_bestMove_156 (c16 : Int → Int → Int → Int → Int → Int → HH → Option (Int × HH)) (c27 : Int → Int → Int → Int → Int → Int → Int → HH → Option (Int × HH)) (x1 : Int) (x2 : Int) (x3 : Int) (x6 : Int) (x7 : Int) (x10 : Int) (h : HH) : Option (Int × HH) := bX12_bestMove_156 nX12_isBest (nX12_bestMove_167 c16 c27) x1 x2 x3 x6 x7 x10 h
theorem wX12_bestMove_156 {g : SG} (hg : GOK g) {σ0 : SG} {c16 : Int → Int → Int → Int → Int → Int → HH → Option (Int × HH)} {c27 : Int → Int → Int → Int → Int → Int → Int → HH → Option (Int × HH)} (k16 : ∀ (x1 : Int) (x2 : Int) (x3 : Int) (x4 : Int) (x5 : Int) (x6 : Int) (h : HH) (b : (Int × HH)), c16 x1 x2 x3 x4 x5 x6 h = some b → WK 219 (.inl (some (aI b.1))) σ0 (abH 71 119 g b.2) 16 [(0, aR 71), (1, aI x1), (2, aI x2), (3, aI x3), (4, aI x4), (5, aI x5), (6, aI x6)] [] (abH 71 119 g h) 0 0) (k27 : ∀ (x1 : Int) (x2 : Int) (x3 : Int) (x4 : Int) (x5 : Int) (x6 : Int) (x7 : Int) (h : HH) (b : (Int × HH)), c27 x1 x2 x3 x4 x5 x6 x7 h = some b → WK 219 (.inl (some (aI b.1))) σ0 (abH 71 119 g b.2) 27 [(0, aR 71), (1, aI x1), (2, aI x2), (3, aI x3), (4, aI x4), (5, aI x5), (6, aI x6), (7, aI x7)] [] (abH 71 119 g h) 0 0) : ∀ {x1 : Int} {x2 : Int} {x3 : Int} {x6 : Int} {x7 : Int} {x10 : Int} {h : HH} {b : (Int × HH)}, nX12_bestMove_156 c16 c27 x1 x2 x3 x6 x7 x10 h = some b → WK 219 (.inl (some (aI b.1))) σ0 (abH 71 119 g b.2) 156 [(0, aR 71), (1, aI x1), (2, aI x2), (3, aI x3), (6, aI x6), (7, aI x7), (10, aI x10)] [] (abH 71 119 g h) 0 0 := by
  intro x1 x2 x3 x6 x7 x10 h b q
  exact uX12_bestMove_156 hg (fun _ _ _ _ _ _ _ _ _ q => wX12_bestMove_167 hg k16 k27 q) q
def bX12_bestMove_111 (f192 : Int → HH → Option (Int × HH)) (f208 : HH → Option Int) (c156 : Int → Int → Int → Int → Int → Int → HH → Option (Int × HH)) (c167 : Int → Int → Int → Int → Int → Int → Int → HH → Option (Int × HH)) (x1 : Int) (x2 : Int) (x3 : Int) (x4 : Int) (x5 : Int) (x6 : Int) (x7 : Int) (h : HH) : Option (Int × HH) :=
  bnd (f192 x1 h) fun r1 =>
    if r1.1 = ((-1) : Int) then
    c167 x1 x2 x3 x4 x5 x6 x7 r1.2
  else
    if r1.1 < (x2 : Int) then
    if x5 = (0 : Int) then
    c156 x1 x2 x3 x6 x7 r1.1 r1.2
  else
    if r1.1 < (x4 : Int) then
    c156 x1 x2 x3 x6 x7 r1.1 r1.2
  else
    if r1.1 = (x4 : Int) then
    bnd (f208 r1.2) fun r2 =>
    if r2 = (0 : Int) then
    c167 x1 x2 x3 x4 x5 x6 x7 r1.2
  else
    c156 x1 x2 x3 x6 x7 r1.1 r1.2
  else
    c167 x1 x2 x3 x4 x5 x6 x7 r1.2
  else
    c167 x1 x2 x3 x4 x5 x6 x7 r1.2
set_option maxRecDepth 100000 in
theorem uX12_bestMove_111 {g : SG} (hg : GOK g) {σ0 : SG} {c156 : Int → Int → Int → Int → Int → Int → HH → Option (Int × HH)} {c167 : Int → Int → Int → Int → Int → Int → Int → HH → Option (Int × HH)} (k156 : ∀ (x1 : Int) (x2 : Int) (x3 : Int) (x6 : Int) (x7 : Int) (x10 : Int) (h : HH) (b : (Int × HH)), c156 x1 x2 x3 x6 x7 x10 h = some b → WK 219 (.inl (some (aI b.1))) σ0 (abH 71 119 g b.2) 156 [(0, aR 71), (1, aI x1), (2, aI x2), (3, aI x3), (6, aI x6), (7, aI x7), (10, aI x10)] [] (abH 71 119 g h) 0 0) (k167 : ∀ (x1 : Int) (x2 : Int) (x3 : Int) (x4 : Int) (x5 : Int) (x6 : Int) (x7 : Int) (h : HH) (b : (Int × HH)), c167 x1 x2 x3 x4 x5 x6 x7 h = some b → WK 219 (.inl (some (aI b.1))) σ0 (abH 71 119 g b.2) 167 [(0, aR 71), (1, aI x1), (2, aI x2), (3, aI x3), (4, aI x4), (5, aI x5), (6, aI x6), (7, aI x7)] [] (abH 71 119 g h) 0 0) : ∀ {x1 : Int} {x2 : Int} {x3 : Int} {x4 : Int} {x5 : Int} {x6 : Int} {x7 : Int} {h : HH} {b : (Int × HH)}, bX12_bestMove_111 nX12_drives nX12_isAheadOfBest c156 c167 x1 x2 x3 x4 x5 x6 x7 h = some b → WK 219 (.inl (some (aI b.1))) σ0 (abH 71 119 g b.2) 111 [(0, aR 71), (1, aI x1), (2, aI x2), (3, aI x3), (4, aI x4), (5, aI x5), (6, aI x6), (7, aI x7)] [] (abH 71 119 g h) 0 0 := by
  intro x1 x2 x3 x4 x5 x6 x7 h b q
  have e : ∀ (f192 : Int → HH → Option (Int × HH)) (f208 : HH → Option Int) , bX12_bestMove_111 f192 f208 c156 c167 x1 x2 x3 x4 x5 x6 x7 h = segW 71 119 g.2.2.2.2 krWI (clC 192 (pX12_drives f192) (clC 208 (liPW (pX12_isAheadOfBest f208)) clN)) csX12_bestMove (cuC 156 (fun l st s => tkC 0 71 l <| tkI 1 l fun x1 => tkI 2 l fun x2 => tkI 3 l fun x3 => tkI 6 l fun x6 => tkI 7 l fun x7 => tkI 10 l fun x10 => skE st (c156 x1 x2 x3 x6 x7 x10 s)) (cuC 167 (fun l st s => tkC 0 71 l <| tkI 1 l fun x1 => tkI 2 l fun x2 => tkI 3 l fun x3 => tkI 4 l fun x4 => tkI 5 l fun x5 => tkI 6 l fun x6 => tkI 7 l fun x7 => skE st (c167 x1 x2 x3 x4 x5 x6 x7 s)) cuN)) 1000 111 [(0, aR 71), (1, aI x1), (2, aI x2), (3, aI x3), (4, aI x4), (5, aI x5), (6, aI x6), (7, aI x7)] [] h := fun _ _ => rfl
  rw [e nX12_drives nX12_isAheadOfBest] at q
  clear e
  refine segW_wk (by decide) (by decide) hg rwX12_bestMove (CLKW_C (pX12_drives_ok hg) (CLKW_C (liPW_ok (pX12_isAheadOfBest_ok hg)) CLKW_N)) krWI_ok ?_ q
  clear q
  refine ct_C ?_ (ct_C ?_ (ct_N))
  · intro l st h q
    obtain ⟨m0, q1⟩ := tkC_of q
    obtain ⟨x1, m1, q2⟩ := tkI_of q1
    obtain ⟨x2, m2, q3⟩ := tkI_of q2
    obtain ⟨x3, m3, q4⟩ := tkI_of q3
    obtain ⟨x6, m6, q5⟩ := tkI_of q4
    obtain ⟨x7, m7, q6⟩ := tkI_of q5
    obtain ⟨x10, m10, q7⟩ := tkI_of q6
    obtain ⟨rfl, q8⟩ := skE_of q7
    exact WK_less (k156 _ _ _ _ _ _ _ _ q8) (List.forall_mem_cons.mpr ⟨m0, (List.forall_mem_cons.mpr ⟨m1, (List.forall_mem_cons.mpr ⟨m2, (List.forall_mem_cons.mpr ⟨m3, (List.forall_mem_cons.mpr ⟨m6, (List.forall_mem_cons.mpr ⟨m7, (List.forall_mem_cons.mpr ⟨m10, (fun _ h => absurd h List.not_mem_nil)⟩)⟩)⟩)⟩)⟩)⟩)⟩)
  · intro l st h q
    obtain ⟨m0, q1⟩ := tkC_of q
    obtain ⟨x1, m1, q2⟩ := tkI_of q1
    obtain ⟨x2, m2, q3⟩ := tkI_of q2
    obtain ⟨x3, m3, q4⟩ := tkI_of q3
    obtain ⟨x4, m4, q5⟩ := tkI_of q4
    obtain ⟨x5, m5, q6⟩ := tkI_of q5
    obtain ⟨x6, m6, q7⟩ := tkI_of q6
    obtain ⟨x7, m7, q8⟩ := tkI_of q7
    obtain ⟨rfl, q9⟩ := skE_of q8
    exact WK_less (k167 _ _ _ _ _ _ _ _ _ q9) (List.forall_mem_cons.mpr ⟨m0, (List.forall_mem_cons.mpr ⟨m1, (List.forall_mem_cons.mpr ⟨m2, (List.forall_mem_cons.mpr ⟨m3, (List.forall_mem_cons.mpr ⟨m4, (List.forall_mem_cons.mpr ⟨m5, (List.forall_mem_cons.mpr ⟨m6, (List.forall_mem_cons.mpr ⟨m7, (fun _ h => absurd h List.not_mem_nil)⟩)⟩)⟩)⟩)⟩)⟩)⟩)⟩)
def nX12_bestMove_111 (c16 : Int → Int → Int → Int → Int → Int → HH → Option (Int × HH)) (c27 : Int → Int → Int → Int → Int → Int → Int → HH → Option (Int × HH)) (x1 : Int) (x2 : Int) (x3 : Int) (x4 : Int) (x5 : Int) (x6 : Int) (x7 : Int) (h : HH) : Option (Int × HH) := bX12_bestMove_111 nX12_drives nX12_isAheadOfBest (nX12_bestMove_156 c16 c27) (nX12_bestMove_167 c16 c27) x1 x2 x3 x4 x5 x6 x7 h
theorem wX12_bestMove_111 {g : SG} (hg : GOK g) {σ0 : SG} {c16 : Int → Int → Int → Int → Int → Int → HH → Option (Int × HH)} {c27 : Int → Int → Int → Int → Int → Int → Int → HH → Option (Int × HH)} (k16 : ∀ (x1 : Int) (x2 : Int) (x3 : Int) (x4 : Int) (x5 : Int) (x6 : Int) (h : HH) (b : (Int × HH)), c16 x1 x2 x3 x4 x5 x6 h = some b → WK 219 (.inl (some (aI b.1))) σ0 (abH 71 119 g b.2) 16 [(0, aR 71), (1, aI x1), (2, aI x2), (3, aI x3), (4, aI x4), (5, aI x5), (6, aI x6)] [] (abH 71 119 g h) 0 0) (k27 : ∀ (x1 : Int) (x2 : Int) (x3 : Int) (x4 : Int) (x5 : Int) (x6 : Int) (x7 : Int) (h : HH) (b : (Int × HH)), c27 x1 x2 x3 x4 x5 x6 x7 h = some b → WK 219 (.inl (some (aI b.1))) σ0 (abH 71 119 g b.2) 27 [(0, aR 71), (1, aI x1), (2, aI x2), (3, aI x3), (4, aI x4), (5, aI x5), (6, aI x6), (7, aI x7)] [] (abH 71 119 g h) 0 0) : ∀ {x1 : Int} {x2 : Int} {x3 : Int} {x4 : Int} {x5 : Int} {x6 : Int} {x7 : Int} {h : HH} {b : (Int × HH)}, nX12_bestMove_111 c16 c27 x1 x2 x3 x4 x5 x6 x7 h = some b → WK 219 (.inl (some (aI b.1))) σ0 (abH 71 119 g b.2) 111 [(0, aR 71), (1, aI x1), (2, aI x2), (3, aI x3), (4, aI x4), (5, aI x5), (6, aI x6), (7, aI x7)] [] (abH 71 119 g h) 0 0 := by
  intro x1 x2 x3 x4 x5 x6 x7 h b q
  exact uX12_bestMove_111 hg (fun _ _ _ _ _ _ _ _ q => wX12_bestMove_156 hg k16 k27 q) (fun _ _ _ _ _ _ _ _ _ q => wX12_bestMove_167 hg k16 k27 q) q
def bX12_bestMove_75 (f196 : Int → HH → Option HH) (f195 : Int → Int → HH → Option HH) (c111 : Int → Int → Int → Int → Int → Int → Int → HH → Option (Int × HH)) (c167 : Int → Int → Int → Int → Int → Int → Int → HH → Option (Int × HH)) (x1 : Int) (x2 : Int) (x3 : Int) (x4 : Int) (x5 : Int) (x6 : Int) (x7 : Int) (x8 : Int) (x9 : Int) (h : HH) : Option (Int × HH) :=
  if x7 = (1 : Int) then
    if x8 = (x9 : Int) then
    c167 x1 x2 x3 x4 x5 x6 x7 h
  else
    gd ((0 : Int) ≤ x8 ∧ x8 < (10 : Int)) <|
    bnd (f196 x8 h) fun r1 =>
    bnd (f195 x9 (h.1 105 x8) r1) fun r2 =>
    c111 x1 x2 x3 x4 x5 x6 x7 r2
  else
    c167 x1 x2 x3 x4 x5 x6 x7 h
theorem uX12_bestMove_75 {g : SG} (hg : GOK g) {σ0 : SG} {c111 : Int → Int → Int → Int → Int → Int → Int → HH → Option (Int × HH)} {c167 : Int → Int → Int → Int → Int → Int → Int → HH → Option (Int × HH)} (k111 : ∀ (x1 : Int) (x2 : Int) (x3 : Int) (x4 : Int) (x5 : Int) (x6 : Int) (x7 : Int) (h : HH) (b : (Int × HH)), c111 x1 x2 x3 x4 x5 x6 x7 h = some b → WK 219 (.inl (some (aI b.1))) σ0 (abH 71 119 g b.2) 111 [(0, aR 71), (1, aI x1), (2, aI x2), (3, aI x3), (4, aI x4), (5, aI x5), (6, aI x6), (7, aI x7)] [] (abH 71 119 g h) 0 0) (k167 : ∀ (x1 : Int) (x2 : Int) (x3 : Int) (x4 : Int) (x5 : Int) (x6 : Int) (x7 : Int) (h : HH) (b : (Int × HH)), c167 x1 x2 x3 x4 x5 x6 x7 h = some b → WK 219 (.inl (some (aI b.1))) σ0 (abH 71 119 g b.2) 167 [(0, aR 71), (1, aI x1), (2, aI x2), (3, aI x3), (4, aI x4), (5, aI x5), (6, aI x6), (7, aI x7)] [] (abH 71 119 g h) 0 0) : ∀ {x1 : Int} {x2 : Int} {x3 : Int} {x4 : Int} {x5 : Int} {x6 : Int} {x7 : Int} {x8 : Int} {x9 : Int} {h : HH} {b : (Int × HH)}, bX12_bestMove_75 nX12_removes nX12_inserts c111 c167 x1 x2 x3 x4 x5 x6 x7 x8 x9 h = some b → WK 219 (.inl (some (aI b.1))) σ0 (abH 71 119 g b.2) 75 [(0, aR 71), (1, aI x1), (2, aI x2), (3, aI x3), (4, aI x4), (5, aI x5), (6, aI x6), (7, aI x7), (8, aI x8), (9, aI x9)] [] (abH 71 119 g h) 0 0 := by
  intro x1 x2 x3 x4 x5 x6 x7 x8 x9 h b q
  have e : ∀ (f196 : Int → HH → Option HH) (f195 : Int → Int → HH → Option HH) , bX12_bestMove_75 f196 f195 c111 c167 x1 x2 x3 x4 x5 x6 x7 x8 x9 h = segW 71 119 g.2.2.2.2 krWI (clC 196 (pX12_removes f196) (clC 195 (pX12_inserts f195) clN)) csX12_bestMove (cuC 111 (fun l st s => tkC 0 71 l <| tkI 1 l fun x1 => tkI 2 l fun x2 => tkI 3 l fun x3 => tkI 4 l fun x4 => tkI 5 l fun x5 => tkI 6 l fun x6 => tkI 7 l fun x7 => skE st (c111 x1 x2 x3 x4 x5 x6 x7 s)) (cuC 167 (fun l st s => tkC 0 71 l <| tkI 1 l fun x1 => tkI 2 l fun x2 => tkI 3 l fun x3 => tkI 4 l fun x4 => tkI 5 l fun x5 => tkI 6 l fun x6 => tkI 7 l fun x7 => skE st (c167 x1 x2 x3 x4 x5 x6 x7 s)) cuN)) 1000 75 [(0, aR 71), (1, aI x1), (2, aI x2), (3, aI x3), (4, aI x4), (5, aI x5), (6, aI x6), (7, aI x7), (8, aI x8), (9, aI x9)] [] h := fun _ _ => rfl
  rw [e nX12_removes nX12_inserts] at q
  clear e
  refine segW_wk (by decide) (by decide) hg rwX12_bestMove (CLKW_C (pX12_removes_ok hg) (CLKW_C (pX12_inserts_ok hg) CLKW_N)) krWI_ok ?_ q
  clear q
  refine ct_C ?_ (ct_C ?_ (ct_N))
  · intro l st h q
    obtain ⟨m0, q1⟩ := tkC_of q
    obtain ⟨x1, m1, q2⟩ := tkI_of q1
    obtain ⟨x2, m2, q3⟩ := tkI_of q2
    obtain ⟨x3, m3, q4⟩ := tkI_of q3
    obtain ⟨x4, m4, q5⟩ := tkI_of q4
    obtain ⟨x5, m5, q6⟩ := tkI_of q5
    obtain ⟨x6, m6, q7⟩ := tkI_of q6
    obtain ⟨x7, m7, q8⟩ := tkI_of q7
    obtain ⟨rfl, q9⟩ := skE_of q8
    exact WK_less (k111 _ _ _ _ _ _ _ _ _ q9) (List.forall_mem_cons.mpr ⟨m0, (List.forall_mem_cons.mpr ⟨m1, (List.forall_mem_cons.mpr ⟨m2, (List.forall_mem_cons.mpr ⟨m3, (List.forall_mem_cons.mpr ⟨m4, (List.forall_mem_cons.mpr ⟨m5, (List.forall_mem_cons.mpr ⟨m6, (List.forall_mem_cons.mpr ⟨m7, (fun _ h => absurd h List.not_mem_nil)⟩)⟩)⟩)⟩)⟩)⟩)⟩)⟩)
  · intro l st h q
    obtain ⟨m0, q1⟩ := tkC_of q
    obtain ⟨x1, m1, q2⟩ := tkI_of q1
    obtain ⟨x2, m2, q3⟩ := tkI_of q2
    obtain ⟨x3, m3, q4⟩ := tkI_of q3
    obtain ⟨x4, m4, q5⟩ := tkI_of q4
    obtain ⟨x5, m5, q6⟩ := tkI_of q5
    obtain ⟨x6, m6, q7⟩ := tkI_of q6
    obtain ⟨x7, m7, q8⟩ := tkI_of q7
    obtain ⟨rfl, q9⟩ := skE_of q8
    exact WK_less (k167 _ _ _ _ _ _ _ _ _ q9) (List.forall_mem_cons.mpr ⟨m0, (List.forall_mem_cons.mpr ⟨m1, (List.forall_mem_cons.mpr ⟨m2, (List.forall_mem_cons.mpr ⟨m3, (List.forall_mem_cons.mpr ⟨m4, (List.forall_mem_cons.mpr ⟨m5, (List.forall_mem_cons.mpr ⟨m6, (List.forall_mem_cons.mpr ⟨m7, (fun _ h => absurd h List.not_mem_nil)⟩)⟩)⟩)⟩)⟩)⟩)⟩)⟩)
def nX12_bestMove_75 (c16 : Int → Int → Int → Int → Int → Int → HH → Option (Int × HH)) (c27 : Int → Int → Int → Int → Int → Int → Int → HH → Option (Int × HH)) (x1 : Int) (x2 : Int) (x3 : Int) (x4 : Int) (x5 : Int) (x6 : Int) (x7 : Int) (x8 : Int) (x9 : Int) (h : HH) : Option (Int × HH) := bX12_bestMove_75 nX12_removes nX12_inserts (nX12_bestMove_111 c16 c27) (nX12_bestMove_167 c16 c27) x1 x2 x3 x4 x5 x6 x7 x8 x9 h
theorem wX12_bestMove_75 {g : SG} (hg : GOK g) {σ0 : SG} {c16 : Int → Int → Int → Int → Int → Int → HH → Option (Int × HH)} {c27 : Int → Int → Int → Int → Int → Int → Int → HH → Option (Int × HH)} (k16 : ∀ (x1 : Int) (x2 : Int) (x3 : Int) (x4 : Int) (x5 : Int) (x6 : Int) (h : HH) (b : (Int × HH)), c16 x1 x2 x3 x4 x5 x6 h = some b → WK 219 (.inl (some (aI b.1))) σ0 (abH 71 119 g b.2) 16 [(0, aR 71), (1, aI x1), (2, aI x2), (3, aI x3), (4, aI x4), (5, aI x5), (6, aI x6)] [] (abH 71 119 g h) 0 0) (k27 : ∀ (x1 : Int) (x2 : Int) (x3 : Int) (x4 : Int) (x5 : Int) (x6 : Int) (x7 : Int) (h : HH) (b : (Int × HH)), c27 x1 x2 x3 x4 x5 x6 x7 h = some b → WK 219 (.inl (some (aI b.1))) σ0 (abH 71 119 g b.2) 27 [(0, aR 71), (1, aI x1), (2, aI x2), (3, aI x3), (4, aI x4), (5, aI x5), (6, aI x6), (7, aI x7)] [] (abH 71 119 g h) 0 0) : ∀ {x1 : Int} {x2 : Int} {x3 : Int} {x4 : Int} {x5 : Int} {x6 : Int} {x7 : Int} {x8 : Int} {x9 : Int} {h : HH} {b : (Int × HH)}, nX12_bestMove_75 c16 c27 x1 x2 x3 x4 x5 x6 x7 x8 x9 h = some b → WK 219 (.inl (some (aI b.1))) σ0 (abH 71 119 g b.2) 75 [(0, aR 71), (1, aI x1), (2, aI x2), (3, aI x3), (4, aI x4), (5, aI x5), (6, aI x6), (7, aI x7), (8, aI x8), (9, aI x9)] [] (abH 71 119 g h) 0 0 := by
  intro x1 x2 x3 x4 x5 x6 x7 x8 x9 h b q
  exact uX12_bestMove_75 hg (fun _ _ _ _ _ _ _ _ _ q => wX12_bestMove_111 hg k16 k27 q) (fun _ _ _ _ _ _ _ _ _ q => wX12_bestMove_167 hg k16 k27 q) q
def bX12_bestMove_27 (f193 : Int → HH → Option HH) (f204 : Int → Int → HH → Option HH) (c16 : Int → Int → Int → Int → Int → Int → HH → Option (Int × HH)) (c75 : Int → Int → Int → Int → Int → Int → Int → Int → Int → HH → Option (Int × HH)) (c111 : Int → Int → Int → Int → Int → Int → Int → HH → Option (Int × HH)) (x1 : Int) (x2 : Int) (x3 : Int) (x4 : Int) (x5 : Int) (x6 : Int) (x7 : Int) (h : HH) : Option (Int × HH) :=
  if x7 < (2 : Int) then
    gd ((0 : Int) ≤ x6 ∧ (0 : Int) < x3) <|
    gd ((0 : Int) ≤ x6 ∧ (0 : Int) < x3) <|
    bnd (f193 x1 h) fun r1 =>
    if x7 = (0 : Int) then
    if (x6 / x3) < ((x6 % x3) : Int) then
    gd (R32 ((x6 % x3) + 1)) <|
    bnd (f204 (x6 / x3) ((x6 % x3) + 1) r1) fun r2 =>
    c111 x1 x2 x3 x4 x5 x6 x7 r2
  else
    c75 x1 x2 x3 x4 x5 x6 x7 (x6 / x3) (x6 % x3) r1
  else
    c75 x1 x2 x3 x4 x5 x6 x7 (x6 / x3) (x6 % x3) r1
  else
    gd (R32 (x6 + 1)) <|
    c16 x1 x2 x3 x4 x5 (x6 + 1) h
set_option maxRecDepth 100000 in
theorem uX12_bestMove_27 {g : SG} (hg : GOK g) {σ0 : SG} {c16 : Int → Int → Int → Int → Int → Int → HH → Option (Int × HH)} {c75 : Int → Int → Int → Int → Int → Int → Int → Int → Int → HH → Option (Int × HH)} {c111 : Int → Int → Int → Int → Int → Int → Int → HH → Option (Int × HH)} (k16 : ∀ (x1 : Int) (x2 : Int) (x3 : Int) (x4 : Int) (x5 : Int) (x6 : Int) (h : HH) (b : (Int × HH)), c16 x1 x2 x3 x4 x5 x6 h = some b → WK 219 (.inl (some (aI b.1))) σ0 (abH 71 119 g b.2) 16 [(0, aR 71), (1, aI x1), (2, aI x2), (3, aI x3), (4, aI x4), (5, aI x5), (6, aI x6)] [] (abH 71 119 g h) 0 0) (k75 : ∀ (x1 : Int) (x2 : Int) (x3 : Int) (x4 : Int) (x5 : Int) (x6 : Int) (x7 : Int) (x8 : Int) (x9 : Int) (h : HH) (b : (Int × HH)), c75 x1 x2 x3 x4 x5 x6 x7 x8 x9 h = some b → WK 219 (.inl (some (aI b.1))) σ0 (abH 71 119 g b.2) 75 [(0, aR 71), (1, aI x1), (2, aI x2), (3, aI x3), (4, aI x4), (5, aI x5), (6, aI x6), (7, aI x7), (8, aI x8), (9, aI x9)] [] (abH 71 119 g h) 0 0) (k111 : ∀ (x1 : Int) (x2 : Int) (x3 : Int) (x4 : Int) (x5 : Int) (x6 : Int) (x7 : Int) (h : HH) (b : (Int × HH)), c111 x1 x2 x3 x4 x5 x6 x7 h = some b → WK 219 (.inl (some (aI b.1))) σ0 (abH 71 119 g b.2) 111 [(0, aR 71), (1, aI x1), (2, aI x2), (3, aI x3), (4, aI x4), (5, aI x5), (6, aI x6), (7, aI x7)] [] (abH 71 119 g h) 0 0) : ∀ {x1 : Int} {x2 : Int} {x3 : Int} {x4 : Int} {x5 : Int} {x6 : Int} {x7 : Int} {h : HH} {b : (Int × HH)}, bX12_bestMove_27 nX12_loads nX12_turns c16 c75 c111 x1 x2 x3 x4 x5 x6 x7 h = some b → WK 219 (.inl (some (aI b.1))) σ0 (abH 71 119 g b.2) 27 [(0, aR 71), (1, aI x1), (2, aI x2), (3, aI x3), (4, aI x4), (5, aI x5), (6, aI x6), (7, aI x7)] [] (abH 71 119 g h) 0 0 := by
  intro x1 x2 x3 x4 x5 x6 x7 h b q
  have e : ∀ (f193 : Int → HH → Option HH) (f204 : Int → Int → HH → Option HH) , bX12_bestMove_27 f193 f204 c16 c75 c111 x1 x2 x3 x4 x5 x6 x7 h = segW 71 119 g.2.2.2.2 krWI (clC 193 (pX12_loads f193) (clC 204 (pX12_turns f204) clN)) csX12_bestMove (cuC 16 (fun l st s => tkC 0 71 l <| tkI 1 l fun x1 => tkI 2 l fun x2 => tkI 3 l fun x3 => tkI 4 l fun x4 => tkI 5 l fun x5 => tkI 6 l fun x6 => skE st (c16 x1 x2 x3 x4 x5 x6 s)) (cuC 75 (fun l st s => tkC 0 71 l <| tkI 1 l fun x1 => tkI 2 l fun x2 => tkI 3 l fun x3 => tkI 4 l fun x4 => tkI 5 l fun x5 => tkI 6 l fun x6 => tkI 7 l fun x7 => tkI 8 l fun x8 => tkI 9 l fun x9 => skE st (c75 x1 x2 x3 x4 x5 x6 x7 x8 x9 s)) (cuC 111 (fun l st s => tkC 0 71 l <| tkI 1 l fun x1 => tkI 2 l fun x2 => tkI 3 l fun x3 => tkI 4 l fun x4 => tkI 5 l fun x5 => tkI 6 l fun x6 => tkI 7 l fun x7 => skE st (c111 x1 x2 x3 x4 x5 x6 x7 s)) cuN))) 1000 27 [(0, aR 71), (1, aI x1), (2, aI x2), (3, aI x3), (4, aI x4), (5, aI x5), (6, aI x6), (7, aI x7)] [] h := fun _ _ => rfl
  rw [e nX12_loads nX12_turns] at q
  clear e
  refine segW_wk (by decide) (by decide) hg rwX12_bestMove (CLKW_C (pX12_loads_ok hg) (CLKW_C (pX12_turns_ok hg) CLKW_N)) krWI_ok ?_ q
  clear q
  refine ct_C ?_ (ct_C ?_ (ct_C ?_ (ct_N)))
  · intro l st h q
    obtain ⟨m0, q1⟩ := tkC_of q
    obtain ⟨x1, m1, q2⟩ := tkI_of q1
    obtain ⟨x2, m2, q3⟩ := tkI_of q2
    obtain ⟨x3, m3, q4⟩ := tkI_of q3
    obtain ⟨x4, m4, q5⟩ := tkI_of q4
    obtain ⟨x5, m5, q6⟩ := tkI_of q5
    obtain ⟨x6, m6, q7⟩ := tkI_of q6
    obtain ⟨rfl, q8⟩ := skE_of q7
    exact WK_less (k16 _ _ _ _ _ _ _ _ q8) (List.forall_mem_cons.mpr ⟨m0, (List.forall_mem_cons.mpr ⟨m1, (List.forall_mem_cons.mpr ⟨m2, (List.forall_mem_cons.mpr ⟨m3, (List.forall_mem_cons.mpr ⟨m4, (List.forall_mem_cons.mpr ⟨m5, (List.forall_mem_cons.mpr ⟨m6, (fun _ h => absurd h List.not_mem_nil)⟩)⟩)⟩)⟩)⟩)⟩)⟩)
  · intro l st h q
    obtain ⟨m0, q1⟩ := tkC_of q
    obtain ⟨x1, m1, q2⟩ := tkI_of q1
    obtain ⟨x2, m2, q3⟩ := tkI_of q2
    obtain ⟨x3, m3, q4⟩ := tkI_of q3
    obtain ⟨x4, m4, q5⟩ := tkI_of q4
    obtain ⟨x5, m5, q6⟩ := tkI_of q5
    obtain ⟨x6, m6, q7⟩ := tkI_of q6
    obtain ⟨x7, m7, q8⟩ := tkI_of q7
    obtain ⟨x8, m8, q9⟩ := tkI_of q8
    obtain ⟨x9, m9, q10⟩ := tkI_of q9
    obtain ⟨rfl, q11⟩ := skE_of q10
    exact WK_less (k75 _ _ _ _ _ _ _ _ _ _ _ q11) (List.forall_mem_cons.mpr ⟨m0, (List.forall_mem_cons.mpr ⟨m1, (List.forall_mem_cons.mpr ⟨m2, (List.forall_mem_cons.mpr ⟨m3, (List.forall_mem_cons.mpr ⟨m4, (List.forall_mem_cons.mpr ⟨m5, (List.forall_mem_cons.mpr ⟨m6, (List.forall_mem_cons.mpr ⟨m7, (List.forall_mem_cons.mpr ⟨m8, (List.forall_mem_cons.mpr ⟨m9, (fun _ h => absurd h List.not_mem_nil)⟩)⟩)⟩)⟩)⟩)⟩)⟩)⟩)⟩)⟩)
  · intro l st h q
    obtain ⟨m0, q1⟩ := tkC_of q
    obtain ⟨x1, m1, q2⟩ := tkI_of q1
    obtain ⟨x2, m2, q3⟩ := tkI_of q2
    obtain ⟨x3, m3, q4⟩ := tkI_of q3
    obtain ⟨x4, m4, q5⟩ := tkI_of q4
    obtain ⟨x5, m5, q6⟩ := tkI_of q5
    obtain ⟨x6, m6, q7⟩ := tkI_of q6
    obtain ⟨x7, m7, q8⟩ := tkI_of q7
    obtain ⟨rfl, q9⟩ := skE_of q8
    exact WK_less (k111 _ _ _ _ _ _ _ _ _ q9) (List.forall_mem_cons.mpr ⟨m0, (List.forall_mem_cons.mpr ⟨m1, (List.forall_mem_cons.mpr ⟨m2, (List.forall_mem_cons.mpr ⟨m3, (List.forall_mem_cons.mpr ⟨m4, (List.forall_mem_cons.mpr ⟨m5, (List.forall_mem_cons.mpr ⟨m6, (List.forall_mem_cons.mpr ⟨m7, (fun _ h => absurd h List.not_mem_nil)⟩)⟩)⟩)⟩)⟩)⟩)⟩)⟩)
def nX12_bestMove_27 (c16 : Int → Int → Int → Int → Int → Int → HH → Option (Int × HH)) : Nat → Int → Int → Int → Int → Int → Int → Int → HH → Option (Int × HH) := iter (fun _ _ _ _ _ _ _ _ => none) (fun self => bX12_bestMove_27 nX12_loads nX12_turns c16 (nX12_bestMove_75 c16 self) (nX12_bestMove_111 c16 self))
theorem nX12_bestMove_27_s {c16 : Int → Int → Int → Int → Int → Int → HH → Option (Int × HH)} {F : Nat} : nX12_bestMove_27 c16 (F + 1) = bX12_bestMove_27 nX12_loads nX12_turns c16 (nX12_bestMove_75 c16 (nX12_bestMove_27 c16 F)) (nX12_bestMove_111 c16 (nX12_bestMove_27 c16 F)) := rfl
theorem wX12_bestMove_27 {g : SG} (hg : GOK g) {σ0 : SG} {c16 : Int → Int → Int → Int → Int → Int → HH → Option (Int × HH)} (k16 : ∀ (x1 : Int) (x2 : Int) (x3 : Int) (x4 : Int) (x5 : Int) (x6 : Int) (h : HH) (b : (Int × HH)), c16 x1 x2 x3 x4 x5 x6 h = some b → WK 219 (.inl (some (aI b.1))) σ0 (abH 71 119 g b.2) 16 [(0, aR 71), (1, aI x1), (2, aI x2), (3, aI x3), (4, aI x4), (5, aI x5), (6, aI x6)] [] (abH 71 119 g h) 0 0) : ∀ {F : Nat}, ∀ {x1 : Int} {x2 : Int} {x3 : Int} {x4 : Int} {x5 : Int} {x6 : Int} {x7 : Int} {h : HH} {b : (Int × HH)}, nX12_bestMove_27 c16 F x1 x2 x3 x4 x5 x6 x7 h = some b → WK 219 (.inl (some (aI b.1))) σ0 (abH 71 119 g b.2) 27 [(0, aR 71), (1, aI x1), (2, aI x2), (3, aI x3), (4, aI x4), (5, aI x5), (6, aI x6), (7, aI x7)] [] (abH 71 119 g h) 0 0 := by
  intro F
  have z : ∀ (x1 : Int) (x2 : Int) (x3 : Int) (x4 : Int) (x5 : Int) (x6 : Int) (x7 : Int) (h : HH) (b : (Int × HH)), nX12_bestMove_27 c16 F x1 x2 x3 x4 x5 x6 x7 h = some b → WK 219 (.inl (some (aI b.1))) σ0 (abH 71 119 g b.2) 27 [(0, aR 71), (1, aI x1), (2, aI x2), (3, aI x3), (4, aI x4), (5, aI x5), (6, aI x6), (7, aI x7)] [] (abH 71 119 g h) 0 0 := iter_ind (P := fun (c : Int → Int → Int → Int → Int → Int → Int → HH → Option (Int × HH)) => ∀ (x1 : Int) (x2 : Int) (x3 : Int) (x4 : Int) (x5 : Int) (x6 : Int) (x7 : Int) (h : HH) (b : (Int × HH)), c x1 x2 x3 x4 x5 x6 x7 h = some b → WK 219 (.inl (some (aI b.1))) σ0 (abH 71 119 g b.2) 27 [(0, aR 71), (1, aI x1), (2, aI x2), (3, aI x3), (4, aI x4), (5, aI x5), (6, aI x6), (7, aI x7)] [] (abH 71 119 g h) 0 0) (by
    intro x1 x2 x3 x4 x5 x6 x7 h b q
    cases q) (fun self ih => by
    intro x1 x2 x3 x4 x5 x6 x7 h b q
    exact uX12_bestMove_27 hg k16 (fun _ _ _ _ _ _ _ _ _ _ _ q => wX12_bestMove_75 hg k16 ih q) (fun _ _ _ _ _ _ _ _ _ q => wX12_bestMove_111 hg k16 ih q) q) F
  intro x1 x2 x3 x4 x5 x6 x7 h b q
  exact z _ _ _ _ _ _ _ _ _ q
def bX12_bestMove_16 (c27 : Int → Int → Int → Int → Int → Int → Int → HH → Option (Int × HH)) (x1 : Int) (x2 : Int) (x3 : Int) (x4 : Int) (x5 : Int) (x6 : Int) (h : HH) : Option (Int × HH) :=
  gd (R32 (x3 * x3)) <|
    if x6 < ((x3 * x3) : Int) then
    c27 x1 x2 x3 x4 x5 x6 0 h
  else
    if x5 = (0 : Int) then
    some (x2, h)
  else
    some (x4, h)
theorem uX12_bestMove_16 {g : SG} (hg : GOK g) {σ0 : SG} {c27 : Int → Int → Int → Int → Int → Int → Int → HH → Option (Int × HH)} (k27 : ∀ (x1 : Int) (x2 : Int) (x3 : Int) (x4 : Int) (x5 : Int) (x6 : Int) (x7 : Int) (h : HH) (b : (Int × HH)), c27 x1 x2 x3 x4 x5 x6 x7 h = some b → WK 219 (.inl (some (aI b.1))) σ0 (abH 71 119 g b.2) 27 [(0, aR 71), (1, aI x1), (2, aI x2), (3, aI x3), (4, aI x4), (5, aI x5), (6, aI x6), (7, aI x7)] [] (abH 71 119 g h) 0 0) : ∀ {x1 : Int} {x2 : Int} {x3 : Int} {x4 : Int} {x5 : Int} {x6 : Int} {h : HH} {b : (Int × HH)}, bX12_bestMove_16 c27 x1 x2 x3 x4 x5 x6 h = some b → WK 219 (.inl (some (aI b.1))) σ0 (abH 71 119 g b.2) 16 [(0, aR 71), (1, aI x1), (2, aI x2), (3, aI x3), (4, aI x4), (5, aI x5), (6, aI x6)] [] (abH 71 119 g h) 0 0 := by
  intro x1 x2 x3 x4 x5 x6 h b q
  have e : bX12_bestMove_16 c27 x1 x2 x3 x4 x5 x6 h = segW 71 119 g.2.2.2.2 krWI clN csX12_bestMove (cuC 27 (fun l st s => tkC 0 71 l <| tkI 1 l fun x1 => tkI 2 l fun x2 => tkI 3 l fun x3 => tkI 4 l fun x4 => tkI 5 l fun x5 => tkI 6 l fun x6 => tkI 7 l fun x7 => skE st (c27 x1 x2 x3 x4 x5 x6 x7 s)) cuN) 1000 16 [(0, aR 71), (1, aI x1), (2, aI x2), (3, aI x3), (4, aI x4), (5, aI x5), (6, aI x6)] [] h := rfl
  rw [e] at q
  clear e
  refine segW_wk (by decide) (by decide) hg rwX12_bestMove CLKW_N krWI_ok ?_ q
  clear q
  refine ct_C ?_ (ct_N)
  · intro l st h q
    obtain ⟨m0, q1⟩ := tkC_of q
    obtain ⟨x1, m1, q2⟩ := tkI_of q1
    obtain ⟨x2, m2, q3⟩ := tkI_of q2
    obtain ⟨x3, m3, q4⟩ := tkI_of q3
    obtain ⟨x4, m4, q5⟩ := tkI_of q4
    obtain ⟨x5, m5, q6⟩ := tkI_of q5
    obtain ⟨x6, m6, q7⟩ := tkI_of q6
    obtain ⟨x7, m7, q8⟩ := tkI_of q7
    obtain ⟨rfl, q9⟩ := skE_of q8
    exact WK_less (k27 _ _ _ _ _ _ _ _ _ q9) (List.forall_mem_cons.mpr ⟨m0, (List.forall_mem_cons.mpr ⟨m1, (List.forall_mem_cons.mpr ⟨m2, (List.forall_mem_cons.mpr ⟨m3, (List.forall_mem_cons.mpr ⟨m4, (List.forall_mem_cons.mpr ⟨m5, (List.forall_mem_cons.mpr ⟨m6, (List.forall_mem_cons.mpr ⟨m7, (fun _ h => absurd h List.not_mem_nil)⟩)⟩)⟩)⟩)⟩)⟩)⟩)⟩)
def nX12_bestMove_16 : Nat → Int → Int → Int → Int → Int → Int → HH → Option (Int × HH) := iter (fun _ _ _ _ _ _ _ => none) (fun self => bX12_bestMove_16 (nX12_bestMove_27 self 100000))
theorem nX12_bestMove_16_s {F : Nat} : nX12_bestMove_16 (F + 1) = bX12_bestMove_16 (nX12_bestMove_27 (nX12_bestMove_16 F) 100000) := rfl
theorem wX12_bestMove_16 {g : SG} (hg : GOK g) {σ0 : SG} : ∀ {F : Nat}, ∀ {x1 : Int} {x2 : Int} {x3 : Int} {x4 : Int} {x5 : Int} {x6 : Int} {h : HH} {b : (Int × HH)}, nX12_bestMove_16 F x1 x2 x3 x4 x5 x6 h = some b → WK 219 (.inl (some (aI b.1))) σ0 (abH 71 119 g b.2) 16 [(0, aR 71), (1, aI x1), (2, aI x2), (3, aI x3), (4, aI x4), (5, aI x5), (6, aI x6)] [] (abH 71 119 g h) 0 0 := by
  intro F
  have z : ∀ (x1 : Int) (x2 : Int) (x3 : Int) (x4 : Int) (x5 : Int) (x6 : Int) (h : HH) (b : (Int × HH)), nX12_bestMove_16 F x1 x2 x3 x4 x5 x6 h = some b → WK 219 (.inl (some (aI b.1))) σ0 (abH 71 119 g b.2) 16 [(0, aR 71), (1, aI x1), (2, aI x2), (3, aI x3), (4, aI x4), (5, aI x5), (6, aI x6)] [] (abH 71 119 g h) 0 0 := iter_ind (P := fun (c : Int → Int → Int → Int → Int → Int → HH → Option (Int × HH)) => ∀ (x1 : Int) (x2 : Int) (x3 : Int) (x4 : Int) (x5 : Int) (x6 : Int) (h : HH) (b : (Int × HH)), c x1 x2 x3 x4 x5 x6 h = some b → WK 219 (.inl (some (aI b.1))) σ0 (abH 71 119 g b.2) 16 [(0, aR 71), (1, aI x1), (2, aI x2), (3, aI x3), (4, aI x4), (5, aI x5), (6, aI x6)] [] (abH 71 119 g h) 0 0) (by
    intro x1 x2 x3 x4 x5 x6 h b q
    cases q) (fun self ih => by
    intro x1 x2 x3 x4 x5 x6 h b q
    exact uX12_bestMove_16 hg (fun _ _ _ _ _ _ _ _ _ q => wX12_bestMove_27 hg ih q) q) F
  intro x1 x2 x3 x4 x5 x6 h b q
  exact z _ _ _ _ _ _ _ _ q
def bX12_bestMove (c16 : Int → Int → Int → Int → Int → Int → HH → Option (Int × HH)) (x1 : Int) (x2 : Int) (h : HH) : Option (Int × HH) :=
  gd ((0 : Int) ≤ x1 ∧ x1 < (3 : Int)) <|
    c16 x1 x2 (h.1 95 x1) x2 0 0 h
theorem uX12_bestMove {g : SG} (hg : GOK g) {σ0 : SG} {c16 : Int → Int → Int → Int → Int → Int → HH → Option (Int × HH)} (k16 : ∀ (x1 : Int) (x2 : Int) (x3 : Int) (x4 : Int) (x5 : Int) (x6 : Int) (h : HH) (b : (Int × HH)), c16 x1 x2 x3 x4 x5 x6 h = some b → WK 219 (.inl (some (aI b.1))) σ0 (abH 71 119 g b.2) 16 [(0, aR 71), (1, aI x1), (2, aI x2), (3, aI x3), (4, aI x4), (5, aI x5), (6, aI x6)] [] (abH 71 119 g h) 0 0) : ∀ {x1 : Int} {x2 : Int} {h : HH} {b : (Int × HH)}, bX12_bestMove c16 x1 x2 h = some b → WK 219 (.inl (some (aI b.1))) σ0 (abH 71 119 g b.2) 0 [(0, aR 71), (1, aI x1), (2, aI x2)] [] (abH 71 119 g h) 0 0 := by
  intro x1 x2 h b q
  have e : bX12_bestMove c16 x1 x2 h = segW 71 119 g.2.2.2.2 krWI clN csX12_bestMove (cuC 16 (fun l st s => tkC 0 71 l <| tkI 1 l fun x1 => tkI 2 l fun x2 => tkI 3 l fun x3 => tkI 4 l fun x4 => tkI 5 l fun x5 => tkI 6 l fun x6 => skE st (c16 x1 x2 x3 x4 x5 x6 s)) cuN) 1000 0 [(0, aR 71), (1, aI x1), (2, aI x2)] [] h := rfl
  rw [e] at q
  clear e
  refine segW_wk (by decide) (by decide) hg rwX12_bestMove CLKW_N krWI_ok ?_ q
  clear q
  refine ct_C ?_ (ct_N)
  · intro l st h q
    obtain ⟨m0, q1⟩ := tkC_of q
    obtain ⟨x1, m1, q2⟩ := tkI_of q1
    obtain ⟨x2, m2, q3⟩ := tkI_of q2
    obtain ⟨x3, m3, q4⟩ := tkI_of q3
    obtain ⟨x4, m4, q5⟩ := tkI_of q4
    obtain ⟨x5, m5, q6⟩ := tkI_of q5
    obtain ⟨x6, m6, q7⟩ := tkI_of q6
    obtain ⟨rfl, q8⟩ := skE_of q7
    exact WK_less (k16 _ _ _ _ _ _ _ _ q8) (List.forall_mem_cons.mpr ⟨m0, (List.forall_mem_cons.mpr ⟨m1, (List.forall_mem_cons.mpr ⟨m2, (List.forall_mem_cons.mpr ⟨m3, (List.forall_mem_cons.mpr ⟨m4, (List.forall_mem_cons.mpr ⟨m5, (List.forall_mem_cons.mpr ⟨m6, (fun _ h => absurd h List.not_mem_nil)⟩)⟩)⟩)⟩)⟩)⟩)⟩)
def nX12_bestMove (x1 : Int) (x2 : Int) (h : HH) : Option (Int × HH) := bX12_bestMove (nX12_bestMove_16 100000) x1 x2 h
theorem wX12_bestMove {g : SG} (hg : GOK g) {σ0 : SG} : ∀ {x1 : Int} {x2 : Int} {h : HH} {b : (Int × HH)}, nX12_bestMove x1 x2 h = some b → WK 219 (.inl (some (aI b.1))) σ0 (abH 71 119 g b.2) 0 [(0, aR 71), (1, aI x1), (2, aI x2)] [] (abH 71 119 g h) 0 0 := by
  intro x1 x2 h b q
  exact uX12_bestMove hg (fun _ _ _ _ _ _ _ _ q => wX12_bestMove_16 hg q) q
theorem mX12_bestMove {g : SG} (hg : GOK g) {h : HH} {x1 : Int} {x2 : Int} {b : (Int × HH)} (q : nX12_bestMove x1 x2 h = some b) : MCT 219 [] [aR 71, aI x1, aI x2] (abH 71 119 g h) (.inl (some (aI b.1))) (abH 71 119 g b.2) :=
  mct_of (by decide) (MFok 219 (by decide +kernel)) (fun _ => Nat.le_of_ble_eq_true rfl) (wX12_bestMove hg q)
def pX12_bestMove {β : Type} (z : Int → Int → HH → Option (Int × HH)) : PW β := fun as h f => skC 71 as fun as => skI as fun x1 as => skI as fun x2 as => skE as (bnd (z x1 x2 h) fun r => f (.inl (some (aI r.1))) r.2)
theorem pX12_bestMove_ok {β : Type} {g : SG} (hg : GOK g) : CW1 (β := β) 219 (pX12_bestMove nX12_bestMove) 71 119 g := fun as h f b q => by
  obtain ⟨as, rfl, q1⟩ := skC_of q
  obtain ⟨x1, as, rfl, q2⟩ := skI_of q1
  obtain ⟨x2, as, rfl, q3⟩ := skI_of q2
  obtain ⟨rfl, q0⟩ := skE_of q3
  obtain ⟨r, z1, z2⟩ := bnd_of q0
  exact ⟨_, _, z2, by decide, mX12_bestMove hg z1, rfl, rfl, fun z => absurd z (by decide)⟩
def csX12_better : List (Nat × List (Nat × ARow)) := [(40, [(0, 1, .aload_n 0, 0, 0, 0), (1, 1, .iload_n 1, 0, 0, 0), (2, 3, .invokevirtual 260, 176, 2, 12), (5, 3, .ifCond .ne 9, 14, 0, 0), (8, 1, .aload_n 0, 0, 0, 0), (9, 1, .iconst 1, 0, 0, 0), (10, 3, .invokevirtual 200, 177, 2, 12), (13, 1, .ireturn, 0, 0, 0), (14, 1, .aload_n 0, 0, 0, 0), (15, 3, .invokevirtual 270, 200, 1, 12), (18, 1, .aload_n 0, 0, 0, 0), (19, 1, .iload_n 1, 0, 0, 0), (20, 3, .invokevirtual 310, 197, 2, 12), (23, 1, .istore_n 2, 0, 0, 0), (24, 1, .iload_n 2, 0, 0, 0), (25, 1, .istore_n 3, 0, 0, 0), (26, 1, .aload_n 0, 0, 0, 0), (27, 1, .iload_n 1, 0, 0, 0), (28, 1, .iload_n 3, 0, 0, 0), (29, 3, .invokevirtual 328, 219, 3, 12), (32, 2, .istore 4, 0, 0, 0), (34, 2, .iload 4, 0, 0, 0), (36, 1, .iload_n 3, 0, 0, 0), (37, 3, .if_icmp .ge 26, 63, 0, 0)]),
  (100000, [(40, 2, .iload 4, 0, 0, 0), (42, 1, .istore_n 3, 0, 0, 0), (43, 1, .aload_n 0, 0, 0, 0), (44, 3, .invokevirtual 331, 210, 1, 12), (47, 1, .aload_n 0, 0, 0, 0), (48, 1, .iload_n 1, 0, 0, 0), (49, 3, .invokevirtual 257, 194, 2, 12), (52, 1, .aload_n 0, 0, 0, 0), (53, 1, .iload_n 1, 0, 0, 0), (54, 1, .iload_n 3, 0, 0, 0), (55, 3, .invokevirtual 328, 219, 3, 12), (58, 2, .istore 4, 0, 0, 0), (60, 3, .goto (-26), 34, 0, 0), (63, 1, .aload_n 0, 0, 0, 0), (64, 1, .iload_n 2, 0, 0, 0), (65, 1, .iload_n 3, 0, 0, 0), (66, 1, .isub, 0, 0, 0), (67, 3, .invokevirtual 209, 178, 2, 12), (70, 1, .ireturn, 0, 0, 0)])]
theorem rwX12_better : rowsB (mB 220) (mO 220) (mX 220) (mIni 220) (mFr 220) (mLo 220) (mT 220) csX12_better = true := by decide +kernel
def bX12_better_34 (f178 : Int → HH → Option (Int × HH)) (f210 : HH → Option HH) (f194 : Int → HH → Option HH) (f219 : Int → Int → HH → Option (Int × HH)) (c34 : Int → Int → Int → Int → HH → Option (Int × HH)) (x1 : Int) (x2 : Int) (x3 : Int) (x4 : Int) (h : HH) : Option (Int × HH) :=
  if x4 < (x3 : Int) then
    bnd (f210 h) fun r2 =>
    bnd (f194 x1 r2) fun r3 =>
    bnd (f219 x1 x4 r3) fun r4 =>
    c34 x1 x2 x4 r4.1 r4.2
  else
    gd (R32 (x2 - x3)) <|
    bnd (f178 (x2 - x3) h) fun r1 =>
    some (r1.1, r1.2)
theorem uX12_better_34 {g : SG} (hg : GOK g) {σ0 : SG} {c34 : Int → Int → Int → Int → HH → Option (Int × HH)} (k34 : ∀ (x1 : Int) (x2 : Int) (x3 : Int) (x4 : Int) (h : HH) (b : (Int × HH)), c34 x1 x2 x3 x4 h = some b → WK 220 (.inl (some (aI b.1))) σ0 (abH 71 119 g b.2) 34 [(0, aR 71), (1, aI x1), (2, aI x2), (3, aI x3), (4, aI x4)] [] (abH 71 119 g h) 0 0) : ∀ {x1 : Int} {x2 : Int} {x3 : Int} {x4 : Int} {h : HH} {b : (Int × HH)}, bX12_better_34 nX12_told nX12_loadsBest nX12_lays nX12_bestMove c34 x1 x2 x3 x4 h = some b → WK 220 (.inl (some (aI b.1))) σ0 (abH 71 119 g b.2) 34 [(0, aR 71), (1, aI x1), (2, aI x2), (3, aI x3), (4, aI x4)] [] (abH 71 119 g h) 0 0 := by
  intro x1 x2 x3 x4 h b q
  have e : ∀ (f178 : Int → HH → Option (Int × HH)) (f210 : HH → Option HH) (f194 : Int → HH → Option HH) (f219 : Int → Int → HH → Option (Int × HH)) , bX12_better_34 f178 f210 f194 f219 c34 x1 x2 x3 x4 h = segW 71 119 g.2.2.2.2 krWI (clC 178 (pX12_told f178) (clC 210 (pX12_loadsBest f210) (clC 194 (pX12_lays f194) (clC 219 (pX12_bestMove f219) clN)))) csX12_better (cuC 34 (fun l st s => tkC 0 71 l <| tkI 1 l fun x1 => tkI 2 l fun x2 => tkI 3 l fun x3 => tkI 4 l fun x4 => skE st (c34 x1 x2 x3 x4 s)) cuN) 1000 34 [(0, aR 71), (1, aI x1), (2, aI x2), (3, aI x3), (4, aI x4)] [] h := fun _ _ _ _ => rfl
  rw [e nX12_told nX12_loadsBest nX12_lays nX12_bestMove] at q
  clear e
  refine segW_wk (by decide) (by decide) hg rwX12_better (CLKW_C (pX12_told_ok hg) (CLKW_C (pX12_loadsBest_ok hg) (CLKW_C (pX12_lays_ok hg) (CLKW_C (pX12_bestMove_ok hg) CLKW_N)))) krWI_ok ?_ q
  clear q
  refine ct_C ?_ (ct_N)
  · intro l st h q
    obtain ⟨m0, q1⟩ := tkC_of q
    obtain ⟨x1, m1, q2⟩ := tkI_of q1
    obtain ⟨x2, m2, q3⟩ := tkI_of q2
    obtain ⟨x3, m3, q4⟩ := tkI_of q3
    obtain ⟨x4, m4, q5⟩ := tkI_of q4
    obtain ⟨rfl, q6⟩ := skE_of q5
    exact WK_less (k34 _ _ _ _ _ _ q6) (List.forall_mem_cons.mpr ⟨m0, (List.forall_mem_cons.mpr ⟨m1, (List.forall_mem_cons.mpr ⟨m2, (List.forall_mem_cons.mpr ⟨m3, (List.forall_mem_cons.mpr ⟨m4, (fun _ h => absurd h List.not_mem_nil)⟩)⟩)⟩)⟩)⟩)
def nX12_better_34 : Nat → Int → Int → Int → Int → HH → Option (Int × HH) := iter (fun _ _ _ _ _ => none) (fun self => bX12_better_34 nX12_told nX12_loadsBest nX12_lays nX12_bestMove self)
theorem nX12_better_34_s {F : Nat} : nX12_better_34 (F + 1) = bX12_better_34 nX12_told nX12_loadsBest nX12_lays nX12_bestMove (nX12_better_34 F) := rfl
theorem wX12_better_34 {g : SG} (hg : GOK g) {σ0 : SG} : ∀ {F : Nat}, ∀ {x1 : Int} {x2 : Int} {x3 : Int} {x4 : Int} {h : HH} {b : (Int × HH)}, nX12_better_34 F x1 x2 x3 x4 h = some b → WK 220 (.inl (some (aI b.1))) σ0 (abH 71 119 g b.2) 34 [(0, aR 71), (1, aI x1), (2, aI x2), (3, aI x3), (4, aI x4)] [] (abH 71 119 g h) 0 0 := by
  intro F
  have z : ∀ (x1 : Int) (x2 : Int) (x3 : Int) (x4 : Int) (h : HH) (b : (Int × HH)), nX12_better_34 F x1 x2 x3 x4 h = some b → WK 220 (.inl (some (aI b.1))) σ0 (abH 71 119 g b.2) 34 [(0, aR 71), (1, aI x1), (2, aI x2), (3, aI x3), (4, aI x4)] [] (abH 71 119 g h) 0 0 := iter_ind (P := fun (c : Int → Int → Int → Int → HH → Option (Int × HH)) => ∀ (x1 : Int) (x2 : Int) (x3 : Int) (x4 : Int) (h : HH) (b : (Int × HH)), c x1 x2 x3 x4 h = some b → WK 220 (.inl (some (aI b.1))) σ0 (abH 71 119 g b.2) 34 [(0, aR 71), (1, aI x1), (2, aI x2), (3, aI x3), (4, aI x4)] [] (abH 71 119 g h) 0 0) (by
    intro x1 x2 x3 x4 h b q
    cases q) (fun self ih => by
    intro x1 x2 x3 x4 h b q
    exact uX12_better_34 hg ih q) F
  intro x1 x2 x3 x4 h b q
  exact z _ _ _ _ _ _ q
def bX12_better (f176 : HH → Int → Option Int) (f200 : HH → Option HH) (f197 : Int → HH → Option (Int × HH)) (f219 : Int → Int → HH → Option (Int × HH)) (f177 : Int → HH → Option (Int × HH)) (c34 : Int → Int → Int → Int → HH → Option (Int × HH)) (x1 : Int) (h : HH) : Option (Int × HH) :=
  bnd (f176 h x1) fun r1 =>
    if r1 = (0 : Int) then
    bnd (f177 1 h) fun r5 =>
    some (r5.1, r5.2)
  else
    bnd (f200 h) fun r2 =>
    bnd (f197 x1 r2) fun r3 =>
    bnd (f219 x1 r3.1 r3.2) fun r4 =>
    c34 x1 r3.1 r3.1 r4.1 r4.2
theorem uX12_better {g : SG} (hg : GOK g) {σ0 : SG} {c34 : Int → Int → Int → Int → HH → Option (Int × HH)} (k34 : ∀ (x1 : Int) (x2 : Int) (x3 : Int) (x4 : Int) (h : HH) (b : (Int × HH)), c34 x1 x2 x3 x4 h = some b → WK 220 (.inl (some (aI b.1))) σ0 (abH 71 119 g b.2) 34 [(0, aR 71), (1, aI x1), (2, aI x2), (3, aI x3), (4, aI x4)] [] (abH 71 119 g h) 0 0) : ∀ {x1 : Int} {h : HH} {b : (Int × HH)}, bX12_better nX12_isVan nX12_keeps nX12_costOf nX12_bestMove nX12_refuse c34 x1 h = some b → WK 220 (.inl (some (aI b.1))) σ0 (abH 71 119 g b.2) 0 [(0, aR 71), (1, aI x1)] [] (abH 71 119 g h) 0 0 := by
  intro x1 h b q
  have e : ∀ (f176 : HH → Int → Option Int) (f200 : HH → Option HH) (f197 : Int → HH → Option (Int × HH)) (f219 : Int → Int → HH → Option (Int × HH)) (f177 : Int → HH → Option (Int × HH)) , bX12_better f176 f200 f197 f219 f177 c34 x1 h = segW 71 119 g.2.2.2.2 krWI (clC 176 (liPW (pX12_isVan f176)) (clC 200 (pX12_keeps f200) (clC 197 (pX12_costOf f197) (clC 219 (pX12_bestMove f219) (clC 177 (pX12_refuse f177) clN))))) csX12_better (cuC 34 (fun l st s => tkC 0 71 l <| tkI 1 l fun x1 => tkI 2 l fun x2 => tkI 3 l fun x3 => tkI 4 l fun x4 => skE st (c34 x1 x2 x3 x4 s)) cuN) 1000 0 [(0, aR 71), (1, aI x1)] [] h := fun _ _ _ _ _ => rfl
  rw [e nX12_isVan nX12_keeps nX12_costOf nX12_bestMove nX12_refuse] at q
  clear e
  refine segW_wk (by decide) (by decide) hg rwX12_better (CLKW_C (liPW_ok (pX12_isVan_ok hg)) (CLKW_C (pX12_keeps_ok hg) (CLKW_C (pX12_costOf_ok hg) (CLKW_C (pX12_bestMove_ok hg) (CLKW_C (pX12_refuse_ok hg) CLKW_N))))) krWI_ok ?_ q
  clear q
  refine ct_C ?_ (ct_N)
  · intro l st h q
    obtain ⟨m0, q1⟩ := tkC_of q
    obtain ⟨x1, m1, q2⟩ := tkI_of q1
    obtain ⟨x2, m2, q3⟩ := tkI_of q2
    obtain ⟨x3, m3, q4⟩ := tkI_of q3
    obtain ⟨x4, m4, q5⟩ := tkI_of q4
    obtain ⟨rfl, q6⟩ := skE_of q5
    exact WK_less (k34 _ _ _ _ _ _ q6) (List.forall_mem_cons.mpr ⟨m0, (List.forall_mem_cons.mpr ⟨m1, (List.forall_mem_cons.mpr ⟨m2, (List.forall_mem_cons.mpr ⟨m3, (List.forall_mem_cons.mpr ⟨m4, (fun _ h => absurd h List.not_mem_nil)⟩)⟩)⟩)⟩)⟩)
def nX12_better (x1 : Int) (h : HH) : Option (Int × HH) := bX12_better nX12_isVan nX12_keeps nX12_costOf nX12_bestMove nX12_refuse (nX12_better_34 100000) x1 h
theorem wX12_better {g : SG} (hg : GOK g) {σ0 : SG} : ∀ {x1 : Int} {h : HH} {b : (Int × HH)}, nX12_better x1 h = some b → WK 220 (.inl (some (aI b.1))) σ0 (abH 71 119 g b.2) 0 [(0, aR 71), (1, aI x1)] [] (abH 71 119 g h) 0 0 := by
  intro x1 h b q
  exact uX12_better hg (fun _ _ _ _ _ _ q => wX12_better_34 hg q) q
theorem mX12_better {g : SG} (hg : GOK g) {h : HH} {x1 : Int} {b : (Int × HH)} (q : nX12_better x1 h = some b) : MCT 220 [] [aR 71, aI x1] (abH 71 119 g h) (.inl (some (aI b.1))) (abH 71 119 g b.2) :=
  mct_of (by decide) (MFok 220 (by decide +kernel)) (fun _ => Nat.le_of_ble_eq_true rfl) (wX12_better hg q)
def pX12_better {β : Type} (z : Int → HH → Option (Int × HH)) : PW β := fun as h f => skC 71 as fun as => skI as fun x1 as => skE as (bnd (z x1 h) fun r => f (.inl (some (aI r.1))) r.2)
theorem pX12_better_ok {β : Type} {g : SG} (hg : GOK g) : CW1 (β := β) 220 (pX12_better nX12_better) 71 119 g := fun as h f b q => by
  obtain ⟨as, rfl, q1⟩ := skC_of q
  obtain ⟨x1, as, rfl, q2⟩ := skI_of q1
  obtain ⟨rfl, q0⟩ := skE_of q2
  obtain ⟨r, z1, z2⟩ := bnd_of q0
  exact ⟨_, _, z2, by decide, mX12_better hg z1, rfl, rfl, fun z => absurd z (by decide)⟩
