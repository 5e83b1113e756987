def csX12_exactOf : List (Nat × List (Nat × ARow)) := [(41, [(0, 1, .aload_n 0, 0, 0, 0), (1, 1, .iconst 0, 0, 0, 0), (2, 3, .putfield 289, 12, 52, 0), (5, 1, .iconst 0, 0, 0, 0), (6, 1, .istore_n 3, 0, 0, 0), (7, 1, .iconst 0, 0, 0, 0), (8, 2, .istore 4, 0, 0, 0), (10, 2, .iload 4, 0, 0, 0), (12, 1, .iload_n 2, 0, 0, 0), (13, 3, .if_icmp .ge 24, 37, 0, 0), (16, 1, .iload_n 3, 0, 0, 0), (17, 1, .aload_n 0, 0, 0, 0), (18, 3, .getfield 40, 12, 12, 2), (21, 1, .aload_n 0, 0, 0, 0), (22, 3, .getfield 133, 12, 49, 2), (25, 2, .iload 4, 0, 0, 0), (27, 1, .iaload, 0, 0, 0), (28, 1, .iaload, 0, 0, 0), (29, 1, .iadd, 0, 0, 0), (30, 1, .istore_n 3, 0, 0, 0), (31, 3, .iinc 4 1, 0, 0, 0), (34, 3, .goto (-24), 10, 0, 0), (37, 1, .iload_n 2, 0, 0, 0), (38, 3, .ifCond .eq 13, 51, 0, 0)]),
  (78, [(41, 1, .iload_n 3, 0, 0, 0), (42, 1, .aload_n 0, 0, 0, 0), (43, 3, .getfield 67, 12, 22, 2), (46, 1, .iload_n 1, 0, 0, 0), (47, 1, .iaload, 0, 0, 0), (48, 3, .if_icmp .le 13, 61, 0, 0), (51, 1, .iload_n 2, 0, 0, 0), (52, 3, .ifCond .ne 7, 59, 0, 0), (55, 1, .iconst 0, 0, 0, 0), (56, 3, .goto 4, 60, 0, 0), (59, 1, .iconst (-1), 0, 0, 0), (60, 1, .ireturn, 0, 0, 0), (61, 1, .aload_n 0, 0, 0, 0), (62, 3, .getfield 73, 12, 24, 2), (65, 1, .iload_n 1, 0, 0, 0), (66, 1, .iaload, 0, 0, 0), (67, 1, .iconst 1, 0, 0, 0), (68, 1, .iadd, 0, 0, 0), (69, 2, .istore 4, 0, 0, 0), (71, 1, .iconst 0, 0, 0, 0), (72, 2, .istore 5, 0, 0, 0), (74, 1, .iconst 0, 0, 0, 0), (75, 2, .istore 6, 0, 0, 0), (77, 1, .aload_n 0, 0, 0, 0)]),
  (120, [(78, 3, .getfield 148, 12, 66, 2), (81, 1, .iconst 0, 0, 0, 0), (82, 1, .iconst (-1), 0, 0, 0), (83, 1, .iastore, 0, 0, 0), (84, 1, .aload_n 0, 0, 0, 0), (85, 3, .getfield 151, 12, 67, 2), (88, 1, .iconst 0, 0, 0, 0), (89, 1, .aload_n 0, 0, 0, 0), (90, 3, .getfield 70, 12, 23, 2), (93, 1, .iload_n 1, 0, 0, 0), (94, 1, .iaload, 0, 0, 0), (95, 1, .iastore, 0, 0, 0), (96, 2, .iload 6, 0, 0, 0), (98, 3, .ifCond .lt 322, 420, 0, 0), (101, 2, .iload 5, 0, 0, 0), (103, 1, .aload_n 0, 0, 0, 0), (104, 3, .getfield 148, 12, 66, 2), (107, 2, .iload 6, 0, 0, 0), (109, 1, .iaload, 0, 0, 0), (110, 1, .iconst (-1), 0, 0, 0), (111, 3, .if_icmp .ne 8, 119, 0, 0), (114, 2, .iload 5, 0, 0, 0), (116, 3, .goto 14, 130, 0, 0), (119, 1, .iconst 1, 0, 0, 0)]),
  (157, [(120, 1, .aload_n 0, 0, 0, 0), (121, 3, .getfield 148, 12, 66, 2), (124, 2, .iload 6, 0, 0, 0), (126, 1, .iaload, 0, 0, 0), (127, 1, .ishl, 0, 0, 0), (128, 1, .iconst (-1), 0, 0, 0), (129, 1, .ixor, 0, 0, 0), (130, 1, .iand, 0, 0, 0), (131, 2, .istore 5, 0, 0, 0), (133, 1, .aload_n 0, 0, 0, 0), (134, 3, .getfield 148, 12, 66, 2), (137, 2, .iload 6, 0, 0, 0), (139, 1, .iaload, 0, 0, 0), (140, 1, .iconst 1, 0, 0, 0), (141, 1, .iadd, 0, 0, 0), (142, 2, .istore 7, 0, 0, 0), (144, 2, .iload 7, 0, 0, 0), (146, 1, .iload_n 2, 0, 0, 0), (147, 3, .if_icmp .ge 20, 167, 0, 0), (150, 2, .iload 5, 0, 0, 0), (152, 2, .iload 7, 0, 0, 0), (154, 1, .ishr, 0, 0, 0), (155, 1, .iconst 1, 0, 0, 0), (156, 1, .iand, 0, 0, 0)]),
  (207, [(157, 1, .iconst 1, 0, 0, 0), (158, 3, .if_icmp .ne 9, 167, 0, 0), (161, 3, .iinc 7 1, 0, 0, 0), (164, 3, .goto (-20), 144, 0, 0), (167, 1, .aload_n 0, 0, 0, 0), (168, 3, .getfield 148, 12, 66, 2), (171, 2, .iload 6, 0, 0, 0), (173, 2, .iload 7, 0, 0, 0), (175, 1, .iastore, 0, 0, 0), (176, 2, .iload 7, 0, 0, 0), (178, 1, .iload_n 2, 0, 0, 0), (179, 3, .if_icmp .ne 9, 188, 0, 0), (182, 3, .iinc 6 (-1), 0, 0, 0), (185, 3, .goto (-89), 96, 0, 0), (188, 1, .aload_n 0, 0, 0, 0), (189, 3, .getfield 133, 12, 49, 2), (192, 2, .iload 7, 0, 0, 0), (194, 1, .iaload, 0, 0, 0), (195, 2, .istore 8, 0, 0, 0), (197, 1, .aload_n 0, 0, 0, 0), (198, 2, .iload 6, 0, 0, 0), (200, 3, .ifCond .ne 7, 207, 0, 0), (203, 1, .iconst 0, 0, 0, 0), (204, 3, .goto 22, 226, 0, 0)]),
  (248, [(207, 1, .aload_n 0, 0, 0, 0), (208, 3, .getfield 37, 12, 11, 2), (211, 1, .aload_n 0, 0, 0, 0), (212, 3, .getfield 133, 12, 49, 2), (215, 1, .aload_n 0, 0, 0, 0), (216, 3, .getfield 148, 12, 66, 2), (219, 2, .iload 6, 0, 0, 0), (221, 1, .iconst 1, 0, 0, 0), (222, 1, .isub, 0, 0, 0), (223, 1, .iaload, 0, 0, 0), (224, 1, .iaload, 0, 0, 0), (225, 1, .iaload, 0, 0, 0), (226, 1, .aload_n 0, 0, 0, 0), (227, 3, .getfield 37, 12, 11, 2), (230, 2, .iload 8, 0, 0, 0), (232, 1, .iaload, 0, 0, 0), (233, 3, .invokevirtual 244, 181, 3, 12), (236, 2, .istore 9, 0, 0, 0), (238, 1, .aload_n 0, 0, 0, 0), (239, 3, .getfield 151, 12, 67, 2), (242, 2, .iload 6, 0, 0, 0), (244, 1, .iaload, 0, 0, 0), (245, 2, .iload 9, 0, 0, 0), (247, 1, .iadd, 0, 0, 0)]),
  (295, [(248, 1, .aload_n 0, 0, 0, 0), (249, 3, .getfield 46, 12, 14, 2), (252, 2, .iload 8, 0, 0, 0), (254, 1, .iaload, 0, 0, 0), (255, 3, .invokestatic 247, 173, 2, 0), (258, 2, .istore 10, 0, 0, 0), (260, 2, .iload 10, 0, 0, 0), (262, 1, .aload_n 0, 0, 0, 0), (263, 3, .getfield 52, 12, 16, 2), (266, 2, .iload 8, 0, 0, 0), (268, 1, .iaload, 0, 0, 0), (269, 1, .iadd, 0, 0, 0), (270, 2, .istore 11, 0, 0, 0), (272, 2, .iload 9, 0, 0, 0), (274, 2, .ldc 188, 1000000000, 0, 0), (276, 3, .if_icmp .eq (-180), 96, 0, 0), (279, 2, .iload 10, 0, 0, 0), (281, 1, .aload_n 0, 0, 0, 0), (282, 3, .getfield 49, 12, 15, 2), (285, 2, .iload 8, 0, 0, 0), (287, 1, .iaload, 0, 0, 0), (288, 3, .if_icmp .gt (-192), 96, 0, 0), (291, 2, .iload 11, 0, 0, 0), (293, 2, .iload 4, 0, 0, 0)]),
  (338, [(295, 3, .if_icmp .lt 6, 301, 0, 0), (298, 3, .goto (-202), 96, 0, 0), (301, 2, .iload 6, 0, 0, 0), (303, 1, .iconst 1, 0, 0, 0), (304, 1, .iadd, 0, 0, 0), (305, 1, .iload_n 2, 0, 0, 0), (306, 3, .if_icmp .ge 35, 341, 0, 0), (309, 2, .iload 5, 0, 0, 0), (311, 1, .iconst 1, 0, 0, 0), (312, 2, .iload 7, 0, 0, 0), (314, 1, .ishl, 0, 0, 0), (315, 1, .ior, 0, 0, 0), (316, 2, .istore 5, 0, 0, 0), (318, 3, .iinc 6 1, 0, 0, 0), (321, 1, .aload_n 0, 0, 0, 0), (322, 3, .getfield 148, 12, 66, 2), (325, 2, .iload 6, 0, 0, 0), (327, 1, .iconst (-1), 0, 0, 0), (328, 1, .iastore, 0, 0, 0), (329, 1, .aload_n 0, 0, 0, 0), (330, 3, .getfield 151, 12, 67, 2), (333, 2, .iload 6, 0, 0, 0), (335, 2, .iload 11, 0, 0, 0), (337, 1, .iastore, 0, 0, 0)]),
  (380, [(338, 3, .goto 79, 417, 0, 0), (341, 2, .iload 11, 0, 0, 0), (343, 1, .aload_n 0, 0, 0, 0), (344, 1, .aload_n 0, 0, 0, 0), (345, 3, .getfield 37, 12, 11, 2), (348, 2, .iload 8, 0, 0, 0), (350, 1, .iaload, 0, 0, 0), (351, 1, .iconst 0, 0, 0, 0), (352, 3, .invokevirtual 244, 181, 3, 12), (355, 1, .iadd, 0, 0, 0), (356, 2, .iload 4, 0, 0, 0), (358, 3, .if_icmp .ge 59, 417, 0, 0), (361, 2, .iload 11, 0, 0, 0), (363, 1, .aload_n 0, 0, 0, 0), (364, 1, .aload_n 0, 0, 0, 0), (365, 3, .getfield 37, 12, 11, 2), (368, 2, .iload 8, 0, 0, 0), (370, 1, .iaload, 0, 0, 0), (371, 1, .iconst 0, 0, 0, 0), (372, 3, .invokevirtual 244, 181, 3, 12), (375, 1, .iadd, 0, 0, 0), (376, 2, .istore 4, 0, 0, 0), (378, 1, .aload_n 0, 0, 0, 0), (379, 1, .iload_n 2, 0, 0, 0)]),
  (428, [(380, 3, .putfield 289, 12, 52, 0), (383, 1, .iconst 0, 0, 0, 0), (384, 2, .istore 12, 0, 0, 0), (386, 2, .iload 12, 0, 0, 0), (388, 1, .iload_n 2, 0, 0, 0), (389, 3, .if_icmp .ge 28, 417, 0, 0), (392, 1, .aload_n 0, 0, 0, 0), (393, 3, .getfield 130, 12, 48, 2), (396, 2, .iload 12, 0, 0, 0), (398, 1, .aload_n 0, 0, 0, 0), (399, 3, .getfield 133, 12, 49, 2), (402, 1, .aload_n 0, 0, 0, 0), (403, 3, .getfield 148, 12, 66, 2), (406, 2, .iload 12, 0, 0, 0), (408, 1, .iaload, 0, 0, 0), (409, 1, .iaload, 0, 0, 0), (410, 1, .iastore, 0, 0, 0), (411, 3, .iinc 12 1, 0, 0, 0), (414, 3, .goto (-28), 386, 0, 0), (417, 3, .goto (-321), 96, 0, 0), (420, 1, .aload_n 0, 0, 0, 0), (421, 3, .getfield 289, 12, 52, 0), (424, 3, .ifCond .ne 7, 431, 0, 0), (427, 1, .iconst (-1), 0, 0, 0)]),
  (100000, [(428, 3, .goto 12, 440, 0, 0), (431, 2, .iload 4, 0, 0, 0), (433, 1, .aload_n 0, 0, 0, 0), (434, 3, .getfield 70, 12, 23, 2), (437, 1, .iload_n 1, 0, 0, 0), (438, 1, .iaload, 0, 0, 0), (439, 1, .isub, 0, 0, 0), (440, 1, .ireturn, 0, 0, 0)])]
theorem rwX12_exactOf : rowsB (mB 221) (mO 221) (mX 221) (mIni 221) (mFr 221) (mLo 221) (mT 221) csX12_exactOf = true := by decide +kernel
def bX12_exactOf_51 (x2 : Int) (h : HH) : Option (Int × HH) :=
  if x2 = (0 : Int) then
    some (0, h)
  else
    some ((-1), h)
theorem uX12_exactOf_51 {g : SG} (hg : GOK g) {σ0 : SG} : ∀ {x2 : Int} {h : HH} {b : (Int × HH)}, bX12_exactOf_51 x2 h = some b → WK 221 (.inl (some (aI b.1))) σ0 (abH 71 119 g b.2) 51 [(2, aI x2)] [] (abH 71 119 g h) 0 0 := by
  intro x2 h b q
  have e : bX12_exactOf_51 x2 h = segW 71 119 g.2.2.2.2 krWI clN csX12_exactOf cuN 1000 51 [(2, aI x2)] [] h := rfl
  rw [e] at q
  clear e
  refine segW_wk (by decide) (by decide) hg rwX12_exactOf CLKW_N krWI_ok ?_ q
  clear q
  exact ct_N
def nX12_exactOf_51 (x2 : Int) (h : HH) : Option (Int × HH) := bX12_exactOf_51 x2 h
theorem wX12_exactOf_51 {g : SG} (hg : GOK g) {σ0 : SG} : ∀ {x2 : Int} {h : HH} {b : (Int × HH)}, nX12_exactOf_51 x2 h = some b → WK 221 (.inl (some (aI b.1))) σ0 (abH 71 119 g b.2) 51 [(2, aI x2)] [] (abH 71 119 g h) 0 0 := by
  intro x2 h b q
  exact uX12_exactOf_51 hg q
def bX12_exactOf_417 (c96 : Int → Int → Int → Int → Int → HH → Option (Int × HH)) (x1 : Int) (x2 : Int) (x4 : Int) (x5 : Int) (x6 : Int) (h : HH) : Option (Int × HH) :=
  c96 x1 x2 x4 x5 x6 h
theorem uX12_exactOf_417 {g : SG} (hg : GOK g) {σ0 : SG} {c96 : Int → Int → Int → Int → Int → HH → Option (Int × HH)} (k96 : ∀ (x1 : Int) (x2 : Int) (x4 : Int) (x5 : Int) (x6 : Int) (h : HH) (b : (Int × HH)), c96 x1 x2 x4 x5 x6 h = some b → WK 221 (.inl (some (aI b.1))) σ0 (abH 71 119 g b.2) 96 [(0, aR 71), (1, aI x1), (2, aI x2), (4, aI x4), (5, aI x5), (6, aI x6)] [] (abH 71 119 g h) 0 0) : ∀ {x1 : Int} {x2 : Int} {x4 : Int} {x5 : Int} {x6 : Int} {h : HH} {b : (Int × HH)}, bX12_exactOf_417 c96 x1 x2 x4 x5 x6 h = some b → WK 221 (.inl (some (aI b.1))) σ0 (abH 71 119 g b.2) 417 [(0, aR 71), (1, aI x1), (2, aI x2), (4, aI x4), (5, aI x5), (6, aI x6)] [] (abH 71 119 g h) 0 0 := by
  intro x1 x2 x4 x5 x6 h b q
  have e : bX12_exactOf_417 c96 x1 x2 x4 x5 x6 h = segW 71 119 g.2.2.2.2 krWI clN csX12_exactOf (cuC 96 (fun l st s => tkC 0 71 l <| tkI 1 l fun x1 => tkI 2 l fun x2 => tkI 4 l fun x4 => tkI 5 l fun x5 => tkI 6 l fun x6 => skE st (c96 x1 x2 x4 x5 x6 s)) cuN) 1000 417 [(0, aR 71), (1, aI x1), (2, aI x2), (4, aI x4), (5, aI x5), (6, aI x6)] [] h := rfl
  rw [e] at q
  clear e
  refine segW_wk (by decide) (by decide) hg rwX12_exactOf CLKW_N krWI_ok ?_ q
  clear q
  refine ct_C ?_ (ct_N)
  · intro l st h q
    obtain ⟨m0, q1⟩ := tkC_of q
    obtain ⟨x1, m1, q2⟩ := tkI_of q1
    obtain ⟨x2, m2, q3⟩ := tkI_of q2
    obtain ⟨x4, m4, q4⟩ := tkI_of q3
    obtain ⟨x5, m5, q5⟩ := tkI_of q4
    obtain ⟨x6, m6, q6⟩ := tkI_of q5
    obtain ⟨rfl, q7⟩ := skE_of q6
    exact WK_less (k96 _ _ _ _ _ _ _ q7) (List.forall_mem_cons.mpr ⟨m0, (List.forall_mem_cons.mpr ⟨m1, (List.forall_mem_cons.mpr ⟨m2, (List.forall_mem_cons.mpr ⟨m4, (List.forall_mem_cons.mpr ⟨m5, (List.forall_mem_cons.mpr ⟨m6, (fun _ h => absurd h List.not_mem_nil)⟩)⟩)⟩)⟩)⟩)⟩)
def nX12_exactOf_417 (c96 : Int → Int → Int → Int → Int → HH → Option (Int × HH)) (x1 : Int) (x2 : Int) (x4 : Int) (x5 : Int) (x6 : Int) (h : HH) : Option (Int × HH) := bX12_exactOf_417 c96 x1 x2 x4 x5 x6 h
theorem wX12_exactOf_417 {g : SG} (hg : GOK g) {σ0 : SG} {c96 : Int → Int → Int → Int → Int → HH → Option (Int × HH)} (k96 : ∀ (x1 : Int) (x2 : Int) (x4 : Int) (x5 : Int) (x6 : Int) (h : HH) (b : (Int × HH)), c96 x1 x2 x4 x5 x6 h = some b → WK 221 (.inl (some (aI b.1))) σ0 (abH 71 119 g b.2) 96 [(0, aR 71), (1, aI x1), (2, aI x2), (4, aI x4), (5, aI x5), (6, aI x6)] [] (abH 71 119 g h) 0 0) : ∀ {x1 : Int} {x2 : Int} {x4 : Int} {x5 : Int} {x6 : Int} {h : HH} {b : (Int × HH)}, nX12_exactOf_417 c96 x1 x2 x4 x5 x6 h = some b → WK 221 (.inl (some (aI b.1))) σ0 (abH 71 119 g b.2) 417 [(0, aR 71), (1, aI x1), (2, aI x2), (4, aI x4), (5, aI x5), (6, aI x6)] [] (abH 71 119 g h) 0 0 := by
  intro x1 x2 x4 x5 x6 h b q
  exact uX12_exactOf_417 hg k96 q
def bX12_exactOf_386 (c386 : Int → Int → Int → Int → Int → Int → HH → Option (Int × HH)) (c417 : Int → Int → Int → Int → Int → HH → Option (Int × HH)) (x1 : Int) (x2 : Int) (x4 : Int) (x5 : Int) (x6 : Int) (x12 : Int) (h : HH) : Option (Int × HH) :=
  if x12 < (x2 : Int) then
    gd ((0 : Int) ≤ x12 ∧ x12 < (10 : Int)) <|
    gd ((0 : Int) ≤ (h.1 112 x12) ∧ (h.1 112 x12) < (10 : Int)) <|
    gd ((0 : Int) ≤ x12 ∧ x12 < (10 : Int)) <|
    bnd (some (hI h 106 x12 (h.1 107 (h.1 112 x12)))) fun h1 =>
    gd (R32 (x12 + 1)) <|
    c386 x1 x2 x4 x5 x6 (x12 + 1) h1
  else
    c417 x1 x2 x4 x5 x6 h
set_option maxRecDepth 100000 in
theorem uX12_exactOf_386 {g : SG} (hg : GOK g) {σ0 : SG} {c386 : Int → Int → Int → Int → Int → Int → HH → Option (Int × HH)} {c417 : Int → Int → Int → Int → Int → HH → Option (Int × HH)} (k386 : ∀ (x1 : Int) (x2 : Int) (x4 : Int) (x5 : Int) (x6 : Int) (x12 : Int) (h : HH) (b : (Int × HH)), c386 x1 x2 x4 x5 x6 x12 h = some b → WK 221 (.inl (some (aI b.1))) σ0 (abH 71 119 g b.2) 386 [(0, aR 71), (1, aI x1), (2, aI x2), (4, aI x4), (5, aI x5), (6, aI x6), (12, aI x12)] [] (abH 71 119 g h) 0 0) (k417 : ∀ (x1 : Int) (x2 : Int) (x4 : Int) (x5 : Int) (x6 : Int) (h : HH) (b : (Int × HH)), c417 x1 x2 x4 x5 x6 h = some b → WK 221 (.inl (some (aI b.1))) σ0 (abH 71 119 g b.2) 417 [(0, aR 71), (1, aI x1), (2, aI x2), (4, aI x4), (5, aI x5), (6, aI x6)] [] (abH 71 119 g h) 0 0) : ∀ {x1 : Int} {x2 : Int} {x4 : Int} {x5 : Int} {x6 : Int} {x12 : Int} {h : HH} {b : (Int × HH)}, bX12_exactOf_386 c386 c417 x1 x2 x4 x5 x6 x12 h = some b → WK 221 (.inl (some (aI b.1))) σ0 (abH 71 119 g b.2) 386 [(0, aR 71), (1, aI x1), (2, aI x2), (4, aI x4), (5, aI x5), (6, aI x6), (12, aI x12)] [] (abH 71 119 g h) 0 0 := by
  intro x1 x2 x4 x5 x6 x12 h b q
  have e : bX12_exactOf_386 c386 c417 x1 x2 x4 x5 x6 x12 h = segW 71 119 g.2.2.2.2 krWI clN csX12_exactOf (cuC 386 (fun l st s => tkC 0 71 l <| tkI 1 l fun x1 => tkI 2 l fun x2 => tkI 4 l fun x4 => tkI 5 l fun x5 => tkI 6 l fun x6 => tkI 12 l fun x12 => skE st (c386 x1 x2 x4 x5 x6 x12 s)) (cuC 417 (fun l st s => tkC 0 71 l <| tkI 1 l fun x1 => tkI 2 l fun x2 => tkI 4 l fun x4 => tkI 5 l fun x5 => tkI 6 l fun x6 => skE st (c417 x1 x2 x4 x5 x6 s)) cuN)) 1000 386 [(0, aR 71), (1, aI x1), (2, aI x2), (4, aI x4), (5, aI x5), (6, aI x6), (12, aI x12)] [] h := rfl
  rw [e] at q
  clear e
  refine segW_wk (by decide) (by decide) hg rwX12_exactOf CLKW_N krWI_ok ?_ q
  clear q
  refine ct_C ?_ (ct_C ?_ (ct_N))
  · intro l st h q
    obtain ⟨m0, q1⟩ := tkC_of q
    obtain ⟨x1, m1, q2⟩ := tkI_of q1
    obtain ⟨x2, m2, q3⟩ := tkI_of q2
    obtain ⟨x4, m4, q4⟩ := tkI_of q3
    obtain ⟨x5, m5, q5⟩ := tkI_of q4
    obtain ⟨x6, m6, q6⟩ := tkI_of q5
    obtain ⟨x12, m12, q7⟩ := tkI_of q6
    obtain ⟨rfl, q8⟩ := skE_of q7
    exact WK_less (k386 _ _ _ _ _ _ _ _ q8) (List.forall_mem_cons.mpr ⟨m0, (List.forall_mem_cons.mpr ⟨m1, (List.forall_mem_cons.mpr ⟨m2, (List.forall_mem_cons.mpr ⟨m4, (List.forall_mem_cons.mpr ⟨m5, (List.forall_mem_cons.mpr ⟨m6, (List.forall_mem_cons.mpr ⟨m12, (fun _ h => absurd h List.not_mem_nil)⟩)⟩)⟩)⟩)⟩)⟩)⟩)
  · intro l st h q
    obtain ⟨m0, q1⟩ := tkC_of q
    obtain ⟨x1, m1, q2⟩ := tkI_of q1
    obtain ⟨x2, m2, q3⟩ := tkI_of q2
    obtain ⟨x4, m4, q4⟩ := tkI_of q3
    obtain ⟨x5, m5, q5⟩ := tkI_of q4
    obtain ⟨x6, m6, q6⟩ := tkI_of q5
    obtain ⟨rfl, q7⟩ := skE_of q6
    exact WK_less (k417 _ _ _ _ _ _ _ q7) (List.forall_mem_cons.mpr ⟨m0, (List.forall_mem_cons.mpr ⟨m1, (List.forall_mem_cons.mpr ⟨m2, (List.forall_mem_cons.mpr ⟨m4, (List.forall_mem_cons.mpr ⟨m5, (List.forall_mem_cons.mpr ⟨m6, (fun _ h => absurd h List.not_mem_nil)⟩)⟩)⟩)⟩)⟩)⟩)
def nX12_exactOf_386 (c96 : Int → Int → Int → Int → Int → HH → Option (Int × HH)) : Nat → Int → Int → Int → Int → Int → Int → HH → Option (Int × HH) := iter (fun _ _ _ _ _ _ _ => none) (fun self => bX12_exactOf_386 self (nX12_exactOf_417 c96))
theorem nX12_exactOf_386_s {c96 : Int → Int → Int → Int → Int → HH → Option (Int × HH)} {F : Nat} : nX12_exactOf_386 c96 (F + 1) = bX12_exactOf_386 (nX12_exactOf_386 c96 F) (nX12_exactOf_417 c96) := rfl
theorem wX12_exactOf_386 {g : SG} (hg : GOK g) {σ0 : SG} {c96 : Int → Int → Int → Int → Int → HH → Option (Int × HH)} (k96 : ∀ (x1 : Int) (x2 : Int) (x4 : Int) (x5 : Int) (x6 : Int) (h : HH) (b : (Int × HH)), c96 x1 x2 x4 x5 x6 h = some b → WK 221 (.inl (some (aI b.1))) σ0 (abH 71 119 g b.2) 96 [(0, aR 71), (1, aI x1), (2, aI x2), (4, aI x4), (5, aI x5), (6, aI x6)] [] (abH 71 119 g h) 0 0) : ∀ {F : Nat}, ∀ {x1 : Int} {x2 : Int} {x4 : Int} {x5 : Int} {x6 : Int} {x12 : Int} {h : HH} {b : (Int × HH)}, nX12_exactOf_386 c96 F x1 x2 x4 x5 x6 x12 h = some b → WK 221 (.inl (some (aI b.1))) σ0 (abH 71 119 g b.2) 386 [(0, aR 71), (1, aI x1), (2, aI x2), (4, aI x4), (5, aI x5), (6, aI x6), (12, aI x12)] [] (abH 71 119 g h) 0 0 := by
  intro F
  have z : ∀ (x1 : Int) (x2 : Int) (x4 : Int) (x5 : Int) (x6 : Int) (x12 : Int) (h : HH) (b : (Int × HH)), nX12_exactOf_386 c96 F x1 x2 x4 x5 x6 x12 h = some b → WK 221 (.inl (some (aI b.1))) σ0 (abH 71 119 g b.2) 386 [(0, aR 71), (1, aI x1), (2, aI x2), (4, aI x4), (5, aI x5), (6, aI x6), (12, aI x12)] [] (abH 71 119 g h) 0 0 := iter_ind (P := fun (c : Int → Int → Int → Int → Int → Int → HH → Option (Int × HH)) => ∀ (x1 : Int) (x2 : Int) (x4 : Int) (x5 : Int) (x6 : Int) (x12 : Int) (h : HH) (b : (Int × HH)), c x1 x2 x4 x5 x6 x12 h = some b → WK 221 (.inl (some (aI b.1))) σ0 (abH 71 119 g b.2) 386 [(0, aR 71), (1, aI x1), (2, aI x2), (4, aI x4), (5, aI x5), (6, aI x6), (12, aI x12)] [] (abH 71 119 g h) 0 0) (by
    intro x1 x2 x4 x5 x6 x12 h b q
    cases q) (fun self ih => by
    intro x1 x2 x4 x5 x6 x12 h b q
    exact uX12_exactOf_386 hg ih (fun _ _ _ _ _ _ _ q => wX12_exactOf_417 hg k96 q) q) F
  intro x1 x2 x4 x5 x6 x12 h b q
  exact z _ _ _ _ _ _ _ _ q
def bX12_exactOf_301 (f181 : HH → Int → Int → Option Int) (c386 : Int → Int → Int → Int → Int → Int → HH → Option (Int × HH)) (c417 : Int → Int → Int → Int → Int → HH → Option (Int × HH)) (x1 : Int) (x2 : Int) (x4 : Int) (x5 : Int) (x6 : Int) (x7 : Int) (x8 : Int) (x11 : Int) (h : HH) : Option (Int × HH) :=
  gd (R32 (x6 + 1)) <|
    if (x6 + 1) < (x2 : Int) then
    gd (R32 (x6 + 1)) <|
    gd ((0 : Int) ≤ (x6 + 1) ∧ (x6 + 1) < (10 : Int)) <|
    bnd (some (hI h 112 (x6 + 1) (-1))) fun h4 =>
    gd ((0 : Int) ≤ (x6 + 1) ∧ (x6 + 1) < (10 : Int)) <|
    bnd (some (hI h4 113 (x6 + 1) x11)) fun h5 =>
    c417 x1 x2 x4 (orI x5 (shlI 1 x7)) (x6 + 1) h5
  else
    gd ((0 : Int) ≤ x8 ∧ x8 < (9 : Int)) <|
    bnd (f181 h (h.1 81 x8) 0) fun r1 =>
    gd (R32 (x11 + r1)) <|
    if (x11 + r1) < (x4 : Int) then
    gd ((0 : Int) ≤ x8 ∧ x8 < (9 : Int)) <|
    bnd (f181 h (h.1 81 x8) 0) fun r2 =>
    gd (R32 (x11 + r2)) <|
    bnd (some (hI h 71 52 x2)) fun h3 =>
    c386 x1 x2 (x11 + r2) x5 x6 0 h3
  else
    c417 x1 x2 x4 x5 x6 h
set_option maxRecDepth 100000 in
theorem uX12_exactOf_301 {g : SG} (hg : GOK g) {σ0 : SG} {c386 : Int → Int → Int → Int → Int → Int → HH → Option (Int × HH)} {c417 : Int → Int → Int → Int → Int → HH → Option (Int × HH)} (k386 : ∀ (x1 : Int) (x2 : Int) (x4 : Int) (x5 : Int) (x6 : Int) (x12 : Int) (h : HH) (b : (Int × HH)), c386 x1 x2 x4 x5 x6 x12 h = some b → WK 221 (.inl (some (aI b.1))) σ0 (abH 71 119 g b.2) 386 [(0, aR 71), (1, aI x1), (2, aI x2), (4, aI x4), (5, aI x5), (6, aI x6), (12, aI x12)] [] (abH 71 119 g h) 0 0) (k417 : ∀ (x1 : Int) (x2 : Int) (x4 : Int) (x5 : Int) (x6 : Int) (h : HH) (b : (Int × HH)), c417 x1 x2 x4 x5 x6 h = some b → WK 221 (.inl (some (aI b.1))) σ0 (abH 71 119 g b.2) 417 [(0, aR 71), (1, aI x1), (2, aI x2), (4, aI x4), (5, aI x5), (6, aI x6)] [] (abH 71 119 g h) 0 0) : ∀ {x1 : Int} {x2 : Int} {x4 : Int} {x5 : Int} {x6 : Int} {x7 : Int} {x8 : Int} {x11 : Int} {h : HH} {b : (Int × HH)}, bX12_exactOf_301 nX12_d c386 c417 x1 x2 x4 x5 x6 x7 x8 x11 h = some b → WK 221 (.inl (some (aI b.1))) σ0 (abH 71 119 g b.2) 301 [(0, aR 71), (1, aI x1), (2, aI x2), (4, aI x4), (5, aI x5), (6, aI x6), (7, aI x7), (8, aI x8), (11, aI x11)] [] (abH 71 119 g h) 0 0 := by
  intro x1 x2 x4 x5 x6 x7 x8 x11 h b q
  have e : ∀ (f181 : HH → Int → Int → Option Int) , bX12_exactOf_301 f181 c386 c417 x1 x2 x4 x5 x6 x7 x8 x11 h = segW 71 119 g.2.2.2.2 krWI (clC 181 (liPW (pX12_d f181)) clN) csX12_exactOf (cuC 386 (fun l st s => tkC 0 71 l <| tkI 1 l fun x1 => tkI 2 l fun x2 => tkI 4 l fun x4 => tkI 5 l fun x5 => tkI 6 l fun x6 => tkI 12 l fun x12 => skE st (c386 x1 x2 x4 x5 x6 x12 s)) (cuC 417 (fun l st s => tkC 0 71 l <| tkI 1 l fun x1 => tkI 2 l fun x2 => tkI 4 l fun x4 => tkI 5 l fun x5 => tkI 6 l fun x6 => skE st (c417 x1 x2 x4 x5 x6 s)) cuN)) 1000 301 [(0, aR 71), (1, aI x1), (2, aI x2), (4, aI x4), (5, aI x5), (6, aI x6), (7, aI x7), (8, aI x8), (11, aI x11)] [] h := fun _ => rfl
  rw [e nX12_d] at q
  clear e
  refine segW_wk (by decide) (by decide) hg rwX12_exactOf (CLKW_C (liPW_ok (pX12_d_ok hg)) CLKW_N) krWI_ok ?_ q
  clear q
  refine ct_C ?_ (ct_C ?_ (ct_N))
  · intro l st h q
    obtain ⟨m0, q1⟩ := tkC_of q
    obtain ⟨x1, m1, q2⟩ := tkI_of q1
    obtain ⟨x2, m2, q3⟩ := tkI_of q2
    obtain ⟨x4, m4, q4⟩ := tkI_of q3
    obtain ⟨x5, m5, q5⟩ := tkI_of q4
    obtain ⟨x6, m6, q6⟩ := tkI_of q5
    obtain ⟨x12, m12, q7⟩ := tkI_of q6
    obtain ⟨rfl, q8⟩ := skE_of q7
    exact WK_less (k386 _ _ _ _ _ _ _ _ q8) (List.forall_mem_cons.mpr ⟨m0, (List.forall_mem_cons.mpr ⟨m1, (List.forall_mem_cons.mpr ⟨m2, (List.forall_mem_cons.mpr ⟨m4, (List.forall_mem_cons.mpr ⟨m5, (List.forall_mem_cons.mpr ⟨m6, (List.forall_mem_cons.mpr ⟨m12, (fun _ h => absurd h List.not_mem_nil)⟩)⟩)⟩)⟩)⟩)⟩)⟩)
  · intro l st h q
    obtain ⟨m0, q1⟩ := tkC_of q
    obtain ⟨x1, m1, q2⟩ := tkI_of q1
    obtain ⟨x2, m2, q3⟩ := tkI_of q2
    obtain ⟨x4, m4, q4⟩ := tkI_of q3
    obtain ⟨x5, m5, q5⟩ := tkI_of q4
    obtain ⟨x6, m6, q6⟩ := tkI_of q5
    obtain ⟨rfl, q7⟩ := skE_of q6
    exact WK_less (k417 _ _ _ _ _ _ _ q7) (List.forall_mem_cons.mpr ⟨m0, (List.forall_mem_cons.mpr ⟨m1, (List.forall_mem_cons.mpr ⟨m2, (List.forall_mem_cons.mpr ⟨m4, (List.forall_mem_cons.mpr ⟨m5, (List.forall_mem_cons.mpr ⟨m6, (fun _ h => absurd h List.not_mem_nil)⟩)⟩)⟩)⟩)⟩)⟩)
def nX12_exactOf_301 (c96 : Int → Int → Int → Int → Int → HH → Option (Int × HH)) (x1 : Int) (x2 : Int) (x4 : Int) (x5 : Int) (x6 : Int) (x7 : Int) (x8 : Int) (x11 : Int) (h : HH) : Option (Int × HH) := bX12_exactOf_301 nX12_d (nX12_exactOf_386 c96 100000) (nX12_exactOf_417 c96) x1 x2 x4 x5 x6 x7 x8 x11 h
theorem wX12_exactOf_301 {g : SG} (hg : GOK g) {σ0 : SG} {c96 : Int → Int → Int → Int → Int → HH → Option (Int × HH)} (k96 : ∀ (x1 : Int) (x2 : Int) (x4 : Int) (x5 : Int) (x6 : Int) (h : HH) (b : (Int × HH)), c96 x1 x2 x4 x5 x6 h = some b → WK 221 (.inl (some (aI b.1))) σ0 (abH 71 119 g b.2) 96 [(0, aR 71), (1, aI x1), (2, aI x2), (4, aI x4), (5, aI x5), (6, aI x6)] [] (abH 71 119 g h) 0 0) : ∀ {x1 : Int} {x2 : Int} {x4 : Int} {x5 : Int} {x6 : Int} {x7 : Int} {x8 : Int} {x11 : Int} {h : HH} {b : (Int × HH)}, nX12_exactOf_301 c96 x1 x2 x4 x5 x6 x7 x8 x11 h = some b → WK 221 (.inl (some (aI b.1))) σ0 (abH 71 119 g b.2) 301 [(0, aR 71), (1, aI x1), (2, aI x2), (4, aI x4), (5, aI x5), (6, aI x6), (7, aI x7), (8, aI x8), (11, aI x11)] [] (abH 71 119 g h) 0 0 := by
  intro x1 x2 x4 x5 x6 x7 x8 x11 h b q
  exact uX12_exactOf_301 hg (fun _ _ _ _ _ _ _ _ q => wX12_exactOf_386 hg k96 q) (fun _ _ _ _ _ _ _ q => wX12_exactOf_417 hg k96 q) q
def bX12_exactOf_226 (f181 : HH → Int → Int → Option Int) (f173 : HH → Int → Int → Option Int) (c96 : Int → Int → Int → Int → Int → HH → Option (Int × HH)) (c301 : Int → Int → Int → Int → Int → Int → Int → Int → HH → Option (Int × HH)) (x1 : Int) (x2 : Int) (x4 : Int) (x5 : Int) (x6 : Int) (x7 : Int) (x8 : Int) (y0 : Int) (h : HH) : Option (Int × HH) :=
  gd ((0 : Int) ≤ x8 ∧ x8 < (9 : Int)) <|
    bnd (f181 h y0 (h.1 81 x8)) fun r1 =>
    gd ((0 : Int) ≤ x6 ∧ x6 < (10 : Int)) <|
    gd (R32 ((h.1 113 x6) + r1)) <|
    gd ((0 : Int) ≤ x8 ∧ x8 < (9 : Int)) <|
    bnd (f173 h ((h.1 113 x6) + r1) (h.1 84 x8)) fun r2 =>
    gd ((0 : Int) ≤ x8 ∧ x8 < (9 : Int)) <|
    gd (R32 (r2 + (h.1 86 x8))) <|
    if r1 = (1000000000 : Int) then
    c96 x1 x2 x4 x5 x6 h
  else
    gd ((0 : Int) ≤ x8 ∧ x8 < (9 : Int)) <|
    if ((h.1 85 x8) : Int) < r2 then
    c96 x1 x2 x4 x5 x6 h
  else
    if (r2 + (h.1 86 x8)) < (x4 : Int) then
    c301 x1 x2 x4 x5 x6 x7 x8 (r2 + (h.1 86 x8)) h
  else
    c96 x1 x2 x4 x5 x6 h
set_option maxRecDepth 100000 in
theorem uX12_exactOf_226 {g : SG} (hg : GOK g) {σ0 : SG} {c96 : Int → Int → Int → Int → Int → HH → Option (Int × HH)} {c301 : Int → Int → Int → Int → Int → Int → Int → Int → HH → Option (Int × HH)} (k96 : ∀ (x1 : Int) (x2 : Int) (x4 : Int) (x5 : Int) (x6 : Int) (h : HH) (b : (Int × HH)), c96 x1 x2 x4 x5 x6 h = some b → WK 221 (.inl (some (aI b.1))) σ0 (abH 71 119 g b.2) 96 [(0, aR 71), (1, aI x1), (2, aI x2), (4, aI x4), (5, aI x5), (6, aI x6)] [] (abH 71 119 g h) 0 0) (k301 : ∀ (x1 : Int) (x2 : Int) (x4 : Int) (x5 : Int) (x6 : Int) (x7 : Int) (x8 : Int) (x11 : Int) (h : HH) (b : (Int × HH)), c301 x1 x2 x4 x5 x6 x7 x8 x11 h = some b → WK 221 (.inl (some (aI b.1))) σ0 (abH 71 119 g b.2) 301 [(0, aR 71), (1, aI x1), (2, aI x2), (4, aI x4), (5, aI x5), (6, aI x6), (7, aI x7), (8, aI x8), (11, aI x11)] [] (abH 71 119 g h) 0 0) : ∀ {x1 : Int} {x2 : Int} {x4 : Int} {x5 : Int} {x6 : Int} {x7 : Int} {x8 : Int} {y0 : Int} {h : HH} {b : (Int × HH)}, bX12_exactOf_226 nX12_d nX12_more c96 c301 x1 x2 x4 x5 x6 x7 x8 y0 h = some b → WK 221 (.inl (some (aI b.1))) σ0 (abH 71 119 g b.2) 226 [(0, aR 71), (1, aI x1), (2, aI x2), (4, aI x4), (5, aI x5), (6, aI x6), (7, aI x7), (8, aI x8)] [aI y0, aR 71] (abH 71 119 g h) 0 0 := by
  intro x1 x2 x4 x5 x6 x7 x8 y0 h b q
  have e : ∀ (f181 : HH → Int → Int → Option Int) (f173 : HH → Int → Int → Option Int) , bX12_exactOf_226 f181 f173 c96 c301 x1 x2 x4 x5 x6 x7 x8 y0 h = segW 71 119 g.2.2.2.2 krWI (clC 181 (liPW (pX12_d f181)) (clC 173 (liPW (pX12_more f173)) clN)) csX12_exactOf (cuC 96 (fun l st s => tkC 0 71 l <| tkI 1 l fun x1 => tkI 2 l fun x2 => tkI 4 l fun x4 => tkI 5 l fun x5 => tkI 6 l fun x6 => skE st (c96 x1 x2 x4 x5 x6 s)) (cuC 301 (fun l st s => tkC 0 71 l <| tkI 1 l fun x1 => tkI 2 l fun x2 => tkI 4 l fun x4 => tkI 5 l fun x5 => tkI 6 l fun x6 => tkI 7 l fun x7 => tkI 8 l fun x8 => tkI 11 l fun x11 => skE st (c301 x1 x2 x4 x5 x6 x7 x8 x11 s)) cuN)) 1000 226 [(0, aR 71), (1, aI x1), (2, aI x2), (4, aI x4), (5, aI x5), (6, aI x6), (7, aI x7), (8, aI x8)] [aI y0, aR 71] h := fun _ _ => rfl
  rw [e nX12_d nX12_more] at q
  clear e
  refine segW_wk (by decide) (by decide) hg rwX12_exactOf (CLKW_C (liPW_ok (pX12_d_ok hg)) (CLKW_C (liPW_ok (pX12_more_ok hg)) CLKW_N)) krWI_ok ?_ q
  clear q
  refine ct_C ?_ (ct_C ?_ (ct_N))
  · intro l st h q
    obtain ⟨m0, q1⟩ := tkC_of q
    obtain ⟨x1, m1, q2⟩ := tkI_of q1
    obtain ⟨x2, m2, q3⟩ := tkI_of q2
    obtain ⟨x4, m4, q4⟩ := tkI_of q3
    obtain ⟨x5, m5, q5⟩ := tkI_of q4
    obtain ⟨x6, m6, q6⟩ := tkI_of q5
    obtain ⟨rfl, q7⟩ := skE_of q6
    exact WK_less (k96 _ _ _ _ _ _ _ q7) (List.forall_mem_cons.mpr ⟨m0, (List.forall_mem_cons.mpr ⟨m1, (List.forall_mem_cons.mpr ⟨m2, (List.forall_mem_cons.mpr ⟨m4, (List.forall_mem_cons.mpr ⟨m5, (List.forall_mem_cons.mpr ⟨m6, (fun _ h => absurd h List.not_mem_nil)⟩)⟩)⟩)⟩)⟩)⟩)
  · intro l st h q
    obtain ⟨m0, q1⟩ := tkC_of q
    obtain ⟨x1, m1, q2⟩ := tkI_of q1
    obtain ⟨x2, m2, q3⟩ := tkI_of q2
    obtain ⟨x4, m4, q4⟩ := tkI_of q3
    obtain ⟨x5, m5, q5⟩ := tkI_of q4
    obtain ⟨x6, m6, q6⟩ := tkI_of q5
    obtain ⟨x7, m7, q7⟩ := tkI_of q6
    obtain ⟨x8, m8, q8⟩ := tkI_of q7
    obtain ⟨x11, m11, q9⟩ := tkI_of q8
    obtain ⟨rfl, q10⟩ := skE_of q9
    exact WK_less (k301 _ _ _ _ _ _ _ _ _ _ q10) (List.forall_mem_cons.mpr ⟨m0, (List.forall_mem_cons.mpr ⟨m1, (List.forall_mem_cons.mpr ⟨m2, (List.forall_mem_cons.mpr ⟨m4, (List.forall_mem_cons.mpr ⟨m5, (List.forall_mem_cons.mpr ⟨m6, (List.forall_mem_cons.mpr ⟨m7, (List.forall_mem_cons.mpr ⟨m8, (List.forall_mem_cons.mpr ⟨m11, (fun _ h => absurd h List.not_mem_nil)⟩)⟩)⟩)⟩)⟩)⟩)⟩)⟩)⟩)
def nX12_exactOf_226 (c96 : Int → Int → Int → Int → Int → HH → Option (Int × HH)) (x1 : Int) (x2 : Int) (x4 : Int) (x5 : Int) (x6 : Int) (x7 : Int) (x8 : Int) (y0 : Int) (h : HH) : Option (Int × HH) := bX12_exactOf_226 nX12_d nX12_more c96 (nX12_exactOf_301 c96) x1 x2 x4 x5 x6 x7 x8 y0 h
theorem wX12_exactOf_226 {g : SG} (hg : GOK g) {σ0 : SG} {c96 : Int → Int → Int → Int → Int → HH → Option (Int × HH)} (k96 : ∀ (x1 : Int) (x2 : Int) (x4 : Int) (x5 : Int) (x6 : Int) (h : HH) (b : (Int × HH)), c96 x1 x2 x4 x5 x6 h = some b → WK 221 (.inl (some (aI b.1))) σ0 (abH 71 119 g b.2) 96 [(0, aR 71), (1, aI x1), (2, aI x2), (4, aI x4), (5, aI x5), (6, aI x6)] [] (abH 71 119 g h) 0 0) : ∀ {x1 : Int} {x2 : Int} {x4 : Int} {x5 : Int} {x6 : Int} {x7 : Int} {x8 : Int} {y0 : Int} {h : HH} {b : (Int × HH)}, nX12_exactOf_226 c96 x1 x2 x4 x5 x6 x7 x8 y0 h = some b → WK 221 (.inl (some (aI b.1))) σ0 (abH 71 119 g b.2) 226 [(0, aR 71), (1, aI x1), (2, aI x2), (4, aI x4), (5, aI x5), (6, aI x6), (7, aI x7), (8, aI x8)] [aI y0, aR 71] (abH 71 119 g h) 0 0 := by
  intro x1 x2 x4 x5 x6 x7 x8 y0 h b q
  exact uX12_exactOf_226 hg k96 (fun _ _ _ _ _ _ _ _ _ _ q => wX12_exactOf_301 hg k96 q) q
def bX12_exactOf_167 (c96 : Int → Int → Int → Int → Int → HH → Option (Int × HH)) (c226 : Int → Int → Int → Int → Int → Int → Int → Int → HH → Option (Int × HH)) (x1 : Int) (x2 : Int) (x4 : Int) (x5 : Int) (x6 : Int) (x7 : Int) (h : HH) : Option (Int × HH) :=
  gd ((0 : Int) ≤ x6 ∧ x6 < (10 : Int)) <|
    bnd (some (hI h 112 x6 x7)) fun h1 =>
    if x7 = (x2 : Int) then
    gd (R32 (x6 + (-1))) <|
    c96 x1 x2 x4 x5 (x6 + (-1)) h1
  else
    gd ((0 : Int) ≤ x7 ∧ x7 < (10 : Int)) <|
    if x6 = (0 : Int) then
    c226 x1 x2 x4 x5 x6 x7 (h1.1 107 x7) 0 h1
  else
    gd (R32 (x6 - 1)) <|
    gd ((0 : Int) ≤ (x6 - 1) ∧ (x6 - 1) < (10 : Int)) <|
    gd ((0 : Int) ≤ (h1.1 112 (x6 - 1)) ∧ (h1.1 112 (x6 - 1)) < (10 : Int)) <|
    gd ((0 : Int) ≤ (h1.1 107 (h1.1 112 (x6 - 1))) ∧ (h1.1 107 (h1.1 112 (x6 - 1))) < (9 : Int)) <|
    c226 x1 x2 x4 x5 x6 x7 (h1.1 107 x7) (h1.1 81 (h1.1 107 (h1.1 112 (x6 - 1)))) h1
set_option maxRecDepth 100000 in
theorem uX12_exactOf_167 {g : SG} (hg : GOK g) {σ0 : SG} {c96 : Int → Int → Int → Int → Int → HH → Option (Int × HH)} {c226 : Int → Int → Int → Int → Int → Int → Int → Int → HH → Option (Int × HH)} (k96 : ∀ (x1 : Int) (x2 : Int) (x4 : Int) (x5 : Int) (x6 : Int) (h : HH) (b : (Int × HH)), c96 x1 x2 x4 x5 x6 h = some b → WK 221 (.inl (some (aI b.1))) σ0 (abH 71 119 g b.2) 96 [(0, aR 71), (1, aI x1), (2, aI x2), (4, aI x4), (5, aI x5), (6, aI x6)] [] (abH 71 119 g h) 0 0) (k226 : ∀ (x1 : Int) (x2 : Int) (x4 : Int) (x5 : Int) (x6 : Int) (x7 : Int) (x8 : Int) (y0 : Int) (h : HH) (b : (Int × HH)), c226 x1 x2 x4 x5 x6 x7 x8 y0 h = some b → WK 221 (.inl (some (aI b.1))) σ0 (abH 71 119 g b.2) 226 [(0, aR 71), (1, aI x1), (2, aI x2), (4, aI x4), (5, aI x5), (6, aI x6), (7, aI x7), (8, aI x8)] [aI y0, aR 71] (abH 71 119 g h) 0 0) : ∀ {x1 : Int} {x2 : Int} {x4 : Int} {x5 : Int} {x6 : Int} {x7 : Int} {h : HH} {b : (Int × HH)}, bX12_exactOf_167 c96 c226 x1 x2 x4 x5 x6 x7 h = some b → WK 221 (.inl (some (aI b.1))) σ0 (abH 71 119 g b.2) 167 [(0, aR 71), (1, aI x1), (2, aI x2), (4, aI x4), (5, aI x5), (6, aI x6), (7, aI x7)] [] (abH 71 119 g h) 0 0 := by
  intro x1 x2 x4 x5 x6 x7 h b q
  have e : bX12_exactOf_167 c96 c226 x1 x2 x4 x5 x6 x7 h = segW 71 119 g.2.2.2.2 krWI clN csX12_exactOf (cuC 96 (fun l st s => tkC 0 71 l <| tkI 1 l fun x1 => tkI 2 l fun x2 => tkI 4 l fun x4 => tkI 5 l fun x5 => tkI 6 l fun x6 => skE st (c96 x1 x2 x4 x5 x6 s)) (cuC 226 (fun l st s => tkC 0 71 l <| tkI 1 l fun x1 => tkI 2 l fun x2 => tkI 4 l fun x4 => tkI 5 l fun x5 => tkI 6 l fun x6 => tkI 7 l fun x7 => tkI 8 l fun x8 => skI st fun y0 st => skC 71 st fun st => skE st (c226 x1 x2 x4 x5 x6 x7 x8 y0 s)) cuN)) 1000 167 [(0, aR 71), (1, aI x1), (2, aI x2), (4, aI x4), (5, aI x5), (6, aI x6), (7, aI x7)] [] h := rfl
  rw [e] at q
  clear e
  refine segW_wk (by decide) (by decide) hg rwX12_exactOf CLKW_N krWI_ok ?_ q
  clear q
  refine ct_C ?_ (ct_C ?_ (ct_N))
  · intro l st h q
    obtain ⟨m0, q1⟩ := tkC_of q
    obtain ⟨x1, m1, q2⟩ := tkI_of q1
    obtain ⟨x2, m2, q3⟩ := tkI_of q2
    obtain ⟨x4, m4, q4⟩ := tkI_of q3
    obtain ⟨x5, m5, q5⟩ := tkI_of q4
    obtain ⟨x6, m6, q6⟩ := tkI_of q5
    obtain ⟨rfl, q7⟩ := skE_of q6
    exact WK_less (k96 _ _ _ _ _ _ _ q7) (List.forall_mem_cons.mpr ⟨m0, (List.forall_mem_cons.mpr ⟨m1, (List.forall_mem_cons.mpr ⟨m2, (List.forall_mem_cons.mpr ⟨m4, (List.forall_mem_cons.mpr ⟨m5, (List.forall_mem_cons.mpr ⟨m6, (fun _ h => absurd h List.not_mem_nil)⟩)⟩)⟩)⟩)⟩)⟩)
  · intro l st h q
    obtain ⟨m0, q1⟩ := tkC_of q
    obtain ⟨x1, m1, q2⟩ := tkI_of q1
    obtain ⟨x2, m2, q3⟩ := tkI_of q2
    obtain ⟨x4, m4, q4⟩ := tkI_of q3
    obtain ⟨x5, m5, q5⟩ := tkI_of q4
    obtain ⟨x6, m6, q6⟩ := tkI_of q5
    obtain ⟨x7, m7, q7⟩ := tkI_of q6
    obtain ⟨x8, m8, q8⟩ := tkI_of q7
    obtain ⟨y0, t0, rfl, q9⟩ := skI_of q8
    obtain ⟨t1, rfl, q10⟩ := skC_of q9
    obtain ⟨rfl, q11⟩ := skE_of q10
    exact WK_less (k226 _ _ _ _ _ _ _ _ _ _ q11) (List.forall_mem_cons.mpr ⟨m0, (List.forall_mem_cons.mpr ⟨m1, (List.forall_mem_cons.mpr ⟨m2, (List.forall_mem_cons.mpr ⟨m4, (List.forall_mem_cons.mpr ⟨m5, (List.forall_mem_cons.mpr ⟨m6, (List.forall_mem_cons.mpr ⟨m7, (List.forall_mem_cons.mpr ⟨m8, (fun _ h => absurd h List.not_mem_nil)⟩)⟩)⟩)⟩)⟩)⟩)⟩)⟩)
def nX12_exactOf_167 (c96 : Int → Int → Int → Int → Int → HH → Option (Int × HH)) (x1 : Int) (x2 : Int) (x4 : Int) (x5 : Int) (x6 : Int) (x7 : Int) (h : HH) : Option (Int × HH) := bX12_exactOf_167 c96 (nX12_exactOf_226 c96) x1 x2 x4 x5 x6 x7 h
theorem wX12_exactOf_167 {g : SG} (hg : GOK g) {σ0 : SG} {c96 : Int → Int → Int → Int → Int → HH → Option (Int × HH)} (k96 : ∀ (x1 : Int) (x2 : Int) (x4 : Int) (x5 : Int) (x6 : Int) (h : HH) (b : (Int × HH)), c96 x1 x2 x4 x5 x6 h = some b → WK 221 (.inl (some (aI b.1))) σ0 (abH 71 119 g b.2) 96 [(0, aR 71), (1, aI x1), (2, aI x2), (4, aI x4), (5, aI x5), (6, aI x6)] [] (abH 71 119 g h) 0 0) : ∀ {x1 : Int} {x2 : Int} {x4 : Int} {x5 : Int} {x6 : Int} {x7 : Int} {h : HH} {b : (Int × HH)}, nX12_exactOf_167 c96 x1 x2 x4 x5 x6 x7 h = some b → WK 221 (.inl (some (aI b.1))) σ0 (abH 71 119 g b.2) 167 [(0, aR 71), (1, aI x1), (2, aI x2), (4, aI x4), (5, aI x5), (6, aI x6), (7, aI x7)] [] (abH 71 119 g h) 0 0 := by
  intro x1 x2 x4 x5 x6 x7 h b q
  exact uX12_exactOf_167 hg k96 (fun _ _ _ _ _ _ _ _ _ _ q => wX12_exactOf_226 hg k96 q) q
def bX12_exactOf_144 (c144 : Int → Int → Int → Int → Int → Int → HH → Option (Int × HH)) (c167 : Int → Int → Int → Int → Int → Int → HH → Option (Int × HH)) (x1 : Int) (x2 : Int) (x4 : Int) (x5 : Int) (x6 : Int) (x7 : Int) (h : HH) : Option (Int × HH) :=
  if x7 < (x2 : Int) then
    if (andI (shrI x5 x7) 1) = (1 : Int) then
    gd (R32 (x7 + 1)) <|
    c144 x1 x2 x4 x5 x6 (x7 + 1) h
  else
    c167 x1 x2 x4 x5 x6 x7 h
  else
    c167 x1 x2 x4 x5 x6 x7 h
theorem uX12_exactOf_144 {g : SG} (hg : GOK g) {σ0 : SG} {c144 : Int → Int → Int → Int → Int → Int → HH → Option (Int × HH)} {c167 : Int → Int → Int → Int → Int → Int → HH → Option (Int × HH)} (k144 : ∀ (x1 : Int) (x2 : Int) (x4 : Int) (x5 : Int) (x6 : Int) (x7 : Int) (h : HH) (b : (Int × HH)), c144 x1 x2 x4 x5 x6 x7 h = some b → WK 221 (.inl (some (aI b.1))) σ0 (abH 71 119 g b.2) 144 [(0, aR 71), (1, aI x1), (2, aI x2), (4, aI x4), (5, aI x5), (6, aI x6), (7, aI x7)] [] (abH 71 119 g h) 0 0) (k167 : ∀ (x1 : Int) (x2 : Int) (x4 : Int) (x5 : Int) (x6 : Int) (x7 : Int) (h : HH) (b : (Int × HH)), c167 x1 x2 x4 x5 x6 x7 h = some b → WK 221 (.inl (some (aI b.1))) σ0 (abH 71 119 g b.2) 167 [(0, aR 71), (1, aI x1), (2, aI x2), (4, aI x4), (5, aI x5), (6, aI x6), (7, aI x7)] [] (abH 71 119 g h) 0 0) : ∀ {x1 : Int} {x2 : Int} {x4 : Int} {x5 : Int} {x6 : Int} {x7 : Int} {h : HH} {b : (Int × HH)}, bX12_exactOf_144 c144 c167 x1 x2 x4 x5 x6 x7 h = some b → WK 221 (.inl (some (aI b.1))) σ0 (abH 71 119 g b.2) 144 [(0, aR 71), (1, aI x1), (2, aI x2), (4, aI x4), (5, aI x5), (6, aI x6), (7, aI x7)] [] (abH 71 119 g h) 0 0 := by
  intro x1 x2 x4 x5 x6 x7 h b q
  have e : bX12_exactOf_144 c144 c167 x1 x2 x4 x5 x6 x7 h = segW 71 119 g.2.2.2.2 krWI clN csX12_exactOf (cuC 144 (fun l st s => tkC 0 71 l <| tkI 1 l fun x1 => tkI 2 l fun x2 => tkI 4 l fun x4 => tkI 5 l fun x5 => tkI 6 l fun x6 => tkI 7 l fun x7 => skE st (c144 x1 x2 x4 x5 x6 x7 s)) (cuC 167 (fun l st s => tkC 0 71 l <| tkI 1 l fun x1 => tkI 2 l fun x2 => tkI 4 l fun x4 => tkI 5 l fun x5 => tkI 6 l fun x6 => tkI 7 l fun x7 => skE st (c167 x1 x2 x4 x5 x6 x7 s)) cuN)) 1000 144 [(0, aR 71), (1, aI x1), (2, aI x2), (4, aI x4), (5, aI x5), (6, aI x6), (7, aI x7)] [] h := rfl
  rw [e] at q
  clear e
  refine segW_wk (by decide) (by decide) hg rwX12_exactOf CLKW_N krWI_ok ?_ q
  clear q
  refine ct_C ?_ (ct_C ?_ (ct_N))
  · intro l st h q
    obtain ⟨m0, q1⟩ := tkC_of q
    obtain ⟨x1, m1, q2⟩ := tkI_of q1
    obtain ⟨x2, m2, q3⟩ := tkI_of q2
    obtain ⟨x4, m4, q4⟩ := tkI_of q3
    obtain ⟨x5, m5, q5⟩ := tkI_of q4
    obtain ⟨x6, m6, q6⟩ := tkI_of q5
    obtain ⟨x7, m7, q7⟩ := tkI_of q6
    obtain ⟨rfl, q8⟩ := skE_of q7
    exact WK_less (k144 _ _ _ _ _ _ _ _ q8) (List.forall_mem_cons.mpr ⟨m0, (List.forall_mem_cons.mpr ⟨m1, (List.forall_mem_cons.mpr ⟨m2, (List.forall_mem_cons.mpr ⟨m4, (List.forall_mem_cons.mpr ⟨m5, (List.forall_mem_cons.mpr ⟨m6, (List.forall_mem_cons.mpr ⟨m7, (fun _ h => absurd h List.not_mem_nil)⟩)⟩)⟩)⟩)⟩)⟩)⟩)
  · intro l st h q
    obtain ⟨m0, q1⟩ := tkC_of q
    obtain ⟨x1, m1, q2⟩ := tkI_of q1
    obtain ⟨x2, m2, q3⟩ := tkI_of q2
    obtain ⟨x4, m4, q4⟩ := tkI_of q3
    obtain ⟨x5, m5, q5⟩ := tkI_of q4
    obtain ⟨x6, m6, q6⟩ := tkI_of q5
    obtain ⟨x7, m7, q7⟩ := tkI_of q6
    obtain ⟨rfl, q8⟩ := skE_of q7
    exact WK_less (k167 _ _ _ _ _ _ _ _ q8) (List.forall_mem_cons.mpr ⟨m0, (List.forall_mem_cons.mpr ⟨m1, (List.forall_mem_cons.mpr ⟨m2, (List.forall_mem_cons.mpr ⟨m4, (List.forall_mem_cons.mpr ⟨m5, (List.forall_mem_cons.mpr ⟨m6, (List.forall_mem_cons.mpr ⟨m7, (fun _ h => absurd h List.not_mem_nil)⟩)⟩)⟩)⟩)⟩)⟩)⟩)
def nX12_exactOf_144 (c96 : Int → Int → Int → Int → Int → HH → Option (Int × HH)) : Nat → Int → Int → Int → Int → Int → Int → HH → Option (Int × HH) := iter (fun _ _ _ _ _ _ _ => none) (fun self => bX12_exactOf_144 self (nX12_exactOf_167 c96))
theorem nX12_exactOf_144_s {c96 : Int → Int → Int → Int → Int → HH → Option (Int × HH)} {F : Nat} : nX12_exactOf_144 c96 (F + 1) = bX12_exactOf_144 (nX12_exactOf_144 c96 F) (nX12_exactOf_167 c96) := rfl
theorem wX12_exactOf_144 {g : SG} (hg : GOK g) {σ0 : SG} {c96 : Int → Int → Int → Int → Int → HH → Option (Int × HH)} (k96 : ∀ (x1 : Int) (x2 : Int) (x4 : Int) (x5 : Int) (x6 : Int) (h : HH) (b : (Int × HH)), c96 x1 x2 x4 x5 x6 h = some b → WK 221 (.inl (some (aI b.1))) σ0 (abH 71 119 g b.2) 96 [(0, aR 71), (1, aI x1), (2, aI x2), (4, aI x4), (5, aI x5), (6, aI x6)] [] (abH 71 119 g h) 0 0) : ∀ {F : Nat}, ∀ {x1 : Int} {x2 : Int} {x4 : Int} {x5 : Int} {x6 : Int} {x7 : Int} {h : HH} {b : (Int × HH)}, nX12_exactOf_144 c96 F x1 x2 x4 x5 x6 x7 h = some b → WK 221 (.inl (some (aI b.1))) σ0 (abH 71 119 g b.2) 144 [(0, aR 71), (1, aI x1), (2, aI x2), (4, aI x4), (5, aI x5), (6, aI x6), (7, aI x7)] [] (abH 71 119 g h) 0 0 := by
  intro F
  have z : ∀ (x1 : Int) (x2 : Int) (x4 : Int) (x5 : Int) (x6 : Int) (x7 : Int) (h : HH) (b : (Int × HH)), nX12_exactOf_144 c96 F x1 x2 x4 x5 x6 x7 h = some b → WK 221 (.inl (some (aI b.1))) σ0 (abH 71 119 g b.2) 144 [(0, aR 71), (1, aI x1), (2, aI x2), (4, aI x4), (5, aI x5), (6, aI x6), (7, aI x7)] [] (abH 71 119 g h) 0 0 := iter_ind (P := fun (c : Int → Int → Int → Int → Int → Int → HH → Option (Int × HH)) => ∀ (x1 : Int) (x2 : Int) (x4 : Int) (x5 : Int) (x6 : Int) (x7 : Int) (h : HH) (b : (Int × HH)), c x1 x2 x4 x5 x6 x7 h = some b → WK 221 (.inl (some (aI b.1))) σ0 (abH 71 119 g b.2) 144 [(0, aR 71), (1, aI x1), (2, aI x2), (4, aI x4), (5, aI x5), (6, aI x6), (7, aI x7)] [] (abH 71 119 g h) 0 0) (by
    intro x1 x2 x4 x5 x6 x7 h b q
    cases q) (fun self ih => by
    intro x1 x2 x4 x5 x6 x7 h b q
    exact uX12_exactOf_144 hg ih (fun _ _ _ _ _ _ _ _ q => wX12_exactOf_167 hg k96 q) q) F
  intro x1 x2 x4 x5 x6 x7 h b q
  exact z _ _ _ _ _ _ _ _ q
def bX12_exactOf_130 (c144 : Int → Int → Int → Int → Int → Int → HH → Option (Int × HH)) (x1 : Int) (x2 : Int) (x4 : Int) (x6 : Int) (y0 : Int) (y1 : Int) (h : HH) : Option (Int × HH) :=
  gd ((0 : Int) ≤ x6 ∧ x6 < (10 : Int)) <|
    gd (R32 ((h.1 112 x6) + 1)) <|
    c144 x1 x2 x4 (andI y1 y0) x6 ((h.1 112 x6) + 1) h
theorem uX12_exactOf_130 {g : SG} (hg : GOK g) {σ0 : SG} {c144 : Int → Int → Int → Int → Int → Int → HH → Option (Int × HH)} (k144 : ∀ (x1 : Int) (x2 : Int) (x4 : Int) (x5 : Int) (x6 : Int) (x7 : Int) (h : HH) (b : (Int × HH)), c144 x1 x2 x4 x5 x6 x7 h = some b → WK 221 (.inl (some (aI b.1))) σ0 (abH 71 119 g b.2) 144 [(0, aR 71), (1, aI x1), (2, aI x2), (4, aI x4), (5, aI x5), (6, aI x6), (7, aI x7)] [] (abH 71 119 g h) 0 0) : ∀ {x1 : Int} {x2 : Int} {x4 : Int} {x6 : Int} {y0 : Int} {y1 : Int} {h : HH} {b : (Int × HH)}, bX12_exactOf_130 c144 x1 x2 x4 x6 y0 y1 h = some b → WK 221 (.inl (some (aI b.1))) σ0 (abH 71 119 g b.2) 130 [(0, aR 71), (1, aI x1), (2, aI x2), (4, aI x4), (6, aI x6)] [aI y0, aI y1] (abH 71 119 g h) 0 0 := by
  intro x1 x2 x4 x6 y0 y1 h b q
  have e : bX12_exactOf_130 c144 x1 x2 x4 x6 y0 y1 h = segW 71 119 g.2.2.2.2 krWI clN csX12_exactOf (cuC 144 (fun l st s => tkC 0 71 l <| tkI 1 l fun x1 => tkI 2 l fun x2 => tkI 4 l fun x4 => tkI 5 l fun x5 => tkI 6 l fun x6 => tkI 7 l fun x7 => skE st (c144 x1 x2 x4 x5 x6 x7 s)) cuN) 1000 130 [(0, aR 71), (1, aI x1), (2, aI x2), (4, aI x4), (6, aI x6)] [aI y0, aI y1] h := rfl
  rw [e] at q
  clear e
  refine segW_wk (by decide) (by decide) hg rwX12_exactOf CLKW_N krWI_ok ?_ q
  clear q
  refine ct_C ?_ (ct_N)
  · intro l st h q
    obtain ⟨m0, q1⟩ := tkC_of q
    obtain ⟨x1, m1, q2⟩ := tkI_of q1
    obtain ⟨x2, m2, q3⟩ := tkI_of q2
    obtain ⟨x4, m4, q4⟩ := tkI_of q3
    obtain ⟨x5, m5, q5⟩ := tkI_of q4
    obtain ⟨x6, m6, q6⟩ := tkI_of q5
    obtain ⟨x7, m7, q7⟩ := tkI_of q6
    obtain ⟨rfl, q8⟩ := skE_of q7
    exact WK_less (k144 _ _ _ _ _ _ _ _ q8) (List.forall_mem_cons.mpr ⟨m0, (List.forall_mem_cons.mpr ⟨m1, (List.forall_mem_cons.mpr ⟨m2, (List.forall_mem_cons.mpr ⟨m4, (List.forall_mem_cons.mpr ⟨m5, (List.forall_mem_cons.mpr ⟨m6, (List.forall_mem_cons.mpr ⟨m7, (fun _ h => absurd h List.not_mem_nil)⟩)⟩)⟩)⟩)⟩)⟩)⟩)
def nX12_exactOf_130 (c96 : Int → Int → Int → Int → Int → HH → Option (Int × HH)) (x1 : Int) (x2 : Int) (x4 : Int) (x6 : Int) (y0 : Int) (y1 : Int) (h : HH) : Option (Int × HH) := bX12_exactOf_130 (nX12_exactOf_144 c96 100000) x1 x2 x4 x6 y0 y1 h
theorem wX12_exactOf_130 {g : SG} (hg : GOK g) {σ0 : SG} {c96 : Int → Int → Int → Int → Int → HH → Option (Int × HH)} (k96 : ∀ (x1 : Int) (x2 : Int) (x4 : Int) (x5 : Int) (x6 : Int) (h : HH) (b : (Int × HH)), c96 x1 x2 x4 x5 x6 h = some b → WK 221 (.inl (some (aI b.1))) σ0 (abH 71 119 g b.2) 96 [(0, aR 71), (1, aI x1), (2, aI x2), (4, aI x4), (5, aI x5), (6, aI x6)] [] (abH 71 119 g h) 0 0) : ∀ {x1 : Int} {x2 : Int} {x4 : Int} {x6 : Int} {y0 : Int} {y1 : Int} {h : HH} {b : (Int × HH)}, nX12_exactOf_130 c96 x1 x2 x4 x6 y0 y1 h = some b → WK 221 (.inl (some (aI b.1))) σ0 (abH 71 119 g b.2) 130 [(0, aR 71), (1, aI x1), (2, aI x2), (4, aI x4), (6, aI x6)] [aI y0, aI y1] (abH 71 119 g h) 0 0 := by
  intro x1 x2 x4 x6 y0 y1 h b q
  exact uX12_exactOf_130 hg (fun _ _ _ _ _ _ _ _ q => wX12_exactOf_144 hg k96 q) q
def bX12_exactOf_96 (c130 : Int → Int → Int → Int → Int → Int → HH → Option (Int × HH)) (x1 : Int) (x2 : Int) (x4 : Int) (x5 : Int) (x6 : Int) (h : HH) : Option (Int × HH) :=
  if x6 < (0 : Int) then
    if (h.1 71 52) = (0 : Int) then
    some ((-1), h)
  else
    gd ((0 : Int) ≤ x1 ∧ x1 < (3 : Int)) <|
    gd (R32 (x4 - (h.1 92 x1))) <|
    some ((x4 - (h.1 92 x1)), h)
  else
    gd ((0 : Int) ≤ x6 ∧ x6 < (10 : Int)) <|
    if (h.1 112 x6) = ((-1) : Int) then
    c130 x1 x2 x4 x6 x5 x5 h
  else
    gd ((0 : Int) ≤ x6 ∧ x6 < (10 : Int)) <|
    c130 x1 x2 x4 x6 (xorI (shlI 1 (h.1 112 x6)) (-1)) x5 h
set_option maxRecDepth 100000 in
theorem uX12_exactOf_96 {g : SG} (hg : GOK g) {σ0 : SG} {c130 : Int → Int → Int → Int → Int → Int → HH → Option (Int × HH)} (k130 : ∀ (x1 : Int) (x2 : Int) (x4 : Int) (x6 : Int) (y0 : Int) (y1 : Int) (h : HH) (b : (Int × HH)), c130 x1 x2 x4 x6 y0 y1 h = some b → WK 221 (.inl (some (aI b.1))) σ0 (abH 71 119 g b.2) 130 [(0, aR 71), (1, aI x1), (2, aI x2), (4, aI x4), (6, aI x6)] [aI y0, aI y1] (abH 71 119 g h) 0 0) : ∀ {x1 : Int} {x2 : Int} {x4 : Int} {x5 : Int} {x6 : Int} {h : HH} {b : (Int × HH)}, bX12_exactOf_96 c130 x1 x2 x4 x5 x6 h = some b → WK 221 (.inl (some (aI b.1))) σ0 (abH 71 119 g b.2) 96 [(0, aR 71), (1, aI x1), (2, aI x2), (4, aI x4), (5, aI x5), (6, aI x6)] [] (abH 71 119 g h) 0 0 := by
  intro x1 x2 x4 x5 x6 h b q
  have e : bX12_exactOf_96 c130 x1 x2 x4 x5 x6 h = segW 71 119 g.2.2.2.2 krWI clN csX12_exactOf (cuC 130 (fun l st s => tkC 0 71 l <| tkI 1 l fun x1 => tkI 2 l fun x2 => tkI 4 l fun x4 => tkI 6 l fun x6 => skI st fun y0 st => skI st fun y1 st => skE st (c130 x1 x2 x4 x6 y0 y1 s)) cuN) 1000 96 [(0, aR 71), (1, aI x1), (2, aI x2), (4, aI x4), (5, aI x5), (6, aI x6)] [] h := rfl
  rw [e] at q
  clear e
  refine segW_wk (by decide) (by decide) hg rwX12_exactOf CLKW_N krWI_ok ?_ q
  clear q
  refine ct_C ?_ (ct_N)
  · intro l st h q
    obtain ⟨m0, q1⟩ := tkC_of q
    obtain ⟨x1, m1, q2⟩ := tkI_of q1
    obtain ⟨x2, m2, q3⟩ := tkI_of q2
    obtain ⟨x4, m4, q4⟩ := tkI_of q3
    obtain ⟨x6, m6, q5⟩ := tkI_of q4
    obtain ⟨y0, t0, rfl, q6⟩ := skI_of q5
    obtain ⟨y1, t1, rfl, q7⟩ := skI_of q6
    obtain ⟨rfl, q8⟩ := skE_of q7
    exact WK_less (k130 _ _ _ _ _ _ _ _ q8) (List.forall_mem_cons.mpr ⟨m0, (List.forall_mem_cons.mpr ⟨m1, (List.forall_mem_cons.mpr ⟨m2, (List.forall_mem_cons.mpr ⟨m4, (List.forall_mem_cons.mpr ⟨m6, (fun _ h => absurd h List.not_mem_nil)⟩)⟩)⟩)⟩)⟩)
def nX12_exactOf_96 : Nat → Int → Int → Int → Int → Int → HH → Option (Int × HH) := iter (fun _ _ _ _ _ _ => none) (fun self => bX12_exactOf_96 (nX12_exactOf_130 self))
theorem nX12_exactOf_96_s {F : Nat} : nX12_exactOf_96 (F + 1) = bX12_exactOf_96 (nX12_exactOf_130 (nX12_exactOf_96 F)) := rfl
theorem wX12_exactOf_96 {g : SG} (hg : GOK g) {σ0 : SG} : ∀ {F : Nat}, ∀ {x1 : Int} {x2 : Int} {x4 : Int} {x5 : Int} {x6 : Int} {h : HH} {b : (Int × HH)}, nX12_exactOf_96 F x1 x2 x4 x5 x6 h = some b → WK 221 (.inl (some (aI b.1))) σ0 (abH 71 119 g b.2) 96 [(0, aR 71), (1, aI x1), (2, aI x2), (4, aI x4), (5, aI x5), (6, aI x6)] [] (abH 71 119 g h) 0 0 := by
  intro F
  have z : ∀ (x1 : Int) (x2 : Int) (x4 : Int) (x5 : Int) (x6 : Int) (h : HH) (b : (Int × HH)), nX12_exactOf_96 F x1 x2 x4 x5 x6 h = some b → WK 221 (.inl (some (aI b.1))) σ0 (abH 71 119 g b.2) 96 [(0, aR 71), (1, aI x1), (2, aI x2), (4, aI x4), (5, aI x5), (6, aI x6)] [] (abH 71 119 g h) 0 0 := iter_ind (P := fun (c : Int → Int → Int → Int → Int → HH → Option (Int × HH)) => ∀ (x1 : Int) (x2 : Int) (x4 : Int) (x5 : Int) (x6 : Int) (h : HH) (b : (Int × HH)), c x1 x2 x4 x5 x6 h = some b → WK 221 (.inl (some (aI b.1))) σ0 (abH 71 119 g b.2) 96 [(0, aR 71), (1, aI x1), (2, aI x2), (4, aI x4), (5, aI x5), (6, aI x6)] [] (abH 71 119 g h) 0 0) (by
    intro x1 x2 x4 x5 x6 h b q
    cases q) (fun self ih => by
    intro x1 x2 x4 x5 x6 h b q
    exact uX12_exactOf_96 hg (fun _ _ _ _ _ _ _ _ q => wX12_exactOf_130 hg ih q) q) F
  intro x1 x2 x4 x5 x6 h b q
  exact z _ _ _ _ _ _ _ q
def bX12_exactOf_10 (c10 : Int → Int → Int → Int → HH → Option (Int × HH)) (c51 : Int → HH → Option (Int × HH)) (c96 : Int → Int → Int → Int → Int → HH → Option (Int × HH)) (x1 : Int) (x2 : Int) (x3 : Int) (x4 : Int) (h : HH) : Option (Int × HH) :=
  if x4 < (x2 : Int) then
    gd ((0 : Int) ≤ x4 ∧ x4 < (10 : Int)) <|
    gd ((0 : Int) ≤ (h.1 107 x4) ∧ (h.1 107 x4) < (9 : Int)) <|
    gd (R32 (x3 + (h.1 82 (h.1 107 x4)))) <|
    gd (R32 (x4 + 1)) <|
    c10 x1 x2 (x3 + (h.1 82 (h.1 107 x4))) (x4 + 1) h
  else
    if x2 = (0 : Int) then
    c51 x2 h
  else
    gd ((0 : Int) ≤ x1 ∧ x1 < (3 : Int)) <|
    if ((h.1 91 x1) : Int) < x3 then
    c51 x2 h
  else
    gd ((0 : Int) ≤ x1 ∧ x1 < (3 : Int)) <|
    gd (R32 ((h.1 93 x1) + 1)) <|
    gd ((0 : Int) ≤ 0 ∧ 0 < (10 : Int)) <|
    bnd (some (hI h 112 0 (-1))) fun h1 =>
    gd ((0 : Int) ≤ x1 ∧ x1 < (3 : Int)) <|
    gd ((0 : Int) ≤ 0 ∧ 0 < (10 : Int)) <|
    bnd (some (hI h1 113 0 (h1.1 92 x1))) fun h2 =>
    c96 x1 x2 ((h.1 93 x1) + 1) 0 0 h2
set_option maxRecDepth 100000 in
theorem uX12_exactOf_10 {g : SG} (hg : GOK g) {σ0 : SG} {c10 : Int → Int → Int → Int → HH → Option (Int × HH)} {c51 : Int → HH → Option (Int × HH)} {c96 : Int → Int → Int → Int → Int → HH → Option (Int × HH)} (k10 : ∀ (x1 : Int) (x2 : Int) (x3 : Int) (x4 : Int) (h : HH) (b : (Int × HH)), c10 x1 x2 x3 x4 h = some b → WK 221 (.inl (some (aI b.1))) σ0 (abH 71 119 g b.2) 10 [(0, aR 71), (1, aI x1), (2, aI x2), (3, aI x3), (4, aI x4)] [] (abH 71 119 g h) 0 0) (k51 : ∀ (x2 : Int) (h : HH) (b : (Int × HH)), c51 x2 h = some b → WK 221 (.inl (some (aI b.1))) σ0 (abH 71 119 g b.2) 51 [(2, aI x2)] [] (abH 71 119 g h) 0 0) (k96 : ∀ (x1 : Int) (x2 : Int) (x4 : Int) (x5 : Int) (x6 : Int) (h : HH) (b : (Int × HH)), c96 x1 x2 x4 x5 x6 h = some b → WK 221 (.inl (some (aI b.1))) σ0 (abH 71 119 g b.2) 96 [(0, aR 71), (1, aI x1), (2, aI x2), (4, aI x4), (5, aI x5), (6, aI x6)] [] (abH 71 119 g h) 0 0) : ∀ {x1 : Int} {x2 : Int} {x3 : Int} {x4 : Int} {h : HH} {b : (Int × HH)}, bX12_exactOf_10 c10 c51 c96 x1 x2 x3 x4 h = some b → WK 221 (.inl (some (aI b.1))) σ0 (abH 71 119 g b.2) 10 [(0, aR 71), (1, aI x1), (2, aI x2), (3, aI x3), (4, aI x4)] [] (abH 71 119 g h) 0 0 := by
  intro x1 x2 x3 x4 h b q
  have e : bX12_exactOf_10 c10 c51 c96 x1 x2 x3 x4 h = segW 71 119 g.2.2.2.2 krWI clN csX12_exactOf (cuC 10 (fun l st s => tkC 0 71 l <| tkI 1 l fun x1 => tkI 2 l fun x2 => tkI 3 l fun x3 => tkI 4 l fun x4 => skE st (c10 x1 x2 x3 x4 s)) (cuC 51 (fun l st s => tkI 2 l fun x2 => skE st (c51 x2 s)) (cuC 96 (fun l st s => tkC 0 71 l <| tkI 1 l fun x1 => tkI 2 l fun x2 => tkI 4 l fun x4 => tkI 5 l fun x5 => tkI 6 l fun x6 => skE st (c96 x1 x2 x4 x5 x6 s)) cuN))) 1000 10 [(0, aR 71), (1, aI x1), (2, aI x2), (3, aI x3), (4, aI x4)] [] h := rfl
  rw [e] at q
  clear e
  refine segW_wk (by decide) (by decide) hg rwX12_exactOf CLKW_N krWI_ok ?_ q
  clear q
  refine ct_C ?_ (ct_C ?_ (ct_C ?_ (ct_N)))
  · intro l st h q
    obtain ⟨m0, q1⟩ := tkC_of q
    obtain ⟨x1, m1, q2⟩ := tkI_of q1
    obtain ⟨x2, m2, q3⟩ := tkI_of q2
    obtain ⟨x3, m3, q4⟩ := tkI_of q3
    obtain ⟨x4, m4, q5⟩ := tkI_of q4
    obtain ⟨rfl, q6⟩ := skE_of q5
    exact WK_less (k10 _ _ _ _ _ _ q6) (List.forall_mem_cons.mpr ⟨m0, (List.forall_mem_cons.mpr ⟨m1, (List.forall_mem_cons.mpr ⟨m2, (List.forall_mem_cons.mpr ⟨m3, (List.forall_mem_cons.mpr ⟨m4, (fun _ h => absurd h List.not_mem_nil)⟩)⟩)⟩)⟩)⟩)
  · intro l st h q
    obtain ⟨x2, m2, q1⟩ := tkI_of q
    obtain ⟨rfl, q2⟩ := skE_of q1
    exact WK_less (k51 _ _ _ q2) (List.forall_mem_cons.mpr ⟨m2, (fun _ h => absurd h List.not_mem_nil)⟩)
  · intro l st h q
    obtain ⟨m0, q1⟩ := tkC_of q
    obtain ⟨x1, m1, q2⟩ := tkI_of q1
    obtain ⟨x2, m2, q3⟩ := tkI_of q2
    obtain ⟨x4, m4, q4⟩ := tkI_of q3
    obtain ⟨x5, m5, q5⟩ := tkI_of q4
    obtain ⟨x6, m6, q6⟩ := tkI_of q5
    obtain ⟨rfl, q7⟩ := skE_of q6
    exact WK_less (k96 _ _ _ _ _ _ _ q7) (List.forall_mem_cons.mpr ⟨m0, (List.forall_mem_cons.mpr ⟨m1, (List.forall_mem_cons.mpr ⟨m2, (List.forall_mem_cons.mpr ⟨m4, (List.forall_mem_cons.mpr ⟨m5, (List.forall_mem_cons.mpr ⟨m6, (fun _ h => absurd h List.not_mem_nil)⟩)⟩)⟩)⟩)⟩)⟩)
def nX12_exactOf_10 : Nat → Int → Int → Int → Int → HH → Option (Int × HH) := iter (fun _ _ _ _ _ => none) (fun self => bX12_exactOf_10 self nX12_exactOf_51 (nX12_exactOf_96 10000000))
theorem nX12_exactOf_10_s {F : Nat} : nX12_exactOf_10 (F + 1) = bX12_exactOf_10 (nX12_exactOf_10 F) nX12_exactOf_51 (nX12_exactOf_96 10000000) := rfl
theorem wX12_exactOf_10 {g : SG} (hg : GOK g) {σ0 : SG} : ∀ {F : Nat}, ∀ {x1 : Int} {x2 : Int} {x3 : Int} {x4 : Int} {h : HH} {b : (Int × HH)}, nX12_exactOf_10 F x1 x2 x3 x4 h = some b → WK 221 (.inl (some (aI b.1))) σ0 (abH 71 119 g b.2) 10 [(0, aR 71), (1, aI x1), (2, aI x2), (3, aI x3), (4, aI x4)] [] (abH 71 119 g h) 0 0 := by
  intro F
  have z : ∀ (x1 : Int) (x2 : Int) (x3 : Int) (x4 : Int) (h : HH) (b : (Int × HH)), nX12_exactOf_10 F x1 x2 x3 x4 h = some b → WK 221 (.inl (some (aI b.1))) σ0 (abH 71 119 g b.2) 10 [(0, aR 71), (1, aI x1), (2, aI x2), (3, aI x3), (4, aI x4)] [] (abH 71 119 g h) 0 0 := iter_ind (P := fun (c : Int → Int → Int → Int → HH → Option (Int × HH)) => ∀ (x1 : Int) (x2 : Int) (x3 : Int) (x4 : Int) (h : HH) (b : (Int × HH)), c x1 x2 x3 x4 h = some b → WK 221 (.inl (some (aI b.1))) σ0 (abH 71 119 g b.2) 10 [(0, aR 71), (1, aI x1), (2, aI x2), (3, aI x3), (4, aI x4)] [] (abH 71 119 g h) 0 0) (by
    intro x1 x2 x3 x4 h b q
    cases q) (fun self ih => by
    intro x1 x2 x3 x4 h b q
    exact uX12_exactOf_10 hg ih (fun _ _ _ q => wX12_exactOf_51 hg q) (fun _ _ _ _ _ _ _ q => wX12_exactOf_96 hg q) q) F
  intro x1 x2 x3 x4 h b q
  exact z _ _ _ _ _ _ q
def bX12_exactOf (c10 : Int → Int → Int → Int → HH → Option (Int × HH)) (x1 : Int) (x2 : Int) (h : HH) : Option (Int × HH) :=
  bnd (some (hI h 71 52 0)) fun h1 =>
    c10 x1 x2 0 0 h1
theorem uX12_exactOf {g : SG} (hg : GOK g) {σ0 : SG} {c10 : Int → Int → Int → Int → HH → Option (Int × HH)} (k10 : ∀ (x1 : Int) (x2 : Int) (x3 : Int) (x4 : Int) (h : HH) (b : (Int × HH)), c10 x1 x2 x3 x4 h = some b → WK 221 (.inl (some (aI b.1))) σ0 (abH 71 119 g b.2) 10 [(0, aR 71), (1, aI x1), (2, aI x2), (3, aI x3), (4, aI x4)] [] (abH 71 119 g h) 0 0) : ∀ {x1 : Int} {x2 : Int} {h : HH} {b : (Int × HH)}, bX12_exactOf c10 x1 x2 h = some b → WK 221 (.inl (some (aI b.1))) σ0 (abH 71 119 g b.2) 0 [(0, aR 71), (1, aI x1), (2, aI x2)] [] (abH 71 119 g h) 0 0 := by
  intro x1 x2 h b q
  have e : bX12_exactOf c10 x1 x2 h = segW 71 119 g.2.2.2.2 krWI clN csX12_exactOf (cuC 10 (fun l st s => tkC 0 71 l <| tkI 1 l fun x1 => tkI 2 l fun x2 => tkI 3 l fun x3 => tkI 4 l fun x4 => skE st (c10 x1 x2 x3 x4 s)) cuN) 1000 0 [(0, aR 71), (1, aI x1), (2, aI x2)] [] h := rfl
  rw [e] at q
  clear e
  refine segW_wk (by decide) (by decide) hg rwX12_exactOf CLKW_N krWI_ok ?_ q
  clear q
  refine ct_C ?_ (ct_N)
  · intro l st h q
    obtain ⟨m0, q1⟩ := tkC_of q
    obtain ⟨x1, m1, q2⟩ := tkI_of q1
    obtain ⟨x2, m2, q3⟩ := tkI_of q2
    obtain ⟨x3, m3, q4⟩ := tkI_of q3
    obtain ⟨x4, m4, q5⟩ := tkI_of q4
    obtain ⟨rfl, q6⟩ := skE_of q5
    exact WK_less (k10 _ _ _ _ _ _ q6) (List.forall_mem_cons.mpr ⟨m0, (List.forall_mem_cons.mpr ⟨m1, (List.forall_mem_cons.mpr ⟨m2, (List.forall_mem_cons.mpr ⟨m3, (List.forall_mem_cons.mpr ⟨m4, (fun _ h => absurd h List.not_mem_nil)⟩)⟩)⟩)⟩)⟩)
def nX12_exactOf (x1 : Int) (x2 : Int) (h : HH) : Option (Int × HH) := bX12_exactOf (nX12_exactOf_10 100000) x1 x2 h
theorem wX12_exactOf {g : SG} (hg : GOK g) {σ0 : SG} : ∀ {x1 : Int} {x2 : Int} {h : HH} {b : (Int × HH)}, nX12_exactOf x1 x2 h = some b → WK 221 (.inl (some (aI b.1))) σ0 (abH 71 119 g b.2) 0 [(0, aR 71), (1, aI x1), (2, aI x2)] [] (abH 71 119 g h) 0 0 := by
  intro x1 x2 h b q
  exact uX12_exactOf hg (fun _ _ _ _ _ _ q => wX12_exactOf_10 hg q) q
theorem mX12_exactOf {g : SG} (hg : GOK g) {h : HH} {x1 : Int} {x2 : Int} {b : (Int × HH)} (q : nX12_exactOf x1 x2 h = some b) : MCT 221 [] [aR 71, aI x1, aI x2] (abH 71 119 g h) (.inl (some (aI b.1))) (abH 71 119 g b.2) :=
  mct_of (by decide) (MFok 221 (by decide +kernel)) (fun _ => Nat.le_of_ble_eq_true rfl) (wX12_exactOf hg q)
def pX12_exactOf {β : Type} (z : Int → Int → HH → Option (Int × HH)) : PW β := fun as h f => skC 71 as fun as => skI as fun x1 as => skI as fun x2 as => skE as (bnd (z x1 x2 h) fun r => f (.inl (some (aI r.1))) r.2)
theorem pX12_exactOf_ok {β : Type} {g : SG} (hg : GOK g) : CW1 (β := β) 221 (pX12_exactOf nX12_exactOf) 71 119 g := fun as h f b q => by
  obtain ⟨as, rfl, q1⟩ := skC_of q
  obtain ⟨x1, as, rfl, q2⟩ := skI_of q1
  obtain ⟨x2, as, rfl, q3⟩ := skI_of q2
  obtain ⟨rfl, q0⟩ := skE_of q3
  obtain ⟨r, z1, z2⟩ := bnd_of q0
  exact ⟨_, _, z2, by decide, mX12_exactOf hg z1, rfl, rfl, fun z => absurd z (by decide)⟩
def csX12_sorts : List (Nat × List (Nat × ARow)) := [(100000, [(0, 1, .iconst 0, 0, 0, 0), (1, 1, .istore_n 2, 0, 0, 0), (2, 1, .iconst 0, 0, 0, 0), (3, 1, .istore_n 3, 0, 0, 0), (4, 1, .iload_n 3, 0, 0, 0), (5, 1, .aload_n 0, 0, 0, 0), (6, 3, .getfield 182, 12, 21, 0), (9, 3, .if_icmp .ge 29, 38, 0, 0), (12, 1, .aload_n 0, 0, 0, 0), (13, 3, .getfield 64, 12, 20, 2), (16, 1, .iload_n 3, 0, 0, 0), (17, 1, .iaload, 0, 0, 0), (18, 1, .iload_n 1, 0, 0, 0), (19, 3, .if_icmp .ne 13, 32, 0, 0), (22, 1, .aload_n 0, 0, 0, 0), (23, 3, .getfield 133, 12, 49, 2), (26, 1, .iload_n 2, 0, 0, 0), (27, 1, .iload_n 3, 0, 0, 0), (28, 1, .iastore, 0, 0, 0), (29, 3, .iinc 2 1, 0, 0, 0), (32, 3, .iinc 3 1, 0, 0, 0), (35, 3, .goto (-31), 4, 0, 0), (38, 1, .iload_n 2, 0, 0, 0), (39, 1, .ireturn, 0, 0, 0)])]
theorem rwX12_sorts : rowsB (mB 222) (mO 222) (mX 222) (mIni 222) (mFr 222) (mLo 222) (mT 222) csX12_sorts = true := by decide +kernel
def bX12_sorts_32 (c4 : Int → Int → Int → HH → Option (Int × HH)) (x1 : Int) (x2 : Int) (x3 : Int) (h : HH) : Option (Int × HH) :=
  gd (R32 (x3 + 1)) <|
    c4 x1 x2 (x3 + 1) h
theorem uX12_sorts_32 {g : SG} (hg : GOK g) {σ0 : SG} {c4 : Int → Int → Int → HH → Option (Int × HH)} (k4 : ∀ (x1 : Int) (x2 : Int) (x3 : Int) (h : HH) (b : (Int × HH)), c4 x1 x2 x3 h = some b → WK 222 (.inl (some (aI b.1))) σ0 (abH 71 119 g b.2) 4 [(0, aR 71), (1, aI x1), (2, aI x2), (3, aI x3)] [] (abH 71 119 g h) 0 0) : ∀ {x1 : Int} {x2 : Int} {x3 : Int} {h : HH} {b : (Int × HH)}, bX12_sorts_32 c4 x1 x2 x3 h = some b → WK 222 (.inl (some (aI b.1))) σ0 (abH 71 119 g b.2) 32 [(0, aR 71), (1, aI x1), (2, aI x2), (3, aI x3)] [] (abH 71 119 g h) 0 0 := by
  intro x1 x2 x3 h b q
  have e : bX12_sorts_32 c4 x1 x2 x3 h = segW 71 119 g.2.2.2.2 krWI clN csX12_sorts (cuC 4 (fun l st s => tkC 0 71 l <| tkI 1 l fun x1 => tkI 2 l fun x2 => tkI 3 l fun x3 => skE st (c4 x1 x2 x3 s)) cuN) 1000 32 [(0, aR 71), (1, aI x1), (2, aI x2), (3, aI x3)] [] h := rfl
  rw [e] at q
  clear e
  refine segW_wk (by decide) (by decide) hg rwX12_sorts CLKW_N krWI_ok ?_ q
  clear q
  refine ct_C ?_ (ct_N)
  · intro l st h q
    obtain ⟨m0, q1⟩ := tkC_of q
    obtain ⟨x1, m1, q2⟩ := tkI_of q1
    obtain ⟨x2, m2, q3⟩ := tkI_of q2
    obtain ⟨x3, m3, q4⟩ := tkI_of q3
    obtain ⟨rfl, q5⟩ := skE_of q4
    exact WK_less (k4 _ _ _ _ _ q5) (List.forall_mem_cons.mpr ⟨m0, (List.forall_mem_cons.mpr ⟨m1, (List.forall_mem_cons.mpr ⟨m2, (List.forall_mem_cons.mpr ⟨m3, (fun _ h => absurd h List.not_mem_nil)⟩)⟩)⟩)⟩)
def nX12_sorts_32 (c4 : Int → Int → Int → HH → Option (Int × HH)) (x1 : Int) (x2 : Int) (x3 : Int) (h : HH) : Option (Int × HH) := bX12_sorts_32 c4 x1 x2 x3 h
theorem wX12_sorts_32 {g : SG} (hg : GOK g) {σ0 : SG} {c4 : Int → Int → Int → HH → Option (Int × HH)} (k4 : ∀ (x1 : Int) (x2 : Int) (x3 : Int) (h : HH) (b : (Int × HH)), c4 x1 x2 x3 h = some b → WK 222 (.inl (some (aI b.1))) σ0 (abH 71 119 g b.2) 4 [(0, aR 71), (1, aI x1), (2, aI x2), (3, aI x3)] [] (abH 71 119 g h) 0 0) : ∀ {x1 : Int} {x2 : Int} {x3 : Int} {h : HH} {b : (Int × HH)}, nX12_sorts_32 c4 x1 x2 x3 h = some b → WK 222 (.inl (some (aI b.1))) σ0 (abH 71 119 g b.2) 32 [(0, aR 71), (1, aI x1), (2, aI x2), (3, aI x3)] [] (abH 71 119 g h) 0 0 := by
  intro x1 x2 x3 h b q
  exact uX12_sorts_32 hg k4 q
def bX12_sorts_4 (c32 : Int → Int → Int → HH → Option (Int × HH)) (x1 : Int) (x2 : Int) (x3 : Int) (h : HH) : Option (Int × HH) :=
  if x3 < ((h.1 71 21) : Int) then
    gd ((0 : Int) ≤ x3 ∧ x3 < (9 : Int)) <|
    if (h.1 90 x3) = (x1 : Int) then
    gd ((0 : Int) ≤ x2 ∧ x2 < (10 : Int)) <|
    bnd (some (hI h 107 x2 x3)) fun h1 =>
    gd (R32 (x2 + 1)) <|
    c32 x1 (x2 + 1) x3 h1
  else
    c32 x1 x2 x3 h
  else
    some (x2, h)
theorem uX12_sorts_4 {g : SG} (hg : GOK g) {σ0 : SG} {c32 : Int → Int → Int → HH → Option (Int × HH)} (k32 : ∀ (x1 : Int) (x2 : Int) (x3 : Int) (h : HH) (b : (Int × HH)), c32 x1 x2 x3 h = some b → WK 222 (.inl (some (aI b.1))) σ0 (abH 71 119 g b.2) 32 [(0, aR 71), (1, aI x1), (2, aI x2), (3, aI x3)] [] (abH 71 119 g h) 0 0) : ∀ {x1 : Int} {x2 : Int} {x3 : Int} {h : HH} {b : (Int × HH)}, bX12_sorts_4 c32 x1 x2 x3 h = some b → WK 222 (.inl (some (aI b.1))) σ0 (abH 71 119 g b.2) 4 [(0, aR 71), (1, aI x1), (2, aI x2), (3, aI x3)] [] (abH 71 119 g h) 0 0 := by
  intro x1 x2 x3 h b q
  have e : bX12_sorts_4 c32 x1 x2 x3 h = segW 71 119 g.2.2.2.2 krWI clN csX12_sorts (cuC 32 (fun l st s => tkC 0 71 l <| tkI 1 l fun x1 => tkI 2 l fun x2 => tkI 3 l fun x3 => skE st (c32 x1 x2 x3 s)) cuN) 1000 4 [(0, aR 71), (1, aI x1), (2, aI x2), (3, aI x3)] [] h := rfl
  rw [e] at q
  clear e
  refine segW_wk (by decide) (by decide) hg rwX12_sorts CLKW_N krWI_ok ?_ q
  clear q
  refine ct_C ?_ (ct_N)
  · intro l st h q
    obtain ⟨m0, q1⟩ := tkC_of q
    obtain ⟨x1, m1, q2⟩ := tkI_of q1
    obtain ⟨x2, m2, q3⟩ := tkI_of q2
    obtain ⟨x3, m3, q4⟩ := tkI_of q3
    obtain ⟨rfl, q5⟩ := skE_of q4
    exact WK_less (k32 _ _ _ _ _ q5) (List.forall_mem_cons.mpr ⟨m0, (List.forall_mem_cons.mpr ⟨m1, (List.forall_mem_cons.mpr ⟨m2, (List.forall_mem_cons.mpr ⟨m3, (fun _ h => absurd h List.not_mem_nil)⟩)⟩)⟩)⟩)
def nX12_sorts_4 : Nat → Int → Int → Int → HH → Option (Int × HH) := iter (fun _ _ _ _ => none) (fun self => bX12_sorts_4 (nX12_sorts_32 self))
theorem nX12_sorts_4_s {F : Nat} : nX12_sorts_4 (F + 1) = bX12_sorts_4 (nX12_sorts_32 (nX12_sorts_4 F)) := rfl
theorem wX12_sorts_4 {g : SG} (hg : GOK g) {σ0 : SG} : ∀ {F : Nat}, ∀ {x1 : Int} {x2 : Int} {x3 : Int} {h : HH} {b : (Int × HH)}, nX12_sorts_4 F x1 x2 x3 h = some b → WK 222 (.inl (some (aI b.1))) σ0 (abH 71 119 g b.2) 4 [(0, aR 71), (1, aI x1), (2, aI x2), (3, aI x3)] [] (abH 71 119 g h) 0 0 := by
  intro F
  have z : ∀ (x1 : Int) (x2 : Int) (x3 : Int) (h : HH) (b : (Int × HH)), nX12_sorts_4 F x1 x2 x3 h = some b → WK 222 (.inl (some (aI b.1))) σ0 (abH 71 119 g b.2) 4 [(0, aR 71), (1, aI x1), (2, aI x2), (3, aI x3)] [] (abH 71 119 g h) 0 0 := iter_ind (P := fun (c : Int → Int → Int → HH → Option (Int × HH)) => ∀ (x1 : Int) (x2 : Int) (x3 : Int) (h : HH) (b : (Int × HH)), c x1 x2 x3 h = some b → WK 222 (.inl (some (aI b.1))) σ0 (abH 71 119 g b.2) 4 [(0, aR 71), (1, aI x1), (2, aI x2), (3, aI x3)] [] (abH 71 119 g h) 0 0) (by
    intro x1 x2 x3 h b q
    cases q) (fun self ih => by
    intro x1 x2 x3 h b q
    exact uX12_sorts_4 hg (fun _ _ _ _ _ q => wX12_sorts_32 hg ih q) q) F
  intro x1 x2 x3 h b q
  exact z _ _ _ _ _ q
def bX12_sorts (c4 : Int → Int → Int → HH → Option (Int × HH)) (x1 : Int) (h : HH) : Option (Int × HH) :=
  c4 x1 0 0 h
theorem uX12_sorts {g : SG} (hg : GOK g) {σ0 : SG} {c4 : Int → Int → Int → HH → Option (Int × HH)} (k4 : ∀ (x1 : Int) (x2 : Int) (x3 : Int) (h : HH) (b : (Int × HH)), c4 x1 x2 x3 h = some b → WK 222 (.inl (some (aI b.1))) σ0 (abH 71 119 g b.2) 4 [(0, aR 71), (1, aI x1), (2, aI x2), (3, aI x3)] [] (abH 71 119 g h) 0 0) : ∀ {x1 : Int} {h : HH} {b : (Int × HH)}, bX12_sorts c4 x1 h = some b → WK 222 (.inl (some (aI b.1))) σ0 (abH 71 119 g b.2) 0 [(0, aR 71), (1, aI x1)] [] (abH 71 119 g h) 0 0 := by
  intro x1 h b q
  have e : bX12_sorts c4 x1 h = segW 71 119 g.2.2.2.2 krWI clN csX12_sorts (cuC 4 (fun l st s => tkC 0 71 l <| tkI 1 l fun x1 => tkI 2 l fun x2 => tkI 3 l fun x3 => skE st (c4 x1 x2 x3 s)) cuN) 1000 0 [(0, aR 71), (1, aI x1)] [] h := rfl
  rw [e] at q
  clear e
  refine segW_wk (by decide) (by decide) hg rwX12_sorts CLKW_N krWI_ok ?_ q
  clear q
  refine ct_C ?_ (ct_N)
  · intro l st h q
    obtain ⟨m0, q1⟩ := tkC_of q
    obtain ⟨x1, m1, q2⟩ := tkI_of q1
    obtain ⟨x2, m2, q3⟩ := tkI_of q2
    obtain ⟨x3, m3, q4⟩ := tkI_of q3
    obtain ⟨rfl, q5⟩ := skE_of q4
    exact WK_less (k4 _ _ _ _ _ q5) (List.forall_mem_cons.mpr ⟨m0, (List.forall_mem_cons.mpr ⟨m1, (List.forall_mem_cons.mpr ⟨m2, (List.forall_mem_cons.mpr ⟨m3, (fun _ h => absurd h List.not_mem_nil)⟩)⟩)⟩)⟩)
def nX12_sorts (x1 : Int) (h : HH) : Option (Int × HH) := bX12_sorts (nX12_sorts_4 100000) x1 h
theorem wX12_sorts {g : SG} (hg : GOK g) {σ0 : SG} : ∀ {x1 : Int} {h : HH} {b : (Int × HH)}, nX12_sorts x1 h = some b → WK 222 (.inl (some (aI b.1))) σ0 (abH 71 119 g b.2) 0 [(0, aR 71), (1, aI x1)] [] (abH 71 119 g h) 0 0 := by
  intro x1 h b q
  exact uX12_sorts hg (fun _ _ _ _ _ q => wX12_sorts_4 hg q) q
theorem mX12_sorts {g : SG} (hg : GOK g) {h : HH} {x1 : Int} {b : (Int × HH)} (q : nX12_sorts x1 h = some b) : MCT 222 [] [aR 71, aI x1] (abH 71 119 g h) (.inl (some (aI b.1))) (abH 71 119 g b.2) :=
  mct_of (by decide) (MFok 222 (by decide +kernel)) (fun _ => Nat.le_of_ble_eq_true rfl) (wX12_sorts hg q)
def pX12_sorts {β : Type} (z : Int → HH → Option (Int × HH)) : PW β := fun as h f => skC 71 as fun as => skI as fun x1 as => skE as (bnd (z x1 h) fun r => f (.inl (some (aI r.1))) r.2)
theorem pX12_sorts_ok {β : Type} {g : SG} (hg : GOK g) : CW1 (β := β) 222 (pX12_sorts nX12_sorts) 71 119 g := fun as h f b q => by
  obtain ⟨as, rfl, q1⟩ := skC_of q
  obtain ⟨x1, as, rfl, q2⟩ := skI_of q1
  obtain ⟨rfl, q0⟩ := skE_of q2
  obtain ⟨r, z1, z2⟩ := bnd_of q0
  exact ⟨_, _, z2, by decide, mX12_sorts hg z1, rfl, rfl, fun z => absurd z (by decide)⟩
def csX12_exact : List (Nat × List (Nat × ARow)) := [(40, [(0, 1, .aload_n 0, 0, 0, 0), (1, 1, .iload_n 1, 0, 0, 0), (2, 3, .invokevirtual 260, 176, 2, 12), (5, 3, .ifCond .ne 9, 14, 0, 0), (8, 1, .aload_n 0, 0, 0, 0), (9, 1, .iconst 1, 0, 0, 0), (10, 3, .invokevirtual 200, 177, 2, 12), (13, 1, .ireturn, 0, 0, 0), (14, 1, .aload_n 0, 0, 0, 0), (15, 1, .iload_n 1, 0, 0, 0), (16, 1, .aload_n 0, 0, 0, 0), (17, 1, .iload_n 1, 0, 0, 0), (18, 3, .invokevirtual 334, 222, 2, 12), (21, 3, .invokevirtual 337, 221, 3, 12), (24, 1, .istore_n 2, 0, 0, 0), (25, 1, .aload_n 0, 0, 0, 0), (26, 3, .invokevirtual 270, 200, 1, 12), (29, 1, .aload_n 0, 0, 0, 0), (30, 3, .invokevirtual 331, 210, 1, 12), (33, 1, .aload_n 0, 0, 0, 0), (34, 1, .iload_n 1, 0, 0, 0), (35, 3, .invokevirtual 257, 194, 2, 12), (38, 1, .aload_n 0, 0, 0, 0), (39, 1, .iload_n 2, 0, 0, 0)]),
  (100000, [(40, 3, .invokevirtual 209, 178, 2, 12), (43, 1, .ireturn, 0, 0, 0)])]
theorem rwX12_exact : rowsB (mB 223) (mO 223) (mX 223) (mIni 223) (mFr 223) (mLo 223) (mT 223) csX12_exact = true := by decide +kernel
def bX12_exact (f176 : HH → Int → Option Int) (f222 : Int → HH → Option (Int × HH)) (f221 : Int → Int → HH → Option (Int × HH)) (f200 : HH → Option HH) (f210 : HH → Option HH) (f194 : Int → HH → Option HH) (f178 : Int → HH → Option (Int × HH)) (f177 : Int → HH → Option (Int × HH)) (x1 : Int) (h : HH) : Option (Int × HH) :=
  bnd (f176 h x1) fun r1 =>
    if r1 = (0 : Int) then
    bnd (f177 1 h) fun r8 =>
    some (r8.1, r8.2)
  else
    bnd (f222 x1 h) fun r2 =>
    bnd (f221 x1 r2.1 r2.2) fun r3 =>
    bnd (f200 r3.2) fun r4 =>
    bnd (f210 r4) fun r5 =>
    bnd (f194 x1 r5) fun r6 =>
    bnd (f178 r3.1 r6) fun r7 =>
    some (r7.1, r7.2)
theorem uX12_exact {g : SG} (hg : GOK g) {σ0 : SG} : ∀ {x1 : Int} {h : HH} {b : (Int × HH)}, bX12_exact nX12_isVan nX12_sorts nX12_exactOf nX12_keeps nX12_loadsBest nX12_lays nX12_told nX12_refuse x1 h = some b → WK 223 (.inl (some (aI b.1))) σ0 (abH 71 119 g b.2) 0 [(0, aR 71), (1, aI x1)] [] (abH 71 119 g h) 0 0 := by
  intro x1 h b q
  have e : ∀ (f176 : HH → Int → Option Int) (f222 : Int → HH → Option (Int × HH)) (f221 : Int → Int → HH → Option (Int × HH)) (f200 : HH → Option HH) (f210 : HH → Option HH) (f194 : Int → HH → Option HH) (f178 : Int → HH → Option (Int × HH)) (f177 : Int → HH → Option (Int × HH)) , bX12_exact f176 f222 f221 f200 f210 f194 f178 f177 x1 h = segW 71 119 g.2.2.2.2 krWI (clC 176 (liPW (pX12_isVan f176)) (clC 222 (pX12_sorts f222) (clC 221 (pX12_exactOf f221) (clC 200 (pX12_keeps f200) (clC 210 (pX12_loadsBest f210) (clC 194 (pX12_lays f194) (clC 178 (pX12_told f178) (clC 177 (pX12_refuse f177) clN)))))))) csX12_exact cuN 1000 0 [(0, aR 71), (1, aI x1)] [] h := fun _ _ _ _ _ _ _ _ => rfl
  rw [e nX12_isVan nX12_sorts nX12_exactOf nX12_keeps nX12_loadsBest nX12_lays nX12_told nX12_refuse] at q
  clear e
  refine segW_wk (by decide) (by decide) hg rwX12_exact (CLKW_C (liPW_ok (pX12_isVan_ok hg)) (CLKW_C (pX12_sorts_ok hg) (CLKW_C (pX12_exactOf_ok hg) (CLKW_C (pX12_keeps_ok hg) (CLKW_C (pX12_loadsBest_ok hg) (CLKW_C (pX12_lays_ok hg) (CLKW_C (pX12_told_ok hg) (CLKW_C (pX12_refuse_ok hg) CLKW_N)))))))) krWI_ok ?_ q
  clear q
  exact ct_N
def nX12_exact (x1 : Int) (h : HH) : Option (Int × HH) := bX12_exact nX12_isVan nX12_sorts nX12_exactOf nX12_keeps nX12_loadsBest nX12_lays nX12_told nX12_refuse x1 h
theorem wX12_exact {g : SG} (hg : GOK g) {σ0 : SG} : ∀ {x1 : Int} {h : HH} {b : (Int × HH)}, nX12_exact x1 h = some b → WK 223 (.inl (some (aI b.1))) σ0 (abH 71 119 g b.2) 0 [(0, aR 71), (1, aI x1)] [] (abH 71 119 g h) 0 0 := by
  intro x1 h b q
  exact uX12_exact hg q
theorem mX12_exact {g : SG} (hg : GOK g) {h : HH} {x1 : Int} {b : (Int × HH)} (q : nX12_exact x1 h = some b) : MCT 223 [] [aR 71, aI x1] (abH 71 119 g h) (.inl (some (aI b.1))) (abH 71 119 g b.2) :=
  mct_of (by decide) (MFok 223 (by decide +kernel)) (fun _ => Nat.le_of_ble_eq_true rfl) (wX12_exact hg q)
def pX12_exact {β : Type} (z : Int → HH → Option (Int × HH)) : PW β := fun as h f => skC 71 as fun as => skI as fun x1 as => skE as (bnd (z x1 h) fun r => f (.inl (some (aI r.1))) r.2)
theorem pX12_exact_ok {β : Type} {g : SG} (hg : GOK g) : CW1 (β := β) 223 (pX12_exact nX12_exact) 71 119 g := fun as h f b q => by
  obtain ⟨as, rfl, q1⟩ := skC_of q
  obtain ⟨x1, as, rfl, q2⟩ := skI_of q1
  obtain ⟨rfl, q0⟩ := skE_of q2
  obtain ⟨r, z1, z2⟩ := bnd_of q0
  exact ⟨_, _, z2, by decide, mX12_exact hg z1, rfl, rfl, fun z => absurd z (by decide)⟩
def csX12_roundAt : List (Nat × List (Nat × ARow)) := [(38, [(0, 1, .aload_n 0, 0, 0, 0), (1, 1, .iload_n 1, 0, 0, 0), (2, 3, .invokevirtual 260, 176, 2, 12), (5, 3, .ifCond .ne 9, 14, 0, 0), (8, 1, .aload_n 0, 0, 0, 0), (9, 1, .iconst 1, 0, 0, 0), (10, 3, .invokevirtual 200, 177, 2, 12), (13, 1, .ireturn, 0, 0, 0), (14, 1, .iload_n 2, 0, 0, 0), (15, 1, .iconst (-1), 0, 0, 0), (16, 3, .if_icmp .ne 14, 30, 0, 0), (19, 1, .aload_n 0, 0, 0, 0), (20, 1, .aload_n 0, 0, 0, 0), (21, 3, .getfield 79, 12, 26, 2), (24, 1, .iload_n 1, 0, 0, 0), (25, 1, .iaload, 0, 0, 0), (26, 3, .invokevirtual 209, 178, 2, 12), (29, 1, .ireturn, 0, 0, 0), (30, 1, .iload_n 2, 0, 0, 0), (31, 1, .iconst 0, 0, 0, 0), (32, 1, .aload_n 0, 0, 0, 0), (33, 3, .getfield 79, 12, 26, 2), (36, 1, .iload_n 1, 0, 0, 0), (37, 1, .iaload, 0, 0, 0)]),
  (100000, [(38, 1, .iconst 1, 0, 0, 0), (39, 1, .isub, 0, 0, 0), (40, 3, .invokestatic 178, 171, 3, 0), (43, 3, .ifCond .eq 21, 64, 0, 0), (46, 1, .aload_n 0, 0, 0, 0), (47, 1, .aload_n 0, 0, 0, 0), (48, 3, .getfield 76, 12, 25, 2), (51, 2, .bipush 9, 0, 0, 0), (53, 1, .iload_n 1, 0, 0, 0), (54, 1, .imul, 0, 0, 0), (55, 1, .iload_n 2, 0, 0, 0), (56, 1, .iadd, 0, 0, 0), (57, 1, .iaload, 0, 0, 0), (58, 3, .invokevirtual 209, 178, 2, 12), (61, 3, .goto 8, 69, 0, 0), (64, 1, .aload_n 0, 0, 0, 0), (65, 1, .iconst 2, 0, 0, 0), (66, 3, .invokevirtual 200, 177, 2, 12), (69, 1, .ireturn, 0, 0, 0)])]
theorem rwX12_roundAt : rowsB (mB 224) (mO 224) (mX 224) (mIni 224) (mFr 224) (mLo 224) (mT 224) csX12_roundAt = true := by decide +kernel
def bX12_roundAt (f176 : HH → Int → Option Int) (f171 : HH → Int → Int → Int → Option Int) (f177 : Int → HH → Option (Int × HH)) (f178 : Int → HH → Option (Int × HH)) (x1 : Int) (x2 : Int) (h : HH) : Option (Int × HH) :=
  bnd (f176 h x1) fun r1 =>
    if r1 = (0 : Int) then
    bnd (f177 1 h) fun r6 =>
    some (r6.1, r6.2)
  else
    if x2 = ((-1) : Int) then
    gd ((0 : Int) ≤ x1 ∧ x1 < (3 : Int)) <|
    bnd (f178 (h.1 95 x1) h) fun r5 =>
    some (r5.1, r5.2)
  else
    gd ((0 : Int) ≤ x1 ∧ x1 < (3 : Int)) <|
    gd (R32 ((h.1 95 x1) - 1)) <|
    bnd (f171 h x2 0 ((h.1 95 x1) - 1)) fun r2 =>
    if r2 = (0 : Int) then
    bnd (f177 2 h) fun r3 =>
    some (r3.1, r3.2)
  else
    gd (R32 (9 * x1)) <|
    gd (R32 ((9 * x1) + x2)) <|
    gd ((0 : Int) ≤ ((9 * x1) + x2) ∧ ((9 * x1) + x2) < (27 : Int)) <|
    bnd (f178 (h.1 94 ((9 * x1) + x2)) h) fun r4 =>
    some (r4.1, r4.2)
set_option maxRecDepth 100000 in
theorem uX12_roundAt {g : SG} (hg : GOK g) {σ0 : SG} : ∀ {x1 : Int} {x2 : Int} {h : HH} {b : (Int × HH)}, bX12_roundAt nX12_isVan nX12_in nX12_refuse nX12_told x1 x2 h = some b → WK 224 (.inl (some (aI b.1))) σ0 (abH 71 119 g b.2) 0 [(0, aR 71), (1, aI x1), (2, aI x2)] [] (abH 71 119 g h) 0 0 := by
  intro x1 x2 h b q
  have e : ∀ (f176 : HH → Int → Option Int) (f171 : HH → Int → Int → Int → Option Int) (f177 : Int → HH → Option (Int × HH)) (f178 : Int → HH → Option (Int × HH)) , bX12_roundAt f176 f171 f177 f178 x1 x2 h = segW 71 119 g.2.2.2.2 krWI (clC 176 (liPW (pX12_isVan f176)) (clC 171 (liPW (pX12_in f171)) (clC 177 (pX12_refuse f177) (clC 178 (pX12_told f178) clN)))) csX12_roundAt cuN 1000 0 [(0, aR 71), (1, aI x1), (2, aI x2)] [] h := fun _ _ _ _ => rfl
  rw [e nX12_isVan nX12_in nX12_refuse nX12_told] at q
  clear e
  refine segW_wk (by decide) (by decide) hg rwX12_roundAt (CLKW_C (liPW_ok (pX12_isVan_ok hg)) (CLKW_C (liPW_ok (pX12_in_ok hg)) (CLKW_C (pX12_refuse_ok hg) (CLKW_C (pX12_told_ok hg) CLKW_N)))) krWI_ok ?_ q
  clear q
  exact ct_N
def nX12_roundAt (x1 : Int) (x2 : Int) (h : HH) : Option (Int × HH) := bX12_roundAt nX12_isVan nX12_in nX12_refuse nX12_told x1 x2 h
theorem wX12_roundAt {g : SG} (hg : GOK g) {σ0 : SG} : ∀ {x1 : Int} {x2 : Int} {h : HH} {b : (Int × HH)}, nX12_roundAt x1 x2 h = some b → WK 224 (.inl (some (aI b.1))) σ0 (abH 71 119 g b.2) 0 [(0, aR 71), (1, aI x1), (2, aI x2)] [] (abH 71 119 g h) 0 0 := by
  intro x1 x2 h b q
  exact uX12_roundAt hg q
theorem mX12_roundAt {g : SG} (hg : GOK g) {h : HH} {x1 : Int} {x2 : Int} {b : (Int × HH)} (q : nX12_roundAt x1 x2 h = some b) : MCT 224 [] [aR 71, aI x1, aI x2] (abH 71 119 g h) (.inl (some (aI b.1))) (abH 71 119 g b.2) :=
  mct_of (by decide) (MFok 224 (by decide +kernel)) (fun _ => Nat.le_of_ble_eq_true rfl) (wX12_roundAt hg q)
def pX12_roundAt {β : Type} (z : Int → Int → HH → Option (Int × HH)) : PW β := fun as h f => skC 71 as fun as => skI as fun x1 as => skI as fun x2 as => skE as (bnd (z x1 x2 h) fun r => f (.inl (some (aI r.1))) r.2)
theorem pX12_roundAt_ok {β : Type} {g : SG} (hg : GOK g) : CW1 (β := β) 224 (pX12_roundAt nX12_roundAt) 71 119 g := fun as h f b q => by
  obtain ⟨as, rfl, q1⟩ := skC_of q
  obtain ⟨x1, as, rfl, q2⟩ := skI_of q1
  obtain ⟨x2, as, rfl, q3⟩ := skI_of q2
  obtain ⟨rfl, q0⟩ := skE_of q3
  obtain ⟨r, z1, z2⟩ := bnd_of q0
  exact ⟨_, _, z2, by decide, mX12_roundAt hg z1, rfl, rfl, fun z => absurd z (by decide)⟩
def csX12_weight : List (Nat × List (Nat × ARow)) := [(100000, [(0, 1, .aload_n 0, 0, 0, 0), (1, 1, .aload_n 0, 0, 0, 0), (2, 3, .getfield 154, 12, 68, 2), (5, 1, .iload_n 1, 0, 0, 0), (6, 1, .iaload, 0, 0, 0), (7, 1, .aload_n 0, 0, 0, 0), (8, 3, .getfield 154, 12, 68, 2), (11, 1, .iload_n 2, 0, 0, 0), (12, 1, .iaload, 0, 0, 0), (13, 3, .invokevirtual 244, 181, 3, 12), (16, 1, .aload_n 0, 0, 0, 0), (17, 1, .aload_n 0, 0, 0, 0), (18, 3, .getfield 154, 12, 68, 2), (21, 1, .iload_n 2, 0, 0, 0), (22, 1, .iaload, 0, 0, 0), (23, 1, .aload_n 0, 0, 0, 0), (24, 3, .getfield 154, 12, 68, 2), (27, 1, .iload_n 1, 0, 0, 0), (28, 1, .iaload, 0, 0, 0), (29, 3, .invokevirtual 244, 181, 3, 12), (32, 3, .invokestatic 212, 172, 2, 0), (35, 1, .ireturn, 0, 0, 0)])]
theorem rwX12_weight : rowsB (mB 225) (mO 225) (mX 225) (mIni 225) (mFr 225) (mLo 225) (mT 225) csX12_weight = true := by decide +kernel
def bX12_weight (f181 : HH → Int → Int → Option Int) (f172 : HH → Int → Int → Option Int) (h : HH) (x1 : Int) (x2 : Int) : Option Int :=
  gd ((0 : Int) ≤ x1 ∧ x1 < (10 : Int)) <|
    gd ((0 : Int) ≤ x2 ∧ x2 < (10 : Int)) <|
    bnd (f181 h (h.1 114 x1) (h.1 114 x2)) fun r1 =>
    gd ((0 : Int) ≤ x2 ∧ x2 < (10 : Int)) <|
    gd ((0 : Int) ≤ x1 ∧ x1 < (10 : Int)) <|
    bnd (f181 h (h.1 114 x2) (h.1 114 x1)) fun r2 =>
    bnd (f172 h r1 r2) fun r3 =>
    some r3
set_option maxRecDepth 100000 in
theorem uX12_weight {g : SG} (hg : GOK g) {σ0 : SG} {h : HH} : ∀ {x1 : Int} {x2 : Int} {b : Int}, bX12_weight nX12_d nX12_less h x1 x2 = some b → WK 225 (.inl (some (aI b))) σ0 (abH 71 119 g h) 0 [(0, aR 71), (1, aI x1), (2, aI x2)] [] (abH 71 119 g h) 0 0 := by
  intro x1 x2 b q
  have e : ∀ (f181 : HH → Int → Int → Option Int) (f172 : HH → Int → Int → Option Int) , bX12_weight f181 f172 h x1 x2 = segP 71 119 g.2.2.2.2 h krPI (clCP 181 (pX12_d f181 h) (clCP 172 (pX12_less f172 h) clNP)) csX12_weight cuN 1000 0 [(0, aR 71), (1, aI x1), (2, aI x2)] [] := fun _ _ => rfl
  rw [e nX12_d nX12_less] at q
  clear e
  refine segP_wk (by decide) (by decide) hg rwX12_weight (CLKP_C (pX12_d_ok hg) (CLKP_C (pX12_less_ok hg) CLKP_N)) krPI_ok ?_ q
  clear q
  exact ct_N
def nX12_weight (h : HH) (x1 : Int) (x2 : Int) : Option Int := bX12_weight nX12_d nX12_less h x1 x2
theorem wX12_weight {g : SG} (hg : GOK g) {σ0 : SG} {h : HH} : ∀ {x1 : Int} {x2 : Int} {b : Int}, nX12_weight h x1 x2 = some b → WK 225 (.inl (some (aI b))) σ0 (abH 71 119 g h) 0 [(0, aR 71), (1, aI x1), (2, aI x2)] [] (abH 71 119 g h) 0 0 := by
  intro x1 x2 b q
  exact uX12_weight hg q
theorem mX12_weight {g : SG} (hg : GOK g) {h : HH} {x1 : Int} {x2 : Int} {b : Int} (q : nX12_weight h x1 x2 = some b) : MCT 225 [] [aR 71, aI x1, aI x2] (abH 71 119 g h) (.inl (some (aI b))) (abH 71 119 g h) :=
  mct_of (by decide) (MFok 225 (by decide +kernel)) (fun _ => Nat.le_of_ble_eq_true rfl) (wX12_weight hg q)
def pX12_weight {β : Type} (z : HH → Int → Int → Option Int) : PP β := fun h as f => skC 71 as fun as => skI as fun x1 as => skI as fun x2 as => skE as (bnd (z h x1 x2) fun r => f (.inl (some (aI r))))
theorem pX12_weight_ok {β : Type} {g : SG} (hg : GOK g) : CP1 (β := β) 225 (pX12_weight nX12_weight) 71 119 g := fun h as f b q => by
  obtain ⟨as, rfl, q1⟩ := skC_of q
  obtain ⟨x1, as, rfl, q2⟩ := skI_of q1
  obtain ⟨x2, as, rfl, q3⟩ := skI_of q2
  obtain ⟨rfl, q0⟩ := skE_of q3
  obtain ⟨r, z1, z2⟩ := bnd_of q0
  exact ⟨_, z2, by decide, mX12_weight hg z1, rfl, rfl, fun z => absurd z (by decide)⟩
def csX12_laysDoors : List (Nat × List (Nat × ARow)) := [(37, [(0, 1, .aload_n 0, 0, 0, 0), (1, 1, .iconst 1, 0, 0, 0), (2, 3, .putfield 340, 12, 72, 0), (5, 1, .aload_n 0, 0, 0, 0), (6, 3, .getfield 154, 12, 68, 2), (9, 1, .iconst 0, 0, 0, 0), (10, 1, .iconst 0, 0, 0, 0), (11, 1, .iastore, 0, 0, 0), (12, 1, .iconst 1, 0, 0, 0), (13, 1, .istore_n 2, 0, 0, 0), (14, 1, .iload_n 2, 0, 0, 0), (15, 2, .bipush 16, 0, 0, 0), (17, 3, .if_icmp .ge 86, 103, 0, 0), (20, 1, .iconst 0, 0, 0, 0), (21, 1, .istore_n 3, 0, 0, 0), (22, 1, .iconst 0, 0, 0, 0), (23, 2, .istore 4, 0, 0, 0), (25, 2, .iload 4, 0, 0, 0), (27, 1, .aload_n 0, 0, 0, 0), (28, 3, .getfield 79, 12, 26, 2), (31, 1, .iload_n 1, 0, 0, 0), (32, 1, .iaload, 0, 0, 0), (33, 3, .if_icmp .ge 40, 73, 0, 0), (36, 1, .iload_n 3, 0, 0, 0)]),
  (81, [(37, 3, .ifCond .ne 24, 61, 0, 0), (40, 1, .aload_n 0, 0, 0, 0), (41, 3, .getfield 37, 12, 11, 2), (44, 1, .aload_n 0, 0, 0, 0), (45, 3, .getfield 76, 12, 25, 2), (48, 2, .bipush 9, 0, 0, 0), (50, 1, .iload_n 1, 0, 0, 0), (51, 1, .imul, 0, 0, 0), (52, 2, .iload 4, 0, 0, 0), (54, 1, .iadd, 0, 0, 0), (55, 1, .iaload, 0, 0, 0), (56, 1, .iaload, 0, 0, 0), (57, 1, .iload_n 2, 0, 0, 0), (58, 3, .if_icmp .ne 7, 65, 0, 0), (61, 1, .iconst 1, 0, 0, 0), (62, 3, .goto 4, 66, 0, 0), (65, 1, .iconst 0, 0, 0, 0), (66, 1, .istore_n 3, 0, 0, 0), (67, 3, .iinc 4 1, 0, 0, 0), (70, 3, .goto (-45), 25, 0, 0), (73, 1, .iload_n 3, 0, 0, 0), (74, 3, .ifCond .eq 23, 97, 0, 0), (77, 1, .aload_n 0, 0, 0, 0), (78, 3, .getfield 154, 12, 68, 2)]),
  (100000, [(81, 1, .aload_n 0, 0, 0, 0), (82, 3, .getfield 340, 12, 72, 0), (85, 1, .iload_n 2, 0, 0, 0), (86, 1, .iastore, 0, 0, 0), (87, 1, .aload_n 0, 0, 0, 0), (88, 1, .dup, 0, 0, 0), (89, 3, .getfield 340, 12, 72, 0), (92, 1, .iconst 1, 0, 0, 0), (93, 1, .iadd, 0, 0, 0), (94, 3, .putfield 340, 12, 72, 0), (97, 3, .iinc 2 1, 0, 0, 0), (100, 3, .goto (-86), 14, 0, 0), (103, 1, .return_, 0, 0, 0)])]
theorem rwX12_laysDoors : rowsB (mB 226) (mO 226) (mX 226) (mIni 226) (mFr 226) (mLo 226) (mT 226) csX12_laysDoors = true := by decide +kernel
def bX12_laysDoors_97 (c14 : Int → Int → HH → Option HH) (x1 : Int) (x2 : Int) (h : HH) : Option HH :=
  gd (R32 (x2 + 1)) <|
    c14 x1 (x2 + 1) h
theorem uX12_laysDoors_97 {g : SG} (hg : GOK g) {σ0 : SG} {c14 : Int → Int → HH → Option HH} (k14 : ∀ (x1 : Int) (x2 : Int) (h : HH) (b : HH), c14 x1 x2 h = some b → WK 226 (.inl none) σ0 (abH 71 119 g b) 14 [(0, aR 71), (1, aI x1), (2, aI x2)] [] (abH 71 119 g h) 0 0) : ∀ {x1 : Int} {x2 : Int} {h : HH} {b : HH}, bX12_laysDoors_97 c14 x1 x2 h = some b → WK 226 (.inl none) σ0 (abH 71 119 g b) 97 [(0, aR 71), (1, aI x1), (2, aI x2)] [] (abH 71 119 g h) 0 0 := by
  intro x1 x2 h b q
  have e : bX12_laysDoors_97 c14 x1 x2 h = segW 71 119 g.2.2.2.2 krWV clN csX12_laysDoors (cuC 14 (fun l st s => tkC 0 71 l <| tkI 1 l fun x1 => tkI 2 l fun x2 => skE st (c14 x1 x2 s)) cuN) 1000 97 [(0, aR 71), (1, aI x1), (2, aI x2)] [] h := rfl
  rw [e] at q
  clear e
  refine segW_wk (by decide) (by decide) hg rwX12_laysDoors CLKW_N krWV_ok ?_ q
  clear q
  refine ct_C ?_ (ct_N)
  · intro l st h q
    obtain ⟨m0, q1⟩ := tkC_of q
    obtain ⟨x1, m1, q2⟩ := tkI_of q1
    obtain ⟨x2, m2, q3⟩ := tkI_of q2
    obtain ⟨rfl, q4⟩ := skE_of q3
    exact WK_less (k14 _ _ _ _ q4) (List.forall_mem_cons.mpr ⟨m0, (List.forall_mem_cons.mpr ⟨m1, (List.forall_mem_cons.mpr ⟨m2, (fun _ h => absurd h List.not_mem_nil)⟩)⟩)⟩)
def nX12_laysDoors_97 (c14 : Int → Int → HH → Option HH) (x1 : Int) (x2 : Int) (h : HH) : Option HH := bX12_laysDoors_97 c14 x1 x2 h
theorem wX12_laysDoors_97 {g : SG} (hg : GOK g) {σ0 : SG} {c14 : Int → Int → HH → Option HH} (k14 : ∀ (x1 : Int) (x2 : Int) (h : HH) (b : HH), c14 x1 x2 h = some b → WK 226 (.inl none) σ0 (abH 71 119 g b) 14 [(0, aR 71), (1, aI x1), (2, aI x2)] [] (abH 71 119 g h) 0 0) : ∀ {x1 : Int} {x2 : Int} {h : HH} {b : HH}, nX12_laysDoors_97 c14 x1 x2 h = some b → WK 226 (.inl none) σ0 (abH 71 119 g b) 97 [(0, aR 71), (1, aI x1), (2, aI x2)] [] (abH 71 119 g h) 0 0 := by
  intro x1 x2 h b q
  exact uX12_laysDoors_97 hg k14 q
def bX12_laysDoors_66 (c25 : Int → Int → Int → Int → HH → Option HH) (x1 : Int) (x2 : Int) (x4 : Int) (y0 : Int) (h : HH) : Option HH :=
  gd (R32 (x4 + 1)) <|
    c25 x1 x2 y0 (x4 + 1) h
theorem uX12_laysDoors_66 {g : SG} (hg : GOK g) {σ0 : SG} {c25 : Int → Int → Int → Int → HH → Option HH} (k25 : ∀ (x1 : Int) (x2 : Int) (x3 : Int) (x4 : Int) (h : HH) (b : HH), c25 x1 x2 x3 x4 h = some b → WK 226 (.inl none) σ0 (abH 71 119 g b) 25 [(0, aR 71), (1, aI x1), (2, aI x2), (3, aI x3), (4, aI x4)] [] (abH 71 119 g h) 0 0) : ∀ {x1 : Int} {x2 : Int} {x4 : Int} {y0 : Int} {h : HH} {b : HH}, bX12_laysDoors_66 c25 x1 x2 x4 y0 h = some b → WK 226 (.inl none) σ0 (abH 71 119 g b) 66 [(0, aR 71), (1, aI x1), (2, aI x2), (4, aI x4)] [aI y0] (abH 71 119 g h) 0 0 := by
  intro x1 x2 x4 y0 h b q
  have e : bX12_laysDoors_66 c25 x1 x2 x4 y0 h = segW 71 119 g.2.2.2.2 krWV clN csX12_laysDoors (cuC 25 (fun l st s => tkC 0 71 l <| tkI 1 l fun x1 => tkI 2 l fun x2 => tkI 3 l fun x3 => tkI 4 l fun x4 => skE st (c25 x1 x2 x3 x4 s)) cuN) 1000 66 [(0, aR 71), (1, aI x1), (2, aI x2), (4, aI x4)] [aI y0] h := rfl
  rw [e] at q
  clear e
  refine segW_wk (by decide) (by decide) hg rwX12_laysDoors CLKW_N krWV_ok ?_ q
  clear q
  refine ct_C ?_ (ct_N)
  · intro l st h q
    obtain ⟨m0, q1⟩ := tkC_of q
    obtain ⟨x1, m1, q2⟩ := tkI_of q1
    obtain ⟨x2, m2, q3⟩ := tkI_of q2
    obtain ⟨x3, m3, q4⟩ := tkI_of q3
    obtain ⟨x4, m4, q5⟩ := tkI_of q4
    obtain ⟨rfl, q6⟩ := skE_of q5
    exact WK_less (k25 _ _ _ _ _ _ q6) (List.forall_mem_cons.mpr ⟨m0, (List.forall_mem_cons.mpr ⟨m1, (List.forall_mem_cons.mpr ⟨m2, (List.forall_mem_cons.mpr ⟨m3, (List.forall_mem_cons.mpr ⟨m4, (fun _ h => absurd h List.not_mem_nil)⟩)⟩)⟩)⟩)⟩)
def nX12_laysDoors_66 (c14 : Int → Int → HH → Option HH) (c25 : Int → Int → Int → Int → HH → Option HH) (x1 : Int) (x2 : Int) (x4 : Int) (y0 : Int) (h : HH) : Option HH := bX12_laysDoors_66 c25 x1 x2 x4 y0 h
theorem wX12_laysDoors_66 {g : SG} (hg : GOK g) {σ0 : SG} {c14 : Int → Int → HH → Option HH} {c25 : Int → Int → Int → Int → HH → Option HH} (k14 : ∀ (x1 : Int) (x2 : Int) (h : HH) (b : HH), c14 x1 x2 h = some b → WK 226 (.inl none) σ0 (abH 71 119 g b) 14 [(0, aR 71), (1, aI x1), (2, aI x2)] [] (abH 71 119 g h) 0 0) (k25 : ∀ (x1 : Int) (x2 : Int) (x3 : Int) (x4 : Int) (h : HH) (b : HH), c25 x1 x2 x3 x4 h = some b → WK 226 (.inl none) σ0 (abH 71 119 g b) 25 [(0, aR 71), (1, aI x1), (2, aI x2), (3, aI x3), (4, aI x4)] [] (abH 71 119 g h) 0 0) : ∀ {x1 : Int} {x2 : Int} {x4 : Int} {y0 : Int} {h : HH} {b : HH}, nX12_laysDoors_66 c14 c25 x1 x2 x4 y0 h = some b → WK 226 (.inl none) σ0 (abH 71 119 g b) 66 [(0, aR 71), (1, aI x1), (2, aI x2), (4, aI x4)] [aI y0] (abH 71 119 g h) 0 0 := by
  intro x1 x2 x4 y0 h b q
  exact uX12_laysDoors_66 hg k25 q
def bX12_laysDoors_61 (c66 : Int → Int → Int → Int → HH → Option HH) (x1 : Int) (x2 : Int) (x4 : Int) (h : HH) : Option HH :=
  c66 x1 x2 x4 1 h
theorem uX12_laysDoors_61 {g : SG} (hg : GOK g) {σ0 : SG} {c66 : Int → Int → Int → Int → HH → Option HH} (k66 : ∀ (x1 : Int) (x2 : Int) (x4 : Int) (y0 : Int) (h : HH) (b : HH), c66 x1 x2 x4 y0 h = some b → WK 226 (.inl none) σ0 (abH 71 119 g b) 66 [(0, aR 71), (1, aI x1), (2, aI x2), (4, aI x4)] [aI y0] (abH 71 119 g h) 0 0) : ∀ {x1 : Int} {x2 : Int} {x4 : Int} {h : HH} {b : HH}, bX12_laysDoors_61 c66 x1 x2 x4 h = some b → WK 226 (.inl none) σ0 (abH 71 119 g b) 61 [(0, aR 71), (1, aI x1), (2, aI x2), (4, aI x4)] [] (abH 71 119 g h) 0 0 := by
  intro x1 x2 x4 h b q
  have e : bX12_laysDoors_61 c66 x1 x2 x4 h = segW 71 119 g.2.2.2.2 krWV clN csX12_laysDoors (cuC 66 (fun l st s => tkC 0 71 l <| tkI 1 l fun x1 => tkI 2 l fun x2 => tkI 4 l fun x4 => skI st fun y0 st => skE st (c66 x1 x2 x4 y0 s)) cuN) 1000 61 [(0, aR 71), (1, aI x1), (2, aI x2), (4, aI x4)] [] h := rfl
  rw [e] at q
  clear e
  refine segW_wk (by decide) (by decide) hg rwX12_laysDoors CLKW_N krWV_ok ?_ q
  clear q
  refine ct_C ?_ (ct_N)
  · intro l st h q
    obtain ⟨m0, q1⟩ := tkC_of q
    obtain ⟨x1, m1, q2⟩ := tkI_of q1
    obtain ⟨x2, m2, q3⟩ := tkI_of q2
    obtain ⟨x4, m4, q4⟩ := tkI_of q3
    obtain ⟨y0, t0, rfl, q5⟩ := skI_of q4
    obtain ⟨rfl, q6⟩ := skE_of q5
    exact WK_less (k66 _ _ _ _ _ _ q6) (List.forall_mem_cons.mpr ⟨m0, (List.forall_mem_cons.mpr ⟨m1, (List.forall_mem_cons.mpr ⟨m2, (List.forall_mem_cons.mpr ⟨m4, (fun _ h => absurd h List.not_mem_nil)⟩)⟩)⟩)⟩)
def nX12_laysDoors_61 (c14 : Int → Int → HH → Option HH) (c25 : Int → Int → Int → Int → HH → Option HH) (x1 : Int) (x2 : Int) (x4 : Int) (h : HH) : Option HH := bX12_laysDoors_61 (nX12_laysDoors_66 c14 c25) x1 x2 x4 h
theorem wX12_laysDoors_61 {g : SG} (hg : GOK g) {σ0 : SG} {c14 : Int → Int → HH → Option HH} {c25 : Int → Int → Int → Int → HH → Option HH} (k14 : ∀ (x1 : Int) (x2 : Int) (h : HH) (b : HH), c14 x1 x2 h = some b → WK 226 (.inl none) σ0 (abH 71 119 g b) 14 [(0, aR 71), (1, aI x1), (2, aI x2)] [] (abH 71 119 g h) 0 0) (k25 : ∀ (x1 : Int) (x2 : Int) (x3 : Int) (x4 : Int) (h : HH) (b : HH), c25 x1 x2 x3 x4 h = some b → WK 226 (.inl none) σ0 (abH 71 119 g b) 25 [(0, aR 71), (1, aI x1), (2, aI x2), (3, aI x3), (4, aI x4)] [] (abH 71 119 g h) 0 0) : ∀ {x1 : Int} {x2 : Int} {x4 : Int} {h : HH} {b : HH}, nX12_laysDoors_61 c14 c25 x1 x2 x4 h = some b → WK 226 (.inl none) σ0 (abH 71 119 g b) 61 [(0, aR 71), (1, aI x1), (2, aI x2), (4, aI x4)] [] (abH 71 119 g h) 0 0 := by
  intro x1 x2 x4 h b q
  exact uX12_laysDoors_61 hg (fun _ _ _ _ _ _ q => wX12_laysDoors_66 hg k14 k25 q) q
def bX12_laysDoors_25 (c61 : Int → Int → Int → HH → Option HH) (c66 : Int → Int → Int → Int → HH → Option HH) (c97 : Int → Int → HH → Option HH) (x1 : Int) (x2 : Int) (x3 : Int) (x4 : Int) (h : HH) : Option HH :=
  gd ((0 : Int) ≤ x1 ∧ x1 < (3 : Int)) <|
    if x4 < ((h.1 95 x1) : Int) then
    if x3 = (0 : Int) then
    gd (R32 (9 * x1)) <|
    gd (R32 ((9 * x1) + x4)) <|
    gd ((0 : Int) ≤ ((9 * x1) + x4) ∧ ((9 * x1) + x4) < (27 : Int)) <|
    gd ((0 : Int) ≤ (h.1 94 ((9 * x1) + x4)) ∧ (h.1 94 ((9 * x1) + x4)) < (9 : Int)) <|
    if (h.1 81 (h.1 94 ((9 * x1) + x4))) = (x2 : Int) then
    c61 x1 x2 x4 h
  else
    c66 x1 x2 x4 0 h
  else
    c61 x1 x2 x4 h
  else
    if x3 = (0 : Int) then
    c97 x1 x2 h
  else
    gd ((0 : Int) ≤ (h.1 71 72) ∧ (h.1 71 72) < (10 : Int)) <|
    bnd (some (hI h 114 (h.1 71 72) x2)) fun h1 =>
    gd (R32 ((h1.1 71 72) + 1)) <|
    bnd (some (hI h1 71 72 ((h1.1 71 72) + 1))) fun h2 =>
    c97 x1 x2 h2
set_option maxRecDepth 100000 in
theorem uX12_laysDoors_25 {g : SG} (hg : GOK g) {σ0 : SG} {c61 : Int → Int → Int → HH → Option HH} {c66 : Int → Int → Int → Int → HH → Option HH} {c97 : Int → Int → HH → Option HH} (k61 : ∀ (x1 : Int) (x2 : Int) (x4 : Int) (h : HH) (b : HH), c61 x1 x2 x4 h = some b → WK 226 (.inl none) σ0 (abH 71 119 g b) 61 [(0, aR 71), (1, aI x1), (2, aI x2), (4, aI x4)] [] (abH 71 119 g h) 0 0) (k66 : ∀ (x1 : Int) (x2 : Int) (x4 : Int) (y0 : Int) (h : HH) (b : HH), c66 x1 x2 x4 y0 h = some b → WK 226 (.inl none) σ0 (abH 71 119 g b) 66 [(0, aR 71), (1, aI x1), (2, aI x2), (4, aI x4)] [aI y0] (abH 71 119 g h) 0 0) (k97 : ∀ (x1 : Int) (x2 : Int) (h : HH) (b : HH), c97 x1 x2 h = some b → WK 226 (.inl none) σ0 (abH 71 119 g b) 97 [(0, aR 71), (1, aI x1), (2, aI x2)] [] (abH 71 119 g h) 0 0) : ∀ {x1 : Int} {x2 : Int} {x3 : Int} {x4 : Int} {h : HH} {b : HH}, bX12_laysDoors_25 c61 c66 c97 x1 x2 x3 x4 h = some b → WK 226 (.inl none) σ0 (abH 71 119 g b) 25 [(0, aR 71), (1, aI x1), (2, aI x2), (3, aI x3), (4, aI x4)] [] (abH 71 119 g h) 0 0 := by
  intro x1 x2 x3 x4 h b q
  have e : bX12_laysDoors_25 c61 c66 c97 x1 x2 x3 x4 h = segW 71 119 g.2.2.2.2 krWV clN csX12_laysDoors (cuC 61 (fun l st s => tkC 0 71 l <| tkI 1 l fun x1 => tkI 2 l fun x2 => tkI 4 l fun x4 => skE st (c61 x1 x2 x4 s)) (cuC 66 (fun l st s => tkC 0 71 l <| tkI 1 l fun x1 => tkI 2 l fun x2 => tkI 4 l fun x4 => skI st fun y0 st => skE st (c66 x1 x2 x4 y0 s)) (cuC 97 (fun l st s => tkC 0 71 l <| tkI 1 l fun x1 => tkI 2 l fun x2 => skE st (c97 x1 x2 s)) cuN))) 1000 25 [(0, aR 71), (1, aI x1), (2, aI x2), (3, aI x3), (4, aI x4)] [] h := rfl
  rw [e] at q
  clear e
  refine segW_wk (by decide) (by decide) hg rwX12_laysDoors CLKW_N krWV_ok ?_ q
  clear q
  refine ct_C ?_ (ct_C ?_ (ct_C ?_ (ct_N)))
  · intro l st h q
    obtain ⟨m0, q1⟩ := tkC_of q
    obtain ⟨x1, m1, q2⟩ := tkI_of q1
    obtain ⟨x2, m2, q3⟩ := tkI_of q2
    obtain ⟨x4, m4, q4⟩ := tkI_of q3
    obtain ⟨rfl, q5⟩ := skE_of q4
    exact WK_less (k61 _ _ _ _ _ q5) (List.forall_mem_cons.mpr ⟨m0, (List.forall_mem_cons.mpr ⟨m1, (List.forall_mem_cons.mpr ⟨m2, (List.forall_mem_cons.mpr ⟨m4, (fun _ h => absurd h List.not_mem_nil)⟩)⟩)⟩)⟩)
  · intro l st h q
    obtain ⟨m0, q1⟩ := tkC_of q
    obtain ⟨x1, m1, q2⟩ := tkI_of q1
    obtain ⟨x2, m2, q3⟩ := tkI_of q2
    obtain ⟨x4, m4, q4⟩ := tkI_of q3
    obtain ⟨y0, t0, rfl, q5⟩ := skI_of q4
    obtain ⟨rfl, q6⟩ := skE_of q5
    exact WK_less (k66 _ _ _ _ _ _ q6) (List.forall_mem_cons.mpr ⟨m0, (List.forall_mem_cons.mpr ⟨m1, (List.forall_mem_cons.mpr ⟨m2, (List.forall_mem_cons.mpr ⟨m4, (fun _ h => absurd h List.not_mem_nil)⟩)⟩)⟩)⟩)
  · intro l st h q
    obtain ⟨m0, q1⟩ := tkC_of q
    obtain ⟨x1, m1, q2⟩ := tkI_of q1
    obtain ⟨x2, m2, q3⟩ := tkI_of q2
    obtain ⟨rfl, q4⟩ := skE_of q3
    exact WK_less (k97 _ _ _ _ q4) (List.forall_mem_cons.mpr ⟨m0, (List.forall_mem_cons.mpr ⟨m1, (List.forall_mem_cons.mpr ⟨m2, (fun _ h => absurd h List.not_mem_nil)⟩)⟩)⟩)
def nX12_laysDoors_25 (c14 : Int → Int → HH → Option HH) : Nat → Int → Int → Int → Int → HH → Option HH := iter (fun _ _ _ _ _ => none) (fun self => bX12_laysDoors_25 (nX12_laysDoors_61 c14 self) (nX12_laysDoors_66 c14 self) (nX12_laysDoors_97 c14))
theorem nX12_laysDoors_25_s {c14 : Int → Int → HH → Option HH} {F : Nat} : nX12_laysDoors_25 c14 (F + 1) = bX12_laysDoors_25 (nX12_laysDoors_61 c14 (nX12_laysDoors_25 c14 F)) (nX12_laysDoors_66 c14 (nX12_laysDoors_25 c14 F)) (nX12_laysDoors_97 c14) := rfl
theorem wX12_laysDoors_25 {g : SG} (hg : GOK g) {σ0 : SG} {c14 : Int → Int → HH → Option HH} (k14 : ∀ (x1 : Int) (x2 : Int) (h : HH) (b : HH), c14 x1 x2 h = some b → WK 226 (.inl none) σ0 (abH 71 119 g b) 14 [(0, aR 71), (1, aI x1), (2, aI x2)] [] (abH 71 119 g h) 0 0) : ∀ {F : Nat}, ∀ {x1 : Int} {x2 : Int} {x3 : Int} {x4 : Int} {h : HH} {b : HH}, nX12_laysDoors_25 c14 F x1 x2 x3 x4 h = some b → WK 226 (.inl none) σ0 (abH 71 119 g b) 25 [(0, aR 71), (1, aI x1), (2, aI x2), (3, aI x3), (4, aI x4)] [] (abH 71 119 g h) 0 0 := by
  intro F
  have z : ∀ (x1 : Int) (x2 : Int) (x3 : Int) (x4 : Int) (h : HH) (b : HH), nX12_laysDoors_25 c14 F x1 x2 x3 x4 h = some b → WK 226 (.inl none) σ0 (abH 71 119 g b) 25 [(0, aR 71), (1, aI x1), (2, aI x2), (3, aI x3), (4, aI x4)] [] (abH 71 119 g h) 0 0 := iter_ind (P := fun (c : Int → Int → Int → Int → HH → Option HH) => ∀ (x1 : Int) (x2 : Int) (x3 : Int) (x4 : Int) (h : HH) (b : HH), c x1 x2 x3 x4 h = some b → WK 226 (.inl none) σ0 (abH 71 119 g b) 25 [(0, aR 71), (1, aI x1), (2, aI x2), (3, aI x3), (4, aI x4)] [] (abH 71 119 g h) 0 0) (by
    intro x1 x2 x3 x4 h b q
    cases q) (fun self ih => by
    intro x1 x2 x3 x4 h b q
    exact uX12_laysDoors_25 hg (fun _ _ _ _ _ q => wX12_laysDoors_61 hg k14 ih q) (fun _ _ _ _ _ _ q => wX12_laysDoors_66 hg k14 ih q) (fun _ _ _ _ q => wX12_laysDoors_97 hg k14 q) q) F
  intro x1 x2 x3 x4 h b q
  exact z _ _ _ _ _ _ q
def bX12_laysDoors_14 (c25 : Int → Int → Int → Int → HH → Option HH) (x1 : Int) (x2 : Int) (h : HH) : Option HH :=
  if x2 < (16 : Int) then
    c25 x1 x2 0 0 h
  else
    some h
theorem uX12_laysDoors_14 {g : SG} (hg : GOK g) {σ0 : SG} {c25 : Int → Int → Int → Int → HH → Option HH} (k25 : ∀ (x1 : Int) (x2 : Int) (x3 : Int) (x4 : Int) (h : HH) (b : HH), c25 x1 x2 x3 x4 h = some b → WK 226 (.inl none) σ0 (abH 71 119 g b) 25 [(0, aR 71), (1, aI x1), (2, aI x2), (3, aI x3), (4, aI x4)] [] (abH 71 119 g h) 0 0) : ∀ {x1 : Int} {x2 : Int} {h : HH} {b : HH}, bX12_laysDoors_14 c25 x1 x2 h = some b → WK 226 (.inl none) σ0 (abH 71 119 g b) 14 [(0, aR 71), (1, aI x1), (2, aI x2)] [] (abH 71 119 g h) 0 0 := by
  intro x1 x2 h b q
  have e : bX12_laysDoors_14 c25 x1 x2 h = segW 71 119 g.2.2.2.2 krWV clN csX12_laysDoors (cuC 25 (fun l st s => tkC 0 71 l <| tkI 1 l fun x1 => tkI 2 l fun x2 => tkI 3 l fun x3 => tkI 4 l fun x4 => skE st (c25 x1 x2 x3 x4 s)) cuN) 1000 14 [(0, aR 71), (1, aI x1), (2, aI x2)] [] h := rfl
  rw [e] at q
  clear e
  refine segW_wk (by decide) (by decide) hg rwX12_laysDoors CLKW_N krWV_ok ?_ q
  clear q
  refine ct_C ?_ (ct_N)
  · intro l st h q
    obtain ⟨m0, q1⟩ := tkC_of q
    obtain ⟨x1, m1, q2⟩ := tkI_of q1
    obtain ⟨x2, m2, q3⟩ := tkI_of q2
    obtain ⟨x3, m3, q4⟩ := tkI_of q3
    obtain ⟨x4, m4, q5⟩ := tkI_of q4
    obtain ⟨rfl, q6⟩ := skE_of q5
    exact WK_less (k25 _ _ _ _ _ _ q6) (List.forall_mem_cons.mpr ⟨m0, (List.forall_mem_cons.mpr ⟨m1, (List.forall_mem_cons.mpr ⟨m2, (List.forall_mem_cons.mpr ⟨m3, (List.forall_mem_cons.mpr ⟨m4, (fun _ h => absurd h List.not_mem_nil)⟩)⟩)⟩)⟩)⟩)
def nX12_laysDoors_14 : Nat → Int → Int → HH → Option HH := iter (fun _ _ _ => none) (fun self => bX12_laysDoors_14 (nX12_laysDoors_25 self 100000))
theorem nX12_laysDoors_14_s {F : Nat} : nX12_laysDoors_14 (F + 1) = bX12_laysDoors_14 (nX12_laysDoors_25 (nX12_laysDoors_14 F) 100000) := rfl
theorem wX12_laysDoors_14 {g : SG} (hg : GOK g) {σ0 : SG} : ∀ {F : Nat}, ∀ {x1 : Int} {x2 : Int} {h : HH} {b : HH}, nX12_laysDoors_14 F x1 x2 h = some b → WK 226 (.inl none) σ0 (abH 71 119 g b) 14 [(0, aR 71), (1, aI x1), (2, aI x2)] [] (abH 71 119 g h) 0 0 := by
  intro F
  have z : ∀ (x1 : Int) (x2 : Int) (h : HH) (b : HH), nX12_laysDoors_14 F x1 x2 h = some b → WK 226 (.inl none) σ0 (abH 71 119 g b) 14 [(0, aR 71), (1, aI x1), (2, aI x2)] [] (abH 71 119 g h) 0 0 := iter_ind (P := fun (c : Int → Int → HH → Option HH) => ∀ (x1 : Int) (x2 : Int) (h : HH) (b : HH), c x1 x2 h = some b → WK 226 (.inl none) σ0 (abH 71 119 g b) 14 [(0, aR 71), (1, aI x1), (2, aI x2)] [] (abH 71 119 g h) 0 0) (by
    intro x1 x2 h b q
    cases q) (fun self ih => by
    intro x1 x2 h b q
    exact uX12_laysDoors_14 hg (fun _ _ _ _ _ _ q => wX12_laysDoors_25 hg ih q) q) F
  intro x1 x2 h b q
  exact z _ _ _ _ q
def bX12_laysDoors (c14 : Int → Int → HH → Option HH) (x1 : Int) (h : HH) : Option HH :=
  bnd (some (hI h 71 72 1)) fun h1 =>
    gd ((0 : Int) ≤ 0 ∧ 0 < (10 : Int)) <|
    bnd (some (hI h1 114 0 0)) fun h2 =>
    c14 x1 1 h2
theorem uX12_laysDoors {g : SG} (hg : GOK g) {σ0 : SG} {c14 : Int → Int → HH → Option HH} (k14 : ∀ (x1 : Int) (x2 : Int) (h : HH) (b : HH), c14 x1 x2 h = some b → WK 226 (.inl none) σ0 (abH 71 119 g b) 14 [(0, aR 71), (1, aI x1), (2, aI x2)] [] (abH 71 119 g h) 0 0) : ∀ {x1 : Int} {h : HH} {b : HH}, bX12_laysDoors c14 x1 h = some b → WK 226 (.inl none) σ0 (abH 71 119 g b) 0 [(0, aR 71), (1, aI x1)] [] (abH 71 119 g h) 0 0 := by
  intro x1 h b q
  have e : bX12_laysDoors c14 x1 h = segW 71 119 g.2.2.2.2 krWV clN csX12_laysDoors (cuC 14 (fun l st s => tkC 0 71 l <| tkI 1 l fun x1 => tkI 2 l fun x2 => skE st (c14 x1 x2 s)) cuN) 1000 0 [(0, aR 71), (1, aI x1)] [] h := rfl
  rw [e] at q
  clear e
  refine segW_wk (by decide) (by decide) hg rwX12_laysDoors CLKW_N krWV_ok ?_ q
  clear q
  refine ct_C ?_ (ct_N)
  · intro l st h q
    obtain ⟨m0, q1⟩ := tkC_of q
    obtain ⟨x1, m1, q2⟩ := tkI_of q1
    obtain ⟨x2, m2, q3⟩ := tkI_of q2
    obtain ⟨rfl, q4⟩ := skE_of q3
    exact WK_less (k14 _ _ _ _ q4) (List.forall_mem_cons.mpr ⟨m0, (List.forall_mem_cons.mpr ⟨m1, (List.forall_mem_cons.mpr ⟨m2, (fun _ h => absurd h List.not_mem_nil)⟩)⟩)⟩)
def nX12_laysDoors (x1 : Int) (h : HH) : Option HH := bX12_laysDoors (nX12_laysDoors_14 100000) x1 h
theorem wX12_laysDoors {g : SG} (hg : GOK g) {σ0 : SG} : ∀ {x1 : Int} {h : HH} {b : HH}, nX12_laysDoors x1 h = some b → WK 226 (.inl none) σ0 (abH 71 119 g b) 0 [(0, aR 71), (1, aI x1)] [] (abH 71 119 g h) 0 0 := by
  intro x1 h b q
  exact uX12_laysDoors hg (fun _ _ _ _ q => wX12_laysDoors_14 hg q) q
theorem mX12_laysDoors {g : SG} (hg : GOK g) {h : HH} {x1 : Int} {b : HH} (q : nX12_laysDoors x1 h = some b) : MCT 226 [] [aR 71, aI x1] (abH 71 119 g h) (.inl none) (abH 71 119 g b) :=
  mct_of (by decide) (MFok 226 (by decide +kernel)) (fun _ => Nat.le_of_ble_eq_true rfl) (wX12_laysDoors hg q)
def pX12_laysDoors {β : Type} (z : Int → HH → Option HH) : PW β := fun as h f => skC 71 as fun as => skI as fun x1 as => skE as (bnd (z x1 h) fun r => f (.inl none) r)
theorem pX12_laysDoors_ok {β : Type} {g : SG} (hg : GOK g) : CW1 (β := β) 226 (pX12_laysDoors nX12_laysDoors) 71 119 g := fun as h f b q => by
  obtain ⟨as, rfl, q1⟩ := skC_of q
  obtain ⟨x1, as, rfl, q2⟩ := skI_of q1
  obtain ⟨rfl, q0⟩ := skE_of q2
  obtain ⟨r, z1, z2⟩ := bnd_of q0
  exact ⟨_, _, z2, by decide, mX12_laysDoors hg z1, rfl, rfl, fun z => absurd z (by decide)⟩
def csX12_laysTree : List (Nat × List (Nat × ARow)) := [(40, [(0, 1, .aload_n 0, 0, 0, 0), (1, 1, .iload_n 1, 0, 0, 0), (2, 3, .invokevirtual 343, 226, 2, 12), (5, 1, .aload_n 0, 0, 0, 0), (6, 1, .iconst 0, 0, 0, 0), (7, 3, .putfield 346, 12, 73, 0), (10, 1, .iconst 0, 0, 0, 0), (11, 1, .istore_n 2, 0, 0, 0), (12, 1, .iload_n 2, 0, 0, 0), (13, 1, .aload_n 0, 0, 0, 0), (14, 3, .getfield 340, 12, 72, 0), (17, 3, .if_icmp .ge 23, 40, 0, 0), (20, 1, .aload_n 0, 0, 0, 0), (21, 3, .getfield 157, 12, 69, 2), (24, 1, .iload_n 2, 0, 0, 0), (25, 1, .iload_n 2, 0, 0, 0), (26, 1, .iastore, 0, 0, 0), (27, 1, .aload_n 0, 0, 0, 0), (28, 3, .getfield 160, 12, 70, 2), (31, 1, .iload_n 2, 0, 0, 0), (32, 1, .iconst 0, 0, 0, 0), (33, 1, .iastore, 0, 0, 0), (34, 3, .iinc 2 1, 0, 0, 0), (37, 3, .goto (-25), 12, 0, 0)]),
  (81, [(40, 1, .iconst 1, 0, 0, 0), (41, 1, .istore_n 2, 0, 0, 0), (42, 1, .iload_n 2, 0, 0, 0), (43, 1, .aload_n 0, 0, 0, 0), (44, 3, .getfield 340, 12, 72, 0), (47, 3, .if_icmp .ge 208, 255, 0, 0), (50, 1, .iconst (-1), 0, 0, 0), (51, 1, .istore_n 3, 0, 0, 0), (52, 1, .iconst (-1), 0, 0, 0), (53, 2, .istore 4, 0, 0, 0), (55, 1, .iconst 0, 0, 0, 0), (56, 2, .istore 5, 0, 0, 0), (58, 2, .iload 5, 0, 0, 0), (60, 1, .aload_n 0, 0, 0, 0), (61, 3, .getfield 340, 12, 72, 0), (64, 1, .aload_n 0, 0, 0, 0), (65, 3, .getfield 340, 12, 72, 0), (68, 1, .imul, 0, 0, 0), (69, 3, .if_icmp .ge 81, 150, 0, 0), (72, 2, .iload 5, 0, 0, 0), (74, 1, .aload_n 0, 0, 0, 0), (75, 3, .getfield 340, 12, 72, 0), (78, 1, .idiv, 0, 0, 0), (79, 2, .istore 6, 0, 0, 0)]),
  (127, [(81, 2, .iload 5, 0, 0, 0), (83, 1, .aload_n 0, 0, 0, 0), (84, 3, .getfield 340, 12, 72, 0), (87, 1, .irem, 0, 0, 0), (88, 2, .istore 7, 0, 0, 0), (90, 2, .iload 6, 0, 0, 0), (92, 2, .iload 7, 0, 0, 0), (94, 3, .if_icmp .ge 50, 144, 0, 0), (97, 1, .aload_n 0, 0, 0, 0), (98, 3, .getfield 157, 12, 69, 2), (101, 2, .iload 6, 0, 0, 0), (103, 1, .iaload, 0, 0, 0), (104, 1, .aload_n 0, 0, 0, 0), (105, 3, .getfield 157, 12, 69, 2), (108, 2, .iload 7, 0, 0, 0), (110, 1, .iaload, 0, 0, 0), (111, 3, .if_icmp .eq 33, 144, 0, 0), (114, 1, .iload_n 3, 0, 0, 0), (115, 1, .iconst (-1), 0, 0, 0), (116, 3, .if_icmp .eq 21, 137, 0, 0), (119, 1, .aload_n 0, 0, 0, 0), (120, 2, .iload 6, 0, 0, 0), (122, 2, .iload 7, 0, 0, 0), (124, 3, .invokevirtual 349, 225, 3, 12)]),
  (172, [(127, 1, .aload_n 0, 0, 0, 0), (128, 1, .iload_n 3, 0, 0, 0), (129, 2, .iload 4, 0, 0, 0), (131, 3, .invokevirtual 349, 225, 3, 12), (134, 3, .if_icmp .ge 10, 144, 0, 0), (137, 2, .iload 6, 0, 0, 0), (139, 1, .istore_n 3, 0, 0, 0), (140, 2, .iload 7, 0, 0, 0), (142, 2, .istore 4, 0, 0, 0), (144, 3, .iinc 5 1, 0, 0, 0), (147, 3, .goto (-89), 58, 0, 0), (150, 1, .aload_n 0, 0, 0, 0), (151, 1, .dup, 0, 0, 0), (152, 3, .getfield 346, 12, 73, 0), (155, 1, .aload_n 0, 0, 0, 0), (156, 1, .iload_n 3, 0, 0, 0), (157, 2, .iload 4, 0, 0, 0), (159, 3, .invokevirtual 349, 225, 3, 12), (162, 1, .iadd, 0, 0, 0), (163, 3, .putfield 346, 12, 73, 0), (166, 1, .aload_n 0, 0, 0, 0), (167, 3, .getfield 160, 12, 70, 2), (170, 1, .iload_n 3, 0, 0, 0), (171, 1, .dup2, 0, 0, 0)]),
  (209, [(172, 1, .iaload, 0, 0, 0), (173, 1, .iconst 1, 0, 0, 0), (174, 1, .iadd, 0, 0, 0), (175, 1, .iastore, 0, 0, 0), (176, 1, .aload_n 0, 0, 0, 0), (177, 3, .getfield 160, 12, 70, 2), (180, 2, .iload 4, 0, 0, 0), (182, 1, .dup2, 0, 0, 0), (183, 1, .iaload, 0, 0, 0), (184, 1, .iconst 1, 0, 0, 0), (185, 1, .iadd, 0, 0, 0), (186, 1, .iastore, 0, 0, 0), (187, 1, .aload_n 0, 0, 0, 0), (188, 3, .getfield 157, 12, 69, 2), (191, 2, .iload 4, 0, 0, 0), (193, 1, .iaload, 0, 0, 0), (194, 2, .istore 5, 0, 0, 0), (196, 1, .iconst 0, 0, 0, 0), (197, 2, .istore 6, 0, 0, 0), (199, 2, .iload 6, 0, 0, 0), (201, 1, .aload_n 0, 0, 0, 0), (202, 3, .getfield 340, 12, 72, 0), (205, 3, .if_icmp .ge 44, 249, 0, 0), (208, 1, .aload_n 0, 0, 0, 0)]),
  (100000, [(209, 3, .getfield 157, 12, 69, 2), (212, 2, .iload 6, 0, 0, 0), (214, 1, .aload_n 0, 0, 0, 0), (215, 3, .getfield 157, 12, 69, 2), (218, 2, .iload 6, 0, 0, 0), (220, 1, .iaload, 0, 0, 0), (221, 2, .iload 5, 0, 0, 0), (223, 3, .if_icmp .ne 12, 235, 0, 0), (226, 1, .aload_n 0, 0, 0, 0), (227, 3, .getfield 157, 12, 69, 2), (230, 1, .iload_n 3, 0, 0, 0), (231, 1, .iaload, 0, 0, 0), (232, 3, .goto 10, 242, 0, 0), (235, 1, .aload_n 0, 0, 0, 0), (236, 3, .getfield 157, 12, 69, 2), (239, 2, .iload 6, 0, 0, 0), (241, 1, .iaload, 0, 0, 0), (242, 1, .iastore, 0, 0, 0), (243, 3, .iinc 6 1, 0, 0, 0), (246, 3, .goto (-47), 199, 0, 0), (249, 3, .iinc 2 1, 0, 0, 0), (252, 3, .goto (-210), 42, 0, 0), (255, 1, .return_, 0, 0, 0)])]
theorem rwX12_laysTree : rowsB (mB 227) (mO 227) (mX 227) (mIni 227) (mFr 227) (mLo 227) (mT 227) csX12_laysTree = true := by decide +kernel
def bX12_laysTree_242 (c199 : Int → Int → Int → Int → HH → Option HH) (x2 : Int) (x3 : Int) (x5 : Int) (x6 : Int) (y0 : Int) (y1 : Int) (h : HH) : Option HH :=
  gd ((0 : Int) ≤ y1 ∧ y1 < (10 : Int)) <|
    bnd (some (hI h 115 y1 y0)) fun h1 =>
    gd (R32 (x6 + 1)) <|
    c199 x2 x3 x5 (x6 + 1) h1
theorem uX12_laysTree_242 {g : SG} (hg : GOK g) {σ0 : SG} {c199 : Int → Int → Int → Int → HH → Option HH} (k199 : ∀ (x2 : Int) (x3 : Int) (x5 : Int) (x6 : Int) (h : HH) (b : HH), c199 x2 x3 x5 x6 h = some b → WK 227 (.inl none) σ0 (abH 71 119 g b) 199 [(0, aR 71), (2, aI x2), (3, aI x3), (5, aI x5), (6, aI x6)] [] (abH 71 119 g h) 0 0) : ∀ {x2 : Int} {x3 : Int} {x5 : Int} {x6 : Int} {y0 : Int} {y1 : Int} {h : HH} {b : HH}, bX12_laysTree_242 c199 x2 x3 x5 x6 y0 y1 h = some b → WK 227 (.inl none) σ0 (abH 71 119 g b) 242 [(0, aR 71), (2, aI x2), (3, aI x3), (5, aI x5), (6, aI x6)] [aI y0, aI y1, aR 115] (abH 71 119 g h) 0 0 := by
  intro x2 x3 x5 x6 y0 y1 h b q
  have e : bX12_laysTree_242 c199 x2 x3 x5 x6 y0 y1 h = segW 71 119 g.2.2.2.2 krWV clN csX12_laysTree (cuC 199 (fun l st s => tkC 0 71 l <| tkI 2 l fun x2 => tkI 3 l fun x3 => tkI 5 l fun x5 => tkI 6 l fun x6 => skE st (c199 x2 x3 x5 x6 s)) cuN) 1000 242 [(0, aR 71), (2, aI x2), (3, aI x3), (5, aI x5), (6, aI x6)] [aI y0, aI y1, aR 115] h := rfl
  rw [e] at q
  clear e
  refine segW_wk (by decide) (by decide) hg rwX12_laysTree CLKW_N krWV_ok ?_ q
  clear q
  refine ct_C ?_ (ct_N)
  · intro l st h q
    obtain ⟨m0, q1⟩ := tkC_of q
    obtain ⟨x2, m2, q2⟩ := tkI_of q1
    obtain ⟨x3, m3, q3⟩ := tkI_of q2
    obtain ⟨x5, m5, q4⟩ := tkI_of q3
    obtain ⟨x6, m6, q5⟩ := tkI_of q4
    obtain ⟨rfl, q6⟩ := skE_of q5
    exact WK_less (k199 _ _ _ _ _ _ q6) (List.forall_mem_cons.mpr ⟨m0, (List.forall_mem_cons.mpr ⟨m2, (List.forall_mem_cons.mpr ⟨m3, (List.forall_mem_cons.mpr ⟨m5, (List.forall_mem_cons.mpr ⟨m6, (fun _ h => absurd h List.not_mem_nil)⟩)⟩)⟩)⟩)⟩)
def nX12_laysTree_242 (c42 : Int → HH → Option HH) (c199 : Int → Int → Int → Int → HH → Option HH) (x2 : Int) (x3 : Int) (x5 : Int) (x6 : Int) (y0 : Int) (y1 : Int) (h : HH) : Option HH := bX12_laysTree_242 c199 x2 x3 x5 x6 y0 y1 h
theorem wX12_laysTree_242 {g : SG} (hg : GOK g) {σ0 : SG} {c42 : Int → HH → Option HH} {c199 : Int → Int → Int → Int → HH → Option HH} (k42 : ∀ (x2 : Int) (h : HH) (b : HH), c42 x2 h = some b → WK 227 (.inl none) σ0 (abH 71 119 g b) 42 [(0, aR 71), (2, aI x2)] [] (abH 71 119 g h) 0 0) (k199 : ∀ (x2 : Int) (x3 : Int) (x5 : Int) (x6 : Int) (h : HH) (b : HH), c199 x2 x3 x5 x6 h = some b → WK 227 (.inl none) σ0 (abH 71 119 g b) 199 [(0, aR 71), (2, aI x2), (3, aI x3), (5, aI x5), (6, aI x6)] [] (abH 71 119 g h) 0 0) : ∀ {x2 : Int} {x3 : Int} {x5 : Int} {x6 : Int} {y0 : Int} {y1 : Int} {h : HH} {b : HH}, nX12_laysTree_242 c42 c199 x2 x3 x5 x6 y0 y1 h = some b → WK 227 (.inl none) σ0 (abH 71 119 g b) 242 [(0, aR 71), (2, aI x2), (3, aI x3), (5, aI x5), (6, aI x6)] [aI y0, aI y1, aR 115] (abH 71 119 g h) 0 0 := by
  intro x2 x3 x5 x6 y0 y1 h b q
  exact uX12_laysTree_242 hg k199 q
def bX12_laysTree_199 (c42 : Int → HH → Option HH) (c242 : Int → Int → Int → Int → Int → Int → HH → Option HH) (x2 : Int) (x3 : Int) (x5 : Int) (x6 : Int) (h : HH) : Option HH :=
  if x6 < ((h.1 71 72) : Int) then
    gd ((0 : Int) ≤ x6 ∧ x6 < (10 : Int)) <|
    if (h.1 115 x6) = (x5 : Int) then
    gd ((0 : Int) ≤ x3 ∧ x3 < (10 : Int)) <|
    c242 x2 x3 x5 x6 (h.1 115 x3) x6 h
  else
    gd ((0 : Int) ≤ x6 ∧ x6 < (10 : Int)) <|
    c242 x2 x3 x5 x6 (h.1 115 x6) x6 h
  else
    gd (R32 (x2 + 1)) <|
    c42 (x2 + 1) h
set_option maxRecDepth 100000 in
theorem uX12_laysTree_199 {g : SG} (hg : GOK g) {σ0 : SG} {c42 : Int → HH → Option HH} {c242 : Int → Int → Int → Int → Int → Int → HH → Option HH} (k42 : ∀ (x2 : Int) (h : HH) (b : HH), c42 x2 h = some b → WK 227 (.inl none) σ0 (abH 71 119 g b) 42 [(0, aR 71), (2, aI x2)] [] (abH 71 119 g h) 0 0) (k242 : ∀ (x2 : Int) (x3 : Int) (x5 : Int) (x6 : Int) (y0 : Int) (y1 : Int) (h : HH) (b : HH), c242 x2 x3 x5 x6 y0 y1 h = some b → WK 227 (.inl none) σ0 (abH 71 119 g b) 242 [(0, aR 71), (2, aI x2), (3, aI x3), (5, aI x5), (6, aI x6)] [aI y0, aI y1, aR 115] (abH 71 119 g h) 0 0) : ∀ {x2 : Int} {x3 : Int} {x5 : Int} {x6 : Int} {h : HH} {b : HH}, bX12_laysTree_199 c42 c242 x2 x3 x5 x6 h = some b → WK 227 (.inl none) σ0 (abH 71 119 g b) 199 [(0, aR 71), (2, aI x2), (3, aI x3), (5, aI x5), (6, aI x6)] [] (abH 71 119 g h) 0 0 := by
  intro x2 x3 x5 x6 h b q
  have e : bX12_laysTree_199 c42 c242 x2 x3 x5 x6 h = segW 71 119 g.2.2.2.2 krWV clN csX12_laysTree (cuC 42 (fun l st s => tkC 0 71 l <| tkI 2 l fun x2 => skE st (c42 x2 s)) (cuC 242 (fun l st s => tkC 0 71 l <| tkI 2 l fun x2 => tkI 3 l fun x3 => tkI 5 l fun x5 => tkI 6 l fun x6 => skI st fun y0 st => skI st fun y1 st => skC 115 st fun st => skE st (c242 x2 x3 x5 x6 y0 y1 s)) cuN)) 1000 199 [(0, aR 71), (2, aI x2), (3, aI x3), (5, aI x5), (6, aI x6)] [] h := rfl
  rw [e] at q
  clear e
  refine segW_wk (by decide) (by decide) hg rwX12_laysTree CLKW_N krWV_ok ?_ q
  clear q
  refine ct_C ?_ (ct_C ?_ (ct_N))
  · intro l st h q
    obtain ⟨m0, q1⟩ := tkC_of q
    obtain ⟨x2, m2, q2⟩ := tkI_of q1
    obtain ⟨rfl, q3⟩ := skE_of q2
    exact WK_less (k42 _ _ _ q3) (List.forall_mem_cons.mpr ⟨m0, (List.forall_mem_cons.mpr ⟨m2, (fun _ h => absurd h List.not_mem_nil)⟩)⟩)
  · intro l st h q
    obtain ⟨m0, q1⟩ := tkC_of q
    obtain ⟨x2, m2, q2⟩ := tkI_of q1
    obtain ⟨x3, m3, q3⟩ := tkI_of q2
    obtain ⟨x5, m5, q4⟩ := tkI_of q3
    obtain ⟨x6, m6, q5⟩ := tkI_of q4
    obtain ⟨y0, t0, rfl, q6⟩ := skI_of q5
    obtain ⟨y1, t1, rfl, q7⟩ := skI_of q6
    obtain ⟨t2, rfl, q8⟩ := skC_of q7
    obtain ⟨rfl, q9⟩ := skE_of q8
    exact WK_less (k242 _ _ _ _ _ _ _ _ q9) (List.forall_mem_cons.mpr ⟨m0, (List.forall_mem_cons.mpr ⟨m2, (List.forall_mem_cons.mpr ⟨m3, (List.forall_mem_cons.mpr ⟨m5, (List.forall_mem_cons.mpr ⟨m6, (fun _ h => absurd h List.not_mem_nil)⟩)⟩)⟩)⟩)⟩)
def nX12_laysTree_199 (c42 : Int → HH → Option HH) : Nat → Int → Int → Int → Int → HH → Option HH := iter (fun _ _ _ _ _ => none) (fun self => bX12_laysTree_199 c42 (nX12_laysTree_242 c42 self))
theorem nX12_laysTree_199_s {c42 : Int → HH → Option HH} {F : Nat} : nX12_laysTree_199 c42 (F + 1) = bX12_laysTree_199 c42 (nX12_laysTree_242 c42 (nX12_laysTree_199 c42 F)) := rfl
theorem wX12_laysTree_199 {g : SG} (hg : GOK g) {σ0 : SG} {c42 : Int → HH → Option HH} (k42 : ∀ (x2 : Int) (h : HH) (b : HH), c42 x2 h = some b → WK 227 (.inl none) σ0 (abH 71 119 g b) 42 [(0, aR 71), (2, aI x2)] [] (abH 71 119 g h) 0 0) : ∀ {F : Nat}, ∀ {x2 : Int} {x3 : Int} {x5 : Int} {x6 : Int} {h : HH} {b : HH}, nX12_laysTree_199 c42 F x2 x3 x5 x6 h = some b → WK 227 (.inl none) σ0 (abH 71 119 g b) 199 [(0, aR 71), (2, aI x2), (3, aI x3), (5, aI x5), (6, aI x6)] [] (abH 71 119 g h) 0 0 := by
  intro F
  have z : ∀ (x2 : Int) (x3 : Int) (x5 : Int) (x6 : Int) (h : HH) (b : HH), nX12_laysTree_199 c42 F x2 x3 x5 x6 h = some b → WK 227 (.inl none) σ0 (abH 71 119 g b) 199 [(0, aR 71), (2, aI x2), (3, aI x3), (5, aI x5), (6, aI x6)] [] (abH 71 119 g h) 0 0 := iter_ind (P := fun (c : Int → Int → Int → Int → HH → Option HH) => ∀ (x2 : Int) (x3 : Int) (x5 : Int) (x6 : Int) (h : HH) (b : HH), c x2 x3 x5 x6 h = some b → WK 227 (.inl none) σ0 (abH 71 119 g b) 199 [(0, aR 71), (2, aI x2), (3, aI x3), (5, aI x5), (6, aI x6)] [] (abH 71 119 g h) 0 0) (by
    intro x2 x3 x5 x6 h b q
    cases q) (fun self ih => by
    intro x2 x3 x5 x6 h b q
    exact uX12_laysTree_199 hg k42 (fun _ _ _ _ _ _ _ _ q => wX12_laysTree_242 hg k42 ih q) q) F
  intro x2 x3 x5 x6 h b q
  exact z _ _ _ _ _ _ q
def bX12_laysTree_144 (c58 : Int → Int → Int → Int → HH → Option HH) (x2 : Int) (x3 : Int) (x4 : Int) (x5 : Int) (h : HH) : Option HH :=
  gd (R32 (x5 + 1)) <|
    c58 x2 x3 x4 (x5 + 1) h
theorem uX12_laysTree_144 {g : SG} (hg : GOK g) {σ0 : SG} {c58 : Int → Int → Int → Int → HH → Option HH} (k58 : ∀ (x2 : Int) (x3 : Int) (x4 : Int) (x5 : Int) (h : HH) (b : HH), c58 x2 x3 x4 x5 h = some b → WK 227 (.inl none) σ0 (abH 71 119 g b) 58 [(0, aR 71), (2, aI x2), (3, aI x3), (4, aI x4), (5, aI x5)] [] (abH 71 119 g h) 0 0) : ∀ {x2 : Int} {x3 : Int} {x4 : Int} {x5 : Int} {h : HH} {b : HH}, bX12_laysTree_144 c58 x2 x3 x4 x5 h = some b → WK 227 (.inl none) σ0 (abH 71 119 g b) 144 [(0, aR 71), (2, aI x2), (3, aI x3), (4, aI x4), (5, aI x5)] [] (abH 71 119 g h) 0 0 := by
  intro x2 x3 x4 x5 h b q
  have e : bX12_laysTree_144 c58 x2 x3 x4 x5 h = segW 71 119 g.2.2.2.2 krWV clN csX12_laysTree (cuC 58 (fun l st s => tkC 0 71 l <| tkI 2 l fun x2 => tkI 3 l fun x3 => tkI 4 l fun x4 => tkI 5 l fun x5 => skE st (c58 x2 x3 x4 x5 s)) cuN) 1000 144 [(0, aR 71), (2, aI x2), (3, aI x3), (4, aI x4), (5, aI x5)] [] h := rfl
  rw [e] at q
  clear e
  refine segW_wk (by decide) (by decide) hg rwX12_laysTree CLKW_N krWV_ok ?_ q
  clear q
  refine ct_C ?_ (ct_N)
  · intro l st h q
    obtain ⟨m0, q1⟩ := tkC_of q
    obtain ⟨x2, m2, q2⟩ := tkI_of q1
    obtain ⟨x3, m3, q3⟩ := tkI_of q2
    obtain ⟨x4, m4, q4⟩ := tkI_of q3
    obtain ⟨x5, m5, q5⟩ := tkI_of q4
    obtain ⟨rfl, q6⟩ := skE_of q5
    exact WK_less (k58 _ _ _ _ _ _ q6) (List.forall_mem_cons.mpr ⟨m0, (List.forall_mem_cons.mpr ⟨m2, (List.forall_mem_cons.mpr ⟨m3, (List.forall_mem_cons.mpr ⟨m4, (List.forall_mem_cons.mpr ⟨m5, (fun _ h => absurd h List.not_mem_nil)⟩)⟩)⟩)⟩)⟩)
def nX12_laysTree_144 (c42 : Int → HH → Option HH) (c58 : Int → Int → Int → Int → HH → Option HH) (x2 : Int) (x3 : Int) (x4 : Int) (x5 : Int) (h : HH) : Option HH := bX12_laysTree_144 c58 x2 x3 x4 x5 h
theorem wX12_laysTree_144 {g : SG} (hg : GOK g) {σ0 : SG} {c42 : Int → HH → Option HH} {c58 : Int → Int → Int → Int → HH → Option HH} (k42 : ∀ (x2 : Int) (h : HH) (b : HH), c42 x2 h = some b → WK 227 (.inl none) σ0 (abH 71 119 g b) 42 [(0, aR 71), (2, aI x2)] [] (abH 71 119 g h) 0 0) (k58 : ∀ (x2 : Int) (x3 : Int) (x4 : Int) (x5 : Int) (h : HH) (b : HH), c58 x2 x3 x4 x5 h = some b → WK 227 (.inl none) σ0 (abH 71 119 g b) 58 [(0, aR 71), (2, aI x2), (3, aI x3), (4, aI x4), (5, aI x5)] [] (abH 71 119 g h) 0 0) : ∀ {x2 : Int} {x3 : Int} {x4 : Int} {x5 : Int} {h : HH} {b : HH}, nX12_laysTree_144 c42 c58 x2 x3 x4 x5 h = some b → WK 227 (.inl none) σ0 (abH 71 119 g b) 144 [(0, aR 71), (2, aI x2), (3, aI x3), (4, aI x4), (5, aI x5)] [] (abH 71 119 g h) 0 0 := by
  intro x2 x3 x4 x5 h b q
  exact uX12_laysTree_144 hg k58 q
def bX12_laysTree_137 (c144 : Int → Int → Int → Int → HH → Option HH) (x2 : Int) (x5 : Int) (x6 : Int) (x7 : Int) (h : HH) : Option HH :=
  c144 x2 x6 x7 x5 h
theorem uX12_laysTree_137 {g : SG} (hg : GOK g) {σ0 : SG} {c144 : Int → Int → Int → Int → HH → Option HH} (k144 : ∀ (x2 : Int) (x3 : Int) (x4 : Int) (x5 : Int) (h : HH) (b : HH), c144 x2 x3 x4 x5 h = some b → WK 227 (.inl none) σ0 (abH 71 119 g b) 144 [(0, aR 71), (2, aI x2), (3, aI x3), (4, aI x4), (5, aI x5)] [] (abH 71 119 g h) 0 0) : ∀ {x2 : Int} {x5 : Int} {x6 : Int} {x7 : Int} {h : HH} {b : HH}, bX12_laysTree_137 c144 x2 x5 x6 x7 h = some b → WK 227 (.inl none) σ0 (abH 71 119 g b) 137 [(0, aR 71), (2, aI x2), (5, aI x5), (6, aI x6), (7, aI x7)] [] (abH 71 119 g h) 0 0 := by
  intro x2 x5 x6 x7 h b q
  have e : bX12_laysTree_137 c144 x2 x5 x6 x7 h = segW 71 119 g.2.2.2.2 krWV clN csX12_laysTree (cuC 144 (fun l st s => tkC 0 71 l <| tkI 2 l fun x2 => tkI 3 l fun x3 => tkI 4 l fun x4 => tkI 5 l fun x5 => skE st (c144 x2 x3 x4 x5 s)) cuN) 1000 137 [(0, aR 71), (2, aI x2), (5, aI x5), (6, aI x6), (7, aI x7)] [] h := rfl
  rw [e] at q
  clear e
  refine segW_wk (by decide) (by decide) hg rwX12_laysTree CLKW_N krWV_ok ?_ q
  clear q
  refine ct_C ?_ (ct_N)
  · intro l st h q
    obtain ⟨m0, q1⟩ := tkC_of q
    obtain ⟨x2, m2, q2⟩ := tkI_of q1
    obtain ⟨x3, m3, q3⟩ := tkI_of q2
    obtain ⟨x4, m4, q4⟩ := tkI_of q3
    obtain ⟨x5, m5, q5⟩ := tkI_of q4
    obtain ⟨rfl, q6⟩ := skE_of q5
    exact WK_less (k144 _ _ _ _ _ _ q6) (List.forall_mem_cons.mpr ⟨m0, (List.forall_mem_cons.mpr ⟨m2, (List.forall_mem_cons.mpr ⟨m3, (List.forall_mem_cons.mpr ⟨m4, (List.forall_mem_cons.mpr ⟨m5, (fun _ h => absurd h List.not_mem_nil)⟩)⟩)⟩)⟩)⟩)
def nX12_laysTree_137 (c42 : Int → HH → Option HH) (c58 : Int → Int → Int → Int → HH → Option HH) (x2 : Int) (x5 : Int) (x6 : Int) (x7 : Int) (h : HH) : Option HH := bX12_laysTree_137 (nX12_laysTree_144 c42 c58) x2 x5 x6 x7 h
theorem wX12_laysTree_137 {g : SG} (hg : GOK g) {σ0 : SG} {c42 : Int → HH → Option HH} {c58 : Int → Int → Int → Int → HH → Option HH} (k42 : ∀ (x2 : Int) (h : HH) (b : HH), c42 x2 h = some b → WK 227 (.inl none) σ0 (abH 71 119 g b) 42 [(0, aR 71), (2, aI x2)] [] (abH 71 119 g h) 0 0) (k58 : ∀ (x2 : Int) (x3 : Int) (x4 : Int) (x5 : Int) (h : HH) (b : HH), c58 x2 x3 x4 x5 h = some b → WK 227 (.inl none) σ0 (abH 71 119 g b) 58 [(0, aR 71), (2, aI x2), (3, aI x3), (4, aI x4), (5, aI x5)] [] (abH 71 119 g h) 0 0) : ∀ {x2 : Int} {x5 : Int} {x6 : Int} {x7 : Int} {h : HH} {b : HH}, nX12_laysTree_137 c42 c58 x2 x5 x6 x7 h = some b → WK 227 (.inl none) σ0 (abH 71 119 g b) 137 [(0, aR 71), (2, aI x2), (5, aI x5), (6, aI x6), (7, aI x7)] [] (abH 71 119 g h) 0 0 := by
  intro x2 x5 x6 x7 h b q
  exact uX12_laysTree_137 hg (fun _ _ _ _ _ _ q => wX12_laysTree_144 hg k42 k58 q) q
def bX12_laysTree_72 (f225 : HH → Int → Int → Option Int) (c137 : Int → Int → Int → Int → HH → Option HH) (c144 : Int → Int → Int → Int → HH → Option HH) (x2 : Int) (x3 : Int) (x4 : Int) (x5 : Int) (h : HH) : Option HH :=
  gd ((0 : Int) ≤ x5 ∧ (0 : Int) < (h.1 71 72)) <|
    gd ((0 : Int) ≤ x5 ∧ (0 : Int) < (h.1 71 72)) <|
    if (x5 / (h.1 71 72)) < ((x5 % (h.1 71 72)) : Int) then
    gd ((0 : Int) ≤ (x5 / (h.1 71 72)) ∧ (x5 / (h.1 71 72)) < (10 : Int)) <|
    gd ((0 : Int) ≤ (x5 % (h.1 71 72)) ∧ (x5 % (h.1 71 72)) < (10 : Int)) <|
    if (h.1 115 (x5 / (h.1 71 72))) = ((h.1 115 (x5 % (h.1 71 72))) : Int) then
    c144 x2 x3 x4 x5 h
  else
    if x3 = ((-1) : Int) then
    c137 x2 x5 (x5 / (h.1 71 72)) (x5 % (h.1 71 72)) h
  else
    bnd (f225 h (x5 / (h.1 71 72)) (x5 % (h.1 71 72))) fun r1 =>
    bnd (f225 h x3 x4) fun r2 =>
    if r1 < (r2 : Int) then
    c137 x2 x5 (x5 / (h.1 71 72)) (x5 % (h.1 71 72)) h
  else
    c144 x2 x3 x4 x5 h
  else
    c144 x2 x3 x4 x5 h
set_option maxRecDepth 100000 in
theorem uX12_laysTree_72 {g : SG} (hg : GOK g) {σ0 : SG} {c137 : Int → Int → Int → Int → HH → Option HH} {c144 : Int → Int → Int → Int → HH → Option HH} (k137 : ∀ (x2 : Int) (x5 : Int) (x6 : Int) (x7 : Int) (h : HH) (b : HH), c137 x2 x5 x6 x7 h = some b → WK 227 (.inl none) σ0 (abH 71 119 g b) 137 [(0, aR 71), (2, aI x2), (5, aI x5), (6, aI x6), (7, aI x7)] [] (abH 71 119 g h) 0 0) (k144 : ∀ (x2 : Int) (x3 : Int) (x4 : Int) (x5 : Int) (h : HH) (b : HH), c144 x2 x3 x4 x5 h = some b → WK 227 (.inl none) σ0 (abH 71 119 g b) 144 [(0, aR 71), (2, aI x2), (3, aI x3), (4, aI x4), (5, aI x5)] [] (abH 71 119 g h) 0 0) : ∀ {x2 : Int} {x3 : Int} {x4 : Int} {x5 : Int} {h : HH} {b : HH}, bX12_laysTree_72 nX12_weight c137 c144 x2 x3 x4 x5 h = some b → WK 227 (.inl none) σ0 (abH 71 119 g b) 72 [(0, aR 71), (2, aI x2), (3, aI x3), (4, aI x4), (5, aI x5)] [] (abH 71 119 g h) 0 0 := by
  intro x2 x3 x4 x5 h b q
  have e : ∀ (f225 : HH → Int → Int → Option Int) , bX12_laysTree_72 f225 c137 c144 x2 x3 x4 x5 h = segW 71 119 g.2.2.2.2 krWV (clC 225 (liPW (pX12_weight f225)) clN) csX12_laysTree (cuC 137 (fun l st s => tkC 0 71 l <| tkI 2 l fun x2 => tkI 5 l fun x5 => tkI 6 l fun x6 => tkI 7 l fun x7 => skE st (c137 x2 x5 x6 x7 s)) (cuC 144 (fun l st s => tkC 0 71 l <| tkI 2 l fun x2 => tkI 3 l fun x3 => tkI 4 l fun x4 => tkI 5 l fun x5 => skE st (c144 x2 x3 x4 x5 s)) cuN)) 1000 72 [(0, aR 71), (2, aI x2), (3, aI x3), (4, aI x4), (5, aI x5)] [] h := fun _ => rfl
  rw [e nX12_weight] at q
  clear e
  refine segW_wk (by decide) (by decide) hg rwX12_laysTree (CLKW_C (liPW_ok (pX12_weight_ok hg)) CLKW_N) krWV_ok ?_ q
  clear q
  refine ct_C ?_ (ct_C ?_ (ct_N))
  · intro l st h q
    obtain ⟨m0, q1⟩ := tkC_of q
    obtain ⟨x2, m2, q2⟩ := tkI_of q1
    obtain ⟨x5, m5, q3⟩ := tkI_of q2
    obtain ⟨x6, m6, q4⟩ := tkI_of q3
    obtain ⟨x7, m7, q5⟩ := tkI_of q4
    obtain ⟨rfl, q6⟩ := skE_of q5
    exact WK_less (k137 _ _ _ _ _ _ q6) (List.forall_mem_cons.mpr ⟨m0, (List.forall_mem_cons.mpr ⟨m2, (List.forall_mem_cons.mpr ⟨m5, (List.forall_mem_cons.mpr ⟨m6, (List.forall_mem_cons.mpr ⟨m7, (fun _ h => absurd h List.not_mem_nil)⟩)⟩)⟩)⟩)⟩)
  · intro l st h q
    obtain ⟨m0, q1⟩ := tkC_of q
    obtain ⟨x2, m2, q2⟩ := tkI_of q1
    obtain ⟨x3, m3, q3⟩ := tkI_of q2
    obtain ⟨x4, m4, q4⟩ := tkI_of q3
    obtain ⟨x5, m5, q5⟩ := tkI_of q4
    obtain ⟨rfl, q6⟩ := skE_of q5
    exact WK_less (k144 _ _ _ _ _ _ q6) (List.forall_mem_cons.mpr ⟨m0, (List.forall_mem_cons.mpr ⟨m2, (List.forall_mem_cons.mpr ⟨m3, (List.forall_mem_cons.mpr ⟨m4, (List.forall_mem_cons.mpr ⟨m5, (fun _ h => absurd h List.not_mem_nil)⟩)⟩)⟩)⟩)⟩)
def nX12_laysTree_72 (c42 : Int → HH → Option HH) (c58 : Int → Int → Int → Int → HH → Option HH) (x2 : Int) (x3 : Int) (x4 : Int) (x5 : Int) (h : HH) : Option HH := bX12_laysTree_72 nX12_weight (nX12_laysTree_137 c42 c58) (nX12_laysTree_144 c42 c58) x2 x3 x4 x5 h
theorem wX12_laysTree_72 {g : SG} (hg : GOK g) {σ0 : SG} {c42 : Int → HH → Option HH} {c58 : Int → Int → Int → Int → HH → Option HH} (k42 : ∀ (x2 : Int) (h : HH) (b : HH), c42 x2 h = some b → WK 227 (.inl none) σ0 (abH 71 119 g b) 42 [(0, aR 71), (2, aI x2)] [] (abH 71 119 g h) 0 0) (k58 : ∀ (x2 : Int) (x3 : Int) (x4 : Int) (x5 : Int) (h : HH) (b : HH), c58 x2 x3 x4 x5 h = some b → WK 227 (.inl none) σ0 (abH 71 119 g b) 58 [(0, aR 71), (2, aI x2), (3, aI x3), (4, aI x4), (5, aI x5)] [] (abH 71 119 g h) 0 0) : ∀ {x2 : Int} {x3 : Int} {x4 : Int} {x5 : Int} {h : HH} {b : HH}, nX12_laysTree_72 c42 c58 x2 x3 x4 x5 h = some b → WK 227 (.inl none) σ0 (abH 71 119 g b) 72 [(0, aR 71), (2, aI x2), (3, aI x3), (4, aI x4), (5, aI x5)] [] (abH 71 119 g h) 0 0 := by
  intro x2 x3 x4 x5 h b q
  exact uX12_laysTree_72 hg (fun _ _ _ _ _ _ q => wX12_laysTree_137 hg k42 k58 q) (fun _ _ _ _ _ _ q => wX12_laysTree_144 hg k42 k58 q) q
def bX12_laysTree_58 (f225 : HH → Int → Int → Option Int) (c72 : Int → Int → Int → Int → HH → Option HH) (c199 : Int → Int → Int → Int → HH → Option HH) (x2 : Int) (x3 : Int) (x4 : Int) (x5 : Int) (h : HH) : Option HH :=
  gd (R32 ((h.1 71 72) * (h.1 71 72))) <|
    if x5 < (((h.1 71 72) * (h.1 71 72)) : Int) then
    c72 x2 x3 x4 x5 h
  else
    bnd (f225 h x3 x4) fun r1 =>
    gd (R32 ((h.1 71 73) + r1)) <|
    bnd (some (hI h 71 73 ((h.1 71 73) + r1))) fun h2 =>
    gd ((0 : Int) ≤ x3 ∧ x3 < (10 : Int)) <|
    gd (R32 ((h2.1 116 x3) + 1)) <|
    gd ((0 : Int) ≤ x3 ∧ x3 < (10 : Int)) <|
    bnd (some (hI h2 116 x3 ((h2.1 116 x3) + 1))) fun h3 =>
    gd ((0 : Int) ≤ x4 ∧ x4 < (10 : Int)) <|
    gd (R32 ((h3.1 116 x4) + 1)) <|
    gd ((0 : Int) ≤ x4 ∧ x4 < (10 : Int)) <|
    bnd (some (hI h3 116 x4 ((h3.1 116 x4) + 1))) fun h4 =>
    gd ((0 : Int) ≤ x4 ∧ x4 < (10 : Int)) <|
    c199 x2 x3 (h4.1 115 x4) 0 h4
set_option maxRecDepth 100000 in
theorem uX12_laysTree_58 {g : SG} (hg : GOK g) {σ0 : SG} {c72 : Int → Int → Int → Int → HH → Option HH} {c199 : Int → Int → Int → Int → HH → Option HH} (k72 : ∀ (x2 : Int) (x3 : Int) (x4 : Int) (x5 : Int) (h : HH) (b : HH), c72 x2 x3 x4 x5 h = some b → WK 227 (.inl none) σ0 (abH 71 119 g b) 72 [(0, aR 71), (2, aI x2), (3, aI x3), (4, aI x4), (5, aI x5)] [] (abH 71 119 g h) 0 0) (k199 : ∀ (x2 : Int) (x3 : Int) (x5 : Int) (x6 : Int) (h : HH) (b : HH), c199 x2 x3 x5 x6 h = some b → WK 227 (.inl none) σ0 (abH 71 119 g b) 199 [(0, aR 71), (2, aI x2), (3, aI x3), (5, aI x5), (6, aI x6)] [] (abH 71 119 g h) 0 0) : ∀ {x2 : Int} {x3 : Int} {x4 : Int} {x5 : Int} {h : HH} {b : HH}, bX12_laysTree_58 nX12_weight c72 c199 x2 x3 x4 x5 h = some b → WK 227 (.inl none) σ0 (abH 71 119 g b) 58 [(0, aR 71), (2, aI x2), (3, aI x3), (4, aI x4), (5, aI x5)] [] (abH 71 119 g h) 0 0 := by
  intro x2 x3 x4 x5 h b q
  have e : ∀ (f225 : HH → Int → Int → Option Int) , bX12_laysTree_58 f225 c72 c199 x2 x3 x4 x5 h = segW 71 119 g.2.2.2.2 krWV (clC 225 (liPW (pX12_weight f225)) clN) csX12_laysTree (cuC 72 (fun l st s => tkC 0 71 l <| tkI 2 l fun x2 => tkI 3 l fun x3 => tkI 4 l fun x4 => tkI 5 l fun x5 => skE st (c72 x2 x3 x4 x5 s)) (cuC 199 (fun l st s => tkC 0 71 l <| tkI 2 l fun x2 => tkI 3 l fun x3 => tkI 5 l fun x5 => tkI 6 l fun x6 => skE st (c199 x2 x3 x5 x6 s)) cuN)) 1000 58 [(0, aR 71), (2, aI x2), (3, aI x3), (4, aI x4), (5, aI x5)] [] h := fun _ => rfl
  rw [e nX12_weight] at q
  clear e
  refine segW_wk (by decide) (by decide) hg rwX12_laysTree (CLKW_C (liPW_ok (pX12_weight_ok hg)) CLKW_N) krWV_ok ?_ q
  clear q
  refine ct_C ?_ (ct_C ?_ (ct_N))
  · intro l st h q
    obtain ⟨m0, q1⟩ := tkC_of q
    obtain ⟨x2, m2, q2⟩ := tkI_of q1
    obtain ⟨x3, m3, q3⟩ := tkI_of q2
    obtain ⟨x4, m4, q4⟩ := tkI_of q3
    obtain ⟨x5, m5, q5⟩ := tkI_of q4
    obtain ⟨rfl, q6⟩ := skE_of q5
    exact WK_less (k72 _ _ _ _ _ _ q6) (List.forall_mem_cons.mpr ⟨m0, (List.forall_mem_cons.mpr ⟨m2, (List.forall_mem_cons.mpr ⟨m3, (List.forall_mem_cons.mpr ⟨m4, (List.forall_mem_cons.mpr ⟨m5, (fun _ h => absurd h List.not_mem_nil)⟩)⟩)⟩)⟩)⟩)
  · intro l st h q
    obtain ⟨m0, q1⟩ := tkC_of q
    obtain ⟨x2, m2, q2⟩ := tkI_of q1
    obtain ⟨x3, m3, q3⟩ := tkI_of q2
    obtain ⟨x5, m5, q4⟩ := tkI_of q3
    obtain ⟨x6, m6, q5⟩ := tkI_of q4
    obtain ⟨rfl, q6⟩ := skE_of q5
    exact WK_less (k199 _ _ _ _ _ _ q6) (List.forall_mem_cons.mpr ⟨m0, (List.forall_mem_cons.mpr ⟨m2, (List.forall_mem_cons.mpr ⟨m3, (List.forall_mem_cons.mpr ⟨m5, (List.forall_mem_cons.mpr ⟨m6, (fun _ h => absurd h List.not_mem_nil)⟩)⟩)⟩)⟩)⟩)
def nX12_laysTree_58 (c42 : Int → HH → Option HH) : Nat → Int → Int → Int → Int → HH → Option HH := iter (fun _ _ _ _ _ => none) (fun self => bX12_laysTree_58 nX12_weight (nX12_laysTree_72 c42 self) (nX12_laysTree_199 c42 100000))
theorem nX12_laysTree_58_s {c42 : Int → HH → Option HH} {F : Nat} : nX12_laysTree_58 c42 (F + 1) = bX12_laysTree_58 nX12_weight (nX12_laysTree_72 c42 (nX12_laysTree_58 c42 F)) (nX12_laysTree_199 c42 100000) := rfl
theorem wX12_laysTree_58 {g : SG} (hg : GOK g) {σ0 : SG} {c42 : Int → HH → Option HH} (k42 : ∀ (x2 : Int) (h : HH) (b : HH), c42 x2 h = some b → WK 227 (.inl none) σ0 (abH 71 119 g b) 42 [(0, aR 71), (2, aI x2)] [] (abH 71 119 g h) 0 0) : ∀ {F : Nat}, ∀ {x2 : Int} {x3 : Int} {x4 : Int} {x5 : Int} {h : HH} {b : HH}, nX12_laysTree_58 c42 F x2 x3 x4 x5 h = some b → WK 227 (.inl none) σ0 (abH 71 119 g b) 58 [(0, aR 71), (2, aI x2), (3, aI x3), (4, aI x4), (5, aI x5)] [] (abH 71 119 g h) 0 0 := by
  intro F
  have z : ∀ (x2 : Int) (x3 : Int) (x4 : Int) (x5 : Int) (h : HH) (b : HH), nX12_laysTree_58 c42 F x2 x3 x4 x5 h = some b → WK 227 (.inl none) σ0 (abH 71 119 g b) 58 [(0, aR 71), (2, aI x2), (3, aI x3), (4, aI x4), (5, aI x5)] [] (abH 71 119 g h) 0 0 := iter_ind (P := fun (c : Int → Int → Int → Int → HH → Option HH) => ∀ (x2 : Int) (x3 : Int) (x4 : Int) (x5 : Int) (h : HH) (b : HH), c x2 x3 x4 x5 h = some b → WK 227 (.inl none) σ0 (abH 71 119 g b) 58 [(0, aR 71), (2, aI x2), (3, aI x3), (4, aI x4), (5, aI x5)] [] (abH 71 119 g h) 0 0) (by
    intro x2 x3 x4 x5 h b q
    cases q) (fun self ih => by
    intro x2 x3 x4 x5 h b q
    exact uX12_laysTree_58 hg (fun _ _ _ _ _ _ q => wX12_laysTree_72 hg k42 ih q) (fun _ _ _ _ _ _ q => wX12_laysTree_199 hg k42 q) q) F
  intro x2 x3 x4 x5 h b q
  exact z _ _ _ _ _ _ q
def bX12_laysTree_42 (c58 : Int → Int → Int → Int → HH → Option HH) (x2 : Int) (h : HH) : Option HH :=
  if x2 < ((h.1 71 72) : Int) then
    c58 x2 (-1) (-1) 0 h
  else
    some h
theorem uX12_laysTree_42 {g : SG} (hg : GOK g) {σ0 : SG} {c58 : Int → Int → Int → Int → HH → Option HH} (k58 : ∀ (x2 : Int) (x3 : Int) (x4 : Int) (x5 : Int) (h : HH) (b : HH), c58 x2 x3 x4 x5 h = some b → WK 227 (.inl none) σ0 (abH 71 119 g b) 58 [(0, aR 71), (2, aI x2), (3, aI x3), (4, aI x4), (5, aI x5)] [] (abH 71 119 g h) 0 0) : ∀ {x2 : Int} {h : HH} {b : HH}, bX12_laysTree_42 c58 x2 h = some b → WK 227 (.inl none) σ0 (abH 71 119 g b) 42 [(0, aR 71), (2, aI x2)] [] (abH 71 119 g h) 0 0 := by
  intro x2 h b q
  have e : bX12_laysTree_42 c58 x2 h = segW 71 119 g.2.2.2.2 krWV clN csX12_laysTree (cuC 58 (fun l st s => tkC 0 71 l <| tkI 2 l fun x2 => tkI 3 l fun x3 => tkI 4 l fun x4 => tkI 5 l fun x5 => skE st (c58 x2 x3 x4 x5 s)) cuN) 1000 42 [(0, aR 71), (2, aI x2)] [] h := rfl
  rw [e] at q
  clear e
  refine segW_wk (by decide) (by decide) hg rwX12_laysTree CLKW_N krWV_ok ?_ q
  clear q
  refine ct_C ?_ (ct_N)
  · intro l st h q
    obtain ⟨m0, q1⟩ := tkC_of q
    obtain ⟨x2, m2, q2⟩ := tkI_of q1
    obtain ⟨x3, m3, q3⟩ := tkI_of q2
    obtain ⟨x4, m4, q4⟩ := tkI_of q3
    obtain ⟨x5, m5, q5⟩ := tkI_of q4
    obtain ⟨rfl, q6⟩ := skE_of q5
    exact WK_less (k58 _ _ _ _ _ _ q6) (List.forall_mem_cons.mpr ⟨m0, (List.forall_mem_cons.mpr ⟨m2, (List.forall_mem_cons.mpr ⟨m3, (List.forall_mem_cons.mpr ⟨m4, (List.forall_mem_cons.mpr ⟨m5, (fun _ h => absurd h List.not_mem_nil)⟩)⟩)⟩)⟩)⟩)
def nX12_laysTree_42 : Nat → Int → HH → Option HH := iter (fun _ _ => none) (fun self => bX12_laysTree_42 (nX12_laysTree_58 self 100000))
theorem nX12_laysTree_42_s {F : Nat} : nX12_laysTree_42 (F + 1) = bX12_laysTree_42 (nX12_laysTree_58 (nX12_laysTree_42 F) 100000) := rfl
theorem wX12_laysTree_42 {g : SG} (hg : GOK g) {σ0 : SG} : ∀ {F : Nat}, ∀ {x2 : Int} {h : HH} {b : HH}, nX12_laysTree_42 F x2 h = some b → WK 227 (.inl none) σ0 (abH 71 119 g b) 42 [(0, aR 71), (2, aI x2)] [] (abH 71 119 g h) 0 0 := by
  intro F
  have z : ∀ (x2 : Int) (h : HH) (b : HH), nX12_laysTree_42 F x2 h = some b → WK 227 (.inl none) σ0 (abH 71 119 g b) 42 [(0, aR 71), (2, aI x2)] [] (abH 71 119 g h) 0 0 := iter_ind (P := fun (c : Int → HH → Option HH) => ∀ (x2 : Int) (h : HH) (b : HH), c x2 h = some b → WK 227 (.inl none) σ0 (abH 71 119 g b) 42 [(0, aR 71), (2, aI x2)] [] (abH 71 119 g h) 0 0) (by
    intro x2 h b q
    cases q) (fun self ih => by
    intro x2 h b q
    exact uX12_laysTree_42 hg (fun _ _ _ _ _ _ q => wX12_laysTree_58 hg ih q) q) F
  intro x2 h b q
  exact z _ _ _ q
def bX12_laysTree_12 (c12 : Int → HH → Option HH) (c42 : Int → HH → Option HH) (x2 : Int) (h : HH) : Option HH :=
  if x2 < ((h.1 71 72) : Int) then
    gd ((0 : Int) ≤ x2 ∧ x2 < (10 : Int)) <|
    bnd (some (hI h 115 x2 x2)) fun h1 =>
    gd ((0 : Int) ≤ x2 ∧ x2 < (10 : Int)) <|
    bnd (some (hI h1 116 x2 0)) fun h2 =>
    gd (R32 (x2 + 1)) <|
    c12 (x2 + 1) h2
  else
    c42 1 h
theorem uX12_laysTree_12 {g : SG} (hg : GOK g) {σ0 : SG} {c12 : Int → HH → Option HH} {c42 : Int → HH → Option HH} (k12 : ∀ (x2 : Int) (h : HH) (b : HH), c12 x2 h = some b → WK 227 (.inl none) σ0 (abH 71 119 g b) 12 [(0, aR 71), (2, aI x2)] [] (abH 71 119 g h) 0 0) (k42 : ∀ (x2 : Int) (h : HH) (b : HH), c42 x2 h = some b → WK 227 (.inl none) σ0 (abH 71 119 g b) 42 [(0, aR 71), (2, aI x2)] [] (abH 71 119 g h) 0 0) : ∀ {x2 : Int} {h : HH} {b : HH}, bX12_laysTree_12 c12 c42 x2 h = some b → WK 227 (.inl none) σ0 (abH 71 119 g b) 12 [(0, aR 71), (2, aI x2)] [] (abH 71 119 g h) 0 0 := by
  intro x2 h b q
  have e : bX12_laysTree_12 c12 c42 x2 h = segW 71 119 g.2.2.2.2 krWV clN csX12_laysTree (cuC 12 (fun l st s => tkC 0 71 l <| tkI 2 l fun x2 => skE st (c12 x2 s)) (cuC 42 (fun l st s => tkC 0 71 l <| tkI 2 l fun x2 => skE st (c42 x2 s)) cuN)) 1000 12 [(0, aR 71), (2, aI x2)] [] h := rfl
  rw [e] at q
  clear e
  refine segW_wk (by decide) (by decide) hg rwX12_laysTree CLKW_N krWV_ok ?_ q
  clear q
  refine ct_C ?_ (ct_C ?_ (ct_N))
  · intro l st h q
    obtain ⟨m0, q1⟩ := tkC_of q
    obtain ⟨x2, m2, q2⟩ := tkI_of q1
    obtain ⟨rfl, q3⟩ := skE_of q2
    exact WK_less (k12 _ _ _ q3) (List.forall_mem_cons.mpr ⟨m0, (List.forall_mem_cons.mpr ⟨m2, (fun _ h => absurd h List.not_mem_nil)⟩)⟩)
  · intro l st h q
    obtain ⟨m0, q1⟩ := tkC_of q
    obtain ⟨x2, m2, q2⟩ := tkI_of q1
    obtain ⟨rfl, q3⟩ := skE_of q2
    exact WK_less (k42 _ _ _ q3) (List.forall_mem_cons.mpr ⟨m0, (List.forall_mem_cons.mpr ⟨m2, (fun _ h => absurd h List.not_mem_nil)⟩)⟩)
def nX12_laysTree_12 : Nat → Int → HH → Option HH := iter (fun _ _ => none) (fun self => bX12_laysTree_12 self (nX12_laysTree_42 100000))
theorem nX12_laysTree_12_s {F : Nat} : nX12_laysTree_12 (F + 1) = bX12_laysTree_12 (nX12_laysTree_12 F) (nX12_laysTree_42 100000) := rfl
theorem wX12_laysTree_12 {g : SG} (hg : GOK g) {σ0 : SG} : ∀ {F : Nat}, ∀ {x2 : Int} {h : HH} {b : HH}, nX12_laysTree_12 F x2 h = some b → WK 227 (.inl none) σ0 (abH 71 119 g b) 12 [(0, aR 71), (2, aI x2)] [] (abH 71 119 g h) 0 0 := by
  intro F
  have z : ∀ (x2 : Int) (h : HH) (b : HH), nX12_laysTree_12 F x2 h = some b → WK 227 (.inl none) σ0 (abH 71 119 g b) 12 [(0, aR 71), (2, aI x2)] [] (abH 71 119 g h) 0 0 := iter_ind (P := fun (c : Int → HH → Option HH) => ∀ (x2 : Int) (h : HH) (b : HH), c x2 h = some b → WK 227 (.inl none) σ0 (abH 71 119 g b) 12 [(0, aR 71), (2, aI x2)] [] (abH 71 119 g h) 0 0) (by
    intro x2 h b q
    cases q) (fun self ih => by
    intro x2 h b q
    exact uX12_laysTree_12 hg ih (fun _ _ _ q => wX12_laysTree_42 hg q) q) F
  intro x2 h b q
  exact z _ _ _ q
def bX12_laysTree (f226 : Int → HH → Option HH) (c12 : Int → HH → Option HH) (x1 : Int) (h : HH) : Option HH :=
  bnd (f226 x1 h) fun r1 =>
    bnd (some (hI r1 71 73 0)) fun h2 =>
    c12 0 h2
theorem uX12_laysTree {g : SG} (hg : GOK g) {σ0 : SG} {c12 : Int → HH → Option HH} (k12 : ∀ (x2 : Int) (h : HH) (b : HH), c12 x2 h = some b → WK 227 (.inl none) σ0 (abH 71 119 g b) 12 [(0, aR 71), (2, aI x2)] [] (abH 71 119 g h) 0 0) : ∀ {x1 : Int} {h : HH} {b : HH}, bX12_laysTree nX12_laysDoors c12 x1 h = some b → WK 227 (.inl none) σ0 (abH 71 119 g b) 0 [(0, aR 71), (1, aI x1)] [] (abH 71 119 g h) 0 0 := by
  intro x1 h b q
  have e : ∀ (f226 : Int → HH → Option HH) , bX12_laysTree f226 c12 x1 h = segW 71 119 g.2.2.2.2 krWV (clC 226 (pX12_laysDoors f226) clN) csX12_laysTree (cuC 12 (fun l st s => tkC 0 71 l <| tkI 2 l fun x2 => skE st (c12 x2 s)) cuN) 1000 0 [(0, aR 71), (1, aI x1)] [] h := fun _ => rfl
  rw [e nX12_laysDoors] at q
  clear e
  refine segW_wk (by decide) (by decide) hg rwX12_laysTree (CLKW_C (pX12_laysDoors_ok hg) CLKW_N) krWV_ok ?_ q
  clear q
  refine ct_C ?_ (ct_N)
  · intro l st h q
    obtain ⟨m0, q1⟩ := tkC_of q
    obtain ⟨x2, m2, q2⟩ := tkI_of q1
    obtain ⟨rfl, q3⟩ := skE_of q2
    exact WK_less (k12 _ _ _ q3) (List.forall_mem_cons.mpr ⟨m0, (List.forall_mem_cons.mpr ⟨m2, (fun _ h => absurd h List.not_mem_nil)⟩)⟩)
def nX12_laysTree (x1 : Int) (h : HH) : Option HH := bX12_laysTree nX12_laysDoors (nX12_laysTree_12 100000) x1 h
theorem wX12_laysTree {g : SG} (hg : GOK g) {σ0 : SG} : ∀ {x1 : Int} {h : HH} {b : HH}, nX12_laysTree x1 h = some b → WK 227 (.inl none) σ0 (abH 71 119 g b) 0 [(0, aR 71), (1, aI x1)] [] (abH 71 119 g h) 0 0 := by
  intro x1 h b q
  exact uX12_laysTree hg (fun _ _ _ q => wX12_laysTree_12 hg q) q
theorem mX12_laysTree {g : SG} (hg : GOK g) {h : HH} {x1 : Int} {b : HH} (q : nX12_laysTree x1 h = some b) : MCT 227 [] [aR 71, aI x1] (abH 71 119 g h) (.inl none) (abH 71 119 g b) :=
  mct_of (by decide) (MFok 227 (by decide +kernel)) (fun _ => Nat.le_of_ble_eq_true rfl) (wX12_laysTree hg q)
def pX12_laysTree {β : Type} (z : Int → HH → Option HH) : PW β := fun as h f => skC 71 as fun as => skI as fun x1 as => skE as (bnd (z x1 h) fun r => f (.inl none) r)
theorem pX12_laysTree_ok {β : Type} {g : SG} (hg : GOK g) : CW1 (β := β) 227 (pX12_laysTree nX12_laysTree) 71 119 g := fun as h f b q => by
  obtain ⟨as, rfl, q1⟩ := skC_of q
  obtain ⟨x1, as, rfl, q2⟩ := skI_of q1
  obtain ⟨rfl, q0⟩ := skE_of q2
  obtain ⟨r, z1, z2⟩ := bnd_of q0
  exact ⟨_, _, z2, by decide, mX12_laysTree hg z1, rfl, rfl, fun z => absurd z (by decide)⟩
def csX12_pairing : List (Nat × List (Nat × ARow)) := [(36, [(0, 1, .iconst 0, 0, 0, 0), (1, 1, .istore_n 1, 0, 0, 0), (2, 1, .iconst 0, 0, 0, 0), (3, 1, .istore_n 2, 0, 0, 0), (4, 1, .iload_n 2, 0, 0, 0), (5, 1, .aload_n 0, 0, 0, 0), (6, 3, .getfield 340, 12, 72, 0), (9, 3, .if_icmp .ge 22, 31, 0, 0), (12, 1, .iload_n 1, 0, 0, 0), (13, 1, .aload_n 0, 0, 0, 0), (14, 3, .getfield 160, 12, 70, 2), (17, 1, .iload_n 2, 0, 0, 0), (18, 1, .iaload, 0, 0, 0), (19, 1, .iconst 2, 0, 0, 0), (20, 1, .irem, 0, 0, 0), (21, 1, .iload_n 2, 0, 0, 0), (22, 1, .ishl, 0, 0, 0), (23, 1, .ior, 0, 0, 0), (24, 1, .istore_n 1, 0, 0, 0), (25, 3, .iinc 2 1, 0, 0, 0), (28, 3, .goto (-24), 4, 0, 0), (31, 1, .aload_n 0, 0, 0, 0), (32, 3, .getfield 163, 12, 71, 2), (35, 1, .iconst 0, 0, 0, 0)]),
  (71, [(36, 1, .iconst 0, 0, 0, 0), (37, 1, .iastore, 0, 0, 0), (38, 1, .iconst 1, 0, 0, 0), (39, 1, .istore_n 2, 0, 0, 0), (40, 1, .iload_n 2, 0, 0, 0), (41, 1, .iconst 1, 0, 0, 0), (42, 1, .aload_n 0, 0, 0, 0), (43, 3, .getfield 340, 12, 72, 0), (46, 1, .ishl, 0, 0, 0), (47, 3, .if_icmp .ge 129, 176, 0, 0), (50, 1, .aload_n 0, 0, 0, 0), (51, 3, .getfield 163, 12, 71, 2), (54, 1, .iload_n 2, 0, 0, 0), (55, 2, .ldc 188, 1000000000, 0, 0), (57, 1, .iastore, 0, 0, 0), (58, 1, .iload_n 2, 0, 0, 0), (59, 1, .iload_n 1, 0, 0, 0), (60, 1, .ior, 0, 0, 0), (61, 1, .iload_n 1, 0, 0, 0), (62, 3, .if_icmp .eq 6, 68, 0, 0), (65, 3, .goto 105, 170, 0, 0), (68, 1, .iconst 0, 0, 0, 0), (69, 1, .istore_n 3, 0, 0, 0), (70, 1, .iload_n 2, 0, 0, 0)]),
  (108, [(71, 1, .iload_n 3, 0, 0, 0), (72, 1, .ishr, 0, 0, 0), (73, 1, .iconst 1, 0, 0, 0), (74, 1, .iand, 0, 0, 0), (75, 3, .ifCond .ne 9, 84, 0, 0), (78, 3, .iinc 3 1, 0, 0, 0), (81, 3, .goto (-11), 70, 0, 0), (84, 1, .iload_n 3, 0, 0, 0), (85, 1, .iconst 1, 0, 0, 0), (86, 1, .iadd, 0, 0, 0), (87, 2, .istore 4, 0, 0, 0), (89, 2, .iload 4, 0, 0, 0), (91, 1, .aload_n 0, 0, 0, 0), (92, 3, .getfield 340, 12, 72, 0), (95, 3, .if_icmp .ge 75, 170, 0, 0), (98, 1, .iload_n 2, 0, 0, 0), (99, 1, .iconst 1, 0, 0, 0), (100, 1, .iload_n 3, 0, 0, 0), (101, 1, .ishl, 0, 0, 0), (102, 1, .iconst 1, 0, 0, 0), (103, 2, .iload 4, 0, 0, 0), (105, 1, .ishl, 0, 0, 0), (106, 1, .ior, 0, 0, 0), (107, 1, .iconst (-1), 0, 0, 0)]),
  (146, [(108, 1, .ixor, 0, 0, 0), (109, 1, .iand, 0, 0, 0), (110, 2, .istore 5, 0, 0, 0), (112, 1, .iload_n 2, 0, 0, 0), (113, 2, .iload 4, 0, 0, 0), (115, 1, .ishr, 0, 0, 0), (116, 1, .iconst 1, 0, 0, 0), (117, 1, .iand, 0, 0, 0), (118, 1, .iconst 1, 0, 0, 0), (119, 3, .if_icmp .ne 45, 164, 0, 0), (122, 1, .aload_n 0, 0, 0, 0), (123, 3, .getfield 163, 12, 71, 2), (126, 2, .iload 5, 0, 0, 0), (128, 1, .iaload, 0, 0, 0), (129, 2, .ldc 188, 1000000000, 0, 0), (131, 3, .if_icmp .ge 33, 164, 0, 0), (134, 1, .aload_n 0, 0, 0, 0), (135, 3, .getfield 163, 12, 71, 2), (138, 1, .iload_n 2, 0, 0, 0), (139, 1, .aload_n 0, 0, 0, 0), (140, 3, .getfield 163, 12, 71, 2), (143, 1, .iload_n 2, 0, 0, 0), (144, 1, .iaload, 0, 0, 0), (145, 1, .aload_n 0, 0, 0, 0)]),
  (100000, [(146, 3, .getfield 163, 12, 71, 2), (149, 2, .iload 5, 0, 0, 0), (151, 1, .iaload, 0, 0, 0), (152, 1, .aload_n 0, 0, 0, 0), (153, 1, .iload_n 3, 0, 0, 0), (154, 2, .iload 4, 0, 0, 0), (156, 3, .invokevirtual 349, 225, 3, 12), (159, 1, .iadd, 0, 0, 0), (160, 3, .invokestatic 212, 172, 2, 0), (163, 1, .iastore, 0, 0, 0), (164, 3, .iinc 4 1, 0, 0, 0), (167, 3, .goto (-78), 89, 0, 0), (170, 3, .iinc 2 1, 0, 0, 0), (173, 3, .goto (-133), 40, 0, 0), (176, 1, .aload_n 0, 0, 0, 0), (177, 3, .getfield 163, 12, 71, 2), (180, 1, .iload_n 1, 0, 0, 0), (181, 1, .iaload, 0, 0, 0), (182, 1, .ireturn, 0, 0, 0)])]
theorem rwX12_pairing : rowsB (mB 228) (mO 228) (mX 228) (mIni 228) (mFr 228) (mLo 228) (mT 228) csX12_pairing = true := by decide +kernel
def bX12_pairing_170 (c40 : Int → Int → HH → Option (Int × HH)) (x1 : Int) (x2 : Int) (h : HH) : Option (Int × HH) :=
  gd (R32 (x2 + 1)) <|
    c40 x1 (x2 + 1) h
theorem uX12_pairing_170 {g : SG} (hg : GOK g) {σ0 : SG} {c40 : Int → Int → HH → Option (Int × HH)} (k40 : ∀ (x1 : Int) (x2 : Int) (h : HH) (b : (Int × HH)), c40 x1 x2 h = some b → WK 228 (.inl (some (aI b.1))) σ0 (abH 71 119 g b.2) 40 [(0, aR 71), (1, aI x1), (2, aI x2)] [] (abH 71 119 g h) 0 0) : ∀ {x1 : Int} {x2 : Int} {h : HH} {b : (Int × HH)}, bX12_pairing_170 c40 x1 x2 h = some b → WK 228 (.inl (some (aI b.1))) σ0 (abH 71 119 g b.2) 170 [(0, aR 71), (1, aI x1), (2, aI x2)] [] (abH 71 119 g h) 0 0 := by
  intro x1 x2 h b q
  have e : bX12_pairing_170 c40 x1 x2 h = segW 71 119 g.2.2.2.2 krWI clN csX12_pairing (cuC 40 (fun l st s => tkC 0 71 l <| tkI 1 l fun x1 => tkI 2 l fun x2 => skE st (c40 x1 x2 s)) cuN) 1000 170 [(0, aR 71), (1, aI x1), (2, aI x2)] [] h := rfl
  rw [e] at q
  clear e
  refine segW_wk (by decide) (by decide) hg rwX12_pairing CLKW_N krWI_ok ?_ q
  clear q
  refine ct_C ?_ (ct_N)
  · intro l st h q
    obtain ⟨m0, q1⟩ := tkC_of q
    obtain ⟨x1, m1, q2⟩ := tkI_of q1
    obtain ⟨x2, m2, q3⟩ := tkI_of q2
    obtain ⟨rfl, q4⟩ := skE_of q3
    exact WK_less (k40 _ _ _ _ q4) (List.forall_mem_cons.mpr ⟨m0, (List.forall_mem_cons.mpr ⟨m1, (List.forall_mem_cons.mpr ⟨m2, (fun _ h => absurd h List.not_mem_nil)⟩)⟩)⟩)
def nX12_pairing_170 (c40 : Int → Int → HH → Option (Int × HH)) (x1 : Int) (x2 : Int) (h : HH) : Option (Int × HH) := bX12_pairing_170 c40 x1 x2 h
theorem wX12_pairing_170 {g : SG} (hg : GOK g) {σ0 : SG} {c40 : Int → Int → HH → Option (Int × HH)} (k40 : ∀ (x1 : Int) (x2 : Int) (h : HH) (b : (Int × HH)), c40 x1 x2 h = some b → WK 228 (.inl (some (aI b.1))) σ0 (abH 71 119 g b.2) 40 [(0, aR 71), (1, aI x1), (2, aI x2)] [] (abH 71 119 g h) 0 0) : ∀ {x1 : Int} {x2 : Int} {h : HH} {b : (Int × HH)}, nX12_pairing_170 c40 x1 x2 h = some b → WK 228 (.inl (some (aI b.1))) σ0 (abH 71 119 g b.2) 170 [(0, aR 71), (1, aI x1), (2, aI x2)] [] (abH 71 119 g h) 0 0 := by
  intro x1 x2 h b q
  exact uX12_pairing_170 hg k40 q
def bX12_pairing_164 (c89 : Int → Int → Int → Int → HH → Option (Int × HH)) (x1 : Int) (x2 : Int) (x3 : Int) (x4 : Int) (h : HH) : Option (Int × HH) :=
  gd (R32 (x4 + 1)) <|
    c89 x1 x2 x3 (x4 + 1) h
theorem uX12_pairing_164 {g : SG} (hg : GOK g) {σ0 : SG} {c89 : Int → Int → Int → Int → HH → Option (Int × HH)} (k89 : ∀ (x1 : Int) (x2 : Int) (x3 : Int) (x4 : Int) (h : HH) (b : (Int × HH)), c89 x1 x2 x3 x4 h = some b → WK 228 (.inl (some (aI b.1))) σ0 (abH 71 119 g b.2) 89 [(0, aR 71), (1, aI x1), (2, aI x2), (3, aI x3), (4, aI x4)] [] (abH 71 119 g h) 0 0) : ∀ {x1 : Int} {x2 : Int} {x3 : Int} {x4 : Int} {h : HH} {b : (Int × HH)}, bX12_pairing_164 c89 x1 x2 x3 x4 h = some b → WK 228 (.inl (some (aI b.1))) σ0 (abH 71 119 g b.2) 164 [(0, aR 71), (1, aI x1), (2, aI x2), (3, aI x3), (4, aI x4)] [] (abH 71 119 g h) 0 0 := by
  intro x1 x2 x3 x4 h b q
  have e : bX12_pairing_164 c89 x1 x2 x3 x4 h = segW 71 119 g.2.2.2.2 krWI clN csX12_pairing (cuC 89 (fun l st s => tkC 0 71 l <| tkI 1 l fun x1 => tkI 2 l fun x2 => tkI 3 l fun x3 => tkI 4 l fun x4 => skE st (c89 x1 x2 x3 x4 s)) cuN) 1000 164 [(0, aR 71), (1, aI x1), (2, aI x2), (3, aI x3), (4, aI x4)] [] h := rfl
  rw [e] at q
  clear e
  refine segW_wk (by decide) (by decide) hg rwX12_pairing CLKW_N krWI_ok ?_ q
  clear q
  refine ct_C ?_ (ct_N)
  · intro l st h q
    obtain ⟨m0, q1⟩ := tkC_of q
    obtain ⟨x1, m1, q2⟩ := tkI_of q1
    obtain ⟨x2, m2, q3⟩ := tkI_of q2
    obtain ⟨x3, m3, q4⟩ := tkI_of q3
    obtain ⟨x4, m4, q5⟩ := tkI_of q4
    obtain ⟨rfl, q6⟩ := skE_of q5
    exact WK_less (k89 _ _ _ _ _ _ q6) (List.forall_mem_cons.mpr ⟨m0, (List.forall_mem_cons.mpr ⟨m1, (List.forall_mem_cons.mpr ⟨m2, (List.forall_mem_cons.mpr ⟨m3, (List.forall_mem_cons.mpr ⟨m4, (fun _ h => absurd h List.not_mem_nil)⟩)⟩)⟩)⟩)⟩)
def nX12_pairing_164 (c40 : Int → Int → HH → Option (Int × HH)) (c89 : Int → Int → Int → Int → HH → Option (Int × HH)) (x1 : Int) (x2 : Int) (x3 : Int) (x4 : Int) (h : HH) : Option (Int × HH) := bX12_pairing_164 c89 x1 x2 x3 x4 h
theorem wX12_pairing_164 {g : SG} (hg : GOK g) {σ0 : SG} {c40 : Int → Int → HH → Option (Int × HH)} {c89 : Int → Int → Int → Int → HH → Option (Int × HH)} (k40 : ∀ (x1 : Int) (x2 : Int) (h : HH) (b : (Int × HH)), c40 x1 x2 h = some b → WK 228 (.inl (some (aI b.1))) σ0 (abH 71 119 g b.2) 40 [(0, aR 71), (1, aI x1), (2, aI x2)] [] (abH 71 119 g h) 0 0) (k89 : ∀ (x1 : Int) (x2 : Int) (x3 : Int) (x4 : Int) (h : HH) (b : (Int × HH)), c89 x1 x2 x3 x4 h = some b → WK 228 (.inl (some (aI b.1))) σ0 (abH 71 119 g b.2) 89 [(0, aR 71), (1, aI x1), (2, aI x2), (3, aI x3), (4, aI x4)] [] (abH 71 119 g h) 0 0) : ∀ {x1 : Int} {x2 : Int} {x3 : Int} {x4 : Int} {h : HH} {b : (Int × HH)}, nX12_pairing_164 c40 c89 x1 x2 x3 x4 h = some b → WK 228 (.inl (some (aI b.1))) σ0 (abH 71 119 g b.2) 164 [(0, aR 71), (1, aI x1), (2, aI x2), (3, aI x3), (4, aI x4)] [] (abH 71 119 g h) 0 0 := by
  intro x1 x2 x3 x4 h b q
  exact uX12_pairing_164 hg k89 q
def bX12_pairing_89 (f225 : HH → Int → Int → Option Int) (f172 : HH → Int → Int → Option Int) (c164 : Int → Int → Int → Int → HH → Option (Int × HH)) (c170 : Int → Int → HH → Option (Int × HH)) (x1 : Int) (x2 : Int) (x3 : Int) (x4 : Int) (h : HH) : Option (Int × HH) :=
  if x4 < ((h.1 71 72) : Int) then
    if (andI (shrI x2 x4) 1) = (1 : Int) then
    gd ((0 : Int) ≤ (andI x2 (xorI (orI (shlI 1 x3) (shlI 1 x4)) (-1))) ∧ (andI x2 (xorI (orI (shlI 1 x3) (shlI 1 x4)) (-1))) < (1024 : Int)) <|
    if (h.1 117 (andI x2 (xorI (orI (shlI 1 x3) (shlI 1 x4)) (-1)))) < (1000000000 : Int) then
    gd ((0 : Int) ≤ x2 ∧ x2 < (1024 : Int)) <|
    gd ((0 : Int) ≤ (andI x2 (xorI (orI (shlI 1 x3) (shlI 1 x4)) (-1))) ∧ (andI x2 (xorI (orI (shlI 1 x3) (shlI 1 x4)) (-1))) < (1024 : Int)) <|
    bnd (f225 h x3 x4) fun r1 =>
    gd (R32 ((h.1 117 (andI x2 (xorI (orI (shlI 1 x3) (shlI 1 x4)) (-1)))) + r1)) <|
    bnd (f172 h (h.1 117 x2) ((h.1 117 (andI x2 (xorI (orI (shlI 1 x3) (shlI 1 x4)) (-1)))) + r1)) fun r2 =>
    gd ((0 : Int) ≤ x2 ∧ x2 < (1024 : Int)) <|
    bnd (some (hI h 117 x2 r2)) fun h3 =>
    c164 x1 x2 x3 x4 h3
  else
    c164 x1 x2 x3 x4 h
  else
    c164 x1 x2 x3 x4 h
  else
    c170 x1 x2 h
set_option maxRecDepth 100000 in
theorem uX12_pairing_89 {g : SG} (hg : GOK g) {σ0 : SG} {c164 : Int → Int → Int → Int → HH → Option (Int × HH)} {c170 : Int → Int → HH → Option (Int × HH)} (k164 : ∀ (x1 : Int) (x2 : Int) (x3 : Int) (x4 : Int) (h : HH) (b : (Int × HH)), c164 x1 x2 x3 x4 h = some b → WK 228 (.inl (some (aI b.1))) σ0 (abH 71 119 g b.2) 164 [(0, aR 71), (1, aI x1), (2, aI x2), (3, aI x3), (4, aI x4)] [] (abH 71 119 g h) 0 0) (k170 : ∀ (x1 : Int) (x2 : Int) (h : HH) (b : (Int × HH)), c170 x1 x2 h = some b → WK 228 (.inl (some (aI b.1))) σ0 (abH 71 119 g b.2) 170 [(0, aR 71), (1, aI x1), (2, aI x2)] [] (abH 71 119 g h) 0 0) : ∀ {x1 : Int} {x2 : Int} {x3 : Int} {x4 : Int} {h : HH} {b : (Int × HH)}, bX12_pairing_89 nX12_weight nX12_less c164 c170 x1 x2 x3 x4 h = some b → WK 228 (.inl (some (aI b.1))) σ0 (abH 71 119 g b.2) 89 [(0, aR 71), (1, aI x1), (2, aI x2), (3, aI x3), (4, aI x4)] [] (abH 71 119 g h) 0 0 := by
  intro x1 x2 x3 x4 h b q
  have e : ∀ (f225 : HH → Int → Int → Option Int) (f172 : HH → Int → Int → Option Int) , bX12_pairing_89 f225 f172 c164 c170 x1 x2 x3 x4 h = segW 71 119 g.2.2.2.2 krWI (clC 225 (liPW (pX12_weight f225)) (clC 172 (liPW (pX12_less f172)) clN)) csX12_pairing (cuC 164 (fun l st s => tkC 0 71 l <| tkI 1 l fun x1 => tkI 2 l fun x2 => tkI 3 l fun x3 => tkI 4 l fun x4 => skE st (c164 x1 x2 x3 x4 s)) (cuC 170 (fun l st s => tkC 0 71 l <| tkI 1 l fun x1 => tkI 2 l fun x2 => skE st (c170 x1 x2 s)) cuN)) 1000 89 [(0, aR 71), (1, aI x1), (2, aI x2), (3, aI x3), (4, aI x4)] [] h := fun _ _ => rfl
  rw [e nX12_weight nX12_less] at q
  clear e
  refine segW_wk (by decide) (by decide) hg rwX12_pairing (CLKW_C (liPW_ok (pX12_weight_ok hg)) (CLKW_C (liPW_ok (pX12_less_ok hg)) CLKW_N)) krWI_ok ?_ q
  clear q
  refine ct_C ?_ (ct_C ?_ (ct_N))
  · intro l st h q
    obtain ⟨m0, q1⟩ := tkC_of q
    obtain ⟨x1, m1, q2⟩ := tkI_of q1
    obtain ⟨x2, m2, q3⟩ := tkI_of q2
    obtain ⟨x3, m3, q4⟩ := tkI_of q3
    obtain ⟨x4, m4, q5⟩ := tkI_of q4
    obtain ⟨rfl, q6⟩ := skE_of q5
    exact WK_less (k164 _ _ _ _ _ _ q6) (List.forall_mem_cons.mpr ⟨m0, (List.forall_mem_cons.mpr ⟨m1, (List.forall_mem_cons.mpr ⟨m2, (List.forall_mem_cons.mpr ⟨m3, (List.forall_mem_cons.mpr ⟨m4, (fun _ h => absurd h List.not_mem_nil)⟩)⟩)⟩)⟩)⟩)
  · intro l st h q
    obtain ⟨m0, q1⟩ := tkC_of q
    obtain ⟨x1, m1, q2⟩ := tkI_of q1
    obtain ⟨x2, m2, q3⟩ := tkI_of q2
    obtain ⟨rfl, q4⟩ := skE_of q3
    exact WK_less (k170 _ _ _ _ q4) (List.forall_mem_cons.mpr ⟨m0, (List.forall_mem_cons.mpr ⟨m1, (List.forall_mem_cons.mpr ⟨m2, (fun _ h => absurd h List.not_mem_nil)⟩)⟩)⟩)
def nX12_pairing_89 (c40 : Int → Int → HH → Option (Int × HH)) : Nat → Int → Int → Int → Int → HH → Option (Int × HH) := iter (fun _ _ _ _ _ => none) (fun self => bX12_pairing_89 nX12_weight nX12_less (nX12_pairing_164 c40 self) (nX12_pairing_170 c40))
theorem nX12_pairing_89_s {c40 : Int → Int → HH → Option (Int × HH)} {F : Nat} : nX12_pairing_89 c40 (F + 1) = bX12_pairing_89 nX12_weight nX12_less (nX12_pairing_164 c40 (nX12_pairing_89 c40 F)) (nX12_pairing_170 c40) := rfl
theorem wX12_pairing_89 {g : SG} (hg : GOK g) {σ0 : SG} {c40 : Int → Int → HH → Option (Int × HH)} (k40 : ∀ (x1 : Int) (x2 : Int) (h : HH) (b : (Int × HH)), c40 x1 x2 h = some b → WK 228 (.inl (some (aI b.1))) σ0 (abH 71 119 g b.2) 40 [(0, aR 71), (1, aI x1), (2, aI x2)] [] (abH 71 119 g h) 0 0) : ∀ {F : Nat}, ∀ {x1 : Int} {x2 : Int} {x3 : Int} {x4 : Int} {h : HH} {b : (Int × HH)}, nX12_pairing_89 c40 F x1 x2 x3 x4 h = some b → WK 228 (.inl (some (aI b.1))) σ0 (abH 71 119 g b.2) 89 [(0, aR 71), (1, aI x1), (2, aI x2), (3, aI x3), (4, aI x4)] [] (abH 71 119 g h) 0 0 := by
  intro F
  have z : ∀ (x1 : Int) (x2 : Int) (x3 : Int) (x4 : Int) (h : HH) (b : (Int × HH)), nX12_pairing_89 c40 F x1 x2 x3 x4 h = some b → WK 228 (.inl (some (aI b.1))) σ0 (abH 71 119 g b.2) 89 [(0, aR 71), (1, aI x1), (2, aI x2), (3, aI x3), (4, aI x4)] [] (abH 71 119 g h) 0 0 := iter_ind (P := fun (c : Int → Int → Int → Int → HH → Option (Int × HH)) => ∀ (x1 : Int) (x2 : Int) (x3 : Int) (x4 : Int) (h : HH) (b : (Int × HH)), c x1 x2 x3 x4 h = some b → WK 228 (.inl (some (aI b.1))) σ0 (abH 71 119 g b.2) 89 [(0, aR 71), (1, aI x1), (2, aI x2), (3, aI x3), (4, aI x4)] [] (abH 71 119 g h) 0 0) (by
    intro x1 x2 x3 x4 h b q
    cases q) (fun self ih => by
    intro x1 x2 x3 x4 h b q
    exact uX12_pairing_89 hg (fun _ _ _ _ _ _ q => wX12_pairing_164 hg k40 ih q) (fun _ _ _ _ q => wX12_pairing_170 hg k40 q) q) F
  intro x1 x2 x3 x4 h b q
  exact z _ _ _ _ _ _ q
def bX12_pairing_70 (c70 : Int → Int → Int → HH → Option (Int × HH)) (c89 : Int → Int → Int → Int → HH → Option (Int × HH)) (x1 : Int) (x2 : Int) (x3 : Int) (h : HH) : Option (Int × HH) :=
  if (andI (shrI x2 x3) 1) = (0 : Int) then
    gd (R32 (x3 + 1)) <|
    c70 x1 x2 (x3 + 1) h
  else
    gd (R32 (x3 + 1)) <|
    c89 x1 x2 x3 (x3 + 1) h
theorem uX12_pairing_70 {g : SG} (hg : GOK g) {σ0 : SG} {c70 : Int → Int → Int → HH → Option (Int × HH)} {c89 : Int → Int → Int → Int → HH → Option (Int × HH)} (k70 : ∀ (x1 : Int) (x2 : Int) (x3 : Int) (h : HH) (b : (Int × HH)), c70 x1 x2 x3 h = some b → WK 228 (.inl (some (aI b.1))) σ0 (abH 71 119 g b.2) 70 [(0, aR 71), (1, aI x1), (2, aI x2), (3, aI x3)] [] (abH 71 119 g h) 0 0) (k89 : ∀ (x1 : Int) (x2 : Int) (x3 : Int) (x4 : Int) (h : HH) (b : (Int × HH)), c89 x1 x2 x3 x4 h = some b → WK 228 (.inl (some (aI b.1))) σ0 (abH 71 119 g b.2) 89 [(0, aR 71), (1, aI x1), (2, aI x2), (3, aI x3), (4, aI x4)] [] (abH 71 119 g h) 0 0) : ∀ {x1 : Int} {x2 : Int} {x3 : Int} {h : HH} {b : (Int × HH)}, bX12_pairing_70 c70 c89 x1 x2 x3 h = some b → WK 228 (.inl (some (aI b.1))) σ0 (abH 71 119 g b.2) 70 [(0, aR 71), (1, aI x1), (2, aI x2), (3, aI x3)] [] (abH 71 119 g h) 0 0 := by
  intro x1 x2 x3 h b q
  have e : bX12_pairing_70 c70 c89 x1 x2 x3 h = segW 71 119 g.2.2.2.2 krWI clN csX12_pairing (cuC 70 (fun l st s => tkC 0 71 l <| tkI 1 l fun x1 => tkI 2 l fun x2 => tkI 3 l fun x3 => skE st (c70 x1 x2 x3 s)) (cuC 89 (fun l st s => tkC 0 71 l <| tkI 1 l fun x1 => tkI 2 l fun x2 => tkI 3 l fun x3 => tkI 4 l fun x4 => skE st (c89 x1 x2 x3 x4 s)) cuN)) 1000 70 [(0, aR 71), (1, aI x1), (2, aI x2), (3, aI x3)] [] h := rfl
  rw [e] at q
  clear e
  refine segW_wk (by decide) (by decide) hg rwX12_pairing CLKW_N krWI_ok ?_ q
  clear q
  refine ct_C ?_ (ct_C ?_ (ct_N))
  · intro l st h q
    obtain ⟨m0, q1⟩ := tkC_of q
    obtain ⟨x1, m1, q2⟩ := tkI_of q1
    obtain ⟨x2, m2, q3⟩ := tkI_of q2
    obtain ⟨x3, m3, q4⟩ := tkI_of q3
    obtain ⟨rfl, q5⟩ := skE_of q4
    exact WK_less (k70 _ _ _ _ _ q5) (List.forall_mem_cons.mpr ⟨m0, (List.forall_mem_cons.mpr ⟨m1, (List.forall_mem_cons.mpr ⟨m2, (List.forall_mem_cons.mpr ⟨m3, (fun _ h => absurd h List.not_mem_nil)⟩)⟩)⟩)⟩)
  · intro l st h q
    obtain ⟨m0, q1⟩ := tkC_of q
    obtain ⟨x1, m1, q2⟩ := tkI_of q1
    obtain ⟨x2, m2, q3⟩ := tkI_of q2
    obtain ⟨x3, m3, q4⟩ := tkI_of q3
    obtain ⟨x4, m4, q5⟩ := tkI_of q4
    obtain ⟨rfl, q6⟩ := skE_of q5
    exact WK_less (k89 _ _ _ _ _ _ q6) (List.forall_mem_cons.mpr ⟨m0, (List.forall_mem_cons.mpr ⟨m1, (List.forall_mem_cons.mpr ⟨m2, (List.forall_mem_cons.mpr ⟨m3, (List.forall_mem_cons.mpr ⟨m4, (fun _ h => absurd h List.not_mem_nil)⟩)⟩)⟩)⟩)⟩)
def nX12_pairing_70 (c40 : Int → Int → HH → Option (Int × HH)) : Nat → Int → Int → Int → HH → Option (Int × HH) := iter (fun _ _ _ _ => none) (fun self => bX12_pairing_70 self (nX12_pairing_89 c40 100000))
theorem nX12_pairing_70_s {c40 : Int → Int → HH → Option (Int × HH)} {F : Nat} : nX12_pairing_70 c40 (F + 1) = bX12_pairing_70 (nX12_pairing_70 c40 F) (nX12_pairing_89 c40 100000) := rfl
theorem wX12_pairing_70 {g : SG} (hg : GOK g) {σ0 : SG} {c40 : Int → Int → HH → Option (Int × HH)} (k40 : ∀ (x1 : Int) (x2 : Int) (h : HH) (b : (Int × HH)), c40 x1 x2 h = some b → WK 228 (.inl (some (aI b.1))) σ0 (abH 71 119 g b.2) 40 [(0, aR 71), (1, aI x1), (2, aI x2)] [] (abH 71 119 g h) 0 0) : ∀ {F : Nat}, ∀ {x1 : Int} {x2 : Int} {x3 : Int} {h : HH} {b : (Int × HH)}, nX12_pairing_70 c40 F x1 x2 x3 h = some b → WK 228 (.inl (some (aI b.1))) σ0 (abH 71 119 g b.2) 70 [(0, aR 71), (1, aI x1), (2, aI x2), (3, aI x3)] [] (abH 71 119 g h) 0 0 := by
  intro F
  have z : ∀ (x1 : Int) (x2 : Int) (x3 : Int) (h : HH) (b : (Int × HH)), nX12_pairing_70 c40 F x1 x2 x3 h = some b → WK 228 (.inl (some (aI b.1))) σ0 (abH 71 119 g b.2) 70 [(0, aR 71), (1, aI x1), (2, aI x2), (3, aI x3)] [] (abH 71 119 g h) 0 0 := iter_ind (P := fun (c : Int → Int → Int → HH → Option (Int × HH)) => ∀ (x1 : Int) (x2 : Int) (x3 : Int) (h : HH) (b : (Int × HH)), c x1 x2 x3 h = some b → WK 228 (.inl (some (aI b.1))) σ0 (abH 71 119 g b.2) 70 [(0, aR 71), (1, aI x1), (2, aI x2), (3, aI x3)] [] (abH 71 119 g h) 0 0) (by
    intro x1 x2 x3 h b q
    cases q) (fun self ih => by
    intro x1 x2 x3 h b q
    exact uX12_pairing_70 hg ih (fun _ _ _ _ _ _ q => wX12_pairing_89 hg k40 q) q) F
  intro x1 x2 x3 h b q
  exact z _ _ _ _ _ q
def bX12_pairing_40 (c70 : Int → Int → Int → HH → Option (Int × HH)) (c170 : Int → Int → HH → Option (Int × HH)) (x1 : Int) (x2 : Int) (h : HH) : Option (Int × HH) :=
  if x2 < ((shlI 1 (h.1 71 72)) : Int) then
    gd ((0 : Int) ≤ x2 ∧ x2 < (1024 : Int)) <|
    bnd (some (hI h 117 x2 1000000000)) fun h1 =>
    if (orI x2 x1) = (x1 : Int) then
    c70 x1 x2 0 h1
  else
    c170 x1 x2 h1
  else
    gd ((0 : Int) ≤ x1 ∧ x1 < (1024 : Int)) <|
    some ((h.1 117 x1), h)
theorem uX12_pairing_40 {g : SG} (hg : GOK g) {σ0 : SG} {c70 : Int → Int → Int → HH → Option (Int × HH)} {c170 : Int → Int → HH → Option (Int × HH)} (k70 : ∀ (x1 : Int) (x2 : Int) (x3 : Int) (h : HH) (b : (Int × HH)), c70 x1 x2 x3 h = some b → WK 228 (.inl (some (aI b.1))) σ0 (abH 71 119 g b.2) 70 [(0, aR 71), (1, aI x1), (2, aI x2), (3, aI x3)] [] (abH 71 119 g h) 0 0) (k170 : ∀ (x1 : Int) (x2 : Int) (h : HH) (b : (Int × HH)), c170 x1 x2 h = some b → WK 228 (.inl (some (aI b.1))) σ0 (abH 71 119 g b.2) 170 [(0, aR 71), (1, aI x1), (2, aI x2)] [] (abH 71 119 g h) 0 0) : ∀ {x1 : Int} {x2 : Int} {h : HH} {b : (Int × HH)}, bX12_pairing_40 c70 c170 x1 x2 h = some b → WK 228 (.inl (some (aI b.1))) σ0 (abH 71 119 g b.2) 40 [(0, aR 71), (1, aI x1), (2, aI x2)] [] (abH 71 119 g h) 0 0 := by
  intro x1 x2 h b q
  have e : bX12_pairing_40 c70 c170 x1 x2 h = segW 71 119 g.2.2.2.2 krWI clN csX12_pairing (cuC 70 (fun l st s => tkC 0 71 l <| tkI 1 l fun x1 => tkI 2 l fun x2 => tkI 3 l fun x3 => skE st (c70 x1 x2 x3 s)) (cuC 170 (fun l st s => tkC 0 71 l <| tkI 1 l fun x1 => tkI 2 l fun x2 => skE st (c170 x1 x2 s)) cuN)) 1000 40 [(0, aR 71), (1, aI x1), (2, aI x2)] [] h := rfl
  rw [e] at q
  clear e
  refine segW_wk (by decide) (by decide) hg rwX12_pairing CLKW_N krWI_ok ?_ q
  clear q
  refine ct_C ?_ (ct_C ?_ (ct_N))
  · intro l st h q
    obtain ⟨m0, q1⟩ := tkC_of q
    obtain ⟨x1, m1, q2⟩ := tkI_of q1
    obtain ⟨x2, m2, q3⟩ := tkI_of q2
    obtain ⟨x3, m3, q4⟩ := tkI_of q3
    obtain ⟨rfl, q5⟩ := skE_of q4
    exact WK_less (k70 _ _ _ _ _ q5) (List.forall_mem_cons.mpr ⟨m0, (List.forall_mem_cons.mpr ⟨m1, (List.forall_mem_cons.mpr ⟨m2, (List.forall_mem_cons.mpr ⟨m3, (fun _ h => absurd h List.not_mem_nil)⟩)⟩)⟩)⟩)
  · intro l st h q
    obtain ⟨m0, q1⟩ := tkC_of q
    obtain ⟨x1, m1, q2⟩ := tkI_of q1
    obtain ⟨x2, m2, q3⟩ := tkI_of q2
    obtain ⟨rfl, q4⟩ := skE_of q3
    exact WK_less (k170 _ _ _ _ q4) (List.forall_mem_cons.mpr ⟨m0, (List.forall_mem_cons.mpr ⟨m1, (List.forall_mem_cons.mpr ⟨m2, (fun _ h => absurd h List.not_mem_nil)⟩)⟩)⟩)
def nX12_pairing_40 : Nat → Int → Int → HH → Option (Int × HH) := iter (fun _ _ _ => none) (fun self => bX12_pairing_40 (nX12_pairing_70 self 100000) (nX12_pairing_170 self))
theorem nX12_pairing_40_s {F : Nat} : nX12_pairing_40 (F + 1) = bX12_pairing_40 (nX12_pairing_70 (nX12_pairing_40 F) 100000) (nX12_pairing_170 (nX12_pairing_40 F)) := rfl
theorem wX12_pairing_40 {g : SG} (hg : GOK g) {σ0 : SG} : ∀ {F : Nat}, ∀ {x1 : Int} {x2 : Int} {h : HH} {b : (Int × HH)}, nX12_pairing_40 F x1 x2 h = some b → WK 228 (.inl (some (aI b.1))) σ0 (abH 71 119 g b.2) 40 [(0, aR 71), (1, aI x1), (2, aI x2)] [] (abH 71 119 g h) 0 0 := by
  intro F
  have z : ∀ (x1 : Int) (x2 : Int) (h : HH) (b : (Int × HH)), nX12_pairing_40 F x1 x2 h = some b → WK 228 (.inl (some (aI b.1))) σ0 (abH 71 119 g b.2) 40 [(0, aR 71), (1, aI x1), (2, aI x2)] [] (abH 71 119 g h) 0 0 := iter_ind (P := fun (c : Int → Int → HH → Option (Int × HH)) => ∀ (x1 : Int) (x2 : Int) (h : HH) (b : (Int × HH)), c x1 x2 h = some b → WK 228 (.inl (some (aI b.1))) σ0 (abH 71 119 g b.2) 40 [(0, aR 71), (1, aI x1), (2, aI x2)] [] (abH 71 119 g h) 0 0) (by
    intro x1 x2 h b q
    cases q) (fun self ih => by
    intro x1 x2 h b q
    exact uX12_pairing_40 hg (fun _ _ _ _ _ q => wX12_pairing_70 hg ih q) (fun _ _ _ _ q => wX12_pairing_170 hg ih q) q) F
  intro x1 x2 h b q
  exact z _ _ _ _ q
def bX12_pairing_4 (c4 : Int → Int → HH → Option (Int × HH)) (c40 : Int → Int → HH → Option (Int × HH)) (x1 : Int) (x2 : Int) (h : HH) : Option (Int × HH) :=
  if x2 < ((h.1 71 72) : Int) then
    gd ((0 : Int) ≤ x2 ∧ x2 < (10 : Int)) <|
    gd ((0 : Int) ≤ (h.1 116 x2) ∧ (0 : Int) < 2) <|
    gd (R32 (x2 + 1)) <|
    c4 (orI x1 (shlI ((h.1 116 x2) % 2) x2)) (x2 + 1) h
  else
    gd ((0 : Int) ≤ 0 ∧ 0 < (1024 : Int)) <|
    bnd (some (hI h 117 0 0)) fun h1 =>
    c40 x1 1 h1
set_option maxRecDepth 100000 in
theorem uX12_pairing_4 {g : SG} (hg : GOK g) {σ0 : SG} {c4 : Int → Int → HH → Option (Int × HH)} {c40 : Int → Int → HH → Option (Int × HH)} (k4 : ∀ (x1 : Int) (x2 : Int) (h : HH) (b : (Int × HH)), c4 x1 x2 h = some b → WK 228 (.inl (some (aI b.1))) σ0 (abH 71 119 g b.2) 4 [(0, aR 71), (1, aI x1), (2, aI x2)] [] (abH 71 119 g h) 0 0) (k40 : ∀ (x1 : Int) (x2 : Int) (h : HH) (b : (Int × HH)), c40 x1 x2 h = some b → WK 228 (.inl (some (aI b.1))) σ0 (abH 71 119 g b.2) 40 [(0, aR 71), (1, aI x1), (2, aI x2)] [] (abH 71 119 g h) 0 0) : ∀ {x1 : Int} {x2 : Int} {h : HH} {b : (Int × HH)}, bX12_pairing_4 c4 c40 x1 x2 h = some b → WK 228 (.inl (some (aI b.1))) σ0 (abH 71 119 g b.2) 4 [(0, aR 71), (1, aI x1), (2, aI x2)] [] (abH 71 119 g h) 0 0 := by
  intro x1 x2 h b q
  have e : bX12_pairing_4 c4 c40 x1 x2 h = segW 71 119 g.2.2.2.2 krWI clN csX12_pairing (cuC 4 (fun l st s => tkC 0 71 l <| tkI 1 l fun x1 => tkI 2 l fun x2 => skE st (c4 x1 x2 s)) (cuC 40 (fun l st s => tkC 0 71 l <| tkI 1 l fun x1 => tkI 2 l fun x2 => skE st (c40 x1 x2 s)) cuN)) 1000 4 [(0, aR 71), (1, aI x1), (2, aI x2)] [] h := rfl
  rw [e] at q
  clear e
  refine segW_wk (by decide) (by decide) hg rwX12_pairing CLKW_N krWI_ok ?_ q
  clear q
  refine ct_C ?_ (ct_C ?_ (ct_N))
  · intro l st h q
    obtain ⟨m0, q1⟩ := tkC_of q
    obtain ⟨x1, m1, q2⟩ := tkI_of q1
    obtain ⟨x2, m2, q3⟩ := tkI_of q2
    obtain ⟨rfl, q4⟩ := skE_of q3
    exact WK_less (k4 _ _ _ _ q4) (List.forall_mem_cons.mpr ⟨m0, (List.forall_mem_cons.mpr ⟨m1, (List.forall_mem_cons.mpr ⟨m2, (fun _ h => absurd h List.not_mem_nil)⟩)⟩)⟩)
  · intro l st h q
    obtain ⟨m0, q1⟩ := tkC_of q
    obtain ⟨x1, m1, q2⟩ := tkI_of q1
    obtain ⟨x2, m2, q3⟩ := tkI_of q2
    obtain ⟨rfl, q4⟩ := skE_of q3
    exact WK_less (k40 _ _ _ _ q4) (List.forall_mem_cons.mpr ⟨m0, (List.forall_mem_cons.mpr ⟨m1, (List.forall_mem_cons.mpr ⟨m2, (fun _ h => absurd h List.not_mem_nil)⟩)⟩)⟩)
def nX12_pairing_4 : Nat → Int → Int → HH → Option (Int × HH) := iter (fun _ _ _ => none) (fun self => bX12_pairing_4 self (nX12_pairing_40 100000))
theorem nX12_pairing_4_s {F : Nat} : nX12_pairing_4 (F + 1) = bX12_pairing_4 (nX12_pairing_4 F) (nX12_pairing_40 100000) := rfl
theorem wX12_pairing_4 {g : SG} (hg : GOK g) {σ0 : SG} : ∀ {F : Nat}, ∀ {x1 : Int} {x2 : Int} {h : HH} {b : (Int × HH)}, nX12_pairing_4 F x1 x2 h = some b → WK 228 (.inl (some (aI b.1))) σ0 (abH 71 119 g b.2) 4 [(0, aR 71), (1, aI x1), (2, aI x2)] [] (abH 71 119 g h) 0 0 := by
  intro F
  have z : ∀ (x1 : Int) (x2 : Int) (h : HH) (b : (Int × HH)), nX12_pairing_4 F x1 x2 h = some b → WK 228 (.inl (some (aI b.1))) σ0 (abH 71 119 g b.2) 4 [(0, aR 71), (1, aI x1), (2, aI x2)] [] (abH 71 119 g h) 0 0 := iter_ind (P := fun (c : Int → Int → HH → Option (Int × HH)) => ∀ (x1 : Int) (x2 : Int) (h : HH) (b : (Int × HH)), c x1 x2 h = some b → WK 228 (.inl (some (aI b.1))) σ0 (abH 71 119 g b.2) 4 [(0, aR 71), (1, aI x1), (2, aI x2)] [] (abH 71 119 g h) 0 0) (by
    intro x1 x2 h b q
    cases q) (fun self ih => by
    intro x1 x2 h b q
    exact uX12_pairing_4 hg ih (fun _ _ _ _ q => wX12_pairing_40 hg q) q) F
  intro x1 x2 h b q
  exact z _ _ _ _ q
def bX12_pairing (c4 : Int → Int → HH → Option (Int × HH)) (h : HH) : Option (Int × HH) :=
  c4 0 0 h
theorem uX12_pairing {g : SG} (hg : GOK g) {σ0 : SG} {c4 : Int → Int → HH → Option (Int × HH)} (k4 : ∀ (x1 : Int) (x2 : Int) (h : HH) (b : (Int × HH)), c4 x1 x2 h = some b → WK 228 (.inl (some (aI b.1))) σ0 (abH 71 119 g b.2) 4 [(0, aR 71), (1, aI x1), (2, aI x2)] [] (abH 71 119 g h) 0 0) : ∀ {h : HH} {b : (Int × HH)}, bX12_pairing c4 h = some b → WK 228 (.inl (some (aI b.1))) σ0 (abH 71 119 g b.2) 0 [(0, aR 71)] [] (abH 71 119 g h) 0 0 := by
  intro h b q
  have e : bX12_pairing c4 h = segW 71 119 g.2.2.2.2 krWI clN csX12_pairing (cuC 4 (fun l st s => tkC 0 71 l <| tkI 1 l fun x1 => tkI 2 l fun x2 => skE st (c4 x1 x2 s)) cuN) 1000 0 [(0, aR 71)] [] h := rfl
  rw [e] at q
  clear e
  refine segW_wk (by decide) (by decide) hg rwX12_pairing CLKW_N krWI_ok ?_ q
  clear q
  refine ct_C ?_ (ct_N)
  · intro l st h q
    obtain ⟨m0, q1⟩ := tkC_of q
    obtain ⟨x1, m1, q2⟩ := tkI_of q1
    obtain ⟨x2, m2, q3⟩ := tkI_of q2
    obtain ⟨rfl, q4⟩ := skE_of q3
    exact WK_less (k4 _ _ _ _ q4) (List.forall_mem_cons.mpr ⟨m0, (List.forall_mem_cons.mpr ⟨m1, (List.forall_mem_cons.mpr ⟨m2, (fun _ h => absurd h List.not_mem_nil)⟩)⟩)⟩)
def nX12_pairing (h : HH) : Option (Int × HH) := bX12_pairing (nX12_pairing_4 100000) h
theorem wX12_pairing {g : SG} (hg : GOK g) {σ0 : SG} : ∀ {h : HH} {b : (Int × HH)}, nX12_pairing h = some b → WK 228 (.inl (some (aI b.1))) σ0 (abH 71 119 g b.2) 0 [(0, aR 71)] [] (abH 71 119 g h) 0 0 := by
  intro h b q
  exact uX12_pairing hg (fun _ _ _ _ q => wX12_pairing_4 hg q) q
theorem mX12_pairing {g : SG} (hg : GOK g) {h : HH} {b : (Int × HH)} (q : nX12_pairing h = some b) : MCT 228 [] [aR 71] (abH 71 119 g h) (.inl (some (aI b.1))) (abH 71 119 g b.2) :=
  mct_of (by decide) (MFok 228 (by decide +kernel)) (fun _ => Nat.le_of_ble_eq_true rfl) (wX12_pairing hg q)
def pX12_pairing {β : Type} (z : HH → Option (Int × HH)) : PW β := fun as h f => skC 71 as fun as => skE as (bnd (z h) fun r => f (.inl (some (aI r.1))) r.2)
theorem pX12_pairing_ok {β : Type} {g : SG} (hg : GOK g) : CW1 (β := β) 228 (pX12_pairing nX12_pairing) 71 119 g := fun as h f b q => by
  obtain ⟨as, rfl, q1⟩ := skC_of q
  obtain ⟨rfl, q0⟩ := skE_of q1
  obtain ⟨r, z1, z2⟩ := bnd_of q0
  exact ⟨_, _, z2, by decide, mX12_pairing hg z1, rfl, rfl, fun z => absurd z (by decide)⟩
