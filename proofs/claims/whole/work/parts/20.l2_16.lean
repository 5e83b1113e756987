def csX12_errors : List (Nat × List (Nat × ARow)) := [(42, [(0, 1, .aload_n 0, 0, 0, 0), (1, 3, .invokevirtual 448, 269, 1, 12), (4, 3, .ifCond .eq 7, 11, 0, 0), (7, 1, .iconst 0, 0, 0, 0), (8, 3, .goto 4, 12, 0, 0), (11, 1, .iconst 1, 0, 0, 0), (12, 1, .istore_n 1, 0, 0, 0), (13, 1, .iconst 0, 0, 0, 0), (14, 1, .istore_n 2, 0, 0, 0), (15, 1, .iload_n 2, 0, 0, 0), (16, 1, .aload_n 0, 0, 0, 0), (17, 3, .getfield 185, 12, 27, 0), (20, 3, .if_icmp .ge 17, 37, 0, 0), (23, 1, .iload_n 1, 0, 0, 0), (24, 1, .aload_n 0, 0, 0, 0), (25, 1, .iload_n 2, 0, 0, 0), (26, 3, .invokevirtual 451, 272, 2, 12), (29, 1, .iadd, 0, 0, 0), (30, 1, .istore_n 1, 0, 0, 0), (31, 3, .iinc 2 1, 0, 0, 0), (34, 3, .goto (-19), 15, 0, 0), (37, 1, .aload_n 0, 0, 0, 0), (38, 3, .invokevirtual 377, 236, 1, 12), (41, 1, .iconst (-1), 0, 0, 0)]),
  (84, [(42, 3, .if_icmp .ne 48, 90, 0, 0), (45, 1, .aload_n 0, 0, 0, 0), (46, 3, .getfield 101, 12, 36, 0), (49, 1, .aload_n 0, 0, 0, 0), (50, 3, .getfield 371, 12, 75, 0), (53, 1, .isub, 0, 0, 0), (54, 1, .istore_n 2, 0, 0, 0), (55, 1, .iload_n 1, 0, 0, 0), (56, 1, .aload_n 0, 0, 0, 0), (57, 1, .iload_n 2, 0, 0, 0), (58, 3, .invokevirtual 383, 240, 2, 12), (61, 1, .iload_n 2, 0, 0, 0), (62, 3, .if_icmp .lt 25, 87, 0, 0), (65, 1, .iload_n 2, 0, 0, 0), (66, 3, .sipush 900, 0, 0, 0), (69, 3, .if_icmp .eq 14, 83, 0, 0), (72, 1, .aload_n 0, 0, 0, 0), (73, 1, .iload_n 2, 0, 0, 0), (74, 1, .iconst 1, 0, 0, 0), (75, 1, .iadd, 0, 0, 0), (76, 3, .invokevirtual 383, 240, 2, 12), (79, 1, .iconst (-1), 0, 0, 0), (80, 3, .if_icmp .ne 7, 87, 0, 0), (83, 1, .iconst 0, 0, 0, 0)]),
  (125, [(84, 3, .goto 4, 88, 0, 0), (87, 1, .iconst 1, 0, 0, 0), (88, 1, .iadd, 0, 0, 0), (89, 1, .istore_n 1, 0, 0, 0), (90, 1, .aload_n 0, 0, 0, 0), (91, 3, .getfield 185, 12, 27, 0), (94, 3, .ifCond .le 48, 142, 0, 0), (97, 1, .aload_n 0, 0, 0, 0), (98, 3, .invokevirtual 423, 259, 1, 12), (101, 3, .ifCond .eq 41, 142, 0, 0), (104, 1, .iload_n 1, 0, 0, 0), (105, 1, .aload_n 0, 0, 0, 0), (106, 1, .iconst 0, 0, 0, 0), (107, 3, .invokevirtual 426, 260, 2, 12), (110, 1, .aload_n 0, 0, 0, 0), (111, 1, .iconst 1, 0, 0, 0), (112, 3, .invokevirtual 426, 260, 2, 12), (115, 1, .iadd, 0, 0, 0), (116, 1, .aload_n 0, 0, 0, 0), (117, 1, .iconst 2, 0, 0, 0), (118, 3, .invokevirtual 426, 260, 2, 12), (121, 1, .iadd, 0, 0, 0), (122, 2, .bipush 6, 0, 0, 0), (124, 1, .aload_n 0, 0, 0, 0)]),
  (100000, [(125, 3, .getfield 166, 12, 77, 2), (128, 2, .bipush 7, 0, 0, 0), (130, 1, .iaload, 0, 0, 0), (131, 1, .imul, 0, 0, 0), (132, 3, .if_icmp .ne 7, 139, 0, 0), (135, 1, .iconst 0, 0, 0, 0), (136, 3, .goto 4, 140, 0, 0), (139, 1, .iconst 1, 0, 0, 0), (140, 1, .iadd, 0, 0, 0), (141, 1, .istore_n 1, 0, 0, 0), (142, 1, .aload_n 0, 0, 0, 0), (143, 1, .iload_n 1, 0, 0, 0), (144, 3, .invokevirtual 209, 178, 2, 12), (147, 1, .ireturn, 0, 0, 0)])]
theorem rwX12_errors : rowsB (mB 273) (mO 273) (mX 273) (mIni 273) (mFr 273) (mLo 273) (mT 273) csX12_errors = true := by decide +kernel
def bX12_errors_142 (f178 : Int → HH → Option (Int × HH)) (x1 : Int) (h : HH) : Option (Int × HH) :=
  bnd (f178 x1 h) fun r1 =>
    some (r1.1, r1.2)
theorem uX12_errors_142 {g : SG} (hg : GOK g) {σ0 : SG} : ∀ {x1 : Int} {h : HH} {b : (Int × HH)}, bX12_errors_142 nX12_told x1 h = some b → WK 273 (.inl (some (aI b.1))) σ0 (abH 71 119 g b.2) 142 [(0, aR 71), (1, aI x1)] [] (abH 71 119 g h) 0 0 := by
  intro x1 h b q
  have e : ∀ (f178 : Int → HH → Option (Int × HH)) , bX12_errors_142 f178 x1 h = segW 71 119 g.2.2.2.2 krWI (clC 178 (pX12_told f178) clN) csX12_errors cuN 1000 142 [(0, aR 71), (1, aI x1)] [] h := fun _ => rfl
  rw [e nX12_told] at q
  clear e
  refine segW_wk (by decide) (by decide) hg rwX12_errors (CLKW_C (pX12_told_ok hg) CLKW_N) krWI_ok ?_ q
  clear q
  exact ct_N
def nX12_errors_142 (x1 : Int) (h : HH) : Option (Int × HH) := bX12_errors_142 nX12_told x1 h
theorem wX12_errors_142 {g : SG} (hg : GOK g) {σ0 : SG} : ∀ {x1 : Int} {h : HH} {b : (Int × HH)}, nX12_errors_142 x1 h = some b → WK 273 (.inl (some (aI b.1))) σ0 (abH 71 119 g b.2) 142 [(0, aR 71), (1, aI x1)] [] (abH 71 119 g h) 0 0 := by
  intro x1 h b q
  exact uX12_errors_142 hg q
def bX12_errors_140 (c142 : Int → HH → Option (Int × HH)) (y0 : Int) (y1 : Int) (h : HH) : Option (Int × HH) :=
  gd (R32 (y1 + y0)) <|
    c142 (y1 + y0) h
theorem uX12_errors_140 {g : SG} (hg : GOK g) {σ0 : SG} {c142 : Int → HH → Option (Int × HH)} (k142 : ∀ (x1 : Int) (h : HH) (b : (Int × HH)), c142 x1 h = some b → WK 273 (.inl (some (aI b.1))) σ0 (abH 71 119 g b.2) 142 [(0, aR 71), (1, aI x1)] [] (abH 71 119 g h) 0 0) : ∀ {y0 : Int} {y1 : Int} {h : HH} {b : (Int × HH)}, bX12_errors_140 c142 y0 y1 h = some b → WK 273 (.inl (some (aI b.1))) σ0 (abH 71 119 g b.2) 140 [(0, aR 71)] [aI y0, aI y1] (abH 71 119 g h) 0 0 := by
  intro y0 y1 h b q
  have e : bX12_errors_140 c142 y0 y1 h = segW 71 119 g.2.2.2.2 krWI clN csX12_errors (cuC 142 (fun l st s => tkC 0 71 l <| tkI 1 l fun x1 => skE st (c142 x1 s)) cuN) 1000 140 [(0, aR 71)] [aI y0, aI y1] h := rfl
  rw [e] at q
  clear e
  refine segW_wk (by decide) (by decide) hg rwX12_errors CLKW_N krWI_ok ?_ q
  clear q
  refine ct_C ?_ (ct_N)
  · intro l st h q
    obtain ⟨m0, q1⟩ := tkC_of q
    obtain ⟨x1, m1, q2⟩ := tkI_of q1
    obtain ⟨rfl, q3⟩ := skE_of q2
    exact WK_less (k142 _ _ _ q3) (List.forall_mem_cons.mpr ⟨m0, (List.forall_mem_cons.mpr ⟨m1, (fun _ h => absurd h List.not_mem_nil)⟩)⟩)
def nX12_errors_140 (y0 : Int) (y1 : Int) (h : HH) : Option (Int × HH) := bX12_errors_140 nX12_errors_142 y0 y1 h
theorem wX12_errors_140 {g : SG} (hg : GOK g) {σ0 : SG} : ∀ {y0 : Int} {y1 : Int} {h : HH} {b : (Int × HH)}, nX12_errors_140 y0 y1 h = some b → WK 273 (.inl (some (aI b.1))) σ0 (abH 71 119 g b.2) 140 [(0, aR 71)] [aI y0, aI y1] (abH 71 119 g h) 0 0 := by
  intro y0 y1 h b q
  exact uX12_errors_140 hg (fun _ _ _ q => wX12_errors_142 hg q) q
def bX12_errors_90 (f259 : HH → Option (Int × HH)) (f260 : HH → Int → Option Int) (c140 : Int → Int → HH → Option (Int × HH)) (c142 : Int → HH → Option (Int × HH)) (x1 : Int) (h : HH) : Option (Int × HH) :=
  if (0 : Int) < (h.1 71 27) then
    bnd (f259 h) fun r1 =>
    if r1.1 = (0 : Int) then
    c142 x1 r1.2
  else
    bnd (f260 r1.2 0) fun r2 =>
    bnd (f260 r1.2 1) fun r3 =>
    gd (R32 (r2 + r3)) <|
    bnd (f260 r1.2 2) fun r4 =>
    gd (R32 ((r2 + r3) + r4)) <|
    gd ((0 : Int) ≤ 7 ∧ 7 < (8 : Int)) <|
    gd (R32 (6 * (r1.2.1 118 7))) <|
    if ((r2 + r3) + r4) = ((6 * (r1.2.1 118 7)) : Int) then
    c140 0 x1 r1.2
  else
    c140 1 x1 r1.2
  else
    c142 x1 h
set_option maxRecDepth 100000 in
theorem uX12_errors_90 {g : SG} (hg : GOK g) {σ0 : SG} {c140 : Int → Int → HH → Option (Int × HH)} {c142 : Int → HH → Option (Int × HH)} (k140 : ∀ (y0 : Int) (y1 : Int) (h : HH) (b : (Int × HH)), c140 y0 y1 h = some b → WK 273 (.inl (some (aI b.1))) σ0 (abH 71 119 g b.2) 140 [(0, aR 71)] [aI y0, aI y1] (abH 71 119 g h) 0 0) (k142 : ∀ (x1 : Int) (h : HH) (b : (Int × HH)), c142 x1 h = some b → WK 273 (.inl (some (aI b.1))) σ0 (abH 71 119 g b.2) 142 [(0, aR 71), (1, aI x1)] [] (abH 71 119 g h) 0 0) : ∀ {x1 : Int} {h : HH} {b : (Int × HH)}, bX12_errors_90 nX12_reckons nX12_shareOf c140 c142 x1 h = some b → WK 273 (.inl (some (aI b.1))) σ0 (abH 71 119 g b.2) 90 [(0, aR 71), (1, aI x1)] [] (abH 71 119 g h) 0 0 := by
  intro x1 h b q
  have e : ∀ (f259 : HH → Option (Int × HH)) (f260 : HH → Int → Option Int) , bX12_errors_90 f259 f260 c140 c142 x1 h = segW 71 119 g.2.2.2.2 krWI (clC 259 (pX12_reckons f259) (clC 260 (liPW (pX12_shareOf f260)) clN)) csX12_errors (cuC 140 (fun l st s => tkC 0 71 l <| skI st fun y0 st => skI st fun y1 st => skE st (c140 y0 y1 s)) (cuC 142 (fun l st s => tkC 0 71 l <| tkI 1 l fun x1 => skE st (c142 x1 s)) cuN)) 1000 90 [(0, aR 71), (1, aI x1)] [] h := fun _ _ => rfl
  rw [e nX12_reckons nX12_shareOf] at q
  clear e
  refine segW_wk (by decide) (by decide) hg rwX12_errors (CLKW_C (pX12_reckons_ok hg) (CLKW_C (liPW_ok (pX12_shareOf_ok hg)) CLKW_N)) krWI_ok ?_ q
  clear q
  refine ct_C ?_ (ct_C ?_ (ct_N))
  · intro l st h q
    obtain ⟨m0, q1⟩ := tkC_of q
    obtain ⟨y0, t0, rfl, q2⟩ := skI_of q1
    obtain ⟨y1, t1, rfl, q3⟩ := skI_of q2
    obtain ⟨rfl, q4⟩ := skE_of q3
    exact WK_less (k140 _ _ _ _ q4) (List.forall_mem_cons.mpr ⟨m0, (fun _ h => absurd h List.not_mem_nil)⟩)
  · intro l st h q
    obtain ⟨m0, q1⟩ := tkC_of q
    obtain ⟨x1, m1, q2⟩ := tkI_of q1
    obtain ⟨rfl, q3⟩ := skE_of q2
    exact WK_less (k142 _ _ _ q3) (List.forall_mem_cons.mpr ⟨m0, (List.forall_mem_cons.mpr ⟨m1, (fun _ h => absurd h List.not_mem_nil)⟩)⟩)
def nX12_errors_90 (x1 : Int) (h : HH) : Option (Int × HH) := bX12_errors_90 nX12_reckons nX12_shareOf nX12_errors_140 nX12_errors_142 x1 h
theorem wX12_errors_90 {g : SG} (hg : GOK g) {σ0 : SG} : ∀ {x1 : Int} {h : HH} {b : (Int × HH)}, nX12_errors_90 x1 h = some b → WK 273 (.inl (some (aI b.1))) σ0 (abH 71 119 g b.2) 90 [(0, aR 71), (1, aI x1)] [] (abH 71 119 g h) 0 0 := by
  intro x1 h b q
  exact uX12_errors_90 hg (fun _ _ _ _ q => wX12_errors_140 hg q) (fun _ _ _ q => wX12_errors_142 hg q) q
def bX12_errors_88 (c90 : Int → HH → Option (Int × HH)) (y0 : Int) (y1 : Int) (h : HH) : Option (Int × HH) :=
  gd (R32 (y1 + y0)) <|
    c90 (y1 + y0) h
theorem uX12_errors_88 {g : SG} (hg : GOK g) {σ0 : SG} {c90 : Int → HH → Option (Int × HH)} (k90 : ∀ (x1 : Int) (h : HH) (b : (Int × HH)), c90 x1 h = some b → WK 273 (.inl (some (aI b.1))) σ0 (abH 71 119 g b.2) 90 [(0, aR 71), (1, aI x1)] [] (abH 71 119 g h) 0 0) : ∀ {y0 : Int} {y1 : Int} {h : HH} {b : (Int × HH)}, bX12_errors_88 c90 y0 y1 h = some b → WK 273 (.inl (some (aI b.1))) σ0 (abH 71 119 g b.2) 88 [(0, aR 71)] [aI y0, aI y1] (abH 71 119 g h) 0 0 := by
  intro y0 y1 h b q
  have e : bX12_errors_88 c90 y0 y1 h = segW 71 119 g.2.2.2.2 krWI clN csX12_errors (cuC 90 (fun l st s => tkC 0 71 l <| tkI 1 l fun x1 => skE st (c90 x1 s)) cuN) 1000 88 [(0, aR 71)] [aI y0, aI y1] h := rfl
  rw [e] at q
  clear e
  refine segW_wk (by decide) (by decide) hg rwX12_errors CLKW_N krWI_ok ?_ q
  clear q
  refine ct_C ?_ (ct_N)
  · intro l st h q
    obtain ⟨m0, q1⟩ := tkC_of q
    obtain ⟨x1, m1, q2⟩ := tkI_of q1
    obtain ⟨rfl, q3⟩ := skE_of q2
    exact WK_less (k90 _ _ _ q3) (List.forall_mem_cons.mpr ⟨m0, (List.forall_mem_cons.mpr ⟨m1, (fun _ h => absurd h List.not_mem_nil)⟩)⟩)
def nX12_errors_88 (y0 : Int) (y1 : Int) (h : HH) : Option (Int × HH) := bX12_errors_88 nX12_errors_90 y0 y1 h
theorem wX12_errors_88 {g : SG} (hg : GOK g) {σ0 : SG} : ∀ {y0 : Int} {y1 : Int} {h : HH} {b : (Int × HH)}, nX12_errors_88 y0 y1 h = some b → WK 273 (.inl (some (aI b.1))) σ0 (abH 71 119 g b.2) 88 [(0, aR 71)] [aI y0, aI y1] (abH 71 119 g h) 0 0 := by
  intro y0 y1 h b q
  exact uX12_errors_88 hg (fun _ _ _ q => wX12_errors_90 hg q) q
def bX12_errors_87 (c88 : Int → Int → HH → Option (Int × HH)) (y0 : Int) (h : HH) : Option (Int × HH) :=
  c88 1 y0 h
theorem uX12_errors_87 {g : SG} (hg : GOK g) {σ0 : SG} {c88 : Int → Int → HH → Option (Int × HH)} (k88 : ∀ (y0 : Int) (y1 : Int) (h : HH) (b : (Int × HH)), c88 y0 y1 h = some b → WK 273 (.inl (some (aI b.1))) σ0 (abH 71 119 g b.2) 88 [(0, aR 71)] [aI y0, aI y1] (abH 71 119 g h) 0 0) : ∀ {y0 : Int} {h : HH} {b : (Int × HH)}, bX12_errors_87 c88 y0 h = some b → WK 273 (.inl (some (aI b.1))) σ0 (abH 71 119 g b.2) 87 [(0, aR 71)] [aI y0] (abH 71 119 g h) 0 0 := by
  intro y0 h b q
  have e : bX12_errors_87 c88 y0 h = segW 71 119 g.2.2.2.2 krWI clN csX12_errors (cuC 88 (fun l st s => tkC 0 71 l <| skI st fun y0 st => skI st fun y1 st => skE st (c88 y0 y1 s)) cuN) 1000 87 [(0, aR 71)] [aI y0] h := rfl
  rw [e] at q
  clear e
  refine segW_wk (by decide) (by decide) hg rwX12_errors CLKW_N krWI_ok ?_ q
  clear q
  refine ct_C ?_ (ct_N)
  · intro l st h q
    obtain ⟨m0, q1⟩ := tkC_of q
    obtain ⟨y0, t0, rfl, q2⟩ := skI_of q1
    obtain ⟨y1, t1, rfl, q3⟩ := skI_of q2
    obtain ⟨rfl, q4⟩ := skE_of q3
    exact WK_less (k88 _ _ _ _ q4) (List.forall_mem_cons.mpr ⟨m0, (fun _ h => absurd h List.not_mem_nil)⟩)
def nX12_errors_87 (y0 : Int) (h : HH) : Option (Int × HH) := bX12_errors_87 nX12_errors_88 y0 h
theorem wX12_errors_87 {g : SG} (hg : GOK g) {σ0 : SG} : ∀ {y0 : Int} {h : HH} {b : (Int × HH)}, nX12_errors_87 y0 h = some b → WK 273 (.inl (some (aI b.1))) σ0 (abH 71 119 g b.2) 87 [(0, aR 71)] [aI y0] (abH 71 119 g h) 0 0 := by
  intro y0 h b q
  exact uX12_errors_87 hg (fun _ _ _ _ q => wX12_errors_88 hg q) q
def bX12_errors_83 (c88 : Int → Int → HH → Option (Int × HH)) (y0 : Int) (h : HH) : Option (Int × HH) :=
  c88 0 y0 h
theorem uX12_errors_83 {g : SG} (hg : GOK g) {σ0 : SG} {c88 : Int → Int → HH → Option (Int × HH)} (k88 : ∀ (y0 : Int) (y1 : Int) (h : HH) (b : (Int × HH)), c88 y0 y1 h = some b → WK 273 (.inl (some (aI b.1))) σ0 (abH 71 119 g b.2) 88 [(0, aR 71)] [aI y0, aI y1] (abH 71 119 g h) 0 0) : ∀ {y0 : Int} {h : HH} {b : (Int × HH)}, bX12_errors_83 c88 y0 h = some b → WK 273 (.inl (some (aI b.1))) σ0 (abH 71 119 g b.2) 83 [(0, aR 71)] [aI y0] (abH 71 119 g h) 0 0 := by
  intro y0 h b q
  have e : bX12_errors_83 c88 y0 h = segW 71 119 g.2.2.2.2 krWI clN csX12_errors (cuC 88 (fun l st s => tkC 0 71 l <| skI st fun y0 st => skI st fun y1 st => skE st (c88 y0 y1 s)) cuN) 1000 83 [(0, aR 71)] [aI y0] h := rfl
  rw [e] at q
  clear e
  refine segW_wk (by decide) (by decide) hg rwX12_errors CLKW_N krWI_ok ?_ q
  clear q
  refine ct_C ?_ (ct_N)
  · intro l st h q
    obtain ⟨m0, q1⟩ := tkC_of q
    obtain ⟨y0, t0, rfl, q2⟩ := skI_of q1
    obtain ⟨y1, t1, rfl, q3⟩ := skI_of q2
    obtain ⟨rfl, q4⟩ := skE_of q3
    exact WK_less (k88 _ _ _ _ q4) (List.forall_mem_cons.mpr ⟨m0, (fun _ h => absurd h List.not_mem_nil)⟩)
def nX12_errors_83 (y0 : Int) (h : HH) : Option (Int × HH) := bX12_errors_83 nX12_errors_88 y0 h
theorem wX12_errors_83 {g : SG} (hg : GOK g) {σ0 : SG} : ∀ {y0 : Int} {h : HH} {b : (Int × HH)}, nX12_errors_83 y0 h = some b → WK 273 (.inl (some (aI b.1))) σ0 (abH 71 119 g b.2) 83 [(0, aR 71)] [aI y0] (abH 71 119 g h) 0 0 := by
  intro y0 h b q
  exact uX12_errors_83 hg (fun _ _ _ _ q => wX12_errors_88 hg q) q
def bX12_errors_15 (f236 : HH → Option (Int × HH)) (f240 : Int → HH → Option (Int × HH)) (f272 : Int → HH → Option (Int × HH)) (c15 : Int → Int → HH → Option (Int × HH)) (c83 : Int → HH → Option (Int × HH)) (c87 : Int → HH → Option (Int × HH)) (c90 : Int → HH → Option (Int × HH)) (x1 : Int) (x2 : Int) (h : HH) : Option (Int × HH) :=
  if x2 < ((h.1 71 27) : Int) then
    bnd (f272 x2 h) fun r4 =>
    gd (R32 (x1 + r4.1)) <|
    gd (R32 (x2 + 1)) <|
    c15 (x1 + r4.1) (x2 + 1) r4.2
  else
    bnd (f236 h) fun r1 =>
    if r1.1 = ((-1) : Int) then
    gd (R32 ((r1.2.1 71 36) - (r1.2.1 71 75))) <|
    bnd (f240 ((r1.2.1 71 36) - (r1.2.1 71 75)) r1.2) fun r2 =>
    if r2.1 < (((r1.2.1 71 36) - (r1.2.1 71 75)) : Int) then
    c87 x1 r2.2
  else
    if ((r1.2.1 71 36) - (r1.2.1 71 75)) = (900 : Int) then
    c83 x1 r2.2
  else
    gd (R32 (((r1.2.1 71 36) - (r1.2.1 71 75)) + 1)) <|
    bnd (f240 (((r1.2.1 71 36) - (r1.2.1 71 75)) + 1) r2.2) fun r3 =>
    if r3.1 = ((-1) : Int) then
    c83 x1 r3.2
  else
    c87 x1 r3.2
  else
    c90 x1 r1.2
set_option maxRecDepth 100000 in
theorem uX12_errors_15 {g : SG} (hg : GOK g) {σ0 : SG} {c15 : Int → Int → HH → Option (Int × HH)} {c83 : Int → HH → Option (Int × HH)} {c87 : Int → HH → Option (Int × HH)} {c90 : Int → HH → Option (Int × HH)} (k15 : ∀ (x1 : Int) (x2 : Int) (h : HH) (b : (Int × HH)), c15 x1 x2 h = some b → WK 273 (.inl (some (aI b.1))) σ0 (abH 71 119 g b.2) 15 [(0, aR 71), (1, aI x1), (2, aI x2)] [] (abH 71 119 g h) 0 0) (k83 : ∀ (y0 : Int) (h : HH) (b : (Int × HH)), c83 y0 h = some b → WK 273 (.inl (some (aI b.1))) σ0 (abH 71 119 g b.2) 83 [(0, aR 71)] [aI y0] (abH 71 119 g h) 0 0) (k87 : ∀ (y0 : Int) (h : HH) (b : (Int × HH)), c87 y0 h = some b → WK 273 (.inl (some (aI b.1))) σ0 (abH 71 119 g b.2) 87 [(0, aR 71)] [aI y0] (abH 71 119 g h) 0 0) (k90 : ∀ (x1 : Int) (h : HH) (b : (Int × HH)), c90 x1 h = some b → WK 273 (.inl (some (aI b.1))) σ0 (abH 71 119 g b.2) 90 [(0, aR 71), (1, aI x1)] [] (abH 71 119 g h) 0 0) : ∀ {x1 : Int} {x2 : Int} {h : HH} {b : (Int × HH)}, bX12_errors_15 nX12_goesThrough nX12_leastFor nX12_errorsOf c15 c83 c87 c90 x1 x2 h = some b → WK 273 (.inl (some (aI b.1))) σ0 (abH 71 119 g b.2) 15 [(0, aR 71), (1, aI x1), (2, aI x2)] [] (abH 71 119 g h) 0 0 := by
  intro x1 x2 h b q
  have e : ∀ (f236 : HH → Option (Int × HH)) (f240 : Int → HH → Option (Int × HH)) (f272 : Int → HH → Option (Int × HH)) , bX12_errors_15 f236 f240 f272 c15 c83 c87 c90 x1 x2 h = segW 71 119 g.2.2.2.2 krWI (clC 236 (pX12_goesThrough f236) (clC 240 (pX12_leastFor f240) (clC 272 (pX12_errorsOf f272) clN))) csX12_errors (cuC 15 (fun l st s => tkC 0 71 l <| tkI 1 l fun x1 => tkI 2 l fun x2 => skE st (c15 x1 x2 s)) (cuC 83 (fun l st s => tkC 0 71 l <| skI st fun y0 st => skE st (c83 y0 s)) (cuC 87 (fun l st s => tkC 0 71 l <| skI st fun y0 st => skE st (c87 y0 s)) (cuC 90 (fun l st s => tkC 0 71 l <| tkI 1 l fun x1 => skE st (c90 x1 s)) cuN)))) 1000 15 [(0, aR 71), (1, aI x1), (2, aI x2)] [] h := fun _ _ _ => rfl
  rw [e nX12_goesThrough nX12_leastFor nX12_errorsOf] at q
  clear e
  refine segW_wk (by decide) (by decide) hg rwX12_errors (CLKW_C (pX12_goesThrough_ok hg) (CLKW_C (pX12_leastFor_ok hg) (CLKW_C (pX12_errorsOf_ok hg) CLKW_N))) krWI_ok ?_ q
  clear q
  refine ct_C ?_ (ct_C ?_ (ct_C ?_ (ct_C ?_ (ct_N))))
  · intro l st h q
    obtain ⟨m0, q1⟩ := tkC_of q
    obtain ⟨x1, m1, q2⟩ := tkI_of q1
    obtain ⟨x2, m2, q3⟩ := tkI_of q2
    obtain ⟨rfl, q4⟩ := skE_of q3
    exact WK_less (k15 _ _ _ _ q4) (List.forall_mem_cons.mpr ⟨m0, (List.forall_mem_cons.mpr ⟨m1, (List.forall_mem_cons.mpr ⟨m2, (fun _ h => absurd h List.not_mem_nil)⟩)⟩)⟩)
  · intro l st h q
    obtain ⟨m0, q1⟩ := tkC_of q
    obtain ⟨y0, t0, rfl, q2⟩ := skI_of q1
    obtain ⟨rfl, q3⟩ := skE_of q2
    exact WK_less (k83 _ _ _ q3) (List.forall_mem_cons.mpr ⟨m0, (fun _ h => absurd h List.not_mem_nil)⟩)
  · intro l st h q
    obtain ⟨m0, q1⟩ := tkC_of q
    obtain ⟨y0, t0, rfl, q2⟩ := skI_of q1
    obtain ⟨rfl, q3⟩ := skE_of q2
    exact WK_less (k87 _ _ _ q3) (List.forall_mem_cons.mpr ⟨m0, (fun _ h => absurd h List.not_mem_nil)⟩)
  · intro l st h q
    obtain ⟨m0, q1⟩ := tkC_of q
    obtain ⟨x1, m1, q2⟩ := tkI_of q1
    obtain ⟨rfl, q3⟩ := skE_of q2
    exact WK_less (k90 _ _ _ q3) (List.forall_mem_cons.mpr ⟨m0, (List.forall_mem_cons.mpr ⟨m1, (fun _ h => absurd h List.not_mem_nil)⟩)⟩)
def nX12_errors_15 : Nat → Int → Int → HH → Option (Int × HH) := iter (fun _ _ _ => none) (fun self => bX12_errors_15 nX12_goesThrough nX12_leastFor nX12_errorsOf self nX12_errors_83 nX12_errors_87 nX12_errors_90)
theorem nX12_errors_15_s {F : Nat} : nX12_errors_15 (F + 1) = bX12_errors_15 nX12_goesThrough nX12_leastFor nX12_errorsOf (nX12_errors_15 F) nX12_errors_83 nX12_errors_87 nX12_errors_90 := rfl
theorem wX12_errors_15 {g : SG} (hg : GOK g) {σ0 : SG} : ∀ {F : Nat}, ∀ {x1 : Int} {x2 : Int} {h : HH} {b : (Int × HH)}, nX12_errors_15 F x1 x2 h = some b → WK 273 (.inl (some (aI b.1))) σ0 (abH 71 119 g b.2) 15 [(0, aR 71), (1, aI x1), (2, aI x2)] [] (abH 71 119 g h) 0 0 := by
  intro F
  have z : ∀ (x1 : Int) (x2 : Int) (h : HH) (b : (Int × HH)), nX12_errors_15 F x1 x2 h = some b → WK 273 (.inl (some (aI b.1))) σ0 (abH 71 119 g b.2) 15 [(0, aR 71), (1, aI x1), (2, aI x2)] [] (abH 71 119 g h) 0 0 := iter_ind (P := fun (c : Int → Int → HH → Option (Int × HH)) => ∀ (x1 : Int) (x2 : Int) (h : HH) (b : (Int × HH)), c x1 x2 h = some b → WK 273 (.inl (some (aI b.1))) σ0 (abH 71 119 g b.2) 15 [(0, aR 71), (1, aI x1), (2, aI x2)] [] (abH 71 119 g h) 0 0) (by
    intro x1 x2 h b q
    cases q) (fun self ih => by
    intro x1 x2 h b q
    exact uX12_errors_15 hg ih (fun _ _ _ q => wX12_errors_83 hg q) (fun _ _ _ q => wX12_errors_87 hg q) (fun _ _ _ q => wX12_errors_90 hg q) q) F
  intro x1 x2 h b q
  exact z _ _ _ _ q
def bX12_errors_12 (c15 : Int → Int → HH → Option (Int × HH)) (y0 : Int) (h : HH) : Option (Int × HH) :=
  c15 y0 0 h
theorem uX12_errors_12 {g : SG} (hg : GOK g) {σ0 : SG} {c15 : Int → Int → HH → Option (Int × HH)} (k15 : ∀ (x1 : Int) (x2 : Int) (h : HH) (b : (Int × HH)), c15 x1 x2 h = some b → WK 273 (.inl (some (aI b.1))) σ0 (abH 71 119 g b.2) 15 [(0, aR 71), (1, aI x1), (2, aI x2)] [] (abH 71 119 g h) 0 0) : ∀ {y0 : Int} {h : HH} {b : (Int × HH)}, bX12_errors_12 c15 y0 h = some b → WK 273 (.inl (some (aI b.1))) σ0 (abH 71 119 g b.2) 12 [(0, aR 71)] [aI y0] (abH 71 119 g h) 0 0 := by
  intro y0 h b q
  have e : bX12_errors_12 c15 y0 h = segW 71 119 g.2.2.2.2 krWI clN csX12_errors (cuC 15 (fun l st s => tkC 0 71 l <| tkI 1 l fun x1 => tkI 2 l fun x2 => skE st (c15 x1 x2 s)) cuN) 1000 12 [(0, aR 71)] [aI y0] h := rfl
  rw [e] at q
  clear e
  refine segW_wk (by decide) (by decide) hg rwX12_errors CLKW_N krWI_ok ?_ q
  clear q
  refine ct_C ?_ (ct_N)
  · intro l st h q
    obtain ⟨m0, q1⟩ := tkC_of q
    obtain ⟨x1, m1, q2⟩ := tkI_of q1
    obtain ⟨x2, m2, q3⟩ := tkI_of q2
    obtain ⟨rfl, q4⟩ := skE_of q3
    exact WK_less (k15 _ _ _ _ q4) (List.forall_mem_cons.mpr ⟨m0, (List.forall_mem_cons.mpr ⟨m1, (List.forall_mem_cons.mpr ⟨m2, (fun _ h => absurd h List.not_mem_nil)⟩)⟩)⟩)
def nX12_errors_12 (y0 : Int) (h : HH) : Option (Int × HH) := bX12_errors_12 (nX12_errors_15 100000) y0 h
theorem wX12_errors_12 {g : SG} (hg : GOK g) {σ0 : SG} : ∀ {y0 : Int} {h : HH} {b : (Int × HH)}, nX12_errors_12 y0 h = some b → WK 273 (.inl (some (aI b.1))) σ0 (abH 71 119 g b.2) 12 [(0, aR 71)] [aI y0] (abH 71 119 g h) 0 0 := by
  intro y0 h b q
  exact uX12_errors_12 hg (fun _ _ _ _ q => wX12_errors_15 hg q) q
def bX12_errors (f269 : HH → Option Int) (c12 : Int → HH → Option (Int × HH)) (h : HH) : Option (Int × HH) :=
  bnd (f269 h) fun r1 =>
    if r1 = (0 : Int) then
    c12 1 h
  else
    c12 0 h
theorem uX12_errors {g : SG} (hg : GOK g) {σ0 : SG} {c12 : Int → HH → Option (Int × HH)} (k12 : ∀ (y0 : Int) (h : HH) (b : (Int × HH)), c12 y0 h = some b → WK 273 (.inl (some (aI b.1))) σ0 (abH 71 119 g b.2) 12 [(0, aR 71)] [aI y0] (abH 71 119 g h) 0 0) : ∀ {h : HH} {b : (Int × HH)}, bX12_errors nX12_areLeast c12 h = some b → WK 273 (.inl (some (aI b.1))) σ0 (abH 71 119 g b.2) 0 [(0, aR 71)] [] (abH 71 119 g h) 0 0 := by
  intro h b q
  have e : ∀ (f269 : HH → Option Int) , bX12_errors f269 c12 h = segW 71 119 g.2.2.2.2 krWI (clC 269 (liPW (pX12_areLeast f269)) clN) csX12_errors (cuC 12 (fun l st s => tkC 0 71 l <| skI st fun y0 st => skE st (c12 y0 s)) cuN) 1000 0 [(0, aR 71)] [] h := fun _ => rfl
  rw [e nX12_areLeast] at q
  clear e
  refine segW_wk (by decide) (by decide) hg rwX12_errors (CLKW_C (liPW_ok (pX12_areLeast_ok hg)) CLKW_N) krWI_ok ?_ q
  clear q
  refine ct_C ?_ (ct_N)
  · intro l st h q
    obtain ⟨m0, q1⟩ := tkC_of q
    obtain ⟨y0, t0, rfl, q2⟩ := skI_of q1
    obtain ⟨rfl, q3⟩ := skE_of q2
    exact WK_less (k12 _ _ _ q3) (List.forall_mem_cons.mpr ⟨m0, (fun _ h => absurd h List.not_mem_nil)⟩)
def nX12_errors (h : HH) : Option (Int × HH) := bX12_errors nX12_areLeast nX12_errors_12 h
theorem wX12_errors {g : SG} (hg : GOK g) {σ0 : SG} : ∀ {h : HH} {b : (Int × HH)}, nX12_errors h = some b → WK 273 (.inl (some (aI b.1))) σ0 (abH 71 119 g b.2) 0 [(0, aR 71)] [] (abH 71 119 g h) 0 0 := by
  intro h b q
  exact uX12_errors hg (fun _ _ _ q => wX12_errors_12 hg q) q
theorem mX12_errors {g : SG} (hg : GOK g) {h : HH} {b : (Int × HH)} (q : nX12_errors h = some b) : MCT 273 [] [aR 71] (abH 71 119 g h) (.inl (some (aI b.1))) (abH 71 119 g b.2) :=
  mct_of (by decide) (MFok 273 (by decide +kernel)) (fun _ => Nat.le_of_ble_eq_true rfl) (wX12_errors hg q)
def pX12_errors {β : Type} (z : HH → Option (Int × HH)) : PW β := fun as h f => skC 71 as fun as => skE as (bnd (z h) fun r => f (.inl (some (aI r.1))) r.2)
theorem pX12_errors_ok {β : Type} {g : SG} (hg : GOK g) : CW1 (β := β) 273 (pX12_errors nX12_errors) 71 119 g := fun as h f b q => by
  obtain ⟨as, rfl, q1⟩ := skC_of q
  obtain ⟨rfl, q0⟩ := skE_of q1
  obtain ⟨r, z1, z2⟩ := bnd_of q0
  exact ⟨_, _, z2, by decide, mX12_errors hg z1, rfl, rfl, fun z => absurd z (by decide)⟩
