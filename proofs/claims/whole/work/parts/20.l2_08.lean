def csX11_wrongInTree : List (Nat × List (Nat × ARow)) := [(46, [(0, 1, .aload_n 0, 0, 0, 0), (1, 3, .getfield 60, 11, 6, 2), (4, 1, .aload_n 0, 0, 0, 0), (5, 3, .getfield 21, 11, 1, 2), (8, 1, .aload_n 0, 0, 0, 0), (9, 3, .getfield 30, 11, 2, 2), (12, 3, .getfield 187, 6, 1, 2), (15, 1, .iload_n 1, 0, 0, 0), (16, 1, .aaload, 0, 0, 0), (17, 1, .aload_n 0, 0, 0, 0), (18, 3, .getfield 30, 11, 2, 2), (21, 3, .getfield 177, 6, 2, 2), (24, 1, .iload_n 1, 0, 0, 0), (25, 1, .iaload, 0, 0, 0), (26, 3, .invokevirtual 407, 101, 4, 10), (29, 1, .istore_n 2, 0, 0, 0), (30, 1, .aload_n 0, 0, 0, 0), (31, 3, .getfield 60, 11, 6, 2), (34, 3, .invokevirtual 425, 108, 1, 10), (37, 3, .ifCond .ne 5, 42, 0, 0), (40, 1, .iconst 0, 0, 0, 0), (41, 1, .ireturn, 0, 0, 0), (42, 1, .aload_n 0, 0, 0, 0), (43, 3, .getfield 30, 11, 2, 2)]),
  (90, [(46, 1, .iload_n 1, 0, 0, 0), (47, 1, .iconst 0, 0, 0, 0), (48, 3, .invokevirtual 255, 58, 3, 6), (51, 1, .istore_n 3, 0, 0, 0), (52, 1, .iload_n 2, 0, 0, 0), (53, 1, .iload_n 3, 0, 0, 0), (54, 3, .if_icmp .gt 14, 68, 0, 0), (57, 1, .iload_n 2, 0, 0, 0), (58, 1, .aload_n 0, 0, 0, 0), (59, 3, .getfield 60, 11, 6, 2), (62, 3, .invokevirtual 428, 109, 1, 10), (65, 3, .if_icmp .eq 7, 72, 0, 0), (68, 1, .iconst 1, 0, 0, 0), (69, 3, .goto 4, 73, 0, 0), (72, 1, .iconst 0, 0, 0, 0), (73, 2, .istore 4, 0, 0, 0), (75, 1, .iconst 2, 0, 0, 0), (76, 1, .aload_n 0, 0, 0, 0), (77, 3, .getfield 60, 11, 6, 2), (80, 3, .invokevirtual 411, 106, 1, 10), (83, 1, .imul, 0, 0, 0), (84, 1, .iload_n 3, 0, 0, 0), (85, 3, .if_icmp .le 10, 95, 0, 0), (88, 2, .iload 4, 0, 0, 0)]),
  (100000, [(90, 1, .iconst 1, 0, 0, 0), (91, 1, .iadd, 0, 0, 0), (92, 3, .goto 5, 97, 0, 0), (95, 2, .iload 4, 0, 0, 0), (97, 1, .ireturn, 0, 0, 0)])]
theorem rwX11_wrongInTree : rowsB (mB 168) (mO 168) (mX 168) (mIni 168) (mFr 168) (mLo 168) (mT 168) csX11_wrongInTree = true := by decide +kernel
def bX11_wrongInTree_73 (f106 : HH → Option (Int × HH)) (x3 : Int) (y0 : Int) (h : HH) : Option (Int × HH) :=
  bnd (f106 h) fun r1 =>
    gd (R32 (2 * r1.1)) <|
    if (x3 : Int) < (2 * r1.1) then
    gd (R32 (y0 + 1)) <|
    some ((y0 + 1), r1.2)
  else
    some (y0, r1.2)
theorem uX11_wrongInTree_73 {g : SG} (hg : GOK g) {σ0 : SG} : ∀ {x3 : Int} {y0 : Int} {h : HH} {b : (Int × HH)}, bX11_wrongInTree_73 nX10_leastPairing x3 y0 h = some b → WK 168 (.inl (some (aI b.1))) σ0 (abH 2 70 g b.2) 73 [(0, aR 2), (3, aI x3)] [aI y0] (abH 2 70 g h) 0 0 := by
  intro x3 y0 h b q
  have e : ∀ (f106 : HH → Option (Int × HH)) , bX11_wrongInTree_73 f106 x3 y0 h = segW 2 70 g.2.2.2.2 krWI (clC 106 (pX10_leastPairing f106) clN) csX11_wrongInTree cuN 1000 73 [(0, aR 2), (3, aI x3)] [aI y0] h := fun _ => rfl
  rw [e nX10_leastPairing] at q
  clear e
  refine segW_wk (by decide) (by decide) hg rwX11_wrongInTree (CLKW_C (pX10_leastPairing_ok hg) CLKW_N) krWI_ok ?_ q
  clear q
  exact ct_N
def nX11_wrongInTree_73 (x3 : Int) (y0 : Int) (h : HH) : Option (Int × HH) := bX11_wrongInTree_73 nX10_leastPairing x3 y0 h
theorem wX11_wrongInTree_73 {g : SG} (hg : GOK g) {σ0 : SG} : ∀ {x3 : Int} {y0 : Int} {h : HH} {b : (Int × HH)}, nX11_wrongInTree_73 x3 y0 h = some b → WK 168 (.inl (some (aI b.1))) σ0 (abH 2 70 g b.2) 73 [(0, aR 2), (3, aI x3)] [aI y0] (abH 2 70 g h) 0 0 := by
  intro x3 y0 h b q
  exact uX11_wrongInTree_73 hg q
def bX11_wrongInTree_68 (c73 : Int → Int → HH → Option (Int × HH)) (x3 : Int) (h : HH) : Option (Int × HH) :=
  c73 x3 1 h
theorem uX11_wrongInTree_68 {g : SG} (hg : GOK g) {σ0 : SG} {c73 : Int → Int → HH → Option (Int × HH)} (k73 : ∀ (x3 : Int) (y0 : Int) (h : HH) (b : (Int × HH)), c73 x3 y0 h = some b → WK 168 (.inl (some (aI b.1))) σ0 (abH 2 70 g b.2) 73 [(0, aR 2), (3, aI x3)] [aI y0] (abH 2 70 g h) 0 0) : ∀ {x3 : Int} {h : HH} {b : (Int × HH)}, bX11_wrongInTree_68 c73 x3 h = some b → WK 168 (.inl (some (aI b.1))) σ0 (abH 2 70 g b.2) 68 [(0, aR 2), (3, aI x3)] [] (abH 2 70 g h) 0 0 := by
  intro x3 h b q
  have e : bX11_wrongInTree_68 c73 x3 h = segW 2 70 g.2.2.2.2 krWI clN csX11_wrongInTree (cuC 73 (fun l st s => tkC 0 2 l <| tkI 3 l fun x3 => skI st fun y0 st => skE st (c73 x3 y0 s)) cuN) 1000 68 [(0, aR 2), (3, aI x3)] [] h := rfl
  rw [e] at q
  clear e
  refine segW_wk (by decide) (by decide) hg rwX11_wrongInTree CLKW_N krWI_ok ?_ q
  clear q
  refine ct_C ?_ (ct_N)
  · intro l st h q
    obtain ⟨m0, q1⟩ := tkC_of q
    obtain ⟨x3, m3, q2⟩ := tkI_of q1
    obtain ⟨y0, t0, rfl, q3⟩ := skI_of q2
    obtain ⟨rfl, q4⟩ := skE_of q3
    exact WK_less (k73 _ _ _ _ q4) (List.forall_mem_cons.mpr ⟨m0, (List.forall_mem_cons.mpr ⟨m3, (fun _ h => absurd h List.not_mem_nil)⟩)⟩)
def nX11_wrongInTree_68 (x3 : Int) (h : HH) : Option (Int × HH) := bX11_wrongInTree_68 nX11_wrongInTree_73 x3 h
theorem wX11_wrongInTree_68 {g : SG} (hg : GOK g) {σ0 : SG} : ∀ {x3 : Int} {h : HH} {b : (Int × HH)}, nX11_wrongInTree_68 x3 h = some b → WK 168 (.inl (some (aI b.1))) σ0 (abH 2 70 g b.2) 68 [(0, aR 2), (3, aI x3)] [] (abH 2 70 g h) 0 0 := by
  intro x3 h b q
  exact uX11_wrongInTree_68 hg (fun _ _ _ _ q => wX11_wrongInTree_73 hg q) q
def bX11_wrongInTree (f101 : Nat → Int → HH → Option (Int × HH)) (f108 : HH → Option Int) (f58 : HH → Int → Int → Option Int) (f109 : HH → Option Int) (c68 : Int → HH → Option (Int × HH)) (c73 : Int → Int → HH → Option (Int × HH)) (x1 : Int) (h : HH) : Option (Int × HH) :=
  gd ((0 : Int) ≤ x1 ∧ x1 < (3 : Int)) <|
    bif Nat.beq (rwK 3 28 x1) 0 then none else
    gd ((0 : Int) ≤ x1 ∧ x1 < (3 : Int)) <|
    bnd (f101 (rwK 3 28 x1) (h.1 31 x1) h) fun r1 =>
    bnd (f108 r1.2) fun r2 =>
    if r2 = (0 : Int) then
    some (0, r1.2)
  else
    bnd (f58 r1.2 x1 0) fun r3 =>
    if (r3 : Int) < r1.1 then
    c68 r3 r1.2
  else
    bnd (f109 r1.2) fun r4 =>
    if r1.1 = (r4 : Int) then
    c73 r3 0 r1.2
  else
    c68 r3 r1.2
theorem uX11_wrongInTree {g : SG} (hg : GOK g) {σ0 : SG} {c68 : Int → HH → Option (Int × HH)} {c73 : Int → Int → HH → Option (Int × HH)} (k68 : ∀ (x3 : Int) (h : HH) (b : (Int × HH)), c68 x3 h = some b → WK 168 (.inl (some (aI b.1))) σ0 (abH 2 70 g b.2) 68 [(0, aR 2), (3, aI x3)] [] (abH 2 70 g h) 0 0) (k73 : ∀ (x3 : Int) (y0 : Int) (h : HH) (b : (Int × HH)), c73 x3 y0 h = some b → WK 168 (.inl (some (aI b.1))) σ0 (abH 2 70 g b.2) 73 [(0, aR 2), (3, aI x3)] [aI y0] (abH 2 70 g h) 0 0) : ∀ {x1 : Int} {h : HH} {b : (Int × HH)}, bX11_wrongInTree nX10_grow nX10_isSameBothWays nX6_sumOfWays nX10_sumFromDepot c68 c73 x1 h = some b → WK 168 (.inl (some (aI b.1))) σ0 (abH 2 70 g b.2) 0 [(0, aR 2), (1, aI x1)] [] (abH 2 70 g h) 0 0 := by
  intro x1 h b q
  have e : ∀ (f101 : Nat → Int → HH → Option (Int × HH)) (f108 : HH → Option Int) (f58 : HH → Int → Int → Option Int) (f109 : HH → Option Int) , bX11_wrongInTree f101 f108 f58 f109 c68 c73 x1 h = segW 2 70 g.2.2.2.2 krWI (clC 101 (pX10_grow f101) (clC 108 (liPW (pX10_isSameBothWays f108)) (clC 58 (liPW (pX6_sumOfWays f58)) (clC 109 (liPW (pX10_sumFromDepot f109)) clN)))) csX11_wrongInTree (cuC 68 (fun l st s => tkC 0 2 l <| tkI 3 l fun x3 => skE st (c68 x3 s)) (cuC 73 (fun l st s => tkC 0 2 l <| tkI 3 l fun x3 => skI st fun y0 st => skE st (c73 x3 y0 s)) cuN)) 1000 0 [(0, aR 2), (1, aI x1)] [] h := fun _ _ _ _ => rfl
  rw [e nX10_grow nX10_isSameBothWays nX6_sumOfWays nX10_sumFromDepot] at q
  clear e
  refine segW_wk (by decide) (by decide) hg rwX11_wrongInTree (CLKW_C (pX10_grow_ok hg) (CLKW_C (liPW_ok (pX10_isSameBothWays_ok hg)) (CLKW_C (liPW_ok (pX6_sumOfWays_ok hg)) (CLKW_C (liPW_ok (pX10_sumFromDepot_ok hg)) CLKW_N)))) krWI_ok ?_ q
  clear q
  refine ct_C ?_ (ct_C ?_ (ct_N))
  · intro l st h q
    obtain ⟨m0, q1⟩ := tkC_of q
    obtain ⟨x3, m3, q2⟩ := tkI_of q1
    obtain ⟨rfl, q3⟩ := skE_of q2
    exact WK_less (k68 _ _ _ q3) (List.forall_mem_cons.mpr ⟨m0, (List.forall_mem_cons.mpr ⟨m3, (fun _ h => absurd h List.not_mem_nil)⟩)⟩)
  · intro l st h q
    obtain ⟨m0, q1⟩ := tkC_of q
    obtain ⟨x3, m3, q2⟩ := tkI_of q1
    obtain ⟨y0, t0, rfl, q3⟩ := skI_of q2
    obtain ⟨rfl, q4⟩ := skE_of q3
    exact WK_less (k73 _ _ _ _ q4) (List.forall_mem_cons.mpr ⟨m0, (List.forall_mem_cons.mpr ⟨m3, (fun _ h => absurd h List.not_mem_nil)⟩)⟩)
def nX11_wrongInTree (x1 : Int) (h : HH) : Option (Int × HH) := bX11_wrongInTree nX10_grow nX10_isSameBothWays nX6_sumOfWays nX10_sumFromDepot nX11_wrongInTree_68 nX11_wrongInTree_73 x1 h
theorem wX11_wrongInTree {g : SG} (hg : GOK g) {σ0 : SG} : ∀ {x1 : Int} {h : HH} {b : (Int × HH)}, nX11_wrongInTree x1 h = some b → WK 168 (.inl (some (aI b.1))) σ0 (abH 2 70 g b.2) 0 [(0, aR 2), (1, aI x1)] [] (abH 2 70 g h) 0 0 := by
  intro x1 h b q
  exact uX11_wrongInTree hg (fun _ _ _ q => wX11_wrongInTree_68 hg q) (fun _ _ _ _ q => wX11_wrongInTree_73 hg q) q
theorem mX11_wrongInTree {g : SG} (hg : GOK g) {h : HH} {x1 : Int} {b : (Int × HH)} (q : nX11_wrongInTree x1 h = some b) : MCT 168 [] [aR 2, aI x1] (abH 2 70 g h) (.inl (some (aI b.1))) (abH 2 70 g b.2) :=
  mct_of (by decide) (MFok 168 (by decide +kernel)) (fun _ => Nat.le_of_ble_eq_true rfl) (wX11_wrongInTree hg q)
def pX11_wrongInTree {β : Type} (z : Int → HH → Option (Int × HH)) : PW β := fun as h f => skC 2 as fun as => skI as fun x1 as => skE as (bnd (z x1 h) fun r => f (.inl (some (aI r.1))) r.2)
theorem pX11_wrongInTree_ok {β : Type} {g : SG} (hg : GOK g) : CW1 (β := β) 168 (pX11_wrongInTree nX11_wrongInTree) 2 70 g := fun as h f b q => by
  obtain ⟨as, rfl, q1⟩ := skC_of q
  obtain ⟨x1, as, rfl, q2⟩ := skI_of q1
  obtain ⟨rfl, q0⟩ := skE_of q2
  obtain ⟨r, z1, z2⟩ := bnd_of q0
  exact ⟨_, _, z2, by decide, mX11_wrongInTree hg z1, rfl, rfl, fun z => absurd z (by decide)⟩
def csX11_errors : List (Nat × List (Nat × ARow)) := [(44, [(0, 1, .aload_n 0, 0, 0, 0), (1, 3, .getfield 12, 11, 0, 2), (4, 3, .invokevirtual 371, 98, 1, 9), (7, 1, .aload_n 0, 0, 0, 0), (8, 3, .getfield 67, 11, 7, 2), (11, 3, .invokevirtual 374, 42, 1, 4), (14, 1, .iadd, 0, 0, 0), (15, 1, .aload_n 0, 0, 0, 0), (16, 3, .getfield 90, 11, 10, 2), (19, 3, .invokevirtual 377, 45, 1, 5), (22, 1, .iadd, 0, 0, 0), (23, 1, .istore_n 1, 0, 0, 0), (24, 1, .iconst 0, 0, 0, 0), (25, 1, .istore_n 2, 0, 0, 0), (26, 1, .iload_n 2, 0, 0, 0), (27, 1, .aload_n 0, 0, 0, 0), (28, 3, .getfield 21, 11, 1, 2), (31, 3, .getfield 168, 2, 14, 0), (34, 3, .if_icmp .ge 23, 57, 0, 0), (37, 1, .iload_n 1, 0, 0, 0), (38, 1, .aload_n 0, 0, 0, 0), (39, 1, .iload_n 2, 0, 0, 0), (40, 3, .invokevirtual 380, 167, 2, 11), (43, 1, .aload_n 0, 0, 0, 0)]),
  (100000, [(44, 1, .iload_n 2, 0, 0, 0), (45, 3, .invokevirtual 383, 168, 2, 11), (48, 1, .iadd, 0, 0, 0), (49, 1, .iadd, 0, 0, 0), (50, 1, .istore_n 1, 0, 0, 0), (51, 3, .iinc 2 1, 0, 0, 0), (54, 3, .goto (-28), 26, 0, 0), (57, 1, .aload_n 0, 0, 0, 0), (58, 3, .getfield 21, 11, 1, 2), (61, 3, .getfield 168, 2, 14, 0), (64, 3, .ifCond .le 26, 90, 0, 0), (67, 1, .aload_n 0, 0, 0, 0), (68, 3, .getfield 83, 11, 9, 2), (71, 3, .invokevirtual 338, 81, 1, 8), (74, 3, .ifCond .eq 16, 90, 0, 0), (77, 1, .aload_n 0, 0, 0, 0), (78, 3, .getfield 83, 11, 9, 2), (81, 3, .invokevirtual 386, 85, 1, 8), (84, 3, .ifCond .ne 6, 90, 0, 0), (87, 3, .iinc 1 1, 0, 0, 0), (90, 1, .iload_n 1, 0, 0, 0), (91, 1, .ireturn, 0, 0, 0)])]
theorem rwX11_errors : rowsB (mB 153) (mO 153) (mX 153) (mIni 153) (mFr 153) (mLo 153) (mT 153) csX11_errors = true := by decide +kernel
def bX11_errors_26 (f81 : HH → Option (Int × HH)) (f85 : HH → Option Int) (f167 : Int → HH → Option (Int × HH)) (f168 : Int → HH → Option (Int × HH)) (c26 : Int → Int → HH → Option (Int × HH)) (x1 : Int) (x2 : Int) (h : HH) : Option (Int × HH) :=
  if x2 < ((h.1 13 14) : Int) then
    bnd (f167 x2 h) fun r3 =>
    bnd (f168 x2 r3.2) fun r4 =>
    gd (R32 (r3.1 + r4.1)) <|
    gd (R32 (x1 + (r3.1 + r4.1))) <|
    gd (R32 (x2 + 1)) <|
    c26 (x1 + (r3.1 + r4.1)) (x2 + 1) r4.2
  else
    if (0 : Int) < (h.1 13 14) then
    bnd (f81 h) fun r1 =>
    if r1.1 = (0 : Int) then
    some (x1, r1.2)
  else
    bnd (f85 r1.2) fun r2 =>
    if r2 = (0 : Int) then
    gd (R32 (x1 + 1)) <|
    some ((x1 + 1), r1.2)
  else
    some (x1, r1.2)
  else
    some (x1, h)
theorem uX11_errors_26 {g : SG} (hg : GOK g) {σ0 : SG} {c26 : Int → Int → HH → Option (Int × HH)} (k26 : ∀ (x1 : Int) (x2 : Int) (h : HH) (b : (Int × HH)), c26 x1 x2 h = some b → WK 153 (.inl (some (aI b.1))) σ0 (abH 2 70 g b.2) 26 [(0, aR 2), (1, aI x1), (2, aI x2)] [] (abH 2 70 g h) 0 0) : ∀ {x1 : Int} {x2 : Int} {h : HH} {b : (Int × HH)}, bX11_errors_26 nX8_reckon nX8_sumUp nX11_wrongInRound nX11_wrongInTree c26 x1 x2 h = some b → WK 153 (.inl (some (aI b.1))) σ0 (abH 2 70 g b.2) 26 [(0, aR 2), (1, aI x1), (2, aI x2)] [] (abH 2 70 g h) 0 0 := by
  intro x1 x2 h b q
  have e : ∀ (f81 : HH → Option (Int × HH)) (f85 : HH → Option Int) (f167 : Int → HH → Option (Int × HH)) (f168 : Int → HH → Option (Int × HH)) , bX11_errors_26 f81 f85 f167 f168 c26 x1 x2 h = segW 2 70 g.2.2.2.2 krWI (clC 81 (pX8_reckon f81) (clC 85 (liPW (pX8_sumUp f85)) (clC 167 (pX11_wrongInRound f167) (clC 168 (pX11_wrongInTree f168) clN)))) csX11_errors (cuC 26 (fun l st s => tkC 0 2 l <| tkI 1 l fun x1 => tkI 2 l fun x2 => skE st (c26 x1 x2 s)) cuN) 1000 26 [(0, aR 2), (1, aI x1), (2, aI x2)] [] h := fun _ _ _ _ => rfl
  rw [e nX8_reckon nX8_sumUp nX11_wrongInRound nX11_wrongInTree] at q
  clear e
  refine segW_wk (by decide) (by decide) hg rwX11_errors (CLKW_C (pX8_reckon_ok hg) (CLKW_C (liPW_ok (pX8_sumUp_ok hg)) (CLKW_C (pX11_wrongInRound_ok hg) (CLKW_C (pX11_wrongInTree_ok hg) CLKW_N)))) krWI_ok ?_ q
  clear q
  refine ct_C ?_ (ct_N)
  · intro l st h q
    obtain ⟨m0, q1⟩ := tkC_of q
    obtain ⟨x1, m1, q2⟩ := tkI_of q1
    obtain ⟨x2, m2, q3⟩ := tkI_of q2
    obtain ⟨rfl, q4⟩ := skE_of q3
    exact WK_less (k26 _ _ _ _ q4) (List.forall_mem_cons.mpr ⟨m0, (List.forall_mem_cons.mpr ⟨m1, (List.forall_mem_cons.mpr ⟨m2, (fun _ h => absurd h List.not_mem_nil)⟩)⟩)⟩)
def nX11_errors_26 : Nat → Int → Int → HH → Option (Int × HH) := iter (fun _ _ _ => none) (fun self => bX11_errors_26 nX8_reckon nX8_sumUp nX11_wrongInRound nX11_wrongInTree self)
theorem nX11_errors_26_s {F : Nat} : nX11_errors_26 (F + 1) = bX11_errors_26 nX8_reckon nX8_sumUp nX11_wrongInRound nX11_wrongInTree (nX11_errors_26 F) := rfl
theorem wX11_errors_26 {g : SG} (hg : GOK g) {σ0 : SG} : ∀ {F : Nat}, ∀ {x1 : Int} {x2 : Int} {h : HH} {b : (Int × HH)}, nX11_errors_26 F x1 x2 h = some b → WK 153 (.inl (some (aI b.1))) σ0 (abH 2 70 g b.2) 26 [(0, aR 2), (1, aI x1), (2, aI x2)] [] (abH 2 70 g h) 0 0 := by
  intro F
  have z : ∀ (x1 : Int) (x2 : Int) (h : HH) (b : (Int × HH)), nX11_errors_26 F x1 x2 h = some b → WK 153 (.inl (some (aI b.1))) σ0 (abH 2 70 g b.2) 26 [(0, aR 2), (1, aI x1), (2, aI x2)] [] (abH 2 70 g h) 0 0 := iter_ind (P := fun (c : Int → Int → HH → Option (Int × HH)) => ∀ (x1 : Int) (x2 : Int) (h : HH) (b : (Int × HH)), c x1 x2 h = some b → WK 153 (.inl (some (aI b.1))) σ0 (abH 2 70 g b.2) 26 [(0, aR 2), (1, aI x1), (2, aI x2)] [] (abH 2 70 g h) 0 0) (by
    intro x1 x2 h b q
    cases q) (fun self ih => by
    intro x1 x2 h b q
    exact uX11_errors_26 hg ih q) F
  intro x1 x2 h b q
  exact z _ _ _ _ q
def bX11_errors (f98 : HH → Option Int) (f42 : HH → Option Int) (f45 : HH → Option Int) (c26 : Int → Int → HH → Option (Int × HH)) (h : HH) : Option (Int × HH) :=
  bnd (f98 h) fun r1 =>
    bnd (f42 h) fun r2 =>
    gd (R32 (r1 + r2)) <|
    bnd (f45 h) fun r3 =>
    gd (R32 ((r1 + r2) + r3)) <|
    c26 ((r1 + r2) + r3) 0 h
theorem uX11_errors {g : SG} (hg : GOK g) {σ0 : SG} {c26 : Int → Int → HH → Option (Int × HH)} (k26 : ∀ (x1 : Int) (x2 : Int) (h : HH) (b : (Int × HH)), c26 x1 x2 h = some b → WK 153 (.inl (some (aI b.1))) σ0 (abH 2 70 g b.2) 26 [(0, aR 2), (1, aI x1), (2, aI x2)] [] (abH 2 70 g h) 0 0) : ∀ {h : HH} {b : (Int × HH)}, bX11_errors nX9_wrongWays nX4_wrongTimes nX5_wrongSums c26 h = some b → WK 153 (.inl (some (aI b.1))) σ0 (abH 2 70 g b.2) 0 [(0, aR 2)] [] (abH 2 70 g h) 0 0 := by
  intro h b q
  have e : ∀ (f98 : HH → Option Int) (f42 : HH → Option Int) (f45 : HH → Option Int) , bX11_errors f98 f42 f45 c26 h = segW 2 70 g.2.2.2.2 krWI (clC 98 (liPW (pX9_wrongWays f98)) (clC 42 (liPW (pX4_wrongTimes f42)) (clC 45 (liPW (pX5_wrongSums f45)) clN))) csX11_errors (cuC 26 (fun l st s => tkC 0 2 l <| tkI 1 l fun x1 => tkI 2 l fun x2 => skE st (c26 x1 x2 s)) cuN) 1000 0 [(0, aR 2)] [] h := fun _ _ _ => rfl
  rw [e nX9_wrongWays nX4_wrongTimes nX5_wrongSums] at q
  clear e
  refine segW_wk (by decide) (by decide) hg rwX11_errors (CLKW_C (liPW_ok (pX9_wrongWays_ok hg)) (CLKW_C (liPW_ok (pX4_wrongTimes_ok hg)) (CLKW_C (liPW_ok (pX5_wrongSums_ok hg)) CLKW_N))) krWI_ok ?_ q
  clear q
  refine ct_C ?_ (ct_N)
  · intro l st h q
    obtain ⟨m0, q1⟩ := tkC_of q
    obtain ⟨x1, m1, q2⟩ := tkI_of q1
    obtain ⟨x2, m2, q3⟩ := tkI_of q2
    obtain ⟨rfl, q4⟩ := skE_of q3
    exact WK_less (k26 _ _ _ _ q4) (List.forall_mem_cons.mpr ⟨m0, (List.forall_mem_cons.mpr ⟨m1, (List.forall_mem_cons.mpr ⟨m2, (fun _ h => absurd h List.not_mem_nil)⟩)⟩)⟩)
def nX11_errors (h : HH) : Option (Int × HH) := bX11_errors nX9_wrongWays nX4_wrongTimes nX5_wrongSums (nX11_errors_26 100000) h
theorem wX11_errors {g : SG} (hg : GOK g) {σ0 : SG} : ∀ {h : HH} {b : (Int × HH)}, nX11_errors h = some b → WK 153 (.inl (some (aI b.1))) σ0 (abH 2 70 g b.2) 0 [(0, aR 2)] [] (abH 2 70 g h) 0 0 := by
  intro h b q
  exact uX11_errors hg (fun _ _ _ _ q => wX11_errors_26 hg q) q
theorem mX11_errors {g : SG} (hg : GOK g) {h : HH} {b : (Int × HH)} (q : nX11_errors h = some b) : MCT 153 [] [aR 2] (abH 2 70 g h) (.inl (some (aI b.1))) (abH 2 70 g b.2) :=
  mct_of (by decide) (MFok 153 (by decide +kernel)) (fun _ => Nat.le_of_ble_eq_true rfl) (wX11_errors hg q)
def pX11_errors {β : Type} (z : HH → Option (Int × HH)) : PW β := fun as h f => skC 2 as fun as => skE as (bnd (z h) fun r => f (.inl (some (aI r.1))) r.2)
theorem pX11_errors_ok {β : Type} {g : SG} (hg : GOK g) : CW1 (β := β) 153 (pX11_errors nX11_errors) 2 70 g := fun as h f b q => by
  obtain ⟨as, rfl, q1⟩ := skC_of q
  obtain ⟨rfl, q0⟩ := skE_of q1
  obtain ⟨r, z1, z2⟩ := bnd_of q0
  exact ⟨_, _, z2, by decide, mX11_errors hg z1, rfl, rfl, fun z => absurd z (by decide)⟩
def csX12_thrown : List (Nat × List (Nat × ARow)) := [(100000, [(0, 1, .aload_n 0, 0, 0, 0), (1, 3, .getfield 175, 12, 10, 0), (4, 1, .ireturn, 0, 0, 0)])]
theorem rwX12_thrown : rowsB (mB 170) (mO 170) (mX 170) (mIni 170) (mFr 170) (mLo 170) (mT 170) csX12_thrown = true := by decide +kernel
def bX12_thrown (h : HH) : Option Int :=
  some (h.1 71 10)
theorem uX12_thrown {g : SG} (hg : GOK g) {σ0 : SG} {h : HH} : ∀ {b : Int}, bX12_thrown h = some b → WK 170 (.inl (some (aI b))) σ0 (abH 71 119 g h) 0 [(0, aR 71)] [] (abH 71 119 g h) 0 0 := by
  intro  b q
  have e : bX12_thrown h = segP 71 119 g.2.2.2.2 h krPI clNP csX12_thrown cuN 1000 0 [(0, aR 71)] [] := rfl
  rw [e] at q
  clear e
  refine segP_wk (by decide) (by decide) hg rwX12_thrown CLKP_N krPI_ok ?_ q
  clear q
  exact ct_N
def nX12_thrown (h : HH) : Option Int := bX12_thrown h
theorem wX12_thrown {g : SG} (hg : GOK g) {σ0 : SG} {h : HH} : ∀ {b : Int}, nX12_thrown h = some b → WK 170 (.inl (some (aI b))) σ0 (abH 71 119 g h) 0 [(0, aR 71)] [] (abH 71 119 g h) 0 0 := by
  intro  b q
  exact uX12_thrown hg q
theorem mX12_thrown {g : SG} (hg : GOK g) {h : HH} {b : Int} (q : nX12_thrown h = some b) : MCT 170 [] [aR 71] (abH 71 119 g h) (.inl (some (aI b))) (abH 71 119 g h) :=
  mct_of (by decide) (MFok 170 (by decide +kernel)) (fun _ => Nat.le_of_ble_eq_true rfl) (wX12_thrown hg q)
def pX12_thrown {β : Type} (z : HH → Option Int) : PP β := fun h as f => skC 71 as fun as => skE as (bnd (z h) fun r => f (.inl (some (aI r))))
theorem pX12_thrown_ok {β : Type} {g : SG} (hg : GOK g) : CP1 (β := β) 170 (pX12_thrown nX12_thrown) 71 119 g := fun h as f b q => by
  obtain ⟨as, rfl, q1⟩ := skC_of q
  obtain ⟨rfl, q0⟩ := skE_of q1
  obtain ⟨r, z1, z2⟩ := bnd_of q0
  exact ⟨_, z2, by decide, mX12_thrown hg z1, rfl, rfl, fun z => absurd z (by decide)⟩
def csX12_in : List (Nat × List (Nat × ARow)) := [(100000, [(0, 1, .iload_n 0, 0, 0, 0), (1, 1, .iload_n 1, 0, 0, 0), (2, 3, .if_icmp .lt 12, 14, 0, 0), (5, 1, .iload_n 0, 0, 0, 0), (6, 1, .iload_n 2, 0, 0, 0), (7, 3, .if_icmp .gt 7, 14, 0, 0), (10, 1, .iconst 1, 0, 0, 0), (11, 3, .goto 4, 15, 0, 0), (14, 1, .iconst 0, 0, 0, 0), (15, 1, .ireturn, 1, 0, 0)])]
theorem rwX12_in : rowsB (mB 171) (mO 171) (mX 171) (mIni 171) (mFr 171) (mLo 171) (mT 171) csX12_in = true := by decide +kernel
def bX12_in (h : HH) (x0 : Int) (x1 : Int) (x2 : Int) : Option Int :=
  if x0 < (x1 : Int) then
    gd ((0 : Int) ≤ 0 ∧ 0 ≤ (1 : Int)) <|
    some 0
  else
    if (x2 : Int) < x0 then
    gd ((0 : Int) ≤ 0 ∧ 0 ≤ (1 : Int)) <|
    some 0
  else
    gd ((0 : Int) ≤ 1 ∧ 1 ≤ (1 : Int)) <|
    some 1
theorem uX12_in {g : SG} (hg : GOK g) {σ0 : SG} {h : HH} : ∀ {x0 : Int} {x1 : Int} {x2 : Int} {b : Int}, bX12_in h x0 x1 x2 = some b → WK 171 (.inl (some (aI b))) σ0 (abH 71 119 g h) 0 [(0, aI x0), (1, aI x1), (2, aI x2)] [] (abH 71 119 g h) 0 0 := by
  intro x0 x1 x2 b q
  have e : bX12_in h x0 x1 x2 = segP 71 119 g.2.2.2.2 h krPI clNP csX12_in cuN 1000 0 [(0, aI x0), (1, aI x1), (2, aI x2)] [] := rfl
  rw [e] at q
  clear e
  refine segP_wk (by decide) (by decide) hg rwX12_in CLKP_N krPI_ok ?_ q
  clear q
  exact ct_N
def nX12_in (h : HH) (x0 : Int) (x1 : Int) (x2 : Int) : Option Int := bX12_in h x0 x1 x2
theorem wX12_in {g : SG} (hg : GOK g) {σ0 : SG} {h : HH} : ∀ {x0 : Int} {x1 : Int} {x2 : Int} {b : Int}, nX12_in h x0 x1 x2 = some b → WK 171 (.inl (some (aI b))) σ0 (abH 71 119 g h) 0 [(0, aI x0), (1, aI x1), (2, aI x2)] [] (abH 71 119 g h) 0 0 := by
  intro x0 x1 x2 b q
  exact uX12_in hg q
theorem mX12_in {g : SG} (hg : GOK g) {h : HH} {x0 : Int} {x1 : Int} {x2 : Int} {b : Int} (q : nX12_in h x0 x1 x2 = some b) : MCT 171 [] [aI x0, aI x1, aI x2] (abH 71 119 g h) (.inl (some (aI b))) (abH 71 119 g h) :=
  mct_of (by decide) (MFok 171 (by decide +kernel)) (fun _ => Nat.le_of_ble_eq_true rfl) (wX12_in hg q)
def pX12_in {β : Type} (z : HH → Int → Int → Int → Option Int) : PP β := fun h as f => skI as fun x0 as => skI as fun x1 as => skI as fun x2 as => skE as (bnd (z h x0 x1 x2) fun r => f (.inl (some (aI r))))
theorem pX12_in_ok {β : Type} {g : SG} (hg : GOK g) : CP1 (β := β) 171 (pX12_in nX12_in) 71 119 g := fun h as f b q => by
  obtain ⟨x0, as, rfl, q1⟩ := skI_of q
  obtain ⟨x1, as, rfl, q2⟩ := skI_of q1
  obtain ⟨x2, as, rfl, q3⟩ := skI_of q2
  obtain ⟨rfl, q0⟩ := skE_of q3
  obtain ⟨r, z1, z2⟩ := bnd_of q0
  exact ⟨_, z2, by decide, mX12_in hg z1, rfl, rfl, fun z => absurd z (by decide)⟩
def csX12_less : List (Nat × List (Nat × ARow)) := [(100000, [(0, 1, .iload_n 0, 0, 0, 0), (1, 1, .iload_n 1, 0, 0, 0), (2, 3, .if_icmp .ge 7, 9, 0, 0), (5, 1, .iload_n 0, 0, 0, 0), (6, 3, .goto 4, 10, 0, 0), (9, 1, .iload_n 1, 0, 0, 0), (10, 1, .ireturn, 0, 0, 0)])]
theorem rwX12_less : rowsB (mB 172) (mO 172) (mX 172) (mIni 172) (mFr 172) (mLo 172) (mT 172) csX12_less = true := by decide +kernel
def bX12_less (h : HH) (x0 : Int) (x1 : Int) : Option Int :=
  if x0 < (x1 : Int) then
    some x0
  else
    some x1
theorem uX12_less {g : SG} (hg : GOK g) {σ0 : SG} {h : HH} : ∀ {x0 : Int} {x1 : Int} {b : Int}, bX12_less h x0 x1 = some b → WK 172 (.inl (some (aI b))) σ0 (abH 71 119 g h) 0 [(0, aI x0), (1, aI x1)] [] (abH 71 119 g h) 0 0 := by
  intro x0 x1 b q
  have e : bX12_less h x0 x1 = segP 71 119 g.2.2.2.2 h krPI clNP csX12_less cuN 1000 0 [(0, aI x0), (1, aI x1)] [] := rfl
  rw [e] at q
  clear e
  refine segP_wk (by decide) (by decide) hg rwX12_less CLKP_N krPI_ok ?_ q
  clear q
  exact ct_N
def nX12_less (h : HH) (x0 : Int) (x1 : Int) : Option Int := bX12_less h x0 x1
theorem wX12_less {g : SG} (hg : GOK g) {σ0 : SG} {h : HH} : ∀ {x0 : Int} {x1 : Int} {b : Int}, nX12_less h x0 x1 = some b → WK 172 (.inl (some (aI b))) σ0 (abH 71 119 g h) 0 [(0, aI x0), (1, aI x1)] [] (abH 71 119 g h) 0 0 := by
  intro x0 x1 b q
  exact uX12_less hg q
theorem mX12_less {g : SG} (hg : GOK g) {h : HH} {x0 : Int} {x1 : Int} {b : Int} (q : nX12_less h x0 x1 = some b) : MCT 172 [] [aI x0, aI x1] (abH 71 119 g h) (.inl (some (aI b))) (abH 71 119 g h) :=
  mct_of (by decide) (MFok 172 (by decide +kernel)) (fun _ => Nat.le_of_ble_eq_true rfl) (wX12_less hg q)
def pX12_less {β : Type} (z : HH → Int → Int → Option Int) : PP β := fun h as f => skI as fun x0 as => skI as fun x1 as => skE as (bnd (z h x0 x1) fun r => f (.inl (some (aI r))))
theorem pX12_less_ok {β : Type} {g : SG} (hg : GOK g) : CP1 (β := β) 172 (pX12_less nX12_less) 71 119 g := fun h as f b q => by
  obtain ⟨x0, as, rfl, q1⟩ := skI_of q
  obtain ⟨x1, as, rfl, q2⟩ := skI_of q1
  obtain ⟨rfl, q0⟩ := skE_of q2
  obtain ⟨r, z1, z2⟩ := bnd_of q0
  exact ⟨_, z2, by decide, mX12_less hg z1, rfl, rfl, fun z => absurd z (by decide)⟩
def csX12_more : List (Nat × List (Nat × ARow)) := [(100000, [(0, 1, .iload_n 0, 0, 0, 0), (1, 1, .iload_n 1, 0, 0, 0), (2, 3, .if_icmp .ge 7, 9, 0, 0), (5, 1, .iload_n 1, 0, 0, 0), (6, 3, .goto 4, 10, 0, 0), (9, 1, .iload_n 0, 0, 0, 0), (10, 1, .ireturn, 0, 0, 0)])]
theorem rwX12_more : rowsB (mB 173) (mO 173) (mX 173) (mIni 173) (mFr 173) (mLo 173) (mT 173) csX12_more = true := by decide +kernel
def bX12_more (h : HH) (x0 : Int) (x1 : Int) : Option Int :=
  if x0 < (x1 : Int) then
    some x1
  else
    some x0
theorem uX12_more {g : SG} (hg : GOK g) {σ0 : SG} {h : HH} : ∀ {x0 : Int} {x1 : Int} {b : Int}, bX12_more h x0 x1 = some b → WK 173 (.inl (some (aI b))) σ0 (abH 71 119 g h) 0 [(0, aI x0), (1, aI x1)] [] (abH 71 119 g h) 0 0 := by
  intro x0 x1 b q
  have e : bX12_more h x0 x1 = segP 71 119 g.2.2.2.2 h krPI clNP csX12_more cuN 1000 0 [(0, aI x0), (1, aI x1)] [] := rfl
  rw [e] at q
  clear e
  refine segP_wk (by decide) (by decide) hg rwX12_more CLKP_N krPI_ok ?_ q
  clear q
  exact ct_N
def nX12_more (h : HH) (x0 : Int) (x1 : Int) : Option Int := bX12_more h x0 x1
theorem wX12_more {g : SG} (hg : GOK g) {σ0 : SG} {h : HH} : ∀ {x0 : Int} {x1 : Int} {b : Int}, nX12_more h x0 x1 = some b → WK 173 (.inl (some (aI b))) σ0 (abH 71 119 g h) 0 [(0, aI x0), (1, aI x1)] [] (abH 71 119 g h) 0 0 := by
  intro x0 x1 b q
  exact uX12_more hg q
theorem mX12_more {g : SG} (hg : GOK g) {h : HH} {x0 : Int} {x1 : Int} {b : Int} (q : nX12_more h x0 x1 = some b) : MCT 173 [] [aI x0, aI x1] (abH 71 119 g h) (.inl (some (aI b))) (abH 71 119 g h) :=
  mct_of (by decide) (MFok 173 (by decide +kernel)) (fun _ => Nat.le_of_ble_eq_true rfl) (wX12_more hg q)
def pX12_more {β : Type} (z : HH → Int → Int → Option Int) : PP β := fun h as f => skI as fun x0 as => skI as fun x1 as => skE as (bnd (z h x0 x1) fun r => f (.inl (some (aI r))))
theorem pX12_more_ok {β : Type} {g : SG} (hg : GOK g) : CP1 (β := β) 173 (pX12_more nX12_more) 71 119 g := fun h as f b q => by
  obtain ⟨x0, as, rfl, q1⟩ := skI_of q
  obtain ⟨x1, as, rfl, q2⟩ := skI_of q1
  obtain ⟨rfl, q0⟩ := skE_of q2
  obtain ⟨r, z1, z2⟩ := bnd_of q0
  exact ⟨_, z2, by decide, mX12_more hg z1, rfl, rfl, fun z => absurd z (by decide)⟩
def csX12_isPlace : List (Nat × List (Nat × ARow)) := [(100000, [(0, 1, .iload_n 0, 0, 0, 0), (1, 1, .iconst 0, 0, 0, 0), (2, 2, .bipush 15, 0, 0, 0), (4, 3, .invokestatic 178, 171, 3, 0), (7, 1, .ireturn, 1, 0, 0)])]
theorem rwX12_isPlace : rowsB (mB 174) (mO 174) (mX 174) (mIni 174) (mFr 174) (mLo 174) (mT 174) csX12_isPlace = true := by decide +kernel
def bX12_isPlace (f171 : HH → Int → Int → Int → Option Int) (h : HH) (x0 : Int) : Option Int :=
  bnd (f171 h x0 0 15) fun r1 =>
    gd ((0 : Int) ≤ r1 ∧ r1 ≤ (1 : Int)) <|
    some r1
theorem uX12_isPlace {g : SG} (hg : GOK g) {σ0 : SG} {h : HH} : ∀ {x0 : Int} {b : Int}, bX12_isPlace nX12_in h x0 = some b → WK 174 (.inl (some (aI b))) σ0 (abH 71 119 g h) 0 [(0, aI x0)] [] (abH 71 119 g h) 0 0 := by
  intro x0 b q
  have e : ∀ (f171 : HH → Int → Int → Int → Option Int) , bX12_isPlace f171 h x0 = segP 71 119 g.2.2.2.2 h krPI (clCP 171 (pX12_in f171 h) clNP) csX12_isPlace cuN 1000 0 [(0, aI x0)] [] := fun _ => rfl
  rw [e nX12_in] at q
  clear e
  refine segP_wk (by decide) (by decide) hg rwX12_isPlace (CLKP_C (pX12_in_ok hg) CLKP_N) krPI_ok ?_ q
  clear q
  exact ct_N
def nX12_isPlace (h : HH) (x0 : Int) : Option Int := bX12_isPlace nX12_in h x0
theorem wX12_isPlace {g : SG} (hg : GOK g) {σ0 : SG} {h : HH} : ∀ {x0 : Int} {b : Int}, nX12_isPlace h x0 = some b → WK 174 (.inl (some (aI b))) σ0 (abH 71 119 g h) 0 [(0, aI x0)] [] (abH 71 119 g h) 0 0 := by
  intro x0 b q
  exact uX12_isPlace hg q
theorem mX12_isPlace {g : SG} (hg : GOK g) {h : HH} {x0 : Int} {b : Int} (q : nX12_isPlace h x0 = some b) : MCT 174 [] [aI x0] (abH 71 119 g h) (.inl (some (aI b))) (abH 71 119 g h) :=
  mct_of (by decide) (MFok 174 (by decide +kernel)) (fun _ => Nat.le_of_ble_eq_true rfl) (wX12_isPlace hg q)
def pX12_isPlace {β : Type} (z : HH → Int → Option Int) : PP β := fun h as f => skI as fun x0 as => skE as (bnd (z h x0) fun r => f (.inl (some (aI r))))
theorem pX12_isPlace_ok {β : Type} {g : SG} (hg : GOK g) : CP1 (β := β) 174 (pX12_isPlace nX12_isPlace) 71 119 g := fun h as f b q => by
  obtain ⟨x0, as, rfl, q1⟩ := skI_of q
  obtain ⟨rfl, q0⟩ := skE_of q1
  obtain ⟨r, z1, z2⟩ := bnd_of q0
  exact ⟨_, z2, by decide, mX12_isPlace hg z1, rfl, rfl, fun z => absurd z (by decide)⟩
def csX12_isParcel : List (Nat × List (Nat × ARow)) := [(100000, [(0, 1, .iload_n 1, 0, 0, 0), (1, 1, .iconst 0, 0, 0, 0), (2, 1, .aload_n 0, 0, 0, 0), (3, 3, .getfield 182, 12, 21, 0), (6, 1, .iconst 1, 0, 0, 0), (7, 1, .isub, 0, 0, 0), (8, 3, .invokestatic 178, 171, 3, 0), (11, 1, .ireturn, 1, 0, 0)])]
theorem rwX12_isParcel : rowsB (mB 175) (mO 175) (mX 175) (mIni 175) (mFr 175) (mLo 175) (mT 175) csX12_isParcel = true := by decide +kernel
def bX12_isParcel (f171 : HH → Int → Int → Int → Option Int) (h : HH) (x1 : Int) : Option Int :=
  gd (R32 ((h.1 71 21) - 1)) <|
    bnd (f171 h x1 0 ((h.1 71 21) - 1)) fun r1 =>
    gd ((0 : Int) ≤ r1 ∧ r1 ≤ (1 : Int)) <|
    some r1
theorem uX12_isParcel {g : SG} (hg : GOK g) {σ0 : SG} {h : HH} : ∀ {x1 : Int} {b : Int}, bX12_isParcel nX12_in h x1 = some b → WK 175 (.inl (some (aI b))) σ0 (abH 71 119 g h) 0 [(0, aR 71), (1, aI x1)] [] (abH 71 119 g h) 0 0 := by
  intro x1 b q
  have e : ∀ (f171 : HH → Int → Int → Int → Option Int) , bX12_isParcel f171 h x1 = segP 71 119 g.2.2.2.2 h krPI (clCP 171 (pX12_in f171 h) clNP) csX12_isParcel cuN 1000 0 [(0, aR 71), (1, aI x1)] [] := fun _ => rfl
  rw [e nX12_in] at q
  clear e
  refine segP_wk (by decide) (by decide) hg rwX12_isParcel (CLKP_C (pX12_in_ok hg) CLKP_N) krPI_ok ?_ q
  clear q
  exact ct_N
def nX12_isParcel (h : HH) (x1 : Int) : Option Int := bX12_isParcel nX12_in h x1
theorem wX12_isParcel {g : SG} (hg : GOK g) {σ0 : SG} {h : HH} : ∀ {x1 : Int} {b : Int}, nX12_isParcel h x1 = some b → WK 175 (.inl (some (aI b))) σ0 (abH 71 119 g h) 0 [(0, aR 71), (1, aI x1)] [] (abH 71 119 g h) 0 0 := by
  intro x1 b q
  exact uX12_isParcel hg q
theorem mX12_isParcel {g : SG} (hg : GOK g) {h : HH} {x1 : Int} {b : Int} (q : nX12_isParcel h x1 = some b) : MCT 175 [] [aR 71, aI x1] (abH 71 119 g h) (.inl (some (aI b))) (abH 71 119 g h) :=
  mct_of (by decide) (MFok 175 (by decide +kernel)) (fun _ => Nat.le_of_ble_eq_true rfl) (wX12_isParcel hg q)
def pX12_isParcel {β : Type} (z : HH → Int → Option Int) : PP β := fun h as f => skC 71 as fun as => skI as fun x1 as => skE as (bnd (z h x1) fun r => f (.inl (some (aI r))))
theorem pX12_isParcel_ok {β : Type} {g : SG} (hg : GOK g) : CP1 (β := β) 175 (pX12_isParcel nX12_isParcel) 71 119 g := fun h as f b q => by
  obtain ⟨as, rfl, q1⟩ := skC_of q
  obtain ⟨x1, as, rfl, q2⟩ := skI_of q1
  obtain ⟨rfl, q0⟩ := skE_of q2
  obtain ⟨r, z1, z2⟩ := bnd_of q0
  exact ⟨_, z2, by decide, mX12_isParcel hg z1, rfl, rfl, fun z => absurd z (by decide)⟩
def csX12_isVan : List (Nat × List (Nat × ARow)) := [(100000, [(0, 1, .iload_n 1, 0, 0, 0), (1, 1, .iconst 0, 0, 0, 0), (2, 1, .aload_n 0, 0, 0, 0), (3, 3, .getfield 185, 12, 27, 0), (6, 1, .iconst 1, 0, 0, 0), (7, 1, .isub, 0, 0, 0), (8, 3, .invokestatic 178, 171, 3, 0), (11, 1, .ireturn, 1, 0, 0)])]
theorem rwX12_isVan : rowsB (mB 176) (mO 176) (mX 176) (mIni 176) (mFr 176) (mLo 176) (mT 176) csX12_isVan = true := by decide +kernel
def bX12_isVan (f171 : HH → Int → Int → Int → Option Int) (h : HH) (x1 : Int) : Option Int :=
  gd (R32 ((h.1 71 27) - 1)) <|
    bnd (f171 h x1 0 ((h.1 71 27) - 1)) fun r1 =>
    gd ((0 : Int) ≤ r1 ∧ r1 ≤ (1 : Int)) <|
    some r1
theorem uX12_isVan {g : SG} (hg : GOK g) {σ0 : SG} {h : HH} : ∀ {x1 : Int} {b : Int}, bX12_isVan nX12_in h x1 = some b → WK 176 (.inl (some (aI b))) σ0 (abH 71 119 g h) 0 [(0, aR 71), (1, aI x1)] [] (abH 71 119 g h) 0 0 := by
  intro x1 b q
  have e : ∀ (f171 : HH → Int → Int → Int → Option Int) , bX12_isVan f171 h x1 = segP 71 119 g.2.2.2.2 h krPI (clCP 171 (pX12_in f171 h) clNP) csX12_isVan cuN 1000 0 [(0, aR 71), (1, aI x1)] [] := fun _ => rfl
  rw [e nX12_in] at q
  clear e
  refine segP_wk (by decide) (by decide) hg rwX12_isVan (CLKP_C (pX12_in_ok hg) CLKP_N) krPI_ok ?_ q
  clear q
  exact ct_N
def nX12_isVan (h : HH) (x1 : Int) : Option Int := bX12_isVan nX12_in h x1
theorem wX12_isVan {g : SG} (hg : GOK g) {σ0 : SG} {h : HH} : ∀ {x1 : Int} {b : Int}, nX12_isVan h x1 = some b → WK 176 (.inl (some (aI b))) σ0 (abH 71 119 g h) 0 [(0, aR 71), (1, aI x1)] [] (abH 71 119 g h) 0 0 := by
  intro x1 b q
  exact uX12_isVan hg q
theorem mX12_isVan {g : SG} (hg : GOK g) {h : HH} {x1 : Int} {b : Int} (q : nX12_isVan h x1 = some b) : MCT 176 [] [aR 71, aI x1] (abH 71 119 g h) (.inl (some (aI b))) (abH 71 119 g h) :=
  mct_of (by decide) (MFok 176 (by decide +kernel)) (fun _ => Nat.le_of_ble_eq_true rfl) (wX12_isVan hg q)
def pX12_isVan {β : Type} (z : HH → Int → Option Int) : PP β := fun h as f => skC 71 as fun as => skI as fun x1 as => skE as (bnd (z h x1) fun r => f (.inl (some (aI r))))
theorem pX12_isVan_ok {β : Type} {g : SG} (hg : GOK g) : CP1 (β := β) 176 (pX12_isVan nX12_isVan) 71 119 g := fun h as f b q => by
  obtain ⟨as, rfl, q1⟩ := skC_of q
  obtain ⟨x1, as, rfl, q2⟩ := skI_of q1
  obtain ⟨rfl, q0⟩ := skE_of q2
  obtain ⟨r, z1, z2⟩ := bnd_of q0
  exact ⟨_, z2, by decide, mX12_isVan hg z1, rfl, rfl, fun z => absurd z (by decide)⟩
def csX12_refuse : List (Nat × List (Nat × ARow)) := [(100000, [(0, 1, .aload_n 0, 0, 0, 0), (1, 1, .iload_n 1, 0, 0, 0), (2, 3, .putfield 175, 12, 10, 0), (5, 1, .iconst 0, 0, 0, 0), (6, 1, .ireturn, 0, 0, 0)])]
theorem rwX12_refuse : rowsB (mB 177) (mO 177) (mX 177) (mIni 177) (mFr 177) (mLo 177) (mT 177) csX12_refuse = true := by decide +kernel
def bX12_refuse (x1 : Int) (h : HH) : Option (Int × HH) :=
  bnd (some (hI h 71 10 x1)) fun h1 =>
    some (0, h1)
theorem uX12_refuse {g : SG} (hg : GOK g) {σ0 : SG} : ∀ {x1 : Int} {h : HH} {b : (Int × HH)}, bX12_refuse x1 h = some b → WK 177 (.inl (some (aI b.1))) σ0 (abH 71 119 g b.2) 0 [(0, aR 71), (1, aI x1)] [] (abH 71 119 g h) 0 0 := by
  intro x1 h b q
  have e : bX12_refuse x1 h = segW 71 119 g.2.2.2.2 krWI clN csX12_refuse cuN 1000 0 [(0, aR 71), (1, aI x1)] [] h := rfl
  rw [e] at q
  clear e
  refine segW_wk (by decide) (by decide) hg rwX12_refuse CLKW_N krWI_ok ?_ q
  clear q
  exact ct_N
def nX12_refuse (x1 : Int) (h : HH) : Option (Int × HH) := bX12_refuse x1 h
theorem wX12_refuse {g : SG} (hg : GOK g) {σ0 : SG} : ∀ {x1 : Int} {h : HH} {b : (Int × HH)}, nX12_refuse x1 h = some b → WK 177 (.inl (some (aI b.1))) σ0 (abH 71 119 g b.2) 0 [(0, aR 71), (1, aI x1)] [] (abH 71 119 g h) 0 0 := by
  intro x1 h b q
  exact uX12_refuse hg q
theorem mX12_refuse {g : SG} (hg : GOK g) {h : HH} {x1 : Int} {b : (Int × HH)} (q : nX12_refuse x1 h = some b) : MCT 177 [] [aR 71, aI x1] (abH 71 119 g h) (.inl (some (aI b.1))) (abH 71 119 g b.2) :=
  mct_of (by decide) (MFok 177 (by decide +kernel)) (fun _ => Nat.le_of_ble_eq_true rfl) (wX12_refuse hg q)
def pX12_refuse {β : Type} (z : Int → HH → Option (Int × HH)) : PW β := fun as h f => skC 71 as fun as => skI as fun x1 as => skE as (bnd (z x1 h) fun r => f (.inl (some (aI r.1))) r.2)
theorem pX12_refuse_ok {β : Type} {g : SG} (hg : GOK g) : CW1 (β := β) 177 (pX12_refuse nX12_refuse) 71 119 g := fun as h f b q => by
  obtain ⟨as, rfl, q1⟩ := skC_of q
  obtain ⟨x1, as, rfl, q2⟩ := skI_of q1
  obtain ⟨rfl, q0⟩ := skE_of q2
  obtain ⟨r, z1, z2⟩ := bnd_of q0
  exact ⟨_, _, z2, by decide, mX12_refuse hg z1, rfl, rfl, fun z => absurd z (by decide)⟩
def csX12_told : List (Nat × List (Nat × ARow)) := [(100000, [(0, 1, .aload_n 0, 0, 0, 0), (1, 1, .iconst 0, 0, 0, 0), (2, 3, .putfield 175, 12, 10, 0), (5, 1, .iload_n 1, 0, 0, 0), (6, 1, .ireturn, 0, 0, 0)])]
theorem rwX12_told : rowsB (mB 178) (mO 178) (mX 178) (mIni 178) (mFr 178) (mLo 178) (mT 178) csX12_told = true := by decide +kernel
def bX12_told (x1 : Int) (h : HH) : Option (Int × HH) :=
  bnd (some (hI h 71 10 0)) fun h1 =>
    some (x1, h1)
theorem uX12_told {g : SG} (hg : GOK g) {σ0 : SG} : ∀ {x1 : Int} {h : HH} {b : (Int × HH)}, bX12_told x1 h = some b → WK 178 (.inl (some (aI b.1))) σ0 (abH 71 119 g b.2) 0 [(0, aR 71), (1, aI x1)] [] (abH 71 119 g h) 0 0 := by
  intro x1 h b q
  have e : bX12_told x1 h = segW 71 119 g.2.2.2.2 krWI clN csX12_told cuN 1000 0 [(0, aR 71), (1, aI x1)] [] h := rfl
  rw [e] at q
  clear e
  refine segW_wk (by decide) (by decide) hg rwX12_told CLKW_N krWI_ok ?_ q
  clear q
  exact ct_N
def nX12_told (x1 : Int) (h : HH) : Option (Int × HH) := bX12_told x1 h
theorem wX12_told {g : SG} (hg : GOK g) {σ0 : SG} : ∀ {x1 : Int} {h : HH} {b : (Int × HH)}, nX12_told x1 h = some b → WK 178 (.inl (some (aI b.1))) σ0 (abH 71 119 g b.2) 0 [(0, aR 71), (1, aI x1)] [] (abH 71 119 g h) 0 0 := by
  intro x1 h b q
  exact uX12_told hg q
theorem mX12_told {g : SG} (hg : GOK g) {h : HH} {x1 : Int} {b : (Int × HH)} (q : nX12_told x1 h = some b) : MCT 178 [] [aR 71, aI x1] (abH 71 119 g h) (.inl (some (aI b.1))) (abH 71 119 g b.2) :=
  mct_of (by decide) (MFok 178 (by decide +kernel)) (fun _ => Nat.le_of_ble_eq_true rfl) (wX12_told hg q)
def pX12_told {β : Type} (z : Int → HH → Option (Int × HH)) : PW β := fun as h f => skC 71 as fun as => skI as fun x1 as => skE as (bnd (z x1 h) fun r => f (.inl (some (aI r.1))) r.2)
theorem pX12_told_ok {β : Type} {g : SG} (hg : GOK g) : CW1 (β := β) 178 (pX12_told nX12_told) 71 119 g := fun as h f b q => by
  obtain ⟨as, rfl, q1⟩ := skC_of q
  obtain ⟨x1, as, rfl, q2⟩ := skI_of q1
  obtain ⟨rfl, q0⟩ := skE_of q2
  obtain ⟨r, z1, z2⟩ := bnd_of q0
  exact ⟨_, _, z2, by decide, mX12_told hg z1, rfl, rfl, fun z => absurd z (by decide)⟩
def csX12_goesAhead : List (Nat × List (Nat × ARow)) := [(41, [(0, 1, .iload_n 1, 0, 0, 0), (1, 1, .aload_n 0, 0, 0, 0), (2, 3, .getfield 28, 12, 6, 2), (5, 2, .iload 4, 0, 0, 0), (7, 1, .iaload, 0, 0, 0), (8, 3, .if_icmp .eq 20, 28, 0, 0), (11, 1, .iload_n 1, 0, 0, 0), (12, 1, .aload_n 0, 0, 0, 0), (13, 3, .getfield 28, 12, 6, 2), (16, 2, .iload 4, 0, 0, 0), (18, 1, .iaload, 0, 0, 0), (19, 3, .if_icmp .ge 7, 26, 0, 0), (22, 1, .iconst 1, 0, 0, 0), (23, 3, .goto 4, 27, 0, 0), (26, 1, .iconst 0, 0, 0, 0), (27, 1, .ireturn, 1, 0, 0), (28, 1, .iload_n 2, 0, 0, 0), (29, 1, .aload_n 0, 0, 0, 0), (30, 3, .getfield 31, 12, 7, 2), (33, 2, .iload 4, 0, 0, 0), (35, 1, .iaload, 0, 0, 0), (36, 3, .if_icmp .lt 25, 61, 0, 0), (39, 1, .iload_n 2, 0, 0, 0), (40, 1, .aload_n 0, 0, 0, 0)]),
  (100000, [(41, 3, .getfield 31, 12, 7, 2), (44, 2, .iload 4, 0, 0, 0), (46, 1, .iaload, 0, 0, 0), (47, 3, .if_icmp .ne 18, 65, 0, 0), (50, 1, .iload_n 3, 0, 0, 0), (51, 1, .aload_n 0, 0, 0, 0), (52, 3, .getfield 34, 12, 8, 2), (55, 2, .iload 4, 0, 0, 0), (57, 1, .iaload, 0, 0, 0), (58, 3, .if_icmp .ge 7, 65, 0, 0), (61, 1, .iconst 1, 0, 0, 0), (62, 3, .goto 4, 66, 0, 0), (65, 1, .iconst 0, 0, 0, 0), (66, 1, .ireturn, 1, 0, 0)])]
theorem rwX12_goesAhead : rowsB (mB 179) (mO 179) (mX 179) (mIni 179) (mFr 179) (mLo 179) (mT 179) csX12_goesAhead = true := by decide +kernel
def bX12_goesAhead (h : HH) (x1 : Int) (x2 : Int) (x3 : Int) (x4 : Int) : Option Int :=
  gd ((0 : Int) ≤ x4 ∧ x4 < (256 : Int)) <|
    if x1 = ((h.1 78 x4) : Int) then
    gd ((0 : Int) ≤ x4 ∧ x4 < (256 : Int)) <|
    if x2 < ((h.1 79 x4) : Int) then
    gd ((0 : Int) ≤ 1 ∧ 1 ≤ (1 : Int)) <|
    some 1
  else
    gd ((0 : Int) ≤ x4 ∧ x4 < (256 : Int)) <|
    if x2 = ((h.1 79 x4) : Int) then
    gd ((0 : Int) ≤ x4 ∧ x4 < (256 : Int)) <|
    if x3 < ((h.1 80 x4) : Int) then
    gd ((0 : Int) ≤ 1 ∧ 1 ≤ (1 : Int)) <|
    some 1
  else
    gd ((0 : Int) ≤ 0 ∧ 0 ≤ (1 : Int)) <|
    some 0
  else
    gd ((0 : Int) ≤ 0 ∧ 0 ≤ (1 : Int)) <|
    some 0
  else
    gd ((0 : Int) ≤ x4 ∧ x4 < (256 : Int)) <|
    if x1 < ((h.1 78 x4) : Int) then
    gd ((0 : Int) ≤ 1 ∧ 1 ≤ (1 : Int)) <|
    some 1
  else
    gd ((0 : Int) ≤ 0 ∧ 0 ≤ (1 : Int)) <|
    some 0
set_option maxRecDepth 100000 in
theorem uX12_goesAhead {g : SG} (hg : GOK g) {σ0 : SG} {h : HH} : ∀ {x1 : Int} {x2 : Int} {x3 : Int} {x4 : Int} {b : Int}, bX12_goesAhead h x1 x2 x3 x4 = some b → WK 179 (.inl (some (aI b))) σ0 (abH 71 119 g h) 0 [(0, aR 71), (1, aI x1), (2, aI x2), (3, aI x3), (4, aI x4)] [] (abH 71 119 g h) 0 0 := by
  intro x1 x2 x3 x4 b q
  have e : bX12_goesAhead h x1 x2 x3 x4 = segP 71 119 g.2.2.2.2 h krPI clNP csX12_goesAhead cuN 1000 0 [(0, aR 71), (1, aI x1), (2, aI x2), (3, aI x3), (4, aI x4)] [] := rfl
  rw [e] at q
  clear e
  refine segP_wk (by decide) (by decide) hg rwX12_goesAhead CLKP_N krPI_ok ?_ q
  clear q
  exact ct_N
def nX12_goesAhead (h : HH) (x1 : Int) (x2 : Int) (x3 : Int) (x4 : Int) : Option Int := bX12_goesAhead h x1 x2 x3 x4
theorem wX12_goesAhead {g : SG} (hg : GOK g) {σ0 : SG} {h : HH} : ∀ {x1 : Int} {x2 : Int} {x3 : Int} {x4 : Int} {b : Int}, nX12_goesAhead h x1 x2 x3 x4 = some b → WK 179 (.inl (some (aI b))) σ0 (abH 71 119 g h) 0 [(0, aR 71), (1, aI x1), (2, aI x2), (3, aI x3), (4, aI x4)] [] (abH 71 119 g h) 0 0 := by
  intro x1 x2 x3 x4 b q
  exact uX12_goesAhead hg q
theorem mX12_goesAhead {g : SG} (hg : GOK g) {h : HH} {x1 : Int} {x2 : Int} {x3 : Int} {x4 : Int} {b : Int} (q : nX12_goesAhead h x1 x2 x3 x4 = some b) : MCT 179 [] [aR 71, aI x1, aI x2, aI x3, aI x4] (abH 71 119 g h) (.inl (some (aI b))) (abH 71 119 g h) :=
  mct_of (by decide) (MFok 179 (by decide +kernel)) (fun _ => Nat.le_of_ble_eq_true rfl) (wX12_goesAhead hg q)
def pX12_goesAhead {β : Type} (z : HH → Int → Int → Int → Int → Option Int) : PP β := fun h as f => skC 71 as fun as => skI as fun x1 as => skI as fun x2 as => skI as fun x3 as => skI as fun x4 as => skE as (bnd (z h x1 x2 x3 x4) fun r => f (.inl (some (aI r))))
theorem pX12_goesAhead_ok {β : Type} {g : SG} (hg : GOK g) : CP1 (β := β) 179 (pX12_goesAhead nX12_goesAhead) 71 119 g := fun h as f b q => by
  obtain ⟨as, rfl, q1⟩ := skC_of q
  obtain ⟨x1, as, rfl, q2⟩ := skI_of q1
  obtain ⟨x2, as, rfl, q3⟩ := skI_of q2
  obtain ⟨x3, as, rfl, q4⟩ := skI_of q3
  obtain ⟨x4, as, rfl, q5⟩ := skI_of q4
  obtain ⟨rfl, q0⟩ := skE_of q5
  obtain ⟨r, z1, z2⟩ := bnd_of q0
  exact ⟨_, z2, by decide, mX12_goesAhead hg z1, rfl, rfl, fun z => absurd z (by decide)⟩
def csX12_ways : List (Nat × List (Nat × ARow)) := [(39, [(0, 1, .iconst 0, 0, 0, 0), (1, 1, .istore_n 1, 0, 0, 0), (2, 1, .iload_n 1, 0, 0, 0), (3, 3, .sipush 256, 0, 0, 0), (6, 3, .if_icmp .ge 46, 52, 0, 0), (9, 1, .aload_n 0, 0, 0, 0), (10, 3, .getfield 28, 12, 6, 2), (13, 1, .iload_n 1, 0, 0, 0), (14, 1, .iload_n 1, 0, 0, 0), (15, 2, .bipush 16, 0, 0, 0), (17, 1, .idiv, 0, 0, 0), (18, 1, .iload_n 1, 0, 0, 0), (19, 2, .bipush 16, 0, 0, 0), (21, 1, .irem, 0, 0, 0), (22, 3, .if_icmp .ne 7, 29, 0, 0), (25, 1, .iconst 0, 0, 0, 0), (26, 3, .goto 5, 31, 0, 0), (29, 2, .ldc 188, 1000000000, 0, 0), (31, 1, .iastore, 0, 0, 0), (32, 1, .aload_n 0, 0, 0, 0), (33, 3, .getfield 31, 12, 7, 2), (36, 1, .iload_n 1, 0, 0, 0), (37, 1, .iconst 0, 0, 0, 0), (38, 1, .iastore, 0, 0, 0)]),
  (78, [(39, 1, .aload_n 0, 0, 0, 0), (40, 3, .getfield 34, 12, 8, 2), (43, 1, .iload_n 1, 0, 0, 0), (44, 1, .iconst 0, 0, 0, 0), (45, 1, .iastore, 0, 0, 0), (46, 3, .iinc 1 1, 0, 0, 0), (49, 3, .goto (-47), 2, 0, 0), (52, 1, .iconst 1, 0, 0, 0), (53, 1, .istore_n 1, 0, 0, 0), (54, 1, .iload_n 1, 0, 0, 0), (55, 3, .ifCond .eq 204, 259, 0, 0), (58, 1, .iconst 0, 0, 0, 0), (59, 1, .istore_n 1, 0, 0, 0), (60, 1, .iconst 0, 0, 0, 0), (61, 1, .istore_n 2, 0, 0, 0), (62, 1, .iload_n 2, 0, 0, 0), (63, 2, .bipush 16, 0, 0, 0), (65, 1, .aload_n 0, 0, 0, 0), (66, 3, .getfield 189, 12, 9, 0), (69, 1, .imul, 0, 0, 0), (70, 3, .if_icmp .ge 186, 256, 0, 0), (73, 1, .iload_n 2, 0, 0, 0), (74, 1, .aload_n 0, 0, 0, 0), (75, 3, .getfield 189, 12, 9, 0)]),
  (114, [(78, 1, .idiv, 0, 0, 0), (79, 1, .istore_n 3, 0, 0, 0), (80, 1, .iload_n 2, 0, 0, 0), (81, 1, .aload_n 0, 0, 0, 0), (82, 3, .getfield 189, 12, 9, 0), (85, 1, .irem, 0, 0, 0), (86, 2, .istore 4, 0, 0, 0), (88, 2, .bipush 16, 0, 0, 0), (90, 1, .iload_n 3, 0, 0, 0), (91, 1, .imul, 0, 0, 0), (92, 1, .aload_n 0, 0, 0, 0), (93, 3, .getfield 7, 12, 0, 2), (96, 2, .iload 4, 0, 0, 0), (98, 1, .iaload, 0, 0, 0), (99, 1, .iadd, 0, 0, 0), (100, 2, .istore 5, 0, 0, 0), (102, 2, .bipush 16, 0, 0, 0), (104, 1, .iload_n 3, 0, 0, 0), (105, 1, .imul, 0, 0, 0), (106, 1, .aload_n 0, 0, 0, 0), (107, 3, .getfield 13, 12, 1, 2), (110, 2, .iload 4, 0, 0, 0), (112, 1, .iaload, 0, 0, 0), (113, 1, .iadd, 0, 0, 0)]),
  (157, [(114, 2, .istore 6, 0, 0, 0), (116, 1, .aload_n 0, 0, 0, 0), (117, 3, .getfield 28, 12, 6, 2), (120, 2, .iload 5, 0, 0, 0), (122, 1, .iaload, 0, 0, 0), (123, 2, .ldc 188, 1000000000, 0, 0), (125, 3, .if_icmp .ge 125, 250, 0, 0), (128, 1, .aload_n 0, 0, 0, 0), (129, 1, .aload_n 0, 0, 0, 0), (130, 3, .getfield 28, 12, 6, 2), (133, 2, .iload 5, 0, 0, 0), (135, 1, .iaload, 0, 0, 0), (136, 1, .aload_n 0, 0, 0, 0), (137, 3, .getfield 16, 12, 2, 2), (140, 2, .iload 4, 0, 0, 0), (142, 1, .iaload, 0, 0, 0), (143, 1, .iadd, 0, 0, 0), (144, 1, .aload_n 0, 0, 0, 0), (145, 3, .getfield 31, 12, 7, 2), (148, 2, .iload 5, 0, 0, 0), (150, 1, .iaload, 0, 0, 0), (151, 1, .aload_n 0, 0, 0, 0), (152, 3, .getfield 19, 12, 3, 2), (155, 2, .iload 4, 0, 0, 0)]),
  (201, [(157, 1, .iaload, 0, 0, 0), (158, 1, .iadd, 0, 0, 0), (159, 1, .aload_n 0, 0, 0, 0), (160, 3, .getfield 34, 12, 8, 2), (163, 2, .iload 5, 0, 0, 0), (165, 1, .iaload, 0, 0, 0), (166, 1, .aload_n 0, 0, 0, 0), (167, 3, .getfield 22, 12, 4, 2), (170, 2, .iload 4, 0, 0, 0), (172, 1, .iaload, 0, 0, 0), (173, 1, .iadd, 0, 0, 0), (174, 2, .iload 6, 0, 0, 0), (176, 3, .invokevirtual 192, 179, 5, 12), (179, 3, .ifCond .eq 71, 250, 0, 0), (182, 1, .aload_n 0, 0, 0, 0), (183, 3, .getfield 28, 12, 6, 2), (186, 2, .iload 6, 0, 0, 0), (188, 1, .aload_n 0, 0, 0, 0), (189, 3, .getfield 28, 12, 6, 2), (192, 2, .iload 5, 0, 0, 0), (194, 1, .iaload, 0, 0, 0), (195, 1, .aload_n 0, 0, 0, 0), (196, 3, .getfield 16, 12, 2, 2), (199, 2, .iload 4, 0, 0, 0)]),
  (240, [(201, 1, .iaload, 0, 0, 0), (202, 1, .iadd, 0, 0, 0), (203, 1, .iastore, 0, 0, 0), (204, 1, .aload_n 0, 0, 0, 0), (205, 3, .getfield 31, 12, 7, 2), (208, 2, .iload 6, 0, 0, 0), (210, 1, .aload_n 0, 0, 0, 0), (211, 3, .getfield 31, 12, 7, 2), (214, 2, .iload 5, 0, 0, 0), (216, 1, .iaload, 0, 0, 0), (217, 1, .aload_n 0, 0, 0, 0), (218, 3, .getfield 19, 12, 3, 2), (221, 2, .iload 4, 0, 0, 0), (223, 1, .iaload, 0, 0, 0), (224, 1, .iadd, 0, 0, 0), (225, 1, .iastore, 0, 0, 0), (226, 1, .aload_n 0, 0, 0, 0), (227, 3, .getfield 34, 12, 8, 2), (230, 2, .iload 6, 0, 0, 0), (232, 1, .aload_n 0, 0, 0, 0), (233, 3, .getfield 34, 12, 8, 2), (236, 2, .iload 5, 0, 0, 0), (238, 1, .iaload, 0, 0, 0), (239, 1, .aload_n 0, 0, 0, 0)]),
  (100000, [(240, 3, .getfield 22, 12, 4, 2), (243, 2, .iload 4, 0, 0, 0), (245, 1, .iaload, 0, 0, 0), (246, 1, .iadd, 0, 0, 0), (247, 1, .iastore, 0, 0, 0), (248, 1, .iconst 1, 0, 0, 0), (249, 1, .istore_n 1, 0, 0, 0), (250, 3, .iinc 2 1, 0, 0, 0), (253, 3, .goto (-191), 62, 0, 0), (256, 3, .goto (-202), 54, 0, 0), (259, 1, .return_, 0, 0, 0)])]
theorem rwX12_ways : rowsB (mB 180) (mO 180) (mX 180) (mIni 180) (mFr 180) (mLo 180) (mT 180) csX12_ways = true := by decide +kernel
def bX12_ways_250 (c62 : Int → Int → HH → Option HH) (x1 : Int) (x2 : Int) (h : HH) : Option HH :=
  gd (R32 (x2 + 1)) <|
    c62 x1 (x2 + 1) h
theorem uX12_ways_250 {g : SG} (hg : GOK g) {σ0 : SG} {c62 : Int → Int → HH → Option HH} (k62 : ∀ (x1 : Int) (x2 : Int) (h : HH) (b : HH), c62 x1 x2 h = some b → WK 180 (.inl none) σ0 (abH 71 119 g b) 62 [(0, aR 71), (1, aI x1), (2, aI x2)] [] (abH 71 119 g h) 0 0) : ∀ {x1 : Int} {x2 : Int} {h : HH} {b : HH}, bX12_ways_250 c62 x1 x2 h = some b → WK 180 (.inl none) σ0 (abH 71 119 g b) 250 [(0, aR 71), (1, aI x1), (2, aI x2)] [] (abH 71 119 g h) 0 0 := by
  intro x1 x2 h b q
  have e : bX12_ways_250 c62 x1 x2 h = segW 71 119 g.2.2.2.2 krWV clN csX12_ways (cuC 62 (fun l st s => tkC 0 71 l <| tkI 1 l fun x1 => tkI 2 l fun x2 => skE st (c62 x1 x2 s)) cuN) 1000 250 [(0, aR 71), (1, aI x1), (2, aI x2)] [] h := rfl
  rw [e] at q
  clear e
  refine segW_wk (by decide) (by decide) hg rwX12_ways CLKW_N krWV_ok ?_ q
  clear q
  refine ct_C ?_ (ct_N)
  · intro l st h q
    obtain ⟨m0, q1⟩ := tkC_of q
    obtain ⟨x1, m1, q2⟩ := tkI_of q1
    obtain ⟨x2, m2, q3⟩ := tkI_of q2
    obtain ⟨rfl, q4⟩ := skE_of q3
    exact WK_less (k62 _ _ _ _ q4) (List.forall_mem_cons.mpr ⟨m0, (List.forall_mem_cons.mpr ⟨m1, (List.forall_mem_cons.mpr ⟨m2, (fun _ h => absurd h List.not_mem_nil)⟩)⟩)⟩)
def nX12_ways_250 (c54 : Int → HH → Option HH) (c62 : Int → Int → HH → Option HH) (x1 : Int) (x2 : Int) (h : HH) : Option HH := bX12_ways_250 c62 x1 x2 h
theorem wX12_ways_250 {g : SG} (hg : GOK g) {σ0 : SG} {c54 : Int → HH → Option HH} {c62 : Int → Int → HH → Option HH} (k54 : ∀ (x1 : Int) (h : HH) (b : HH), c54 x1 h = some b → WK 180 (.inl none) σ0 (abH 71 119 g b) 54 [(0, aR 71), (1, aI x1)] [] (abH 71 119 g h) 0 0) (k62 : ∀ (x1 : Int) (x2 : Int) (h : HH) (b : HH), c62 x1 x2 h = some b → WK 180 (.inl none) σ0 (abH 71 119 g b) 62 [(0, aR 71), (1, aI x1), (2, aI x2)] [] (abH 71 119 g h) 0 0) : ∀ {x1 : Int} {x2 : Int} {h : HH} {b : HH}, nX12_ways_250 c54 c62 x1 x2 h = some b → WK 180 (.inl none) σ0 (abH 71 119 g b) 250 [(0, aR 71), (1, aI x1), (2, aI x2)] [] (abH 71 119 g h) 0 0 := by
  intro x1 x2 h b q
  exact uX12_ways_250 hg k62 q
def bX12_ways_182 (c250 : Int → Int → HH → Option HH) (x2 : Int) (x4 : Int) (x5 : Int) (x6 : Int) (h : HH) : Option HH :=
  gd ((0 : Int) ≤ x5 ∧ x5 < (256 : Int)) <|
    gd ((0 : Int) ≤ x4 ∧ x4 < (60 : Int)) <|
    gd (R32 ((h.1 78 x5) + (h.1 74 x4))) <|
    gd ((0 : Int) ≤ x6 ∧ x6 < (256 : Int)) <|
    bnd (some (hI h 78 x6 ((h.1 78 x5) + (h.1 74 x4)))) fun h1 =>
    gd ((0 : Int) ≤ x5 ∧ x5 < (256 : Int)) <|
    gd ((0 : Int) ≤ x4 ∧ x4 < (60 : Int)) <|
    gd (R32 ((h1.1 79 x5) + (h1.1 75 x4))) <|
    gd ((0 : Int) ≤ x6 ∧ x6 < (256 : Int)) <|
    bnd (some (hI h1 79 x6 ((h1.1 79 x5) + (h1.1 75 x4)))) fun h2 =>
    gd ((0 : Int) ≤ x5 ∧ x5 < (256 : Int)) <|
    gd ((0 : Int) ≤ x4 ∧ x4 < (60 : Int)) <|
    gd (R32 ((h2.1 80 x5) + (h2.1 76 x4))) <|
    gd ((0 : Int) ≤ x6 ∧ x6 < (256 : Int)) <|
    bnd (some (hI h2 80 x6 ((h2.1 80 x5) + (h2.1 76 x4)))) fun h3 =>
    c250 1 x2 h3
set_option maxRecDepth 100000 in
theorem uX12_ways_182 {g : SG} (hg : GOK g) {σ0 : SG} {c250 : Int → Int → HH → Option HH} (k250 : ∀ (x1 : Int) (x2 : Int) (h : HH) (b : HH), c250 x1 x2 h = some b → WK 180 (.inl none) σ0 (abH 71 119 g b) 250 [(0, aR 71), (1, aI x1), (2, aI x2)] [] (abH 71 119 g h) 0 0) : ∀ {x2 : Int} {x4 : Int} {x5 : Int} {x6 : Int} {h : HH} {b : HH}, bX12_ways_182 c250 x2 x4 x5 x6 h = some b → WK 180 (.inl none) σ0 (abH 71 119 g b) 182 [(0, aR 71), (2, aI x2), (4, aI x4), (5, aI x5), (6, aI x6)] [] (abH 71 119 g h) 0 0 := by
  intro x2 x4 x5 x6 h b q
  have e : bX12_ways_182 c250 x2 x4 x5 x6 h = segW 71 119 g.2.2.2.2 krWV clN csX12_ways (cuC 250 (fun l st s => tkC 0 71 l <| tkI 1 l fun x1 => tkI 2 l fun x2 => skE st (c250 x1 x2 s)) cuN) 1000 182 [(0, aR 71), (2, aI x2), (4, aI x4), (5, aI x5), (6, aI x6)] [] h := rfl
  rw [e] at q
  clear e
  refine segW_wk (by decide) (by decide) hg rwX12_ways CLKW_N krWV_ok ?_ q
  clear q
  refine ct_C ?_ (ct_N)
  · intro l st h q
    obtain ⟨m0, q1⟩ := tkC_of q
    obtain ⟨x1, m1, q2⟩ := tkI_of q1
    obtain ⟨x2, m2, q3⟩ := tkI_of q2
    obtain ⟨rfl, q4⟩ := skE_of q3
    exact WK_less (k250 _ _ _ _ q4) (List.forall_mem_cons.mpr ⟨m0, (List.forall_mem_cons.mpr ⟨m1, (List.forall_mem_cons.mpr ⟨m2, (fun _ h => absurd h List.not_mem_nil)⟩)⟩)⟩)
def nX12_ways_182 (c54 : Int → HH → Option HH) (c62 : Int → Int → HH → Option HH) (x2 : Int) (x4 : Int) (x5 : Int) (x6 : Int) (h : HH) : Option HH := bX12_ways_182 (nX12_ways_250 c54 c62) x2 x4 x5 x6 h
theorem wX12_ways_182 {g : SG} (hg : GOK g) {σ0 : SG} {c54 : Int → HH → Option HH} {c62 : Int → Int → HH → Option HH} (k54 : ∀ (x1 : Int) (h : HH) (b : HH), c54 x1 h = some b → WK 180 (.inl none) σ0 (abH 71 119 g b) 54 [(0, aR 71), (1, aI x1)] [] (abH 71 119 g h) 0 0) (k62 : ∀ (x1 : Int) (x2 : Int) (h : HH) (b : HH), c62 x1 x2 h = some b → WK 180 (.inl none) σ0 (abH 71 119 g b) 62 [(0, aR 71), (1, aI x1), (2, aI x2)] [] (abH 71 119 g h) 0 0) : ∀ {x2 : Int} {x4 : Int} {x5 : Int} {x6 : Int} {h : HH} {b : HH}, nX12_ways_182 c54 c62 x2 x4 x5 x6 h = some b → WK 180 (.inl none) σ0 (abH 71 119 g b) 182 [(0, aR 71), (2, aI x2), (4, aI x4), (5, aI x5), (6, aI x6)] [] (abH 71 119 g h) 0 0 := by
  intro x2 x4 x5 x6 h b q
  exact uX12_ways_182 hg (fun _ _ _ _ q => wX12_ways_250 hg k54 k62 q) q
def bX12_ways_128 (f179 : HH → Int → Int → Int → Int → Option Int) (c182 : Int → Int → Int → Int → HH → Option HH) (c250 : Int → Int → HH → Option HH) (x1 : Int) (x2 : Int) (x4 : Int) (x5 : Int) (x6 : Int) (h : HH) : Option HH :=
  gd ((0 : Int) ≤ x5 ∧ x5 < (256 : Int)) <|
    gd ((0 : Int) ≤ x4 ∧ x4 < (60 : Int)) <|
    gd (R32 ((h.1 78 x5) + (h.1 74 x4))) <|
    gd ((0 : Int) ≤ x5 ∧ x5 < (256 : Int)) <|
    gd ((0 : Int) ≤ x4 ∧ x4 < (60 : Int)) <|
    gd (R32 ((h.1 79 x5) + (h.1 75 x4))) <|
    gd ((0 : Int) ≤ x5 ∧ x5 < (256 : Int)) <|
    gd ((0 : Int) ≤ x4 ∧ x4 < (60 : Int)) <|
    gd (R32 ((h.1 80 x5) + (h.1 76 x4))) <|
    bnd (f179 h ((h.1 78 x5) + (h.1 74 x4)) ((h.1 79 x5) + (h.1 75 x4)) ((h.1 80 x5) + (h.1 76 x4)) x6) fun r1 =>
    if r1 = (0 : Int) then
    c250 x1 x2 h
  else
    c182 x2 x4 x5 x6 h
set_option maxRecDepth 100000 in
theorem uX12_ways_128 {g : SG} (hg : GOK g) {σ0 : SG} {c182 : Int → Int → Int → Int → HH → Option HH} {c250 : Int → Int → HH → Option HH} (k182 : ∀ (x2 : Int) (x4 : Int) (x5 : Int) (x6 : Int) (h : HH) (b : HH), c182 x2 x4 x5 x6 h = some b → WK 180 (.inl none) σ0 (abH 71 119 g b) 182 [(0, aR 71), (2, aI x2), (4, aI x4), (5, aI x5), (6, aI x6)] [] (abH 71 119 g h) 0 0) (k250 : ∀ (x1 : Int) (x2 : Int) (h : HH) (b : HH), c250 x1 x2 h = some b → WK 180 (.inl none) σ0 (abH 71 119 g b) 250 [(0, aR 71), (1, aI x1), (2, aI x2)] [] (abH 71 119 g h) 0 0) : ∀ {x1 : Int} {x2 : Int} {x4 : Int} {x5 : Int} {x6 : Int} {h : HH} {b : HH}, bX12_ways_128 nX12_goesAhead c182 c250 x1 x2 x4 x5 x6 h = some b → WK 180 (.inl none) σ0 (abH 71 119 g b) 128 [(0, aR 71), (1, aI x1), (2, aI x2), (4, aI x4), (5, aI x5), (6, aI x6)] [] (abH 71 119 g h) 0 0 := by
  intro x1 x2 x4 x5 x6 h b q
  have e : ∀ (f179 : HH → Int → Int → Int → Int → Option Int) , bX12_ways_128 f179 c182 c250 x1 x2 x4 x5 x6 h = segW 71 119 g.2.2.2.2 krWV (clC 179 (liPW (pX12_goesAhead f179)) clN) csX12_ways (cuC 182 (fun l st s => tkC 0 71 l <| tkI 2 l fun x2 => tkI 4 l fun x4 => tkI 5 l fun x5 => tkI 6 l fun x6 => skE st (c182 x2 x4 x5 x6 s)) (cuC 250 (fun l st s => tkC 0 71 l <| tkI 1 l fun x1 => tkI 2 l fun x2 => skE st (c250 x1 x2 s)) cuN)) 1000 128 [(0, aR 71), (1, aI x1), (2, aI x2), (4, aI x4), (5, aI x5), (6, aI x6)] [] h := fun _ => rfl
  rw [e nX12_goesAhead] at q
  clear e
  refine segW_wk (by decide) (by decide) hg rwX12_ways (CLKW_C (liPW_ok (pX12_goesAhead_ok hg)) CLKW_N) krWV_ok ?_ q
  clear q
  refine ct_C ?_ (ct_C ?_ (ct_N))
  · intro l st h q
    obtain ⟨m0, q1⟩ := tkC_of q
    obtain ⟨x2, m2, q2⟩ := tkI_of q1
    obtain ⟨x4, m4, q3⟩ := tkI_of q2
    obtain ⟨x5, m5, q4⟩ := tkI_of q3
    obtain ⟨x6, m6, q5⟩ := tkI_of q4
    obtain ⟨rfl, q6⟩ := skE_of q5
    exact WK_less (k182 _ _ _ _ _ _ q6) (List.forall_mem_cons.mpr ⟨m0, (List.forall_mem_cons.mpr ⟨m2, (List.forall_mem_cons.mpr ⟨m4, (List.forall_mem_cons.mpr ⟨m5, (List.forall_mem_cons.mpr ⟨m6, (fun _ h => absurd h List.not_mem_nil)⟩)⟩)⟩)⟩)⟩)
  · intro l st h q
    obtain ⟨m0, q1⟩ := tkC_of q
    obtain ⟨x1, m1, q2⟩ := tkI_of q1
    obtain ⟨x2, m2, q3⟩ := tkI_of q2
    obtain ⟨rfl, q4⟩ := skE_of q3
    exact WK_less (k250 _ _ _ _ q4) (List.forall_mem_cons.mpr ⟨m0, (List.forall_mem_cons.mpr ⟨m1, (List.forall_mem_cons.mpr ⟨m2, (fun _ h => absurd h List.not_mem_nil)⟩)⟩)⟩)
def nX12_ways_128 (c54 : Int → HH → Option HH) (c62 : Int → Int → HH → Option HH) (x1 : Int) (x2 : Int) (x4 : Int) (x5 : Int) (x6 : Int) (h : HH) : Option HH := bX12_ways_128 nX12_goesAhead (nX12_ways_182 c54 c62) (nX12_ways_250 c54 c62) x1 x2 x4 x5 x6 h
theorem wX12_ways_128 {g : SG} (hg : GOK g) {σ0 : SG} {c54 : Int → HH → Option HH} {c62 : Int → Int → HH → Option HH} (k54 : ∀ (x1 : Int) (h : HH) (b : HH), c54 x1 h = some b → WK 180 (.inl none) σ0 (abH 71 119 g b) 54 [(0, aR 71), (1, aI x1)] [] (abH 71 119 g h) 0 0) (k62 : ∀ (x1 : Int) (x2 : Int) (h : HH) (b : HH), c62 x1 x2 h = some b → WK 180 (.inl none) σ0 (abH 71 119 g b) 62 [(0, aR 71), (1, aI x1), (2, aI x2)] [] (abH 71 119 g h) 0 0) : ∀ {x1 : Int} {x2 : Int} {x4 : Int} {x5 : Int} {x6 : Int} {h : HH} {b : HH}, nX12_ways_128 c54 c62 x1 x2 x4 x5 x6 h = some b → WK 180 (.inl none) σ0 (abH 71 119 g b) 128 [(0, aR 71), (1, aI x1), (2, aI x2), (4, aI x4), (5, aI x5), (6, aI x6)] [] (abH 71 119 g h) 0 0 := by
  intro x1 x2 x4 x5 x6 h b q
  exact uX12_ways_128 hg (fun _ _ _ _ _ _ q => wX12_ways_182 hg k54 k62 q) (fun _ _ _ _ q => wX12_ways_250 hg k54 k62 q) q
def bX12_ways_62 (c54 : Int → HH → Option HH) (c128 : Int → Int → Int → Int → Int → HH → Option HH) (c250 : Int → Int → HH → Option HH) (x1 : Int) (x2 : Int) (h : HH) : Option HH :=
  gd (R32 (16 * (h.1 71 9))) <|
    if x2 < ((16 * (h.1 71 9)) : Int) then
    gd ((0 : Int) ≤ x2 ∧ (0 : Int) < (h.1 71 9)) <|
    gd ((0 : Int) ≤ x2 ∧ (0 : Int) < (h.1 71 9)) <|
    gd (R32 (16 * (x2 / (h.1 71 9)))) <|
    gd ((0 : Int) ≤ (x2 % (h.1 71 9)) ∧ (x2 % (h.1 71 9)) < (60 : Int)) <|
    gd (R32 ((16 * (x2 / (h.1 71 9))) + (h.1 72 (x2 % (h.1 71 9))))) <|
    gd (R32 (16 * (x2 / (h.1 71 9)))) <|
    gd ((0 : Int) ≤ (x2 % (h.1 71 9)) ∧ (x2 % (h.1 71 9)) < (60 : Int)) <|
    gd (R32 ((16 * (x2 / (h.1 71 9))) + (h.1 73 (x2 % (h.1 71 9))))) <|
    gd ((0 : Int) ≤ ((16 * (x2 / (h.1 71 9))) + (h.1 72 (x2 % (h.1 71 9)))) ∧ ((16 * (x2 / (h.1 71 9))) + (h.1 72 (x2 % (h.1 71 9)))) < (256 : Int)) <|
    if (h.1 78 ((16 * (x2 / (h.1 71 9))) + (h.1 72 (x2 % (h.1 71 9))))) < (1000000000 : Int) then
    c128 x1 x2 (x2 % (h.1 71 9)) ((16 * (x2 / (h.1 71 9))) + (h.1 72 (x2 % (h.1 71 9)))) ((16 * (x2 / (h.1 71 9))) + (h.1 73 (x2 % (h.1 71 9)))) h
  else
    c250 x1 x2 h
  else
    c54 x1 h
set_option maxRecDepth 100000 in
theorem uX12_ways_62 {g : SG} (hg : GOK g) {σ0 : SG} {c54 : Int → HH → Option HH} {c128 : Int → Int → Int → Int → Int → HH → Option HH} {c250 : Int → Int → HH → Option HH} (k54 : ∀ (x1 : Int) (h : HH) (b : HH), c54 x1 h = some b → WK 180 (.inl none) σ0 (abH 71 119 g b) 54 [(0, aR 71), (1, aI x1)] [] (abH 71 119 g h) 0 0) (k128 : ∀ (x1 : Int) (x2 : Int) (x4 : Int) (x5 : Int) (x6 : Int) (h : HH) (b : HH), c128 x1 x2 x4 x5 x6 h = some b → WK 180 (.inl none) σ0 (abH 71 119 g b) 128 [(0, aR 71), (1, aI x1), (2, aI x2), (4, aI x4), (5, aI x5), (6, aI x6)] [] (abH 71 119 g h) 0 0) (k250 : ∀ (x1 : Int) (x2 : Int) (h : HH) (b : HH), c250 x1 x2 h = some b → WK 180 (.inl none) σ0 (abH 71 119 g b) 250 [(0, aR 71), (1, aI x1), (2, aI x2)] [] (abH 71 119 g h) 0 0) : ∀ {x1 : Int} {x2 : Int} {h : HH} {b : HH}, bX12_ways_62 c54 c128 c250 x1 x2 h = some b → WK 180 (.inl none) σ0 (abH 71 119 g b) 62 [(0, aR 71), (1, aI x1), (2, aI x2)] [] (abH 71 119 g h) 0 0 := by
  intro x1 x2 h b q
  have e : bX12_ways_62 c54 c128 c250 x1 x2 h = segW 71 119 g.2.2.2.2 krWV clN csX12_ways (cuC 54 (fun l st s => tkC 0 71 l <| tkI 1 l fun x1 => skE st (c54 x1 s)) (cuC 128 (fun l st s => tkC 0 71 l <| tkI 1 l fun x1 => tkI 2 l fun x2 => tkI 4 l fun x4 => tkI 5 l fun x5 => tkI 6 l fun x6 => skE st (c128 x1 x2 x4 x5 x6 s)) (cuC 250 (fun l st s => tkC 0 71 l <| tkI 1 l fun x1 => tkI 2 l fun x2 => skE st (c250 x1 x2 s)) cuN))) 1000 62 [(0, aR 71), (1, aI x1), (2, aI x2)] [] h := rfl
  rw [e] at q
  clear e
  refine segW_wk (by decide) (by decide) hg rwX12_ways CLKW_N krWV_ok ?_ q
  clear q
  refine ct_C ?_ (ct_C ?_ (ct_C ?_ (ct_N)))
  · intro l st h q
    obtain ⟨m0, q1⟩ := tkC_of q
    obtain ⟨x1, m1, q2⟩ := tkI_of q1
    obtain ⟨rfl, q3⟩ := skE_of q2
    exact WK_less (k54 _ _ _ q3) (List.forall_mem_cons.mpr ⟨m0, (List.forall_mem_cons.mpr ⟨m1, (fun _ h => absurd h List.not_mem_nil)⟩)⟩)
  · intro l st h q
    obtain ⟨m0, q1⟩ := tkC_of q
    obtain ⟨x1, m1, q2⟩ := tkI_of q1
    obtain ⟨x2, m2, q3⟩ := tkI_of q2
    obtain ⟨x4, m4, q4⟩ := tkI_of q3
    obtain ⟨x5, m5, q5⟩ := tkI_of q4
    obtain ⟨x6, m6, q6⟩ := tkI_of q5
    obtain ⟨rfl, q7⟩ := skE_of q6
    exact WK_less (k128 _ _ _ _ _ _ _ q7) (List.forall_mem_cons.mpr ⟨m0, (List.forall_mem_cons.mpr ⟨m1, (List.forall_mem_cons.mpr ⟨m2, (List.forall_mem_cons.mpr ⟨m4, (List.forall_mem_cons.mpr ⟨m5, (List.forall_mem_cons.mpr ⟨m6, (fun _ h => absurd h List.not_mem_nil)⟩)⟩)⟩)⟩)⟩)⟩)
  · intro l st h q
    obtain ⟨m0, q1⟩ := tkC_of q
    obtain ⟨x1, m1, q2⟩ := tkI_of q1
    obtain ⟨x2, m2, q3⟩ := tkI_of q2
    obtain ⟨rfl, q4⟩ := skE_of q3
    exact WK_less (k250 _ _ _ _ q4) (List.forall_mem_cons.mpr ⟨m0, (List.forall_mem_cons.mpr ⟨m1, (List.forall_mem_cons.mpr ⟨m2, (fun _ h => absurd h List.not_mem_nil)⟩)⟩)⟩)
def nX12_ways_62 (c54 : Int → HH → Option HH) : Nat → Int → Int → HH → Option HH := iter (fun _ _ _ => none) (fun self => bX12_ways_62 c54 (nX12_ways_128 c54 self) (nX12_ways_250 c54 self))
theorem nX12_ways_62_s {c54 : Int → HH → Option HH} {F : Nat} : nX12_ways_62 c54 (F + 1) = bX12_ways_62 c54 (nX12_ways_128 c54 (nX12_ways_62 c54 F)) (nX12_ways_250 c54 (nX12_ways_62 c54 F)) := rfl
theorem wX12_ways_62 {g : SG} (hg : GOK g) {σ0 : SG} {c54 : Int → HH → Option HH} (k54 : ∀ (x1 : Int) (h : HH) (b : HH), c54 x1 h = some b → WK 180 (.inl none) σ0 (abH 71 119 g b) 54 [(0, aR 71), (1, aI x1)] [] (abH 71 119 g h) 0 0) : ∀ {F : Nat}, ∀ {x1 : Int} {x2 : Int} {h : HH} {b : HH}, nX12_ways_62 c54 F x1 x2 h = some b → WK 180 (.inl none) σ0 (abH 71 119 g b) 62 [(0, aR 71), (1, aI x1), (2, aI x2)] [] (abH 71 119 g h) 0 0 := by
  intro F
  have z : ∀ (x1 : Int) (x2 : Int) (h : HH) (b : HH), nX12_ways_62 c54 F x1 x2 h = some b → WK 180 (.inl none) σ0 (abH 71 119 g b) 62 [(0, aR 71), (1, aI x1), (2, aI x2)] [] (abH 71 119 g h) 0 0 := iter_ind (P := fun (c : Int → Int → HH → Option HH) => ∀ (x1 : Int) (x2 : Int) (h : HH) (b : HH), c x1 x2 h = some b → WK 180 (.inl none) σ0 (abH 71 119 g b) 62 [(0, aR 71), (1, aI x1), (2, aI x2)] [] (abH 71 119 g h) 0 0) (by
    intro x1 x2 h b q
    cases q) (fun self ih => by
    intro x1 x2 h b q
    exact uX12_ways_62 hg k54 (fun _ _ _ _ _ _ _ q => wX12_ways_128 hg k54 ih q) (fun _ _ _ _ q => wX12_ways_250 hg k54 ih q) q) F
  intro x1 x2 h b q
  exact z _ _ _ _ q
def bX12_ways_54 (c62 : Int → Int → HH → Option HH) (x1 : Int) (h : HH) : Option HH :=
  if x1 = (0 : Int) then
    some h
  else
    c62 0 0 h
theorem uX12_ways_54 {g : SG} (hg : GOK g) {σ0 : SG} {c62 : Int → Int → HH → Option HH} (k62 : ∀ (x1 : Int) (x2 : Int) (h : HH) (b : HH), c62 x1 x2 h = some b → WK 180 (.inl none) σ0 (abH 71 119 g b) 62 [(0, aR 71), (1, aI x1), (2, aI x2)] [] (abH 71 119 g h) 0 0) : ∀ {x1 : Int} {h : HH} {b : HH}, bX12_ways_54 c62 x1 h = some b → WK 180 (.inl none) σ0 (abH 71 119 g b) 54 [(0, aR 71), (1, aI x1)] [] (abH 71 119 g h) 0 0 := by
  intro x1 h b q
  have e : bX12_ways_54 c62 x1 h = segW 71 119 g.2.2.2.2 krWV clN csX12_ways (cuC 62 (fun l st s => tkC 0 71 l <| tkI 1 l fun x1 => tkI 2 l fun x2 => skE st (c62 x1 x2 s)) cuN) 1000 54 [(0, aR 71), (1, aI x1)] [] h := rfl
  rw [e] at q
  clear e
  refine segW_wk (by decide) (by decide) hg rwX12_ways CLKW_N krWV_ok ?_ q
  clear q
  refine ct_C ?_ (ct_N)
  · intro l st h q
    obtain ⟨m0, q1⟩ := tkC_of q
    obtain ⟨x1, m1, q2⟩ := tkI_of q1
    obtain ⟨x2, m2, q3⟩ := tkI_of q2
    obtain ⟨rfl, q4⟩ := skE_of q3
    exact WK_less (k62 _ _ _ _ q4) (List.forall_mem_cons.mpr ⟨m0, (List.forall_mem_cons.mpr ⟨m1, (List.forall_mem_cons.mpr ⟨m2, (fun _ h => absurd h List.not_mem_nil)⟩)⟩)⟩)
def nX12_ways_54 : Nat → Int → HH → Option HH := iter (fun _ _ => none) (fun self => bX12_ways_54 (nX12_ways_62 self 100000))
theorem nX12_ways_54_s {F : Nat} : nX12_ways_54 (F + 1) = bX12_ways_54 (nX12_ways_62 (nX12_ways_54 F) 100000) := rfl
theorem wX12_ways_54 {g : SG} (hg : GOK g) {σ0 : SG} : ∀ {F : Nat}, ∀ {x1 : Int} {h : HH} {b : HH}, nX12_ways_54 F x1 h = some b → WK 180 (.inl none) σ0 (abH 71 119 g b) 54 [(0, aR 71), (1, aI x1)] [] (abH 71 119 g h) 0 0 := by
  intro F
  have z : ∀ (x1 : Int) (h : HH) (b : HH), nX12_ways_54 F x1 h = some b → WK 180 (.inl none) σ0 (abH 71 119 g b) 54 [(0, aR 71), (1, aI x1)] [] (abH 71 119 g h) 0 0 := iter_ind (P := fun (c : Int → HH → Option HH) => ∀ (x1 : Int) (h : HH) (b : HH), c x1 h = some b → WK 180 (.inl none) σ0 (abH 71 119 g b) 54 [(0, aR 71), (1, aI x1)] [] (abH 71 119 g h) 0 0) (by
    intro x1 h b q
    cases q) (fun self ih => by
    intro x1 h b q
    exact uX12_ways_54 hg (fun _ _ _ _ q => wX12_ways_62 hg ih q) q) F
  intro x1 h b q
  exact z _ _ _ q
def bX12_ways_31 (c2 : Int → HH → Option HH) (x1 : Int) (y0 : Int) (y1 : Int) (h : HH) : Option HH :=
  gd ((0 : Int) ≤ y1 ∧ y1 < (256 : Int)) <|
    bnd (some (hI h 78 y1 y0)) fun h1 =>
    gd ((0 : Int) ≤ x1 ∧ x1 < (256 : Int)) <|
    bnd (some (hI h1 79 x1 0)) fun h2 =>
    gd ((0 : Int) ≤ x1 ∧ x1 < (256 : Int)) <|
    bnd (some (hI h2 80 x1 0)) fun h3 =>
    gd (R32 (x1 + 1)) <|
    c2 (x1 + 1) h3
theorem uX12_ways_31 {g : SG} (hg : GOK g) {σ0 : SG} {c2 : Int → HH → Option HH} (k2 : ∀ (x1 : Int) (h : HH) (b : HH), c2 x1 h = some b → WK 180 (.inl none) σ0 (abH 71 119 g b) 2 [(0, aR 71), (1, aI x1)] [] (abH 71 119 g h) 0 0) : ∀ {x1 : Int} {y0 : Int} {y1 : Int} {h : HH} {b : HH}, bX12_ways_31 c2 x1 y0 y1 h = some b → WK 180 (.inl none) σ0 (abH 71 119 g b) 31 [(0, aR 71), (1, aI x1)] [aI y0, aI y1, aR 78] (abH 71 119 g h) 0 0 := by
  intro x1 y0 y1 h b q
  have e : bX12_ways_31 c2 x1 y0 y1 h = segW 71 119 g.2.2.2.2 krWV clN csX12_ways (cuC 2 (fun l st s => tkC 0 71 l <| tkI 1 l fun x1 => skE st (c2 x1 s)) cuN) 1000 31 [(0, aR 71), (1, aI x1)] [aI y0, aI y1, aR 78] h := rfl
  rw [e] at q
  clear e
  refine segW_wk (by decide) (by decide) hg rwX12_ways CLKW_N krWV_ok ?_ q
  clear q
  refine ct_C ?_ (ct_N)
  · intro l st h q
    obtain ⟨m0, q1⟩ := tkC_of q
    obtain ⟨x1, m1, q2⟩ := tkI_of q1
    obtain ⟨rfl, q3⟩ := skE_of q2
    exact WK_less (k2 _ _ _ q3) (List.forall_mem_cons.mpr ⟨m0, (List.forall_mem_cons.mpr ⟨m1, (fun _ h => absurd h List.not_mem_nil)⟩)⟩)
def nX12_ways_31 (c2 : Int → HH → Option HH) (x1 : Int) (y0 : Int) (y1 : Int) (h : HH) : Option HH := bX12_ways_31 c2 x1 y0 y1 h
theorem wX12_ways_31 {g : SG} (hg : GOK g) {σ0 : SG} {c2 : Int → HH → Option HH} (k2 : ∀ (x1 : Int) (h : HH) (b : HH), c2 x1 h = some b → WK 180 (.inl none) σ0 (abH 71 119 g b) 2 [(0, aR 71), (1, aI x1)] [] (abH 71 119 g h) 0 0) : ∀ {x1 : Int} {y0 : Int} {y1 : Int} {h : HH} {b : HH}, nX12_ways_31 c2 x1 y0 y1 h = some b → WK 180 (.inl none) σ0 (abH 71 119 g b) 31 [(0, aR 71), (1, aI x1)] [aI y0, aI y1, aR 78] (abH 71 119 g h) 0 0 := by
  intro x1 y0 y1 h b q
  exact uX12_ways_31 hg k2 q
def bX12_ways_2 (c31 : Int → Int → Int → HH → Option HH) (c54 : Int → HH → Option HH) (x1 : Int) (h : HH) : Option HH :=
  if x1 < (256 : Int) then
    gd ((0 : Int) ≤ x1 ∧ (0 : Int) < 16) <|
    gd ((0 : Int) ≤ x1 ∧ (0 : Int) < 16) <|
    if (x1 / 16) = ((x1 % 16) : Int) then
    c31 x1 0 x1 h
  else
    c31 x1 1000000000 x1 h
  else
    c54 1 h
theorem uX12_ways_2 {g : SG} (hg : GOK g) {σ0 : SG} {c31 : Int → Int → Int → HH → Option HH} {c54 : Int → HH → Option HH} (k31 : ∀ (x1 : Int) (y0 : Int) (y1 : Int) (h : HH) (b : HH), c31 x1 y0 y1 h = some b → WK 180 (.inl none) σ0 (abH 71 119 g b) 31 [(0, aR 71), (1, aI x1)] [aI y0, aI y1, aR 78] (abH 71 119 g h) 0 0) (k54 : ∀ (x1 : Int) (h : HH) (b : HH), c54 x1 h = some b → WK 180 (.inl none) σ0 (abH 71 119 g b) 54 [(0, aR 71), (1, aI x1)] [] (abH 71 119 g h) 0 0) : ∀ {x1 : Int} {h : HH} {b : HH}, bX12_ways_2 c31 c54 x1 h = some b → WK 180 (.inl none) σ0 (abH 71 119 g b) 2 [(0, aR 71), (1, aI x1)] [] (abH 71 119 g h) 0 0 := by
  intro x1 h b q
  have e : bX12_ways_2 c31 c54 x1 h = segW 71 119 g.2.2.2.2 krWV clN csX12_ways (cuC 31 (fun l st s => tkC 0 71 l <| tkI 1 l fun x1 => skI st fun y0 st => skI st fun y1 st => skC 78 st fun st => skE st (c31 x1 y0 y1 s)) (cuC 54 (fun l st s => tkC 0 71 l <| tkI 1 l fun x1 => skE st (c54 x1 s)) cuN)) 1000 2 [(0, aR 71), (1, aI x1)] [] h := rfl
  rw [e] at q
  clear e
  refine segW_wk (by decide) (by decide) hg rwX12_ways CLKW_N krWV_ok ?_ q
  clear q
  refine ct_C ?_ (ct_C ?_ (ct_N))
  · intro l st h q
    obtain ⟨m0, q1⟩ := tkC_of q
    obtain ⟨x1, m1, q2⟩ := tkI_of q1
    obtain ⟨y0, t0, rfl, q3⟩ := skI_of q2
    obtain ⟨y1, t1, rfl, q4⟩ := skI_of q3
    obtain ⟨t2, rfl, q5⟩ := skC_of q4
    obtain ⟨rfl, q6⟩ := skE_of q5
    exact WK_less (k31 _ _ _ _ _ q6) (List.forall_mem_cons.mpr ⟨m0, (List.forall_mem_cons.mpr ⟨m1, (fun _ h => absurd h List.not_mem_nil)⟩)⟩)
  · intro l st h q
    obtain ⟨m0, q1⟩ := tkC_of q
    obtain ⟨x1, m1, q2⟩ := tkI_of q1
    obtain ⟨rfl, q3⟩ := skE_of q2
    exact WK_less (k54 _ _ _ q3) (List.forall_mem_cons.mpr ⟨m0, (List.forall_mem_cons.mpr ⟨m1, (fun _ h => absurd h List.not_mem_nil)⟩)⟩)
def nX12_ways_2 : Nat → Int → HH → Option HH := iter (fun _ _ => none) (fun self => bX12_ways_2 (nX12_ways_31 self) (nX12_ways_54 100000))
theorem nX12_ways_2_s {F : Nat} : nX12_ways_2 (F + 1) = bX12_ways_2 (nX12_ways_31 (nX12_ways_2 F)) (nX12_ways_54 100000) := rfl
theorem wX12_ways_2 {g : SG} (hg : GOK g) {σ0 : SG} : ∀ {F : Nat}, ∀ {x1 : Int} {h : HH} {b : HH}, nX12_ways_2 F x1 h = some b → WK 180 (.inl none) σ0 (abH 71 119 g b) 2 [(0, aR 71), (1, aI x1)] [] (abH 71 119 g h) 0 0 := by
  intro F
  have z : ∀ (x1 : Int) (h : HH) (b : HH), nX12_ways_2 F x1 h = some b → WK 180 (.inl none) σ0 (abH 71 119 g b) 2 [(0, aR 71), (1, aI x1)] [] (abH 71 119 g h) 0 0 := iter_ind (P := fun (c : Int → HH → Option HH) => ∀ (x1 : Int) (h : HH) (b : HH), c x1 h = some b → WK 180 (.inl none) σ0 (abH 71 119 g b) 2 [(0, aR 71), (1, aI x1)] [] (abH 71 119 g h) 0 0) (by
    intro x1 h b q
    cases q) (fun self ih => by
    intro x1 h b q
    exact uX12_ways_2 hg (fun _ _ _ _ _ q => wX12_ways_31 hg ih q) (fun _ _ _ q => wX12_ways_54 hg q) q) F
  intro x1 h b q
  exact z _ _ _ q
def bX12_ways (c2 : Int → HH → Option HH) (h : HH) : Option HH :=
  c2 0 h
theorem uX12_ways {g : SG} (hg : GOK g) {σ0 : SG} {c2 : Int → HH → Option HH} (k2 : ∀ (x1 : Int) (h : HH) (b : HH), c2 x1 h = some b → WK 180 (.inl none) σ0 (abH 71 119 g b) 2 [(0, aR 71), (1, aI x1)] [] (abH 71 119 g h) 0 0) : ∀ {h : HH} {b : HH}, bX12_ways c2 h = some b → WK 180 (.inl none) σ0 (abH 71 119 g b) 0 [(0, aR 71)] [] (abH 71 119 g h) 0 0 := by
  intro h b q
  have e : bX12_ways c2 h = segW 71 119 g.2.2.2.2 krWV clN csX12_ways (cuC 2 (fun l st s => tkC 0 71 l <| tkI 1 l fun x1 => skE st (c2 x1 s)) cuN) 1000 0 [(0, aR 71)] [] h := rfl
  rw [e] at q
  clear e
  refine segW_wk (by decide) (by decide) hg rwX12_ways CLKW_N krWV_ok ?_ q
  clear q
  refine ct_C ?_ (ct_N)
  · intro l st h q
    obtain ⟨m0, q1⟩ := tkC_of q
    obtain ⟨x1, m1, q2⟩ := tkI_of q1
    obtain ⟨rfl, q3⟩ := skE_of q2
    exact WK_less (k2 _ _ _ q3) (List.forall_mem_cons.mpr ⟨m0, (List.forall_mem_cons.mpr ⟨m1, (fun _ h => absurd h List.not_mem_nil)⟩)⟩)
def nX12_ways (h : HH) : Option HH := bX12_ways (nX12_ways_2 100000) h
theorem wX12_ways {g : SG} (hg : GOK g) {σ0 : SG} : ∀ {h : HH} {b : HH}, nX12_ways h = some b → WK 180 (.inl none) σ0 (abH 71 119 g b) 0 [(0, aR 71)] [] (abH 71 119 g h) 0 0 := by
  intro h b q
  exact uX12_ways hg (fun _ _ _ q => wX12_ways_2 hg q) q
theorem mX12_ways {g : SG} (hg : GOK g) {h : HH} {b : HH} (q : nX12_ways h = some b) : MCT 180 [] [aR 71] (abH 71 119 g h) (.inl none) (abH 71 119 g b) :=
  mct_of (by decide) (MFok 180 (by decide +kernel)) (fun _ => Nat.le_of_ble_eq_true rfl) (wX12_ways hg q)
def pX12_ways {β : Type} (z : HH → Option HH) : PW β := fun as h f => skC 71 as fun as => skE as (bnd (z h) fun r => f (.inl none) r)
theorem pX12_ways_ok {β : Type} {g : SG} (hg : GOK g) : CW1 (β := β) 180 (pX12_ways nX12_ways) 71 119 g := fun as h f b q => by
  obtain ⟨as, rfl, q1⟩ := skC_of q
  obtain ⟨rfl, q0⟩ := skE_of q1
  obtain ⟨r, z1, z2⟩ := bnd_of q0
  exact ⟨_, _, z2, by decide, mX12_ways hg z1, rfl, rfl, fun z => absurd z (by decide)⟩
def csX12_d : List (Nat × List (Nat × ARow)) := [(100000, [(0, 1, .aload_n 0, 0, 0, 0), (1, 3, .getfield 28, 12, 6, 2), (4, 2, .bipush 16, 0, 0, 0), (6, 1, .iload_n 1, 0, 0, 0), (7, 1, .imul, 0, 0, 0), (8, 1, .iload_n 2, 0, 0, 0), (9, 1, .iadd, 0, 0, 0), (10, 1, .iaload, 0, 0, 0), (11, 1, .ireturn, 0, 0, 0)])]
theorem rwX12_d : rowsB (mB 181) (mO 181) (mX 181) (mIni 181) (mFr 181) (mLo 181) (mT 181) csX12_d = true := by decide +kernel
def bX12_d (h : HH) (x1 : Int) (x2 : Int) : Option Int :=
  gd (R32 (16 * x1)) <|
    gd (R32 ((16 * x1) + x2)) <|
    gd ((0 : Int) ≤ ((16 * x1) + x2) ∧ ((16 * x1) + x2) < (256 : Int)) <|
    some (h.1 78 ((16 * x1) + x2))
theorem uX12_d {g : SG} (hg : GOK g) {σ0 : SG} {h : HH} : ∀ {x1 : Int} {x2 : Int} {b : Int}, bX12_d h x1 x2 = some b → WK 181 (.inl (some (aI b))) σ0 (abH 71 119 g h) 0 [(0, aR 71), (1, aI x1), (2, aI x2)] [] (abH 71 119 g h) 0 0 := by
  intro x1 x2 b q
  have e : bX12_d h x1 x2 = segP 71 119 g.2.2.2.2 h krPI clNP csX12_d cuN 1000 0 [(0, aR 71), (1, aI x1), (2, aI x2)] [] := rfl
  rw [e] at q
  clear e
  refine segP_wk (by decide) (by decide) hg rwX12_d CLKP_N krPI_ok ?_ q
  clear q
  exact ct_N
def nX12_d (h : HH) (x1 : Int) (x2 : Int) : Option Int := bX12_d h x1 x2
theorem wX12_d {g : SG} (hg : GOK g) {σ0 : SG} {h : HH} : ∀ {x1 : Int} {x2 : Int} {b : Int}, nX12_d h x1 x2 = some b → WK 181 (.inl (some (aI b))) σ0 (abH 71 119 g h) 0 [(0, aR 71), (1, aI x1), (2, aI x2)] [] (abH 71 119 g h) 0 0 := by
  intro x1 x2 b q
  exact uX12_d hg q
theorem mX12_d {g : SG} (hg : GOK g) {h : HH} {x1 : Int} {x2 : Int} {b : Int} (q : nX12_d h x1 x2 = some b) : MCT 181 [] [aR 71, aI x1, aI x2] (abH 71 119 g h) (.inl (some (aI b))) (abH 71 119 g h) :=
  mct_of (by decide) (MFok 181 (by decide +kernel)) (fun _ => Nat.le_of_ble_eq_true rfl) (wX12_d hg q)
def pX12_d {β : Type} (z : HH → Int → Int → Option Int) : PP β := fun h as f => skC 71 as fun as => skI as fun x1 as => skI as fun x2 as => skE as (bnd (z h x1 x2) fun r => f (.inl (some (aI r))))
theorem pX12_d_ok {β : Type} {g : SG} (hg : GOK g) : CP1 (β := β) 181 (pX12_d nX12_d) 71 119 g := fun h as f b q => by
  obtain ⟨as, rfl, q1⟩ := skC_of q
  obtain ⟨x1, as, rfl, q2⟩ := skI_of q1
  obtain ⟨x2, as, rfl, q3⟩ := skI_of q2
  obtain ⟨rfl, q0⟩ := skE_of q3
  obtain ⟨r, z1, z2⟩ := bnd_of q0
  exact ⟨_, z2, by decide, mX12_d hg z1, rfl, rfl, fun z => absurd z (by decide)⟩
def csX12_isAnyInRound : List (Nat × List (Nat × ARow)) := [(100000, [(0, 1, .aload_n 0, 0, 0, 0), (1, 3, .getfield 79, 12, 26, 2), (4, 1, .iconst 0, 0, 0, 0), (5, 1, .iaload, 0, 0, 0), (6, 1, .aload_n 0, 0, 0, 0), (7, 3, .getfield 79, 12, 26, 2), (10, 1, .iconst 1, 0, 0, 0), (11, 1, .iaload, 0, 0, 0), (12, 1, .iadd, 0, 0, 0), (13, 1, .aload_n 0, 0, 0, 0), (14, 3, .getfield 79, 12, 26, 2), (17, 1, .iconst 2, 0, 0, 0), (18, 1, .iaload, 0, 0, 0), (19, 1, .iadd, 0, 0, 0), (20, 3, .ifCond .le 7, 27, 0, 0), (23, 1, .iconst 1, 0, 0, 0), (24, 3, .goto 4, 28, 0, 0), (27, 1, .iconst 0, 0, 0, 0), (28, 1, .ireturn, 1, 0, 0)])]
theorem rwX12_isAnyInRound : rowsB (mB 182) (mO 182) (mX 182) (mIni 182) (mFr 182) (mLo 182) (mT 182) csX12_isAnyInRound = true := by decide +kernel
def bX12_isAnyInRound (h : HH) : Option Int :=
  gd ((0 : Int) ≤ 0 ∧ 0 < (3 : Int)) <|
    gd ((0 : Int) ≤ 1 ∧ 1 < (3 : Int)) <|
    gd (R32 ((h.1 95 0) + (h.1 95 1))) <|
    gd ((0 : Int) ≤ 2 ∧ 2 < (3 : Int)) <|
    gd (R32 (((h.1 95 0) + (h.1 95 1)) + (h.1 95 2))) <|
    if (0 : Int) < (((h.1 95 0) + (h.1 95 1)) + (h.1 95 2)) then
    gd ((0 : Int) ≤ 1 ∧ 1 ≤ (1 : Int)) <|
    some 1
  else
    gd ((0 : Int) ≤ 0 ∧ 0 ≤ (1 : Int)) <|
    some 0
set_option maxRecDepth 100000 in
theorem uX12_isAnyInRound {g : SG} (hg : GOK g) {σ0 : SG} {h : HH} : ∀ {b : Int}, bX12_isAnyInRound h = some b → WK 182 (.inl (some (aI b))) σ0 (abH 71 119 g h) 0 [(0, aR 71)] [] (abH 71 119 g h) 0 0 := by
  intro  b q
  have e : bX12_isAnyInRound h = segP 71 119 g.2.2.2.2 h krPI clNP csX12_isAnyInRound cuN 1000 0 [(0, aR 71)] [] := rfl
  rw [e] at q
  clear e
  refine segP_wk (by decide) (by decide) hg rwX12_isAnyInRound CLKP_N krPI_ok ?_ q
  clear q
  exact ct_N
def nX12_isAnyInRound (h : HH) : Option Int := bX12_isAnyInRound h
theorem wX12_isAnyInRound {g : SG} (hg : GOK g) {σ0 : SG} {h : HH} : ∀ {b : Int}, nX12_isAnyInRound h = some b → WK 182 (.inl (some (aI b))) σ0 (abH 71 119 g h) 0 [(0, aR 71)] [] (abH 71 119 g h) 0 0 := by
  intro  b q
  exact uX12_isAnyInRound hg q
theorem mX12_isAnyInRound {g : SG} (hg : GOK g) {h : HH} {b : Int} (q : nX12_isAnyInRound h = some b) : MCT 182 [] [aR 71] (abH 71 119 g h) (.inl (some (aI b))) (abH 71 119 g h) :=
  mct_of (by decide) (MFok 182 (by decide +kernel)) (fun _ => Nat.le_of_ble_eq_true rfl) (wX12_isAnyInRound hg q)
def pX12_isAnyInRound {β : Type} (z : HH → Option Int) : PP β := fun h as f => skC 71 as fun as => skE as (bnd (z h) fun r => f (.inl (some (aI r))))
theorem pX12_isAnyInRound_ok {β : Type} {g : SG} (hg : GOK g) : CP1 (β := β) 182 (pX12_isAnyInRound nX12_isAnyInRound) 71 119 g := fun h as f b q => by
  obtain ⟨as, rfl, q1⟩ := skC_of q
  obtain ⟨rfl, q0⟩ := skE_of q1
  obtain ⟨r, z1, z2⟩ := bnd_of q0
  exact ⟨_, z2, by decide, mX12_isAnyInRound hg z1, rfl, rfl, fun z => absurd z (by decide)⟩
def csX12_street : List (Nat × List (Nat × ARow)) := [(48, [(0, 1, .iload_n 1, 0, 0, 0), (1, 3, .invokestatic 196, 174, 1, 0), (4, 3, .ifCond .eq 10, 14, 0, 0), (7, 1, .iload_n 2, 0, 0, 0), (8, 3, .invokestatic 196, 174, 1, 0), (11, 3, .ifCond .ne 9, 20, 0, 0), (14, 1, .aload_n 0, 0, 0, 0), (15, 1, .iconst 1, 0, 0, 0), (16, 3, .invokevirtual 200, 177, 2, 12), (19, 1, .ireturn, 0, 0, 0), (20, 1, .iload_n 1, 0, 0, 0), (21, 1, .iload_n 2, 0, 0, 0), (22, 3, .if_icmp .eq 36, 58, 0, 0), (25, 1, .iload_n 3, 0, 0, 0), (26, 1, .iconst 1, 0, 0, 0), (27, 2, .bipush 120, 0, 0, 0), (29, 3, .invokestatic 178, 171, 3, 0), (32, 3, .ifCond .eq 26, 58, 0, 0), (35, 2, .iload 4, 0, 0, 0), (37, 1, .iconst 1, 0, 0, 0), (38, 2, .ldc 204, 50000, 0, 0), (40, 3, .invokestatic 178, 171, 3, 0), (43, 3, .ifCond .eq 15, 58, 0, 0), (46, 2, .iload 5, 0, 0, 0)]),
  (95, [(48, 1, .iconst 0, 0, 0, 0), (49, 3, .sipush 9999, 0, 0, 0), (52, 3, .invokestatic 178, 171, 3, 0), (55, 3, .ifCond .ne 9, 64, 0, 0), (58, 1, .aload_n 0, 0, 0, 0), (59, 1, .iconst 2, 0, 0, 0), (60, 3, .invokevirtual 200, 177, 2, 12), (63, 1, .ireturn, 0, 0, 0), (64, 1, .aload_n 0, 0, 0, 0), (65, 3, .getfield 189, 12, 9, 0), (68, 2, .bipush 60, 0, 0, 0), (70, 3, .if_icmp .eq 10, 80, 0, 0), (73, 1, .aload_n 0, 0, 0, 0), (74, 3, .invokevirtual 205, 182, 1, 12), (77, 3, .ifCond .eq 9, 86, 0, 0), (80, 1, .aload_n 0, 0, 0, 0), (81, 1, .iconst 3, 0, 0, 0), (82, 3, .invokevirtual 200, 177, 2, 12), (85, 1, .ireturn, 0, 0, 0), (86, 1, .aload_n 0, 0, 0, 0), (87, 3, .getfield 7, 12, 0, 2), (90, 1, .aload_n 0, 0, 0, 0), (91, 3, .getfield 189, 12, 9, 0), (94, 1, .iload_n 1, 0, 0, 0)]),
  (137, [(95, 1, .iastore, 0, 0, 0), (96, 1, .aload_n 0, 0, 0, 0), (97, 3, .getfield 13, 12, 1, 2), (100, 1, .aload_n 0, 0, 0, 0), (101, 3, .getfield 189, 12, 9, 0), (104, 1, .iload_n 2, 0, 0, 0), (105, 1, .iastore, 0, 0, 0), (106, 1, .aload_n 0, 0, 0, 0), (107, 3, .getfield 16, 12, 2, 2), (110, 1, .aload_n 0, 0, 0, 0), (111, 3, .getfield 189, 12, 9, 0), (114, 1, .iload_n 3, 0, 0, 0), (115, 1, .iastore, 0, 0, 0), (116, 1, .aload_n 0, 0, 0, 0), (117, 3, .getfield 19, 12, 3, 2), (120, 1, .aload_n 0, 0, 0, 0), (121, 3, .getfield 189, 12, 9, 0), (124, 2, .iload 4, 0, 0, 0), (126, 1, .iastore, 0, 0, 0), (127, 1, .aload_n 0, 0, 0, 0), (128, 3, .getfield 22, 12, 4, 2), (131, 1, .aload_n 0, 0, 0, 0), (132, 3, .getfield 189, 12, 9, 0), (135, 2, .iload 5, 0, 0, 0)]),
  (100000, [(137, 1, .iastore, 0, 0, 0), (138, 1, .aload_n 0, 0, 0, 0), (139, 1, .dup, 0, 0, 0), (140, 3, .getfield 189, 12, 9, 0), (143, 1, .iconst 1, 0, 0, 0), (144, 1, .iadd, 0, 0, 0), (145, 3, .putfield 189, 12, 9, 0), (148, 1, .aload_n 0, 0, 0, 0), (149, 3, .invokevirtual 172, 180, 1, 12), (152, 1, .aload_n 0, 0, 0, 0), (153, 1, .aload_n 0, 0, 0, 0), (154, 3, .getfield 189, 12, 9, 0), (157, 3, .invokevirtual 209, 178, 2, 12), (160, 1, .ireturn, 0, 0, 0)])]
theorem rwX12_street : rowsB (mB 183) (mO 183) (mX 183) (mIni 183) (mFr 183) (mLo 183) (mT 183) csX12_street = true := by decide +kernel
def bX12_street_14 (f177 : Int → HH → Option (Int × HH)) (h : HH) : Option (Int × HH) :=
  bnd (f177 1 h) fun r1 =>
    some (r1.1, r1.2)
theorem uX12_street_14 {g : SG} (hg : GOK g) {σ0 : SG} : ∀ {h : HH} {b : (Int × HH)}, bX12_street_14 nX12_refuse h = some b → WK 183 (.inl (some (aI b.1))) σ0 (abH 71 119 g b.2) 14 [(0, aR 71)] [] (abH 71 119 g h) 0 0 := by
  intro h b q
  have e : ∀ (f177 : Int → HH → Option (Int × HH)) , bX12_street_14 f177 h = segW 71 119 g.2.2.2.2 krWI (clC 177 (pX12_refuse f177) clN) csX12_street cuN 1000 14 [(0, aR 71)] [] h := fun _ => rfl
  rw [e nX12_refuse] at q
  clear e
  refine segW_wk (by decide) (by decide) hg rwX12_street (CLKW_C (pX12_refuse_ok hg) CLKW_N) krWI_ok ?_ q
  clear q
  exact ct_N
def nX12_street_14 (h : HH) : Option (Int × HH) := bX12_street_14 nX12_refuse h
theorem wX12_street_14 {g : SG} (hg : GOK g) {σ0 : SG} : ∀ {h : HH} {b : (Int × HH)}, nX12_street_14 h = some b → WK 183 (.inl (some (aI b.1))) σ0 (abH 71 119 g b.2) 14 [(0, aR 71)] [] (abH 71 119 g h) 0 0 := by
  intro h b q
  exact uX12_street_14 hg q
def bX12_street_58 (f177 : Int → HH → Option (Int × HH)) (h : HH) : Option (Int × HH) :=
  bnd (f177 2 h) fun r1 =>
    some (r1.1, r1.2)
theorem uX12_street_58 {g : SG} (hg : GOK g) {σ0 : SG} : ∀ {h : HH} {b : (Int × HH)}, bX12_street_58 nX12_refuse h = some b → WK 183 (.inl (some (aI b.1))) σ0 (abH 71 119 g b.2) 58 [(0, aR 71)] [] (abH 71 119 g h) 0 0 := by
  intro h b q
  have e : ∀ (f177 : Int → HH → Option (Int × HH)) , bX12_street_58 f177 h = segW 71 119 g.2.2.2.2 krWI (clC 177 (pX12_refuse f177) clN) csX12_street cuN 1000 58 [(0, aR 71)] [] h := fun _ => rfl
  rw [e nX12_refuse] at q
  clear e
  refine segW_wk (by decide) (by decide) hg rwX12_street (CLKW_C (pX12_refuse_ok hg) CLKW_N) krWI_ok ?_ q
  clear q
  exact ct_N
def nX12_street_58 (h : HH) : Option (Int × HH) := bX12_street_58 nX12_refuse h
theorem wX12_street_58 {g : SG} (hg : GOK g) {σ0 : SG} : ∀ {h : HH} {b : (Int × HH)}, nX12_street_58 h = some b → WK 183 (.inl (some (aI b.1))) σ0 (abH 71 119 g b.2) 58 [(0, aR 71)] [] (abH 71 119 g h) 0 0 := by
  intro h b q
  exact uX12_street_58 hg q
def bX12_street_80 (f177 : Int → HH → Option (Int × HH)) (h : HH) : Option (Int × HH) :=
  bnd (f177 3 h) fun r1 =>
    some (r1.1, r1.2)
theorem uX12_street_80 {g : SG} (hg : GOK g) {σ0 : SG} : ∀ {h : HH} {b : (Int × HH)}, bX12_street_80 nX12_refuse h = some b → WK 183 (.inl (some (aI b.1))) σ0 (abH 71 119 g b.2) 80 [(0, aR 71)] [] (abH 71 119 g h) 0 0 := by
  intro h b q
  have e : ∀ (f177 : Int → HH → Option (Int × HH)) , bX12_street_80 f177 h = segW 71 119 g.2.2.2.2 krWI (clC 177 (pX12_refuse f177) clN) csX12_street cuN 1000 80 [(0, aR 71)] [] h := fun _ => rfl
  rw [e nX12_refuse] at q
  clear e
  refine segW_wk (by decide) (by decide) hg rwX12_street (CLKW_C (pX12_refuse_ok hg) CLKW_N) krWI_ok ?_ q
  clear q
  exact ct_N
def nX12_street_80 (h : HH) : Option (Int × HH) := bX12_street_80 nX12_refuse h
theorem wX12_street_80 {g : SG} (hg : GOK g) {σ0 : SG} : ∀ {h : HH} {b : (Int × HH)}, nX12_street_80 h = some b → WK 183 (.inl (some (aI b.1))) σ0 (abH 71 119 g b.2) 80 [(0, aR 71)] [] (abH 71 119 g h) 0 0 := by
  intro h b q
  exact uX12_street_80 hg q
def bX12_street_96 (f180 : HH → Option HH) (f178 : Int → HH → Option (Int × HH)) (x2 : Int) (x3 : Int) (x4 : Int) (x5 : Int) (h : HH) : Option (Int × HH) :=
  gd ((0 : Int) ≤ (h.1 71 9) ∧ (h.1 71 9) < (60 : Int)) <|
    bnd (some (hI h 73 (h.1 71 9) x2)) fun h1 =>
    gd ((0 : Int) ≤ (h1.1 71 9) ∧ (h1.1 71 9) < (60 : Int)) <|
    bnd (some (hI h1 74 (h1.1 71 9) x3)) fun h2 =>
    gd ((0 : Int) ≤ (h2.1 71 9) ∧ (h2.1 71 9) < (60 : Int)) <|
    bnd (some (hI h2 75 (h2.1 71 9) x4)) fun h3 =>
    gd ((0 : Int) ≤ (h3.1 71 9) ∧ (h3.1 71 9) < (60 : Int)) <|
    bnd (some (hI h3 76 (h3.1 71 9) x5)) fun h4 =>
    gd (R32 ((h4.1 71 9) + 1)) <|
    bnd (some (hI h4 71 9 ((h4.1 71 9) + 1))) fun h5 =>
    bnd (f180 h5) fun r6 =>
    bnd (f178 (r6.1 71 9) r6) fun r7 =>
    some (r7.1, r7.2)
set_option maxRecDepth 100000 in
theorem uX12_street_96 {g : SG} (hg : GOK g) {σ0 : SG} : ∀ {x2 : Int} {x3 : Int} {x4 : Int} {x5 : Int} {h : HH} {b : (Int × HH)}, bX12_street_96 nX12_ways nX12_told x2 x3 x4 x5 h = some b → WK 183 (.inl (some (aI b.1))) σ0 (abH 71 119 g b.2) 96 [(0, aR 71), (2, aI x2), (3, aI x3), (4, aI x4), (5, aI x5)] [] (abH 71 119 g h) 0 0 := by
  intro x2 x3 x4 x5 h b q
  have e : ∀ (f180 : HH → Option HH) (f178 : Int → HH → Option (Int × HH)) , bX12_street_96 f180 f178 x2 x3 x4 x5 h = segW 71 119 g.2.2.2.2 krWI (clC 180 (pX12_ways f180) (clC 178 (pX12_told f178) clN)) csX12_street cuN 1000 96 [(0, aR 71), (2, aI x2), (3, aI x3), (4, aI x4), (5, aI x5)] [] h := fun _ _ => rfl
  rw [e nX12_ways nX12_told] at q
  clear e
  refine segW_wk (by decide) (by decide) hg rwX12_street (CLKW_C (pX12_ways_ok hg) (CLKW_C (pX12_told_ok hg) CLKW_N)) krWI_ok ?_ q
  clear q
  exact ct_N
def nX12_street_96 (x2 : Int) (x3 : Int) (x4 : Int) (x5 : Int) (h : HH) : Option (Int × HH) := bX12_street_96 nX12_ways nX12_told x2 x3 x4 x5 h
theorem wX12_street_96 {g : SG} (hg : GOK g) {σ0 : SG} : ∀ {x2 : Int} {x3 : Int} {x4 : Int} {x5 : Int} {h : HH} {b : (Int × HH)}, nX12_street_96 x2 x3 x4 x5 h = some b → WK 183 (.inl (some (aI b.1))) σ0 (abH 71 119 g b.2) 96 [(0, aR 71), (2, aI x2), (3, aI x3), (4, aI x4), (5, aI x5)] [] (abH 71 119 g h) 0 0 := by
  intro x2 x3 x4 x5 h b q
  exact uX12_street_96 hg q
def bX12_street (f174 : HH → Int → Option Int) (f171 : HH → Int → Int → Int → Option Int) (f182 : HH → Option Int) (c14 : HH → Option (Int × HH)) (c58 : HH → Option (Int × HH)) (c80 : HH → Option (Int × HH)) (c96 : Int → Int → Int → Int → HH → Option (Int × HH)) (x1 : Int) (x2 : Int) (x3 : Int) (x4 : Int) (x5 : Int) (h : HH) : Option (Int × HH) :=
  bnd (f174 h x1) fun r1 =>
    if r1 = (0 : Int) then
    c14 h
  else
    bnd (f174 h x2) fun r2 =>
    if r2 = (0 : Int) then
    c14 h
  else
    if x1 = (x2 : Int) then
    c58 h
  else
    bnd (f171 h x3 1 120) fun r3 =>
    if r3 = (0 : Int) then
    c58 h
  else
    bnd (f171 h x4 1 50000) fun r4 =>
    if r4 = (0 : Int) then
    c58 h
  else
    bnd (f171 h x5 0 9999) fun r5 =>
    if r5 = (0 : Int) then
    c58 h
  else
    if (h.1 71 9) = (60 : Int) then
    c80 h
  else
    bnd (f182 h) fun r6 =>
    if r6 = (0 : Int) then
    gd ((0 : Int) ≤ (h.1 71 9) ∧ (h.1 71 9) < (60 : Int)) <|
    bnd (some (hI h 72 (h.1 71 9) x1)) fun h7 =>
    c96 x2 x3 x4 x5 h7
  else
    c80 h
set_option maxRecDepth 100000 in
theorem uX12_street {g : SG} (hg : GOK g) {σ0 : SG} {c14 : HH → Option (Int × HH)} {c58 : HH → Option (Int × HH)} {c80 : HH → Option (Int × HH)} {c96 : Int → Int → Int → Int → HH → Option (Int × HH)} (k14 : ∀ (h : HH) (b : (Int × HH)), c14 h = some b → WK 183 (.inl (some (aI b.1))) σ0 (abH 71 119 g b.2) 14 [(0, aR 71)] [] (abH 71 119 g h) 0 0) (k58 : ∀ (h : HH) (b : (Int × HH)), c58 h = some b → WK 183 (.inl (some (aI b.1))) σ0 (abH 71 119 g b.2) 58 [(0, aR 71)] [] (abH 71 119 g h) 0 0) (k80 : ∀ (h : HH) (b : (Int × HH)), c80 h = some b → WK 183 (.inl (some (aI b.1))) σ0 (abH 71 119 g b.2) 80 [(0, aR 71)] [] (abH 71 119 g h) 0 0) (k96 : ∀ (x2 : Int) (x3 : Int) (x4 : Int) (x5 : Int) (h : HH) (b : (Int × HH)), c96 x2 x3 x4 x5 h = some b → WK 183 (.inl (some (aI b.1))) σ0 (abH 71 119 g b.2) 96 [(0, aR 71), (2, aI x2), (3, aI x3), (4, aI x4), (5, aI x5)] [] (abH 71 119 g h) 0 0) : ∀ {x1 : Int} {x2 : Int} {x3 : Int} {x4 : Int} {x5 : Int} {h : HH} {b : (Int × HH)}, bX12_street nX12_isPlace nX12_in nX12_isAnyInRound c14 c58 c80 c96 x1 x2 x3 x4 x5 h = some b → WK 183 (.inl (some (aI b.1))) σ0 (abH 71 119 g b.2) 0 [(0, aR 71), (1, aI x1), (2, aI x2), (3, aI x3), (4, aI x4), (5, aI x5)] [] (abH 71 119 g h) 0 0 := by
  intro x1 x2 x3 x4 x5 h b q
  have e : ∀ (f174 : HH → Int → Option Int) (f171 : HH → Int → Int → Int → Option Int) (f182 : HH → Option Int) , bX12_street f174 f171 f182 c14 c58 c80 c96 x1 x2 x3 x4 x5 h = segW 71 119 g.2.2.2.2 krWI (clC 174 (liPW (pX12_isPlace f174)) (clC 171 (liPW (pX12_in f171)) (clC 182 (liPW (pX12_isAnyInRound f182)) clN))) csX12_street (cuC 14 (fun l st s => tkC 0 71 l <| skE st (c14 s)) (cuC 58 (fun l st s => tkC 0 71 l <| skE st (c58 s)) (cuC 80 (fun l st s => tkC 0 71 l <| skE st (c80 s)) (cuC 96 (fun l st s => tkC 0 71 l <| tkI 2 l fun x2 => tkI 3 l fun x3 => tkI 4 l fun x4 => tkI 5 l fun x5 => skE st (c96 x2 x3 x4 x5 s)) cuN)))) 1000 0 [(0, aR 71), (1, aI x1), (2, aI x2), (3, aI x3), (4, aI x4), (5, aI x5)] [] h := fun _ _ _ => rfl
  rw [e nX12_isPlace nX12_in nX12_isAnyInRound] at q
  clear e
  refine segW_wk (by decide) (by decide) hg rwX12_street (CLKW_C (liPW_ok (pX12_isPlace_ok hg)) (CLKW_C (liPW_ok (pX12_in_ok hg)) (CLKW_C (liPW_ok (pX12_isAnyInRound_ok hg)) CLKW_N))) krWI_ok ?_ q
  clear q
  refine ct_C ?_ (ct_C ?_ (ct_C ?_ (ct_C ?_ (ct_N))))
  · intro l st h q
    obtain ⟨m0, q1⟩ := tkC_of q
    obtain ⟨rfl, q2⟩ := skE_of q1
    exact WK_less (k14 _ _ q2) (List.forall_mem_cons.mpr ⟨m0, (fun _ h => absurd h List.not_mem_nil)⟩)
  · intro l st h q
    obtain ⟨m0, q1⟩ := tkC_of q
    obtain ⟨rfl, q2⟩ := skE_of q1
    exact WK_less (k58 _ _ q2) (List.forall_mem_cons.mpr ⟨m0, (fun _ h => absurd h List.not_mem_nil)⟩)
  · intro l st h q
    obtain ⟨m0, q1⟩ := tkC_of q
    obtain ⟨rfl, q2⟩ := skE_of q1
    exact WK_less (k80 _ _ q2) (List.forall_mem_cons.mpr ⟨m0, (fun _ h => absurd h List.not_mem_nil)⟩)
  · intro l st h q
    obtain ⟨m0, q1⟩ := tkC_of q
    obtain ⟨x2, m2, q2⟩ := tkI_of q1
    obtain ⟨x3, m3, q3⟩ := tkI_of q2
    obtain ⟨x4, m4, q4⟩ := tkI_of q3
    obtain ⟨x5, m5, q5⟩ := tkI_of q4
    obtain ⟨rfl, q6⟩ := skE_of q5
    exact WK_less (k96 _ _ _ _ _ _ q6) (List.forall_mem_cons.mpr ⟨m0, (List.forall_mem_cons.mpr ⟨m2, (List.forall_mem_cons.mpr ⟨m3, (List.forall_mem_cons.mpr ⟨m4, (List.forall_mem_cons.mpr ⟨m5, (fun _ h => absurd h List.not_mem_nil)⟩)⟩)⟩)⟩)⟩)
def nX12_street (x1 : Int) (x2 : Int) (x3 : Int) (x4 : Int) (x5 : Int) (h : HH) : Option (Int × HH) := bX12_street nX12_isPlace nX12_in nX12_isAnyInRound nX12_street_14 nX12_street_58 nX12_street_80 nX12_street_96 x1 x2 x3 x4 x5 h
theorem wX12_street {g : SG} (hg : GOK g) {σ0 : SG} : ∀ {x1 : Int} {x2 : Int} {x3 : Int} {x4 : Int} {x5 : Int} {h : HH} {b : (Int × HH)}, nX12_street x1 x2 x3 x4 x5 h = some b → WK 183 (.inl (some (aI b.1))) σ0 (abH 71 119 g b.2) 0 [(0, aR 71), (1, aI x1), (2, aI x2), (3, aI x3), (4, aI x4), (5, aI x5)] [] (abH 71 119 g h) 0 0 := by
  intro x1 x2 x3 x4 x5 h b q
  exact uX12_street hg (fun _ _ q => wX12_street_14 hg q) (fun _ _ q => wX12_street_58 hg q) (fun _ _ q => wX12_street_80 hg q) (fun _ _ _ _ _ _ q => wX12_street_96 hg q) q
theorem mX12_street {g : SG} (hg : GOK g) {h : HH} {x1 : Int} {x2 : Int} {x3 : Int} {x4 : Int} {x5 : Int} {b : (Int × HH)} (q : nX12_street x1 x2 x3 x4 x5 h = some b) : MCT 183 [] [aR 71, aI x1, aI x2, aI x3, aI x4, aI x5] (abH 71 119 g h) (.inl (some (aI b.1))) (abH 71 119 g b.2) :=
  mct_of (by decide) (MFok 183 (by decide +kernel)) (fun _ => Nat.le_of_ble_eq_true rfl) (wX12_street hg q)
def pX12_street {β : Type} (z : Int → Int → Int → Int → Int → HH → Option (Int × HH)) : PW β := fun as h f => skC 71 as fun as => skI as fun x1 as => skI as fun x2 as => skI as fun x3 as => skI as fun x4 as => skI as fun x5 as => skE as (bnd (z x1 x2 x3 x4 x5 h) fun r => f (.inl (some (aI r.1))) r.2)
theorem pX12_street_ok {β : Type} {g : SG} (hg : GOK g) : CW1 (β := β) 183 (pX12_street nX12_street) 71 119 g := fun as h f b q => by
  obtain ⟨as, rfl, q1⟩ := skC_of q
  obtain ⟨x1, as, rfl, q2⟩ := skI_of q1
  obtain ⟨x2, as, rfl, q3⟩ := skI_of q2
  obtain ⟨x3, as, rfl, q4⟩ := skI_of q3
  obtain ⟨x4, as, rfl, q5⟩ := skI_of q4
  obtain ⟨x5, as, rfl, q6⟩ := skI_of q5
  obtain ⟨rfl, q0⟩ := skE_of q6
  obtain ⟨r, z1, z2⟩ := bnd_of q0
  exact ⟨_, _, z2, by decide, mX12_street hg z1, rfl, rfl, fun z => absurd z (by decide)⟩
def csX12_factor : List (Nat × List (Nat × ARow)) := [(42, [(0, 1, .iload_n 1, 0, 0, 0), (1, 1, .iconst 0, 0, 0, 0), (2, 2, .bipush 23, 0, 0, 0), (4, 3, .invokestatic 178, 171, 3, 0), (7, 3, .ifCond .eq 15, 22, 0, 0), (10, 1, .iload_n 2, 0, 0, 0), (11, 2, .bipush 50, 0, 0, 0), (13, 3, .sipush 300, 0, 0, 0), (16, 3, .invokestatic 178, 171, 3, 0), (19, 3, .ifCond .ne 9, 28, 0, 0), (22, 1, .aload_n 0, 0, 0, 0), (23, 1, .iconst 1, 0, 0, 0), (24, 3, .invokevirtual 200, 177, 2, 12), (27, 1, .ireturn, 0, 0, 0), (28, 1, .aload_n 0, 0, 0, 0), (29, 3, .getfield 25, 12, 5, 2), (32, 1, .iload_n 1, 0, 0, 0), (33, 1, .iaload, 0, 0, 0), (34, 1, .istore_n 3, 0, 0, 0), (35, 1, .aload_n 0, 0, 0, 0), (36, 3, .getfield 25, 12, 5, 2), (39, 1, .iload_n 1, 0, 0, 0), (40, 1, .iload_n 2, 0, 0, 0), (41, 1, .iastore, 0, 0, 0)]),
  (100000, [(42, 1, .aload_n 0, 0, 0, 0), (43, 1, .iload_n 3, 0, 0, 0), (44, 3, .invokevirtual 209, 178, 2, 12), (47, 1, .ireturn, 0, 0, 0)])]
theorem rwX12_factor : rowsB (mB 184) (mO 184) (mX 184) (mIni 184) (mFr 184) (mLo 184) (mT 184) csX12_factor = true := by decide +kernel
def bX12_factor_22 (f177 : Int → HH → Option (Int × HH)) (h : HH) : Option (Int × HH) :=
  bnd (f177 1 h) fun r1 =>
    some (r1.1, r1.2)
theorem uX12_factor_22 {g : SG} (hg : GOK g) {σ0 : SG} : ∀ {h : HH} {b : (Int × HH)}, bX12_factor_22 nX12_refuse h = some b → WK 184 (.inl (some (aI b.1))) σ0 (abH 71 119 g b.2) 22 [(0, aR 71)] [] (abH 71 119 g h) 0 0 := by
  intro h b q
  have e : ∀ (f177 : Int → HH → Option (Int × HH)) , bX12_factor_22 f177 h = segW 71 119 g.2.2.2.2 krWI (clC 177 (pX12_refuse f177) clN) csX12_factor cuN 1000 22 [(0, aR 71)] [] h := fun _ => rfl
  rw [e nX12_refuse] at q
  clear e
  refine segW_wk (by decide) (by decide) hg rwX12_factor (CLKW_C (pX12_refuse_ok hg) CLKW_N) krWI_ok ?_ q
  clear q
  exact ct_N
def nX12_factor_22 (h : HH) : Option (Int × HH) := bX12_factor_22 nX12_refuse h
theorem wX12_factor_22 {g : SG} (hg : GOK g) {σ0 : SG} : ∀ {h : HH} {b : (Int × HH)}, nX12_factor_22 h = some b → WK 184 (.inl (some (aI b.1))) σ0 (abH 71 119 g b.2) 22 [(0, aR 71)] [] (abH 71 119 g h) 0 0 := by
  intro h b q
  exact uX12_factor_22 hg q
def bX12_factor (f171 : HH → Int → Int → Int → Option Int) (f178 : Int → HH → Option (Int × HH)) (c22 : HH → Option (Int × HH)) (x1 : Int) (x2 : Int) (h : HH) : Option (Int × HH) :=
  bnd (f171 h x1 0 23) fun r1 =>
    if r1 = (0 : Int) then
    c22 h
  else
    bnd (f171 h x2 50 300) fun r2 =>
    if r2 = (0 : Int) then
    c22 h
  else
    gd ((0 : Int) ≤ x1 ∧ x1 < (24 : Int)) <|
    gd ((0 : Int) ≤ x1 ∧ x1 < (24 : Int)) <|
    bnd (some (hI h 77 x1 x2)) fun h3 =>
    bnd (f178 (h.1 77 x1) h3) fun r4 =>
    some (r4.1, r4.2)
set_option maxRecDepth 100000 in
theorem uX12_factor {g : SG} (hg : GOK g) {σ0 : SG} {c22 : HH → Option (Int × HH)} (k22 : ∀ (h : HH) (b : (Int × HH)), c22 h = some b → WK 184 (.inl (some (aI b.1))) σ0 (abH 71 119 g b.2) 22 [(0, aR 71)] [] (abH 71 119 g h) 0 0) : ∀ {x1 : Int} {x2 : Int} {h : HH} {b : (Int × HH)}, bX12_factor nX12_in nX12_told c22 x1 x2 h = some b → WK 184 (.inl (some (aI b.1))) σ0 (abH 71 119 g b.2) 0 [(0, aR 71), (1, aI x1), (2, aI x2)] [] (abH 71 119 g h) 0 0 := by
  intro x1 x2 h b q
  have e : ∀ (f171 : HH → Int → Int → Int → Option Int) (f178 : Int → HH → Option (Int × HH)) , bX12_factor f171 f178 c22 x1 x2 h = segW 71 119 g.2.2.2.2 krWI (clC 171 (liPW (pX12_in f171)) (clC 178 (pX12_told f178) clN)) csX12_factor (cuC 22 (fun l st s => tkC 0 71 l <| skE st (c22 s)) cuN) 1000 0 [(0, aR 71), (1, aI x1), (2, aI x2)] [] h := fun _ _ => rfl
  rw [e nX12_in nX12_told] at q
  clear e
  refine segW_wk (by decide) (by decide) hg rwX12_factor (CLKW_C (liPW_ok (pX12_in_ok hg)) (CLKW_C (pX12_told_ok hg) CLKW_N)) krWI_ok ?_ q
  clear q
  refine ct_C ?_ (ct_N)
  · intro l st h q
    obtain ⟨m0, q1⟩ := tkC_of q
    obtain ⟨rfl, q2⟩ := skE_of q1
    exact WK_less (k22 _ _ q2) (List.forall_mem_cons.mpr ⟨m0, (fun _ h => absurd h List.not_mem_nil)⟩)
def nX12_factor (x1 : Int) (x2 : Int) (h : HH) : Option (Int × HH) := bX12_factor nX12_in nX12_told nX12_factor_22 x1 x2 h
theorem wX12_factor {g : SG} (hg : GOK g) {σ0 : SG} : ∀ {x1 : Int} {x2 : Int} {h : HH} {b : (Int × HH)}, nX12_factor x1 x2 h = some b → WK 184 (.inl (some (aI b.1))) σ0 (abH 71 119 g b.2) 0 [(0, aR 71), (1, aI x1), (2, aI x2)] [] (abH 71 119 g h) 0 0 := by
  intro x1 x2 h b q
  exact uX12_factor hg (fun _ _ q => wX12_factor_22 hg q) q
theorem mX12_factor {g : SG} (hg : GOK g) {h : HH} {x1 : Int} {x2 : Int} {b : (Int × HH)} (q : nX12_factor x1 x2 h = some b) : MCT 184 [] [aR 71, aI x1, aI x2] (abH 71 119 g h) (.inl (some (aI b.1))) (abH 71 119 g b.2) :=
  mct_of (by decide) (MFok 184 (by decide +kernel)) (fun _ => Nat.le_of_ble_eq_true rfl) (wX12_factor hg q)
def pX12_factor {β : Type} (z : Int → Int → HH → Option (Int × HH)) : PW β := fun as h f => skC 71 as fun as => skI as fun x1 as => skI as fun x2 as => skE as (bnd (z x1 x2 h) fun r => f (.inl (some (aI r.1))) r.2)
theorem pX12_factor_ok {β : Type} {g : SG} (hg : GOK g) : CW1 (β := β) 184 (pX12_factor nX12_factor) 71 119 g := fun as h f b q => by
  obtain ⟨as, rfl, q1⟩ := skC_of q
  obtain ⟨x1, as, rfl, q2⟩ := skI_of q1
  obtain ⟨x2, as, rfl, q3⟩ := skI_of q2
  obtain ⟨rfl, q0⟩ := skE_of q3
  obtain ⟨r, z1, z2⟩ := bnd_of q0
  exact ⟨_, _, z2, by decide, mX12_factor hg z1, rfl, rfl, fun z => absurd z (by decide)⟩
def csX12_way : List (Nat × List (Nat × ARow)) := [(41, [(0, 1, .iload_n 1, 0, 0, 0), (1, 3, .invokestatic 196, 174, 1, 0), (4, 3, .ifCond .eq 10, 14, 0, 0), (7, 1, .iload_n 2, 0, 0, 0), (8, 3, .invokestatic 196, 174, 1, 0), (11, 3, .ifCond .ne 9, 20, 0, 0), (14, 1, .aload_n 0, 0, 0, 0), (15, 1, .iconst 1, 0, 0, 0), (16, 3, .invokevirtual 200, 177, 2, 12), (19, 1, .ireturn, 0, 0, 0), (20, 1, .iload_n 3, 0, 0, 0), (21, 1, .iconst 0, 0, 0, 0), (22, 1, .iconst 2, 0, 0, 0), (23, 3, .invokestatic 178, 171, 3, 0), (26, 3, .ifCond .ne 9, 35, 0, 0), (29, 1, .aload_n 0, 0, 0, 0), (30, 1, .iconst 2, 0, 0, 0), (31, 3, .invokevirtual 200, 177, 2, 12), (34, 1, .ireturn, 0, 0, 0), (35, 2, .bipush 16, 0, 0, 0), (37, 1, .iload_n 1, 0, 0, 0), (38, 1, .imul, 0, 0, 0), (39, 1, .iload_n 2, 0, 0, 0), (40, 1, .iadd, 0, 0, 0)]),
  (85, [(41, 2, .istore 4, 0, 0, 0), (43, 1, .aload_n 0, 0, 0, 0), (44, 3, .getfield 28, 12, 6, 2), (47, 2, .iload 4, 0, 0, 0), (49, 1, .iaload, 0, 0, 0), (50, 2, .ldc 188, 1000000000, 0, 0), (52, 3, .if_icmp .ne 9, 61, 0, 0), (55, 1, .aload_n 0, 0, 0, 0), (56, 1, .iconst (-1), 0, 0, 0), (57, 3, .invokevirtual 209, 178, 2, 12), (60, 1, .ireturn, 0, 0, 0), (61, 1, .aload_n 0, 0, 0, 0), (62, 1, .iload_n 3, 0, 0, 0), (63, 3, .ifCond .ne 13, 76, 0, 0), (66, 1, .aload_n 0, 0, 0, 0), (67, 3, .getfield 28, 12, 6, 2), (70, 2, .iload 4, 0, 0, 0), (72, 1, .iaload, 0, 0, 0), (73, 3, .goto 25, 98, 0, 0), (76, 1, .iload_n 3, 0, 0, 0), (77, 1, .iconst 1, 0, 0, 0), (78, 3, .if_icmp .ne 13, 91, 0, 0), (81, 1, .aload_n 0, 0, 0, 0), (82, 3, .getfield 31, 12, 7, 2)]),
  (100000, [(85, 2, .iload 4, 0, 0, 0), (87, 1, .iaload, 0, 0, 0), (88, 3, .goto 10, 98, 0, 0), (91, 1, .aload_n 0, 0, 0, 0), (92, 3, .getfield 34, 12, 8, 2), (95, 2, .iload 4, 0, 0, 0), (97, 1, .iaload, 0, 0, 0), (98, 3, .invokevirtual 209, 178, 2, 12), (101, 1, .ireturn, 0, 0, 0)])]
theorem rwX12_way : rowsB (mB 185) (mO 185) (mX 185) (mIni 185) (mFr 185) (mLo 185) (mT 185) csX12_way = true := by decide +kernel
def bX12_way_14 (f177 : Int → HH → Option (Int × HH)) (h : HH) : Option (Int × HH) :=
  bnd (f177 1 h) fun r1 =>
    some (r1.1, r1.2)
theorem uX12_way_14 {g : SG} (hg : GOK g) {σ0 : SG} : ∀ {h : HH} {b : (Int × HH)}, bX12_way_14 nX12_refuse h = some b → WK 185 (.inl (some (aI b.1))) σ0 (abH 71 119 g b.2) 14 [(0, aR 71)] [] (abH 71 119 g h) 0 0 := by
  intro h b q
  have e : ∀ (f177 : Int → HH → Option (Int × HH)) , bX12_way_14 f177 h = segW 71 119 g.2.2.2.2 krWI (clC 177 (pX12_refuse f177) clN) csX12_way cuN 1000 14 [(0, aR 71)] [] h := fun _ => rfl
  rw [e nX12_refuse] at q
  clear e
  refine segW_wk (by decide) (by decide) hg rwX12_way (CLKW_C (pX12_refuse_ok hg) CLKW_N) krWI_ok ?_ q
  clear q
  exact ct_N
def nX12_way_14 (h : HH) : Option (Int × HH) := bX12_way_14 nX12_refuse h
theorem wX12_way_14 {g : SG} (hg : GOK g) {σ0 : SG} : ∀ {h : HH} {b : (Int × HH)}, nX12_way_14 h = some b → WK 185 (.inl (some (aI b.1))) σ0 (abH 71 119 g b.2) 14 [(0, aR 71)] [] (abH 71 119 g h) 0 0 := by
  intro h b q
  exact uX12_way_14 hg q
def bX12_way_98 (f178 : Int → HH → Option (Int × HH)) (y0 : Int) (h : HH) : Option (Int × HH) :=
  bnd (f178 y0 h) fun r1 =>
    some (r1.1, r1.2)
theorem uX12_way_98 {g : SG} (hg : GOK g) {σ0 : SG} : ∀ {y0 : Int} {h : HH} {b : (Int × HH)}, bX12_way_98 nX12_told y0 h = some b → WK 185 (.inl (some (aI b.1))) σ0 (abH 71 119 g b.2) 98 [] [aI y0, aR 71] (abH 71 119 g h) 0 0 := by
  intro y0 h b q
  have e : ∀ (f178 : Int → HH → Option (Int × HH)) , bX12_way_98 f178 y0 h = segW 71 119 g.2.2.2.2 krWI (clC 178 (pX12_told f178) clN) csX12_way cuN 1000 98 [] [aI y0, aR 71] h := fun _ => rfl
  rw [e nX12_told] at q
  clear e
  refine segW_wk (by decide) (by decide) hg rwX12_way (CLKW_C (pX12_told_ok hg) CLKW_N) krWI_ok ?_ q
  clear q
  exact ct_N
def nX12_way_98 (y0 : Int) (h : HH) : Option (Int × HH) := bX12_way_98 nX12_told y0 h
theorem wX12_way_98 {g : SG} (hg : GOK g) {σ0 : SG} : ∀ {y0 : Int} {h : HH} {b : (Int × HH)}, nX12_way_98 y0 h = some b → WK 185 (.inl (some (aI b.1))) σ0 (abH 71 119 g b.2) 98 [] [aI y0, aR 71] (abH 71 119 g h) 0 0 := by
  intro y0 h b q
  exact uX12_way_98 hg q
def bX12_way (f174 : HH → Int → Option Int) (f171 : HH → Int → Int → Int → Option Int) (f178 : Int → HH → Option (Int × HH)) (f177 : Int → HH → Option (Int × HH)) (c14 : HH → Option (Int × HH)) (c98 : Int → HH → Option (Int × HH)) (x1 : Int) (x2 : Int) (x3 : Int) (h : HH) : Option (Int × HH) :=
  bnd (f174 h x1) fun r1 =>
    if r1 = (0 : Int) then
    c14 h
  else
    bnd (f174 h x2) fun r2 =>
    if r2 = (0 : Int) then
    c14 h
  else
    bnd (f171 h x3 0 2) fun r3 =>
    if r3 = (0 : Int) then
    bnd (f177 2 h) fun r5 =>
    some (r5.1, r5.2)
  else
    gd (R32 (16 * x1)) <|
    gd (R32 ((16 * x1) + x2)) <|
    gd ((0 : Int) ≤ ((16 * x1) + x2) ∧ ((16 * x1) + x2) < (256 : Int)) <|
    if (h.1 78 ((16 * x1) + x2)) = (1000000000 : Int) then
    bnd (f178 (-1) h) fun r4 =>
    some (r4.1, r4.2)
  else
    if x3 = (0 : Int) then
    gd ((0 : Int) ≤ ((16 * x1) + x2) ∧ ((16 * x1) + x2) < (256 : Int)) <|
    c98 (h.1 78 ((16 * x1) + x2)) h
  else
    if x3 = (1 : Int) then
    gd ((0 : Int) ≤ ((16 * x1) + x2) ∧ ((16 * x1) + x2) < (256 : Int)) <|
    c98 (h.1 79 ((16 * x1) + x2)) h
  else
    gd ((0 : Int) ≤ ((16 * x1) + x2) ∧ ((16 * x1) + x2) < (256 : Int)) <|
    c98 (h.1 80 ((16 * x1) + x2)) h
set_option maxRecDepth 100000 in
theorem uX12_way {g : SG} (hg : GOK g) {σ0 : SG} {c14 : HH → Option (Int × HH)} {c98 : Int → HH → Option (Int × HH)} (k14 : ∀ (h : HH) (b : (Int × HH)), c14 h = some b → WK 185 (.inl (some (aI b.1))) σ0 (abH 71 119 g b.2) 14 [(0, aR 71)] [] (abH 71 119 g h) 0 0) (k98 : ∀ (y0 : Int) (h : HH) (b : (Int × HH)), c98 y0 h = some b → WK 185 (.inl (some (aI b.1))) σ0 (abH 71 119 g b.2) 98 [] [aI y0, aR 71] (abH 71 119 g h) 0 0) : ∀ {x1 : Int} {x2 : Int} {x3 : Int} {h : HH} {b : (Int × HH)}, bX12_way nX12_isPlace nX12_in nX12_told nX12_refuse c14 c98 x1 x2 x3 h = some b → WK 185 (.inl (some (aI b.1))) σ0 (abH 71 119 g b.2) 0 [(0, aR 71), (1, aI x1), (2, aI x2), (3, aI x3)] [] (abH 71 119 g h) 0 0 := by
  intro x1 x2 x3 h b q
  have e : ∀ (f174 : HH → Int → Option Int) (f171 : HH → Int → Int → Int → Option Int) (f178 : Int → HH → Option (Int × HH)) (f177 : Int → HH → Option (Int × HH)) , bX12_way f174 f171 f178 f177 c14 c98 x1 x2 x3 h = segW 71 119 g.2.2.2.2 krWI (clC 174 (liPW (pX12_isPlace f174)) (clC 171 (liPW (pX12_in f171)) (clC 178 (pX12_told f178) (clC 177 (pX12_refuse f177) clN)))) csX12_way (cuC 14 (fun l st s => tkC 0 71 l <| skE st (c14 s)) (cuC 98 (fun l st s => skI st fun y0 st => skC 71 st fun st => skE st (c98 y0 s)) cuN)) 1000 0 [(0, aR 71), (1, aI x1), (2, aI x2), (3, aI x3)] [] h := fun _ _ _ _ => rfl
  rw [e nX12_isPlace nX12_in nX12_told nX12_refuse] at q
  clear e
  refine segW_wk (by decide) (by decide) hg rwX12_way (CLKW_C (liPW_ok (pX12_isPlace_ok hg)) (CLKW_C (liPW_ok (pX12_in_ok hg)) (CLKW_C (pX12_told_ok hg) (CLKW_C (pX12_refuse_ok hg) CLKW_N)))) krWI_ok ?_ q
  clear q
  refine ct_C ?_ (ct_C ?_ (ct_N))
  · intro l st h q
    obtain ⟨m0, q1⟩ := tkC_of q
    obtain ⟨rfl, q2⟩ := skE_of q1
    exact WK_less (k14 _ _ q2) (List.forall_mem_cons.mpr ⟨m0, (fun _ h => absurd h List.not_mem_nil)⟩)
  · intro l st h q
    obtain ⟨y0, t0, rfl, q1⟩ := skI_of q
    obtain ⟨t1, rfl, q2⟩ := skC_of q1
    obtain ⟨rfl, q3⟩ := skE_of q2
    exact WK_less (k98 _ _ _ q3) (fun _ h => absurd h List.not_mem_nil)
def nX12_way (x1 : Int) (x2 : Int) (x3 : Int) (h : HH) : Option (Int × HH) := bX12_way nX12_isPlace nX12_in nX12_told nX12_refuse nX12_way_14 nX12_way_98 x1 x2 x3 h
theorem wX12_way {g : SG} (hg : GOK g) {σ0 : SG} : ∀ {x1 : Int} {x2 : Int} {x3 : Int} {h : HH} {b : (Int × HH)}, nX12_way x1 x2 x3 h = some b → WK 185 (.inl (some (aI b.1))) σ0 (abH 71 119 g b.2) 0 [(0, aR 71), (1, aI x1), (2, aI x2), (3, aI x3)] [] (abH 71 119 g h) 0 0 := by
  intro x1 x2 x3 h b q
  exact uX12_way hg (fun _ _ q => wX12_way_14 hg q) (fun _ _ _ q => wX12_way_98 hg q) q
theorem mX12_way {g : SG} (hg : GOK g) {h : HH} {x1 : Int} {x2 : Int} {x3 : Int} {b : (Int × HH)} (q : nX12_way x1 x2 x3 h = some b) : MCT 185 [] [aR 71, aI x1, aI x2, aI x3] (abH 71 119 g h) (.inl (some (aI b.1))) (abH 71 119 g b.2) :=
  mct_of (by decide) (MFok 185 (by decide +kernel)) (fun _ => Nat.le_of_ble_eq_true rfl) (wX12_way hg q)
def pX12_way {β : Type} (z : Int → Int → Int → HH → Option (Int × HH)) : PW β := fun as h f => skC 71 as fun as => skI as fun x1 as => skI as fun x2 as => skI as fun x3 as => skE as (bnd (z x1 x2 x3 h) fun r => f (.inl (some (aI r.1))) r.2)
theorem pX12_way_ok {β : Type} {g : SG} (hg : GOK g) : CW1 (β := β) 185 (pX12_way nX12_way) 71 119 g := fun as h f b q => by
  obtain ⟨as, rfl, q1⟩ := skC_of q
  obtain ⟨x1, as, rfl, q2⟩ := skI_of q1
  obtain ⟨x2, as, rfl, q3⟩ := skI_of q2
  obtain ⟨x3, as, rfl, q4⟩ := skI_of q3
  obtain ⟨rfl, q0⟩ := skE_of q4
  obtain ⟨r, z1, z2⟩ := bnd_of q0
  exact ⟨_, _, z2, by decide, mX12_way hg z1, rfl, rfl, fun z => absurd z (by decide)⟩
def csX12_endOf : List (Nat × List (Nat × ARow)) := [(39, [(0, 2, .ldc 188, 1000000000, 0, 0), (2, 1, .istore_n 3, 0, 0, 0), (3, 1, .iload_n 2, 0, 0, 0), (4, 2, .istore 4, 0, 0, 0), (6, 2, .iload 4, 0, 0, 0), (8, 1, .iload_n 3, 0, 0, 0), (9, 3, .if_icmp .ge 47, 56, 0, 0), (12, 2, .iload 4, 0, 0, 0), (14, 1, .aload_n 0, 0, 0, 0), (15, 3, .getfield 16, 12, 2, 2), (18, 1, .iload_n 1, 0, 0, 0), (19, 1, .iaload, 0, 0, 0), (20, 1, .aload_n 0, 0, 0, 0), (21, 3, .getfield 25, 12, 5, 2), (24, 2, .iload 4, 0, 0, 0), (26, 2, .bipush 60, 0, 0, 0), (28, 1, .idiv, 0, 0, 0), (29, 2, .bipush 24, 0, 0, 0), (31, 1, .irem, 0, 0, 0), (32, 1, .iaload, 0, 0, 0), (33, 1, .imul, 0, 0, 0), (34, 2, .bipush 99, 0, 0, 0), (36, 1, .iadd, 0, 0, 0), (37, 2, .bipush 100, 0, 0, 0)]),
  (100000, [(39, 1, .idiv, 0, 0, 0), (40, 1, .iadd, 0, 0, 0), (41, 2, .istore 5, 0, 0, 0), (43, 1, .iload_n 3, 0, 0, 0), (44, 2, .iload 5, 0, 0, 0), (46, 3, .invokestatic 212, 172, 2, 0), (49, 1, .istore_n 3, 0, 0, 0), (50, 3, .iinc 4 1, 0, 0, 0), (53, 3, .goto (-47), 6, 0, 0), (56, 1, .iload_n 3, 0, 0, 0), (57, 1, .ireturn, 0, 0, 0)])]
theorem rwX12_endOf : rowsB (mB 186) (mO 186) (mX 186) (mIni 186) (mFr 186) (mLo 186) (mT 186) csX12_endOf = true := by decide +kernel
def bX12_endOf_6 (f172 : HH → Int → Int → Option Int) (h : HH) (c6 : Int → Int → Int → Option Int) (x1 : Int) (x3 : Int) (x4 : Int) : Option Int :=
  if x4 < (x3 : Int) then
    gd ((0 : Int) ≤ x1 ∧ x1 < (60 : Int)) <|
    gd ((0 : Int) ≤ x4 ∧ (0 : Int) < 60) <|
    gd ((0 : Int) ≤ (x4 / 60) ∧ (0 : Int) < 24) <|
    gd ((0 : Int) ≤ ((x4 / 60) % 24) ∧ ((x4 / 60) % 24) < (24 : Int)) <|
    gd (R32 ((h.1 74 x1) * (h.1 77 ((x4 / 60) % 24)))) <|
    gd (R32 (((h.1 74 x1) * (h.1 77 ((x4 / 60) % 24))) + 99)) <|
    gd ((0 : Int) ≤ (((h.1 74 x1) * (h.1 77 ((x4 / 60) % 24))) + 99) ∧ (0 : Int) < 100) <|
    gd (R32 (x4 + ((((h.1 74 x1) * (h.1 77 ((x4 / 60) % 24))) + 99) / 100))) <|
    bnd (f172 h x3 (x4 + ((((h.1 74 x1) * (h.1 77 ((x4 / 60) % 24))) + 99) / 100))) fun r1 =>
    gd (R32 (x4 + 1)) <|
    c6 x1 r1 (x4 + 1)
  else
    some x3
set_option maxRecDepth 100000 in
theorem uX12_endOf_6 {g : SG} (hg : GOK g) {σ0 : SG} {h : HH} {c6 : Int → Int → Int → Option Int} (k6 : ∀ (x1 : Int) (x3 : Int) (x4 : Int) (b : Int), c6 x1 x3 x4 = some b → WK 186 (.inl (some (aI b))) σ0 (abH 71 119 g h) 6 [(0, aR 71), (1, aI x1), (3, aI x3), (4, aI x4)] [] (abH 71 119 g h) 0 0) : ∀ {x1 : Int} {x3 : Int} {x4 : Int} {b : Int}, bX12_endOf_6 nX12_less h c6 x1 x3 x4 = some b → WK 186 (.inl (some (aI b))) σ0 (abH 71 119 g h) 6 [(0, aR 71), (1, aI x1), (3, aI x3), (4, aI x4)] [] (abH 71 119 g h) 0 0 := by
  intro x1 x3 x4 b q
  have e : ∀ (f172 : HH → Int → Int → Option Int) , bX12_endOf_6 f172 h c6 x1 x3 x4 = segP 71 119 g.2.2.2.2 h krPI (clCP 172 (pX12_less f172 h) clNP) csX12_endOf (cuC 6 (fun l st s => tkC 0 71 l <| tkI 1 l fun x1 => tkI 3 l fun x3 => tkI 4 l fun x4 => skE st (c6 x1 x3 x4)) cuN) 1000 6 [(0, aR 71), (1, aI x1), (3, aI x3), (4, aI x4)] [] := fun _ => rfl
  rw [e nX12_less] at q
  clear e
  refine segP_wk (by decide) (by decide) hg rwX12_endOf (CLKP_C (pX12_less_ok hg) CLKP_N) krPI_ok ?_ q
  clear q
  refine ct_C ?_ (ct_N)
  · intro l st _ q
    obtain ⟨m0, q1⟩ := tkC_of q
    obtain ⟨x1, m1, q2⟩ := tkI_of q1
    obtain ⟨x3, m3, q3⟩ := tkI_of q2
    obtain ⟨x4, m4, q4⟩ := tkI_of q3
    obtain ⟨rfl, q5⟩ := skE_of q4
    exact WK_less (k6 _ _ _ _ q5) (List.forall_mem_cons.mpr ⟨m0, (List.forall_mem_cons.mpr ⟨m1, (List.forall_mem_cons.mpr ⟨m3, (List.forall_mem_cons.mpr ⟨m4, (fun _ h => absurd h List.not_mem_nil)⟩)⟩)⟩)⟩)
def nX12_endOf_6 (h : HH) : Nat → Int → Int → Int → Option Int := iter (fun _ _ _ => none) (fun self => bX12_endOf_6 nX12_less h self)
theorem nX12_endOf_6_s {h : HH} {F : Nat} : nX12_endOf_6 h (F + 1) = bX12_endOf_6 nX12_less h (nX12_endOf_6 h F) := rfl
theorem wX12_endOf_6 {g : SG} (hg : GOK g) {σ0 : SG} {h : HH} : ∀ {F : Nat}, ∀ {x1 : Int} {x3 : Int} {x4 : Int} {b : Int}, nX12_endOf_6 h F x1 x3 x4 = some b → WK 186 (.inl (some (aI b))) σ0 (abH 71 119 g h) 6 [(0, aR 71), (1, aI x1), (3, aI x3), (4, aI x4)] [] (abH 71 119 g h) 0 0 := by
  intro F
  have z : ∀ (x1 : Int) (x3 : Int) (x4 : Int) (b : Int), nX12_endOf_6 h F x1 x3 x4 = some b → WK 186 (.inl (some (aI b))) σ0 (abH 71 119 g h) 6 [(0, aR 71), (1, aI x1), (3, aI x3), (4, aI x4)] [] (abH 71 119 g h) 0 0 := iter_ind (P := fun (c : Int → Int → Int → Option Int) => ∀ (x1 : Int) (x3 : Int) (x4 : Int) (b : Int), c x1 x3 x4 = some b → WK 186 (.inl (some (aI b))) σ0 (abH 71 119 g h) 6 [(0, aR 71), (1, aI x1), (3, aI x3), (4, aI x4)] [] (abH 71 119 g h) 0 0) (by
    intro x1 x3 x4 b q
    cases q) (fun self ih => by
    intro x1 x3 x4 b q
    exact uX12_endOf_6 hg ih q) F
  intro x1 x3 x4 b q
  exact z _ _ _ _ q
def bX12_endOf (h : HH) (c6 : Int → Int → Int → Option Int) (x1 : Int) (x2 : Int) : Option Int :=
  c6 x1 1000000000 x2
theorem uX12_endOf {g : SG} (hg : GOK g) {σ0 : SG} {h : HH} {c6 : Int → Int → Int → Option Int} (k6 : ∀ (x1 : Int) (x3 : Int) (x4 : Int) (b : Int), c6 x1 x3 x4 = some b → WK 186 (.inl (some (aI b))) σ0 (abH 71 119 g h) 6 [(0, aR 71), (1, aI x1), (3, aI x3), (4, aI x4)] [] (abH 71 119 g h) 0 0) : ∀ {x1 : Int} {x2 : Int} {b : Int}, bX12_endOf h c6 x1 x2 = some b → WK 186 (.inl (some (aI b))) σ0 (abH 71 119 g h) 0 [(0, aR 71), (1, aI x1), (2, aI x2)] [] (abH 71 119 g h) 0 0 := by
  intro x1 x2 b q
  have e : bX12_endOf h c6 x1 x2 = segP 71 119 g.2.2.2.2 h krPI clNP csX12_endOf (cuC 6 (fun l st s => tkC 0 71 l <| tkI 1 l fun x1 => tkI 3 l fun x3 => tkI 4 l fun x4 => skE st (c6 x1 x3 x4)) cuN) 1000 0 [(0, aR 71), (1, aI x1), (2, aI x2)] [] := rfl
  rw [e] at q
  clear e
  refine segP_wk (by decide) (by decide) hg rwX12_endOf CLKP_N krPI_ok ?_ q
  clear q
  refine ct_C ?_ (ct_N)
  · intro l st _ q
    obtain ⟨m0, q1⟩ := tkC_of q
    obtain ⟨x1, m1, q2⟩ := tkI_of q1
    obtain ⟨x3, m3, q3⟩ := tkI_of q2
    obtain ⟨x4, m4, q4⟩ := tkI_of q3
    obtain ⟨rfl, q5⟩ := skE_of q4
    exact WK_less (k6 _ _ _ _ q5) (List.forall_mem_cons.mpr ⟨m0, (List.forall_mem_cons.mpr ⟨m1, (List.forall_mem_cons.mpr ⟨m3, (List.forall_mem_cons.mpr ⟨m4, (fun _ h => absurd h List.not_mem_nil)⟩)⟩)⟩)⟩)
def nX12_endOf (h : HH) (x1 : Int) (x2 : Int) : Option Int := bX12_endOf h (nX12_endOf_6 h 100000) x1 x2
theorem wX12_endOf {g : SG} (hg : GOK g) {σ0 : SG} {h : HH} : ∀ {x1 : Int} {x2 : Int} {b : Int}, nX12_endOf h x1 x2 = some b → WK 186 (.inl (some (aI b))) σ0 (abH 71 119 g h) 0 [(0, aR 71), (1, aI x1), (2, aI x2)] [] (abH 71 119 g h) 0 0 := by
  intro x1 x2 b q
  exact uX12_endOf hg (fun _ _ _ _ q => wX12_endOf_6 hg q) q
theorem mX12_endOf {g : SG} (hg : GOK g) {h : HH} {x1 : Int} {x2 : Int} {b : Int} (q : nX12_endOf h x1 x2 = some b) : MCT 186 [] [aR 71, aI x1, aI x2] (abH 71 119 g h) (.inl (some (aI b))) (abH 71 119 g h) :=
  mct_of (by decide) (MFok 186 (by decide +kernel)) (fun _ => Nat.le_of_ble_eq_true rfl) (wX12_endOf hg q)
def pX12_endOf {β : Type} (z : HH → Int → Int → Option Int) : PP β := fun h as f => skC 71 as fun as => skI as fun x1 as => skI as fun x2 as => skE as (bnd (z h x1 x2) fun r => f (.inl (some (aI r))))
theorem pX12_endOf_ok {β : Type} {g : SG} (hg : GOK g) : CP1 (β := β) 186 (pX12_endOf nX12_endOf) 71 119 g := fun h as f b q => by
  obtain ⟨as, rfl, q1⟩ := skC_of q
  obtain ⟨x1, as, rfl, q2⟩ := skI_of q1
  obtain ⟨x2, as, rfl, q3⟩ := skI_of q2
  obtain ⟨rfl, q0⟩ := skE_of q3
  obtain ⟨r, z1, z2⟩ := bnd_of q0
  exact ⟨_, z2, by decide, mX12_endOf hg z1, rfl, rfl, fun z => absurd z (by decide)⟩
def csX12_arrival : List (Nat × List (Nat × ARow)) := [(47, [(0, 1, .iload_n 1, 0, 0, 0), (1, 3, .invokestatic 196, 174, 1, 0), (4, 3, .ifCond .eq 10, 14, 0, 0), (7, 1, .iload_n 2, 0, 0, 0), (8, 3, .invokestatic 196, 174, 1, 0), (11, 3, .ifCond .ne 9, 20, 0, 0), (14, 1, .aload_n 0, 0, 0, 0), (15, 1, .iconst 1, 0, 0, 0), (16, 3, .invokevirtual 200, 177, 2, 12), (19, 1, .ireturn, 0, 0, 0), (20, 1, .iload_n 3, 0, 0, 0), (21, 1, .iconst 0, 0, 0, 0), (22, 3, .sipush 1439, 0, 0, 0), (25, 3, .invokestatic 178, 171, 3, 0), (28, 3, .ifCond .ne 9, 37, 0, 0), (31, 1, .aload_n 0, 0, 0, 0), (32, 1, .iconst 2, 0, 0, 0), (33, 3, .invokevirtual 200, 177, 2, 12), (36, 1, .ireturn, 0, 0, 0), (37, 1, .iconst 0, 0, 0, 0), (38, 2, .istore 4, 0, 0, 0), (40, 2, .iload 4, 0, 0, 0), (42, 2, .bipush 16, 0, 0, 0), (44, 3, .if_icmp .ge 28, 72, 0, 0)]),
  (95, [(47, 1, .aload_n 0, 0, 0, 0), (48, 3, .getfield 124, 12, 46, 2), (51, 2, .iload 4, 0, 0, 0), (53, 2, .iload 4, 0, 0, 0), (55, 1, .iload_n 1, 0, 0, 0), (56, 3, .if_icmp .ne 7, 63, 0, 0), (59, 1, .iload_n 3, 0, 0, 0), (60, 3, .goto 5, 65, 0, 0), (63, 2, .ldc 188, 1000000000, 0, 0), (65, 1, .iastore, 0, 0, 0), (66, 3, .iinc 4 1, 0, 0, 0), (69, 3, .goto (-29), 40, 0, 0), (72, 1, .iconst 1, 0, 0, 0), (73, 2, .istore 4, 0, 0, 0), (75, 2, .iload 4, 0, 0, 0), (77, 3, .ifCond .eq 103, 180, 0, 0), (80, 1, .iconst 0, 0, 0, 0), (81, 2, .istore 4, 0, 0, 0), (83, 1, .iconst 0, 0, 0, 0), (84, 2, .istore 5, 0, 0, 0), (86, 2, .iload 5, 0, 0, 0), (88, 1, .aload_n 0, 0, 0, 0), (89, 3, .getfield 189, 12, 9, 0), (92, 3, .if_icmp .ge 85, 177, 0, 0)]),
  (140, [(95, 1, .aload_n 0, 0, 0, 0), (96, 3, .getfield 124, 12, 46, 2), (99, 1, .aload_n 0, 0, 0, 0), (100, 3, .getfield 7, 12, 0, 2), (103, 2, .iload 5, 0, 0, 0), (105, 1, .iaload, 0, 0, 0), (106, 1, .iaload, 0, 0, 0), (107, 2, .ldc 188, 1000000000, 0, 0), (109, 3, .if_icmp .ne 8, 117, 0, 0), (112, 2, .ldc 188, 1000000000, 0, 0), (114, 3, .goto 21, 135, 0, 0), (117, 1, .aload_n 0, 0, 0, 0), (118, 2, .iload 5, 0, 0, 0), (120, 1, .aload_n 0, 0, 0, 0), (121, 3, .getfield 124, 12, 46, 2), (124, 1, .aload_n 0, 0, 0, 0), (125, 3, .getfield 7, 12, 0, 2), (128, 2, .iload 5, 0, 0, 0), (130, 1, .iaload, 0, 0, 0), (131, 1, .iaload, 0, 0, 0), (132, 3, .invokevirtual 216, 186, 3, 12), (135, 2, .istore 6, 0, 0, 0), (137, 2, .iload 6, 0, 0, 0), (139, 1, .aload_n 0, 0, 0, 0)]),
  (186, [(140, 3, .getfield 124, 12, 46, 2), (143, 1, .aload_n 0, 0, 0, 0), (144, 3, .getfield 13, 12, 1, 2), (147, 2, .iload 5, 0, 0, 0), (149, 1, .iaload, 0, 0, 0), (150, 1, .iaload, 0, 0, 0), (151, 3, .if_icmp .ge 20, 171, 0, 0), (154, 1, .aload_n 0, 0, 0, 0), (155, 3, .getfield 124, 12, 46, 2), (158, 1, .aload_n 0, 0, 0, 0), (159, 3, .getfield 13, 12, 1, 2), (162, 2, .iload 5, 0, 0, 0), (164, 1, .iaload, 0, 0, 0), (165, 2, .iload 6, 0, 0, 0), (167, 1, .iastore, 0, 0, 0), (168, 1, .iconst 1, 0, 0, 0), (169, 2, .istore 4, 0, 0, 0), (171, 3, .iinc 5 1, 0, 0, 0), (174, 3, .goto (-88), 86, 0, 0), (177, 3, .goto (-102), 75, 0, 0), (180, 1, .aload_n 0, 0, 0, 0), (181, 1, .aload_n 0, 0, 0, 0), (182, 3, .getfield 124, 12, 46, 2), (185, 1, .iload_n 2, 0, 0, 0)]),
  (100000, [(186, 1, .iaload, 0, 0, 0), (187, 2, .ldc 188, 1000000000, 0, 0), (189, 3, .if_icmp .ne 7, 196, 0, 0), (192, 1, .iconst (-1), 0, 0, 0), (193, 3, .goto 9, 202, 0, 0), (196, 1, .aload_n 0, 0, 0, 0), (197, 3, .getfield 124, 12, 46, 2), (200, 1, .iload_n 2, 0, 0, 0), (201, 1, .iaload, 0, 0, 0), (202, 3, .invokevirtual 209, 178, 2, 12), (205, 1, .ireturn, 0, 0, 0)])]
theorem rwX12_arrival : rowsB (mB 187) (mO 187) (mX 187) (mIni 187) (mFr 187) (mLo 187) (mT 187) csX12_arrival = true := by decide +kernel
def bX12_arrival_14 (f177 : Int → HH → Option (Int × HH)) (h : HH) : Option (Int × HH) :=
  bnd (f177 1 h) fun r1 =>
    some (r1.1, r1.2)
theorem uX12_arrival_14 {g : SG} (hg : GOK g) {σ0 : SG} : ∀ {h : HH} {b : (Int × HH)}, bX12_arrival_14 nX12_refuse h = some b → WK 187 (.inl (some (aI b.1))) σ0 (abH 71 119 g b.2) 14 [(0, aR 71)] [] (abH 71 119 g h) 0 0 := by
  intro h b q
  have e : ∀ (f177 : Int → HH → Option (Int × HH)) , bX12_arrival_14 f177 h = segW 71 119 g.2.2.2.2 krWI (clC 177 (pX12_refuse f177) clN) csX12_arrival cuN 1000 14 [(0, aR 71)] [] h := fun _ => rfl
  rw [e nX12_refuse] at q
  clear e
  refine segW_wk (by decide) (by decide) hg rwX12_arrival (CLKW_C (pX12_refuse_ok hg) CLKW_N) krWI_ok ?_ q
  clear q
  exact ct_N
def nX12_arrival_14 (h : HH) : Option (Int × HH) := bX12_arrival_14 nX12_refuse h
theorem wX12_arrival_14 {g : SG} (hg : GOK g) {σ0 : SG} : ∀ {h : HH} {b : (Int × HH)}, nX12_arrival_14 h = some b → WK 187 (.inl (some (aI b.1))) σ0 (abH 71 119 g b.2) 14 [(0, aR 71)] [] (abH 71 119 g h) 0 0 := by
  intro h b q
  exact uX12_arrival_14 hg q
def bX12_arrival_202 (f178 : Int → HH → Option (Int × HH)) (y0 : Int) (h : HH) : Option (Int × HH) :=
  bnd (f178 y0 h) fun r1 =>
    some (r1.1, r1.2)
theorem uX12_arrival_202 {g : SG} (hg : GOK g) {σ0 : SG} : ∀ {y0 : Int} {h : HH} {b : (Int × HH)}, bX12_arrival_202 nX12_told y0 h = some b → WK 187 (.inl (some (aI b.1))) σ0 (abH 71 119 g b.2) 202 [] [aI y0, aR 71] (abH 71 119 g h) 0 0 := by
  intro y0 h b q
  have e : ∀ (f178 : Int → HH → Option (Int × HH)) , bX12_arrival_202 f178 y0 h = segW 71 119 g.2.2.2.2 krWI (clC 178 (pX12_told f178) clN) csX12_arrival cuN 1000 202 [] [aI y0, aR 71] h := fun _ => rfl
  rw [e nX12_told] at q
  clear e
  refine segW_wk (by decide) (by decide) hg rwX12_arrival (CLKW_C (pX12_told_ok hg) CLKW_N) krWI_ok ?_ q
  clear q
  exact ct_N
def nX12_arrival_202 (y0 : Int) (h : HH) : Option (Int × HH) := bX12_arrival_202 nX12_told y0 h
theorem wX12_arrival_202 {g : SG} (hg : GOK g) {σ0 : SG} : ∀ {y0 : Int} {h : HH} {b : (Int × HH)}, nX12_arrival_202 y0 h = some b → WK 187 (.inl (some (aI b.1))) σ0 (abH 71 119 g b.2) 202 [] [aI y0, aR 71] (abH 71 119 g h) 0 0 := by
  intro y0 h b q
  exact uX12_arrival_202 hg q
def bX12_arrival_171 (c86 : Int → Int → Int → HH → Option (Int × HH)) (x2 : Int) (x4 : Int) (x5 : Int) (h : HH) : Option (Int × HH) :=
  gd (R32 (x5 + 1)) <|
    c86 x2 x4 (x5 + 1) h
theorem uX12_arrival_171 {g : SG} (hg : GOK g) {σ0 : SG} {c86 : Int → Int → Int → HH → Option (Int × HH)} (k86 : ∀ (x2 : Int) (x4 : Int) (x5 : Int) (h : HH) (b : (Int × HH)), c86 x2 x4 x5 h = some b → WK 187 (.inl (some (aI b.1))) σ0 (abH 71 119 g b.2) 86 [(0, aR 71), (2, aI x2), (4, aI x4), (5, aI x5)] [] (abH 71 119 g h) 0 0) : ∀ {x2 : Int} {x4 : Int} {x5 : Int} {h : HH} {b : (Int × HH)}, bX12_arrival_171 c86 x2 x4 x5 h = some b → WK 187 (.inl (some (aI b.1))) σ0 (abH 71 119 g b.2) 171 [(0, aR 71), (2, aI x2), (4, aI x4), (5, aI x5)] [] (abH 71 119 g h) 0 0 := by
  intro x2 x4 x5 h b q
  have e : bX12_arrival_171 c86 x2 x4 x5 h = segW 71 119 g.2.2.2.2 krWI clN csX12_arrival (cuC 86 (fun l st s => tkC 0 71 l <| tkI 2 l fun x2 => tkI 4 l fun x4 => tkI 5 l fun x5 => skE st (c86 x2 x4 x5 s)) cuN) 1000 171 [(0, aR 71), (2, aI x2), (4, aI x4), (5, aI x5)] [] h := rfl
  rw [e] at q
  clear e
  refine segW_wk (by decide) (by decide) hg rwX12_arrival CLKW_N krWI_ok ?_ q
  clear q
  refine ct_C ?_ (ct_N)
  · intro l st h q
    obtain ⟨m0, q1⟩ := tkC_of q
    obtain ⟨x2, m2, q2⟩ := tkI_of q1
    obtain ⟨x4, m4, q3⟩ := tkI_of q2
    obtain ⟨x5, m5, q4⟩ := tkI_of q3
    obtain ⟨rfl, q5⟩ := skE_of q4
    exact WK_less (k86 _ _ _ _ _ q5) (List.forall_mem_cons.mpr ⟨m0, (List.forall_mem_cons.mpr ⟨m2, (List.forall_mem_cons.mpr ⟨m4, (List.forall_mem_cons.mpr ⟨m5, (fun _ h => absurd h List.not_mem_nil)⟩)⟩)⟩)⟩)
def nX12_arrival_171 (c75 : Int → Int → HH → Option (Int × HH)) (c86 : Int → Int → Int → HH → Option (Int × HH)) (x2 : Int) (x4 : Int) (x5 : Int) (h : HH) : Option (Int × HH) := bX12_arrival_171 c86 x2 x4 x5 h
theorem wX12_arrival_171 {g : SG} (hg : GOK g) {σ0 : SG} {c75 : Int → Int → HH → Option (Int × HH)} {c86 : Int → Int → Int → HH → Option (Int × HH)} (k75 : ∀ (x2 : Int) (x4 : Int) (h : HH) (b : (Int × HH)), c75 x2 x4 h = some b → WK 187 (.inl (some (aI b.1))) σ0 (abH 71 119 g b.2) 75 [(0, aR 71), (2, aI x2), (4, aI x4)] [] (abH 71 119 g h) 0 0) (k86 : ∀ (x2 : Int) (x4 : Int) (x5 : Int) (h : HH) (b : (Int × HH)), c86 x2 x4 x5 h = some b → WK 187 (.inl (some (aI b.1))) σ0 (abH 71 119 g b.2) 86 [(0, aR 71), (2, aI x2), (4, aI x4), (5, aI x5)] [] (abH 71 119 g h) 0 0) : ∀ {x2 : Int} {x4 : Int} {x5 : Int} {h : HH} {b : (Int × HH)}, nX12_arrival_171 c75 c86 x2 x4 x5 h = some b → WK 187 (.inl (some (aI b.1))) σ0 (abH 71 119 g b.2) 171 [(0, aR 71), (2, aI x2), (4, aI x4), (5, aI x5)] [] (abH 71 119 g h) 0 0 := by
  intro x2 x4 x5 h b q
  exact uX12_arrival_171 hg k86 q
def bX12_arrival_135 (c171 : Int → Int → Int → HH → Option (Int × HH)) (x2 : Int) (x4 : Int) (x5 : Int) (y0 : Int) (h : HH) : Option (Int × HH) :=
  gd ((0 : Int) ≤ x5 ∧ x5 < (60 : Int)) <|
    gd ((0 : Int) ≤ (h.1 73 x5) ∧ (h.1 73 x5) < (16 : Int)) <|
    if y0 < ((h.1 104 (h.1 73 x5)) : Int) then
    gd ((0 : Int) ≤ x5 ∧ x5 < (60 : Int)) <|
    gd ((0 : Int) ≤ (h.1 73 x5) ∧ (h.1 73 x5) < (16 : Int)) <|
    bnd (some (hI h 104 (h.1 73 x5) y0)) fun h1 =>
    c171 x2 1 x5 h1
  else
    c171 x2 x4 x5 h
set_option maxRecDepth 100000 in
theorem uX12_arrival_135 {g : SG} (hg : GOK g) {σ0 : SG} {c171 : Int → Int → Int → HH → Option (Int × HH)} (k171 : ∀ (x2 : Int) (x4 : Int) (x5 : Int) (h : HH) (b : (Int × HH)), c171 x2 x4 x5 h = some b → WK 187 (.inl (some (aI b.1))) σ0 (abH 71 119 g b.2) 171 [(0, aR 71), (2, aI x2), (4, aI x4), (5, aI x5)] [] (abH 71 119 g h) 0 0) : ∀ {x2 : Int} {x4 : Int} {x5 : Int} {y0 : Int} {h : HH} {b : (Int × HH)}, bX12_arrival_135 c171 x2 x4 x5 y0 h = some b → WK 187 (.inl (some (aI b.1))) σ0 (abH 71 119 g b.2) 135 [(0, aR 71), (2, aI x2), (4, aI x4), (5, aI x5)] [aI y0] (abH 71 119 g h) 0 0 := by
  intro x2 x4 x5 y0 h b q
  have e : bX12_arrival_135 c171 x2 x4 x5 y0 h = segW 71 119 g.2.2.2.2 krWI clN csX12_arrival (cuC 171 (fun l st s => tkC 0 71 l <| tkI 2 l fun x2 => tkI 4 l fun x4 => tkI 5 l fun x5 => skE st (c171 x2 x4 x5 s)) cuN) 1000 135 [(0, aR 71), (2, aI x2), (4, aI x4), (5, aI x5)] [aI y0] h := rfl
  rw [e] at q
  clear e
  refine segW_wk (by decide) (by decide) hg rwX12_arrival CLKW_N krWI_ok ?_ q
  clear q
  refine ct_C ?_ (ct_N)
  · intro l st h q
    obtain ⟨m0, q1⟩ := tkC_of q
    obtain ⟨x2, m2, q2⟩ := tkI_of q1
    obtain ⟨x4, m4, q3⟩ := tkI_of q2
    obtain ⟨x5, m5, q4⟩ := tkI_of q3
    obtain ⟨rfl, q5⟩ := skE_of q4
    exact WK_less (k171 _ _ _ _ _ q5) (List.forall_mem_cons.mpr ⟨m0, (List.forall_mem_cons.mpr ⟨m2, (List.forall_mem_cons.mpr ⟨m4, (List.forall_mem_cons.mpr ⟨m5, (fun _ h => absurd h List.not_mem_nil)⟩)⟩)⟩)⟩)
def nX12_arrival_135 (c75 : Int → Int → HH → Option (Int × HH)) (c86 : Int → Int → Int → HH → Option (Int × HH)) (x2 : Int) (x4 : Int) (x5 : Int) (y0 : Int) (h : HH) : Option (Int × HH) := bX12_arrival_135 (nX12_arrival_171 c75 c86) x2 x4 x5 y0 h
theorem wX12_arrival_135 {g : SG} (hg : GOK g) {σ0 : SG} {c75 : Int → Int → HH → Option (Int × HH)} {c86 : Int → Int → Int → HH → Option (Int × HH)} (k75 : ∀ (x2 : Int) (x4 : Int) (h : HH) (b : (Int × HH)), c75 x2 x4 h = some b → WK 187 (.inl (some (aI b.1))) σ0 (abH 71 119 g b.2) 75 [(0, aR 71), (2, aI x2), (4, aI x4)] [] (abH 71 119 g h) 0 0) (k86 : ∀ (x2 : Int) (x4 : Int) (x5 : Int) (h : HH) (b : (Int × HH)), c86 x2 x4 x5 h = some b → WK 187 (.inl (some (aI b.1))) σ0 (abH 71 119 g b.2) 86 [(0, aR 71), (2, aI x2), (4, aI x4), (5, aI x5)] [] (abH 71 119 g h) 0 0) : ∀ {x2 : Int} {x4 : Int} {x5 : Int} {y0 : Int} {h : HH} {b : (Int × HH)}, nX12_arrival_135 c75 c86 x2 x4 x5 y0 h = some b → WK 187 (.inl (some (aI b.1))) σ0 (abH 71 119 g b.2) 135 [(0, aR 71), (2, aI x2), (4, aI x4), (5, aI x5)] [aI y0] (abH 71 119 g h) 0 0 := by
  intro x2 x4 x5 y0 h b q
  exact uX12_arrival_135 hg (fun _ _ _ _ _ q => wX12_arrival_171 hg k75 k86 q) q
def bX12_arrival_86 (f186 : HH → Int → Int → Option Int) (c75 : Int → Int → HH → Option (Int × HH)) (c135 : Int → Int → Int → Int → HH → Option (Int × HH)) (x2 : Int) (x4 : Int) (x5 : Int) (h : HH) : Option (Int × HH) :=
  if x5 < ((h.1 71 9) : Int) then
    gd ((0 : Int) ≤ x5 ∧ x5 < (60 : Int)) <|
    gd ((0 : Int) ≤ (h.1 72 x5) ∧ (h.1 72 x5) < (16 : Int)) <|
    if (h.1 104 (h.1 72 x5)) = (1000000000 : Int) then
    c135 x2 x4 x5 1000000000 h
  else
    gd ((0 : Int) ≤ x5 ∧ x5 < (60 : Int)) <|
    gd ((0 : Int) ≤ (h.1 72 x5) ∧ (h.1 72 x5) < (16 : Int)) <|
    bnd (f186 h x5 (h.1 104 (h.1 72 x5))) fun r1 =>
    c135 x2 x4 x5 r1 h
  else
    c75 x2 x4 h
set_option maxRecDepth 100000 in
theorem uX12_arrival_86 {g : SG} (hg : GOK g) {σ0 : SG} {c75 : Int → Int → HH → Option (Int × HH)} {c135 : Int → Int → Int → Int → HH → Option (Int × HH)} (k75 : ∀ (x2 : Int) (x4 : Int) (h : HH) (b : (Int × HH)), c75 x2 x4 h = some b → WK 187 (.inl (some (aI b.1))) σ0 (abH 71 119 g b.2) 75 [(0, aR 71), (2, aI x2), (4, aI x4)] [] (abH 71 119 g h) 0 0) (k135 : ∀ (x2 : Int) (x4 : Int) (x5 : Int) (y0 : Int) (h : HH) (b : (Int × HH)), c135 x2 x4 x5 y0 h = some b → WK 187 (.inl (some (aI b.1))) σ0 (abH 71 119 g b.2) 135 [(0, aR 71), (2, aI x2), (4, aI x4), (5, aI x5)] [aI y0] (abH 71 119 g h) 0 0) : ∀ {x2 : Int} {x4 : Int} {x5 : Int} {h : HH} {b : (Int × HH)}, bX12_arrival_86 nX12_endOf c75 c135 x2 x4 x5 h = some b → WK 187 (.inl (some (aI b.1))) σ0 (abH 71 119 g b.2) 86 [(0, aR 71), (2, aI x2), (4, aI x4), (5, aI x5)] [] (abH 71 119 g h) 0 0 := by
  intro x2 x4 x5 h b q
  have e : ∀ (f186 : HH → Int → Int → Option Int) , bX12_arrival_86 f186 c75 c135 x2 x4 x5 h = segW 71 119 g.2.2.2.2 krWI (clC 186 (liPW (pX12_endOf f186)) clN) csX12_arrival (cuC 75 (fun l st s => tkC 0 71 l <| tkI 2 l fun x2 => tkI 4 l fun x4 => skE st (c75 x2 x4 s)) (cuC 135 (fun l st s => tkC 0 71 l <| tkI 2 l fun x2 => tkI 4 l fun x4 => tkI 5 l fun x5 => skI st fun y0 st => skE st (c135 x2 x4 x5 y0 s)) cuN)) 1000 86 [(0, aR 71), (2, aI x2), (4, aI x4), (5, aI x5)] [] h := fun _ => rfl
  rw [e nX12_endOf] at q
  clear e
  refine segW_wk (by decide) (by decide) hg rwX12_arrival (CLKW_C (liPW_ok (pX12_endOf_ok hg)) CLKW_N) krWI_ok ?_ q
  clear q
  refine ct_C ?_ (ct_C ?_ (ct_N))
  · intro l st h q
    obtain ⟨m0, q1⟩ := tkC_of q
    obtain ⟨x2, m2, q2⟩ := tkI_of q1
    obtain ⟨x4, m4, q3⟩ := tkI_of q2
    obtain ⟨rfl, q4⟩ := skE_of q3
    exact WK_less (k75 _ _ _ _ q4) (List.forall_mem_cons.mpr ⟨m0, (List.forall_mem_cons.mpr ⟨m2, (List.forall_mem_cons.mpr ⟨m4, (fun _ h => absurd h List.not_mem_nil)⟩)⟩)⟩)
  · intro l st h q
    obtain ⟨m0, q1⟩ := tkC_of q
    obtain ⟨x2, m2, q2⟩ := tkI_of q1
    obtain ⟨x4, m4, q3⟩ := tkI_of q2
    obtain ⟨x5, m5, q4⟩ := tkI_of q3
    obtain ⟨y0, t0, rfl, q5⟩ := skI_of q4
    obtain ⟨rfl, q6⟩ := skE_of q5
    exact WK_less (k135 _ _ _ _ _ _ q6) (List.forall_mem_cons.mpr ⟨m0, (List.forall_mem_cons.mpr ⟨m2, (List.forall_mem_cons.mpr ⟨m4, (List.forall_mem_cons.mpr ⟨m5, (fun _ h => absurd h List.not_mem_nil)⟩)⟩)⟩)⟩)
def nX12_arrival_86 (c75 : Int → Int → HH → Option (Int × HH)) : Nat → Int → Int → Int → HH → Option (Int × HH) := iter (fun _ _ _ _ => none) (fun self => bX12_arrival_86 nX12_endOf c75 (nX12_arrival_135 c75 self))
theorem nX12_arrival_86_s {c75 : Int → Int → HH → Option (Int × HH)} {F : Nat} : nX12_arrival_86 c75 (F + 1) = bX12_arrival_86 nX12_endOf c75 (nX12_arrival_135 c75 (nX12_arrival_86 c75 F)) := rfl
theorem wX12_arrival_86 {g : SG} (hg : GOK g) {σ0 : SG} {c75 : Int → Int → HH → Option (Int × HH)} (k75 : ∀ (x2 : Int) (x4 : Int) (h : HH) (b : (Int × HH)), c75 x2 x4 h = some b → WK 187 (.inl (some (aI b.1))) σ0 (abH 71 119 g b.2) 75 [(0, aR 71), (2, aI x2), (4, aI x4)] [] (abH 71 119 g h) 0 0) : ∀ {F : Nat}, ∀ {x2 : Int} {x4 : Int} {x5 : Int} {h : HH} {b : (Int × HH)}, nX12_arrival_86 c75 F x2 x4 x5 h = some b → WK 187 (.inl (some (aI b.1))) σ0 (abH 71 119 g b.2) 86 [(0, aR 71), (2, aI x2), (4, aI x4), (5, aI x5)] [] (abH 71 119 g h) 0 0 := by
  intro F
  have z : ∀ (x2 : Int) (x4 : Int) (x5 : Int) (h : HH) (b : (Int × HH)), nX12_arrival_86 c75 F x2 x4 x5 h = some b → WK 187 (.inl (some (aI b.1))) σ0 (abH 71 119 g b.2) 86 [(0, aR 71), (2, aI x2), (4, aI x4), (5, aI x5)] [] (abH 71 119 g h) 0 0 := iter_ind (P := fun (c : Int → Int → Int → HH → Option (Int × HH)) => ∀ (x2 : Int) (x4 : Int) (x5 : Int) (h : HH) (b : (Int × HH)), c x2 x4 x5 h = some b → WK 187 (.inl (some (aI b.1))) σ0 (abH 71 119 g b.2) 86 [(0, aR 71), (2, aI x2), (4, aI x4), (5, aI x5)] [] (abH 71 119 g h) 0 0) (by
    intro x2 x4 x5 h b q
    cases q) (fun self ih => by
    intro x2 x4 x5 h b q
    exact uX12_arrival_86 hg k75 (fun _ _ _ _ _ _ q => wX12_arrival_135 hg k75 ih q) q) F
  intro x2 x4 x5 h b q
  exact z _ _ _ _ _ q
def bX12_arrival_75 (c86 : Int → Int → Int → HH → Option (Int × HH)) (c202 : Int → HH → Option (Int × HH)) (x2 : Int) (x4 : Int) (h : HH) : Option (Int × HH) :=
  if x4 = (0 : Int) then
    gd ((0 : Int) ≤ x2 ∧ x2 < (16 : Int)) <|
    if (h.1 104 x2) = (1000000000 : Int) then
    c202 (-1) h
  else
    gd ((0 : Int) ≤ x2 ∧ x2 < (16 : Int)) <|
    c202 (h.1 104 x2) h
  else
    c86 x2 0 0 h
theorem uX12_arrival_75 {g : SG} (hg : GOK g) {σ0 : SG} {c86 : Int → Int → Int → HH → Option (Int × HH)} {c202 : Int → HH → Option (Int × HH)} (k86 : ∀ (x2 : Int) (x4 : Int) (x5 : Int) (h : HH) (b : (Int × HH)), c86 x2 x4 x5 h = some b → WK 187 (.inl (some (aI b.1))) σ0 (abH 71 119 g b.2) 86 [(0, aR 71), (2, aI x2), (4, aI x4), (5, aI x5)] [] (abH 71 119 g h) 0 0) (k202 : ∀ (y0 : Int) (h : HH) (b : (Int × HH)), c202 y0 h = some b → WK 187 (.inl (some (aI b.1))) σ0 (abH 71 119 g b.2) 202 [] [aI y0, aR 71] (abH 71 119 g h) 0 0) : ∀ {x2 : Int} {x4 : Int} {h : HH} {b : (Int × HH)}, bX12_arrival_75 c86 c202 x2 x4 h = some b → WK 187 (.inl (some (aI b.1))) σ0 (abH 71 119 g b.2) 75 [(0, aR 71), (2, aI x2), (4, aI x4)] [] (abH 71 119 g h) 0 0 := by
  intro x2 x4 h b q
  have e : bX12_arrival_75 c86 c202 x2 x4 h = segW 71 119 g.2.2.2.2 krWI clN csX12_arrival (cuC 86 (fun l st s => tkC 0 71 l <| tkI 2 l fun x2 => tkI 4 l fun x4 => tkI 5 l fun x5 => skE st (c86 x2 x4 x5 s)) (cuC 202 (fun l st s => skI st fun y0 st => skC 71 st fun st => skE st (c202 y0 s)) cuN)) 1000 75 [(0, aR 71), (2, aI x2), (4, aI x4)] [] h := rfl
  rw [e] at q
  clear e
  refine segW_wk (by decide) (by decide) hg rwX12_arrival CLKW_N krWI_ok ?_ q
  clear q
  refine ct_C ?_ (ct_C ?_ (ct_N))
  · intro l st h q
    obtain ⟨m0, q1⟩ := tkC_of q
    obtain ⟨x2, m2, q2⟩ := tkI_of q1
    obtain ⟨x4, m4, q3⟩ := tkI_of q2
    obtain ⟨x5, m5, q4⟩ := tkI_of q3
    obtain ⟨rfl, q5⟩ := skE_of q4
    exact WK_less (k86 _ _ _ _ _ q5) (List.forall_mem_cons.mpr ⟨m0, (List.forall_mem_cons.mpr ⟨m2, (List.forall_mem_cons.mpr ⟨m4, (List.forall_mem_cons.mpr ⟨m5, (fun _ h => absurd h List.not_mem_nil)⟩)⟩)⟩)⟩)
  · intro l st h q
    obtain ⟨y0, t0, rfl, q1⟩ := skI_of q
    obtain ⟨t1, rfl, q2⟩ := skC_of q1
    obtain ⟨rfl, q3⟩ := skE_of q2
    exact WK_less (k202 _ _ _ q3) (fun _ h => absurd h List.not_mem_nil)
def nX12_arrival_75 : Nat → Int → Int → HH → Option (Int × HH) := iter (fun _ _ _ => none) (fun self => bX12_arrival_75 (nX12_arrival_86 self 100000) nX12_arrival_202)
theorem nX12_arrival_75_s {F : Nat} : nX12_arrival_75 (F + 1) = bX12_arrival_75 (nX12_arrival_86 (nX12_arrival_75 F) 100000) nX12_arrival_202 := rfl
theorem wX12_arrival_75 {g : SG} (hg : GOK g) {σ0 : SG} : ∀ {F : Nat}, ∀ {x2 : Int} {x4 : Int} {h : HH} {b : (Int × HH)}, nX12_arrival_75 F x2 x4 h = some b → WK 187 (.inl (some (aI b.1))) σ0 (abH 71 119 g b.2) 75 [(0, aR 71), (2, aI x2), (4, aI x4)] [] (abH 71 119 g h) 0 0 := by
  intro F
  have z : ∀ (x2 : Int) (x4 : Int) (h : HH) (b : (Int × HH)), nX12_arrival_75 F x2 x4 h = some b → WK 187 (.inl (some (aI b.1))) σ0 (abH 71 119 g b.2) 75 [(0, aR 71), (2, aI x2), (4, aI x4)] [] (abH 71 119 g h) 0 0 := iter_ind (P := fun (c : Int → Int → HH → Option (Int × HH)) => ∀ (x2 : Int) (x4 : Int) (h : HH) (b : (Int × HH)), c x2 x4 h = some b → WK 187 (.inl (some (aI b.1))) σ0 (abH 71 119 g b.2) 75 [(0, aR 71), (2, aI x2), (4, aI x4)] [] (abH 71 119 g h) 0 0) (by
    intro x2 x4 h b q
    cases q) (fun self ih => by
    intro x2 x4 h b q
    exact uX12_arrival_75 hg (fun _ _ _ _ _ q => wX12_arrival_86 hg ih q) (fun _ _ _ q => wX12_arrival_202 hg q) q) F
  intro x2 x4 h b q
  exact z _ _ _ _ q
def bX12_arrival_65 (c40 : Int → Int → Int → Int → HH → Option (Int × HH)) (x1 : Int) (x2 : Int) (x3 : Int) (x4 : Int) (y0 : Int) (y1 : Int) (h : HH) : Option (Int × HH) :=
  gd ((0 : Int) ≤ y1 ∧ y1 < (16 : Int)) <|
    bnd (some (hI h 104 y1 y0)) fun h1 =>
    gd (R32 (x4 + 1)) <|
    c40 x1 x2 x3 (x4 + 1) h1
theorem uX12_arrival_65 {g : SG} (hg : GOK g) {σ0 : SG} {c40 : Int → Int → Int → Int → HH → Option (Int × HH)} (k40 : ∀ (x1 : Int) (x2 : Int) (x3 : Int) (x4 : Int) (h : HH) (b : (Int × HH)), c40 x1 x2 x3 x4 h = some b → WK 187 (.inl (some (aI b.1))) σ0 (abH 71 119 g b.2) 40 [(0, aR 71), (1, aI x1), (2, aI x2), (3, aI x3), (4, aI x4)] [] (abH 71 119 g h) 0 0) : ∀ {x1 : Int} {x2 : Int} {x3 : Int} {x4 : Int} {y0 : Int} {y1 : Int} {h : HH} {b : (Int × HH)}, bX12_arrival_65 c40 x1 x2 x3 x4 y0 y1 h = some b → WK 187 (.inl (some (aI b.1))) σ0 (abH 71 119 g b.2) 65 [(0, aR 71), (1, aI x1), (2, aI x2), (3, aI x3), (4, aI x4)] [aI y0, aI y1, aR 104] (abH 71 119 g h) 0 0 := by
  intro x1 x2 x3 x4 y0 y1 h b q
  have e : bX12_arrival_65 c40 x1 x2 x3 x4 y0 y1 h = segW 71 119 g.2.2.2.2 krWI clN csX12_arrival (cuC 40 (fun l st s => tkC 0 71 l <| tkI 1 l fun x1 => tkI 2 l fun x2 => tkI 3 l fun x3 => tkI 4 l fun x4 => skE st (c40 x1 x2 x3 x4 s)) cuN) 1000 65 [(0, aR 71), (1, aI x1), (2, aI x2), (3, aI x3), (4, aI x4)] [aI y0, aI y1, aR 104] h := rfl
  rw [e] at q
  clear e
  refine segW_wk (by decide) (by decide) hg rwX12_arrival CLKW_N krWI_ok ?_ q
  clear q
  refine ct_C ?_ (ct_N)
  · intro l st h q
    obtain ⟨m0, q1⟩ := tkC_of q
    obtain ⟨x1, m1, q2⟩ := tkI_of q1
    obtain ⟨x2, m2, q3⟩ := tkI_of q2
    obtain ⟨x3, m3, q4⟩ := tkI_of q3
    obtain ⟨x4, m4, q5⟩ := tkI_of q4
    obtain ⟨rfl, q6⟩ := skE_of q5
    exact WK_less (k40 _ _ _ _ _ _ q6) (List.forall_mem_cons.mpr ⟨m0, (List.forall_mem_cons.mpr ⟨m1, (List.forall_mem_cons.mpr ⟨m2, (List.forall_mem_cons.mpr ⟨m3, (List.forall_mem_cons.mpr ⟨m4, (fun _ h => absurd h List.not_mem_nil)⟩)⟩)⟩)⟩)⟩)
def nX12_arrival_65 (c40 : Int → Int → Int → Int → HH → Option (Int × HH)) (x1 : Int) (x2 : Int) (x3 : Int) (x4 : Int) (y0 : Int) (y1 : Int) (h : HH) : Option (Int × HH) := bX12_arrival_65 c40 x1 x2 x3 x4 y0 y1 h
theorem wX12_arrival_65 {g : SG} (hg : GOK g) {σ0 : SG} {c40 : Int → Int → Int → Int → HH → Option (Int × HH)} (k40 : ∀ (x1 : Int) (x2 : Int) (x3 : Int) (x4 : Int) (h : HH) (b : (Int × HH)), c40 x1 x2 x3 x4 h = some b → WK 187 (.inl (some (aI b.1))) σ0 (abH 71 119 g b.2) 40 [(0, aR 71), (1, aI x1), (2, aI x2), (3, aI x3), (4, aI x4)] [] (abH 71 119 g h) 0 0) : ∀ {x1 : Int} {x2 : Int} {x3 : Int} {x4 : Int} {y0 : Int} {y1 : Int} {h : HH} {b : (Int × HH)}, nX12_arrival_65 c40 x1 x2 x3 x4 y0 y1 h = some b → WK 187 (.inl (some (aI b.1))) σ0 (abH 71 119 g b.2) 65 [(0, aR 71), (1, aI x1), (2, aI x2), (3, aI x3), (4, aI x4)] [aI y0, aI y1, aR 104] (abH 71 119 g h) 0 0 := by
  intro x1 x2 x3 x4 y0 y1 h b q
  exact uX12_arrival_65 hg k40 q
def bX12_arrival_40 (c65 : Int → Int → Int → Int → Int → Int → HH → Option (Int × HH)) (c75 : Int → Int → HH → Option (Int × HH)) (x1 : Int) (x2 : Int) (x3 : Int) (x4 : Int) (h : HH) : Option (Int × HH) :=
  if x4 < (16 : Int) then
    if x4 = (x1 : Int) then
    c65 x1 x2 x3 x4 x3 x4 h
  else
    c65 x1 x2 x3 x4 1000000000 x4 h
  else
    c75 x2 1 h
theorem uX12_arrival_40 {g : SG} (hg : GOK g) {σ0 : SG} {c65 : Int → Int → Int → Int → Int → Int → HH → Option (Int × HH)} {c75 : Int → Int → HH → Option (Int × HH)} (k65 : ∀ (x1 : Int) (x2 : Int) (x3 : Int) (x4 : Int) (y0 : Int) (y1 : Int) (h : HH) (b : (Int × HH)), c65 x1 x2 x3 x4 y0 y1 h = some b → WK 187 (.inl (some (aI b.1))) σ0 (abH 71 119 g b.2) 65 [(0, aR 71), (1, aI x1), (2, aI x2), (3, aI x3), (4, aI x4)] [aI y0, aI y1, aR 104] (abH 71 119 g h) 0 0) (k75 : ∀ (x2 : Int) (x4 : Int) (h : HH) (b : (Int × HH)), c75 x2 x4 h = some b → WK 187 (.inl (some (aI b.1))) σ0 (abH 71 119 g b.2) 75 [(0, aR 71), (2, aI x2), (4, aI x4)] [] (abH 71 119 g h) 0 0) : ∀ {x1 : Int} {x2 : Int} {x3 : Int} {x4 : Int} {h : HH} {b : (Int × HH)}, bX12_arrival_40 c65 c75 x1 x2 x3 x4 h = some b → WK 187 (.inl (some (aI b.1))) σ0 (abH 71 119 g b.2) 40 [(0, aR 71), (1, aI x1), (2, aI x2), (3, aI x3), (4, aI x4)] [] (abH 71 119 g h) 0 0 := by
  intro x1 x2 x3 x4 h b q
  have e : bX12_arrival_40 c65 c75 x1 x2 x3 x4 h = segW 71 119 g.2.2.2.2 krWI clN csX12_arrival (cuC 65 (fun l st s => tkC 0 71 l <| tkI 1 l fun x1 => tkI 2 l fun x2 => tkI 3 l fun x3 => tkI 4 l fun x4 => skI st fun y0 st => skI st fun y1 st => skC 104 st fun st => skE st (c65 x1 x2 x3 x4 y0 y1 s)) (cuC 75 (fun l st s => tkC 0 71 l <| tkI 2 l fun x2 => tkI 4 l fun x4 => skE st (c75 x2 x4 s)) cuN)) 1000 40 [(0, aR 71), (1, aI x1), (2, aI x2), (3, aI x3), (4, aI x4)] [] h := rfl
  rw [e] at q
  clear e
  refine segW_wk (by decide) (by decide) hg rwX12_arrival CLKW_N krWI_ok ?_ q
  clear q
  refine ct_C ?_ (ct_C ?_ (ct_N))
  · intro l st h q
    obtain ⟨m0, q1⟩ := tkC_of q
    obtain ⟨x1, m1, q2⟩ := tkI_of q1
    obtain ⟨x2, m2, q3⟩ := tkI_of q2
    obtain ⟨x3, m3, q4⟩ := tkI_of q3
    obtain ⟨x4, m4, q5⟩ := tkI_of q4
    obtain ⟨y0, t0, rfl, q6⟩ := skI_of q5
    obtain ⟨y1, t1, rfl, q7⟩ := skI_of q6
    obtain ⟨t2, rfl, q8⟩ := skC_of q7
    obtain ⟨rfl, q9⟩ := skE_of q8
    exact WK_less (k65 _ _ _ _ _ _ _ _ q9) (List.forall_mem_cons.mpr ⟨m0, (List.forall_mem_cons.mpr ⟨m1, (List.forall_mem_cons.mpr ⟨m2, (List.forall_mem_cons.mpr ⟨m3, (List.forall_mem_cons.mpr ⟨m4, (fun _ h => absurd h List.not_mem_nil)⟩)⟩)⟩)⟩)⟩)
  · intro l st h q
    obtain ⟨m0, q1⟩ := tkC_of q
    obtain ⟨x2, m2, q2⟩ := tkI_of q1
    obtain ⟨x4, m4, q3⟩ := tkI_of q2
    obtain ⟨rfl, q4⟩ := skE_of q3
    exact WK_less (k75 _ _ _ _ q4) (List.forall_mem_cons.mpr ⟨m0, (List.forall_mem_cons.mpr ⟨m2, (List.forall_mem_cons.mpr ⟨m4, (fun _ h => absurd h List.not_mem_nil)⟩)⟩)⟩)
def nX12_arrival_40 : Nat → Int → Int → Int → Int → HH → Option (Int × HH) := iter (fun _ _ _ _ _ => none) (fun self => bX12_arrival_40 (nX12_arrival_65 self) (nX12_arrival_75 100000))
theorem nX12_arrival_40_s {F : Nat} : nX12_arrival_40 (F + 1) = bX12_arrival_40 (nX12_arrival_65 (nX12_arrival_40 F)) (nX12_arrival_75 100000) := rfl
theorem wX12_arrival_40 {g : SG} (hg : GOK g) {σ0 : SG} : ∀ {F : Nat}, ∀ {x1 : Int} {x2 : Int} {x3 : Int} {x4 : Int} {h : HH} {b : (Int × HH)}, nX12_arrival_40 F x1 x2 x3 x4 h = some b → WK 187 (.inl (some (aI b.1))) σ0 (abH 71 119 g b.2) 40 [(0, aR 71), (1, aI x1), (2, aI x2), (3, aI x3), (4, aI x4)] [] (abH 71 119 g h) 0 0 := by
  intro F
  have z : ∀ (x1 : Int) (x2 : Int) (x3 : Int) (x4 : Int) (h : HH) (b : (Int × HH)), nX12_arrival_40 F x1 x2 x3 x4 h = some b → WK 187 (.inl (some (aI b.1))) σ0 (abH 71 119 g b.2) 40 [(0, aR 71), (1, aI x1), (2, aI x2), (3, aI x3), (4, aI x4)] [] (abH 71 119 g h) 0 0 := iter_ind (P := fun (c : Int → Int → Int → Int → HH → Option (Int × HH)) => ∀ (x1 : Int) (x2 : Int) (x3 : Int) (x4 : Int) (h : HH) (b : (Int × HH)), c x1 x2 x3 x4 h = some b → WK 187 (.inl (some (aI b.1))) σ0 (abH 71 119 g b.2) 40 [(0, aR 71), (1, aI x1), (2, aI x2), (3, aI x3), (4, aI x4)] [] (abH 71 119 g h) 0 0) (by
    intro x1 x2 x3 x4 h b q
    cases q) (fun self ih => by
    intro x1 x2 x3 x4 h b q
    exact uX12_arrival_40 hg (fun _ _ _ _ _ _ _ _ q => wX12_arrival_65 hg ih q) (fun _ _ _ _ q => wX12_arrival_75 hg q) q) F
  intro x1 x2 x3 x4 h b q
  exact z _ _ _ _ _ _ q
def bX12_arrival (f174 : HH → Int → Option Int) (f171 : HH → Int → Int → Int → Option Int) (f177 : Int → HH → Option (Int × HH)) (c14 : HH → Option (Int × HH)) (c40 : Int → Int → Int → Int → HH → Option (Int × HH)) (x1 : Int) (x2 : Int) (x3 : Int) (h : HH) : Option (Int × HH) :=
  bnd (f174 h x1) fun r1 =>
    if r1 = (0 : Int) then
    c14 h
  else
    bnd (f174 h x2) fun r2 =>
    if r2 = (0 : Int) then
    c14 h
  else
    bnd (f171 h x3 0 1439) fun r3 =>
    if r3 = (0 : Int) then
    bnd (f177 2 h) fun r4 =>
    some (r4.1, r4.2)
  else
    c40 x1 x2 x3 0 h
theorem uX12_arrival {g : SG} (hg : GOK g) {σ0 : SG} {c14 : HH → Option (Int × HH)} {c40 : Int → Int → Int → Int → HH → Option (Int × HH)} (k14 : ∀ (h : HH) (b : (Int × HH)), c14 h = some b → WK 187 (.inl (some (aI b.1))) σ0 (abH 71 119 g b.2) 14 [(0, aR 71)] [] (abH 71 119 g h) 0 0) (k40 : ∀ (x1 : Int) (x2 : Int) (x3 : Int) (x4 : Int) (h : HH) (b : (Int × HH)), c40 x1 x2 x3 x4 h = some b → WK 187 (.inl (some (aI b.1))) σ0 (abH 71 119 g b.2) 40 [(0, aR 71), (1, aI x1), (2, aI x2), (3, aI x3), (4, aI x4)] [] (abH 71 119 g h) 0 0) : ∀ {x1 : Int} {x2 : Int} {x3 : Int} {h : HH} {b : (Int × HH)}, bX12_arrival nX12_isPlace nX12_in nX12_refuse c14 c40 x1 x2 x3 h = some b → WK 187 (.inl (some (aI b.1))) σ0 (abH 71 119 g b.2) 0 [(0, aR 71), (1, aI x1), (2, aI x2), (3, aI x3)] [] (abH 71 119 g h) 0 0 := by
  intro x1 x2 x3 h b q
  have e : ∀ (f174 : HH → Int → Option Int) (f171 : HH → Int → Int → Int → Option Int) (f177 : Int → HH → Option (Int × HH)) , bX12_arrival f174 f171 f177 c14 c40 x1 x2 x3 h = segW 71 119 g.2.2.2.2 krWI (clC 174 (liPW (pX12_isPlace f174)) (clC 171 (liPW (pX12_in f171)) (clC 177 (pX12_refuse f177) clN))) csX12_arrival (cuC 14 (fun l st s => tkC 0 71 l <| skE st (c14 s)) (cuC 40 (fun l st s => tkC 0 71 l <| tkI 1 l fun x1 => tkI 2 l fun x2 => tkI 3 l fun x3 => tkI 4 l fun x4 => skE st (c40 x1 x2 x3 x4 s)) cuN)) 1000 0 [(0, aR 71), (1, aI x1), (2, aI x2), (3, aI x3)] [] h := fun _ _ _ => rfl
  rw [e nX12_isPlace nX12_in nX12_refuse] at q
  clear e
  refine segW_wk (by decide) (by decide) hg rwX12_arrival (CLKW_C (liPW_ok (pX12_isPlace_ok hg)) (CLKW_C (liPW_ok (pX12_in_ok hg)) (CLKW_C (pX12_refuse_ok hg) CLKW_N))) krWI_ok ?_ q
  clear q
  refine ct_C ?_ (ct_C ?_ (ct_N))
  · intro l st h q
    obtain ⟨m0, q1⟩ := tkC_of q
    obtain ⟨rfl, q2⟩ := skE_of q1
    exact WK_less (k14 _ _ q2) (List.forall_mem_cons.mpr ⟨m0, (fun _ h => absurd h List.not_mem_nil)⟩)
  · intro l st h q
    obtain ⟨m0, q1⟩ := tkC_of q
    obtain ⟨x1, m1, q2⟩ := tkI_of q1
    obtain ⟨x2, m2, q3⟩ := tkI_of q2
    obtain ⟨x3, m3, q4⟩ := tkI_of q3
    obtain ⟨x4, m4, q5⟩ := tkI_of q4
    obtain ⟨rfl, q6⟩ := skE_of q5
    exact WK_less (k40 _ _ _ _ _ _ q6) (List.forall_mem_cons.mpr ⟨m0, (List.forall_mem_cons.mpr ⟨m1, (List.forall_mem_cons.mpr ⟨m2, (List.forall_mem_cons.mpr ⟨m3, (List.forall_mem_cons.mpr ⟨m4, (fun _ h => absurd h List.not_mem_nil)⟩)⟩)⟩)⟩)⟩)
def nX12_arrival (x1 : Int) (x2 : Int) (x3 : Int) (h : HH) : Option (Int × HH) := bX12_arrival nX12_isPlace nX12_in nX12_refuse nX12_arrival_14 (nX12_arrival_40 100000) x1 x2 x3 h
theorem wX12_arrival {g : SG} (hg : GOK g) {σ0 : SG} : ∀ {x1 : Int} {x2 : Int} {x3 : Int} {h : HH} {b : (Int × HH)}, nX12_arrival x1 x2 x3 h = some b → WK 187 (.inl (some (aI b.1))) σ0 (abH 71 119 g b.2) 0 [(0, aR 71), (1, aI x1), (2, aI x2), (3, aI x3)] [] (abH 71 119 g h) 0 0 := by
  intro x1 x2 x3 h b q
  exact uX12_arrival hg (fun _ _ q => wX12_arrival_14 hg q) (fun _ _ _ _ _ _ q => wX12_arrival_40 hg q) q
theorem mX12_arrival {g : SG} (hg : GOK g) {h : HH} {x1 : Int} {x2 : Int} {x3 : Int} {b : (Int × HH)} (q : nX12_arrival x1 x2 x3 h = some b) : MCT 187 [] [aR 71, aI x1, aI x2, aI x3] (abH 71 119 g h) (.inl (some (aI b.1))) (abH 71 119 g b.2) :=
  mct_of (by decide) (MFok 187 (by decide +kernel)) (fun _ => Nat.le_of_ble_eq_true rfl) (wX12_arrival hg q)
def pX12_arrival {β : Type} (z : Int → Int → Int → HH → Option (Int × HH)) : PW β := fun as h f => skC 71 as fun as => skI as fun x1 as => skI as fun x2 as => skI as fun x3 as => skE as (bnd (z x1 x2 x3 h) fun r => f (.inl (some (aI r.1))) r.2)
theorem pX12_arrival_ok {β : Type} {g : SG} (hg : GOK g) : CW1 (β := β) 187 (pX12_arrival nX12_arrival) 71 119 g := fun as h f b q => by
  obtain ⟨as, rfl, q1⟩ := skC_of q
  obtain ⟨x1, as, rfl, q2⟩ := skI_of q1
  obtain ⟨x2, as, rfl, q3⟩ := skI_of q2
  obtain ⟨x3, as, rfl, q4⟩ := skI_of q3
  obtain ⟨rfl, q0⟩ := skE_of q4
  obtain ⟨r, z1, z2⟩ := bnd_of q0
  exact ⟨_, _, z2, by decide, mX12_arrival hg z1, rfl, rfl, fun z => absurd z (by decide)⟩
