def krWF : Option AV → HH → Option (UInt32 × HH) := fun v h => match v with | some (.inr (.inr (.inr (.inl x)))) => some (x, h) | _ => none
def krWD : Option AV → HH → Option (UInt64 × HH) := fun v h => match v with | some (.inr (.inr (.inr (.inr x)))) => some (x, h) | _ => none
theorem krWF_ok {lo hi : Nat} {g : SG} {b : UInt32 × HH} : ∀ v h, krWF v h = some b → (.inl (some (aF b.1)) : AO) = .inl v ∧ abH lo hi g b.2 = abH lo hi g h := by
  intro v h q
  unfold krWF at q
  split at q
  · cases q; exact ⟨rfl, rfl⟩
  · cases q
theorem krWD_ok {lo hi : Nat} {g : SG} {b : UInt64 × HH} : ∀ v h, krWD v h = some b → (.inl (some (aD b.1)) : AO) = .inl v ∧ abH lo hi g b.2 = abH lo hi g h := by
  intro v h q
  unfold krWD at q
  split at q
  · cases q; exact ⟨rfl, rfl⟩
  · cases q
def csX12_share : List (Nat × List (Nat × ARow)) := [(44, [(0, 1, .iload_n 1, 0, 0, 0), (1, 1, .iconst 0, 0, 0, 0), (2, 1, .iconst 2, 0, 0, 0), (3, 3, .invokestatic 178, 171, 3, 0), (6, 3, .ifCond .ne 9, 15, 0, 0), (9, 1, .aload_n 0, 0, 0, 0), (10, 1, .iconst 1, 0, 0, 0), (11, 3, .invokevirtual 200, 177, 2, 12), (14, 1, .ireturn, 0, 0, 0), (15, 1, .aload_n 0, 0, 0, 0), (16, 3, .getfield 185, 12, 27, 0), (19, 3, .ifCond .ne 9, 28, 0, 0), (22, 1, .aload_n 0, 0, 0, 0), (23, 1, .iconst 2, 0, 0, 0), (24, 3, .invokevirtual 200, 177, 2, 12), (27, 1, .ireturn, 0, 0, 0), (28, 1, .aload_n 0, 0, 0, 0), (29, 3, .invokevirtual 423, 259, 1, 12), (32, 3, .ifCond .eq 15, 47, 0, 0), (35, 1, .aload_n 0, 0, 0, 0), (36, 1, .aload_n 0, 0, 0, 0), (37, 1, .iload_n 1, 0, 0, 0), (38, 3, .invokevirtual 426, 260, 2, 12), (41, 3, .invokevirtual 209, 178, 2, 12)]),
  (100000, [(44, 3, .goto 8, 52, 0, 0), (47, 1, .aload_n 0, 0, 0, 0), (48, 1, .iconst 3, 0, 0, 0), (49, 3, .invokevirtual 200, 177, 2, 12), (52, 1, .ireturn, 0, 0, 0)])]
theorem rwX12_share : rowsB (mB 261) (mO 261) (mX 261) (mIni 261) (mFr 261) (mLo 261) (mT 261) csX12_share = true := by decide +kernel
def bX12_share (f171 : HH → Int → Int → Int → Option Int) (f259 : HH → Option (Int × HH)) (f177 : Int → HH → Option (Int × HH)) (f260 : HH → Int → Option Int) (f178 : Int → HH → Option (Int × HH)) (x1 : Int) (h : HH) : Option (Int × HH) :=
  bnd (f171 h x1 0 2) fun r1 =>
    if r1 = (0 : Int) then
    bnd (f177 1 h) fun r7 =>
    some (r7.1, r7.2)
  else
    if (h.1 71 27) = (0 : Int) then
    bnd (f177 2 h) fun r6 =>
    some (r6.1, r6.2)
  else
    bnd (f259 h) fun r2 =>
    if r2.1 = (0 : Int) then
    bnd (f177 3 r2.2) fun r3 =>
    some (r3.1, r3.2)
  else
    bnd (f260 r2.2 x1) fun r4 =>
    bnd (f178 r4 r2.2) fun r5 =>
    some (r5.1, r5.2)
set_option maxRecDepth 100000 in
theorem uX12_share {g : SG} (hg : GOK g) {σ0 : SG} : ∀ {x1 : Int} {h : HH} {b : (Int × HH)}, bX12_share nX12_in nX12_reckons nX12_refuse nX12_shareOf nX12_told x1 h = some b → WK 261 (.inl (some (aI b.1))) σ0 (abH 71 119 g b.2) 0 [(0, aR 71), (1, aI x1)] [] (abH 71 119 g h) 0 0 := by
  intro x1 h b q
  have e : ∀ (f171 : HH → Int → Int → Int → Option Int) (f259 : HH → Option (Int × HH)) (f177 : Int → HH → Option (Int × HH)) (f260 : HH → Int → Option Int) (f178 : Int → HH → Option (Int × HH)) , bX12_share f171 f259 f177 f260 f178 x1 h = segW 71 119 g.2.2.2.2 krWI (clC 171 (liPW (pX12_in f171)) (clC 259 (pX12_reckons f259) (clC 177 (pX12_refuse f177) (clC 260 (liPW (pX12_shareOf f260)) (clC 178 (pX12_told f178) clN))))) csX12_share cuN 1000 0 [(0, aR 71), (1, aI x1)] [] h := fun _ _ _ _ _ => rfl
  rw [e nX12_in nX12_reckons nX12_refuse nX12_shareOf nX12_told] at q
  clear e
  refine segW_wk (by decide) (by decide) hg rwX12_share (CLKW_C (liPW_ok (pX12_in_ok hg)) (CLKW_C (pX12_reckons_ok hg) (CLKW_C (pX12_refuse_ok hg) (CLKW_C (liPW_ok (pX12_shareOf_ok hg)) (CLKW_C (pX12_told_ok hg) CLKW_N))))) krWI_ok ?_ q
  clear q
  exact ct_N
def nX12_share (x1 : Int) (h : HH) : Option (Int × HH) := bX12_share nX12_in nX12_reckons nX12_refuse nX12_shareOf nX12_told x1 h
theorem wX12_share {g : SG} (hg : GOK g) {σ0 : SG} : ∀ {x1 : Int} {h : HH} {b : (Int × HH)}, nX12_share x1 h = some b → WK 261 (.inl (some (aI b.1))) σ0 (abH 71 119 g b.2) 0 [(0, aR 71), (1, aI x1)] [] (abH 71 119 g h) 0 0 := by
  intro x1 h b q
  exact uX12_share hg q
theorem mX12_share {g : SG} (hg : GOK g) {h : HH} {x1 : Int} {b : (Int × HH)} (q : nX12_share x1 h = some b) : MCT 261 [] [aR 71, aI x1] (abH 71 119 g h) (.inl (some (aI b.1))) (abH 71 119 g b.2) :=
  mct_of (by decide) (MFok 261 (by decide +kernel)) (fun _ => Nat.le_of_ble_eq_true rfl) (wX12_share hg q)
def pX12_share {β : Type} (z : Int → HH → Option (Int × HH)) : PW β := fun as h f => skC 71 as fun as => skI as fun x1 as => skE as (bnd (z x1 h) fun r => f (.inl (some (aI r.1))) r.2)
theorem pX12_share_ok {β : Type} {g : SG} (hg : GOK g) : CW1 (β := β) 261 (pX12_share nX12_share) 71 119 g := fun as h f b q => by
  obtain ⟨as, rfl, q1⟩ := skC_of q
  obtain ⟨x1, as, rfl, q2⟩ := skI_of q1
  obtain ⟨rfl, q0⟩ := skE_of q2
  obtain ⟨r, z1, z2⟩ := bnd_of q0
  exact ⟨_, _, z2, by decide, mX12_share hg z1, rfl, rfl, fun z => absurd z (by decide)⟩
def csX12_blocks : List (Nat × List (Nat × ARow)) := [(39, [(0, 1, .aload_n 0, 0, 0, 0), (1, 3, .getfield 185, 12, 27, 0), (4, 3, .ifCond .ne 9, 13, 0, 0), (7, 1, .aload_n 0, 0, 0, 0), (8, 1, .iconst 1, 0, 0, 0), (9, 3, .invokevirtual 200, 177, 2, 12), (12, 1, .ireturn, 0, 0, 0), (13, 1, .aload_n 0, 0, 0, 0), (14, 3, .invokevirtual 423, 259, 1, 12), (17, 3, .ifCond .ne 9, 26, 0, 0), (20, 1, .aload_n 0, 0, 0, 0), (21, 1, .iconst 2, 0, 0, 0), (22, 3, .invokevirtual 200, 177, 2, 12), (25, 1, .ireturn, 0, 0, 0), (26, 1, .iconst 0, 0, 0, 0), (27, 1, .istore_n 1, 0, 0, 0), (28, 1, .iconst 1, 0, 0, 0), (29, 1, .istore_n 2, 0, 0, 0), (30, 1, .iload_n 2, 0, 0, 0), (31, 2, .bipush 8, 0, 0, 0), (33, 3, .if_icmp .ge 72, 105, 0, 0), (36, 1, .iconst 0, 0, 0, 0), (37, 1, .istore_n 3, 0, 0, 0), (38, 1, .iconst 0, 0, 0, 0)]),
  (80, [(39, 2, .istore 4, 0, 0, 0), (41, 2, .iload 4, 0, 0, 0), (43, 1, .iconst 3, 0, 0, 0), (44, 3, .if_icmp .ge 32, 76, 0, 0), (47, 1, .iload_n 3, 0, 0, 0), (48, 1, .iload_n 2, 0, 0, 0), (49, 2, .iload 4, 0, 0, 0), (51, 1, .ishr, 0, 0, 0), (52, 1, .iconst 1, 0, 0, 0), (53, 1, .iand, 0, 0, 0), (54, 1, .iconst 1, 0, 0, 0), (55, 3, .if_icmp .ne 12, 67, 0, 0), (58, 1, .aload_n 0, 0, 0, 0), (59, 2, .iload 4, 0, 0, 0), (61, 3, .invokevirtual 426, 260, 2, 12), (64, 3, .goto 4, 68, 0, 0), (67, 1, .iconst 0, 0, 0, 0), (68, 1, .iadd, 0, 0, 0), (69, 1, .istore_n 3, 0, 0, 0), (70, 3, .iinc 4 1, 0, 0, 0), (73, 3, .goto (-32), 41, 0, 0), (76, 1, .iload_n 1, 0, 0, 0), (77, 1, .iload_n 3, 0, 0, 0), (78, 2, .bipush 6, 0, 0, 0)]),
  (100000, [(80, 1, .aload_n 0, 0, 0, 0), (81, 3, .getfield 166, 12, 77, 2), (84, 1, .iload_n 2, 0, 0, 0), (85, 1, .iaload, 0, 0, 0), (86, 1, .imul, 0, 0, 0), (87, 3, .if_icmp .le 9, 96, 0, 0), (90, 1, .iconst 1, 0, 0, 0), (91, 1, .iload_n 2, 0, 0, 0), (92, 1, .ishl, 0, 0, 0), (93, 3, .goto 4, 97, 0, 0), (96, 1, .iconst 0, 0, 0, 0), (97, 1, .ior, 0, 0, 0), (98, 1, .istore_n 1, 0, 0, 0), (99, 3, .iinc 2 1, 0, 0, 0), (102, 3, .goto (-72), 30, 0, 0), (105, 1, .aload_n 0, 0, 0, 0), (106, 1, .iload_n 1, 0, 0, 0), (107, 3, .invokevirtual 209, 178, 2, 12), (110, 1, .ireturn, 0, 0, 0)])]
theorem rwX12_blocks : rowsB (mB 262) (mO 262) (mX 262) (mIni 262) (mFr 262) (mLo 262) (mT 262) csX12_blocks = true := by decide +kernel
def bX12_blocks_97 (c30 : Int → Int → HH → Option (Int × HH)) (x2 : Int) (y0 : Int) (y1 : Int) (h : HH) : Option (Int × HH) :=
  gd (R32 (x2 + 1)) <|
    c30 (orI y1 y0) (x2 + 1) h
theorem uX12_blocks_97 {g : SG} (hg : GOK g) {σ0 : SG} {c30 : Int → Int → HH → Option (Int × HH)} (k30 : ∀ (x1 : Int) (x2 : Int) (h : HH) (b : (Int × HH)), c30 x1 x2 h = some b → WK 262 (.inl (some (aI b.1))) σ0 (abH 71 119 g b.2) 30 [(0, aR 71), (1, aI x1), (2, aI x2)] [] (abH 71 119 g h) 0 0) : ∀ {x2 : Int} {y0 : Int} {y1 : Int} {h : HH} {b : (Int × HH)}, bX12_blocks_97 c30 x2 y0 y1 h = some b → WK 262 (.inl (some (aI b.1))) σ0 (abH 71 119 g b.2) 97 [(0, aR 71), (2, aI x2)] [aI y0, aI y1] (abH 71 119 g h) 0 0 := by
  intro x2 y0 y1 h b q
  have e : bX12_blocks_97 c30 x2 y0 y1 h = segW 71 119 g.2.2.2.2 krWI clN csX12_blocks (cuC 30 (fun l st s => tkC 0 71 l <| tkI 1 l fun x1 => tkI 2 l fun x2 => skE st (c30 x1 x2 s)) cuN) 1000 97 [(0, aR 71), (2, aI x2)] [aI y0, aI y1] h := rfl
  rw [e] at q
  clear e
  refine segW_wk (by decide) (by decide) hg rwX12_blocks CLKW_N krWI_ok ?_ q
  clear q
  refine ct_C ?_ (ct_N)
  · intro l st h q
    obtain ⟨m0, q1⟩ := tkC_of q
    obtain ⟨x1, m1, q2⟩ := tkI_of q1
    obtain ⟨x2, m2, q3⟩ := tkI_of q2
    obtain ⟨rfl, q4⟩ := skE_of q3
    exact WK_less (k30 _ _ _ _ q4) (List.forall_mem_cons.mpr ⟨m0, (List.forall_mem_cons.mpr ⟨m1, (List.forall_mem_cons.mpr ⟨m2, (fun _ h => absurd h List.not_mem_nil)⟩)⟩)⟩)
def nX12_blocks_97 (c30 : Int → Int → HH → Option (Int × HH)) (x2 : Int) (y0 : Int) (y1 : Int) (h : HH) : Option (Int × HH) := bX12_blocks_97 c30 x2 y0 y1 h
theorem wX12_blocks_97 {g : SG} (hg : GOK g) {σ0 : SG} {c30 : Int → Int → HH → Option (Int × HH)} (k30 : ∀ (x1 : Int) (x2 : Int) (h : HH) (b : (Int × HH)), c30 x1 x2 h = some b → WK 262 (.inl (some (aI b.1))) σ0 (abH 71 119 g b.2) 30 [(0, aR 71), (1, aI x1), (2, aI x2)] [] (abH 71 119 g h) 0 0) : ∀ {x2 : Int} {y0 : Int} {y1 : Int} {h : HH} {b : (Int × HH)}, nX12_blocks_97 c30 x2 y0 y1 h = some b → WK 262 (.inl (some (aI b.1))) σ0 (abH 71 119 g b.2) 97 [(0, aR 71), (2, aI x2)] [aI y0, aI y1] (abH 71 119 g h) 0 0 := by
  intro x2 y0 y1 h b q
  exact uX12_blocks_97 hg k30 q
def bX12_blocks_68 (c41 : Int → Int → Int → Int → HH → Option (Int × HH)) (x1 : Int) (x2 : Int) (x4 : Int) (y0 : Int) (y1 : Int) (h : HH) : Option (Int × HH) :=
  gd (R32 (y1 + y0)) <|
    gd (R32 (x4 + 1)) <|
    c41 x1 x2 (y1 + y0) (x4 + 1) h
theorem uX12_blocks_68 {g : SG} (hg : GOK g) {σ0 : SG} {c41 : Int → Int → Int → Int → HH → Option (Int × HH)} (k41 : ∀ (x1 : Int) (x2 : Int) (x3 : Int) (x4 : Int) (h : HH) (b : (Int × HH)), c41 x1 x2 x3 x4 h = some b → WK 262 (.inl (some (aI b.1))) σ0 (abH 71 119 g b.2) 41 [(0, aR 71), (1, aI x1), (2, aI x2), (3, aI x3), (4, aI x4)] [] (abH 71 119 g h) 0 0) : ∀ {x1 : Int} {x2 : Int} {x4 : Int} {y0 : Int} {y1 : Int} {h : HH} {b : (Int × HH)}, bX12_blocks_68 c41 x1 x2 x4 y0 y1 h = some b → WK 262 (.inl (some (aI b.1))) σ0 (abH 71 119 g b.2) 68 [(0, aR 71), (1, aI x1), (2, aI x2), (4, aI x4)] [aI y0, aI y1] (abH 71 119 g h) 0 0 := by
  intro x1 x2 x4 y0 y1 h b q
  have e : bX12_blocks_68 c41 x1 x2 x4 y0 y1 h = segW 71 119 g.2.2.2.2 krWI clN csX12_blocks (cuC 41 (fun l st s => tkC 0 71 l <| tkI 1 l fun x1 => tkI 2 l fun x2 => tkI 3 l fun x3 => tkI 4 l fun x4 => skE st (c41 x1 x2 x3 x4 s)) cuN) 1000 68 [(0, aR 71), (1, aI x1), (2, aI x2), (4, aI x4)] [aI y0, aI y1] h := rfl
  rw [e] at q
  clear e
  refine segW_wk (by decide) (by decide) hg rwX12_blocks CLKW_N krWI_ok ?_ q
  clear q
  refine ct_C ?_ (ct_N)
  · intro l st h q
    obtain ⟨m0, q1⟩ := tkC_of q
    obtain ⟨x1, m1, q2⟩ := tkI_of q1
    obtain ⟨x2, m2, q3⟩ := tkI_of q2
    obtain ⟨x3, m3, q4⟩ := tkI_of q3
    obtain ⟨x4, m4, q5⟩ := tkI_of q4
    obtain ⟨rfl, q6⟩ := skE_of q5
    exact WK_less (k41 _ _ _ _ _ _ q6) (List.forall_mem_cons.mpr ⟨m0, (List.forall_mem_cons.mpr ⟨m1, (List.forall_mem_cons.mpr ⟨m2, (List.forall_mem_cons.mpr ⟨m3, (List.forall_mem_cons.mpr ⟨m4, (fun _ h => absurd h List.not_mem_nil)⟩)⟩)⟩)⟩)⟩)
def nX12_blocks_68 (c30 : Int → Int → HH → Option (Int × HH)) (c41 : Int → Int → Int → Int → HH → Option (Int × HH)) (x1 : Int) (x2 : Int) (x4 : Int) (y0 : Int) (y1 : Int) (h : HH) : Option (Int × HH) := bX12_blocks_68 c41 x1 x2 x4 y0 y1 h
theorem wX12_blocks_68 {g : SG} (hg : GOK g) {σ0 : SG} {c30 : Int → Int → HH → Option (Int × HH)} {c41 : Int → Int → Int → Int → HH → Option (Int × HH)} (k30 : ∀ (x1 : Int) (x2 : Int) (h : HH) (b : (Int × HH)), c30 x1 x2 h = some b → WK 262 (.inl (some (aI b.1))) σ0 (abH 71 119 g b.2) 30 [(0, aR 71), (1, aI x1), (2, aI x2)] [] (abH 71 119 g h) 0 0) (k41 : ∀ (x1 : Int) (x2 : Int) (x3 : Int) (x4 : Int) (h : HH) (b : (Int × HH)), c41 x1 x2 x3 x4 h = some b → WK 262 (.inl (some (aI b.1))) σ0 (abH 71 119 g b.2) 41 [(0, aR 71), (1, aI x1), (2, aI x2), (3, aI x3), (4, aI x4)] [] (abH 71 119 g h) 0 0) : ∀ {x1 : Int} {x2 : Int} {x4 : Int} {y0 : Int} {y1 : Int} {h : HH} {b : (Int × HH)}, nX12_blocks_68 c30 c41 x1 x2 x4 y0 y1 h = some b → WK 262 (.inl (some (aI b.1))) σ0 (abH 71 119 g b.2) 68 [(0, aR 71), (1, aI x1), (2, aI x2), (4, aI x4)] [aI y0, aI y1] (abH 71 119 g h) 0 0 := by
  intro x1 x2 x4 y0 y1 h b q
  exact uX12_blocks_68 hg k41 q
def bX12_blocks_41 (f260 : HH → Int → Option Int) (c68 : Int → Int → Int → Int → Int → HH → Option (Int × HH)) (c97 : Int → Int → Int → HH → Option (Int × HH)) (x1 : Int) (x2 : Int) (x3 : Int) (x4 : Int) (h : HH) : Option (Int × HH) :=
  if x4 < (3 : Int) then
    if (andI (shrI x2 x4) 1) = (1 : Int) then
    bnd (f260 h x4) fun r1 =>
    c68 x1 x2 x4 r1 x3 h
  else
    c68 x1 x2 x4 0 x3 h
  else
    gd ((0 : Int) ≤ x2 ∧ x2 < (8 : Int)) <|
    gd (R32 (6 * (h.1 118 x2))) <|
    if ((6 * (h.1 118 x2)) : Int) < x3 then
    c97 x2 (shlI 1 x2) x1 h
  else
    c97 x2 0 x1 h
set_option maxRecDepth 100000 in
theorem uX12_blocks_41 {g : SG} (hg : GOK g) {σ0 : SG} {c68 : Int → Int → Int → Int → Int → HH → Option (Int × HH)} {c97 : Int → Int → Int → HH → Option (Int × HH)} (k68 : ∀ (x1 : Int) (x2 : Int) (x4 : Int) (y0 : Int) (y1 : Int) (h : HH) (b : (Int × HH)), c68 x1 x2 x4 y0 y1 h = some b → WK 262 (.inl (some (aI b.1))) σ0 (abH 71 119 g b.2) 68 [(0, aR 71), (1, aI x1), (2, aI x2), (4, aI x4)] [aI y0, aI y1] (abH 71 119 g h) 0 0) (k97 : ∀ (x2 : Int) (y0 : Int) (y1 : Int) (h : HH) (b : (Int × HH)), c97 x2 y0 y1 h = some b → WK 262 (.inl (some (aI b.1))) σ0 (abH 71 119 g b.2) 97 [(0, aR 71), (2, aI x2)] [aI y0, aI y1] (abH 71 119 g h) 0 0) : ∀ {x1 : Int} {x2 : Int} {x3 : Int} {x4 : Int} {h : HH} {b : (Int × HH)}, bX12_blocks_41 nX12_shareOf c68 c97 x1 x2 x3 x4 h = some b → WK 262 (.inl (some (aI b.1))) σ0 (abH 71 119 g b.2) 41 [(0, aR 71), (1, aI x1), (2, aI x2), (3, aI x3), (4, aI x4)] [] (abH 71 119 g h) 0 0 := by
  intro x1 x2 x3 x4 h b q
  have e : ∀ (f260 : HH → Int → Option Int) , bX12_blocks_41 f260 c68 c97 x1 x2 x3 x4 h = segW 71 119 g.2.2.2.2 krWI (clC 260 (liPW (pX12_shareOf f260)) clN) csX12_blocks (cuC 68 (fun l st s => tkC 0 71 l <| tkI 1 l fun x1 => tkI 2 l fun x2 => tkI 4 l fun x4 => skI st fun y0 st => skI st fun y1 st => skE st (c68 x1 x2 x4 y0 y1 s)) (cuC 97 (fun l st s => tkC 0 71 l <| tkI 2 l fun x2 => skI st fun y0 st => skI st fun y1 st => skE st (c97 x2 y0 y1 s)) cuN)) 1000 41 [(0, aR 71), (1, aI x1), (2, aI x2), (3, aI x3), (4, aI x4)] [] h := fun _ => rfl
  rw [e nX12_shareOf] at q
  clear e
  refine segW_wk (by decide) (by decide) hg rwX12_blocks (CLKW_C (liPW_ok (pX12_shareOf_ok hg)) CLKW_N) krWI_ok ?_ q
  clear q
  refine ct_C ?_ (ct_C ?_ (ct_N))
  · intro l st h q
    obtain ⟨m0, q1⟩ := tkC_of q
    obtain ⟨x1, m1, q2⟩ := tkI_of q1
    obtain ⟨x2, m2, q3⟩ := tkI_of q2
    obtain ⟨x4, m4, q4⟩ := tkI_of q3
    obtain ⟨y0, t0, rfl, q5⟩ := skI_of q4
    obtain ⟨y1, t1, rfl, q6⟩ := skI_of q5
    obtain ⟨rfl, q7⟩ := skE_of q6
    exact WK_less (k68 _ _ _ _ _ _ _ q7) (List.forall_mem_cons.mpr ⟨m0, (List.forall_mem_cons.mpr ⟨m1, (List.forall_mem_cons.mpr ⟨m2, (List.forall_mem_cons.mpr ⟨m4, (fun _ h => absurd h List.not_mem_nil)⟩)⟩)⟩)⟩)
  · intro l st h q
    obtain ⟨m0, q1⟩ := tkC_of q
    obtain ⟨x2, m2, q2⟩ := tkI_of q1
    obtain ⟨y0, t0, rfl, q3⟩ := skI_of q2
    obtain ⟨y1, t1, rfl, q4⟩ := skI_of q3
    obtain ⟨rfl, q5⟩ := skE_of q4
    exact WK_less (k97 _ _ _ _ _ q5) (List.forall_mem_cons.mpr ⟨m0, (List.forall_mem_cons.mpr ⟨m2, (fun _ h => absurd h List.not_mem_nil)⟩)⟩)
def nX12_blocks_41 (c30 : Int → Int → HH → Option (Int × HH)) : Nat → Int → Int → Int → Int → HH → Option (Int × HH) := iter (fun _ _ _ _ _ => none) (fun self => bX12_blocks_41 nX12_shareOf (nX12_blocks_68 c30 self) (nX12_blocks_97 c30))
theorem nX12_blocks_41_s {c30 : Int → Int → HH → Option (Int × HH)} {F : Nat} : nX12_blocks_41 c30 (F + 1) = bX12_blocks_41 nX12_shareOf (nX12_blocks_68 c30 (nX12_blocks_41 c30 F)) (nX12_blocks_97 c30) := rfl
theorem wX12_blocks_41 {g : SG} (hg : GOK g) {σ0 : SG} {c30 : Int → Int → HH → Option (Int × HH)} (k30 : ∀ (x1 : Int) (x2 : Int) (h : HH) (b : (Int × HH)), c30 x1 x2 h = some b → WK 262 (.inl (some (aI b.1))) σ0 (abH 71 119 g b.2) 30 [(0, aR 71), (1, aI x1), (2, aI x2)] [] (abH 71 119 g h) 0 0) : ∀ {F : Nat}, ∀ {x1 : Int} {x2 : Int} {x3 : Int} {x4 : Int} {h : HH} {b : (Int × HH)}, nX12_blocks_41 c30 F x1 x2 x3 x4 h = some b → WK 262 (.inl (some (aI b.1))) σ0 (abH 71 119 g b.2) 41 [(0, aR 71), (1, aI x1), (2, aI x2), (3, aI x3), (4, aI x4)] [] (abH 71 119 g h) 0 0 := by
  intro F
  have z : ∀ (x1 : Int) (x2 : Int) (x3 : Int) (x4 : Int) (h : HH) (b : (Int × HH)), nX12_blocks_41 c30 F x1 x2 x3 x4 h = some b → WK 262 (.inl (some (aI b.1))) σ0 (abH 71 119 g b.2) 41 [(0, aR 71), (1, aI x1), (2, aI x2), (3, aI x3), (4, aI x4)] [] (abH 71 119 g h) 0 0 := iter_ind (P := fun (c : Int → Int → Int → Int → HH → Option (Int × HH)) => ∀ (x1 : Int) (x2 : Int) (x3 : Int) (x4 : Int) (h : HH) (b : (Int × HH)), c x1 x2 x3 x4 h = some b → WK 262 (.inl (some (aI b.1))) σ0 (abH 71 119 g b.2) 41 [(0, aR 71), (1, aI x1), (2, aI x2), (3, aI x3), (4, aI x4)] [] (abH 71 119 g h) 0 0) (by
    intro x1 x2 x3 x4 h b q
    cases q) (fun self ih => by
    intro x1 x2 x3 x4 h b q
    exact uX12_blocks_41 hg (fun _ _ _ _ _ _ _ q => wX12_blocks_68 hg k30 ih q) (fun _ _ _ _ _ q => wX12_blocks_97 hg k30 q) q) F
  intro x1 x2 x3 x4 h b q
  exact z _ _ _ _ _ _ q
def bX12_blocks_30 (f178 : Int → HH → Option (Int × HH)) (c41 : Int → Int → Int → Int → HH → Option (Int × HH)) (x1 : Int) (x2 : Int) (h : HH) : Option (Int × HH) :=
  if x2 < (8 : Int) then
    c41 x1 x2 0 0 h
  else
    bnd (f178 x1 h) fun r1 =>
    some (r1.1, r1.2)
theorem uX12_blocks_30 {g : SG} (hg : GOK g) {σ0 : SG} {c41 : Int → Int → Int → Int → HH → Option (Int × HH)} (k41 : ∀ (x1 : Int) (x2 : Int) (x3 : Int) (x4 : Int) (h : HH) (b : (Int × HH)), c41 x1 x2 x3 x4 h = some b → WK 262 (.inl (some (aI b.1))) σ0 (abH 71 119 g b.2) 41 [(0, aR 71), (1, aI x1), (2, aI x2), (3, aI x3), (4, aI x4)] [] (abH 71 119 g h) 0 0) : ∀ {x1 : Int} {x2 : Int} {h : HH} {b : (Int × HH)}, bX12_blocks_30 nX12_told c41 x1 x2 h = some b → WK 262 (.inl (some (aI b.1))) σ0 (abH 71 119 g b.2) 30 [(0, aR 71), (1, aI x1), (2, aI x2)] [] (abH 71 119 g h) 0 0 := by
  intro x1 x2 h b q
  have e : ∀ (f178 : Int → HH → Option (Int × HH)) , bX12_blocks_30 f178 c41 x1 x2 h = segW 71 119 g.2.2.2.2 krWI (clC 178 (pX12_told f178) clN) csX12_blocks (cuC 41 (fun l st s => tkC 0 71 l <| tkI 1 l fun x1 => tkI 2 l fun x2 => tkI 3 l fun x3 => tkI 4 l fun x4 => skE st (c41 x1 x2 x3 x4 s)) cuN) 1000 30 [(0, aR 71), (1, aI x1), (2, aI x2)] [] h := fun _ => rfl
  rw [e nX12_told] at q
  clear e
  refine segW_wk (by decide) (by decide) hg rwX12_blocks (CLKW_C (pX12_told_ok hg) CLKW_N) krWI_ok ?_ q
  clear q
  refine ct_C ?_ (ct_N)
  · intro l st h q
    obtain ⟨m0, q1⟩ := tkC_of q
    obtain ⟨x1, m1, q2⟩ := tkI_of q1
    obtain ⟨x2, m2, q3⟩ := tkI_of q2
    obtain ⟨x3, m3, q4⟩ := tkI_of q3
    obtain ⟨x4, m4, q5⟩ := tkI_of q4
    obtain ⟨rfl, q6⟩ := skE_of q5
    exact WK_less (k41 _ _ _ _ _ _ q6) (List.forall_mem_cons.mpr ⟨m0, (List.forall_mem_cons.mpr ⟨m1, (List.forall_mem_cons.mpr ⟨m2, (List.forall_mem_cons.mpr ⟨m3, (List.forall_mem_cons.mpr ⟨m4, (fun _ h => absurd h List.not_mem_nil)⟩)⟩)⟩)⟩)⟩)
def nX12_blocks_30 : Nat → Int → Int → HH → Option (Int × HH) := iter (fun _ _ _ => none) (fun self => bX12_blocks_30 nX12_told (nX12_blocks_41 self 100000))
theorem nX12_blocks_30_s {F : Nat} : nX12_blocks_30 (F + 1) = bX12_blocks_30 nX12_told (nX12_blocks_41 (nX12_blocks_30 F) 100000) := rfl
theorem wX12_blocks_30 {g : SG} (hg : GOK g) {σ0 : SG} : ∀ {F : Nat}, ∀ {x1 : Int} {x2 : Int} {h : HH} {b : (Int × HH)}, nX12_blocks_30 F x1 x2 h = some b → WK 262 (.inl (some (aI b.1))) σ0 (abH 71 119 g b.2) 30 [(0, aR 71), (1, aI x1), (2, aI x2)] [] (abH 71 119 g h) 0 0 := by
  intro F
  have z : ∀ (x1 : Int) (x2 : Int) (h : HH) (b : (Int × HH)), nX12_blocks_30 F x1 x2 h = some b → WK 262 (.inl (some (aI b.1))) σ0 (abH 71 119 g b.2) 30 [(0, aR 71), (1, aI x1), (2, aI x2)] [] (abH 71 119 g h) 0 0 := iter_ind (P := fun (c : Int → Int → HH → Option (Int × HH)) => ∀ (x1 : Int) (x2 : Int) (h : HH) (b : (Int × HH)), c x1 x2 h = some b → WK 262 (.inl (some (aI b.1))) σ0 (abH 71 119 g b.2) 30 [(0, aR 71), (1, aI x1), (2, aI x2)] [] (abH 71 119 g h) 0 0) (by
    intro x1 x2 h b q
    cases q) (fun self ih => by
    intro x1 x2 h b q
    exact uX12_blocks_30 hg (fun _ _ _ _ _ _ q => wX12_blocks_41 hg ih q) q) F
  intro x1 x2 h b q
  exact z _ _ _ _ q
def bX12_blocks (f259 : HH → Option (Int × HH)) (f177 : Int → HH → Option (Int × HH)) (c30 : Int → Int → HH → Option (Int × HH)) (h : HH) : Option (Int × HH) :=
  if (h.1 71 27) = (0 : Int) then
    bnd (f177 1 h) fun r3 =>
    some (r3.1, r3.2)
  else
    bnd (f259 h) fun r1 =>
    if r1.1 = (0 : Int) then
    bnd (f177 2 r1.2) fun r2 =>
    some (r2.1, r2.2)
  else
    c30 0 1 r1.2
theorem uX12_blocks {g : SG} (hg : GOK g) {σ0 : SG} {c30 : Int → Int → HH → Option (Int × HH)} (k30 : ∀ (x1 : Int) (x2 : Int) (h : HH) (b : (Int × HH)), c30 x1 x2 h = some b → WK 262 (.inl (some (aI b.1))) σ0 (abH 71 119 g b.2) 30 [(0, aR 71), (1, aI x1), (2, aI x2)] [] (abH 71 119 g h) 0 0) : ∀ {h : HH} {b : (Int × HH)}, bX12_blocks nX12_reckons nX12_refuse c30 h = some b → WK 262 (.inl (some (aI b.1))) σ0 (abH 71 119 g b.2) 0 [(0, aR 71)] [] (abH 71 119 g h) 0 0 := by
  intro h b q
  have e : ∀ (f259 : HH → Option (Int × HH)) (f177 : Int → HH → Option (Int × HH)) , bX12_blocks f259 f177 c30 h = segW 71 119 g.2.2.2.2 krWI (clC 259 (pX12_reckons f259) (clC 177 (pX12_refuse f177) clN)) csX12_blocks (cuC 30 (fun l st s => tkC 0 71 l <| tkI 1 l fun x1 => tkI 2 l fun x2 => skE st (c30 x1 x2 s)) cuN) 1000 0 [(0, aR 71)] [] h := fun _ _ => rfl
  rw [e nX12_reckons nX12_refuse] at q
  clear e
  refine segW_wk (by decide) (by decide) hg rwX12_blocks (CLKW_C (pX12_reckons_ok hg) (CLKW_C (pX12_refuse_ok hg) CLKW_N)) krWI_ok ?_ q
  clear q
  refine ct_C ?_ (ct_N)
  · intro l st h q
    obtain ⟨m0, q1⟩ := tkC_of q
    obtain ⟨x1, m1, q2⟩ := tkI_of q1
    obtain ⟨x2, m2, q3⟩ := tkI_of q2
    obtain ⟨rfl, q4⟩ := skE_of q3
    exact WK_less (k30 _ _ _ _ q4) (List.forall_mem_cons.mpr ⟨m0, (List.forall_mem_cons.mpr ⟨m1, (List.forall_mem_cons.mpr ⟨m2, (fun _ h => absurd h List.not_mem_nil)⟩)⟩)⟩)
def nX12_blocks (h : HH) : Option (Int × HH) := bX12_blocks nX12_reckons nX12_refuse (nX12_blocks_30 100000) h
theorem wX12_blocks {g : SG} (hg : GOK g) {σ0 : SG} : ∀ {h : HH} {b : (Int × HH)}, nX12_blocks h = some b → WK 262 (.inl (some (aI b.1))) σ0 (abH 71 119 g b.2) 0 [(0, aR 71)] [] (abH 71 119 g h) 0 0 := by
  intro h b q
  exact uX12_blocks hg (fun _ _ _ _ q => wX12_blocks_30 hg q) q
theorem mX12_blocks {g : SG} (hg : GOK g) {h : HH} {b : (Int × HH)} (q : nX12_blocks h = some b) : MCT 262 [] [aR 71] (abH 71 119 g h) (.inl (some (aI b.1))) (abH 71 119 g b.2) :=
  mct_of (by decide) (MFok 262 (by decide +kernel)) (fun _ => Nat.le_of_ble_eq_true rfl) (wX12_blocks hg q)
def pX12_blocks {β : Type} (z : HH → Option (Int × HH)) : PW β := fun as h f => skC 71 as fun as => skE as (bnd (z h) fun r => f (.inl (some (aI r.1))) r.2)
theorem pX12_blocks_ok {β : Type} {g : SG} (hg : GOK g) : CW1 (β := β) 262 (pX12_blocks nX12_blocks) 71 119 g := fun as h f b q => by
  obtain ⟨as, rfl, q1⟩ := skC_of q
  obtain ⟨rfl, q0⟩ := skE_of q1
  obtain ⟨r, z1, z2⟩ := bnd_of q0
  exact ⟨_, _, z2, by decide, mX12_blocks hg z1, rfl, rfl, fun z => absurd z (by decide)⟩
def csX12_rates : List (Nat × List (Nat × ARow)) := [(44, [(0, 1, .iload_n 1, 0, 0, 0), (1, 1, .iconst 0, 0, 0, 0), (2, 3, .sipush 9999, 0, 0, 0), (5, 3, .invokestatic 178, 171, 3, 0), (8, 3, .ifCond .eq 14, 22, 0, 0), (11, 1, .iload_n 2, 0, 0, 0), (12, 1, .iconst 0, 0, 0, 0), (13, 3, .sipush 9999, 0, 0, 0), (16, 3, .invokestatic 178, 171, 3, 0), (19, 3, .ifCond .ne 9, 28, 0, 0), (22, 1, .aload_n 0, 0, 0, 0), (23, 1, .iconst 1, 0, 0, 0), (24, 3, .invokevirtual 200, 177, 2, 12), (27, 1, .ireturn, 0, 0, 0), (28, 1, .aload_n 0, 0, 0, 0), (29, 3, .getfield 114, 12, 41, 0), (32, 1, .istore_n 3, 0, 0, 0), (33, 1, .aload_n 0, 0, 0, 0), (34, 1, .iload_n 1, 0, 0, 0), (35, 3, .putfield 114, 12, 41, 0), (38, 1, .aload_n 0, 0, 0, 0), (39, 1, .iload_n 2, 0, 0, 0), (40, 3, .putfield 117, 12, 42, 0), (43, 1, .aload_n 0, 0, 0, 0)]),
  (100000, [(44, 1, .iload_n 3, 0, 0, 0), (45, 3, .invokevirtual 209, 178, 2, 12), (48, 1, .ireturn, 0, 0, 0)])]
theorem rwX12_rates : rowsB (mB 263) (mO 263) (mX 263) (mIni 263) (mFr 263) (mLo 263) (mT 263) csX12_rates = true := by decide +kernel
def bX12_rates_22 (f177 : Int → HH → Option (Int × HH)) (h : HH) : Option (Int × HH) :=
  bnd (f177 1 h) fun r1 =>
    some (r1.1, r1.2)
theorem uX12_rates_22 {g : SG} (hg : GOK g) {σ0 : SG} : ∀ {h : HH} {b : (Int × HH)}, bX12_rates_22 nX12_refuse h = some b → WK 263 (.inl (some (aI b.1))) σ0 (abH 71 119 g b.2) 22 [(0, aR 71)] [] (abH 71 119 g h) 0 0 := by
  intro h b q
  have e : ∀ (f177 : Int → HH → Option (Int × HH)) , bX12_rates_22 f177 h = segW 71 119 g.2.2.2.2 krWI (clC 177 (pX12_refuse f177) clN) csX12_rates cuN 1000 22 [(0, aR 71)] [] h := fun _ => rfl
  rw [e nX12_refuse] at q
  clear e
  refine segW_wk (by decide) (by decide) hg rwX12_rates (CLKW_C (pX12_refuse_ok hg) CLKW_N) krWI_ok ?_ q
  clear q
  exact ct_N
def nX12_rates_22 (h : HH) : Option (Int × HH) := bX12_rates_22 nX12_refuse h
theorem wX12_rates_22 {g : SG} (hg : GOK g) {σ0 : SG} : ∀ {h : HH} {b : (Int × HH)}, nX12_rates_22 h = some b → WK 263 (.inl (some (aI b.1))) σ0 (abH 71 119 g b.2) 22 [(0, aR 71)] [] (abH 71 119 g h) 0 0 := by
  intro h b q
  exact uX12_rates_22 hg q
def bX12_rates (f171 : HH → Int → Int → Int → Option Int) (f178 : Int → HH → Option (Int × HH)) (c22 : HH → Option (Int × HH)) (x1 : Int) (x2 : Int) (h : HH) : Option (Int × HH) :=
  bnd (f171 h x1 0 9999) fun r1 =>
    if r1 = (0 : Int) then
    c22 h
  else
    bnd (f171 h x2 0 9999) fun r2 =>
    if r2 = (0 : Int) then
    c22 h
  else
    bnd (some (hI h 71 41 x1)) fun h3 =>
    bnd (some (hI h3 71 42 x2)) fun h4 =>
    bnd (f178 (h.1 71 41) h4) fun r5 =>
    some (r5.1, r5.2)
theorem uX12_rates {g : SG} (hg : GOK g) {σ0 : SG} {c22 : HH → Option (Int × HH)} (k22 : ∀ (h : HH) (b : (Int × HH)), c22 h = some b → WK 263 (.inl (some (aI b.1))) σ0 (abH 71 119 g b.2) 22 [(0, aR 71)] [] (abH 71 119 g h) 0 0) : ∀ {x1 : Int} {x2 : Int} {h : HH} {b : (Int × HH)}, bX12_rates nX12_in nX12_told c22 x1 x2 h = some b → WK 263 (.inl (some (aI b.1))) σ0 (abH 71 119 g b.2) 0 [(0, aR 71), (1, aI x1), (2, aI x2)] [] (abH 71 119 g h) 0 0 := by
  intro x1 x2 h b q
  have e : ∀ (f171 : HH → Int → Int → Int → Option Int) (f178 : Int → HH → Option (Int × HH)) , bX12_rates f171 f178 c22 x1 x2 h = segW 71 119 g.2.2.2.2 krWI (clC 171 (liPW (pX12_in f171)) (clC 178 (pX12_told f178) clN)) csX12_rates (cuC 22 (fun l st s => tkC 0 71 l <| skE st (c22 s)) cuN) 1000 0 [(0, aR 71), (1, aI x1), (2, aI x2)] [] h := fun _ _ => rfl
  rw [e nX12_in nX12_told] at q
  clear e
  refine segW_wk (by decide) (by decide) hg rwX12_rates (CLKW_C (liPW_ok (pX12_in_ok hg)) (CLKW_C (pX12_told_ok hg) CLKW_N)) krWI_ok ?_ q
  clear q
  refine ct_C ?_ (ct_N)
  · intro l st h q
    obtain ⟨m0, q1⟩ := tkC_of q
    obtain ⟨rfl, q2⟩ := skE_of q1
    exact WK_less (k22 _ _ q2) (List.forall_mem_cons.mpr ⟨m0, (fun _ h => absurd h List.not_mem_nil)⟩)
def nX12_rates (x1 : Int) (x2 : Int) (h : HH) : Option (Int × HH) := bX12_rates nX12_in nX12_told nX12_rates_22 x1 x2 h
theorem wX12_rates {g : SG} (hg : GOK g) {σ0 : SG} : ∀ {x1 : Int} {x2 : Int} {h : HH} {b : (Int × HH)}, nX12_rates x1 x2 h = some b → WK 263 (.inl (some (aI b.1))) σ0 (abH 71 119 g b.2) 0 [(0, aR 71), (1, aI x1), (2, aI x2)] [] (abH 71 119 g h) 0 0 := by
  intro x1 x2 h b q
  exact uX12_rates hg (fun _ _ q => wX12_rates_22 hg q) q
theorem mX12_rates {g : SG} (hg : GOK g) {h : HH} {x1 : Int} {x2 : Int} {b : (Int × HH)} (q : nX12_rates x1 x2 h = some b) : MCT 263 [] [aR 71, aI x1, aI x2] (abH 71 119 g h) (.inl (some (aI b.1))) (abH 71 119 g b.2) :=
  mct_of (by decide) (MFok 263 (by decide +kernel)) (fun _ => Nat.le_of_ble_eq_true rfl) (wX12_rates hg q)
def pX12_rates {β : Type} (z : Int → Int → HH → Option (Int × HH)) : PW β := fun as h f => skC 71 as fun as => skI as fun x1 as => skI as fun x2 as => skE as (bnd (z x1 x2 h) fun r => f (.inl (some (aI r.1))) r.2)
theorem pX12_rates_ok {β : Type} {g : SG} (hg : GOK g) : CW1 (β := β) 263 (pX12_rates nX12_rates) 71 119 g := fun as h f b q => by
  obtain ⟨as, rfl, q1⟩ := skC_of q
  obtain ⟨x1, as, rfl, q2⟩ := skI_of q1
  obtain ⟨x2, as, rfl, q3⟩ := skI_of q2
  obtain ⟨rfl, q0⟩ := skE_of q3
  obtain ⟨r, z1, z2⟩ := bnd_of q0
  exact ⟨_, _, z2, by decide, mX12_rates hg z1, rfl, rfl, fun z => absurd z (by decide)⟩
def csX12_pay : List (Nat × List (Nat × ARow)) := [(45, [(0, 1, .iload_n 1, 0, 0, 0), (1, 1, .iconst 0, 0, 0, 0), (2, 3, .ldc_w 429, 9000000, 0, 0), (5, 3, .invokestatic 178, 171, 3, 0), (8, 3, .ifCond .eq 14, 22, 0, 0), (11, 1, .iload_n 2, 0, 0, 0), (12, 1, .iconst 0, 0, 0, 0), (13, 3, .ldc_w 430, 99999, 0, 0), (16, 3, .invokestatic 178, 171, 3, 0), (19, 3, .ifCond .ne 10, 29, 0, 0), (22, 1, .aload_n 0, 0, 0, 0), (23, 1, .iconst 1, 0, 0, 0), (24, 3, .invokevirtual 200, 177, 2, 12), (27, 1, .i2l, 0, 0, 0), (28, 1, .lreturn, 0, 0, 0), (29, 1, .aload_n 0, 0, 0, 0), (30, 3, .getfield 431, 12, 44, 0), (33, 2, .bipush 50, 0, 0, 0), (35, 3, .if_icmp .ne 10, 45, 0, 0), (38, 1, .aload_n 0, 0, 0, 0), (39, 1, .iconst 2, 0, 0, 0), (40, 3, .invokevirtual 200, 177, 2, 12), (43, 1, .i2l, 0, 0, 0), (44, 1, .lreturn, 0, 0, 0)]),
  (81, [(45, 1, .aload_n 0, 0, 0, 0), (46, 3, .getfield 389, 12, 43, 0), (49, 1, .i2l, 0, 0, 0), (50, 1, .aload_n 0, 0, 0, 0), (51, 3, .getfield 114, 12, 41, 0), (54, 1, .i2l, 0, 0, 0), (55, 1, .lmul, 0, 0, 0), (56, 1, .iload_n 1, 0, 0, 0), (57, 1, .i2l, 0, 0, 0), (58, 1, .aload_n 0, 0, 0, 0), (59, 3, .getfield 117, 12, 42, 0), (62, 1, .i2l, 0, 0, 0), (63, 1, .lmul, 0, 0, 0), (64, 3, .ldc2_w 434, 500, 0, 0), (67, 1, .ladd, 0, 0, 0), (68, 3, .ldc2_w 436, 1000, 0, 0), (71, 1, .ldiv, 0, 0, 0), (72, 1, .ladd, 0, 0, 0), (73, 1, .iload_n 2, 0, 0, 0), (74, 1, .i2l, 0, 0, 0), (75, 1, .ladd, 0, 0, 0), (76, 1, .lstore_n 3, 0, 0, 0), (77, 1, .aload_n 0, 0, 0, 0), (78, 3, .getfield 120, 12, 45, 2)]),
  (100000, [(81, 1, .aload_n 0, 0, 0, 0), (82, 3, .getfield 431, 12, 44, 0), (85, 1, .lload_n 3, 0, 0, 0), (86, 1, .lastore, 0, 0, 0), (87, 1, .aload_n 0, 0, 0, 0), (88, 1, .dup, 0, 0, 0), (89, 3, .getfield 431, 12, 44, 0), (92, 1, .iconst 1, 0, 0, 0), (93, 1, .iadd, 0, 0, 0), (94, 3, .putfield 431, 12, 44, 0), (97, 1, .aload_n 0, 0, 0, 0), (98, 1, .iconst 0, 0, 0, 0), (99, 3, .putfield 389, 12, 43, 0), (102, 1, .aload_n 0, 0, 0, 0), (103, 1, .iconst 0, 0, 0, 0), (104, 3, .putfield 175, 12, 10, 0), (107, 1, .lload_n 3, 0, 0, 0), (108, 1, .lreturn, 0, 0, 0)])]
theorem rwX12_pay : rowsB (mB 264) (mO 264) (mX 264) (mIni 264) (mFr 264) (mLo 264) (mT 264) csX12_pay = true := by decide +kernel
def bX12_pay_22 (f177 : Int → HH → Option (Int × HH)) (h : HH) : Option (Int × HH) :=
  bnd (f177 1 h) fun r1 =>
    some (r1.1, r1.2)
theorem uX12_pay_22 {g : SG} (hg : GOK g) {σ0 : SG} : ∀ {h : HH} {b : (Int × HH)}, bX12_pay_22 nX12_refuse h = some b → WK 264 (.inl (some (aJ b.1))) σ0 (abH 71 119 g b.2) 22 [(0, aR 71)] [] (abH 71 119 g h) 0 0 := by
  intro h b q
  have e : ∀ (f177 : Int → HH → Option (Int × HH)) , bX12_pay_22 f177 h = segW 71 119 g.2.2.2.2 krWJ (clC 177 (pX12_refuse f177) clN) csX12_pay cuN 1000 22 [(0, aR 71)] [] h := fun _ => rfl
  rw [e nX12_refuse] at q
  clear e
  refine segW_wk (by decide) (by decide) hg rwX12_pay (CLKW_C (pX12_refuse_ok hg) CLKW_N) krWJ_ok ?_ q
  clear q
  exact ct_N
def nX12_pay_22 (h : HH) : Option (Int × HH) := bX12_pay_22 nX12_refuse h
theorem wX12_pay_22 {g : SG} (hg : GOK g) {σ0 : SG} : ∀ {h : HH} {b : (Int × HH)}, nX12_pay_22 h = some b → WK 264 (.inl (some (aJ b.1))) σ0 (abH 71 119 g b.2) 22 [(0, aR 71)] [] (abH 71 119 g h) 0 0 := by
  intro h b q
  exact uX12_pay_22 hg q
def bX12_pay_77 (x3 : Int) (h : HH) : Option (Int × HH) :=
  gd ((0 : Int) ≤ (h.1 71 44) ∧ (h.1 71 44) < (50 : Int)) <|
    bnd (some (hJ h 103 (h.1 71 44) x3)) fun h1 =>
    gd (R32 ((h1.1 71 44) + 1)) <|
    bnd (some (hI h1 71 44 ((h1.1 71 44) + 1))) fun h2 =>
    bnd (some (hI h2 71 43 0)) fun h3 =>
    bnd (some (hI h3 71 10 0)) fun h4 =>
    some (x3, h4)
theorem uX12_pay_77 {g : SG} (hg : GOK g) {σ0 : SG} : ∀ {x3 : Int} {h : HH} {b : (Int × HH)}, bX12_pay_77 x3 h = some b → WK 264 (.inl (some (aJ b.1))) σ0 (abH 71 119 g b.2) 77 [(0, aR 71), (3, aJ x3)] [] (abH 71 119 g h) 0 0 := by
  intro x3 h b q
  have e : bX12_pay_77 x3 h = segW 71 119 g.2.2.2.2 krWJ clN csX12_pay cuN 1000 77 [(0, aR 71), (3, aJ x3)] [] h := rfl
  rw [e] at q
  clear e
  refine segW_wk (by decide) (by decide) hg rwX12_pay CLKW_N krWJ_ok ?_ q
  clear q
  exact ct_N
def nX12_pay_77 (x3 : Int) (h : HH) : Option (Int × HH) := bX12_pay_77 x3 h
theorem wX12_pay_77 {g : SG} (hg : GOK g) {σ0 : SG} : ∀ {x3 : Int} {h : HH} {b : (Int × HH)}, nX12_pay_77 x3 h = some b → WK 264 (.inl (some (aJ b.1))) σ0 (abH 71 119 g b.2) 77 [(0, aR 71), (3, aJ x3)] [] (abH 71 119 g h) 0 0 := by
  intro x3 h b q
  exact uX12_pay_77 hg q
def bX12_pay (f171 : HH → Int → Int → Int → Option Int) (f177 : Int → HH → Option (Int × HH)) (c22 : HH → Option (Int × HH)) (c77 : Int → HH → Option (Int × HH)) (x1 : Int) (x2 : Int) (h : HH) : Option (Int × HH) :=
  bnd (f171 h x1 0 9000000) fun r1 =>
    if r1 = (0 : Int) then
    c22 h
  else
    bnd (f171 h x2 0 99999) fun r2 =>
    if r2 = (0 : Int) then
    c22 h
  else
    if (h.1 71 44) = (50 : Int) then
    bnd (f177 2 h) fun r3 =>
    some (r3.1, r3.2)
  else
    gd (R64 ((h.1 71 43) * (h.1 71 41))) <|
    gd (R64 (x1 * (h.1 71 42))) <|
    gd (R64 ((x1 * (h.1 71 42)) + 500)) <|
    gd ((0 : Int) ≤ ((x1 * (h.1 71 42)) + 500) ∧ (0 : Int) < 1000) <|
    gd (R64 (((h.1 71 43) * (h.1 71 41)) + (((x1 * (h.1 71 42)) + 500) / 1000))) <|
    gd (R64 ((((h.1 71 43) * (h.1 71 41)) + (((x1 * (h.1 71 42)) + 500) / 1000)) + x2)) <|
    c77 ((((h.1 71 43) * (h.1 71 41)) + (((x1 * (h.1 71 42)) + 500) / 1000)) + x2) h
set_option maxRecDepth 100000 in
theorem uX12_pay {g : SG} (hg : GOK g) {σ0 : SG} {c22 : HH → Option (Int × HH)} {c77 : Int → HH → Option (Int × HH)} (k22 : ∀ (h : HH) (b : (Int × HH)), c22 h = some b → WK 264 (.inl (some (aJ b.1))) σ0 (abH 71 119 g b.2) 22 [(0, aR 71)] [] (abH 71 119 g h) 0 0) (k77 : ∀ (x3 : Int) (h : HH) (b : (Int × HH)), c77 x3 h = some b → WK 264 (.inl (some (aJ b.1))) σ0 (abH 71 119 g b.2) 77 [(0, aR 71), (3, aJ x3)] [] (abH 71 119 g h) 0 0) : ∀ {x1 : Int} {x2 : Int} {h : HH} {b : (Int × HH)}, bX12_pay nX12_in nX12_refuse c22 c77 x1 x2 h = some b → WK 264 (.inl (some (aJ b.1))) σ0 (abH 71 119 g b.2) 0 [(0, aR 71), (1, aI x1), (2, aI x2)] [] (abH 71 119 g h) 0 0 := by
  intro x1 x2 h b q
  have e : ∀ (f171 : HH → Int → Int → Int → Option Int) (f177 : Int → HH → Option (Int × HH)) , bX12_pay f171 f177 c22 c77 x1 x2 h = segW 71 119 g.2.2.2.2 krWJ (clC 171 (liPW (pX12_in f171)) (clC 177 (pX12_refuse f177) clN)) csX12_pay (cuC 22 (fun l st s => tkC 0 71 l <| skE st (c22 s)) (cuC 77 (fun l st s => tkC 0 71 l <| tkJ 3 l fun x3 => skE st (c77 x3 s)) cuN)) 1000 0 [(0, aR 71), (1, aI x1), (2, aI x2)] [] h := fun _ _ => rfl
  rw [e nX12_in nX12_refuse] at q
  clear e
  refine segW_wk (by decide) (by decide) hg rwX12_pay (CLKW_C (liPW_ok (pX12_in_ok hg)) (CLKW_C (pX12_refuse_ok hg) CLKW_N)) krWJ_ok ?_ q
  clear q
  refine ct_C ?_ (ct_C ?_ (ct_N))
  · intro l st h q
    obtain ⟨m0, q1⟩ := tkC_of q
    obtain ⟨rfl, q2⟩ := skE_of q1
    exact WK_less (k22 _ _ q2) (List.forall_mem_cons.mpr ⟨m0, (fun _ h => absurd h List.not_mem_nil)⟩)
  · intro l st h q
    obtain ⟨m0, q1⟩ := tkC_of q
    obtain ⟨x3, m3, q2⟩ := tkJ_of q1
    obtain ⟨rfl, q3⟩ := skE_of q2
    exact WK_less (k77 _ _ _ q3) (List.forall_mem_cons.mpr ⟨m0, (List.forall_mem_cons.mpr ⟨m3, (fun _ h => absurd h List.not_mem_nil)⟩)⟩)
def nX12_pay (x1 : Int) (x2 : Int) (h : HH) : Option (Int × HH) := bX12_pay nX12_in nX12_refuse nX12_pay_22 nX12_pay_77 x1 x2 h
theorem wX12_pay {g : SG} (hg : GOK g) {σ0 : SG} : ∀ {x1 : Int} {x2 : Int} {h : HH} {b : (Int × HH)}, nX12_pay x1 x2 h = some b → WK 264 (.inl (some (aJ b.1))) σ0 (abH 71 119 g b.2) 0 [(0, aR 71), (1, aI x1), (2, aI x2)] [] (abH 71 119 g h) 0 0 := by
  intro x1 x2 h b q
  exact uX12_pay hg (fun _ _ q => wX12_pay_22 hg q) (fun _ _ _ q => wX12_pay_77 hg q) q
theorem mX12_pay {g : SG} (hg : GOK g) {h : HH} {x1 : Int} {x2 : Int} {b : (Int × HH)} (q : nX12_pay x1 x2 h = some b) : MCT 264 [] [aR 71, aI x1, aI x2] (abH 71 119 g h) (.inl (some (aJ b.1))) (abH 71 119 g b.2) :=
  mct_of (by decide) (MFok 264 (by decide +kernel)) (fun _ => Nat.le_of_ble_eq_true rfl) (wX12_pay hg q)
def pX12_pay {β : Type} (z : Int → Int → HH → Option (Int × HH)) : PW β := fun as h f => skC 71 as fun as => skI as fun x1 as => skI as fun x2 as => skE as (bnd (z x1 x2 h) fun r => f (.inl (some (aJ r.1))) r.2)
theorem pX12_pay_ok {β : Type} {g : SG} (hg : GOK g) : CW1 (β := β) 264 (pX12_pay nX12_pay) 71 119 g := fun as h f b q => by
  obtain ⟨as, rfl, q1⟩ := skC_of q
  obtain ⟨x1, as, rfl, q2⟩ := skI_of q1
  obtain ⟨x2, as, rfl, q3⟩ := skI_of q2
  obtain ⟨rfl, q0⟩ := skE_of q3
  obtain ⟨r, z1, z2⟩ := bnd_of q0
  exact ⟨_, _, z2, by decide, mX12_pay hg z1, rfl, rfl, fun z => absurd z (by decide)⟩
def csX12_sumOfBooks : List (Nat × List (Nat × ARow)) := [(100000, [(0, 1, .lconst 0, 0, 0, 0), (1, 1, .lstore_n 1, 0, 0, 0), (2, 1, .iconst 0, 0, 0, 0), (3, 1, .istore_n 3, 0, 0, 0), (4, 1, .iload_n 3, 0, 0, 0), (5, 1, .aload_n 0, 0, 0, 0), (6, 3, .getfield 431, 12, 44, 0), (9, 3, .if_icmp .ge 18, 27, 0, 0), (12, 1, .lload_n 1, 0, 0, 0), (13, 1, .aload_n 0, 0, 0, 0), (14, 3, .getfield 120, 12, 45, 2), (17, 1, .iload_n 3, 0, 0, 0), (18, 1, .laload, 0, 0, 0), (19, 1, .ladd, 0, 0, 0), (20, 1, .lstore_n 1, 0, 0, 0), (21, 3, .iinc 3 1, 0, 0, 0), (24, 3, .goto (-20), 4, 0, 0), (27, 1, .lload_n 1, 0, 0, 0), (28, 1, .lreturn, 0, 0, 0)])]
theorem rwX12_sumOfBooks : rowsB (mB 265) (mO 265) (mX 265) (mIni 265) (mFr 265) (mLo 265) (mT 265) csX12_sumOfBooks = true := by decide +kernel
def bX12_sumOfBooks_4 (h : HH) (c4 : Int → Int → Option Int) (x1 : Int) (x3 : Int) : Option Int :=
  if x3 < ((h.1 71 44) : Int) then
    gd ((0 : Int) ≤ x3 ∧ x3 < (50 : Int)) <|
    gd (R64 (x1 + (h.2 103 x3))) <|
    gd (R32 (x3 + 1)) <|
    c4 (x1 + (h.2 103 x3)) (x3 + 1)
  else
    some x1
theorem uX12_sumOfBooks_4 {g : SG} (hg : GOK g) {σ0 : SG} {h : HH} {c4 : Int → Int → Option Int} (k4 : ∀ (x1 : Int) (x3 : Int) (b : Int), c4 x1 x3 = some b → WK 265 (.inl (some (aJ b))) σ0 (abH 71 119 g h) 4 [(0, aR 71), (1, aJ x1), (3, aI x3)] [] (abH 71 119 g h) 0 0) : ∀ {x1 : Int} {x3 : Int} {b : Int}, bX12_sumOfBooks_4 h c4 x1 x3 = some b → WK 265 (.inl (some (aJ b))) σ0 (abH 71 119 g h) 4 [(0, aR 71), (1, aJ x1), (3, aI x3)] [] (abH 71 119 g h) 0 0 := by
  intro x1 x3 b q
  have e : bX12_sumOfBooks_4 h c4 x1 x3 = segP 71 119 g.2.2.2.2 h krPJ clNP csX12_sumOfBooks (cuC 4 (fun l st s => tkC 0 71 l <| tkJ 1 l fun x1 => tkI 3 l fun x3 => skE st (c4 x1 x3)) cuN) 1000 4 [(0, aR 71), (1, aJ x1), (3, aI x3)] [] := rfl
  rw [e] at q
  clear e
  refine segP_wk (by decide) (by decide) hg rwX12_sumOfBooks CLKP_N krPJ_ok ?_ q
  clear q
  refine ct_C ?_ (ct_N)
  · intro l st _ q
    obtain ⟨m0, q1⟩ := tkC_of q
    obtain ⟨x1, m1, q2⟩ := tkJ_of q1
    obtain ⟨x3, m3, q3⟩ := tkI_of q2
    obtain ⟨rfl, q4⟩ := skE_of q3
    exact WK_less (k4 _ _ _ q4) (List.forall_mem_cons.mpr ⟨m0, (List.forall_mem_cons.mpr ⟨m1, (List.forall_mem_cons.mpr ⟨m3, (fun _ h => absurd h List.not_mem_nil)⟩)⟩)⟩)
def nX12_sumOfBooks_4 (h : HH) : Nat → Int → Int → Option Int := iter (fun _ _ => none) (fun self => bX12_sumOfBooks_4 h self)
theorem nX12_sumOfBooks_4_s {h : HH} {F : Nat} : nX12_sumOfBooks_4 h (F + 1) = bX12_sumOfBooks_4 h (nX12_sumOfBooks_4 h F) := rfl
theorem wX12_sumOfBooks_4 {g : SG} (hg : GOK g) {σ0 : SG} {h : HH} : ∀ {F : Nat}, ∀ {x1 : Int} {x3 : Int} {b : Int}, nX12_sumOfBooks_4 h F x1 x3 = some b → WK 265 (.inl (some (aJ b))) σ0 (abH 71 119 g h) 4 [(0, aR 71), (1, aJ x1), (3, aI x3)] [] (abH 71 119 g h) 0 0 := by
  intro F
  have z : ∀ (x1 : Int) (x3 : Int) (b : Int), nX12_sumOfBooks_4 h F x1 x3 = some b → WK 265 (.inl (some (aJ b))) σ0 (abH 71 119 g h) 4 [(0, aR 71), (1, aJ x1), (3, aI x3)] [] (abH 71 119 g h) 0 0 := iter_ind (P := fun (c : Int → Int → Option Int) => ∀ (x1 : Int) (x3 : Int) (b : Int), c x1 x3 = some b → WK 265 (.inl (some (aJ b))) σ0 (abH 71 119 g h) 4 [(0, aR 71), (1, aJ x1), (3, aI x3)] [] (abH 71 119 g h) 0 0) (by
    intro x1 x3 b q
    cases q) (fun self ih => by
    intro x1 x3 b q
    exact uX12_sumOfBooks_4 hg ih q) F
  intro x1 x3 b q
  exact z _ _ _ q
def bX12_sumOfBooks (h : HH) (c4 : Int → Int → Option Int) : Option Int :=
  c4 0 0
theorem uX12_sumOfBooks {g : SG} (hg : GOK g) {σ0 : SG} {h : HH} {c4 : Int → Int → Option Int} (k4 : ∀ (x1 : Int) (x3 : Int) (b : Int), c4 x1 x3 = some b → WK 265 (.inl (some (aJ b))) σ0 (abH 71 119 g h) 4 [(0, aR 71), (1, aJ x1), (3, aI x3)] [] (abH 71 119 g h) 0 0) : ∀ {b : Int}, bX12_sumOfBooks h c4 = some b → WK 265 (.inl (some (aJ b))) σ0 (abH 71 119 g h) 0 [(0, aR 71)] [] (abH 71 119 g h) 0 0 := by
  intro  b q
  have e : bX12_sumOfBooks h c4 = segP 71 119 g.2.2.2.2 h krPJ clNP csX12_sumOfBooks (cuC 4 (fun l st s => tkC 0 71 l <| tkJ 1 l fun x1 => tkI 3 l fun x3 => skE st (c4 x1 x3)) cuN) 1000 0 [(0, aR 71)] [] := rfl
  rw [e] at q
  clear e
  refine segP_wk (by decide) (by decide) hg rwX12_sumOfBooks CLKP_N krPJ_ok ?_ q
  clear q
  refine ct_C ?_ (ct_N)
  · intro l st _ q
    obtain ⟨m0, q1⟩ := tkC_of q
    obtain ⟨x1, m1, q2⟩ := tkJ_of q1
    obtain ⟨x3, m3, q3⟩ := tkI_of q2
    obtain ⟨rfl, q4⟩ := skE_of q3
    exact WK_less (k4 _ _ _ q4) (List.forall_mem_cons.mpr ⟨m0, (List.forall_mem_cons.mpr ⟨m1, (List.forall_mem_cons.mpr ⟨m3, (fun _ h => absurd h List.not_mem_nil)⟩)⟩)⟩)
def nX12_sumOfBooks (h : HH) : Option Int := bX12_sumOfBooks h (nX12_sumOfBooks_4 h 100000)
theorem wX12_sumOfBooks {g : SG} (hg : GOK g) {σ0 : SG} {h : HH} : ∀ {b : Int}, nX12_sumOfBooks h = some b → WK 265 (.inl (some (aJ b))) σ0 (abH 71 119 g h) 0 [(0, aR 71)] [] (abH 71 119 g h) 0 0 := by
  intro  b q
  exact uX12_sumOfBooks hg (fun _ _ _ q => wX12_sumOfBooks_4 hg q) q
theorem mX12_sumOfBooks {g : SG} (hg : GOK g) {h : HH} {b : Int} (q : nX12_sumOfBooks h = some b) : MCT 265 [] [aR 71] (abH 71 119 g h) (.inl (some (aJ b))) (abH 71 119 g h) :=
  mct_of (by decide) (MFok 265 (by decide +kernel)) (fun _ => Nat.le_of_ble_eq_true rfl) (wX12_sumOfBooks hg q)
def pX12_sumOfBooks {β : Type} (z : HH → Option Int) : PP β := fun h as f => skC 71 as fun as => skE as (bnd (z h) fun r => f (.inl (some (aJ r))))
theorem pX12_sumOfBooks_ok {β : Type} {g : SG} (hg : GOK g) : CP1 (β := β) 265 (pX12_sumOfBooks nX12_sumOfBooks) 71 119 g := fun h as f b q => by
  obtain ⟨as, rfl, q1⟩ := skC_of q
  obtain ⟨rfl, q0⟩ := skE_of q1
  obtain ⟨r, z1, z2⟩ := bnd_of q0
  exact ⟨_, z2, by decide, mX12_sumOfBooks hg z1, rfl, rfl, fun z => absurd z (by decide)⟩
def csX12_books : List (Nat × List (Nat × ARow)) := [(44, [(0, 1, .aload_n 0, 0, 0, 0), (1, 1, .iload_n 1, 0, 0, 0), (2, 1, .iconst (-1), 0, 0, 0), (3, 3, .if_icmp .eq 17, 20, 0, 0), (6, 1, .iload_n 1, 0, 0, 0), (7, 1, .iconst 0, 0, 0, 0), (8, 1, .aload_n 0, 0, 0, 0), (9, 3, .getfield 431, 12, 44, 0), (12, 1, .iconst 1, 0, 0, 0), (13, 1, .isub, 0, 0, 0), (14, 3, .invokestatic 178, 171, 3, 0), (17, 3, .ifCond .eq 7, 24, 0, 0), (20, 1, .iconst 0, 0, 0, 0), (21, 3, .goto 4, 25, 0, 0), (24, 1, .iconst 1, 0, 0, 0), (25, 3, .putfield 175, 12, 10, 0), (28, 1, .aload_n 0, 0, 0, 0), (29, 3, .getfield 175, 12, 10, 0), (32, 3, .ifCond .eq 7, 39, 0, 0), (35, 1, .lconst 0, 0, 0, 0), (36, 3, .goto 21, 57, 0, 0), (39, 1, .iload_n 1, 0, 0, 0), (40, 1, .iconst (-1), 0, 0, 0), (41, 3, .if_icmp .ne 10, 51, 0, 0)]),
  (100000, [(44, 1, .aload_n 0, 0, 0, 0), (45, 3, .invokevirtual 438, 265, 1, 12), (48, 3, .goto 9, 57, 0, 0), (51, 1, .aload_n 0, 0, 0, 0), (52, 3, .getfield 120, 12, 45, 2), (55, 1, .iload_n 1, 0, 0, 0), (56, 1, .laload, 0, 0, 0), (57, 1, .lreturn, 0, 0, 0)])]
theorem rwX12_books : rowsB (mB 266) (mO 266) (mX 266) (mIni 266) (mFr 266) (mLo 266) (mT 266) csX12_books = true := by decide +kernel
def bX12_books_25 (f265 : HH → Option Int) (x1 : Int) (y0 : Int) (h : HH) : Option (Int × HH) :=
  bnd (some (hI h 71 10 y0)) fun h1 =>
    if (h1.1 71 10) = (0 : Int) then
    if x1 = ((-1) : Int) then
    bnd (f265 h1) fun r2 =>
    some (r2, h1)
  else
    gd ((0 : Int) ≤ x1 ∧ x1 < (50 : Int)) <|
    some ((h1.2 103 x1), h1)
  else
    some (0, h1)
theorem uX12_books_25 {g : SG} (hg : GOK g) {σ0 : SG} : ∀ {x1 : Int} {y0 : Int} {h : HH} {b : (Int × HH)}, bX12_books_25 nX12_sumOfBooks x1 y0 h = some b → WK 266 (.inl (some (aJ b.1))) σ0 (abH 71 119 g b.2) 25 [(0, aR 71), (1, aI x1)] [aI y0, aR 71] (abH 71 119 g h) 0 0 := by
  intro x1 y0 h b q
  have e : ∀ (f265 : HH → Option Int) , bX12_books_25 f265 x1 y0 h = segW 71 119 g.2.2.2.2 krWJ (clC 265 (liPW (pX12_sumOfBooks f265)) clN) csX12_books cuN 1000 25 [(0, aR 71), (1, aI x1)] [aI y0, aR 71] h := fun _ => rfl
  rw [e nX12_sumOfBooks] at q
  clear e
  refine segW_wk (by decide) (by decide) hg rwX12_books (CLKW_C (liPW_ok (pX12_sumOfBooks_ok hg)) CLKW_N) krWJ_ok ?_ q
  clear q
  exact ct_N
def nX12_books_25 (x1 : Int) (y0 : Int) (h : HH) : Option (Int × HH) := bX12_books_25 nX12_sumOfBooks x1 y0 h
theorem wX12_books_25 {g : SG} (hg : GOK g) {σ0 : SG} : ∀ {x1 : Int} {y0 : Int} {h : HH} {b : (Int × HH)}, nX12_books_25 x1 y0 h = some b → WK 266 (.inl (some (aJ b.1))) σ0 (abH 71 119 g b.2) 25 [(0, aR 71), (1, aI x1)] [aI y0, aR 71] (abH 71 119 g h) 0 0 := by
  intro x1 y0 h b q
  exact uX12_books_25 hg q
def bX12_books_20 (c25 : Int → Int → HH → Option (Int × HH)) (x1 : Int) (h : HH) : Option (Int × HH) :=
  c25 x1 0 h
theorem uX12_books_20 {g : SG} (hg : GOK g) {σ0 : SG} {c25 : Int → Int → HH → Option (Int × HH)} (k25 : ∀ (x1 : Int) (y0 : Int) (h : HH) (b : (Int × HH)), c25 x1 y0 h = some b → WK 266 (.inl (some (aJ b.1))) σ0 (abH 71 119 g b.2) 25 [(0, aR 71), (1, aI x1)] [aI y0, aR 71] (abH 71 119 g h) 0 0) : ∀ {x1 : Int} {h : HH} {b : (Int × HH)}, bX12_books_20 c25 x1 h = some b → WK 266 (.inl (some (aJ b.1))) σ0 (abH 71 119 g b.2) 20 [(0, aR 71), (1, aI x1)] [aR 71] (abH 71 119 g h) 0 0 := by
  intro x1 h b q
  have e : bX12_books_20 c25 x1 h = segW 71 119 g.2.2.2.2 krWJ clN csX12_books (cuC 25 (fun l st s => tkC 0 71 l <| tkI 1 l fun x1 => skI st fun y0 st => skC 71 st fun st => skE st (c25 x1 y0 s)) cuN) 1000 20 [(0, aR 71), (1, aI x1)] [aR 71] h := rfl
  rw [e] at q
  clear e
  refine segW_wk (by decide) (by decide) hg rwX12_books CLKW_N krWJ_ok ?_ q
  clear q
  refine ct_C ?_ (ct_N)
  · intro l st h q
    obtain ⟨m0, q1⟩ := tkC_of q
    obtain ⟨x1, m1, q2⟩ := tkI_of q1
    obtain ⟨y0, t0, rfl, q3⟩ := skI_of q2
    obtain ⟨t1, rfl, q4⟩ := skC_of q3
    obtain ⟨rfl, q5⟩ := skE_of q4
    exact WK_less (k25 _ _ _ _ q5) (List.forall_mem_cons.mpr ⟨m0, (List.forall_mem_cons.mpr ⟨m1, (fun _ h => absurd h List.not_mem_nil)⟩)⟩)
def nX12_books_20 (x1 : Int) (h : HH) : Option (Int × HH) := bX12_books_20 nX12_books_25 x1 h
theorem wX12_books_20 {g : SG} (hg : GOK g) {σ0 : SG} : ∀ {x1 : Int} {h : HH} {b : (Int × HH)}, nX12_books_20 x1 h = some b → WK 266 (.inl (some (aJ b.1))) σ0 (abH 71 119 g b.2) 20 [(0, aR 71), (1, aI x1)] [aR 71] (abH 71 119 g h) 0 0 := by
  intro x1 h b q
  exact uX12_books_20 hg (fun _ _ _ _ q => wX12_books_25 hg q) q
def bX12_books (f171 : HH → Int → Int → Int → Option Int) (c20 : Int → HH → Option (Int × HH)) (c25 : Int → Int → HH → Option (Int × HH)) (x1 : Int) (h : HH) : Option (Int × HH) :=
  if x1 = ((-1) : Int) then
    c20 x1 h
  else
    gd (R32 ((h.1 71 44) - 1)) <|
    bnd (f171 h x1 0 ((h.1 71 44) - 1)) fun r1 =>
    if r1 = (0 : Int) then
    c25 x1 1 h
  else
    c20 x1 h
theorem uX12_books {g : SG} (hg : GOK g) {σ0 : SG} {c20 : Int → HH → Option (Int × HH)} {c25 : Int → Int → HH → Option (Int × HH)} (k20 : ∀ (x1 : Int) (h : HH) (b : (Int × HH)), c20 x1 h = some b → WK 266 (.inl (some (aJ b.1))) σ0 (abH 71 119 g b.2) 20 [(0, aR 71), (1, aI x1)] [aR 71] (abH 71 119 g h) 0 0) (k25 : ∀ (x1 : Int) (y0 : Int) (h : HH) (b : (Int × HH)), c25 x1 y0 h = some b → WK 266 (.inl (some (aJ b.1))) σ0 (abH 71 119 g b.2) 25 [(0, aR 71), (1, aI x1)] [aI y0, aR 71] (abH 71 119 g h) 0 0) : ∀ {x1 : Int} {h : HH} {b : (Int × HH)}, bX12_books nX12_in c20 c25 x1 h = some b → WK 266 (.inl (some (aJ b.1))) σ0 (abH 71 119 g b.2) 0 [(0, aR 71), (1, aI x1)] [] (abH 71 119 g h) 0 0 := by
  intro x1 h b q
  have e : ∀ (f171 : HH → Int → Int → Int → Option Int) , bX12_books f171 c20 c25 x1 h = segW 71 119 g.2.2.2.2 krWJ (clC 171 (liPW (pX12_in f171)) clN) csX12_books (cuC 20 (fun l st s => tkC 0 71 l <| tkI 1 l fun x1 => skC 71 st fun st => skE st (c20 x1 s)) (cuC 25 (fun l st s => tkC 0 71 l <| tkI 1 l fun x1 => skI st fun y0 st => skC 71 st fun st => skE st (c25 x1 y0 s)) cuN)) 1000 0 [(0, aR 71), (1, aI x1)] [] h := fun _ => rfl
  rw [e nX12_in] at q
  clear e
  refine segW_wk (by decide) (by decide) hg rwX12_books (CLKW_C (liPW_ok (pX12_in_ok hg)) CLKW_N) krWJ_ok ?_ q
  clear q
  refine ct_C ?_ (ct_C ?_ (ct_N))
  · intro l st h q
    obtain ⟨m0, q1⟩ := tkC_of q
    obtain ⟨x1, m1, q2⟩ := tkI_of q1
    obtain ⟨t0, rfl, q3⟩ := skC_of q2
    obtain ⟨rfl, q4⟩ := skE_of q3
    exact WK_less (k20 _ _ _ q4) (List.forall_mem_cons.mpr ⟨m0, (List.forall_mem_cons.mpr ⟨m1, (fun _ h => absurd h List.not_mem_nil)⟩)⟩)
  · intro l st h q
    obtain ⟨m0, q1⟩ := tkC_of q
    obtain ⟨x1, m1, q2⟩ := tkI_of q1
    obtain ⟨y0, t0, rfl, q3⟩ := skI_of q2
    obtain ⟨t1, rfl, q4⟩ := skC_of q3
    obtain ⟨rfl, q5⟩ := skE_of q4
    exact WK_less (k25 _ _ _ _ q5) (List.forall_mem_cons.mpr ⟨m0, (List.forall_mem_cons.mpr ⟨m1, (fun _ h => absurd h List.not_mem_nil)⟩)⟩)
def nX12_books (x1 : Int) (h : HH) : Option (Int × HH) := bX12_books nX12_in nX12_books_20 nX12_books_25 x1 h
theorem wX12_books {g : SG} (hg : GOK g) {σ0 : SG} : ∀ {x1 : Int} {h : HH} {b : (Int × HH)}, nX12_books x1 h = some b → WK 266 (.inl (some (aJ b.1))) σ0 (abH 71 119 g b.2) 0 [(0, aR 71), (1, aI x1)] [] (abH 71 119 g h) 0 0 := by
  intro x1 h b q
  exact uX12_books hg (fun _ _ _ q => wX12_books_20 hg q) (fun _ _ _ _ q => wX12_books_25 hg q) q
theorem mX12_books {g : SG} (hg : GOK g) {h : HH} {x1 : Int} {b : (Int × HH)} (q : nX12_books x1 h = some b) : MCT 266 [] [aR 71, aI x1] (abH 71 119 g h) (.inl (some (aJ b.1))) (abH 71 119 g b.2) :=
  mct_of (by decide) (MFok 266 (by decide +kernel)) (fun _ => Nat.le_of_ble_eq_true rfl) (wX12_books hg q)
def pX12_books {β : Type} (z : Int → HH → Option (Int × HH)) : PW β := fun as h f => skC 71 as fun as => skI as fun x1 as => skE as (bnd (z x1 h) fun r => f (.inl (some (aJ r.1))) r.2)
theorem pX12_books_ok {β : Type} {g : SG} (hg : GOK g) : CW1 (β := β) 266 (pX12_books nX12_books) 71 119 g := fun as h f b q => by
  obtain ⟨as, rfl, q1⟩ := skC_of q
  obtain ⟨x1, as, rfl, q2⟩ := skI_of q1
  obtain ⟨rfl, q0⟩ := skE_of q2
  obtain ⟨r, z1, z2⟩ := bnd_of q0
  exact ⟨_, _, z2, by decide, mX12_books hg z1, rfl, rfl, fun z => absurd z (by decide)⟩
def csX12_meanPay : List (Nat × List (Nat × ARow)) := [(100000, [(0, 1, .aload_n 0, 0, 0, 0), (1, 1, .iconst 0, 0, 0, 0), (2, 3, .putfield 175, 12, 10, 0), (5, 1, .aload_n 0, 0, 0, 0), (6, 3, .getfield 431, 12, 44, 0), (9, 3, .ifCond .ne 7, 16, 0, 0), (12, 1, .dconst 0, 0, 0, 0), (13, 3, .goto 14, 27, 0, 0), (16, 1, .aload_n 0, 0, 0, 0), (17, 3, .invokevirtual 438, 265, 1, 12), (20, 1, .l2d, 0, 0, 0), (21, 1, .aload_n 0, 0, 0, 0), (22, 3, .getfield 431, 12, 44, 0), (25, 1, .i2d, 0, 0, 0), (26, 1, .ddiv, 0, 0, 0), (27, 1, .dreturn, 0, 0, 0)])]
theorem rwX12_meanPay : rowsB (mB 267) (mO 267) (mX 267) (mIni 267) (mFr 267) (mLo 267) (mT 267) csX12_meanPay = true := by decide +kernel
def bX12_meanPay (f265 : HH → Option Int) (h : HH) : Option (UInt64 × HH) :=
  bnd (some (hI h 71 10 0)) fun h1 =>
    if (h1.1 71 44) = (0 : Int) then
    some ((0 : UInt64), h1)
  else
    bnd (f265 h1) fun r2 =>
    gd (n64 (FP.ddiv (FP.l2d (Int64.ofInt r2)) (FP.i2d (Int32.ofInt (h1.1 71 44))))) <|
    some ((FP.ddiv (FP.l2d (Int64.ofInt r2)) (FP.i2d (Int32.ofInt (h1.1 71 44)))), h1)
theorem uX12_meanPay {g : SG} (hg : GOK g) {σ0 : SG} : ∀ {h : HH} {b : (UInt64 × HH)}, bX12_meanPay nX12_sumOfBooks h = some b → WK 267 (.inl (some (aD b.1))) σ0 (abH 71 119 g b.2) 0 [(0, aR 71)] [] (abH 71 119 g h) 0 0 := by
  intro h b q
  have e : ∀ (f265 : HH → Option Int) , bX12_meanPay f265 h = segW 71 119 g.2.2.2.2 krWD (clC 265 (liPW (pX12_sumOfBooks f265)) clN) csX12_meanPay cuN 1000 0 [(0, aR 71)] [] h := fun _ => rfl
  rw [e nX12_sumOfBooks] at q
  clear e
  refine segW_wk (by decide) (by decide) hg rwX12_meanPay (CLKW_C (liPW_ok (pX12_sumOfBooks_ok hg)) CLKW_N) krWD_ok ?_ q
  clear q
  exact ct_N
def nX12_meanPay (h : HH) : Option (UInt64 × HH) := bX12_meanPay nX12_sumOfBooks h
theorem wX12_meanPay {g : SG} (hg : GOK g) {σ0 : SG} : ∀ {h : HH} {b : (UInt64 × HH)}, nX12_meanPay h = some b → WK 267 (.inl (some (aD b.1))) σ0 (abH 71 119 g b.2) 0 [(0, aR 71)] [] (abH 71 119 g h) 0 0 := by
  intro h b q
  exact uX12_meanPay hg q
theorem mX12_meanPay {g : SG} (hg : GOK g) {h : HH} {b : (UInt64 × HH)} (q : nX12_meanPay h = some b) : MCT 267 [] [aR 71] (abH 71 119 g h) (.inl (some (aD b.1))) (abH 71 119 g b.2) :=
  mct_of (by decide) (MFok 267 (by decide +kernel)) (fun _ => Nat.le_of_ble_eq_true rfl) (wX12_meanPay hg q)
def pX12_meanPay {β : Type} (z : HH → Option (UInt64 × HH)) : PW β := fun as h f => skC 71 as fun as => skE as (bnd (z h) fun r => f (.inl (some (aD r.1))) r.2)
theorem pX12_meanPay_ok {β : Type} {g : SG} (hg : GOK g) : CW1 (β := β) 267 (pX12_meanPay nX12_meanPay) 71 119 g := fun as h f b q => by
  obtain ⟨as, rfl, q1⟩ := skC_of q
  obtain ⟨rfl, q0⟩ := skE_of q1
  obtain ⟨r, z1, z2⟩ := bnd_of q0
  exact ⟨_, _, z2, by decide, mX12_meanPay hg z1, rfl, rfl, fun z => absurd z (by decide)⟩
def csX12_filled : List (Nat × List (Nat × ARow)) := [(42, [(0, 1, .aload_n 0, 0, 0, 0), (1, 1, .aload_n 0, 0, 0, 0), (2, 1, .iload_n 1, 0, 0, 0), (3, 3, .invokevirtual 260, 176, 2, 12), (6, 3, .ifCond .eq 7, 13, 0, 0), (9, 1, .iconst 0, 0, 0, 0), (10, 3, .goto 4, 14, 0, 0), (13, 1, .iconst 1, 0, 0, 0), (14, 3, .putfield 175, 12, 10, 0), (17, 1, .aload_n 0, 0, 0, 0), (18, 3, .getfield 175, 12, 10, 0), (21, 3, .ifCond .eq 5, 26, 0, 0), (24, 1, .fconst 0, 0, 0, 0), (25, 1, .freturn, 0, 0, 0), (26, 1, .aload_n 0, 0, 0, 0), (27, 1, .iload_n 1, 0, 0, 0), (28, 3, .invokevirtual 310, 197, 2, 12), (31, 1, .istore_n 2, 0, 0, 0), (32, 1, .aload_n 0, 0, 0, 0), (33, 3, .getfield 238, 12, 57, 0), (36, 1, .i2f, 0, 0, 0), (37, 1, .aload_n 0, 0, 0, 0), (38, 3, .getfield 67, 12, 22, 2), (41, 1, .iload_n 1, 0, 0, 0)]),
  (100000, [(42, 1, .iaload, 0, 0, 0), (43, 1, .i2f, 0, 0, 0), (44, 1, .fdiv, 0, 0, 0), (45, 1, .freturn, 0, 0, 0)])]
theorem rwX12_filled : rowsB (mB 268) (mO 268) (mX 268) (mIni 268) (mFr 268) (mLo 268) (mT 268) csX12_filled = true := by decide +kernel
def bX12_filled_14 (f197 : Int → HH → Option (Int × HH)) (x1 : Int) (y0 : Int) (h : HH) : Option (UInt32 × HH) :=
  bnd (some (hI h 71 10 y0)) fun h1 =>
    if (h1.1 71 10) = (0 : Int) then
    bnd (f197 x1 h1) fun r2 =>
    gd ((0 : Int) ≤ x1 ∧ x1 < (3 : Int)) <|
    gd (n32 (FP.fdiv (FP.i2f (Int32.ofInt (r2.2.1 71 57))) (FP.i2f (Int32.ofInt (r2.2.1 91 x1))))) <|
    some ((FP.fdiv (FP.i2f (Int32.ofInt (r2.2.1 71 57))) (FP.i2f (Int32.ofInt (r2.2.1 91 x1)))), r2.2)
  else
    some ((0 : UInt32), h1)
set_option maxRecDepth 100000 in
theorem uX12_filled_14 {g : SG} (hg : GOK g) {σ0 : SG} : ∀ {x1 : Int} {y0 : Int} {h : HH} {b : (UInt32 × HH)}, bX12_filled_14 nX12_costOf x1 y0 h = some b → WK 268 (.inl (some (aF b.1))) σ0 (abH 71 119 g b.2) 14 [(0, aR 71), (1, aI x1)] [aI y0, aR 71] (abH 71 119 g h) 0 0 := by
  intro x1 y0 h b q
  have e : ∀ (f197 : Int → HH → Option (Int × HH)) , bX12_filled_14 f197 x1 y0 h = segW 71 119 g.2.2.2.2 krWF (clC 197 (pX12_costOf f197) clN) csX12_filled cuN 1000 14 [(0, aR 71), (1, aI x1)] [aI y0, aR 71] h := fun _ => rfl
  rw [e nX12_costOf] at q
  clear e
  refine segW_wk (by decide) (by decide) hg rwX12_filled (CLKW_C (pX12_costOf_ok hg) CLKW_N) krWF_ok ?_ q
  clear q
  exact ct_N
def nX12_filled_14 (x1 : Int) (y0 : Int) (h : HH) : Option (UInt32 × HH) := bX12_filled_14 nX12_costOf x1 y0 h
theorem wX12_filled_14 {g : SG} (hg : GOK g) {σ0 : SG} : ∀ {x1 : Int} {y0 : Int} {h : HH} {b : (UInt32 × HH)}, nX12_filled_14 x1 y0 h = some b → WK 268 (.inl (some (aF b.1))) σ0 (abH 71 119 g b.2) 14 [(0, aR 71), (1, aI x1)] [aI y0, aR 71] (abH 71 119 g h) 0 0 := by
  intro x1 y0 h b q
  exact uX12_filled_14 hg q
def bX12_filled (f176 : HH → Int → Option Int) (c14 : Int → Int → HH → Option (UInt32 × HH)) (x1 : Int) (h : HH) : Option (UInt32 × HH) :=
  bnd (f176 h x1) fun r1 =>
    if r1 = (0 : Int) then
    c14 x1 1 h
  else
    c14 x1 0 h
theorem uX12_filled {g : SG} (hg : GOK g) {σ0 : SG} {c14 : Int → Int → HH → Option (UInt32 × HH)} (k14 : ∀ (x1 : Int) (y0 : Int) (h : HH) (b : (UInt32 × HH)), c14 x1 y0 h = some b → WK 268 (.inl (some (aF b.1))) σ0 (abH 71 119 g b.2) 14 [(0, aR 71), (1, aI x1)] [aI y0, aR 71] (abH 71 119 g h) 0 0) : ∀ {x1 : Int} {h : HH} {b : (UInt32 × HH)}, bX12_filled nX12_isVan c14 x1 h = some b → WK 268 (.inl (some (aF b.1))) σ0 (abH 71 119 g b.2) 0 [(0, aR 71), (1, aI x1)] [] (abH 71 119 g h) 0 0 := by
  intro x1 h b q
  have e : ∀ (f176 : HH → Int → Option Int) , bX12_filled f176 c14 x1 h = segW 71 119 g.2.2.2.2 krWF (clC 176 (liPW (pX12_isVan f176)) clN) csX12_filled (cuC 14 (fun l st s => tkC 0 71 l <| tkI 1 l fun x1 => skI st fun y0 st => skC 71 st fun st => skE st (c14 x1 y0 s)) cuN) 1000 0 [(0, aR 71), (1, aI x1)] [] h := fun _ => rfl
  rw [e nX12_isVan] at q
  clear e
  refine segW_wk (by decide) (by decide) hg rwX12_filled (CLKW_C (liPW_ok (pX12_isVan_ok hg)) CLKW_N) krWF_ok ?_ q
  clear q
  refine ct_C ?_ (ct_N)
  · intro l st h q
    obtain ⟨m0, q1⟩ := tkC_of q
    obtain ⟨x1, m1, q2⟩ := tkI_of q1
    obtain ⟨y0, t0, rfl, q3⟩ := skI_of q2
    obtain ⟨t1, rfl, q4⟩ := skC_of q3
    obtain ⟨rfl, q5⟩ := skE_of q4
    exact WK_less (k14 _ _ _ _ q5) (List.forall_mem_cons.mpr ⟨m0, (List.forall_mem_cons.mpr ⟨m1, (fun _ h => absurd h List.not_mem_nil)⟩)⟩)
def nX12_filled (x1 : Int) (h : HH) : Option (UInt32 × HH) := bX12_filled nX12_isVan nX12_filled_14 x1 h
theorem wX12_filled {g : SG} (hg : GOK g) {σ0 : SG} : ∀ {x1 : Int} {h : HH} {b : (UInt32 × HH)}, nX12_filled x1 h = some b → WK 268 (.inl (some (aF b.1))) σ0 (abH 71 119 g b.2) 0 [(0, aR 71), (1, aI x1)] [] (abH 71 119 g h) 0 0 := by
  intro x1 h b q
  exact uX12_filled hg (fun _ _ _ _ q => wX12_filled_14 hg q) q
theorem mX12_filled {g : SG} (hg : GOK g) {h : HH} {x1 : Int} {b : (UInt32 × HH)} (q : nX12_filled x1 h = some b) : MCT 268 [] [aR 71, aI x1] (abH 71 119 g h) (.inl (some (aF b.1))) (abH 71 119 g b.2) :=
  mct_of (by decide) (MFok 268 (by decide +kernel)) (fun _ => Nat.le_of_ble_eq_true rfl) (wX12_filled hg q)
def pX12_filled {β : Type} (z : Int → HH → Option (UInt32 × HH)) : PW β := fun as h f => skC 71 as fun as => skI as fun x1 as => skE as (bnd (z x1 h) fun r => f (.inl (some (aF r.1))) r.2)
theorem pX12_filled_ok {β : Type} {g : SG} (hg : GOK g) : CW1 (β := β) 268 (pX12_filled nX12_filled) 71 119 g := fun as h f b q => by
  obtain ⟨as, rfl, q1⟩ := skC_of q
  obtain ⟨x1, as, rfl, q2⟩ := skI_of q1
  obtain ⟨rfl, q0⟩ := skE_of q2
  obtain ⟨r, z1, z2⟩ := bnd_of q0
  exact ⟨_, _, z2, by decide, mX12_filled hg z1, rfl, rfl, fun z => absurd z (by decide)⟩
def csX12_areLeast : List (Nat × List (Nat × ARow)) := [(37, [(0, 1, .iconst 1, 0, 0, 0), (1, 1, .istore_n 1, 0, 0, 0), (2, 1, .iconst 0, 0, 0, 0), (3, 1, .istore_n 2, 0, 0, 0), (4, 1, .iload_n 2, 0, 0, 0), (5, 3, .sipush 4096, 0, 0, 0), (8, 3, .if_icmp .ge 91, 99, 0, 0), (11, 1, .iload_n 2, 0, 0, 0), (12, 3, .sipush 256, 0, 0, 0), (15, 1, .idiv, 0, 0, 0), (16, 1, .istore_n 3, 0, 0, 0), (17, 1, .iload_n 2, 0, 0, 0), (18, 2, .bipush 16, 0, 0, 0), (20, 1, .idiv, 0, 0, 0), (21, 2, .bipush 16, 0, 0, 0), (23, 1, .irem, 0, 0, 0), (24, 2, .istore 4, 0, 0, 0), (26, 1, .iload_n 2, 0, 0, 0), (27, 2, .bipush 16, 0, 0, 0), (29, 1, .irem, 0, 0, 0), (30, 2, .istore 5, 0, 0, 0), (32, 1, .iload_n 1, 0, 0, 0), (33, 3, .ifCond .eq 58, 91, 0, 0), (36, 1, .aload_n 0, 0, 0, 0)]),
  (84, [(37, 1, .iload_n 3, 0, 0, 0), (38, 2, .iload 4, 0, 0, 0), (40, 3, .invokevirtual 244, 181, 3, 12), (43, 2, .ldc 188, 1000000000, 0, 0), (45, 3, .if_icmp .eq 42, 87, 0, 0), (48, 1, .aload_n 0, 0, 0, 0), (49, 2, .iload 4, 0, 0, 0), (51, 2, .iload 5, 0, 0, 0), (53, 3, .invokevirtual 244, 181, 3, 12), (56, 2, .ldc 188, 1000000000, 0, 0), (58, 3, .if_icmp .eq 29, 87, 0, 0), (61, 1, .aload_n 0, 0, 0, 0), (62, 1, .iload_n 3, 0, 0, 0), (63, 2, .iload 5, 0, 0, 0), (65, 3, .invokevirtual 244, 181, 3, 12), (68, 1, .aload_n 0, 0, 0, 0), (69, 1, .iload_n 3, 0, 0, 0), (70, 2, .iload 4, 0, 0, 0), (72, 3, .invokevirtual 244, 181, 3, 12), (75, 1, .aload_n 0, 0, 0, 0), (76, 2, .iload 4, 0, 0, 0), (78, 2, .iload 5, 0, 0, 0), (80, 3, .invokevirtual 244, 181, 3, 12), (83, 1, .iadd, 0, 0, 0)]),
  (126, [(84, 3, .if_icmp .gt 7, 91, 0, 0), (87, 1, .iconst 1, 0, 0, 0), (88, 3, .goto 4, 92, 0, 0), (91, 1, .iconst 0, 0, 0, 0), (92, 1, .istore_n 1, 0, 0, 0), (93, 3, .iinc 2 1, 0, 0, 0), (96, 3, .goto (-92), 4, 0, 0), (99, 1, .iconst 0, 0, 0, 0), (100, 1, .istore_n 2, 0, 0, 0), (101, 1, .iload_n 2, 0, 0, 0), (102, 1, .aload_n 0, 0, 0, 0), (103, 3, .getfield 189, 12, 9, 0), (106, 3, .if_icmp .ge 44, 150, 0, 0), (109, 1, .iload_n 1, 0, 0, 0), (110, 3, .ifCond .eq 32, 142, 0, 0), (113, 1, .aload_n 0, 0, 0, 0), (114, 1, .aload_n 0, 0, 0, 0), (115, 3, .getfield 7, 12, 0, 2), (118, 1, .iload_n 2, 0, 0, 0), (119, 1, .iaload, 0, 0, 0), (120, 1, .aload_n 0, 0, 0, 0), (121, 3, .getfield 13, 12, 1, 2), (124, 1, .iload_n 2, 0, 0, 0), (125, 1, .iaload, 0, 0, 0)]),
  (100000, [(126, 3, .invokevirtual 244, 181, 3, 12), (129, 1, .aload_n 0, 0, 0, 0), (130, 3, .getfield 16, 12, 2, 2), (133, 1, .iload_n 2, 0, 0, 0), (134, 1, .iaload, 0, 0, 0), (135, 3, .if_icmp .gt 7, 142, 0, 0), (138, 1, .iconst 1, 0, 0, 0), (139, 3, .goto 4, 143, 0, 0), (142, 1, .iconst 0, 0, 0, 0), (143, 1, .istore_n 1, 0, 0, 0), (144, 3, .iinc 2 1, 0, 0, 0), (147, 3, .goto (-46), 101, 0, 0), (150, 1, .iload_n 1, 0, 0, 0), (151, 1, .ireturn, 1, 0, 0)])]
theorem rwX12_areLeast : rowsB (mB 269) (mO 269) (mX 269) (mIni 269) (mFr 269) (mLo 269) (mT 269) csX12_areLeast = true := by decide +kernel
def bX12_areLeast_143 (h : HH) (c101 : Int → Int → Option Int) (x2 : Int) (y0 : Int) : Option Int :=
  gd (R32 (x2 + 1)) <|
    c101 y0 (x2 + 1)
theorem uX12_areLeast_143 {g : SG} (hg : GOK g) {σ0 : SG} {h : HH} {c101 : Int → Int → Option Int} (k101 : ∀ (x1 : Int) (x2 : Int) (b : Int), c101 x1 x2 = some b → WK 269 (.inl (some (aI b))) σ0 (abH 71 119 g h) 101 [(0, aR 71), (1, aI x1), (2, aI x2)] [] (abH 71 119 g h) 0 0) : ∀ {x2 : Int} {y0 : Int} {b : Int}, bX12_areLeast_143 h c101 x2 y0 = some b → WK 269 (.inl (some (aI b))) σ0 (abH 71 119 g h) 143 [(0, aR 71), (2, aI x2)] [aI y0] (abH 71 119 g h) 0 0 := by
  intro x2 y0 b q
  have e : bX12_areLeast_143 h c101 x2 y0 = segP 71 119 g.2.2.2.2 h krPI clNP csX12_areLeast (cuC 101 (fun l st s => tkC 0 71 l <| tkI 1 l fun x1 => tkI 2 l fun x2 => skE st (c101 x1 x2)) cuN) 1000 143 [(0, aR 71), (2, aI x2)] [aI y0] := rfl
  rw [e] at q
  clear e
  refine segP_wk (by decide) (by decide) hg rwX12_areLeast CLKP_N krPI_ok ?_ q
  clear q
  refine ct_C ?_ (ct_N)
  · intro l st _ q
    obtain ⟨m0, q1⟩ := tkC_of q
    obtain ⟨x1, m1, q2⟩ := tkI_of q1
    obtain ⟨x2, m2, q3⟩ := tkI_of q2
    obtain ⟨rfl, q4⟩ := skE_of q3
    exact WK_less (k101 _ _ _ q4) (List.forall_mem_cons.mpr ⟨m0, (List.forall_mem_cons.mpr ⟨m1, (List.forall_mem_cons.mpr ⟨m2, (fun _ h => absurd h List.not_mem_nil)⟩)⟩)⟩)
def nX12_areLeast_143 (h : HH) (c101 : Int → Int → Option Int) (x2 : Int) (y0 : Int) : Option Int := bX12_areLeast_143 h c101 x2 y0
theorem wX12_areLeast_143 {g : SG} (hg : GOK g) {σ0 : SG} {h : HH} {c101 : Int → Int → Option Int} (k101 : ∀ (x1 : Int) (x2 : Int) (b : Int), c101 x1 x2 = some b → WK 269 (.inl (some (aI b))) σ0 (abH 71 119 g h) 101 [(0, aR 71), (1, aI x1), (2, aI x2)] [] (abH 71 119 g h) 0 0) : ∀ {x2 : Int} {y0 : Int} {b : Int}, nX12_areLeast_143 h c101 x2 y0 = some b → WK 269 (.inl (some (aI b))) σ0 (abH 71 119 g h) 143 [(0, aR 71), (2, aI x2)] [aI y0] (abH 71 119 g h) 0 0 := by
  intro x2 y0 b q
  exact uX12_areLeast_143 hg k101 q
def bX12_areLeast_142 (h : HH) (c143 : Int → Int → Option Int) (x2 : Int) : Option Int :=
  c143 x2 0
theorem uX12_areLeast_142 {g : SG} (hg : GOK g) {σ0 : SG} {h : HH} {c143 : Int → Int → Option Int} (k143 : ∀ (x2 : Int) (y0 : Int) (b : Int), c143 x2 y0 = some b → WK 269 (.inl (some (aI b))) σ0 (abH 71 119 g h) 143 [(0, aR 71), (2, aI x2)] [aI y0] (abH 71 119 g h) 0 0) : ∀ {x2 : Int} {b : Int}, bX12_areLeast_142 h c143 x2 = some b → WK 269 (.inl (some (aI b))) σ0 (abH 71 119 g h) 142 [(0, aR 71), (2, aI x2)] [] (abH 71 119 g h) 0 0 := by
  intro x2 b q
  have e : bX12_areLeast_142 h c143 x2 = segP 71 119 g.2.2.2.2 h krPI clNP csX12_areLeast (cuC 143 (fun l st s => tkC 0 71 l <| tkI 2 l fun x2 => skI st fun y0 st => skE st (c143 x2 y0)) cuN) 1000 142 [(0, aR 71), (2, aI x2)] [] := rfl
  rw [e] at q
  clear e
  refine segP_wk (by decide) (by decide) hg rwX12_areLeast CLKP_N krPI_ok ?_ q
  clear q
  refine ct_C ?_ (ct_N)
  · intro l st _ q
    obtain ⟨m0, q1⟩ := tkC_of q
    obtain ⟨x2, m2, q2⟩ := tkI_of q1
    obtain ⟨y0, t0, rfl, q3⟩ := skI_of q2
    obtain ⟨rfl, q4⟩ := skE_of q3
    exact WK_less (k143 _ _ _ q4) (List.forall_mem_cons.mpr ⟨m0, (List.forall_mem_cons.mpr ⟨m2, (fun _ h => absurd h List.not_mem_nil)⟩)⟩)
def nX12_areLeast_142 (h : HH) (c101 : Int → Int → Option Int) (x2 : Int) : Option Int := bX12_areLeast_142 h (nX12_areLeast_143 h c101) x2
theorem wX12_areLeast_142 {g : SG} (hg : GOK g) {σ0 : SG} {h : HH} {c101 : Int → Int → Option Int} (k101 : ∀ (x1 : Int) (x2 : Int) (b : Int), c101 x1 x2 = some b → WK 269 (.inl (some (aI b))) σ0 (abH 71 119 g h) 101 [(0, aR 71), (1, aI x1), (2, aI x2)] [] (abH 71 119 g h) 0 0) : ∀ {x2 : Int} {b : Int}, nX12_areLeast_142 h c101 x2 = some b → WK 269 (.inl (some (aI b))) σ0 (abH 71 119 g h) 142 [(0, aR 71), (2, aI x2)] [] (abH 71 119 g h) 0 0 := by
  intro x2 b q
  exact uX12_areLeast_142 hg (fun _ _ _ q => wX12_areLeast_143 hg k101 q) q
def bX12_areLeast_101 (f181 : HH → Int → Int → Option Int) (h : HH) (c142 : Int → Option Int) (c143 : Int → Int → Option Int) (x1 : Int) (x2 : Int) : Option Int :=
  if x2 < ((h.1 71 9) : Int) then
    if x1 = (0 : Int) then
    c142 x2
  else
    gd ((0 : Int) ≤ x2 ∧ x2 < (60 : Int)) <|
    gd ((0 : Int) ≤ x2 ∧ x2 < (60 : Int)) <|
    bnd (f181 h (h.1 72 x2) (h.1 73 x2)) fun r1 =>
    gd ((0 : Int) ≤ x2 ∧ x2 < (60 : Int)) <|
    if ((h.1 74 x2) : Int) < r1 then
    c142 x2
  else
    c143 x2 1
  else
    gd ((0 : Int) ≤ x1 ∧ x1 ≤ (1 : Int)) <|
    some x1
set_option maxRecDepth 100000 in
theorem uX12_areLeast_101 {g : SG} (hg : GOK g) {σ0 : SG} {h : HH} {c142 : Int → Option Int} {c143 : Int → Int → Option Int} (k142 : ∀ (x2 : Int) (b : Int), c142 x2 = some b → WK 269 (.inl (some (aI b))) σ0 (abH 71 119 g h) 142 [(0, aR 71), (2, aI x2)] [] (abH 71 119 g h) 0 0) (k143 : ∀ (x2 : Int) (y0 : Int) (b : Int), c143 x2 y0 = some b → WK 269 (.inl (some (aI b))) σ0 (abH 71 119 g h) 143 [(0, aR 71), (2, aI x2)] [aI y0] (abH 71 119 g h) 0 0) : ∀ {x1 : Int} {x2 : Int} {b : Int}, bX12_areLeast_101 nX12_d h c142 c143 x1 x2 = some b → WK 269 (.inl (some (aI b))) σ0 (abH 71 119 g h) 101 [(0, aR 71), (1, aI x1), (2, aI x2)] [] (abH 71 119 g h) 0 0 := by
  intro x1 x2 b q
  have e : ∀ (f181 : HH → Int → Int → Option Int) , bX12_areLeast_101 f181 h c142 c143 x1 x2 = segP 71 119 g.2.2.2.2 h krPI (clCP 181 (pX12_d f181 h) clNP) csX12_areLeast (cuC 142 (fun l st s => tkC 0 71 l <| tkI 2 l fun x2 => skE st (c142 x2)) (cuC 143 (fun l st s => tkC 0 71 l <| tkI 2 l fun x2 => skI st fun y0 st => skE st (c143 x2 y0)) cuN)) 1000 101 [(0, aR 71), (1, aI x1), (2, aI x2)] [] := fun _ => rfl
  rw [e nX12_d] at q
  clear e
  refine segP_wk (by decide) (by decide) hg rwX12_areLeast (CLKP_C (pX12_d_ok hg) CLKP_N) krPI_ok ?_ q
  clear q
  refine ct_C ?_ (ct_C ?_ (ct_N))
  · intro l st _ q
    obtain ⟨m0, q1⟩ := tkC_of q
    obtain ⟨x2, m2, q2⟩ := tkI_of q1
    obtain ⟨rfl, q3⟩ := skE_of q2
    exact WK_less (k142 _ _ q3) (List.forall_mem_cons.mpr ⟨m0, (List.forall_mem_cons.mpr ⟨m2, (fun _ h => absurd h List.not_mem_nil)⟩)⟩)
  · intro l st _ q
    obtain ⟨m0, q1⟩ := tkC_of q
    obtain ⟨x2, m2, q2⟩ := tkI_of q1
    obtain ⟨y0, t0, rfl, q3⟩ := skI_of q2
    obtain ⟨rfl, q4⟩ := skE_of q3
    exact WK_less (k143 _ _ _ q4) (List.forall_mem_cons.mpr ⟨m0, (List.forall_mem_cons.mpr ⟨m2, (fun _ h => absurd h List.not_mem_nil)⟩)⟩)
def nX12_areLeast_101 (h : HH) : Nat → Int → Int → Option Int := iter (fun _ _ => none) (fun self => bX12_areLeast_101 nX12_d h (nX12_areLeast_142 h self) (nX12_areLeast_143 h self))
theorem nX12_areLeast_101_s {h : HH} {F : Nat} : nX12_areLeast_101 h (F + 1) = bX12_areLeast_101 nX12_d h (nX12_areLeast_142 h (nX12_areLeast_101 h F)) (nX12_areLeast_143 h (nX12_areLeast_101 h F)) := rfl
theorem wX12_areLeast_101 {g : SG} (hg : GOK g) {σ0 : SG} {h : HH} : ∀ {F : Nat}, ∀ {x1 : Int} {x2 : Int} {b : Int}, nX12_areLeast_101 h F x1 x2 = some b → WK 269 (.inl (some (aI b))) σ0 (abH 71 119 g h) 101 [(0, aR 71), (1, aI x1), (2, aI x2)] [] (abH 71 119 g h) 0 0 := by
  intro F
  have z : ∀ (x1 : Int) (x2 : Int) (b : Int), nX12_areLeast_101 h F x1 x2 = some b → WK 269 (.inl (some (aI b))) σ0 (abH 71 119 g h) 101 [(0, aR 71), (1, aI x1), (2, aI x2)] [] (abH 71 119 g h) 0 0 := iter_ind (P := fun (c : Int → Int → Option Int) => ∀ (x1 : Int) (x2 : Int) (b : Int), c x1 x2 = some b → WK 269 (.inl (some (aI b))) σ0 (abH 71 119 g h) 101 [(0, aR 71), (1, aI x1), (2, aI x2)] [] (abH 71 119 g h) 0 0) (by
    intro x1 x2 b q
    cases q) (fun self ih => by
    intro x1 x2 b q
    exact uX12_areLeast_101 hg (fun _ _ q => wX12_areLeast_142 hg ih q) (fun _ _ _ q => wX12_areLeast_143 hg ih q) q) F
  intro x1 x2 b q
  exact z _ _ _ q
def bX12_areLeast_92 (h : HH) (c4 : Int → Int → Option Int) (x2 : Int) (y0 : Int) : Option Int :=
  gd (R32 (x2 + 1)) <|
    c4 y0 (x2 + 1)
theorem uX12_areLeast_92 {g : SG} (hg : GOK g) {σ0 : SG} {h : HH} {c4 : Int → Int → Option Int} (k4 : ∀ (x1 : Int) (x2 : Int) (b : Int), c4 x1 x2 = some b → WK 269 (.inl (some (aI b))) σ0 (abH 71 119 g h) 4 [(0, aR 71), (1, aI x1), (2, aI x2)] [] (abH 71 119 g h) 0 0) : ∀ {x2 : Int} {y0 : Int} {b : Int}, bX12_areLeast_92 h c4 x2 y0 = some b → WK 269 (.inl (some (aI b))) σ0 (abH 71 119 g h) 92 [(0, aR 71), (2, aI x2)] [aI y0] (abH 71 119 g h) 0 0 := by
  intro x2 y0 b q
  have e : bX12_areLeast_92 h c4 x2 y0 = segP 71 119 g.2.2.2.2 h krPI clNP csX12_areLeast (cuC 4 (fun l st s => tkC 0 71 l <| tkI 1 l fun x1 => tkI 2 l fun x2 => skE st (c4 x1 x2)) cuN) 1000 92 [(0, aR 71), (2, aI x2)] [aI y0] := rfl
  rw [e] at q
  clear e
  refine segP_wk (by decide) (by decide) hg rwX12_areLeast CLKP_N krPI_ok ?_ q
  clear q
  refine ct_C ?_ (ct_N)
  · intro l st _ q
    obtain ⟨m0, q1⟩ := tkC_of q
    obtain ⟨x1, m1, q2⟩ := tkI_of q1
    obtain ⟨x2, m2, q3⟩ := tkI_of q2
    obtain ⟨rfl, q4⟩ := skE_of q3
    exact WK_less (k4 _ _ _ q4) (List.forall_mem_cons.mpr ⟨m0, (List.forall_mem_cons.mpr ⟨m1, (List.forall_mem_cons.mpr ⟨m2, (fun _ h => absurd h List.not_mem_nil)⟩)⟩)⟩)
def nX12_areLeast_92 (h : HH) (c4 : Int → Int → Option Int) (x2 : Int) (y0 : Int) : Option Int := bX12_areLeast_92 h c4 x2 y0
theorem wX12_areLeast_92 {g : SG} (hg : GOK g) {σ0 : SG} {h : HH} {c4 : Int → Int → Option Int} (k4 : ∀ (x1 : Int) (x2 : Int) (b : Int), c4 x1 x2 = some b → WK 269 (.inl (some (aI b))) σ0 (abH 71 119 g h) 4 [(0, aR 71), (1, aI x1), (2, aI x2)] [] (abH 71 119 g h) 0 0) : ∀ {x2 : Int} {y0 : Int} {b : Int}, nX12_areLeast_92 h c4 x2 y0 = some b → WK 269 (.inl (some (aI b))) σ0 (abH 71 119 g h) 92 [(0, aR 71), (2, aI x2)] [aI y0] (abH 71 119 g h) 0 0 := by
  intro x2 y0 b q
  exact uX12_areLeast_92 hg k4 q
def bX12_areLeast_91 (h : HH) (c92 : Int → Int → Option Int) (x2 : Int) : Option Int :=
  c92 x2 0
theorem uX12_areLeast_91 {g : SG} (hg : GOK g) {σ0 : SG} {h : HH} {c92 : Int → Int → Option Int} (k92 : ∀ (x2 : Int) (y0 : Int) (b : Int), c92 x2 y0 = some b → WK 269 (.inl (some (aI b))) σ0 (abH 71 119 g h) 92 [(0, aR 71), (2, aI x2)] [aI y0] (abH 71 119 g h) 0 0) : ∀ {x2 : Int} {b : Int}, bX12_areLeast_91 h c92 x2 = some b → WK 269 (.inl (some (aI b))) σ0 (abH 71 119 g h) 91 [(0, aR 71), (2, aI x2)] [] (abH 71 119 g h) 0 0 := by
  intro x2 b q
  have e : bX12_areLeast_91 h c92 x2 = segP 71 119 g.2.2.2.2 h krPI clNP csX12_areLeast (cuC 92 (fun l st s => tkC 0 71 l <| tkI 2 l fun x2 => skI st fun y0 st => skE st (c92 x2 y0)) cuN) 1000 91 [(0, aR 71), (2, aI x2)] [] := rfl
  rw [e] at q
  clear e
  refine segP_wk (by decide) (by decide) hg rwX12_areLeast CLKP_N krPI_ok ?_ q
  clear q
  refine ct_C ?_ (ct_N)
  · intro l st _ q
    obtain ⟨m0, q1⟩ := tkC_of q
    obtain ⟨x2, m2, q2⟩ := tkI_of q1
    obtain ⟨y0, t0, rfl, q3⟩ := skI_of q2
    obtain ⟨rfl, q4⟩ := skE_of q3
    exact WK_less (k92 _ _ _ q4) (List.forall_mem_cons.mpr ⟨m0, (List.forall_mem_cons.mpr ⟨m2, (fun _ h => absurd h List.not_mem_nil)⟩)⟩)
def nX12_areLeast_91 (h : HH) (c4 : Int → Int → Option Int) (x2 : Int) : Option Int := bX12_areLeast_91 h (nX12_areLeast_92 h c4) x2
theorem wX12_areLeast_91 {g : SG} (hg : GOK g) {σ0 : SG} {h : HH} {c4 : Int → Int → Option Int} (k4 : ∀ (x1 : Int) (x2 : Int) (b : Int), c4 x1 x2 = some b → WK 269 (.inl (some (aI b))) σ0 (abH 71 119 g h) 4 [(0, aR 71), (1, aI x1), (2, aI x2)] [] (abH 71 119 g h) 0 0) : ∀ {x2 : Int} {b : Int}, nX12_areLeast_91 h c4 x2 = some b → WK 269 (.inl (some (aI b))) σ0 (abH 71 119 g h) 91 [(0, aR 71), (2, aI x2)] [] (abH 71 119 g h) 0 0 := by
  intro x2 b q
  exact uX12_areLeast_91 hg (fun _ _ _ q => wX12_areLeast_92 hg k4 q) q
def bX12_areLeast_87 (h : HH) (c92 : Int → Int → Option Int) (x2 : Int) : Option Int :=
  c92 x2 1
theorem uX12_areLeast_87 {g : SG} (hg : GOK g) {σ0 : SG} {h : HH} {c92 : Int → Int → Option Int} (k92 : ∀ (x2 : Int) (y0 : Int) (b : Int), c92 x2 y0 = some b → WK 269 (.inl (some (aI b))) σ0 (abH 71 119 g h) 92 [(0, aR 71), (2, aI x2)] [aI y0] (abH 71 119 g h) 0 0) : ∀ {x2 : Int} {b : Int}, bX12_areLeast_87 h c92 x2 = some b → WK 269 (.inl (some (aI b))) σ0 (abH 71 119 g h) 87 [(0, aR 71), (2, aI x2)] [] (abH 71 119 g h) 0 0 := by
  intro x2 b q
  have e : bX12_areLeast_87 h c92 x2 = segP 71 119 g.2.2.2.2 h krPI clNP csX12_areLeast (cuC 92 (fun l st s => tkC 0 71 l <| tkI 2 l fun x2 => skI st fun y0 st => skE st (c92 x2 y0)) cuN) 1000 87 [(0, aR 71), (2, aI x2)] [] := rfl
  rw [e] at q
  clear e
  refine segP_wk (by decide) (by decide) hg rwX12_areLeast CLKP_N krPI_ok ?_ q
  clear q
  refine ct_C ?_ (ct_N)
  · intro l st _ q
    obtain ⟨m0, q1⟩ := tkC_of q
    obtain ⟨x2, m2, q2⟩ := tkI_of q1
    obtain ⟨y0, t0, rfl, q3⟩ := skI_of q2
    obtain ⟨rfl, q4⟩ := skE_of q3
    exact WK_less (k92 _ _ _ q4) (List.forall_mem_cons.mpr ⟨m0, (List.forall_mem_cons.mpr ⟨m2, (fun _ h => absurd h List.not_mem_nil)⟩)⟩)
def nX12_areLeast_87 (h : HH) (c4 : Int → Int → Option Int) (x2 : Int) : Option Int := bX12_areLeast_87 h (nX12_areLeast_92 h c4) x2
theorem wX12_areLeast_87 {g : SG} (hg : GOK g) {σ0 : SG} {h : HH} {c4 : Int → Int → Option Int} (k4 : ∀ (x1 : Int) (x2 : Int) (b : Int), c4 x1 x2 = some b → WK 269 (.inl (some (aI b))) σ0 (abH 71 119 g h) 4 [(0, aR 71), (1, aI x1), (2, aI x2)] [] (abH 71 119 g h) 0 0) : ∀ {x2 : Int} {b : Int}, nX12_areLeast_87 h c4 x2 = some b → WK 269 (.inl (some (aI b))) σ0 (abH 71 119 g h) 87 [(0, aR 71), (2, aI x2)] [] (abH 71 119 g h) 0 0 := by
  intro x2 b q
  exact uX12_areLeast_87 hg (fun _ _ _ q => wX12_areLeast_92 hg k4 q) q
def bX12_areLeast_4 (f181 : HH → Int → Int → Option Int) (h : HH) (c87 : Int → Option Int) (c91 : Int → Option Int) (c101 : Int → Int → Option Int) (x1 : Int) (x2 : Int) : Option Int :=
  if x2 < (4096 : Int) then
    gd ((0 : Int) ≤ x2 ∧ (0 : Int) < 256) <|
    gd ((0 : Int) ≤ x2 ∧ (0 : Int) < 16) <|
    gd ((0 : Int) ≤ (x2 / 16) ∧ (0 : Int) < 16) <|
    gd ((0 : Int) ≤ x2 ∧ (0 : Int) < 16) <|
    if x1 = (0 : Int) then
    c91 x2
  else
    bnd (f181 h (x2 / 256) ((x2 / 16) % 16)) fun r1 =>
    if r1 = (1000000000 : Int) then
    c87 x2
  else
    bnd (f181 h ((x2 / 16) % 16) (x2 % 16)) fun r2 =>
    if r2 = (1000000000 : Int) then
    c87 x2
  else
    bnd (f181 h (x2 / 256) (x2 % 16)) fun r3 =>
    bnd (f181 h (x2 / 256) ((x2 / 16) % 16)) fun r4 =>
    bnd (f181 h ((x2 / 16) % 16) (x2 % 16)) fun r5 =>
    gd (R32 (r4 + r5)) <|
    if ((r4 + r5) : Int) < r3 then
    c91 x2
  else
    c87 x2
  else
    c101 x1 0
set_option maxRecDepth 100000 in
theorem uX12_areLeast_4 {g : SG} (hg : GOK g) {σ0 : SG} {h : HH} {c87 : Int → Option Int} {c91 : Int → Option Int} {c101 : Int → Int → Option Int} (k87 : ∀ (x2 : Int) (b : Int), c87 x2 = some b → WK 269 (.inl (some (aI b))) σ0 (abH 71 119 g h) 87 [(0, aR 71), (2, aI x2)] [] (abH 71 119 g h) 0 0) (k91 : ∀ (x2 : Int) (b : Int), c91 x2 = some b → WK 269 (.inl (some (aI b))) σ0 (abH 71 119 g h) 91 [(0, aR 71), (2, aI x2)] [] (abH 71 119 g h) 0 0) (k101 : ∀ (x1 : Int) (x2 : Int) (b : Int), c101 x1 x2 = some b → WK 269 (.inl (some (aI b))) σ0 (abH 71 119 g h) 101 [(0, aR 71), (1, aI x1), (2, aI x2)] [] (abH 71 119 g h) 0 0) : ∀ {x1 : Int} {x2 : Int} {b : Int}, bX12_areLeast_4 nX12_d h c87 c91 c101 x1 x2 = some b → WK 269 (.inl (some (aI b))) σ0 (abH 71 119 g h) 4 [(0, aR 71), (1, aI x1), (2, aI x2)] [] (abH 71 119 g h) 0 0 := by
  intro x1 x2 b q
  have e : ∀ (f181 : HH → Int → Int → Option Int) , bX12_areLeast_4 f181 h c87 c91 c101 x1 x2 = segP 71 119 g.2.2.2.2 h krPI (clCP 181 (pX12_d f181 h) clNP) csX12_areLeast (cuC 87 (fun l st s => tkC 0 71 l <| tkI 2 l fun x2 => skE st (c87 x2)) (cuC 91 (fun l st s => tkC 0 71 l <| tkI 2 l fun x2 => skE st (c91 x2)) (cuC 101 (fun l st s => tkC 0 71 l <| tkI 1 l fun x1 => tkI 2 l fun x2 => skE st (c101 x1 x2)) cuN))) 1000 4 [(0, aR 71), (1, aI x1), (2, aI x2)] [] := fun _ => rfl
  rw [e nX12_d] at q
  clear e
  refine segP_wk (by decide) (by decide) hg rwX12_areLeast (CLKP_C (pX12_d_ok hg) CLKP_N) krPI_ok ?_ q
  clear q
  refine ct_C ?_ (ct_C ?_ (ct_C ?_ (ct_N)))
  · intro l st _ q
    obtain ⟨m0, q1⟩ := tkC_of q
    obtain ⟨x2, m2, q2⟩ := tkI_of q1
    obtain ⟨rfl, q3⟩ := skE_of q2
    exact WK_less (k87 _ _ q3) (List.forall_mem_cons.mpr ⟨m0, (List.forall_mem_cons.mpr ⟨m2, (fun _ h => absurd h List.not_mem_nil)⟩)⟩)
  · intro l st _ q
    obtain ⟨m0, q1⟩ := tkC_of q
    obtain ⟨x2, m2, q2⟩ := tkI_of q1
    obtain ⟨rfl, q3⟩ := skE_of q2
    exact WK_less (k91 _ _ q3) (List.forall_mem_cons.mpr ⟨m0, (List.forall_mem_cons.mpr ⟨m2, (fun _ h => absurd h List.not_mem_nil)⟩)⟩)
  · intro l st _ q
    obtain ⟨m0, q1⟩ := tkC_of q
    obtain ⟨x1, m1, q2⟩ := tkI_of q1
    obtain ⟨x2, m2, q3⟩ := tkI_of q2
    obtain ⟨rfl, q4⟩ := skE_of q3
    exact WK_less (k101 _ _ _ q4) (List.forall_mem_cons.mpr ⟨m0, (List.forall_mem_cons.mpr ⟨m1, (List.forall_mem_cons.mpr ⟨m2, (fun _ h => absurd h List.not_mem_nil)⟩)⟩)⟩)
def nX12_areLeast_4 (h : HH) : Nat → Int → Int → Option Int := iter (fun _ _ => none) (fun self => bX12_areLeast_4 nX12_d h (nX12_areLeast_87 h self) (nX12_areLeast_91 h self) (nX12_areLeast_101 h 100000))
theorem nX12_areLeast_4_s {h : HH} {F : Nat} : nX12_areLeast_4 h (F + 1) = bX12_areLeast_4 nX12_d h (nX12_areLeast_87 h (nX12_areLeast_4 h F)) (nX12_areLeast_91 h (nX12_areLeast_4 h F)) (nX12_areLeast_101 h 100000) := rfl
theorem wX12_areLeast_4 {g : SG} (hg : GOK g) {σ0 : SG} {h : HH} : ∀ {F : Nat}, ∀ {x1 : Int} {x2 : Int} {b : Int}, nX12_areLeast_4 h F x1 x2 = some b → WK 269 (.inl (some (aI b))) σ0 (abH 71 119 g h) 4 [(0, aR 71), (1, aI x1), (2, aI x2)] [] (abH 71 119 g h) 0 0 := by
  intro F
  have z : ∀ (x1 : Int) (x2 : Int) (b : Int), nX12_areLeast_4 h F x1 x2 = some b → WK 269 (.inl (some (aI b))) σ0 (abH 71 119 g h) 4 [(0, aR 71), (1, aI x1), (2, aI x2)] [] (abH 71 119 g h) 0 0 := iter_ind (P := fun (c : Int → Int → Option Int) => ∀ (x1 : Int) (x2 : Int) (b : Int), c x1 x2 = some b → WK 269 (.inl (some (aI b))) σ0 (abH 71 119 g h) 4 [(0, aR 71), (1, aI x1), (2, aI x2)] [] (abH 71 119 g h) 0 0) (by
    intro x1 x2 b q
    cases q) (fun self ih => by
    intro x1 x2 b q
    exact uX12_areLeast_4 hg (fun _ _ q => wX12_areLeast_87 hg ih q) (fun _ _ q => wX12_areLeast_91 hg ih q) (fun _ _ _ q => wX12_areLeast_101 hg q) q) F
  intro x1 x2 b q
  exact z _ _ _ q
def bX12_areLeast (h : HH) (c4 : Int → Int → Option Int) : Option Int :=
  c4 1 0
theorem uX12_areLeast {g : SG} (hg : GOK g) {σ0 : SG} {h : HH} {c4 : Int → Int → Option Int} (k4 : ∀ (x1 : Int) (x2 : Int) (b : Int), c4 x1 x2 = some b → WK 269 (.inl (some (aI b))) σ0 (abH 71 119 g h) 4 [(0, aR 71), (1, aI x1), (2, aI x2)] [] (abH 71 119 g h) 0 0) : ∀ {b : Int}, bX12_areLeast h c4 = some b → WK 269 (.inl (some (aI b))) σ0 (abH 71 119 g h) 0 [(0, aR 71)] [] (abH 71 119 g h) 0 0 := by
  intro  b q
  have e : bX12_areLeast h c4 = segP 71 119 g.2.2.2.2 h krPI clNP csX12_areLeast (cuC 4 (fun l st s => tkC 0 71 l <| tkI 1 l fun x1 => tkI 2 l fun x2 => skE st (c4 x1 x2)) cuN) 1000 0 [(0, aR 71)] [] := rfl
  rw [e] at q
  clear e
  refine segP_wk (by decide) (by decide) hg rwX12_areLeast CLKP_N krPI_ok ?_ q
  clear q
  refine ct_C ?_ (ct_N)
  · intro l st _ q
    obtain ⟨m0, q1⟩ := tkC_of q
    obtain ⟨x1, m1, q2⟩ := tkI_of q1
    obtain ⟨x2, m2, q3⟩ := tkI_of q2
    obtain ⟨rfl, q4⟩ := skE_of q3
    exact WK_less (k4 _ _ _ q4) (List.forall_mem_cons.mpr ⟨m0, (List.forall_mem_cons.mpr ⟨m1, (List.forall_mem_cons.mpr ⟨m2, (fun _ h => absurd h List.not_mem_nil)⟩)⟩)⟩)
def nX12_areLeast (h : HH) : Option Int := bX12_areLeast h (nX12_areLeast_4 h 100000)
theorem wX12_areLeast {g : SG} (hg : GOK g) {σ0 : SG} {h : HH} : ∀ {b : Int}, nX12_areLeast h = some b → WK 269 (.inl (some (aI b))) σ0 (abH 71 119 g h) 0 [(0, aR 71)] [] (abH 71 119 g h) 0 0 := by
  intro  b q
  exact uX12_areLeast hg (fun _ _ _ q => wX12_areLeast_4 hg q) q
theorem mX12_areLeast {g : SG} (hg : GOK g) {h : HH} {b : Int} (q : nX12_areLeast h = some b) : MCT 269 [] [aR 71] (abH 71 119 g h) (.inl (some (aI b))) (abH 71 119 g h) :=
  mct_of (by decide) (MFok 269 (by decide +kernel)) (fun _ => Nat.le_of_ble_eq_true rfl) (wX12_areLeast hg q)
def pX12_areLeast {β : Type} (z : HH → Option Int) : PP β := fun h as f => skC 71 as fun as => skE as (bnd (z h) fun r => f (.inl (some (aI r))))
theorem pX12_areLeast_ok {β : Type} {g : SG} (hg : GOK g) : CP1 (β := β) 269 (pX12_areLeast nX12_areLeast) 71 119 g := fun h as f b q => by
  obtain ⟨as, rfl, q1⟩ := skC_of q
  obtain ⟨rfl, q0⟩ := skE_of q1
  obtain ⟨r, z1, z2⟩ := bnd_of q0
  exact ⟨_, z2, by decide, mX12_areLeast hg z1, rfl, rfl, fun z => absurd z (by decide)⟩
def csX12_isSame : List (Nat × List (Nat × ARow)) := [(38, [(0, 1, .iconst 1, 0, 0, 0), (1, 1, .istore_n 2, 0, 0, 0), (2, 1, .aload_n 0, 0, 0, 0), (3, 1, .iload_n 1, 0, 0, 0), (4, 3, .invokevirtual 343, 226, 2, 12), (7, 1, .iconst 0, 0, 0, 0), (8, 1, .istore_n 3, 0, 0, 0), (9, 1, .iload_n 3, 0, 0, 0), (10, 1, .aload_n 0, 0, 0, 0), (11, 3, .getfield 340, 12, 72, 0), (14, 1, .aload_n 0, 0, 0, 0), (15, 3, .getfield 340, 12, 72, 0), (18, 1, .imul, 0, 0, 0), (19, 3, .if_icmp .ge 85, 104, 0, 0), (22, 1, .aload_n 0, 0, 0, 0), (23, 1, .aload_n 0, 0, 0, 0), (24, 3, .getfield 154, 12, 68, 2), (27, 1, .iload_n 3, 0, 0, 0), (28, 1, .aload_n 0, 0, 0, 0), (29, 3, .getfield 340, 12, 72, 0), (32, 1, .idiv, 0, 0, 0), (33, 1, .iaload, 0, 0, 0), (34, 1, .aload_n 0, 0, 0, 0), (35, 3, .getfield 154, 12, 68, 2)]),
  (80, [(38, 1, .iload_n 3, 0, 0, 0), (39, 1, .aload_n 0, 0, 0, 0), (40, 3, .getfield 340, 12, 72, 0), (43, 1, .irem, 0, 0, 0), (44, 1, .iaload, 0, 0, 0), (45, 3, .invokevirtual 244, 181, 3, 12), (48, 2, .istore 4, 0, 0, 0), (50, 1, .iload_n 2, 0, 0, 0), (51, 3, .ifCond .eq 45, 96, 0, 0), (54, 2, .iload 4, 0, 0, 0), (56, 2, .ldc 188, 1000000000, 0, 0), (58, 3, .if_icmp .ge 38, 96, 0, 0), (61, 2, .iload 4, 0, 0, 0), (63, 1, .aload_n 0, 0, 0, 0), (64, 1, .aload_n 0, 0, 0, 0), (65, 3, .getfield 154, 12, 68, 2), (68, 1, .iload_n 3, 0, 0, 0), (69, 1, .aload_n 0, 0, 0, 0), (70, 3, .getfield 340, 12, 72, 0), (73, 1, .irem, 0, 0, 0), (74, 1, .iaload, 0, 0, 0), (75, 1, .aload_n 0, 0, 0, 0), (76, 3, .getfield 154, 12, 68, 2), (79, 1, .iload_n 3, 0, 0, 0)]),
  (100000, [(80, 1, .aload_n 0, 0, 0, 0), (81, 3, .getfield 340, 12, 72, 0), (84, 1, .idiv, 0, 0, 0), (85, 1, .iaload, 0, 0, 0), (86, 3, .invokevirtual 244, 181, 3, 12), (89, 3, .if_icmp .ne 7, 96, 0, 0), (92, 1, .iconst 1, 0, 0, 0), (93, 3, .goto 4, 97, 0, 0), (96, 1, .iconst 0, 0, 0, 0), (97, 1, .istore_n 2, 0, 0, 0), (98, 3, .iinc 3 1, 0, 0, 0), (101, 3, .goto (-92), 9, 0, 0), (104, 1, .iload_n 2, 0, 0, 0), (105, 1, .ireturn, 1, 0, 0)])]
theorem rwX12_isSame : rowsB (mB 270) (mO 270) (mX 270) (mIni 270) (mFr 270) (mLo 270) (mT 270) csX12_isSame = true := by decide +kernel
def bX12_isSame_97 (c9 : Int → Int → HH → Option (Int × HH)) (x3 : Int) (y0 : Int) (h : HH) : Option (Int × HH) :=
  gd (R32 (x3 + 1)) <|
    c9 y0 (x3 + 1) h
theorem uX12_isSame_97 {g : SG} (hg : GOK g) {σ0 : SG} {c9 : Int → Int → HH → Option (Int × HH)} (k9 : ∀ (x2 : Int) (x3 : Int) (h : HH) (b : (Int × HH)), c9 x2 x3 h = some b → WK 270 (.inl (some (aI b.1))) σ0 (abH 71 119 g b.2) 9 [(0, aR 71), (2, aI x2), (3, aI x3)] [] (abH 71 119 g h) 0 0) : ∀ {x3 : Int} {y0 : Int} {h : HH} {b : (Int × HH)}, bX12_isSame_97 c9 x3 y0 h = some b → WK 270 (.inl (some (aI b.1))) σ0 (abH 71 119 g b.2) 97 [(0, aR 71), (3, aI x3)] [aI y0] (abH 71 119 g h) 0 0 := by
  intro x3 y0 h b q
  have e : bX12_isSame_97 c9 x3 y0 h = segW 71 119 g.2.2.2.2 krWI clN csX12_isSame (cuC 9 (fun l st s => tkC 0 71 l <| tkI 2 l fun x2 => tkI 3 l fun x3 => skE st (c9 x2 x3 s)) cuN) 1000 97 [(0, aR 71), (3, aI x3)] [aI y0] h := rfl
  rw [e] at q
  clear e
  refine segW_wk (by decide) (by decide) hg rwX12_isSame CLKW_N krWI_ok ?_ q
  clear q
  refine ct_C ?_ (ct_N)
  · intro l st h q
    obtain ⟨m0, q1⟩ := tkC_of q
    obtain ⟨x2, m2, q2⟩ := tkI_of q1
    obtain ⟨x3, m3, q3⟩ := tkI_of q2
    obtain ⟨rfl, q4⟩ := skE_of q3
    exact WK_less (k9 _ _ _ _ q4) (List.forall_mem_cons.mpr ⟨m0, (List.forall_mem_cons.mpr ⟨m2, (List.forall_mem_cons.mpr ⟨m3, (fun _ h => absurd h List.not_mem_nil)⟩)⟩)⟩)
def nX12_isSame_97 (c9 : Int → Int → HH → Option (Int × HH)) (x3 : Int) (y0 : Int) (h : HH) : Option (Int × HH) := bX12_isSame_97 c9 x3 y0 h
theorem wX12_isSame_97 {g : SG} (hg : GOK g) {σ0 : SG} {c9 : Int → Int → HH → Option (Int × HH)} (k9 : ∀ (x2 : Int) (x3 : Int) (h : HH) (b : (Int × HH)), c9 x2 x3 h = some b → WK 270 (.inl (some (aI b.1))) σ0 (abH 71 119 g b.2) 9 [(0, aR 71), (2, aI x2), (3, aI x3)] [] (abH 71 119 g h) 0 0) : ∀ {x3 : Int} {y0 : Int} {h : HH} {b : (Int × HH)}, nX12_isSame_97 c9 x3 y0 h = some b → WK 270 (.inl (some (aI b.1))) σ0 (abH 71 119 g b.2) 97 [(0, aR 71), (3, aI x3)] [aI y0] (abH 71 119 g h) 0 0 := by
  intro x3 y0 h b q
  exact uX12_isSame_97 hg k9 q
def bX12_isSame_96 (c97 : Int → Int → HH → Option (Int × HH)) (x3 : Int) (h : HH) : Option (Int × HH) :=
  c97 x3 0 h
theorem uX12_isSame_96 {g : SG} (hg : GOK g) {σ0 : SG} {c97 : Int → Int → HH → Option (Int × HH)} (k97 : ∀ (x3 : Int) (y0 : Int) (h : HH) (b : (Int × HH)), c97 x3 y0 h = some b → WK 270 (.inl (some (aI b.1))) σ0 (abH 71 119 g b.2) 97 [(0, aR 71), (3, aI x3)] [aI y0] (abH 71 119 g h) 0 0) : ∀ {x3 : Int} {h : HH} {b : (Int × HH)}, bX12_isSame_96 c97 x3 h = some b → WK 270 (.inl (some (aI b.1))) σ0 (abH 71 119 g b.2) 96 [(0, aR 71), (3, aI x3)] [] (abH 71 119 g h) 0 0 := by
  intro x3 h b q
  have e : bX12_isSame_96 c97 x3 h = segW 71 119 g.2.2.2.2 krWI clN csX12_isSame (cuC 97 (fun l st s => tkC 0 71 l <| tkI 3 l fun x3 => skI st fun y0 st => skE st (c97 x3 y0 s)) cuN) 1000 96 [(0, aR 71), (3, aI x3)] [] h := rfl
  rw [e] at q
  clear e
  refine segW_wk (by decide) (by decide) hg rwX12_isSame CLKW_N krWI_ok ?_ q
  clear q
  refine ct_C ?_ (ct_N)
  · intro l st h q
    obtain ⟨m0, q1⟩ := tkC_of q
    obtain ⟨x3, m3, q2⟩ := tkI_of q1
    obtain ⟨y0, t0, rfl, q3⟩ := skI_of q2
    obtain ⟨rfl, q4⟩ := skE_of q3
    exact WK_less (k97 _ _ _ _ q4) (List.forall_mem_cons.mpr ⟨m0, (List.forall_mem_cons.mpr ⟨m3, (fun _ h => absurd h List.not_mem_nil)⟩)⟩)
def nX12_isSame_96 (c9 : Int → Int → HH → Option (Int × HH)) (x3 : Int) (h : HH) : Option (Int × HH) := bX12_isSame_96 (nX12_isSame_97 c9) x3 h
theorem wX12_isSame_96 {g : SG} (hg : GOK g) {σ0 : SG} {c9 : Int → Int → HH → Option (Int × HH)} (k9 : ∀ (x2 : Int) (x3 : Int) (h : HH) (b : (Int × HH)), c9 x2 x3 h = some b → WK 270 (.inl (some (aI b.1))) σ0 (abH 71 119 g b.2) 9 [(0, aR 71), (2, aI x2), (3, aI x3)] [] (abH 71 119 g h) 0 0) : ∀ {x3 : Int} {h : HH} {b : (Int × HH)}, nX12_isSame_96 c9 x3 h = some b → WK 270 (.inl (some (aI b.1))) σ0 (abH 71 119 g b.2) 96 [(0, aR 71), (3, aI x3)] [] (abH 71 119 g h) 0 0 := by
  intro x3 h b q
  exact uX12_isSame_96 hg (fun _ _ _ _ q => wX12_isSame_97 hg k9 q) q
def bX12_isSame_9 (f181 : HH → Int → Int → Option Int) (c96 : Int → HH → Option (Int × HH)) (c97 : Int → Int → HH → Option (Int × HH)) (x2 : Int) (x3 : Int) (h : HH) : Option (Int × HH) :=
  gd (R32 ((h.1 71 72) * (h.1 71 72))) <|
    if x3 < (((h.1 71 72) * (h.1 71 72)) : Int) then
    gd ((0 : Int) ≤ x3 ∧ (0 : Int) < (h.1 71 72)) <|
    gd ((0 : Int) ≤ (x3 / (h.1 71 72)) ∧ (x3 / (h.1 71 72)) < (10 : Int)) <|
    gd ((0 : Int) ≤ x3 ∧ (0 : Int) < (h.1 71 72)) <|
    gd ((0 : Int) ≤ (x3 % (h.1 71 72)) ∧ (x3 % (h.1 71 72)) < (10 : Int)) <|
    bnd (f181 h (h.1 114 (x3 / (h.1 71 72))) (h.1 114 (x3 % (h.1 71 72)))) fun r1 =>
    if x2 = (0 : Int) then
    c96 x3 h
  else
    if r1 < (1000000000 : Int) then
    gd ((0 : Int) ≤ x3 ∧ (0 : Int) < (h.1 71 72)) <|
    gd ((0 : Int) ≤ (x3 % (h.1 71 72)) ∧ (x3 % (h.1 71 72)) < (10 : Int)) <|
    gd ((0 : Int) ≤ x3 ∧ (0 : Int) < (h.1 71 72)) <|
    gd ((0 : Int) ≤ (x3 / (h.1 71 72)) ∧ (x3 / (h.1 71 72)) < (10 : Int)) <|
    bnd (f181 h (h.1 114 (x3 % (h.1 71 72))) (h.1 114 (x3 / (h.1 71 72)))) fun r2 =>
    if r1 = (r2 : Int) then
    c97 x3 1 h
  else
    c96 x3 h
  else
    c96 x3 h
  else
    gd ((0 : Int) ≤ x2 ∧ x2 ≤ (1 : Int)) <|
    some (x2, h)
set_option maxRecDepth 100000 in
theorem uX12_isSame_9 {g : SG} (hg : GOK g) {σ0 : SG} {c96 : Int → HH → Option (Int × HH)} {c97 : Int → Int → HH → Option (Int × HH)} (k96 : ∀ (x3 : Int) (h : HH) (b : (Int × HH)), c96 x3 h = some b → WK 270 (.inl (some (aI b.1))) σ0 (abH 71 119 g b.2) 96 [(0, aR 71), (3, aI x3)] [] (abH 71 119 g h) 0 0) (k97 : ∀ (x3 : Int) (y0 : Int) (h : HH) (b : (Int × HH)), c97 x3 y0 h = some b → WK 270 (.inl (some (aI b.1))) σ0 (abH 71 119 g b.2) 97 [(0, aR 71), (3, aI x3)] [aI y0] (abH 71 119 g h) 0 0) : ∀ {x2 : Int} {x3 : Int} {h : HH} {b : (Int × HH)}, bX12_isSame_9 nX12_d c96 c97 x2 x3 h = some b → WK 270 (.inl (some (aI b.1))) σ0 (abH 71 119 g b.2) 9 [(0, aR 71), (2, aI x2), (3, aI x3)] [] (abH 71 119 g h) 0 0 := by
  intro x2 x3 h b q
  have e : ∀ (f181 : HH → Int → Int → Option Int) , bX12_isSame_9 f181 c96 c97 x2 x3 h = segW 71 119 g.2.2.2.2 krWI (clC 181 (liPW (pX12_d f181)) clN) csX12_isSame (cuC 96 (fun l st s => tkC 0 71 l <| tkI 3 l fun x3 => skE st (c96 x3 s)) (cuC 97 (fun l st s => tkC 0 71 l <| tkI 3 l fun x3 => skI st fun y0 st => skE st (c97 x3 y0 s)) cuN)) 1000 9 [(0, aR 71), (2, aI x2), (3, aI x3)] [] h := fun _ => rfl
  rw [e nX12_d] at q
  clear e
  refine segW_wk (by decide) (by decide) hg rwX12_isSame (CLKW_C (liPW_ok (pX12_d_ok hg)) CLKW_N) krWI_ok ?_ q
  clear q
  refine ct_C ?_ (ct_C ?_ (ct_N))
  · intro l st h q
    obtain ⟨m0, q1⟩ := tkC_of q
    obtain ⟨x3, m3, q2⟩ := tkI_of q1
    obtain ⟨rfl, q3⟩ := skE_of q2
    exact WK_less (k96 _ _ _ q3) (List.forall_mem_cons.mpr ⟨m0, (List.forall_mem_cons.mpr ⟨m3, (fun _ h => absurd h List.not_mem_nil)⟩)⟩)
  · intro l st h q
    obtain ⟨m0, q1⟩ := tkC_of q
    obtain ⟨x3, m3, q2⟩ := tkI_of q1
    obtain ⟨y0, t0, rfl, q3⟩ := skI_of q2
    obtain ⟨rfl, q4⟩ := skE_of q3
    exact WK_less (k97 _ _ _ _ q4) (List.forall_mem_cons.mpr ⟨m0, (List.forall_mem_cons.mpr ⟨m3, (fun _ h => absurd h List.not_mem_nil)⟩)⟩)
def nX12_isSame_9 : Nat → Int → Int → HH → Option (Int × HH) := iter (fun _ _ _ => none) (fun self => bX12_isSame_9 nX12_d (nX12_isSame_96 self) (nX12_isSame_97 self))
theorem nX12_isSame_9_s {F : Nat} : nX12_isSame_9 (F + 1) = bX12_isSame_9 nX12_d (nX12_isSame_96 (nX12_isSame_9 F)) (nX12_isSame_97 (nX12_isSame_9 F)) := rfl
theorem wX12_isSame_9 {g : SG} (hg : GOK g) {σ0 : SG} : ∀ {F : Nat}, ∀ {x2 : Int} {x3 : Int} {h : HH} {b : (Int × HH)}, nX12_isSame_9 F x2 x3 h = some b → WK 270 (.inl (some (aI b.1))) σ0 (abH 71 119 g b.2) 9 [(0, aR 71), (2, aI x2), (3, aI x3)] [] (abH 71 119 g h) 0 0 := by
  intro F
  have z : ∀ (x2 : Int) (x3 : Int) (h : HH) (b : (Int × HH)), nX12_isSame_9 F x2 x3 h = some b → WK 270 (.inl (some (aI b.1))) σ0 (abH 71 119 g b.2) 9 [(0, aR 71), (2, aI x2), (3, aI x3)] [] (abH 71 119 g h) 0 0 := iter_ind (P := fun (c : Int → Int → HH → Option (Int × HH)) => ∀ (x2 : Int) (x3 : Int) (h : HH) (b : (Int × HH)), c x2 x3 h = some b → WK 270 (.inl (some (aI b.1))) σ0 (abH 71 119 g b.2) 9 [(0, aR 71), (2, aI x2), (3, aI x3)] [] (abH 71 119 g h) 0 0) (by
    intro x2 x3 h b q
    cases q) (fun self ih => by
    intro x2 x3 h b q
    exact uX12_isSame_9 hg (fun _ _ _ q => wX12_isSame_96 hg ih q) (fun _ _ _ _ q => wX12_isSame_97 hg ih q) q) F
  intro x2 x3 h b q
  exact z _ _ _ _ q
def bX12_isSame (f226 : Int → HH → Option HH) (c9 : Int → Int → HH → Option (Int × HH)) (x1 : Int) (h : HH) : Option (Int × HH) :=
  bnd (f226 x1 h) fun r1 =>
    c9 1 0 r1
theorem uX12_isSame {g : SG} (hg : GOK g) {σ0 : SG} {c9 : Int → Int → HH → Option (Int × HH)} (k9 : ∀ (x2 : Int) (x3 : Int) (h : HH) (b : (Int × HH)), c9 x2 x3 h = some b → WK 270 (.inl (some (aI b.1))) σ0 (abH 71 119 g b.2) 9 [(0, aR 71), (2, aI x2), (3, aI x3)] [] (abH 71 119 g h) 0 0) : ∀ {x1 : Int} {h : HH} {b : (Int × HH)}, bX12_isSame nX12_laysDoors c9 x1 h = some b → WK 270 (.inl (some (aI b.1))) σ0 (abH 71 119 g b.2) 0 [(0, aR 71), (1, aI x1)] [] (abH 71 119 g h) 0 0 := by
  intro x1 h b q
  have e : ∀ (f226 : Int → HH → Option HH) , bX12_isSame f226 c9 x1 h = segW 71 119 g.2.2.2.2 krWI (clC 226 (pX12_laysDoors f226) clN) csX12_isSame (cuC 9 (fun l st s => tkC 0 71 l <| tkI 2 l fun x2 => tkI 3 l fun x3 => skE st (c9 x2 x3 s)) cuN) 1000 0 [(0, aR 71), (1, aI x1)] [] h := fun _ => rfl
  rw [e nX12_laysDoors] at q
  clear e
  refine segW_wk (by decide) (by decide) hg rwX12_isSame (CLKW_C (pX12_laysDoors_ok hg) CLKW_N) krWI_ok ?_ q
  clear q
  refine ct_C ?_ (ct_N)
  · intro l st h q
    obtain ⟨m0, q1⟩ := tkC_of q
    obtain ⟨x2, m2, q2⟩ := tkI_of q1
    obtain ⟨x3, m3, q3⟩ := tkI_of q2
    obtain ⟨rfl, q4⟩ := skE_of q3
    exact WK_less (k9 _ _ _ _ q4) (List.forall_mem_cons.mpr ⟨m0, (List.forall_mem_cons.mpr ⟨m2, (List.forall_mem_cons.mpr ⟨m3, (fun _ h => absurd h List.not_mem_nil)⟩)⟩)⟩)
def nX12_isSame (x1 : Int) (h : HH) : Option (Int × HH) := bX12_isSame nX12_laysDoors (nX12_isSame_9 100000) x1 h
theorem wX12_isSame {g : SG} (hg : GOK g) {σ0 : SG} : ∀ {x1 : Int} {h : HH} {b : (Int × HH)}, nX12_isSame x1 h = some b → WK 270 (.inl (some (aI b.1))) σ0 (abH 71 119 g b.2) 0 [(0, aR 71), (1, aI x1)] [] (abH 71 119 g h) 0 0 := by
  intro x1 h b q
  exact uX12_isSame hg (fun _ _ _ _ q => wX12_isSame_9 hg q) q
theorem mX12_isSame {g : SG} (hg : GOK g) {h : HH} {x1 : Int} {b : (Int × HH)} (q : nX12_isSame x1 h = some b) : MCT 270 [] [aR 71, aI x1] (abH 71 119 g h) (.inl (some (aI b.1))) (abH 71 119 g b.2) :=
  mct_of (by decide) (MFok 270 (by decide +kernel)) (fun _ => Nat.le_of_ble_eq_true rfl) (wX12_isSame hg q)
def pX12_isSame {β : Type} (z : Int → HH → Option (Int × HH)) : PW β := fun as h f => skC 71 as fun as => skI as fun x1 as => skE as (bnd (z x1 h) fun r => f (.inl (some (aI r.1))) r.2)
theorem pX12_isSame_ok {β : Type} {g : SG} (hg : GOK g) : CW1 (β := β) 270 (pX12_isSame nX12_isSame) 71 119 g := fun as h f b q => by
  obtain ⟨as, rfl, q1⟩ := skC_of q
  obtain ⟨x1, as, rfl, q2⟩ := skI_of q1
  obtain ⟨rfl, q0⟩ := skE_of q2
  obtain ⟨r, z1, z2⟩ := bnd_of q0
  exact ⟨_, _, z2, by decide, mX12_isSame hg z1, rfl, rfl, fun z => absurd z (by decide)⟩
def csX12_tour : List (Nat × List (Nat × ARow)) := [(39, [(0, 1, .iconst 1, 0, 0, 0), (1, 1, .aload_n 0, 0, 0, 0), (2, 3, .getfield 340, 12, 72, 0), (5, 1, .ishl, 0, 0, 0), (6, 1, .istore_n 1, 0, 0, 0), (7, 1, .iconst 0, 0, 0, 0), (8, 1, .istore_n 2, 0, 0, 0), (9, 1, .iload_n 2, 0, 0, 0), (10, 2, .bipush 10, 0, 0, 0), (12, 1, .iload_n 1, 0, 0, 0), (13, 1, .imul, 0, 0, 0), (14, 3, .if_icmp .ge 17, 31, 0, 0), (17, 1, .aload_n 0, 0, 0, 0), (18, 3, .getfield 169, 12, 78, 2), (21, 1, .iload_n 2, 0, 0, 0), (22, 2, .ldc 188, 1000000000, 0, 0), (24, 1, .iastore, 0, 0, 0), (25, 3, .iinc 2 1, 0, 0, 0), (28, 3, .goto (-19), 9, 0, 0), (31, 1, .aload_n 0, 0, 0, 0), (32, 3, .getfield 169, 12, 78, 2), (35, 2, .bipush 10, 0, 0, 0), (37, 1, .iconst 0, 0, 0, 0), (38, 1, .iastore, 0, 0, 0)]),
  (77, [(39, 1, .iconst 1, 0, 0, 0), (40, 1, .istore_n 2, 0, 0, 0), (41, 1, .iload_n 2, 0, 0, 0), (42, 1, .iload_n 1, 0, 0, 0), (43, 3, .if_icmp .ge 134, 177, 0, 0), (46, 1, .iconst 0, 0, 0, 0), (47, 1, .istore_n 3, 0, 0, 0), (48, 1, .iload_n 3, 0, 0, 0), (49, 1, .aload_n 0, 0, 0, 0), (50, 3, .getfield 340, 12, 72, 0), (53, 1, .aload_n 0, 0, 0, 0), (54, 3, .getfield 340, 12, 72, 0), (57, 1, .imul, 0, 0, 0), (58, 3, .if_icmp .ge 113, 171, 0, 0), (61, 1, .iload_n 3, 0, 0, 0), (62, 1, .aload_n 0, 0, 0, 0), (63, 3, .getfield 340, 12, 72, 0), (66, 1, .idiv, 0, 0, 0), (67, 2, .istore 4, 0, 0, 0), (69, 1, .iload_n 3, 0, 0, 0), (70, 1, .aload_n 0, 0, 0, 0), (71, 3, .getfield 340, 12, 72, 0), (74, 1, .irem, 0, 0, 0), (75, 2, .istore 5, 0, 0, 0)]),
  (114, [(77, 1, .aload_n 0, 0, 0, 0), (78, 3, .getfield 169, 12, 78, 2), (81, 2, .bipush 10, 0, 0, 0), (83, 1, .iload_n 2, 0, 0, 0), (84, 1, .imul, 0, 0, 0), (85, 2, .iload 4, 0, 0, 0), (87, 1, .iadd, 0, 0, 0), (88, 1, .iaload, 0, 0, 0), (89, 2, .ldc 188, 1000000000, 0, 0), (91, 3, .if_icmp .ge 74, 165, 0, 0), (94, 1, .iload_n 2, 0, 0, 0), (95, 2, .iload 5, 0, 0, 0), (97, 1, .ishr, 0, 0, 0), (98, 1, .iconst 1, 0, 0, 0), (99, 1, .iand, 0, 0, 0), (100, 3, .ifCond .ne 65, 165, 0, 0), (103, 2, .bipush 10, 0, 0, 0), (105, 1, .iload_n 2, 0, 0, 0), (106, 1, .iconst 1, 0, 0, 0), (107, 2, .iload 5, 0, 0, 0), (109, 1, .ishl, 0, 0, 0), (110, 1, .ior, 0, 0, 0), (111, 1, .imul, 0, 0, 0), (112, 2, .iload 5, 0, 0, 0)]),
  (154, [(114, 1, .iadd, 0, 0, 0), (115, 2, .istore 6, 0, 0, 0), (117, 1, .aload_n 0, 0, 0, 0), (118, 3, .getfield 169, 12, 78, 2), (121, 2, .iload 6, 0, 0, 0), (123, 1, .aload_n 0, 0, 0, 0), (124, 3, .getfield 169, 12, 78, 2), (127, 2, .iload 6, 0, 0, 0), (129, 1, .iaload, 0, 0, 0), (130, 1, .aload_n 0, 0, 0, 0), (131, 3, .getfield 169, 12, 78, 2), (134, 2, .bipush 10, 0, 0, 0), (136, 1, .iload_n 2, 0, 0, 0), (137, 1, .imul, 0, 0, 0), (138, 2, .iload 4, 0, 0, 0), (140, 1, .iadd, 0, 0, 0), (141, 1, .iaload, 0, 0, 0), (142, 1, .aload_n 0, 0, 0, 0), (143, 1, .aload_n 0, 0, 0, 0), (144, 3, .getfield 154, 12, 68, 2), (147, 2, .iload 4, 0, 0, 0), (149, 1, .iaload, 0, 0, 0), (150, 1, .aload_n 0, 0, 0, 0), (151, 3, .getfield 154, 12, 68, 2)]),
  (199, [(154, 2, .iload 5, 0, 0, 0), (156, 1, .iaload, 0, 0, 0), (157, 3, .invokevirtual 244, 181, 3, 12), (160, 1, .iadd, 0, 0, 0), (161, 3, .invokestatic 212, 172, 2, 0), (164, 1, .iastore, 0, 0, 0), (165, 3, .iinc 3 1, 0, 0, 0), (168, 3, .goto (-120), 48, 0, 0), (171, 3, .iinc 2 2, 0, 0, 0), (174, 3, .goto (-133), 41, 0, 0), (177, 2, .ldc 188, 1000000000, 0, 0), (179, 1, .istore_n 2, 0, 0, 0), (180, 1, .iconst 0, 0, 0, 0), (181, 1, .istore_n 3, 0, 0, 0), (182, 1, .iload_n 3, 0, 0, 0), (183, 1, .aload_n 0, 0, 0, 0), (184, 3, .getfield 340, 12, 72, 0), (187, 3, .if_icmp .ge 54, 241, 0, 0), (190, 1, .aload_n 0, 0, 0, 0), (191, 3, .getfield 169, 12, 78, 2), (194, 2, .bipush 10, 0, 0, 0), (196, 1, .iload_n 1, 0, 0, 0), (197, 1, .iconst 1, 0, 0, 0), (198, 1, .isub, 0, 0, 0)]),
  (241, [(199, 1, .imul, 0, 0, 0), (200, 1, .iload_n 3, 0, 0, 0), (201, 1, .iadd, 0, 0, 0), (202, 1, .iaload, 0, 0, 0), (203, 2, .istore 4, 0, 0, 0), (205, 2, .iload 4, 0, 0, 0), (207, 2, .ldc 188, 1000000000, 0, 0), (209, 3, .if_icmp .ge 24, 233, 0, 0), (212, 1, .iload_n 2, 0, 0, 0), (213, 2, .iload 4, 0, 0, 0), (215, 1, .aload_n 0, 0, 0, 0), (216, 1, .aload_n 0, 0, 0, 0), (217, 3, .getfield 154, 12, 68, 2), (220, 1, .iload_n 3, 0, 0, 0), (221, 1, .iaload, 0, 0, 0), (222, 1, .iconst 0, 0, 0, 0), (223, 3, .invokevirtual 244, 181, 3, 12), (226, 1, .iadd, 0, 0, 0), (227, 3, .invokestatic 212, 172, 2, 0), (230, 3, .goto 4, 234, 0, 0), (233, 1, .iload_n 2, 0, 0, 0), (234, 1, .istore_n 2, 0, 0, 0), (235, 3, .iinc 3 1, 0, 0, 0), (238, 3, .goto (-56), 182, 0, 0)]),
  (100000, [(241, 1, .iload_n 2, 0, 0, 0), (242, 1, .ireturn, 0, 0, 0)])]
theorem rwX12_tour : rowsB (mB 271) (mO 271) (mX 271) (mIni 271) (mFr 271) (mLo 271) (mT 271) csX12_tour = true := by decide +kernel
def bX12_tour_234 (c182 : Int → Int → Int → HH → Option (Int × HH)) (x1 : Int) (x3 : Int) (y0 : Int) (h : HH) : Option (Int × HH) :=
  gd (R32 (x3 + 1)) <|
    c182 x1 y0 (x3 + 1) h
theorem uX12_tour_234 {g : SG} (hg : GOK g) {σ0 : SG} {c182 : Int → Int → Int → HH → Option (Int × HH)} (k182 : ∀ (x1 : Int) (x2 : Int) (x3 : Int) (h : HH) (b : (Int × HH)), c182 x1 x2 x3 h = some b → WK 271 (.inl (some (aI b.1))) σ0 (abH 71 119 g b.2) 182 [(0, aR 71), (1, aI x1), (2, aI x2), (3, aI x3)] [] (abH 71 119 g h) 0 0) : ∀ {x1 : Int} {x3 : Int} {y0 : Int} {h : HH} {b : (Int × HH)}, bX12_tour_234 c182 x1 x3 y0 h = some b → WK 271 (.inl (some (aI b.1))) σ0 (abH 71 119 g b.2) 234 [(0, aR 71), (1, aI x1), (3, aI x3)] [aI y0] (abH 71 119 g h) 0 0 := by
  intro x1 x3 y0 h b q
  have e : bX12_tour_234 c182 x1 x3 y0 h = segW 71 119 g.2.2.2.2 krWI clN csX12_tour (cuC 182 (fun l st s => tkC 0 71 l <| tkI 1 l fun x1 => tkI 2 l fun x2 => tkI 3 l fun x3 => skE st (c182 x1 x2 x3 s)) cuN) 1000 234 [(0, aR 71), (1, aI x1), (3, aI x3)] [aI y0] h := rfl
  rw [e] at q
  clear e
  refine segW_wk (by decide) (by decide) hg rwX12_tour CLKW_N krWI_ok ?_ q
  clear q
  refine ct_C ?_ (ct_N)
  · intro l st h q
    obtain ⟨m0, q1⟩ := tkC_of q
    obtain ⟨x1, m1, q2⟩ := tkI_of q1
    obtain ⟨x2, m2, q3⟩ := tkI_of q2
    obtain ⟨x3, m3, q4⟩ := tkI_of q3
    obtain ⟨rfl, q5⟩ := skE_of q4
    exact WK_less (k182 _ _ _ _ _ q5) (List.forall_mem_cons.mpr ⟨m0, (List.forall_mem_cons.mpr ⟨m1, (List.forall_mem_cons.mpr ⟨m2, (List.forall_mem_cons.mpr ⟨m3, (fun _ h => absurd h List.not_mem_nil)⟩)⟩)⟩)⟩)
def nX12_tour_234 (c182 : Int → Int → Int → HH → Option (Int × HH)) (x1 : Int) (x3 : Int) (y0 : Int) (h : HH) : Option (Int × HH) := bX12_tour_234 c182 x1 x3 y0 h
theorem wX12_tour_234 {g : SG} (hg : GOK g) {σ0 : SG} {c182 : Int → Int → Int → HH → Option (Int × HH)} (k182 : ∀ (x1 : Int) (x2 : Int) (x3 : Int) (h : HH) (b : (Int × HH)), c182 x1 x2 x3 h = some b → WK 271 (.inl (some (aI b.1))) σ0 (abH 71 119 g b.2) 182 [(0, aR 71), (1, aI x1), (2, aI x2), (3, aI x3)] [] (abH 71 119 g h) 0 0) : ∀ {x1 : Int} {x3 : Int} {y0 : Int} {h : HH} {b : (Int × HH)}, nX12_tour_234 c182 x1 x3 y0 h = some b → WK 271 (.inl (some (aI b.1))) σ0 (abH 71 119 g b.2) 234 [(0, aR 71), (1, aI x1), (3, aI x3)] [aI y0] (abH 71 119 g h) 0 0 := by
  intro x1 x3 y0 h b q
  exact uX12_tour_234 hg k182 q
def bX12_tour_182 (f181 : HH → Int → Int → Option Int) (f172 : HH → Int → Int → Option Int) (c234 : Int → Int → Int → HH → Option (Int × HH)) (x1 : Int) (x2 : Int) (x3 : Int) (h : HH) : Option (Int × HH) :=
  if x3 < ((h.1 71 72) : Int) then
    gd (R32 (x1 - 1)) <|
    gd (R32 (10 * (x1 - 1))) <|
    gd (R32 ((10 * (x1 - 1)) + x3)) <|
    gd ((0 : Int) ≤ ((10 * (x1 - 1)) + x3) ∧ ((10 * (x1 - 1)) + x3) < (10240 : Int)) <|
    if (h.1 119 ((10 * (x1 - 1)) + x3)) < (1000000000 : Int) then
    gd ((0 : Int) ≤ x3 ∧ x3 < (10 : Int)) <|
    bnd (f181 h (h.1 114 x3) 0) fun r1 =>
    gd (R32 ((h.1 119 ((10 * (x1 - 1)) + x3)) + r1)) <|
    bnd (f172 h x2 ((h.1 119 ((10 * (x1 - 1)) + x3)) + r1)) fun r2 =>
    c234 x1 x3 r2 h
  else
    c234 x1 x3 x2 h
  else
    some (x2, h)
set_option maxRecDepth 100000 in
theorem uX12_tour_182 {g : SG} (hg : GOK g) {σ0 : SG} {c234 : Int → Int → Int → HH → Option (Int × HH)} (k234 : ∀ (x1 : Int) (x3 : Int) (y0 : Int) (h : HH) (b : (Int × HH)), c234 x1 x3 y0 h = some b → WK 271 (.inl (some (aI b.1))) σ0 (abH 71 119 g b.2) 234 [(0, aR 71), (1, aI x1), (3, aI x3)] [aI y0] (abH 71 119 g h) 0 0) : ∀ {x1 : Int} {x2 : Int} {x3 : Int} {h : HH} {b : (Int × HH)}, bX12_tour_182 nX12_d nX12_less c234 x1 x2 x3 h = some b → WK 271 (.inl (some (aI b.1))) σ0 (abH 71 119 g b.2) 182 [(0, aR 71), (1, aI x1), (2, aI x2), (3, aI x3)] [] (abH 71 119 g h) 0 0 := by
  intro x1 x2 x3 h b q
  have e : ∀ (f181 : HH → Int → Int → Option Int) (f172 : HH → Int → Int → Option Int) , bX12_tour_182 f181 f172 c234 x1 x2 x3 h = segW 71 119 g.2.2.2.2 krWI (clC 181 (liPW (pX12_d f181)) (clC 172 (liPW (pX12_less f172)) clN)) csX12_tour (cuC 234 (fun l st s => tkC 0 71 l <| tkI 1 l fun x1 => tkI 3 l fun x3 => skI st fun y0 st => skE st (c234 x1 x3 y0 s)) cuN) 1000 182 [(0, aR 71), (1, aI x1), (2, aI x2), (3, aI x3)] [] h := fun _ _ => rfl
  rw [e nX12_d nX12_less] at q
  clear e
  refine segW_wk (by decide) (by decide) hg rwX12_tour (CLKW_C (liPW_ok (pX12_d_ok hg)) (CLKW_C (liPW_ok (pX12_less_ok hg)) CLKW_N)) krWI_ok ?_ q
  clear q
  refine ct_C ?_ (ct_N)
  · intro l st h q
    obtain ⟨m0, q1⟩ := tkC_of q
    obtain ⟨x1, m1, q2⟩ := tkI_of q1
    obtain ⟨x3, m3, q3⟩ := tkI_of q2
    obtain ⟨y0, t0, rfl, q4⟩ := skI_of q3
    obtain ⟨rfl, q5⟩ := skE_of q4
    exact WK_less (k234 _ _ _ _ _ q5) (List.forall_mem_cons.mpr ⟨m0, (List.forall_mem_cons.mpr ⟨m1, (List.forall_mem_cons.mpr ⟨m3, (fun _ h => absurd h List.not_mem_nil)⟩)⟩)⟩)
def nX12_tour_182 : Nat → Int → Int → Int → HH → Option (Int × HH) := iter (fun _ _ _ _ => none) (fun self => bX12_tour_182 nX12_d nX12_less (nX12_tour_234 self))
theorem nX12_tour_182_s {F : Nat} : nX12_tour_182 (F + 1) = bX12_tour_182 nX12_d nX12_less (nX12_tour_234 (nX12_tour_182 F)) := rfl
theorem wX12_tour_182 {g : SG} (hg : GOK g) {σ0 : SG} : ∀ {F : Nat}, ∀ {x1 : Int} {x2 : Int} {x3 : Int} {h : HH} {b : (Int × HH)}, nX12_tour_182 F x1 x2 x3 h = some b → WK 271 (.inl (some (aI b.1))) σ0 (abH 71 119 g b.2) 182 [(0, aR 71), (1, aI x1), (2, aI x2), (3, aI x3)] [] (abH 71 119 g h) 0 0 := by
  intro F
  have z : ∀ (x1 : Int) (x2 : Int) (x3 : Int) (h : HH) (b : (Int × HH)), nX12_tour_182 F x1 x2 x3 h = some b → WK 271 (.inl (some (aI b.1))) σ0 (abH 71 119 g b.2) 182 [(0, aR 71), (1, aI x1), (2, aI x2), (3, aI x3)] [] (abH 71 119 g h) 0 0 := iter_ind (P := fun (c : Int → Int → Int → HH → Option (Int × HH)) => ∀ (x1 : Int) (x2 : Int) (x3 : Int) (h : HH) (b : (Int × HH)), c x1 x2 x3 h = some b → WK 271 (.inl (some (aI b.1))) σ0 (abH 71 119 g b.2) 182 [(0, aR 71), (1, aI x1), (2, aI x2), (3, aI x3)] [] (abH 71 119 g h) 0 0) (by
    intro x1 x2 x3 h b q
    cases q) (fun self ih => by
    intro x1 x2 x3 h b q
    exact uX12_tour_182 hg (fun _ _ _ _ _ q => wX12_tour_234 hg ih q) q) F
  intro x1 x2 x3 h b q
  exact z _ _ _ _ _ q
def bX12_tour_165 (c48 : Int → Int → Int → HH → Option (Int × HH)) (x1 : Int) (x2 : Int) (x3 : Int) (h : HH) : Option (Int × HH) :=
  gd (R32 (x3 + 1)) <|
    c48 x1 x2 (x3 + 1) h
theorem uX12_tour_165 {g : SG} (hg : GOK g) {σ0 : SG} {c48 : Int → Int → Int → HH → Option (Int × HH)} (k48 : ∀ (x1 : Int) (x2 : Int) (x3 : Int) (h : HH) (b : (Int × HH)), c48 x1 x2 x3 h = some b → WK 271 (.inl (some (aI b.1))) σ0 (abH 71 119 g b.2) 48 [(0, aR 71), (1, aI x1), (2, aI x2), (3, aI x3)] [] (abH 71 119 g h) 0 0) : ∀ {x1 : Int} {x2 : Int} {x3 : Int} {h : HH} {b : (Int × HH)}, bX12_tour_165 c48 x1 x2 x3 h = some b → WK 271 (.inl (some (aI b.1))) σ0 (abH 71 119 g b.2) 165 [(0, aR 71), (1, aI x1), (2, aI x2), (3, aI x3)] [] (abH 71 119 g h) 0 0 := by
  intro x1 x2 x3 h b q
  have e : bX12_tour_165 c48 x1 x2 x3 h = segW 71 119 g.2.2.2.2 krWI clN csX12_tour (cuC 48 (fun l st s => tkC 0 71 l <| tkI 1 l fun x1 => tkI 2 l fun x2 => tkI 3 l fun x3 => skE st (c48 x1 x2 x3 s)) cuN) 1000 165 [(0, aR 71), (1, aI x1), (2, aI x2), (3, aI x3)] [] h := rfl
  rw [e] at q
  clear e
  refine segW_wk (by decide) (by decide) hg rwX12_tour CLKW_N krWI_ok ?_ q
  clear q
  refine ct_C ?_ (ct_N)
  · intro l st h q
    obtain ⟨m0, q1⟩ := tkC_of q
    obtain ⟨x1, m1, q2⟩ := tkI_of q1
    obtain ⟨x2, m2, q3⟩ := tkI_of q2
    obtain ⟨x3, m3, q4⟩ := tkI_of q3
    obtain ⟨rfl, q5⟩ := skE_of q4
    exact WK_less (k48 _ _ _ _ _ q5) (List.forall_mem_cons.mpr ⟨m0, (List.forall_mem_cons.mpr ⟨m1, (List.forall_mem_cons.mpr ⟨m2, (List.forall_mem_cons.mpr ⟨m3, (fun _ h => absurd h List.not_mem_nil)⟩)⟩)⟩)⟩)
def nX12_tour_165 (c41 : Int → Int → HH → Option (Int × HH)) (c48 : Int → Int → Int → HH → Option (Int × HH)) (x1 : Int) (x2 : Int) (x3 : Int) (h : HH) : Option (Int × HH) := bX12_tour_165 c48 x1 x2 x3 h
theorem wX12_tour_165 {g : SG} (hg : GOK g) {σ0 : SG} {c41 : Int → Int → HH → Option (Int × HH)} {c48 : Int → Int → Int → HH → Option (Int × HH)} (k41 : ∀ (x1 : Int) (x2 : Int) (h : HH) (b : (Int × HH)), c41 x1 x2 h = some b → WK 271 (.inl (some (aI b.1))) σ0 (abH 71 119 g b.2) 41 [(0, aR 71), (1, aI x1), (2, aI x2)] [] (abH 71 119 g h) 0 0) (k48 : ∀ (x1 : Int) (x2 : Int) (x3 : Int) (h : HH) (b : (Int × HH)), c48 x1 x2 x3 h = some b → WK 271 (.inl (some (aI b.1))) σ0 (abH 71 119 g b.2) 48 [(0, aR 71), (1, aI x1), (2, aI x2), (3, aI x3)] [] (abH 71 119 g h) 0 0) : ∀ {x1 : Int} {x2 : Int} {x3 : Int} {h : HH} {b : (Int × HH)}, nX12_tour_165 c41 c48 x1 x2 x3 h = some b → WK 271 (.inl (some (aI b.1))) σ0 (abH 71 119 g b.2) 165 [(0, aR 71), (1, aI x1), (2, aI x2), (3, aI x3)] [] (abH 71 119 g h) 0 0 := by
  intro x1 x2 x3 h b q
  exact uX12_tour_165 hg k48 q
def bX12_tour_103 (f181 : HH → Int → Int → Option Int) (f172 : HH → Int → Int → Option Int) (c165 : Int → Int → Int → HH → Option (Int × HH)) (x1 : Int) (x2 : Int) (x3 : Int) (x4 : Int) (x5 : Int) (h : HH) : Option (Int × HH) :=
  gd (R32 (10 * (orI x2 (shlI 1 x5)))) <|
    gd (R32 ((10 * (orI x2 (shlI 1 x5))) + x5)) <|
    gd ((0 : Int) ≤ ((10 * (orI x2 (shlI 1 x5))) + x5) ∧ ((10 * (orI x2 (shlI 1 x5))) + x5) < (10240 : Int)) <|
    gd (R32 (10 * x2)) <|
    gd (R32 ((10 * x2) + x4)) <|
    gd ((0 : Int) ≤ ((10 * x2) + x4) ∧ ((10 * x2) + x4) < (10240 : Int)) <|
    gd ((0 : Int) ≤ x4 ∧ x4 < (10 : Int)) <|
    gd ((0 : Int) ≤ x5 ∧ x5 < (10 : Int)) <|
    bnd (f181 h (h.1 114 x4) (h.1 114 x5)) fun r1 =>
    gd (R32 ((h.1 119 ((10 * x2) + x4)) + r1)) <|
    bnd (f172 h (h.1 119 ((10 * (orI x2 (shlI 1 x5))) + x5)) ((h.1 119 ((10 * x2) + x4)) + r1)) fun r2 =>
    gd ((0 : Int) ≤ ((10 * (orI x2 (shlI 1 x5))) + x5) ∧ ((10 * (orI x2 (shlI 1 x5))) + x5) < (10240 : Int)) <|
    bnd (some (hI h 119 ((10 * (orI x2 (shlI 1 x5))) + x5) r2)) fun h3 =>
    c165 x1 x2 x3 h3
set_option maxRecDepth 100000 in
theorem uX12_tour_103 {g : SG} (hg : GOK g) {σ0 : SG} {c165 : Int → Int → Int → HH → Option (Int × HH)} (k165 : ∀ (x1 : Int) (x2 : Int) (x3 : Int) (h : HH) (b : (Int × HH)), c165 x1 x2 x3 h = some b → WK 271 (.inl (some (aI b.1))) σ0 (abH 71 119 g b.2) 165 [(0, aR 71), (1, aI x1), (2, aI x2), (3, aI x3)] [] (abH 71 119 g h) 0 0) : ∀ {x1 : Int} {x2 : Int} {x3 : Int} {x4 : Int} {x5 : Int} {h : HH} {b : (Int × HH)}, bX12_tour_103 nX12_d nX12_less c165 x1 x2 x3 x4 x5 h = some b → WK 271 (.inl (some (aI b.1))) σ0 (abH 71 119 g b.2) 103 [(0, aR 71), (1, aI x1), (2, aI x2), (3, aI x3), (4, aI x4), (5, aI x5)] [] (abH 71 119 g h) 0 0 := by
  intro x1 x2 x3 x4 x5 h b q
  have e : ∀ (f181 : HH → Int → Int → Option Int) (f172 : HH → Int → Int → Option Int) , bX12_tour_103 f181 f172 c165 x1 x2 x3 x4 x5 h = segW 71 119 g.2.2.2.2 krWI (clC 181 (liPW (pX12_d f181)) (clC 172 (liPW (pX12_less f172)) clN)) csX12_tour (cuC 165 (fun l st s => tkC 0 71 l <| tkI 1 l fun x1 => tkI 2 l fun x2 => tkI 3 l fun x3 => skE st (c165 x1 x2 x3 s)) cuN) 1000 103 [(0, aR 71), (1, aI x1), (2, aI x2), (3, aI x3), (4, aI x4), (5, aI x5)] [] h := fun _ _ => rfl
  rw [e nX12_d nX12_less] at q
  clear e
  refine segW_wk (by decide) (by decide) hg rwX12_tour (CLKW_C (liPW_ok (pX12_d_ok hg)) (CLKW_C (liPW_ok (pX12_less_ok hg)) CLKW_N)) krWI_ok ?_ q
  clear q
  refine ct_C ?_ (ct_N)
  · intro l st h q
    obtain ⟨m0, q1⟩ := tkC_of q
    obtain ⟨x1, m1, q2⟩ := tkI_of q1
    obtain ⟨x2, m2, q3⟩ := tkI_of q2
    obtain ⟨x3, m3, q4⟩ := tkI_of q3
    obtain ⟨rfl, q5⟩ := skE_of q4
    exact WK_less (k165 _ _ _ _ _ q5) (List.forall_mem_cons.mpr ⟨m0, (List.forall_mem_cons.mpr ⟨m1, (List.forall_mem_cons.mpr ⟨m2, (List.forall_mem_cons.mpr ⟨m3, (fun _ h => absurd h List.not_mem_nil)⟩)⟩)⟩)⟩)
def nX12_tour_103 (c41 : Int → Int → HH → Option (Int × HH)) (c48 : Int → Int → Int → HH → Option (Int × HH)) (x1 : Int) (x2 : Int) (x3 : Int) (x4 : Int) (x5 : Int) (h : HH) : Option (Int × HH) := bX12_tour_103 nX12_d nX12_less (nX12_tour_165 c41 c48) x1 x2 x3 x4 x5 h
theorem wX12_tour_103 {g : SG} (hg : GOK g) {σ0 : SG} {c41 : Int → Int → HH → Option (Int × HH)} {c48 : Int → Int → Int → HH → Option (Int × HH)} (k41 : ∀ (x1 : Int) (x2 : Int) (h : HH) (b : (Int × HH)), c41 x1 x2 h = some b → WK 271 (.inl (some (aI b.1))) σ0 (abH 71 119 g b.2) 41 [(0, aR 71), (1, aI x1), (2, aI x2)] [] (abH 71 119 g h) 0 0) (k48 : ∀ (x1 : Int) (x2 : Int) (x3 : Int) (h : HH) (b : (Int × HH)), c48 x1 x2 x3 h = some b → WK 271 (.inl (some (aI b.1))) σ0 (abH 71 119 g b.2) 48 [(0, aR 71), (1, aI x1), (2, aI x2), (3, aI x3)] [] (abH 71 119 g h) 0 0) : ∀ {x1 : Int} {x2 : Int} {x3 : Int} {x4 : Int} {x5 : Int} {h : HH} {b : (Int × HH)}, nX12_tour_103 c41 c48 x1 x2 x3 x4 x5 h = some b → WK 271 (.inl (some (aI b.1))) σ0 (abH 71 119 g b.2) 103 [(0, aR 71), (1, aI x1), (2, aI x2), (3, aI x3), (4, aI x4), (5, aI x5)] [] (abH 71 119 g h) 0 0 := by
  intro x1 x2 x3 x4 x5 h b q
  exact uX12_tour_103 hg (fun _ _ _ _ _ q => wX12_tour_165 hg k41 k48 q) q
def bX12_tour_48 (c41 : Int → Int → HH → Option (Int × HH)) (c103 : Int → Int → Int → Int → Int → HH → Option (Int × HH)) (c165 : Int → Int → Int → HH → Option (Int × HH)) (x1 : Int) (x2 : Int) (x3 : Int) (h : HH) : Option (Int × HH) :=
  gd (R32 ((h.1 71 72) * (h.1 71 72))) <|
    if x3 < (((h.1 71 72) * (h.1 71 72)) : Int) then
    gd ((0 : Int) ≤ x3 ∧ (0 : Int) < (h.1 71 72)) <|
    gd ((0 : Int) ≤ x3 ∧ (0 : Int) < (h.1 71 72)) <|
    gd (R32 (10 * x2)) <|
    gd (R32 ((10 * x2) + (x3 / (h.1 71 72)))) <|
    gd ((0 : Int) ≤ ((10 * x2) + (x3 / (h.1 71 72))) ∧ ((10 * x2) + (x3 / (h.1 71 72))) < (10240 : Int)) <|
    if (h.1 119 ((10 * x2) + (x3 / (h.1 71 72)))) < (1000000000 : Int) then
    if (andI (shrI x2 (x3 % (h.1 71 72))) 1) = (0 : Int) then
    c103 x1 x2 x3 (x3 / (h.1 71 72)) (x3 % (h.1 71 72)) h
  else
    c165 x1 x2 x3 h
  else
    c165 x1 x2 x3 h
  else
    gd (R32 (x2 + 2)) <|
    c41 x1 (x2 + 2) h
set_option maxRecDepth 100000 in
theorem uX12_tour_48 {g : SG} (hg : GOK g) {σ0 : SG} {c41 : Int → Int → HH → Option (Int × HH)} {c103 : Int → Int → Int → Int → Int → HH → Option (Int × HH)} {c165 : Int → Int → Int → HH → Option (Int × HH)} (k41 : ∀ (x1 : Int) (x2 : Int) (h : HH) (b : (Int × HH)), c41 x1 x2 h = some b → WK 271 (.inl (some (aI b.1))) σ0 (abH 71 119 g b.2) 41 [(0, aR 71), (1, aI x1), (2, aI x2)] [] (abH 71 119 g h) 0 0) (k103 : ∀ (x1 : Int) (x2 : Int) (x3 : Int) (x4 : Int) (x5 : Int) (h : HH) (b : (Int × HH)), c103 x1 x2 x3 x4 x5 h = some b → WK 271 (.inl (some (aI b.1))) σ0 (abH 71 119 g b.2) 103 [(0, aR 71), (1, aI x1), (2, aI x2), (3, aI x3), (4, aI x4), (5, aI x5)] [] (abH 71 119 g h) 0 0) (k165 : ∀ (x1 : Int) (x2 : Int) (x3 : Int) (h : HH) (b : (Int × HH)), c165 x1 x2 x3 h = some b → WK 271 (.inl (some (aI b.1))) σ0 (abH 71 119 g b.2) 165 [(0, aR 71), (1, aI x1), (2, aI x2), (3, aI x3)] [] (abH 71 119 g h) 0 0) : ∀ {x1 : Int} {x2 : Int} {x3 : Int} {h : HH} {b : (Int × HH)}, bX12_tour_48 c41 c103 c165 x1 x2 x3 h = some b → WK 271 (.inl (some (aI b.1))) σ0 (abH 71 119 g b.2) 48 [(0, aR 71), (1, aI x1), (2, aI x2), (3, aI x3)] [] (abH 71 119 g h) 0 0 := by
  intro x1 x2 x3 h b q
  have e : bX12_tour_48 c41 c103 c165 x1 x2 x3 h = segW 71 119 g.2.2.2.2 krWI clN csX12_tour (cuC 41 (fun l st s => tkC 0 71 l <| tkI 1 l fun x1 => tkI 2 l fun x2 => skE st (c41 x1 x2 s)) (cuC 103 (fun l st s => tkC 0 71 l <| tkI 1 l fun x1 => tkI 2 l fun x2 => tkI 3 l fun x3 => tkI 4 l fun x4 => tkI 5 l fun x5 => skE st (c103 x1 x2 x3 x4 x5 s)) (cuC 165 (fun l st s => tkC 0 71 l <| tkI 1 l fun x1 => tkI 2 l fun x2 => tkI 3 l fun x3 => skE st (c165 x1 x2 x3 s)) cuN))) 1000 48 [(0, aR 71), (1, aI x1), (2, aI x2), (3, aI x3)] [] h := rfl
  rw [e] at q
  clear e
  refine segW_wk (by decide) (by decide) hg rwX12_tour CLKW_N krWI_ok ?_ q
  clear q
  refine ct_C ?_ (ct_C ?_ (ct_C ?_ (ct_N)))
  · intro l st h q
    obtain ⟨m0, q1⟩ := tkC_of q
    obtain ⟨x1, m1, q2⟩ := tkI_of q1
    obtain ⟨x2, m2, q3⟩ := tkI_of q2
    obtain ⟨rfl, q4⟩ := skE_of q3
    exact WK_less (k41 _ _ _ _ q4) (List.forall_mem_cons.mpr ⟨m0, (List.forall_mem_cons.mpr ⟨m1, (List.forall_mem_cons.mpr ⟨m2, (fun _ h => absurd h List.not_mem_nil)⟩)⟩)⟩)
  · intro l st h q
    obtain ⟨m0, q1⟩ := tkC_of q
    obtain ⟨x1, m1, q2⟩ := tkI_of q1
    obtain ⟨x2, m2, q3⟩ := tkI_of q2
    obtain ⟨x3, m3, q4⟩ := tkI_of q3
    obtain ⟨x4, m4, q5⟩ := tkI_of q4
    obtain ⟨x5, m5, q6⟩ := tkI_of q5
    obtain ⟨rfl, q7⟩ := skE_of q6
    exact WK_less (k103 _ _ _ _ _ _ _ q7) (List.forall_mem_cons.mpr ⟨m0, (List.forall_mem_cons.mpr ⟨m1, (List.forall_mem_cons.mpr ⟨m2, (List.forall_mem_cons.mpr ⟨m3, (List.forall_mem_cons.mpr ⟨m4, (List.forall_mem_cons.mpr ⟨m5, (fun _ h => absurd h List.not_mem_nil)⟩)⟩)⟩)⟩)⟩)⟩)
  · intro l st h q
    obtain ⟨m0, q1⟩ := tkC_of q
    obtain ⟨x1, m1, q2⟩ := tkI_of q1
    obtain ⟨x2, m2, q3⟩ := tkI_of q2
    obtain ⟨x3, m3, q4⟩ := tkI_of q3
    obtain ⟨rfl, q5⟩ := skE_of q4
    exact WK_less (k165 _ _ _ _ _ q5) (List.forall_mem_cons.mpr ⟨m0, (List.forall_mem_cons.mpr ⟨m1, (List.forall_mem_cons.mpr ⟨m2, (List.forall_mem_cons.mpr ⟨m3, (fun _ h => absurd h List.not_mem_nil)⟩)⟩)⟩)⟩)
def nX12_tour_48 (c41 : Int → Int → HH → Option (Int × HH)) : Nat → Int → Int → Int → HH → Option (Int × HH) := iter (fun _ _ _ _ => none) (fun self => bX12_tour_48 c41 (nX12_tour_103 c41 self) (nX12_tour_165 c41 self))
theorem nX12_tour_48_s {c41 : Int → Int → HH → Option (Int × HH)} {F : Nat} : nX12_tour_48 c41 (F + 1) = bX12_tour_48 c41 (nX12_tour_103 c41 (nX12_tour_48 c41 F)) (nX12_tour_165 c41 (nX12_tour_48 c41 F)) := rfl
theorem wX12_tour_48 {g : SG} (hg : GOK g) {σ0 : SG} {c41 : Int → Int → HH → Option (Int × HH)} (k41 : ∀ (x1 : Int) (x2 : Int) (h : HH) (b : (Int × HH)), c41 x1 x2 h = some b → WK 271 (.inl (some (aI b.1))) σ0 (abH 71 119 g b.2) 41 [(0, aR 71), (1, aI x1), (2, aI x2)] [] (abH 71 119 g h) 0 0) : ∀ {F : Nat}, ∀ {x1 : Int} {x2 : Int} {x3 : Int} {h : HH} {b : (Int × HH)}, nX12_tour_48 c41 F x1 x2 x3 h = some b → WK 271 (.inl (some (aI b.1))) σ0 (abH 71 119 g b.2) 48 [(0, aR 71), (1, aI x1), (2, aI x2), (3, aI x3)] [] (abH 71 119 g h) 0 0 := by
  intro F
  have z : ∀ (x1 : Int) (x2 : Int) (x3 : Int) (h : HH) (b : (Int × HH)), nX12_tour_48 c41 F x1 x2 x3 h = some b → WK 271 (.inl (some (aI b.1))) σ0 (abH 71 119 g b.2) 48 [(0, aR 71), (1, aI x1), (2, aI x2), (3, aI x3)] [] (abH 71 119 g h) 0 0 := iter_ind (P := fun (c : Int → Int → Int → HH → Option (Int × HH)) => ∀ (x1 : Int) (x2 : Int) (x3 : Int) (h : HH) (b : (Int × HH)), c x1 x2 x3 h = some b → WK 271 (.inl (some (aI b.1))) σ0 (abH 71 119 g b.2) 48 [(0, aR 71), (1, aI x1), (2, aI x2), (3, aI x3)] [] (abH 71 119 g h) 0 0) (by
    intro x1 x2 x3 h b q
    cases q) (fun self ih => by
    intro x1 x2 x3 h b q
    exact uX12_tour_48 hg k41 (fun _ _ _ _ _ _ _ q => wX12_tour_103 hg k41 ih q) (fun _ _ _ _ _ q => wX12_tour_165 hg k41 ih q) q) F
  intro x1 x2 x3 h b q
  exact z _ _ _ _ _ q
def bX12_tour_41 (c48 : Int → Int → Int → HH → Option (Int × HH)) (c182 : Int → Int → Int → HH → Option (Int × HH)) (x1 : Int) (x2 : Int) (h : HH) : Option (Int × HH) :=
  if x2 < (x1 : Int) then
    c48 x1 x2 0 h
  else
    c182 x1 1000000000 0 h
theorem uX12_tour_41 {g : SG} (hg : GOK g) {σ0 : SG} {c48 : Int → Int → Int → HH → Option (Int × HH)} {c182 : Int → Int → Int → HH → Option (Int × HH)} (k48 : ∀ (x1 : Int) (x2 : Int) (x3 : Int) (h : HH) (b : (Int × HH)), c48 x1 x2 x3 h = some b → WK 271 (.inl (some (aI b.1))) σ0 (abH 71 119 g b.2) 48 [(0, aR 71), (1, aI x1), (2, aI x2), (3, aI x3)] [] (abH 71 119 g h) 0 0) (k182 : ∀ (x1 : Int) (x2 : Int) (x3 : Int) (h : HH) (b : (Int × HH)), c182 x1 x2 x3 h = some b → WK 271 (.inl (some (aI b.1))) σ0 (abH 71 119 g b.2) 182 [(0, aR 71), (1, aI x1), (2, aI x2), (3, aI x3)] [] (abH 71 119 g h) 0 0) : ∀ {x1 : Int} {x2 : Int} {h : HH} {b : (Int × HH)}, bX12_tour_41 c48 c182 x1 x2 h = some b → WK 271 (.inl (some (aI b.1))) σ0 (abH 71 119 g b.2) 41 [(0, aR 71), (1, aI x1), (2, aI x2)] [] (abH 71 119 g h) 0 0 := by
  intro x1 x2 h b q
  have e : bX12_tour_41 c48 c182 x1 x2 h = segW 71 119 g.2.2.2.2 krWI clN csX12_tour (cuC 48 (fun l st s => tkC 0 71 l <| tkI 1 l fun x1 => tkI 2 l fun x2 => tkI 3 l fun x3 => skE st (c48 x1 x2 x3 s)) (cuC 182 (fun l st s => tkC 0 71 l <| tkI 1 l fun x1 => tkI 2 l fun x2 => tkI 3 l fun x3 => skE st (c182 x1 x2 x3 s)) cuN)) 1000 41 [(0, aR 71), (1, aI x1), (2, aI x2)] [] h := rfl
  rw [e] at q
  clear e
  refine segW_wk (by decide) (by decide) hg rwX12_tour CLKW_N krWI_ok ?_ q
  clear q
  refine ct_C ?_ (ct_C ?_ (ct_N))
  · intro l st h q
    obtain ⟨m0, q1⟩ := tkC_of q
    obtain ⟨x1, m1, q2⟩ := tkI_of q1
    obtain ⟨x2, m2, q3⟩ := tkI_of q2
    obtain ⟨x3, m3, q4⟩ := tkI_of q3
    obtain ⟨rfl, q5⟩ := skE_of q4
    exact WK_less (k48 _ _ _ _ _ q5) (List.forall_mem_cons.mpr ⟨m0, (List.forall_mem_cons.mpr ⟨m1, (List.forall_mem_cons.mpr ⟨m2, (List.forall_mem_cons.mpr ⟨m3, (fun _ h => absurd h List.not_mem_nil)⟩)⟩)⟩)⟩)
  · intro l st h q
    obtain ⟨m0, q1⟩ := tkC_of q
    obtain ⟨x1, m1, q2⟩ := tkI_of q1
    obtain ⟨x2, m2, q3⟩ := tkI_of q2
    obtain ⟨x3, m3, q4⟩ := tkI_of q3
    obtain ⟨rfl, q5⟩ := skE_of q4
    exact WK_less (k182 _ _ _ _ _ q5) (List.forall_mem_cons.mpr ⟨m0, (List.forall_mem_cons.mpr ⟨m1, (List.forall_mem_cons.mpr ⟨m2, (List.forall_mem_cons.mpr ⟨m3, (fun _ h => absurd h List.not_mem_nil)⟩)⟩)⟩)⟩)
def nX12_tour_41 : Nat → Int → Int → HH → Option (Int × HH) := iter (fun _ _ _ => none) (fun self => bX12_tour_41 (nX12_tour_48 self 100000) (nX12_tour_182 100000))
theorem nX12_tour_41_s {F : Nat} : nX12_tour_41 (F + 1) = bX12_tour_41 (nX12_tour_48 (nX12_tour_41 F) 100000) (nX12_tour_182 100000) := rfl
theorem wX12_tour_41 {g : SG} (hg : GOK g) {σ0 : SG} : ∀ {F : Nat}, ∀ {x1 : Int} {x2 : Int} {h : HH} {b : (Int × HH)}, nX12_tour_41 F x1 x2 h = some b → WK 271 (.inl (some (aI b.1))) σ0 (abH 71 119 g b.2) 41 [(0, aR 71), (1, aI x1), (2, aI x2)] [] (abH 71 119 g h) 0 0 := by
  intro F
  have z : ∀ (x1 : Int) (x2 : Int) (h : HH) (b : (Int × HH)), nX12_tour_41 F x1 x2 h = some b → WK 271 (.inl (some (aI b.1))) σ0 (abH 71 119 g b.2) 41 [(0, aR 71), (1, aI x1), (2, aI x2)] [] (abH 71 119 g h) 0 0 := iter_ind (P := fun (c : Int → Int → HH → Option (Int × HH)) => ∀ (x1 : Int) (x2 : Int) (h : HH) (b : (Int × HH)), c x1 x2 h = some b → WK 271 (.inl (some (aI b.1))) σ0 (abH 71 119 g b.2) 41 [(0, aR 71), (1, aI x1), (2, aI x2)] [] (abH 71 119 g h) 0 0) (by
    intro x1 x2 h b q
    cases q) (fun self ih => by
    intro x1 x2 h b q
    exact uX12_tour_41 hg (fun _ _ _ _ _ q => wX12_tour_48 hg ih q) (fun _ _ _ _ _ q => wX12_tour_182 hg q) q) F
  intro x1 x2 h b q
  exact z _ _ _ _ q
def bX12_tour_9 (c9 : Int → Int → HH → Option (Int × HH)) (c41 : Int → Int → HH → Option (Int × HH)) (x1 : Int) (x2 : Int) (h : HH) : Option (Int × HH) :=
  gd (R32 (10 * x1)) <|
    if x2 < ((10 * x1) : Int) then
    gd ((0 : Int) ≤ x2 ∧ x2 < (10240 : Int)) <|
    bnd (some (hI h 119 x2 1000000000)) fun h2 =>
    gd (R32 (x2 + 1)) <|
    c9 x1 (x2 + 1) h2
  else
    gd ((0 : Int) ≤ 10 ∧ 10 < (10240 : Int)) <|
    bnd (some (hI h 119 10 0)) fun h1 =>
    c41 x1 1 h1
theorem uX12_tour_9 {g : SG} (hg : GOK g) {σ0 : SG} {c9 : Int → Int → HH → Option (Int × HH)} {c41 : Int → Int → HH → Option (Int × HH)} (k9 : ∀ (x1 : Int) (x2 : Int) (h : HH) (b : (Int × HH)), c9 x1 x2 h = some b → WK 271 (.inl (some (aI b.1))) σ0 (abH 71 119 g b.2) 9 [(0, aR 71), (1, aI x1), (2, aI x2)] [] (abH 71 119 g h) 0 0) (k41 : ∀ (x1 : Int) (x2 : Int) (h : HH) (b : (Int × HH)), c41 x1 x2 h = some b → WK 271 (.inl (some (aI b.1))) σ0 (abH 71 119 g b.2) 41 [(0, aR 71), (1, aI x1), (2, aI x2)] [] (abH 71 119 g h) 0 0) : ∀ {x1 : Int} {x2 : Int} {h : HH} {b : (Int × HH)}, bX12_tour_9 c9 c41 x1 x2 h = some b → WK 271 (.inl (some (aI b.1))) σ0 (abH 71 119 g b.2) 9 [(0, aR 71), (1, aI x1), (2, aI x2)] [] (abH 71 119 g h) 0 0 := by
  intro x1 x2 h b q
  have e : bX12_tour_9 c9 c41 x1 x2 h = segW 71 119 g.2.2.2.2 krWI clN csX12_tour (cuC 9 (fun l st s => tkC 0 71 l <| tkI 1 l fun x1 => tkI 2 l fun x2 => skE st (c9 x1 x2 s)) (cuC 41 (fun l st s => tkC 0 71 l <| tkI 1 l fun x1 => tkI 2 l fun x2 => skE st (c41 x1 x2 s)) cuN)) 1000 9 [(0, aR 71), (1, aI x1), (2, aI x2)] [] h := rfl
  rw [e] at q
  clear e
  refine segW_wk (by decide) (by decide) hg rwX12_tour CLKW_N krWI_ok ?_ q
  clear q
  refine ct_C ?_ (ct_C ?_ (ct_N))
  · intro l st h q
    obtain ⟨m0, q1⟩ := tkC_of q
    obtain ⟨x1, m1, q2⟩ := tkI_of q1
    obtain ⟨x2, m2, q3⟩ := tkI_of q2
    obtain ⟨rfl, q4⟩ := skE_of q3
    exact WK_less (k9 _ _ _ _ q4) (List.forall_mem_cons.mpr ⟨m0, (List.forall_mem_cons.mpr ⟨m1, (List.forall_mem_cons.mpr ⟨m2, (fun _ h => absurd h List.not_mem_nil)⟩)⟩)⟩)
  · intro l st h q
    obtain ⟨m0, q1⟩ := tkC_of q
    obtain ⟨x1, m1, q2⟩ := tkI_of q1
    obtain ⟨x2, m2, q3⟩ := tkI_of q2
    obtain ⟨rfl, q4⟩ := skE_of q3
    exact WK_less (k41 _ _ _ _ q4) (List.forall_mem_cons.mpr ⟨m0, (List.forall_mem_cons.mpr ⟨m1, (List.forall_mem_cons.mpr ⟨m2, (fun _ h => absurd h List.not_mem_nil)⟩)⟩)⟩)
def nX12_tour_9 : Nat → Int → Int → HH → Option (Int × HH) := iter (fun _ _ _ => none) (fun self => bX12_tour_9 self (nX12_tour_41 100000))
theorem nX12_tour_9_s {F : Nat} : nX12_tour_9 (F + 1) = bX12_tour_9 (nX12_tour_9 F) (nX12_tour_41 100000) := rfl
theorem wX12_tour_9 {g : SG} (hg : GOK g) {σ0 : SG} : ∀ {F : Nat}, ∀ {x1 : Int} {x2 : Int} {h : HH} {b : (Int × HH)}, nX12_tour_9 F x1 x2 h = some b → WK 271 (.inl (some (aI b.1))) σ0 (abH 71 119 g b.2) 9 [(0, aR 71), (1, aI x1), (2, aI x2)] [] (abH 71 119 g h) 0 0 := by
  intro F
  have z : ∀ (x1 : Int) (x2 : Int) (h : HH) (b : (Int × HH)), nX12_tour_9 F x1 x2 h = some b → WK 271 (.inl (some (aI b.1))) σ0 (abH 71 119 g b.2) 9 [(0, aR 71), (1, aI x1), (2, aI x2)] [] (abH 71 119 g h) 0 0 := iter_ind (P := fun (c : Int → Int → HH → Option (Int × HH)) => ∀ (x1 : Int) (x2 : Int) (h : HH) (b : (Int × HH)), c x1 x2 h = some b → WK 271 (.inl (some (aI b.1))) σ0 (abH 71 119 g b.2) 9 [(0, aR 71), (1, aI x1), (2, aI x2)] [] (abH 71 119 g h) 0 0) (by
    intro x1 x2 h b q
    cases q) (fun self ih => by
    intro x1 x2 h b q
    exact uX12_tour_9 hg ih (fun _ _ _ _ q => wX12_tour_41 hg q) q) F
  intro x1 x2 h b q
  exact z _ _ _ _ q
def bX12_tour (c9 : Int → Int → HH → Option (Int × HH)) (h : HH) : Option (Int × HH) :=
  c9 (shlI 1 (h.1 71 72)) 0 h
theorem uX12_tour {g : SG} (hg : GOK g) {σ0 : SG} {c9 : Int → Int → HH → Option (Int × HH)} (k9 : ∀ (x1 : Int) (x2 : Int) (h : HH) (b : (Int × HH)), c9 x1 x2 h = some b → WK 271 (.inl (some (aI b.1))) σ0 (abH 71 119 g b.2) 9 [(0, aR 71), (1, aI x1), (2, aI x2)] [] (abH 71 119 g h) 0 0) : ∀ {h : HH} {b : (Int × HH)}, bX12_tour c9 h = some b → WK 271 (.inl (some (aI b.1))) σ0 (abH 71 119 g b.2) 0 [(0, aR 71)] [] (abH 71 119 g h) 0 0 := by
  intro h b q
  have e : bX12_tour c9 h = segW 71 119 g.2.2.2.2 krWI clN csX12_tour (cuC 9 (fun l st s => tkC 0 71 l <| tkI 1 l fun x1 => tkI 2 l fun x2 => skE st (c9 x1 x2 s)) cuN) 1000 0 [(0, aR 71)] [] h := rfl
  rw [e] at q
  clear e
  refine segW_wk (by decide) (by decide) hg rwX12_tour CLKW_N krWI_ok ?_ q
  clear q
  refine ct_C ?_ (ct_N)
  · intro l st h q
    obtain ⟨m0, q1⟩ := tkC_of q
    obtain ⟨x1, m1, q2⟩ := tkI_of q1
    obtain ⟨x2, m2, q3⟩ := tkI_of q2
    obtain ⟨rfl, q4⟩ := skE_of q3
    exact WK_less (k9 _ _ _ _ q4) (List.forall_mem_cons.mpr ⟨m0, (List.forall_mem_cons.mpr ⟨m1, (List.forall_mem_cons.mpr ⟨m2, (fun _ h => absurd h List.not_mem_nil)⟩)⟩)⟩)
def nX12_tour (h : HH) : Option (Int × HH) := bX12_tour (nX12_tour_9 100000) h
theorem wX12_tour {g : SG} (hg : GOK g) {σ0 : SG} : ∀ {h : HH} {b : (Int × HH)}, nX12_tour h = some b → WK 271 (.inl (some (aI b.1))) σ0 (abH 71 119 g b.2) 0 [(0, aR 71)] [] (abH 71 119 g h) 0 0 := by
  intro h b q
  exact uX12_tour hg (fun _ _ _ _ q => wX12_tour_9 hg q) q
theorem mX12_tour {g : SG} (hg : GOK g) {h : HH} {b : (Int × HH)} (q : nX12_tour h = some b) : MCT 271 [] [aR 71] (abH 71 119 g h) (.inl (some (aI b.1))) (abH 71 119 g b.2) :=
  mct_of (by decide) (MFok 271 (by decide +kernel)) (fun _ => Nat.le_of_ble_eq_true rfl) (wX12_tour hg q)
def pX12_tour {β : Type} (z : HH → Option (Int × HH)) : PW β := fun as h f => skC 71 as fun as => skE as (bnd (z h) fun r => f (.inl (some (aI r.1))) r.2)
theorem pX12_tour_ok {β : Type} {g : SG} (hg : GOK g) : CW1 (β := β) 271 (pX12_tour nX12_tour) 71 119 g := fun as h f b q => by
  obtain ⟨as, rfl, q1⟩ := skC_of q
  obtain ⟨rfl, q0⟩ := skE_of q1
  obtain ⟨r, z1, z2⟩ := bnd_of q0
  exact ⟨_, _, z2, by decide, mX12_tour hg z1, rfl, rfl, fun z => absurd z (by decide)⟩
def csX12_errorsOf : List (Nat × List (Nat × ARow)) := [(38, [(0, 1, .aload_n 0, 0, 0, 0), (1, 1, .iload_n 1, 0, 0, 0), (2, 3, .invokevirtual 310, 197, 2, 12), (5, 1, .istore_n 2, 0, 0, 0), (6, 1, .iload_n 2, 0, 0, 0), (7, 1, .iconst (-1), 0, 0, 0), (8, 3, .if_icmp .ne 7, 15, 0, 0), (11, 1, .iconst 1, 0, 0, 0), (12, 3, .goto 4, 16, 0, 0), (15, 1, .iconst 0, 0, 0, 0), (16, 1, .istore_n 3, 0, 0, 0), (17, 1, .aload_n 0, 0, 0, 0), (18, 1, .iload_n 1, 0, 0, 0), (19, 3, .invokevirtual 352, 227, 2, 12), (22, 1, .iload_n 3, 0, 0, 0), (23, 1, .aload_n 0, 0, 0, 0), (24, 3, .getfield 79, 12, 26, 2), (27, 1, .iload_n 1, 0, 0, 0), (28, 1, .iaload, 0, 0, 0), (29, 3, .ifCond .le 21, 50, 0, 0), (32, 1, .iload_n 2, 0, 0, 0), (33, 1, .aload_n 0, 0, 0, 0), (34, 3, .getfield 346, 12, 73, 0), (37, 1, .aload_n 0, 0, 0, 0)]),
  (81, [(38, 1, .iload_n 1, 0, 0, 0), (39, 3, .invokevirtual 359, 229, 2, 12), (42, 1, .iadd, 0, 0, 0), (43, 3, .if_icmp .ge 7, 50, 0, 0), (46, 1, .iconst 1, 0, 0, 0), (47, 3, .goto 4, 51, 0, 0), (50, 1, .iconst 0, 0, 0, 0), (51, 1, .iadd, 0, 0, 0), (52, 1, .istore_n 3, 0, 0, 0), (53, 1, .aload_n 0, 0, 0, 0), (54, 3, .getfield 346, 12, 73, 0), (57, 1, .aload_n 0, 0, 0, 0), (58, 3, .invokevirtual 355, 228, 1, 12), (61, 1, .iadd, 0, 0, 0), (62, 2, .istore 4, 0, 0, 0), (64, 1, .aload_n 0, 0, 0, 0), (65, 3, .getfield 79, 12, 26, 2), (68, 1, .iload_n 1, 0, 0, 0), (69, 1, .iaload, 0, 0, 0), (70, 3, .ifCond .le 43, 113, 0, 0), (73, 1, .aload_n 0, 0, 0, 0), (74, 1, .iload_n 1, 0, 0, 0), (75, 3, .invokevirtual 442, 270, 2, 12), (78, 3, .ifCond .eq 35, 113, 0, 0)]),
  (118, [(81, 1, .aload_n 0, 0, 0, 0), (82, 3, .invokevirtual 445, 271, 1, 12), (85, 2, .istore 5, 0, 0, 0), (87, 1, .iload_n 3, 0, 0, 0), (88, 2, .iload 4, 0, 0, 0), (90, 2, .iload 5, 0, 0, 0), (92, 3, .if_icmp .lt 14, 106, 0, 0), (95, 1, .iconst 2, 0, 0, 0), (96, 2, .iload 4, 0, 0, 0), (98, 1, .imul, 0, 0, 0), (99, 1, .iconst 3, 0, 0, 0), (100, 2, .iload 5, 0, 0, 0), (102, 1, .imul, 0, 0, 0), (103, 3, .if_icmp .le 7, 110, 0, 0), (106, 1, .iconst 1, 0, 0, 0), (107, 3, .goto 4, 111, 0, 0), (110, 1, .iconst 0, 0, 0, 0), (111, 1, .iadd, 0, 0, 0), (112, 1, .istore_n 3, 0, 0, 0), (113, 1, .iload_n 3, 0, 0, 0), (114, 1, .iload_n 2, 0, 0, 0), (115, 1, .aload_n 0, 0, 0, 0), (116, 1, .iload_n 1, 0, 0, 0), (117, 1, .aload_n 0, 0, 0, 0)]),
  (100000, [(118, 1, .iload_n 1, 0, 0, 0), (119, 3, .invokevirtual 334, 222, 2, 12), (122, 3, .invokevirtual 337, 221, 3, 12), (125, 3, .if_icmp .ge 7, 132, 0, 0), (128, 1, .iconst 1, 0, 0, 0), (129, 3, .goto 4, 133, 0, 0), (132, 1, .iconst 0, 0, 0, 0), (133, 1, .iadd, 0, 0, 0), (134, 1, .ireturn, 0, 0, 0)])]
theorem rwX12_errorsOf : rowsB (mB 272) (mO 272) (mX 272) (mIni 272) (mFr 272) (mLo 272) (mT 272) csX12_errorsOf = true := by decide +kernel
def bX12_errorsOf_113 (f222 : Int → HH → Option (Int × HH)) (f221 : Int → Int → HH → Option (Int × HH)) (x1 : Int) (x2 : Int) (x3 : Int) (h : HH) : Option (Int × HH) :=
  bnd (f222 x1 h) fun r1 =>
    bnd (f221 x1 r1.1 r1.2) fun r2 =>
    if x2 < (r2.1 : Int) then
    gd (R32 (x3 + 1)) <|
    some ((x3 + 1), r2.2)
  else
    gd (R32 (x3 + 0)) <|
    some ((x3 + 0), r2.2)
theorem uX12_errorsOf_113 {g : SG} (hg : GOK g) {σ0 : SG} : ∀ {x1 : Int} {x2 : Int} {x3 : Int} {h : HH} {b : (Int × HH)}, bX12_errorsOf_113 nX12_sorts nX12_exactOf x1 x2 x3 h = some b → WK 272 (.inl (some (aI b.1))) σ0 (abH 71 119 g b.2) 113 [(0, aR 71), (1, aI x1), (2, aI x2), (3, aI x3)] [] (abH 71 119 g h) 0 0 := by
  intro x1 x2 x3 h b q
  have e : ∀ (f222 : Int → HH → Option (Int × HH)) (f221 : Int → Int → HH → Option (Int × HH)) , bX12_errorsOf_113 f222 f221 x1 x2 x3 h = segW 71 119 g.2.2.2.2 krWI (clC 222 (pX12_sorts f222) (clC 221 (pX12_exactOf f221) clN)) csX12_errorsOf cuN 1000 113 [(0, aR 71), (1, aI x1), (2, aI x2), (3, aI x3)] [] h := fun _ _ => rfl
  rw [e nX12_sorts nX12_exactOf] at q
  clear e
  refine segW_wk (by decide) (by decide) hg rwX12_errorsOf (CLKW_C (pX12_sorts_ok hg) (CLKW_C (pX12_exactOf_ok hg) CLKW_N)) krWI_ok ?_ q
  clear q
  exact ct_N
def nX12_errorsOf_113 (x1 : Int) (x2 : Int) (x3 : Int) (h : HH) : Option (Int × HH) := bX12_errorsOf_113 nX12_sorts nX12_exactOf x1 x2 x3 h
theorem wX12_errorsOf_113 {g : SG} (hg : GOK g) {σ0 : SG} : ∀ {x1 : Int} {x2 : Int} {x3 : Int} {h : HH} {b : (Int × HH)}, nX12_errorsOf_113 x1 x2 x3 h = some b → WK 272 (.inl (some (aI b.1))) σ0 (abH 71 119 g b.2) 113 [(0, aR 71), (1, aI x1), (2, aI x2), (3, aI x3)] [] (abH 71 119 g h) 0 0 := by
  intro x1 x2 x3 h b q
  exact uX12_errorsOf_113 hg q
def bX12_errorsOf_111 (c113 : Int → Int → Int → HH → Option (Int × HH)) (x1 : Int) (x2 : Int) (y0 : Int) (y1 : Int) (h : HH) : Option (Int × HH) :=
  gd (R32 (y1 + y0)) <|
    c113 x1 x2 (y1 + y0) h
theorem uX12_errorsOf_111 {g : SG} (hg : GOK g) {σ0 : SG} {c113 : Int → Int → Int → HH → Option (Int × HH)} (k113 : ∀ (x1 : Int) (x2 : Int) (x3 : Int) (h : HH) (b : (Int × HH)), c113 x1 x2 x3 h = some b → WK 272 (.inl (some (aI b.1))) σ0 (abH 71 119 g b.2) 113 [(0, aR 71), (1, aI x1), (2, aI x2), (3, aI x3)] [] (abH 71 119 g h) 0 0) : ∀ {x1 : Int} {x2 : Int} {y0 : Int} {y1 : Int} {h : HH} {b : (Int × HH)}, bX12_errorsOf_111 c113 x1 x2 y0 y1 h = some b → WK 272 (.inl (some (aI b.1))) σ0 (abH 71 119 g b.2) 111 [(0, aR 71), (1, aI x1), (2, aI x2)] [aI y0, aI y1] (abH 71 119 g h) 0 0 := by
  intro x1 x2 y0 y1 h b q
  have e : bX12_errorsOf_111 c113 x1 x2 y0 y1 h = segW 71 119 g.2.2.2.2 krWI clN csX12_errorsOf (cuC 113 (fun l st s => tkC 0 71 l <| tkI 1 l fun x1 => tkI 2 l fun x2 => tkI 3 l fun x3 => skE st (c113 x1 x2 x3 s)) cuN) 1000 111 [(0, aR 71), (1, aI x1), (2, aI x2)] [aI y0, aI y1] h := rfl
  rw [e] at q
  clear e
  refine segW_wk (by decide) (by decide) hg rwX12_errorsOf CLKW_N krWI_ok ?_ q
  clear q
  refine ct_C ?_ (ct_N)
  · intro l st h q
    obtain ⟨m0, q1⟩ := tkC_of q
    obtain ⟨x1, m1, q2⟩ := tkI_of q1
    obtain ⟨x2, m2, q3⟩ := tkI_of q2
    obtain ⟨x3, m3, q4⟩ := tkI_of q3
    obtain ⟨rfl, q5⟩ := skE_of q4
    exact WK_less (k113 _ _ _ _ _ q5) (List.forall_mem_cons.mpr ⟨m0, (List.forall_mem_cons.mpr ⟨m1, (List.forall_mem_cons.mpr ⟨m2, (List.forall_mem_cons.mpr ⟨m3, (fun _ h => absurd h List.not_mem_nil)⟩)⟩)⟩)⟩)
def nX12_errorsOf_111 (x1 : Int) (x2 : Int) (y0 : Int) (y1 : Int) (h : HH) : Option (Int × HH) := bX12_errorsOf_111 nX12_errorsOf_113 x1 x2 y0 y1 h
theorem wX12_errorsOf_111 {g : SG} (hg : GOK g) {σ0 : SG} : ∀ {x1 : Int} {x2 : Int} {y0 : Int} {y1 : Int} {h : HH} {b : (Int × HH)}, nX12_errorsOf_111 x1 x2 y0 y1 h = some b → WK 272 (.inl (some (aI b.1))) σ0 (abH 71 119 g b.2) 111 [(0, aR 71), (1, aI x1), (2, aI x2)] [aI y0, aI y1] (abH 71 119 g h) 0 0 := by
  intro x1 x2 y0 y1 h b q
  exact uX12_errorsOf_111 hg (fun _ _ _ _ _ q => wX12_errorsOf_113 hg q) q
def bX12_errorsOf_106 (c111 : Int → Int → Int → Int → HH → Option (Int × HH)) (x1 : Int) (x2 : Int) (y0 : Int) (h : HH) : Option (Int × HH) :=
  c111 x1 x2 1 y0 h
theorem uX12_errorsOf_106 {g : SG} (hg : GOK g) {σ0 : SG} {c111 : Int → Int → Int → Int → HH → Option (Int × HH)} (k111 : ∀ (x1 : Int) (x2 : Int) (y0 : Int) (y1 : Int) (h : HH) (b : (Int × HH)), c111 x1 x2 y0 y1 h = some b → WK 272 (.inl (some (aI b.1))) σ0 (abH 71 119 g b.2) 111 [(0, aR 71), (1, aI x1), (2, aI x2)] [aI y0, aI y1] (abH 71 119 g h) 0 0) : ∀ {x1 : Int} {x2 : Int} {y0 : Int} {h : HH} {b : (Int × HH)}, bX12_errorsOf_106 c111 x1 x2 y0 h = some b → WK 272 (.inl (some (aI b.1))) σ0 (abH 71 119 g b.2) 106 [(0, aR 71), (1, aI x1), (2, aI x2)] [aI y0] (abH 71 119 g h) 0 0 := by
  intro x1 x2 y0 h b q
  have e : bX12_errorsOf_106 c111 x1 x2 y0 h = segW 71 119 g.2.2.2.2 krWI clN csX12_errorsOf (cuC 111 (fun l st s => tkC 0 71 l <| tkI 1 l fun x1 => tkI 2 l fun x2 => skI st fun y0 st => skI st fun y1 st => skE st (c111 x1 x2 y0 y1 s)) cuN) 1000 106 [(0, aR 71), (1, aI x1), (2, aI x2)] [aI y0] h := rfl
  rw [e] at q
  clear e
  refine segW_wk (by decide) (by decide) hg rwX12_errorsOf CLKW_N krWI_ok ?_ q
  clear q
  refine ct_C ?_ (ct_N)
  · intro l st h q
    obtain ⟨m0, q1⟩ := tkC_of q
    obtain ⟨x1, m1, q2⟩ := tkI_of q1
    obtain ⟨x2, m2, q3⟩ := tkI_of q2
    obtain ⟨y0, t0, rfl, q4⟩ := skI_of q3
    obtain ⟨y1, t1, rfl, q5⟩ := skI_of q4
    obtain ⟨rfl, q6⟩ := skE_of q5
    exact WK_less (k111 _ _ _ _ _ _ q6) (List.forall_mem_cons.mpr ⟨m0, (List.forall_mem_cons.mpr ⟨m1, (List.forall_mem_cons.mpr ⟨m2, (fun _ h => absurd h List.not_mem_nil)⟩)⟩)⟩)
def nX12_errorsOf_106 (x1 : Int) (x2 : Int) (y0 : Int) (h : HH) : Option (Int × HH) := bX12_errorsOf_106 nX12_errorsOf_111 x1 x2 y0 h
theorem wX12_errorsOf_106 {g : SG} (hg : GOK g) {σ0 : SG} : ∀ {x1 : Int} {x2 : Int} {y0 : Int} {h : HH} {b : (Int × HH)}, nX12_errorsOf_106 x1 x2 y0 h = some b → WK 272 (.inl (some (aI b.1))) σ0 (abH 71 119 g b.2) 106 [(0, aR 71), (1, aI x1), (2, aI x2)] [aI y0] (abH 71 119 g h) 0 0 := by
  intro x1 x2 y0 h b q
  exact uX12_errorsOf_106 hg (fun _ _ _ _ _ _ q => wX12_errorsOf_111 hg q) q
def bX12_errorsOf_51 (f228 : HH → Option (Int × HH)) (f270 : Int → HH → Option (Int × HH)) (f271 : HH → Option (Int × HH)) (c106 : Int → Int → Int → HH → Option (Int × HH)) (c111 : Int → Int → Int → Int → HH → Option (Int × HH)) (c113 : Int → Int → Int → HH → Option (Int × HH)) (x1 : Int) (x2 : Int) (y0 : Int) (y1 : Int) (h : HH) : Option (Int × HH) :=
  gd (R32 (y1 + y0)) <|
    bnd (f228 h) fun r1 =>
    gd (R32 ((h.1 71 73) + r1.1)) <|
    gd ((0 : Int) ≤ x1 ∧ x1 < (3 : Int)) <|
    if (0 : Int) < (r1.2.1 95 x1) then
    bnd (f270 x1 r1.2) fun r2 =>
    if r2.1 = (0 : Int) then
    c113 x1 x2 (y1 + y0) r2.2
  else
    bnd (f271 r2.2) fun r3 =>
    if ((h.1 71 73) + r1.1) < (r3.1 : Int) then
    c106 x1 x2 (y1 + y0) r3.2
  else
    gd (R32 (2 * ((h.1 71 73) + r1.1))) <|
    gd (R32 (3 * r3.1)) <|
    if ((3 * r3.1) : Int) < (2 * ((h.1 71 73) + r1.1)) then
    c106 x1 x2 (y1 + y0) r3.2
  else
    c111 x1 x2 0 (y1 + y0) r3.2
  else
    c113 x1 x2 (y1 + y0) r1.2
set_option maxRecDepth 100000 in
theorem uX12_errorsOf_51 {g : SG} (hg : GOK g) {σ0 : SG} {c106 : Int → Int → Int → HH → Option (Int × HH)} {c111 : Int → Int → Int → Int → HH → Option (Int × HH)} {c113 : Int → Int → Int → HH → Option (Int × HH)} (k106 : ∀ (x1 : Int) (x2 : Int) (y0 : Int) (h : HH) (b : (Int × HH)), c106 x1 x2 y0 h = some b → WK 272 (.inl (some (aI b.1))) σ0 (abH 71 119 g b.2) 106 [(0, aR 71), (1, aI x1), (2, aI x2)] [aI y0] (abH 71 119 g h) 0 0) (k111 : ∀ (x1 : Int) (x2 : Int) (y0 : Int) (y1 : Int) (h : HH) (b : (Int × HH)), c111 x1 x2 y0 y1 h = some b → WK 272 (.inl (some (aI b.1))) σ0 (abH 71 119 g b.2) 111 [(0, aR 71), (1, aI x1), (2, aI x2)] [aI y0, aI y1] (abH 71 119 g h) 0 0) (k113 : ∀ (x1 : Int) (x2 : Int) (x3 : Int) (h : HH) (b : (Int × HH)), c113 x1 x2 x3 h = some b → WK 272 (.inl (some (aI b.1))) σ0 (abH 71 119 g b.2) 113 [(0, aR 71), (1, aI x1), (2, aI x2), (3, aI x3)] [] (abH 71 119 g h) 0 0) : ∀ {x1 : Int} {x2 : Int} {y0 : Int} {y1 : Int} {h : HH} {b : (Int × HH)}, bX12_errorsOf_51 nX12_pairing nX12_isSame nX12_tour c106 c111 c113 x1 x2 y0 y1 h = some b → WK 272 (.inl (some (aI b.1))) σ0 (abH 71 119 g b.2) 51 [(0, aR 71), (1, aI x1), (2, aI x2)] [aI y0, aI y1] (abH 71 119 g h) 0 0 := by
  intro x1 x2 y0 y1 h b q
  have e : ∀ (f228 : HH → Option (Int × HH)) (f270 : Int → HH → Option (Int × HH)) (f271 : HH → Option (Int × HH)) , bX12_errorsOf_51 f228 f270 f271 c106 c111 c113 x1 x2 y0 y1 h = segW 71 119 g.2.2.2.2 krWI (clC 228 (pX12_pairing f228) (clC 270 (pX12_isSame f270) (clC 271 (pX12_tour f271) clN))) csX12_errorsOf (cuC 106 (fun l st s => tkC 0 71 l <| tkI 1 l fun x1 => tkI 2 l fun x2 => skI st fun y0 st => skE st (c106 x1 x2 y0 s)) (cuC 111 (fun l st s => tkC 0 71 l <| tkI 1 l fun x1 => tkI 2 l fun x2 => skI st fun y0 st => skI st fun y1 st => skE st (c111 x1 x2 y0 y1 s)) (cuC 113 (fun l st s => tkC 0 71 l <| tkI 1 l fun x1 => tkI 2 l fun x2 => tkI 3 l fun x3 => skE st (c113 x1 x2 x3 s)) cuN))) 1000 51 [(0, aR 71), (1, aI x1), (2, aI x2)] [aI y0, aI y1] h := fun _ _ _ => rfl
  rw [e nX12_pairing nX12_isSame nX12_tour] at q
  clear e
  refine segW_wk (by decide) (by decide) hg rwX12_errorsOf (CLKW_C (pX12_pairing_ok hg) (CLKW_C (pX12_isSame_ok hg) (CLKW_C (pX12_tour_ok hg) CLKW_N))) krWI_ok ?_ q
  clear q
  refine ct_C ?_ (ct_C ?_ (ct_C ?_ (ct_N)))
  · intro l st h q
    obtain ⟨m0, q1⟩ := tkC_of q
    obtain ⟨x1, m1, q2⟩ := tkI_of q1
    obtain ⟨x2, m2, q3⟩ := tkI_of q2
    obtain ⟨y0, t0, rfl, q4⟩ := skI_of q3
    obtain ⟨rfl, q5⟩ := skE_of q4
    exact WK_less (k106 _ _ _ _ _ q5) (List.forall_mem_cons.mpr ⟨m0, (List.forall_mem_cons.mpr ⟨m1, (List.forall_mem_cons.mpr ⟨m2, (fun _ h => absurd h List.not_mem_nil)⟩)⟩)⟩)
  · intro l st h q
    obtain ⟨m0, q1⟩ := tkC_of q
    obtain ⟨x1, m1, q2⟩ := tkI_of q1
    obtain ⟨x2, m2, q3⟩ := tkI_of q2
    obtain ⟨y0, t0, rfl, q4⟩ := skI_of q3
    obtain ⟨y1, t1, rfl, q5⟩ := skI_of q4
    obtain ⟨rfl, q6⟩ := skE_of q5
    exact WK_less (k111 _ _ _ _ _ _ q6) (List.forall_mem_cons.mpr ⟨m0, (List.forall_mem_cons.mpr ⟨m1, (List.forall_mem_cons.mpr ⟨m2, (fun _ h => absurd h List.not_mem_nil)⟩)⟩)⟩)
  · intro l st h q
    obtain ⟨m0, q1⟩ := tkC_of q
    obtain ⟨x1, m1, q2⟩ := tkI_of q1
    obtain ⟨x2, m2, q3⟩ := tkI_of q2
    obtain ⟨x3, m3, q4⟩ := tkI_of q3
    obtain ⟨rfl, q5⟩ := skE_of q4
    exact WK_less (k113 _ _ _ _ _ q5) (List.forall_mem_cons.mpr ⟨m0, (List.forall_mem_cons.mpr ⟨m1, (List.forall_mem_cons.mpr ⟨m2, (List.forall_mem_cons.mpr ⟨m3, (fun _ h => absurd h List.not_mem_nil)⟩)⟩)⟩)⟩)
def nX12_errorsOf_51 (x1 : Int) (x2 : Int) (y0 : Int) (y1 : Int) (h : HH) : Option (Int × HH) := bX12_errorsOf_51 nX12_pairing nX12_isSame nX12_tour nX12_errorsOf_106 nX12_errorsOf_111 nX12_errorsOf_113 x1 x2 y0 y1 h
theorem wX12_errorsOf_51 {g : SG} (hg : GOK g) {σ0 : SG} : ∀ {x1 : Int} {x2 : Int} {y0 : Int} {y1 : Int} {h : HH} {b : (Int × HH)}, nX12_errorsOf_51 x1 x2 y0 y1 h = some b → WK 272 (.inl (some (aI b.1))) σ0 (abH 71 119 g b.2) 51 [(0, aR 71), (1, aI x1), (2, aI x2)] [aI y0, aI y1] (abH 71 119 g h) 0 0 := by
  intro x1 x2 y0 y1 h b q
  exact uX12_errorsOf_51 hg (fun _ _ _ _ _ q => wX12_errorsOf_106 hg q) (fun _ _ _ _ _ _ q => wX12_errorsOf_111 hg q) (fun _ _ _ _ _ q => wX12_errorsOf_113 hg q) q
def bX12_errorsOf_50 (c51 : Int → Int → Int → Int → HH → Option (Int × HH)) (x1 : Int) (x2 : Int) (y0 : Int) (h : HH) : Option (Int × HH) :=
  c51 x1 x2 0 y0 h
theorem uX12_errorsOf_50 {g : SG} (hg : GOK g) {σ0 : SG} {c51 : Int → Int → Int → Int → HH → Option (Int × HH)} (k51 : ∀ (x1 : Int) (x2 : Int) (y0 : Int) (y1 : Int) (h : HH) (b : (Int × HH)), c51 x1 x2 y0 y1 h = some b → WK 272 (.inl (some (aI b.1))) σ0 (abH 71 119 g b.2) 51 [(0, aR 71), (1, aI x1), (2, aI x2)] [aI y0, aI y1] (abH 71 119 g h) 0 0) : ∀ {x1 : Int} {x2 : Int} {y0 : Int} {h : HH} {b : (Int × HH)}, bX12_errorsOf_50 c51 x1 x2 y0 h = some b → WK 272 (.inl (some (aI b.1))) σ0 (abH 71 119 g b.2) 50 [(0, aR 71), (1, aI x1), (2, aI x2)] [aI y0] (abH 71 119 g h) 0 0 := by
  intro x1 x2 y0 h b q
  have e : bX12_errorsOf_50 c51 x1 x2 y0 h = segW 71 119 g.2.2.2.2 krWI clN csX12_errorsOf (cuC 51 (fun l st s => tkC 0 71 l <| tkI 1 l fun x1 => tkI 2 l fun x2 => skI st fun y0 st => skI st fun y1 st => skE st (c51 x1 x2 y0 y1 s)) cuN) 1000 50 [(0, aR 71), (1, aI x1), (2, aI x2)] [aI y0] h := rfl
  rw [e] at q
  clear e
  refine segW_wk (by decide) (by decide) hg rwX12_errorsOf CLKW_N krWI_ok ?_ q
  clear q
  refine ct_C ?_ (ct_N)
  · intro l st h q
    obtain ⟨m0, q1⟩ := tkC_of q
    obtain ⟨x1, m1, q2⟩ := tkI_of q1
    obtain ⟨x2, m2, q3⟩ := tkI_of q2
    obtain ⟨y0, t0, rfl, q4⟩ := skI_of q3
    obtain ⟨y1, t1, rfl, q5⟩ := skI_of q4
    obtain ⟨rfl, q6⟩ := skE_of q5
    exact WK_less (k51 _ _ _ _ _ _ q6) (List.forall_mem_cons.mpr ⟨m0, (List.forall_mem_cons.mpr ⟨m1, (List.forall_mem_cons.mpr ⟨m2, (fun _ h => absurd h List.not_mem_nil)⟩)⟩)⟩)
def nX12_errorsOf_50 (x1 : Int) (x2 : Int) (y0 : Int) (h : HH) : Option (Int × HH) := bX12_errorsOf_50 nX12_errorsOf_51 x1 x2 y0 h
theorem wX12_errorsOf_50 {g : SG} (hg : GOK g) {σ0 : SG} : ∀ {x1 : Int} {x2 : Int} {y0 : Int} {h : HH} {b : (Int × HH)}, nX12_errorsOf_50 x1 x2 y0 h = some b → WK 272 (.inl (some (aI b.1))) σ0 (abH 71 119 g b.2) 50 [(0, aR 71), (1, aI x1), (2, aI x2)] [aI y0] (abH 71 119 g h) 0 0 := by
  intro x1 x2 y0 h b q
  exact uX12_errorsOf_50 hg (fun _ _ _ _ _ _ q => wX12_errorsOf_51 hg q) q
def bX12_errorsOf_16 (f227 : Int → HH → Option HH) (f229 : HH → Int → Option Int) (c50 : Int → Int → Int → HH → Option (Int × HH)) (c51 : Int → Int → Int → Int → HH → Option (Int × HH)) (x1 : Int) (x2 : Int) (y0 : Int) (h : HH) : Option (Int × HH) :=
  bnd (f227 x1 h) fun r1 =>
    gd ((0 : Int) ≤ x1 ∧ x1 < (3 : Int)) <|
    if (0 : Int) < (r1.1 95 x1) then
    bnd (f229 r1 x1) fun r2 =>
    gd (R32 ((r1.1 71 73) + r2)) <|
    if x2 < (((r1.1 71 73) + r2) : Int) then
    c51 x1 x2 1 y0 r1
  else
    c50 x1 x2 y0 r1
  else
    c50 x1 x2 y0 r1
theorem uX12_errorsOf_16 {g : SG} (hg : GOK g) {σ0 : SG} {c50 : Int → Int → Int → HH → Option (Int × HH)} {c51 : Int → Int → Int → Int → HH → Option (Int × HH)} (k50 : ∀ (x1 : Int) (x2 : Int) (y0 : Int) (h : HH) (b : (Int × HH)), c50 x1 x2 y0 h = some b → WK 272 (.inl (some (aI b.1))) σ0 (abH 71 119 g b.2) 50 [(0, aR 71), (1, aI x1), (2, aI x2)] [aI y0] (abH 71 119 g h) 0 0) (k51 : ∀ (x1 : Int) (x2 : Int) (y0 : Int) (y1 : Int) (h : HH) (b : (Int × HH)), c51 x1 x2 y0 y1 h = some b → WK 272 (.inl (some (aI b.1))) σ0 (abH 71 119 g b.2) 51 [(0, aR 71), (1, aI x1), (2, aI x2)] [aI y0, aI y1] (abH 71 119 g h) 0 0) : ∀ {x1 : Int} {x2 : Int} {y0 : Int} {h : HH} {b : (Int × HH)}, bX12_errorsOf_16 nX12_laysTree nX12_services c50 c51 x1 x2 y0 h = some b → WK 272 (.inl (some (aI b.1))) σ0 (abH 71 119 g b.2) 16 [(0, aR 71), (1, aI x1), (2, aI x2)] [aI y0] (abH 71 119 g h) 0 0 := by
  intro x1 x2 y0 h b q
  have e : ∀ (f227 : Int → HH → Option HH) (f229 : HH → Int → Option Int) , bX12_errorsOf_16 f227 f229 c50 c51 x1 x2 y0 h = segW 71 119 g.2.2.2.2 krWI (clC 227 (pX12_laysTree f227) (clC 229 (liPW (pX12_services f229)) clN)) csX12_errorsOf (cuC 50 (fun l st s => tkC 0 71 l <| tkI 1 l fun x1 => tkI 2 l fun x2 => skI st fun y0 st => skE st (c50 x1 x2 y0 s)) (cuC 51 (fun l st s => tkC 0 71 l <| tkI 1 l fun x1 => tkI 2 l fun x2 => skI st fun y0 st => skI st fun y1 st => skE st (c51 x1 x2 y0 y1 s)) cuN)) 1000 16 [(0, aR 71), (1, aI x1), (2, aI x2)] [aI y0] h := fun _ _ => rfl
  rw [e nX12_laysTree nX12_services] at q
  clear e
  refine segW_wk (by decide) (by decide) hg rwX12_errorsOf (CLKW_C (pX12_laysTree_ok hg) (CLKW_C (liPW_ok (pX12_services_ok hg)) CLKW_N)) krWI_ok ?_ q
  clear q
  refine ct_C ?_ (ct_C ?_ (ct_N))
  · intro l st h q
    obtain ⟨m0, q1⟩ := tkC_of q
    obtain ⟨x1, m1, q2⟩ := tkI_of q1
    obtain ⟨x2, m2, q3⟩ := tkI_of q2
    obtain ⟨y0, t0, rfl, q4⟩ := skI_of q3
    obtain ⟨rfl, q5⟩ := skE_of q4
    exact WK_less (k50 _ _ _ _ _ q5) (List.forall_mem_cons.mpr ⟨m0, (List.forall_mem_cons.mpr ⟨m1, (List.forall_mem_cons.mpr ⟨m2, (fun _ h => absurd h List.not_mem_nil)⟩)⟩)⟩)
  · intro l st h q
    obtain ⟨m0, q1⟩ := tkC_of q
    obtain ⟨x1, m1, q2⟩ := tkI_of q1
    obtain ⟨x2, m2, q3⟩ := tkI_of q2
    obtain ⟨y0, t0, rfl, q4⟩ := skI_of q3
    obtain ⟨y1, t1, rfl, q5⟩ := skI_of q4
    obtain ⟨rfl, q6⟩ := skE_of q5
    exact WK_less (k51 _ _ _ _ _ _ q6) (List.forall_mem_cons.mpr ⟨m0, (List.forall_mem_cons.mpr ⟨m1, (List.forall_mem_cons.mpr ⟨m2, (fun _ h => absurd h List.not_mem_nil)⟩)⟩)⟩)
def nX12_errorsOf_16 (x1 : Int) (x2 : Int) (y0 : Int) (h : HH) : Option (Int × HH) := bX12_errorsOf_16 nX12_laysTree nX12_services nX12_errorsOf_50 nX12_errorsOf_51 x1 x2 y0 h
theorem wX12_errorsOf_16 {g : SG} (hg : GOK g) {σ0 : SG} : ∀ {x1 : Int} {x2 : Int} {y0 : Int} {h : HH} {b : (Int × HH)}, nX12_errorsOf_16 x1 x2 y0 h = some b → WK 272 (.inl (some (aI b.1))) σ0 (abH 71 119 g b.2) 16 [(0, aR 71), (1, aI x1), (2, aI x2)] [aI y0] (abH 71 119 g h) 0 0 := by
  intro x1 x2 y0 h b q
  exact uX12_errorsOf_16 hg (fun _ _ _ _ _ q => wX12_errorsOf_50 hg q) (fun _ _ _ _ _ _ q => wX12_errorsOf_51 hg q) q
def bX12_errorsOf (f197 : Int → HH → Option (Int × HH)) (c16 : Int → Int → Int → HH → Option (Int × HH)) (x1 : Int) (h : HH) : Option (Int × HH) :=
  bnd (f197 x1 h) fun r1 =>
    if r1.1 = ((-1) : Int) then
    c16 x1 r1.1 1 r1.2
  else
    c16 x1 r1.1 0 r1.2
theorem uX12_errorsOf {g : SG} (hg : GOK g) {σ0 : SG} {c16 : Int → Int → Int → HH → Option (Int × HH)} (k16 : ∀ (x1 : Int) (x2 : Int) (y0 : Int) (h : HH) (b : (Int × HH)), c16 x1 x2 y0 h = some b → WK 272 (.inl (some (aI b.1))) σ0 (abH 71 119 g b.2) 16 [(0, aR 71), (1, aI x1), (2, aI x2)] [aI y0] (abH 71 119 g h) 0 0) : ∀ {x1 : Int} {h : HH} {b : (Int × HH)}, bX12_errorsOf nX12_costOf c16 x1 h = some b → WK 272 (.inl (some (aI b.1))) σ0 (abH 71 119 g b.2) 0 [(0, aR 71), (1, aI x1)] [] (abH 71 119 g h) 0 0 := by
  intro x1 h b q
  have e : ∀ (f197 : Int → HH → Option (Int × HH)) , bX12_errorsOf f197 c16 x1 h = segW 71 119 g.2.2.2.2 krWI (clC 197 (pX12_costOf f197) clN) csX12_errorsOf (cuC 16 (fun l st s => tkC 0 71 l <| tkI 1 l fun x1 => tkI 2 l fun x2 => skI st fun y0 st => skE st (c16 x1 x2 y0 s)) cuN) 1000 0 [(0, aR 71), (1, aI x1)] [] h := fun _ => rfl
  rw [e nX12_costOf] at q
  clear e
  refine segW_wk (by decide) (by decide) hg rwX12_errorsOf (CLKW_C (pX12_costOf_ok hg) CLKW_N) krWI_ok ?_ q
  clear q
  refine ct_C ?_ (ct_N)
  · intro l st h q
    obtain ⟨m0, q1⟩ := tkC_of q
    obtain ⟨x1, m1, q2⟩ := tkI_of q1
    obtain ⟨x2, m2, q3⟩ := tkI_of q2
    obtain ⟨y0, t0, rfl, q4⟩ := skI_of q3
    obtain ⟨rfl, q5⟩ := skE_of q4
    exact WK_less (k16 _ _ _ _ _ q5) (List.forall_mem_cons.mpr ⟨m0, (List.forall_mem_cons.mpr ⟨m1, (List.forall_mem_cons.mpr ⟨m2, (fun _ h => absurd h List.not_mem_nil)⟩)⟩)⟩)
def nX12_errorsOf (x1 : Int) (h : HH) : Option (Int × HH) := bX12_errorsOf nX12_costOf nX12_errorsOf_16 x1 h
theorem wX12_errorsOf {g : SG} (hg : GOK g) {σ0 : SG} : ∀ {x1 : Int} {h : HH} {b : (Int × HH)}, nX12_errorsOf x1 h = some b → WK 272 (.inl (some (aI b.1))) σ0 (abH 71 119 g b.2) 0 [(0, aR 71), (1, aI x1)] [] (abH 71 119 g h) 0 0 := by
  intro x1 h b q
  exact uX12_errorsOf hg (fun _ _ _ _ _ q => wX12_errorsOf_16 hg q) q
theorem mX12_errorsOf {g : SG} (hg : GOK g) {h : HH} {x1 : Int} {b : (Int × HH)} (q : nX12_errorsOf x1 h = some b) : MCT 272 [] [aR 71, aI x1] (abH 71 119 g h) (.inl (some (aI b.1))) (abH 71 119 g b.2) :=
  mct_of (by decide) (MFok 272 (by decide +kernel)) (fun _ => Nat.le_of_ble_eq_true rfl) (wX12_errorsOf hg q)
def pX12_errorsOf {β : Type} (z : Int → HH → Option (Int × HH)) : PW β := fun as h f => skC 71 as fun as => skI as fun x1 as => skE as (bnd (z x1 h) fun r => f (.inl (some (aI r.1))) r.2)
theorem pX12_errorsOf_ok {β : Type} {g : SG} (hg : GOK g) : CW1 (β := β) 272 (pX12_errorsOf nX12_errorsOf) 71 119 g := fun as h f b q => by
  obtain ⟨as, rfl, q1⟩ := skC_of q
  obtain ⟨x1, as, rfl, q2⟩ := skI_of q1
  obtain ⟨rfl, q0⟩ := skE_of q2
  obtain ⟨r, z1, z2⟩ := bnd_of q0
  exact ⟨_, _, z2, by decide, mX12_errorsOf hg z1, rfl, rfl, fun z => absurd z (by decide)⟩
