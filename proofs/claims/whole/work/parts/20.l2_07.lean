def csX11_boundBelow : List (Nat × List (Nat × ARow)) := [(45, [(0, 1, .aload_n 0, 0, 0, 0), (1, 3, .getfield 60, 11, 6, 2), (4, 1, .aload_n 0, 0, 0, 0), (5, 3, .getfield 21, 11, 1, 2), (8, 1, .aload_n 0, 0, 0, 0), (9, 3, .getfield 30, 11, 2, 2), (12, 3, .getfield 187, 6, 1, 2), (15, 1, .iload_n 1, 0, 0, 0), (16, 1, .aaload, 0, 0, 0), (17, 1, .aload_n 0, 0, 0, 0), (18, 3, .getfield 30, 11, 2, 2), (21, 3, .getfield 177, 6, 2, 2), (24, 1, .iload_n 1, 0, 0, 0), (25, 1, .iaload, 0, 0, 0), (26, 3, .invokevirtual 407, 101, 4, 10), (29, 1, .istore_n 3, 0, 0, 0), (30, 1, .iload_n 2, 0, 0, 0), (31, 2, .bipush 7, 0, 0, 0), (33, 3, .if_icmp .ne 13, 46, 0, 0), (36, 1, .iload_n 3, 0, 0, 0), (37, 1, .aload_n 0, 0, 0, 0), (38, 3, .getfield 60, 11, 6, 2), (41, 3, .invokevirtual 411, 106, 1, 10), (44, 1, .iadd, 0, 0, 0)]),
  (100000, [(45, 1, .ireturn, 0, 0, 0), (46, 1, .iload_n 2, 0, 0, 0), (47, 2, .bipush 8, 0, 0, 0), (49, 3, .if_icmp .ne 16, 65, 0, 0), (52, 1, .iload_n 3, 0, 0, 0), (53, 1, .aload_n 0, 0, 0, 0), (54, 3, .getfield 30, 11, 2, 2), (57, 1, .iload_n 1, 0, 0, 0), (58, 3, .invokevirtual 258, 59, 2, 6), (61, 1, .iadd, 0, 0, 0), (62, 3, .goto 4, 66, 0, 0), (65, 1, .iload_n 3, 0, 0, 0), (66, 1, .ireturn, 0, 0, 0)])]
theorem rwX11_boundBelow : rowsB (mB 165) (mO 165) (mX 165) (mIni 165) (mFr 165) (mLo 165) (mT 165) csX11_boundBelow = true := by decide +kernel
def bX11_boundBelow (f101 : Nat → Int → HH → Option (Int × HH)) (f59 : HH → Int → Option Int) (f106 : HH → Option (Int × HH)) (x1 : Int) (x2 : Int) (h : HH) : Option (Int × HH) :=
  gd ((0 : Int) ≤ x1 ∧ x1 < (3 : Int)) <|
    bif Nat.beq (rwK 3 28 x1) 0 then none else
    gd ((0 : Int) ≤ x1 ∧ x1 < (3 : Int)) <|
    bnd (f101 (rwK 3 28 x1) (h.1 31 x1) h) fun r1 =>
    if x2 = (7 : Int) then
    bnd (f106 r1.2) fun r3 =>
    gd (R32 (r1.1 + r3.1)) <|
    some ((r1.1 + r3.1), r3.2)
  else
    if x2 = (8 : Int) then
    bnd (f59 r1.2 x1) fun r2 =>
    gd (R32 (r1.1 + r2)) <|
    some ((r1.1 + r2), r1.2)
  else
    some (r1.1, r1.2)
theorem uX11_boundBelow {g : SG} (hg : GOK g) {σ0 : SG} : ∀ {x1 : Int} {x2 : Int} {h : HH} {b : (Int × HH)}, bX11_boundBelow nX10_grow nX6_sumOfServices nX10_leastPairing x1 x2 h = some b → WK 165 (.inl (some (aI b.1))) σ0 (abH 2 70 g b.2) 0 [(0, aR 2), (1, aI x1), (2, aI x2)] [] (abH 2 70 g h) 0 0 := by
  intro x1 x2 h b q
  have e : ∀ (f101 : Nat → Int → HH → Option (Int × HH)) (f59 : HH → Int → Option Int) (f106 : HH → Option (Int × HH)) , bX11_boundBelow f101 f59 f106 x1 x2 h = segW 2 70 g.2.2.2.2 krWI (clC 101 (pX10_grow f101) (clC 59 (liPW (pX6_sumOfServices f59)) (clC 106 (pX10_leastPairing f106) clN))) csX11_boundBelow cuN 1000 0 [(0, aR 2), (1, aI x1), (2, aI x2)] [] h := fun _ _ _ => rfl
  rw [e nX10_grow nX6_sumOfServices nX10_leastPairing] at q
  clear e
  refine segW_wk (by decide) (by decide) hg rwX11_boundBelow (CLKW_C (pX10_grow_ok hg) (CLKW_C (liPW_ok (pX6_sumOfServices_ok hg)) (CLKW_C (pX10_leastPairing_ok hg) CLKW_N))) krWI_ok ?_ q
  clear q
  exact ct_N
def nX11_boundBelow (x1 : Int) (x2 : Int) (h : HH) : Option (Int × HH) := bX11_boundBelow nX10_grow nX6_sumOfServices nX10_leastPairing x1 x2 h
theorem wX11_boundBelow {g : SG} (hg : GOK g) {σ0 : SG} : ∀ {x1 : Int} {x2 : Int} {h : HH} {b : (Int × HH)}, nX11_boundBelow x1 x2 h = some b → WK 165 (.inl (some (aI b.1))) σ0 (abH 2 70 g b.2) 0 [(0, aR 2), (1, aI x1), (2, aI x2)] [] (abH 2 70 g h) 0 0 := by
  intro x1 x2 h b q
  exact uX11_boundBelow hg q
theorem mX11_boundBelow {g : SG} (hg : GOK g) {h : HH} {x1 : Int} {x2 : Int} {b : (Int × HH)} (q : nX11_boundBelow x1 x2 h = some b) : MCT 165 [] [aR 2, aI x1, aI x2] (abH 2 70 g h) (.inl (some (aI b.1))) (abH 2 70 g b.2) :=
  mct_of (by decide) (MFok 165 (by decide +kernel)) (fun _ => Nat.le_of_ble_eq_true rfl) (wX11_boundBelow hg q)
def pX11_boundBelow {β : Type} (z : Int → Int → HH → Option (Int × HH)) : PW β := fun as h f => skC 2 as fun as => skI as fun x1 as => skI as fun x2 as => skE as (bnd (z x1 x2 h) fun r => f (.inl (some (aI r.1))) r.2)
theorem pX11_boundBelow_ok {β : Type} {g : SG} (hg : GOK g) : CW1 (β := β) 165 (pX11_boundBelow nX11_boundBelow) 2 70 g := fun as h f b q => by
  obtain ⟨as, rfl, q1⟩ := skC_of q
  obtain ⟨x1, as, rfl, q2⟩ := skI_of q1
  obtain ⟨x2, as, rfl, q3⟩ := skI_of q2
  obtain ⟨rfl, q0⟩ := skE_of q3
  obtain ⟨r, z1, z2⟩ := bnd_of q0
  exact ⟨_, _, z2, by decide, mX11_boundBelow hg z1, rfl, rfl, fun z => absurd z (by decide)⟩
def csX11_ofRound : List (Nat × List (Nat × ARow)) := [(79, [(0, 1, .aload_n 0, 0, 0, 0), (1, 1, .iload_n 1, 0, 0, 0), (2, 3, .invokevirtual 174, 157, 2, 11), (5, 1, .iload_n 2, 0, 0, 0), (6, 1, .iconst 0, 0, 0, 0), (7, 2, .bipush 8, 0, 0, 0), (9, 3, .invokestatic 109, 159, 3, 0), (12, 1, .iload_n 2, 0, 0, 0), (13, 39, .tableswitch 115 0 5 #[39, 48, 58, 86, 96, 106], 0, 0, 0), (52, 1, .aload_n 0, 0, 0, 0), (53, 3, .getfield 30, 11, 2, 2), (56, 1, .iload_n 1, 0, 0, 0), (57, 3, .invokevirtual 241, 57, 2, 6), (60, 1, .ireturn, 0, 0, 0), (61, 1, .aload_n 0, 0, 0, 0), (62, 3, .getfield 30, 11, 2, 2), (65, 1, .iload_n 1, 0, 0, 0), (66, 1, .iconst 0, 0, 0, 0), (67, 3, .invokevirtual 255, 58, 3, 6), (70, 1, .ireturn, 0, 0, 0), (71, 1, .aload_n 0, 0, 0, 0), (72, 3, .getfield 30, 11, 2, 2), (75, 1, .iload_n 1, 0, 0, 0), (76, 3, .invokevirtual 241, 57, 2, 6)]),
  (119, [(79, 1, .aload_n 0, 0, 0, 0), (80, 3, .getfield 30, 11, 2, 2), (83, 1, .iload_n 1, 0, 0, 0), (84, 1, .iconst 0, 0, 0, 0), (85, 3, .invokevirtual 255, 58, 3, 6), (88, 1, .isub, 0, 0, 0), (89, 1, .aload_n 0, 0, 0, 0), (90, 3, .getfield 30, 11, 2, 2), (93, 1, .iload_n 1, 0, 0, 0), (94, 3, .invokevirtual 258, 59, 2, 6), (97, 1, .isub, 0, 0, 0), (98, 1, .ireturn, 0, 0, 0), (99, 1, .aload_n 0, 0, 0, 0), (100, 3, .getfield 30, 11, 2, 2), (103, 1, .iload_n 1, 0, 0, 0), (104, 1, .iconst 1, 0, 0, 0), (105, 3, .invokevirtual 255, 58, 3, 6), (108, 1, .ireturn, 0, 0, 0), (109, 1, .aload_n 0, 0, 0, 0), (110, 3, .getfield 30, 11, 2, 2), (113, 1, .iload_n 1, 0, 0, 0), (114, 1, .iconst 2, 0, 0, 0), (115, 3, .invokevirtual 255, 58, 3, 6), (118, 1, .ireturn, 0, 0, 0)]),
  (100000, [(119, 1, .aload_n 0, 0, 0, 0), (120, 3, .getfield 30, 11, 2, 2), (123, 1, .iload_n 1, 0, 0, 0), (124, 3, .invokevirtual 261, 60, 2, 6), (127, 1, .ireturn, 0, 0, 0), (128, 1, .aload_n 0, 0, 0, 0), (129, 1, .iload_n 1, 0, 0, 0), (130, 1, .iload_n 2, 0, 0, 0), (131, 3, .invokevirtual 264, 165, 3, 11), (134, 1, .ireturn, 0, 0, 0)])]
theorem rwX11_ofRound : rowsB (mB 130) (mO 130) (mX 130) (mIni 130) (mFr 130) (mLo 130) (mT 130) csX11_ofRound = true := by decide +kernel
def bX11_ofRound_71 (f57 : HH → Int → Option Int) (f58 : HH → Int → Int → Option Int) (f59 : HH → Int → Option Int) (x1 : Int) (s : HU) : Option ((Int ⊕ Nat) × HU) :=
  gd (s.2 ≤ 5) <|
    bnd (f57 s.1 x1) fun r1 =>
    gd (s.2 ≤ 5) <|
    bnd (f58 s.1 x1 0) fun r2 =>
    gd (R32 (r1 - r2)) <|
    gd (s.2 ≤ 5) <|
    bnd (f59 s.1 x1) fun r3 =>
    gd (R32 ((r1 - r2) - r3)) <|
    gd (s.2 ≤ 5) (some (.inl ((r1 - r2) - r3), s))
theorem uX11_ofRound_71 {g : SG} (hg : GOK g) {σ0 : SG} : ∀ {x1 : Int} {s : HU} {b : ((Int ⊕ Nat) × HU)}, bX11_ofRound_71 nX6_costNow nX6_sumOfWays nX6_sumOfServices x1 s = some b → WK 130 (oT (fun r => some (aI r)) b.1) σ0 (abU 2 70 g b.2) 71 [(0, aR 2), (1, aI x1)] [] (abU 2 70 g s) (cnU s).1 (cnU s).2 := by
  intro x1 s b q
  have e : ∀ (f57 : HH → Int → Option Int) (f58 : HH → Int → Int → Option Int) (f59 : HH → Int → Option Int) , bX11_ofRound_71 f57 f58 f59 x1 s = segT 2 70 g.2.2.2.2 (krTI 5) (kxT 5) (clC 57 (guT 5 (liWT (liPW (pX6_costNow f57)))) (clC 58 (guT 5 (liWT (liPW (pX6_sumOfWays f58)))) (clC 59 (guT 5 (liWT (liPW (pX6_sumOfServices f59)))) clN))) csX11_ofRound cuN 1000 71 [(0, aR 2), (1, aI x1)] [] s := fun _ _ _ => rfl
  rw [e nX6_costNow nX6_sumOfWays nX6_sumOfServices] at q
  clear e
  refine segT_wk (by decide) (by decide) hg rwX11_ofRound (CLK_C (liWT_ck (liPW_ok (pX6_costNow_ok hg)) (by decide)) (CLK_C (liWT_ck (liPW_ok (pX6_sumOfWays_ok hg)) (by decide)) (CLK_C (liWT_ck (liPW_ok (pX6_sumOfServices_ok hg)) (by decide)) CLK_N))) (by decide) (krTI_ok (by decide)) (kxT_ok (by decide)) ?_ q
  clear q
  exact ct_N
def nX11_ofRound_71 (x1 : Int) (s : HU) : Option ((Int ⊕ Nat) × HU) := bX11_ofRound_71 nX6_costNow nX6_sumOfWays nX6_sumOfServices x1 s
theorem wX11_ofRound_71 {g : SG} (hg : GOK g) {σ0 : SG} : ∀ {x1 : Int} {s : HU} {b : ((Int ⊕ Nat) × HU)}, nX11_ofRound_71 x1 s = some b → WK 130 (oT (fun r => some (aI r)) b.1) σ0 (abU 2 70 g b.2) 71 [(0, aR 2), (1, aI x1)] [] (abU 2 70 g s) (cnU s).1 (cnU s).2 := by
  intro x1 s b q
  exact uX11_ofRound_71 hg q
def bX11_ofRound (f157 : Int → HH → Option ((Unit ⊕ Nat) × HU)) (f159 : Int → Int → Int → HH → Option ((Unit ⊕ Nat) × HU)) (f57 : HH → Int → Option Int) (f58 : HH → Int → Int → Option Int) (f60 : HH → Int → Option Int) (f165 : Int → Int → HH → Option (Int × HH)) (c71 : Int → HU → Option ((Int ⊕ Nat) × HU)) (x1 : Int) (x2 : Int) (h : HH) : Option ((Int ⊕ Nat) × HU) :=
  bnd (f157 x1 h) fun r1 => gd (0 + 2 ≤ 5) <| tcase r1.1 (fun _ =>
    bnd (f159 x2 0 8 r1.2.1) fun r3 => gd ((0 + 2) + 2 ≤ 5) <| tcase r3.1 (fun _ =>
    if x2 = (0 : Int) then
    gd (((0 + 2) + 2) ≤ 5) <|
    bnd (f57 r3.2.1 x1) fun r5 =>
    gd (((0 + 2) + 2) ≤ 5) (some (.inl r5, (r3.2.1, ((0 + 2) + 2))))
  else if x2 = (1 : Int) then
    gd (((0 + 2) + 2) ≤ 5) <|
    bnd (f58 r3.2.1 x1 0) fun r6 =>
    gd (((0 + 2) + 2) ≤ 5) (some (.inl r6, (r3.2.1, ((0 + 2) + 2))))
  else if x2 = (2 : Int) then
    c71 x1 (r3.2.1, ((0 + 2) + 2))
  else if x2 = (3 : Int) then
    gd (((0 + 2) + 2) ≤ 5) <|
    bnd (f58 r3.2.1 x1 1) fun r7 =>
    gd (((0 + 2) + 2) ≤ 5) (some (.inl r7, (r3.2.1, ((0 + 2) + 2))))
  else if x2 = (4 : Int) then
    gd (((0 + 2) + 2) ≤ 5) <|
    bnd (f58 r3.2.1 x1 2) fun r8 =>
    gd (((0 + 2) + 2) ≤ 5) (some (.inl r8, (r3.2.1, ((0 + 2) + 2))))
  else if x2 = (5 : Int) then
    gd (((0 + 2) + 2) ≤ 5) <|
    bnd (f60 r3.2.1 x1) fun r9 =>
    gd (((0 + 2) + 2) ≤ 5) (some (.inl r9, (r3.2.1, ((0 + 2) + 2))))
  else 
    gd (((0 + 2) + 2) ≤ 5) <|
    bnd (f165 x1 x2 r3.2.1) fun r10 =>
    gd (((0 + 2) + 2) ≤ 5) (some (.inl r10.1, (r10.2, ((0 + 2) + 2))))) (fun e => gd (((0 + 2) + 2) + 1 ≤ 5) (some (.inr e, (r3.2.1, ((0 + 2) + 2)))))) (fun e => gd ((0 + 2) + 1 ≤ 5) (some (.inr e, (r1.2.1, (0 + 2)))))
set_option maxRecDepth 100000 in
theorem uX11_ofRound {g : SG} (hg : GOK g) {σ0 : SG} {c71 : Int → HU → Option ((Int ⊕ Nat) × HU)} (k71 : ∀ (x1 : Int) (s : HU) (b : ((Int ⊕ Nat) × HU)), c71 x1 s = some b → WK 130 (oT (fun r => some (aI r)) b.1) σ0 (abU 2 70 g b.2) 71 [(0, aR 2), (1, aI x1)] [] (abU 2 70 g s) (cnU s).1 (cnU s).2) : ∀ {x1 : Int} {x2 : Int} {h : HH} {b : ((Int ⊕ Nat) × HU)}, bX11_ofRound nX11_needVan nX11_needRange nX6_costNow nX6_sumOfWays nX6_sumOfSizes nX11_boundBelow c71 x1 x2 h = some b → WK 130 (oT (fun r => some (aI r)) b.1) σ0 (abU 2 70 g b.2) 0 [(0, aR 2), (1, aI x1), (2, aI x2)] [] (abU 2 70 g (h, 0)) (cnU (h, 0)).1 (cnU (h, 0)).2 := by
  intro x1 x2 h b q
  have e : ∀ (f157 : Int → HH → Option ((Unit ⊕ Nat) × HU)) (f159 : Int → Int → Int → HH → Option ((Unit ⊕ Nat) × HU)) (f57 : HH → Int → Option Int) (f58 : HH → Int → Int → Option Int) (f60 : HH → Int → Option Int) (f165 : Int → Int → HH → Option (Int × HH)) , bX11_ofRound f157 f159 f57 f58 f60 f165 c71 x1 x2 h = segT 2 70 g.2.2.2.2 (krTI 5) (kxT 5) (clC 157 (pX11_needVan f157 5) (clC 159 (pX11_needRange f159 5) (clC 57 (guT 5 (liWT (liPW (pX6_costNow f57)))) (clC 58 (guT 5 (liWT (liPW (pX6_sumOfWays f58)))) (clC 60 (guT 5 (liWT (liPW (pX6_sumOfSizes f60)))) (clC 165 (guT 5 (liWT (pX11_boundBelow f165))) clN)))))) csX11_ofRound (cuC 71 (fun l st s => tkC 0 2 l <| tkI 1 l fun x1 => skE st (c71 x1 s)) cuN) 1000 0 [(0, aR 2), (1, aI x1), (2, aI x2)] [] (h, 0) := fun _ _ _ _ _ _ => rfl
  rw [e nX11_needVan nX11_needRange nX6_costNow nX6_sumOfWays nX6_sumOfSizes nX11_boundBelow] at q
  clear e
  refine segT_wk (by decide) (by decide) hg rwX11_ofRound (CLK_C (pX11_needVan_ok hg (by decide)) (CLK_C (pX11_needRange_ok hg (by decide)) (CLK_C (liWT_ck (liPW_ok (pX6_costNow_ok hg)) (by decide)) (CLK_C (liWT_ck (liPW_ok (pX6_sumOfWays_ok hg)) (by decide)) (CLK_C (liWT_ck (liPW_ok (pX6_sumOfSizes_ok hg)) (by decide)) (CLK_C (liWT_ck (pX11_boundBelow_ok hg) (by decide)) CLK_N)))))) (by decide) (krTI_ok (by decide)) (kxT_ok (by decide)) ?_ q
  clear q
  refine ct_C ?_ (ct_N)
  · intro l st s q
    obtain ⟨m0, q1⟩ := tkC_of q
    obtain ⟨x1, m1, q2⟩ := tkI_of q1
    obtain ⟨rfl, q3⟩ := skE_of q2
    exact WK_less (k71 _ _ _ q3) (List.forall_mem_cons.mpr ⟨m0, (List.forall_mem_cons.mpr ⟨m1, (fun _ h => absurd h List.not_mem_nil)⟩)⟩)
def nX11_ofRound (x1 : Int) (x2 : Int) (h : HH) : Option ((Int ⊕ Nat) × HU) := bX11_ofRound nX11_needVan nX11_needRange nX6_costNow nX6_sumOfWays nX6_sumOfSizes nX11_boundBelow nX11_ofRound_71 x1 x2 h
theorem wX11_ofRound {g : SG} (hg : GOK g) {σ0 : SG} : ∀ {x1 : Int} {x2 : Int} {h : HH} {b : ((Int ⊕ Nat) × HU)}, nX11_ofRound x1 x2 h = some b → WK 130 (oT (fun r => some (aI r)) b.1) σ0 (abU 2 70 g b.2) 0 [(0, aR 2), (1, aI x1), (2, aI x2)] [] (abU 2 70 g (h, 0)) (cnU (h, 0)).1 (cnU (h, 0)).2 := by
  intro x1 x2 h b q
  exact uX11_ofRound hg (fun _ _ _ q => wX11_ofRound_71 hg q) q
theorem mX11_ofRound {g : SG} (hg : GOK g) {h : HH} {x1 : Int} {x2 : Int} {b : ((Int ⊕ Nat) × HU)} (q : nX11_ofRound x1 x2 h = some b) : MCT 130 [] [aR 2, aI x1, aI x2] (abU 2 70 g (h, 0)) (oT (fun r => some (aI r)) b.1) (abU 2 70 g b.2) :=
  mct_of (by decide) (MFok 130 (by decide +kernel)) (fun _ => Nat.le_of_ble_eq_true rfl) (wX11_ofRound hg q)
def pX11_ofRound {β : Type} (z : Int → Int → HH → Option ((Int ⊕ Nat) × HU)) (rc : Nat) : PT β := fun as s f => skC 2 as fun as => skI as fun x1 as => skI as fun x2 as => skE as (liTT rc 5 (fun r => some (aI r)) s (z x1 x2 s.1) f)
theorem pX11_ofRound_ok {β : Type} {g : SG} (hg : GOK g) {rc rs : Nat} (hrs : 6 * rc ≤ rs) : CLK1 (β := β) 130 (pX11_ofRound nX11_ofRound rc) (abU 2 70 g) cnU rc rs := fun as s f b q => by
  obtain ⟨as, rfl, q1⟩ := skC_of q
  obtain ⟨x1, as, rfl, q2⟩ := skI_of q1
  obtain ⟨x2, as, rfl, q3⟩ := skI_of q2
  obtain ⟨rfl, q0⟩ := skE_of q3
  exact liTT_ok q0 (by decide) (fun _ e => mX11_ofRound hg e) rfl rfl hrs
def csX11_served : List (Nat × List (Nat × ARow)) := [(100000, [(0, 1, .aload_n 0, 0, 0, 0), (1, 1, .iload_n 1, 0, 0, 0), (2, 3, .invokevirtual 149, 156, 2, 11), (5, 1, .aload_n 0, 0, 0, 0), (6, 3, .getfield 30, 11, 2, 2), (9, 1, .iload_n 1, 0, 0, 0), (10, 3, .invokevirtual 152, 49, 2, 6), (13, 1, .istore_n 2, 0, 0, 0), (14, 1, .iload_n 2, 0, 0, 0), (15, 1, .iconst (-1), 0, 0, 0), (16, 3, .if_icmp .eq 7, 23, 0, 0), (19, 1, .iconst 1, 0, 0, 0), (20, 3, .goto 4, 24, 0, 0), (23, 1, .iconst 0, 0, 0, 0), (24, 3, .invokestatic 122, 161, 1, 0), (27, 1, .aload_n 0, 0, 0, 0), (28, 3, .getfield 30, 11, 2, 2), (31, 1, .iload_n 2, 0, 0, 0), (32, 1, .iload_n 1, 0, 0, 0), (33, 3, .invokevirtual 267, 61, 3, 6), (36, 1, .ireturn, 0, 0, 0)])]
theorem rwX11_served : rowsB (mB 131) (mO 131) (mX 131) (mIni 131) (mFr 131) (mLo 131) (mT 131) csX11_served = true := by decide +kernel
def bX11_served_24 (f161 : Int → HH → Option ((Unit ⊕ Nat) × HU)) (f61 : HH → Int → Int → Option Int) (x1 : Int) (x2 : Int) (y0 : Int) (s : HU) : Option ((Int ⊕ Nat) × HU) :=
  bnd (f161 y0 s.1) fun r1 => gd (s.2 + 1 ≤ 4) <| tcase r1.1 (fun _ =>
    gd ((s.2 + 1) ≤ 4) <|
    bnd (f61 r1.2.1 x2 x1) fun r3 =>
    gd ((s.2 + 1) ≤ 4) (some (.inl r3, (r1.2.1, (s.2 + 1))))) (fun e => gd ((s.2 + 1) + 1 ≤ 4) (some (.inr e, (r1.2.1, (s.2 + 1)))))
theorem uX11_served_24 {g : SG} (hg : GOK g) {σ0 : SG} : ∀ {x1 : Int} {x2 : Int} {y0 : Int} {s : HU} {b : ((Int ⊕ Nat) × HU)}, bX11_served_24 nX11_needState nX6_serviceBegins x1 x2 y0 s = some b → WK 131 (oT (fun r => some (aI r)) b.1) σ0 (abU 2 70 g b.2) 24 [(0, aR 2), (1, aI x1), (2, aI x2)] [aI y0] (abU 2 70 g s) (cnU s).1 (cnU s).2 := by
  intro x1 x2 y0 s b q
  have e : ∀ (f161 : Int → HH → Option ((Unit ⊕ Nat) × HU)) (f61 : HH → Int → Int → Option Int) , bX11_served_24 f161 f61 x1 x2 y0 s = segT 2 70 g.2.2.2.2 (krTI 4) (kxT 4) (clC 161 (pX11_needState f161 4) (clC 61 (guT 4 (liWT (liPW (pX6_serviceBegins f61)))) clN)) csX11_served cuN 1000 24 [(0, aR 2), (1, aI x1), (2, aI x2)] [aI y0] s := fun _ _ => rfl
  rw [e nX11_needState nX6_serviceBegins] at q
  clear e
  refine segT_wk (by decide) (by decide) hg rwX11_served (CLK_C (pX11_needState_ok hg (by decide)) (CLK_C (liWT_ck (liPW_ok (pX6_serviceBegins_ok hg)) (by decide)) CLK_N)) (by decide) (krTI_ok (by decide)) (kxT_ok (by decide)) ?_ q
  clear q
  exact ct_N
def nX11_served_24 (x1 : Int) (x2 : Int) (y0 : Int) (s : HU) : Option ((Int ⊕ Nat) × HU) := bX11_served_24 nX11_needState nX6_serviceBegins x1 x2 y0 s
theorem wX11_served_24 {g : SG} (hg : GOK g) {σ0 : SG} : ∀ {x1 : Int} {x2 : Int} {y0 : Int} {s : HU} {b : ((Int ⊕ Nat) × HU)}, nX11_served_24 x1 x2 y0 s = some b → WK 131 (oT (fun r => some (aI r)) b.1) σ0 (abU 2 70 g b.2) 24 [(0, aR 2), (1, aI x1), (2, aI x2)] [aI y0] (abU 2 70 g s) (cnU s).1 (cnU s).2 := by
  intro x1 x2 y0 s b q
  exact uX11_served_24 hg q
def bX11_served (f156 : Int → HH → Option ((Unit ⊕ Nat) × HU)) (f49 : HH → Int → Option Int) (c24 : Int → Int → Int → HU → Option ((Int ⊕ Nat) × HU)) (x1 : Int) (h : HH) : Option ((Int ⊕ Nat) × HU) :=
  bnd (f156 x1 h) fun r1 => gd (0 + 2 ≤ 4) <| tcase r1.1 (fun _ =>
    gd ((0 + 2) ≤ 4) <|
    bnd (f49 r1.2.1 x1) fun r3 =>
    if r3 = ((-1) : Int) then
    c24 x1 r3 0 (r1.2.1, (0 + 2))
  else
    c24 x1 r3 1 (r1.2.1, (0 + 2))) (fun e => gd ((0 + 2) + 1 ≤ 4) (some (.inr e, (r1.2.1, (0 + 2)))))
theorem uX11_served {g : SG} (hg : GOK g) {σ0 : SG} {c24 : Int → Int → Int → HU → Option ((Int ⊕ Nat) × HU)} (k24 : ∀ (x1 : Int) (x2 : Int) (y0 : Int) (s : HU) (b : ((Int ⊕ Nat) × HU)), c24 x1 x2 y0 s = some b → WK 131 (oT (fun r => some (aI r)) b.1) σ0 (abU 2 70 g b.2) 24 [(0, aR 2), (1, aI x1), (2, aI x2)] [aI y0] (abU 2 70 g s) (cnU s).1 (cnU s).2) : ∀ {x1 : Int} {h : HH} {b : ((Int ⊕ Nat) × HU)}, bX11_served nX11_needParcel nX6_vanWith c24 x1 h = some b → WK 131 (oT (fun r => some (aI r)) b.1) σ0 (abU 2 70 g b.2) 0 [(0, aR 2), (1, aI x1)] [] (abU 2 70 g (h, 0)) (cnU (h, 0)).1 (cnU (h, 0)).2 := by
  intro x1 h b q
  have e : ∀ (f156 : Int → HH → Option ((Unit ⊕ Nat) × HU)) (f49 : HH → Int → Option Int) , bX11_served f156 f49 c24 x1 h = segT 2 70 g.2.2.2.2 (krTI 4) (kxT 4) (clC 156 (pX11_needParcel f156 4) (clC 49 (guT 4 (liWT (liPW (pX6_vanWith f49)))) clN)) csX11_served (cuC 24 (fun l st s => tkC 0 2 l <| tkI 1 l fun x1 => tkI 2 l fun x2 => skI st fun y0 st => skE st (c24 x1 x2 y0 s)) cuN) 1000 0 [(0, aR 2), (1, aI x1)] [] (h, 0) := fun _ _ => rfl
  rw [e nX11_needParcel nX6_vanWith] at q
  clear e
  refine segT_wk (by decide) (by decide) hg rwX11_served (CLK_C (pX11_needParcel_ok hg (by decide)) (CLK_C (liWT_ck (liPW_ok (pX6_vanWith_ok hg)) (by decide)) CLK_N)) (by decide) (krTI_ok (by decide)) (kxT_ok (by decide)) ?_ q
  clear q
  refine ct_C ?_ (ct_N)
  · intro l st s q
    obtain ⟨m0, q1⟩ := tkC_of q
    obtain ⟨x1, m1, q2⟩ := tkI_of q1
    obtain ⟨x2, m2, q3⟩ := tkI_of q2
    obtain ⟨y0, t0, rfl, q4⟩ := skI_of q3
    obtain ⟨rfl, q5⟩ := skE_of q4
    exact WK_less (k24 _ _ _ _ _ q5) (List.forall_mem_cons.mpr ⟨m0, (List.forall_mem_cons.mpr ⟨m1, (List.forall_mem_cons.mpr ⟨m2, (fun _ h => absurd h List.not_mem_nil)⟩)⟩)⟩)
def nX11_served (x1 : Int) (h : HH) : Option ((Int ⊕ Nat) × HU) := bX11_served nX11_needParcel nX6_vanWith nX11_served_24 x1 h
theorem wX11_served {g : SG} (hg : GOK g) {σ0 : SG} : ∀ {x1 : Int} {h : HH} {b : ((Int ⊕ Nat) × HU)}, nX11_served x1 h = some b → WK 131 (oT (fun r => some (aI r)) b.1) σ0 (abU 2 70 g b.2) 0 [(0, aR 2), (1, aI x1)] [] (abU 2 70 g (h, 0)) (cnU (h, 0)).1 (cnU (h, 0)).2 := by
  intro x1 h b q
  exact uX11_served hg (fun _ _ _ _ _ q => wX11_served_24 hg q) q
theorem mX11_served {g : SG} (hg : GOK g) {h : HH} {x1 : Int} {b : ((Int ⊕ Nat) × HU)} (q : nX11_served x1 h = some b) : MCT 131 [] [aR 2, aI x1] (abU 2 70 g (h, 0)) (oT (fun r => some (aI r)) b.1) (abU 2 70 g b.2) :=
  mct_of (by decide) (MFok 131 (by decide +kernel)) (fun _ => Nat.le_of_ble_eq_true rfl) (wX11_served hg q)
def pX11_served {β : Type} (z : Int → HH → Option ((Int ⊕ Nat) × HU)) (rc : Nat) : PT β := fun as s f => skC 2 as fun as => skI as fun x1 as => skE as (liTT rc 4 (fun r => some (aI r)) s (z x1 s.1) f)
theorem pX11_served_ok {β : Type} {g : SG} (hg : GOK g) {rc rs : Nat} (hrs : 6 * rc ≤ rs) : CLK1 (β := β) 131 (pX11_served nX11_served rc) (abU 2 70 g) cnU rc rs := fun as s f b q => by
  obtain ⟨as, rfl, q1⟩ := skC_of q
  obtain ⟨x1, as, rfl, q2⟩ := skI_of q1
  obtain ⟨rfl, q0⟩ := skE_of q2
  exact liTT_ok q0 (by decide) (fun _ e => mX11_served hg e) rfl rfl hrs
def csX11_does : List (Nat × List (Nat × ARow)) := [(100000, [(0, 1, .aload_n 0, 0, 0, 0), (1, 1, .iload_n 1, 0, 0, 0), (2, 3, .invokevirtual 174, 157, 2, 11), (5, 1, .aload_n 0, 0, 0, 0), (6, 3, .getfield 30, 11, 2, 2), (9, 1, .iload_n 1, 0, 0, 0), (10, 1, .iload_n 2, 0, 0, 0), (11, 3, .invokevirtual 270, 62, 3, 6), (14, 1, .ireturn, 0, 0, 0)])]
theorem rwX11_does : rowsB (mB 132) (mO 132) (mX 132) (mIni 132) (mFr 132) (mLo 132) (mT 132) csX11_does = true := by decide +kernel
def bX11_does (f157 : Int → HH → Option ((Unit ⊕ Nat) × HU)) (f62 : HH → Int → Int → Option Int) (x1 : Int) (x2 : Int) (h : HH) : Option ((Int ⊕ Nat) × HU) :=
  bnd (f157 x1 h) fun r1 => gd (0 + 2 ≤ 3) <| tcase r1.1 (fun _ =>
    gd ((0 + 2) ≤ 3) <|
    bnd (f62 r1.2.1 x1 x2) fun r3 =>
    gd ((0 + 2) ≤ 3) (some (.inl r3, (r1.2.1, (0 + 2))))) (fun e => gd ((0 + 2) + 1 ≤ 3) (some (.inr e, (r1.2.1, (0 + 2)))))
theorem uX11_does {g : SG} (hg : GOK g) {σ0 : SG} : ∀ {x1 : Int} {x2 : Int} {h : HH} {b : ((Int ⊕ Nat) × HU)}, bX11_does nX11_needVan nX6_doingAt x1 x2 h = some b → WK 132 (oT (fun r => some (aI r)) b.1) σ0 (abU 2 70 g b.2) 0 [(0, aR 2), (1, aI x1), (2, aI x2)] [] (abU 2 70 g (h, 0)) (cnU (h, 0)).1 (cnU (h, 0)).2 := by
  intro x1 x2 h b q
  have e : ∀ (f157 : Int → HH → Option ((Unit ⊕ Nat) × HU)) (f62 : HH → Int → Int → Option Int) , bX11_does f157 f62 x1 x2 h = segT 2 70 g.2.2.2.2 (krTI 3) (kxT 3) (clC 157 (pX11_needVan f157 3) (clC 62 (guT 3 (liWT (liPW (pX6_doingAt f62)))) clN)) csX11_does cuN 1000 0 [(0, aR 2), (1, aI x1), (2, aI x2)] [] (h, 0) := fun _ _ => rfl
  rw [e nX11_needVan nX6_doingAt] at q
  clear e
  refine segT_wk (by decide) (by decide) hg rwX11_does (CLK_C (pX11_needVan_ok hg (by decide)) (CLK_C (liWT_ck (liPW_ok (pX6_doingAt_ok hg)) (by decide)) CLK_N)) (by decide) (krTI_ok (by decide)) (kxT_ok (by decide)) ?_ q
  clear q
  exact ct_N
def nX11_does (x1 : Int) (x2 : Int) (h : HH) : Option ((Int ⊕ Nat) × HU) := bX11_does nX11_needVan nX6_doingAt x1 x2 h
theorem wX11_does {g : SG} (hg : GOK g) {σ0 : SG} : ∀ {x1 : Int} {x2 : Int} {h : HH} {b : ((Int ⊕ Nat) × HU)}, nX11_does x1 x2 h = some b → WK 132 (oT (fun r => some (aI r)) b.1) σ0 (abU 2 70 g b.2) 0 [(0, aR 2), (1, aI x1), (2, aI x2)] [] (abU 2 70 g (h, 0)) (cnU (h, 0)).1 (cnU (h, 0)).2 := by
  intro x1 x2 h b q
  exact uX11_does hg q
theorem mX11_does {g : SG} (hg : GOK g) {h : HH} {x1 : Int} {x2 : Int} {b : ((Int ⊕ Nat) × HU)} (q : nX11_does x1 x2 h = some b) : MCT 132 [] [aR 2, aI x1, aI x2] (abU 2 70 g (h, 0)) (oT (fun r => some (aI r)) b.1) (abU 2 70 g b.2) :=
  mct_of (by decide) (MFok 132 (by decide +kernel)) (fun _ => Nat.le_of_ble_eq_true rfl) (wX11_does hg q)
def pX11_does {β : Type} (z : Int → Int → HH → Option ((Int ⊕ Nat) × HU)) (rc : Nat) : PT β := fun as s f => skC 2 as fun as => skI as fun x1 as => skI as fun x2 as => skE as (liTT rc 3 (fun r => some (aI r)) s (z x1 x2 s.1) f)
theorem pX11_does_ok {β : Type} {g : SG} (hg : GOK g) {rc rs : Nat} (hrs : 6 * rc ≤ rs) : CLK1 (β := β) 132 (pX11_does nX11_does rc) (abU 2 70 g) cnU rc rs := fun as s f b q => by
  obtain ⟨as, rfl, q1⟩ := skC_of q
  obtain ⟨x1, as, rfl, q2⟩ := skI_of q1
  obtain ⟨x2, as, rfl, q3⟩ := skI_of q2
  obtain ⟨rfl, q0⟩ := skE_of q3
  exact liTT_ok q0 (by decide) (fun _ e => mX11_does hg e) rfl rfl hrs
def csX11_undo : List (Nat × List (Nat × ARow)) := [(100000, [(0, 1, .aload_n 0, 0, 0, 0), (1, 3, .getfield 37, 11, 3, 2), (4, 3, .getfield 273, 3, 2, 0), (7, 3, .ifCond .le 7, 14, 0, 0), (10, 1, .iconst 1, 0, 0, 0), (11, 3, .goto 4, 15, 0, 0), (14, 1, .iconst 0, 0, 0, 0), (15, 3, .invokestatic 232, 162, 1, 0), (18, 1, .aload_n 0, 0, 0, 0), (19, 3, .getfield 37, 11, 3, 2), (22, 1, .aload_n 0, 0, 0, 0), (23, 3, .getfield 30, 11, 2, 2), (26, 3, .invokevirtual 274, 33, 2, 3), (29, 1, .aload_n 0, 0, 0, 0), (30, 3, .getfield 37, 11, 3, 2), (33, 3, .getfield 273, 3, 2, 0), (36, 1, .ireturn, 0, 0, 0)])]
theorem rwX11_undo : rowsB (mB 133) (mO 133) (mX 133) (mIni 133) (mFr 133) (mLo 133) (mT 133) csX11_undo = true := by decide +kernel
def bX11_undo_15 (f162 : Int → HH → Option ((Unit ⊕ Nat) × HU)) (f33 : HH → Option HH) (y0 : Int) (s : HU) : Option ((Int ⊕ Nat) × HU) :=
  bnd (f162 y0 s.1) fun r1 => gd (s.2 + 1 ≤ 2) <| tcase r1.1 (fun _ =>
    gd ((s.2 + 1) ≤ 2) <|
    bnd (f33 r1.2.1) fun r3 =>
    gd ((s.2 + 1) ≤ 2) (some (.inl (r3.1 32 2), (r3, (s.2 + 1))))) (fun e => gd ((s.2 + 1) + 1 ≤ 2) (some (.inr e, (r1.2.1, (s.2 + 1)))))
theorem uX11_undo_15 {g : SG} (hg : GOK g) {σ0 : SG} : ∀ {y0 : Int} {s : HU} {b : ((Int ⊕ Nat) × HU)}, bX11_undo_15 nX11_needElement nX3_restore y0 s = some b → WK 133 (oT (fun r => some (aI r)) b.1) σ0 (abU 2 70 g b.2) 15 [(0, aR 2)] [aI y0] (abU 2 70 g s) (cnU s).1 (cnU s).2 := by
  intro y0 s b q
  have e : ∀ (f162 : Int → HH → Option ((Unit ⊕ Nat) × HU)) (f33 : HH → Option HH) , bX11_undo_15 f162 f33 y0 s = segT 2 70 g.2.2.2.2 (krTI 2) (kxT 2) (clC 162 (pX11_needElement f162 2) (clC 33 (guT 2 (liWT (pX3_restore f33))) clN)) csX11_undo cuN 1000 15 [(0, aR 2)] [aI y0] s := fun _ _ => rfl
  rw [e nX11_needElement nX3_restore] at q
  clear e
  refine segT_wk (by decide) (by decide) hg rwX11_undo (CLK_C (pX11_needElement_ok hg (by decide)) (CLK_C (liWT_ck (pX3_restore_ok hg) (by decide)) CLK_N)) (by decide) (krTI_ok (by decide)) (kxT_ok (by decide)) ?_ q
  clear q
  exact ct_N
def nX11_undo_15 (y0 : Int) (s : HU) : Option ((Int ⊕ Nat) × HU) := bX11_undo_15 nX11_needElement nX3_restore y0 s
theorem wX11_undo_15 {g : SG} (hg : GOK g) {σ0 : SG} : ∀ {y0 : Int} {s : HU} {b : ((Int ⊕ Nat) × HU)}, nX11_undo_15 y0 s = some b → WK 133 (oT (fun r => some (aI r)) b.1) σ0 (abU 2 70 g b.2) 15 [(0, aR 2)] [aI y0] (abU 2 70 g s) (cnU s).1 (cnU s).2 := by
  intro y0 s b q
  exact uX11_undo_15 hg q
def bX11_undo (c15 : Int → HU → Option ((Int ⊕ Nat) × HU)) (h : HH) : Option ((Int ⊕ Nat) × HU) :=
  if (0 : Int) < (h.1 32 2) then
    c15 1 (h, 0)
  else
    c15 0 (h, 0)
theorem uX11_undo {g : SG} (hg : GOK g) {σ0 : SG} {c15 : Int → HU → Option ((Int ⊕ Nat) × HU)} (k15 : ∀ (y0 : Int) (s : HU) (b : ((Int ⊕ Nat) × HU)), c15 y0 s = some b → WK 133 (oT (fun r => some (aI r)) b.1) σ0 (abU 2 70 g b.2) 15 [(0, aR 2)] [aI y0] (abU 2 70 g s) (cnU s).1 (cnU s).2) : ∀ {h : HH} {b : ((Int ⊕ Nat) × HU)}, bX11_undo c15 h = some b → WK 133 (oT (fun r => some (aI r)) b.1) σ0 (abU 2 70 g b.2) 0 [(0, aR 2)] [] (abU 2 70 g (h, 0)) (cnU (h, 0)).1 (cnU (h, 0)).2 := by
  intro h b q
  have e : bX11_undo c15 h = segT 2 70 g.2.2.2.2 (krTI 2) (kxT 2) clN csX11_undo (cuC 15 (fun l st s => tkC 0 2 l <| skI st fun y0 st => skE st (c15 y0 s)) cuN) 1000 0 [(0, aR 2)] [] (h, 0) := rfl
  rw [e] at q
  clear e
  refine segT_wk (by decide) (by decide) hg rwX11_undo CLK_N (by decide) (krTI_ok (by decide)) (kxT_ok (by decide)) ?_ q
  clear q
  refine ct_C ?_ (ct_N)
  · intro l st s q
    obtain ⟨m0, q1⟩ := tkC_of q
    obtain ⟨y0, t0, rfl, q2⟩ := skI_of q1
    obtain ⟨rfl, q3⟩ := skE_of q2
    exact WK_less (k15 _ _ _ q3) (List.forall_mem_cons.mpr ⟨m0, (fun _ h => absurd h List.not_mem_nil)⟩)
def nX11_undo (h : HH) : Option ((Int ⊕ Nat) × HU) := bX11_undo nX11_undo_15 h
theorem wX11_undo {g : SG} (hg : GOK g) {σ0 : SG} : ∀ {h : HH} {b : ((Int ⊕ Nat) × HU)}, nX11_undo h = some b → WK 133 (oT (fun r => some (aI r)) b.1) σ0 (abU 2 70 g b.2) 0 [(0, aR 2)] [] (abU 2 70 g (h, 0)) (cnU (h, 0)).1 (cnU (h, 0)).2 := by
  intro h b q
  exact uX11_undo hg (fun _ _ _ q => wX11_undo_15 hg q) q
theorem mX11_undo {g : SG} (hg : GOK g) {h : HH} {b : ((Int ⊕ Nat) × HU)} (q : nX11_undo h = some b) : MCT 133 [] [aR 2] (abU 2 70 g (h, 0)) (oT (fun r => some (aI r)) b.1) (abU 2 70 g b.2) :=
  mct_of (by decide) (MFok 133 (by decide +kernel)) (fun _ => Nat.le_of_ble_eq_true rfl) (wX11_undo hg q)
def pX11_undo {β : Type} (z : HH → Option ((Int ⊕ Nat) × HU)) (rc : Nat) : PT β := fun as s f => skC 2 as fun as => skE as (liTT rc 2 (fun r => some (aI r)) s (z s.1) f)
theorem pX11_undo_ok {β : Type} {g : SG} (hg : GOK g) {rc rs : Nat} (hrs : 6 * rc ≤ rs) : CLK1 (β := β) 133 (pX11_undo nX11_undo rc) (abU 2 70 g) cnU rc rs := fun as s f b q => by
  obtain ⟨as, rfl, q1⟩ := skC_of q
  obtain ⟨rfl, q0⟩ := skE_of q1
  exact liTT_ok q0 (by decide) (fun _ e => mX11_undo hg e) rfl rfl hrs
def csX11_rules : List (Nat × List (Nat × ARow)) := [(100000, [(0, 1, .iload_n 1, 0, 0, 0), (1, 2, .bipush 30, 0, 0, 0), (3, 3, .sipush 600, 0, 0, 0), (6, 3, .invokestatic 109, 159, 3, 0), (9, 1, .iload_n 2, 0, 0, 0), (10, 1, .iconst 5, 0, 0, 0), (11, 2, .bipush 120, 0, 0, 0), (13, 3, .invokestatic 109, 159, 3, 0), (16, 1, .iload_n 3, 0, 0, 0), (17, 2, .bipush 60, 0, 0, 0), (19, 3, .sipush 900, 0, 0, 0), (22, 3, .invokestatic 109, 159, 3, 0), (25, 1, .aload_n 0, 0, 0, 0), (26, 3, .getfield 67, 11, 7, 2), (29, 1, .iload_n 1, 0, 0, 0), (30, 1, .iload_n 2, 0, 0, 0), (31, 1, .iload_n 3, 0, 0, 0), (32, 3, .invokevirtual 277, 35, 4, 4), (35, 1, .ireturn, 0, 0, 0)])]
theorem rwX11_rules : rowsB (mB 134) (mO 134) (mX 134) (mIni 134) (mFr 134) (mLo 134) (mT 134) csX11_rules = true := by decide +kernel
def bX11_rules (f159 : Int → Int → Int → HH → Option ((Unit ⊕ Nat) × HU)) (f35 : Int → Int → Int → HH → Option (Int × HH)) (x1 : Int) (x2 : Int) (x3 : Int) (h : HH) : Option ((Int ⊕ Nat) × HU) :=
  bnd (f159 x1 30 600 h) fun r1 => gd (0 + 2 ≤ 7) <| tcase r1.1 (fun _ =>
    bnd (f159 x2 5 120 r1.2.1) fun r3 => gd ((0 + 2) + 2 ≤ 7) <| tcase r3.1 (fun _ =>
    bnd (f159 x3 60 900 r3.2.1) fun r5 => gd (((0 + 2) + 2) + 2 ≤ 7) <| tcase r5.1 (fun _ =>
    gd ((((0 + 2) + 2) + 2) ≤ 7) <|
    bnd (f35 x1 x2 x3 r5.2.1) fun r7 =>
    gd ((((0 + 2) + 2) + 2) ≤ 7) (some (.inl r7.1, (r7.2, (((0 + 2) + 2) + 2))))) (fun e => gd ((((0 + 2) + 2) + 2) + 1 ≤ 7) (some (.inr e, (r5.2.1, (((0 + 2) + 2) + 2)))))) (fun e => gd (((0 + 2) + 2) + 1 ≤ 7) (some (.inr e, (r3.2.1, ((0 + 2) + 2)))))) (fun e => gd ((0 + 2) + 1 ≤ 7) (some (.inr e, (r1.2.1, (0 + 2)))))
theorem uX11_rules {g : SG} (hg : GOK g) {σ0 : SG} : ∀ {x1 : Int} {x2 : Int} {x3 : Int} {h : HH} {b : ((Int ⊕ Nat) × HU)}, bX11_rules nX11_needRange nX4_begin x1 x2 x3 h = some b → WK 134 (oT (fun r => some (aI r)) b.1) σ0 (abU 2 70 g b.2) 0 [(0, aR 2), (1, aI x1), (2, aI x2), (3, aI x3)] [] (abU 2 70 g (h, 0)) (cnU (h, 0)).1 (cnU (h, 0)).2 := by
  intro x1 x2 x3 h b q
  have e : ∀ (f159 : Int → Int → Int → HH → Option ((Unit ⊕ Nat) × HU)) (f35 : Int → Int → Int → HH → Option (Int × HH)) , bX11_rules f159 f35 x1 x2 x3 h = segT 2 70 g.2.2.2.2 (krTI 7) (kxT 7) (clC 159 (pX11_needRange f159 7) (clC 35 (guT 7 (liWT (pX4_begin f35))) clN)) csX11_rules cuN 1000 0 [(0, aR 2), (1, aI x1), (2, aI x2), (3, aI x3)] [] (h, 0) := fun _ _ => rfl
  rw [e nX11_needRange nX4_begin] at q
  clear e
  refine segT_wk (by decide) (by decide) hg rwX11_rules (CLK_C (pX11_needRange_ok hg (by decide)) (CLK_C (liWT_ck (pX4_begin_ok hg) (by decide)) CLK_N)) (by decide) (krTI_ok (by decide)) (kxT_ok (by decide)) ?_ q
  clear q
  exact ct_N
def nX11_rules (x1 : Int) (x2 : Int) (x3 : Int) (h : HH) : Option ((Int ⊕ Nat) × HU) := bX11_rules nX11_needRange nX4_begin x1 x2 x3 h
theorem wX11_rules {g : SG} (hg : GOK g) {σ0 : SG} : ∀ {x1 : Int} {x2 : Int} {x3 : Int} {h : HH} {b : ((Int ⊕ Nat) × HU)}, nX11_rules x1 x2 x3 h = some b → WK 134 (oT (fun r => some (aI r)) b.1) σ0 (abU 2 70 g b.2) 0 [(0, aR 2), (1, aI x1), (2, aI x2), (3, aI x3)] [] (abU 2 70 g (h, 0)) (cnU (h, 0)).1 (cnU (h, 0)).2 := by
  intro x1 x2 x3 h b q
  exact uX11_rules hg q
theorem mX11_rules {g : SG} (hg : GOK g) {h : HH} {x1 : Int} {x2 : Int} {x3 : Int} {b : ((Int ⊕ Nat) × HU)} (q : nX11_rules x1 x2 x3 h = some b) : MCT 134 [] [aR 2, aI x1, aI x2, aI x3] (abU 2 70 g (h, 0)) (oT (fun r => some (aI r)) b.1) (abU 2 70 g b.2) :=
  mct_of (by decide) (MFok 134 (by decide +kernel)) (fun _ => Nat.le_of_ble_eq_true rfl) (wX11_rules hg q)
def pX11_rules {β : Type} (z : Int → Int → Int → HH → Option ((Int ⊕ Nat) × HU)) (rc : Nat) : PT β := fun as s f => skC 2 as fun as => skI as fun x1 as => skI as fun x2 as => skI as fun x3 as => skE as (liTT rc 7 (fun r => some (aI r)) s (z x1 x2 x3 s.1) f)
theorem pX11_rules_ok {β : Type} {g : SG} (hg : GOK g) {rc rs : Nat} (hrs : 6 * rc ≤ rs) : CLK1 (β := β) 134 (pX11_rules nX11_rules rc) (abU 2 70 g) cnU rc rs := fun as s f b q => by
  obtain ⟨as, rfl, q1⟩ := skC_of q
  obtain ⟨x1, as, rfl, q2⟩ := skI_of q1
  obtain ⟨x2, as, rfl, q3⟩ := skI_of q2
  obtain ⟨x3, as, rfl, q4⟩ := skI_of q3
  obtain ⟨rfl, q0⟩ := skE_of q4
  exact liTT_ok q0 (by decide) (fun _ e => mX11_rules hg e) rfl rfl hrs
def csX11_piece : List (Nat × List (Nat × ARow)) := [(100000, [(0, 1, .iload_n 1, 0, 0, 0), (1, 1, .iconst 0, 0, 0, 0), (2, 1, .iconst 2, 0, 0, 0), (3, 3, .invokestatic 109, 159, 3, 0), (6, 1, .iload_n 2, 0, 0, 0), (7, 1, .iconst 1, 0, 0, 0), (8, 3, .sipush 600, 0, 0, 0), (11, 3, .invokestatic 109, 159, 3, 0), (14, 1, .aload_n 0, 0, 0, 0), (15, 3, .getfield 67, 11, 7, 2), (18, 3, .getfield 280, 4, 3, 0), (21, 2, .bipush 60, 0, 0, 0), (23, 3, .if_icmp .ge 7, 30, 0, 0), (26, 1, .iconst 1, 0, 0, 0), (27, 3, .goto 4, 31, 0, 0), (30, 1, .iconst 0, 0, 0, 0), (31, 3, .invokestatic 122, 161, 1, 0), (34, 1, .aload_n 0, 0, 0, 0), (35, 3, .getfield 67, 11, 7, 2), (38, 1, .iload_n 1, 0, 0, 0), (39, 1, .iload_n 2, 0, 0, 0), (40, 3, .invokevirtual 281, 36, 3, 4), (43, 1, .ireturn, 0, 0, 0)])]
theorem rwX11_piece : rowsB (mB 135) (mO 135) (mX 135) (mIni 135) (mFr 135) (mLo 135) (mT 135) csX11_piece = true := by decide +kernel
def bX11_piece_31 (f161 : Int → HH → Option ((Unit ⊕ Nat) × HU)) (f36 : Int → Int → HH → Option (Int × HH)) (x1 : Int) (x2 : Int) (y0 : Int) (s : HU) : Option ((Int ⊕ Nat) × HU) :=
  bnd (f161 y0 s.1) fun r1 => gd (s.2 + 1 ≤ 6) <| tcase r1.1 (fun _ =>
    gd ((s.2 + 1) ≤ 6) <|
    bnd (f36 x1 x2 r1.2.1) fun r3 =>
    gd ((s.2 + 1) ≤ 6) (some (.inl r3.1, (r3.2, (s.2 + 1))))) (fun e => gd ((s.2 + 1) + 1 ≤ 6) (some (.inr e, (r1.2.1, (s.2 + 1)))))
theorem uX11_piece_31 {g : SG} (hg : GOK g) {σ0 : SG} : ∀ {x1 : Int} {x2 : Int} {y0 : Int} {s : HU} {b : ((Int ⊕ Nat) × HU)}, bX11_piece_31 nX11_needState nX4_add x1 x2 y0 s = some b → WK 135 (oT (fun r => some (aI r)) b.1) σ0 (abU 2 70 g b.2) 31 [(0, aR 2), (1, aI x1), (2, aI x2)] [aI y0] (abU 2 70 g s) (cnU s).1 (cnU s).2 := by
  intro x1 x2 y0 s b q
  have e : ∀ (f161 : Int → HH → Option ((Unit ⊕ Nat) × HU)) (f36 : Int → Int → HH → Option (Int × HH)) , bX11_piece_31 f161 f36 x1 x2 y0 s = segT 2 70 g.2.2.2.2 (krTI 6) (kxT 6) (clC 161 (pX11_needState f161 6) (clC 36 (guT 6 (liWT (pX4_add f36))) clN)) csX11_piece cuN 1000 31 [(0, aR 2), (1, aI x1), (2, aI x2)] [aI y0] s := fun _ _ => rfl
  rw [e nX11_needState nX4_add] at q
  clear e
  refine segT_wk (by decide) (by decide) hg rwX11_piece (CLK_C (pX11_needState_ok hg (by decide)) (CLK_C (liWT_ck (pX4_add_ok hg) (by decide)) CLK_N)) (by decide) (krTI_ok (by decide)) (kxT_ok (by decide)) ?_ q
  clear q
  exact ct_N
def nX11_piece_31 (x1 : Int) (x2 : Int) (y0 : Int) (s : HU) : Option ((Int ⊕ Nat) × HU) := bX11_piece_31 nX11_needState nX4_add x1 x2 y0 s
theorem wX11_piece_31 {g : SG} (hg : GOK g) {σ0 : SG} : ∀ {x1 : Int} {x2 : Int} {y0 : Int} {s : HU} {b : ((Int ⊕ Nat) × HU)}, nX11_piece_31 x1 x2 y0 s = some b → WK 135 (oT (fun r => some (aI r)) b.1) σ0 (abU 2 70 g b.2) 31 [(0, aR 2), (1, aI x1), (2, aI x2)] [aI y0] (abU 2 70 g s) (cnU s).1 (cnU s).2 := by
  intro x1 x2 y0 s b q
  exact uX11_piece_31 hg q
def bX11_piece (f159 : Int → Int → Int → HH → Option ((Unit ⊕ Nat) × HU)) (c31 : Int → Int → Int → HU → Option ((Int ⊕ Nat) × HU)) (x1 : Int) (x2 : Int) (h : HH) : Option ((Int ⊕ Nat) × HU) :=
  bnd (f159 x1 0 2 h) fun r1 => gd (0 + 2 ≤ 6) <| tcase r1.1 (fun _ =>
    bnd (f159 x2 1 600 r1.2.1) fun r3 => gd ((0 + 2) + 2 ≤ 6) <| tcase r3.1 (fun _ =>
    if (r3.2.1.1 59 3) < (60 : Int) then
    c31 x1 x2 1 (r3.2.1, ((0 + 2) + 2))
  else
    c31 x1 x2 0 (r3.2.1, ((0 + 2) + 2))) (fun e => gd (((0 + 2) + 2) + 1 ≤ 6) (some (.inr e, (r3.2.1, ((0 + 2) + 2)))))) (fun e => gd ((0 + 2) + 1 ≤ 6) (some (.inr e, (r1.2.1, (0 + 2)))))
theorem uX11_piece {g : SG} (hg : GOK g) {σ0 : SG} {c31 : Int → Int → Int → HU → Option ((Int ⊕ Nat) × HU)} (k31 : ∀ (x1 : Int) (x2 : Int) (y0 : Int) (s : HU) (b : ((Int ⊕ Nat) × HU)), c31 x1 x2 y0 s = some b → WK 135 (oT (fun r => some (aI r)) b.1) σ0 (abU 2 70 g b.2) 31 [(0, aR 2), (1, aI x1), (2, aI x2)] [aI y0] (abU 2 70 g s) (cnU s).1 (cnU s).2) : ∀ {x1 : Int} {x2 : Int} {h : HH} {b : ((Int ⊕ Nat) × HU)}, bX11_piece nX11_needRange c31 x1 x2 h = some b → WK 135 (oT (fun r => some (aI r)) b.1) σ0 (abU 2 70 g b.2) 0 [(0, aR 2), (1, aI x1), (2, aI x2)] [] (abU 2 70 g (h, 0)) (cnU (h, 0)).1 (cnU (h, 0)).2 := by
  intro x1 x2 h b q
  have e : ∀ (f159 : Int → Int → Int → HH → Option ((Unit ⊕ Nat) × HU)) , bX11_piece f159 c31 x1 x2 h = segT 2 70 g.2.2.2.2 (krTI 6) (kxT 6) (clC 159 (pX11_needRange f159 6) clN) csX11_piece (cuC 31 (fun l st s => tkC 0 2 l <| tkI 1 l fun x1 => tkI 2 l fun x2 => skI st fun y0 st => skE st (c31 x1 x2 y0 s)) cuN) 1000 0 [(0, aR 2), (1, aI x1), (2, aI x2)] [] (h, 0) := fun _ => rfl
  rw [e nX11_needRange] at q
  clear e
  refine segT_wk (by decide) (by decide) hg rwX11_piece (CLK_C (pX11_needRange_ok hg (by decide)) CLK_N) (by decide) (krTI_ok (by decide)) (kxT_ok (by decide)) ?_ q
  clear q
  refine ct_C ?_ (ct_N)
  · intro l st s q
    obtain ⟨m0, q1⟩ := tkC_of q
    obtain ⟨x1, m1, q2⟩ := tkI_of q1
    obtain ⟨x2, m2, q3⟩ := tkI_of q2
    obtain ⟨y0, t0, rfl, q4⟩ := skI_of q3
    obtain ⟨rfl, q5⟩ := skE_of q4
    exact WK_less (k31 _ _ _ _ _ q5) (List.forall_mem_cons.mpr ⟨m0, (List.forall_mem_cons.mpr ⟨m1, (List.forall_mem_cons.mpr ⟨m2, (fun _ h => absurd h List.not_mem_nil)⟩)⟩)⟩)
def nX11_piece (x1 : Int) (x2 : Int) (h : HH) : Option ((Int ⊕ Nat) × HU) := bX11_piece nX11_needRange nX11_piece_31 x1 x2 h
theorem wX11_piece {g : SG} (hg : GOK g) {σ0 : SG} : ∀ {x1 : Int} {x2 : Int} {h : HH} {b : ((Int ⊕ Nat) × HU)}, nX11_piece x1 x2 h = some b → WK 135 (oT (fun r => some (aI r)) b.1) σ0 (abU 2 70 g b.2) 0 [(0, aR 2), (1, aI x1), (2, aI x2)] [] (abU 2 70 g (h, 0)) (cnU (h, 0)).1 (cnU (h, 0)).2 := by
  intro x1 x2 h b q
  exact uX11_piece hg (fun _ _ _ _ _ q => wX11_piece_31 hg q) q
theorem mX11_piece {g : SG} (hg : GOK g) {h : HH} {x1 : Int} {x2 : Int} {b : ((Int ⊕ Nat) × HU)} (q : nX11_piece x1 x2 h = some b) : MCT 135 [] [aR 2, aI x1, aI x2] (abU 2 70 g (h, 0)) (oT (fun r => some (aI r)) b.1) (abU 2 70 g b.2) :=
  mct_of (by decide) (MFok 135 (by decide +kernel)) (fun _ => Nat.le_of_ble_eq_true rfl) (wX11_piece hg q)
def pX11_piece {β : Type} (z : Int → Int → HH → Option ((Int ⊕ Nat) × HU)) (rc : Nat) : PT β := fun as s f => skC 2 as fun as => skI as fun x1 as => skI as fun x2 as => skE as (liTT rc 6 (fun r => some (aI r)) s (z x1 x2 s.1) f)
theorem pX11_piece_ok {β : Type} {g : SG} (hg : GOK g) {rc rs : Nat} (hrs : 6 * rc ≤ rs) : CLK1 (β := β) 135 (pX11_piece nX11_piece rc) (abU 2 70 g) cnU rc rs := fun as s f b q => by
  obtain ⟨as, rfl, q1⟩ := skC_of q
  obtain ⟨x1, as, rfl, q2⟩ := skI_of q1
  obtain ⟨x2, as, rfl, q3⟩ := skI_of q2
  obtain ⟨rfl, q0⟩ := skE_of q3
  exact liTT_ok q0 (by decide) (fun _ e => mX11_piece hg e) rfl rfl hrs
def csX11_unlawful : List (Nat × List (Nat × ARow)) := [(100000, [(0, 1, .aload_n 0, 0, 0, 0), (1, 3, .getfield 67, 11, 7, 2), (4, 3, .invokevirtual 283, 37, 1, 4), (7, 1, .ireturn, 0, 0, 0)])]
theorem rwX11_unlawful : rowsB (mB 136) (mO 136) (mX 136) (mIni 136) (mFr 136) (mLo 136) (mT 136) csX11_unlawful = true := by decide +kernel
def bX11_unlawful (f37 : HH → Option Int) (h : HH) : Option Int :=
  bnd (f37 h) fun r1 =>
    some r1
theorem uX11_unlawful {g : SG} (hg : GOK g) {σ0 : SG} {h : HH} : ∀ {b : Int}, bX11_unlawful nX4_firstBroken h = some b → WK 136 (.inl (some (aI b))) σ0 (abH 2 70 g h) 0 [(0, aR 2)] [] (abH 2 70 g h) 0 0 := by
  intro  b q
  have e : ∀ (f37 : HH → Option Int) , bX11_unlawful f37 h = segP 2 70 g.2.2.2.2 h krPI (clCP 37 (pX4_firstBroken f37 h) clNP) csX11_unlawful cuN 1000 0 [(0, aR 2)] [] := fun _ => rfl
  rw [e nX4_firstBroken] at q
  clear e
  refine segP_wk (by decide) (by decide) hg rwX11_unlawful (CLKP_C (pX4_firstBroken_ok hg) CLKP_N) krPI_ok ?_ q
  clear q
  exact ct_N
def nX11_unlawful (h : HH) : Option Int := bX11_unlawful nX4_firstBroken h
theorem wX11_unlawful {g : SG} (hg : GOK g) {σ0 : SG} {h : HH} : ∀ {b : Int}, nX11_unlawful h = some b → WK 136 (.inl (some (aI b))) σ0 (abH 2 70 g h) 0 [(0, aR 2)] [] (abH 2 70 g h) 0 0 := by
  intro  b q
  exact uX11_unlawful hg q
theorem mX11_unlawful {g : SG} (hg : GOK g) {h : HH} {b : Int} (q : nX11_unlawful h = some b) : MCT 136 [] [aR 2] (abH 2 70 g h) (.inl (some (aI b))) (abH 2 70 g h) :=
  mct_of (by decide) (MFok 136 (by decide +kernel)) (fun _ => Nat.le_of_ble_eq_true rfl) (wX11_unlawful hg q)
def pX11_unlawful {β : Type} (z : HH → Option Int) : PP β := fun h as f => skC 2 as fun as => skE as (bnd (z h) fun r => f (.inl (some (aI r))))
theorem pX11_unlawful_ok {β : Type} {g : SG} (hg : GOK g) : CP1 (β := β) 136 (pX11_unlawful nX11_unlawful) 2 70 g := fun h as f b q => by
  obtain ⟨as, rfl, q1⟩ := skC_of q
  obtain ⟨rfl, q0⟩ := skE_of q1
  obtain ⟨r, z1, z2⟩ := bnd_of q0
  exact ⟨_, z2, by decide, mX11_unlawful hg z1, rfl, rfl, fun z => absurd z (by decide)⟩
def csX11_mayDrive : List (Nat × List (Nat × ARow)) := [(100000, [(0, 1, .iload_n 1, 0, 0, 0), (1, 3, .ifCond .eq 13, 14, 0, 0), (4, 1, .aload_n 0, 0, 0, 0), (5, 3, .getfield 67, 11, 7, 2), (8, 3, .invokevirtual 287, 38, 1, 4), (11, 3, .goto 10, 21, 0, 0), (14, 1, .aload_n 0, 0, 0, 0), (15, 3, .getfield 67, 11, 7, 2), (18, 3, .invokevirtual 290, 39, 1, 4), (21, 1, .ireturn, 0, 0, 0)])]
theorem rwX11_mayDrive : rowsB (mB 137) (mO 137) (mX 137) (mIni 137) (mFr 137) (mLo 137) (mT 137) csX11_mayDrive = true := by decide +kernel
def bX11_mayDrive (f39 : HH → Option Int) (f38 : HH → Option Int) (h : HH) (x1 : Int) : Option Int :=
  if x1 = (0 : Int) then
    bnd (f39 h) fun r1 =>
    some r1
  else
    bnd (f38 h) fun r2 =>
    some r2
theorem uX11_mayDrive {g : SG} (hg : GOK g) {σ0 : SG} {h : HH} : ∀ {x1 : Int} {b : Int}, bX11_mayDrive nX4_leftWithoutRest nX4_leftInAll h x1 = some b → WK 137 (.inl (some (aI b))) σ0 (abH 2 70 g h) 0 [(0, aR 2), (1, aI x1)] [] (abH 2 70 g h) 0 0 := by
  intro x1 b q
  have e : ∀ (f39 : HH → Option Int) (f38 : HH → Option Int) , bX11_mayDrive f39 f38 h x1 = segP 2 70 g.2.2.2.2 h krPI (clCP 39 (pX4_leftWithoutRest f39 h) (clCP 38 (pX4_leftInAll f38 h) clNP)) csX11_mayDrive cuN 1000 0 [(0, aR 2), (1, aI x1)] [] := fun _ _ => rfl
  rw [e nX4_leftWithoutRest nX4_leftInAll] at q
  clear e
  refine segP_wk (by decide) (by decide) hg rwX11_mayDrive (CLKP_C (pX4_leftWithoutRest_ok hg) (CLKP_C (pX4_leftInAll_ok hg) CLKP_N)) krPI_ok ?_ q
  clear q
  exact ct_N
def nX11_mayDrive (h : HH) (x1 : Int) : Option Int := bX11_mayDrive nX4_leftWithoutRest nX4_leftInAll h x1
theorem wX11_mayDrive {g : SG} (hg : GOK g) {σ0 : SG} {h : HH} : ∀ {x1 : Int} {b : Int}, nX11_mayDrive h x1 = some b → WK 137 (.inl (some (aI b))) σ0 (abH 2 70 g h) 0 [(0, aR 2), (1, aI x1)] [] (abH 2 70 g h) 0 0 := by
  intro x1 b q
  exact uX11_mayDrive hg q
theorem mX11_mayDrive {g : SG} (hg : GOK g) {h : HH} {x1 : Int} {b : Int} (q : nX11_mayDrive h x1 = some b) : MCT 137 [] [aR 2, aI x1] (abH 2 70 g h) (.inl (some (aI b))) (abH 2 70 g h) :=
  mct_of (by decide) (MFok 137 (by decide +kernel)) (fun _ => Nat.le_of_ble_eq_true rfl) (wX11_mayDrive hg q)
def pX11_mayDrive {β : Type} (z : HH → Int → Option Int) : PP β := fun h as f => skC 2 as fun as => skI as fun x1 as => skE as (bnd (z h x1) fun r => f (.inl (some (aI r))))
theorem pX11_mayDrive_ok {β : Type} {g : SG} (hg : GOK g) : CP1 (β := β) 137 (pX11_mayDrive nX11_mayDrive) 2 70 g := fun h as f b q => by
  obtain ⟨as, rfl, q1⟩ := skC_of q
  obtain ⟨x1, as, rfl, q2⟩ := skI_of q1
  obtain ⟨rfl, q0⟩ := skE_of q2
  obtain ⟨r, z1, z2⟩ := bnd_of q0
  exact ⟨_, z2, by decide, mX11_mayDrive hg z1, rfl, rfl, fun z => absurd z (by decide)⟩
def csX11_leastTime : List (Nat × List (Nat × ARow)) := [(100000, [(0, 1, .iload_n 1, 0, 0, 0), (1, 1, .iconst 0, 0, 0, 0), (2, 3, .sipush 900, 0, 0, 0), (5, 3, .invokestatic 109, 159, 3, 0), (8, 1, .aload_n 0, 0, 0, 0), (9, 3, .getfield 67, 11, 7, 2), (12, 1, .iload_n 1, 0, 0, 0), (13, 3, .invokevirtual 293, 40, 2, 4), (16, 1, .ireturn, 0, 0, 0)])]
theorem rwX11_leastTime : rowsB (mB 138) (mO 138) (mX 138) (mIni 138) (mFr 138) (mLo 138) (mT 138) csX11_leastTime = true := by decide +kernel
def bX11_leastTime (f159 : Int → Int → Int → HH → Option ((Unit ⊕ Nat) × HU)) (f40 : HH → Int → Option Int) (x1 : Int) (h : HH) : Option ((Int ⊕ Nat) × HU) :=
  bnd (f159 x1 0 900 h) fun r1 => gd (0 + 2 ≤ 3) <| tcase r1.1 (fun _ =>
    gd ((0 + 2) ≤ 3) <|
    bnd (f40 r1.2.1 x1) fun r3 =>
    gd ((0 + 2) ≤ 3) (some (.inl r3, (r1.2.1, (0 + 2))))) (fun e => gd ((0 + 2) + 1 ≤ 3) (some (.inr e, (r1.2.1, (0 + 2)))))
theorem uX11_leastTime {g : SG} (hg : GOK g) {σ0 : SG} : ∀ {x1 : Int} {h : HH} {b : ((Int ⊕ Nat) × HU)}, bX11_leastTime nX11_needRange nX4_timeFor x1 h = some b → WK 138 (oT (fun r => some (aI r)) b.1) σ0 (abU 2 70 g b.2) 0 [(0, aR 2), (1, aI x1)] [] (abU 2 70 g (h, 0)) (cnU (h, 0)).1 (cnU (h, 0)).2 := by
  intro x1 h b q
  have e : ∀ (f159 : Int → Int → Int → HH → Option ((Unit ⊕ Nat) × HU)) (f40 : HH → Int → Option Int) , bX11_leastTime f159 f40 x1 h = segT 2 70 g.2.2.2.2 (krTI 3) (kxT 3) (clC 159 (pX11_needRange f159 3) (clC 40 (guT 3 (liWT (liPW (pX4_timeFor f40)))) clN)) csX11_leastTime cuN 1000 0 [(0, aR 2), (1, aI x1)] [] (h, 0) := fun _ _ => rfl
  rw [e nX11_needRange nX4_timeFor] at q
  clear e
  refine segT_wk (by decide) (by decide) hg rwX11_leastTime (CLK_C (pX11_needRange_ok hg (by decide)) (CLK_C (liWT_ck (liPW_ok (pX4_timeFor_ok hg)) (by decide)) CLK_N)) (by decide) (krTI_ok (by decide)) (kxT_ok (by decide)) ?_ q
  clear q
  exact ct_N
def nX11_leastTime (x1 : Int) (h : HH) : Option ((Int ⊕ Nat) × HU) := bX11_leastTime nX11_needRange nX4_timeFor x1 h
theorem wX11_leastTime {g : SG} (hg : GOK g) {σ0 : SG} : ∀ {x1 : Int} {h : HH} {b : ((Int ⊕ Nat) × HU)}, nX11_leastTime x1 h = some b → WK 138 (oT (fun r => some (aI r)) b.1) σ0 (abU 2 70 g b.2) 0 [(0, aR 2), (1, aI x1)] [] (abU 2 70 g (h, 0)) (cnU (h, 0)).1 (cnU (h, 0)).2 := by
  intro x1 h b q
  exact uX11_leastTime hg q
theorem mX11_leastTime {g : SG} (hg : GOK g) {h : HH} {x1 : Int} {b : ((Int ⊕ Nat) × HU)} (q : nX11_leastTime x1 h = some b) : MCT 138 [] [aR 2, aI x1] (abU 2 70 g (h, 0)) (oT (fun r => some (aI r)) b.1) (abU 2 70 g b.2) :=
  mct_of (by decide) (MFok 138 (by decide +kernel)) (fun _ => Nat.le_of_ble_eq_true rfl) (wX11_leastTime hg q)
def pX11_leastTime {β : Type} (z : Int → HH → Option ((Int ⊕ Nat) × HU)) (rc : Nat) : PT β := fun as s f => skC 2 as fun as => skI as fun x1 as => skE as (liTT rc 3 (fun r => some (aI r)) s (z x1 s.1) f)
theorem pX11_leastTime_ok {β : Type} {g : SG} (hg : GOK g) {rc rs : Nat} (hrs : 6 * rc ≤ rs) : CLK1 (β := β) 138 (pX11_leastTime nX11_leastTime rc) (abU 2 70 g) cnU rc rs := fun as s f b q => by
  obtain ⟨as, rfl, q1⟩ := skC_of q
  obtain ⟨x1, as, rfl, q2⟩ := skI_of q1
  obtain ⟨rfl, q0⟩ := skE_of q2
  exact liTT_ok q0 (by decide) (fun _ e => mX11_leastTime hg e) rfl rfl hrs
def csX11_failAtDoor : List (Nat × List (Nat × ARow)) := [(40, [(0, 1, .aload_n 0, 0, 0, 0), (1, 3, .getfield 21, 11, 1, 2), (4, 3, .getfield 311, 2, 8, 2), (7, 1, .iload_n 2, 0, 0, 0), (8, 1, .dup2, 0, 0, 0), (9, 1, .iaload, 0, 0, 0), (10, 1, .iconst 1, 0, 0, 0), (11, 1, .iadd, 0, 0, 0), (12, 1, .iastore, 0, 0, 0), (13, 1, .aload_n 0, 0, 0, 0), (14, 3, .getfield 21, 11, 1, 2), (17, 3, .getfield 311, 2, 8, 2), (20, 1, .iload_n 2, 0, 0, 0), (21, 1, .iaload, 0, 0, 0), (22, 1, .iconst 3, 0, 0, 0), (23, 3, .if_icmp .ge 54, 77, 0, 0), (26, 1, .iload_n 3, 0, 0, 0), (27, 1, .aload_n 0, 0, 0, 0), (28, 3, .getfield 94, 11, 11, 2), (31, 1, .arraylength, 0, 0, 0), (32, 3, .if_icmp .ge 45, 77, 0, 0), (35, 1, .aload_n 0, 0, 0, 0), (36, 3, .getfield 94, 11, 11, 2), (39, 1, .iload_n 3, 0, 0, 0)]),
  (78, [(40, 1, .iload_n 2, 0, 0, 0), (41, 1, .iastore, 0, 0, 0), (42, 1, .aload_n 0, 0, 0, 0), (43, 3, .getfield 21, 11, 1, 2), (46, 1, .iload_n 1, 0, 0, 0), (47, 1, .aload_n 0, 0, 0, 0), (48, 3, .getfield 94, 11, 11, 2), (51, 1, .iload_n 3, 0, 0, 0), (52, 1, .iconst 1, 0, 0, 0), (53, 1, .iadd, 0, 0, 0), (54, 3, .invokevirtual 211, 27, 4, 2), (57, 1, .iconst (-1), 0, 0, 0), (58, 3, .if_icmp .eq 19, 77, 0, 0), (61, 1, .aload_n 0, 0, 0, 0), (62, 3, .getfield 30, 11, 2, 2), (65, 1, .iload_n 1, 0, 0, 0), (66, 1, .aload_n 0, 0, 0, 0), (67, 3, .getfield 94, 11, 11, 2), (70, 1, .iload_n 3, 0, 0, 0), (71, 1, .iconst 1, 0, 0, 0), (72, 1, .iadd, 0, 0, 0), (73, 3, .invokevirtual 219, 51, 4, 6), (76, 1, .return_, 0, 0, 0), (77, 1, .aload_n 0, 0, 0, 0)]),
  (100000, [(78, 3, .getfield 30, 11, 2, 2), (81, 1, .iload_n 1, 0, 0, 0), (82, 1, .aload_n 0, 0, 0, 0), (83, 3, .getfield 94, 11, 11, 2), (86, 1, .iload_n 3, 0, 0, 0), (87, 3, .invokevirtual 219, 51, 4, 6), (90, 1, .aload_n 0, 0, 0, 0), (91, 3, .getfield 74, 11, 8, 2), (94, 1, .iload_n 2, 0, 0, 0), (95, 3, .invokevirtual 414, 2, 2, 0), (98, 1, .return_, 0, 0, 0)])]
theorem rwX11_failAtDoor : rowsB (mB 166) (mO 166) (mX 166) (mIni 166) (mFr 166) (mLo 166) (mT 166) csX11_failAtDoor = true := by decide +kernel
def bX11_failAtDoor_77 (f51 : Int → Nat → Int → HH → Option HH) (f2 : Int → HH → Option HH) (x1 : Int) (x2 : Int) (x3 : Int) (h : HH) : Option HH :=
  bnd (f51 x1 69 x3 h) fun r1 =>
    bnd (f2 x2 r1) fun r2 =>
    some r2
theorem uX11_failAtDoor_77 {g : SG} (hg : GOK g) {σ0 : SG} : ∀ {x1 : Int} {x2 : Int} {x3 : Int} {h : HH} {b : HH}, bX11_failAtDoor_77 nX6_replace nX0_sendAway x1 x2 x3 h = some b → WK 166 (.inl none) σ0 (abH 2 70 g b) 77 [(0, aR 2), (1, aI x1), (2, aI x2), (3, aI x3)] [] (abH 2 70 g h) 0 0 := by
  intro x1 x2 x3 h b q
  have e : ∀ (f51 : Int → Nat → Int → HH → Option HH) (f2 : Int → HH → Option HH) , bX11_failAtDoor_77 f51 f2 x1 x2 x3 h = segW 2 70 g.2.2.2.2 krWV (clC 51 (pX6_replace f51) (clC 2 (pX0_sendAway f2) clN)) csX11_failAtDoor cuN 1000 77 [(0, aR 2), (1, aI x1), (2, aI x2), (3, aI x3)] [] h := fun _ _ => rfl
  rw [e nX6_replace nX0_sendAway] at q
  clear e
  refine segW_wk (by decide) (by decide) hg rwX11_failAtDoor (CLKW_C (pX6_replace_ok hg) (CLKW_C (pX0_sendAway_ok hg) CLKW_N)) krWV_ok ?_ q
  clear q
  exact ct_N
def nX11_failAtDoor_77 (x1 : Int) (x2 : Int) (x3 : Int) (h : HH) : Option HH := bX11_failAtDoor_77 nX6_replace nX0_sendAway x1 x2 x3 h
theorem wX11_failAtDoor_77 {g : SG} (hg : GOK g) {σ0 : SG} : ∀ {x1 : Int} {x2 : Int} {x3 : Int} {h : HH} {b : HH}, nX11_failAtDoor_77 x1 x2 x3 h = some b → WK 166 (.inl none) σ0 (abH 2 70 g b) 77 [(0, aR 2), (1, aI x1), (2, aI x2), (3, aI x3)] [] (abH 2 70 g h) 0 0 := by
  intro x1 x2 x3 h b q
  exact uX11_failAtDoor_77 hg q
def bX11_failAtDoor (f27 : HH → Int → Nat → Int → Option Int) (f51 : Int → Nat → Int → HH → Option HH) (c77 : Int → Int → Int → HH → Option HH) (x1 : Int) (x2 : Int) (x3 : Int) (h : HH) : Option HH :=
  gd ((0 : Int) ≤ x2 ∧ x2 < (9 : Int)) <|
    gd (R32 ((h.1 21 x2) + 1)) <|
    gd ((0 : Int) ≤ x2 ∧ x2 < (9 : Int)) <|
    bnd (some (hI h 21 x2 ((h.1 21 x2) + 1))) fun h1 =>
    gd ((0 : Int) ≤ x2 ∧ x2 < (9 : Int)) <|
    if (h1.1 21 x2) < (3 : Int) then
    if x3 < (9 : Int) then
    gd ((0 : Int) ≤ x3 ∧ x3 < (9 : Int)) <|
    bnd (some (hI h1 69 x3 x2)) fun h2 =>
    gd (R32 (x3 + 1)) <|
    bnd (f27 h2 x1 69 (x3 + 1)) fun r3 =>
    if r3 = ((-1) : Int) then
    c77 x1 x2 x3 h2
  else
    gd (R32 (x3 + 1)) <|
    bnd (f51 x1 69 (x3 + 1) h2) fun r4 =>
    some r4
  else
    c77 x1 x2 x3 h1
  else
    c77 x1 x2 x3 h1
theorem uX11_failAtDoor {g : SG} (hg : GOK g) {σ0 : SG} {c77 : Int → Int → Int → HH → Option HH} (k77 : ∀ (x1 : Int) (x2 : Int) (x3 : Int) (h : HH) (b : HH), c77 x1 x2 x3 h = some b → WK 166 (.inl none) σ0 (abH 2 70 g b) 77 [(0, aR 2), (1, aI x1), (2, aI x2), (3, aI x3)] [] (abH 2 70 g h) 0 0) : ∀ {x1 : Int} {x2 : Int} {x3 : Int} {h : HH} {b : HH}, bX11_failAtDoor nX2_costOf nX6_replace c77 x1 x2 x3 h = some b → WK 166 (.inl none) σ0 (abH 2 70 g b) 0 [(0, aR 2), (1, aI x1), (2, aI x2), (3, aI x3)] [] (abH 2 70 g h) 0 0 := by
  intro x1 x2 x3 h b q
  have e : ∀ (f27 : HH → Int → Nat → Int → Option Int) (f51 : Int → Nat → Int → HH → Option HH) , bX11_failAtDoor f27 f51 c77 x1 x2 x3 h = segW 2 70 g.2.2.2.2 krWV (clC 27 (liPW (pX2_costOf f27)) (clC 51 (pX6_replace f51) clN)) csX11_failAtDoor (cuC 77 (fun l st s => tkC 0 2 l <| tkI 1 l fun x1 => tkI 2 l fun x2 => tkI 3 l fun x3 => skE st (c77 x1 x2 x3 s)) cuN) 1000 0 [(0, aR 2), (1, aI x1), (2, aI x2), (3, aI x3)] [] h := fun _ _ => rfl
  rw [e nX2_costOf nX6_replace] at q
  clear e
  refine segW_wk (by decide) (by decide) hg rwX11_failAtDoor (CLKW_C (liPW_ok (pX2_costOf_ok hg)) (CLKW_C (pX6_replace_ok hg) CLKW_N)) krWV_ok ?_ q
  clear q
  refine ct_C ?_ (ct_N)
  · intro l st h q
    obtain ⟨m0, q1⟩ := tkC_of q
    obtain ⟨x1, m1, q2⟩ := tkI_of q1
    obtain ⟨x2, m2, q3⟩ := tkI_of q2
    obtain ⟨x3, m3, q4⟩ := tkI_of q3
    obtain ⟨rfl, q5⟩ := skE_of q4
    exact WK_less (k77 _ _ _ _ _ q5) (List.forall_mem_cons.mpr ⟨m0, (List.forall_mem_cons.mpr ⟨m1, (List.forall_mem_cons.mpr ⟨m2, (List.forall_mem_cons.mpr ⟨m3, (fun _ h => absurd h List.not_mem_nil)⟩)⟩)⟩)⟩)
def nX11_failAtDoor (x1 : Int) (x2 : Int) (x3 : Int) (h : HH) : Option HH := bX11_failAtDoor nX2_costOf nX6_replace nX11_failAtDoor_77 x1 x2 x3 h
theorem wX11_failAtDoor {g : SG} (hg : GOK g) {σ0 : SG} : ∀ {x1 : Int} {x2 : Int} {x3 : Int} {h : HH} {b : HH}, nX11_failAtDoor x1 x2 x3 h = some b → WK 166 (.inl none) σ0 (abH 2 70 g b) 0 [(0, aR 2), (1, aI x1), (2, aI x2), (3, aI x3)] [] (abH 2 70 g h) 0 0 := by
  intro x1 x2 x3 h b q
  exact uX11_failAtDoor hg (fun _ _ _ _ _ q => wX11_failAtDoor_77 hg q) q
theorem mX11_failAtDoor {g : SG} (hg : GOK g) {h : HH} {x1 : Int} {x2 : Int} {x3 : Int} {b : HH} (q : nX11_failAtDoor x1 x2 x3 h = some b) : MCT 166 [] [aR 2, aI x1, aI x2, aI x3] (abH 2 70 g h) (.inl none) (abH 2 70 g b) :=
  mct_of (by decide) (MFok 166 (by decide +kernel)) (fun _ => Nat.le_of_ble_eq_true rfl) (wX11_failAtDoor hg q)
def pX11_failAtDoor {β : Type} (z : Int → Int → Int → HH → Option HH) : PW β := fun as h f => skC 2 as fun as => skI as fun x1 as => skI as fun x2 as => skI as fun x3 as => skE as (bnd (z x1 x2 x3 h) fun r => f (.inl none) r)
theorem pX11_failAtDoor_ok {β : Type} {g : SG} (hg : GOK g) : CW1 (β := β) 166 (pX11_failAtDoor nX11_failAtDoor) 2 70 g := fun as h f b q => by
  obtain ⟨as, rfl, q1⟩ := skC_of q
  obtain ⟨x1, as, rfl, q2⟩ := skI_of q1
  obtain ⟨x2, as, rfl, q3⟩ := skI_of q2
  obtain ⟨x3, as, rfl, q4⟩ := skI_of q3
  obtain ⟨rfl, q0⟩ := skE_of q4
  obtain ⟨r, z1, z2⟩ := bnd_of q0
  exact ⟨_, _, z2, by decide, mX11_failAtDoor hg z1, rfl, rfl, fun z => absurd z (by decide)⟩
def csX11_door : List (Nat × List (Nat × ARow)) := [(44, [(0, 1, .aload_n 0, 0, 0, 0), (1, 1, .iload_n 1, 0, 0, 0), (2, 3, .invokevirtual 149, 156, 2, 11), (5, 1, .aload_n 0, 0, 0, 0), (6, 3, .getfield 30, 11, 2, 2), (9, 1, .iload_n 1, 0, 0, 0), (10, 3, .invokevirtual 152, 49, 2, 6), (13, 1, .istore_n 3, 0, 0, 0), (14, 1, .iload_n 3, 0, 0, 0), (15, 1, .iconst (-1), 0, 0, 0), (16, 3, .if_icmp .eq 19, 35, 0, 0), (19, 1, .aload_n 0, 0, 0, 0), (20, 3, .getfield 21, 11, 1, 2), (23, 3, .getfield 296, 2, 7, 2), (26, 1, .iload_n 1, 0, 0, 0), (27, 1, .iaload, 0, 0, 0), (28, 3, .ifCond .ne 7, 35, 0, 0), (31, 1, .iconst 1, 0, 0, 0), (32, 3, .goto 4, 36, 0, 0), (35, 1, .iconst 0, 0, 0, 0), (36, 3, .invokestatic 122, 161, 1, 0), (39, 1, .aload_n 0, 0, 0, 0), (40, 3, .getfield 30, 11, 2, 2), (43, 1, .iload_n 3, 0, 0, 0)]),
  (92, [(44, 1, .iload_n 1, 0, 0, 0), (45, 1, .aload_n 0, 0, 0, 0), (46, 3, .getfield 94, 11, 11, 2), (49, 3, .invokevirtual 199, 55, 4, 6), (52, 2, .istore 4, 0, 0, 0), (54, 1, .aload_n 0, 0, 0, 0), (55, 3, .getfield 21, 11, 1, 2), (58, 1, .iload_n 3, 0, 0, 0), (59, 1, .aload_n 0, 0, 0, 0), (60, 3, .getfield 94, 11, 11, 2), (63, 2, .iload 4, 0, 0, 0), (65, 3, .invokevirtual 211, 27, 4, 2), (68, 1, .iconst (-1), 0, 0, 0), (69, 3, .if_icmp .eq 7, 76, 0, 0), (72, 1, .iconst 1, 0, 0, 0), (73, 3, .goto 4, 77, 0, 0), (76, 1, .iconst 0, 0, 0, 0), (77, 3, .invokestatic 122, 161, 1, 0), (80, 1, .aload_n 0, 0, 0, 0), (81, 3, .getfield 37, 11, 3, 2), (84, 3, .invokevirtual 156, 31, 1, 3), (87, 1, .iload_n 2, 0, 0, 0), (88, 3, .ifCond .eq 43, 131, 0, 0), (91, 1, .aload_n 0, 0, 0, 0)]),
  (136, [(92, 3, .getfield 21, 11, 1, 2), (95, 3, .getfield 296, 2, 7, 2), (98, 1, .iload_n 1, 0, 0, 0), (99, 1, .iconst 1, 0, 0, 0), (100, 1, .iastore, 0, 0, 0), (101, 1, .aload_n 0, 0, 0, 0), (102, 3, .getfield 90, 11, 10, 2), (105, 1, .dup, 0, 0, 0), (106, 3, .getfield 299, 5, 2, 0), (109, 1, .iconst 1, 0, 0, 0), (110, 1, .iadd, 0, 0, 0), (111, 3, .putfield 299, 5, 2, 0), (114, 1, .aload_n 0, 0, 0, 0), (115, 3, .getfield 30, 11, 2, 2), (118, 1, .iload_n 3, 0, 0, 0), (119, 1, .aload_n 0, 0, 0, 0), (120, 3, .getfield 94, 11, 11, 2), (123, 2, .iload 4, 0, 0, 0), (125, 3, .invokevirtual 219, 51, 4, 6), (128, 3, .goto 11, 139, 0, 0), (131, 1, .aload_n 0, 0, 0, 0), (132, 1, .iload_n 3, 0, 0, 0), (133, 1, .iload_n 1, 0, 0, 0), (134, 2, .iload 4, 0, 0, 0)]),
  (100000, [(136, 3, .invokevirtual 302, 166, 4, 11), (139, 1, .aload_n 0, 0, 0, 0), (140, 3, .getfield 21, 11, 1, 2), (143, 3, .getfield 296, 2, 7, 2), (146, 1, .iload_n 1, 0, 0, 0), (147, 1, .iaload, 0, 0, 0), (148, 1, .ireturn, 0, 0, 0)])]
theorem rwX11_door : rowsB (mB 139) (mO 139) (mX 139) (mIni 139) (mFr 139) (mLo 139) (mT 139) csX11_door = true := by decide +kernel
def bX11_door_77 (f161 : Int → HH → Option ((Unit ⊕ Nat) × HU)) (f31 : HH → Option HH) (f166 : Int → Int → Int → HH → Option HH) (f51 : Int → Nat → Int → HH → Option HH) (x1 : Int) (x2 : Int) (x3 : Int) (x4 : Int) (y0 : Int) (s : HU) : Option ((Int ⊕ Nat) × HU) :=
  bnd (f161 y0 s.1) fun r1 => gd (s.2 + 1 ≤ 5) <| tcase r1.1 (fun _ =>
    gd ((s.2 + 1) ≤ 5) <|
    bnd (f31 r1.2.1) fun r3 =>
    if x2 = (0 : Int) then
    gd ((s.2 + 1) ≤ 5) <|
    bnd (f166 x3 x1 x4 r3) fun r4 =>
    gd ((0 : Int) ≤ x1 ∧ x1 < (9 : Int)) <|
    gd ((s.2 + 1) ≤ 5) (some (.inl (r4.1 20 x1), (r4, (s.2 + 1))))
  else
    gd ((0 : Int) ≤ x1 ∧ x1 < (9 : Int)) <|
    bnd (some (hI r3 20 x1 1, (s.2 + 1))) fun h5 =>
    gd (R32 ((h5.1.1 67 2) + 1)) <|
    bnd (some (hI h5.1 67 2 ((h5.1.1 67 2) + 1), h5.2)) fun h6 =>
    gd (h6.2 ≤ 5) <|
    bnd (f51 x3 69 x4 h6.1) fun r7 =>
    gd ((0 : Int) ≤ x1 ∧ x1 < (9 : Int)) <|
    gd (h6.2 ≤ 5) (some (.inl (r7.1 20 x1), (r7, h6.2)))) (fun e => gd ((s.2 + 1) + 1 ≤ 5) (some (.inr e, (r1.2.1, (s.2 + 1)))))
theorem uX11_door_77 {g : SG} (hg : GOK g) {σ0 : SG} : ∀ {x1 : Int} {x2 : Int} {x3 : Int} {x4 : Int} {y0 : Int} {s : HU} {b : ((Int ⊕ Nat) × HU)}, bX11_door_77 nX11_needState nX3_forget nX11_failAtDoor nX6_replace x1 x2 x3 x4 y0 s = some b → WK 139 (oT (fun r => some (aI r)) b.1) σ0 (abU 2 70 g b.2) 77 [(0, aR 2), (1, aI x1), (2, aI x2), (3, aI x3), (4, aI x4)] [aI y0] (abU 2 70 g s) (cnU s).1 (cnU s).2 := by
  intro x1 x2 x3 x4 y0 s b q
  have e : ∀ (f161 : Int → HH → Option ((Unit ⊕ Nat) × HU)) (f31 : HH → Option HH) (f166 : Int → Int → Int → HH → Option HH) (f51 : Int → Nat → Int → HH → Option HH) , bX11_door_77 f161 f31 f166 f51 x1 x2 x3 x4 y0 s = segT 2 70 g.2.2.2.2 (krTI 5) (kxT 5) (clC 161 (pX11_needState f161 5) (clC 31 (guT 5 (liWT (pX3_forget f31))) (clC 166 (guT 5 (liWT (pX11_failAtDoor f166))) (clC 51 (guT 5 (liWT (pX6_replace f51))) clN)))) csX11_door cuN 1000 77 [(0, aR 2), (1, aI x1), (2, aI x2), (3, aI x3), (4, aI x4)] [aI y0] s := fun _ _ _ _ => rfl
  rw [e nX11_needState nX3_forget nX11_failAtDoor nX6_replace] at q
  clear e
  refine segT_wk (by decide) (by decide) hg rwX11_door (CLK_C (pX11_needState_ok hg (by decide)) (CLK_C (liWT_ck (pX3_forget_ok hg) (by decide)) (CLK_C (liWT_ck (pX11_failAtDoor_ok hg) (by decide)) (CLK_C (liWT_ck (pX6_replace_ok hg) (by decide)) CLK_N)))) (by decide) (krTI_ok (by decide)) (kxT_ok (by decide)) ?_ q
  clear q
  exact ct_N
def nX11_door_77 (x1 : Int) (x2 : Int) (x3 : Int) (x4 : Int) (y0 : Int) (s : HU) : Option ((Int ⊕ Nat) × HU) := bX11_door_77 nX11_needState nX3_forget nX11_failAtDoor nX6_replace x1 x2 x3 x4 y0 s
theorem wX11_door_77 {g : SG} (hg : GOK g) {σ0 : SG} : ∀ {x1 : Int} {x2 : Int} {x3 : Int} {x4 : Int} {y0 : Int} {s : HU} {b : ((Int ⊕ Nat) × HU)}, nX11_door_77 x1 x2 x3 x4 y0 s = some b → WK 139 (oT (fun r => some (aI r)) b.1) σ0 (abU 2 70 g b.2) 77 [(0, aR 2), (1, aI x1), (2, aI x2), (3, aI x3), (4, aI x4)] [aI y0] (abU 2 70 g s) (cnU s).1 (cnU s).2 := by
  intro x1 x2 x3 x4 y0 s b q
  exact uX11_door_77 hg q
def bX11_door_36 (f161 : Int → HH → Option ((Unit ⊕ Nat) × HU)) (f55 : Int → Int → Nat → HH → Option (Int × HH)) (f27 : HH → Int → Nat → Int → Option Int) (c77 : Int → Int → Int → Int → Int → HU → Option ((Int ⊕ Nat) × HU)) (x1 : Int) (x2 : Int) (x3 : Int) (y0 : Int) (s : HU) : Option ((Int ⊕ Nat) × HU) :=
  bnd (f161 y0 s.1) fun r1 => gd (s.2 + 1 ≤ 5) <| tcase r1.1 (fun _ =>
    gd ((s.2 + 1) ≤ 5) <|
    bnd (f55 x3 x1 69 r1.2.1) fun r3 =>
    gd ((s.2 + 1) ≤ 5) <|
    bnd (f27 r3.2 x3 69 r3.1) fun r4 =>
    if r4 = ((-1) : Int) then
    c77 x1 x2 x3 r3.1 0 (r3.2, (s.2 + 1))
  else
    c77 x1 x2 x3 r3.1 1 (r3.2, (s.2 + 1))) (fun e => gd ((s.2 + 1) + 1 ≤ 5) (some (.inr e, (r1.2.1, (s.2 + 1)))))
theorem uX11_door_36 {g : SG} (hg : GOK g) {σ0 : SG} {c77 : Int → Int → Int → Int → Int → HU → Option ((Int ⊕ Nat) × HU)} (k77 : ∀ (x1 : Int) (x2 : Int) (x3 : Int) (x4 : Int) (y0 : Int) (s : HU) (b : ((Int ⊕ Nat) × HU)), c77 x1 x2 x3 x4 y0 s = some b → WK 139 (oT (fun r => some (aI r)) b.1) σ0 (abU 2 70 g b.2) 77 [(0, aR 2), (1, aI x1), (2, aI x2), (3, aI x3), (4, aI x4)] [aI y0] (abU 2 70 g s) (cnU s).1 (cnU s).2) : ∀ {x1 : Int} {x2 : Int} {x3 : Int} {y0 : Int} {s : HU} {b : ((Int ⊕ Nat) × HU)}, bX11_door_36 nX11_needState nX6_without nX2_costOf c77 x1 x2 x3 y0 s = some b → WK 139 (oT (fun r => some (aI r)) b.1) σ0 (abU 2 70 g b.2) 36 [(0, aR 2), (1, aI x1), (2, aI x2), (3, aI x3)] [aI y0] (abU 2 70 g s) (cnU s).1 (cnU s).2 := by
  intro x1 x2 x3 y0 s b q
  have e : ∀ (f161 : Int → HH → Option ((Unit ⊕ Nat) × HU)) (f55 : Int → Int → Nat → HH → Option (Int × HH)) (f27 : HH → Int → Nat → Int → Option Int) , bX11_door_36 f161 f55 f27 c77 x1 x2 x3 y0 s = segT 2 70 g.2.2.2.2 (krTI 5) (kxT 5) (clC 161 (pX11_needState f161 5) (clC 55 (guT 5 (liWT (pX6_without f55))) (clC 27 (guT 5 (liWT (liPW (pX2_costOf f27)))) clN))) csX11_door (cuC 77 (fun l st s => tkC 0 2 l <| tkI 1 l fun x1 => tkI 2 l fun x2 => tkI 3 l fun x3 => tkI 4 l fun x4 => skI st fun y0 st => skE st (c77 x1 x2 x3 x4 y0 s)) cuN) 1000 36 [(0, aR 2), (1, aI x1), (2, aI x2), (3, aI x3)] [aI y0] s := fun _ _ _ => rfl
  rw [e nX11_needState nX6_without nX2_costOf] at q
  clear e
  refine segT_wk (by decide) (by decide) hg rwX11_door (CLK_C (pX11_needState_ok hg (by decide)) (CLK_C (liWT_ck (pX6_without_ok hg) (by decide)) (CLK_C (liWT_ck (liPW_ok (pX2_costOf_ok hg)) (by decide)) CLK_N))) (by decide) (krTI_ok (by decide)) (kxT_ok (by decide)) ?_ q
  clear q
  refine ct_C ?_ (ct_N)
  · intro l st s q
    obtain ⟨m0, q1⟩ := tkC_of q
    obtain ⟨x1, m1, q2⟩ := tkI_of q1
    obtain ⟨x2, m2, q3⟩ := tkI_of q2
    obtain ⟨x3, m3, q4⟩ := tkI_of q3
    obtain ⟨x4, m4, q5⟩ := tkI_of q4
    obtain ⟨y0, t0, rfl, q6⟩ := skI_of q5
    obtain ⟨rfl, q7⟩ := skE_of q6
    exact WK_less (k77 _ _ _ _ _ _ _ q7) (List.forall_mem_cons.mpr ⟨m0, (List.forall_mem_cons.mpr ⟨m1, (List.forall_mem_cons.mpr ⟨m2, (List.forall_mem_cons.mpr ⟨m3, (List.forall_mem_cons.mpr ⟨m4, (fun _ h => absurd h List.not_mem_nil)⟩)⟩)⟩)⟩)⟩)
def nX11_door_36 (x1 : Int) (x2 : Int) (x3 : Int) (y0 : Int) (s : HU) : Option ((Int ⊕ Nat) × HU) := bX11_door_36 nX11_needState nX6_without nX2_costOf nX11_door_77 x1 x2 x3 y0 s
theorem wX11_door_36 {g : SG} (hg : GOK g) {σ0 : SG} : ∀ {x1 : Int} {x2 : Int} {x3 : Int} {y0 : Int} {s : HU} {b : ((Int ⊕ Nat) × HU)}, nX11_door_36 x1 x2 x3 y0 s = some b → WK 139 (oT (fun r => some (aI r)) b.1) σ0 (abU 2 70 g b.2) 36 [(0, aR 2), (1, aI x1), (2, aI x2), (3, aI x3)] [aI y0] (abU 2 70 g s) (cnU s).1 (cnU s).2 := by
  intro x1 x2 x3 y0 s b q
  exact uX11_door_36 hg (fun _ _ _ _ _ _ _ q => wX11_door_77 hg q) q
def bX11_door_35 (c36 : Int → Int → Int → Int → HU → Option ((Int ⊕ Nat) × HU)) (x1 : Int) (x2 : Int) (x3 : Int) (s : HU) : Option ((Int ⊕ Nat) × HU) :=
  c36 x1 x2 x3 0 s
theorem uX11_door_35 {g : SG} (hg : GOK g) {σ0 : SG} {c36 : Int → Int → Int → Int → HU → Option ((Int ⊕ Nat) × HU)} (k36 : ∀ (x1 : Int) (x2 : Int) (x3 : Int) (y0 : Int) (s : HU) (b : ((Int ⊕ Nat) × HU)), c36 x1 x2 x3 y0 s = some b → WK 139 (oT (fun r => some (aI r)) b.1) σ0 (abU 2 70 g b.2) 36 [(0, aR 2), (1, aI x1), (2, aI x2), (3, aI x3)] [aI y0] (abU 2 70 g s) (cnU s).1 (cnU s).2) : ∀ {x1 : Int} {x2 : Int} {x3 : Int} {s : HU} {b : ((Int ⊕ Nat) × HU)}, bX11_door_35 c36 x1 x2 x3 s = some b → WK 139 (oT (fun r => some (aI r)) b.1) σ0 (abU 2 70 g b.2) 35 [(0, aR 2), (1, aI x1), (2, aI x2), (3, aI x3)] [] (abU 2 70 g s) (cnU s).1 (cnU s).2 := by
  intro x1 x2 x3 s b q
  have e : bX11_door_35 c36 x1 x2 x3 s = segT 2 70 g.2.2.2.2 (krTI 5) (kxT 5) clN csX11_door (cuC 36 (fun l st s => tkC 0 2 l <| tkI 1 l fun x1 => tkI 2 l fun x2 => tkI 3 l fun x3 => skI st fun y0 st => skE st (c36 x1 x2 x3 y0 s)) cuN) 1000 35 [(0, aR 2), (1, aI x1), (2, aI x2), (3, aI x3)] [] s := rfl
  rw [e] at q
  clear e
  refine segT_wk (by decide) (by decide) hg rwX11_door CLK_N (by decide) (krTI_ok (by decide)) (kxT_ok (by decide)) ?_ q
  clear q
  refine ct_C ?_ (ct_N)
  · intro l st s q
    obtain ⟨m0, q1⟩ := tkC_of q
    obtain ⟨x1, m1, q2⟩ := tkI_of q1
    obtain ⟨x2, m2, q3⟩ := tkI_of q2
    obtain ⟨x3, m3, q4⟩ := tkI_of q3
    obtain ⟨y0, t0, rfl, q5⟩ := skI_of q4
    obtain ⟨rfl, q6⟩ := skE_of q5
    exact WK_less (k36 _ _ _ _ _ _ q6) (List.forall_mem_cons.mpr ⟨m0, (List.forall_mem_cons.mpr ⟨m1, (List.forall_mem_cons.mpr ⟨m2, (List.forall_mem_cons.mpr ⟨m3, (fun _ h => absurd h List.not_mem_nil)⟩)⟩)⟩)⟩)
def nX11_door_35 (x1 : Int) (x2 : Int) (x3 : Int) (s : HU) : Option ((Int ⊕ Nat) × HU) := bX11_door_35 nX11_door_36 x1 x2 x3 s
theorem wX11_door_35 {g : SG} (hg : GOK g) {σ0 : SG} : ∀ {x1 : Int} {x2 : Int} {x3 : Int} {s : HU} {b : ((Int ⊕ Nat) × HU)}, nX11_door_35 x1 x2 x3 s = some b → WK 139 (oT (fun r => some (aI r)) b.1) σ0 (abU 2 70 g b.2) 35 [(0, aR 2), (1, aI x1), (2, aI x2), (3, aI x3)] [] (abU 2 70 g s) (cnU s).1 (cnU s).2 := by
  intro x1 x2 x3 s b q
  exact uX11_door_35 hg (fun _ _ _ _ _ _ q => wX11_door_36 hg q) q
def bX11_door (f156 : Int → HH → Option ((Unit ⊕ Nat) × HU)) (f49 : HH → Int → Option Int) (c35 : Int → Int → Int → HU → Option ((Int ⊕ Nat) × HU)) (c36 : Int → Int → Int → Int → HU → Option ((Int ⊕ Nat) × HU)) (x1 : Int) (x2 : Int) (h : HH) : Option ((Int ⊕ Nat) × HU) :=
  bnd (f156 x1 h) fun r1 => gd (0 + 2 ≤ 5) <| tcase r1.1 (fun _ =>
    gd ((0 + 2) ≤ 5) <|
    bnd (f49 r1.2.1 x1) fun r3 =>
    if r3 = ((-1) : Int) then
    c35 x1 x2 r3 (r1.2.1, (0 + 2))
  else
    gd ((0 : Int) ≤ x1 ∧ x1 < (9 : Int)) <|
    if (r1.2.1.1 20 x1) = (0 : Int) then
    c36 x1 x2 r3 1 (r1.2.1, (0 + 2))
  else
    c35 x1 x2 r3 (r1.2.1, (0 + 2))) (fun e => gd ((0 + 2) + 1 ≤ 5) (some (.inr e, (r1.2.1, (0 + 2)))))
theorem uX11_door {g : SG} (hg : GOK g) {σ0 : SG} {c35 : Int → Int → Int → HU → Option ((Int ⊕ Nat) × HU)} {c36 : Int → Int → Int → Int → HU → Option ((Int ⊕ Nat) × HU)} (k35 : ∀ (x1 : Int) (x2 : Int) (x3 : Int) (s : HU) (b : ((Int ⊕ Nat) × HU)), c35 x1 x2 x3 s = some b → WK 139 (oT (fun r => some (aI r)) b.1) σ0 (abU 2 70 g b.2) 35 [(0, aR 2), (1, aI x1), (2, aI x2), (3, aI x3)] [] (abU 2 70 g s) (cnU s).1 (cnU s).2) (k36 : ∀ (x1 : Int) (x2 : Int) (x3 : Int) (y0 : Int) (s : HU) (b : ((Int ⊕ Nat) × HU)), c36 x1 x2 x3 y0 s = some b → WK 139 (oT (fun r => some (aI r)) b.1) σ0 (abU 2 70 g b.2) 36 [(0, aR 2), (1, aI x1), (2, aI x2), (3, aI x3)] [aI y0] (abU 2 70 g s) (cnU s).1 (cnU s).2) : ∀ {x1 : Int} {x2 : Int} {h : HH} {b : ((Int ⊕ Nat) × HU)}, bX11_door nX11_needParcel nX6_vanWith c35 c36 x1 x2 h = some b → WK 139 (oT (fun r => some (aI r)) b.1) σ0 (abU 2 70 g b.2) 0 [(0, aR 2), (1, aI x1), (2, aI x2)] [] (abU 2 70 g (h, 0)) (cnU (h, 0)).1 (cnU (h, 0)).2 := by
  intro x1 x2 h b q
  have e : ∀ (f156 : Int → HH → Option ((Unit ⊕ Nat) × HU)) (f49 : HH → Int → Option Int) , bX11_door f156 f49 c35 c36 x1 x2 h = segT 2 70 g.2.2.2.2 (krTI 5) (kxT 5) (clC 156 (pX11_needParcel f156 5) (clC 49 (guT 5 (liWT (liPW (pX6_vanWith f49)))) clN)) csX11_door (cuC 35 (fun l st s => tkC 0 2 l <| tkI 1 l fun x1 => tkI 2 l fun x2 => tkI 3 l fun x3 => skE st (c35 x1 x2 x3 s)) (cuC 36 (fun l st s => tkC 0 2 l <| tkI 1 l fun x1 => tkI 2 l fun x2 => tkI 3 l fun x3 => skI st fun y0 st => skE st (c36 x1 x2 x3 y0 s)) cuN)) 1000 0 [(0, aR 2), (1, aI x1), (2, aI x2)] [] (h, 0) := fun _ _ => rfl
  rw [e nX11_needParcel nX6_vanWith] at q
  clear e
  refine segT_wk (by decide) (by decide) hg rwX11_door (CLK_C (pX11_needParcel_ok hg (by decide)) (CLK_C (liWT_ck (liPW_ok (pX6_vanWith_ok hg)) (by decide)) CLK_N)) (by decide) (krTI_ok (by decide)) (kxT_ok (by decide)) ?_ q
  clear q
  refine ct_C ?_ (ct_C ?_ (ct_N))
  · intro l st s q
    obtain ⟨m0, q1⟩ := tkC_of q
    obtain ⟨x1, m1, q2⟩ := tkI_of q1
    obtain ⟨x2, m2, q3⟩ := tkI_of q2
    obtain ⟨x3, m3, q4⟩ := tkI_of q3
    obtain ⟨rfl, q5⟩ := skE_of q4
    exact WK_less (k35 _ _ _ _ _ q5) (List.forall_mem_cons.mpr ⟨m0, (List.forall_mem_cons.mpr ⟨m1, (List.forall_mem_cons.mpr ⟨m2, (List.forall_mem_cons.mpr ⟨m3, (fun _ h => absurd h List.not_mem_nil)⟩)⟩)⟩)⟩)
  · intro l st s q
    obtain ⟨m0, q1⟩ := tkC_of q
    obtain ⟨x1, m1, q2⟩ := tkI_of q1
    obtain ⟨x2, m2, q3⟩ := tkI_of q2
    obtain ⟨x3, m3, q4⟩ := tkI_of q3
    obtain ⟨y0, t0, rfl, q5⟩ := skI_of q4
    obtain ⟨rfl, q6⟩ := skE_of q5
    exact WK_less (k36 _ _ _ _ _ _ q6) (List.forall_mem_cons.mpr ⟨m0, (List.forall_mem_cons.mpr ⟨m1, (List.forall_mem_cons.mpr ⟨m2, (List.forall_mem_cons.mpr ⟨m3, (fun _ h => absurd h List.not_mem_nil)⟩)⟩)⟩)⟩)
def nX11_door (x1 : Int) (x2 : Int) (h : HH) : Option ((Int ⊕ Nat) × HU) := bX11_door nX11_needParcel nX6_vanWith nX11_door_35 nX11_door_36 x1 x2 h
theorem wX11_door {g : SG} (hg : GOK g) {σ0 : SG} : ∀ {x1 : Int} {x2 : Int} {h : HH} {b : ((Int ⊕ Nat) × HU)}, nX11_door x1 x2 h = some b → WK 139 (oT (fun r => some (aI r)) b.1) σ0 (abU 2 70 g b.2) 0 [(0, aR 2), (1, aI x1), (2, aI x2)] [] (abU 2 70 g (h, 0)) (cnU (h, 0)).1 (cnU (h, 0)).2 := by
  intro x1 x2 h b q
  exact uX11_door hg (fun _ _ _ _ _ q => wX11_door_35 hg q) (fun _ _ _ _ _ _ q => wX11_door_36 hg q) q
theorem mX11_door {g : SG} (hg : GOK g) {h : HH} {x1 : Int} {x2 : Int} {b : ((Int ⊕ Nat) × HU)} (q : nX11_door x1 x2 h = some b) : MCT 139 [] [aR 2, aI x1, aI x2] (abU 2 70 g (h, 0)) (oT (fun r => some (aI r)) b.1) (abU 2 70 g b.2) :=
  mct_of (by decide) (MFok 139 (by decide +kernel)) (fun _ => Nat.le_of_ble_eq_true rfl) (wX11_door hg q)
def pX11_door {β : Type} (z : Int → Int → HH → Option ((Int ⊕ Nat) × HU)) (rc : Nat) : PT β := fun as s f => skC 2 as fun as => skI as fun x1 as => skI as fun x2 as => skE as (liTT rc 5 (fun r => some (aI r)) s (z x1 x2 s.1) f)
theorem pX11_door_ok {β : Type} {g : SG} (hg : GOK g) {rc rs : Nat} (hrs : 6 * rc ≤ rs) : CLK1 (β := β) 139 (pX11_door nX11_door rc) (abU 2 70 g) cnU rc rs := fun as s f b q => by
  obtain ⟨as, rfl, q1⟩ := skC_of q
  obtain ⟨x1, as, rfl, q2⟩ := skI_of q1
  obtain ⟨x2, as, rfl, q3⟩ := skI_of q2
  obtain ⟨rfl, q0⟩ := skE_of q3
  exact liTT_ok q0 (by decide) (fun _ e => mX11_door hg e) rfl rfl hrs
def csX11_locker : List (Nat × List (Nat × ARow)) := [(46, [(0, 1, .iload_n 1, 0, 0, 0), (1, 3, .invokestatic 101, 154, 1, 0), (4, 1, .iload_n 1, 0, 0, 0), (5, 3, .ifCond .eq 7, 12, 0, 0), (8, 1, .iconst 1, 0, 0, 0), (9, 3, .goto 4, 13, 0, 0), (12, 1, .iconst 0, 0, 0, 0), (13, 3, .invokestatic 105, 160, 1, 0), (16, 1, .iload_n 2, 0, 0, 0), (17, 1, .iconst 1, 0, 0, 0), (18, 1, .iconst 5, 0, 0, 0), (19, 3, .invokestatic 109, 159, 3, 0), (22, 1, .aload_n 0, 0, 0, 0), (23, 3, .getfield 74, 11, 8, 2), (26, 3, .getfield 305, 0, 1, 2), (29, 1, .iload_n 1, 0, 0, 0), (30, 1, .iaload, 0, 0, 0), (31, 3, .ifCond .ne 7, 38, 0, 0), (34, 1, .iconst 1, 0, 0, 0), (35, 3, .goto 4, 39, 0, 0), (38, 1, .iconst 0, 0, 0, 0), (39, 3, .invokestatic 122, 161, 1, 0), (42, 1, .aload_n 0, 0, 0, 0), (43, 3, .getfield 74, 11, 8, 2)]),
  (100000, [(46, 1, .iload_n 1, 0, 0, 0), (47, 1, .iload_n 2, 0, 0, 0), (48, 3, .invokevirtual 308, 1, 3, 0), (51, 1, .ireturn, 0, 0, 0)])]
theorem rwX11_locker : rowsB (mB 140) (mO 140) (mX 140) (mIni 140) (mFr 140) (mLo 140) (mT 140) csX11_locker = true := by decide +kernel
def bX11_locker_39 (f161 : Int → HH → Option ((Unit ⊕ Nat) × HU)) (f1 : Int → Int → HH → Option (Int × HH)) (x1 : Int) (x2 : Int) (y0 : Int) (s : HU) : Option ((Int ⊕ Nat) × HU) :=
  bnd (f161 y0 s.1) fun r1 => gd (s.2 + 1 ≤ 7) <| tcase r1.1 (fun _ =>
    gd ((s.2 + 1) ≤ 7) <|
    bnd (f1 x1 x2 r1.2.1) fun r3 =>
    gd ((s.2 + 1) ≤ 7) (some (.inl r3.1, (r3.2, (s.2 + 1))))) (fun e => gd ((s.2 + 1) + 1 ≤ 7) (some (.inr e, (r1.2.1, (s.2 + 1)))))
theorem uX11_locker_39 {g : SG} (hg : GOK g) {σ0 : SG} : ∀ {x1 : Int} {x2 : Int} {y0 : Int} {s : HU} {b : ((Int ⊕ Nat) × HU)}, bX11_locker_39 nX11_needState nX0_addLocker x1 x2 y0 s = some b → WK 140 (oT (fun r => some (aI r)) b.1) σ0 (abU 2 70 g b.2) 39 [(0, aR 2), (1, aI x1), (2, aI x2)] [aI y0] (abU 2 70 g s) (cnU s).1 (cnU s).2 := by
  intro x1 x2 y0 s b q
  have e : ∀ (f161 : Int → HH → Option ((Unit ⊕ Nat) × HU)) (f1 : Int → Int → HH → Option (Int × HH)) , bX11_locker_39 f161 f1 x1 x2 y0 s = segT 2 70 g.2.2.2.2 (krTI 7) (kxT 7) (clC 161 (pX11_needState f161 7) (clC 1 (guT 7 (liWT (pX0_addLocker f1))) clN)) csX11_locker cuN 1000 39 [(0, aR 2), (1, aI x1), (2, aI x2)] [aI y0] s := fun _ _ => rfl
  rw [e nX11_needState nX0_addLocker] at q
  clear e
  refine segT_wk (by decide) (by decide) hg rwX11_locker (CLK_C (pX11_needState_ok hg (by decide)) (CLK_C (liWT_ck (pX0_addLocker_ok hg) (by decide)) CLK_N)) (by decide) (krTI_ok (by decide)) (kxT_ok (by decide)) ?_ q
  clear q
  exact ct_N
def nX11_locker_39 (x1 : Int) (x2 : Int) (y0 : Int) (s : HU) : Option ((Int ⊕ Nat) × HU) := bX11_locker_39 nX11_needState nX0_addLocker x1 x2 y0 s
theorem wX11_locker_39 {g : SG} (hg : GOK g) {σ0 : SG} : ∀ {x1 : Int} {x2 : Int} {y0 : Int} {s : HU} {b : ((Int ⊕ Nat) × HU)}, nX11_locker_39 x1 x2 y0 s = some b → WK 140 (oT (fun r => some (aI r)) b.1) σ0 (abU 2 70 g b.2) 39 [(0, aR 2), (1, aI x1), (2, aI x2)] [aI y0] (abU 2 70 g s) (cnU s).1 (cnU s).2 := by
  intro x1 x2 y0 s b q
  exact uX11_locker_39 hg q
def bX11_locker_13 (f160 : Int → HH → Option ((Unit ⊕ Nat) × HU)) (f159 : Int → Int → Int → HH → Option ((Unit ⊕ Nat) × HU)) (c39 : Int → Int → Int → HU → Option ((Int ⊕ Nat) × HU)) (x1 : Int) (x2 : Int) (y0 : Int) (s : HU) : Option ((Int ⊕ Nat) × HU) :=
  bnd (f160 y0 s.1) fun r1 => gd (s.2 + 1 ≤ 7) <| tcase r1.1 (fun _ =>
    bnd (f159 x2 1 5 r1.2.1) fun r3 => gd ((s.2 + 1) + 2 ≤ 7) <| tcase r3.1 (fun _ =>
    gd ((0 : Int) ≤ x1 ∧ x1 < (16 : Int)) <|
    if (r3.2.1.1 61 x1) = (0 : Int) then
    c39 x1 x2 1 (r3.2.1, ((s.2 + 1) + 2))
  else
    c39 x1 x2 0 (r3.2.1, ((s.2 + 1) + 2))) (fun e => gd (((s.2 + 1) + 2) + 1 ≤ 7) (some (.inr e, (r3.2.1, ((s.2 + 1) + 2)))))) (fun e => gd ((s.2 + 1) + 1 ≤ 7) (some (.inr e, (r1.2.1, (s.2 + 1)))))
theorem uX11_locker_13 {g : SG} (hg : GOK g) {σ0 : SG} {c39 : Int → Int → Int → HU → Option ((Int ⊕ Nat) × HU)} (k39 : ∀ (x1 : Int) (x2 : Int) (y0 : Int) (s : HU) (b : ((Int ⊕ Nat) × HU)), c39 x1 x2 y0 s = some b → WK 140 (oT (fun r => some (aI r)) b.1) σ0 (abU 2 70 g b.2) 39 [(0, aR 2), (1, aI x1), (2, aI x2)] [aI y0] (abU 2 70 g s) (cnU s).1 (cnU s).2) : ∀ {x1 : Int} {x2 : Int} {y0 : Int} {s : HU} {b : ((Int ⊕ Nat) × HU)}, bX11_locker_13 nX11_needThat nX11_needRange c39 x1 x2 y0 s = some b → WK 140 (oT (fun r => some (aI r)) b.1) σ0 (abU 2 70 g b.2) 13 [(0, aR 2), (1, aI x1), (2, aI x2)] [aI y0] (abU 2 70 g s) (cnU s).1 (cnU s).2 := by
  intro x1 x2 y0 s b q
  have e : ∀ (f160 : Int → HH → Option ((Unit ⊕ Nat) × HU)) (f159 : Int → Int → Int → HH → Option ((Unit ⊕ Nat) × HU)) , bX11_locker_13 f160 f159 c39 x1 x2 y0 s = segT 2 70 g.2.2.2.2 (krTI 7) (kxT 7) (clC 160 (pX11_needThat f160 7) (clC 159 (pX11_needRange f159 7) clN)) csX11_locker (cuC 39 (fun l st s => tkC 0 2 l <| tkI 1 l fun x1 => tkI 2 l fun x2 => skI st fun y0 st => skE st (c39 x1 x2 y0 s)) cuN) 1000 13 [(0, aR 2), (1, aI x1), (2, aI x2)] [aI y0] s := fun _ _ => rfl
  rw [e nX11_needThat nX11_needRange] at q
  clear e
  refine segT_wk (by decide) (by decide) hg rwX11_locker (CLK_C (pX11_needThat_ok hg (by decide)) (CLK_C (pX11_needRange_ok hg (by decide)) CLK_N)) (by decide) (krTI_ok (by decide)) (kxT_ok (by decide)) ?_ q
  clear q
  refine ct_C ?_ (ct_N)
  · intro l st s q
    obtain ⟨m0, q1⟩ := tkC_of q
    obtain ⟨x1, m1, q2⟩ := tkI_of q1
    obtain ⟨x2, m2, q3⟩ := tkI_of q2
    obtain ⟨y0, t0, rfl, q4⟩ := skI_of q3
    obtain ⟨rfl, q5⟩ := skE_of q4
    exact WK_less (k39 _ _ _ _ _ q5) (List.forall_mem_cons.mpr ⟨m0, (List.forall_mem_cons.mpr ⟨m1, (List.forall_mem_cons.mpr ⟨m2, (fun _ h => absurd h List.not_mem_nil)⟩)⟩)⟩)
def nX11_locker_13 (x1 : Int) (x2 : Int) (y0 : Int) (s : HU) : Option ((Int ⊕ Nat) × HU) := bX11_locker_13 nX11_needThat nX11_needRange nX11_locker_39 x1 x2 y0 s
theorem wX11_locker_13 {g : SG} (hg : GOK g) {σ0 : SG} : ∀ {x1 : Int} {x2 : Int} {y0 : Int} {s : HU} {b : ((Int ⊕ Nat) × HU)}, nX11_locker_13 x1 x2 y0 s = some b → WK 140 (oT (fun r => some (aI r)) b.1) σ0 (abU 2 70 g b.2) 13 [(0, aR 2), (1, aI x1), (2, aI x2)] [aI y0] (abU 2 70 g s) (cnU s).1 (cnU s).2 := by
  intro x1 x2 y0 s b q
  exact uX11_locker_13 hg (fun _ _ _ _ _ q => wX11_locker_39 hg q) q
def bX11_locker (f154 : Int → HH → Option ((Unit ⊕ Nat) × HU)) (c13 : Int → Int → Int → HU → Option ((Int ⊕ Nat) × HU)) (x1 : Int) (x2 : Int) (h : HH) : Option ((Int ⊕ Nat) × HU) :=
  bnd (f154 x1 h) fun r1 => gd (0 + 2 ≤ 7) <| tcase r1.1 (fun _ =>
    if x1 = (0 : Int) then
    c13 x1 x2 0 (r1.2.1, (0 + 2))
  else
    c13 x1 x2 1 (r1.2.1, (0 + 2))) (fun e => gd ((0 + 2) + 1 ≤ 7) (some (.inr e, (r1.2.1, (0 + 2)))))
theorem uX11_locker {g : SG} (hg : GOK g) {σ0 : SG} {c13 : Int → Int → Int → HU → Option ((Int ⊕ Nat) × HU)} (k13 : ∀ (x1 : Int) (x2 : Int) (y0 : Int) (s : HU) (b : ((Int ⊕ Nat) × HU)), c13 x1 x2 y0 s = some b → WK 140 (oT (fun r => some (aI r)) b.1) σ0 (abU 2 70 g b.2) 13 [(0, aR 2), (1, aI x1), (2, aI x2)] [aI y0] (abU 2 70 g s) (cnU s).1 (cnU s).2) : ∀ {x1 : Int} {x2 : Int} {h : HH} {b : ((Int ⊕ Nat) × HU)}, bX11_locker nX11_needPlace c13 x1 x2 h = some b → WK 140 (oT (fun r => some (aI r)) b.1) σ0 (abU 2 70 g b.2) 0 [(0, aR 2), (1, aI x1), (2, aI x2)] [] (abU 2 70 g (h, 0)) (cnU (h, 0)).1 (cnU (h, 0)).2 := by
  intro x1 x2 h b q
  have e : ∀ (f154 : Int → HH → Option ((Unit ⊕ Nat) × HU)) , bX11_locker f154 c13 x1 x2 h = segT 2 70 g.2.2.2.2 (krTI 7) (kxT 7) (clC 154 (pX11_needPlace f154 7) clN) csX11_locker (cuC 13 (fun l st s => tkC 0 2 l <| tkI 1 l fun x1 => tkI 2 l fun x2 => skI st fun y0 st => skE st (c13 x1 x2 y0 s)) cuN) 1000 0 [(0, aR 2), (1, aI x1), (2, aI x2)] [] (h, 0) := fun _ => rfl
  rw [e nX11_needPlace] at q
  clear e
  refine segT_wk (by decide) (by decide) hg rwX11_locker (CLK_C (pX11_needPlace_ok hg (by decide)) CLK_N) (by decide) (krTI_ok (by decide)) (kxT_ok (by decide)) ?_ q
  clear q
  refine ct_C ?_ (ct_N)
  · intro l st s q
    obtain ⟨m0, q1⟩ := tkC_of q
    obtain ⟨x1, m1, q2⟩ := tkI_of q1
    obtain ⟨x2, m2, q3⟩ := tkI_of q2
    obtain ⟨y0, t0, rfl, q4⟩ := skI_of q3
    obtain ⟨rfl, q5⟩ := skE_of q4
    exact WK_less (k13 _ _ _ _ _ q5) (List.forall_mem_cons.mpr ⟨m0, (List.forall_mem_cons.mpr ⟨m1, (List.forall_mem_cons.mpr ⟨m2, (fun _ h => absurd h List.not_mem_nil)⟩)⟩)⟩)
def nX11_locker (x1 : Int) (x2 : Int) (h : HH) : Option ((Int ⊕ Nat) × HU) := bX11_locker nX11_needPlace nX11_locker_13 x1 x2 h
theorem wX11_locker {g : SG} (hg : GOK g) {σ0 : SG} : ∀ {x1 : Int} {x2 : Int} {h : HH} {b : ((Int ⊕ Nat) × HU)}, nX11_locker x1 x2 h = some b → WK 140 (oT (fun r => some (aI r)) b.1) σ0 (abU 2 70 g b.2) 0 [(0, aR 2), (1, aI x1), (2, aI x2)] [] (abU 2 70 g (h, 0)) (cnU (h, 0)).1 (cnU (h, 0)).2 := by
  intro x1 x2 h b q
  exact uX11_locker hg (fun _ _ _ _ _ q => wX11_locker_13 hg q) q
theorem mX11_locker {g : SG} (hg : GOK g) {h : HH} {x1 : Int} {x2 : Int} {b : ((Int ⊕ Nat) × HU)} (q : nX11_locker x1 x2 h = some b) : MCT 140 [] [aR 2, aI x1, aI x2] (abU 2 70 g (h, 0)) (oT (fun r => some (aI r)) b.1) (abU 2 70 g b.2) :=
  mct_of (by decide) (MFok 140 (by decide +kernel)) (fun _ => Nat.le_of_ble_eq_true rfl) (wX11_locker hg q)
def pX11_locker {β : Type} (z : Int → Int → HH → Option ((Int ⊕ Nat) × HU)) (rc : Nat) : PT β := fun as s f => skC 2 as fun as => skI as fun x1 as => skI as fun x2 as => skE as (liTT rc 7 (fun r => some (aI r)) s (z x1 x2 s.1) f)
theorem pX11_locker_ok {β : Type} {g : SG} (hg : GOK g) {rc rs : Nat} (hrs : 6 * rc ≤ rs) : CLK1 (β := β) 140 (pX11_locker nX11_locker rc) (abU 2 70 g) cnU rc rs := fun as s f b q => by
  obtain ⟨as, rfl, q1⟩ := skC_of q
  obtain ⟨x1, as, rfl, q2⟩ := skI_of q1
  obtain ⟨x2, as, rfl, q3⟩ := skI_of q2
  obtain ⟨rfl, q0⟩ := skE_of q3
  exact liTT_ok q0 (by decide) (fun _ e => mX11_locker hg e) rfl rfl hrs
def csX11_parcelAt : List (Nat × List (Nat × ARow)) := [(77, [(0, 1, .aload_n 0, 0, 0, 0), (1, 1, .iload_n 1, 0, 0, 0), (2, 3, .invokevirtual 149, 156, 2, 11), (5, 1, .iload_n 2, 0, 0, 0), (6, 1, .iconst 0, 0, 0, 0), (7, 2, .bipush 6, 0, 0, 0), (9, 3, .invokestatic 109, 159, 3, 0), (12, 1, .iload_n 2, 0, 0, 0), (13, 39, .tableswitch 98 0 5 #[39, 49, 59, 68, 78, 88], 0, 0, 0), (52, 1, .aload_n 0, 0, 0, 0), (53, 3, .getfield 21, 11, 1, 2), (56, 3, .getfield 296, 2, 7, 2), (59, 1, .iload_n 1, 0, 0, 0), (60, 1, .iaload, 0, 0, 0), (61, 1, .ireturn, 0, 0, 0), (62, 1, .aload_n 0, 0, 0, 0), (63, 3, .getfield 21, 11, 1, 2), (66, 3, .getfield 311, 2, 8, 2), (69, 1, .iload_n 1, 0, 0, 0), (70, 1, .iaload, 0, 0, 0), (71, 1, .ireturn, 0, 0, 0), (72, 1, .aload_n 0, 0, 0, 0), (73, 3, .getfield 30, 11, 2, 2), (76, 1, .iload_n 1, 0, 0, 0)]),
  (119, [(77, 3, .invokevirtual 152, 49, 2, 6), (80, 1, .ireturn, 0, 0, 0), (81, 1, .aload_n 0, 0, 0, 0), (82, 3, .getfield 21, 11, 1, 2), (85, 3, .getfield 314, 2, 9, 2), (88, 1, .iload_n 1, 0, 0, 0), (89, 1, .iaload, 0, 0, 0), (90, 1, .ireturn, 0, 0, 0), (91, 1, .aload_n 0, 0, 0, 0), (92, 3, .getfield 21, 11, 1, 2), (95, 3, .getfield 317, 2, 1, 2), (98, 1, .iload_n 1, 0, 0, 0), (99, 1, .iaload, 0, 0, 0), (100, 1, .ireturn, 0, 0, 0), (101, 1, .aload_n 0, 0, 0, 0), (102, 3, .getfield 21, 11, 1, 2), (105, 3, .getfield 320, 2, 2, 2), (108, 1, .iload_n 1, 0, 0, 0), (109, 1, .iaload, 0, 0, 0), (110, 1, .ireturn, 0, 0, 0), (111, 1, .aload_n 0, 0, 0, 0), (112, 3, .getfield 21, 11, 1, 2), (115, 3, .getfield 323, 2, 3, 2), (118, 1, .iload_n 1, 0, 0, 0)]),
  (100000, [(119, 1, .iaload, 0, 0, 0), (120, 1, .ireturn, 0, 0, 0)])]
theorem rwX11_parcelAt : rowsB (mB 141) (mO 141) (mX 141) (mIni 141) (mFr 141) (mLo 141) (mT 141) csX11_parcelAt = true := by decide +kernel
def bX11_parcelAt (f156 : Int → HH → Option ((Unit ⊕ Nat) × HU)) (f159 : Int → Int → Int → HH → Option ((Unit ⊕ Nat) × HU)) (f49 : HH → Int → Option Int) (x1 : Int) (x2 : Int) (h : HH) : Option ((Int ⊕ Nat) × HU) :=
  bnd (f156 x1 h) fun r1 => gd (0 + 2 ≤ 5) <| tcase r1.1 (fun _ =>
    bnd (f159 x2 0 6 r1.2.1) fun r3 => gd ((0 + 2) + 2 ≤ 5) <| tcase r3.1 (fun _ =>
    if x2 = (0 : Int) then
    gd ((0 : Int) ≤ x1 ∧ x1 < (9 : Int)) <|
    gd (((0 + 2) + 2) ≤ 5) (some (.inl (r3.2.1.1 20 x1), (r3.2.1, ((0 + 2) + 2))))
  else if x2 = (1 : Int) then
    gd ((0 : Int) ≤ x1 ∧ x1 < (9 : Int)) <|
    gd (((0 + 2) + 2) ≤ 5) (some (.inl (r3.2.1.1 21 x1), (r3.2.1, ((0 + 2) + 2))))
  else if x2 = (2 : Int) then
    gd (((0 + 2) + 2) ≤ 5) <|
    bnd (f49 r3.2.1 x1) fun r5 =>
    gd (((0 + 2) + 2) ≤ 5) (some (.inl r5, (r3.2.1, ((0 + 2) + 2))))
  else if x2 = (3 : Int) then
    gd ((0 : Int) ≤ x1 ∧ x1 < (9 : Int)) <|
    gd (((0 + 2) + 2) ≤ 5) (some (.inl (r3.2.1.1 22 x1), (r3.2.1, ((0 + 2) + 2))))
  else if x2 = (4 : Int) then
    gd ((0 : Int) ≤ x1 ∧ x1 < (9 : Int)) <|
    gd (((0 + 2) + 2) ≤ 5) (some (.inl (r3.2.1.1 14 x1), (r3.2.1, ((0 + 2) + 2))))
  else if x2 = (5 : Int) then
    gd ((0 : Int) ≤ x1 ∧ x1 < (9 : Int)) <|
    gd (((0 + 2) + 2) ≤ 5) (some (.inl (r3.2.1.1 15 x1), (r3.2.1, ((0 + 2) + 2))))
  else 
    gd ((0 : Int) ≤ x1 ∧ x1 < (9 : Int)) <|
    gd (((0 + 2) + 2) ≤ 5) (some (.inl (r3.2.1.1 16 x1), (r3.2.1, ((0 + 2) + 2))))) (fun e => gd (((0 + 2) + 2) + 1 ≤ 5) (some (.inr e, (r3.2.1, ((0 + 2) + 2)))))) (fun e => gd ((0 + 2) + 1 ≤ 5) (some (.inr e, (r1.2.1, (0 + 2)))))
set_option maxRecDepth 100000 in
theorem uX11_parcelAt {g : SG} (hg : GOK g) {σ0 : SG} : ∀ {x1 : Int} {x2 : Int} {h : HH} {b : ((Int ⊕ Nat) × HU)}, bX11_parcelAt nX11_needParcel nX11_needRange nX6_vanWith x1 x2 h = some b → WK 141 (oT (fun r => some (aI r)) b.1) σ0 (abU 2 70 g b.2) 0 [(0, aR 2), (1, aI x1), (2, aI x2)] [] (abU 2 70 g (h, 0)) (cnU (h, 0)).1 (cnU (h, 0)).2 := by
  intro x1 x2 h b q
  have e : ∀ (f156 : Int → HH → Option ((Unit ⊕ Nat) × HU)) (f159 : Int → Int → Int → HH → Option ((Unit ⊕ Nat) × HU)) (f49 : HH → Int → Option Int) , bX11_parcelAt f156 f159 f49 x1 x2 h = segT 2 70 g.2.2.2.2 (krTI 5) (kxT 5) (clC 156 (pX11_needParcel f156 5) (clC 159 (pX11_needRange f159 5) (clC 49 (guT 5 (liWT (liPW (pX6_vanWith f49)))) clN))) csX11_parcelAt cuN 1000 0 [(0, aR 2), (1, aI x1), (2, aI x2)] [] (h, 0) := fun _ _ _ => rfl
  rw [e nX11_needParcel nX11_needRange nX6_vanWith] at q
  clear e
  refine segT_wk (by decide) (by decide) hg rwX11_parcelAt (CLK_C (pX11_needParcel_ok hg (by decide)) (CLK_C (pX11_needRange_ok hg (by decide)) (CLK_C (liWT_ck (liPW_ok (pX6_vanWith_ok hg)) (by decide)) CLK_N))) (by decide) (krTI_ok (by decide)) (kxT_ok (by decide)) ?_ q
  clear q
  exact ct_N
def nX11_parcelAt (x1 : Int) (x2 : Int) (h : HH) : Option ((Int ⊕ Nat) × HU) := bX11_parcelAt nX11_needParcel nX11_needRange nX6_vanWith x1 x2 h
theorem wX11_parcelAt {g : SG} (hg : GOK g) {σ0 : SG} : ∀ {x1 : Int} {x2 : Int} {h : HH} {b : ((Int ⊕ Nat) × HU)}, nX11_parcelAt x1 x2 h = some b → WK 141 (oT (fun r => some (aI r)) b.1) σ0 (abU 2 70 g b.2) 0 [(0, aR 2), (1, aI x1), (2, aI x2)] [] (abU 2 70 g (h, 0)) (cnU (h, 0)).1 (cnU (h, 0)).2 := by
  intro x1 x2 h b q
  exact uX11_parcelAt hg q
theorem mX11_parcelAt {g : SG} (hg : GOK g) {h : HH} {x1 : Int} {x2 : Int} {b : ((Int ⊕ Nat) × HU)} (q : nX11_parcelAt x1 x2 h = some b) : MCT 141 [] [aR 2, aI x1, aI x2] (abU 2 70 g (h, 0)) (oT (fun r => some (aI r)) b.1) (abU 2 70 g b.2) :=
  mct_of (by decide) (MFok 141 (by decide +kernel)) (fun _ => Nat.le_of_ble_eq_true rfl) (wX11_parcelAt hg q)
def pX11_parcelAt {β : Type} (z : Int → Int → HH → Option ((Int ⊕ Nat) × HU)) (rc : Nat) : PT β := fun as s f => skC 2 as fun as => skI as fun x1 as => skI as fun x2 as => skE as (liTT rc 5 (fun r => some (aI r)) s (z x1 x2 s.1) f)
theorem pX11_parcelAt_ok {β : Type} {g : SG} (hg : GOK g) {rc rs : Nat} (hrs : 6 * rc ≤ rs) : CLK1 (β := β) 141 (pX11_parcelAt nX11_parcelAt rc) (abU 2 70 g) cnU rc rs := fun as s f b q => by
  obtain ⟨as, rfl, q1⟩ := skC_of q
  obtain ⟨x1, as, rfl, q2⟩ := skI_of q1
  obtain ⟨x2, as, rfl, q3⟩ := skI_of q2
  obtain ⟨rfl, q0⟩ := skE_of q3
  exact liTT_ok q0 (by decide) (fun _ e => mX11_parcelAt hg e) rfl rfl hrs
def csX11_setZone : List (Nat × List (Nat × ARow)) := [(42, [(0, 1, .iload_n 1, 0, 0, 0), (1, 3, .invokestatic 101, 154, 1, 0), (4, 1, .iload_n 1, 0, 0, 0), (5, 3, .ifCond .eq 7, 12, 0, 0), (8, 1, .iconst 1, 0, 0, 0), (9, 3, .goto 4, 13, 0, 0), (12, 1, .iconst 0, 0, 0, 0), (13, 3, .invokestatic 105, 160, 1, 0), (16, 1, .iload_n 2, 0, 0, 0), (17, 1, .iconst 0, 0, 0, 0), (18, 1, .iconst 2, 0, 0, 0), (19, 3, .invokestatic 109, 159, 3, 0), (22, 1, .aload_n 0, 0, 0, 0), (23, 3, .getfield 74, 11, 8, 2), (26, 3, .getfield 326, 0, 4, 2), (29, 1, .iload_n 1, 0, 0, 0), (30, 1, .iaload, 0, 0, 0), (31, 1, .istore_n 3, 0, 0, 0), (32, 1, .aload_n 0, 0, 0, 0), (33, 3, .getfield 74, 11, 8, 2), (36, 3, .getfield 326, 0, 4, 2), (39, 1, .iload_n 1, 0, 0, 0), (40, 1, .iload_n 2, 0, 0, 0), (41, 1, .iastore, 0, 0, 0)]),
  (100000, [(42, 1, .iload_n 3, 0, 0, 0), (43, 1, .ireturn, 0, 0, 0)])]
theorem rwX11_setZone : rowsB (mB 142) (mO 142) (mX 142) (mIni 142) (mFr 142) (mLo 142) (mT 142) csX11_setZone = true := by decide +kernel
def bX11_setZone_13 (f160 : Int → HH → Option ((Unit ⊕ Nat) × HU)) (f159 : Int → Int → Int → HH → Option ((Unit ⊕ Nat) × HU)) (x1 : Int) (x2 : Int) (y0 : Int) (s : HU) : Option ((Int ⊕ Nat) × HU) :=
  bnd (f160 y0 s.1) fun r1 => gd (s.2 + 1 ≤ 6) <| tcase r1.1 (fun _ =>
    bnd (f159 x2 0 2 r1.2.1) fun r3 => gd ((s.2 + 1) + 2 ≤ 6) <| tcase r3.1 (fun _ =>
    gd ((0 : Int) ≤ x1 ∧ x1 < (16 : Int)) <|
    gd ((0 : Int) ≤ x1 ∧ x1 < (16 : Int)) <|
    bnd (some (hI r3.2.1 63 x1 x2, ((s.2 + 1) + 2))) fun h5 =>
    gd (h5.2 ≤ 6) (some (.inl (r3.2.1.1 63 x1), h5))) (fun e => gd (((s.2 + 1) + 2) + 1 ≤ 6) (some (.inr e, (r3.2.1, ((s.2 + 1) + 2)))))) (fun e => gd ((s.2 + 1) + 1 ≤ 6) (some (.inr e, (r1.2.1, (s.2 + 1)))))
theorem uX11_setZone_13 {g : SG} (hg : GOK g) {σ0 : SG} : ∀ {x1 : Int} {x2 : Int} {y0 : Int} {s : HU} {b : ((Int ⊕ Nat) × HU)}, bX11_setZone_13 nX11_needThat nX11_needRange x1 x2 y0 s = some b → WK 142 (oT (fun r => some (aI r)) b.1) σ0 (abU 2 70 g b.2) 13 [(0, aR 2), (1, aI x1), (2, aI x2)] [aI y0] (abU 2 70 g s) (cnU s).1 (cnU s).2 := by
  intro x1 x2 y0 s b q
  have e : ∀ (f160 : Int → HH → Option ((Unit ⊕ Nat) × HU)) (f159 : Int → Int → Int → HH → Option ((Unit ⊕ Nat) × HU)) , bX11_setZone_13 f160 f159 x1 x2 y0 s = segT 2 70 g.2.2.2.2 (krTI 6) (kxT 6) (clC 160 (pX11_needThat f160 6) (clC 159 (pX11_needRange f159 6) clN)) csX11_setZone cuN 1000 13 [(0, aR 2), (1, aI x1), (2, aI x2)] [aI y0] s := fun _ _ => rfl
  rw [e nX11_needThat nX11_needRange] at q
  clear e
  refine segT_wk (by decide) (by decide) hg rwX11_setZone (CLK_C (pX11_needThat_ok hg (by decide)) (CLK_C (pX11_needRange_ok hg (by decide)) CLK_N)) (by decide) (krTI_ok (by decide)) (kxT_ok (by decide)) ?_ q
  clear q
  exact ct_N
def nX11_setZone_13 (x1 : Int) (x2 : Int) (y0 : Int) (s : HU) : Option ((Int ⊕ Nat) × HU) := bX11_setZone_13 nX11_needThat nX11_needRange x1 x2 y0 s
theorem wX11_setZone_13 {g : SG} (hg : GOK g) {σ0 : SG} : ∀ {x1 : Int} {x2 : Int} {y0 : Int} {s : HU} {b : ((Int ⊕ Nat) × HU)}, nX11_setZone_13 x1 x2 y0 s = some b → WK 142 (oT (fun r => some (aI r)) b.1) σ0 (abU 2 70 g b.2) 13 [(0, aR 2), (1, aI x1), (2, aI x2)] [aI y0] (abU 2 70 g s) (cnU s).1 (cnU s).2 := by
  intro x1 x2 y0 s b q
  exact uX11_setZone_13 hg q
def bX11_setZone (f154 : Int → HH → Option ((Unit ⊕ Nat) × HU)) (c13 : Int → Int → Int → HU → Option ((Int ⊕ Nat) × HU)) (x1 : Int) (x2 : Int) (h : HH) : Option ((Int ⊕ Nat) × HU) :=
  bnd (f154 x1 h) fun r1 => gd (0 + 2 ≤ 6) <| tcase r1.1 (fun _ =>
    if x1 = (0 : Int) then
    c13 x1 x2 0 (r1.2.1, (0 + 2))
  else
    c13 x1 x2 1 (r1.2.1, (0 + 2))) (fun e => gd ((0 + 2) + 1 ≤ 6) (some (.inr e, (r1.2.1, (0 + 2)))))
theorem uX11_setZone {g : SG} (hg : GOK g) {σ0 : SG} {c13 : Int → Int → Int → HU → Option ((Int ⊕ Nat) × HU)} (k13 : ∀ (x1 : Int) (x2 : Int) (y0 : Int) (s : HU) (b : ((Int ⊕ Nat) × HU)), c13 x1 x2 y0 s = some b → WK 142 (oT (fun r => some (aI r)) b.1) σ0 (abU 2 70 g b.2) 13 [(0, aR 2), (1, aI x1), (2, aI x2)] [aI y0] (abU 2 70 g s) (cnU s).1 (cnU s).2) : ∀ {x1 : Int} {x2 : Int} {h : HH} {b : ((Int ⊕ Nat) × HU)}, bX11_setZone nX11_needPlace c13 x1 x2 h = some b → WK 142 (oT (fun r => some (aI r)) b.1) σ0 (abU 2 70 g b.2) 0 [(0, aR 2), (1, aI x1), (2, aI x2)] [] (abU 2 70 g (h, 0)) (cnU (h, 0)).1 (cnU (h, 0)).2 := by
  intro x1 x2 h b q
  have e : ∀ (f154 : Int → HH → Option ((Unit ⊕ Nat) × HU)) , bX11_setZone f154 c13 x1 x2 h = segT 2 70 g.2.2.2.2 (krTI 6) (kxT 6) (clC 154 (pX11_needPlace f154 6) clN) csX11_setZone (cuC 13 (fun l st s => tkC 0 2 l <| tkI 1 l fun x1 => tkI 2 l fun x2 => skI st fun y0 st => skE st (c13 x1 x2 y0 s)) cuN) 1000 0 [(0, aR 2), (1, aI x1), (2, aI x2)] [] (h, 0) := fun _ => rfl
  rw [e nX11_needPlace] at q
  clear e
  refine segT_wk (by decide) (by decide) hg rwX11_setZone (CLK_C (pX11_needPlace_ok hg (by decide)) CLK_N) (by decide) (krTI_ok (by decide)) (kxT_ok (by decide)) ?_ q
  clear q
  refine ct_C ?_ (ct_N)
  · intro l st s q
    obtain ⟨m0, q1⟩ := tkC_of q
    obtain ⟨x1, m1, q2⟩ := tkI_of q1
    obtain ⟨x2, m2, q3⟩ := tkI_of q2
    obtain ⟨y0, t0, rfl, q4⟩ := skI_of q3
    obtain ⟨rfl, q5⟩ := skE_of q4
    exact WK_less (k13 _ _ _ _ _ q5) (List.forall_mem_cons.mpr ⟨m0, (List.forall_mem_cons.mpr ⟨m1, (List.forall_mem_cons.mpr ⟨m2, (fun _ h => absurd h List.not_mem_nil)⟩)⟩)⟩)
def nX11_setZone (x1 : Int) (x2 : Int) (h : HH) : Option ((Int ⊕ Nat) × HU) := bX11_setZone nX11_needPlace nX11_setZone_13 x1 x2 h
theorem wX11_setZone {g : SG} (hg : GOK g) {σ0 : SG} : ∀ {x1 : Int} {x2 : Int} {h : HH} {b : ((Int ⊕ Nat) × HU)}, nX11_setZone x1 x2 h = some b → WK 142 (oT (fun r => some (aI r)) b.1) σ0 (abU 2 70 g b.2) 0 [(0, aR 2), (1, aI x1), (2, aI x2)] [] (abU 2 70 g (h, 0)) (cnU (h, 0)).1 (cnU (h, 0)).2 := by
  intro x1 x2 h b q
  exact uX11_setZone hg (fun _ _ _ _ _ q => wX11_setZone_13 hg q) q
theorem mX11_setZone {g : SG} (hg : GOK g) {h : HH} {x1 : Int} {x2 : Int} {b : ((Int ⊕ Nat) × HU)} (q : nX11_setZone x1 x2 h = some b) : MCT 142 [] [aR 2, aI x1, aI x2] (abU 2 70 g (h, 0)) (oT (fun r => some (aI r)) b.1) (abU 2 70 g b.2) :=
  mct_of (by decide) (MFok 142 (by decide +kernel)) (fun _ => Nat.le_of_ble_eq_true rfl) (wX11_setZone hg q)
def pX11_setZone {β : Type} (z : Int → Int → HH → Option ((Int ⊕ Nat) × HU)) (rc : Nat) : PT β := fun as s f => skC 2 as fun as => skI as fun x1 as => skI as fun x2 as => skE as (liTT rc 6 (fun r => some (aI r)) s (z x1 x2 s.1) f)
theorem pX11_setZone_ok {β : Type} {g : SG} (hg : GOK g) {rc rs : Nat} (hrs : 6 * rc ≤ rs) : CLK1 (β := β) 142 (pX11_setZone nX11_setZone rc) (abU 2 70 g) cnU rc rs := fun as s f b q => by
  obtain ⟨as, rfl, q1⟩ := skC_of q
  obtain ⟨x1, as, rfl, q2⟩ := skI_of q1
  obtain ⟨x2, as, rfl, q3⟩ := skI_of q2
  obtain ⟨rfl, q0⟩ := skE_of q3
  exact liTT_ok q0 (by decide) (fun _ e => mX11_setZone hg e) rfl rfl hrs
def csX11_balance : List (Nat × List (Nat × ARow)) := [(100000, [(0, 1, .iconst 0, 0, 0, 0), (1, 1, .istore_n 1, 0, 0, 0), (2, 1, .iload_n 1, 0, 0, 0), (3, 2, .ldc 244, 1000000, 0, 0), (5, 3, .if_icmp .ge 19, 24, 0, 0), (8, 1, .aload_n 0, 0, 0, 0), (9, 3, .getfield 74, 11, 8, 2), (12, 3, .invokevirtual 329, 6, 1, 0), (15, 3, .ifCond .eq 9, 24, 0, 0), (18, 3, .iinc 1 1, 0, 0, 0), (21, 3, .goto (-19), 2, 0, 0), (24, 1, .iload_n 1, 0, 0, 0), (25, 1, .ireturn, 0, 0, 0)])]
theorem rwX11_balance : rowsB (mB 143) (mO 143) (mX 143) (mIni 143) (mFr 143) (mLo 143) (mT 143) csX11_balance = true := by decide +kernel
def bX11_balance_2 (f6 : HH → Option (Int × HH)) (c2 : Int → HH → Option (Int × HH)) (x1 : Int) (h : HH) : Option (Int × HH) :=
  if x1 < (1000000 : Int) then
    bnd (f6 h) fun r1 =>
    if r1.1 = (0 : Int) then
    some (x1, r1.2)
  else
    gd (R32 (x1 + 1)) <|
    c2 (x1 + 1) r1.2
  else
    some (x1, h)
theorem uX11_balance_2 {g : SG} (hg : GOK g) {σ0 : SG} {c2 : Int → HH → Option (Int × HH)} (k2 : ∀ (x1 : Int) (h : HH) (b : (Int × HH)), c2 x1 h = some b → WK 143 (.inl (some (aI b.1))) σ0 (abH 2 70 g b.2) 2 [(0, aR 2), (1, aI x1)] [] (abH 2 70 g h) 0 0) : ∀ {x1 : Int} {h : HH} {b : (Int × HH)}, bX11_balance_2 nX0_balanceOnce c2 x1 h = some b → WK 143 (.inl (some (aI b.1))) σ0 (abH 2 70 g b.2) 2 [(0, aR 2), (1, aI x1)] [] (abH 2 70 g h) 0 0 := by
  intro x1 h b q
  have e : ∀ (f6 : HH → Option (Int × HH)) , bX11_balance_2 f6 c2 x1 h = segW 2 70 g.2.2.2.2 krWI (clC 6 (pX0_balanceOnce f6) clN) csX11_balance (cuC 2 (fun l st s => tkC 0 2 l <| tkI 1 l fun x1 => skE st (c2 x1 s)) cuN) 1000 2 [(0, aR 2), (1, aI x1)] [] h := fun _ => rfl
  rw [e nX0_balanceOnce] at q
  clear e
  refine segW_wk (by decide) (by decide) hg rwX11_balance (CLKW_C (pX0_balanceOnce_ok hg) CLKW_N) krWI_ok ?_ q
  clear q
  refine ct_C ?_ (ct_N)
  · intro l st h q
    obtain ⟨m0, q1⟩ := tkC_of q
    obtain ⟨x1, m1, q2⟩ := tkI_of q1
    obtain ⟨rfl, q3⟩ := skE_of q2
    exact WK_less (k2 _ _ _ q3) (List.forall_mem_cons.mpr ⟨m0, (List.forall_mem_cons.mpr ⟨m1, (fun _ h => absurd h List.not_mem_nil)⟩)⟩)
def nX11_balance_2 : Nat → Int → HH → Option (Int × HH) := iter (fun _ _ => none) (fun self => bX11_balance_2 nX0_balanceOnce self)
theorem nX11_balance_2_s {F : Nat} : nX11_balance_2 (F + 1) = bX11_balance_2 nX0_balanceOnce (nX11_balance_2 F) := rfl
theorem wX11_balance_2 {g : SG} (hg : GOK g) {σ0 : SG} : ∀ {F : Nat}, ∀ {x1 : Int} {h : HH} {b : (Int × HH)}, nX11_balance_2 F x1 h = some b → WK 143 (.inl (some (aI b.1))) σ0 (abH 2 70 g b.2) 2 [(0, aR 2), (1, aI x1)] [] (abH 2 70 g h) 0 0 := by
  intro F
  have z : ∀ (x1 : Int) (h : HH) (b : (Int × HH)), nX11_balance_2 F x1 h = some b → WK 143 (.inl (some (aI b.1))) σ0 (abH 2 70 g b.2) 2 [(0, aR 2), (1, aI x1)] [] (abH 2 70 g h) 0 0 := iter_ind (P := fun (c : Int → HH → Option (Int × HH)) => ∀ (x1 : Int) (h : HH) (b : (Int × HH)), c x1 h = some b → WK 143 (.inl (some (aI b.1))) σ0 (abH 2 70 g b.2) 2 [(0, aR 2), (1, aI x1)] [] (abH 2 70 g h) 0 0) (by
    intro x1 h b q
    cases q) (fun self ih => by
    intro x1 h b q
    exact uX11_balance_2 hg ih q) F
  intro x1 h b q
  exact z _ _ _ q
def bX11_balance (c2 : Int → HH → Option (Int × HH)) (h : HH) : Option (Int × HH) :=
  c2 0 h
theorem uX11_balance {g : SG} (hg : GOK g) {σ0 : SG} {c2 : Int → HH → Option (Int × HH)} (k2 : ∀ (x1 : Int) (h : HH) (b : (Int × HH)), c2 x1 h = some b → WK 143 (.inl (some (aI b.1))) σ0 (abH 2 70 g b.2) 2 [(0, aR 2), (1, aI x1)] [] (abH 2 70 g h) 0 0) : ∀ {h : HH} {b : (Int × HH)}, bX11_balance c2 h = some b → WK 143 (.inl (some (aI b.1))) σ0 (abH 2 70 g b.2) 0 [(0, aR 2)] [] (abH 2 70 g h) 0 0 := by
  intro h b q
  have e : bX11_balance c2 h = segW 2 70 g.2.2.2.2 krWI clN csX11_balance (cuC 2 (fun l st s => tkC 0 2 l <| tkI 1 l fun x1 => skE st (c2 x1 s)) cuN) 1000 0 [(0, aR 2)] [] h := rfl
  rw [e] at q
  clear e
  refine segW_wk (by decide) (by decide) hg rwX11_balance CLKW_N krWI_ok ?_ q
  clear q
  refine ct_C ?_ (ct_N)
  · intro l st h q
    obtain ⟨m0, q1⟩ := tkC_of q
    obtain ⟨x1, m1, q2⟩ := tkI_of q1
    obtain ⟨rfl, q3⟩ := skE_of q2
    exact WK_less (k2 _ _ _ q3) (List.forall_mem_cons.mpr ⟨m0, (List.forall_mem_cons.mpr ⟨m1, (fun _ h => absurd h List.not_mem_nil)⟩)⟩)
def nX11_balance (h : HH) : Option (Int × HH) := bX11_balance (nX11_balance_2 100000) h
theorem wX11_balance {g : SG} (hg : GOK g) {σ0 : SG} : ∀ {h : HH} {b : (Int × HH)}, nX11_balance h = some b → WK 143 (.inl (some (aI b.1))) σ0 (abH 2 70 g b.2) 0 [(0, aR 2)] [] (abH 2 70 g h) 0 0 := by
  intro h b q
  exact uX11_balance hg (fun _ _ _ q => wX11_balance_2 hg q) q
theorem mX11_balance {g : SG} (hg : GOK g) {h : HH} {b : (Int × HH)} (q : nX11_balance h = some b) : MCT 143 [] [aR 2] (abH 2 70 g h) (.inl (some (aI b.1))) (abH 2 70 g b.2) :=
  mct_of (by decide) (MFok 143 (by decide +kernel)) (fun _ => Nat.le_of_ble_eq_true rfl) (wX11_balance hg q)
def pX11_balance {β : Type} (z : HH → Option (Int × HH)) : PW β := fun as h f => skC 2 as fun as => skE as (bnd (z h) fun r => f (.inl (some (aI r.1))) r.2)
theorem pX11_balance_ok {β : Type} {g : SG} (hg : GOK g) : CW1 (β := β) 143 (pX11_balance nX11_balance) 2 70 g := fun as h f b q => by
  obtain ⟨as, rfl, q1⟩ := skC_of q
  obtain ⟨rfl, q0⟩ := skE_of q1
  obtain ⟨r, z1, z2⟩ := bnd_of q0
  exact ⟨_, _, z2, by decide, mX11_balance hg z1, rfl, rfl, fun z => absurd z (by decide)⟩
def csX11_zone : List (Nat × List (Nat × ARow)) := [(100000, [(0, 1, .iload_n 1, 0, 0, 0), (1, 3, .ifCond .eq 18, 19, 0, 0), (4, 1, .iload_n 2, 0, 0, 0), (5, 1, .iconst 0, 0, 0, 0), (6, 1, .iconst 2, 0, 0, 0), (7, 3, .invokestatic 180, 158, 3, 0), (10, 1, .aload_n 0, 0, 0, 0), (11, 3, .getfield 74, 11, 8, 2), (14, 1, .iload_n 2, 0, 0, 0), (15, 3, .invokevirtual 332, 5, 2, 0), (18, 1, .ireturn, 0, 0, 0), (19, 1, .iload_n 2, 0, 0, 0), (20, 1, .iconst 1, 0, 0, 0), (21, 2, .bipush 15, 0, 0, 0), (23, 3, .invokestatic 180, 158, 3, 0), (26, 1, .aload_n 0, 0, 0, 0), (27, 3, .getfield 74, 11, 8, 2), (30, 3, .getfield 326, 0, 4, 2), (33, 1, .iload_n 2, 0, 0, 0), (34, 1, .iaload, 0, 0, 0), (35, 1, .ireturn, 0, 0, 0)])]
theorem rwX11_zone : rowsB (mB 144) (mO 144) (mX 144) (mIni 144) (mFr 144) (mLo 144) (mT 144) csX11_zone = true := by decide +kernel
def bX11_zone (f158 : Int → Int → Int → HH → Option ((Unit ⊕ Nat) × HU)) (f5 : HH → Int → Option Int) (x1 : Int) (x2 : Int) (h : HH) : Option ((Int ⊕ Nat) × HU) :=
  if x1 = (0 : Int) then
    bnd (f158 x2 1 15 h) fun r1 => gd (0 + 1 ≤ 3) <| tcase r1.1 (fun _ =>
    gd ((0 : Int) ≤ x2 ∧ x2 < (16 : Int)) <|
    gd ((0 + 1) ≤ 3) (some (.inl (r1.2.1.1 63 x2), (r1.2.1, (0 + 1))))) (fun e => gd ((0 + 1) + 1 ≤ 3) (some (.inr e, (r1.2.1, (0 + 1)))))
  else
    bnd (f158 x2 0 2 h) fun r3 => gd (0 + 1 ≤ 3) <| tcase r3.1 (fun _ =>
    gd ((0 + 1) ≤ 3) <|
    bnd (f5 r3.2.1 x2) fun r5 =>
    gd ((0 + 1) ≤ 3) (some (.inl r5, (r3.2.1, (0 + 1))))) (fun e => gd ((0 + 1) + 1 ≤ 3) (some (.inr e, (r3.2.1, (0 + 1)))))
theorem uX11_zone {g : SG} (hg : GOK g) {σ0 : SG} : ∀ {x1 : Int} {x2 : Int} {h : HH} {b : ((Int ⊕ Nat) × HU)}, bX11_zone nX11_needIndex nX0_loadOf x1 x2 h = some b → WK 144 (oT (fun r => some (aI r)) b.1) σ0 (abU 2 70 g b.2) 0 [(0, aR 2), (1, aI x1), (2, aI x2)] [] (abU 2 70 g (h, 0)) (cnU (h, 0)).1 (cnU (h, 0)).2 := by
  intro x1 x2 h b q
  have e : ∀ (f158 : Int → Int → Int → HH → Option ((Unit ⊕ Nat) × HU)) (f5 : HH → Int → Option Int) , bX11_zone f158 f5 x1 x2 h = segT 2 70 g.2.2.2.2 (krTI 3) (kxT 3) (clC 158 (pX11_needIndex f158 3) (clC 5 (guT 3 (liWT (liPW (pX0_loadOf f5)))) clN)) csX11_zone cuN 1000 0 [(0, aR 2), (1, aI x1), (2, aI x2)] [] (h, 0) := fun _ _ => rfl
  rw [e nX11_needIndex nX0_loadOf] at q
  clear e
  refine segT_wk (by decide) (by decide) hg rwX11_zone (CLK_C (pX11_needIndex_ok hg (by decide)) (CLK_C (liWT_ck (liPW_ok (pX0_loadOf_ok hg)) (by decide)) CLK_N)) (by decide) (krTI_ok (by decide)) (kxT_ok (by decide)) ?_ q
  clear q
  exact ct_N
def nX11_zone (x1 : Int) (x2 : Int) (h : HH) : Option ((Int ⊕ Nat) × HU) := bX11_zone nX11_needIndex nX0_loadOf x1 x2 h
theorem wX11_zone {g : SG} (hg : GOK g) {σ0 : SG} : ∀ {x1 : Int} {x2 : Int} {h : HH} {b : ((Int ⊕ Nat) × HU)}, nX11_zone x1 x2 h = some b → WK 144 (oT (fun r => some (aI r)) b.1) σ0 (abU 2 70 g b.2) 0 [(0, aR 2), (1, aI x1), (2, aI x2)] [] (abU 2 70 g (h, 0)) (cnU (h, 0)).1 (cnU (h, 0)).2 := by
  intro x1 x2 h b q
  exact uX11_zone hg q
theorem mX11_zone {g : SG} (hg : GOK g) {h : HH} {x1 : Int} {x2 : Int} {b : ((Int ⊕ Nat) × HU)} (q : nX11_zone x1 x2 h = some b) : MCT 144 [] [aR 2, aI x1, aI x2] (abU 2 70 g (h, 0)) (oT (fun r => some (aI r)) b.1) (abU 2 70 g b.2) :=
  mct_of (by decide) (MFok 144 (by decide +kernel)) (fun _ => Nat.le_of_ble_eq_true rfl) (wX11_zone hg q)
def pX11_zone {β : Type} (z : Int → Int → HH → Option ((Int ⊕ Nat) × HU)) (rc : Nat) : PT β := fun as s f => skC 2 as fun as => skI as fun x1 as => skI as fun x2 as => skE as (liTT rc 3 (fun r => some (aI r)) s (z x1 x2 s.1) f)
theorem pX11_zone_ok {β : Type} {g : SG} (hg : GOK g) {rc rs : Nat} (hrs : 6 * rc ≤ rs) : CLK1 (β := β) 144 (pX11_zone nX11_zone rc) (abU 2 70 g) cnU rc rs := fun as s f b q => by
  obtain ⟨as, rfl, q1⟩ := skC_of q
  obtain ⟨x1, as, rfl, q2⟩ := skI_of q1
  obtain ⟨x2, as, rfl, q3⟩ := skI_of q2
  obtain ⟨rfl, q0⟩ := skE_of q3
  exact liTT_ok q0 (by decide) (fun _ e => mX11_zone hg e) rfl rfl hrs
def csX11_together : List (Nat × List (Nat × ARow)) := [(47, [(0, 1, .iload_n 1, 0, 0, 0), (1, 1, .iconst 0, 0, 0, 0), (2, 2, .bipush 7, 0, 0, 0), (4, 3, .invokestatic 109, 159, 3, 0), (7, 1, .aload_n 0, 0, 0, 0), (8, 3, .getfield 21, 11, 1, 2), (11, 3, .getfield 168, 2, 14, 0), (14, 3, .ifCond .le 7, 21, 0, 0), (17, 1, .iconst 1, 0, 0, 0), (18, 3, .goto 4, 22, 0, 0), (21, 1, .iconst 0, 0, 0, 0), (22, 3, .invokestatic 122, 161, 1, 0), (25, 1, .aload_n 0, 0, 0, 0), (26, 3, .getfield 83, 11, 9, 2), (29, 1, .iload_n 1, 0, 0, 0), (30, 3, .invokevirtual 335, 78, 2, 8), (33, 1, .istore_n 2, 0, 0, 0), (34, 1, .iload_n 2, 0, 0, 0), (35, 1, .iconst (-1), 0, 0, 0), (36, 3, .if_icmp .eq 7, 43, 0, 0), (39, 1, .iconst 1, 0, 0, 0), (40, 3, .goto 4, 44, 0, 0), (43, 1, .iconst 0, 0, 0, 0), (44, 3, .invokestatic 232, 162, 1, 0)]),
  (100000, [(47, 1, .iload_n 2, 0, 0, 0), (48, 1, .ireturn, 0, 0, 0)])]
theorem rwX11_together : rowsB (mB 145) (mO 145) (mX 145) (mIni 145) (mFr 145) (mLo 145) (mT 145) csX11_together = true := by decide +kernel
def bX11_together_44 (f162 : Int → HH → Option ((Unit ⊕ Nat) × HU)) (x2 : Int) (y0 : Int) (s : HU) : Option ((Int ⊕ Nat) × HU) :=
  bnd (f162 y0 s.1) fun r1 => gd (s.2 + 1 ≤ 5) <| tcase r1.1 (fun _ =>
    gd ((s.2 + 1) ≤ 5) (some (.inl x2, (r1.2.1, (s.2 + 1))))) (fun e => gd ((s.2 + 1) + 1 ≤ 5) (some (.inr e, (r1.2.1, (s.2 + 1)))))
theorem uX11_together_44 {g : SG} (hg : GOK g) {σ0 : SG} : ∀ {x2 : Int} {y0 : Int} {s : HU} {b : ((Int ⊕ Nat) × HU)}, bX11_together_44 nX11_needElement x2 y0 s = some b → WK 145 (oT (fun r => some (aI r)) b.1) σ0 (abU 2 70 g b.2) 44 [(2, aI x2)] [aI y0] (abU 2 70 g s) (cnU s).1 (cnU s).2 := by
  intro x2 y0 s b q
  have e : ∀ (f162 : Int → HH → Option ((Unit ⊕ Nat) × HU)) , bX11_together_44 f162 x2 y0 s = segT 2 70 g.2.2.2.2 (krTI 5) (kxT 5) (clC 162 (pX11_needElement f162 5) clN) csX11_together cuN 1000 44 [(2, aI x2)] [aI y0] s := fun _ => rfl
  rw [e nX11_needElement] at q
  clear e
  refine segT_wk (by decide) (by decide) hg rwX11_together (CLK_C (pX11_needElement_ok hg (by decide)) CLK_N) (by decide) (krTI_ok (by decide)) (kxT_ok (by decide)) ?_ q
  clear q
  exact ct_N
def nX11_together_44 (x2 : Int) (y0 : Int) (s : HU) : Option ((Int ⊕ Nat) × HU) := bX11_together_44 nX11_needElement x2 y0 s
theorem wX11_together_44 {g : SG} (hg : GOK g) {σ0 : SG} : ∀ {x2 : Int} {y0 : Int} {s : HU} {b : ((Int ⊕ Nat) × HU)}, nX11_together_44 x2 y0 s = some b → WK 145 (oT (fun r => some (aI r)) b.1) σ0 (abU 2 70 g b.2) 44 [(2, aI x2)] [aI y0] (abU 2 70 g s) (cnU s).1 (cnU s).2 := by
  intro x2 y0 s b q
  exact uX11_together_44 hg q
def bX11_together_22 (f161 : Int → HH → Option ((Unit ⊕ Nat) × HU)) (f78 : Int → HH → Option (Int × HH)) (c44 : Int → Int → HU → Option ((Int ⊕ Nat) × HU)) (x1 : Int) (y0 : Int) (s : HU) : Option ((Int ⊕ Nat) × HU) :=
  bnd (f161 y0 s.1) fun r1 => gd (s.2 + 1 ≤ 5) <| tcase r1.1 (fun _ =>
    gd ((s.2 + 1) ≤ 5) <|
    bnd (f78 x1 r1.2.1) fun r3 =>
    if r3.1 = ((-1) : Int) then
    c44 r3.1 0 (r3.2, (s.2 + 1))
  else
    c44 r3.1 1 (r3.2, (s.2 + 1))) (fun e => gd ((s.2 + 1) + 1 ≤ 5) (some (.inr e, (r1.2.1, (s.2 + 1)))))
theorem uX11_together_22 {g : SG} (hg : GOK g) {σ0 : SG} {c44 : Int → Int → HU → Option ((Int ⊕ Nat) × HU)} (k44 : ∀ (x2 : Int) (y0 : Int) (s : HU) (b : ((Int ⊕ Nat) × HU)), c44 x2 y0 s = some b → WK 145 (oT (fun r => some (aI r)) b.1) σ0 (abU 2 70 g b.2) 44 [(2, aI x2)] [aI y0] (abU 2 70 g s) (cnU s).1 (cnU s).2) : ∀ {x1 : Int} {y0 : Int} {s : HU} {b : ((Int ⊕ Nat) × HU)}, bX11_together_22 nX11_needState nX8_costOfSet c44 x1 y0 s = some b → WK 145 (oT (fun r => some (aI r)) b.1) σ0 (abU 2 70 g b.2) 22 [(0, aR 2), (1, aI x1)] [aI y0] (abU 2 70 g s) (cnU s).1 (cnU s).2 := by
  intro x1 y0 s b q
  have e : ∀ (f161 : Int → HH → Option ((Unit ⊕ Nat) × HU)) (f78 : Int → HH → Option (Int × HH)) , bX11_together_22 f161 f78 c44 x1 y0 s = segT 2 70 g.2.2.2.2 (krTI 5) (kxT 5) (clC 161 (pX11_needState f161 5) (clC 78 (guT 5 (liWT (pX8_costOfSet f78))) clN)) csX11_together (cuC 44 (fun l st s => tkI 2 l fun x2 => skI st fun y0 st => skE st (c44 x2 y0 s)) cuN) 1000 22 [(0, aR 2), (1, aI x1)] [aI y0] s := fun _ _ => rfl
  rw [e nX11_needState nX8_costOfSet] at q
  clear e
  refine segT_wk (by decide) (by decide) hg rwX11_together (CLK_C (pX11_needState_ok hg (by decide)) (CLK_C (liWT_ck (pX8_costOfSet_ok hg) (by decide)) CLK_N)) (by decide) (krTI_ok (by decide)) (kxT_ok (by decide)) ?_ q
  clear q
  refine ct_C ?_ (ct_N)
  · intro l st s q
    obtain ⟨x2, m2, q1⟩ := tkI_of q
    obtain ⟨y0, t0, rfl, q2⟩ := skI_of q1
    obtain ⟨rfl, q3⟩ := skE_of q2
    exact WK_less (k44 _ _ _ _ q3) (List.forall_mem_cons.mpr ⟨m2, (fun _ h => absurd h List.not_mem_nil)⟩)
def nX11_together_22 (x1 : Int) (y0 : Int) (s : HU) : Option ((Int ⊕ Nat) × HU) := bX11_together_22 nX11_needState nX8_costOfSet nX11_together_44 x1 y0 s
theorem wX11_together_22 {g : SG} (hg : GOK g) {σ0 : SG} : ∀ {x1 : Int} {y0 : Int} {s : HU} {b : ((Int ⊕ Nat) × HU)}, nX11_together_22 x1 y0 s = some b → WK 145 (oT (fun r => some (aI r)) b.1) σ0 (abU 2 70 g b.2) 22 [(0, aR 2), (1, aI x1)] [aI y0] (abU 2 70 g s) (cnU s).1 (cnU s).2 := by
  intro x1 y0 s b q
  exact uX11_together_22 hg (fun _ _ _ _ q => wX11_together_44 hg q) q
def bX11_together (f159 : Int → Int → Int → HH → Option ((Unit ⊕ Nat) × HU)) (c22 : Int → Int → HU → Option ((Int ⊕ Nat) × HU)) (x1 : Int) (h : HH) : Option ((Int ⊕ Nat) × HU) :=
  bnd (f159 x1 0 7 h) fun r1 => gd (0 + 2 ≤ 5) <| tcase r1.1 (fun _ =>
    if (0 : Int) < (r1.2.1.1 13 14) then
    c22 x1 1 (r1.2.1, (0 + 2))
  else
    c22 x1 0 (r1.2.1, (0 + 2))) (fun e => gd ((0 + 2) + 1 ≤ 5) (some (.inr e, (r1.2.1, (0 + 2)))))
theorem uX11_together {g : SG} (hg : GOK g) {σ0 : SG} {c22 : Int → Int → HU → Option ((Int ⊕ Nat) × HU)} (k22 : ∀ (x1 : Int) (y0 : Int) (s : HU) (b : ((Int ⊕ Nat) × HU)), c22 x1 y0 s = some b → WK 145 (oT (fun r => some (aI r)) b.1) σ0 (abU 2 70 g b.2) 22 [(0, aR 2), (1, aI x1)] [aI y0] (abU 2 70 g s) (cnU s).1 (cnU s).2) : ∀ {x1 : Int} {h : HH} {b : ((Int ⊕ Nat) × HU)}, bX11_together nX11_needRange c22 x1 h = some b → WK 145 (oT (fun r => some (aI r)) b.1) σ0 (abU 2 70 g b.2) 0 [(0, aR 2), (1, aI x1)] [] (abU 2 70 g (h, 0)) (cnU (h, 0)).1 (cnU (h, 0)).2 := by
  intro x1 h b q
  have e : ∀ (f159 : Int → Int → Int → HH → Option ((Unit ⊕ Nat) × HU)) , bX11_together f159 c22 x1 h = segT 2 70 g.2.2.2.2 (krTI 5) (kxT 5) (clC 159 (pX11_needRange f159 5) clN) csX11_together (cuC 22 (fun l st s => tkC 0 2 l <| tkI 1 l fun x1 => skI st fun y0 st => skE st (c22 x1 y0 s)) cuN) 1000 0 [(0, aR 2), (1, aI x1)] [] (h, 0) := fun _ => rfl
  rw [e nX11_needRange] at q
  clear e
  refine segT_wk (by decide) (by decide) hg rwX11_together (CLK_C (pX11_needRange_ok hg (by decide)) CLK_N) (by decide) (krTI_ok (by decide)) (kxT_ok (by decide)) ?_ q
  clear q
  refine ct_C ?_ (ct_N)
  · intro l st s q
    obtain ⟨m0, q1⟩ := tkC_of q
    obtain ⟨x1, m1, q2⟩ := tkI_of q1
    obtain ⟨y0, t0, rfl, q3⟩ := skI_of q2
    obtain ⟨rfl, q4⟩ := skE_of q3
    exact WK_less (k22 _ _ _ _ q4) (List.forall_mem_cons.mpr ⟨m0, (List.forall_mem_cons.mpr ⟨m1, (fun _ h => absurd h List.not_mem_nil)⟩)⟩)
def nX11_together (x1 : Int) (h : HH) : Option ((Int ⊕ Nat) × HU) := bX11_together nX11_needRange nX11_together_22 x1 h
theorem wX11_together {g : SG} (hg : GOK g) {σ0 : SG} : ∀ {x1 : Int} {h : HH} {b : ((Int ⊕ Nat) × HU)}, nX11_together x1 h = some b → WK 145 (oT (fun r => some (aI r)) b.1) σ0 (abU 2 70 g b.2) 0 [(0, aR 2), (1, aI x1)] [] (abU 2 70 g (h, 0)) (cnU (h, 0)).1 (cnU (h, 0)).2 := by
  intro x1 h b q
  exact uX11_together hg (fun _ _ _ _ q => wX11_together_22 hg q) q
theorem mX11_together {g : SG} (hg : GOK g) {h : HH} {x1 : Int} {b : ((Int ⊕ Nat) × HU)} (q : nX11_together x1 h = some b) : MCT 145 [] [aR 2, aI x1] (abU 2 70 g (h, 0)) (oT (fun r => some (aI r)) b.1) (abU 2 70 g b.2) :=
  mct_of (by decide) (MFok 145 (by decide +kernel)) (fun _ => Nat.le_of_ble_eq_true rfl) (wX11_together hg q)
def pX11_together {β : Type} (z : Int → HH → Option ((Int ⊕ Nat) × HU)) (rc : Nat) : PT β := fun as s f => skC 2 as fun as => skI as fun x1 as => skE as (liTT rc 5 (fun r => some (aI r)) s (z x1 s.1) f)
theorem pX11_together_ok {β : Type} {g : SG} (hg : GOK g) {rc rs : Nat} (hrs : 6 * rc ≤ rs) : CLK1 (β := β) 145 (pX11_together nX11_together rc) (abU 2 70 g) cnU rc rs := fun as s f b q => by
  obtain ⟨as, rfl, q1⟩ := skC_of q
  obtain ⟨x1, as, rfl, q2⟩ := skI_of q1
  obtain ⟨rfl, q0⟩ := skE_of q2
  exact liTT_ok q0 (by decide) (fun _ e => mX11_together hg e) rfl rfl hrs
def csX11_share : List (Nat × List (Nat × ARow)) := [(100000, [(0, 1, .iload_n 1, 0, 0, 0), (1, 3, .invokestatic 140, 155, 1, 0), (4, 1, .aload_n 0, 0, 0, 0), (5, 3, .getfield 21, 11, 1, 2), (8, 3, .getfield 168, 2, 14, 0), (11, 3, .ifCond .le 7, 18, 0, 0), (14, 1, .iconst 1, 0, 0, 0), (15, 3, .goto 4, 19, 0, 0), (18, 1, .iconst 0, 0, 0, 0), (19, 3, .invokestatic 122, 161, 1, 0), (22, 1, .aload_n 0, 0, 0, 0), (23, 3, .getfield 83, 11, 9, 2), (26, 3, .invokevirtual 338, 81, 1, 8), (29, 3, .invokestatic 232, 162, 1, 0), (32, 1, .aload_n 0, 0, 0, 0), (33, 3, .getfield 83, 11, 9, 2), (36, 1, .iload_n 1, 0, 0, 0), (37, 3, .invokevirtual 341, 82, 2, 8), (40, 1, .ireturn, 0, 0, 0)])]
theorem rwX11_share : rowsB (mB 146) (mO 146) (mX 146) (mIni 146) (mFr 146) (mLo 146) (mT 146) csX11_share = true := by decide +kernel
def bX11_share_19 (f161 : Int → HH → Option ((Unit ⊕ Nat) × HU)) (f81 : HH → Option (Int × HH)) (f162 : Int → HH → Option ((Unit ⊕ Nat) × HU)) (f82 : HH → Int → Option Int) (x1 : Int) (y0 : Int) (s : HU) : Option ((Int ⊕ Nat) × HU) :=
  bnd (f161 y0 s.1) fun r1 => gd (s.2 + 1 ≤ 5) <| tcase r1.1 (fun _ =>
    gd ((s.2 + 1) ≤ 5) <|
    bnd (f81 r1.2.1) fun r3 =>
    bnd (f162 r3.1 r3.2) fun r4 => gd ((s.2 + 1) + 1 ≤ 5) <| tcase r4.1 (fun _ =>
    gd (((s.2 + 1) + 1) ≤ 5) <|
    bnd (f82 r4.2.1 x1) fun r6 =>
    gd (((s.2 + 1) + 1) ≤ 5) (some (.inl r6, (r4.2.1, ((s.2 + 1) + 1))))) (fun e => gd (((s.2 + 1) + 1) + 1 ≤ 5) (some (.inr e, (r4.2.1, ((s.2 + 1) + 1)))))) (fun e => gd ((s.2 + 1) + 1 ≤ 5) (some (.inr e, (r1.2.1, (s.2 + 1)))))
theorem uX11_share_19 {g : SG} (hg : GOK g) {σ0 : SG} : ∀ {x1 : Int} {y0 : Int} {s : HU} {b : ((Int ⊕ Nat) × HU)}, bX11_share_19 nX11_needState nX8_reckon nX11_needElement nX8_sixfold x1 y0 s = some b → WK 146 (oT (fun r => some (aI r)) b.1) σ0 (abU 2 70 g b.2) 19 [(0, aR 2), (1, aI x1)] [aI y0] (abU 2 70 g s) (cnU s).1 (cnU s).2 := by
  intro x1 y0 s b q
  have e : ∀ (f161 : Int → HH → Option ((Unit ⊕ Nat) × HU)) (f81 : HH → Option (Int × HH)) (f162 : Int → HH → Option ((Unit ⊕ Nat) × HU)) (f82 : HH → Int → Option Int) , bX11_share_19 f161 f81 f162 f82 x1 y0 s = segT 2 70 g.2.2.2.2 (krTI 5) (kxT 5) (clC 161 (pX11_needState f161 5) (clC 81 (guT 5 (liWT (pX8_reckon f81))) (clC 162 (pX11_needElement f162 5) (clC 82 (guT 5 (liWT (liPW (pX8_sixfold f82)))) clN)))) csX11_share cuN 1000 19 [(0, aR 2), (1, aI x1)] [aI y0] s := fun _ _ _ _ => rfl
  rw [e nX11_needState nX8_reckon nX11_needElement nX8_sixfold] at q
  clear e
  refine segT_wk (by decide) (by decide) hg rwX11_share (CLK_C (pX11_needState_ok hg (by decide)) (CLK_C (liWT_ck (pX8_reckon_ok hg) (by decide)) (CLK_C (pX11_needElement_ok hg (by decide)) (CLK_C (liWT_ck (liPW_ok (pX8_sixfold_ok hg)) (by decide)) CLK_N)))) (by decide) (krTI_ok (by decide)) (kxT_ok (by decide)) ?_ q
  clear q
  exact ct_N
def nX11_share_19 (x1 : Int) (y0 : Int) (s : HU) : Option ((Int ⊕ Nat) × HU) := bX11_share_19 nX11_needState nX8_reckon nX11_needElement nX8_sixfold x1 y0 s
theorem wX11_share_19 {g : SG} (hg : GOK g) {σ0 : SG} : ∀ {x1 : Int} {y0 : Int} {s : HU} {b : ((Int ⊕ Nat) × HU)}, nX11_share_19 x1 y0 s = some b → WK 146 (oT (fun r => some (aI r)) b.1) σ0 (abU 2 70 g b.2) 19 [(0, aR 2), (1, aI x1)] [aI y0] (abU 2 70 g s) (cnU s).1 (cnU s).2 := by
  intro x1 y0 s b q
  exact uX11_share_19 hg q
def bX11_share (f155 : Int → HH → Option ((Unit ⊕ Nat) × HU)) (c19 : Int → Int → HU → Option ((Int ⊕ Nat) × HU)) (x1 : Int) (h : HH) : Option ((Int ⊕ Nat) × HU) :=
  bnd (f155 x1 h) fun r1 => gd (0 + 2 ≤ 5) <| tcase r1.1 (fun _ =>
    if (0 : Int) < (r1.2.1.1 13 14) then
    c19 x1 1 (r1.2.1, (0 + 2))
  else
    c19 x1 0 (r1.2.1, (0 + 2))) (fun e => gd ((0 + 2) + 1 ≤ 5) (some (.inr e, (r1.2.1, (0 + 2)))))
theorem uX11_share {g : SG} (hg : GOK g) {σ0 : SG} {c19 : Int → Int → HU → Option ((Int ⊕ Nat) × HU)} (k19 : ∀ (x1 : Int) (y0 : Int) (s : HU) (b : ((Int ⊕ Nat) × HU)), c19 x1 y0 s = some b → WK 146 (oT (fun r => some (aI r)) b.1) σ0 (abU 2 70 g b.2) 19 [(0, aR 2), (1, aI x1)] [aI y0] (abU 2 70 g s) (cnU s).1 (cnU s).2) : ∀ {x1 : Int} {h : HH} {b : ((Int ⊕ Nat) × HU)}, bX11_share nX11_needSender c19 x1 h = some b → WK 146 (oT (fun r => some (aI r)) b.1) σ0 (abU 2 70 g b.2) 0 [(0, aR 2), (1, aI x1)] [] (abU 2 70 g (h, 0)) (cnU (h, 0)).1 (cnU (h, 0)).2 := by
  intro x1 h b q
  have e : ∀ (f155 : Int → HH → Option ((Unit ⊕ Nat) × HU)) , bX11_share f155 c19 x1 h = segT 2 70 g.2.2.2.2 (krTI 5) (kxT 5) (clC 155 (pX11_needSender f155 5) clN) csX11_share (cuC 19 (fun l st s => tkC 0 2 l <| tkI 1 l fun x1 => skI st fun y0 st => skE st (c19 x1 y0 s)) cuN) 1000 0 [(0, aR 2), (1, aI x1)] [] (h, 0) := fun _ => rfl
  rw [e nX11_needSender] at q
  clear e
  refine segT_wk (by decide) (by decide) hg rwX11_share (CLK_C (pX11_needSender_ok hg (by decide)) CLK_N) (by decide) (krTI_ok (by decide)) (kxT_ok (by decide)) ?_ q
  clear q
  refine ct_C ?_ (ct_N)
  · intro l st s q
    obtain ⟨m0, q1⟩ := tkC_of q
    obtain ⟨x1, m1, q2⟩ := tkI_of q1
    obtain ⟨y0, t0, rfl, q3⟩ := skI_of q2
    obtain ⟨rfl, q4⟩ := skE_of q3
    exact WK_less (k19 _ _ _ _ q4) (List.forall_mem_cons.mpr ⟨m0, (List.forall_mem_cons.mpr ⟨m1, (fun _ h => absurd h List.not_mem_nil)⟩)⟩)
def nX11_share (x1 : Int) (h : HH) : Option ((Int ⊕ Nat) × HU) := bX11_share nX11_needSender nX11_share_19 x1 h
theorem wX11_share {g : SG} (hg : GOK g) {σ0 : SG} : ∀ {x1 : Int} {h : HH} {b : ((Int ⊕ Nat) × HU)}, nX11_share x1 h = some b → WK 146 (oT (fun r => some (aI r)) b.1) σ0 (abU 2 70 g b.2) 0 [(0, aR 2), (1, aI x1)] [] (abU 2 70 g (h, 0)) (cnU (h, 0)).1 (cnU (h, 0)).2 := by
  intro x1 h b q
  exact uX11_share hg (fun _ _ _ _ q => wX11_share_19 hg q) q
theorem mX11_share {g : SG} (hg : GOK g) {h : HH} {x1 : Int} {b : ((Int ⊕ Nat) × HU)} (q : nX11_share x1 h = some b) : MCT 146 [] [aR 2, aI x1] (abU 2 70 g (h, 0)) (oT (fun r => some (aI r)) b.1) (abU 2 70 g b.2) :=
  mct_of (by decide) (MFok 146 (by decide +kernel)) (fun _ => Nat.le_of_ble_eq_true rfl) (wX11_share hg q)
def pX11_share {β : Type} (z : Int → HH → Option ((Int ⊕ Nat) × HU)) (rc : Nat) : PT β := fun as s f => skC 2 as fun as => skI as fun x1 as => skE as (liTT rc 5 (fun r => some (aI r)) s (z x1 s.1) f)
theorem pX11_share_ok {β : Type} {g : SG} (hg : GOK g) {rc rs : Nat} (hrs : 6 * rc ≤ rs) : CLK1 (β := β) 146 (pX11_share nX11_share rc) (abU 2 70 g) cnU rc rs := fun as s f b q => by
  obtain ⟨as, rfl, q1⟩ := skC_of q
  obtain ⟨x1, as, rfl, q2⟩ := skI_of q1
  obtain ⟨rfl, q0⟩ := skE_of q2
  exact liTT_ok q0 (by decide) (fun _ e => mX11_share hg e) rfl rfl hrs
def csX11_blocks : List (Nat × List (Nat × ARow)) := [(100000, [(0, 1, .aload_n 0, 0, 0, 0), (1, 3, .getfield 21, 11, 1, 2), (4, 3, .getfield 168, 2, 14, 0), (7, 3, .ifCond .le 7, 14, 0, 0), (10, 1, .iconst 1, 0, 0, 0), (11, 3, .goto 4, 15, 0, 0), (14, 1, .iconst 0, 0, 0, 0), (15, 3, .invokestatic 122, 161, 1, 0), (18, 1, .aload_n 0, 0, 0, 0), (19, 3, .getfield 83, 11, 9, 2), (22, 3, .invokevirtual 338, 81, 1, 8), (25, 3, .invokestatic 232, 162, 1, 0), (28, 1, .aload_n 0, 0, 0, 0), (29, 3, .getfield 83, 11, 9, 2), (32, 3, .invokevirtual 344, 84, 1, 8), (35, 1, .ireturn, 0, 0, 0)])]
theorem rwX11_blocks : rowsB (mB 147) (mO 147) (mX 147) (mIni 147) (mFr 147) (mLo 147) (mT 147) csX11_blocks = true := by decide +kernel
def bX11_blocks_15 (f161 : Int → HH → Option ((Unit ⊕ Nat) × HU)) (f81 : HH → Option (Int × HH)) (f162 : Int → HH → Option ((Unit ⊕ Nat) × HU)) (f84 : HH → Option Int) (y0 : Int) (s : HU) : Option ((Int ⊕ Nat) × HU) :=
  bnd (f161 y0 s.1) fun r1 => gd (s.2 + 1 ≤ 3) <| tcase r1.1 (fun _ =>
    gd ((s.2 + 1) ≤ 3) <|
    bnd (f81 r1.2.1) fun r3 =>
    bnd (f162 r3.1 r3.2) fun r4 => gd ((s.2 + 1) + 1 ≤ 3) <| tcase r4.1 (fun _ =>
    gd (((s.2 + 1) + 1) ≤ 3) <|
    bnd (f84 r4.2.1) fun r6 =>
    gd (((s.2 + 1) + 1) ≤ 3) (some (.inl r6, (r4.2.1, ((s.2 + 1) + 1))))) (fun e => gd (((s.2 + 1) + 1) + 1 ≤ 3) (some (.inr e, (r4.2.1, ((s.2 + 1) + 1)))))) (fun e => gd ((s.2 + 1) + 1 ≤ 3) (some (.inr e, (r1.2.1, (s.2 + 1)))))
theorem uX11_blocks_15 {g : SG} (hg : GOK g) {σ0 : SG} : ∀ {y0 : Int} {s : HU} {b : ((Int ⊕ Nat) × HU)}, bX11_blocks_15 nX11_needState nX8_reckon nX11_needElement nX8_blockingSets y0 s = some b → WK 147 (oT (fun r => some (aI r)) b.1) σ0 (abU 2 70 g b.2) 15 [(0, aR 2)] [aI y0] (abU 2 70 g s) (cnU s).1 (cnU s).2 := by
  intro y0 s b q
  have e : ∀ (f161 : Int → HH → Option ((Unit ⊕ Nat) × HU)) (f81 : HH → Option (Int × HH)) (f162 : Int → HH → Option ((Unit ⊕ Nat) × HU)) (f84 : HH → Option Int) , bX11_blocks_15 f161 f81 f162 f84 y0 s = segT 2 70 g.2.2.2.2 (krTI 3) (kxT 3) (clC 161 (pX11_needState f161 3) (clC 81 (guT 3 (liWT (pX8_reckon f81))) (clC 162 (pX11_needElement f162 3) (clC 84 (guT 3 (liWT (liPW (pX8_blockingSets f84)))) clN)))) csX11_blocks cuN 1000 15 [(0, aR 2)] [aI y0] s := fun _ _ _ _ => rfl
  rw [e nX11_needState nX8_reckon nX11_needElement nX8_blockingSets] at q
  clear e
  refine segT_wk (by decide) (by decide) hg rwX11_blocks (CLK_C (pX11_needState_ok hg (by decide)) (CLK_C (liWT_ck (pX8_reckon_ok hg) (by decide)) (CLK_C (pX11_needElement_ok hg (by decide)) (CLK_C (liWT_ck (liPW_ok (pX8_blockingSets_ok hg)) (by decide)) CLK_N)))) (by decide) (krTI_ok (by decide)) (kxT_ok (by decide)) ?_ q
  clear q
  exact ct_N
def nX11_blocks_15 (y0 : Int) (s : HU) : Option ((Int ⊕ Nat) × HU) := bX11_blocks_15 nX11_needState nX8_reckon nX11_needElement nX8_blockingSets y0 s
theorem wX11_blocks_15 {g : SG} (hg : GOK g) {σ0 : SG} : ∀ {y0 : Int} {s : HU} {b : ((Int ⊕ Nat) × HU)}, nX11_blocks_15 y0 s = some b → WK 147 (oT (fun r => some (aI r)) b.1) σ0 (abU 2 70 g b.2) 15 [(0, aR 2)] [aI y0] (abU 2 70 g s) (cnU s).1 (cnU s).2 := by
  intro y0 s b q
  exact uX11_blocks_15 hg q
def bX11_blocks (c15 : Int → HU → Option ((Int ⊕ Nat) × HU)) (h : HH) : Option ((Int ⊕ Nat) × HU) :=
  if (0 : Int) < (h.1 13 14) then
    c15 1 (h, 0)
  else
    c15 0 (h, 0)
theorem uX11_blocks {g : SG} (hg : GOK g) {σ0 : SG} {c15 : Int → HU → Option ((Int ⊕ Nat) × HU)} (k15 : ∀ (y0 : Int) (s : HU) (b : ((Int ⊕ Nat) × HU)), c15 y0 s = some b → WK 147 (oT (fun r => some (aI r)) b.1) σ0 (abU 2 70 g b.2) 15 [(0, aR 2)] [aI y0] (abU 2 70 g s) (cnU s).1 (cnU s).2) : ∀ {h : HH} {b : ((Int ⊕ Nat) × HU)}, bX11_blocks c15 h = some b → WK 147 (oT (fun r => some (aI r)) b.1) σ0 (abU 2 70 g b.2) 0 [(0, aR 2)] [] (abU 2 70 g (h, 0)) (cnU (h, 0)).1 (cnU (h, 0)).2 := by
  intro h b q
  have e : bX11_blocks c15 h = segT 2 70 g.2.2.2.2 (krTI 3) (kxT 3) clN csX11_blocks (cuC 15 (fun l st s => tkC 0 2 l <| skI st fun y0 st => skE st (c15 y0 s)) cuN) 1000 0 [(0, aR 2)] [] (h, 0) := rfl
  rw [e] at q
  clear e
  refine segT_wk (by decide) (by decide) hg rwX11_blocks CLK_N (by decide) (krTI_ok (by decide)) (kxT_ok (by decide)) ?_ q
  clear q
  refine ct_C ?_ (ct_N)
  · intro l st s q
    obtain ⟨m0, q1⟩ := tkC_of q
    obtain ⟨y0, t0, rfl, q2⟩ := skI_of q1
    obtain ⟨rfl, q3⟩ := skE_of q2
    exact WK_less (k15 _ _ _ q3) (List.forall_mem_cons.mpr ⟨m0, (fun _ h => absurd h List.not_mem_nil)⟩)
def nX11_blocks (h : HH) : Option ((Int ⊕ Nat) × HU) := bX11_blocks nX11_blocks_15 h
theorem wX11_blocks {g : SG} (hg : GOK g) {σ0 : SG} : ∀ {h : HH} {b : ((Int ⊕ Nat) × HU)}, nX11_blocks h = some b → WK 147 (oT (fun r => some (aI r)) b.1) σ0 (abU 2 70 g b.2) 0 [(0, aR 2)] [] (abU 2 70 g (h, 0)) (cnU (h, 0)).1 (cnU (h, 0)).2 := by
  intro h b q
  exact uX11_blocks hg (fun _ _ _ q => wX11_blocks_15 hg q) q
theorem mX11_blocks {g : SG} (hg : GOK g) {h : HH} {b : ((Int ⊕ Nat) × HU)} (q : nX11_blocks h = some b) : MCT 147 [] [aR 2] (abU 2 70 g (h, 0)) (oT (fun r => some (aI r)) b.1) (abU 2 70 g b.2) :=
  mct_of (by decide) (MFok 147 (by decide +kernel)) (fun _ => Nat.le_of_ble_eq_true rfl) (wX11_blocks hg q)
def pX11_blocks {β : Type} (z : HH → Option ((Int ⊕ Nat) × HU)) (rc : Nat) : PT β := fun as s f => skC 2 as fun as => skE as (liTT rc 3 (fun r => some (aI r)) s (z s.1) f)
theorem pX11_blocks_ok {β : Type} {g : SG} (hg : GOK g) {rc rs : Nat} (hrs : 6 * rc ≤ rs) : CLK1 (β := β) 147 (pX11_blocks nX11_blocks rc) (abU 2 70 g) cnU rc rs := fun as s f b q => by
  obtain ⟨as, rfl, q1⟩ := skC_of q
  obtain ⟨rfl, q0⟩ := skE_of q1
  exact liTT_ok q0 (by decide) (fun _ e => mX11_blocks hg e) rfl rfl hrs
def csX11_rates : List (Nat × List (Nat × ARow)) := [(100000, [(0, 1, .iload_n 1, 0, 0, 0), (1, 1, .iconst 0, 0, 0, 0), (2, 3, .sipush 9999, 0, 0, 0), (5, 3, .invokestatic 109, 159, 3, 0), (8, 1, .iload_n 2, 0, 0, 0), (9, 1, .iconst 0, 0, 0, 0), (10, 3, .sipush 9999, 0, 0, 0), (13, 3, .invokestatic 109, 159, 3, 0), (16, 1, .aload_n 0, 0, 0, 0), (17, 3, .getfield 90, 11, 10, 2), (20, 3, .getfield 347, 5, 0, 0), (23, 1, .istore_n 3, 0, 0, 0), (24, 1, .aload_n 0, 0, 0, 0), (25, 3, .getfield 90, 11, 10, 2), (28, 1, .iload_n 1, 0, 0, 0), (29, 3, .putfield 347, 5, 0, 0), (32, 1, .aload_n 0, 0, 0, 0), (33, 3, .getfield 90, 11, 10, 2), (36, 1, .iload_n 2, 0, 0, 0), (37, 3, .putfield 350, 5, 1, 0), (40, 1, .iload_n 3, 0, 0, 0), (41, 1, .ireturn, 0, 0, 0)])]
theorem rwX11_rates : rowsB (mB 148) (mO 148) (mX 148) (mIni 148) (mFr 148) (mLo 148) (mT 148) csX11_rates = true := by decide +kernel
def bX11_rates (f159 : Int → Int → Int → HH → Option ((Unit ⊕ Nat) × HU)) (x1 : Int) (x2 : Int) (h : HH) : Option ((Int ⊕ Nat) × HU) :=
  bnd (f159 x1 0 9999 h) fun r1 => gd (0 + 2 ≤ 5) <| tcase r1.1 (fun _ =>
    bnd (f159 x2 0 9999 r1.2.1) fun r3 => gd ((0 + 2) + 2 ≤ 5) <| tcase r3.1 (fun _ =>
    bnd (some (hI r3.2.1 67 0 x1, ((0 + 2) + 2))) fun h5 =>
    bnd (some (hI h5.1 67 1 x2, h5.2)) fun h6 =>
    gd (h6.2 ≤ 5) (some (.inl (r3.2.1.1 67 0), h6))) (fun e => gd (((0 + 2) + 2) + 1 ≤ 5) (some (.inr e, (r3.2.1, ((0 + 2) + 2)))))) (fun e => gd ((0 + 2) + 1 ≤ 5) (some (.inr e, (r1.2.1, (0 + 2)))))
theorem uX11_rates {g : SG} (hg : GOK g) {σ0 : SG} : ∀ {x1 : Int} {x2 : Int} {h : HH} {b : ((Int ⊕ Nat) × HU)}, bX11_rates nX11_needRange x1 x2 h = some b → WK 148 (oT (fun r => some (aI r)) b.1) σ0 (abU 2 70 g b.2) 0 [(0, aR 2), (1, aI x1), (2, aI x2)] [] (abU 2 70 g (h, 0)) (cnU (h, 0)).1 (cnU (h, 0)).2 := by
  intro x1 x2 h b q
  have e : ∀ (f159 : Int → Int → Int → HH → Option ((Unit ⊕ Nat) × HU)) , bX11_rates f159 x1 x2 h = segT 2 70 g.2.2.2.2 (krTI 5) (kxT 5) (clC 159 (pX11_needRange f159 5) clN) csX11_rates cuN 1000 0 [(0, aR 2), (1, aI x1), (2, aI x2)] [] (h, 0) := fun _ => rfl
  rw [e nX11_needRange] at q
  clear e
  refine segT_wk (by decide) (by decide) hg rwX11_rates (CLK_C (pX11_needRange_ok hg (by decide)) CLK_N) (by decide) (krTI_ok (by decide)) (kxT_ok (by decide)) ?_ q
  clear q
  exact ct_N
def nX11_rates (x1 : Int) (x2 : Int) (h : HH) : Option ((Int ⊕ Nat) × HU) := bX11_rates nX11_needRange x1 x2 h
theorem wX11_rates {g : SG} (hg : GOK g) {σ0 : SG} : ∀ {x1 : Int} {x2 : Int} {h : HH} {b : ((Int ⊕ Nat) × HU)}, nX11_rates x1 x2 h = some b → WK 148 (oT (fun r => some (aI r)) b.1) σ0 (abU 2 70 g b.2) 0 [(0, aR 2), (1, aI x1), (2, aI x2)] [] (abU 2 70 g (h, 0)) (cnU (h, 0)).1 (cnU (h, 0)).2 := by
  intro x1 x2 h b q
  exact uX11_rates hg q
theorem mX11_rates {g : SG} (hg : GOK g) {h : HH} {x1 : Int} {x2 : Int} {b : ((Int ⊕ Nat) × HU)} (q : nX11_rates x1 x2 h = some b) : MCT 148 [] [aR 2, aI x1, aI x2] (abU 2 70 g (h, 0)) (oT (fun r => some (aI r)) b.1) (abU 2 70 g b.2) :=
  mct_of (by decide) (MFok 148 (by decide +kernel)) (fun _ => Nat.le_of_ble_eq_true rfl) (wX11_rates hg q)
def pX11_rates {β : Type} (z : Int → Int → HH → Option ((Int ⊕ Nat) × HU)) (rc : Nat) : PT β := fun as s f => skC 2 as fun as => skI as fun x1 as => skI as fun x2 as => skE as (liTT rc 5 (fun r => some (aI r)) s (z x1 x2 s.1) f)
theorem pX11_rates_ok {β : Type} {g : SG} (hg : GOK g) {rc rs : Nat} (hrs : 6 * rc ≤ rs) : CLK1 (β := β) 148 (pX11_rates nX11_rates rc) (abU 2 70 g) cnU rc rs := fun as s f b q => by
  obtain ⟨as, rfl, q1⟩ := skC_of q
  obtain ⟨x1, as, rfl, q2⟩ := skI_of q1
  obtain ⟨x2, as, rfl, q3⟩ := skI_of q2
  obtain ⟨rfl, q0⟩ := skE_of q3
  exact liTT_ok q0 (by decide) (fun _ e => mX11_rates hg e) rfl rfl hrs
def csX11_pay : List (Nat × List (Nat × ARow)) := [(100000, [(0, 1, .iload_n 1, 0, 0, 0), (1, 1, .iconst 0, 0, 0, 0), (2, 3, .ldc_w 353, 9000000, 0, 0), (5, 3, .invokestatic 109, 159, 3, 0), (8, 1, .iload_n 2, 0, 0, 0), (9, 1, .iconst 0, 0, 0, 0), (10, 3, .ldc_w 354, 99999, 0, 0), (13, 3, .invokestatic 109, 159, 3, 0), (16, 1, .aload_n 0, 0, 0, 0), (17, 3, .getfield 90, 11, 10, 2), (20, 3, .getfield 355, 5, 4, 0), (23, 2, .bipush 50, 0, 0, 0), (25, 3, .if_icmp .ge 7, 32, 0, 0), (28, 1, .iconst 1, 0, 0, 0), (29, 3, .goto 4, 33, 0, 0), (32, 1, .iconst 0, 0, 0, 0), (33, 3, .invokestatic 122, 161, 1, 0), (36, 1, .aload_n 0, 0, 0, 0), (37, 3, .getfield 90, 11, 10, 2), (40, 1, .iload_n 1, 0, 0, 0), (41, 1, .iload_n 2, 0, 0, 0), (42, 3, .invokevirtual 356, 44, 3, 5), (45, 1, .lreturn, 0, 0, 0)])]
theorem rwX11_pay : rowsB (mB 149) (mO 149) (mX 149) (mIni 149) (mFr 149) (mLo 149) (mT 149) csX11_pay = true := by decide +kernel
def bX11_pay_33 (f161 : Int → HH → Option ((Unit ⊕ Nat) × HU)) (f44 : Int → Int → HH → Option (Int × HH)) (x1 : Int) (x2 : Int) (y0 : Int) (s : HU) : Option ((Int ⊕ Nat) × HU) :=
  bnd (f161 y0 s.1) fun r1 => gd (s.2 + 1 ≤ 6) <| tcase r1.1 (fun _ =>
    gd ((s.2 + 1) ≤ 6) <|
    bnd (f44 x1 x2 r1.2.1) fun r3 =>
    gd ((s.2 + 1) ≤ 6) (some (.inl r3.1, (r3.2, (s.2 + 1))))) (fun e => gd ((s.2 + 1) + 1 ≤ 6) (some (.inr e, (r1.2.1, (s.2 + 1)))))
theorem uX11_pay_33 {g : SG} (hg : GOK g) {σ0 : SG} : ∀ {x1 : Int} {x2 : Int} {y0 : Int} {s : HU} {b : ((Int ⊕ Nat) × HU)}, bX11_pay_33 nX11_needState nX5_enter x1 x2 y0 s = some b → WK 149 (oT (fun r => some (aJ r)) b.1) σ0 (abU 2 70 g b.2) 33 [(0, aR 2), (1, aI x1), (2, aI x2)] [aI y0] (abU 2 70 g s) (cnU s).1 (cnU s).2 := by
  intro x1 x2 y0 s b q
  have e : ∀ (f161 : Int → HH → Option ((Unit ⊕ Nat) × HU)) (f44 : Int → Int → HH → Option (Int × HH)) , bX11_pay_33 f161 f44 x1 x2 y0 s = segT 2 70 g.2.2.2.2 (krTJ 6) (kxT 6) (clC 161 (pX11_needState f161 6) (clC 44 (guT 6 (liWT (pX5_enter f44))) clN)) csX11_pay cuN 1000 33 [(0, aR 2), (1, aI x1), (2, aI x2)] [aI y0] s := fun _ _ => rfl
  rw [e nX11_needState nX5_enter] at q
  clear e
  refine segT_wk (by decide) (by decide) hg rwX11_pay (CLK_C (pX11_needState_ok hg (by decide)) (CLK_C (liWT_ck (pX5_enter_ok hg) (by decide)) CLK_N)) (by decide) (krTJ_ok (by decide)) (kxT_ok (by decide)) ?_ q
  clear q
  exact ct_N
def nX11_pay_33 (x1 : Int) (x2 : Int) (y0 : Int) (s : HU) : Option ((Int ⊕ Nat) × HU) := bX11_pay_33 nX11_needState nX5_enter x1 x2 y0 s
theorem wX11_pay_33 {g : SG} (hg : GOK g) {σ0 : SG} : ∀ {x1 : Int} {x2 : Int} {y0 : Int} {s : HU} {b : ((Int ⊕ Nat) × HU)}, nX11_pay_33 x1 x2 y0 s = some b → WK 149 (oT (fun r => some (aJ r)) b.1) σ0 (abU 2 70 g b.2) 33 [(0, aR 2), (1, aI x1), (2, aI x2)] [aI y0] (abU 2 70 g s) (cnU s).1 (cnU s).2 := by
  intro x1 x2 y0 s b q
  exact uX11_pay_33 hg q
def bX11_pay (f159 : Int → Int → Int → HH → Option ((Unit ⊕ Nat) × HU)) (c33 : Int → Int → Int → HU → Option ((Int ⊕ Nat) × HU)) (x1 : Int) (x2 : Int) (h : HH) : Option ((Int ⊕ Nat) × HU) :=
  bnd (f159 x1 0 9000000 h) fun r1 => gd (0 + 2 ≤ 6) <| tcase r1.1 (fun _ =>
    bnd (f159 x2 0 99999 r1.2.1) fun r3 => gd ((0 + 2) + 2 ≤ 6) <| tcase r3.1 (fun _ =>
    if (r3.2.1.1 67 4) < (50 : Int) then
    c33 x1 x2 1 (r3.2.1, ((0 + 2) + 2))
  else
    c33 x1 x2 0 (r3.2.1, ((0 + 2) + 2))) (fun e => gd (((0 + 2) + 2) + 1 ≤ 6) (some (.inr e, (r3.2.1, ((0 + 2) + 2)))))) (fun e => gd ((0 + 2) + 1 ≤ 6) (some (.inr e, (r1.2.1, (0 + 2)))))
theorem uX11_pay {g : SG} (hg : GOK g) {σ0 : SG} {c33 : Int → Int → Int → HU → Option ((Int ⊕ Nat) × HU)} (k33 : ∀ (x1 : Int) (x2 : Int) (y0 : Int) (s : HU) (b : ((Int ⊕ Nat) × HU)), c33 x1 x2 y0 s = some b → WK 149 (oT (fun r => some (aJ r)) b.1) σ0 (abU 2 70 g b.2) 33 [(0, aR 2), (1, aI x1), (2, aI x2)] [aI y0] (abU 2 70 g s) (cnU s).1 (cnU s).2) : ∀ {x1 : Int} {x2 : Int} {h : HH} {b : ((Int ⊕ Nat) × HU)}, bX11_pay nX11_needRange c33 x1 x2 h = some b → WK 149 (oT (fun r => some (aJ r)) b.1) σ0 (abU 2 70 g b.2) 0 [(0, aR 2), (1, aI x1), (2, aI x2)] [] (abU 2 70 g (h, 0)) (cnU (h, 0)).1 (cnU (h, 0)).2 := by
  intro x1 x2 h b q
  have e : ∀ (f159 : Int → Int → Int → HH → Option ((Unit ⊕ Nat) × HU)) , bX11_pay f159 c33 x1 x2 h = segT 2 70 g.2.2.2.2 (krTJ 6) (kxT 6) (clC 159 (pX11_needRange f159 6) clN) csX11_pay (cuC 33 (fun l st s => tkC 0 2 l <| tkI 1 l fun x1 => tkI 2 l fun x2 => skI st fun y0 st => skE st (c33 x1 x2 y0 s)) cuN) 1000 0 [(0, aR 2), (1, aI x1), (2, aI x2)] [] (h, 0) := fun _ => rfl
  rw [e nX11_needRange] at q
  clear e
  refine segT_wk (by decide) (by decide) hg rwX11_pay (CLK_C (pX11_needRange_ok hg (by decide)) CLK_N) (by decide) (krTJ_ok (by decide)) (kxT_ok (by decide)) ?_ q
  clear q
  refine ct_C ?_ (ct_N)
  · intro l st s q
    obtain ⟨m0, q1⟩ := tkC_of q
    obtain ⟨x1, m1, q2⟩ := tkI_of q1
    obtain ⟨x2, m2, q3⟩ := tkI_of q2
    obtain ⟨y0, t0, rfl, q4⟩ := skI_of q3
    obtain ⟨rfl, q5⟩ := skE_of q4
    exact WK_less (k33 _ _ _ _ _ q5) (List.forall_mem_cons.mpr ⟨m0, (List.forall_mem_cons.mpr ⟨m1, (List.forall_mem_cons.mpr ⟨m2, (fun _ h => absurd h List.not_mem_nil)⟩)⟩)⟩)
def nX11_pay (x1 : Int) (x2 : Int) (h : HH) : Option ((Int ⊕ Nat) × HU) := bX11_pay nX11_needRange nX11_pay_33 x1 x2 h
theorem wX11_pay {g : SG} (hg : GOK g) {σ0 : SG} : ∀ {x1 : Int} {x2 : Int} {h : HH} {b : ((Int ⊕ Nat) × HU)}, nX11_pay x1 x2 h = some b → WK 149 (oT (fun r => some (aJ r)) b.1) σ0 (abU 2 70 g b.2) 0 [(0, aR 2), (1, aI x1), (2, aI x2)] [] (abU 2 70 g (h, 0)) (cnU (h, 0)).1 (cnU (h, 0)).2 := by
  intro x1 x2 h b q
  exact uX11_pay hg (fun _ _ _ _ _ q => wX11_pay_33 hg q) q
theorem mX11_pay {g : SG} (hg : GOK g) {h : HH} {x1 : Int} {x2 : Int} {b : ((Int ⊕ Nat) × HU)} (q : nX11_pay x1 x2 h = some b) : MCT 149 [] [aR 2, aI x1, aI x2] (abU 2 70 g (h, 0)) (oT (fun r => some (aJ r)) b.1) (abU 2 70 g b.2) :=
  mct_of (by decide) (MFok 149 (by decide +kernel)) (fun _ => Nat.le_of_ble_eq_true rfl) (wX11_pay hg q)
def pX11_pay {β : Type} (z : Int → Int → HH → Option ((Int ⊕ Nat) × HU)) (rc : Nat) : PT β := fun as s f => skC 2 as fun as => skI as fun x1 as => skI as fun x2 as => skE as (liTT rc 6 (fun r => some (aJ r)) s (z x1 x2 s.1) f)
theorem pX11_pay_ok {β : Type} {g : SG} (hg : GOK g) {rc rs : Nat} (hrs : 6 * rc ≤ rs) : CLK1 (β := β) 149 (pX11_pay nX11_pay rc) (abU 2 70 g) cnU rc rs := fun as s f b q => by
  obtain ⟨as, rfl, q1⟩ := skC_of q
  obtain ⟨x1, as, rfl, q2⟩ := skI_of q1
  obtain ⟨x2, as, rfl, q3⟩ := skI_of q2
  obtain ⟨rfl, q0⟩ := skE_of q3
  exact liTT_ok q0 (by decide) (fun _ e => mX11_pay hg e) rfl rfl hrs
def csX11_books : List (Nat × List (Nat × ARow)) := [(100000, [(0, 1, .iload_n 1, 0, 0, 0), (1, 1, .iconst (-1), 0, 0, 0), (2, 3, .if_icmp .ne 11, 13, 0, 0), (5, 1, .aload_n 0, 0, 0, 0), (6, 3, .getfield 90, 11, 10, 2), (9, 3, .getfield 360, 5, 5, 1), (12, 1, .lreturn, 0, 0, 0), (13, 1, .iload_n 1, 0, 0, 0), (14, 3, .ifCond .lt 18, 32, 0, 0), (17, 1, .iload_n 1, 0, 0, 0), (18, 1, .aload_n 0, 0, 0, 0), (19, 3, .getfield 90, 11, 10, 2), (22, 3, .getfield 355, 5, 4, 0), (25, 3, .if_icmp .ge 7, 32, 0, 0), (28, 1, .iconst 1, 0, 0, 0), (29, 3, .goto 4, 33, 0, 0), (32, 1, .iconst 0, 0, 0, 0), (33, 3, .invokestatic 232, 162, 1, 0), (36, 1, .aload_n 0, 0, 0, 0), (37, 3, .getfield 90, 11, 10, 2), (40, 3, .getfield 364, 5, 3, 2), (43, 1, .iload_n 1, 0, 0, 0), (44, 1, .laload, 0, 0, 0), (45, 1, .lreturn, 0, 0, 0)])]
theorem rwX11_books : rowsB (mB 150) (mO 150) (mX 150) (mIni 150) (mFr 150) (mLo 150) (mT 150) csX11_books = true := by decide +kernel
def bX11_books_33 (f162 : Int → HH → Option ((Unit ⊕ Nat) × HU)) (x1 : Int) (y0 : Int) (s : HU) : Option ((Int ⊕ Nat) × HU) :=
  bnd (f162 y0 s.1) fun r1 => gd (s.2 + 1 ≤ 2) <| tcase r1.1 (fun _ =>
    gd ((0 : Int) ≤ x1 ∧ x1 < (50 : Int)) <|
    gd ((s.2 + 1) ≤ 2) (some (.inl (r1.2.1.2 68 x1), (r1.2.1, (s.2 + 1))))) (fun e => gd ((s.2 + 1) + 1 ≤ 2) (some (.inr e, (r1.2.1, (s.2 + 1)))))
theorem uX11_books_33 {g : SG} (hg : GOK g) {σ0 : SG} : ∀ {x1 : Int} {y0 : Int} {s : HU} {b : ((Int ⊕ Nat) × HU)}, bX11_books_33 nX11_needElement x1 y0 s = some b → WK 150 (oT (fun r => some (aJ r)) b.1) σ0 (abU 2 70 g b.2) 33 [(0, aR 2), (1, aI x1)] [aI y0] (abU 2 70 g s) (cnU s).1 (cnU s).2 := by
  intro x1 y0 s b q
  have e : ∀ (f162 : Int → HH → Option ((Unit ⊕ Nat) × HU)) , bX11_books_33 f162 x1 y0 s = segT 2 70 g.2.2.2.2 (krTJ 2) (kxT 2) (clC 162 (pX11_needElement f162 2) clN) csX11_books cuN 1000 33 [(0, aR 2), (1, aI x1)] [aI y0] s := fun _ => rfl
  rw [e nX11_needElement] at q
  clear e
  refine segT_wk (by decide) (by decide) hg rwX11_books (CLK_C (pX11_needElement_ok hg (by decide)) CLK_N) (by decide) (krTJ_ok (by decide)) (kxT_ok (by decide)) ?_ q
  clear q
  exact ct_N
def nX11_books_33 (x1 : Int) (y0 : Int) (s : HU) : Option ((Int ⊕ Nat) × HU) := bX11_books_33 nX11_needElement x1 y0 s
theorem wX11_books_33 {g : SG} (hg : GOK g) {σ0 : SG} : ∀ {x1 : Int} {y0 : Int} {s : HU} {b : ((Int ⊕ Nat) × HU)}, nX11_books_33 x1 y0 s = some b → WK 150 (oT (fun r => some (aJ r)) b.1) σ0 (abU 2 70 g b.2) 33 [(0, aR 2), (1, aI x1)] [aI y0] (abU 2 70 g s) (cnU s).1 (cnU s).2 := by
  intro x1 y0 s b q
  exact uX11_books_33 hg q
def bX11_books_32 (c33 : Int → Int → HU → Option ((Int ⊕ Nat) × HU)) (x1 : Int) (s : HU) : Option ((Int ⊕ Nat) × HU) :=
  c33 x1 0 s
theorem uX11_books_32 {g : SG} (hg : GOK g) {σ0 : SG} {c33 : Int → Int → HU → Option ((Int ⊕ Nat) × HU)} (k33 : ∀ (x1 : Int) (y0 : Int) (s : HU) (b : ((Int ⊕ Nat) × HU)), c33 x1 y0 s = some b → WK 150 (oT (fun r => some (aJ r)) b.1) σ0 (abU 2 70 g b.2) 33 [(0, aR 2), (1, aI x1)] [aI y0] (abU 2 70 g s) (cnU s).1 (cnU s).2) : ∀ {x1 : Int} {s : HU} {b : ((Int ⊕ Nat) × HU)}, bX11_books_32 c33 x1 s = some b → WK 150 (oT (fun r => some (aJ r)) b.1) σ0 (abU 2 70 g b.2) 32 [(0, aR 2), (1, aI x1)] [] (abU 2 70 g s) (cnU s).1 (cnU s).2 := by
  intro x1 s b q
  have e : bX11_books_32 c33 x1 s = segT 2 70 g.2.2.2.2 (krTJ 2) (kxT 2) clN csX11_books (cuC 33 (fun l st s => tkC 0 2 l <| tkI 1 l fun x1 => skI st fun y0 st => skE st (c33 x1 y0 s)) cuN) 1000 32 [(0, aR 2), (1, aI x1)] [] s := rfl
  rw [e] at q
  clear e
  refine segT_wk (by decide) (by decide) hg rwX11_books CLK_N (by decide) (krTJ_ok (by decide)) (kxT_ok (by decide)) ?_ q
  clear q
  refine ct_C ?_ (ct_N)
  · intro l st s q
    obtain ⟨m0, q1⟩ := tkC_of q
    obtain ⟨x1, m1, q2⟩ := tkI_of q1
    obtain ⟨y0, t0, rfl, q3⟩ := skI_of q2
    obtain ⟨rfl, q4⟩ := skE_of q3
    exact WK_less (k33 _ _ _ _ q4) (List.forall_mem_cons.mpr ⟨m0, (List.forall_mem_cons.mpr ⟨m1, (fun _ h => absurd h List.not_mem_nil)⟩)⟩)
def nX11_books_32 (x1 : Int) (s : HU) : Option ((Int ⊕ Nat) × HU) := bX11_books_32 nX11_books_33 x1 s
theorem wX11_books_32 {g : SG} (hg : GOK g) {σ0 : SG} : ∀ {x1 : Int} {s : HU} {b : ((Int ⊕ Nat) × HU)}, nX11_books_32 x1 s = some b → WK 150 (oT (fun r => some (aJ r)) b.1) σ0 (abU 2 70 g b.2) 32 [(0, aR 2), (1, aI x1)] [] (abU 2 70 g s) (cnU s).1 (cnU s).2 := by
  intro x1 s b q
  exact uX11_books_32 hg (fun _ _ _ _ q => wX11_books_33 hg q) q
def bX11_books (c32 : Int → HU → Option ((Int ⊕ Nat) × HU)) (c33 : Int → Int → HU → Option ((Int ⊕ Nat) × HU)) (x1 : Int) (h : HH) : Option ((Int ⊕ Nat) × HU) :=
  if x1 = ((-1) : Int) then
    gd (0 ≤ 2) (some (.inl (h.2 67 5), (h, 0)))
  else
    if x1 < (0 : Int) then
    c32 x1 (h, 0)
  else
    if x1 < ((h.1 67 4) : Int) then
    c33 x1 1 (h, 0)
  else
    c32 x1 (h, 0)
theorem uX11_books {g : SG} (hg : GOK g) {σ0 : SG} {c32 : Int → HU → Option ((Int ⊕ Nat) × HU)} {c33 : Int → Int → HU → Option ((Int ⊕ Nat) × HU)} (k32 : ∀ (x1 : Int) (s : HU) (b : ((Int ⊕ Nat) × HU)), c32 x1 s = some b → WK 150 (oT (fun r => some (aJ r)) b.1) σ0 (abU 2 70 g b.2) 32 [(0, aR 2), (1, aI x1)] [] (abU 2 70 g s) (cnU s).1 (cnU s).2) (k33 : ∀ (x1 : Int) (y0 : Int) (s : HU) (b : ((Int ⊕ Nat) × HU)), c33 x1 y0 s = some b → WK 150 (oT (fun r => some (aJ r)) b.1) σ0 (abU 2 70 g b.2) 33 [(0, aR 2), (1, aI x1)] [aI y0] (abU 2 70 g s) (cnU s).1 (cnU s).2) : ∀ {x1 : Int} {h : HH} {b : ((Int ⊕ Nat) × HU)}, bX11_books c32 c33 x1 h = some b → WK 150 (oT (fun r => some (aJ r)) b.1) σ0 (abU 2 70 g b.2) 0 [(0, aR 2), (1, aI x1)] [] (abU 2 70 g (h, 0)) (cnU (h, 0)).1 (cnU (h, 0)).2 := by
  intro x1 h b q
  have e : bX11_books c32 c33 x1 h = segT 2 70 g.2.2.2.2 (krTJ 2) (kxT 2) clN csX11_books (cuC 32 (fun l st s => tkC 0 2 l <| tkI 1 l fun x1 => skE st (c32 x1 s)) (cuC 33 (fun l st s => tkC 0 2 l <| tkI 1 l fun x1 => skI st fun y0 st => skE st (c33 x1 y0 s)) cuN)) 1000 0 [(0, aR 2), (1, aI x1)] [] (h, 0) := rfl
  rw [e] at q
  clear e
  refine segT_wk (by decide) (by decide) hg rwX11_books CLK_N (by decide) (krTJ_ok (by decide)) (kxT_ok (by decide)) ?_ q
  clear q
  refine ct_C ?_ (ct_C ?_ (ct_N))
  · intro l st s q
    obtain ⟨m0, q1⟩ := tkC_of q
    obtain ⟨x1, m1, q2⟩ := tkI_of q1
    obtain ⟨rfl, q3⟩ := skE_of q2
    exact WK_less (k32 _ _ _ q3) (List.forall_mem_cons.mpr ⟨m0, (List.forall_mem_cons.mpr ⟨m1, (fun _ h => absurd h List.not_mem_nil)⟩)⟩)
  · intro l st s q
    obtain ⟨m0, q1⟩ := tkC_of q
    obtain ⟨x1, m1, q2⟩ := tkI_of q1
    obtain ⟨y0, t0, rfl, q3⟩ := skI_of q2
    obtain ⟨rfl, q4⟩ := skE_of q3
    exact WK_less (k33 _ _ _ _ q4) (List.forall_mem_cons.mpr ⟨m0, (List.forall_mem_cons.mpr ⟨m1, (fun _ h => absurd h List.not_mem_nil)⟩)⟩)
def nX11_books (x1 : Int) (h : HH) : Option ((Int ⊕ Nat) × HU) := bX11_books nX11_books_32 nX11_books_33 x1 h
theorem wX11_books {g : SG} (hg : GOK g) {σ0 : SG} : ∀ {x1 : Int} {h : HH} {b : ((Int ⊕ Nat) × HU)}, nX11_books x1 h = some b → WK 150 (oT (fun r => some (aJ r)) b.1) σ0 (abU 2 70 g b.2) 0 [(0, aR 2), (1, aI x1)] [] (abU 2 70 g (h, 0)) (cnU (h, 0)).1 (cnU (h, 0)).2 := by
  intro x1 h b q
  exact uX11_books hg (fun _ _ _ q => wX11_books_32 hg q) (fun _ _ _ _ q => wX11_books_33 hg q) q
theorem mX11_books {g : SG} (hg : GOK g) {h : HH} {x1 : Int} {b : ((Int ⊕ Nat) × HU)} (q : nX11_books x1 h = some b) : MCT 150 [] [aR 2, aI x1] (abU 2 70 g (h, 0)) (oT (fun r => some (aJ r)) b.1) (abU 2 70 g b.2) :=
  mct_of (by decide) (MFok 150 (by decide +kernel)) (fun _ => Nat.le_of_ble_eq_true rfl) (wX11_books hg q)
def pX11_books {β : Type} (z : Int → HH → Option ((Int ⊕ Nat) × HU)) (rc : Nat) : PT β := fun as s f => skC 2 as fun as => skI as fun x1 as => skE as (liTT rc 2 (fun r => some (aJ r)) s (z x1 s.1) f)
theorem pX11_books_ok {β : Type} {g : SG} (hg : GOK g) {rc rs : Nat} (hrs : 6 * rc ≤ rs) : CLK1 (β := β) 150 (pX11_books nX11_books rc) (abU 2 70 g) cnU rc rs := fun as s f b q => by
  obtain ⟨as, rfl, q1⟩ := skC_of q
  obtain ⟨x1, as, rfl, q2⟩ := skI_of q1
  obtain ⟨rfl, q0⟩ := skE_of q2
  exact liTT_ok q0 (by decide) (fun _ e => mX11_books hg e) rfl rfl hrs
def csX11_meanPay : List (Nat × List (Nat × ARow)) := [(100000, [(0, 1, .aload_n 0, 0, 0, 0), (1, 3, .getfield 90, 11, 10, 2), (4, 3, .getfield 355, 5, 4, 0), (7, 3, .ifCond .ne 7, 14, 0, 0), (10, 1, .dconst 0, 0, 0, 0), (11, 3, .goto 20, 31, 0, 0), (14, 1, .aload_n 0, 0, 0, 0), (15, 3, .getfield 90, 11, 10, 2), (18, 3, .getfield 360, 5, 5, 1), (21, 1, .l2d, 0, 0, 0), (22, 1, .aload_n 0, 0, 0, 0), (23, 3, .getfield 90, 11, 10, 2), (26, 3, .getfield 355, 5, 4, 0), (29, 1, .i2d, 0, 0, 0), (30, 1, .ddiv, 0, 0, 0), (31, 1, .dreturn, 0, 0, 0)])]
theorem rwX11_meanPay : rowsB (mB 151) (mO 151) (mX 151) (mIni 151) (mFr 151) (mLo 151) (mT 151) csX11_meanPay = true := by decide +kernel
def bX11_meanPay (h : HH) : Option UInt64 :=
  if (h.1 67 4) = (0 : Int) then
    some (0 : UInt64)
  else
    gd (n64 (FP.ddiv (FP.l2d (Int64.ofInt (h.2 67 5))) (FP.i2d (Int32.ofInt (h.1 67 4))))) <|
    some (FP.ddiv (FP.l2d (Int64.ofInt (h.2 67 5))) (FP.i2d (Int32.ofInt (h.1 67 4))))
theorem uX11_meanPay {g : SG} (hg : GOK g) {σ0 : SG} {h : HH} : ∀ {b : UInt64}, bX11_meanPay h = some b → WK 151 (.inl (some (aD b))) σ0 (abH 2 70 g h) 0 [(0, aR 2)] [] (abH 2 70 g h) 0 0 := by
  intro  b q
  have e : bX11_meanPay h = segP 2 70 g.2.2.2.2 h krPD clNP csX11_meanPay cuN 1000 0 [(0, aR 2)] [] := rfl
  rw [e] at q
  clear e
  refine segP_wk (by decide) (by decide) hg rwX11_meanPay CLKP_N krPD_ok ?_ q
  clear q
  exact ct_N
def nX11_meanPay (h : HH) : Option UInt64 := bX11_meanPay h
theorem wX11_meanPay {g : SG} (hg : GOK g) {σ0 : SG} {h : HH} : ∀ {b : UInt64}, nX11_meanPay h = some b → WK 151 (.inl (some (aD b))) σ0 (abH 2 70 g h) 0 [(0, aR 2)] [] (abH 2 70 g h) 0 0 := by
  intro  b q
  exact uX11_meanPay hg q
theorem mX11_meanPay {g : SG} (hg : GOK g) {h : HH} {b : UInt64} (q : nX11_meanPay h = some b) : MCT 151 [] [aR 2] (abH 2 70 g h) (.inl (some (aD b))) (abH 2 70 g h) :=
  mct_of (by decide) (MFok 151 (by decide +kernel)) (fun _ => Nat.le_of_ble_eq_true rfl) (wX11_meanPay hg q)
def pX11_meanPay {β : Type} (z : HH → Option UInt64) : PP β := fun h as f => skC 2 as fun as => skE as (bnd (z h) fun r => f (.inl (some (aD r))))
theorem pX11_meanPay_ok {β : Type} {g : SG} (hg : GOK g) : CP1 (β := β) 151 (pX11_meanPay nX11_meanPay) 2 70 g := fun h as f b q => by
  obtain ⟨as, rfl, q1⟩ := skC_of q
  obtain ⟨rfl, q0⟩ := skE_of q1
  obtain ⟨r, z1, z2⟩ := bnd_of q0
  exact ⟨_, z2, by decide, mX11_meanPay hg z1, rfl, rfl, fun z => absurd z (by decide)⟩
def csX11_filled : List (Nat × List (Nat × ARow)) := [(100000, [(0, 1, .aload_n 0, 0, 0, 0), (1, 1, .iload_n 1, 0, 0, 0), (2, 3, .invokevirtual 174, 157, 2, 11), (5, 1, .aload_n 0, 0, 0, 0), (6, 3, .getfield 30, 11, 2, 2), (9, 1, .iload_n 1, 0, 0, 0), (10, 3, .invokevirtual 261, 60, 2, 6), (13, 1, .i2f, 0, 0, 0), (14, 1, .aload_n 0, 0, 0, 0), (15, 3, .getfield 21, 11, 1, 2), (18, 3, .getfield 368, 2, 11, 2), (21, 1, .iload_n 1, 0, 0, 0), (22, 1, .iaload, 0, 0, 0), (23, 1, .i2f, 0, 0, 0), (24, 1, .fdiv, 0, 0, 0), (25, 1, .freturn, 0, 0, 0)])]
theorem rwX11_filled : rowsB (mB 152) (mO 152) (mX 152) (mIni 152) (mFr 152) (mLo 152) (mT 152) csX11_filled = true := by decide +kernel
def bX11_filled (f157 : Int → HH → Option ((Unit ⊕ Nat) × HU)) (f60 : HH → Int → Option Int) (x1 : Int) (h : HH) : Option ((UInt32 ⊕ Nat) × HU) :=
  bnd (f157 x1 h) fun r1 => gd (0 + 2 ≤ 3) <| tcase r1.1 (fun _ =>
    gd ((0 + 2) ≤ 3) <|
    bnd (f60 r1.2.1 x1) fun r3 =>
    gd ((0 : Int) ≤ x1 ∧ x1 < (3 : Int)) <|
    gd (n32 (FP.fdiv (FP.i2f (Int32.ofInt r3)) (FP.i2f (Int32.ofInt (r1.2.1.1 23 x1))))) <|
    gd ((0 + 2) ≤ 3) (some (.inl (FP.fdiv (FP.i2f (Int32.ofInt r3)) (FP.i2f (Int32.ofInt (r1.2.1.1 23 x1)))), (r1.2.1, (0 + 2))))) (fun e => gd ((0 + 2) + 1 ≤ 3) (some (.inr e, (r1.2.1, (0 + 2)))))
theorem uX11_filled {g : SG} (hg : GOK g) {σ0 : SG} : ∀ {x1 : Int} {h : HH} {b : ((UInt32 ⊕ Nat) × HU)}, bX11_filled nX11_needVan nX6_sumOfSizes x1 h = some b → WK 152 (oT (fun r => some (aF r)) b.1) σ0 (abU 2 70 g b.2) 0 [(0, aR 2), (1, aI x1)] [] (abU 2 70 g (h, 0)) (cnU (h, 0)).1 (cnU (h, 0)).2 := by
  intro x1 h b q
  have e : ∀ (f157 : Int → HH → Option ((Unit ⊕ Nat) × HU)) (f60 : HH → Int → Option Int) , bX11_filled f157 f60 x1 h = segT 2 70 g.2.2.2.2 (krTF 3) (kxT 3) (clC 157 (pX11_needVan f157 3) (clC 60 (guT 3 (liWT (liPW (pX6_sumOfSizes f60)))) clN)) csX11_filled cuN 1000 0 [(0, aR 2), (1, aI x1)] [] (h, 0) := fun _ _ => rfl
  rw [e nX11_needVan nX6_sumOfSizes] at q
  clear e
  refine segT_wk (by decide) (by decide) hg rwX11_filled (CLK_C (pX11_needVan_ok hg (by decide)) (CLK_C (liWT_ck (liPW_ok (pX6_sumOfSizes_ok hg)) (by decide)) CLK_N)) (by decide) (krTF_ok (by decide)) (kxT_ok (by decide)) ?_ q
  clear q
  exact ct_N
def nX11_filled (x1 : Int) (h : HH) : Option ((UInt32 ⊕ Nat) × HU) := bX11_filled nX11_needVan nX6_sumOfSizes x1 h
theorem wX11_filled {g : SG} (hg : GOK g) {σ0 : SG} : ∀ {x1 : Int} {h : HH} {b : ((UInt32 ⊕ Nat) × HU)}, nX11_filled x1 h = some b → WK 152 (oT (fun r => some (aF r)) b.1) σ0 (abU 2 70 g b.2) 0 [(0, aR 2), (1, aI x1)] [] (abU 2 70 g (h, 0)) (cnU (h, 0)).1 (cnU (h, 0)).2 := by
  intro x1 h b q
  exact uX11_filled hg q
theorem mX11_filled {g : SG} (hg : GOK g) {h : HH} {x1 : Int} {b : ((UInt32 ⊕ Nat) × HU)} (q : nX11_filled x1 h = some b) : MCT 152 [] [aR 2, aI x1] (abU 2 70 g (h, 0)) (oT (fun r => some (aF r)) b.1) (abU 2 70 g b.2) :=
  mct_of (by decide) (MFok 152 (by decide +kernel)) (fun _ => Nat.le_of_ble_eq_true rfl) (wX11_filled hg q)
def pX11_filled {β : Type} (z : Int → HH → Option ((UInt32 ⊕ Nat) × HU)) (rc : Nat) : PT β := fun as s f => skC 2 as fun as => skI as fun x1 as => skE as (liTT rc 3 (fun r => some (aF r)) s (z x1 s.1) f)
theorem pX11_filled_ok {β : Type} {g : SG} (hg : GOK g) {rc rs : Nat} (hrs : 6 * rc ≤ rs) : CLK1 (β := β) 152 (pX11_filled nX11_filled rc) (abU 2 70 g) cnU rc rs := fun as s f b q => by
  obtain ⟨as, rfl, q1⟩ := skC_of q
  obtain ⟨x1, as, rfl, q2⟩ := skI_of q1
  obtain ⟨rfl, q0⟩ := skE_of q2
  exact liTT_ok q0 (by decide) (fun _ e => mX11_filled hg e) rfl rfl hrs
def csX11_wrongInRound : List (Nat × List (Nat × ARow)) := [(44, [(0, 1, .aload_n 0, 0, 0, 0), (1, 3, .getfield 30, 11, 2, 2), (4, 1, .iload_n 1, 0, 0, 0), (5, 3, .invokevirtual 241, 57, 2, 6), (8, 1, .istore_n 2, 0, 0, 0), (9, 1, .iload_n 2, 0, 0, 0), (10, 1, .iconst (-1), 0, 0, 0), (11, 3, .if_icmp .ne 5, 16, 0, 0), (14, 1, .iconst 1, 0, 0, 0), (15, 1, .ireturn, 0, 0, 0), (16, 1, .aload_n 0, 0, 0, 0), (17, 1, .iload_n 1, 0, 0, 0), (18, 3, .invokevirtual 248, 164, 2, 11), (21, 1, .aload_n 0, 0, 0, 0), (22, 3, .getfield 53, 11, 5, 2), (25, 1, .iload_n 1, 0, 0, 0), (26, 3, .invokevirtual 417, 14, 2, 1), (29, 1, .aload_n 0, 0, 0, 0), (30, 3, .getfield 53, 11, 5, 2), (33, 1, .iload_n 1, 0, 0, 0), (34, 1, .aload_n 0, 0, 0, 0), (35, 3, .getfield 53, 11, 5, 2), (38, 3, .invokevirtual 420, 13, 1, 1), (41, 3, .invokevirtual 423, 17, 3, 1)]),
  (100000, [(44, 1, .istore_n 3, 0, 0, 0), (45, 1, .iload_n 2, 0, 0, 0), (46, 1, .aload_n 0, 0, 0, 0), (47, 1, .iload_n 1, 0, 0, 0), (48, 2, .bipush 8, 0, 0, 0), (50, 3, .invokevirtual 264, 165, 3, 11), (53, 3, .if_icmp .ge 7, 60, 0, 0), (56, 1, .iconst 1, 0, 0, 0), (57, 3, .goto 4, 61, 0, 0), (60, 1, .iconst 0, 0, 0, 0), (61, 2, .istore 4, 0, 0, 0), (63, 1, .iload_n 3, 0, 0, 0), (64, 1, .iconst (-1), 0, 0, 0), (65, 3, .if_icmp .eq 8, 73, 0, 0), (68, 1, .iload_n 2, 0, 0, 0), (69, 1, .iload_n 3, 0, 0, 0), (70, 3, .if_icmp .ge 10, 80, 0, 0), (73, 2, .iload 4, 0, 0, 0), (75, 1, .iconst 1, 0, 0, 0), (76, 1, .iadd, 0, 0, 0), (77, 3, .goto 5, 82, 0, 0), (80, 2, .iload 4, 0, 0, 0), (82, 1, .ireturn, 0, 0, 0)])]
theorem rwX11_wrongInRound : rowsB (mB 167) (mO 167) (mX 167) (mIni 167) (mFr 167) (mLo 167) (mT 167) csX11_wrongInRound = true := by decide +kernel
def bX11_wrongInRound_61 (x2 : Int) (x3 : Int) (y0 : Int) (h : HH) : Option (Int × HH) :=
  if x3 = ((-1) : Int) then
    gd (R32 (y0 + 1)) <|
    some ((y0 + 1), h)
  else
    if x2 < (x3 : Int) then
    gd (R32 (y0 + 1)) <|
    some ((y0 + 1), h)
  else
    some (y0, h)
theorem uX11_wrongInRound_61 {g : SG} (hg : GOK g) {σ0 : SG} : ∀ {x2 : Int} {x3 : Int} {y0 : Int} {h : HH} {b : (Int × HH)}, bX11_wrongInRound_61 x2 x3 y0 h = some b → WK 167 (.inl (some (aI b.1))) σ0 (abH 2 70 g b.2) 61 [(2, aI x2), (3, aI x3)] [aI y0] (abH 2 70 g h) 0 0 := by
  intro x2 x3 y0 h b q
  have e : bX11_wrongInRound_61 x2 x3 y0 h = segW 2 70 g.2.2.2.2 krWI clN csX11_wrongInRound cuN 1000 61 [(2, aI x2), (3, aI x3)] [aI y0] h := rfl
  rw [e] at q
  clear e
  refine segW_wk (by decide) (by decide) hg rwX11_wrongInRound CLKW_N krWI_ok ?_ q
  clear q
  exact ct_N
def nX11_wrongInRound_61 (x2 : Int) (x3 : Int) (y0 : Int) (h : HH) : Option (Int × HH) := bX11_wrongInRound_61 x2 x3 y0 h
theorem wX11_wrongInRound_61 {g : SG} (hg : GOK g) {σ0 : SG} : ∀ {x2 : Int} {x3 : Int} {y0 : Int} {h : HH} {b : (Int × HH)}, nX11_wrongInRound_61 x2 x3 y0 h = some b → WK 167 (.inl (some (aI b.1))) σ0 (abH 2 70 g b.2) 61 [(2, aI x2), (3, aI x3)] [aI y0] (abH 2 70 g h) 0 0 := by
  intro x2 x3 y0 h b q
  exact uX11_wrongInRound_61 hg q
def bX11_wrongInRound (f57 : HH → Int → Option Int) (f164 : Int → HH → Option HH) (f14 : Int → HH → Option HH) (f13 : HH → Option Int) (f17 : HH → Int → Int → Option Int) (f165 : Int → Int → HH → Option (Int × HH)) (c61 : Int → Int → Int → HH → Option (Int × HH)) (x1 : Int) (h : HH) : Option (Int × HH) :=
  bnd (f57 h x1) fun r1 =>
    if r1 = ((-1) : Int) then
    some (1, h)
  else
    bnd (f164 x1 h) fun r2 =>
    bnd (f14 x1 r2) fun r3 =>
    bnd (f13 r3) fun r4 =>
    bnd (f17 r3 x1 r4) fun r5 =>
    bnd (f165 x1 8 r3) fun r6 =>
    if r1 < (r6.1 : Int) then
    c61 r1 r5 1 r6.2
  else
    c61 r1 r5 0 r6.2
theorem uX11_wrongInRound {g : SG} (hg : GOK g) {σ0 : SG} {c61 : Int → Int → Int → HH → Option (Int × HH)} (k61 : ∀ (x2 : Int) (x3 : Int) (y0 : Int) (h : HH) (b : (Int × HH)), c61 x2 x3 y0 h = some b → WK 167 (.inl (some (aI b.1))) σ0 (abH 2 70 g b.2) 61 [(2, aI x2), (3, aI x3)] [aI y0] (abH 2 70 g h) 0 0) : ∀ {x1 : Int} {h : HH} {b : (Int × HH)}, bX11_wrongInRound nX6_costNow nX11_chooseRound nX1_drive nX1_all nX1_costOfSet nX11_boundBelow c61 x1 h = some b → WK 167 (.inl (some (aI b.1))) σ0 (abH 2 70 g b.2) 0 [(0, aR 2), (1, aI x1)] [] (abH 2 70 g h) 0 0 := by
  intro x1 h b q
  have e : ∀ (f57 : HH → Int → Option Int) (f164 : Int → HH → Option HH) (f14 : Int → HH → Option HH) (f13 : HH → Option Int) (f17 : HH → Int → Int → Option Int) (f165 : Int → Int → HH → Option (Int × HH)) , bX11_wrongInRound f57 f164 f14 f13 f17 f165 c61 x1 h = segW 2 70 g.2.2.2.2 krWI (clC 57 (liPW (pX6_costNow f57)) (clC 164 (pX11_chooseRound f164) (clC 14 (pX1_drive f14) (clC 13 (liPW (pX1_all f13)) (clC 17 (liPW (pX1_costOfSet f17)) (clC 165 (pX11_boundBelow f165) clN)))))) csX11_wrongInRound (cuC 61 (fun l st s => tkI 2 l fun x2 => tkI 3 l fun x3 => skI st fun y0 st => skE st (c61 x2 x3 y0 s)) cuN) 1000 0 [(0, aR 2), (1, aI x1)] [] h := fun _ _ _ _ _ _ => rfl
  rw [e nX6_costNow nX11_chooseRound nX1_drive nX1_all nX1_costOfSet nX11_boundBelow] at q
  clear e
  refine segW_wk (by decide) (by decide) hg rwX11_wrongInRound (CLKW_C (liPW_ok (pX6_costNow_ok hg)) (CLKW_C (pX11_chooseRound_ok hg) (CLKW_C (pX1_drive_ok hg) (CLKW_C (liPW_ok (pX1_all_ok hg)) (CLKW_C (liPW_ok (pX1_costOfSet_ok hg)) (CLKW_C (pX11_boundBelow_ok hg) CLKW_N)))))) krWI_ok ?_ q
  clear q
  refine ct_C ?_ (ct_N)
  · intro l st h q
    obtain ⟨x2, m2, q1⟩ := tkI_of q
    obtain ⟨x3, m3, q2⟩ := tkI_of q1
    obtain ⟨y0, t0, rfl, q3⟩ := skI_of q2
    obtain ⟨rfl, q4⟩ := skE_of q3
    exact WK_less (k61 _ _ _ _ _ q4) (List.forall_mem_cons.mpr ⟨m2, (List.forall_mem_cons.mpr ⟨m3, (fun _ h => absurd h List.not_mem_nil)⟩)⟩)
def nX11_wrongInRound (x1 : Int) (h : HH) : Option (Int × HH) := bX11_wrongInRound nX6_costNow nX11_chooseRound nX1_drive nX1_all nX1_costOfSet nX11_boundBelow nX11_wrongInRound_61 x1 h
theorem wX11_wrongInRound {g : SG} (hg : GOK g) {σ0 : SG} : ∀ {x1 : Int} {h : HH} {b : (Int × HH)}, nX11_wrongInRound x1 h = some b → WK 167 (.inl (some (aI b.1))) σ0 (abH 2 70 g b.2) 0 [(0, aR 2), (1, aI x1)] [] (abH 2 70 g h) 0 0 := by
  intro x1 h b q
  exact uX11_wrongInRound hg (fun _ _ _ _ _ q => wX11_wrongInRound_61 hg q) q
theorem mX11_wrongInRound {g : SG} (hg : GOK g) {h : HH} {x1 : Int} {b : (Int × HH)} (q : nX11_wrongInRound x1 h = some b) : MCT 167 [] [aR 2, aI x1] (abH 2 70 g h) (.inl (some (aI b.1))) (abH 2 70 g b.2) :=
  mct_of (by decide) (MFok 167 (by decide +kernel)) (fun _ => Nat.le_of_ble_eq_true rfl) (wX11_wrongInRound hg q)
def pX11_wrongInRound {β : Type} (z : Int → HH → Option (Int × HH)) : PW β := fun as h f => skC 2 as fun as => skI as fun x1 as => skE as (bnd (z x1 h) fun r => f (.inl (some (aI r.1))) r.2)
theorem pX11_wrongInRound_ok {β : Type} {g : SG} (hg : GOK g) : CW1 (β := β) 167 (pX11_wrongInRound nX11_wrongInRound) 2 70 g := fun as h f b q => by
  obtain ⟨as, rfl, q1⟩ := skC_of q
  obtain ⟨x1, as, rfl, q2⟩ := skI_of q1
  obtain ⟨rfl, q0⟩ := skE_of q2
  obtain ⟨r, z1, z2⟩ := bnd_of q0
  exact ⟨_, _, z2, by decide, mX11_wrongInRound hg z1, rfl, rfl, fun z => absurd z (by decide)⟩
