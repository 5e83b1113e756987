def csX7_makeBySavings : List (Nat × List (Nat × ARow)) := [(43, [(0, 1, .aload_n 0, 0, 0, 0), (1, 1, .iload_n 1, 0, 0, 0), (2, 3, .invokevirtual 109, 71, 2, 7), (5, 1, .iconst 0, 0, 0, 0), (6, 1, .istore_n 2, 0, 0, 0), (7, 1, .iload_n 2, 0, 0, 0), (8, 2, .bipush 9, 0, 0, 0), (10, 3, .if_icmp .ge 57, 67, 0, 0), (13, 1, .aload_n 0, 0, 0, 0), (14, 1, .iload_n 1, 0, 0, 0), (15, 3, .invokevirtual 113, 73, 2, 7), (18, 3, .ifCond .eq 49, 67, 0, 0), (21, 1, .aload_n 0, 0, 0, 0), (22, 3, .getfield 26, 7, 11, 2), (25, 1, .aload_n 0, 0, 0, 0), (26, 3, .getfield 116, 7, 13, 0), (29, 1, .aload_n 0, 0, 0, 0), (30, 1, .aload_n 0, 0, 0, 0), (31, 3, .getfield 116, 7, 13, 0), (34, 1, .aload_n 0, 0, 0, 0), (35, 3, .getfield 119, 7, 14, 0), (38, 1, .aload_n 0, 0, 0, 0), (39, 3, .getfield 23, 7, 10, 2), (42, 1, .aload_n 0, 0, 0, 0)]),
  (87, [(43, 3, .getfield 116, 7, 13, 0), (46, 1, .aaload, 0, 0, 0), (47, 3, .invokevirtual 122, 72, 4, 7), (50, 1, .iastore, 0, 0, 0), (51, 1, .aload_n 0, 0, 0, 0), (52, 3, .getfield 26, 7, 11, 2), (55, 1, .aload_n 0, 0, 0, 0), (56, 3, .getfield 119, 7, 14, 0), (59, 1, .iconst 0, 0, 0, 0), (60, 1, .iastore, 0, 0, 0), (61, 3, .iinc 2 1, 0, 0, 0), (64, 3, .goto (-57), 7, 0, 0), (67, 1, .aload_n 0, 0, 0, 0), (68, 3, .invokevirtual 126, 76, 1, 7), (71, 1, .istore_n 2, 0, 0, 0), (72, 1, .aload_n 0, 0, 0, 0), (73, 3, .getfield 33, 7, 1, 2), (76, 1, .iload_n 1, 0, 0, 0), (77, 1, .aload_n 0, 0, 0, 0), (78, 3, .getfield 23, 7, 10, 2), (81, 1, .iload_n 2, 0, 0, 0), (82, 1, .aaload, 0, 0, 0), (83, 1, .aload_n 0, 0, 0, 0), (84, 3, .getfield 26, 7, 11, 2)]),
  (100000, [(87, 1, .iload_n 2, 0, 0, 0), (88, 1, .iaload, 0, 0, 0), (89, 3, .invokevirtual 84, 51, 4, 6), (92, 1, .return_, 0, 0, 0)])]
theorem rwX7_makeBySavings : rowsB (mB 70) (mO 70) (mX 70) (mIni 70) (mFr 70) (mLo 70) (mT 70) csX7_makeBySavings = true := by decide +kernel
def bX7_makeBySavings_67 (f76 : HH → Option Int) (f51 : Int → Nat → Int → HH → Option HH) (x1 : Int) (h : HH) : Option HH :=
  bnd (f76 h) fun r1 =>
    gd ((0 : Int) ≤ r1 ∧ r1 < (9 : Int)) <|
    bif Nat.beq (rwK 9 39 r1) 0 then none else
    gd ((0 : Int) ≤ r1 ∧ r1 < (9 : Int)) <|
    bnd (f51 x1 (rwK 9 39 r1) (h.1 48 r1) h) fun r2 =>
    some r2
theorem uX7_makeBySavings_67 {g : SG} (hg : GOK g) {σ0 : SG} : ∀ {x1 : Int} {h : HH} {b : HH}, bX7_makeBySavings_67 nX7_longestPiece nX6_replace x1 h = some b → WK 70 (.inl none) σ0 (abH 2 70 g b) 67 [(0, aR 34), (1, aI x1)] [] (abH 2 70 g h) 0 0 := by
  intro x1 h b q
  have e : ∀ (f76 : HH → Option Int) (f51 : Int → Nat → Int → HH → Option HH) , bX7_makeBySavings_67 f76 f51 x1 h = segW 2 70 g.2.2.2.2 krWV (clC 76 (liPW (pX7_longestPiece f76)) (clC 51 (pX6_replace f51) clN)) csX7_makeBySavings cuN 1000 67 [(0, aR 34), (1, aI x1)] [] h := fun _ _ => rfl
  rw [e nX7_longestPiece nX6_replace] at q
  clear e
  refine segW_wk (by decide) (by decide) hg rwX7_makeBySavings (CLKW_C (liPW_ok (pX7_longestPiece_ok hg)) (CLKW_C (pX6_replace_ok hg) CLKW_N)) krWV_ok ?_ q
  clear q
  exact ct_N
def nX7_makeBySavings_67 (x1 : Int) (h : HH) : Option HH := bX7_makeBySavings_67 nX7_longestPiece nX6_replace x1 h
theorem wX7_makeBySavings_67 {g : SG} (hg : GOK g) {σ0 : SG} : ∀ {x1 : Int} {h : HH} {b : HH}, nX7_makeBySavings_67 x1 h = some b → WK 70 (.inl none) σ0 (abH 2 70 g b) 67 [(0, aR 34), (1, aI x1)] [] (abH 2 70 g h) 0 0 := by
  intro x1 h b q
  exact uX7_makeBySavings_67 hg q
def bX7_makeBySavings_7 (f73 : Int → HH → Option (Int × HH)) (f72 : Int → Int → Nat → HH → Option (Int × HH)) (c7 : Int → Int → HH → Option HH) (c67 : Int → HH → Option HH) (x1 : Int) (x2 : Int) (h : HH) : Option HH :=
  if x2 < (9 : Int) then
    bnd (f73 x1 h) fun r1 =>
    if r1.1 = (0 : Int) then
    c67 x1 r1.2
  else
    gd ((0 : Int) ≤ (r1.2.1 34 13) ∧ (r1.2.1 34 13) < (9 : Int)) <|
    bif Nat.beq (rwK 9 39 (r1.2.1 34 13)) 0 then none else
    bnd (f72 (r1.2.1 34 13) (r1.2.1 34 14) (rwK 9 39 (r1.2.1 34 13)) r1.2) fun r2 =>
    gd ((0 : Int) ≤ (r1.2.1 34 13) ∧ (r1.2.1 34 13) < (9 : Int)) <|
    bnd (some (hI r2.2 48 (r1.2.1 34 13) r2.1)) fun h3 =>
    gd ((0 : Int) ≤ (h3.1 34 14) ∧ (h3.1 34 14) < (9 : Int)) <|
    bnd (some (hI h3 48 (h3.1 34 14) 0)) fun h4 =>
    gd (R32 (x2 + 1)) <|
    c7 x1 (x2 + 1) h4
  else
    c67 x1 h
theorem uX7_makeBySavings_7 {g : SG} (hg : GOK g) {σ0 : SG} {c7 : Int → Int → HH → Option HH} {c67 : Int → HH → Option HH} (k7 : ∀ (x1 : Int) (x2 : Int) (h : HH) (b : HH), c7 x1 x2 h = some b → WK 70 (.inl none) σ0 (abH 2 70 g b) 7 [(0, aR 34), (1, aI x1), (2, aI x2)] [] (abH 2 70 g h) 0 0) (k67 : ∀ (x1 : Int) (h : HH) (b : HH), c67 x1 h = some b → WK 70 (.inl none) σ0 (abH 2 70 g b) 67 [(0, aR 34), (1, aI x1)] [] (abH 2 70 g h) 0 0) : ∀ {x1 : Int} {x2 : Int} {h : HH} {b : HH}, bX7_makeBySavings_7 nX7_findJoin nX7_join c7 c67 x1 x2 h = some b → WK 70 (.inl none) σ0 (abH 2 70 g b) 7 [(0, aR 34), (1, aI x1), (2, aI x2)] [] (abH 2 70 g h) 0 0 := by
  intro x1 x2 h b q
  have e : ∀ (f73 : Int → HH → Option (Int × HH)) (f72 : Int → Int → Nat → HH → Option (Int × HH)) , bX7_makeBySavings_7 f73 f72 c7 c67 x1 x2 h = segW 2 70 g.2.2.2.2 krWV (clC 73 (pX7_findJoin f73) (clC 72 (pX7_join f72) clN)) csX7_makeBySavings (cuC 7 (fun l st s => tkC 0 34 l <| tkI 1 l fun x1 => tkI 2 l fun x2 => skE st (c7 x1 x2 s)) (cuC 67 (fun l st s => tkC 0 34 l <| tkI 1 l fun x1 => skE st (c67 x1 s)) cuN)) 1000 7 [(0, aR 34), (1, aI x1), (2, aI x2)] [] h := fun _ _ => rfl
  rw [e nX7_findJoin nX7_join] at q
  clear e
  refine segW_wk (by decide) (by decide) hg rwX7_makeBySavings (CLKW_C (pX7_findJoin_ok hg) (CLKW_C (pX7_join_ok hg) CLKW_N)) krWV_ok ?_ q
  clear q
  refine ct_C ?_ (ct_C ?_ (ct_N))
  · intro l st h q
    obtain ⟨m0, q1⟩ := tkC_of q
    obtain ⟨x1, m1, q2⟩ := tkI_of q1
    obtain ⟨x2, m2, q3⟩ := tkI_of q2
    obtain ⟨rfl, q4⟩ := skE_of q3
    exact WK_less (k7 _ _ _ _ q4) (List.forall_mem_cons.mpr ⟨m0, (List.forall_mem_cons.mpr ⟨m1, (List.forall_mem_cons.mpr ⟨m2, (fun _ h => absurd h List.not_mem_nil)⟩)⟩)⟩)
  · intro l st h q
    obtain ⟨m0, q1⟩ := tkC_of q
    obtain ⟨x1, m1, q2⟩ := tkI_of q1
    obtain ⟨rfl, q3⟩ := skE_of q2
    exact WK_less (k67 _ _ _ q3) (List.forall_mem_cons.mpr ⟨m0, (List.forall_mem_cons.mpr ⟨m1, (fun _ h => absurd h List.not_mem_nil)⟩)⟩)
def nX7_makeBySavings_7 : Nat → Int → Int → HH → Option HH := iter (fun _ _ _ => none) (fun self => bX7_makeBySavings_7 nX7_findJoin nX7_join self nX7_makeBySavings_67)
theorem nX7_makeBySavings_7_s {F : Nat} : nX7_makeBySavings_7 (F + 1) = bX7_makeBySavings_7 nX7_findJoin nX7_join (nX7_makeBySavings_7 F) nX7_makeBySavings_67 := rfl
theorem wX7_makeBySavings_7 {g : SG} (hg : GOK g) {σ0 : SG} : ∀ {F : Nat}, ∀ {x1 : Int} {x2 : Int} {h : HH} {b : HH}, nX7_makeBySavings_7 F x1 x2 h = some b → WK 70 (.inl none) σ0 (abH 2 70 g b) 7 [(0, aR 34), (1, aI x1), (2, aI x2)] [] (abH 2 70 g h) 0 0 := by
  intro F
  have z : ∀ (x1 : Int) (x2 : Int) (h : HH) (b : HH), nX7_makeBySavings_7 F x1 x2 h = some b → WK 70 (.inl none) σ0 (abH 2 70 g b) 7 [(0, aR 34), (1, aI x1), (2, aI x2)] [] (abH 2 70 g h) 0 0 := iter_ind (P := fun (c : Int → Int → HH → Option HH) => ∀ (x1 : Int) (x2 : Int) (h : HH) (b : HH), c x1 x2 h = some b → WK 70 (.inl none) σ0 (abH 2 70 g b) 7 [(0, aR 34), (1, aI x1), (2, aI x2)] [] (abH 2 70 g h) 0 0) (by
    intro x1 x2 h b q
    cases q) (fun self ih => by
    intro x1 x2 h b q
    exact uX7_makeBySavings_7 hg ih (fun _ _ _ q => wX7_makeBySavings_67 hg q) q) F
  intro x1 x2 h b q
  exact z _ _ _ _ q
def bX7_makeBySavings (f71 : Int → HH → Option HH) (c7 : Int → Int → HH → Option HH) (x1 : Int) (h : HH) : Option HH :=
  bnd (f71 x1 h) fun r1 =>
    c7 x1 0 r1
theorem uX7_makeBySavings {g : SG} (hg : GOK g) {σ0 : SG} {c7 : Int → Int → HH → Option HH} (k7 : ∀ (x1 : Int) (x2 : Int) (h : HH) (b : HH), c7 x1 x2 h = some b → WK 70 (.inl none) σ0 (abH 2 70 g b) 7 [(0, aR 34), (1, aI x1), (2, aI x2)] [] (abH 2 70 g h) 0 0) : ∀ {x1 : Int} {h : HH} {b : HH}, bX7_makeBySavings nX7_beginPieces c7 x1 h = some b → WK 70 (.inl none) σ0 (abH 2 70 g b) 0 [(0, aR 34), (1, aI x1)] [] (abH 2 70 g h) 0 0 := by
  intro x1 h b q
  have e : ∀ (f71 : Int → HH → Option HH) , bX7_makeBySavings f71 c7 x1 h = segW 2 70 g.2.2.2.2 krWV (clC 71 (pX7_beginPieces f71) clN) csX7_makeBySavings (cuC 7 (fun l st s => tkC 0 34 l <| tkI 1 l fun x1 => tkI 2 l fun x2 => skE st (c7 x1 x2 s)) cuN) 1000 0 [(0, aR 34), (1, aI x1)] [] h := fun _ => rfl
  rw [e nX7_beginPieces] at q
  clear e
  refine segW_wk (by decide) (by decide) hg rwX7_makeBySavings (CLKW_C (pX7_beginPieces_ok hg) CLKW_N) krWV_ok ?_ q
  clear q
  refine ct_C ?_ (ct_N)
  · intro l st h q
    obtain ⟨m0, q1⟩ := tkC_of q
    obtain ⟨x1, m1, q2⟩ := tkI_of q1
    obtain ⟨x2, m2, q3⟩ := tkI_of q2
    obtain ⟨rfl, q4⟩ := skE_of q3
    exact WK_less (k7 _ _ _ _ q4) (List.forall_mem_cons.mpr ⟨m0, (List.forall_mem_cons.mpr ⟨m1, (List.forall_mem_cons.mpr ⟨m2, (fun _ h => absurd h List.not_mem_nil)⟩)⟩)⟩)
def nX7_makeBySavings (x1 : Int) (h : HH) : Option HH := bX7_makeBySavings nX7_beginPieces (nX7_makeBySavings_7 100000) x1 h
theorem wX7_makeBySavings {g : SG} (hg : GOK g) {σ0 : SG} : ∀ {x1 : Int} {h : HH} {b : HH}, nX7_makeBySavings x1 h = some b → WK 70 (.inl none) σ0 (abH 2 70 g b) 0 [(0, aR 34), (1, aI x1)] [] (abH 2 70 g h) 0 0 := by
  intro x1 h b q
  exact uX7_makeBySavings hg (fun _ _ _ _ q => wX7_makeBySavings_7 hg q) q
theorem mX7_makeBySavings {g : SG} (hg : GOK g) {h : HH} {x1 : Int} {b : HH} (q : nX7_makeBySavings x1 h = some b) : MCT 70 [] [aR 34, aI x1] (abH 2 70 g h) (.inl none) (abH 2 70 g b) :=
  mct_of (by decide) (MFok 70 (by decide +kernel)) (fun _ => Nat.le_of_ble_eq_true rfl) (wX7_makeBySavings hg q)
def pX7_makeBySavings {β : Type} (z : Int → HH → Option HH) : PW β := fun as h f => skC 34 as fun as => skI as fun x1 as => skE as (bnd (z x1 h) fun r => f (.inl none) r)
theorem pX7_makeBySavings_ok {β : Type} {g : SG} (hg : GOK g) : CW1 (β := β) 70 (pX7_makeBySavings nX7_makeBySavings) 2 70 g := fun as h f b q => by
  obtain ⟨as, rfl, q1⟩ := skC_of q
  obtain ⟨x1, as, rfl, q2⟩ := skI_of q1
  obtain ⟨rfl, q0⟩ := skE_of q2
  obtain ⟨r, z1, z2⟩ := bnd_of q0
  exact ⟨_, _, z2, by decide, mX7_makeBySavings hg z1, rfl, rfl, fun z => absurd z (by decide)⟩
def csX8_isIn : List (Nat × List (Nat × ARow)) := [(100000, [(0, 1, .iload_n 0, 0, 0, 0), (1, 1, .iload_n 1, 0, 0, 0), (2, 1, .ishr, 0, 0, 0), (3, 1, .iconst 1, 0, 0, 0), (4, 1, .iand, 0, 0, 0), (5, 1, .iconst 1, 0, 0, 0), (6, 3, .if_icmp .ne 7, 13, 0, 0), (9, 1, .iconst 1, 0, 0, 0), (10, 3, .goto 4, 14, 0, 0), (13, 1, .iconst 0, 0, 0, 0), (14, 1, .ireturn, 1, 0, 0)])]
theorem rwX8_isIn : rowsB (mB 80) (mO 80) (mX 80) (mIni 80) (mFr 80) (mLo 80) (mT 80) csX8_isIn = true := by decide +kernel
def bX8_isIn (h : HH) (x0 : Int) (x1 : Int) : Option Int :=
  if (andI (shrI x0 x1) 1) = (1 : Int) then
    gd ((0 : Int) ≤ 1 ∧ 1 ≤ (1 : Int)) <|
    some 1
  else
    gd ((0 : Int) ≤ 0 ∧ 0 ≤ (1 : Int)) <|
    some 0
theorem uX8_isIn {g : SG} (hg : GOK g) {σ0 : SG} {h : HH} : ∀ {x0 : Int} {x1 : Int} {b : Int}, bX8_isIn h x0 x1 = some b → WK 80 (.inl (some (aI b))) σ0 (abH 2 70 g h) 0 [(0, aI x0), (1, aI x1)] [] (abH 2 70 g h) 0 0 := by
  intro x0 x1 b q
  have e : bX8_isIn h x0 x1 = segP 2 70 g.2.2.2.2 h krPI clNP csX8_isIn cuN 1000 0 [(0, aI x0), (1, aI x1)] [] := rfl
  rw [e] at q
  clear e
  refine segP_wk (by decide) (by decide) hg rwX8_isIn CLKP_N krPI_ok ?_ q
  clear q
  exact ct_N
def nX8_isIn (h : HH) (x0 : Int) (x1 : Int) : Option Int := bX8_isIn h x0 x1
theorem wX8_isIn {g : SG} (hg : GOK g) {σ0 : SG} {h : HH} : ∀ {x0 : Int} {x1 : Int} {b : Int}, nX8_isIn h x0 x1 = some b → WK 80 (.inl (some (aI b))) σ0 (abH 2 70 g h) 0 [(0, aI x0), (1, aI x1)] [] (abH 2 70 g h) 0 0 := by
  intro x0 x1 b q
  exact uX8_isIn hg q
theorem mX8_isIn {g : SG} (hg : GOK g) {h : HH} {x0 : Int} {x1 : Int} {b : Int} (q : nX8_isIn h x0 x1 = some b) : MCT 80 [] [aI x0, aI x1] (abH 2 70 g h) (.inl (some (aI b))) (abH 2 70 g h) :=
  mct_of (by decide) (MFok 80 (by decide +kernel)) (fun _ => Nat.le_of_ble_eq_true rfl) (wX8_isIn hg q)
def pX8_isIn {β : Type} (z : HH → Int → Int → Option Int) : PP β := fun h as f => skI as fun x0 as => skI as fun x1 as => skE as (bnd (z h x0 x1) fun r => f (.inl (some (aI r))))
theorem pX8_isIn_ok {β : Type} {g : SG} (hg : GOK g) : CP1 (β := β) 80 (pX8_isIn nX8_isIn) 2 70 g := fun h as f b q => by
  obtain ⟨x0, as, rfl, q1⟩ := skI_of q
  obtain ⟨x1, as, rfl, q2⟩ := skI_of q1
  obtain ⟨rfl, q0⟩ := skE_of q2
  obtain ⟨r, z1, z2⟩ := bnd_of q0
  exact ⟨_, z2, by decide, mX8_isIn hg z1, rfl, rfl, fun z => absurd z (by decide)⟩
def csX8_chooseWaiting : List (Nat × List (Nat × ARow)) := [(48, [(0, 1, .aload_n 0, 0, 0, 0), (1, 3, .getfield 19, 8, 1, 2), (4, 3, .invokevirtual 40, 11, 1, 1), (7, 1, .iconst 0, 0, 0, 0), (8, 1, .istore_n 2, 0, 0, 0), (9, 1, .iload_n 2, 0, 0, 0), (10, 1, .aload_n 0, 0, 0, 0), (11, 3, .getfield 15, 8, 0, 2), (14, 3, .getfield 43, 2, 10, 0), (17, 3, .if_icmp .ge 45, 62, 0, 0), (20, 1, .aload_n 0, 0, 0, 0), (21, 3, .getfield 15, 8, 0, 2), (24, 3, .getfield 49, 2, 7, 2), (27, 1, .iload_n 2, 0, 0, 0), (28, 1, .iaload, 0, 0, 0), (29, 3, .ifCond .ne 27, 56, 0, 0), (32, 1, .iload_n 1, 0, 0, 0), (33, 1, .aload_n 0, 0, 0, 0), (34, 3, .getfield 15, 8, 0, 2), (37, 3, .getfield 52, 2, 3, 2), (40, 1, .iload_n 2, 0, 0, 0), (41, 1, .iaload, 0, 0, 0), (42, 3, .invokestatic 55, 80, 2, 0), (45, 3, .ifCond .eq 11, 56, 0, 0)]),
  (100000, [(48, 1, .aload_n 0, 0, 0, 0), (49, 3, .getfield 19, 8, 1, 2), (52, 1, .iload_n 2, 0, 0, 0), (53, 3, .invokevirtual 59, 12, 2, 1), (56, 3, .iinc 2 1, 0, 0, 0), (59, 3, .goto (-50), 9, 0, 0), (62, 1, .return_, 0, 0, 0)])]
theorem rwX8_chooseWaiting : rowsB (mB 79) (mO 79) (mX 79) (mIni 79) (mFr 79) (mLo 79) (mT 79) csX8_chooseWaiting = true := by decide +kernel
def bX8_chooseWaiting_56 (c9 : Int → Int → HH → Option HH) (x1 : Int) (x2 : Int) (h : HH) : Option HH :=
  gd (R32 (x2 + 1)) <|
    c9 x1 (x2 + 1) h
theorem uX8_chooseWaiting_56 {g : SG} (hg : GOK g) {σ0 : SG} {c9 : Int → Int → HH → Option HH} (k9 : ∀ (x1 : Int) (x2 : Int) (h : HH) (b : HH), c9 x1 x2 h = some b → WK 79 (.inl none) σ0 (abH 2 70 g b) 9 [(0, aR 65), (1, aI x1), (2, aI x2)] [] (abH 2 70 g h) 0 0) : ∀ {x1 : Int} {x2 : Int} {h : HH} {b : HH}, bX8_chooseWaiting_56 c9 x1 x2 h = some b → WK 79 (.inl none) σ0 (abH 2 70 g b) 56 [(0, aR 65), (1, aI x1), (2, aI x2)] [] (abH 2 70 g h) 0 0 := by
  intro x1 x2 h b q
  have e : bX8_chooseWaiting_56 c9 x1 x2 h = segW 2 70 g.2.2.2.2 krWV clN csX8_chooseWaiting (cuC 9 (fun l st s => tkC 0 65 l <| tkI 1 l fun x1 => tkI 2 l fun x2 => skE st (c9 x1 x2 s)) cuN) 1000 56 [(0, aR 65), (1, aI x1), (2, aI x2)] [] h := rfl
  rw [e] at q
  clear e
  refine segW_wk (by decide) (by decide) hg rwX8_chooseWaiting CLKW_N krWV_ok ?_ q
  clear q
  refine ct_C ?_ (ct_N)
  · intro l st h q
    obtain ⟨m0, q1⟩ := tkC_of q
    obtain ⟨x1, m1, q2⟩ := tkI_of q1
    obtain ⟨x2, m2, q3⟩ := tkI_of q2
    obtain ⟨rfl, q4⟩ := skE_of q3
    exact WK_less (k9 _ _ _ _ q4) (List.forall_mem_cons.mpr ⟨m0, (List.forall_mem_cons.mpr ⟨m1, (List.forall_mem_cons.mpr ⟨m2, (fun _ h => absurd h List.not_mem_nil)⟩)⟩)⟩)
def nX8_chooseWaiting_56 (c9 : Int → Int → HH → Option HH) (x1 : Int) (x2 : Int) (h : HH) : Option HH := bX8_chooseWaiting_56 c9 x1 x2 h
theorem wX8_chooseWaiting_56 {g : SG} (hg : GOK g) {σ0 : SG} {c9 : Int → Int → HH → Option HH} (k9 : ∀ (x1 : Int) (x2 : Int) (h : HH) (b : HH), c9 x1 x2 h = some b → WK 79 (.inl none) σ0 (abH 2 70 g b) 9 [(0, aR 65), (1, aI x1), (2, aI x2)] [] (abH 2 70 g h) 0 0) : ∀ {x1 : Int} {x2 : Int} {h : HH} {b : HH}, nX8_chooseWaiting_56 c9 x1 x2 h = some b → WK 79 (.inl none) σ0 (abH 2 70 g b) 56 [(0, aR 65), (1, aI x1), (2, aI x2)] [] (abH 2 70 g h) 0 0 := by
  intro x1 x2 h b q
  exact uX8_chooseWaiting_56 hg k9 q
def bX8_chooseWaiting_9 (f80 : HH → Int → Int → Option Int) (f12 : Int → HH → Option HH) (c56 : Int → Int → HH → Option HH) (x1 : Int) (x2 : Int) (h : HH) : Option HH :=
  if x2 < ((h.1 13 10) : Int) then
    gd ((0 : Int) ≤ x2 ∧ x2 < (9 : Int)) <|
    if (h.1 20 x2) = (0 : Int) then
    gd ((0 : Int) ≤ x2 ∧ x2 < (9 : Int)) <|
    bnd (f80 h x1 (h.1 16 x2)) fun r1 =>
    if r1 = (0 : Int) then
    c56 x1 x2 h
  else
    bnd (f12 x2 h) fun r2 =>
    c56 x1 x2 r2
  else
    c56 x1 x2 h
  else
    some h
theorem uX8_chooseWaiting_9 {g : SG} (hg : GOK g) {σ0 : SG} {c56 : Int → Int → HH → Option HH} (k56 : ∀ (x1 : Int) (x2 : Int) (h : HH) (b : HH), c56 x1 x2 h = some b → WK 79 (.inl none) σ0 (abH 2 70 g b) 56 [(0, aR 65), (1, aI x1), (2, aI x2)] [] (abH 2 70 g h) 0 0) : ∀ {x1 : Int} {x2 : Int} {h : HH} {b : HH}, bX8_chooseWaiting_9 nX8_isIn nX1_choose c56 x1 x2 h = some b → WK 79 (.inl none) σ0 (abH 2 70 g b) 9 [(0, aR 65), (1, aI x1), (2, aI x2)] [] (abH 2 70 g h) 0 0 := by
  intro x1 x2 h b q
  have e : ∀ (f80 : HH → Int → Int → Option Int) (f12 : Int → HH → Option HH) , bX8_chooseWaiting_9 f80 f12 c56 x1 x2 h = segW 2 70 g.2.2.2.2 krWV (clC 80 (liPW (pX8_isIn f80)) (clC 12 (pX1_choose f12) clN)) csX8_chooseWaiting (cuC 56 (fun l st s => tkC 0 65 l <| tkI 1 l fun x1 => tkI 2 l fun x2 => skE st (c56 x1 x2 s)) cuN) 1000 9 [(0, aR 65), (1, aI x1), (2, aI x2)] [] h := fun _ _ => rfl
  rw [e nX8_isIn nX1_choose] at q
  clear e
  refine segW_wk (by decide) (by decide) hg rwX8_chooseWaiting (CLKW_C (liPW_ok (pX8_isIn_ok hg)) (CLKW_C (pX1_choose_ok hg) CLKW_N)) krWV_ok ?_ q
  clear q
  refine ct_C ?_ (ct_N)
  · intro l st h q
    obtain ⟨m0, q1⟩ := tkC_of q
    obtain ⟨x1, m1, q2⟩ := tkI_of q1
    obtain ⟨x2, m2, q3⟩ := tkI_of q2
    obtain ⟨rfl, q4⟩ := skE_of q3
    exact WK_less (k56 _ _ _ _ q4) (List.forall_mem_cons.mpr ⟨m0, (List.forall_mem_cons.mpr ⟨m1, (List.forall_mem_cons.mpr ⟨m2, (fun _ h => absurd h List.not_mem_nil)⟩)⟩)⟩)
def nX8_chooseWaiting_9 : Nat → Int → Int → HH → Option HH := iter (fun _ _ _ => none) (fun self => bX8_chooseWaiting_9 nX8_isIn nX1_choose (nX8_chooseWaiting_56 self))
theorem nX8_chooseWaiting_9_s {F : Nat} : nX8_chooseWaiting_9 (F + 1) = bX8_chooseWaiting_9 nX8_isIn nX1_choose (nX8_chooseWaiting_56 (nX8_chooseWaiting_9 F)) := rfl
theorem wX8_chooseWaiting_9 {g : SG} (hg : GOK g) {σ0 : SG} : ∀ {F : Nat}, ∀ {x1 : Int} {x2 : Int} {h : HH} {b : HH}, nX8_chooseWaiting_9 F x1 x2 h = some b → WK 79 (.inl none) σ0 (abH 2 70 g b) 9 [(0, aR 65), (1, aI x1), (2, aI x2)] [] (abH 2 70 g h) 0 0 := by
  intro F
  have z : ∀ (x1 : Int) (x2 : Int) (h : HH) (b : HH), nX8_chooseWaiting_9 F x1 x2 h = some b → WK 79 (.inl none) σ0 (abH 2 70 g b) 9 [(0, aR 65), (1, aI x1), (2, aI x2)] [] (abH 2 70 g h) 0 0 := iter_ind (P := fun (c : Int → Int → HH → Option HH) => ∀ (x1 : Int) (x2 : Int) (h : HH) (b : HH), c x1 x2 h = some b → WK 79 (.inl none) σ0 (abH 2 70 g b) 9 [(0, aR 65), (1, aI x1), (2, aI x2)] [] (abH 2 70 g h) 0 0) (by
    intro x1 x2 h b q
    cases q) (fun self ih => by
    intro x1 x2 h b q
    exact uX8_chooseWaiting_9 hg (fun _ _ _ _ q => wX8_chooseWaiting_56 hg ih q) q) F
  intro x1 x2 h b q
  exact z _ _ _ _ q
def bX8_chooseWaiting (f11 : HH → Option HH) (c9 : Int → Int → HH → Option HH) (x1 : Int) (h : HH) : Option HH :=
  bnd (f11 h) fun r1 =>
    c9 x1 0 r1
theorem uX8_chooseWaiting {g : SG} (hg : GOK g) {σ0 : SG} {c9 : Int → Int → HH → Option HH} (k9 : ∀ (x1 : Int) (x2 : Int) (h : HH) (b : HH), c9 x1 x2 h = some b → WK 79 (.inl none) σ0 (abH 2 70 g b) 9 [(0, aR 65), (1, aI x1), (2, aI x2)] [] (abH 2 70 g h) 0 0) : ∀ {x1 : Int} {h : HH} {b : HH}, bX8_chooseWaiting nX1_chooseNone c9 x1 h = some b → WK 79 (.inl none) σ0 (abH 2 70 g b) 0 [(0, aR 65), (1, aI x1)] [] (abH 2 70 g h) 0 0 := by
  intro x1 h b q
  have e : ∀ (f11 : HH → Option HH) , bX8_chooseWaiting f11 c9 x1 h = segW 2 70 g.2.2.2.2 krWV (clC 11 (pX1_chooseNone f11) clN) csX8_chooseWaiting (cuC 9 (fun l st s => tkC 0 65 l <| tkI 1 l fun x1 => tkI 2 l fun x2 => skE st (c9 x1 x2 s)) cuN) 1000 0 [(0, aR 65), (1, aI x1)] [] h := fun _ => rfl
  rw [e nX1_chooseNone] at q
  clear e
  refine segW_wk (by decide) (by decide) hg rwX8_chooseWaiting (CLKW_C (pX1_chooseNone_ok hg) CLKW_N) krWV_ok ?_ q
  clear q
  refine ct_C ?_ (ct_N)
  · intro l st h q
    obtain ⟨m0, q1⟩ := tkC_of q
    obtain ⟨x1, m1, q2⟩ := tkI_of q1
    obtain ⟨x2, m2, q3⟩ := tkI_of q2
    obtain ⟨rfl, q4⟩ := skE_of q3
    exact WK_less (k9 _ _ _ _ q4) (List.forall_mem_cons.mpr ⟨m0, (List.forall_mem_cons.mpr ⟨m1, (List.forall_mem_cons.mpr ⟨m2, (fun _ h => absurd h List.not_mem_nil)⟩)⟩)⟩)
def nX8_chooseWaiting (x1 : Int) (h : HH) : Option HH := bX8_chooseWaiting nX1_chooseNone (nX8_chooseWaiting_9 100000) x1 h
theorem wX8_chooseWaiting {g : SG} (hg : GOK g) {σ0 : SG} : ∀ {x1 : Int} {h : HH} {b : HH}, nX8_chooseWaiting x1 h = some b → WK 79 (.inl none) σ0 (abH 2 70 g b) 0 [(0, aR 65), (1, aI x1)] [] (abH 2 70 g h) 0 0 := by
  intro x1 h b q
  exact uX8_chooseWaiting hg (fun _ _ _ _ q => wX8_chooseWaiting_9 hg q) q
theorem mX8_chooseWaiting {g : SG} (hg : GOK g) {h : HH} {x1 : Int} {b : HH} (q : nX8_chooseWaiting x1 h = some b) : MCT 79 [] [aR 65, aI x1] (abH 2 70 g h) (.inl none) (abH 2 70 g b) :=
  mct_of (by decide) (MFok 79 (by decide +kernel)) (fun _ => Nat.le_of_ble_eq_true rfl) (wX8_chooseWaiting hg q)
def pX8_chooseWaiting {β : Type} (z : Int → HH → Option HH) : PW β := fun as h f => skC 65 as fun as => skI as fun x1 as => skE as (bnd (z x1 h) fun r => f (.inl none) r)
theorem pX8_chooseWaiting_ok {β : Type} {g : SG} (hg : GOK g) : CW1 (β := β) 79 (pX8_chooseWaiting nX8_chooseWaiting) 2 70 g := fun as h f b q => by
  obtain ⟨as, rfl, q1⟩ := skC_of q
  obtain ⟨x1, as, rfl, q2⟩ := skI_of q1
  obtain ⟨rfl, q0⟩ := skE_of q2
  obtain ⟨r, z1, z2⟩ := bnd_of q0
  exact ⟨_, _, z2, by decide, mX8_chooseWaiting hg z1, rfl, rfl, fun z => absurd z (by decide)⟩
def csX8_costOfSet : List (Nat × List (Nat × ARow)) := [(100000, [(0, 1, .aload_n 0, 0, 0, 0), (1, 1, .iload_n 1, 0, 0, 0), (2, 3, .invokevirtual 23, 79, 2, 8), (5, 1, .aload_n 0, 0, 0, 0), (6, 3, .getfield 19, 8, 1, 2), (9, 1, .iconst 0, 0, 0, 0), (10, 3, .invokevirtual 27, 14, 2, 1), (13, 1, .aload_n 0, 0, 0, 0), (14, 3, .getfield 19, 8, 1, 2), (17, 1, .iconst 0, 0, 0, 0), (18, 1, .aload_n 0, 0, 0, 0), (19, 3, .getfield 19, 8, 1, 2), (22, 3, .invokevirtual 32, 13, 1, 1), (25, 3, .invokevirtual 36, 17, 3, 1), (28, 1, .ireturn, 0, 0, 0)])]
theorem rwX8_costOfSet : rowsB (mB 78) (mO 78) (mX 78) (mIni 78) (mFr 78) (mLo 78) (mT 78) csX8_costOfSet = true := by decide +kernel
def bX8_costOfSet (f79 : Int → HH → Option HH) (f14 : Int → HH → Option HH) (f13 : HH → Option Int) (f17 : HH → Int → Int → Option Int) (x1 : Int) (h : HH) : Option (Int × HH) :=
  bnd (f79 x1 h) fun r1 =>
    bnd (f14 0 r1) fun r2 =>
    bnd (f13 r2) fun r3 =>
    bnd (f17 r2 0 r3) fun r4 =>
    some (r4, r2)
theorem uX8_costOfSet {g : SG} (hg : GOK g) {σ0 : SG} : ∀ {x1 : Int} {h : HH} {b : (Int × HH)}, bX8_costOfSet nX8_chooseWaiting nX1_drive nX1_all nX1_costOfSet x1 h = some b → WK 78 (.inl (some (aI b.1))) σ0 (abH 2 70 g b.2) 0 [(0, aR 65), (1, aI x1)] [] (abH 2 70 g h) 0 0 := by
  intro x1 h b q
  have e : ∀ (f79 : Int → HH → Option HH) (f14 : Int → HH → Option HH) (f13 : HH → Option Int) (f17 : HH → Int → Int → Option Int) , bX8_costOfSet f79 f14 f13 f17 x1 h = segW 2 70 g.2.2.2.2 krWI (clC 79 (pX8_chooseWaiting f79) (clC 14 (pX1_drive f14) (clC 13 (liPW (pX1_all f13)) (clC 17 (liPW (pX1_costOfSet f17)) clN)))) csX8_costOfSet cuN 1000 0 [(0, aR 65), (1, aI x1)] [] h := fun _ _ _ _ => rfl
  rw [e nX8_chooseWaiting nX1_drive nX1_all nX1_costOfSet] at q
  clear e
  refine segW_wk (by decide) (by decide) hg rwX8_costOfSet (CLKW_C (pX8_chooseWaiting_ok hg) (CLKW_C (pX1_drive_ok hg) (CLKW_C (liPW_ok (pX1_all_ok hg)) (CLKW_C (liPW_ok (pX1_costOfSet_ok hg)) CLKW_N)))) krWI_ok ?_ q
  clear q
  exact ct_N
def nX8_costOfSet (x1 : Int) (h : HH) : Option (Int × HH) := bX8_costOfSet nX8_chooseWaiting nX1_drive nX1_all nX1_costOfSet x1 h
theorem wX8_costOfSet {g : SG} (hg : GOK g) {σ0 : SG} : ∀ {x1 : Int} {h : HH} {b : (Int × HH)}, nX8_costOfSet x1 h = some b → WK 78 (.inl (some (aI b.1))) σ0 (abH 2 70 g b.2) 0 [(0, aR 65), (1, aI x1)] [] (abH 2 70 g h) 0 0 := by
  intro x1 h b q
  exact uX8_costOfSet hg q
theorem mX8_costOfSet {g : SG} (hg : GOK g) {h : HH} {x1 : Int} {b : (Int × HH)} (q : nX8_costOfSet x1 h = some b) : MCT 78 [] [aR 65, aI x1] (abH 2 70 g h) (.inl (some (aI b.1))) (abH 2 70 g b.2) :=
  mct_of (by decide) (MFok 78 (by decide +kernel)) (fun _ => Nat.le_of_ble_eq_true rfl) (wX8_costOfSet hg q)
def pX8_costOfSet {β : Type} (z : Int → HH → Option (Int × HH)) : PW β := fun as h f => skC 65 as fun as => skI as fun x1 as => skE as (bnd (z x1 h) fun r => f (.inl (some (aI r.1))) r.2)
theorem pX8_costOfSet_ok {β : Type} {g : SG} (hg : GOK g) : CW1 (β := β) 78 (pX8_costOfSet nX8_costOfSet) 2 70 g := fun as h f b q => by
  obtain ⟨as, rfl, q1⟩ := skC_of q
  obtain ⟨x1, as, rfl, q2⟩ := skI_of q1
  obtain ⟨rfl, q0⟩ := skE_of q2
  obtain ⟨r, z1, z2⟩ := bnd_of q0
  exact ⟨_, _, z2, by decide, mX8_costOfSet hg z1, rfl, rfl, fun z => absurd z (by decide)⟩
def csX8_reckon : List (Nat × List (Nat × ARow)) := [(42, [(0, 1, .aload_n 0, 0, 0, 0), (1, 2, .bipush 7, 0, 0, 0), (3, 3, .invokevirtual 23, 79, 2, 8), (6, 1, .aload_n 0, 0, 0, 0), (7, 3, .getfield 19, 8, 1, 2), (10, 1, .iconst 0, 0, 0, 0), (11, 3, .invokevirtual 27, 14, 2, 1), (14, 1, .iconst 1, 0, 0, 0), (15, 1, .istore_n 1, 0, 0, 0), (16, 1, .iconst 0, 0, 0, 0), (17, 1, .istore_n 2, 0, 0, 0), (18, 1, .iload_n 2, 0, 0, 0), (19, 2, .bipush 8, 0, 0, 0), (21, 3, .if_icmp .ge 51, 72, 0, 0), (24, 1, .aload_n 0, 0, 0, 0), (25, 3, .getfield 9, 8, 2, 2), (28, 1, .iload_n 2, 0, 0, 0), (29, 1, .aload_n 0, 0, 0, 0), (30, 3, .getfield 19, 8, 1, 2), (33, 1, .iconst 0, 0, 0, 0), (34, 1, .aload_n 0, 0, 0, 0), (35, 3, .getfield 19, 8, 1, 2), (38, 1, .iload_n 2, 0, 0, 0), (39, 3, .invokevirtual 62, 18, 2, 1)]),
  (100000, [(42, 3, .invokevirtual 36, 17, 3, 1), (45, 1, .iastore, 0, 0, 0), (46, 1, .iload_n 1, 0, 0, 0), (47, 3, .ifCond .eq 17, 64, 0, 0), (50, 1, .aload_n 0, 0, 0, 0), (51, 3, .getfield 9, 8, 2, 2), (54, 1, .iload_n 2, 0, 0, 0), (55, 1, .iaload, 0, 0, 0), (56, 1, .iconst (-1), 0, 0, 0), (57, 3, .if_icmp .eq 7, 64, 0, 0), (60, 1, .iconst 1, 0, 0, 0), (61, 3, .goto 4, 65, 0, 0), (64, 1, .iconst 0, 0, 0, 0), (65, 1, .istore_n 1, 0, 0, 0), (66, 3, .iinc 2 1, 0, 0, 0), (69, 3, .goto (-51), 18, 0, 0), (72, 1, .iload_n 1, 0, 0, 0), (73, 1, .ireturn, 1, 0, 0)])]
theorem rwX8_reckon : rowsB (mB 81) (mO 81) (mX 81) (mIni 81) (mFr 81) (mLo 81) (mT 81) csX8_reckon = true := by decide +kernel
def bX8_reckon_65 (c18 : Int → Int → HH → Option (Int × HH)) (x2 : Int) (y0 : Int) (h : HH) : Option (Int × HH) :=
  gd (R32 (x2 + 1)) <|
    c18 y0 (x2 + 1) h
theorem uX8_reckon_65 {g : SG} (hg : GOK g) {σ0 : SG} {c18 : Int → Int → HH → Option (Int × HH)} (k18 : ∀ (x1 : Int) (x2 : Int) (h : HH) (b : (Int × HH)), c18 x1 x2 h = some b → WK 81 (.inl (some (aI b.1))) σ0 (abH 2 70 g b.2) 18 [(0, aR 65), (1, aI x1), (2, aI x2)] [] (abH 2 70 g h) 0 0) : ∀ {x2 : Int} {y0 : Int} {h : HH} {b : (Int × HH)}, bX8_reckon_65 c18 x2 y0 h = some b → WK 81 (.inl (some (aI b.1))) σ0 (abH 2 70 g b.2) 65 [(0, aR 65), (2, aI x2)] [aI y0] (abH 2 70 g h) 0 0 := by
  intro x2 y0 h b q
  have e : bX8_reckon_65 c18 x2 y0 h = segW 2 70 g.2.2.2.2 krWI clN csX8_reckon (cuC 18 (fun l st s => tkC 0 65 l <| tkI 1 l fun x1 => tkI 2 l fun x2 => skE st (c18 x1 x2 s)) cuN) 1000 65 [(0, aR 65), (2, aI x2)] [aI y0] h := rfl
  rw [e] at q
  clear e
  refine segW_wk (by decide) (by decide) hg rwX8_reckon CLKW_N krWI_ok ?_ q
  clear q
  refine ct_C ?_ (ct_N)
  · intro l st h q
    obtain ⟨m0, q1⟩ := tkC_of q
    obtain ⟨x1, m1, q2⟩ := tkI_of q1
    obtain ⟨x2, m2, q3⟩ := tkI_of q2
    obtain ⟨rfl, q4⟩ := skE_of q3
    exact WK_less (k18 _ _ _ _ q4) (List.forall_mem_cons.mpr ⟨m0, (List.forall_mem_cons.mpr ⟨m1, (List.forall_mem_cons.mpr ⟨m2, (fun _ h => absurd h List.not_mem_nil)⟩)⟩)⟩)
def nX8_reckon_65 (c18 : Int → Int → HH → Option (Int × HH)) (x2 : Int) (y0 : Int) (h : HH) : Option (Int × HH) := bX8_reckon_65 c18 x2 y0 h
theorem wX8_reckon_65 {g : SG} (hg : GOK g) {σ0 : SG} {c18 : Int → Int → HH → Option (Int × HH)} (k18 : ∀ (x1 : Int) (x2 : Int) (h : HH) (b : (Int × HH)), c18 x1 x2 h = some b → WK 81 (.inl (some (aI b.1))) σ0 (abH 2 70 g b.2) 18 [(0, aR 65), (1, aI x1), (2, aI x2)] [] (abH 2 70 g h) 0 0) : ∀ {x2 : Int} {y0 : Int} {h : HH} {b : (Int × HH)}, nX8_reckon_65 c18 x2 y0 h = some b → WK 81 (.inl (some (aI b.1))) σ0 (abH 2 70 g b.2) 65 [(0, aR 65), (2, aI x2)] [aI y0] (abH 2 70 g h) 0 0 := by
  intro x2 y0 h b q
  exact uX8_reckon_65 hg k18 q
def bX8_reckon_64 (c65 : Int → Int → HH → Option (Int × HH)) (x2 : Int) (h : HH) : Option (Int × HH) :=
  c65 x2 0 h
theorem uX8_reckon_64 {g : SG} (hg : GOK g) {σ0 : SG} {c65 : Int → Int → HH → Option (Int × HH)} (k65 : ∀ (x2 : Int) (y0 : Int) (h : HH) (b : (Int × HH)), c65 x2 y0 h = some b → WK 81 (.inl (some (aI b.1))) σ0 (abH 2 70 g b.2) 65 [(0, aR 65), (2, aI x2)] [aI y0] (abH 2 70 g h) 0 0) : ∀ {x2 : Int} {h : HH} {b : (Int × HH)}, bX8_reckon_64 c65 x2 h = some b → WK 81 (.inl (some (aI b.1))) σ0 (abH 2 70 g b.2) 64 [(0, aR 65), (2, aI x2)] [] (abH 2 70 g h) 0 0 := by
  intro x2 h b q
  have e : bX8_reckon_64 c65 x2 h = segW 2 70 g.2.2.2.2 krWI clN csX8_reckon (cuC 65 (fun l st s => tkC 0 65 l <| tkI 2 l fun x2 => skI st fun y0 st => skE st (c65 x2 y0 s)) cuN) 1000 64 [(0, aR 65), (2, aI x2)] [] h := rfl
  rw [e] at q
  clear e
  refine segW_wk (by decide) (by decide) hg rwX8_reckon CLKW_N krWI_ok ?_ q
  clear q
  refine ct_C ?_ (ct_N)
  · intro l st h q
    obtain ⟨m0, q1⟩ := tkC_of q
    obtain ⟨x2, m2, q2⟩ := tkI_of q1
    obtain ⟨y0, t0, rfl, q3⟩ := skI_of q2
    obtain ⟨rfl, q4⟩ := skE_of q3
    exact WK_less (k65 _ _ _ _ q4) (List.forall_mem_cons.mpr ⟨m0, (List.forall_mem_cons.mpr ⟨m2, (fun _ h => absurd h List.not_mem_nil)⟩)⟩)
def nX8_reckon_64 (c18 : Int → Int → HH → Option (Int × HH)) (x2 : Int) (h : HH) : Option (Int × HH) := bX8_reckon_64 (nX8_reckon_65 c18) x2 h
theorem wX8_reckon_64 {g : SG} (hg : GOK g) {σ0 : SG} {c18 : Int → Int → HH → Option (Int × HH)} (k18 : ∀ (x1 : Int) (x2 : Int) (h : HH) (b : (Int × HH)), c18 x1 x2 h = some b → WK 81 (.inl (some (aI b.1))) σ0 (abH 2 70 g b.2) 18 [(0, aR 65), (1, aI x1), (2, aI x2)] [] (abH 2 70 g h) 0 0) : ∀ {x2 : Int} {h : HH} {b : (Int × HH)}, nX8_reckon_64 c18 x2 h = some b → WK 81 (.inl (some (aI b.1))) σ0 (abH 2 70 g b.2) 64 [(0, aR 65), (2, aI x2)] [] (abH 2 70 g h) 0 0 := by
  intro x2 h b q
  exact uX8_reckon_64 hg (fun _ _ _ _ q => wX8_reckon_65 hg k18 q) q
def bX8_reckon_18 (f18 : HH → Int → Option Int) (f17 : HH → Int → Int → Option Int) (c64 : Int → HH → Option (Int × HH)) (c65 : Int → Int → HH → Option (Int × HH)) (x1 : Int) (x2 : Int) (h : HH) : Option (Int × HH) :=
  if x2 < (8 : Int) then
    bnd (f18 h x2) fun r1 =>
    bnd (f17 h 0 r1) fun r2 =>
    gd ((0 : Int) ≤ x2 ∧ x2 < (8 : Int)) <|
    bnd (some (hI h 66 x2 r2)) fun h3 =>
    if x1 = (0 : Int) then
    c64 x2 h3
  else
    gd ((0 : Int) ≤ x2 ∧ x2 < (8 : Int)) <|
    if (h3.1 66 x2) = ((-1) : Int) then
    c64 x2 h3
  else
    c65 x2 1 h3
  else
    gd ((0 : Int) ≤ x1 ∧ x1 ≤ (1 : Int)) <|
    some (x1, h)
theorem uX8_reckon_18 {g : SG} (hg : GOK g) {σ0 : SG} {c64 : Int → HH → Option (Int × HH)} {c65 : Int → Int → HH → Option (Int × HH)} (k64 : ∀ (x2 : Int) (h : HH) (b : (Int × HH)), c64 x2 h = some b → WK 81 (.inl (some (aI b.1))) σ0 (abH 2 70 g b.2) 64 [(0, aR 65), (2, aI x2)] [] (abH 2 70 g h) 0 0) (k65 : ∀ (x2 : Int) (y0 : Int) (h : HH) (b : (Int × HH)), c65 x2 y0 h = some b → WK 81 (.inl (some (aI b.1))) σ0 (abH 2 70 g b.2) 65 [(0, aR 65), (2, aI x2)] [aI y0] (abH 2 70 g h) 0 0) : ∀ {x1 : Int} {x2 : Int} {h : HH} {b : (Int × HH)}, bX8_reckon_18 nX1_setOf nX1_costOfSet c64 c65 x1 x2 h = some b → WK 81 (.inl (some (aI b.1))) σ0 (abH 2 70 g b.2) 18 [(0, aR 65), (1, aI x1), (2, aI x2)] [] (abH 2 70 g h) 0 0 := by
  intro x1 x2 h b q
  have e : ∀ (f18 : HH → Int → Option Int) (f17 : HH → Int → Int → Option Int) , bX8_reckon_18 f18 f17 c64 c65 x1 x2 h = segW 2 70 g.2.2.2.2 krWI (clC 18 (liPW (pX1_setOf f18)) (clC 17 (liPW (pX1_costOfSet f17)) clN)) csX8_reckon (cuC 64 (fun l st s => tkC 0 65 l <| tkI 2 l fun x2 => skE st (c64 x2 s)) (cuC 65 (fun l st s => tkC 0 65 l <| tkI 2 l fun x2 => skI st fun y0 st => skE st (c65 x2 y0 s)) cuN)) 1000 18 [(0, aR 65), (1, aI x1), (2, aI x2)] [] h := fun _ _ => rfl
  rw [e nX1_setOf nX1_costOfSet] at q
  clear e
  refine segW_wk (by decide) (by decide) hg rwX8_reckon (CLKW_C (liPW_ok (pX1_setOf_ok hg)) (CLKW_C (liPW_ok (pX1_costOfSet_ok hg)) CLKW_N)) krWI_ok ?_ q
  clear q
  refine ct_C ?_ (ct_C ?_ (ct_N))
  · intro l st h q
    obtain ⟨m0, q1⟩ := tkC_of q
    obtain ⟨x2, m2, q2⟩ := tkI_of q1
    obtain ⟨rfl, q3⟩ := skE_of q2
    exact WK_less (k64 _ _ _ q3) (List.forall_mem_cons.mpr ⟨m0, (List.forall_mem_cons.mpr ⟨m2, (fun _ h => absurd h List.not_mem_nil)⟩)⟩)
  · intro l st h q
    obtain ⟨m0, q1⟩ := tkC_of q
    obtain ⟨x2, m2, q2⟩ := tkI_of q1
    obtain ⟨y0, t0, rfl, q3⟩ := skI_of q2
    obtain ⟨rfl, q4⟩ := skE_of q3
    exact WK_less (k65 _ _ _ _ q4) (List.forall_mem_cons.mpr ⟨m0, (List.forall_mem_cons.mpr ⟨m2, (fun _ h => absurd h List.not_mem_nil)⟩)⟩)
def nX8_reckon_18 : Nat → Int → Int → HH → Option (Int × HH) := iter (fun _ _ _ => none) (fun self => bX8_reckon_18 nX1_setOf nX1_costOfSet (nX8_reckon_64 self) (nX8_reckon_65 self))
theorem nX8_reckon_18_s {F : Nat} : nX8_reckon_18 (F + 1) = bX8_reckon_18 nX1_setOf nX1_costOfSet (nX8_reckon_64 (nX8_reckon_18 F)) (nX8_reckon_65 (nX8_reckon_18 F)) := rfl
theorem wX8_reckon_18 {g : SG} (hg : GOK g) {σ0 : SG} : ∀ {F : Nat}, ∀ {x1 : Int} {x2 : Int} {h : HH} {b : (Int × HH)}, nX8_reckon_18 F x1 x2 h = some b → WK 81 (.inl (some (aI b.1))) σ0 (abH 2 70 g b.2) 18 [(0, aR 65), (1, aI x1), (2, aI x2)] [] (abH 2 70 g h) 0 0 := by
  intro F
  have z : ∀ (x1 : Int) (x2 : Int) (h : HH) (b : (Int × HH)), nX8_reckon_18 F x1 x2 h = some b → WK 81 (.inl (some (aI b.1))) σ0 (abH 2 70 g b.2) 18 [(0, aR 65), (1, aI x1), (2, aI x2)] [] (abH 2 70 g h) 0 0 := iter_ind (P := fun (c : Int → Int → HH → Option (Int × HH)) => ∀ (x1 : Int) (x2 : Int) (h : HH) (b : (Int × HH)), c x1 x2 h = some b → WK 81 (.inl (some (aI b.1))) σ0 (abH 2 70 g b.2) 18 [(0, aR 65), (1, aI x1), (2, aI x2)] [] (abH 2 70 g h) 0 0) (by
    intro x1 x2 h b q
    cases q) (fun self ih => by
    intro x1 x2 h b q
    exact uX8_reckon_18 hg (fun _ _ _ q => wX8_reckon_64 hg ih q) (fun _ _ _ _ q => wX8_reckon_65 hg ih q) q) F
  intro x1 x2 h b q
  exact z _ _ _ _ q
def bX8_reckon (f79 : Int → HH → Option HH) (f14 : Int → HH → Option HH) (c18 : Int → Int → HH → Option (Int × HH)) (h : HH) : Option (Int × HH) :=
  bnd (f79 7 h) fun r1 =>
    bnd (f14 0 r1) fun r2 =>
    c18 1 0 r2
theorem uX8_reckon {g : SG} (hg : GOK g) {σ0 : SG} {c18 : Int → Int → HH → Option (Int × HH)} (k18 : ∀ (x1 : Int) (x2 : Int) (h : HH) (b : (Int × HH)), c18 x1 x2 h = some b → WK 81 (.inl (some (aI b.1))) σ0 (abH 2 70 g b.2) 18 [(0, aR 65), (1, aI x1), (2, aI x2)] [] (abH 2 70 g h) 0 0) : ∀ {h : HH} {b : (Int × HH)}, bX8_reckon nX8_chooseWaiting nX1_drive c18 h = some b → WK 81 (.inl (some (aI b.1))) σ0 (abH 2 70 g b.2) 0 [(0, aR 65)] [] (abH 2 70 g h) 0 0 := by
  intro h b q
  have e : ∀ (f79 : Int → HH → Option HH) (f14 : Int → HH → Option HH) , bX8_reckon f79 f14 c18 h = segW 2 70 g.2.2.2.2 krWI (clC 79 (pX8_chooseWaiting f79) (clC 14 (pX1_drive f14) clN)) csX8_reckon (cuC 18 (fun l st s => tkC 0 65 l <| tkI 1 l fun x1 => tkI 2 l fun x2 => skE st (c18 x1 x2 s)) cuN) 1000 0 [(0, aR 65)] [] h := fun _ _ => rfl
  rw [e nX8_chooseWaiting nX1_drive] at q
  clear e
  refine segW_wk (by decide) (by decide) hg rwX8_reckon (CLKW_C (pX8_chooseWaiting_ok hg) (CLKW_C (pX1_drive_ok hg) CLKW_N)) krWI_ok ?_ q
  clear q
  refine ct_C ?_ (ct_N)
  · intro l st h q
    obtain ⟨m0, q1⟩ := tkC_of q
    obtain ⟨x1, m1, q2⟩ := tkI_of q1
    obtain ⟨x2, m2, q3⟩ := tkI_of q2
    obtain ⟨rfl, q4⟩ := skE_of q3
    exact WK_less (k18 _ _ _ _ q4) (List.forall_mem_cons.mpr ⟨m0, (List.forall_mem_cons.mpr ⟨m1, (List.forall_mem_cons.mpr ⟨m2, (fun _ h => absurd h List.not_mem_nil)⟩)⟩)⟩)
def nX8_reckon (h : HH) : Option (Int × HH) := bX8_reckon nX8_chooseWaiting nX1_drive (nX8_reckon_18 100000) h
theorem wX8_reckon {g : SG} (hg : GOK g) {σ0 : SG} : ∀ {h : HH} {b : (Int × HH)}, nX8_reckon h = some b → WK 81 (.inl (some (aI b.1))) σ0 (abH 2 70 g b.2) 0 [(0, aR 65)] [] (abH 2 70 g h) 0 0 := by
  intro h b q
  exact uX8_reckon hg (fun _ _ _ _ q => wX8_reckon_18 hg q) q
theorem mX8_reckon {g : SG} (hg : GOK g) {h : HH} {b : (Int × HH)} (q : nX8_reckon h = some b) : MCT 81 [] [aR 65] (abH 2 70 g h) (.inl (some (aI b.1))) (abH 2 70 g b.2) :=
  mct_of (by decide) (MFok 81 (by decide +kernel)) (fun _ => Nat.le_of_ble_eq_true rfl) (wX8_reckon hg q)
def pX8_reckon {β : Type} (z : HH → Option (Int × HH)) : PW β := fun as h f => skC 65 as fun as => skE as (bnd (z h) fun r => f (.inl (some (aI r.1))) r.2)
theorem pX8_reckon_ok {β : Type} {g : SG} (hg : GOK g) : CW1 (β := β) 81 (pX8_reckon nX8_reckon) 2 70 g := fun as h f b q => by
  obtain ⟨as, rfl, q1⟩ := skC_of q
  obtain ⟨rfl, q0⟩ := skE_of q1
  obtain ⟨r, z1, z2⟩ := bnd_of q0
  exact ⟨_, _, z2, by decide, mX8_reckon hg z1, rfl, rfl, fun z => absurd z (by decide)⟩
def csJ6_bitCount_0f7a4 : List (Nat × List (Nat × ARow)) := [(32, [(0, 1, .iload_n 0, 0, 0, 0), (1, 1, .iload_n 0, 0, 0, 0), (2, 1, .iconst 1, 0, 0, 0), (3, 1, .iushr, 0, 0, 0), (4, 3, .ldc_w 265, 1431655765, 0, 0), (7, 1, .iand, 0, 0, 0), (8, 1, .isub, 0, 0, 0), (9, 1, .istore_n 0, 0, 0, 0), (10, 1, .iload_n 0, 0, 0, 0), (11, 3, .ldc_w 266, 858993459, 0, 0), (14, 1, .iand, 0, 0, 0), (15, 1, .iload_n 0, 0, 0, 0), (16, 1, .iconst 2, 0, 0, 0), (17, 1, .iushr, 0, 0, 0), (18, 3, .ldc_w 266, 858993459, 0, 0), (21, 1, .iand, 0, 0, 0), (22, 1, .iadd, 0, 0, 0), (23, 1, .istore_n 0, 0, 0, 0), (24, 1, .iload_n 0, 0, 0, 0), (25, 1, .iload_n 0, 0, 0, 0), (26, 1, .iconst 4, 0, 0, 0), (27, 1, .iushr, 0, 0, 0), (28, 1, .iadd, 0, 0, 0), (29, 3, .ldc_w 267, 252645135, 0, 0)]),
  (100000, [(32, 1, .iand, 0, 0, 0), (33, 1, .istore_n 0, 0, 0, 0), (34, 1, .iload_n 0, 0, 0, 0), (35, 1, .iload_n 0, 0, 0, 0), (36, 2, .bipush 8, 0, 0, 0), (38, 1, .iushr, 0, 0, 0), (39, 1, .iadd, 0, 0, 0), (40, 1, .istore_n 0, 0, 0, 0), (41, 1, .iload_n 0, 0, 0, 0), (42, 1, .iload_n 0, 0, 0, 0), (43, 2, .bipush 16, 0, 0, 0), (45, 1, .iushr, 0, 0, 0), (46, 1, .iadd, 0, 0, 0), (47, 1, .istore_n 0, 0, 0, 0), (48, 1, .iload_n 0, 0, 0, 0), (49, 2, .bipush 63, 0, 0, 0), (51, 1, .iand, 0, 0, 0), (52, 1, .ireturn, 0, 0, 0)])]
theorem rwJ6_bitCount_0f7a4 : rowsB (mB 274) (mO 274) (mX 274) (mIni 274) (mFr 274) (mLo 274) (mT 274) csJ6_bitCount_0f7a4 = true := by decide +kernel
def bJ6_bitCount_0f7a4 (h : HH) (x0 : Int) : Option Int :=
  gd (R32 (x0 - (andI (ushrI x0 1) 1431655765))) <|
    gd (R32 ((andI (x0 - (andI (ushrI x0 1) 1431655765)) 858993459) + (andI (ushrI (x0 - (andI (ushrI x0 1) 1431655765)) 2) 858993459))) <|
    gd (R32 (((andI (x0 - (andI (ushrI x0 1) 1431655765)) 858993459) + (andI (ushrI (x0 - (andI (ushrI x0 1) 1431655765)) 2) 858993459)) + (ushrI ((andI (x0 - (andI (ushrI x0 1) 1431655765)) 858993459) + (andI (ushrI (x0 - (andI (ushrI x0 1) 1431655765)) 2) 858993459)) 4))) <|
    gd (R32 ((andI (((andI (x0 - (andI (ushrI x0 1) 1431655765)) 858993459) + (andI (ushrI (x0 - (andI (ushrI x0 1) 1431655765)) 2) 858993459)) + (ushrI ((andI (x0 - (andI (ushrI x0 1) 1431655765)) 858993459) + (andI (ushrI (x0 - (andI (ushrI x0 1) 1431655765)) 2) 858993459)) 4)) 252645135) + (ushrI (andI (((andI (x0 - (andI (ushrI x0 1) 1431655765)) 858993459) + (andI (ushrI (x0 - (andI (ushrI x0 1) 1431655765)) 2) 858993459)) + (ushrI ((andI (x0 - (andI (ushrI x0 1) 1431655765)) 858993459) + (andI (ushrI (x0 - (andI (ushrI x0 1) 1431655765)) 2) 858993459)) 4)) 252645135) 8))) <|
    gd (R32 (((andI (((andI (x0 - (andI (ushrI x0 1) 1431655765)) 858993459) + (andI (ushrI (x0 - (andI (ushrI x0 1) 1431655765)) 2) 858993459)) + (ushrI ((andI (x0 - (andI (ushrI x0 1) 1431655765)) 858993459) + (andI (ushrI (x0 - (andI (ushrI x0 1) 1431655765)) 2) 858993459)) 4)) 252645135) + (ushrI (andI (((andI (x0 - (andI (ushrI x0 1) 1431655765)) 858993459) + (andI (ushrI (x0 - (andI (ushrI x0 1) 1431655765)) 2) 858993459)) + (ushrI ((andI (x0 - (andI (ushrI x0 1) 1431655765)) 858993459) + (andI (ushrI (x0 - (andI (ushrI x0 1) 1431655765)) 2) 858993459)) 4)) 252645135) 8)) + (ushrI ((andI (((andI (x0 - (andI (ushrI x0 1) 1431655765)) 858993459) + (andI (ushrI (x0 - (andI (ushrI x0 1) 1431655765)) 2) 858993459)) + (ushrI ((andI (x0 - (andI (ushrI x0 1) 1431655765)) 858993459) + (andI (ushrI (x0 - (andI (ushrI x0 1) 1431655765)) 2) 858993459)) 4)) 252645135) + (ushrI (andI (((andI (x0 - (andI (ushrI x0 1) 1431655765)) 858993459) + (andI (ushrI (x0 - (andI (ushrI x0 1) 1431655765)) 2) 858993459)) + (ushrI ((andI (x0 - (andI (ushrI x0 1) 1431655765)) 858993459) + (andI (ushrI (x0 - (andI (ushrI x0 1) 1431655765)) 2) 858993459)) 4)) 252645135) 8)) 16))) <|
    some (andI (((andI (((andI (x0 - (andI (ushrI x0 1) 1431655765)) 858993459) + (andI (ushrI (x0 - (andI (ushrI x0 1) 1431655765)) 2) 858993459)) + (ushrI ((andI (x0 - (andI (ushrI x0 1) 1431655765)) 858993459) + (andI (ushrI (x0 - (andI (ushrI x0 1) 1431655765)) 2) 858993459)) 4)) 252645135) + (ushrI (andI (((andI (x0 - (andI (ushrI x0 1) 1431655765)) 858993459) + (andI (ushrI (x0 - (andI (ushrI x0 1) 1431655765)) 2) 858993459)) + (ushrI ((andI (x0 - (andI (ushrI x0 1) 1431655765)) 858993459) + (andI (ushrI (x0 - (andI (ushrI x0 1) 1431655765)) 2) 858993459)) 4)) 252645135) 8)) + (ushrI ((andI (((andI (x0 - (andI (ushrI x0 1) 1431655765)) 858993459) + (andI (ushrI (x0 - (andI (ushrI x0 1) 1431655765)) 2) 858993459)) + (ushrI ((andI (x0 - (andI (ushrI x0 1) 1431655765)) 858993459) + (andI (ushrI (x0 - (andI (ushrI x0 1) 1431655765)) 2) 858993459)) 4)) 252645135) + (ushrI (andI (((andI (x0 - (andI (ushrI x0 1) 1431655765)) 858993459) + (andI (ushrI (x0 - (andI (ushrI x0 1) 1431655765)) 2) 858993459)) + (ushrI ((andI (x0 - (andI (ushrI x0 1) 1431655765)) 858993459) + (andI (ushrI (x0 - (andI (ushrI x0 1) 1431655765)) 2) 858993459)) 4)) 252645135) 8)) 16)) 63)
set_option maxRecDepth 100000 in
theorem uJ6_bitCount_0f7a4 {g : SG} (hg : GOK g) {σ0 : SG} {h : HH} : ∀ {x0 : Int} {b : Int}, bJ6_bitCount_0f7a4 h x0 = some b → WK 274 (.inl (some (aI b))) σ0 (abH 2 70 g h) 0 [(0, aI x0)] [] (abH 2 70 g h) 0 0 := by
  intro x0 b q
  have e : bJ6_bitCount_0f7a4 h x0 = segP 2 70 g.2.2.2.2 h krPI clNP csJ6_bitCount_0f7a4 cuN 1000 0 [(0, aI x0)] [] := rfl
  rw [e] at q
  clear e
  refine segP_wk (by decide) (by decide) hg rwJ6_bitCount_0f7a4 CLKP_N krPI_ok ?_ q
  clear q
  exact ct_N
def nJ6_bitCount_0f7a4 (h : HH) (x0 : Int) : Option Int := bJ6_bitCount_0f7a4 h x0
theorem wJ6_bitCount_0f7a4 {g : SG} (hg : GOK g) {σ0 : SG} {h : HH} : ∀ {x0 : Int} {b : Int}, nJ6_bitCount_0f7a4 h x0 = some b → WK 274 (.inl (some (aI b))) σ0 (abH 2 70 g h) 0 [(0, aI x0)] [] (abH 2 70 g h) 0 0 := by
  intro x0 b q
  exact uJ6_bitCount_0f7a4 hg q
theorem mJ6_bitCount_0f7a4 {g : SG} (hg : GOK g) {h : HH} {x0 : Int} {b : Int} (q : nJ6_bitCount_0f7a4 h x0 = some b) : MCT 274 [] [aI x0] (abH 2 70 g h) (.inl (some (aI b))) (abH 2 70 g h) :=
  mct_of (by decide) (MFok 274 (by decide +kernel)) (fun _ => Nat.le_of_ble_eq_true rfl) (wJ6_bitCount_0f7a4 hg q)
def pJ6_bitCount_0f7a4 {β : Type} (z : HH → Int → Option Int) : PP β := fun h as f => skI as fun x0 as => skE as (bnd (z h x0) fun r => f (.inl (some (aI r))))
theorem pJ6_bitCount_0f7a4_ok {β : Type} {g : SG} (hg : GOK g) : CP1 (β := β) 274 (pJ6_bitCount_0f7a4 nJ6_bitCount_0f7a4) 2 70 g := fun h as f b q => by
  obtain ⟨x0, as, rfl, q1⟩ := skI_of q
  obtain ⟨rfl, q0⟩ := skE_of q1
  obtain ⟨r, z1, z2⟩ := bnd_of q0
  exact ⟨_, z2, by decide, mJ6_bitCount_0f7a4 hg z1, rfl, rfl, fun z => absurd z (by decide)⟩
def csX8_sixfold : List (Nat × List (Nat × ARow)) := [(41, [(0, 1, .iconst 0, 0, 0, 0), (1, 1, .istore_n 2, 0, 0, 0), (2, 1, .iconst 0, 0, 0, 0), (3, 1, .istore_n 3, 0, 0, 0), (4, 1, .iload_n 3, 0, 0, 0), (5, 2, .bipush 8, 0, 0, 0), (7, 3, .if_icmp .ge 55, 62, 0, 0), (10, 1, .iload_n 3, 0, 0, 0), (11, 1, .iload_n 1, 0, 0, 0), (12, 3, .invokestatic 55, 80, 2, 0), (15, 3, .ifCond .ne 41, 56, 0, 0), (18, 1, .iload_n 3, 0, 0, 0), (19, 3, .invokestatic 66, 274, 1, 0), (22, 1, .iconst 1, 0, 0, 0), (23, 3, .if_icmp .ne 7, 30, 0, 0), (26, 1, .iconst 1, 0, 0, 0), (27, 3, .goto 4, 31, 0, 0), (30, 1, .iconst 2, 0, 0, 0), (31, 2, .istore 4, 0, 0, 0), (33, 1, .iload_n 2, 0, 0, 0), (34, 2, .iload 4, 0, 0, 0), (36, 1, .aload_n 0, 0, 0, 0), (37, 3, .getfield 9, 8, 2, 2), (40, 1, .iload_n 3, 0, 0, 0)]),
  (100000, [(41, 1, .iconst 1, 0, 0, 0), (42, 1, .iload_n 1, 0, 0, 0), (43, 1, .ishl, 0, 0, 0), (44, 1, .ior, 0, 0, 0), (45, 1, .iaload, 0, 0, 0), (46, 1, .aload_n 0, 0, 0, 0), (47, 3, .getfield 9, 8, 2, 2), (50, 1, .iload_n 3, 0, 0, 0), (51, 1, .iaload, 0, 0, 0), (52, 1, .isub, 0, 0, 0), (53, 1, .imul, 0, 0, 0), (54, 1, .iadd, 0, 0, 0), (55, 1, .istore_n 2, 0, 0, 0), (56, 3, .iinc 3 1, 0, 0, 0), (59, 3, .goto (-55), 4, 0, 0), (62, 1, .iload_n 2, 0, 0, 0), (63, 1, .ireturn, 0, 0, 0)])]
theorem rwX8_sixfold : rowsB (mB 82) (mO 82) (mX 82) (mIni 82) (mFr 82) (mLo 82) (mT 82) csX8_sixfold = true := by decide +kernel
def bX8_sixfold_56 (h : HH) (c4 : Int → Int → Int → Option Int) (x1 : Int) (x2 : Int) (x3 : Int) : Option Int :=
  gd (R32 (x3 + 1)) <|
    c4 x1 x2 (x3 + 1)
theorem uX8_sixfold_56 {g : SG} (hg : GOK g) {σ0 : SG} {h : HH} {c4 : Int → Int → Int → Option Int} (k4 : ∀ (x1 : Int) (x2 : Int) (x3 : Int) (b : Int), c4 x1 x2 x3 = some b → WK 82 (.inl (some (aI b))) σ0 (abH 2 70 g h) 4 [(0, aR 65), (1, aI x1), (2, aI x2), (3, aI x3)] [] (abH 2 70 g h) 0 0) : ∀ {x1 : Int} {x2 : Int} {x3 : Int} {b : Int}, bX8_sixfold_56 h c4 x1 x2 x3 = some b → WK 82 (.inl (some (aI b))) σ0 (abH 2 70 g h) 56 [(0, aR 65), (1, aI x1), (2, aI x2), (3, aI x3)] [] (abH 2 70 g h) 0 0 := by
  intro x1 x2 x3 b q
  have e : bX8_sixfold_56 h c4 x1 x2 x3 = segP 2 70 g.2.2.2.2 h krPI clNP csX8_sixfold (cuC 4 (fun l st s => tkC 0 65 l <| tkI 1 l fun x1 => tkI 2 l fun x2 => tkI 3 l fun x3 => skE st (c4 x1 x2 x3)) cuN) 1000 56 [(0, aR 65), (1, aI x1), (2, aI x2), (3, aI x3)] [] := rfl
  rw [e] at q
  clear e
  refine segP_wk (by decide) (by decide) hg rwX8_sixfold CLKP_N krPI_ok ?_ q
  clear q
  refine ct_C ?_ (ct_N)
  · intro l st _ q
    obtain ⟨m0, q1⟩ := tkC_of q
    obtain ⟨x1, m1, q2⟩ := tkI_of q1
    obtain ⟨x2, m2, q3⟩ := tkI_of q2
    obtain ⟨x3, m3, q4⟩ := tkI_of q3
    obtain ⟨rfl, q5⟩ := skE_of q4
    exact WK_less (k4 _ _ _ _ q5) (List.forall_mem_cons.mpr ⟨m0, (List.forall_mem_cons.mpr ⟨m1, (List.forall_mem_cons.mpr ⟨m2, (List.forall_mem_cons.mpr ⟨m3, (fun _ h => absurd h List.not_mem_nil)⟩)⟩)⟩)⟩)
def nX8_sixfold_56 (h : HH) (c4 : Int → Int → Int → Option Int) (x1 : Int) (x2 : Int) (x3 : Int) : Option Int := bX8_sixfold_56 h c4 x1 x2 x3
theorem wX8_sixfold_56 {g : SG} (hg : GOK g) {σ0 : SG} {h : HH} {c4 : Int → Int → Int → Option Int} (k4 : ∀ (x1 : Int) (x2 : Int) (x3 : Int) (b : Int), c4 x1 x2 x3 = some b → WK 82 (.inl (some (aI b))) σ0 (abH 2 70 g h) 4 [(0, aR 65), (1, aI x1), (2, aI x2), (3, aI x3)] [] (abH 2 70 g h) 0 0) : ∀ {x1 : Int} {x2 : Int} {x3 : Int} {b : Int}, nX8_sixfold_56 h c4 x1 x2 x3 = some b → WK 82 (.inl (some (aI b))) σ0 (abH 2 70 g h) 56 [(0, aR 65), (1, aI x1), (2, aI x2), (3, aI x3)] [] (abH 2 70 g h) 0 0 := by
  intro x1 x2 x3 b q
  exact uX8_sixfold_56 hg k4 q
def bX8_sixfold_31 (h : HH) (c56 : Int → Int → Int → Option Int) (x1 : Int) (x2 : Int) (x3 : Int) (y0 : Int) : Option Int :=
  gd ((0 : Int) ≤ (orI x3 (shlI 1 x1)) ∧ (orI x3 (shlI 1 x1)) < (8 : Int)) <|
    gd ((0 : Int) ≤ x3 ∧ x3 < (8 : Int)) <|
    gd (R32 ((h.1 66 (orI x3 (shlI 1 x1))) - (h.1 66 x3))) <|
    gd (R32 (y0 * ((h.1 66 (orI x3 (shlI 1 x1))) - (h.1 66 x3)))) <|
    gd (R32 (x2 + (y0 * ((h.1 66 (orI x3 (shlI 1 x1))) - (h.1 66 x3))))) <|
    c56 x1 (x2 + (y0 * ((h.1 66 (orI x3 (shlI 1 x1))) - (h.1 66 x3)))) x3
theorem uX8_sixfold_31 {g : SG} (hg : GOK g) {σ0 : SG} {h : HH} {c56 : Int → Int → Int → Option Int} (k56 : ∀ (x1 : Int) (x2 : Int) (x3 : Int) (b : Int), c56 x1 x2 x3 = some b → WK 82 (.inl (some (aI b))) σ0 (abH 2 70 g h) 56 [(0, aR 65), (1, aI x1), (2, aI x2), (3, aI x3)] [] (abH 2 70 g h) 0 0) : ∀ {x1 : Int} {x2 : Int} {x3 : Int} {y0 : Int} {b : Int}, bX8_sixfold_31 h c56 x1 x2 x3 y0 = some b → WK 82 (.inl (some (aI b))) σ0 (abH 2 70 g h) 31 [(0, aR 65), (1, aI x1), (2, aI x2), (3, aI x3)] [aI y0] (abH 2 70 g h) 0 0 := by
  intro x1 x2 x3 y0 b q
  have e : bX8_sixfold_31 h c56 x1 x2 x3 y0 = segP 2 70 g.2.2.2.2 h krPI clNP csX8_sixfold (cuC 56 (fun l st s => tkC 0 65 l <| tkI 1 l fun x1 => tkI 2 l fun x2 => tkI 3 l fun x3 => skE st (c56 x1 x2 x3)) cuN) 1000 31 [(0, aR 65), (1, aI x1), (2, aI x2), (3, aI x3)] [aI y0] := rfl
  rw [e] at q
  clear e
  refine segP_wk (by decide) (by decide) hg rwX8_sixfold CLKP_N krPI_ok ?_ q
  clear q
  refine ct_C ?_ (ct_N)
  · intro l st _ q
    obtain ⟨m0, q1⟩ := tkC_of q
    obtain ⟨x1, m1, q2⟩ := tkI_of q1
    obtain ⟨x2, m2, q3⟩ := tkI_of q2
    obtain ⟨x3, m3, q4⟩ := tkI_of q3
    obtain ⟨rfl, q5⟩ := skE_of q4
    exact WK_less (k56 _ _ _ _ q5) (List.forall_mem_cons.mpr ⟨m0, (List.forall_mem_cons.mpr ⟨m1, (List.forall_mem_cons.mpr ⟨m2, (List.forall_mem_cons.mpr ⟨m3, (fun _ h => absurd h List.not_mem_nil)⟩)⟩)⟩)⟩)
def nX8_sixfold_31 (h : HH) (c4 : Int → Int → Int → Option Int) (x1 : Int) (x2 : Int) (x3 : Int) (y0 : Int) : Option Int := bX8_sixfold_31 h (nX8_sixfold_56 h c4) x1 x2 x3 y0
theorem wX8_sixfold_31 {g : SG} (hg : GOK g) {σ0 : SG} {h : HH} {c4 : Int → Int → Int → Option Int} (k4 : ∀ (x1 : Int) (x2 : Int) (x3 : Int) (b : Int), c4 x1 x2 x3 = some b → WK 82 (.inl (some (aI b))) σ0 (abH 2 70 g h) 4 [(0, aR 65), (1, aI x1), (2, aI x2), (3, aI x3)] [] (abH 2 70 g h) 0 0) : ∀ {x1 : Int} {x2 : Int} {x3 : Int} {y0 : Int} {b : Int}, nX8_sixfold_31 h c4 x1 x2 x3 y0 = some b → WK 82 (.inl (some (aI b))) σ0 (abH 2 70 g h) 31 [(0, aR 65), (1, aI x1), (2, aI x2), (3, aI x3)] [aI y0] (abH 2 70 g h) 0 0 := by
  intro x1 x2 x3 y0 b q
  exact uX8_sixfold_31 hg (fun _ _ _ _ q => wX8_sixfold_56 hg k4 q) q
def bX8_sixfold_4 (f80 : HH → Int → Int → Option Int) (f274 : HH → Int → Option Int) (h : HH) (c31 : Int → Int → Int → Int → Option Int) (c56 : Int → Int → Int → Option Int) (x1 : Int) (x2 : Int) (x3 : Int) : Option Int :=
  if x3 < (8 : Int) then
    bnd (f80 h x3 x1) fun r1 =>
    if r1 = (0 : Int) then
    bnd (f274 h x3) fun r2 =>
    if r2 = (1 : Int) then
    c31 x1 x2 x3 1
  else
    c31 x1 x2 x3 2
  else
    c56 x1 x2 x3
  else
    some x2
theorem uX8_sixfold_4 {g : SG} (hg : GOK g) {σ0 : SG} {h : HH} {c31 : Int → Int → Int → Int → Option Int} {c56 : Int → Int → Int → Option Int} (k31 : ∀ (x1 : Int) (x2 : Int) (x3 : Int) (y0 : Int) (b : Int), c31 x1 x2 x3 y0 = some b → WK 82 (.inl (some (aI b))) σ0 (abH 2 70 g h) 31 [(0, aR 65), (1, aI x1), (2, aI x2), (3, aI x3)] [aI y0] (abH 2 70 g h) 0 0) (k56 : ∀ (x1 : Int) (x2 : Int) (x3 : Int) (b : Int), c56 x1 x2 x3 = some b → WK 82 (.inl (some (aI b))) σ0 (abH 2 70 g h) 56 [(0, aR 65), (1, aI x1), (2, aI x2), (3, aI x3)] [] (abH 2 70 g h) 0 0) : ∀ {x1 : Int} {x2 : Int} {x3 : Int} {b : Int}, bX8_sixfold_4 nX8_isIn nJ6_bitCount_0f7a4 h c31 c56 x1 x2 x3 = some b → WK 82 (.inl (some (aI b))) σ0 (abH 2 70 g h) 4 [(0, aR 65), (1, aI x1), (2, aI x2), (3, aI x3)] [] (abH 2 70 g h) 0 0 := by
  intro x1 x2 x3 b q
  have e : ∀ (f80 : HH → Int → Int → Option Int) (f274 : HH → Int → Option Int) , bX8_sixfold_4 f80 f274 h c31 c56 x1 x2 x3 = segP 2 70 g.2.2.2.2 h krPI (clCP 80 (pX8_isIn f80 h) (clCP 274 (pJ6_bitCount_0f7a4 f274 h) clNP)) csX8_sixfold (cuC 31 (fun l st s => tkC 0 65 l <| tkI 1 l fun x1 => tkI 2 l fun x2 => tkI 3 l fun x3 => skI st fun y0 st => skE st (c31 x1 x2 x3 y0)) (cuC 56 (fun l st s => tkC 0 65 l <| tkI 1 l fun x1 => tkI 2 l fun x2 => tkI 3 l fun x3 => skE st (c56 x1 x2 x3)) cuN)) 1000 4 [(0, aR 65), (1, aI x1), (2, aI x2), (3, aI x3)] [] := fun _ _ => rfl
  rw [e nX8_isIn nJ6_bitCount_0f7a4] at q
  clear e
  refine segP_wk (by decide) (by decide) hg rwX8_sixfold (CLKP_C (pX8_isIn_ok hg) (CLKP_C (pJ6_bitCount_0f7a4_ok hg) CLKP_N)) krPI_ok ?_ q
  clear q
  refine ct_C ?_ (ct_C ?_ (ct_N))
  · intro l st _ q
    obtain ⟨m0, q1⟩ := tkC_of q
    obtain ⟨x1, m1, q2⟩ := tkI_of q1
    obtain ⟨x2, m2, q3⟩ := tkI_of q2
    obtain ⟨x3, m3, q4⟩ := tkI_of q3
    obtain ⟨y0, t0, rfl, q5⟩ := skI_of q4
    obtain ⟨rfl, q6⟩ := skE_of q5
    exact WK_less (k31 _ _ _ _ _ q6) (List.forall_mem_cons.mpr ⟨m0, (List.forall_mem_cons.mpr ⟨m1, (List.forall_mem_cons.mpr ⟨m2, (List.forall_mem_cons.mpr ⟨m3, (fun _ h => absurd h List.not_mem_nil)⟩)⟩)⟩)⟩)
  · intro l st _ q
    obtain ⟨m0, q1⟩ := tkC_of q
    obtain ⟨x1, m1, q2⟩ := tkI_of q1
    obtain ⟨x2, m2, q3⟩ := tkI_of q2
    obtain ⟨x3, m3, q4⟩ := tkI_of q3
    obtain ⟨rfl, q5⟩ := skE_of q4
    exact WK_less (k56 _ _ _ _ q5) (List.forall_mem_cons.mpr ⟨m0, (List.forall_mem_cons.mpr ⟨m1, (List.forall_mem_cons.mpr ⟨m2, (List.forall_mem_cons.mpr ⟨m3, (fun _ h => absurd h List.not_mem_nil)⟩)⟩)⟩)⟩)
def nX8_sixfold_4 (h : HH) : Nat → Int → Int → Int → Option Int := iter (fun _ _ _ => none) (fun self => bX8_sixfold_4 nX8_isIn nJ6_bitCount_0f7a4 h (nX8_sixfold_31 h self) (nX8_sixfold_56 h self))
theorem nX8_sixfold_4_s {h : HH} {F : Nat} : nX8_sixfold_4 h (F + 1) = bX8_sixfold_4 nX8_isIn nJ6_bitCount_0f7a4 h (nX8_sixfold_31 h (nX8_sixfold_4 h F)) (nX8_sixfold_56 h (nX8_sixfold_4 h F)) := rfl
theorem wX8_sixfold_4 {g : SG} (hg : GOK g) {σ0 : SG} {h : HH} : ∀ {F : Nat}, ∀ {x1 : Int} {x2 : Int} {x3 : Int} {b : Int}, nX8_sixfold_4 h F x1 x2 x3 = some b → WK 82 (.inl (some (aI b))) σ0 (abH 2 70 g h) 4 [(0, aR 65), (1, aI x1), (2, aI x2), (3, aI x3)] [] (abH 2 70 g h) 0 0 := by
  intro F
  have z : ∀ (x1 : Int) (x2 : Int) (x3 : Int) (b : Int), nX8_sixfold_4 h F x1 x2 x3 = some b → WK 82 (.inl (some (aI b))) σ0 (abH 2 70 g h) 4 [(0, aR 65), (1, aI x1), (2, aI x2), (3, aI x3)] [] (abH 2 70 g h) 0 0 := iter_ind (P := fun (c : Int → Int → Int → Option Int) => ∀ (x1 : Int) (x2 : Int) (x3 : Int) (b : Int), c x1 x2 x3 = some b → WK 82 (.inl (some (aI b))) σ0 (abH 2 70 g h) 4 [(0, aR 65), (1, aI x1), (2, aI x2), (3, aI x3)] [] (abH 2 70 g h) 0 0) (by
    intro x1 x2 x3 b q
    cases q) (fun self ih => by
    intro x1 x2 x3 b q
    exact uX8_sixfold_4 hg (fun _ _ _ _ _ q => wX8_sixfold_31 hg ih q) (fun _ _ _ _ q => wX8_sixfold_56 hg ih q) q) F
  intro x1 x2 x3 b q
  exact z _ _ _ _ q
def bX8_sixfold (h : HH) (c4 : Int → Int → Int → Option Int) (x1 : Int) : Option Int :=
  c4 x1 0 0
theorem uX8_sixfold {g : SG} (hg : GOK g) {σ0 : SG} {h : HH} {c4 : Int → Int → Int → Option Int} (k4 : ∀ (x1 : Int) (x2 : Int) (x3 : Int) (b : Int), c4 x1 x2 x3 = some b → WK 82 (.inl (some (aI b))) σ0 (abH 2 70 g h) 4 [(0, aR 65), (1, aI x1), (2, aI x2), (3, aI x3)] [] (abH 2 70 g h) 0 0) : ∀ {x1 : Int} {b : Int}, bX8_sixfold h c4 x1 = some b → WK 82 (.inl (some (aI b))) σ0 (abH 2 70 g h) 0 [(0, aR 65), (1, aI x1)] [] (abH 2 70 g h) 0 0 := by
  intro x1 b q
  have e : bX8_sixfold h c4 x1 = segP 2 70 g.2.2.2.2 h krPI clNP csX8_sixfold (cuC 4 (fun l st s => tkC 0 65 l <| tkI 1 l fun x1 => tkI 2 l fun x2 => tkI 3 l fun x3 => skE st (c4 x1 x2 x3)) cuN) 1000 0 [(0, aR 65), (1, aI x1)] [] := rfl
  rw [e] at q
  clear e
  refine segP_wk (by decide) (by decide) hg rwX8_sixfold CLKP_N krPI_ok ?_ q
  clear q
  refine ct_C ?_ (ct_N)
  · intro l st _ q
    obtain ⟨m0, q1⟩ := tkC_of q
    obtain ⟨x1, m1, q2⟩ := tkI_of q1
    obtain ⟨x2, m2, q3⟩ := tkI_of q2
    obtain ⟨x3, m3, q4⟩ := tkI_of q3
    obtain ⟨rfl, q5⟩ := skE_of q4
    exact WK_less (k4 _ _ _ _ q5) (List.forall_mem_cons.mpr ⟨m0, (List.forall_mem_cons.mpr ⟨m1, (List.forall_mem_cons.mpr ⟨m2, (List.forall_mem_cons.mpr ⟨m3, (fun _ h => absurd h List.not_mem_nil)⟩)⟩)⟩)⟩)
def nX8_sixfold (h : HH) (x1 : Int) : Option Int := bX8_sixfold h (nX8_sixfold_4 h 100000) x1
theorem wX8_sixfold {g : SG} (hg : GOK g) {σ0 : SG} {h : HH} : ∀ {x1 : Int} {b : Int}, nX8_sixfold h x1 = some b → WK 82 (.inl (some (aI b))) σ0 (abH 2 70 g h) 0 [(0, aR 65), (1, aI x1)] [] (abH 2 70 g h) 0 0 := by
  intro x1 b q
  exact uX8_sixfold hg (fun _ _ _ _ q => wX8_sixfold_4 hg q) q
theorem mX8_sixfold {g : SG} (hg : GOK g) {h : HH} {x1 : Int} {b : Int} (q : nX8_sixfold h x1 = some b) : MCT 82 [] [aR 65, aI x1] (abH 2 70 g h) (.inl (some (aI b))) (abH 2 70 g h) :=
  mct_of (by decide) (MFok 82 (by decide +kernel)) (fun _ => Nat.le_of_ble_eq_true rfl) (wX8_sixfold hg q)
def pX8_sixfold {β : Type} (z : HH → Int → Option Int) : PP β := fun h as f => skC 65 as fun as => skI as fun x1 as => skE as (bnd (z h x1) fun r => f (.inl (some (aI r))))
theorem pX8_sixfold_ok {β : Type} {g : SG} (hg : GOK g) : CP1 (β := β) 82 (pX8_sixfold nX8_sixfold) 2 70 g := fun h as f b q => by
  obtain ⟨as, rfl, q1⟩ := skC_of q
  obtain ⟨x1, as, rfl, q2⟩ := skI_of q1
  obtain ⟨rfl, q0⟩ := skE_of q2
  obtain ⟨r, z1, z2⟩ := bnd_of q0
  exact ⟨_, z2, by decide, mX8_sixfold hg z1, rfl, rfl, fun z => absurd z (by decide)⟩
def csX8_sixfoldOfSet : List (Nat × List (Nat × ARow)) := [(100000, [(0, 1, .iconst 0, 0, 0, 0), (1, 1, .istore_n 2, 0, 0, 0), (2, 1, .iconst 0, 0, 0, 0), (3, 1, .istore_n 3, 0, 0, 0), (4, 1, .iload_n 3, 0, 0, 0), (5, 1, .iconst 3, 0, 0, 0), (6, 3, .if_icmp .ge 29, 35, 0, 0), (9, 1, .iload_n 2, 0, 0, 0), (10, 1, .iload_n 1, 0, 0, 0), (11, 1, .iload_n 3, 0, 0, 0), (12, 3, .invokestatic 55, 80, 2, 0), (15, 3, .ifCond .eq 11, 26, 0, 0), (18, 1, .aload_n 0, 0, 0, 0), (19, 1, .iload_n 3, 0, 0, 0), (20, 3, .invokevirtual 71, 82, 2, 8), (23, 3, .goto 4, 27, 0, 0), (26, 1, .iconst 0, 0, 0, 0), (27, 1, .iadd, 0, 0, 0), (28, 1, .istore_n 2, 0, 0, 0), (29, 3, .iinc 3 1, 0, 0, 0), (32, 3, .goto (-28), 4, 0, 0), (35, 1, .iload_n 2, 0, 0, 0), (36, 1, .ireturn, 0, 0, 0)])]
theorem rwX8_sixfoldOfSet : rowsB (mB 83) (mO 83) (mX 83) (mIni 83) (mFr 83) (mLo 83) (mT 83) csX8_sixfoldOfSet = true := by decide +kernel
def bX8_sixfoldOfSet_27 (h : HH) (c4 : Int → Int → Int → Option Int) (x1 : Int) (x3 : Int) (y0 : Int) (y1 : Int) : Option Int :=
  gd (R32 (y1 + y0)) <|
    gd (R32 (x3 + 1)) <|
    c4 x1 (y1 + y0) (x3 + 1)
theorem uX8_sixfoldOfSet_27 {g : SG} (hg : GOK g) {σ0 : SG} {h : HH} {c4 : Int → Int → Int → Option Int} (k4 : ∀ (x1 : Int) (x2 : Int) (x3 : Int) (b : Int), c4 x1 x2 x3 = some b → WK 83 (.inl (some (aI b))) σ0 (abH 2 70 g h) 4 [(0, aR 65), (1, aI x1), (2, aI x2), (3, aI x3)] [] (abH 2 70 g h) 0 0) : ∀ {x1 : Int} {x3 : Int} {y0 : Int} {y1 : Int} {b : Int}, bX8_sixfoldOfSet_27 h c4 x1 x3 y0 y1 = some b → WK 83 (.inl (some (aI b))) σ0 (abH 2 70 g h) 27 [(0, aR 65), (1, aI x1), (3, aI x3)] [aI y0, aI y1] (abH 2 70 g h) 0 0 := by
  intro x1 x3 y0 y1 b q
  have e : bX8_sixfoldOfSet_27 h c4 x1 x3 y0 y1 = segP 2 70 g.2.2.2.2 h krPI clNP csX8_sixfoldOfSet (cuC 4 (fun l st s => tkC 0 65 l <| tkI 1 l fun x1 => tkI 2 l fun x2 => tkI 3 l fun x3 => skE st (c4 x1 x2 x3)) cuN) 1000 27 [(0, aR 65), (1, aI x1), (3, aI x3)] [aI y0, aI y1] := rfl
  rw [e] at q
  clear e
  refine segP_wk (by decide) (by decide) hg rwX8_sixfoldOfSet CLKP_N krPI_ok ?_ q
  clear q
  refine ct_C ?_ (ct_N)
  · intro l st _ q
    obtain ⟨m0, q1⟩ := tkC_of q
    obtain ⟨x1, m1, q2⟩ := tkI_of q1
    obtain ⟨x2, m2, q3⟩ := tkI_of q2
    obtain ⟨x3, m3, q4⟩ := tkI_of q3
    obtain ⟨rfl, q5⟩ := skE_of q4
    exact WK_less (k4 _ _ _ _ q5) (List.forall_mem_cons.mpr ⟨m0, (List.forall_mem_cons.mpr ⟨m1, (List.forall_mem_cons.mpr ⟨m2, (List.forall_mem_cons.mpr ⟨m3, (fun _ h => absurd h List.not_mem_nil)⟩)⟩)⟩)⟩)
def nX8_sixfoldOfSet_27 (h : HH) (c4 : Int → Int → Int → Option Int) (x1 : Int) (x3 : Int) (y0 : Int) (y1 : Int) : Option Int := bX8_sixfoldOfSet_27 h c4 x1 x3 y0 y1
theorem wX8_sixfoldOfSet_27 {g : SG} (hg : GOK g) {σ0 : SG} {h : HH} {c4 : Int → Int → Int → Option Int} (k4 : ∀ (x1 : Int) (x2 : Int) (x3 : Int) (b : Int), c4 x1 x2 x3 = some b → WK 83 (.inl (some (aI b))) σ0 (abH 2 70 g h) 4 [(0, aR 65), (1, aI x1), (2, aI x2), (3, aI x3)] [] (abH 2 70 g h) 0 0) : ∀ {x1 : Int} {x3 : Int} {y0 : Int} {y1 : Int} {b : Int}, nX8_sixfoldOfSet_27 h c4 x1 x3 y0 y1 = some b → WK 83 (.inl (some (aI b))) σ0 (abH 2 70 g h) 27 [(0, aR 65), (1, aI x1), (3, aI x3)] [aI y0, aI y1] (abH 2 70 g h) 0 0 := by
  intro x1 x3 y0 y1 b q
  exact uX8_sixfoldOfSet_27 hg k4 q
def bX8_sixfoldOfSet_4 (f80 : HH → Int → Int → Option Int) (f82 : HH → Int → Option Int) (h : HH) (c27 : Int → Int → Int → Int → Option Int) (x1 : Int) (x2 : Int) (x3 : Int) : Option Int :=
  if x3 < (3 : Int) then
    bnd (f80 h x1 x3) fun r1 =>
    if r1 = (0 : Int) then
    c27 x1 x3 0 x2
  else
    bnd (f82 h x3) fun r2 =>
    c27 x1 x3 r2 x2
  else
    some x2
theorem uX8_sixfoldOfSet_4 {g : SG} (hg : GOK g) {σ0 : SG} {h : HH} {c27 : Int → Int → Int → Int → Option Int} (k27 : ∀ (x1 : Int) (x3 : Int) (y0 : Int) (y1 : Int) (b : Int), c27 x1 x3 y0 y1 = some b → WK 83 (.inl (some (aI b))) σ0 (abH 2 70 g h) 27 [(0, aR 65), (1, aI x1), (3, aI x3)] [aI y0, aI y1] (abH 2 70 g h) 0 0) : ∀ {x1 : Int} {x2 : Int} {x3 : Int} {b : Int}, bX8_sixfoldOfSet_4 nX8_isIn nX8_sixfold h c27 x1 x2 x3 = some b → WK 83 (.inl (some (aI b))) σ0 (abH 2 70 g h) 4 [(0, aR 65), (1, aI x1), (2, aI x2), (3, aI x3)] [] (abH 2 70 g h) 0 0 := by
  intro x1 x2 x3 b q
  have e : ∀ (f80 : HH → Int → Int → Option Int) (f82 : HH → Int → Option Int) , bX8_sixfoldOfSet_4 f80 f82 h c27 x1 x2 x3 = segP 2 70 g.2.2.2.2 h krPI (clCP 80 (pX8_isIn f80 h) (clCP 82 (pX8_sixfold f82 h) clNP)) csX8_sixfoldOfSet (cuC 27 (fun l st s => tkC 0 65 l <| tkI 1 l fun x1 => tkI 3 l fun x3 => skI st fun y0 st => skI st fun y1 st => skE st (c27 x1 x3 y0 y1)) cuN) 1000 4 [(0, aR 65), (1, aI x1), (2, aI x2), (3, aI x3)] [] := fun _ _ => rfl
  rw [e nX8_isIn nX8_sixfold] at q
  clear e
  refine segP_wk (by decide) (by decide) hg rwX8_sixfoldOfSet (CLKP_C (pX8_isIn_ok hg) (CLKP_C (pX8_sixfold_ok hg) CLKP_N)) krPI_ok ?_ q
  clear q
  refine ct_C ?_ (ct_N)
  · intro l st _ q
    obtain ⟨m0, q1⟩ := tkC_of q
    obtain ⟨x1, m1, q2⟩ := tkI_of q1
    obtain ⟨x3, m3, q3⟩ := tkI_of q2
    obtain ⟨y0, t0, rfl, q4⟩ := skI_of q3
    obtain ⟨y1, t1, rfl, q5⟩ := skI_of q4
    obtain ⟨rfl, q6⟩ := skE_of q5
    exact WK_less (k27 _ _ _ _ _ q6) (List.forall_mem_cons.mpr ⟨m0, (List.forall_mem_cons.mpr ⟨m1, (List.forall_mem_cons.mpr ⟨m3, (fun _ h => absurd h List.not_mem_nil)⟩)⟩)⟩)
def nX8_sixfoldOfSet_4 (h : HH) : Nat → Int → Int → Int → Option Int := iter (fun _ _ _ => none) (fun self => bX8_sixfoldOfSet_4 nX8_isIn nX8_sixfold h (nX8_sixfoldOfSet_27 h self))
theorem nX8_sixfoldOfSet_4_s {h : HH} {F : Nat} : nX8_sixfoldOfSet_4 h (F + 1) = bX8_sixfoldOfSet_4 nX8_isIn nX8_sixfold h (nX8_sixfoldOfSet_27 h (nX8_sixfoldOfSet_4 h F)) := rfl
theorem wX8_sixfoldOfSet_4 {g : SG} (hg : GOK g) {σ0 : SG} {h : HH} : ∀ {F : Nat}, ∀ {x1 : Int} {x2 : Int} {x3 : Int} {b : Int}, nX8_sixfoldOfSet_4 h F x1 x2 x3 = some b → WK 83 (.inl (some (aI b))) σ0 (abH 2 70 g h) 4 [(0, aR 65), (1, aI x1), (2, aI x2), (3, aI x3)] [] (abH 2 70 g h) 0 0 := by
  intro F
  have z : ∀ (x1 : Int) (x2 : Int) (x3 : Int) (b : Int), nX8_sixfoldOfSet_4 h F x1 x2 x3 = some b → WK 83 (.inl (some (aI b))) σ0 (abH 2 70 g h) 4 [(0, aR 65), (1, aI x1), (2, aI x2), (3, aI x3)] [] (abH 2 70 g h) 0 0 := iter_ind (P := fun (c : Int → Int → Int → Option Int) => ∀ (x1 : Int) (x2 : Int) (x3 : Int) (b : Int), c x1 x2 x3 = some b → WK 83 (.inl (some (aI b))) σ0 (abH 2 70 g h) 4 [(0, aR 65), (1, aI x1), (2, aI x2), (3, aI x3)] [] (abH 2 70 g h) 0 0) (by
    intro x1 x2 x3 b q
    cases q) (fun self ih => by
    intro x1 x2 x3 b q
    exact uX8_sixfoldOfSet_4 hg (fun _ _ _ _ _ q => wX8_sixfoldOfSet_27 hg ih q) q) F
  intro x1 x2 x3 b q
  exact z _ _ _ _ q
def bX8_sixfoldOfSet (h : HH) (c4 : Int → Int → Int → Option Int) (x1 : Int) : Option Int :=
  c4 x1 0 0
theorem uX8_sixfoldOfSet {g : SG} (hg : GOK g) {σ0 : SG} {h : HH} {c4 : Int → Int → Int → Option Int} (k4 : ∀ (x1 : Int) (x2 : Int) (x3 : Int) (b : Int), c4 x1 x2 x3 = some b → WK 83 (.inl (some (aI b))) σ0 (abH 2 70 g h) 4 [(0, aR 65), (1, aI x1), (2, aI x2), (3, aI x3)] [] (abH 2 70 g h) 0 0) : ∀ {x1 : Int} {b : Int}, bX8_sixfoldOfSet h c4 x1 = some b → WK 83 (.inl (some (aI b))) σ0 (abH 2 70 g h) 0 [(0, aR 65), (1, aI x1)] [] (abH 2 70 g h) 0 0 := by
  intro x1 b q
  have e : bX8_sixfoldOfSet h c4 x1 = segP 2 70 g.2.2.2.2 h krPI clNP csX8_sixfoldOfSet (cuC 4 (fun l st s => tkC 0 65 l <| tkI 1 l fun x1 => tkI 2 l fun x2 => tkI 3 l fun x3 => skE st (c4 x1 x2 x3)) cuN) 1000 0 [(0, aR 65), (1, aI x1)] [] := rfl
  rw [e] at q
  clear e
  refine segP_wk (by decide) (by decide) hg rwX8_sixfoldOfSet CLKP_N krPI_ok ?_ q
  clear q
  refine ct_C ?_ (ct_N)
  · intro l st _ q
    obtain ⟨m0, q1⟩ := tkC_of q
    obtain ⟨x1, m1, q2⟩ := tkI_of q1
    obtain ⟨x2, m2, q3⟩ := tkI_of q2
    obtain ⟨x3, m3, q4⟩ := tkI_of q3
    obtain ⟨rfl, q5⟩ := skE_of q4
    exact WK_less (k4 _ _ _ _ q5) (List.forall_mem_cons.mpr ⟨m0, (List.forall_mem_cons.mpr ⟨m1, (List.forall_mem_cons.mpr ⟨m2, (List.forall_mem_cons.mpr ⟨m3, (fun _ h => absurd h List.not_mem_nil)⟩)⟩)⟩)⟩)
def nX8_sixfoldOfSet (h : HH) (x1 : Int) : Option Int := bX8_sixfoldOfSet h (nX8_sixfoldOfSet_4 h 100000) x1
theorem wX8_sixfoldOfSet {g : SG} (hg : GOK g) {σ0 : SG} {h : HH} : ∀ {x1 : Int} {b : Int}, nX8_sixfoldOfSet h x1 = some b → WK 83 (.inl (some (aI b))) σ0 (abH 2 70 g h) 0 [(0, aR 65), (1, aI x1)] [] (abH 2 70 g h) 0 0 := by
  intro x1 b q
  exact uX8_sixfoldOfSet hg (fun _ _ _ _ q => wX8_sixfoldOfSet_4 hg q) q
theorem mX8_sixfoldOfSet {g : SG} (hg : GOK g) {h : HH} {x1 : Int} {b : Int} (q : nX8_sixfoldOfSet h x1 = some b) : MCT 83 [] [aR 65, aI x1] (abH 2 70 g h) (.inl (some (aI b))) (abH 2 70 g h) :=
  mct_of (by decide) (MFok 83 (by decide +kernel)) (fun _ => Nat.le_of_ble_eq_true rfl) (wX8_sixfoldOfSet hg q)
def pX8_sixfoldOfSet {β : Type} (z : HH → Int → Option Int) : PP β := fun h as f => skC 65 as fun as => skI as fun x1 as => skE as (bnd (z h x1) fun r => f (.inl (some (aI r))))
theorem pX8_sixfoldOfSet_ok {β : Type} {g : SG} (hg : GOK g) : CP1 (β := β) 83 (pX8_sixfoldOfSet nX8_sixfoldOfSet) 2 70 g := fun h as f b q => by
  obtain ⟨as, rfl, q1⟩ := skC_of q
  obtain ⟨x1, as, rfl, q2⟩ := skI_of q1
  obtain ⟨rfl, q0⟩ := skE_of q2
  obtain ⟨r, z1, z2⟩ := bnd_of q0
  exact ⟨_, z2, by decide, mX8_sixfoldOfSet hg z1, rfl, rfl, fun z => absurd z (by decide)⟩
def csX8_blockingSets : List (Nat × List (Nat × ARow)) := [(36, [(0, 1, .iconst 0, 0, 0, 0), (1, 1, .istore_n 1, 0, 0, 0), (2, 1, .iconst 1, 0, 0, 0), (3, 1, .istore_n 2, 0, 0, 0), (4, 1, .iload_n 2, 0, 0, 0), (5, 2, .bipush 8, 0, 0, 0), (7, 3, .if_icmp .ge 32, 39, 0, 0), (10, 1, .aload_n 0, 0, 0, 0), (11, 1, .iload_n 2, 0, 0, 0), (12, 3, .invokevirtual 74, 83, 2, 8), (15, 2, .bipush 6, 0, 0, 0), (17, 1, .aload_n 0, 0, 0, 0), (18, 3, .getfield 9, 8, 2, 2), (21, 1, .iload_n 2, 0, 0, 0), (22, 1, .iaload, 0, 0, 0), (23, 1, .imul, 0, 0, 0), (24, 3, .if_icmp .le 9, 33, 0, 0), (27, 1, .iload_n 1, 0, 0, 0), (28, 1, .iconst 1, 0, 0, 0), (29, 1, .iload_n 2, 0, 0, 0), (30, 1, .ishl, 0, 0, 0), (31, 1, .ior, 0, 0, 0), (32, 1, .istore_n 1, 0, 0, 0), (33, 3, .iinc 2 1, 0, 0, 0)]),
  (100000, [(36, 3, .goto (-32), 4, 0, 0), (39, 1, .iload_n 1, 0, 0, 0), (40, 1, .ireturn, 0, 0, 0)])]
theorem rwX8_blockingSets : rowsB (mB 84) (mO 84) (mX 84) (mIni 84) (mFr 84) (mLo 84) (mT 84) csX8_blockingSets = true := by decide +kernel
def bX8_blockingSets_33 (h : HH) (c4 : Int → Int → Option Int) (x1 : Int) (x2 : Int) : Option Int :=
  gd (R32 (x2 + 1)) <|
    c4 x1 (x2 + 1)
theorem uX8_blockingSets_33 {g : SG} (hg : GOK g) {σ0 : SG} {h : HH} {c4 : Int → Int → Option Int} (k4 : ∀ (x1 : Int) (x2 : Int) (b : Int), c4 x1 x2 = some b → WK 84 (.inl (some (aI b))) σ0 (abH 2 70 g h) 4 [(0, aR 65), (1, aI x1), (2, aI x2)] [] (abH 2 70 g h) 0 0) : ∀ {x1 : Int} {x2 : Int} {b : Int}, bX8_blockingSets_33 h c4 x1 x2 = some b → WK 84 (.inl (some (aI b))) σ0 (abH 2 70 g h) 33 [(0, aR 65), (1, aI x1), (2, aI x2)] [] (abH 2 70 g h) 0 0 := by
  intro x1 x2 b q
  have e : bX8_blockingSets_33 h c4 x1 x2 = segP 2 70 g.2.2.2.2 h krPI clNP csX8_blockingSets (cuC 4 (fun l st s => tkC 0 65 l <| tkI 1 l fun x1 => tkI 2 l fun x2 => skE st (c4 x1 x2)) cuN) 1000 33 [(0, aR 65), (1, aI x1), (2, aI x2)] [] := rfl
  rw [e] at q
  clear e
  refine segP_wk (by decide) (by decide) hg rwX8_blockingSets CLKP_N krPI_ok ?_ q
  clear q
  refine ct_C ?_ (ct_N)
  · intro l st _ q
    obtain ⟨m0, q1⟩ := tkC_of q
    obtain ⟨x1, m1, q2⟩ := tkI_of q1
    obtain ⟨x2, m2, q3⟩ := tkI_of q2
    obtain ⟨rfl, q4⟩ := skE_of q3
    exact WK_less (k4 _ _ _ q4) (List.forall_mem_cons.mpr ⟨m0, (List.forall_mem_cons.mpr ⟨m1, (List.forall_mem_cons.mpr ⟨m2, (fun _ h => absurd h List.not_mem_nil)⟩)⟩)⟩)
def nX8_blockingSets_33 (h : HH) (c4 : Int → Int → Option Int) (x1 : Int) (x2 : Int) : Option Int := bX8_blockingSets_33 h c4 x1 x2
theorem wX8_blockingSets_33 {g : SG} (hg : GOK g) {σ0 : SG} {h : HH} {c4 : Int → Int → Option Int} (k4 : ∀ (x1 : Int) (x2 : Int) (b : Int), c4 x1 x2 = some b → WK 84 (.inl (some (aI b))) σ0 (abH 2 70 g h) 4 [(0, aR 65), (1, aI x1), (2, aI x2)] [] (abH 2 70 g h) 0 0) : ∀ {x1 : Int} {x2 : Int} {b : Int}, nX8_blockingSets_33 h c4 x1 x2 = some b → WK 84 (.inl (some (aI b))) σ0 (abH 2 70 g h) 33 [(0, aR 65), (1, aI x1), (2, aI x2)] [] (abH 2 70 g h) 0 0 := by
  intro x1 x2 b q
  exact uX8_blockingSets_33 hg k4 q
def bX8_blockingSets_4 (f83 : HH → Int → Option Int) (h : HH) (c33 : Int → Int → Option Int) (x1 : Int) (x2 : Int) : Option Int :=
  if x2 < (8 : Int) then
    bnd (f83 h x2) fun r1 =>
    gd ((0 : Int) ≤ x2 ∧ x2 < (8 : Int)) <|
    gd (R32 (6 * (h.1 66 x2))) <|
    if ((6 * (h.1 66 x2)) : Int) < r1 then
    c33 (orI x1 (shlI 1 x2)) x2
  else
    c33 x1 x2
  else
    some x1
theorem uX8_blockingSets_4 {g : SG} (hg : GOK g) {σ0 : SG} {h : HH} {c33 : Int → Int → Option Int} (k33 : ∀ (x1 : Int) (x2 : Int) (b : Int), c33 x1 x2 = some b → WK 84 (.inl (some (aI b))) σ0 (abH 2 70 g h) 33 [(0, aR 65), (1, aI x1), (2, aI x2)] [] (abH 2 70 g h) 0 0) : ∀ {x1 : Int} {x2 : Int} {b : Int}, bX8_blockingSets_4 nX8_sixfoldOfSet h c33 x1 x2 = some b → WK 84 (.inl (some (aI b))) σ0 (abH 2 70 g h) 4 [(0, aR 65), (1, aI x1), (2, aI x2)] [] (abH 2 70 g h) 0 0 := by
  intro x1 x2 b q
  have e : ∀ (f83 : HH → Int → Option Int) , bX8_blockingSets_4 f83 h c33 x1 x2 = segP 2 70 g.2.2.2.2 h krPI (clCP 83 (pX8_sixfoldOfSet f83 h) clNP) csX8_blockingSets (cuC 33 (fun l st s => tkC 0 65 l <| tkI 1 l fun x1 => tkI 2 l fun x2 => skE st (c33 x1 x2)) cuN) 1000 4 [(0, aR 65), (1, aI x1), (2, aI x2)] [] := fun _ => rfl
  rw [e nX8_sixfoldOfSet] at q
  clear e
  refine segP_wk (by decide) (by decide) hg rwX8_blockingSets (CLKP_C (pX8_sixfoldOfSet_ok hg) CLKP_N) krPI_ok ?_ q
  clear q
  refine ct_C ?_ (ct_N)
  · intro l st _ q
    obtain ⟨m0, q1⟩ := tkC_of q
    obtain ⟨x1, m1, q2⟩ := tkI_of q1
    obtain ⟨x2, m2, q3⟩ := tkI_of q2
    obtain ⟨rfl, q4⟩ := skE_of q3
    exact WK_less (k33 _ _ _ q4) (List.forall_mem_cons.mpr ⟨m0, (List.forall_mem_cons.mpr ⟨m1, (List.forall_mem_cons.mpr ⟨m2, (fun _ h => absurd h List.not_mem_nil)⟩)⟩)⟩)
def nX8_blockingSets_4 (h : HH) : Nat → Int → Int → Option Int := iter (fun _ _ => none) (fun self => bX8_blockingSets_4 nX8_sixfoldOfSet h (nX8_blockingSets_33 h self))
theorem nX8_blockingSets_4_s {h : HH} {F : Nat} : nX8_blockingSets_4 h (F + 1) = bX8_blockingSets_4 nX8_sixfoldOfSet h (nX8_blockingSets_33 h (nX8_blockingSets_4 h F)) := rfl
theorem wX8_blockingSets_4 {g : SG} (hg : GOK g) {σ0 : SG} {h : HH} : ∀ {F : Nat}, ∀ {x1 : Int} {x2 : Int} {b : Int}, nX8_blockingSets_4 h F x1 x2 = some b → WK 84 (.inl (some (aI b))) σ0 (abH 2 70 g h) 4 [(0, aR 65), (1, aI x1), (2, aI x2)] [] (abH 2 70 g h) 0 0 := by
  intro F
  have z : ∀ (x1 : Int) (x2 : Int) (b : Int), nX8_blockingSets_4 h F x1 x2 = some b → WK 84 (.inl (some (aI b))) σ0 (abH 2 70 g h) 4 [(0, aR 65), (1, aI x1), (2, aI x2)] [] (abH 2 70 g h) 0 0 := iter_ind (P := fun (c : Int → Int → Option Int) => ∀ (x1 : Int) (x2 : Int) (b : Int), c x1 x2 = some b → WK 84 (.inl (some (aI b))) σ0 (abH 2 70 g h) 4 [(0, aR 65), (1, aI x1), (2, aI x2)] [] (abH 2 70 g h) 0 0) (by
    intro x1 x2 b q
    cases q) (fun self ih => by
    intro x1 x2 b q
    exact uX8_blockingSets_4 hg (fun _ _ _ q => wX8_blockingSets_33 hg ih q) q) F
  intro x1 x2 b q
  exact z _ _ _ q
def bX8_blockingSets (h : HH) (c4 : Int → Int → Option Int) : Option Int :=
  c4 0 1
theorem uX8_blockingSets {g : SG} (hg : GOK g) {σ0 : SG} {h : HH} {c4 : Int → Int → Option Int} (k4 : ∀ (x1 : Int) (x2 : Int) (b : Int), c4 x1 x2 = some b → WK 84 (.inl (some (aI b))) σ0 (abH 2 70 g h) 4 [(0, aR 65), (1, aI x1), (2, aI x2)] [] (abH 2 70 g h) 0 0) : ∀ {b : Int}, bX8_blockingSets h c4 = some b → WK 84 (.inl (some (aI b))) σ0 (abH 2 70 g h) 0 [(0, aR 65)] [] (abH 2 70 g h) 0 0 := by
  intro  b q
  have e : bX8_blockingSets h c4 = segP 2 70 g.2.2.2.2 h krPI clNP csX8_blockingSets (cuC 4 (fun l st s => tkC 0 65 l <| tkI 1 l fun x1 => tkI 2 l fun x2 => skE st (c4 x1 x2)) cuN) 1000 0 [(0, aR 65)] [] := rfl
  rw [e] at q
  clear e
  refine segP_wk (by decide) (by decide) hg rwX8_blockingSets CLKP_N krPI_ok ?_ q
  clear q
  refine ct_C ?_ (ct_N)
  · intro l st _ q
    obtain ⟨m0, q1⟩ := tkC_of q
    obtain ⟨x1, m1, q2⟩ := tkI_of q1
    obtain ⟨x2, m2, q3⟩ := tkI_of q2
    obtain ⟨rfl, q4⟩ := skE_of q3
    exact WK_less (k4 _ _ _ q4) (List.forall_mem_cons.mpr ⟨m0, (List.forall_mem_cons.mpr ⟨m1, (List.forall_mem_cons.mpr ⟨m2, (fun _ h => absurd h List.not_mem_nil)⟩)⟩)⟩)
def nX8_blockingSets (h : HH) : Option Int := bX8_blockingSets h (nX8_blockingSets_4 h 100000)
theorem wX8_blockingSets {g : SG} (hg : GOK g) {σ0 : SG} {h : HH} : ∀ {b : Int}, nX8_blockingSets h = some b → WK 84 (.inl (some (aI b))) σ0 (abH 2 70 g h) 0 [(0, aR 65)] [] (abH 2 70 g h) 0 0 := by
  intro  b q
  exact uX8_blockingSets hg (fun _ _ _ q => wX8_blockingSets_4 hg q) q
theorem mX8_blockingSets {g : SG} (hg : GOK g) {h : HH} {b : Int} (q : nX8_blockingSets h = some b) : MCT 84 [] [aR 65] (abH 2 70 g h) (.inl (some (aI b))) (abH 2 70 g h) :=
  mct_of (by decide) (MFok 84 (by decide +kernel)) (fun _ => Nat.le_of_ble_eq_true rfl) (wX8_blockingSets hg q)
def pX8_blockingSets {β : Type} (z : HH → Option Int) : PP β := fun h as f => skC 65 as fun as => skE as (bnd (z h) fun r => f (.inl (some (aI r))))
theorem pX8_blockingSets_ok {β : Type} {g : SG} (hg : GOK g) : CP1 (β := β) 84 (pX8_blockingSets nX8_blockingSets) 2 70 g := fun h as f b q => by
  obtain ⟨as, rfl, q1⟩ := skC_of q
  obtain ⟨rfl, q0⟩ := skE_of q1
  obtain ⟨r, z1, z2⟩ := bnd_of q0
  exact ⟨_, z2, by decide, mX8_blockingSets hg z1, rfl, rfl, fun z => absurd z (by decide)⟩
def csX8_sumUp : List (Nat × List (Nat × ARow)) := [(100000, [(0, 1, .aload_n 0, 0, 0, 0), (1, 2, .bipush 7, 0, 0, 0), (3, 3, .invokevirtual 74, 83, 2, 8), (6, 2, .bipush 6, 0, 0, 0), (8, 1, .aload_n 0, 0, 0, 0), (9, 3, .getfield 9, 8, 2, 2), (12, 2, .bipush 7, 0, 0, 0), (14, 1, .iaload, 0, 0, 0), (15, 1, .imul, 0, 0, 0), (16, 3, .if_icmp .ne 7, 23, 0, 0), (19, 1, .iconst 1, 0, 0, 0), (20, 3, .goto 4, 24, 0, 0), (23, 1, .iconst 0, 0, 0, 0), (24, 1, .ireturn, 1, 0, 0)])]
theorem rwX8_sumUp : rowsB (mB 85) (mO 85) (mX 85) (mIni 85) (mFr 85) (mLo 85) (mT 85) csX8_sumUp = true := by decide +kernel
def bX8_sumUp (f83 : HH → Int → Option Int) (h : HH) : Option Int :=
  bnd (f83 h 7) fun r1 =>
    gd ((0 : Int) ≤ 7 ∧ 7 < (8 : Int)) <|
    gd (R32 (6 * (h.1 66 7))) <|
    if r1 = ((6 * (h.1 66 7)) : Int) then
    gd ((0 : Int) ≤ 1 ∧ 1 ≤ (1 : Int)) <|
    some 1
  else
    gd ((0 : Int) ≤ 0 ∧ 0 ≤ (1 : Int)) <|
    some 0
theorem uX8_sumUp {g : SG} (hg : GOK g) {σ0 : SG} {h : HH} : ∀ {b : Int}, bX8_sumUp nX8_sixfoldOfSet h = some b → WK 85 (.inl (some (aI b))) σ0 (abH 2 70 g h) 0 [(0, aR 65)] [] (abH 2 70 g h) 0 0 := by
  intro  b q
  have e : ∀ (f83 : HH → Int → Option Int) , bX8_sumUp f83 h = segP 2 70 g.2.2.2.2 h krPI (clCP 83 (pX8_sixfoldOfSet f83 h) clNP) csX8_sumUp cuN 1000 0 [(0, aR 65)] [] := fun _ => rfl
  rw [e nX8_sixfoldOfSet] at q
  clear e
  refine segP_wk (by decide) (by decide) hg rwX8_sumUp (CLKP_C (pX8_sixfoldOfSet_ok hg) CLKP_N) krPI_ok ?_ q
  clear q
  exact ct_N
def nX8_sumUp (h : HH) : Option Int := bX8_sumUp nX8_sixfoldOfSet h
theorem wX8_sumUp {g : SG} (hg : GOK g) {σ0 : SG} {h : HH} : ∀ {b : Int}, nX8_sumUp h = some b → WK 85 (.inl (some (aI b))) σ0 (abH 2 70 g h) 0 [(0, aR 65)] [] (abH 2 70 g h) 0 0 := by
  intro  b q
  exact uX8_sumUp hg q
theorem mX8_sumUp {g : SG} (hg : GOK g) {h : HH} {b : Int} (q : nX8_sumUp h = some b) : MCT 85 [] [aR 65] (abH 2 70 g h) (.inl (some (aI b))) (abH 2 70 g h) :=
  mct_of (by decide) (MFok 85 (by decide +kernel)) (fun _ => Nat.le_of_ble_eq_true rfl) (wX8_sumUp hg q)
def pX8_sumUp {β : Type} (z : HH → Option Int) : PP β := fun h as f => skC 65 as fun as => skE as (bnd (z h) fun r => f (.inl (some (aI r))))
theorem pX8_sumUp_ok {β : Type} {g : SG} (hg : GOK g) : CP1 (β := β) 85 (pX8_sumUp nX8_sumUp) 2 70 g := fun h as f b q => by
  obtain ⟨as, rfl, q1⟩ := skC_of q
  obtain ⟨rfl, q0⟩ := skE_of q1
  obtain ⟨r, z1, z2⟩ := bnd_of q0
  exact ⟨_, z2, by decide, mX8_sumUp hg z1, rfl, rfl, fun z => absurd z (by decide)⟩
def csX9_isLess : List (Nat × List (Nat × ARow)) := [(40, [(0, 1, .aload_n 0, 0, 0, 0), (1, 3, .getfield 21, 9, 4, 2), (4, 1, .iload_n 1, 0, 0, 0), (5, 1, .iaload, 0, 0, 0), (6, 1, .iconst (-1), 0, 0, 0), (7, 3, .if_icmp .eq 13, 20, 0, 0), (10, 1, .iload_n 2, 0, 0, 0), (11, 1, .aload_n 0, 0, 0, 0), (12, 3, .getfield 21, 9, 4, 2), (15, 1, .iload_n 1, 0, 0, 0), (16, 1, .iaload, 0, 0, 0), (17, 3, .if_icmp .eq 29, 46, 0, 0), (20, 1, .aload_n 0, 0, 0, 0), (21, 3, .getfield 21, 9, 4, 2), (24, 1, .iload_n 1, 0, 0, 0), (25, 1, .iaload, 0, 0, 0), (26, 1, .iconst (-1), 0, 0, 0), (27, 3, .if_icmp .eq 13, 40, 0, 0), (30, 1, .iload_n 2, 0, 0, 0), (31, 1, .aload_n 0, 0, 0, 0), (32, 3, .getfield 21, 9, 4, 2), (35, 1, .iload_n 1, 0, 0, 0), (36, 1, .iaload, 0, 0, 0), (37, 3, .if_icmp .ge 7, 44, 0, 0)]),
  (81, [(40, 1, .iconst 1, 0, 0, 0), (41, 3, .goto 4, 45, 0, 0), (44, 1, .iconst 0, 0, 0, 0), (45, 1, .ireturn, 1, 0, 0), (46, 1, .iload_n 3, 0, 0, 0), (47, 1, .aload_n 0, 0, 0, 0), (48, 3, .getfield 24, 9, 5, 2), (51, 1, .iload_n 1, 0, 0, 0), (52, 1, .iaload, 0, 0, 0), (53, 3, .if_icmp .eq 21, 74, 0, 0), (56, 1, .iload_n 3, 0, 0, 0), (57, 1, .aload_n 0, 0, 0, 0), (58, 3, .getfield 24, 9, 5, 2), (61, 1, .iload_n 1, 0, 0, 0), (62, 1, .iaload, 0, 0, 0), (63, 3, .if_icmp .ge 7, 70, 0, 0), (66, 1, .iconst 1, 0, 0, 0), (67, 3, .goto 23, 90, 0, 0), (70, 1, .iconst 0, 0, 0, 0), (71, 3, .goto 19, 90, 0, 0), (74, 2, .iload 4, 0, 0, 0), (76, 1, .aload_n 0, 0, 0, 0), (77, 3, .getfield 27, 9, 6, 2), (80, 1, .iload_n 1, 0, 0, 0)]),
  (100000, [(81, 1, .iaload, 0, 0, 0), (82, 3, .if_icmp .ge 7, 89, 0, 0), (85, 1, .iconst 1, 0, 0, 0), (86, 3, .goto 4, 90, 0, 0), (89, 1, .iconst 0, 0, 0, 0), (90, 1, .ireturn, 1, 0, 0)])]
theorem rwX9_isLess : rowsB (mB 91) (mO 91) (mX 91) (mIni 91) (mFr 91) (mLo 91) (mT 91) csX9_isLess = true := by decide +kernel
def bX9_isLess_20 (h : HH) (x1 : Int) (x2 : Int) : Option Int :=
  gd ((0 : Int) ≤ x1 ∧ x1 < (256 : Int)) <|
    if (h.1 7 x1) = ((-1) : Int) then
    gd ((0 : Int) ≤ 1 ∧ 1 ≤ (1 : Int)) <|
    some 1
  else
    gd ((0 : Int) ≤ x1 ∧ x1 < (256 : Int)) <|
    if x2 < ((h.1 7 x1) : Int) then
    gd ((0 : Int) ≤ 1 ∧ 1 ≤ (1 : Int)) <|
    some 1
  else
    gd ((0 : Int) ≤ 0 ∧ 0 ≤ (1 : Int)) <|
    some 0
theorem uX9_isLess_20 {g : SG} (hg : GOK g) {σ0 : SG} {h : HH} : ∀ {x1 : Int} {x2 : Int} {b : Int}, bX9_isLess_20 h x1 x2 = some b → WK 91 (.inl (some (aI b))) σ0 (abH 2 70 g h) 20 [(0, aR 3), (1, aI x1), (2, aI x2)] [] (abH 2 70 g h) 0 0 := by
  intro x1 x2 b q
  have e : bX9_isLess_20 h x1 x2 = segP 2 70 g.2.2.2.2 h krPI clNP csX9_isLess cuN 1000 20 [(0, aR 3), (1, aI x1), (2, aI x2)] [] := rfl
  rw [e] at q
  clear e
  refine segP_wk (by decide) (by decide) hg rwX9_isLess CLKP_N krPI_ok ?_ q
  clear q
  exact ct_N
def nX9_isLess_20 (h : HH) (x1 : Int) (x2 : Int) : Option Int := bX9_isLess_20 h x1 x2
theorem wX9_isLess_20 {g : SG} (hg : GOK g) {σ0 : SG} {h : HH} : ∀ {x1 : Int} {x2 : Int} {b : Int}, nX9_isLess_20 h x1 x2 = some b → WK 91 (.inl (some (aI b))) σ0 (abH 2 70 g h) 20 [(0, aR 3), (1, aI x1), (2, aI x2)] [] (abH 2 70 g h) 0 0 := by
  intro x1 x2 b q
  exact uX9_isLess_20 hg q
def bX9_isLess (h : HH) (c20 : Int → Int → Option Int) (x1 : Int) (x2 : Int) (x3 : Int) (x4 : Int) : Option Int :=
  gd ((0 : Int) ≤ x1 ∧ x1 < (256 : Int)) <|
    if (h.1 7 x1) = ((-1) : Int) then
    c20 x1 x2
  else
    gd ((0 : Int) ≤ x1 ∧ x1 < (256 : Int)) <|
    if x2 = ((h.1 7 x1) : Int) then
    gd ((0 : Int) ≤ x1 ∧ x1 < (256 : Int)) <|
    if x3 = ((h.1 8 x1) : Int) then
    gd ((0 : Int) ≤ x1 ∧ x1 < (256 : Int)) <|
    if x4 < ((h.1 9 x1) : Int) then
    gd ((0 : Int) ≤ 1 ∧ 1 ≤ (1 : Int)) <|
    some 1
  else
    gd ((0 : Int) ≤ 0 ∧ 0 ≤ (1 : Int)) <|
    some 0
  else
    gd ((0 : Int) ≤ x1 ∧ x1 < (256 : Int)) <|
    if x3 < ((h.1 8 x1) : Int) then
    gd ((0 : Int) ≤ 1 ∧ 1 ≤ (1 : Int)) <|
    some 1
  else
    gd ((0 : Int) ≤ 0 ∧ 0 ≤ (1 : Int)) <|
    some 0
  else
    c20 x1 x2
theorem uX9_isLess {g : SG} (hg : GOK g) {σ0 : SG} {h : HH} {c20 : Int → Int → Option Int} (k20 : ∀ (x1 : Int) (x2 : Int) (b : Int), c20 x1 x2 = some b → WK 91 (.inl (some (aI b))) σ0 (abH 2 70 g h) 20 [(0, aR 3), (1, aI x1), (2, aI x2)] [] (abH 2 70 g h) 0 0) : ∀ {x1 : Int} {x2 : Int} {x3 : Int} {x4 : Int} {b : Int}, bX9_isLess h c20 x1 x2 x3 x4 = some b → WK 91 (.inl (some (aI b))) σ0 (abH 2 70 g h) 0 [(0, aR 3), (1, aI x1), (2, aI x2), (3, aI x3), (4, aI x4)] [] (abH 2 70 g h) 0 0 := by
  intro x1 x2 x3 x4 b q
  have e : bX9_isLess h c20 x1 x2 x3 x4 = segP 2 70 g.2.2.2.2 h krPI clNP csX9_isLess (cuC 20 (fun l st s => tkC 0 3 l <| tkI 1 l fun x1 => tkI 2 l fun x2 => skE st (c20 x1 x2)) cuN) 1000 0 [(0, aR 3), (1, aI x1), (2, aI x2), (3, aI x3), (4, aI x4)] [] := rfl
  rw [e] at q
  clear e
  refine segP_wk (by decide) (by decide) hg rwX9_isLess CLKP_N krPI_ok ?_ q
  clear q
  refine ct_C ?_ (ct_N)
  · intro l st _ q
    obtain ⟨m0, q1⟩ := tkC_of q
    obtain ⟨x1, m1, q2⟩ := tkI_of q1
    obtain ⟨x2, m2, q3⟩ := tkI_of q2
    obtain ⟨rfl, q4⟩ := skE_of q3
    exact WK_less (k20 _ _ _ q4) (List.forall_mem_cons.mpr ⟨m0, (List.forall_mem_cons.mpr ⟨m1, (List.forall_mem_cons.mpr ⟨m2, (fun _ h => absurd h List.not_mem_nil)⟩)⟩)⟩)
def nX9_isLess (h : HH) (x1 : Int) (x2 : Int) (x3 : Int) (x4 : Int) : Option Int := bX9_isLess h (nX9_isLess_20 h) x1 x2 x3 x4
theorem wX9_isLess {g : SG} (hg : GOK g) {σ0 : SG} {h : HH} : ∀ {x1 : Int} {x2 : Int} {x3 : Int} {x4 : Int} {b : Int}, nX9_isLess h x1 x2 x3 x4 = some b → WK 91 (.inl (some (aI b))) σ0 (abH 2 70 g h) 0 [(0, aR 3), (1, aI x1), (2, aI x2), (3, aI x3), (4, aI x4)] [] (abH 2 70 g h) 0 0 := by
  intro x1 x2 x3 x4 b q
  exact uX9_isLess hg (fun _ _ _ q => wX9_isLess_20 hg q) q
theorem mX9_isLess {g : SG} (hg : GOK g) {h : HH} {x1 : Int} {x2 : Int} {x3 : Int} {x4 : Int} {b : Int} (q : nX9_isLess h x1 x2 x3 x4 = some b) : MCT 91 [] [aR 3, aI x1, aI x2, aI x3, aI x4] (abH 2 70 g h) (.inl (some (aI b))) (abH 2 70 g h) :=
  mct_of (by decide) (MFok 91 (by decide +kernel)) (fun _ => Nat.le_of_ble_eq_true rfl) (wX9_isLess hg q)
def pX9_isLess {β : Type} (z : HH → Int → Int → Int → Int → Option Int) : PP β := fun h as f => skC 3 as fun as => skI as fun x1 as => skI as fun x2 as => skI as fun x3 as => skI as fun x4 as => skE as (bnd (z h x1 x2 x3 x4) fun r => f (.inl (some (aI r))))
theorem pX9_isLess_ok {β : Type} {g : SG} (hg : GOK g) : CP1 (β := β) 91 (pX9_isLess nX9_isLess) 2 70 g := fun h as f b q => by
  obtain ⟨as, rfl, q1⟩ := skC_of q
  obtain ⟨x1, as, rfl, q2⟩ := skI_of q1
  obtain ⟨x2, as, rfl, q3⟩ := skI_of q2
  obtain ⟨x3, as, rfl, q4⟩ := skI_of q3
  obtain ⟨x4, as, rfl, q5⟩ := skI_of q4
  obtain ⟨rfl, q0⟩ := skE_of q5
  obtain ⟨r, z1, z2⟩ := bnd_of q0
  exact ⟨_, z2, by decide, mX9_isLess hg z1, rfl, rfl, fun z => absurd z (by decide)⟩
def csX9_shorten : List (Nat × List (Nat × ARow)) := [(100000, [(0, 1, .aload_n 0, 0, 0, 0), (1, 1, .iload_n 1, 0, 0, 0), (2, 1, .iload_n 2, 0, 0, 0), (3, 1, .iload_n 3, 0, 0, 0), (4, 2, .iload 4, 0, 0, 0), (6, 3, .invokevirtual 54, 91, 5, 9), (9, 3, .ifCond .eq 25, 34, 0, 0), (12, 1, .aload_n 0, 0, 0, 0), (13, 3, .getfield 21, 9, 4, 2), (16, 1, .iload_n 1, 0, 0, 0), (17, 1, .iload_n 2, 0, 0, 0), (18, 1, .iastore, 0, 0, 0), (19, 1, .aload_n 0, 0, 0, 0), (20, 3, .getfield 24, 9, 5, 2), (23, 1, .iload_n 1, 0, 0, 0), (24, 1, .iload_n 3, 0, 0, 0), (25, 1, .iastore, 0, 0, 0), (26, 1, .aload_n 0, 0, 0, 0), (27, 3, .getfield 27, 9, 6, 2), (30, 1, .iload_n 1, 0, 0, 0), (31, 2, .iload 4, 0, 0, 0), (33, 1, .iastore, 0, 0, 0), (34, 1, .return_, 0, 0, 0)])]
theorem rwX9_shorten : rowsB (mB 90) (mO 90) (mX 90) (mIni 90) (mFr 90) (mLo 90) (mT 90) csX9_shorten = true := by decide +kernel
def bX9_shorten (f91 : HH → Int → Int → Int → Int → Option Int) (x1 : Int) (x2 : Int) (x3 : Int) (x4 : Int) (h : HH) : Option HH :=
  bnd (f91 h x1 x2 x3 x4) fun r1 =>
    if r1 = (0 : Int) then
    some h
  else
    gd ((0 : Int) ≤ x1 ∧ x1 < (256 : Int)) <|
    bnd (some (hI h 7 x1 x2)) fun h2 =>
    gd ((0 : Int) ≤ x1 ∧ x1 < (256 : Int)) <|
    bnd (some (hI h2 8 x1 x3)) fun h3 =>
    gd ((0 : Int) ≤ x1 ∧ x1 < (256 : Int)) <|
    bnd (some (hI h3 9 x1 x4)) fun h4 =>
    some h4
theorem uX9_shorten {g : SG} (hg : GOK g) {σ0 : SG} : ∀ {x1 : Int} {x2 : Int} {x3 : Int} {x4 : Int} {h : HH} {b : HH}, bX9_shorten nX9_isLess x1 x2 x3 x4 h = some b → WK 90 (.inl none) σ0 (abH 2 70 g b) 0 [(0, aR 3), (1, aI x1), (2, aI x2), (3, aI x3), (4, aI x4)] [] (abH 2 70 g h) 0 0 := by
  intro x1 x2 x3 x4 h b q
  have e : ∀ (f91 : HH → Int → Int → Int → Int → Option Int) , bX9_shorten f91 x1 x2 x3 x4 h = segW 2 70 g.2.2.2.2 krWV (clC 91 (liPW (pX9_isLess f91)) clN) csX9_shorten cuN 1000 0 [(0, aR 3), (1, aI x1), (2, aI x2), (3, aI x3), (4, aI x4)] [] h := fun _ => rfl
  rw [e nX9_isLess] at q
  clear e
  refine segW_wk (by decide) (by decide) hg rwX9_shorten (CLKW_C (liPW_ok (pX9_isLess_ok hg)) CLKW_N) krWV_ok ?_ q
  clear q
  exact ct_N
def nX9_shorten (x1 : Int) (x2 : Int) (x3 : Int) (x4 : Int) (h : HH) : Option HH := bX9_shorten nX9_isLess x1 x2 x3 x4 h
theorem wX9_shorten {g : SG} (hg : GOK g) {σ0 : SG} : ∀ {x1 : Int} {x2 : Int} {x3 : Int} {x4 : Int} {h : HH} {b : HH}, nX9_shorten x1 x2 x3 x4 h = some b → WK 90 (.inl none) σ0 (abH 2 70 g b) 0 [(0, aR 3), (1, aI x1), (2, aI x2), (3, aI x3), (4, aI x4)] [] (abH 2 70 g h) 0 0 := by
  intro x1 x2 x3 x4 h b q
  exact uX9_shorten hg q
theorem mX9_shorten {g : SG} (hg : GOK g) {h : HH} {x1 : Int} {x2 : Int} {x3 : Int} {x4 : Int} {b : HH} (q : nX9_shorten x1 x2 x3 x4 h = some b) : MCT 90 [] [aR 3, aI x1, aI x2, aI x3, aI x4] (abH 2 70 g h) (.inl none) (abH 2 70 g b) :=
  mct_of (by decide) (MFok 90 (by decide +kernel)) (fun _ => Nat.le_of_ble_eq_true rfl) (wX9_shorten hg q)
def pX9_shorten {β : Type} (z : Int → Int → Int → Int → HH → Option HH) : PW β := fun as h f => skC 3 as fun as => skI as fun x1 as => skI as fun x2 as => skI as fun x3 as => skI as fun x4 as => skE as (bnd (z x1 x2 x3 x4 h) fun r => f (.inl none) r)
theorem pX9_shorten_ok {β : Type} {g : SG} (hg : GOK g) : CW1 (β := β) 90 (pX9_shorten nX9_shorten) 2 70 g := fun as h f b q => by
  obtain ⟨as, rfl, q1⟩ := skC_of q
  obtain ⟨x1, as, rfl, q2⟩ := skI_of q1
  obtain ⟨x2, as, rfl, q3⟩ := skI_of q2
  obtain ⟨x3, as, rfl, q4⟩ := skI_of q3
  obtain ⟨x4, as, rfl, q5⟩ := skI_of q4
  obtain ⟨rfl, q0⟩ := skE_of q5
  obtain ⟨r, z1, z2⟩ := bnd_of q0
  exact ⟨_, _, z2, by decide, mX9_shorten hg z1, rfl, rfl, fun z => absurd z (by decide)⟩
def csX9_add : List (Nat × List (Nat × ARow)) := [(40, [(0, 1, .aload_n 0, 0, 0, 0), (1, 3, .getfield 9, 9, 0, 2), (4, 1, .aload_n 0, 0, 0, 0), (5, 3, .getfield 46, 9, 3, 0), (8, 1, .iload_n 1, 0, 0, 0), (9, 1, .iastore, 0, 0, 0), (10, 1, .aload_n 0, 0, 0, 0), (11, 3, .getfield 15, 9, 1, 2), (14, 1, .aload_n 0, 0, 0, 0), (15, 3, .getfield 46, 9, 3, 0), (18, 1, .iload_n 2, 0, 0, 0), (19, 1, .iastore, 0, 0, 0), (20, 1, .aload_n 0, 0, 0, 0), (21, 3, .getfield 18, 9, 2, 2), (24, 1, .aload_n 0, 0, 0, 0), (25, 3, .getfield 46, 9, 3, 0), (28, 1, .iload_n 3, 0, 0, 0), (29, 1, .iastore, 0, 0, 0), (30, 1, .aload_n 0, 0, 0, 0), (31, 1, .dup, 0, 0, 0), (32, 3, .getfield 46, 9, 3, 0), (35, 1, .iconst 1, 0, 0, 0), (36, 1, .iadd, 0, 0, 0), (37, 3, .putfield 46, 9, 3, 0)]),
  (83, [(40, 1, .iconst 0, 0, 0, 0), (41, 2, .istore 6, 0, 0, 0), (43, 2, .iload 6, 0, 0, 0), (45, 2, .bipush 16, 0, 0, 0), (47, 3, .if_icmp .ge 130, 177, 0, 0), (50, 2, .iload 6, 0, 0, 0), (52, 2, .bipush 16, 0, 0, 0), (54, 1, .imul, 0, 0, 0), (55, 1, .iload_n 1, 0, 0, 0), (56, 1, .iadd, 0, 0, 0), (57, 2, .istore 7, 0, 0, 0), (59, 1, .iconst 0, 0, 0, 0), (60, 2, .istore 8, 0, 0, 0), (62, 2, .iload 8, 0, 0, 0), (64, 2, .bipush 16, 0, 0, 0), (66, 3, .if_icmp .ge 105, 171, 0, 0), (69, 1, .aload_n 0, 0, 0, 0), (70, 3, .getfield 21, 9, 4, 2), (73, 2, .iload 7, 0, 0, 0), (75, 1, .iaload, 0, 0, 0), (76, 1, .iconst (-1), 0, 0, 0), (77, 3, .if_icmp .eq 94, 171, 0, 0), (80, 1, .iload_n 2, 0, 0, 0), (81, 2, .bipush 16, 0, 0, 0)]),
  (122, [(83, 1, .imul, 0, 0, 0), (84, 2, .iload 8, 0, 0, 0), (86, 1, .iadd, 0, 0, 0), (87, 2, .istore 9, 0, 0, 0), (89, 1, .aload_n 0, 0, 0, 0), (90, 3, .getfield 21, 9, 4, 2), (93, 2, .iload 9, 0, 0, 0), (95, 1, .iaload, 0, 0, 0), (96, 1, .iconst (-1), 0, 0, 0), (97, 3, .if_icmp .eq 68, 165, 0, 0), (100, 1, .aload_n 0, 0, 0, 0), (101, 2, .iload 6, 0, 0, 0), (103, 2, .bipush 16, 0, 0, 0), (105, 1, .imul, 0, 0, 0), (106, 2, .iload 8, 0, 0, 0), (108, 1, .iadd, 0, 0, 0), (109, 1, .aload_n 0, 0, 0, 0), (110, 3, .getfield 21, 9, 4, 2), (113, 2, .iload 7, 0, 0, 0), (115, 1, .iaload, 0, 0, 0), (116, 1, .iload_n 3, 0, 0, 0), (117, 1, .iadd, 0, 0, 0), (118, 1, .aload_n 0, 0, 0, 0), (119, 3, .getfield 21, 9, 4, 2)]),
  (161, [(122, 2, .iload 9, 0, 0, 0), (124, 1, .iaload, 0, 0, 0), (125, 1, .iadd, 0, 0, 0), (126, 1, .aload_n 0, 0, 0, 0), (127, 3, .getfield 24, 9, 5, 2), (130, 2, .iload 7, 0, 0, 0), (132, 1, .iaload, 0, 0, 0), (133, 2, .iload 4, 0, 0, 0), (135, 1, .iadd, 0, 0, 0), (136, 1, .aload_n 0, 0, 0, 0), (137, 3, .getfield 24, 9, 5, 2), (140, 2, .iload 9, 0, 0, 0), (142, 1, .iaload, 0, 0, 0), (143, 1, .iadd, 0, 0, 0), (144, 1, .aload_n 0, 0, 0, 0), (145, 3, .getfield 27, 9, 6, 2), (148, 2, .iload 7, 0, 0, 0), (150, 1, .iaload, 0, 0, 0), (151, 2, .iload 5, 0, 0, 0), (153, 1, .iadd, 0, 0, 0), (154, 1, .aload_n 0, 0, 0, 0), (155, 3, .getfield 27, 9, 6, 2), (158, 2, .iload 9, 0, 0, 0), (160, 1, .iaload, 0, 0, 0)]),
  (100000, [(161, 1, .iadd, 0, 0, 0), (162, 3, .invokevirtual 50, 90, 5, 9), (165, 3, .iinc 8 1, 0, 0, 0), (168, 3, .goto (-106), 62, 0, 0), (171, 3, .iinc 6 1, 0, 0, 0), (174, 3, .goto (-131), 43, 0, 0), (177, 1, .return_, 0, 0, 0)])]
theorem rwX9_add : rowsB (mB 89) (mO 89) (mX 89) (mIni 89) (mFr 89) (mLo 89) (mT 89) csX9_add = true := by decide +kernel
def bX9_add_171 (c43 : Int → Int → Int → Int → Int → Int → HH → Option HH) (x1 : Int) (x2 : Int) (x3 : Int) (x4 : Int) (x5 : Int) (x6 : Int) (h : HH) : Option HH :=
  gd (R32 (x6 + 1)) <|
    c43 x1 x2 x3 x4 x5 (x6 + 1) h
theorem uX9_add_171 {g : SG} (hg : GOK g) {σ0 : SG} {c43 : Int → Int → Int → Int → Int → Int → HH → Option HH} (k43 : ∀ (x1 : Int) (x2 : Int) (x3 : Int) (x4 : Int) (x5 : Int) (x6 : Int) (h : HH) (b : HH), c43 x1 x2 x3 x4 x5 x6 h = some b → WK 89 (.inl none) σ0 (abH 2 70 g b) 43 [(0, aR 3), (1, aI x1), (2, aI x2), (3, aI x3), (4, aI x4), (5, aI x5), (6, aI x6)] [] (abH 2 70 g h) 0 0) : ∀ {x1 : Int} {x2 : Int} {x3 : Int} {x4 : Int} {x5 : Int} {x6 : Int} {h : HH} {b : HH}, bX9_add_171 c43 x1 x2 x3 x4 x5 x6 h = some b → WK 89 (.inl none) σ0 (abH 2 70 g b) 171 [(0, aR 3), (1, aI x1), (2, aI x2), (3, aI x3), (4, aI x4), (5, aI x5), (6, aI x6)] [] (abH 2 70 g h) 0 0 := by
  intro x1 x2 x3 x4 x5 x6 h b q
  have e : bX9_add_171 c43 x1 x2 x3 x4 x5 x6 h = segW 2 70 g.2.2.2.2 krWV clN csX9_add (cuC 43 (fun l st s => tkC 0 3 l <| tkI 1 l fun x1 => tkI 2 l fun x2 => tkI 3 l fun x3 => tkI 4 l fun x4 => tkI 5 l fun x5 => tkI 6 l fun x6 => skE st (c43 x1 x2 x3 x4 x5 x6 s)) cuN) 1000 171 [(0, aR 3), (1, aI x1), (2, aI x2), (3, aI x3), (4, aI x4), (5, aI x5), (6, aI x6)] [] h := rfl
  rw [e] at q
  clear e
  refine segW_wk (by decide) (by decide) hg rwX9_add CLKW_N krWV_ok ?_ q
  clear q
  refine ct_C ?_ (ct_N)
  · intro l st h q
    obtain ⟨m0, q1⟩ := tkC_of q
    obtain ⟨x1, m1, q2⟩ := tkI_of q1
    obtain ⟨x2, m2, q3⟩ := tkI_of q2
    obtain ⟨x3, m3, q4⟩ := tkI_of q3
    obtain ⟨x4, m4, q5⟩ := tkI_of q4
    obtain ⟨x5, m5, q6⟩ := tkI_of q5
    obtain ⟨x6, m6, q7⟩ := tkI_of q6
    obtain ⟨rfl, q8⟩ := skE_of q7
    exact WK_less (k43 _ _ _ _ _ _ _ _ q8) (List.forall_mem_cons.mpr ⟨m0, (List.forall_mem_cons.mpr ⟨m1, (List.forall_mem_cons.mpr ⟨m2, (List.forall_mem_cons.mpr ⟨m3, (List.forall_mem_cons.mpr ⟨m4, (List.forall_mem_cons.mpr ⟨m5, (List.forall_mem_cons.mpr ⟨m6, (fun _ h => absurd h List.not_mem_nil)⟩)⟩)⟩)⟩)⟩)⟩)⟩)
def nX9_add_171 (c43 : Int → Int → Int → Int → Int → Int → HH → Option HH) (x1 : Int) (x2 : Int) (x3 : Int) (x4 : Int) (x5 : Int) (x6 : Int) (h : HH) : Option HH := bX9_add_171 c43 x1 x2 x3 x4 x5 x6 h
theorem wX9_add_171 {g : SG} (hg : GOK g) {σ0 : SG} {c43 : Int → Int → Int → Int → Int → Int → HH → Option HH} (k43 : ∀ (x1 : Int) (x2 : Int) (x3 : Int) (x4 : Int) (x5 : Int) (x6 : Int) (h : HH) (b : HH), c43 x1 x2 x3 x4 x5 x6 h = some b → WK 89 (.inl none) σ0 (abH 2 70 g b) 43 [(0, aR 3), (1, aI x1), (2, aI x2), (3, aI x3), (4, aI x4), (5, aI x5), (6, aI x6)] [] (abH 2 70 g h) 0 0) : ∀ {x1 : Int} {x2 : Int} {x3 : Int} {x4 : Int} {x5 : Int} {x6 : Int} {h : HH} {b : HH}, nX9_add_171 c43 x1 x2 x3 x4 x5 x6 h = some b → WK 89 (.inl none) σ0 (abH 2 70 g b) 171 [(0, aR 3), (1, aI x1), (2, aI x2), (3, aI x3), (4, aI x4), (5, aI x5), (6, aI x6)] [] (abH 2 70 g h) 0 0 := by
  intro x1 x2 x3 x4 x5 x6 h b q
  exact uX9_add_171 hg k43 q
def bX9_add_165 (c62 : Int → Int → Int → Int → Int → Int → Int → Int → HH → Option HH) (x1 : Int) (x2 : Int) (x3 : Int) (x4 : Int) (x5 : Int) (x6 : Int) (x7 : Int) (x8 : Int) (h : HH) : Option HH :=
  gd (R32 (x8 + 1)) <|
    c62 x1 x2 x3 x4 x5 x6 x7 (x8 + 1) h
theorem uX9_add_165 {g : SG} (hg : GOK g) {σ0 : SG} {c62 : Int → Int → Int → Int → Int → Int → Int → Int → HH → Option HH} (k62 : ∀ (x1 : Int) (x2 : Int) (x3 : Int) (x4 : Int) (x5 : Int) (x6 : Int) (x7 : Int) (x8 : Int) (h : HH) (b : HH), c62 x1 x2 x3 x4 x5 x6 x7 x8 h = some b → WK 89 (.inl none) σ0 (abH 2 70 g b) 62 [(0, aR 3), (1, aI x1), (2, aI x2), (3, aI x3), (4, aI x4), (5, aI x5), (6, aI x6), (7, aI x7), (8, aI x8)] [] (abH 2 70 g h) 0 0) : ∀ {x1 : Int} {x2 : Int} {x3 : Int} {x4 : Int} {x5 : Int} {x6 : Int} {x7 : Int} {x8 : Int} {h : HH} {b : HH}, bX9_add_165 c62 x1 x2 x3 x4 x5 x6 x7 x8 h = some b → WK 89 (.inl none) σ0 (abH 2 70 g b) 165 [(0, aR 3), (1, aI x1), (2, aI x2), (3, aI x3), (4, aI x4), (5, aI x5), (6, aI x6), (7, aI x7), (8, aI x8)] [] (abH 2 70 g h) 0 0 := by
  intro x1 x2 x3 x4 x5 x6 x7 x8 h b q
  have e : bX9_add_165 c62 x1 x2 x3 x4 x5 x6 x7 x8 h = segW 2 70 g.2.2.2.2 krWV clN csX9_add (cuC 62 (fun l st s => tkC 0 3 l <| tkI 1 l fun x1 => tkI 2 l fun x2 => tkI 3 l fun x3 => tkI 4 l fun x4 => tkI 5 l fun x5 => tkI 6 l fun x6 => tkI 7 l fun x7 => tkI 8 l fun x8 => skE st (c62 x1 x2 x3 x4 x5 x6 x7 x8 s)) cuN) 1000 165 [(0, aR 3), (1, aI x1), (2, aI x2), (3, aI x3), (4, aI x4), (5, aI x5), (6, aI x6), (7, aI x7), (8, aI x8)] [] h := rfl
  rw [e] at q
  clear e
  refine segW_wk (by decide) (by decide) hg rwX9_add CLKW_N krWV_ok ?_ q
  clear q
  refine ct_C ?_ (ct_N)
  · intro l st h q
    obtain ⟨m0, q1⟩ := tkC_of q
    obtain ⟨x1, m1, q2⟩ := tkI_of q1
    obtain ⟨x2, m2, q3⟩ := tkI_of q2
    obtain ⟨x3, m3, q4⟩ := tkI_of q3
    obtain ⟨x4, m4, q5⟩ := tkI_of q4
    obtain ⟨x5, m5, q6⟩ := tkI_of q5
    obtain ⟨x6, m6, q7⟩ := tkI_of q6
    obtain ⟨x7, m7, q8⟩ := tkI_of q7
    obtain ⟨x8, m8, q9⟩ := tkI_of q8
    obtain ⟨rfl, q10⟩ := skE_of q9
    exact WK_less (k62 _ _ _ _ _ _ _ _ _ _ q10) (List.forall_mem_cons.mpr ⟨m0, (List.forall_mem_cons.mpr ⟨m1, (List.forall_mem_cons.mpr ⟨m2, (List.forall_mem_cons.mpr ⟨m3, (List.forall_mem_cons.mpr ⟨m4, (List.forall_mem_cons.mpr ⟨m5, (List.forall_mem_cons.mpr ⟨m6, (List.forall_mem_cons.mpr ⟨m7, (List.forall_mem_cons.mpr ⟨m8, (fun _ h => absurd h List.not_mem_nil)⟩)⟩)⟩)⟩)⟩)⟩)⟩)⟩)⟩)
def nX9_add_165 (c43 : Int → Int → Int → Int → Int → Int → HH → Option HH) (c62 : Int → Int → Int → Int → Int → Int → Int → Int → HH → Option HH) (x1 : Int) (x2 : Int) (x3 : Int) (x4 : Int) (x5 : Int) (x6 : Int) (x7 : Int) (x8 : Int) (h : HH) : Option HH := bX9_add_165 c62 x1 x2 x3 x4 x5 x6 x7 x8 h
theorem wX9_add_165 {g : SG} (hg : GOK g) {σ0 : SG} {c43 : Int → Int → Int → Int → Int → Int → HH → Option HH} {c62 : Int → Int → Int → Int → Int → Int → Int → Int → HH → Option HH} (k43 : ∀ (x1 : Int) (x2 : Int) (x3 : Int) (x4 : Int) (x5 : Int) (x6 : Int) (h : HH) (b : HH), c43 x1 x2 x3 x4 x5 x6 h = some b → WK 89 (.inl none) σ0 (abH 2 70 g b) 43 [(0, aR 3), (1, aI x1), (2, aI x2), (3, aI x3), (4, aI x4), (5, aI x5), (6, aI x6)] [] (abH 2 70 g h) 0 0) (k62 : ∀ (x1 : Int) (x2 : Int) (x3 : Int) (x4 : Int) (x5 : Int) (x6 : Int) (x7 : Int) (x8 : Int) (h : HH) (b : HH), c62 x1 x2 x3 x4 x5 x6 x7 x8 h = some b → WK 89 (.inl none) σ0 (abH 2 70 g b) 62 [(0, aR 3), (1, aI x1), (2, aI x2), (3, aI x3), (4, aI x4), (5, aI x5), (6, aI x6), (7, aI x7), (8, aI x8)] [] (abH 2 70 g h) 0 0) : ∀ {x1 : Int} {x2 : Int} {x3 : Int} {x4 : Int} {x5 : Int} {x6 : Int} {x7 : Int} {x8 : Int} {h : HH} {b : HH}, nX9_add_165 c43 c62 x1 x2 x3 x4 x5 x6 x7 x8 h = some b → WK 89 (.inl none) σ0 (abH 2 70 g b) 165 [(0, aR 3), (1, aI x1), (2, aI x2), (3, aI x3), (4, aI x4), (5, aI x5), (6, aI x6), (7, aI x7), (8, aI x8)] [] (abH 2 70 g h) 0 0 := by
  intro x1 x2 x3 x4 x5 x6 x7 x8 h b q
  exact uX9_add_165 hg k62 q
def bX9_add_100 (f90 : Int → Int → Int → Int → HH → Option HH) (c165 : Int → Int → Int → Int → Int → Int → Int → Int → HH → Option HH) (x1 : Int) (x2 : Int) (x3 : Int) (x4 : Int) (x5 : Int) (x6 : Int) (x7 : Int) (x8 : Int) (x9 : Int) (h : HH) : Option HH :=
  gd (R32 (x6 * 16)) <|
    gd (R32 ((x6 * 16) + x8)) <|
    gd ((0 : Int) ≤ x7 ∧ x7 < (256 : Int)) <|
    gd (R32 ((h.1 7 x7) + x3)) <|
    gd ((0 : Int) ≤ x9 ∧ x9 < (256 : Int)) <|
    gd (R32 (((h.1 7 x7) + x3) + (h.1 7 x9))) <|
    gd ((0 : Int) ≤ x7 ∧ x7 < (256 : Int)) <|
    gd (R32 ((h.1 8 x7) + x4)) <|
    gd ((0 : Int) ≤ x9 ∧ x9 < (256 : Int)) <|
    gd (R32 (((h.1 8 x7) + x4) + (h.1 8 x9))) <|
    gd ((0 : Int) ≤ x7 ∧ x7 < (256 : Int)) <|
    gd (R32 ((h.1 9 x7) + x5)) <|
    gd ((0 : Int) ≤ x9 ∧ x9 < (256 : Int)) <|
    gd (R32 (((h.1 9 x7) + x5) + (h.1 9 x9))) <|
    bnd (f90 ((x6 * 16) + x8) (((h.1 7 x7) + x3) + (h.1 7 x9)) (((h.1 8 x7) + x4) + (h.1 8 x9)) (((h.1 9 x7) + x5) + (h.1 9 x9)) h) fun r1 =>
    c165 x1 x2 x3 x4 x5 x6 x7 x8 r1
theorem uX9_add_100 {g : SG} (hg : GOK g) {σ0 : SG} {c165 : Int → Int → Int → Int → Int → Int → Int → Int → HH → Option HH} (k165 : ∀ (x1 : Int) (x2 : Int) (x3 : Int) (x4 : Int) (x5 : Int) (x6 : Int) (x7 : Int) (x8 : Int) (h : HH) (b : HH), c165 x1 x2 x3 x4 x5 x6 x7 x8 h = some b → WK 89 (.inl none) σ0 (abH 2 70 g b) 165 [(0, aR 3), (1, aI x1), (2, aI x2), (3, aI x3), (4, aI x4), (5, aI x5), (6, aI x6), (7, aI x7), (8, aI x8)] [] (abH 2 70 g h) 0 0) : ∀ {x1 : Int} {x2 : Int} {x3 : Int} {x4 : Int} {x5 : Int} {x6 : Int} {x7 : Int} {x8 : Int} {x9 : Int} {h : HH} {b : HH}, bX9_add_100 nX9_shorten c165 x1 x2 x3 x4 x5 x6 x7 x8 x9 h = some b → WK 89 (.inl none) σ0 (abH 2 70 g b) 100 [(0, aR 3), (1, aI x1), (2, aI x2), (3, aI x3), (4, aI x4), (5, aI x5), (6, aI x6), (7, aI x7), (8, aI x8), (9, aI x9)] [] (abH 2 70 g h) 0 0 := by
  intro x1 x2 x3 x4 x5 x6 x7 x8 x9 h b q
  have e : ∀ (f90 : Int → Int → Int → Int → HH → Option HH) , bX9_add_100 f90 c165 x1 x2 x3 x4 x5 x6 x7 x8 x9 h = segW 2 70 g.2.2.2.2 krWV (clC 90 (pX9_shorten f90) clN) csX9_add (cuC 165 (fun l st s => tkC 0 3 l <| tkI 1 l fun x1 => tkI 2 l fun x2 => tkI 3 l fun x3 => tkI 4 l fun x4 => tkI 5 l fun x5 => tkI 6 l fun x6 => tkI 7 l fun x7 => tkI 8 l fun x8 => skE st (c165 x1 x2 x3 x4 x5 x6 x7 x8 s)) cuN) 1000 100 [(0, aR 3), (1, aI x1), (2, aI x2), (3, aI x3), (4, aI x4), (5, aI x5), (6, aI x6), (7, aI x7), (8, aI x8), (9, aI x9)] [] h := fun _ => rfl
  rw [e nX9_shorten] at q
  clear e
  refine segW_wk (by decide) (by decide) hg rwX9_add (CLKW_C (pX9_shorten_ok hg) CLKW_N) krWV_ok ?_ q
  clear q
  refine ct_C ?_ (ct_N)
  · intro l st h q
    obtain ⟨m0, q1⟩ := tkC_of q
    obtain ⟨x1, m1, q2⟩ := tkI_of q1
    obtain ⟨x2, m2, q3⟩ := tkI_of q2
    obtain ⟨x3, m3, q4⟩ := tkI_of q3
    obtain ⟨x4, m4, q5⟩ := tkI_of q4
    obtain ⟨x5, m5, q6⟩ := tkI_of q5
    obtain ⟨x6, m6, q7⟩ := tkI_of q6
    obtain ⟨x7, m7, q8⟩ := tkI_of q7
    obtain ⟨x8, m8, q9⟩ := tkI_of q8
    obtain ⟨rfl, q10⟩ := skE_of q9
    exact WK_less (k165 _ _ _ _ _ _ _ _ _ _ q10) (List.forall_mem_cons.mpr ⟨m0, (List.forall_mem_cons.mpr ⟨m1, (List.forall_mem_cons.mpr ⟨m2, (List.forall_mem_cons.mpr ⟨m3, (List.forall_mem_cons.mpr ⟨m4, (List.forall_mem_cons.mpr ⟨m5, (List.forall_mem_cons.mpr ⟨m6, (List.forall_mem_cons.mpr ⟨m7, (List.forall_mem_cons.mpr ⟨m8, (fun _ h => absurd h List.not_mem_nil)⟩)⟩)⟩)⟩)⟩)⟩)⟩)⟩)⟩)
def nX9_add_100 (c43 : Int → Int → Int → Int → Int → Int → HH → Option HH) (c62 : Int → Int → Int → Int → Int → Int → Int → Int → HH → Option HH) (x1 : Int) (x2 : Int) (x3 : Int) (x4 : Int) (x5 : Int) (x6 : Int) (x7 : Int) (x8 : Int) (x9 : Int) (h : HH) : Option HH := bX9_add_100 nX9_shorten (nX9_add_165 c43 c62) x1 x2 x3 x4 x5 x6 x7 x8 x9 h
theorem wX9_add_100 {g : SG} (hg : GOK g) {σ0 : SG} {c43 : Int → Int → Int → Int → Int → Int → HH → Option HH} {c62 : Int → Int → Int → Int → Int → Int → Int → Int → HH → Option HH} (k43 : ∀ (x1 : Int) (x2 : Int) (x3 : Int) (x4 : Int) (x5 : Int) (x6 : Int) (h : HH) (b : HH), c43 x1 x2 x3 x4 x5 x6 h = some b → WK 89 (.inl none) σ0 (abH 2 70 g b) 43 [(0, aR 3), (1, aI x1), (2, aI x2), (3, aI x3), (4, aI x4), (5, aI x5), (6, aI x6)] [] (abH 2 70 g h) 0 0) (k62 : ∀ (x1 : Int) (x2 : Int) (x3 : Int) (x4 : Int) (x5 : Int) (x6 : Int) (x7 : Int) (x8 : Int) (h : HH) (b : HH), c62 x1 x2 x3 x4 x5 x6 x7 x8 h = some b → WK 89 (.inl none) σ0 (abH 2 70 g b) 62 [(0, aR 3), (1, aI x1), (2, aI x2), (3, aI x3), (4, aI x4), (5, aI x5), (6, aI x6), (7, aI x7), (8, aI x8)] [] (abH 2 70 g h) 0 0) : ∀ {x1 : Int} {x2 : Int} {x3 : Int} {x4 : Int} {x5 : Int} {x6 : Int} {x7 : Int} {x8 : Int} {x9 : Int} {h : HH} {b : HH}, nX9_add_100 c43 c62 x1 x2 x3 x4 x5 x6 x7 x8 x9 h = some b → WK 89 (.inl none) σ0 (abH 2 70 g b) 100 [(0, aR 3), (1, aI x1), (2, aI x2), (3, aI x3), (4, aI x4), (5, aI x5), (6, aI x6), (7, aI x7), (8, aI x8), (9, aI x9)] [] (abH 2 70 g h) 0 0 := by
  intro x1 x2 x3 x4 x5 x6 x7 x8 x9 h b q
  exact uX9_add_100 hg (fun _ _ _ _ _ _ _ _ _ _ q => wX9_add_165 hg k43 k62 q) q
def bX9_add_62 (c100 : Int → Int → Int → Int → Int → Int → Int → Int → Int → HH → Option HH) (c165 : Int → Int → Int → Int → Int → Int → Int → Int → HH → Option HH) (c171 : Int → Int → Int → Int → Int → Int → HH → Option HH) (x1 : Int) (x2 : Int) (x3 : Int) (x4 : Int) (x5 : Int) (x6 : Int) (x7 : Int) (x8 : Int) (h : HH) : Option HH :=
  if x8 < (16 : Int) then
    gd ((0 : Int) ≤ x7 ∧ x7 < (256 : Int)) <|
    if (h.1 7 x7) = ((-1) : Int) then
    c171 x1 x2 x3 x4 x5 x6 h
  else
    gd (R32 (x2 * 16)) <|
    gd (R32 ((x2 * 16) + x8)) <|
    gd ((0 : Int) ≤ ((x2 * 16) + x8) ∧ ((x2 * 16) + x8) < (256 : Int)) <|
    if (h.1 7 ((x2 * 16) + x8)) = ((-1) : Int) then
    c165 x1 x2 x3 x4 x5 x6 x7 x8 h
  else
    c100 x1 x2 x3 x4 x5 x6 x7 x8 ((x2 * 16) + x8) h
  else
    c171 x1 x2 x3 x4 x5 x6 h
theorem uX9_add_62 {g : SG} (hg : GOK g) {σ0 : SG} {c100 : Int → Int → Int → Int → Int → Int → Int → Int → Int → HH → Option HH} {c165 : Int → Int → Int → Int → Int → Int → Int → Int → HH → Option HH} {c171 : Int → Int → Int → Int → Int → Int → HH → Option HH} (k100 : ∀ (x1 : Int) (x2 : Int) (x3 : Int) (x4 : Int) (x5 : Int) (x6 : Int) (x7 : Int) (x8 : Int) (x9 : Int) (h : HH) (b : HH), c100 x1 x2 x3 x4 x5 x6 x7 x8 x9 h = some b → WK 89 (.inl none) σ0 (abH 2 70 g b) 100 [(0, aR 3), (1, aI x1), (2, aI x2), (3, aI x3), (4, aI x4), (5, aI x5), (6, aI x6), (7, aI x7), (8, aI x8), (9, aI x9)] [] (abH 2 70 g h) 0 0) (k165 : ∀ (x1 : Int) (x2 : Int) (x3 : Int) (x4 : Int) (x5 : Int) (x6 : Int) (x7 : Int) (x8 : Int) (h : HH) (b : HH), c165 x1 x2 x3 x4 x5 x6 x7 x8 h = some b → WK 89 (.inl none) σ0 (abH 2 70 g b) 165 [(0, aR 3), (1, aI x1), (2, aI x2), (3, aI x3), (4, aI x4), (5, aI x5), (6, aI x6), (7, aI x7), (8, aI x8)] [] (abH 2 70 g h) 0 0) (k171 : ∀ (x1 : Int) (x2 : Int) (x3 : Int) (x4 : Int) (x5 : Int) (x6 : Int) (h : HH) (b : HH), c171 x1 x2 x3 x4 x5 x6 h = some b → WK 89 (.inl none) σ0 (abH 2 70 g b) 171 [(0, aR 3), (1, aI x1), (2, aI x2), (3, aI x3), (4, aI x4), (5, aI x5), (6, aI x6)] [] (abH 2 70 g h) 0 0) : ∀ {x1 : Int} {x2 : Int} {x3 : Int} {x4 : Int} {x5 : Int} {x6 : Int} {x7 : Int} {x8 : Int} {h : HH} {b : HH}, bX9_add_62 c100 c165 c171 x1 x2 x3 x4 x5 x6 x7 x8 h = some b → WK 89 (.inl none) σ0 (abH 2 70 g b) 62 [(0, aR 3), (1, aI x1), (2, aI x2), (3, aI x3), (4, aI x4), (5, aI x5), (6, aI x6), (7, aI x7), (8, aI x8)] [] (abH 2 70 g h) 0 0 := by
  intro x1 x2 x3 x4 x5 x6 x7 x8 h b q
  have e : bX9_add_62 c100 c165 c171 x1 x2 x3 x4 x5 x6 x7 x8 h = segW 2 70 g.2.2.2.2 krWV clN csX9_add (cuC 100 (fun l st s => tkC 0 3 l <| tkI 1 l fun x1 => tkI 2 l fun x2 => tkI 3 l fun x3 => tkI 4 l fun x4 => tkI 5 l fun x5 => tkI 6 l fun x6 => tkI 7 l fun x7 => tkI 8 l fun x8 => tkI 9 l fun x9 => skE st (c100 x1 x2 x3 x4 x5 x6 x7 x8 x9 s)) (cuC 165 (fun l st s => tkC 0 3 l <| tkI 1 l fun x1 => tkI 2 l fun x2 => tkI 3 l fun x3 => tkI 4 l fun x4 => tkI 5 l fun x5 => tkI 6 l fun x6 => tkI 7 l fun x7 => tkI 8 l fun x8 => skE st (c165 x1 x2 x3 x4 x5 x6 x7 x8 s)) (cuC 171 (fun l st s => tkC 0 3 l <| tkI 1 l fun x1 => tkI 2 l fun x2 => tkI 3 l fun x3 => tkI 4 l fun x4 => tkI 5 l fun x5 => tkI 6 l fun x6 => skE st (c171 x1 x2 x3 x4 x5 x6 s)) cuN))) 1000 62 [(0, aR 3), (1, aI x1), (2, aI x2), (3, aI x3), (4, aI x4), (5, aI x5), (6, aI x6), (7, aI x7), (8, aI x8)] [] h := rfl
  rw [e] at q
  clear e
  refine segW_wk (by decide) (by decide) hg rwX9_add CLKW_N krWV_ok ?_ q
  clear q
  refine ct_C ?_ (ct_C ?_ (ct_C ?_ (ct_N)))
  · intro l st h q
    obtain ⟨m0, q1⟩ := tkC_of q
    obtain ⟨x1, m1, q2⟩ := tkI_of q1
    obtain ⟨x2, m2, q3⟩ := tkI_of q2
    obtain ⟨x3, m3, q4⟩ := tkI_of q3
    obtain ⟨x4, m4, q5⟩ := tkI_of q4
    obtain ⟨x5, m5, q6⟩ := tkI_of q5
    obtain ⟨x6, m6, q7⟩ := tkI_of q6
    obtain ⟨x7, m7, q8⟩ := tkI_of q7
    obtain ⟨x8, m8, q9⟩ := tkI_of q8
    obtain ⟨x9, m9, q10⟩ := tkI_of q9
    obtain ⟨rfl, q11⟩ := skE_of q10
    exact WK_less (k100 _ _ _ _ _ _ _ _ _ _ _ q11) (List.forall_mem_cons.mpr ⟨m0, (List.forall_mem_cons.mpr ⟨m1, (List.forall_mem_cons.mpr ⟨m2, (List.forall_mem_cons.mpr ⟨m3, (List.forall_mem_cons.mpr ⟨m4, (List.forall_mem_cons.mpr ⟨m5, (List.forall_mem_cons.mpr ⟨m6, (List.forall_mem_cons.mpr ⟨m7, (List.forall_mem_cons.mpr ⟨m8, (List.forall_mem_cons.mpr ⟨m9, (fun _ h => absurd h List.not_mem_nil)⟩)⟩)⟩)⟩)⟩)⟩)⟩)⟩)⟩)⟩)
  · intro l st h q
    obtain ⟨m0, q1⟩ := tkC_of q
    obtain ⟨x1, m1, q2⟩ := tkI_of q1
    obtain ⟨x2, m2, q3⟩ := tkI_of q2
    obtain ⟨x3, m3, q4⟩ := tkI_of q3
    obtain ⟨x4, m4, q5⟩ := tkI_of q4
    obtain ⟨x5, m5, q6⟩ := tkI_of q5
    obtain ⟨x6, m6, q7⟩ := tkI_of q6
    obtain ⟨x7, m7, q8⟩ := tkI_of q7
    obtain ⟨x8, m8, q9⟩ := tkI_of q8
    obtain ⟨rfl, q10⟩ := skE_of q9
    exact WK_less (k165 _ _ _ _ _ _ _ _ _ _ q10) (List.forall_mem_cons.mpr ⟨m0, (List.forall_mem_cons.mpr ⟨m1, (List.forall_mem_cons.mpr ⟨m2, (List.forall_mem_cons.mpr ⟨m3, (List.forall_mem_cons.mpr ⟨m4, (List.forall_mem_cons.mpr ⟨m5, (List.forall_mem_cons.mpr ⟨m6, (List.forall_mem_cons.mpr ⟨m7, (List.forall_mem_cons.mpr ⟨m8, (fun _ h => absurd h List.not_mem_nil)⟩)⟩)⟩)⟩)⟩)⟩)⟩)⟩)⟩)
  · intro l st h q
    obtain ⟨m0, q1⟩ := tkC_of q
    obtain ⟨x1, m1, q2⟩ := tkI_of q1
    obtain ⟨x2, m2, q3⟩ := tkI_of q2
    obtain ⟨x3, m3, q4⟩ := tkI_of q3
    obtain ⟨x4, m4, q5⟩ := tkI_of q4
    obtain ⟨x5, m5, q6⟩ := tkI_of q5
    obtain ⟨x6, m6, q7⟩ := tkI_of q6
    obtain ⟨rfl, q8⟩ := skE_of q7
    exact WK_less (k171 _ _ _ _ _ _ _ _ q8) (List.forall_mem_cons.mpr ⟨m0, (List.forall_mem_cons.mpr ⟨m1, (List.forall_mem_cons.mpr ⟨m2, (List.forall_mem_cons.mpr ⟨m3, (List.forall_mem_cons.mpr ⟨m4, (List.forall_mem_cons.mpr ⟨m5, (List.forall_mem_cons.mpr ⟨m6, (fun _ h => absurd h List.not_mem_nil)⟩)⟩)⟩)⟩)⟩)⟩)⟩)
def nX9_add_62 (c43 : Int → Int → Int → Int → Int → Int → HH → Option HH) : Nat → Int → Int → Int → Int → Int → Int → Int → Int → HH → Option HH := iter (fun _ _ _ _ _ _ _ _ _ => none) (fun self => bX9_add_62 (nX9_add_100 c43 self) (nX9_add_165 c43 self) (nX9_add_171 c43))
theorem nX9_add_62_s {c43 : Int → Int → Int → Int → Int → Int → HH → Option HH} {F : Nat} : nX9_add_62 c43 (F + 1) = bX9_add_62 (nX9_add_100 c43 (nX9_add_62 c43 F)) (nX9_add_165 c43 (nX9_add_62 c43 F)) (nX9_add_171 c43) := rfl
theorem wX9_add_62 {g : SG} (hg : GOK g) {σ0 : SG} {c43 : Int → Int → Int → Int → Int → Int → HH → Option HH} (k43 : ∀ (x1 : Int) (x2 : Int) (x3 : Int) (x4 : Int) (x5 : Int) (x6 : Int) (h : HH) (b : HH), c43 x1 x2 x3 x4 x5 x6 h = some b → WK 89 (.inl none) σ0 (abH 2 70 g b) 43 [(0, aR 3), (1, aI x1), (2, aI x2), (3, aI x3), (4, aI x4), (5, aI x5), (6, aI x6)] [] (abH 2 70 g h) 0 0) : ∀ {F : Nat}, ∀ {x1 : Int} {x2 : Int} {x3 : Int} {x4 : Int} {x5 : Int} {x6 : Int} {x7 : Int} {x8 : Int} {h : HH} {b : HH}, nX9_add_62 c43 F x1 x2 x3 x4 x5 x6 x7 x8 h = some b → WK 89 (.inl none) σ0 (abH 2 70 g b) 62 [(0, aR 3), (1, aI x1), (2, aI x2), (3, aI x3), (4, aI x4), (5, aI x5), (6, aI x6), (7, aI x7), (8, aI x8)] [] (abH 2 70 g h) 0 0 := by
  intro F
  have z : ∀ (x1 : Int) (x2 : Int) (x3 : Int) (x4 : Int) (x5 : Int) (x6 : Int) (x7 : Int) (x8 : Int) (h : HH) (b : HH), nX9_add_62 c43 F x1 x2 x3 x4 x5 x6 x7 x8 h = some b → WK 89 (.inl none) σ0 (abH 2 70 g b) 62 [(0, aR 3), (1, aI x1), (2, aI x2), (3, aI x3), (4, aI x4), (5, aI x5), (6, aI x6), (7, aI x7), (8, aI x8)] [] (abH 2 70 g h) 0 0 := iter_ind (P := fun (c : Int → Int → Int → Int → Int → Int → Int → Int → HH → Option HH) => ∀ (x1 : Int) (x2 : Int) (x3 : Int) (x4 : Int) (x5 : Int) (x6 : Int) (x7 : Int) (x8 : Int) (h : HH) (b : HH), c x1 x2 x3 x4 x5 x6 x7 x8 h = some b → WK 89 (.inl none) σ0 (abH 2 70 g b) 62 [(0, aR 3), (1, aI x1), (2, aI x2), (3, aI x3), (4, aI x4), (5, aI x5), (6, aI x6), (7, aI x7), (8, aI x8)] [] (abH 2 70 g h) 0 0) (by
    intro x1 x2 x3 x4 x5 x6 x7 x8 h b q
    cases q) (fun self ih => by
    intro x1 x2 x3 x4 x5 x6 x7 x8 h b q
    exact uX9_add_62 hg (fun _ _ _ _ _ _ _ _ _ _ _ q => wX9_add_100 hg k43 ih q) (fun _ _ _ _ _ _ _ _ _ _ q => wX9_add_165 hg k43 ih q) (fun _ _ _ _ _ _ _ _ q => wX9_add_171 hg k43 q) q) F
  intro x1 x2 x3 x4 x5 x6 x7 x8 h b q
  exact z _ _ _ _ _ _ _ _ _ _ q
def bX9_add_43 (c62 : Int → Int → Int → Int → Int → Int → Int → Int → HH → Option HH) (x1 : Int) (x2 : Int) (x3 : Int) (x4 : Int) (x5 : Int) (x6 : Int) (h : HH) : Option HH :=
  if x6 < (16 : Int) then
    gd (R32 (x6 * 16)) <|
    gd (R32 ((x6 * 16) + x1)) <|
    c62 x1 x2 x3 x4 x5 x6 ((x6 * 16) + x1) 0 h
  else
    some h
theorem uX9_add_43 {g : SG} (hg : GOK g) {σ0 : SG} {c62 : Int → Int → Int → Int → Int → Int → Int → Int → HH → Option HH} (k62 : ∀ (x1 : Int) (x2 : Int) (x3 : Int) (x4 : Int) (x5 : Int) (x6 : Int) (x7 : Int) (x8 : Int) (h : HH) (b : HH), c62 x1 x2 x3 x4 x5 x6 x7 x8 h = some b → WK 89 (.inl none) σ0 (abH 2 70 g b) 62 [(0, aR 3), (1, aI x1), (2, aI x2), (3, aI x3), (4, aI x4), (5, aI x5), (6, aI x6), (7, aI x7), (8, aI x8)] [] (abH 2 70 g h) 0 0) : ∀ {x1 : Int} {x2 : Int} {x3 : Int} {x4 : Int} {x5 : Int} {x6 : Int} {h : HH} {b : HH}, bX9_add_43 c62 x1 x2 x3 x4 x5 x6 h = some b → WK 89 (.inl none) σ0 (abH 2 70 g b) 43 [(0, aR 3), (1, aI x1), (2, aI x2), (3, aI x3), (4, aI x4), (5, aI x5), (6, aI x6)] [] (abH 2 70 g h) 0 0 := by
  intro x1 x2 x3 x4 x5 x6 h b q
  have e : bX9_add_43 c62 x1 x2 x3 x4 x5 x6 h = segW 2 70 g.2.2.2.2 krWV clN csX9_add (cuC 62 (fun l st s => tkC 0 3 l <| tkI 1 l fun x1 => tkI 2 l fun x2 => tkI 3 l fun x3 => tkI 4 l fun x4 => tkI 5 l fun x5 => tkI 6 l fun x6 => tkI 7 l fun x7 => tkI 8 l fun x8 => skE st (c62 x1 x2 x3 x4 x5 x6 x7 x8 s)) cuN) 1000 43 [(0, aR 3), (1, aI x1), (2, aI x2), (3, aI x3), (4, aI x4), (5, aI x5), (6, aI x6)] [] h := rfl
  rw [e] at q
  clear e
  refine segW_wk (by decide) (by decide) hg rwX9_add CLKW_N krWV_ok ?_ q
  clear q
  refine ct_C ?_ (ct_N)
  · intro l st h q
    obtain ⟨m0, q1⟩ := tkC_of q
    obtain ⟨x1, m1, q2⟩ := tkI_of q1
    obtain ⟨x2, m2, q3⟩ := tkI_of q2
    obtain ⟨x3, m3, q4⟩ := tkI_of q3
    obtain ⟨x4, m4, q5⟩ := tkI_of q4
    obtain ⟨x5, m5, q6⟩ := tkI_of q5
    obtain ⟨x6, m6, q7⟩ := tkI_of q6
    obtain ⟨x7, m7, q8⟩ := tkI_of q7
    obtain ⟨x8, m8, q9⟩ := tkI_of q8
    obtain ⟨rfl, q10⟩ := skE_of q9
    exact WK_less (k62 _ _ _ _ _ _ _ _ _ _ q10) (List.forall_mem_cons.mpr ⟨m0, (List.forall_mem_cons.mpr ⟨m1, (List.forall_mem_cons.mpr ⟨m2, (List.forall_mem_cons.mpr ⟨m3, (List.forall_mem_cons.mpr ⟨m4, (List.forall_mem_cons.mpr ⟨m5, (List.forall_mem_cons.mpr ⟨m6, (List.forall_mem_cons.mpr ⟨m7, (List.forall_mem_cons.mpr ⟨m8, (fun _ h => absurd h List.not_mem_nil)⟩)⟩)⟩)⟩)⟩)⟩)⟩)⟩)⟩)
def nX9_add_43 : Nat → Int → Int → Int → Int → Int → Int → HH → Option HH := iter (fun _ _ _ _ _ _ _ => none) (fun self => bX9_add_43 (nX9_add_62 self 100000))
theorem nX9_add_43_s {F : Nat} : nX9_add_43 (F + 1) = bX9_add_43 (nX9_add_62 (nX9_add_43 F) 100000) := rfl
theorem wX9_add_43 {g : SG} (hg : GOK g) {σ0 : SG} : ∀ {F : Nat}, ∀ {x1 : Int} {x2 : Int} {x3 : Int} {x4 : Int} {x5 : Int} {x6 : Int} {h : HH} {b : HH}, nX9_add_43 F x1 x2 x3 x4 x5 x6 h = some b → WK 89 (.inl none) σ0 (abH 2 70 g b) 43 [(0, aR 3), (1, aI x1), (2, aI x2), (3, aI x3), (4, aI x4), (5, aI x5), (6, aI x6)] [] (abH 2 70 g h) 0 0 := by
  intro F
  have z : ∀ (x1 : Int) (x2 : Int) (x3 : Int) (x4 : Int) (x5 : Int) (x6 : Int) (h : HH) (b : HH), nX9_add_43 F x1 x2 x3 x4 x5 x6 h = some b → WK 89 (.inl none) σ0 (abH 2 70 g b) 43 [(0, aR 3), (1, aI x1), (2, aI x2), (3, aI x3), (4, aI x4), (5, aI x5), (6, aI x6)] [] (abH 2 70 g h) 0 0 := iter_ind (P := fun (c : Int → Int → Int → Int → Int → Int → HH → Option HH) => ∀ (x1 : Int) (x2 : Int) (x3 : Int) (x4 : Int) (x5 : Int) (x6 : Int) (h : HH) (b : HH), c x1 x2 x3 x4 x5 x6 h = some b → WK 89 (.inl none) σ0 (abH 2 70 g b) 43 [(0, aR 3), (1, aI x1), (2, aI x2), (3, aI x3), (4, aI x4), (5, aI x5), (6, aI x6)] [] (abH 2 70 g h) 0 0) (by
    intro x1 x2 x3 x4 x5 x6 h b q
    cases q) (fun self ih => by
    intro x1 x2 x3 x4 x5 x6 h b q
    exact uX9_add_43 hg (fun _ _ _ _ _ _ _ _ _ _ q => wX9_add_62 hg ih q) q) F
  intro x1 x2 x3 x4 x5 x6 h b q
  exact z _ _ _ _ _ _ _ _ q
def bX9_add (c43 : Int → Int → Int → Int → Int → Int → HH → Option HH) (x1 : Int) (x2 : Int) (x3 : Int) (x4 : Int) (x5 : Int) (h : HH) : Option HH :=
  gd ((0 : Int) ≤ (h.1 3 3) ∧ (h.1 3 3) < (60 : Int)) <|
    bnd (some (hI h 4 (h.1 3 3) x1)) fun h1 =>
    gd ((0 : Int) ≤ (h1.1 3 3) ∧ (h1.1 3 3) < (60 : Int)) <|
    bnd (some (hI h1 5 (h1.1 3 3) x2)) fun h2 =>
    gd ((0 : Int) ≤ (h2.1 3 3) ∧ (h2.1 3 3) < (60 : Int)) <|
    bnd (some (hI h2 6 (h2.1 3 3) x3)) fun h3 =>
    gd (R32 ((h3.1 3 3) + 1)) <|
    bnd (some (hI h3 3 3 ((h3.1 3 3) + 1))) fun h4 =>
    c43 x1 x2 x3 x4 x5 0 h4
theorem uX9_add {g : SG} (hg : GOK g) {σ0 : SG} {c43 : Int → Int → Int → Int → Int → Int → HH → Option HH} (k43 : ∀ (x1 : Int) (x2 : Int) (x3 : Int) (x4 : Int) (x5 : Int) (x6 : Int) (h : HH) (b : HH), c43 x1 x2 x3 x4 x5 x6 h = some b → WK 89 (.inl none) σ0 (abH 2 70 g b) 43 [(0, aR 3), (1, aI x1), (2, aI x2), (3, aI x3), (4, aI x4), (5, aI x5), (6, aI x6)] [] (abH 2 70 g h) 0 0) : ∀ {x1 : Int} {x2 : Int} {x3 : Int} {x4 : Int} {x5 : Int} {h : HH} {b : HH}, bX9_add c43 x1 x2 x3 x4 x5 h = some b → WK 89 (.inl none) σ0 (abH 2 70 g b) 0 [(0, aR 3), (1, aI x1), (2, aI x2), (3, aI x3), (4, aI x4), (5, aI x5)] [] (abH 2 70 g h) 0 0 := by
  intro x1 x2 x3 x4 x5 h b q
  have e : bX9_add c43 x1 x2 x3 x4 x5 h = segW 2 70 g.2.2.2.2 krWV clN csX9_add (cuC 43 (fun l st s => tkC 0 3 l <| tkI 1 l fun x1 => tkI 2 l fun x2 => tkI 3 l fun x3 => tkI 4 l fun x4 => tkI 5 l fun x5 => tkI 6 l fun x6 => skE st (c43 x1 x2 x3 x4 x5 x6 s)) cuN) 1000 0 [(0, aR 3), (1, aI x1), (2, aI x2), (3, aI x3), (4, aI x4), (5, aI x5)] [] h := rfl
  rw [e] at q
  clear e
  refine segW_wk (by decide) (by decide) hg rwX9_add CLKW_N krWV_ok ?_ q
  clear q
  refine ct_C ?_ (ct_N)
  · intro l st h q
    obtain ⟨m0, q1⟩ := tkC_of q
    obtain ⟨x1, m1, q2⟩ := tkI_of q1
    obtain ⟨x2, m2, q3⟩ := tkI_of q2
    obtain ⟨x3, m3, q4⟩ := tkI_of q3
    obtain ⟨x4, m4, q5⟩ := tkI_of q4
    obtain ⟨x5, m5, q6⟩ := tkI_of q5
    obtain ⟨x6, m6, q7⟩ := tkI_of q6
    obtain ⟨rfl, q8⟩ := skE_of q7
    exact WK_less (k43 _ _ _ _ _ _ _ _ q8) (List.forall_mem_cons.mpr ⟨m0, (List.forall_mem_cons.mpr ⟨m1, (List.forall_mem_cons.mpr ⟨m2, (List.forall_mem_cons.mpr ⟨m3, (List.forall_mem_cons.mpr ⟨m4, (List.forall_mem_cons.mpr ⟨m5, (List.forall_mem_cons.mpr ⟨m6, (fun _ h => absurd h List.not_mem_nil)⟩)⟩)⟩)⟩)⟩)⟩)⟩)
def nX9_add (x1 : Int) (x2 : Int) (x3 : Int) (x4 : Int) (x5 : Int) (h : HH) : Option HH := bX9_add (nX9_add_43 100000) x1 x2 x3 x4 x5 h
theorem wX9_add {g : SG} (hg : GOK g) {σ0 : SG} : ∀ {x1 : Int} {x2 : Int} {x3 : Int} {x4 : Int} {x5 : Int} {h : HH} {b : HH}, nX9_add x1 x2 x3 x4 x5 h = some b → WK 89 (.inl none) σ0 (abH 2 70 g b) 0 [(0, aR 3), (1, aI x1), (2, aI x2), (3, aI x3), (4, aI x4), (5, aI x5)] [] (abH 2 70 g h) 0 0 := by
  intro x1 x2 x3 x4 x5 h b q
  exact uX9_add hg (fun _ _ _ _ _ _ _ _ q => wX9_add_43 hg q) q
theorem mX9_add {g : SG} (hg : GOK g) {h : HH} {x1 : Int} {x2 : Int} {x3 : Int} {x4 : Int} {x5 : Int} {b : HH} (q : nX9_add x1 x2 x3 x4 x5 h = some b) : MCT 89 [] [aR 3, aI x1, aI x2, aI x3, aI x4, aI x5] (abH 2 70 g h) (.inl none) (abH 2 70 g b) :=
  mct_of (by decide) (MFok 89 (by decide +kernel)) (fun _ => Nat.le_of_ble_eq_true rfl) (wX9_add hg q)
def pX9_add {β : Type} (z : Int → Int → Int → Int → Int → HH → Option HH) : PW β := fun as h f => skC 3 as fun as => skI as fun x1 as => skI as fun x2 as => skI as fun x3 as => skI as fun x4 as => skI as fun x5 as => skE as (bnd (z x1 x2 x3 x4 x5 h) fun r => f (.inl none) r)
theorem pX9_add_ok {β : Type} {g : SG} (hg : GOK g) : CW1 (β := β) 89 (pX9_add nX9_add) 2 70 g := fun as h f b q => by
  obtain ⟨as, rfl, q1⟩ := skC_of q
  obtain ⟨x1, as, rfl, q2⟩ := skI_of q1
  obtain ⟨x2, as, rfl, q3⟩ := skI_of q2
  obtain ⟨x3, as, rfl, q4⟩ := skI_of q3
  obtain ⟨x4, as, rfl, q5⟩ := skI_of q4
  obtain ⟨x5, as, rfl, q6⟩ := skI_of q5
  obtain ⟨rfl, q0⟩ := skE_of q6
  obtain ⟨r, z1, z2⟩ := bnd_of q0
  exact ⟨_, _, z2, by decide, mX9_add hg z1, rfl, rfl, fun z => absurd z (by decide)⟩
def csX9_firstToLeave : List (Nat × List (Nat × ARow)) := [(39, [(0, 1, .iconst (-1), 0, 0, 0), (1, 1, .istore_n 1, 0, 0, 0), (2, 1, .iconst 0, 0, 0, 0), (3, 1, .istore_n 2, 0, 0, 0), (4, 1, .iload_n 2, 0, 0, 0), (5, 2, .bipush 16, 0, 0, 0), (7, 3, .if_icmp .ge 50, 57, 0, 0), (10, 1, .aload_n 0, 0, 0, 0), (11, 3, .getfield 36, 9, 9, 2), (14, 1, .iload_n 2, 0, 0, 0), (15, 1, .baload, 0, 0, 0), (16, 3, .ifCond .ne 35, 51, 0, 0), (19, 1, .aload_n 0, 0, 0, 0), (20, 3, .getfield 33, 9, 8, 2), (23, 1, .iload_n 2, 0, 0, 0), (24, 1, .iaload, 0, 0, 0), (25, 1, .iconst (-1), 0, 0, 0), (26, 3, .if_icmp .eq 25, 51, 0, 0), (29, 1, .iload_n 1, 0, 0, 0), (30, 1, .iconst (-1), 0, 0, 0), (31, 3, .if_icmp .eq 18, 49, 0, 0), (34, 1, .aload_n 0, 0, 0, 0), (35, 3, .getfield 33, 9, 8, 2), (38, 1, .iload_n 2, 0, 0, 0)]),
  (100000, [(39, 1, .iaload, 0, 0, 0), (40, 1, .aload_n 0, 0, 0, 0), (41, 3, .getfield 33, 9, 8, 2), (44, 1, .iload_n 1, 0, 0, 0), (45, 1, .iaload, 0, 0, 0), (46, 3, .if_icmp .ge 5, 51, 0, 0), (49, 1, .iload_n 2, 0, 0, 0), (50, 1, .istore_n 1, 0, 0, 0), (51, 3, .iinc 2 1, 0, 0, 0), (54, 3, .goto (-50), 4, 0, 0), (57, 1, .iload_n 1, 0, 0, 0), (58, 1, .ireturn, 0, 0, 0)])]
theorem rwX9_firstToLeave : rowsB (mB 93) (mO 93) (mX 93) (mIni 93) (mFr 93) (mLo 93) (mT 93) csX9_firstToLeave = true := by decide +kernel
def bX9_firstToLeave_51 (h : HH) (c4 : Int → Int → Option Int) (x1 : Int) (x2 : Int) : Option Int :=
  gd (R32 (x2 + 1)) <|
    c4 x1 (x2 + 1)
theorem uX9_firstToLeave_51 {g : SG} (hg : GOK g) {σ0 : SG} {h : HH} {c4 : Int → Int → Option Int} (k4 : ∀ (x1 : Int) (x2 : Int) (b : Int), c4 x1 x2 = some b → WK 93 (.inl (some (aI b))) σ0 (abH 2 70 g h) 4 [(0, aR 3), (1, aI x1), (2, aI x2)] [] (abH 2 70 g h) 0 0) : ∀ {x1 : Int} {x2 : Int} {b : Int}, bX9_firstToLeave_51 h c4 x1 x2 = some b → WK 93 (.inl (some (aI b))) σ0 (abH 2 70 g h) 51 [(0, aR 3), (1, aI x1), (2, aI x2)] [] (abH 2 70 g h) 0 0 := by
  intro x1 x2 b q
  have e : bX9_firstToLeave_51 h c4 x1 x2 = segP 2 70 g.2.2.2.2 h krPI clNP csX9_firstToLeave (cuC 4 (fun l st s => tkC 0 3 l <| tkI 1 l fun x1 => tkI 2 l fun x2 => skE st (c4 x1 x2)) cuN) 1000 51 [(0, aR 3), (1, aI x1), (2, aI x2)] [] := rfl
  rw [e] at q
  clear e
  refine segP_wk (by decide) (by decide) hg rwX9_firstToLeave CLKP_N krPI_ok ?_ q
  clear q
  refine ct_C ?_ (ct_N)
  · intro l st _ q
    obtain ⟨m0, q1⟩ := tkC_of q
    obtain ⟨x1, m1, q2⟩ := tkI_of q1
    obtain ⟨x2, m2, q3⟩ := tkI_of q2
    obtain ⟨rfl, q4⟩ := skE_of q3
    exact WK_less (k4 _ _ _ q4) (List.forall_mem_cons.mpr ⟨m0, (List.forall_mem_cons.mpr ⟨m1, (List.forall_mem_cons.mpr ⟨m2, (fun _ h => absurd h List.not_mem_nil)⟩)⟩)⟩)
def nX9_firstToLeave_51 (h : HH) (c4 : Int → Int → Option Int) (x1 : Int) (x2 : Int) : Option Int := bX9_firstToLeave_51 h c4 x1 x2
theorem wX9_firstToLeave_51 {g : SG} (hg : GOK g) {σ0 : SG} {h : HH} {c4 : Int → Int → Option Int} (k4 : ∀ (x1 : Int) (x2 : Int) (b : Int), c4 x1 x2 = some b → WK 93 (.inl (some (aI b))) σ0 (abH 2 70 g h) 4 [(0, aR 3), (1, aI x1), (2, aI x2)] [] (abH 2 70 g h) 0 0) : ∀ {x1 : Int} {x2 : Int} {b : Int}, nX9_firstToLeave_51 h c4 x1 x2 = some b → WK 93 (.inl (some (aI b))) σ0 (abH 2 70 g h) 51 [(0, aR 3), (1, aI x1), (2, aI x2)] [] (abH 2 70 g h) 0 0 := by
  intro x1 x2 b q
  exact uX9_firstToLeave_51 hg k4 q
def bX9_firstToLeave_49 (h : HH) (c51 : Int → Int → Option Int) (x2 : Int) : Option Int :=
  c51 x2 x2
theorem uX9_firstToLeave_49 {g : SG} (hg : GOK g) {σ0 : SG} {h : HH} {c51 : Int → Int → Option Int} (k51 : ∀ (x1 : Int) (x2 : Int) (b : Int), c51 x1 x2 = some b → WK 93 (.inl (some (aI b))) σ0 (abH 2 70 g h) 51 [(0, aR 3), (1, aI x1), (2, aI x2)] [] (abH 2 70 g h) 0 0) : ∀ {x2 : Int} {b : Int}, bX9_firstToLeave_49 h c51 x2 = some b → WK 93 (.inl (some (aI b))) σ0 (abH 2 70 g h) 49 [(0, aR 3), (2, aI x2)] [] (abH 2 70 g h) 0 0 := by
  intro x2 b q
  have e : bX9_firstToLeave_49 h c51 x2 = segP 2 70 g.2.2.2.2 h krPI clNP csX9_firstToLeave (cuC 51 (fun l st s => tkC 0 3 l <| tkI 1 l fun x1 => tkI 2 l fun x2 => skE st (c51 x1 x2)) cuN) 1000 49 [(0, aR 3), (2, aI x2)] [] := rfl
  rw [e] at q
  clear e
  refine segP_wk (by decide) (by decide) hg rwX9_firstToLeave CLKP_N krPI_ok ?_ q
  clear q
  refine ct_C ?_ (ct_N)
  · intro l st _ q
    obtain ⟨m0, q1⟩ := tkC_of q
    obtain ⟨x1, m1, q2⟩ := tkI_of q1
    obtain ⟨x2, m2, q3⟩ := tkI_of q2
    obtain ⟨rfl, q4⟩ := skE_of q3
    exact WK_less (k51 _ _ _ q4) (List.forall_mem_cons.mpr ⟨m0, (List.forall_mem_cons.mpr ⟨m1, (List.forall_mem_cons.mpr ⟨m2, (fun _ h => absurd h List.not_mem_nil)⟩)⟩)⟩)
def nX9_firstToLeave_49 (h : HH) (c4 : Int → Int → Option Int) (x2 : Int) : Option Int := bX9_firstToLeave_49 h (nX9_firstToLeave_51 h c4) x2
theorem wX9_firstToLeave_49 {g : SG} (hg : GOK g) {σ0 : SG} {h : HH} {c4 : Int → Int → Option Int} (k4 : ∀ (x1 : Int) (x2 : Int) (b : Int), c4 x1 x2 = some b → WK 93 (.inl (some (aI b))) σ0 (abH 2 70 g h) 4 [(0, aR 3), (1, aI x1), (2, aI x2)] [] (abH 2 70 g h) 0 0) : ∀ {x2 : Int} {b : Int}, nX9_firstToLeave_49 h c4 x2 = some b → WK 93 (.inl (some (aI b))) σ0 (abH 2 70 g h) 49 [(0, aR 3), (2, aI x2)] [] (abH 2 70 g h) 0 0 := by
  intro x2 b q
  exact uX9_firstToLeave_49 hg (fun _ _ _ q => wX9_firstToLeave_51 hg k4 q) q
def bX9_firstToLeave_4 (h : HH) (c49 : Int → Option Int) (c51 : Int → Int → Option Int) (x1 : Int) (x2 : Int) : Option Int :=
  if x2 < (16 : Int) then
    gd ((0 : Int) ≤ x2 ∧ x2 < (16 : Int)) <|
    if (h.1 12 x2) = (0 : Int) then
    gd ((0 : Int) ≤ x2 ∧ x2 < (16 : Int)) <|
    if (h.1 11 x2) = ((-1) : Int) then
    c51 x1 x2
  else
    if x1 = ((-1) : Int) then
    c49 x2
  else
    gd ((0 : Int) ≤ x2 ∧ x2 < (16 : Int)) <|
    gd ((0 : Int) ≤ x1 ∧ x1 < (16 : Int)) <|
    if (h.1 11 x2) < ((h.1 11 x1) : Int) then
    c49 x2
  else
    c51 x1 x2
  else
    c51 x1 x2
  else
    some x1
theorem uX9_firstToLeave_4 {g : SG} (hg : GOK g) {σ0 : SG} {h : HH} {c49 : Int → Option Int} {c51 : Int → Int → Option Int} (k49 : ∀ (x2 : Int) (b : Int), c49 x2 = some b → WK 93 (.inl (some (aI b))) σ0 (abH 2 70 g h) 49 [(0, aR 3), (2, aI x2)] [] (abH 2 70 g h) 0 0) (k51 : ∀ (x1 : Int) (x2 : Int) (b : Int), c51 x1 x2 = some b → WK 93 (.inl (some (aI b))) σ0 (abH 2 70 g h) 51 [(0, aR 3), (1, aI x1), (2, aI x2)] [] (abH 2 70 g h) 0 0) : ∀ {x1 : Int} {x2 : Int} {b : Int}, bX9_firstToLeave_4 h c49 c51 x1 x2 = some b → WK 93 (.inl (some (aI b))) σ0 (abH 2 70 g h) 4 [(0, aR 3), (1, aI x1), (2, aI x2)] [] (abH 2 70 g h) 0 0 := by
  intro x1 x2 b q
  have e : bX9_firstToLeave_4 h c49 c51 x1 x2 = segP 2 70 g.2.2.2.2 h krPI clNP csX9_firstToLeave (cuC 49 (fun l st s => tkC 0 3 l <| tkI 2 l fun x2 => skE st (c49 x2)) (cuC 51 (fun l st s => tkC 0 3 l <| tkI 1 l fun x1 => tkI 2 l fun x2 => skE st (c51 x1 x2)) cuN)) 1000 4 [(0, aR 3), (1, aI x1), (2, aI x2)] [] := rfl
  rw [e] at q
  clear e
  refine segP_wk (by decide) (by decide) hg rwX9_firstToLeave CLKP_N krPI_ok ?_ q
  clear q
  refine ct_C ?_ (ct_C ?_ (ct_N))
  · intro l st _ q
    obtain ⟨m0, q1⟩ := tkC_of q
    obtain ⟨x2, m2, q2⟩ := tkI_of q1
    obtain ⟨rfl, q3⟩ := skE_of q2
    exact WK_less (k49 _ _ q3) (List.forall_mem_cons.mpr ⟨m0, (List.forall_mem_cons.mpr ⟨m2, (fun _ h => absurd h List.not_mem_nil)⟩)⟩)
  · intro l st _ q
    obtain ⟨m0, q1⟩ := tkC_of q
    obtain ⟨x1, m1, q2⟩ := tkI_of q1
    obtain ⟨x2, m2, q3⟩ := tkI_of q2
    obtain ⟨rfl, q4⟩ := skE_of q3
    exact WK_less (k51 _ _ _ q4) (List.forall_mem_cons.mpr ⟨m0, (List.forall_mem_cons.mpr ⟨m1, (List.forall_mem_cons.mpr ⟨m2, (fun _ h => absurd h List.not_mem_nil)⟩)⟩)⟩)
def nX9_firstToLeave_4 (h : HH) : Nat → Int → Int → Option Int := iter (fun _ _ => none) (fun self => bX9_firstToLeave_4 h (nX9_firstToLeave_49 h self) (nX9_firstToLeave_51 h self))
theorem nX9_firstToLeave_4_s {h : HH} {F : Nat} : nX9_firstToLeave_4 h (F + 1) = bX9_firstToLeave_4 h (nX9_firstToLeave_49 h (nX9_firstToLeave_4 h F)) (nX9_firstToLeave_51 h (nX9_firstToLeave_4 h F)) := rfl
theorem wX9_firstToLeave_4 {g : SG} (hg : GOK g) {σ0 : SG} {h : HH} : ∀ {F : Nat}, ∀ {x1 : Int} {x2 : Int} {b : Int}, nX9_firstToLeave_4 h F x1 x2 = some b → WK 93 (.inl (some (aI b))) σ0 (abH 2 70 g h) 4 [(0, aR 3), (1, aI x1), (2, aI x2)] [] (abH 2 70 g h) 0 0 := by
  intro F
  have z : ∀ (x1 : Int) (x2 : Int) (b : Int), nX9_firstToLeave_4 h F x1 x2 = some b → WK 93 (.inl (some (aI b))) σ0 (abH 2 70 g h) 4 [(0, aR 3), (1, aI x1), (2, aI x2)] [] (abH 2 70 g h) 0 0 := iter_ind (P := fun (c : Int → Int → Option Int) => ∀ (x1 : Int) (x2 : Int) (b : Int), c x1 x2 = some b → WK 93 (.inl (some (aI b))) σ0 (abH 2 70 g h) 4 [(0, aR 3), (1, aI x1), (2, aI x2)] [] (abH 2 70 g h) 0 0) (by
    intro x1 x2 b q
    cases q) (fun self ih => by
    intro x1 x2 b q
    exact uX9_firstToLeave_4 hg (fun _ _ q => wX9_firstToLeave_49 hg ih q) (fun _ _ _ q => wX9_firstToLeave_51 hg ih q) q) F
  intro x1 x2 b q
  exact z _ _ _ q
def bX9_firstToLeave (h : HH) (c4 : Int → Int → Option Int) : Option Int :=
  c4 (-1) 0
theorem uX9_firstToLeave {g : SG} (hg : GOK g) {σ0 : SG} {h : HH} {c4 : Int → Int → Option Int} (k4 : ∀ (x1 : Int) (x2 : Int) (b : Int), c4 x1 x2 = some b → WK 93 (.inl (some (aI b))) σ0 (abH 2 70 g h) 4 [(0, aR 3), (1, aI x1), (2, aI x2)] [] (abH 2 70 g h) 0 0) : ∀ {b : Int}, bX9_firstToLeave h c4 = some b → WK 93 (.inl (some (aI b))) σ0 (abH 2 70 g h) 0 [(0, aR 3)] [] (abH 2 70 g h) 0 0 := by
  intro  b q
  have e : bX9_firstToLeave h c4 = segP 2 70 g.2.2.2.2 h krPI clNP csX9_firstToLeave (cuC 4 (fun l st s => tkC 0 3 l <| tkI 1 l fun x1 => tkI 2 l fun x2 => skE st (c4 x1 x2)) cuN) 1000 0 [(0, aR 3)] [] := rfl
  rw [e] at q
  clear e
  refine segP_wk (by decide) (by decide) hg rwX9_firstToLeave CLKP_N krPI_ok ?_ q
  clear q
  refine ct_C ?_ (ct_N)
  · intro l st _ q
    obtain ⟨m0, q1⟩ := tkC_of q
    obtain ⟨x1, m1, q2⟩ := tkI_of q1
    obtain ⟨x2, m2, q3⟩ := tkI_of q2
    obtain ⟨rfl, q4⟩ := skE_of q3
    exact WK_less (k4 _ _ _ q4) (List.forall_mem_cons.mpr ⟨m0, (List.forall_mem_cons.mpr ⟨m1, (List.forall_mem_cons.mpr ⟨m2, (fun _ h => absurd h List.not_mem_nil)⟩)⟩)⟩)
def nX9_firstToLeave (h : HH) : Option Int := bX9_firstToLeave h (nX9_firstToLeave_4 h 100000)
theorem wX9_firstToLeave {g : SG} (hg : GOK g) {σ0 : SG} {h : HH} : ∀ {b : Int}, nX9_firstToLeave h = some b → WK 93 (.inl (some (aI b))) σ0 (abH 2 70 g h) 0 [(0, aR 3)] [] (abH 2 70 g h) 0 0 := by
  intro  b q
  exact uX9_firstToLeave hg (fun _ _ _ q => wX9_firstToLeave_4 hg q) q
theorem mX9_firstToLeave {g : SG} (hg : GOK g) {h : HH} {b : Int} (q : nX9_firstToLeave h = some b) : MCT 93 [] [aR 3] (abH 2 70 g h) (.inl (some (aI b))) (abH 2 70 g h) :=
  mct_of (by decide) (MFok 93 (by decide +kernel)) (fun _ => Nat.le_of_ble_eq_true rfl) (wX9_firstToLeave hg q)
def pX9_firstToLeave {β : Type} (z : HH → Option Int) : PP β := fun h as f => skC 3 as fun as => skE as (bnd (z h) fun r => f (.inl (some (aI r))))
theorem pX9_firstToLeave_ok {β : Type} {g : SG} (hg : GOK g) : CP1 (β := β) 93 (pX9_firstToLeave nX9_firstToLeave) 2 70 g := fun h as f b q => by
  obtain ⟨as, rfl, q1⟩ := skC_of q
  obtain ⟨rfl, q0⟩ := skE_of q1
  obtain ⟨r, z1, z2⟩ := bnd_of q0
  exact ⟨_, z2, by decide, mX9_firstToLeave hg z1, rfl, rfl, fun z => absurd z (by decide)⟩
def csX9_timeIn : List (Nat × List (Nat × ARow)) := [(100000, [(0, 1, .aload_n 0, 0, 0, 0), (1, 3, .getfield 18, 9, 2, 2), (4, 1, .iload_n 1, 0, 0, 0), (5, 1, .iaload, 0, 0, 0), (6, 1, .aload_n 0, 0, 0, 0), (7, 3, .getfield 30, 9, 7, 2), (10, 1, .iload_n 2, 0, 0, 0), (11, 2, .bipush 60, 0, 0, 0), (13, 1, .idiv, 0, 0, 0), (14, 2, .bipush 24, 0, 0, 0), (16, 1, .irem, 0, 0, 0), (17, 1, .iaload, 0, 0, 0), (18, 1, .imul, 0, 0, 0), (19, 2, .bipush 99, 0, 0, 0), (21, 1, .iadd, 0, 0, 0), (22, 2, .bipush 100, 0, 0, 0), (24, 1, .idiv, 0, 0, 0), (25, 1, .ireturn, 0, 0, 0)])]
theorem rwX9_timeIn : rowsB (mB 96) (mO 96) (mX 96) (mIni 96) (mFr 96) (mLo 96) (mT 96) csX9_timeIn = true := by decide +kernel
def bX9_timeIn (h : HH) (x1 : Int) (x2 : Int) : Option Int :=
  gd ((0 : Int) ≤ x1 ∧ x1 < (60 : Int)) <|
    gd ((0 : Int) ≤ x2 ∧ (0 : Int) < 60) <|
    gd ((0 : Int) ≤ (x2 / 60) ∧ (0 : Int) < 24) <|
    gd ((0 : Int) ≤ ((x2 / 60) % 24) ∧ ((x2 / 60) % 24) < (24 : Int)) <|
    gd (R32 ((h.1 6 x1) * (h.1 10 ((x2 / 60) % 24)))) <|
    gd (R32 (((h.1 6 x1) * (h.1 10 ((x2 / 60) % 24))) + 99)) <|
    gd ((0 : Int) ≤ (((h.1 6 x1) * (h.1 10 ((x2 / 60) % 24))) + 99) ∧ (0 : Int) < 100) <|
    some ((((h.1 6 x1) * (h.1 10 ((x2 / 60) % 24))) + 99) / 100)
theorem uX9_timeIn {g : SG} (hg : GOK g) {σ0 : SG} {h : HH} : ∀ {x1 : Int} {x2 : Int} {b : Int}, bX9_timeIn h x1 x2 = some b → WK 96 (.inl (some (aI b))) σ0 (abH 2 70 g h) 0 [(0, aR 3), (1, aI x1), (2, aI x2)] [] (abH 2 70 g h) 0 0 := by
  intro x1 x2 b q
  have e : bX9_timeIn h x1 x2 = segP 2 70 g.2.2.2.2 h krPI clNP csX9_timeIn cuN 1000 0 [(0, aR 3), (1, aI x1), (2, aI x2)] [] := rfl
  rw [e] at q
  clear e
  refine segP_wk (by decide) (by decide) hg rwX9_timeIn CLKP_N krPI_ok ?_ q
  clear q
  exact ct_N
def nX9_timeIn (h : HH) (x1 : Int) (x2 : Int) : Option Int := bX9_timeIn h x1 x2
theorem wX9_timeIn {g : SG} (hg : GOK g) {σ0 : SG} {h : HH} : ∀ {x1 : Int} {x2 : Int} {b : Int}, nX9_timeIn h x1 x2 = some b → WK 96 (.inl (some (aI b))) σ0 (abH 2 70 g h) 0 [(0, aR 3), (1, aI x1), (2, aI x2)] [] (abH 2 70 g h) 0 0 := by
  intro x1 x2 b q
  exact uX9_timeIn hg q
theorem mX9_timeIn {g : SG} (hg : GOK g) {h : HH} {x1 : Int} {x2 : Int} {b : Int} (q : nX9_timeIn h x1 x2 = some b) : MCT 96 [] [aR 3, aI x1, aI x2] (abH 2 70 g h) (.inl (some (aI b))) (abH 2 70 g h) :=
  mct_of (by decide) (MFok 96 (by decide +kernel)) (fun _ => Nat.le_of_ble_eq_true rfl) (wX9_timeIn hg q)
def pX9_timeIn {β : Type} (z : HH → Int → Int → Option Int) : PP β := fun h as f => skC 3 as fun as => skI as fun x1 as => skI as fun x2 as => skE as (bnd (z h x1 x2) fun r => f (.inl (some (aI r))))
theorem pX9_timeIn_ok {β : Type} {g : SG} (hg : GOK g) : CP1 (β := β) 96 (pX9_timeIn nX9_timeIn) 2 70 g := fun h as f b q => by
  obtain ⟨as, rfl, q1⟩ := skC_of q
  obtain ⟨x1, as, rfl, q2⟩ := skI_of q1
  obtain ⟨x2, as, rfl, q3⟩ := skI_of q2
  obtain ⟨rfl, q0⟩ := skE_of q3
  obtain ⟨r, z1, z2⟩ := bnd_of q0
  exact ⟨_, z2, by decide, mX9_timeIn hg z1, rfl, rfl, fun z => absurd z (by decide)⟩
def csX9_endOf : List (Nat × List (Nat × ARow)) := [(36, [(0, 1, .iload_n 2, 0, 0, 0), (1, 1, .aload_n 0, 0, 0, 0), (2, 1, .iload_n 1, 0, 0, 0), (3, 1, .iload_n 2, 0, 0, 0), (4, 3, .invokevirtual 70, 96, 3, 9), (7, 1, .iadd, 0, 0, 0), (8, 1, .istore_n 3, 0, 0, 0), (9, 1, .iload_n 2, 0, 0, 0), (10, 2, .bipush 60, 0, 0, 0), (12, 1, .idiv, 0, 0, 0), (13, 1, .iconst 1, 0, 0, 0), (14, 1, .iadd, 0, 0, 0), (15, 2, .bipush 60, 0, 0, 0), (17, 1, .imul, 0, 0, 0), (18, 2, .istore 4, 0, 0, 0), (20, 2, .iload 4, 0, 0, 0), (22, 1, .iload_n 3, 0, 0, 0), (23, 3, .if_icmp .ge 24, 47, 0, 0), (26, 1, .iload_n 3, 0, 0, 0), (27, 2, .iload 4, 0, 0, 0), (29, 1, .aload_n 0, 0, 0, 0), (30, 1, .iload_n 1, 0, 0, 0), (31, 2, .iload 4, 0, 0, 0), (33, 3, .invokevirtual 70, 96, 3, 9)]),
  (100000, [(36, 1, .iadd, 0, 0, 0), (37, 3, .invokestatic 73, 1001, 2, 0), (40, 1, .istore_n 3, 0, 0, 0), (41, 3, .iinc 4 60, 0, 0, 0), (44, 3, .goto (-24), 20, 0, 0), (47, 1, .iload_n 3, 0, 0, 0), (48, 1, .ireturn, 0, 0, 0)])]
theorem rwX9_endOf : rowsB (mB 95) (mO 95) (mX 95) (mIni 95) (mFr 95) (mLo 95) (mT 95) csX9_endOf = true := by decide +kernel
def bX9_endOf_20 (f96 : HH → Int → Int → Option Int) (h : HH) (c20 : Int → Int → Int → Option Int) (x1 : Int) (x3 : Int) (x4 : Int) : Option Int :=
  if x4 < (x3 : Int) then
    bnd (f96 h x1 x4) fun r1 =>
    gd (R32 (x4 + r1)) <|
    gd (R32 (x4 + 60)) <|
    c20 x1 (min x3 (x4 + r1)) (x4 + 60)
  else
    some x3
theorem uX9_endOf_20 {g : SG} (hg : GOK g) {σ0 : SG} {h : HH} {c20 : Int → Int → Int → Option Int} (k20 : ∀ (x1 : Int) (x3 : Int) (x4 : Int) (b : Int), c20 x1 x3 x4 = some b → WK 95 (.inl (some (aI b))) σ0 (abH 2 70 g h) 20 [(0, aR 3), (1, aI x1), (3, aI x3), (4, aI x4)] [] (abH 2 70 g h) 0 0) : ∀ {x1 : Int} {x3 : Int} {x4 : Int} {b : Int}, bX9_endOf_20 nX9_timeIn h c20 x1 x3 x4 = some b → WK 95 (.inl (some (aI b))) σ0 (abH 2 70 g h) 20 [(0, aR 3), (1, aI x1), (3, aI x3), (4, aI x4)] [] (abH 2 70 g h) 0 0 := by
  intro x1 x3 x4 b q
  have e : ∀ (f96 : HH → Int → Int → Option Int) , bX9_endOf_20 f96 h c20 x1 x3 x4 = segP 2 70 g.2.2.2.2 h krPI (clCP 96 (pX9_timeIn f96 h) clNP) csX9_endOf (cuC 20 (fun l st s => tkC 0 3 l <| tkI 1 l fun x1 => tkI 3 l fun x3 => tkI 4 l fun x4 => skE st (c20 x1 x3 x4)) cuN) 1000 20 [(0, aR 3), (1, aI x1), (3, aI x3), (4, aI x4)] [] := fun _ => rfl
  rw [e nX9_timeIn] at q
  clear e
  refine segP_wk (by decide) (by decide) hg rwX9_endOf (CLKP_C (pX9_timeIn_ok hg) CLKP_N) krPI_ok ?_ q
  clear q
  refine ct_C ?_ (ct_N)
  · intro l st _ q
    obtain ⟨m0, q1⟩ := tkC_of q
    obtain ⟨x1, m1, q2⟩ := tkI_of q1
    obtain ⟨x3, m3, q3⟩ := tkI_of q2
    obtain ⟨x4, m4, q4⟩ := tkI_of q3
    obtain ⟨rfl, q5⟩ := skE_of q4
    exact WK_less (k20 _ _ _ _ q5) (List.forall_mem_cons.mpr ⟨m0, (List.forall_mem_cons.mpr ⟨m1, (List.forall_mem_cons.mpr ⟨m3, (List.forall_mem_cons.mpr ⟨m4, (fun _ h => absurd h List.not_mem_nil)⟩)⟩)⟩)⟩)
def nX9_endOf_20 (h : HH) : Nat → Int → Int → Int → Option Int := iter (fun _ _ _ => none) (fun self => bX9_endOf_20 nX9_timeIn h self)
theorem nX9_endOf_20_s {h : HH} {F : Nat} : nX9_endOf_20 h (F + 1) = bX9_endOf_20 nX9_timeIn h (nX9_endOf_20 h F) := rfl
theorem wX9_endOf_20 {g : SG} (hg : GOK g) {σ0 : SG} {h : HH} : ∀ {F : Nat}, ∀ {x1 : Int} {x3 : Int} {x4 : Int} {b : Int}, nX9_endOf_20 h F x1 x3 x4 = some b → WK 95 (.inl (some (aI b))) σ0 (abH 2 70 g h) 20 [(0, aR 3), (1, aI x1), (3, aI x3), (4, aI x4)] [] (abH 2 70 g h) 0 0 := by
  intro F
  have z : ∀ (x1 : Int) (x3 : Int) (x4 : Int) (b : Int), nX9_endOf_20 h F x1 x3 x4 = some b → WK 95 (.inl (some (aI b))) σ0 (abH 2 70 g h) 20 [(0, aR 3), (1, aI x1), (3, aI x3), (4, aI x4)] [] (abH 2 70 g h) 0 0 := iter_ind (P := fun (c : Int → Int → Int → Option Int) => ∀ (x1 : Int) (x3 : Int) (x4 : Int) (b : Int), c x1 x3 x4 = some b → WK 95 (.inl (some (aI b))) σ0 (abH 2 70 g h) 20 [(0, aR 3), (1, aI x1), (3, aI x3), (4, aI x4)] [] (abH 2 70 g h) 0 0) (by
    intro x1 x3 x4 b q
    cases q) (fun self ih => by
    intro x1 x3 x4 b q
    exact uX9_endOf_20 hg ih q) F
  intro x1 x3 x4 b q
  exact z _ _ _ _ q
def bX9_endOf (f96 : HH → Int → Int → Option Int) (h : HH) (c20 : Int → Int → Int → Option Int) (x1 : Int) (x2 : Int) : Option Int :=
  bnd (f96 h x1 x2) fun r1 =>
    gd (R32 (x2 + r1)) <|
    gd ((0 : Int) ≤ x2 ∧ (0 : Int) < 60) <|
    gd (R32 ((x2 / 60) + 1)) <|
    gd (R32 (((x2 / 60) + 1) * 60)) <|
    c20 x1 (x2 + r1) (((x2 / 60) + 1) * 60)
theorem uX9_endOf {g : SG} (hg : GOK g) {σ0 : SG} {h : HH} {c20 : Int → Int → Int → Option Int} (k20 : ∀ (x1 : Int) (x3 : Int) (x4 : Int) (b : Int), c20 x1 x3 x4 = some b → WK 95 (.inl (some (aI b))) σ0 (abH 2 70 g h) 20 [(0, aR 3), (1, aI x1), (3, aI x3), (4, aI x4)] [] (abH 2 70 g h) 0 0) : ∀ {x1 : Int} {x2 : Int} {b : Int}, bX9_endOf nX9_timeIn h c20 x1 x2 = some b → WK 95 (.inl (some (aI b))) σ0 (abH 2 70 g h) 0 [(0, aR 3), (1, aI x1), (2, aI x2)] [] (abH 2 70 g h) 0 0 := by
  intro x1 x2 b q
  have e : ∀ (f96 : HH → Int → Int → Option Int) , bX9_endOf f96 h c20 x1 x2 = segP 2 70 g.2.2.2.2 h krPI (clCP 96 (pX9_timeIn f96 h) clNP) csX9_endOf (cuC 20 (fun l st s => tkC 0 3 l <| tkI 1 l fun x1 => tkI 3 l fun x3 => tkI 4 l fun x4 => skE st (c20 x1 x3 x4)) cuN) 1000 0 [(0, aR 3), (1, aI x1), (2, aI x2)] [] := fun _ => rfl
  rw [e nX9_timeIn] at q
  clear e
  refine segP_wk (by decide) (by decide) hg rwX9_endOf (CLKP_C (pX9_timeIn_ok hg) CLKP_N) krPI_ok ?_ q
  clear q
  refine ct_C ?_ (ct_N)
  · intro l st _ q
    obtain ⟨m0, q1⟩ := tkC_of q
    obtain ⟨x1, m1, q2⟩ := tkI_of q1
    obtain ⟨x3, m3, q3⟩ := tkI_of q2
    obtain ⟨x4, m4, q4⟩ := tkI_of q3
    obtain ⟨rfl, q5⟩ := skE_of q4
    exact WK_less (k20 _ _ _ _ q5) (List.forall_mem_cons.mpr ⟨m0, (List.forall_mem_cons.mpr ⟨m1, (List.forall_mem_cons.mpr ⟨m3, (List.forall_mem_cons.mpr ⟨m4, (fun _ h => absurd h List.not_mem_nil)⟩)⟩)⟩)⟩)
def nX9_endOf (h : HH) (x1 : Int) (x2 : Int) : Option Int := bX9_endOf nX9_timeIn h (nX9_endOf_20 h 100000) x1 x2
theorem wX9_endOf {g : SG} (hg : GOK g) {σ0 : SG} {h : HH} : ∀ {x1 : Int} {x2 : Int} {b : Int}, nX9_endOf h x1 x2 = some b → WK 95 (.inl (some (aI b))) σ0 (abH 2 70 g h) 0 [(0, aR 3), (1, aI x1), (2, aI x2)] [] (abH 2 70 g h) 0 0 := by
  intro x1 x2 b q
  exact uX9_endOf hg (fun _ _ _ _ q => wX9_endOf_20 hg q) q
theorem mX9_endOf {g : SG} (hg : GOK g) {h : HH} {x1 : Int} {x2 : Int} {b : Int} (q : nX9_endOf h x1 x2 = some b) : MCT 95 [] [aR 3, aI x1, aI x2] (abH 2 70 g h) (.inl (some (aI b))) (abH 2 70 g h) :=
  mct_of (by decide) (MFok 95 (by decide +kernel)) (fun _ => Nat.le_of_ble_eq_true rfl) (wX9_endOf hg q)
def pX9_endOf {β : Type} (z : HH → Int → Int → Option Int) : PP β := fun h as f => skC 3 as fun as => skI as fun x1 as => skI as fun x2 as => skE as (bnd (z h x1 x2) fun r => f (.inl (some (aI r))))
theorem pX9_endOf_ok {β : Type} {g : SG} (hg : GOK g) : CP1 (β := β) 95 (pX9_endOf nX9_endOf) 2 70 g := fun h as f b q => by
  obtain ⟨as, rfl, q1⟩ := skC_of q
  obtain ⟨x1, as, rfl, q2⟩ := skI_of q1
  obtain ⟨x2, as, rfl, q3⟩ := skI_of q2
  obtain ⟨rfl, q0⟩ := skE_of q3
  obtain ⟨r, z1, z2⟩ := bnd_of q0
  exact ⟨_, z2, by decide, mX9_endOf hg z1, rfl, rfl, fun z => absurd z (by decide)⟩
def csX9_leave : List (Nat × List (Nat × ARow)) := [(40, [(0, 1, .iconst 0, 0, 0, 0), (1, 1, .istore_n 2, 0, 0, 0), (2, 1, .iload_n 2, 0, 0, 0), (3, 1, .aload_n 0, 0, 0, 0), (4, 3, .getfield 46, 9, 3, 0), (7, 3, .if_icmp .ge 73, 80, 0, 0), (10, 1, .aload_n 0, 0, 0, 0), (11, 3, .getfield 9, 9, 0, 2), (14, 1, .iload_n 2, 0, 0, 0), (15, 1, .iaload, 0, 0, 0), (16, 1, .iload_n 1, 0, 0, 0), (17, 3, .if_icmp .ne 57, 74, 0, 0), (20, 1, .aload_n 0, 0, 0, 0), (21, 1, .iload_n 2, 0, 0, 0), (22, 1, .aload_n 0, 0, 0, 0), (23, 3, .getfield 33, 9, 8, 2), (26, 1, .iload_n 1, 0, 0, 0), (27, 1, .iaload, 0, 0, 0), (28, 3, .invokevirtual 66, 95, 3, 9), (31, 1, .istore_n 3, 0, 0, 0), (32, 1, .aload_n 0, 0, 0, 0), (33, 3, .getfield 33, 9, 8, 2), (36, 1, .aload_n 0, 0, 0, 0), (37, 3, .getfield 15, 9, 1, 2)]),
  (80, [(40, 1, .iload_n 2, 0, 0, 0), (41, 1, .iaload, 0, 0, 0), (42, 1, .iaload, 0, 0, 0), (43, 1, .iconst (-1), 0, 0, 0), (44, 3, .if_icmp .eq 18, 62, 0, 0), (47, 1, .iload_n 3, 0, 0, 0), (48, 1, .aload_n 0, 0, 0, 0), (49, 3, .getfield 33, 9, 8, 2), (52, 1, .aload_n 0, 0, 0, 0), (53, 3, .getfield 15, 9, 1, 2), (56, 1, .iload_n 2, 0, 0, 0), (57, 1, .iaload, 0, 0, 0), (58, 1, .iaload, 0, 0, 0), (59, 3, .if_icmp .ge 15, 74, 0, 0), (62, 1, .aload_n 0, 0, 0, 0), (63, 3, .getfield 33, 9, 8, 2), (66, 1, .aload_n 0, 0, 0, 0), (67, 3, .getfield 15, 9, 1, 2), (70, 1, .iload_n 2, 0, 0, 0), (71, 1, .iaload, 0, 0, 0), (72, 1, .iload_n 3, 0, 0, 0), (73, 1, .iastore, 0, 0, 0), (74, 3, .iinc 2 1, 0, 0, 0), (77, 3, .goto (-75), 2, 0, 0)]),
  (100000, [(80, 1, .return_, 0, 0, 0)])]
theorem rwX9_leave : rowsB (mB 94) (mO 94) (mX 94) (mIni 94) (mFr 94) (mLo 94) (mT 94) csX9_leave = true := by decide +kernel
def bX9_leave_74 (c2 : Int → Int → HH → Option HH) (x1 : Int) (x2 : Int) (h : HH) : Option HH :=
  gd (R32 (x2 + 1)) <|
    c2 x1 (x2 + 1) h
theorem uX9_leave_74 {g : SG} (hg : GOK g) {σ0 : SG} {c2 : Int → Int → HH → Option HH} (k2 : ∀ (x1 : Int) (x2 : Int) (h : HH) (b : HH), c2 x1 x2 h = some b → WK 94 (.inl none) σ0 (abH 2 70 g b) 2 [(0, aR 3), (1, aI x1), (2, aI x2)] [] (abH 2 70 g h) 0 0) : ∀ {x1 : Int} {x2 : Int} {h : HH} {b : HH}, bX9_leave_74 c2 x1 x2 h = some b → WK 94 (.inl none) σ0 (abH 2 70 g b) 74 [(0, aR 3), (1, aI x1), (2, aI x2)] [] (abH 2 70 g h) 0 0 := by
  intro x1 x2 h b q
  have e : bX9_leave_74 c2 x1 x2 h = segW 2 70 g.2.2.2.2 krWV clN csX9_leave (cuC 2 (fun l st s => tkC 0 3 l <| tkI 1 l fun x1 => tkI 2 l fun x2 => skE st (c2 x1 x2 s)) cuN) 1000 74 [(0, aR 3), (1, aI x1), (2, aI x2)] [] h := rfl
  rw [e] at q
  clear e
  refine segW_wk (by decide) (by decide) hg rwX9_leave CLKW_N krWV_ok ?_ q
  clear q
  refine ct_C ?_ (ct_N)
  · intro l st h q
    obtain ⟨m0, q1⟩ := tkC_of q
    obtain ⟨x1, m1, q2⟩ := tkI_of q1
    obtain ⟨x2, m2, q3⟩ := tkI_of q2
    obtain ⟨rfl, q4⟩ := skE_of q3
    exact WK_less (k2 _ _ _ _ q4) (List.forall_mem_cons.mpr ⟨m0, (List.forall_mem_cons.mpr ⟨m1, (List.forall_mem_cons.mpr ⟨m2, (fun _ h => absurd h List.not_mem_nil)⟩)⟩)⟩)
def nX9_leave_74 (c2 : Int → Int → HH → Option HH) (x1 : Int) (x2 : Int) (h : HH) : Option HH := bX9_leave_74 c2 x1 x2 h
theorem wX9_leave_74 {g : SG} (hg : GOK g) {σ0 : SG} {c2 : Int → Int → HH → Option HH} (k2 : ∀ (x1 : Int) (x2 : Int) (h : HH) (b : HH), c2 x1 x2 h = some b → WK 94 (.inl none) σ0 (abH 2 70 g b) 2 [(0, aR 3), (1, aI x1), (2, aI x2)] [] (abH 2 70 g h) 0 0) : ∀ {x1 : Int} {x2 : Int} {h : HH} {b : HH}, nX9_leave_74 c2 x1 x2 h = some b → WK 94 (.inl none) σ0 (abH 2 70 g b) 74 [(0, aR 3), (1, aI x1), (2, aI x2)] [] (abH 2 70 g h) 0 0 := by
  intro x1 x2 h b q
  exact uX9_leave_74 hg k2 q
def bX9_leave_62 (c74 : Int → Int → HH → Option HH) (x1 : Int) (x2 : Int) (x3 : Int) (h : HH) : Option HH :=
  gd ((0 : Int) ≤ x2 ∧ x2 < (60 : Int)) <|
    gd ((0 : Int) ≤ (h.1 5 x2) ∧ (h.1 5 x2) < (16 : Int)) <|
    bnd (some (hI h 11 (h.1 5 x2) x3)) fun h1 =>
    c74 x1 x2 h1
theorem uX9_leave_62 {g : SG} (hg : GOK g) {σ0 : SG} {c74 : Int → Int → HH → Option HH} (k74 : ∀ (x1 : Int) (x2 : Int) (h : HH) (b : HH), c74 x1 x2 h = some b → WK 94 (.inl none) σ0 (abH 2 70 g b) 74 [(0, aR 3), (1, aI x1), (2, aI x2)] [] (abH 2 70 g h) 0 0) : ∀ {x1 : Int} {x2 : Int} {x3 : Int} {h : HH} {b : HH}, bX9_leave_62 c74 x1 x2 x3 h = some b → WK 94 (.inl none) σ0 (abH 2 70 g b) 62 [(0, aR 3), (1, aI x1), (2, aI x2), (3, aI x3)] [] (abH 2 70 g h) 0 0 := by
  intro x1 x2 x3 h b q
  have e : bX9_leave_62 c74 x1 x2 x3 h = segW 2 70 g.2.2.2.2 krWV clN csX9_leave (cuC 74 (fun l st s => tkC 0 3 l <| tkI 1 l fun x1 => tkI 2 l fun x2 => skE st (c74 x1 x2 s)) cuN) 1000 62 [(0, aR 3), (1, aI x1), (2, aI x2), (3, aI x3)] [] h := rfl
  rw [e] at q
  clear e
  refine segW_wk (by decide) (by decide) hg rwX9_leave CLKW_N krWV_ok ?_ q
  clear q
  refine ct_C ?_ (ct_N)
  · intro l st h q
    obtain ⟨m0, q1⟩ := tkC_of q
    obtain ⟨x1, m1, q2⟩ := tkI_of q1
    obtain ⟨x2, m2, q3⟩ := tkI_of q2
    obtain ⟨rfl, q4⟩ := skE_of q3
    exact WK_less (k74 _ _ _ _ q4) (List.forall_mem_cons.mpr ⟨m0, (List.forall_mem_cons.mpr ⟨m1, (List.forall_mem_cons.mpr ⟨m2, (fun _ h => absurd h List.not_mem_nil)⟩)⟩)⟩)
def nX9_leave_62 (c2 : Int → Int → HH → Option HH) (x1 : Int) (x2 : Int) (x3 : Int) (h : HH) : Option HH := bX9_leave_62 (nX9_leave_74 c2) x1 x2 x3 h
theorem wX9_leave_62 {g : SG} (hg : GOK g) {σ0 : SG} {c2 : Int → Int → HH → Option HH} (k2 : ∀ (x1 : Int) (x2 : Int) (h : HH) (b : HH), c2 x1 x2 h = some b → WK 94 (.inl none) σ0 (abH 2 70 g b) 2 [(0, aR 3), (1, aI x1), (2, aI x2)] [] (abH 2 70 g h) 0 0) : ∀ {x1 : Int} {x2 : Int} {x3 : Int} {h : HH} {b : HH}, nX9_leave_62 c2 x1 x2 x3 h = some b → WK 94 (.inl none) σ0 (abH 2 70 g b) 62 [(0, aR 3), (1, aI x1), (2, aI x2), (3, aI x3)] [] (abH 2 70 g h) 0 0 := by
  intro x1 x2 x3 h b q
  exact uX9_leave_62 hg (fun _ _ _ _ q => wX9_leave_74 hg k2 q) q
def bX9_leave_2 (f95 : HH → Int → Int → Option Int) (c62 : Int → Int → Int → HH → Option HH) (c74 : Int → Int → HH → Option HH) (x1 : Int) (x2 : Int) (h : HH) : Option HH :=
  if x2 < ((h.1 3 3) : Int) then
    gd ((0 : Int) ≤ x2 ∧ x2 < (60 : Int)) <|
    if (h.1 4 x2) = (x1 : Int) then
    gd ((0 : Int) ≤ x1 ∧ x1 < (16 : Int)) <|
    bnd (f95 h x2 (h.1 11 x1)) fun r1 =>
    gd ((0 : Int) ≤ x2 ∧ x2 < (60 : Int)) <|
    gd ((0 : Int) ≤ (h.1 5 x2) ∧ (h.1 5 x2) < (16 : Int)) <|
    if (h.1 11 (h.1 5 x2)) = ((-1) : Int) then
    c62 x1 x2 r1 h
  else
    gd ((0 : Int) ≤ x2 ∧ x2 < (60 : Int)) <|
    gd ((0 : Int) ≤ (h.1 5 x2) ∧ (h.1 5 x2) < (16 : Int)) <|
    if r1 < ((h.1 11 (h.1 5 x2)) : Int) then
    c62 x1 x2 r1 h
  else
    c74 x1 x2 h
  else
    c74 x1 x2 h
  else
    some h
theorem uX9_leave_2 {g : SG} (hg : GOK g) {σ0 : SG} {c62 : Int → Int → Int → HH → Option HH} {c74 : Int → Int → HH → Option HH} (k62 : ∀ (x1 : Int) (x2 : Int) (x3 : Int) (h : HH) (b : HH), c62 x1 x2 x3 h = some b → WK 94 (.inl none) σ0 (abH 2 70 g b) 62 [(0, aR 3), (1, aI x1), (2, aI x2), (3, aI x3)] [] (abH 2 70 g h) 0 0) (k74 : ∀ (x1 : Int) (x2 : Int) (h : HH) (b : HH), c74 x1 x2 h = some b → WK 94 (.inl none) σ0 (abH 2 70 g b) 74 [(0, aR 3), (1, aI x1), (2, aI x2)] [] (abH 2 70 g h) 0 0) : ∀ {x1 : Int} {x2 : Int} {h : HH} {b : HH}, bX9_leave_2 nX9_endOf c62 c74 x1 x2 h = some b → WK 94 (.inl none) σ0 (abH 2 70 g b) 2 [(0, aR 3), (1, aI x1), (2, aI x2)] [] (abH 2 70 g h) 0 0 := by
  intro x1 x2 h b q
  have e : ∀ (f95 : HH → Int → Int → Option Int) , bX9_leave_2 f95 c62 c74 x1 x2 h = segW 2 70 g.2.2.2.2 krWV (clC 95 (liPW (pX9_endOf f95)) clN) csX9_leave (cuC 62 (fun l st s => tkC 0 3 l <| tkI 1 l fun x1 => tkI 2 l fun x2 => tkI 3 l fun x3 => skE st (c62 x1 x2 x3 s)) (cuC 74 (fun l st s => tkC 0 3 l <| tkI 1 l fun x1 => tkI 2 l fun x2 => skE st (c74 x1 x2 s)) cuN)) 1000 2 [(0, aR 3), (1, aI x1), (2, aI x2)] [] h := fun _ => rfl
  rw [e nX9_endOf] at q
  clear e
  refine segW_wk (by decide) (by decide) hg rwX9_leave (CLKW_C (liPW_ok (pX9_endOf_ok hg)) CLKW_N) krWV_ok ?_ q
  clear q
  refine ct_C ?_ (ct_C ?_ (ct_N))
  · intro l st h q
    obtain ⟨m0, q1⟩ := tkC_of q
    obtain ⟨x1, m1, q2⟩ := tkI_of q1
    obtain ⟨x2, m2, q3⟩ := tkI_of q2
    obtain ⟨x3, m3, q4⟩ := tkI_of q3
    obtain ⟨rfl, q5⟩ := skE_of q4
    exact WK_less (k62 _ _ _ _ _ q5) (List.forall_mem_cons.mpr ⟨m0, (List.forall_mem_cons.mpr ⟨m1, (List.forall_mem_cons.mpr ⟨m2, (List.forall_mem_cons.mpr ⟨m3, (fun _ h => absurd h List.not_mem_nil)⟩)⟩)⟩)⟩)
  · intro l st h q
    obtain ⟨m0, q1⟩ := tkC_of q
    obtain ⟨x1, m1, q2⟩ := tkI_of q1
    obtain ⟨x2, m2, q3⟩ := tkI_of q2
    obtain ⟨rfl, q4⟩ := skE_of q3
    exact WK_less (k74 _ _ _ _ q4) (List.forall_mem_cons.mpr ⟨m0, (List.forall_mem_cons.mpr ⟨m1, (List.forall_mem_cons.mpr ⟨m2, (fun _ h => absurd h List.not_mem_nil)⟩)⟩)⟩)
def nX9_leave_2 : Nat → Int → Int → HH → Option HH := iter (fun _ _ _ => none) (fun self => bX9_leave_2 nX9_endOf (nX9_leave_62 self) (nX9_leave_74 self))
theorem nX9_leave_2_s {F : Nat} : nX9_leave_2 (F + 1) = bX9_leave_2 nX9_endOf (nX9_leave_62 (nX9_leave_2 F)) (nX9_leave_74 (nX9_leave_2 F)) := rfl
theorem wX9_leave_2 {g : SG} (hg : GOK g) {σ0 : SG} : ∀ {F : Nat}, ∀ {x1 : Int} {x2 : Int} {h : HH} {b : HH}, nX9_leave_2 F x1 x2 h = some b → WK 94 (.inl none) σ0 (abH 2 70 g b) 2 [(0, aR 3), (1, aI x1), (2, aI x2)] [] (abH 2 70 g h) 0 0 := by
  intro F
  have z : ∀ (x1 : Int) (x2 : Int) (h : HH) (b : HH), nX9_leave_2 F x1 x2 h = some b → WK 94 (.inl none) σ0 (abH 2 70 g b) 2 [(0, aR 3), (1, aI x1), (2, aI x2)] [] (abH 2 70 g h) 0 0 := iter_ind (P := fun (c : Int → Int → HH → Option HH) => ∀ (x1 : Int) (x2 : Int) (h : HH) (b : HH), c x1 x2 h = some b → WK 94 (.inl none) σ0 (abH 2 70 g b) 2 [(0, aR 3), (1, aI x1), (2, aI x2)] [] (abH 2 70 g h) 0 0) (by
    intro x1 x2 h b q
    cases q) (fun self ih => by
    intro x1 x2 h b q
    exact uX9_leave_2 hg (fun _ _ _ _ _ q => wX9_leave_62 hg ih q) (fun _ _ _ _ q => wX9_leave_74 hg ih q) q) F
  intro x1 x2 h b q
  exact z _ _ _ _ q
def bX9_leave (c2 : Int → Int → HH → Option HH) (x1 : Int) (h : HH) : Option HH :=
  c2 x1 0 h
theorem uX9_leave {g : SG} (hg : GOK g) {σ0 : SG} {c2 : Int → Int → HH → Option HH} (k2 : ∀ (x1 : Int) (x2 : Int) (h : HH) (b : HH), c2 x1 x2 h = some b → WK 94 (.inl none) σ0 (abH 2 70 g b) 2 [(0, aR 3), (1, aI x1), (2, aI x2)] [] (abH 2 70 g h) 0 0) : ∀ {x1 : Int} {h : HH} {b : HH}, bX9_leave c2 x1 h = some b → WK 94 (.inl none) σ0 (abH 2 70 g b) 0 [(0, aR 3), (1, aI x1)] [] (abH 2 70 g h) 0 0 := by
  intro x1 h b q
  have e : bX9_leave c2 x1 h = segW 2 70 g.2.2.2.2 krWV clN csX9_leave (cuC 2 (fun l st s => tkC 0 3 l <| tkI 1 l fun x1 => tkI 2 l fun x2 => skE st (c2 x1 x2 s)) cuN) 1000 0 [(0, aR 3), (1, aI x1)] [] h := rfl
  rw [e] at q
  clear e
  refine segW_wk (by decide) (by decide) hg rwX9_leave CLKW_N krWV_ok ?_ q
  clear q
  refine ct_C ?_ (ct_N)
  · intro l st h q
    obtain ⟨m0, q1⟩ := tkC_of q
    obtain ⟨x1, m1, q2⟩ := tkI_of q1
    obtain ⟨x2, m2, q3⟩ := tkI_of q2
    obtain ⟨rfl, q4⟩ := skE_of q3
    exact WK_less (k2 _ _ _ _ q4) (List.forall_mem_cons.mpr ⟨m0, (List.forall_mem_cons.mpr ⟨m1, (List.forall_mem_cons.mpr ⟨m2, (fun _ h => absurd h List.not_mem_nil)⟩)⟩)⟩)
def nX9_leave (x1 : Int) (h : HH) : Option HH := bX9_leave (nX9_leave_2 100000) x1 h
theorem wX9_leave {g : SG} (hg : GOK g) {σ0 : SG} : ∀ {x1 : Int} {h : HH} {b : HH}, nX9_leave x1 h = some b → WK 94 (.inl none) σ0 (abH 2 70 g b) 0 [(0, aR 3), (1, aI x1)] [] (abH 2 70 g h) 0 0 := by
  intro x1 h b q
  exact uX9_leave hg (fun _ _ _ _ q => wX9_leave_2 hg q) q
theorem mX9_leave {g : SG} (hg : GOK g) {h : HH} {x1 : Int} {b : HH} (q : nX9_leave x1 h = some b) : MCT 94 [] [aR 3, aI x1] (abH 2 70 g h) (.inl none) (abH 2 70 g b) :=
  mct_of (by decide) (MFok 94 (by decide +kernel)) (fun _ => Nat.le_of_ble_eq_true rfl) (wX9_leave hg q)
def pX9_leave {β : Type} (z : Int → HH → Option HH) : PW β := fun as h f => skC 3 as fun as => skI as fun x1 as => skE as (bnd (z x1 h) fun r => f (.inl none) r)
theorem pX9_leave_ok {β : Type} {g : SG} (hg : GOK g) : CW1 (β := β) 94 (pX9_leave nX9_leave) 2 70 g := fun as h f b q => by
  obtain ⟨as, rfl, q1⟩ := skC_of q
  obtain ⟨x1, as, rfl, q2⟩ := skI_of q1
  obtain ⟨rfl, q0⟩ := skE_of q2
  obtain ⟨r, z1, z2⟩ := bnd_of q0
  exact ⟨_, _, z2, by decide, mX9_leave hg z1, rfl, rfl, fun z => absurd z (by decide)⟩
def csX9_earliest : List (Nat × List (Nat × ARow)) := [(42, [(0, 1, .iconst 0, 0, 0, 0), (1, 2, .istore 4, 0, 0, 0), (3, 2, .iload 4, 0, 0, 0), (5, 2, .bipush 16, 0, 0, 0), (7, 3, .if_icmp .ge 25, 32, 0, 0), (10, 1, .aload_n 0, 0, 0, 0), (11, 3, .getfield 33, 9, 8, 2), (14, 2, .iload 4, 0, 0, 0), (16, 1, .iconst (-1), 0, 0, 0), (17, 1, .iastore, 0, 0, 0), (18, 1, .aload_n 0, 0, 0, 0), (19, 3, .getfield 36, 9, 9, 2), (22, 2, .iload 4, 0, 0, 0), (24, 1, .iconst 0, 0, 0, 0), (25, 1, .bastore, 0, 0, 0), (26, 3, .iinc 4 1, 0, 0, 0), (29, 3, .goto (-26), 3, 0, 0), (32, 1, .aload_n 0, 0, 0, 0), (33, 3, .getfield 33, 9, 8, 2), (36, 1, .iload_n 1, 0, 0, 0), (37, 1, .iload_n 3, 0, 0, 0), (38, 1, .iastore, 0, 0, 0), (39, 1, .iconst 0, 0, 0, 0), (40, 2, .istore 4, 0, 0, 0)]),
  (91, [(42, 2, .iload 4, 0, 0, 0), (44, 2, .bipush 16, 0, 0, 0), (46, 3, .if_icmp .ge 44, 90, 0, 0), (49, 1, .aload_n 0, 0, 0, 0), (50, 3, .invokevirtual 58, 93, 1, 9), (53, 2, .istore 5, 0, 0, 0), (55, 2, .iload 5, 0, 0, 0), (57, 1, .iconst (-1), 0, 0, 0), (58, 3, .if_icmp .eq 32, 90, 0, 0), (61, 2, .iload 5, 0, 0, 0), (63, 1, .iload_n 2, 0, 0, 0), (64, 3, .if_icmp .ne 6, 70, 0, 0), (67, 3, .goto 23, 90, 0, 0), (70, 1, .aload_n 0, 0, 0, 0), (71, 3, .getfield 36, 9, 9, 2), (74, 2, .iload 5, 0, 0, 0), (76, 1, .iconst 1, 0, 0, 0), (77, 1, .bastore, 0, 0, 0), (78, 1, .aload_n 0, 0, 0, 0), (79, 2, .iload 5, 0, 0, 0), (81, 3, .invokevirtual 62, 94, 2, 9), (84, 3, .iinc 4 1, 0, 0, 0), (87, 3, .goto (-45), 42, 0, 0), (90, 1, .aload_n 0, 0, 0, 0)]),
  (100000, [(91, 3, .getfield 33, 9, 8, 2), (94, 1, .iload_n 2, 0, 0, 0), (95, 1, .iaload, 0, 0, 0), (96, 1, .ireturn, 0, 0, 0)])]
theorem rwX9_earliest : rowsB (mB 92) (mO 92) (mX 92) (mIni 92) (mFr 92) (mLo 92) (mT 92) csX9_earliest = true := by decide +kernel
def bX9_earliest_42 (f93 : HH → Option Int) (f94 : Int → HH → Option HH) (c42 : Int → Int → HH → Option (Int × HH)) (x2 : Int) (x4 : Int) (h : HH) : Option (Int × HH) :=
  if x4 < (16 : Int) then
    bnd (f93 h) fun r1 =>
    if r1 = ((-1) : Int) then
    gd ((0 : Int) ≤ x2 ∧ x2 < (16 : Int)) <|
    some ((h.1 11 x2), h)
  else
    if r1 = (x2 : Int) then
    gd ((0 : Int) ≤ x2 ∧ x2 < (16 : Int)) <|
    some ((h.1 11 x2), h)
  else
    gd ((0 : Int) ≤ r1 ∧ r1 < (16 : Int)) <|
    gd ((0 : Int) ≤ 1 ∧ 1 ≤ (1 : Int)) <|
    bnd (some (hI h 12 r1 1)) fun h2 =>
    bnd (f94 r1 h2) fun r3 =>
    gd (R32 (x4 + 1)) <|
    c42 x2 (x4 + 1) r3
  else
    gd ((0 : Int) ≤ x2 ∧ x2 < (16 : Int)) <|
    some ((h.1 11 x2), h)
theorem uX9_earliest_42 {g : SG} (hg : GOK g) {σ0 : SG} {c42 : Int → Int → HH → Option (Int × HH)} (k42 : ∀ (x2 : Int) (x4 : Int) (h : HH) (b : (Int × HH)), c42 x2 x4 h = some b → WK 92 (.inl (some (aI b.1))) σ0 (abH 2 70 g b.2) 42 [(0, aR 3), (2, aI x2), (4, aI x4)] [] (abH 2 70 g h) 0 0) : ∀ {x2 : Int} {x4 : Int} {h : HH} {b : (Int × HH)}, bX9_earliest_42 nX9_firstToLeave nX9_leave c42 x2 x4 h = some b → WK 92 (.inl (some (aI b.1))) σ0 (abH 2 70 g b.2) 42 [(0, aR 3), (2, aI x2), (4, aI x4)] [] (abH 2 70 g h) 0 0 := by
  intro x2 x4 h b q
  have e : ∀ (f93 : HH → Option Int) (f94 : Int → HH → Option HH) , bX9_earliest_42 f93 f94 c42 x2 x4 h = segW 2 70 g.2.2.2.2 krWI (clC 93 (liPW (pX9_firstToLeave f93)) (clC 94 (pX9_leave f94) clN)) csX9_earliest (cuC 42 (fun l st s => tkC 0 3 l <| tkI 2 l fun x2 => tkI 4 l fun x4 => skE st (c42 x2 x4 s)) cuN) 1000 42 [(0, aR 3), (2, aI x2), (4, aI x4)] [] h := fun _ _ => rfl
  rw [e nX9_firstToLeave nX9_leave] at q
  clear e
  refine segW_wk (by decide) (by decide) hg rwX9_earliest (CLKW_C (liPW_ok (pX9_firstToLeave_ok hg)) (CLKW_C (pX9_leave_ok hg) CLKW_N)) krWI_ok ?_ q
  clear q
  refine ct_C ?_ (ct_N)
  · intro l st h q
    obtain ⟨m0, q1⟩ := tkC_of q
    obtain ⟨x2, m2, q2⟩ := tkI_of q1
    obtain ⟨x4, m4, q3⟩ := tkI_of q2
    obtain ⟨rfl, q4⟩ := skE_of q3
    exact WK_less (k42 _ _ _ _ q4) (List.forall_mem_cons.mpr ⟨m0, (List.forall_mem_cons.mpr ⟨m2, (List.forall_mem_cons.mpr ⟨m4, (fun _ h => absurd h List.not_mem_nil)⟩)⟩)⟩)
def nX9_earliest_42 : Nat → Int → Int → HH → Option (Int × HH) := iter (fun _ _ _ => none) (fun self => bX9_earliest_42 nX9_firstToLeave nX9_leave self)
theorem nX9_earliest_42_s {F : Nat} : nX9_earliest_42 (F + 1) = bX9_earliest_42 nX9_firstToLeave nX9_leave (nX9_earliest_42 F) := rfl
theorem wX9_earliest_42 {g : SG} (hg : GOK g) {σ0 : SG} : ∀ {F : Nat}, ∀ {x2 : Int} {x4 : Int} {h : HH} {b : (Int × HH)}, nX9_earliest_42 F x2 x4 h = some b → WK 92 (.inl (some (aI b.1))) σ0 (abH 2 70 g b.2) 42 [(0, aR 3), (2, aI x2), (4, aI x4)] [] (abH 2 70 g h) 0 0 := by
  intro F
  have z : ∀ (x2 : Int) (x4 : Int) (h : HH) (b : (Int × HH)), nX9_earliest_42 F x2 x4 h = some b → WK 92 (.inl (some (aI b.1))) σ0 (abH 2 70 g b.2) 42 [(0, aR 3), (2, aI x2), (4, aI x4)] [] (abH 2 70 g h) 0 0 := iter_ind (P := fun (c : Int → Int → HH → Option (Int × HH)) => ∀ (x2 : Int) (x4 : Int) (h : HH) (b : (Int × HH)), c x2 x4 h = some b → WK 92 (.inl (some (aI b.1))) σ0 (abH 2 70 g b.2) 42 [(0, aR 3), (2, aI x2), (4, aI x4)] [] (abH 2 70 g h) 0 0) (by
    intro x2 x4 h b q
    cases q) (fun self ih => by
    intro x2 x4 h b q
    exact uX9_earliest_42 hg ih q) F
  intro x2 x4 h b q
  exact z _ _ _ _ q
def bX9_earliest_3 (c3 : Int → Int → Int → Int → HH → Option (Int × HH)) (c42 : Int → Int → HH → Option (Int × HH)) (x1 : Int) (x2 : Int) (x3 : Int) (x4 : Int) (h : HH) : Option (Int × HH) :=
  if x4 < (16 : Int) then
    gd ((0 : Int) ≤ x4 ∧ x4 < (16 : Int)) <|
    bnd (some (hI h 11 x4 (-1))) fun h2 =>
    gd ((0 : Int) ≤ x4 ∧ x4 < (16 : Int)) <|
    gd ((0 : Int) ≤ 0 ∧ 0 ≤ (1 : Int)) <|
    bnd (some (hI h2 12 x4 0)) fun h3 =>
    gd (R32 (x4 + 1)) <|
    c3 x1 x2 x3 (x4 + 1) h3
  else
    gd ((0 : Int) ≤ x1 ∧ x1 < (16 : Int)) <|
    bnd (some (hI h 11 x1 x3)) fun h1 =>
    c42 x2 0 h1
theorem uX9_earliest_3 {g : SG} (hg : GOK g) {σ0 : SG} {c3 : Int → Int → Int → Int → HH → Option (Int × HH)} {c42 : Int → Int → HH → Option (Int × HH)} (k3 : ∀ (x1 : Int) (x2 : Int) (x3 : Int) (x4 : Int) (h : HH) (b : (Int × HH)), c3 x1 x2 x3 x4 h = some b → WK 92 (.inl (some (aI b.1))) σ0 (abH 2 70 g b.2) 3 [(0, aR 3), (1, aI x1), (2, aI x2), (3, aI x3), (4, aI x4)] [] (abH 2 70 g h) 0 0) (k42 : ∀ (x2 : Int) (x4 : Int) (h : HH) (b : (Int × HH)), c42 x2 x4 h = some b → WK 92 (.inl (some (aI b.1))) σ0 (abH 2 70 g b.2) 42 [(0, aR 3), (2, aI x2), (4, aI x4)] [] (abH 2 70 g h) 0 0) : ∀ {x1 : Int} {x2 : Int} {x3 : Int} {x4 : Int} {h : HH} {b : (Int × HH)}, bX9_earliest_3 c3 c42 x1 x2 x3 x4 h = some b → WK 92 (.inl (some (aI b.1))) σ0 (abH 2 70 g b.2) 3 [(0, aR 3), (1, aI x1), (2, aI x2), (3, aI x3), (4, aI x4)] [] (abH 2 70 g h) 0 0 := by
  intro x1 x2 x3 x4 h b q
  have e : bX9_earliest_3 c3 c42 x1 x2 x3 x4 h = segW 2 70 g.2.2.2.2 krWI clN csX9_earliest (cuC 3 (fun l st s => tkC 0 3 l <| tkI 1 l fun x1 => tkI 2 l fun x2 => tkI 3 l fun x3 => tkI 4 l fun x4 => skE st (c3 x1 x2 x3 x4 s)) (cuC 42 (fun l st s => tkC 0 3 l <| tkI 2 l fun x2 => tkI 4 l fun x4 => skE st (c42 x2 x4 s)) cuN)) 1000 3 [(0, aR 3), (1, aI x1), (2, aI x2), (3, aI x3), (4, aI x4)] [] h := rfl
  rw [e] at q
  clear e
  refine segW_wk (by decide) (by decide) hg rwX9_earliest CLKW_N krWI_ok ?_ q
  clear q
  refine ct_C ?_ (ct_C ?_ (ct_N))
  · intro l st h q
    obtain ⟨m0, q1⟩ := tkC_of q
    obtain ⟨x1, m1, q2⟩ := tkI_of q1
    obtain ⟨x2, m2, q3⟩ := tkI_of q2
    obtain ⟨x3, m3, q4⟩ := tkI_of q3
    obtain ⟨x4, m4, q5⟩ := tkI_of q4
    obtain ⟨rfl, q6⟩ := skE_of q5
    exact WK_less (k3 _ _ _ _ _ _ q6) (List.forall_mem_cons.mpr ⟨m0, (List.forall_mem_cons.mpr ⟨m1, (List.forall_mem_cons.mpr ⟨m2, (List.forall_mem_cons.mpr ⟨m3, (List.forall_mem_cons.mpr ⟨m4, (fun _ h => absurd h List.not_mem_nil)⟩)⟩)⟩)⟩)⟩)
  · intro l st h q
    obtain ⟨m0, q1⟩ := tkC_of q
    obtain ⟨x2, m2, q2⟩ := tkI_of q1
    obtain ⟨x4, m4, q3⟩ := tkI_of q2
    obtain ⟨rfl, q4⟩ := skE_of q3
    exact WK_less (k42 _ _ _ _ q4) (List.forall_mem_cons.mpr ⟨m0, (List.forall_mem_cons.mpr ⟨m2, (List.forall_mem_cons.mpr ⟨m4, (fun _ h => absurd h List.not_mem_nil)⟩)⟩)⟩)
def nX9_earliest_3 : Nat → Int → Int → Int → Int → HH → Option (Int × HH) := iter (fun _ _ _ _ _ => none) (fun self => bX9_earliest_3 self (nX9_earliest_42 100000))
theorem nX9_earliest_3_s {F : Nat} : nX9_earliest_3 (F + 1) = bX9_earliest_3 (nX9_earliest_3 F) (nX9_earliest_42 100000) := rfl
theorem wX9_earliest_3 {g : SG} (hg : GOK g) {σ0 : SG} : ∀ {F : Nat}, ∀ {x1 : Int} {x2 : Int} {x3 : Int} {x4 : Int} {h : HH} {b : (Int × HH)}, nX9_earliest_3 F x1 x2 x3 x4 h = some b → WK 92 (.inl (some (aI b.1))) σ0 (abH 2 70 g b.2) 3 [(0, aR 3), (1, aI x1), (2, aI x2), (3, aI x3), (4, aI x4)] [] (abH 2 70 g h) 0 0 := by
  intro F
  have z : ∀ (x1 : Int) (x2 : Int) (x3 : Int) (x4 : Int) (h : HH) (b : (Int × HH)), nX9_earliest_3 F x1 x2 x3 x4 h = some b → WK 92 (.inl (some (aI b.1))) σ0 (abH 2 70 g b.2) 3 [(0, aR 3), (1, aI x1), (2, aI x2), (3, aI x3), (4, aI x4)] [] (abH 2 70 g h) 0 0 := iter_ind (P := fun (c : Int → Int → Int → Int → HH → Option (Int × HH)) => ∀ (x1 : Int) (x2 : Int) (x3 : Int) (x4 : Int) (h : HH) (b : (Int × HH)), c x1 x2 x3 x4 h = some b → WK 92 (.inl (some (aI b.1))) σ0 (abH 2 70 g b.2) 3 [(0, aR 3), (1, aI x1), (2, aI x2), (3, aI x3), (4, aI x4)] [] (abH 2 70 g h) 0 0) (by
    intro x1 x2 x3 x4 h b q
    cases q) (fun self ih => by
    intro x1 x2 x3 x4 h b q
    exact uX9_earliest_3 hg ih (fun _ _ _ _ q => wX9_earliest_42 hg q) q) F
  intro x1 x2 x3 x4 h b q
  exact z _ _ _ _ _ _ q
def bX9_earliest (c3 : Int → Int → Int → Int → HH → Option (Int × HH)) (x1 : Int) (x2 : Int) (x3 : Int) (h : HH) : Option (Int × HH) :=
  c3 x1 x2 x3 0 h
theorem uX9_earliest {g : SG} (hg : GOK g) {σ0 : SG} {c3 : Int → Int → Int → Int → HH → Option (Int × HH)} (k3 : ∀ (x1 : Int) (x2 : Int) (x3 : Int) (x4 : Int) (h : HH) (b : (Int × HH)), c3 x1 x2 x3 x4 h = some b → WK 92 (.inl (some (aI b.1))) σ0 (abH 2 70 g b.2) 3 [(0, aR 3), (1, aI x1), (2, aI x2), (3, aI x3), (4, aI x4)] [] (abH 2 70 g h) 0 0) : ∀ {x1 : Int} {x2 : Int} {x3 : Int} {h : HH} {b : (Int × HH)}, bX9_earliest c3 x1 x2 x3 h = some b → WK 92 (.inl (some (aI b.1))) σ0 (abH 2 70 g b.2) 0 [(0, aR 3), (1, aI x1), (2, aI x2), (3, aI x3)] [] (abH 2 70 g h) 0 0 := by
  intro x1 x2 x3 h b q
  have e : bX9_earliest c3 x1 x2 x3 h = segW 2 70 g.2.2.2.2 krWI clN csX9_earliest (cuC 3 (fun l st s => tkC 0 3 l <| tkI 1 l fun x1 => tkI 2 l fun x2 => tkI 3 l fun x3 => tkI 4 l fun x4 => skE st (c3 x1 x2 x3 x4 s)) cuN) 1000 0 [(0, aR 3), (1, aI x1), (2, aI x2), (3, aI x3)] [] h := rfl
  rw [e] at q
  clear e
  refine segW_wk (by decide) (by decide) hg rwX9_earliest CLKW_N krWI_ok ?_ q
  clear q
  refine ct_C ?_ (ct_N)
  · intro l st h q
    obtain ⟨m0, q1⟩ := tkC_of q
    obtain ⟨x1, m1, q2⟩ := tkI_of q1
    obtain ⟨x2, m2, q3⟩ := tkI_of q2
    obtain ⟨x3, m3, q4⟩ := tkI_of q3
    obtain ⟨x4, m4, q5⟩ := tkI_of q4
    obtain ⟨rfl, q6⟩ := skE_of q5
    exact WK_less (k3 _ _ _ _ _ _ q6) (List.forall_mem_cons.mpr ⟨m0, (List.forall_mem_cons.mpr ⟨m1, (List.forall_mem_cons.mpr ⟨m2, (List.forall_mem_cons.mpr ⟨m3, (List.forall_mem_cons.mpr ⟨m4, (fun _ h => absurd h List.not_mem_nil)⟩)⟩)⟩)⟩)⟩)
def nX9_earliest (x1 : Int) (x2 : Int) (x3 : Int) (h : HH) : Option (Int × HH) := bX9_earliest (nX9_earliest_3 100000) x1 x2 x3 h
theorem wX9_earliest {g : SG} (hg : GOK g) {σ0 : SG} : ∀ {x1 : Int} {x2 : Int} {x3 : Int} {h : HH} {b : (Int × HH)}, nX9_earliest x1 x2 x3 h = some b → WK 92 (.inl (some (aI b.1))) σ0 (abH 2 70 g b.2) 0 [(0, aR 3), (1, aI x1), (2, aI x2), (3, aI x3)] [] (abH 2 70 g h) 0 0 := by
  intro x1 x2 x3 h b q
  exact uX9_earliest hg (fun _ _ _ _ _ _ q => wX9_earliest_3 hg q) q
theorem mX9_earliest {g : SG} (hg : GOK g) {h : HH} {x1 : Int} {x2 : Int} {x3 : Int} {b : (Int × HH)} (q : nX9_earliest x1 x2 x3 h = some b) : MCT 92 [] [aR 3, aI x1, aI x2, aI x3] (abH 2 70 g h) (.inl (some (aI b.1))) (abH 2 70 g b.2) :=
  mct_of (by decide) (MFok 92 (by decide +kernel)) (fun _ => Nat.le_of_ble_eq_true rfl) (wX9_earliest hg q)
def pX9_earliest {β : Type} (z : Int → Int → Int → HH → Option (Int × HH)) : PW β := fun as h f => skC 3 as fun as => skI as fun x1 as => skI as fun x2 as => skI as fun x3 as => skE as (bnd (z x1 x2 x3 h) fun r => f (.inl (some (aI r.1))) r.2)
theorem pX9_earliest_ok {β : Type} {g : SG} (hg : GOK g) : CW1 (β := β) 92 (pX9_earliest nX9_earliest) 2 70 g := fun as h f b q => by
  obtain ⟨as, rfl, q1⟩ := skC_of q
  obtain ⟨x1, as, rfl, q2⟩ := skI_of q1
  obtain ⟨x2, as, rfl, q3⟩ := skI_of q2
  obtain ⟨x3, as, rfl, q4⟩ := skI_of q3
  obtain ⟨rfl, q0⟩ := skE_of q4
  obtain ⟨r, z1, z2⟩ := bnd_of q0
  exact ⟨_, _, z2, by decide, mX9_earliest hg z1, rfl, rfl, fun z => absurd z (by decide)⟩
