def csX6_sumOfSizes : List (Nat × List (Nat × ARow)) := [(36, [(0, 1, .iconst 0, 0, 0, 0), (1, 1, .istore_n 2, 0, 0, 0), (2, 1, .iconst 0, 0, 0, 0), (3, 1, .istore_n 3, 0, 0, 0), (4, 1, .iload_n 3, 0, 0, 0), (5, 1, .aload_n 0, 0, 0, 0), (6, 3, .getfield 16, 6, 2, 2), (9, 1, .iload_n 1, 0, 0, 0), (10, 1, .iaload, 0, 0, 0), (11, 3, .if_icmp .ge 28, 39, 0, 0), (14, 1, .iload_n 2, 0, 0, 0), (15, 1, .aload_n 0, 0, 0, 0), (16, 3, .getfield 20, 6, 0, 2), (19, 3, .getfield 67, 2, 2, 2), (22, 1, .aload_n 0, 0, 0, 0), (23, 3, .getfield 11, 6, 1, 2), (26, 1, .iload_n 1, 0, 0, 0), (27, 1, .aaload, 0, 0, 0), (28, 1, .iload_n 3, 0, 0, 0), (29, 1, .iaload, 0, 0, 0), (30, 1, .iaload, 0, 0, 0), (31, 1, .iadd, 0, 0, 0), (32, 1, .istore_n 2, 0, 0, 0), (33, 3, .iinc 3 1, 0, 0, 0)]),
  (100000, [(36, 3, .goto (-32), 4, 0, 0), (39, 1, .iload_n 2, 0, 0, 0), (40, 1, .ireturn, 0, 0, 0)])]
theorem rwX6_sumOfSizes : rowsB (mB 60) (mO 60) (mX 60) (mIni 60) (mFr 60) (mLo 60) (mT 60) csX6_sumOfSizes = true := by decide +kernel
def bX6_sumOfSizes_4 (h : HH) (c4 : Int → Int → Int → Option Int) (x1 : Int) (x2 : Int) (x3 : Int) : Option Int :=
  gd ((0 : Int) ≤ x1 ∧ x1 < (3 : Int)) <|
    if x3 < ((h.1 31 x1) : Int) then
    gd ((0 : Int) ≤ x1 ∧ x1 < (3 : Int)) <|
    bif Nat.beq (rwK 3 28 x1) 0 then none else
    bif okS 2 70 (rwK 3 28 x1) 0 || okS 2 70 (rwK 3 28 x1) 9 then
    gd ((0 : Int) ≤ x3 ∧ x3 < ((lnK (rwK 3 28 x1)) : Int)) <|
    gd ((0 : Int) ≤ (h.1 (rwK 3 28 x1) x3) ∧ (h.1 (rwK 3 28 x1) x3) < (9 : Int)) <|
    gd (R32 (x2 + (h.1 15 (h.1 (rwK 3 28 x1) x3)))) <|
    gd (R32 (x3 + 1)) <|
    c4 x1 (x2 + (h.1 15 (h.1 (rwK 3 28 x1) x3))) (x3 + 1)
  else none
  else
    some x2
theorem uX6_sumOfSizes_4 {g : SG} (hg : GOK g) {σ0 : SG} {h : HH} {c4 : Int → Int → Int → Option Int} (k4 : ∀ (x1 : Int) (x2 : Int) (x3 : Int) (b : Int), c4 x1 x2 x3 = some b → WK 60 (.inl (some (aI b))) σ0 (abH 2 70 g h) 4 [(0, aR 26), (1, aI x1), (2, aI x2), (3, aI x3)] [] (abH 2 70 g h) 0 0) : ∀ {x1 : Int} {x2 : Int} {x3 : Int} {b : Int}, bX6_sumOfSizes_4 h c4 x1 x2 x3 = some b → WK 60 (.inl (some (aI b))) σ0 (abH 2 70 g h) 4 [(0, aR 26), (1, aI x1), (2, aI x2), (3, aI x3)] [] (abH 2 70 g h) 0 0 := by
  intro x1 x2 x3 b q
  have e : bX6_sumOfSizes_4 h c4 x1 x2 x3 = segP 2 70 g.2.2.2.2 h krPI clNP csX6_sumOfSizes (cuC 4 (fun l st s => tkC 0 26 l <| tkI 1 l fun x1 => tkI 2 l fun x2 => tkI 3 l fun x3 => skE st (c4 x1 x2 x3)) cuN) 1000 4 [(0, aR 26), (1, aI x1), (2, aI x2), (3, aI x3)] [] := rfl
  rw [e] at q
  clear e
  refine segP_wk (by decide) (by decide) hg rwX6_sumOfSizes CLKP_N krPI_ok ?_ q
  clear q
  refine ct_C ?_ (ct_N)
  · intro l st _ q
    obtain ⟨m0, q1⟩ := tkC_of q
    obtain ⟨x1, m1, q2⟩ := tkI_of q1
    obtain ⟨x2, m2, q3⟩ := tkI_of q2
    obtain ⟨x3, m3, q4⟩ := tkI_of q3
    obtain ⟨rfl, q5⟩ := skE_of q4
    exact WK_less (k4 _ _ _ _ q5) (List.forall_mem_cons.mpr ⟨m0, (List.forall_mem_cons.mpr ⟨m1, (List.forall_mem_cons.mpr ⟨m2, (List.forall_mem_cons.mpr ⟨m3, (fun _ h => absurd h List.not_mem_nil)⟩)⟩)⟩)⟩)
def nX6_sumOfSizes_4 (h : HH) : Nat → Int → Int → Int → Option Int := iter (fun _ _ _ => none) (fun self => bX6_sumOfSizes_4 h self)
theorem nX6_sumOfSizes_4_s {h : HH} {F : Nat} : nX6_sumOfSizes_4 h (F + 1) = bX6_sumOfSizes_4 h (nX6_sumOfSizes_4 h F) := rfl
theorem wX6_sumOfSizes_4 {g : SG} (hg : GOK g) {σ0 : SG} {h : HH} : ∀ {F : Nat}, ∀ {x1 : Int} {x2 : Int} {x3 : Int} {b : Int}, nX6_sumOfSizes_4 h F x1 x2 x3 = some b → WK 60 (.inl (some (aI b))) σ0 (abH 2 70 g h) 4 [(0, aR 26), (1, aI x1), (2, aI x2), (3, aI x3)] [] (abH 2 70 g h) 0 0 := by
  intro F
  have z : ∀ (x1 : Int) (x2 : Int) (x3 : Int) (b : Int), nX6_sumOfSizes_4 h F x1 x2 x3 = some b → WK 60 (.inl (some (aI b))) σ0 (abH 2 70 g h) 4 [(0, aR 26), (1, aI x1), (2, aI x2), (3, aI x3)] [] (abH 2 70 g h) 0 0 := iter_ind (P := fun (c : Int → Int → Int → Option Int) => ∀ (x1 : Int) (x2 : Int) (x3 : Int) (b : Int), c x1 x2 x3 = some b → WK 60 (.inl (some (aI b))) σ0 (abH 2 70 g h) 4 [(0, aR 26), (1, aI x1), (2, aI x2), (3, aI x3)] [] (abH 2 70 g h) 0 0) (by
    intro x1 x2 x3 b q
    cases q) (fun self ih => by
    intro x1 x2 x3 b q
    exact uX6_sumOfSizes_4 hg ih q) F
  intro x1 x2 x3 b q
  exact z _ _ _ _ q
def bX6_sumOfSizes (h : HH) (c4 : Int → Int → Int → Option Int) (x1 : Int) : Option Int :=
  c4 x1 0 0
theorem uX6_sumOfSizes {g : SG} (hg : GOK g) {σ0 : SG} {h : HH} {c4 : Int → Int → Int → Option Int} (k4 : ∀ (x1 : Int) (x2 : Int) (x3 : Int) (b : Int), c4 x1 x2 x3 = some b → WK 60 (.inl (some (aI b))) σ0 (abH 2 70 g h) 4 [(0, aR 26), (1, aI x1), (2, aI x2), (3, aI x3)] [] (abH 2 70 g h) 0 0) : ∀ {x1 : Int} {b : Int}, bX6_sumOfSizes h c4 x1 = some b → WK 60 (.inl (some (aI b))) σ0 (abH 2 70 g h) 0 [(0, aR 26), (1, aI x1)] [] (abH 2 70 g h) 0 0 := by
  intro x1 b q
  have e : bX6_sumOfSizes h c4 x1 = segP 2 70 g.2.2.2.2 h krPI clNP csX6_sumOfSizes (cuC 4 (fun l st s => tkC 0 26 l <| tkI 1 l fun x1 => tkI 2 l fun x2 => tkI 3 l fun x3 => skE st (c4 x1 x2 x3)) cuN) 1000 0 [(0, aR 26), (1, aI x1)] [] := rfl
  rw [e] at q
  clear e
  refine segP_wk (by decide) (by decide) hg rwX6_sumOfSizes CLKP_N krPI_ok ?_ q
  clear q
  refine ct_C ?_ (ct_N)
  · intro l st _ q
    obtain ⟨m0, q1⟩ := tkC_of q
    obtain ⟨x1, m1, q2⟩ := tkI_of q1
    obtain ⟨x2, m2, q3⟩ := tkI_of q2
    obtain ⟨x3, m3, q4⟩ := tkI_of q3
    obtain ⟨rfl, q5⟩ := skE_of q4
    exact WK_less (k4 _ _ _ _ q5) (List.forall_mem_cons.mpr ⟨m0, (List.forall_mem_cons.mpr ⟨m1, (List.forall_mem_cons.mpr ⟨m2, (List.forall_mem_cons.mpr ⟨m3, (fun _ h => absurd h List.not_mem_nil)⟩)⟩)⟩)⟩)
def nX6_sumOfSizes (h : HH) (x1 : Int) : Option Int := bX6_sumOfSizes h (nX6_sumOfSizes_4 h 100000) x1
theorem wX6_sumOfSizes {g : SG} (hg : GOK g) {σ0 : SG} {h : HH} : ∀ {x1 : Int} {b : Int}, nX6_sumOfSizes h x1 = some b → WK 60 (.inl (some (aI b))) σ0 (abH 2 70 g h) 0 [(0, aR 26), (1, aI x1)] [] (abH 2 70 g h) 0 0 := by
  intro x1 b q
  exact uX6_sumOfSizes hg (fun _ _ _ _ q => wX6_sumOfSizes_4 hg q) q
theorem mX6_sumOfSizes {g : SG} (hg : GOK g) {h : HH} {x1 : Int} {b : Int} (q : nX6_sumOfSizes h x1 = some b) : MCT 60 [] [aR 26, aI x1] (abH 2 70 g h) (.inl (some (aI b))) (abH 2 70 g h) :=
  mct_of (by decide) (MFok 60 (by decide +kernel)) (fun _ => Nat.le_of_ble_eq_true rfl) (wX6_sumOfSizes hg q)
def pX6_sumOfSizes {β : Type} (z : HH → Int → Option Int) : PP β := fun h as f => skC 26 as fun as => skI as fun x1 as => skE as (bnd (z h x1) fun r => f (.inl (some (aI r))))
theorem pX6_sumOfSizes_ok {β : Type} {g : SG} (hg : GOK g) : CP1 (β := β) 60 (pX6_sumOfSizes nX6_sumOfSizes) 2 70 g := fun h as f b q => by
  obtain ⟨as, rfl, q1⟩ := skC_of q
  obtain ⟨x1, as, rfl, q2⟩ := skI_of q1
  obtain ⟨rfl, q0⟩ := skE_of q2
  obtain ⟨r, z1, z2⟩ := bnd_of q0
  exact ⟨_, z2, by decide, mX6_sumOfSizes hg z1, rfl, rfl, fun z => absurd z (by decide)⟩
def csX6_serviceBegins : List (Nat × List (Nat × ARow)) := [(39, [(0, 1, .aload_n 0, 0, 0, 0), (1, 3, .getfield 20, 6, 0, 2), (4, 3, .getfield 70, 2, 12, 2), (7, 1, .iload_n 1, 0, 0, 0), (8, 1, .iaload, 0, 0, 0), (9, 1, .istore_n 3, 0, 0, 0), (10, 1, .iconst 0, 0, 0, 0), (11, 2, .istore 4, 0, 0, 0), (13, 1, .iconst 0, 0, 0, 0), (14, 2, .istore 5, 0, 0, 0), (16, 2, .iload 5, 0, 0, 0), (18, 1, .aload_n 0, 0, 0, 0), (19, 3, .getfield 16, 6, 2, 2), (22, 1, .iload_n 1, 0, 0, 0), (23, 1, .iaload, 0, 0, 0), (24, 3, .if_icmp .ge 67, 91, 0, 0), (27, 1, .aload_n 0, 0, 0, 0), (28, 3, .getfield 11, 6, 1, 2), (31, 1, .iload_n 1, 0, 0, 0), (32, 1, .aaload, 0, 0, 0), (33, 2, .iload 5, 0, 0, 0), (35, 1, .iaload, 0, 0, 0), (36, 2, .istore 6, 0, 0, 0), (38, 1, .aload_n 0, 0, 0, 0)]),
  (85, [(39, 3, .getfield 20, 6, 0, 2), (42, 2, .iload 6, 0, 0, 0), (44, 2, .iload 4, 0, 0, 0), (46, 1, .iload_n 3, 0, 0, 0), (47, 3, .invokevirtual 73, 28, 4, 2), (50, 1, .istore_n 3, 0, 0, 0), (51, 2, .iload 6, 0, 0, 0), (53, 1, .iload_n 2, 0, 0, 0), (54, 3, .if_icmp .ne 6, 60, 0, 0), (57, 3, .goto 34, 91, 0, 0), (60, 1, .iload_n 3, 0, 0, 0), (61, 1, .aload_n 0, 0, 0, 0), (62, 3, .getfield 20, 6, 0, 2), (65, 3, .getfield 64, 2, 6, 2), (68, 2, .iload 6, 0, 0, 0), (70, 1, .iaload, 0, 0, 0), (71, 1, .iadd, 0, 0, 0), (72, 1, .istore_n 3, 0, 0, 0), (73, 1, .aload_n 0, 0, 0, 0), (74, 3, .getfield 20, 6, 0, 2), (77, 3, .getfield 51, 2, 1, 2), (80, 2, .iload 6, 0, 0, 0), (82, 1, .iaload, 0, 0, 0), (83, 2, .istore 4, 0, 0, 0)]),
  (100000, [(85, 3, .iinc 5 1, 0, 0, 0), (88, 3, .goto (-72), 16, 0, 0), (91, 1, .iload_n 3, 0, 0, 0), (92, 1, .ireturn, 0, 0, 0)])]
theorem rwX6_serviceBegins : rowsB (mB 61) (mO 61) (mX 61) (mIni 61) (mFr 61) (mLo 61) (mT 61) csX6_serviceBegins = true := by decide +kernel
def bX6_serviceBegins_16 (f28 : HH → Int → Int → Int → Option Int) (h : HH) (c16 : Int → Int → Int → Int → Int → Option Int) (x1 : Int) (x2 : Int) (x3 : Int) (x4 : Int) (x5 : Int) : Option Int :=
  gd ((0 : Int) ≤ x1 ∧ x1 < (3 : Int)) <|
    if x5 < ((h.1 31 x1) : Int) then
    gd ((0 : Int) ≤ x1 ∧ x1 < (3 : Int)) <|
    bif Nat.beq (rwK 3 28 x1) 0 then none else
    bif okS 2 70 (rwK 3 28 x1) 0 || okS 2 70 (rwK 3 28 x1) 9 then
    gd ((0 : Int) ≤ x5 ∧ x5 < ((lnK (rwK 3 28 x1)) : Int)) <|
    bnd (f28 h (h.1 (rwK 3 28 x1) x5) x4 x3) fun r1 =>
    if (h.1 (rwK 3 28 x1) x5) = (x2 : Int) then
    some r1
  else
    gd ((0 : Int) ≤ (h.1 (rwK 3 28 x1) x5) ∧ (h.1 (rwK 3 28 x1) x5) < (9 : Int)) <|
    gd (R32 (r1 + (h.1 19 (h.1 (rwK 3 28 x1) x5)))) <|
    gd ((0 : Int) ≤ (h.1 (rwK 3 28 x1) x5) ∧ (h.1 (rwK 3 28 x1) x5) < (9 : Int)) <|
    gd (R32 (x5 + 1)) <|
    c16 x1 x2 (r1 + (h.1 19 (h.1 (rwK 3 28 x1) x5))) (h.1 14 (h.1 (rwK 3 28 x1) x5)) (x5 + 1)
  else none
  else
    some x3
theorem uX6_serviceBegins_16 {g : SG} (hg : GOK g) {σ0 : SG} {h : HH} {c16 : Int → Int → Int → Int → Int → Option Int} (k16 : ∀ (x1 : Int) (x2 : Int) (x3 : Int) (x4 : Int) (x5 : Int) (b : Int), c16 x1 x2 x3 x4 x5 = some b → WK 61 (.inl (some (aI b))) σ0 (abH 2 70 g h) 16 [(0, aR 26), (1, aI x1), (2, aI x2), (3, aI x3), (4, aI x4), (5, aI x5)] [] (abH 2 70 g h) 0 0) : ∀ {x1 : Int} {x2 : Int} {x3 : Int} {x4 : Int} {x5 : Int} {b : Int}, bX6_serviceBegins_16 nX2_serveAt h c16 x1 x2 x3 x4 x5 = some b → WK 61 (.inl (some (aI b))) σ0 (abH 2 70 g h) 16 [(0, aR 26), (1, aI x1), (2, aI x2), (3, aI x3), (4, aI x4), (5, aI x5)] [] (abH 2 70 g h) 0 0 := by
  intro x1 x2 x3 x4 x5 b q
  have e : ∀ (f28 : HH → Int → Int → Int → Option Int) , bX6_serviceBegins_16 f28 h c16 x1 x2 x3 x4 x5 = segP 2 70 g.2.2.2.2 h krPI (clCP 28 (pX2_serveAt f28 h) clNP) csX6_serviceBegins (cuC 16 (fun l st s => tkC 0 26 l <| tkI 1 l fun x1 => tkI 2 l fun x2 => tkI 3 l fun x3 => tkI 4 l fun x4 => tkI 5 l fun x5 => skE st (c16 x1 x2 x3 x4 x5)) cuN) 1000 16 [(0, aR 26), (1, aI x1), (2, aI x2), (3, aI x3), (4, aI x4), (5, aI x5)] [] := fun _ => rfl
  rw [e nX2_serveAt] at q
  clear e
  refine segP_wk (by decide) (by decide) hg rwX6_serviceBegins (CLKP_C (pX2_serveAt_ok hg) CLKP_N) krPI_ok ?_ q
  clear q
  refine ct_C ?_ (ct_N)
  · intro l st _ q
    obtain ⟨m0, q1⟩ := tkC_of q
    obtain ⟨x1, m1, q2⟩ := tkI_of q1
    obtain ⟨x2, m2, q3⟩ := tkI_of q2
    obtain ⟨x3, m3, q4⟩ := tkI_of q3
    obtain ⟨x4, m4, q5⟩ := tkI_of q4
    obtain ⟨x5, m5, q6⟩ := tkI_of q5
    obtain ⟨rfl, q7⟩ := skE_of q6
    exact WK_less (k16 _ _ _ _ _ _ q7) (List.forall_mem_cons.mpr ⟨m0, (List.forall_mem_cons.mpr ⟨m1, (List.forall_mem_cons.mpr ⟨m2, (List.forall_mem_cons.mpr ⟨m3, (List.forall_mem_cons.mpr ⟨m4, (List.forall_mem_cons.mpr ⟨m5, (fun _ h => absurd h List.not_mem_nil)⟩)⟩)⟩)⟩)⟩)⟩)
def nX6_serviceBegins_16 (h : HH) : Nat → Int → Int → Int → Int → Int → Option Int := iter (fun _ _ _ _ _ => none) (fun self => bX6_serviceBegins_16 nX2_serveAt h self)
theorem nX6_serviceBegins_16_s {h : HH} {F : Nat} : nX6_serviceBegins_16 h (F + 1) = bX6_serviceBegins_16 nX2_serveAt h (nX6_serviceBegins_16 h F) := rfl
theorem wX6_serviceBegins_16 {g : SG} (hg : GOK g) {σ0 : SG} {h : HH} : ∀ {F : Nat}, ∀ {x1 : Int} {x2 : Int} {x3 : Int} {x4 : Int} {x5 : Int} {b : Int}, nX6_serviceBegins_16 h F x1 x2 x3 x4 x5 = some b → WK 61 (.inl (some (aI b))) σ0 (abH 2 70 g h) 16 [(0, aR 26), (1, aI x1), (2, aI x2), (3, aI x3), (4, aI x4), (5, aI x5)] [] (abH 2 70 g h) 0 0 := by
  intro F
  have z : ∀ (x1 : Int) (x2 : Int) (x3 : Int) (x4 : Int) (x5 : Int) (b : Int), nX6_serviceBegins_16 h F x1 x2 x3 x4 x5 = some b → WK 61 (.inl (some (aI b))) σ0 (abH 2 70 g h) 16 [(0, aR 26), (1, aI x1), (2, aI x2), (3, aI x3), (4, aI x4), (5, aI x5)] [] (abH 2 70 g h) 0 0 := iter_ind (P := fun (c : Int → Int → Int → Int → Int → Option Int) => ∀ (x1 : Int) (x2 : Int) (x3 : Int) (x4 : Int) (x5 : Int) (b : Int), c x1 x2 x3 x4 x5 = some b → WK 61 (.inl (some (aI b))) σ0 (abH 2 70 g h) 16 [(0, aR 26), (1, aI x1), (2, aI x2), (3, aI x3), (4, aI x4), (5, aI x5)] [] (abH 2 70 g h) 0 0) (by
    intro x1 x2 x3 x4 x5 b q
    cases q) (fun self ih => by
    intro x1 x2 x3 x4 x5 b q
    exact uX6_serviceBegins_16 hg ih q) F
  intro x1 x2 x3 x4 x5 b q
  exact z _ _ _ _ _ _ q
def bX6_serviceBegins (h : HH) (c16 : Int → Int → Int → Int → Int → Option Int) (x1 : Int) (x2 : Int) : Option Int :=
  gd ((0 : Int) ≤ x1 ∧ x1 < (3 : Int)) <|
    c16 x1 x2 (h.1 24 x1) 0 0
theorem uX6_serviceBegins {g : SG} (hg : GOK g) {σ0 : SG} {h : HH} {c16 : Int → Int → Int → Int → Int → Option Int} (k16 : ∀ (x1 : Int) (x2 : Int) (x3 : Int) (x4 : Int) (x5 : Int) (b : Int), c16 x1 x2 x3 x4 x5 = some b → WK 61 (.inl (some (aI b))) σ0 (abH 2 70 g h) 16 [(0, aR 26), (1, aI x1), (2, aI x2), (3, aI x3), (4, aI x4), (5, aI x5)] [] (abH 2 70 g h) 0 0) : ∀ {x1 : Int} {x2 : Int} {b : Int}, bX6_serviceBegins h c16 x1 x2 = some b → WK 61 (.inl (some (aI b))) σ0 (abH 2 70 g h) 0 [(0, aR 26), (1, aI x1), (2, aI x2)] [] (abH 2 70 g h) 0 0 := by
  intro x1 x2 b q
  have e : bX6_serviceBegins h c16 x1 x2 = segP 2 70 g.2.2.2.2 h krPI clNP csX6_serviceBegins (cuC 16 (fun l st s => tkC 0 26 l <| tkI 1 l fun x1 => tkI 2 l fun x2 => tkI 3 l fun x3 => tkI 4 l fun x4 => tkI 5 l fun x5 => skE st (c16 x1 x2 x3 x4 x5)) cuN) 1000 0 [(0, aR 26), (1, aI x1), (2, aI x2)] [] := rfl
  rw [e] at q
  clear e
  refine segP_wk (by decide) (by decide) hg rwX6_serviceBegins CLKP_N krPI_ok ?_ q
  clear q
  refine ct_C ?_ (ct_N)
  · intro l st _ q
    obtain ⟨m0, q1⟩ := tkC_of q
    obtain ⟨x1, m1, q2⟩ := tkI_of q1
    obtain ⟨x2, m2, q3⟩ := tkI_of q2
    obtain ⟨x3, m3, q4⟩ := tkI_of q3
    obtain ⟨x4, m4, q5⟩ := tkI_of q4
    obtain ⟨x5, m5, q6⟩ := tkI_of q5
    obtain ⟨rfl, q7⟩ := skE_of q6
    exact WK_less (k16 _ _ _ _ _ _ q7) (List.forall_mem_cons.mpr ⟨m0, (List.forall_mem_cons.mpr ⟨m1, (List.forall_mem_cons.mpr ⟨m2, (List.forall_mem_cons.mpr ⟨m3, (List.forall_mem_cons.mpr ⟨m4, (List.forall_mem_cons.mpr ⟨m5, (fun _ h => absurd h List.not_mem_nil)⟩)⟩)⟩)⟩)⟩)⟩)
def nX6_serviceBegins (h : HH) (x1 : Int) (x2 : Int) : Option Int := bX6_serviceBegins h (nX6_serviceBegins_16 h 100000) x1 x2
theorem wX6_serviceBegins {g : SG} (hg : GOK g) {σ0 : SG} {h : HH} : ∀ {x1 : Int} {x2 : Int} {b : Int}, nX6_serviceBegins h x1 x2 = some b → WK 61 (.inl (some (aI b))) σ0 (abH 2 70 g h) 0 [(0, aR 26), (1, aI x1), (2, aI x2)] [] (abH 2 70 g h) 0 0 := by
  intro x1 x2 b q
  exact uX6_serviceBegins hg (fun _ _ _ _ _ _ q => wX6_serviceBegins_16 hg q) q
theorem mX6_serviceBegins {g : SG} (hg : GOK g) {h : HH} {x1 : Int} {x2 : Int} {b : Int} (q : nX6_serviceBegins h x1 x2 = some b) : MCT 61 [] [aR 26, aI x1, aI x2] (abH 2 70 g h) (.inl (some (aI b))) (abH 2 70 g h) :=
  mct_of (by decide) (MFok 61 (by decide +kernel)) (fun _ => Nat.le_of_ble_eq_true rfl) (wX6_serviceBegins hg q)
def pX6_serviceBegins {β : Type} (z : HH → Int → Int → Option Int) : PP β := fun h as f => skC 26 as fun as => skI as fun x1 as => skI as fun x2 as => skE as (bnd (z h x1 x2) fun r => f (.inl (some (aI r))))
theorem pX6_serviceBegins_ok {β : Type} {g : SG} (hg : GOK g) : CP1 (β := β) 61 (pX6_serviceBegins nX6_serviceBegins) 2 70 g := fun h as f b q => by
  obtain ⟨as, rfl, q1⟩ := skC_of q
  obtain ⟨x1, as, rfl, q2⟩ := skI_of q1
  obtain ⟨x2, as, rfl, q3⟩ := skI_of q2
  obtain ⟨rfl, q0⟩ := skE_of q3
  obtain ⟨r, z1, z2⟩ := bnd_of q0
  exact ⟨_, z2, by decide, mX6_serviceBegins hg z1, rfl, rfl, fun z => absurd z (by decide)⟩
def csX6_doingAt : List (Nat × List (Nat × ARow)) := [(37, [(0, 1, .aload_n 0, 0, 0, 0), (1, 3, .getfield 20, 6, 0, 2), (4, 3, .getfield 70, 2, 12, 2), (7, 1, .iload_n 1, 0, 0, 0), (8, 1, .iaload, 0, 0, 0), (9, 1, .istore_n 3, 0, 0, 0), (10, 1, .iload_n 2, 0, 0, 0), (11, 1, .iload_n 3, 0, 0, 0), (12, 3, .if_icmp .lt 14, 26, 0, 0), (15, 1, .iload_n 2, 0, 0, 0), (16, 1, .iload_n 3, 0, 0, 0), (17, 1, .isub, 0, 0, 0), (18, 1, .aload_n 0, 0, 0, 0), (19, 1, .iload_n 1, 0, 0, 0), (20, 3, .invokevirtual 76, 57, 2, 6), (23, 3, .if_icmp .lt 5, 28, 0, 0), (26, 1, .iconst 0, 0, 0, 0), (27, 1, .ireturn, 0, 0, 0), (28, 1, .iconst 0, 0, 0, 0), (29, 2, .istore 4, 0, 0, 0), (31, 1, .iconst 0, 0, 0, 0), (32, 2, .istore 5, 0, 0, 0), (34, 2, .iload 5, 0, 0, 0), (36, 1, .aload_n 0, 0, 0, 0)]),
  (82, [(37, 3, .getfield 16, 6, 2, 2), (40, 1, .iload_n 1, 0, 0, 0), (41, 1, .iaload, 0, 0, 0), (42, 3, .if_icmp .ge 113, 155, 0, 0), (45, 1, .aload_n 0, 0, 0, 0), (46, 3, .getfield 11, 6, 1, 2), (49, 1, .iload_n 1, 0, 0, 0), (50, 1, .aaload, 0, 0, 0), (51, 2, .iload 5, 0, 0, 0), (53, 1, .iaload, 0, 0, 0), (54, 2, .istore 6, 0, 0, 0), (56, 1, .iload_n 3, 0, 0, 0), (57, 1, .aload_n 0, 0, 0, 0), (58, 3, .getfield 20, 6, 0, 2), (61, 3, .getfield 54, 2, 0, 2), (64, 2, .iload 4, 0, 0, 0), (66, 1, .aload_n 0, 0, 0, 0), (67, 3, .getfield 20, 6, 0, 2), (70, 3, .getfield 51, 2, 1, 2), (73, 2, .iload 6, 0, 0, 0), (75, 1, .iaload, 0, 0, 0), (76, 3, .invokevirtual 79, 87, 3, 9), (79, 1, .iadd, 0, 0, 0), (80, 2, .istore 7, 0, 0, 0)]),
  (126, [(82, 1, .aload_n 0, 0, 0, 0), (83, 3, .getfield 20, 6, 0, 2), (86, 2, .iload 6, 0, 0, 0), (88, 2, .iload 4, 0, 0, 0), (90, 1, .iload_n 3, 0, 0, 0), (91, 3, .invokevirtual 73, 28, 4, 2), (94, 2, .istore 8, 0, 0, 0), (96, 2, .iload 8, 0, 0, 0), (98, 1, .aload_n 0, 0, 0, 0), (99, 3, .getfield 20, 6, 0, 2), (102, 3, .getfield 64, 2, 6, 2), (105, 2, .iload 6, 0, 0, 0), (107, 1, .iaload, 0, 0, 0), (108, 1, .iadd, 0, 0, 0), (109, 1, .istore_n 3, 0, 0, 0), (110, 1, .iload_n 2, 0, 0, 0), (111, 1, .iload_n 3, 0, 0, 0), (112, 3, .if_icmp .ge 25, 137, 0, 0), (115, 1, .iload_n 2, 0, 0, 0), (116, 2, .iload 7, 0, 0, 0), (118, 3, .if_icmp .ge 7, 125, 0, 0), (121, 1, .iconst 1, 0, 0, 0), (122, 3, .goto 14, 136, 0, 0), (125, 1, .iload_n 2, 0, 0, 0)]),
  (100000, [(126, 2, .iload 8, 0, 0, 0), (128, 3, .if_icmp .ge 7, 135, 0, 0), (131, 1, .iconst 2, 0, 0, 0), (132, 3, .goto 4, 136, 0, 0), (135, 1, .iconst 3, 0, 0, 0), (136, 1, .ireturn, 0, 0, 0), (137, 1, .aload_n 0, 0, 0, 0), (138, 3, .getfield 20, 6, 0, 2), (141, 3, .getfield 51, 2, 1, 2), (144, 2, .iload 6, 0, 0, 0), (146, 1, .iaload, 0, 0, 0), (147, 2, .istore 4, 0, 0, 0), (149, 3, .iinc 5 1, 0, 0, 0), (152, 3, .goto (-118), 34, 0, 0), (155, 1, .iconst 1, 0, 0, 0), (156, 1, .ireturn, 0, 0, 0)])]
theorem rwX6_doingAt : rowsB (mB 62) (mO 62) (mX 62) (mIni 62) (mFr 62) (mLo 62) (mT 62) csX6_doingAt = true := by decide +kernel
def bX6_doingAt_96 (h : HH) (c34 : Int → Int → Int → Int → Int → Option Int) (x1 : Int) (x2 : Int) (x5 : Int) (x6 : Int) (x7 : Int) (x8 : Int) : Option Int :=
  gd ((0 : Int) ≤ x6 ∧ x6 < (9 : Int)) <|
    gd (R32 (x8 + (h.1 19 x6))) <|
    if x2 < ((x8 + (h.1 19 x6)) : Int) then
    if x2 < (x7 : Int) then
    some 1
  else
    if x2 < (x8 : Int) then
    some 2
  else
    some 3
  else
    gd ((0 : Int) ≤ x6 ∧ x6 < (9 : Int)) <|
    gd (R32 (x5 + 1)) <|
    c34 x1 x2 (x8 + (h.1 19 x6)) (h.1 14 x6) (x5 + 1)
theorem uX6_doingAt_96 {g : SG} (hg : GOK g) {σ0 : SG} {h : HH} {c34 : Int → Int → Int → Int → Int → Option Int} (k34 : ∀ (x1 : Int) (x2 : Int) (x3 : Int) (x4 : Int) (x5 : Int) (b : Int), c34 x1 x2 x3 x4 x5 = some b → WK 62 (.inl (some (aI b))) σ0 (abH 2 70 g h) 34 [(0, aR 26), (1, aI x1), (2, aI x2), (3, aI x3), (4, aI x4), (5, aI x5)] [] (abH 2 70 g h) 0 0) : ∀ {x1 : Int} {x2 : Int} {x5 : Int} {x6 : Int} {x7 : Int} {x8 : Int} {b : Int}, bX6_doingAt_96 h c34 x1 x2 x5 x6 x7 x8 = some b → WK 62 (.inl (some (aI b))) σ0 (abH 2 70 g h) 96 [(0, aR 26), (1, aI x1), (2, aI x2), (5, aI x5), (6, aI x6), (7, aI x7), (8, aI x8)] [] (abH 2 70 g h) 0 0 := by
  intro x1 x2 x5 x6 x7 x8 b q
  have e : bX6_doingAt_96 h c34 x1 x2 x5 x6 x7 x8 = segP 2 70 g.2.2.2.2 h krPI clNP csX6_doingAt (cuC 34 (fun l st s => tkC 0 26 l <| tkI 1 l fun x1 => tkI 2 l fun x2 => tkI 3 l fun x3 => tkI 4 l fun x4 => tkI 5 l fun x5 => skE st (c34 x1 x2 x3 x4 x5)) cuN) 1000 96 [(0, aR 26), (1, aI x1), (2, aI x2), (5, aI x5), (6, aI x6), (7, aI x7), (8, aI x8)] [] := rfl
  rw [e] at q
  clear e
  refine segP_wk (by decide) (by decide) hg rwX6_doingAt CLKP_N krPI_ok ?_ q
  clear q
  refine ct_C ?_ (ct_N)
  · intro l st _ q
    obtain ⟨m0, q1⟩ := tkC_of q
    obtain ⟨x1, m1, q2⟩ := tkI_of q1
    obtain ⟨x2, m2, q3⟩ := tkI_of q2
    obtain ⟨x3, m3, q4⟩ := tkI_of q3
    obtain ⟨x4, m4, q5⟩ := tkI_of q4
    obtain ⟨x5, m5, q6⟩ := tkI_of q5
    obtain ⟨rfl, q7⟩ := skE_of q6
    exact WK_less (k34 _ _ _ _ _ _ q7) (List.forall_mem_cons.mpr ⟨m0, (List.forall_mem_cons.mpr ⟨m1, (List.forall_mem_cons.mpr ⟨m2, (List.forall_mem_cons.mpr ⟨m3, (List.forall_mem_cons.mpr ⟨m4, (List.forall_mem_cons.mpr ⟨m5, (fun _ h => absurd h List.not_mem_nil)⟩)⟩)⟩)⟩)⟩)⟩)
def nX6_doingAt_96 (h : HH) (c34 : Int → Int → Int → Int → Int → Option Int) (x1 : Int) (x2 : Int) (x5 : Int) (x6 : Int) (x7 : Int) (x8 : Int) : Option Int := bX6_doingAt_96 h c34 x1 x2 x5 x6 x7 x8
theorem wX6_doingAt_96 {g : SG} (hg : GOK g) {σ0 : SG} {h : HH} {c34 : Int → Int → Int → Int → Int → Option Int} (k34 : ∀ (x1 : Int) (x2 : Int) (x3 : Int) (x4 : Int) (x5 : Int) (b : Int), c34 x1 x2 x3 x4 x5 = some b → WK 62 (.inl (some (aI b))) σ0 (abH 2 70 g h) 34 [(0, aR 26), (1, aI x1), (2, aI x2), (3, aI x3), (4, aI x4), (5, aI x5)] [] (abH 2 70 g h) 0 0) : ∀ {x1 : Int} {x2 : Int} {x5 : Int} {x6 : Int} {x7 : Int} {x8 : Int} {b : Int}, nX6_doingAt_96 h c34 x1 x2 x5 x6 x7 x8 = some b → WK 62 (.inl (some (aI b))) σ0 (abH 2 70 g h) 96 [(0, aR 26), (1, aI x1), (2, aI x2), (5, aI x5), (6, aI x6), (7, aI x7), (8, aI x8)] [] (abH 2 70 g h) 0 0 := by
  intro x1 x2 x5 x6 x7 x8 b q
  exact uX6_doingAt_96 hg k34 q
def bX6_doingAt_34 (f87 : HH → Int → Int → Option Int) (f28 : HH → Int → Int → Int → Option Int) (h : HH) (c96 : Int → Int → Int → Int → Int → Int → Option Int) (x1 : Int) (x2 : Int) (x3 : Int) (x4 : Int) (x5 : Int) : Option Int :=
  gd ((0 : Int) ≤ x1 ∧ x1 < (3 : Int)) <|
    if x5 < ((h.1 31 x1) : Int) then
    gd ((0 : Int) ≤ x1 ∧ x1 < (3 : Int)) <|
    bif Nat.beq (rwK 3 28 x1) 0 then none else
    bif okS 2 70 (rwK 3 28 x1) 0 || okS 2 70 (rwK 3 28 x1) 9 then
    gd ((0 : Int) ≤ x5 ∧ x5 < ((lnK (rwK 3 28 x1)) : Int)) <|
    gd ((0 : Int) ≤ (h.1 (rwK 3 28 x1) x5) ∧ (h.1 (rwK 3 28 x1) x5) < (9 : Int)) <|
    bnd (f87 h x4 (h.1 14 (h.1 (rwK 3 28 x1) x5))) fun r1 =>
    gd (R32 (x3 + r1)) <|
    bnd (f28 h (h.1 (rwK 3 28 x1) x5) x4 x3) fun r2 =>
    c96 x1 x2 x5 (h.1 (rwK 3 28 x1) x5) (x3 + r1) r2
  else none
  else
    some 1
theorem uX6_doingAt_34 {g : SG} (hg : GOK g) {σ0 : SG} {h : HH} {c96 : Int → Int → Int → Int → Int → Int → Option Int} (k96 : ∀ (x1 : Int) (x2 : Int) (x5 : Int) (x6 : Int) (x7 : Int) (x8 : Int) (b : Int), c96 x1 x2 x5 x6 x7 x8 = some b → WK 62 (.inl (some (aI b))) σ0 (abH 2 70 g h) 96 [(0, aR 26), (1, aI x1), (2, aI x2), (5, aI x5), (6, aI x6), (7, aI x7), (8, aI x8)] [] (abH 2 70 g h) 0 0) : ∀ {x1 : Int} {x2 : Int} {x3 : Int} {x4 : Int} {x5 : Int} {b : Int}, bX6_doingAt_34 nX9_minutesOf nX2_serveAt h c96 x1 x2 x3 x4 x5 = some b → WK 62 (.inl (some (aI b))) σ0 (abH 2 70 g h) 34 [(0, aR 26), (1, aI x1), (2, aI x2), (3, aI x3), (4, aI x4), (5, aI x5)] [] (abH 2 70 g h) 0 0 := by
  intro x1 x2 x3 x4 x5 b q
  have e : ∀ (f87 : HH → Int → Int → Option Int) (f28 : HH → Int → Int → Int → Option Int) , bX6_doingAt_34 f87 f28 h c96 x1 x2 x3 x4 x5 = segP 2 70 g.2.2.2.2 h krPI (clCP 87 (pX9_minutesOf f87 h) (clCP 28 (pX2_serveAt f28 h) clNP)) csX6_doingAt (cuC 96 (fun l st s => tkC 0 26 l <| tkI 1 l fun x1 => tkI 2 l fun x2 => tkI 5 l fun x5 => tkI 6 l fun x6 => tkI 7 l fun x7 => tkI 8 l fun x8 => skE st (c96 x1 x2 x5 x6 x7 x8)) cuN) 1000 34 [(0, aR 26), (1, aI x1), (2, aI x2), (3, aI x3), (4, aI x4), (5, aI x5)] [] := fun _ _ => rfl
  rw [e nX9_minutesOf nX2_serveAt] at q
  clear e
  refine segP_wk (by decide) (by decide) hg rwX6_doingAt (CLKP_C (pX9_minutesOf_ok hg) (CLKP_C (pX2_serveAt_ok hg) CLKP_N)) krPI_ok ?_ q
  clear q
  refine ct_C ?_ (ct_N)
  · intro l st _ q
    obtain ⟨m0, q1⟩ := tkC_of q
    obtain ⟨x1, m1, q2⟩ := tkI_of q1
    obtain ⟨x2, m2, q3⟩ := tkI_of q2
    obtain ⟨x5, m5, q4⟩ := tkI_of q3
    obtain ⟨x6, m6, q5⟩ := tkI_of q4
    obtain ⟨x7, m7, q6⟩ := tkI_of q5
    obtain ⟨x8, m8, q7⟩ := tkI_of q6
    obtain ⟨rfl, q8⟩ := skE_of q7
    exact WK_less (k96 _ _ _ _ _ _ _ q8) (List.forall_mem_cons.mpr ⟨m0, (List.forall_mem_cons.mpr ⟨m1, (List.forall_mem_cons.mpr ⟨m2, (List.forall_mem_cons.mpr ⟨m5, (List.forall_mem_cons.mpr ⟨m6, (List.forall_mem_cons.mpr ⟨m7, (List.forall_mem_cons.mpr ⟨m8, (fun _ h => absurd h List.not_mem_nil)⟩)⟩)⟩)⟩)⟩)⟩)⟩)
def nX6_doingAt_34 (h : HH) : Nat → Int → Int → Int → Int → Int → Option Int := iter (fun _ _ _ _ _ => none) (fun self => bX6_doingAt_34 nX9_minutesOf nX2_serveAt h (nX6_doingAt_96 h self))
theorem nX6_doingAt_34_s {h : HH} {F : Nat} : nX6_doingAt_34 h (F + 1) = bX6_doingAt_34 nX9_minutesOf nX2_serveAt h (nX6_doingAt_96 h (nX6_doingAt_34 h F)) := rfl
theorem wX6_doingAt_34 {g : SG} (hg : GOK g) {σ0 : SG} {h : HH} : ∀ {F : Nat}, ∀ {x1 : Int} {x2 : Int} {x3 : Int} {x4 : Int} {x5 : Int} {b : Int}, nX6_doingAt_34 h F x1 x2 x3 x4 x5 = some b → WK 62 (.inl (some (aI b))) σ0 (abH 2 70 g h) 34 [(0, aR 26), (1, aI x1), (2, aI x2), (3, aI x3), (4, aI x4), (5, aI x5)] [] (abH 2 70 g h) 0 0 := by
  intro F
  have z : ∀ (x1 : Int) (x2 : Int) (x3 : Int) (x4 : Int) (x5 : Int) (b : Int), nX6_doingAt_34 h F x1 x2 x3 x4 x5 = some b → WK 62 (.inl (some (aI b))) σ0 (abH 2 70 g h) 34 [(0, aR 26), (1, aI x1), (2, aI x2), (3, aI x3), (4, aI x4), (5, aI x5)] [] (abH 2 70 g h) 0 0 := iter_ind (P := fun (c : Int → Int → Int → Int → Int → Option Int) => ∀ (x1 : Int) (x2 : Int) (x3 : Int) (x4 : Int) (x5 : Int) (b : Int), c x1 x2 x3 x4 x5 = some b → WK 62 (.inl (some (aI b))) σ0 (abH 2 70 g h) 34 [(0, aR 26), (1, aI x1), (2, aI x2), (3, aI x3), (4, aI x4), (5, aI x5)] [] (abH 2 70 g h) 0 0) (by
    intro x1 x2 x3 x4 x5 b q
    cases q) (fun self ih => by
    intro x1 x2 x3 x4 x5 b q
    exact uX6_doingAt_34 hg (fun _ _ _ _ _ _ _ q => wX6_doingAt_96 hg ih q) q) F
  intro x1 x2 x3 x4 x5 b q
  exact z _ _ _ _ _ _ q
def bX6_doingAt (f57 : HH → Int → Option Int) (h : HH) (c34 : Int → Int → Int → Int → Int → Option Int) (x1 : Int) (x2 : Int) : Option Int :=
  gd ((0 : Int) ≤ x1 ∧ x1 < (3 : Int)) <|
    if x2 < ((h.1 24 x1) : Int) then
    some 0
  else
    gd (R32 (x2 - (h.1 24 x1))) <|
    bnd (f57 h x1) fun r1 =>
    if (x2 - (h.1 24 x1)) < (r1 : Int) then
    c34 x1 x2 (h.1 24 x1) 0 0
  else
    some 0
theorem uX6_doingAt {g : SG} (hg : GOK g) {σ0 : SG} {h : HH} {c34 : Int → Int → Int → Int → Int → Option Int} (k34 : ∀ (x1 : Int) (x2 : Int) (x3 : Int) (x4 : Int) (x5 : Int) (b : Int), c34 x1 x2 x3 x4 x5 = some b → WK 62 (.inl (some (aI b))) σ0 (abH 2 70 g h) 34 [(0, aR 26), (1, aI x1), (2, aI x2), (3, aI x3), (4, aI x4), (5, aI x5)] [] (abH 2 70 g h) 0 0) : ∀ {x1 : Int} {x2 : Int} {b : Int}, bX6_doingAt nX6_costNow h c34 x1 x2 = some b → WK 62 (.inl (some (aI b))) σ0 (abH 2 70 g h) 0 [(0, aR 26), (1, aI x1), (2, aI x2)] [] (abH 2 70 g h) 0 0 := by
  intro x1 x2 b q
  have e : ∀ (f57 : HH → Int → Option Int) , bX6_doingAt f57 h c34 x1 x2 = segP 2 70 g.2.2.2.2 h krPI (clCP 57 (pX6_costNow f57 h) clNP) csX6_doingAt (cuC 34 (fun l st s => tkC 0 26 l <| tkI 1 l fun x1 => tkI 2 l fun x2 => tkI 3 l fun x3 => tkI 4 l fun x4 => tkI 5 l fun x5 => skE st (c34 x1 x2 x3 x4 x5)) cuN) 1000 0 [(0, aR 26), (1, aI x1), (2, aI x2)] [] := fun _ => rfl
  rw [e nX6_costNow] at q
  clear e
  refine segP_wk (by decide) (by decide) hg rwX6_doingAt (CLKP_C (pX6_costNow_ok hg) CLKP_N) krPI_ok ?_ q
  clear q
  refine ct_C ?_ (ct_N)
  · intro l st _ q
    obtain ⟨m0, q1⟩ := tkC_of q
    obtain ⟨x1, m1, q2⟩ := tkI_of q1
    obtain ⟨x2, m2, q3⟩ := tkI_of q2
    obtain ⟨x3, m3, q4⟩ := tkI_of q3
    obtain ⟨x4, m4, q5⟩ := tkI_of q4
    obtain ⟨x5, m5, q6⟩ := tkI_of q5
    obtain ⟨rfl, q7⟩ := skE_of q6
    exact WK_less (k34 _ _ _ _ _ _ q7) (List.forall_mem_cons.mpr ⟨m0, (List.forall_mem_cons.mpr ⟨m1, (List.forall_mem_cons.mpr ⟨m2, (List.forall_mem_cons.mpr ⟨m3, (List.forall_mem_cons.mpr ⟨m4, (List.forall_mem_cons.mpr ⟨m5, (fun _ h => absurd h List.not_mem_nil)⟩)⟩)⟩)⟩)⟩)⟩)
def nX6_doingAt (h : HH) (x1 : Int) (x2 : Int) : Option Int := bX6_doingAt nX6_costNow h (nX6_doingAt_34 h 100000) x1 x2
theorem wX6_doingAt {g : SG} (hg : GOK g) {σ0 : SG} {h : HH} : ∀ {x1 : Int} {x2 : Int} {b : Int}, nX6_doingAt h x1 x2 = some b → WK 62 (.inl (some (aI b))) σ0 (abH 2 70 g h) 0 [(0, aR 26), (1, aI x1), (2, aI x2)] [] (abH 2 70 g h) 0 0 := by
  intro x1 x2 b q
  exact uX6_doingAt hg (fun _ _ _ _ _ _ q => wX6_doingAt_34 hg q) q
theorem mX6_doingAt {g : SG} (hg : GOK g) {h : HH} {x1 : Int} {x2 : Int} {b : Int} (q : nX6_doingAt h x1 x2 = some b) : MCT 62 [] [aR 26, aI x1, aI x2] (abH 2 70 g h) (.inl (some (aI b))) (abH 2 70 g h) :=
  mct_of (by decide) (MFok 62 (by decide +kernel)) (fun _ => Nat.le_of_ble_eq_true rfl) (wX6_doingAt hg q)
def pX6_doingAt {β : Type} (z : HH → Int → Int → Option Int) : PP β := fun h as f => skC 26 as fun as => skI as fun x1 as => skI as fun x2 as => skE as (bnd (z h x1 x2) fun r => f (.inl (some (aI r))))
theorem pX6_doingAt_ok {β : Type} {g : SG} (hg : GOK g) : CP1 (β := β) 62 (pX6_doingAt nX6_doingAt) 2 70 g := fun h as f b q => by
  obtain ⟨as, rfl, q1⟩ := skC_of q
  obtain ⟨x1, as, rfl, q2⟩ := skI_of q1
  obtain ⟨x2, as, rfl, q3⟩ := skI_of q2
  obtain ⟨rfl, q0⟩ := skE_of q3
  obtain ⟨r, z1, z2⟩ := bnd_of q0
  exact ⟨_, z2, by decide, mX6_doingAt hg z1, rfl, rfl, fun z => absurd z (by decide)⟩
def csX7_findPlace : List (Nat × List (Nat × ARow)) := [(44, [(0, 1, .aload_n 0, 0, 0, 0), (1, 1, .iconst (-1), 0, 0, 0), (2, 3, .putfield 37, 7, 7, 0), (5, 1, .iconst 0, 0, 0, 0), (6, 1, .istore_n 2, 0, 0, 0), (7, 1, .iload_n 2, 0, 0, 0), (8, 1, .aload_n 0, 0, 0, 0), (9, 3, .getfield 29, 7, 0, 2), (12, 3, .getfield 41, 2, 14, 0), (15, 3, .if_icmp .ge 131, 146, 0, 0), (18, 1, .aload_n 0, 0, 0, 0), (19, 3, .getfield 33, 7, 1, 2), (22, 1, .iload_n 2, 0, 0, 0), (23, 3, .invokevirtual 46, 57, 2, 6), (26, 1, .istore_n 3, 0, 0, 0), (27, 1, .iconst 0, 0, 0, 0), (28, 2, .istore 4, 0, 0, 0), (30, 2, .iload 4, 0, 0, 0), (32, 1, .aload_n 0, 0, 0, 0), (33, 3, .getfield 33, 7, 1, 2), (36, 3, .getfield 52, 6, 2, 2), (39, 1, .iload_n 2, 0, 0, 0), (40, 1, .iaload, 0, 0, 0), (41, 3, .if_icmp .gt 99, 140, 0, 0)]),
  (90, [(44, 1, .aload_n 0, 0, 0, 0), (45, 3, .getfield 33, 7, 1, 2), (48, 3, .getfield 53, 6, 1, 2), (51, 1, .iload_n 2, 0, 0, 0), (52, 1, .aaload, 0, 0, 0), (53, 1, .aload_n 0, 0, 0, 0), (54, 3, .getfield 33, 7, 1, 2), (57, 3, .getfield 52, 6, 2, 2), (60, 1, .iload_n 2, 0, 0, 0), (61, 1, .iaload, 0, 0, 0), (62, 2, .iload 4, 0, 0, 0), (64, 1, .iload_n 1, 0, 0, 0), (65, 1, .aload_n 0, 0, 0, 0), (66, 3, .getfield 9, 7, 2, 2), (69, 3, .invokestatic 56, 52, 5, 0), (72, 2, .istore 5, 0, 0, 0), (74, 1, .aload_n 0, 0, 0, 0), (75, 3, .getfield 29, 7, 0, 2), (78, 1, .iload_n 2, 0, 0, 0), (79, 1, .aload_n 0, 0, 0, 0), (80, 3, .getfield 9, 7, 2, 2), (83, 2, .iload 5, 0, 0, 0), (85, 3, .invokevirtual 60, 27, 4, 2), (88, 2, .istore 6, 0, 0, 0)]),
  (134, [(90, 2, .iload 6, 0, 0, 0), (92, 1, .iconst (-1), 0, 0, 0), (93, 3, .if_icmp .eq 41, 134, 0, 0), (96, 1, .aload_n 0, 0, 0, 0), (97, 3, .getfield 37, 7, 7, 0), (100, 1, .iconst (-1), 0, 0, 0), (101, 3, .if_icmp .eq 14, 115, 0, 0), (104, 2, .iload 6, 0, 0, 0), (106, 1, .iload_n 3, 0, 0, 0), (107, 1, .isub, 0, 0, 0), (108, 1, .aload_n 0, 0, 0, 0), (109, 3, .getfield 64, 7, 9, 0), (112, 3, .if_icmp .ge 22, 134, 0, 0), (115, 1, .aload_n 0, 0, 0, 0), (116, 1, .iload_n 2, 0, 0, 0), (117, 3, .putfield 37, 7, 7, 0), (120, 1, .aload_n 0, 0, 0, 0), (121, 2, .iload 4, 0, 0, 0), (123, 3, .putfield 67, 7, 8, 0), (126, 1, .aload_n 0, 0, 0, 0), (127, 2, .iload 6, 0, 0, 0), (129, 1, .iload_n 3, 0, 0, 0), (130, 1, .isub, 0, 0, 0), (131, 3, .putfield 64, 7, 9, 0)]),
  (100000, [(134, 3, .iinc 4 1, 0, 0, 0), (137, 3, .goto (-107), 30, 0, 0), (140, 3, .iinc 2 1, 0, 0, 0), (143, 3, .goto (-136), 7, 0, 0), (146, 1, .return_, 0, 0, 0)])]
theorem rwX7_findPlace : rowsB (mB 64) (mO 64) (mX 64) (mIni 64) (mFr 64) (mLo 64) (mT 64) csX7_findPlace = true := by decide +kernel
def bX7_findPlace_134 (c30 : Int → Int → Int → Int → HH → Option HH) (x1 : Int) (x2 : Int) (x3 : Int) (x4 : Int) (h : HH) : Option HH :=
  gd (R32 (x4 + 1)) <|
    c30 x1 x2 x3 (x4 + 1) h
theorem uX7_findPlace_134 {g : SG} (hg : GOK g) {σ0 : SG} {c30 : Int → Int → Int → Int → HH → Option HH} (k30 : ∀ (x1 : Int) (x2 : Int) (x3 : Int) (x4 : Int) (h : HH) (b : HH), c30 x1 x2 x3 x4 h = some b → WK 64 (.inl none) σ0 (abH 2 70 g b) 30 [(0, aR 34), (1, aI x1), (2, aI x2), (3, aI x3), (4, aI x4)] [] (abH 2 70 g h) 0 0) : ∀ {x1 : Int} {x2 : Int} {x3 : Int} {x4 : Int} {h : HH} {b : HH}, bX7_findPlace_134 c30 x1 x2 x3 x4 h = some b → WK 64 (.inl none) σ0 (abH 2 70 g b) 134 [(0, aR 34), (1, aI x1), (2, aI x2), (3, aI x3), (4, aI x4)] [] (abH 2 70 g h) 0 0 := by
  intro x1 x2 x3 x4 h b q
  have e : bX7_findPlace_134 c30 x1 x2 x3 x4 h = segW 2 70 g.2.2.2.2 krWV clN csX7_findPlace (cuC 30 (fun l st s => tkC 0 34 l <| tkI 1 l fun x1 => tkI 2 l fun x2 => tkI 3 l fun x3 => tkI 4 l fun x4 => skE st (c30 x1 x2 x3 x4 s)) cuN) 1000 134 [(0, aR 34), (1, aI x1), (2, aI x2), (3, aI x3), (4, aI x4)] [] h := rfl
  rw [e] at q
  clear e
  refine segW_wk (by decide) (by decide) hg rwX7_findPlace CLKW_N krWV_ok ?_ q
  clear q
  refine ct_C ?_ (ct_N)
  · intro l st h q
    obtain ⟨m0, q1⟩ := tkC_of q
    obtain ⟨x1, m1, q2⟩ := tkI_of q1
    obtain ⟨x2, m2, q3⟩ := tkI_of q2
    obtain ⟨x3, m3, q4⟩ := tkI_of q3
    obtain ⟨x4, m4, q5⟩ := tkI_of q4
    obtain ⟨rfl, q6⟩ := skE_of q5
    exact WK_less (k30 _ _ _ _ _ _ q6) (List.forall_mem_cons.mpr ⟨m0, (List.forall_mem_cons.mpr ⟨m1, (List.forall_mem_cons.mpr ⟨m2, (List.forall_mem_cons.mpr ⟨m3, (List.forall_mem_cons.mpr ⟨m4, (fun _ h => absurd h List.not_mem_nil)⟩)⟩)⟩)⟩)⟩)
def nX7_findPlace_134 (c7 : Int → Int → HH → Option HH) (c30 : Int → Int → Int → Int → HH → Option HH) (x1 : Int) (x2 : Int) (x3 : Int) (x4 : Int) (h : HH) : Option HH := bX7_findPlace_134 c30 x1 x2 x3 x4 h
theorem wX7_findPlace_134 {g : SG} (hg : GOK g) {σ0 : SG} {c7 : Int → Int → HH → Option HH} {c30 : Int → Int → Int → Int → HH → Option HH} (k7 : ∀ (x1 : Int) (x2 : Int) (h : HH) (b : HH), c7 x1 x2 h = some b → WK 64 (.inl none) σ0 (abH 2 70 g b) 7 [(0, aR 34), (1, aI x1), (2, aI x2)] [] (abH 2 70 g h) 0 0) (k30 : ∀ (x1 : Int) (x2 : Int) (x3 : Int) (x4 : Int) (h : HH) (b : HH), c30 x1 x2 x3 x4 h = some b → WK 64 (.inl none) σ0 (abH 2 70 g b) 30 [(0, aR 34), (1, aI x1), (2, aI x2), (3, aI x3), (4, aI x4)] [] (abH 2 70 g h) 0 0) : ∀ {x1 : Int} {x2 : Int} {x3 : Int} {x4 : Int} {h : HH} {b : HH}, nX7_findPlace_134 c7 c30 x1 x2 x3 x4 h = some b → WK 64 (.inl none) σ0 (abH 2 70 g b) 134 [(0, aR 34), (1, aI x1), (2, aI x2), (3, aI x3), (4, aI x4)] [] (abH 2 70 g h) 0 0 := by
  intro x1 x2 x3 x4 h b q
  exact uX7_findPlace_134 hg k30 q
def bX7_findPlace_115 (c134 : Int → Int → Int → Int → HH → Option HH) (x1 : Int) (x2 : Int) (x3 : Int) (x4 : Int) (x6 : Int) (h : HH) : Option HH :=
  bnd (some (hI h 34 7 x2)) fun h1 =>
    bnd (some (hI h1 34 8 x4)) fun h2 =>
    gd (R32 (x6 - x3)) <|
    bnd (some (hI h2 34 9 (x6 - x3))) fun h3 =>
    c134 x1 x2 x3 x4 h3
theorem uX7_findPlace_115 {g : SG} (hg : GOK g) {σ0 : SG} {c134 : Int → Int → Int → Int → HH → Option HH} (k134 : ∀ (x1 : Int) (x2 : Int) (x3 : Int) (x4 : Int) (h : HH) (b : HH), c134 x1 x2 x3 x4 h = some b → WK 64 (.inl none) σ0 (abH 2 70 g b) 134 [(0, aR 34), (1, aI x1), (2, aI x2), (3, aI x3), (4, aI x4)] [] (abH 2 70 g h) 0 0) : ∀ {x1 : Int} {x2 : Int} {x3 : Int} {x4 : Int} {x6 : Int} {h : HH} {b : HH}, bX7_findPlace_115 c134 x1 x2 x3 x4 x6 h = some b → WK 64 (.inl none) σ0 (abH 2 70 g b) 115 [(0, aR 34), (1, aI x1), (2, aI x2), (3, aI x3), (4, aI x4), (6, aI x6)] [] (abH 2 70 g h) 0 0 := by
  intro x1 x2 x3 x4 x6 h b q
  have e : bX7_findPlace_115 c134 x1 x2 x3 x4 x6 h = segW 2 70 g.2.2.2.2 krWV clN csX7_findPlace (cuC 134 (fun l st s => tkC 0 34 l <| tkI 1 l fun x1 => tkI 2 l fun x2 => tkI 3 l fun x3 => tkI 4 l fun x4 => skE st (c134 x1 x2 x3 x4 s)) cuN) 1000 115 [(0, aR 34), (1, aI x1), (2, aI x2), (3, aI x3), (4, aI x4), (6, aI x6)] [] h := rfl
  rw [e] at q
  clear e
  refine segW_wk (by decide) (by decide) hg rwX7_findPlace CLKW_N krWV_ok ?_ q
  clear q
  refine ct_C ?_ (ct_N)
  · intro l st h q
    obtain ⟨m0, q1⟩ := tkC_of q
    obtain ⟨x1, m1, q2⟩ := tkI_of q1
    obtain ⟨x2, m2, q3⟩ := tkI_of q2
    obtain ⟨x3, m3, q4⟩ := tkI_of q3
    obtain ⟨x4, m4, q5⟩ := tkI_of q4
    obtain ⟨rfl, q6⟩ := skE_of q5
    exact WK_less (k134 _ _ _ _ _ _ q6) (List.forall_mem_cons.mpr ⟨m0, (List.forall_mem_cons.mpr ⟨m1, (List.forall_mem_cons.mpr ⟨m2, (List.forall_mem_cons.mpr ⟨m3, (List.forall_mem_cons.mpr ⟨m4, (fun _ h => absurd h List.not_mem_nil)⟩)⟩)⟩)⟩)⟩)
def nX7_findPlace_115 (c7 : Int → Int → HH → Option HH) (c30 : Int → Int → Int → Int → HH → Option HH) (x1 : Int) (x2 : Int) (x3 : Int) (x4 : Int) (x6 : Int) (h : HH) : Option HH := bX7_findPlace_115 (nX7_findPlace_134 c7 c30) x1 x2 x3 x4 x6 h
theorem wX7_findPlace_115 {g : SG} (hg : GOK g) {σ0 : SG} {c7 : Int → Int → HH → Option HH} {c30 : Int → Int → Int → Int → HH → Option HH} (k7 : ∀ (x1 : Int) (x2 : Int) (h : HH) (b : HH), c7 x1 x2 h = some b → WK 64 (.inl none) σ0 (abH 2 70 g b) 7 [(0, aR 34), (1, aI x1), (2, aI x2)] [] (abH 2 70 g h) 0 0) (k30 : ∀ (x1 : Int) (x2 : Int) (x3 : Int) (x4 : Int) (h : HH) (b : HH), c30 x1 x2 x3 x4 h = some b → WK 64 (.inl none) σ0 (abH 2 70 g b) 30 [(0, aR 34), (1, aI x1), (2, aI x2), (3, aI x3), (4, aI x4)] [] (abH 2 70 g h) 0 0) : ∀ {x1 : Int} {x2 : Int} {x3 : Int} {x4 : Int} {x6 : Int} {h : HH} {b : HH}, nX7_findPlace_115 c7 c30 x1 x2 x3 x4 x6 h = some b → WK 64 (.inl none) σ0 (abH 2 70 g b) 115 [(0, aR 34), (1, aI x1), (2, aI x2), (3, aI x3), (4, aI x4), (6, aI x6)] [] (abH 2 70 g h) 0 0 := by
  intro x1 x2 x3 x4 x6 h b q
  exact uX7_findPlace_115 hg (fun _ _ _ _ _ _ q => wX7_findPlace_134 hg k7 k30 q) q
def bX7_findPlace_30 (f52 : Nat → Int → Int → Int → Nat → HH → Option (Int × HH)) (f27 : HH → Int → Nat → Int → Option Int) (c7 : Int → Int → HH → Option HH) (c115 : Int → Int → Int → Int → Int → HH → Option HH) (c134 : Int → Int → Int → Int → HH → Option HH) (x1 : Int) (x2 : Int) (x3 : Int) (x4 : Int) (h : HH) : Option HH :=
  gd ((0 : Int) ≤ x2 ∧ x2 < (3 : Int)) <|
    if ((h.1 31 x2) : Int) < x4 then
    gd (R32 (x2 + 1)) <|
    c7 x1 (x2 + 1) h
  else
    gd ((0 : Int) ≤ x2 ∧ x2 < (3 : Int)) <|
    bif Nat.beq (rwK 3 28 x2) 0 then none else
    gd ((0 : Int) ≤ x2 ∧ x2 < (3 : Int)) <|
    bnd (f52 (rwK 3 28 x2) (h.1 31 x2) x4 x1 35 h) fun r1 =>
    bnd (f27 r1.2 x2 35 r1.1) fun r2 =>
    if r2 = ((-1) : Int) then
    c134 x1 x2 x3 x4 r1.2
  else
    if (r1.2.1 34 7) = ((-1) : Int) then
    c115 x1 x2 x3 x4 r2 r1.2
  else
    gd (R32 (r2 - x3)) <|
    if (r2 - x3) < ((r1.2.1 34 9) : Int) then
    c115 x1 x2 x3 x4 r2 r1.2
  else
    c134 x1 x2 x3 x4 r1.2
theorem uX7_findPlace_30 {g : SG} (hg : GOK g) {σ0 : SG} {c7 : Int → Int → HH → Option HH} {c115 : Int → Int → Int → Int → Int → HH → Option HH} {c134 : Int → Int → Int → Int → HH → Option HH} (k7 : ∀ (x1 : Int) (x2 : Int) (h : HH) (b : HH), c7 x1 x2 h = some b → WK 64 (.inl none) σ0 (abH 2 70 g b) 7 [(0, aR 34), (1, aI x1), (2, aI x2)] [] (abH 2 70 g h) 0 0) (k115 : ∀ (x1 : Int) (x2 : Int) (x3 : Int) (x4 : Int) (x6 : Int) (h : HH) (b : HH), c115 x1 x2 x3 x4 x6 h = some b → WK 64 (.inl none) σ0 (abH 2 70 g b) 115 [(0, aR 34), (1, aI x1), (2, aI x2), (3, aI x3), (4, aI x4), (6, aI x6)] [] (abH 2 70 g h) 0 0) (k134 : ∀ (x1 : Int) (x2 : Int) (x3 : Int) (x4 : Int) (h : HH) (b : HH), c134 x1 x2 x3 x4 h = some b → WK 64 (.inl none) σ0 (abH 2 70 g b) 134 [(0, aR 34), (1, aI x1), (2, aI x2), (3, aI x3), (4, aI x4)] [] (abH 2 70 g h) 0 0) : ∀ {x1 : Int} {x2 : Int} {x3 : Int} {x4 : Int} {h : HH} {b : HH}, bX7_findPlace_30 nX6_insert nX2_costOf c7 c115 c134 x1 x2 x3 x4 h = some b → WK 64 (.inl none) σ0 (abH 2 70 g b) 30 [(0, aR 34), (1, aI x1), (2, aI x2), (3, aI x3), (4, aI x4)] [] (abH 2 70 g h) 0 0 := by
  intro x1 x2 x3 x4 h b q
  have e : ∀ (f52 : Nat → Int → Int → Int → Nat → HH → Option (Int × HH)) (f27 : HH → Int → Nat → Int → Option Int) , bX7_findPlace_30 f52 f27 c7 c115 c134 x1 x2 x3 x4 h = segW 2 70 g.2.2.2.2 krWV (clC 52 (pX6_insert f52) (clC 27 (liPW (pX2_costOf f27)) clN)) csX7_findPlace (cuC 7 (fun l st s => tkC 0 34 l <| tkI 1 l fun x1 => tkI 2 l fun x2 => skE st (c7 x1 x2 s)) (cuC 115 (fun l st s => tkC 0 34 l <| tkI 1 l fun x1 => tkI 2 l fun x2 => tkI 3 l fun x3 => tkI 4 l fun x4 => tkI 6 l fun x6 => skE st (c115 x1 x2 x3 x4 x6 s)) (cuC 134 (fun l st s => tkC 0 34 l <| tkI 1 l fun x1 => tkI 2 l fun x2 => tkI 3 l fun x3 => tkI 4 l fun x4 => skE st (c134 x1 x2 x3 x4 s)) cuN))) 1000 30 [(0, aR 34), (1, aI x1), (2, aI x2), (3, aI x3), (4, aI x4)] [] h := fun _ _ => rfl
  rw [e nX6_insert nX2_costOf] at q
  clear e
  refine segW_wk (by decide) (by decide) hg rwX7_findPlace (CLKW_C (pX6_insert_ok hg) (CLKW_C (liPW_ok (pX2_costOf_ok hg)) CLKW_N)) krWV_ok ?_ q
  clear q
  refine ct_C ?_ (ct_C ?_ (ct_C ?_ (ct_N)))
  · intro l st h q
    obtain ⟨m0, q1⟩ := tkC_of q
    obtain ⟨x1, m1, q2⟩ := tkI_of q1
    obtain ⟨x2, m2, q3⟩ := tkI_of q2
    obtain ⟨rfl, q4⟩ := skE_of q3
    exact WK_less (k7 _ _ _ _ q4) (List.forall_mem_cons.mpr ⟨m0, (List.forall_mem_cons.mpr ⟨m1, (List.forall_mem_cons.mpr ⟨m2, (fun _ h => absurd h List.not_mem_nil)⟩)⟩)⟩)
  · intro l st h q
    obtain ⟨m0, q1⟩ := tkC_of q
    obtain ⟨x1, m1, q2⟩ := tkI_of q1
    obtain ⟨x2, m2, q3⟩ := tkI_of q2
    obtain ⟨x3, m3, q4⟩ := tkI_of q3
    obtain ⟨x4, m4, q5⟩ := tkI_of q4
    obtain ⟨x6, m6, q6⟩ := tkI_of q5
    obtain ⟨rfl, q7⟩ := skE_of q6
    exact WK_less (k115 _ _ _ _ _ _ _ q7) (List.forall_mem_cons.mpr ⟨m0, (List.forall_mem_cons.mpr ⟨m1, (List.forall_mem_cons.mpr ⟨m2, (List.forall_mem_cons.mpr ⟨m3, (List.forall_mem_cons.mpr ⟨m4, (List.forall_mem_cons.mpr ⟨m6, (fun _ h => absurd h List.not_mem_nil)⟩)⟩)⟩)⟩)⟩)⟩)
  · intro l st h q
    obtain ⟨m0, q1⟩ := tkC_of q
    obtain ⟨x1, m1, q2⟩ := tkI_of q1
    obtain ⟨x2, m2, q3⟩ := tkI_of q2
    obtain ⟨x3, m3, q4⟩ := tkI_of q3
    obtain ⟨x4, m4, q5⟩ := tkI_of q4
    obtain ⟨rfl, q6⟩ := skE_of q5
    exact WK_less (k134 _ _ _ _ _ _ q6) (List.forall_mem_cons.mpr ⟨m0, (List.forall_mem_cons.mpr ⟨m1, (List.forall_mem_cons.mpr ⟨m2, (List.forall_mem_cons.mpr ⟨m3, (List.forall_mem_cons.mpr ⟨m4, (fun _ h => absurd h List.not_mem_nil)⟩)⟩)⟩)⟩)⟩)
def nX7_findPlace_30 (c7 : Int → Int → HH → Option HH) : Nat → Int → Int → Int → Int → HH → Option HH := iter (fun _ _ _ _ _ => none) (fun self => bX7_findPlace_30 nX6_insert nX2_costOf c7 (nX7_findPlace_115 c7 self) (nX7_findPlace_134 c7 self))
theorem nX7_findPlace_30_s {c7 : Int → Int → HH → Option HH} {F : Nat} : nX7_findPlace_30 c7 (F + 1) = bX7_findPlace_30 nX6_insert nX2_costOf c7 (nX7_findPlace_115 c7 (nX7_findPlace_30 c7 F)) (nX7_findPlace_134 c7 (nX7_findPlace_30 c7 F)) := rfl
theorem wX7_findPlace_30 {g : SG} (hg : GOK g) {σ0 : SG} {c7 : Int → Int → HH → Option HH} (k7 : ∀ (x1 : Int) (x2 : Int) (h : HH) (b : HH), c7 x1 x2 h = some b → WK 64 (.inl none) σ0 (abH 2 70 g b) 7 [(0, aR 34), (1, aI x1), (2, aI x2)] [] (abH 2 70 g h) 0 0) : ∀ {F : Nat}, ∀ {x1 : Int} {x2 : Int} {x3 : Int} {x4 : Int} {h : HH} {b : HH}, nX7_findPlace_30 c7 F x1 x2 x3 x4 h = some b → WK 64 (.inl none) σ0 (abH 2 70 g b) 30 [(0, aR 34), (1, aI x1), (2, aI x2), (3, aI x3), (4, aI x4)] [] (abH 2 70 g h) 0 0 := by
  intro F
  have z : ∀ (x1 : Int) (x2 : Int) (x3 : Int) (x4 : Int) (h : HH) (b : HH), nX7_findPlace_30 c7 F x1 x2 x3 x4 h = some b → WK 64 (.inl none) σ0 (abH 2 70 g b) 30 [(0, aR 34), (1, aI x1), (2, aI x2), (3, aI x3), (4, aI x4)] [] (abH 2 70 g h) 0 0 := iter_ind (P := fun (c : Int → Int → Int → Int → HH → Option HH) => ∀ (x1 : Int) (x2 : Int) (x3 : Int) (x4 : Int) (h : HH) (b : HH), c x1 x2 x3 x4 h = some b → WK 64 (.inl none) σ0 (abH 2 70 g b) 30 [(0, aR 34), (1, aI x1), (2, aI x2), (3, aI x3), (4, aI x4)] [] (abH 2 70 g h) 0 0) (by
    intro x1 x2 x3 x4 h b q
    cases q) (fun self ih => by
    intro x1 x2 x3 x4 h b q
    exact uX7_findPlace_30 hg k7 (fun _ _ _ _ _ _ _ q => wX7_findPlace_115 hg k7 ih q) (fun _ _ _ _ _ _ q => wX7_findPlace_134 hg k7 ih q) q) F
  intro x1 x2 x3 x4 h b q
  exact z _ _ _ _ _ _ q
def bX7_findPlace_7 (f57 : HH → Int → Option Int) (c30 : Int → Int → Int → Int → HH → Option HH) (x1 : Int) (x2 : Int) (h : HH) : Option HH :=
  if x2 < ((h.1 13 14) : Int) then
    bnd (f57 h x2) fun r1 =>
    c30 x1 x2 r1 0 h
  else
    some h
theorem uX7_findPlace_7 {g : SG} (hg : GOK g) {σ0 : SG} {c30 : Int → Int → Int → Int → HH → Option HH} (k30 : ∀ (x1 : Int) (x2 : Int) (x3 : Int) (x4 : Int) (h : HH) (b : HH), c30 x1 x2 x3 x4 h = some b → WK 64 (.inl none) σ0 (abH 2 70 g b) 30 [(0, aR 34), (1, aI x1), (2, aI x2), (3, aI x3), (4, aI x4)] [] (abH 2 70 g h) 0 0) : ∀ {x1 : Int} {x2 : Int} {h : HH} {b : HH}, bX7_findPlace_7 nX6_costNow c30 x1 x2 h = some b → WK 64 (.inl none) σ0 (abH 2 70 g b) 7 [(0, aR 34), (1, aI x1), (2, aI x2)] [] (abH 2 70 g h) 0 0 := by
  intro x1 x2 h b q
  have e : ∀ (f57 : HH → Int → Option Int) , bX7_findPlace_7 f57 c30 x1 x2 h = segW 2 70 g.2.2.2.2 krWV (clC 57 (liPW (pX6_costNow f57)) clN) csX7_findPlace (cuC 30 (fun l st s => tkC 0 34 l <| tkI 1 l fun x1 => tkI 2 l fun x2 => tkI 3 l fun x3 => tkI 4 l fun x4 => skE st (c30 x1 x2 x3 x4 s)) cuN) 1000 7 [(0, aR 34), (1, aI x1), (2, aI x2)] [] h := fun _ => rfl
  rw [e nX6_costNow] at q
  clear e
  refine segW_wk (by decide) (by decide) hg rwX7_findPlace (CLKW_C (liPW_ok (pX6_costNow_ok hg)) CLKW_N) krWV_ok ?_ q
  clear q
  refine ct_C ?_ (ct_N)
  · intro l st h q
    obtain ⟨m0, q1⟩ := tkC_of q
    obtain ⟨x1, m1, q2⟩ := tkI_of q1
    obtain ⟨x2, m2, q3⟩ := tkI_of q2
    obtain ⟨x3, m3, q4⟩ := tkI_of q3
    obtain ⟨x4, m4, q5⟩ := tkI_of q4
    obtain ⟨rfl, q6⟩ := skE_of q5
    exact WK_less (k30 _ _ _ _ _ _ q6) (List.forall_mem_cons.mpr ⟨m0, (List.forall_mem_cons.mpr ⟨m1, (List.forall_mem_cons.mpr ⟨m2, (List.forall_mem_cons.mpr ⟨m3, (List.forall_mem_cons.mpr ⟨m4, (fun _ h => absurd h List.not_mem_nil)⟩)⟩)⟩)⟩)⟩)
def nX7_findPlace_7 : Nat → Int → Int → HH → Option HH := iter (fun _ _ _ => none) (fun self => bX7_findPlace_7 nX6_costNow (nX7_findPlace_30 self 100000))
theorem nX7_findPlace_7_s {F : Nat} : nX7_findPlace_7 (F + 1) = bX7_findPlace_7 nX6_costNow (nX7_findPlace_30 (nX7_findPlace_7 F) 100000) := rfl
theorem wX7_findPlace_7 {g : SG} (hg : GOK g) {σ0 : SG} : ∀ {F : Nat}, ∀ {x1 : Int} {x2 : Int} {h : HH} {b : HH}, nX7_findPlace_7 F x1 x2 h = some b → WK 64 (.inl none) σ0 (abH 2 70 g b) 7 [(0, aR 34), (1, aI x1), (2, aI x2)] [] (abH 2 70 g h) 0 0 := by
  intro F
  have z : ∀ (x1 : Int) (x2 : Int) (h : HH) (b : HH), nX7_findPlace_7 F x1 x2 h = some b → WK 64 (.inl none) σ0 (abH 2 70 g b) 7 [(0, aR 34), (1, aI x1), (2, aI x2)] [] (abH 2 70 g h) 0 0 := iter_ind (P := fun (c : Int → Int → HH → Option HH) => ∀ (x1 : Int) (x2 : Int) (h : HH) (b : HH), c x1 x2 h = some b → WK 64 (.inl none) σ0 (abH 2 70 g b) 7 [(0, aR 34), (1, aI x1), (2, aI x2)] [] (abH 2 70 g h) 0 0) (by
    intro x1 x2 h b q
    cases q) (fun self ih => by
    intro x1 x2 h b q
    exact uX7_findPlace_7 hg (fun _ _ _ _ _ _ q => wX7_findPlace_30 hg ih q) q) F
  intro x1 x2 h b q
  exact z _ _ _ _ q
def bX7_findPlace (c7 : Int → Int → HH → Option HH) (x1 : Int) (h : HH) : Option HH :=
  bnd (some (hI h 34 7 (-1))) fun h1 =>
    c7 x1 0 h1
theorem uX7_findPlace {g : SG} (hg : GOK g) {σ0 : SG} {c7 : Int → Int → HH → Option HH} (k7 : ∀ (x1 : Int) (x2 : Int) (h : HH) (b : HH), c7 x1 x2 h = some b → WK 64 (.inl none) σ0 (abH 2 70 g b) 7 [(0, aR 34), (1, aI x1), (2, aI x2)] [] (abH 2 70 g h) 0 0) : ∀ {x1 : Int} {h : HH} {b : HH}, bX7_findPlace c7 x1 h = some b → WK 64 (.inl none) σ0 (abH 2 70 g b) 0 [(0, aR 34), (1, aI x1)] [] (abH 2 70 g h) 0 0 := by
  intro x1 h b q
  have e : bX7_findPlace c7 x1 h = segW 2 70 g.2.2.2.2 krWV clN csX7_findPlace (cuC 7 (fun l st s => tkC 0 34 l <| tkI 1 l fun x1 => tkI 2 l fun x2 => skE st (c7 x1 x2 s)) cuN) 1000 0 [(0, aR 34), (1, aI x1)] [] h := rfl
  rw [e] at q
  clear e
  refine segW_wk (by decide) (by decide) hg rwX7_findPlace CLKW_N krWV_ok ?_ q
  clear q
  refine ct_C ?_ (ct_N)
  · intro l st h q
    obtain ⟨m0, q1⟩ := tkC_of q
    obtain ⟨x1, m1, q2⟩ := tkI_of q1
    obtain ⟨x2, m2, q3⟩ := tkI_of q2
    obtain ⟨rfl, q4⟩ := skE_of q3
    exact WK_less (k7 _ _ _ _ q4) (List.forall_mem_cons.mpr ⟨m0, (List.forall_mem_cons.mpr ⟨m1, (List.forall_mem_cons.mpr ⟨m2, (fun _ h => absurd h List.not_mem_nil)⟩)⟩)⟩)
def nX7_findPlace (x1 : Int) (h : HH) : Option HH := bX7_findPlace (nX7_findPlace_7 100000) x1 h
theorem wX7_findPlace {g : SG} (hg : GOK g) {σ0 : SG} : ∀ {x1 : Int} {h : HH} {b : HH}, nX7_findPlace x1 h = some b → WK 64 (.inl none) σ0 (abH 2 70 g b) 0 [(0, aR 34), (1, aI x1)] [] (abH 2 70 g h) 0 0 := by
  intro x1 h b q
  exact uX7_findPlace hg (fun _ _ _ _ q => wX7_findPlace_7 hg q) q
theorem mX7_findPlace {g : SG} (hg : GOK g) {h : HH} {x1 : Int} {b : HH} (q : nX7_findPlace x1 h = some b) : MCT 64 [] [aR 34, aI x1] (abH 2 70 g h) (.inl none) (abH 2 70 g b) :=
  mct_of (by decide) (MFok 64 (by decide +kernel)) (fun _ => Nat.le_of_ble_eq_true rfl) (wX7_findPlace hg q)
def pX7_findPlace {β : Type} (z : Int → HH → Option HH) : PW β := fun as h f => skC 34 as fun as => skI as fun x1 as => skE as (bnd (z x1 h) fun r => f (.inl none) r)
theorem pX7_findPlace_ok {β : Type} {g : SG} (hg : GOK g) : CW1 (β := β) 64 (pX7_findPlace nX7_findPlace) 2 70 g := fun as h f b q => by
  obtain ⟨as, rfl, q1⟩ := skC_of q
  obtain ⟨x1, as, rfl, q2⟩ := skI_of q1
  obtain ⟨rfl, q0⟩ := skE_of q2
  obtain ⟨r, z1, z2⟩ := bnd_of q0
  exact ⟨_, _, z2, by decide, mX7_findPlace hg z1, rfl, rfl, fun z => absurd z (by decide)⟩
def csX7_isTriedFirst : List (Nat × List (Nat × ARow)) := [(38, [(0, 1, .iconst 0, 0, 0, 0), (1, 1, .istore_n 2, 0, 0, 0), (2, 1, .iload_n 2, 0, 0, 0), (3, 1, .iload_n 1, 0, 0, 0), (4, 3, .if_icmp .ge 45, 49, 0, 0), (7, 1, .aload_n 0, 0, 0, 0), (8, 3, .getfield 9, 7, 2, 2), (11, 1, .iload_n 2, 0, 0, 0), (12, 1, .iaload, 0, 0, 0), (13, 1, .aload_n 0, 0, 0, 0), (14, 3, .getfield 15, 7, 3, 2), (17, 1, .iload_n 2, 0, 0, 0), (18, 1, .iaload, 0, 0, 0), (19, 3, .if_icmp .eq 24, 43, 0, 0), (22, 1, .aload_n 0, 0, 0, 0), (23, 3, .getfield 9, 7, 2, 2), (26, 1, .iload_n 2, 0, 0, 0), (27, 1, .iaload, 0, 0, 0), (28, 1, .aload_n 0, 0, 0, 0), (29, 3, .getfield 15, 7, 3, 2), (32, 1, .iload_n 2, 0, 0, 0), (33, 1, .iaload, 0, 0, 0), (34, 3, .if_icmp .ge 7, 41, 0, 0), (37, 1, .iconst 1, 0, 0, 0)]),
  (100000, [(38, 3, .goto 4, 42, 0, 0), (41, 1, .iconst 0, 0, 0, 0), (42, 1, .ireturn, 1, 0, 0), (43, 3, .iinc 2 1, 0, 0, 0), (46, 3, .goto (-44), 2, 0, 0), (49, 1, .iconst 0, 0, 0, 0), (50, 1, .ireturn, 1, 0, 0)])]
theorem rwX7_isTriedFirst : rowsB (mB 69) (mO 69) (mX 69) (mIni 69) (mFr 69) (mLo 69) (mT 69) csX7_isTriedFirst = true := by decide +kernel
def bX7_isTriedFirst_2 (h : HH) (c2 : Int → Int → Option Int) (x1 : Int) (x2 : Int) : Option Int :=
  if x2 < (x1 : Int) then
    gd ((0 : Int) ≤ x2 ∧ x2 < (9 : Int)) <|
    gd ((0 : Int) ≤ x2 ∧ x2 < (9 : Int)) <|
    if (h.1 35 x2) = ((h.1 36 x2) : Int) then
    gd (R32 (x2 + 1)) <|
    c2 x1 (x2 + 1)
  else
    gd ((0 : Int) ≤ x2 ∧ x2 < (9 : Int)) <|
    gd ((0 : Int) ≤ x2 ∧ x2 < (9 : Int)) <|
    if (h.1 35 x2) < ((h.1 36 x2) : Int) then
    gd ((0 : Int) ≤ 1 ∧ 1 ≤ (1 : Int)) <|
    some 1
  else
    gd ((0 : Int) ≤ 0 ∧ 0 ≤ (1 : Int)) <|
    some 0
  else
    gd ((0 : Int) ≤ 0 ∧ 0 ≤ (1 : Int)) <|
    some 0
theorem uX7_isTriedFirst_2 {g : SG} (hg : GOK g) {σ0 : SG} {h : HH} {c2 : Int → Int → Option Int} (k2 : ∀ (x1 : Int) (x2 : Int) (b : Int), c2 x1 x2 = some b → WK 69 (.inl (some (aI b))) σ0 (abH 2 70 g h) 2 [(0, aR 34), (1, aI x1), (2, aI x2)] [] (abH 2 70 g h) 0 0) : ∀ {x1 : Int} {x2 : Int} {b : Int}, bX7_isTriedFirst_2 h c2 x1 x2 = some b → WK 69 (.inl (some (aI b))) σ0 (abH 2 70 g h) 2 [(0, aR 34), (1, aI x1), (2, aI x2)] [] (abH 2 70 g h) 0 0 := by
  intro x1 x2 b q
  have e : bX7_isTriedFirst_2 h c2 x1 x2 = segP 2 70 g.2.2.2.2 h krPI clNP csX7_isTriedFirst (cuC 2 (fun l st s => tkC 0 34 l <| tkI 1 l fun x1 => tkI 2 l fun x2 => skE st (c2 x1 x2)) cuN) 1000 2 [(0, aR 34), (1, aI x1), (2, aI x2)] [] := rfl
  rw [e] at q
  clear e
  refine segP_wk (by decide) (by decide) hg rwX7_isTriedFirst CLKP_N krPI_ok ?_ q
  clear q
  refine ct_C ?_ (ct_N)
  · intro l st _ q
    obtain ⟨m0, q1⟩ := tkC_of q
    obtain ⟨x1, m1, q2⟩ := tkI_of q1
    obtain ⟨x2, m2, q3⟩ := tkI_of q2
    obtain ⟨rfl, q4⟩ := skE_of q3
    exact WK_less (k2 _ _ _ q4) (List.forall_mem_cons.mpr ⟨m0, (List.forall_mem_cons.mpr ⟨m1, (List.forall_mem_cons.mpr ⟨m2, (fun _ h => absurd h List.not_mem_nil)⟩)⟩)⟩)
def nX7_isTriedFirst_2 (h : HH) : Nat → Int → Int → Option Int := iter (fun _ _ => none) (fun self => bX7_isTriedFirst_2 h self)
theorem nX7_isTriedFirst_2_s {h : HH} {F : Nat} : nX7_isTriedFirst_2 h (F + 1) = bX7_isTriedFirst_2 h (nX7_isTriedFirst_2 h F) := rfl
theorem wX7_isTriedFirst_2 {g : SG} (hg : GOK g) {σ0 : SG} {h : HH} : ∀ {F : Nat}, ∀ {x1 : Int} {x2 : Int} {b : Int}, nX7_isTriedFirst_2 h F x1 x2 = some b → WK 69 (.inl (some (aI b))) σ0 (abH 2 70 g h) 2 [(0, aR 34), (1, aI x1), (2, aI x2)] [] (abH 2 70 g h) 0 0 := by
  intro F
  have z : ∀ (x1 : Int) (x2 : Int) (b : Int), nX7_isTriedFirst_2 h F x1 x2 = some b → WK 69 (.inl (some (aI b))) σ0 (abH 2 70 g h) 2 [(0, aR 34), (1, aI x1), (2, aI x2)] [] (abH 2 70 g h) 0 0 := iter_ind (P := fun (c : Int → Int → Option Int) => ∀ (x1 : Int) (x2 : Int) (b : Int), c x1 x2 = some b → WK 69 (.inl (some (aI b))) σ0 (abH 2 70 g h) 2 [(0, aR 34), (1, aI x1), (2, aI x2)] [] (abH 2 70 g h) 0 0) (by
    intro x1 x2 b q
    cases q) (fun self ih => by
    intro x1 x2 b q
    exact uX7_isTriedFirst_2 hg ih q) F
  intro x1 x2 b q
  exact z _ _ _ q
def bX7_isTriedFirst (h : HH) (c2 : Int → Int → Option Int) (x1 : Int) : Option Int :=
  c2 x1 0
theorem uX7_isTriedFirst {g : SG} (hg : GOK g) {σ0 : SG} {h : HH} {c2 : Int → Int → Option Int} (k2 : ∀ (x1 : Int) (x2 : Int) (b : Int), c2 x1 x2 = some b → WK 69 (.inl (some (aI b))) σ0 (abH 2 70 g h) 2 [(0, aR 34), (1, aI x1), (2, aI x2)] [] (abH 2 70 g h) 0 0) : ∀ {x1 : Int} {b : Int}, bX7_isTriedFirst h c2 x1 = some b → WK 69 (.inl (some (aI b))) σ0 (abH 2 70 g h) 0 [(0, aR 34), (1, aI x1)] [] (abH 2 70 g h) 0 0 := by
  intro x1 b q
  have e : bX7_isTriedFirst h c2 x1 = segP 2 70 g.2.2.2.2 h krPI clNP csX7_isTriedFirst (cuC 2 (fun l st s => tkC 0 34 l <| tkI 1 l fun x1 => tkI 2 l fun x2 => skE st (c2 x1 x2)) cuN) 1000 0 [(0, aR 34), (1, aI x1)] [] := rfl
  rw [e] at q
  clear e
  refine segP_wk (by decide) (by decide) hg rwX7_isTriedFirst CLKP_N krPI_ok ?_ q
  clear q
  refine ct_C ?_ (ct_N)
  · intro l st _ q
    obtain ⟨m0, q1⟩ := tkC_of q
    obtain ⟨x1, m1, q2⟩ := tkI_of q1
    obtain ⟨x2, m2, q3⟩ := tkI_of q2
    obtain ⟨rfl, q4⟩ := skE_of q3
    exact WK_less (k2 _ _ _ q4) (List.forall_mem_cons.mpr ⟨m0, (List.forall_mem_cons.mpr ⟨m1, (List.forall_mem_cons.mpr ⟨m2, (fun _ h => absurd h List.not_mem_nil)⟩)⟩)⟩)
def nX7_isTriedFirst (h : HH) (x1 : Int) : Option Int := bX7_isTriedFirst h (nX7_isTriedFirst_2 h 100000) x1
theorem wX7_isTriedFirst {g : SG} (hg : GOK g) {σ0 : SG} {h : HH} : ∀ {x1 : Int} {b : Int}, nX7_isTriedFirst h x1 = some b → WK 69 (.inl (some (aI b))) σ0 (abH 2 70 g h) 0 [(0, aR 34), (1, aI x1)] [] (abH 2 70 g h) 0 0 := by
  intro x1 b q
  exact uX7_isTriedFirst hg (fun _ _ _ q => wX7_isTriedFirst_2 hg q) q
theorem mX7_isTriedFirst {g : SG} (hg : GOK g) {h : HH} {x1 : Int} {b : Int} (q : nX7_isTriedFirst h x1 = some b) : MCT 69 [] [aR 34, aI x1] (abH 2 70 g h) (.inl (some (aI b))) (abH 2 70 g h) :=
  mct_of (by decide) (MFok 69 (by decide +kernel)) (fun _ => Nat.le_of_ble_eq_true rfl) (wX7_isTriedFirst hg q)
def pX7_isTriedFirst {β : Type} (z : HH → Int → Option Int) : PP β := fun h as f => skC 34 as fun as => skI as fun x1 as => skE as (bnd (z h x1) fun r => f (.inl (some (aI r))))
theorem pX7_isTriedFirst_ok {β : Type} {g : SG} (hg : GOK g) : CP1 (β := β) 69 (pX7_isTriedFirst nX7_isTriedFirst) 2 70 g := fun h as f b q => by
  obtain ⟨as, rfl, q1⟩ := skC_of q
  obtain ⟨x1, as, rfl, q2⟩ := skI_of q1
  obtain ⟨rfl, q0⟩ := skE_of q2
  obtain ⟨r, z1, z2⟩ := bnd_of q0
  exact ⟨_, z2, by decide, mX7_isTriedFirst hg z1, rfl, rfl, fun z => absurd z (by decide)⟩
def csX7_takeIfLeast : List (Nat × List (Nat × ARow)) := [(44, [(0, 1, .aload_n 0, 0, 0, 0), (1, 3, .getfield 29, 7, 0, 2), (4, 1, .iload_n 1, 0, 0, 0), (5, 1, .aload_n 0, 0, 0, 0), (6, 3, .getfield 9, 7, 2, 2), (9, 1, .iload_n 2, 0, 0, 0), (10, 3, .invokevirtual 60, 27, 4, 2), (13, 1, .istore_n 3, 0, 0, 0), (14, 1, .iload_n 3, 0, 0, 0), (15, 1, .iconst (-1), 0, 0, 0), (16, 3, .if_icmp .eq 11, 27, 0, 0), (19, 1, .iload_n 3, 0, 0, 0), (20, 1, .aload_n 0, 0, 0, 0), (21, 3, .getfield 70, 7, 5, 0), (24, 3, .if_icmp .le 4, 28, 0, 0), (27, 1, .return_, 0, 0, 0), (28, 1, .iload_n 3, 0, 0, 0), (29, 1, .aload_n 0, 0, 0, 0), (30, 3, .getfield 70, 7, 5, 0), (33, 3, .if_icmp .lt 18, 51, 0, 0), (36, 1, .aload_n 0, 0, 0, 0), (37, 3, .getfield 73, 7, 6, 3), (40, 3, .ifCond .eq 35, 75, 0, 0), (43, 1, .aload_n 0, 0, 0, 0)]),
  (100000, [(44, 1, .iload_n 2, 0, 0, 0), (45, 3, .invokevirtual 99, 69, 2, 7), (48, 3, .ifCond .eq 27, 75, 0, 0), (51, 1, .aload_n 0, 0, 0, 0), (52, 1, .iload_n 3, 0, 0, 0), (53, 3, .putfield 70, 7, 5, 0), (56, 1, .aload_n 0, 0, 0, 0), (57, 1, .iconst 1, 0, 0, 0), (58, 3, .putfield 73, 7, 6, 3), (61, 1, .aload_n 0, 0, 0, 0), (62, 3, .getfield 9, 7, 2, 2), (65, 1, .iconst 0, 0, 0, 0), (66, 1, .aload_n 0, 0, 0, 0), (67, 3, .getfield 15, 7, 3, 2), (70, 1, .iconst 0, 0, 0, 0), (71, 1, .iload_n 2, 0, 0, 0), (72, 3, .invokestatic 103, 1003, 5, 0), (75, 1, .return_, 0, 0, 0)])]
theorem rwX7_takeIfLeast : rowsB (mB 68) (mO 68) (mX 68) (mIni 68) (mFr 68) (mLo 68) (mT 68) csX7_takeIfLeast = true := by decide +kernel
def bX7_takeIfLeast_51 (x2 : Int) (x3 : Int) (h : HH) : Option HH :=
  bnd (some (hI h 34 5 x3)) fun h1 =>
    gd ((0 : Int) ≤ 1 ∧ 1 ≤ (1 : Int)) <|
    bnd (some (hI h1 34 6 1)) fun h2 =>
    gd ((0 : Int) ≤ x2 ∧ (0 : Int) ≤ 0 ∧ (0 : Int) ≤ 0 ∧ 0 + x2 ≤ (9 : Int) ∧ 0 + x2 ≤ (9 : Int)) <|
    bnd (some (hC h2 36 (fun j => if 0 ≤ j ∧ j < 0 + x2 then h2.1 35 (0 + (j - 0)) else h2.1 36 j))) fun h3 =>
    some h3
theorem uX7_takeIfLeast_51 {g : SG} (hg : GOK g) {σ0 : SG} : ∀ {x2 : Int} {x3 : Int} {h : HH} {b : HH}, bX7_takeIfLeast_51 x2 x3 h = some b → WK 68 (.inl none) σ0 (abH 2 70 g b) 51 [(0, aR 34), (2, aI x2), (3, aI x3)] [] (abH 2 70 g h) 0 0 := by
  intro x2 x3 h b q
  have e : bX7_takeIfLeast_51 x2 x3 h = segW 2 70 g.2.2.2.2 krWV clN csX7_takeIfLeast cuN 1000 51 [(0, aR 34), (2, aI x2), (3, aI x3)] [] h := rfl
  rw [e] at q
  clear e
  refine segW_wk (by decide) (by decide) hg rwX7_takeIfLeast CLKW_N krWV_ok ?_ q
  clear q
  exact ct_N
def nX7_takeIfLeast_51 (x2 : Int) (x3 : Int) (h : HH) : Option HH := bX7_takeIfLeast_51 x2 x3 h
theorem wX7_takeIfLeast_51 {g : SG} (hg : GOK g) {σ0 : SG} : ∀ {x2 : Int} {x3 : Int} {h : HH} {b : HH}, nX7_takeIfLeast_51 x2 x3 h = some b → WK 68 (.inl none) σ0 (abH 2 70 g b) 51 [(0, aR 34), (2, aI x2), (3, aI x3)] [] (abH 2 70 g h) 0 0 := by
  intro x2 x3 h b q
  exact uX7_takeIfLeast_51 hg q
def bX7_takeIfLeast (f27 : HH → Int → Nat → Int → Option Int) (f69 : HH → Int → Option Int) (c51 : Int → Int → HH → Option HH) (x1 : Int) (x2 : Int) (h : HH) : Option HH :=
  bnd (f27 h x1 35 x2) fun r1 =>
    if r1 = ((-1) : Int) then
    some h
  else
    if ((h.1 34 5) : Int) < r1 then
    some h
  else
    if r1 < ((h.1 34 5) : Int) then
    c51 x2 r1 h
  else
    if (h.1 34 6) = (0 : Int) then
    some h
  else
    bnd (f69 h x2) fun r2 =>
    if r2 = (0 : Int) then
    some h
  else
    c51 x2 r1 h
theorem uX7_takeIfLeast {g : SG} (hg : GOK g) {σ0 : SG} {c51 : Int → Int → HH → Option HH} (k51 : ∀ (x2 : Int) (x3 : Int) (h : HH) (b : HH), c51 x2 x3 h = some b → WK 68 (.inl none) σ0 (abH 2 70 g b) 51 [(0, aR 34), (2, aI x2), (3, aI x3)] [] (abH 2 70 g h) 0 0) : ∀ {x1 : Int} {x2 : Int} {h : HH} {b : HH}, bX7_takeIfLeast nX2_costOf nX7_isTriedFirst c51 x1 x2 h = some b → WK 68 (.inl none) σ0 (abH 2 70 g b) 0 [(0, aR 34), (1, aI x1), (2, aI x2)] [] (abH 2 70 g h) 0 0 := by
  intro x1 x2 h b q
  have e : ∀ (f27 : HH → Int → Nat → Int → Option Int) (f69 : HH → Int → Option Int) , bX7_takeIfLeast f27 f69 c51 x1 x2 h = segW 2 70 g.2.2.2.2 krWV (clC 27 (liPW (pX2_costOf f27)) (clC 69 (liPW (pX7_isTriedFirst f69)) clN)) csX7_takeIfLeast (cuC 51 (fun l st s => tkC 0 34 l <| tkI 2 l fun x2 => tkI 3 l fun x3 => skE st (c51 x2 x3 s)) cuN) 1000 0 [(0, aR 34), (1, aI x1), (2, aI x2)] [] h := fun _ _ => rfl
  rw [e nX2_costOf nX7_isTriedFirst] at q
  clear e
  refine segW_wk (by decide) (by decide) hg rwX7_takeIfLeast (CLKW_C (liPW_ok (pX2_costOf_ok hg)) (CLKW_C (liPW_ok (pX7_isTriedFirst_ok hg)) CLKW_N)) krWV_ok ?_ q
  clear q
  refine ct_C ?_ (ct_N)
  · intro l st h q
    obtain ⟨m0, q1⟩ := tkC_of q
    obtain ⟨x2, m2, q2⟩ := tkI_of q1
    obtain ⟨x3, m3, q3⟩ := tkI_of q2
    obtain ⟨rfl, q4⟩ := skE_of q3
    exact WK_less (k51 _ _ _ _ q4) (List.forall_mem_cons.mpr ⟨m0, (List.forall_mem_cons.mpr ⟨m2, (List.forall_mem_cons.mpr ⟨m3, (fun _ h => absurd h List.not_mem_nil)⟩)⟩)⟩)
def nX7_takeIfLeast (x1 : Int) (x2 : Int) (h : HH) : Option HH := bX7_takeIfLeast nX2_costOf nX7_isTriedFirst nX7_takeIfLeast_51 x1 x2 h
theorem wX7_takeIfLeast {g : SG} (hg : GOK g) {σ0 : SG} : ∀ {x1 : Int} {x2 : Int} {h : HH} {b : HH}, nX7_takeIfLeast x1 x2 h = some b → WK 68 (.inl none) σ0 (abH 2 70 g b) 0 [(0, aR 34), (1, aI x1), (2, aI x2)] [] (abH 2 70 g h) 0 0 := by
  intro x1 x2 h b q
  exact uX7_takeIfLeast hg (fun _ _ _ _ q => wX7_takeIfLeast_51 hg q) q
theorem mX7_takeIfLeast {g : SG} (hg : GOK g) {h : HH} {x1 : Int} {x2 : Int} {b : HH} (q : nX7_takeIfLeast x1 x2 h = some b) : MCT 68 [] [aR 34, aI x1, aI x2] (abH 2 70 g h) (.inl none) (abH 2 70 g b) :=
  mct_of (by decide) (MFok 68 (by decide +kernel)) (fun _ => Nat.le_of_ble_eq_true rfl) (wX7_takeIfLeast hg q)
def pX7_takeIfLeast {β : Type} (z : Int → Int → HH → Option HH) : PW β := fun as h f => skC 34 as fun as => skI as fun x1 as => skI as fun x2 as => skE as (bnd (z x1 x2 h) fun r => f (.inl none) r)
theorem pX7_takeIfLeast_ok {β : Type} {g : SG} (hg : GOK g) : CW1 (β := β) 68 (pX7_takeIfLeast nX7_takeIfLeast) 2 70 g := fun as h f b q => by
  obtain ⟨as, rfl, q1⟩ := skC_of q
  obtain ⟨x1, as, rfl, q2⟩ := skI_of q1
  obtain ⟨x2, as, rfl, q3⟩ := skI_of q2
  obtain ⟨rfl, q0⟩ := skE_of q3
  obtain ⟨r, z1, z2⟩ := bnd_of q0
  exact ⟨_, _, z2, by decide, mX7_takeIfLeast hg z1, rfl, rfl, fun z => absurd z (by decide)⟩
def csX7_tryTurns : List (Nat × List (Nat × ARow)) := [(39, [(0, 1, .iconst 0, 0, 0, 0), (1, 1, .istore_n 3, 0, 0, 0), (2, 1, .iload_n 3, 0, 0, 0), (3, 1, .iload_n 2, 0, 0, 0), (4, 3, .if_icmp .ge 52, 56, 0, 0), (7, 1, .iload_n 3, 0, 0, 0), (8, 1, .iconst 2, 0, 0, 0), (9, 1, .iadd, 0, 0, 0), (10, 2, .istore 4, 0, 0, 0), (12, 2, .iload 4, 0, 0, 0), (14, 1, .iload_n 2, 0, 0, 0), (15, 3, .if_icmp .gt 35, 50, 0, 0), (18, 1, .aload_n 0, 0, 0, 0), (19, 3, .getfield 33, 7, 1, 2), (22, 3, .getfield 53, 6, 1, 2), (25, 1, .iload_n 1, 0, 0, 0), (26, 1, .aaload, 0, 0, 0), (27, 1, .iload_n 2, 0, 0, 0), (28, 1, .iload_n 3, 0, 0, 0), (29, 2, .iload 4, 0, 0, 0), (31, 1, .aload_n 0, 0, 0, 0), (32, 3, .getfield 9, 7, 2, 2), (35, 3, .invokestatic 88, 54, 5, 0), (38, 1, .aload_n 0, 0, 0, 0)]),
  (100000, [(39, 1, .iload_n 1, 0, 0, 0), (40, 1, .iload_n 2, 0, 0, 0), (41, 3, .invokevirtual 92, 68, 3, 7), (44, 3, .iinc 4 1, 0, 0, 0), (47, 3, .goto (-35), 12, 0, 0), (50, 3, .iinc 3 1, 0, 0, 0), (53, 3, .goto (-51), 2, 0, 0), (56, 1, .return_, 0, 0, 0)])]
theorem rwX7_tryTurns : rowsB (mB 66) (mO 66) (mX 66) (mIni 66) (mFr 66) (mLo 66) (mT 66) csX7_tryTurns = true := by decide +kernel
def bX7_tryTurns_12 (f54 : Nat → Int → Int → Int → Nat → HH → Option HH) (f68 : Int → Int → HH → Option HH) (c2 : Int → Int → Int → HH → Option HH) (c12 : Int → Int → Int → Int → HH → Option HH) (x1 : Int) (x2 : Int) (x3 : Int) (x4 : Int) (h : HH) : Option HH :=
  if (x2 : Int) < x4 then
    gd (R32 (x3 + 1)) <|
    c2 x1 x2 (x3 + 1) h
  else
    gd ((0 : Int) ≤ x1 ∧ x1 < (3 : Int)) <|
    bif Nat.beq (rwK 3 28 x1) 0 then none else
    bnd (f54 (rwK 3 28 x1) x2 x3 x4 35 h) fun r1 =>
    bnd (f68 x1 x2 r1) fun r2 =>
    gd (R32 (x4 + 1)) <|
    c12 x1 x2 x3 (x4 + 1) r2
theorem uX7_tryTurns_12 {g : SG} (hg : GOK g) {σ0 : SG} {c2 : Int → Int → Int → HH → Option HH} {c12 : Int → Int → Int → Int → HH → Option HH} (k2 : ∀ (x1 : Int) (x2 : Int) (x3 : Int) (h : HH) (b : HH), c2 x1 x2 x3 h = some b → WK 66 (.inl none) σ0 (abH 2 70 g b) 2 [(0, aR 34), (1, aI x1), (2, aI x2), (3, aI x3)] [] (abH 2 70 g h) 0 0) (k12 : ∀ (x1 : Int) (x2 : Int) (x3 : Int) (x4 : Int) (h : HH) (b : HH), c12 x1 x2 x3 x4 h = some b → WK 66 (.inl none) σ0 (abH 2 70 g b) 12 [(0, aR 34), (1, aI x1), (2, aI x2), (3, aI x3), (4, aI x4)] [] (abH 2 70 g h) 0 0) : ∀ {x1 : Int} {x2 : Int} {x3 : Int} {x4 : Int} {h : HH} {b : HH}, bX7_tryTurns_12 nX6_turn nX7_takeIfLeast c2 c12 x1 x2 x3 x4 h = some b → WK 66 (.inl none) σ0 (abH 2 70 g b) 12 [(0, aR 34), (1, aI x1), (2, aI x2), (3, aI x3), (4, aI x4)] [] (abH 2 70 g h) 0 0 := by
  intro x1 x2 x3 x4 h b q
  have e : ∀ (f54 : Nat → Int → Int → Int → Nat → HH → Option HH) (f68 : Int → Int → HH → Option HH) , bX7_tryTurns_12 f54 f68 c2 c12 x1 x2 x3 x4 h = segW 2 70 g.2.2.2.2 krWV (clC 54 (pX6_turn f54) (clC 68 (pX7_takeIfLeast f68) clN)) csX7_tryTurns (cuC 2 (fun l st s => tkC 0 34 l <| tkI 1 l fun x1 => tkI 2 l fun x2 => tkI 3 l fun x3 => skE st (c2 x1 x2 x3 s)) (cuC 12 (fun l st s => tkC 0 34 l <| tkI 1 l fun x1 => tkI 2 l fun x2 => tkI 3 l fun x3 => tkI 4 l fun x4 => skE st (c12 x1 x2 x3 x4 s)) cuN)) 1000 12 [(0, aR 34), (1, aI x1), (2, aI x2), (3, aI x3), (4, aI x4)] [] h := fun _ _ => rfl
  rw [e nX6_turn nX7_takeIfLeast] at q
  clear e
  refine segW_wk (by decide) (by decide) hg rwX7_tryTurns (CLKW_C (pX6_turn_ok hg) (CLKW_C (pX7_takeIfLeast_ok hg) CLKW_N)) krWV_ok ?_ q
  clear q
  refine ct_C ?_ (ct_C ?_ (ct_N))
  · intro l st h q
    obtain ⟨m0, q1⟩ := tkC_of q
    obtain ⟨x1, m1, q2⟩ := tkI_of q1
    obtain ⟨x2, m2, q3⟩ := tkI_of q2
    obtain ⟨x3, m3, q4⟩ := tkI_of q3
    obtain ⟨rfl, q5⟩ := skE_of q4
    exact WK_less (k2 _ _ _ _ _ q5) (List.forall_mem_cons.mpr ⟨m0, (List.forall_mem_cons.mpr ⟨m1, (List.forall_mem_cons.mpr ⟨m2, (List.forall_mem_cons.mpr ⟨m3, (fun _ h => absurd h List.not_mem_nil)⟩)⟩)⟩)⟩)
  · intro l st h q
    obtain ⟨m0, q1⟩ := tkC_of q
    obtain ⟨x1, m1, q2⟩ := tkI_of q1
    obtain ⟨x2, m2, q3⟩ := tkI_of q2
    obtain ⟨x3, m3, q4⟩ := tkI_of q3
    obtain ⟨x4, m4, q5⟩ := tkI_of q4
    obtain ⟨rfl, q6⟩ := skE_of q5
    exact WK_less (k12 _ _ _ _ _ _ q6) (List.forall_mem_cons.mpr ⟨m0, (List.forall_mem_cons.mpr ⟨m1, (List.forall_mem_cons.mpr ⟨m2, (List.forall_mem_cons.mpr ⟨m3, (List.forall_mem_cons.mpr ⟨m4, (fun _ h => absurd h List.not_mem_nil)⟩)⟩)⟩)⟩)⟩)
def nX7_tryTurns_12 (c2 : Int → Int → Int → HH → Option HH) : Nat → Int → Int → Int → Int → HH → Option HH := iter (fun _ _ _ _ _ => none) (fun self => bX7_tryTurns_12 nX6_turn nX7_takeIfLeast c2 self)
theorem nX7_tryTurns_12_s {c2 : Int → Int → Int → HH → Option HH} {F : Nat} : nX7_tryTurns_12 c2 (F + 1) = bX7_tryTurns_12 nX6_turn nX7_takeIfLeast c2 (nX7_tryTurns_12 c2 F) := rfl
theorem wX7_tryTurns_12 {g : SG} (hg : GOK g) {σ0 : SG} {c2 : Int → Int → Int → HH → Option HH} (k2 : ∀ (x1 : Int) (x2 : Int) (x3 : Int) (h : HH) (b : HH), c2 x1 x2 x3 h = some b → WK 66 (.inl none) σ0 (abH 2 70 g b) 2 [(0, aR 34), (1, aI x1), (2, aI x2), (3, aI x3)] [] (abH 2 70 g h) 0 0) : ∀ {F : Nat}, ∀ {x1 : Int} {x2 : Int} {x3 : Int} {x4 : Int} {h : HH} {b : HH}, nX7_tryTurns_12 c2 F x1 x2 x3 x4 h = some b → WK 66 (.inl none) σ0 (abH 2 70 g b) 12 [(0, aR 34), (1, aI x1), (2, aI x2), (3, aI x3), (4, aI x4)] [] (abH 2 70 g h) 0 0 := by
  intro F
  have z : ∀ (x1 : Int) (x2 : Int) (x3 : Int) (x4 : Int) (h : HH) (b : HH), nX7_tryTurns_12 c2 F x1 x2 x3 x4 h = some b → WK 66 (.inl none) σ0 (abH 2 70 g b) 12 [(0, aR 34), (1, aI x1), (2, aI x2), (3, aI x3), (4, aI x4)] [] (abH 2 70 g h) 0 0 := iter_ind (P := fun (c : Int → Int → Int → Int → HH → Option HH) => ∀ (x1 : Int) (x2 : Int) (x3 : Int) (x4 : Int) (h : HH) (b : HH), c x1 x2 x3 x4 h = some b → WK 66 (.inl none) σ0 (abH 2 70 g b) 12 [(0, aR 34), (1, aI x1), (2, aI x2), (3, aI x3), (4, aI x4)] [] (abH 2 70 g h) 0 0) (by
    intro x1 x2 x3 x4 h b q
    cases q) (fun self ih => by
    intro x1 x2 x3 x4 h b q
    exact uX7_tryTurns_12 hg k2 ih q) F
  intro x1 x2 x3 x4 h b q
  exact z _ _ _ _ _ _ q
def bX7_tryTurns_2 (c12 : Int → Int → Int → Int → HH → Option HH) (x1 : Int) (x2 : Int) (x3 : Int) (h : HH) : Option HH :=
  if x3 < (x2 : Int) then
    gd (R32 (x3 + 2)) <|
    c12 x1 x2 x3 (x3 + 2) h
  else
    some h
theorem uX7_tryTurns_2 {g : SG} (hg : GOK g) {σ0 : SG} {c12 : Int → Int → Int → Int → HH → Option HH} (k12 : ∀ (x1 : Int) (x2 : Int) (x3 : Int) (x4 : Int) (h : HH) (b : HH), c12 x1 x2 x3 x4 h = some b → WK 66 (.inl none) σ0 (abH 2 70 g b) 12 [(0, aR 34), (1, aI x1), (2, aI x2), (3, aI x3), (4, aI x4)] [] (abH 2 70 g h) 0 0) : ∀ {x1 : Int} {x2 : Int} {x3 : Int} {h : HH} {b : HH}, bX7_tryTurns_2 c12 x1 x2 x3 h = some b → WK 66 (.inl none) σ0 (abH 2 70 g b) 2 [(0, aR 34), (1, aI x1), (2, aI x2), (3, aI x3)] [] (abH 2 70 g h) 0 0 := by
  intro x1 x2 x3 h b q
  have e : bX7_tryTurns_2 c12 x1 x2 x3 h = segW 2 70 g.2.2.2.2 krWV clN csX7_tryTurns (cuC 12 (fun l st s => tkC 0 34 l <| tkI 1 l fun x1 => tkI 2 l fun x2 => tkI 3 l fun x3 => tkI 4 l fun x4 => skE st (c12 x1 x2 x3 x4 s)) cuN) 1000 2 [(0, aR 34), (1, aI x1), (2, aI x2), (3, aI x3)] [] h := rfl
  rw [e] at q
  clear e
  refine segW_wk (by decide) (by decide) hg rwX7_tryTurns CLKW_N krWV_ok ?_ q
  clear q
  refine ct_C ?_ (ct_N)
  · intro l st h q
    obtain ⟨m0, q1⟩ := tkC_of q
    obtain ⟨x1, m1, q2⟩ := tkI_of q1
    obtain ⟨x2, m2, q3⟩ := tkI_of q2
    obtain ⟨x3, m3, q4⟩ := tkI_of q3
    obtain ⟨x4, m4, q5⟩ := tkI_of q4
    obtain ⟨rfl, q6⟩ := skE_of q5
    exact WK_less (k12 _ _ _ _ _ _ q6) (List.forall_mem_cons.mpr ⟨m0, (List.forall_mem_cons.mpr ⟨m1, (List.forall_mem_cons.mpr ⟨m2, (List.forall_mem_cons.mpr ⟨m3, (List.forall_mem_cons.mpr ⟨m4, (fun _ h => absurd h List.not_mem_nil)⟩)⟩)⟩)⟩)⟩)
def nX7_tryTurns_2 : Nat → Int → Int → Int → HH → Option HH := iter (fun _ _ _ _ => none) (fun self => bX7_tryTurns_2 (nX7_tryTurns_12 self 100000))
theorem nX7_tryTurns_2_s {F : Nat} : nX7_tryTurns_2 (F + 1) = bX7_tryTurns_2 (nX7_tryTurns_12 (nX7_tryTurns_2 F) 100000) := rfl
theorem wX7_tryTurns_2 {g : SG} (hg : GOK g) {σ0 : SG} : ∀ {F : Nat}, ∀ {x1 : Int} {x2 : Int} {x3 : Int} {h : HH} {b : HH}, nX7_tryTurns_2 F x1 x2 x3 h = some b → WK 66 (.inl none) σ0 (abH 2 70 g b) 2 [(0, aR 34), (1, aI x1), (2, aI x2), (3, aI x3)] [] (abH 2 70 g h) 0 0 := by
  intro F
  have z : ∀ (x1 : Int) (x2 : Int) (x3 : Int) (h : HH) (b : HH), nX7_tryTurns_2 F x1 x2 x3 h = some b → WK 66 (.inl none) σ0 (abH 2 70 g b) 2 [(0, aR 34), (1, aI x1), (2, aI x2), (3, aI x3)] [] (abH 2 70 g h) 0 0 := iter_ind (P := fun (c : Int → Int → Int → HH → Option HH) => ∀ (x1 : Int) (x2 : Int) (x3 : Int) (h : HH) (b : HH), c x1 x2 x3 h = some b → WK 66 (.inl none) σ0 (abH 2 70 g b) 2 [(0, aR 34), (1, aI x1), (2, aI x2), (3, aI x3)] [] (abH 2 70 g h) 0 0) (by
    intro x1 x2 x3 h b q
    cases q) (fun self ih => by
    intro x1 x2 x3 h b q
    exact uX7_tryTurns_2 hg (fun _ _ _ _ _ _ q => wX7_tryTurns_12 hg ih q) q) F
  intro x1 x2 x3 h b q
  exact z _ _ _ _ _ q
def bX7_tryTurns (c2 : Int → Int → Int → HH → Option HH) (x1 : Int) (x2 : Int) (h : HH) : Option HH :=
  c2 x1 x2 0 h
theorem uX7_tryTurns {g : SG} (hg : GOK g) {σ0 : SG} {c2 : Int → Int → Int → HH → Option HH} (k2 : ∀ (x1 : Int) (x2 : Int) (x3 : Int) (h : HH) (b : HH), c2 x1 x2 x3 h = some b → WK 66 (.inl none) σ0 (abH 2 70 g b) 2 [(0, aR 34), (1, aI x1), (2, aI x2), (3, aI x3)] [] (abH 2 70 g h) 0 0) : ∀ {x1 : Int} {x2 : Int} {h : HH} {b : HH}, bX7_tryTurns c2 x1 x2 h = some b → WK 66 (.inl none) σ0 (abH 2 70 g b) 0 [(0, aR 34), (1, aI x1), (2, aI x2)] [] (abH 2 70 g h) 0 0 := by
  intro x1 x2 h b q
  have e : bX7_tryTurns c2 x1 x2 h = segW 2 70 g.2.2.2.2 krWV clN csX7_tryTurns (cuC 2 (fun l st s => tkC 0 34 l <| tkI 1 l fun x1 => tkI 2 l fun x2 => tkI 3 l fun x3 => skE st (c2 x1 x2 x3 s)) cuN) 1000 0 [(0, aR 34), (1, aI x1), (2, aI x2)] [] h := rfl
  rw [e] at q
  clear e
  refine segW_wk (by decide) (by decide) hg rwX7_tryTurns CLKW_N krWV_ok ?_ q
  clear q
  refine ct_C ?_ (ct_N)
  · intro l st h q
    obtain ⟨m0, q1⟩ := tkC_of q
    obtain ⟨x1, m1, q2⟩ := tkI_of q1
    obtain ⟨x2, m2, q3⟩ := tkI_of q2
    obtain ⟨x3, m3, q4⟩ := tkI_of q3
    obtain ⟨rfl, q5⟩ := skE_of q4
    exact WK_less (k2 _ _ _ _ _ q5) (List.forall_mem_cons.mpr ⟨m0, (List.forall_mem_cons.mpr ⟨m1, (List.forall_mem_cons.mpr ⟨m2, (List.forall_mem_cons.mpr ⟨m3, (fun _ h => absurd h List.not_mem_nil)⟩)⟩)⟩)⟩)
def nX7_tryTurns (x1 : Int) (x2 : Int) (h : HH) : Option HH := bX7_tryTurns (nX7_tryTurns_2 100000) x1 x2 h
theorem wX7_tryTurns {g : SG} (hg : GOK g) {σ0 : SG} : ∀ {x1 : Int} {x2 : Int} {h : HH} {b : HH}, nX7_tryTurns x1 x2 h = some b → WK 66 (.inl none) σ0 (abH 2 70 g b) 0 [(0, aR 34), (1, aI x1), (2, aI x2)] [] (abH 2 70 g h) 0 0 := by
  intro x1 x2 h b q
  exact uX7_tryTurns hg (fun _ _ _ _ _ q => wX7_tryTurns_2 hg q) q
theorem mX7_tryTurns {g : SG} (hg : GOK g) {h : HH} {x1 : Int} {x2 : Int} {b : HH} (q : nX7_tryTurns x1 x2 h = some b) : MCT 66 [] [aR 34, aI x1, aI x2] (abH 2 70 g h) (.inl none) (abH 2 70 g b) :=
  mct_of (by decide) (MFok 66 (by decide +kernel)) (fun _ => Nat.le_of_ble_eq_true rfl) (wX7_tryTurns hg q)
def pX7_tryTurns {β : Type} (z : Int → Int → HH → Option HH) : PW β := fun as h f => skC 34 as fun as => skI as fun x1 as => skI as fun x2 as => skE as (bnd (z x1 x2 h) fun r => f (.inl none) r)
theorem pX7_tryTurns_ok {β : Type} {g : SG} (hg : GOK g) : CW1 (β := β) 66 (pX7_tryTurns nX7_tryTurns) 2 70 g := fun as h f b q => by
  obtain ⟨as, rfl, q1⟩ := skC_of q
  obtain ⟨x1, as, rfl, q2⟩ := skI_of q1
  obtain ⟨x2, as, rfl, q3⟩ := skI_of q2
  obtain ⟨rfl, q0⟩ := skE_of q3
  obtain ⟨r, z1, z2⟩ := bnd_of q0
  exact ⟨_, _, z2, by decide, mX7_tryTurns hg z1, rfl, rfl, fun z => absurd z (by decide)⟩
def csX7_tryMoves : List (Nat × List (Nat × ARow)) := [(42, [(0, 1, .iconst 0, 0, 0, 0), (1, 1, .istore_n 3, 0, 0, 0), (2, 1, .iload_n 3, 0, 0, 0), (3, 1, .iload_n 2, 0, 0, 0), (4, 3, .if_icmp .ge 83, 87, 0, 0), (7, 1, .aload_n 0, 0, 0, 0), (8, 3, .getfield 33, 7, 1, 2), (11, 3, .getfield 53, 6, 1, 2), (14, 1, .iload_n 1, 0, 0, 0), (15, 1, .aaload, 0, 0, 0), (16, 1, .iload_n 2, 0, 0, 0), (17, 1, .iload_n 3, 0, 0, 0), (18, 1, .aload_n 0, 0, 0, 0), (19, 3, .getfield 18, 7, 4, 2), (22, 3, .invokestatic 95, 53, 4, 0), (25, 2, .istore 4, 0, 0, 0), (27, 1, .iconst 0, 0, 0, 0), (28, 2, .istore 5, 0, 0, 0), (30, 2, .iload 5, 0, 0, 0), (32, 1, .iload_n 2, 0, 0, 0), (33, 3, .if_icmp .ge 48, 81, 0, 0), (36, 2, .iload 5, 0, 0, 0), (38, 1, .iload_n 3, 0, 0, 0), (39, 3, .if_icmp .eq 36, 75, 0, 0)]),
  (100000, [(42, 1, .aload_n 0, 0, 0, 0), (43, 3, .getfield 18, 7, 4, 2), (46, 2, .iload 4, 0, 0, 0), (48, 2, .iload 5, 0, 0, 0), (50, 1, .aload_n 0, 0, 0, 0), (51, 3, .getfield 33, 7, 1, 2), (54, 3, .getfield 53, 6, 1, 2), (57, 1, .iload_n 1, 0, 0, 0), (58, 1, .aaload, 0, 0, 0), (59, 1, .iload_n 3, 0, 0, 0), (60, 1, .iaload, 0, 0, 0), (61, 1, .aload_n 0, 0, 0, 0), (62, 3, .getfield 9, 7, 2, 2), (65, 3, .invokestatic 56, 52, 5, 0), (68, 1, .pop, 0, 0, 0), (69, 1, .aload_n 0, 0, 0, 0), (70, 1, .iload_n 1, 0, 0, 0), (71, 1, .iload_n 2, 0, 0, 0), (72, 3, .invokevirtual 92, 68, 3, 7), (75, 3, .iinc 5 1, 0, 0, 0), (78, 3, .goto (-48), 30, 0, 0), (81, 3, .iinc 3 1, 0, 0, 0), (84, 3, .goto (-82), 2, 0, 0), (87, 1, .return_, 0, 0, 0)])]
theorem rwX7_tryMoves : rowsB (mB 67) (mO 67) (mX 67) (mIni 67) (mFr 67) (mLo 67) (mT 67) csX7_tryMoves = true := by decide +kernel
def bX7_tryMoves_75 (c30 : Int → Int → Int → Int → Int → HH → Option HH) (x1 : Int) (x2 : Int) (x3 : Int) (x4 : Int) (x5 : Int) (h : HH) : Option HH :=
  gd (R32 (x5 + 1)) <|
    c30 x1 x2 x3 x4 (x5 + 1) h
theorem uX7_tryMoves_75 {g : SG} (hg : GOK g) {σ0 : SG} {c30 : Int → Int → Int → Int → Int → HH → Option HH} (k30 : ∀ (x1 : Int) (x2 : Int) (x3 : Int) (x4 : Int) (x5 : Int) (h : HH) (b : HH), c30 x1 x2 x3 x4 x5 h = some b → WK 67 (.inl none) σ0 (abH 2 70 g b) 30 [(0, aR 34), (1, aI x1), (2, aI x2), (3, aI x3), (4, aI x4), (5, aI x5)] [] (abH 2 70 g h) 0 0) : ∀ {x1 : Int} {x2 : Int} {x3 : Int} {x4 : Int} {x5 : Int} {h : HH} {b : HH}, bX7_tryMoves_75 c30 x1 x2 x3 x4 x5 h = some b → WK 67 (.inl none) σ0 (abH 2 70 g b) 75 [(0, aR 34), (1, aI x1), (2, aI x2), (3, aI x3), (4, aI x4), (5, aI x5)] [] (abH 2 70 g h) 0 0 := by
  intro x1 x2 x3 x4 x5 h b q
  have e : bX7_tryMoves_75 c30 x1 x2 x3 x4 x5 h = segW 2 70 g.2.2.2.2 krWV clN csX7_tryMoves (cuC 30 (fun l st s => tkC 0 34 l <| tkI 1 l fun x1 => tkI 2 l fun x2 => tkI 3 l fun x3 => tkI 4 l fun x4 => tkI 5 l fun x5 => skE st (c30 x1 x2 x3 x4 x5 s)) cuN) 1000 75 [(0, aR 34), (1, aI x1), (2, aI x2), (3, aI x3), (4, aI x4), (5, aI x5)] [] h := rfl
  rw [e] at q
  clear e
  refine segW_wk (by decide) (by decide) hg rwX7_tryMoves CLKW_N krWV_ok ?_ q
  clear q
  refine ct_C ?_ (ct_N)
  · intro l st h q
    obtain ⟨m0, q1⟩ := tkC_of q
    obtain ⟨x1, m1, q2⟩ := tkI_of q1
    obtain ⟨x2, m2, q3⟩ := tkI_of q2
    obtain ⟨x3, m3, q4⟩ := tkI_of q3
    obtain ⟨x4, m4, q5⟩ := tkI_of q4
    obtain ⟨x5, m5, q6⟩ := tkI_of q5
    obtain ⟨rfl, q7⟩ := skE_of q6
    exact WK_less (k30 _ _ _ _ _ _ _ q7) (List.forall_mem_cons.mpr ⟨m0, (List.forall_mem_cons.mpr ⟨m1, (List.forall_mem_cons.mpr ⟨m2, (List.forall_mem_cons.mpr ⟨m3, (List.forall_mem_cons.mpr ⟨m4, (List.forall_mem_cons.mpr ⟨m5, (fun _ h => absurd h List.not_mem_nil)⟩)⟩)⟩)⟩)⟩)⟩)
def nX7_tryMoves_75 (c2 : Int → Int → Int → HH → Option HH) (c30 : Int → Int → Int → Int → Int → HH → Option HH) (x1 : Int) (x2 : Int) (x3 : Int) (x4 : Int) (x5 : Int) (h : HH) : Option HH := bX7_tryMoves_75 c30 x1 x2 x3 x4 x5 h
theorem wX7_tryMoves_75 {g : SG} (hg : GOK g) {σ0 : SG} {c2 : Int → Int → Int → HH → Option HH} {c30 : Int → Int → Int → Int → Int → HH → Option HH} (k2 : ∀ (x1 : Int) (x2 : Int) (x3 : Int) (h : HH) (b : HH), c2 x1 x2 x3 h = some b → WK 67 (.inl none) σ0 (abH 2 70 g b) 2 [(0, aR 34), (1, aI x1), (2, aI x2), (3, aI x3)] [] (abH 2 70 g h) 0 0) (k30 : ∀ (x1 : Int) (x2 : Int) (x3 : Int) (x4 : Int) (x5 : Int) (h : HH) (b : HH), c30 x1 x2 x3 x4 x5 h = some b → WK 67 (.inl none) σ0 (abH 2 70 g b) 30 [(0, aR 34), (1, aI x1), (2, aI x2), (3, aI x3), (4, aI x4), (5, aI x5)] [] (abH 2 70 g h) 0 0) : ∀ {x1 : Int} {x2 : Int} {x3 : Int} {x4 : Int} {x5 : Int} {h : HH} {b : HH}, nX7_tryMoves_75 c2 c30 x1 x2 x3 x4 x5 h = some b → WK 67 (.inl none) σ0 (abH 2 70 g b) 75 [(0, aR 34), (1, aI x1), (2, aI x2), (3, aI x3), (4, aI x4), (5, aI x5)] [] (abH 2 70 g h) 0 0 := by
  intro x1 x2 x3 x4 x5 h b q
  exact uX7_tryMoves_75 hg k30 q
def bX7_tryMoves_30 (f52 : Nat → Int → Int → Int → Nat → HH → Option (Int × HH)) (f68 : Int → Int → HH → Option HH) (c2 : Int → Int → Int → HH → Option HH) (c75 : Int → Int → Int → Int → Int → HH → Option HH) (x1 : Int) (x2 : Int) (x3 : Int) (x4 : Int) (x5 : Int) (h : HH) : Option HH :=
  if x5 < (x2 : Int) then
    if x5 = (x3 : Int) then
    c75 x1 x2 x3 x4 x5 h
  else
    gd ((0 : Int) ≤ x1 ∧ x1 < (3 : Int)) <|
    bif Nat.beq (rwK 3 28 x1) 0 then none else
    bif okS 2 70 (rwK 3 28 x1) 0 || okS 2 70 (rwK 3 28 x1) 9 then
    gd ((0 : Int) ≤ x3 ∧ x3 < ((lnK (rwK 3 28 x1)) : Int)) <|
    bnd (f52 37 x4 x5 (h.1 (rwK 3 28 x1) x3) 35 h) fun r1 =>
    bnd (f68 x1 x2 r1.2) fun r2 =>
    c75 x1 x2 x3 x4 x5 r2
  else none
  else
    gd (R32 (x3 + 1)) <|
    c2 x1 x2 (x3 + 1) h
theorem uX7_tryMoves_30 {g : SG} (hg : GOK g) {σ0 : SG} {c2 : Int → Int → Int → HH → Option HH} {c75 : Int → Int → Int → Int → Int → HH → Option HH} (k2 : ∀ (x1 : Int) (x2 : Int) (x3 : Int) (h : HH) (b : HH), c2 x1 x2 x3 h = some b → WK 67 (.inl none) σ0 (abH 2 70 g b) 2 [(0, aR 34), (1, aI x1), (2, aI x2), (3, aI x3)] [] (abH 2 70 g h) 0 0) (k75 : ∀ (x1 : Int) (x2 : Int) (x3 : Int) (x4 : Int) (x5 : Int) (h : HH) (b : HH), c75 x1 x2 x3 x4 x5 h = some b → WK 67 (.inl none) σ0 (abH 2 70 g b) 75 [(0, aR 34), (1, aI x1), (2, aI x2), (3, aI x3), (4, aI x4), (5, aI x5)] [] (abH 2 70 g h) 0 0) : ∀ {x1 : Int} {x2 : Int} {x3 : Int} {x4 : Int} {x5 : Int} {h : HH} {b : HH}, bX7_tryMoves_30 nX6_insert nX7_takeIfLeast c2 c75 x1 x2 x3 x4 x5 h = some b → WK 67 (.inl none) σ0 (abH 2 70 g b) 30 [(0, aR 34), (1, aI x1), (2, aI x2), (3, aI x3), (4, aI x4), (5, aI x5)] [] (abH 2 70 g h) 0 0 := by
  intro x1 x2 x3 x4 x5 h b q
  have e : ∀ (f52 : Nat → Int → Int → Int → Nat → HH → Option (Int × HH)) (f68 : Int → Int → HH → Option HH) , bX7_tryMoves_30 f52 f68 c2 c75 x1 x2 x3 x4 x5 h = segW 2 70 g.2.2.2.2 krWV (clC 52 (pX6_insert f52) (clC 68 (pX7_takeIfLeast f68) clN)) csX7_tryMoves (cuC 2 (fun l st s => tkC 0 34 l <| tkI 1 l fun x1 => tkI 2 l fun x2 => tkI 3 l fun x3 => skE st (c2 x1 x2 x3 s)) (cuC 75 (fun l st s => tkC 0 34 l <| tkI 1 l fun x1 => tkI 2 l fun x2 => tkI 3 l fun x3 => tkI 4 l fun x4 => tkI 5 l fun x5 => skE st (c75 x1 x2 x3 x4 x5 s)) cuN)) 1000 30 [(0, aR 34), (1, aI x1), (2, aI x2), (3, aI x3), (4, aI x4), (5, aI x5)] [] h := fun _ _ => rfl
  rw [e nX6_insert nX7_takeIfLeast] at q
  clear e
  refine segW_wk (by decide) (by decide) hg rwX7_tryMoves (CLKW_C (pX6_insert_ok hg) (CLKW_C (pX7_takeIfLeast_ok hg) CLKW_N)) krWV_ok ?_ q
  clear q
  refine ct_C ?_ (ct_C ?_ (ct_N))
  · intro l st h q
    obtain ⟨m0, q1⟩ := tkC_of q
    obtain ⟨x1, m1, q2⟩ := tkI_of q1
    obtain ⟨x2, m2, q3⟩ := tkI_of q2
    obtain ⟨x3, m3, q4⟩ := tkI_of q3
    obtain ⟨rfl, q5⟩ := skE_of q4
    exact WK_less (k2 _ _ _ _ _ q5) (List.forall_mem_cons.mpr ⟨m0, (List.forall_mem_cons.mpr ⟨m1, (List.forall_mem_cons.mpr ⟨m2, (List.forall_mem_cons.mpr ⟨m3, (fun _ h => absurd h List.not_mem_nil)⟩)⟩)⟩)⟩)
  · intro l st h q
    obtain ⟨m0, q1⟩ := tkC_of q
    obtain ⟨x1, m1, q2⟩ := tkI_of q1
    obtain ⟨x2, m2, q3⟩ := tkI_of q2
    obtain ⟨x3, m3, q4⟩ := tkI_of q3
    obtain ⟨x4, m4, q5⟩ := tkI_of q4
    obtain ⟨x5, m5, q6⟩ := tkI_of q5
    obtain ⟨rfl, q7⟩ := skE_of q6
    exact WK_less (k75 _ _ _ _ _ _ _ q7) (List.forall_mem_cons.mpr ⟨m0, (List.forall_mem_cons.mpr ⟨m1, (List.forall_mem_cons.mpr ⟨m2, (List.forall_mem_cons.mpr ⟨m3, (List.forall_mem_cons.mpr ⟨m4, (List.forall_mem_cons.mpr ⟨m5, (fun _ h => absurd h List.not_mem_nil)⟩)⟩)⟩)⟩)⟩)⟩)
def nX7_tryMoves_30 (c2 : Int → Int → Int → HH → Option HH) : Nat → Int → Int → Int → Int → Int → HH → Option HH := iter (fun _ _ _ _ _ _ => none) (fun self => bX7_tryMoves_30 nX6_insert nX7_takeIfLeast c2 (nX7_tryMoves_75 c2 self))
theorem nX7_tryMoves_30_s {c2 : Int → Int → Int → HH → Option HH} {F : Nat} : nX7_tryMoves_30 c2 (F + 1) = bX7_tryMoves_30 nX6_insert nX7_takeIfLeast c2 (nX7_tryMoves_75 c2 (nX7_tryMoves_30 c2 F)) := rfl
theorem wX7_tryMoves_30 {g : SG} (hg : GOK g) {σ0 : SG} {c2 : Int → Int → Int → HH → Option HH} (k2 : ∀ (x1 : Int) (x2 : Int) (x3 : Int) (h : HH) (b : HH), c2 x1 x2 x3 h = some b → WK 67 (.inl none) σ0 (abH 2 70 g b) 2 [(0, aR 34), (1, aI x1), (2, aI x2), (3, aI x3)] [] (abH 2 70 g h) 0 0) : ∀ {F : Nat}, ∀ {x1 : Int} {x2 : Int} {x3 : Int} {x4 : Int} {x5 : Int} {h : HH} {b : HH}, nX7_tryMoves_30 c2 F x1 x2 x3 x4 x5 h = some b → WK 67 (.inl none) σ0 (abH 2 70 g b) 30 [(0, aR 34), (1, aI x1), (2, aI x2), (3, aI x3), (4, aI x4), (5, aI x5)] [] (abH 2 70 g h) 0 0 := by
  intro F
  have z : ∀ (x1 : Int) (x2 : Int) (x3 : Int) (x4 : Int) (x5 : Int) (h : HH) (b : HH), nX7_tryMoves_30 c2 F x1 x2 x3 x4 x5 h = some b → WK 67 (.inl none) σ0 (abH 2 70 g b) 30 [(0, aR 34), (1, aI x1), (2, aI x2), (3, aI x3), (4, aI x4), (5, aI x5)] [] (abH 2 70 g h) 0 0 := iter_ind (P := fun (c : Int → Int → Int → Int → Int → HH → Option HH) => ∀ (x1 : Int) (x2 : Int) (x3 : Int) (x4 : Int) (x5 : Int) (h : HH) (b : HH), c x1 x2 x3 x4 x5 h = some b → WK 67 (.inl none) σ0 (abH 2 70 g b) 30 [(0, aR 34), (1, aI x1), (2, aI x2), (3, aI x3), (4, aI x4), (5, aI x5)] [] (abH 2 70 g h) 0 0) (by
    intro x1 x2 x3 x4 x5 h b q
    cases q) (fun self ih => by
    intro x1 x2 x3 x4 x5 h b q
    exact uX7_tryMoves_30 hg k2 (fun _ _ _ _ _ _ _ q => wX7_tryMoves_75 hg k2 ih q) q) F
  intro x1 x2 x3 x4 x5 h b q
  exact z _ _ _ _ _ _ _ q
def bX7_tryMoves_2 (f53 : Nat → Int → Int → Nat → HH → Option (Int × HH)) (c30 : Int → Int → Int → Int → Int → HH → Option HH) (x1 : Int) (x2 : Int) (x3 : Int) (h : HH) : Option HH :=
  if x3 < (x2 : Int) then
    gd ((0 : Int) ≤ x1 ∧ x1 < (3 : Int)) <|
    bif Nat.beq (rwK 3 28 x1) 0 then none else
    bnd (f53 (rwK 3 28 x1) x2 x3 37 h) fun r1 =>
    c30 x1 x2 x3 r1.1 0 r1.2
  else
    some h
theorem uX7_tryMoves_2 {g : SG} (hg : GOK g) {σ0 : SG} {c30 : Int → Int → Int → Int → Int → HH → Option HH} (k30 : ∀ (x1 : Int) (x2 : Int) (x3 : Int) (x4 : Int) (x5 : Int) (h : HH) (b : HH), c30 x1 x2 x3 x4 x5 h = some b → WK 67 (.inl none) σ0 (abH 2 70 g b) 30 [(0, aR 34), (1, aI x1), (2, aI x2), (3, aI x3), (4, aI x4), (5, aI x5)] [] (abH 2 70 g h) 0 0) : ∀ {x1 : Int} {x2 : Int} {x3 : Int} {h : HH} {b : HH}, bX7_tryMoves_2 nX6_remove c30 x1 x2 x3 h = some b → WK 67 (.inl none) σ0 (abH 2 70 g b) 2 [(0, aR 34), (1, aI x1), (2, aI x2), (3, aI x3)] [] (abH 2 70 g h) 0 0 := by
  intro x1 x2 x3 h b q
  have e : ∀ (f53 : Nat → Int → Int → Nat → HH → Option (Int × HH)) , bX7_tryMoves_2 f53 c30 x1 x2 x3 h = segW 2 70 g.2.2.2.2 krWV (clC 53 (pX6_remove f53) clN) csX7_tryMoves (cuC 30 (fun l st s => tkC 0 34 l <| tkI 1 l fun x1 => tkI 2 l fun x2 => tkI 3 l fun x3 => tkI 4 l fun x4 => tkI 5 l fun x5 => skE st (c30 x1 x2 x3 x4 x5 s)) cuN) 1000 2 [(0, aR 34), (1, aI x1), (2, aI x2), (3, aI x3)] [] h := fun _ => rfl
  rw [e nX6_remove] at q
  clear e
  refine segW_wk (by decide) (by decide) hg rwX7_tryMoves (CLKW_C (pX6_remove_ok hg) CLKW_N) krWV_ok ?_ q
  clear q
  refine ct_C ?_ (ct_N)
  · intro l st h q
    obtain ⟨m0, q1⟩ := tkC_of q
    obtain ⟨x1, m1, q2⟩ := tkI_of q1
    obtain ⟨x2, m2, q3⟩ := tkI_of q2
    obtain ⟨x3, m3, q4⟩ := tkI_of q3
    obtain ⟨x4, m4, q5⟩ := tkI_of q4
    obtain ⟨x5, m5, q6⟩ := tkI_of q5
    obtain ⟨rfl, q7⟩ := skE_of q6
    exact WK_less (k30 _ _ _ _ _ _ _ q7) (List.forall_mem_cons.mpr ⟨m0, (List.forall_mem_cons.mpr ⟨m1, (List.forall_mem_cons.mpr ⟨m2, (List.forall_mem_cons.mpr ⟨m3, (List.forall_mem_cons.mpr ⟨m4, (List.forall_mem_cons.mpr ⟨m5, (fun _ h => absurd h List.not_mem_nil)⟩)⟩)⟩)⟩)⟩)⟩)
def nX7_tryMoves_2 : Nat → Int → Int → Int → HH → Option HH := iter (fun _ _ _ _ => none) (fun self => bX7_tryMoves_2 nX6_remove (nX7_tryMoves_30 self 100000))
theorem nX7_tryMoves_2_s {F : Nat} : nX7_tryMoves_2 (F + 1) = bX7_tryMoves_2 nX6_remove (nX7_tryMoves_30 (nX7_tryMoves_2 F) 100000) := rfl
theorem wX7_tryMoves_2 {g : SG} (hg : GOK g) {σ0 : SG} : ∀ {F : Nat}, ∀ {x1 : Int} {x2 : Int} {x3 : Int} {h : HH} {b : HH}, nX7_tryMoves_2 F x1 x2 x3 h = some b → WK 67 (.inl none) σ0 (abH 2 70 g b) 2 [(0, aR 34), (1, aI x1), (2, aI x2), (3, aI x3)] [] (abH 2 70 g h) 0 0 := by
  intro F
  have z : ∀ (x1 : Int) (x2 : Int) (x3 : Int) (h : HH) (b : HH), nX7_tryMoves_2 F x1 x2 x3 h = some b → WK 67 (.inl none) σ0 (abH 2 70 g b) 2 [(0, aR 34), (1, aI x1), (2, aI x2), (3, aI x3)] [] (abH 2 70 g h) 0 0 := iter_ind (P := fun (c : Int → Int → Int → HH → Option HH) => ∀ (x1 : Int) (x2 : Int) (x3 : Int) (h : HH) (b : HH), c x1 x2 x3 h = some b → WK 67 (.inl none) σ0 (abH 2 70 g b) 2 [(0, aR 34), (1, aI x1), (2, aI x2), (3, aI x3)] [] (abH 2 70 g h) 0 0) (by
    intro x1 x2 x3 h b q
    cases q) (fun self ih => by
    intro x1 x2 x3 h b q
    exact uX7_tryMoves_2 hg (fun _ _ _ _ _ _ _ q => wX7_tryMoves_30 hg ih q) q) F
  intro x1 x2 x3 h b q
  exact z _ _ _ _ _ q
def bX7_tryMoves (c2 : Int → Int → Int → HH → Option HH) (x1 : Int) (x2 : Int) (h : HH) : Option HH :=
  c2 x1 x2 0 h
theorem uX7_tryMoves {g : SG} (hg : GOK g) {σ0 : SG} {c2 : Int → Int → Int → HH → Option HH} (k2 : ∀ (x1 : Int) (x2 : Int) (x3 : Int) (h : HH) (b : HH), c2 x1 x2 x3 h = some b → WK 67 (.inl none) σ0 (abH 2 70 g b) 2 [(0, aR 34), (1, aI x1), (2, aI x2), (3, aI x3)] [] (abH 2 70 g h) 0 0) : ∀ {x1 : Int} {x2 : Int} {h : HH} {b : HH}, bX7_tryMoves c2 x1 x2 h = some b → WK 67 (.inl none) σ0 (abH 2 70 g b) 0 [(0, aR 34), (1, aI x1), (2, aI x2)] [] (abH 2 70 g h) 0 0 := by
  intro x1 x2 h b q
  have e : bX7_tryMoves c2 x1 x2 h = segW 2 70 g.2.2.2.2 krWV clN csX7_tryMoves (cuC 2 (fun l st s => tkC 0 34 l <| tkI 1 l fun x1 => tkI 2 l fun x2 => tkI 3 l fun x3 => skE st (c2 x1 x2 x3 s)) cuN) 1000 0 [(0, aR 34), (1, aI x1), (2, aI x2)] [] h := rfl
  rw [e] at q
  clear e
  refine segW_wk (by decide) (by decide) hg rwX7_tryMoves CLKW_N krWV_ok ?_ q
  clear q
  refine ct_C ?_ (ct_N)
  · intro l st h q
    obtain ⟨m0, q1⟩ := tkC_of q
    obtain ⟨x1, m1, q2⟩ := tkI_of q1
    obtain ⟨x2, m2, q3⟩ := tkI_of q2
    obtain ⟨x3, m3, q4⟩ := tkI_of q3
    obtain ⟨rfl, q5⟩ := skE_of q4
    exact WK_less (k2 _ _ _ _ _ q5) (List.forall_mem_cons.mpr ⟨m0, (List.forall_mem_cons.mpr ⟨m1, (List.forall_mem_cons.mpr ⟨m2, (List.forall_mem_cons.mpr ⟨m3, (fun _ h => absurd h List.not_mem_nil)⟩)⟩)⟩)⟩)
def nX7_tryMoves (x1 : Int) (x2 : Int) (h : HH) : Option HH := bX7_tryMoves (nX7_tryMoves_2 100000) x1 x2 h
theorem wX7_tryMoves {g : SG} (hg : GOK g) {σ0 : SG} : ∀ {x1 : Int} {x2 : Int} {h : HH} {b : HH}, nX7_tryMoves x1 x2 h = some b → WK 67 (.inl none) σ0 (abH 2 70 g b) 0 [(0, aR 34), (1, aI x1), (2, aI x2)] [] (abH 2 70 g h) 0 0 := by
  intro x1 x2 h b q
  exact uX7_tryMoves hg (fun _ _ _ _ _ q => wX7_tryMoves_2 hg q) q
theorem mX7_tryMoves {g : SG} (hg : GOK g) {h : HH} {x1 : Int} {x2 : Int} {b : HH} (q : nX7_tryMoves x1 x2 h = some b) : MCT 67 [] [aR 34, aI x1, aI x2] (abH 2 70 g h) (.inl none) (abH 2 70 g b) :=
  mct_of (by decide) (MFok 67 (by decide +kernel)) (fun _ => Nat.le_of_ble_eq_true rfl) (wX7_tryMoves hg q)
def pX7_tryMoves {β : Type} (z : Int → Int → HH → Option HH) : PW β := fun as h f => skC 34 as fun as => skI as fun x1 as => skI as fun x2 as => skE as (bnd (z x1 x2 h) fun r => f (.inl none) r)
theorem pX7_tryMoves_ok {β : Type} {g : SG} (hg : GOK g) : CW1 (β := β) 67 (pX7_tryMoves nX7_tryMoves) 2 70 g := fun as h f b q => by
  obtain ⟨as, rfl, q1⟩ := skC_of q
  obtain ⟨x1, as, rfl, q2⟩ := skI_of q1
  obtain ⟨x2, as, rfl, q3⟩ := skI_of q2
  obtain ⟨rfl, q0⟩ := skE_of q3
  obtain ⟨r, z1, z2⟩ := bnd_of q0
  exact ⟨_, _, z2, by decide, mX7_tryMoves hg z1, rfl, rfl, fun z => absurd z (by decide)⟩
def csX7_makeBestMove : List (Nat × List (Nat × ARow)) := [(40, [(0, 1, .aload_n 0, 0, 0, 0), (1, 3, .getfield 33, 7, 1, 2), (4, 3, .getfield 52, 6, 2, 2), (7, 1, .iload_n 1, 0, 0, 0), (8, 1, .iaload, 0, 0, 0), (9, 1, .istore_n 2, 0, 0, 0), (10, 1, .aload_n 0, 0, 0, 0), (11, 1, .aload_n 0, 0, 0, 0), (12, 3, .getfield 33, 7, 1, 2), (15, 1, .iload_n 1, 0, 0, 0), (16, 3, .invokevirtual 46, 57, 2, 6), (19, 3, .putfield 70, 7, 5, 0), (22, 1, .aload_n 0, 0, 0, 0), (23, 1, .iconst 0, 0, 0, 0), (24, 3, .putfield 73, 7, 6, 3), (27, 1, .aload_n 0, 0, 0, 0), (28, 1, .iload_n 1, 0, 0, 0), (29, 1, .iload_n 2, 0, 0, 0), (30, 3, .invokevirtual 77, 66, 3, 7), (33, 1, .aload_n 0, 0, 0, 0), (34, 1, .iload_n 1, 0, 0, 0), (35, 1, .iload_n 2, 0, 0, 0), (36, 3, .invokevirtual 81, 67, 3, 7), (39, 1, .aload_n 0, 0, 0, 0)]),
  (100000, [(40, 3, .getfield 73, 7, 6, 3), (43, 3, .ifCond .eq 16, 59, 0, 0), (46, 1, .aload_n 0, 0, 0, 0), (47, 3, .getfield 33, 7, 1, 2), (50, 1, .iload_n 1, 0, 0, 0), (51, 1, .aload_n 0, 0, 0, 0), (52, 3, .getfield 15, 7, 3, 2), (55, 1, .iload_n 2, 0, 0, 0), (56, 3, .invokevirtual 84, 51, 4, 6), (59, 1, .aload_n 0, 0, 0, 0), (60, 3, .getfield 73, 7, 6, 3), (63, 1, .ireturn, 1, 0, 0)])]
theorem rwX7_makeBestMove : rowsB (mB 65) (mO 65) (mX 65) (mIni 65) (mFr 65) (mLo 65) (mT 65) csX7_makeBestMove = true := by decide +kernel
def bX7_makeBestMove (f57 : HH → Int → Option Int) (f66 : Int → Int → HH → Option HH) (f67 : Int → Int → HH → Option HH) (f51 : Int → Nat → Int → HH → Option HH) (x1 : Int) (h : HH) : Option (Int × HH) :=
  gd ((0 : Int) ≤ x1 ∧ x1 < (3 : Int)) <|
    bnd (f57 h x1) fun r1 =>
    bnd (some (hI h 34 5 r1)) fun h2 =>
    gd ((0 : Int) ≤ 0 ∧ 0 ≤ (1 : Int)) <|
    bnd (some (hI h2 34 6 0)) fun h3 =>
    bnd (f66 x1 (h.1 31 x1) h3) fun r4 =>
    bnd (f67 x1 (h.1 31 x1) r4) fun r5 =>
    if (r5.1 34 6) = (0 : Int) then
    gd ((0 : Int) ≤ (r5.1 34 6) ∧ (r5.1 34 6) ≤ (1 : Int)) <|
    some ((r5.1 34 6), r5)
  else
    bnd (f51 x1 36 (h.1 31 x1) r5) fun r6 =>
    gd ((0 : Int) ≤ (r6.1 34 6) ∧ (r6.1 34 6) ≤ (1 : Int)) <|
    some ((r6.1 34 6), r6)
theorem uX7_makeBestMove {g : SG} (hg : GOK g) {σ0 : SG} : ∀ {x1 : Int} {h : HH} {b : (Int × HH)}, bX7_makeBestMove nX6_costNow nX7_tryTurns nX7_tryMoves nX6_replace x1 h = some b → WK 65 (.inl (some (aI b.1))) σ0 (abH 2 70 g b.2) 0 [(0, aR 34), (1, aI x1)] [] (abH 2 70 g h) 0 0 := by
  intro x1 h b q
  have e : ∀ (f57 : HH → Int → Option Int) (f66 : Int → Int → HH → Option HH) (f67 : Int → Int → HH → Option HH) (f51 : Int → Nat → Int → HH → Option HH) , bX7_makeBestMove f57 f66 f67 f51 x1 h = segW 2 70 g.2.2.2.2 krWI (clC 57 (liPW (pX6_costNow f57)) (clC 66 (pX7_tryTurns f66) (clC 67 (pX7_tryMoves f67) (clC 51 (pX6_replace f51) clN)))) csX7_makeBestMove cuN 1000 0 [(0, aR 34), (1, aI x1)] [] h := fun _ _ _ _ => rfl
  rw [e nX6_costNow nX7_tryTurns nX7_tryMoves nX6_replace] at q
  clear e
  refine segW_wk (by decide) (by decide) hg rwX7_makeBestMove (CLKW_C (liPW_ok (pX6_costNow_ok hg)) (CLKW_C (pX7_tryTurns_ok hg) (CLKW_C (pX7_tryMoves_ok hg) (CLKW_C (pX6_replace_ok hg) CLKW_N)))) krWI_ok ?_ q
  clear q
  exact ct_N
def nX7_makeBestMove (x1 : Int) (h : HH) : Option (Int × HH) := bX7_makeBestMove nX6_costNow nX7_tryTurns nX7_tryMoves nX6_replace x1 h
theorem wX7_makeBestMove {g : SG} (hg : GOK g) {σ0 : SG} : ∀ {x1 : Int} {h : HH} {b : (Int × HH)}, nX7_makeBestMove x1 h = some b → WK 65 (.inl (some (aI b.1))) σ0 (abH 2 70 g b.2) 0 [(0, aR 34), (1, aI x1)] [] (abH 2 70 g h) 0 0 := by
  intro x1 h b q
  exact uX7_makeBestMove hg q
theorem mX7_makeBestMove {g : SG} (hg : GOK g) {h : HH} {x1 : Int} {b : (Int × HH)} (q : nX7_makeBestMove x1 h = some b) : MCT 65 [] [aR 34, aI x1] (abH 2 70 g h) (.inl (some (aI b.1))) (abH 2 70 g b.2) :=
  mct_of (by decide) (MFok 65 (by decide +kernel)) (fun _ => Nat.le_of_ble_eq_true rfl) (wX7_makeBestMove hg q)
def pX7_makeBestMove {β : Type} (z : Int → HH → Option (Int × HH)) : PW β := fun as h f => skC 34 as fun as => skI as fun x1 as => skE as (bnd (z x1 h) fun r => f (.inl (some (aI r.1))) r.2)
theorem pX7_makeBestMove_ok {β : Type} {g : SG} (hg : GOK g) : CW1 (β := β) 65 (pX7_makeBestMove nX7_makeBestMove) 2 70 g := fun as h f b q => by
  obtain ⟨as, rfl, q1⟩ := skC_of q
  obtain ⟨x1, as, rfl, q2⟩ := skI_of q1
  obtain ⟨rfl, q0⟩ := skE_of q2
  obtain ⟨r, z1, z2⟩ := bnd_of q0
  exact ⟨_, _, z2, by decide, mX7_makeBestMove hg z1, rfl, rfl, fun z => absurd z (by decide)⟩
def csX7_beginPieces : List (Nat × List (Nat × ARow)) := [(43, [(0, 1, .iconst 0, 0, 0, 0), (1, 1, .istore_n 2, 0, 0, 0), (2, 1, .iload_n 2, 0, 0, 0), (3, 2, .bipush 9, 0, 0, 0), (5, 3, .if_icmp .ge 80, 85, 0, 0), (8, 1, .aload_n 0, 0, 0, 0), (9, 3, .getfield 23, 7, 10, 2), (12, 1, .iload_n 2, 0, 0, 0), (13, 1, .aaload, 0, 0, 0), (14, 1, .iconst 0, 0, 0, 0), (15, 1, .iload_n 2, 0, 0, 0), (16, 1, .iastore, 0, 0, 0), (17, 1, .iload_n 2, 0, 0, 0), (18, 1, .aload_n 0, 0, 0, 0), (19, 3, .getfield 29, 7, 0, 2), (22, 3, .getfield 130, 2, 10, 0), (25, 3, .if_icmp .ge 37, 62, 0, 0), (28, 1, .aload_n 0, 0, 0, 0), (29, 3, .getfield 33, 7, 1, 2), (32, 1, .iload_n 2, 0, 0, 0), (33, 3, .invokevirtual 133, 50, 2, 6), (36, 3, .ifCond .eq 26, 62, 0, 0), (39, 1, .aload_n 0, 0, 0, 0), (40, 3, .getfield 29, 7, 0, 2)]),
  (85, [(43, 1, .iload_n 1, 0, 0, 0), (44, 1, .aload_n 0, 0, 0, 0), (45, 3, .getfield 23, 7, 10, 2), (48, 1, .iload_n 2, 0, 0, 0), (49, 1, .aaload, 0, 0, 0), (50, 1, .iconst 1, 0, 0, 0), (51, 3, .invokevirtual 60, 27, 4, 2), (54, 1, .iconst (-1), 0, 0, 0), (55, 3, .if_icmp .eq 7, 62, 0, 0), (58, 1, .iconst 1, 0, 0, 0), (59, 3, .goto 4, 63, 0, 0), (62, 1, .iconst 0, 0, 0, 0), (63, 1, .istore_n 3, 0, 0, 0), (64, 1, .aload_n 0, 0, 0, 0), (65, 3, .getfield 26, 7, 11, 2), (68, 1, .iload_n 2, 0, 0, 0), (69, 1, .iload_n 3, 0, 0, 0), (70, 3, .ifCond .eq 7, 77, 0, 0), (73, 1, .iconst 1, 0, 0, 0), (74, 3, .goto 4, 78, 0, 0), (77, 1, .iconst 0, 0, 0, 0), (78, 1, .iastore, 0, 0, 0), (79, 3, .iinc 2 1, 0, 0, 0), (82, 3, .goto (-80), 2, 0, 0)]),
  (100000, [(85, 1, .return_, 0, 0, 0)])]
theorem rwX7_beginPieces : rowsB (mB 71) (mO 71) (mX 71) (mIni 71) (mFr 71) (mLo 71) (mT 71) csX7_beginPieces = true := by decide +kernel
def bX7_beginPieces_78 (c2 : Int → Int → HH → Option HH) (x1 : Int) (x2 : Int) (y0 : Int) (y1 : Int) (h : HH) : Option HH :=
  gd ((0 : Int) ≤ y1 ∧ y1 < (9 : Int)) <|
    bnd (some (hI h 48 y1 y0)) fun h1 =>
    gd (R32 (x2 + 1)) <|
    c2 x1 (x2 + 1) h1
theorem uX7_beginPieces_78 {g : SG} (hg : GOK g) {σ0 : SG} {c2 : Int → Int → HH → Option HH} (k2 : ∀ (x1 : Int) (x2 : Int) (h : HH) (b : HH), c2 x1 x2 h = some b → WK 71 (.inl none) σ0 (abH 2 70 g b) 2 [(0, aR 34), (1, aI x1), (2, aI x2)] [] (abH 2 70 g h) 0 0) : ∀ {x1 : Int} {x2 : Int} {y0 : Int} {y1 : Int} {h : HH} {b : HH}, bX7_beginPieces_78 c2 x1 x2 y0 y1 h = some b → WK 71 (.inl none) σ0 (abH 2 70 g b) 78 [(0, aR 34), (1, aI x1), (2, aI x2)] [aI y0, aI y1, aR 48] (abH 2 70 g h) 0 0 := by
  intro x1 x2 y0 y1 h b q
  have e : bX7_beginPieces_78 c2 x1 x2 y0 y1 h = segW 2 70 g.2.2.2.2 krWV clN csX7_beginPieces (cuC 2 (fun l st s => tkC 0 34 l <| tkI 1 l fun x1 => tkI 2 l fun x2 => skE st (c2 x1 x2 s)) cuN) 1000 78 [(0, aR 34), (1, aI x1), (2, aI x2)] [aI y0, aI y1, aR 48] h := rfl
  rw [e] at q
  clear e
  refine segW_wk (by decide) (by decide) hg rwX7_beginPieces CLKW_N krWV_ok ?_ q
  clear q
  refine ct_C ?_ (ct_N)
  · intro l st h q
    obtain ⟨m0, q1⟩ := tkC_of q
    obtain ⟨x1, m1, q2⟩ := tkI_of q1
    obtain ⟨x2, m2, q3⟩ := tkI_of q2
    obtain ⟨rfl, q4⟩ := skE_of q3
    exact WK_less (k2 _ _ _ _ q4) (List.forall_mem_cons.mpr ⟨m0, (List.forall_mem_cons.mpr ⟨m1, (List.forall_mem_cons.mpr ⟨m2, (fun _ h => absurd h List.not_mem_nil)⟩)⟩)⟩)
def nX7_beginPieces_78 (c2 : Int → Int → HH → Option HH) (x1 : Int) (x2 : Int) (y0 : Int) (y1 : Int) (h : HH) : Option HH := bX7_beginPieces_78 c2 x1 x2 y0 y1 h
theorem wX7_beginPieces_78 {g : SG} (hg : GOK g) {σ0 : SG} {c2 : Int → Int → HH → Option HH} (k2 : ∀ (x1 : Int) (x2 : Int) (h : HH) (b : HH), c2 x1 x2 h = some b → WK 71 (.inl none) σ0 (abH 2 70 g b) 2 [(0, aR 34), (1, aI x1), (2, aI x2)] [] (abH 2 70 g h) 0 0) : ∀ {x1 : Int} {x2 : Int} {y0 : Int} {y1 : Int} {h : HH} {b : HH}, nX7_beginPieces_78 c2 x1 x2 y0 y1 h = some b → WK 71 (.inl none) σ0 (abH 2 70 g b) 78 [(0, aR 34), (1, aI x1), (2, aI x2)] [aI y0, aI y1, aR 48] (abH 2 70 g h) 0 0 := by
  intro x1 x2 y0 y1 h b q
  exact uX7_beginPieces_78 hg k2 q
def bX7_beginPieces_63 (c78 : Int → Int → Int → Int → HH → Option HH) (x1 : Int) (x2 : Int) (y0 : Int) (h : HH) : Option HH :=
  if y0 = (0 : Int) then
    c78 x1 x2 0 x2 h
  else
    c78 x1 x2 1 x2 h
theorem uX7_beginPieces_63 {g : SG} (hg : GOK g) {σ0 : SG} {c78 : Int → Int → Int → Int → HH → Option HH} (k78 : ∀ (x1 : Int) (x2 : Int) (y0 : Int) (y1 : Int) (h : HH) (b : HH), c78 x1 x2 y0 y1 h = some b → WK 71 (.inl none) σ0 (abH 2 70 g b) 78 [(0, aR 34), (1, aI x1), (2, aI x2)] [aI y0, aI y1, aR 48] (abH 2 70 g h) 0 0) : ∀ {x1 : Int} {x2 : Int} {y0 : Int} {h : HH} {b : HH}, bX7_beginPieces_63 c78 x1 x2 y0 h = some b → WK 71 (.inl none) σ0 (abH 2 70 g b) 63 [(0, aR 34), (1, aI x1), (2, aI x2)] [aI y0] (abH 2 70 g h) 0 0 := by
  intro x1 x2 y0 h b q
  have e : bX7_beginPieces_63 c78 x1 x2 y0 h = segW 2 70 g.2.2.2.2 krWV clN csX7_beginPieces (cuC 78 (fun l st s => tkC 0 34 l <| tkI 1 l fun x1 => tkI 2 l fun x2 => skI st fun y0 st => skI st fun y1 st => skC 48 st fun st => skE st (c78 x1 x2 y0 y1 s)) cuN) 1000 63 [(0, aR 34), (1, aI x1), (2, aI x2)] [aI y0] h := rfl
  rw [e] at q
  clear e
  refine segW_wk (by decide) (by decide) hg rwX7_beginPieces CLKW_N krWV_ok ?_ q
  clear q
  refine ct_C ?_ (ct_N)
  · intro l st h q
    obtain ⟨m0, q1⟩ := tkC_of q
    obtain ⟨x1, m1, q2⟩ := tkI_of q1
    obtain ⟨x2, m2, q3⟩ := tkI_of q2
    obtain ⟨y0, t0, rfl, q4⟩ := skI_of q3
    obtain ⟨y1, t1, rfl, q5⟩ := skI_of q4
    obtain ⟨t2, rfl, q6⟩ := skC_of q5
    obtain ⟨rfl, q7⟩ := skE_of q6
    exact WK_less (k78 _ _ _ _ _ _ q7) (List.forall_mem_cons.mpr ⟨m0, (List.forall_mem_cons.mpr ⟨m1, (List.forall_mem_cons.mpr ⟨m2, (fun _ h => absurd h List.not_mem_nil)⟩)⟩)⟩)
def nX7_beginPieces_63 (c2 : Int → Int → HH → Option HH) (x1 : Int) (x2 : Int) (y0 : Int) (h : HH) : Option HH := bX7_beginPieces_63 (nX7_beginPieces_78 c2) x1 x2 y0 h
theorem wX7_beginPieces_63 {g : SG} (hg : GOK g) {σ0 : SG} {c2 : Int → Int → HH → Option HH} (k2 : ∀ (x1 : Int) (x2 : Int) (h : HH) (b : HH), c2 x1 x2 h = some b → WK 71 (.inl none) σ0 (abH 2 70 g b) 2 [(0, aR 34), (1, aI x1), (2, aI x2)] [] (abH 2 70 g h) 0 0) : ∀ {x1 : Int} {x2 : Int} {y0 : Int} {h : HH} {b : HH}, nX7_beginPieces_63 c2 x1 x2 y0 h = some b → WK 71 (.inl none) σ0 (abH 2 70 g b) 63 [(0, aR 34), (1, aI x1), (2, aI x2)] [aI y0] (abH 2 70 g h) 0 0 := by
  intro x1 x2 y0 h b q
  exact uX7_beginPieces_63 hg (fun _ _ _ _ _ _ q => wX7_beginPieces_78 hg k2 q) q
def bX7_beginPieces_62 (c63 : Int → Int → Int → HH → Option HH) (x1 : Int) (x2 : Int) (h : HH) : Option HH :=
  c63 x1 x2 0 h
theorem uX7_beginPieces_62 {g : SG} (hg : GOK g) {σ0 : SG} {c63 : Int → Int → Int → HH → Option HH} (k63 : ∀ (x1 : Int) (x2 : Int) (y0 : Int) (h : HH) (b : HH), c63 x1 x2 y0 h = some b → WK 71 (.inl none) σ0 (abH 2 70 g b) 63 [(0, aR 34), (1, aI x1), (2, aI x2)] [aI y0] (abH 2 70 g h) 0 0) : ∀ {x1 : Int} {x2 : Int} {h : HH} {b : HH}, bX7_beginPieces_62 c63 x1 x2 h = some b → WK 71 (.inl none) σ0 (abH 2 70 g b) 62 [(0, aR 34), (1, aI x1), (2, aI x2)] [] (abH 2 70 g h) 0 0 := by
  intro x1 x2 h b q
  have e : bX7_beginPieces_62 c63 x1 x2 h = segW 2 70 g.2.2.2.2 krWV clN csX7_beginPieces (cuC 63 (fun l st s => tkC 0 34 l <| tkI 1 l fun x1 => tkI 2 l fun x2 => skI st fun y0 st => skE st (c63 x1 x2 y0 s)) cuN) 1000 62 [(0, aR 34), (1, aI x1), (2, aI x2)] [] h := rfl
  rw [e] at q
  clear e
  refine segW_wk (by decide) (by decide) hg rwX7_beginPieces CLKW_N krWV_ok ?_ q
  clear q
  refine ct_C ?_ (ct_N)
  · intro l st h q
    obtain ⟨m0, q1⟩ := tkC_of q
    obtain ⟨x1, m1, q2⟩ := tkI_of q1
    obtain ⟨x2, m2, q3⟩ := tkI_of q2
    obtain ⟨y0, t0, rfl, q4⟩ := skI_of q3
    obtain ⟨rfl, q5⟩ := skE_of q4
    exact WK_less (k63 _ _ _ _ _ q5) (List.forall_mem_cons.mpr ⟨m0, (List.forall_mem_cons.mpr ⟨m1, (List.forall_mem_cons.mpr ⟨m2, (fun _ h => absurd h List.not_mem_nil)⟩)⟩)⟩)
def nX7_beginPieces_62 (c2 : Int → Int → HH → Option HH) (x1 : Int) (x2 : Int) (h : HH) : Option HH := bX7_beginPieces_62 (nX7_beginPieces_63 c2) x1 x2 h
theorem wX7_beginPieces_62 {g : SG} (hg : GOK g) {σ0 : SG} {c2 : Int → Int → HH → Option HH} (k2 : ∀ (x1 : Int) (x2 : Int) (h : HH) (b : HH), c2 x1 x2 h = some b → WK 71 (.inl none) σ0 (abH 2 70 g b) 2 [(0, aR 34), (1, aI x1), (2, aI x2)] [] (abH 2 70 g h) 0 0) : ∀ {x1 : Int} {x2 : Int} {h : HH} {b : HH}, nX7_beginPieces_62 c2 x1 x2 h = some b → WK 71 (.inl none) σ0 (abH 2 70 g b) 62 [(0, aR 34), (1, aI x1), (2, aI x2)] [] (abH 2 70 g h) 0 0 := by
  intro x1 x2 h b q
  exact uX7_beginPieces_62 hg (fun _ _ _ _ _ q => wX7_beginPieces_63 hg k2 q) q
def bX7_beginPieces_2 (f50 : HH → Int → Option Int) (f27 : HH → Int → Nat → Int → Option Int) (c62 : Int → Int → HH → Option HH) (c63 : Int → Int → Int → HH → Option HH) (x1 : Int) (x2 : Int) (h : HH) : Option HH :=
  if x2 < (9 : Int) then
    gd ((0 : Int) ≤ x2 ∧ x2 < (9 : Int)) <|
    bif Nat.beq (rwK 9 39 x2) 0 then none else
    bif okS 2 70 (rwK 9 39 x2) 0 then
    gd ((0 : Int) ≤ 0 ∧ 0 < ((lnK (rwK 9 39 x2)) : Int)) <|
    bnd (bif inS 2 70 (rwK 9 39 x2) then some (hI h (rwK 9 39 x2) 0 x2) else none) fun h1 =>
    if x2 < ((h1.1 13 10) : Int) then
    bnd (f50 h1 x2) fun r2 =>
    if r2 = (0 : Int) then
    c62 x1 x2 h1
  else
    gd ((0 : Int) ≤ x2 ∧ x2 < (9 : Int)) <|
    bif Nat.beq (rwK 9 39 x2) 0 then none else
    bnd (f27 h1 x1 (rwK 9 39 x2) 1) fun r3 =>
    if r3 = ((-1) : Int) then
    c62 x1 x2 h1
  else
    c63 x1 x2 1 h1
  else
    c62 x1 x2 h1
  else none
  else
    some h
theorem uX7_beginPieces_2 {g : SG} (hg : GOK g) {σ0 : SG} {c62 : Int → Int → HH → Option HH} {c63 : Int → Int → Int → HH → Option HH} (k62 : ∀ (x1 : Int) (x2 : Int) (h : HH) (b : HH), c62 x1 x2 h = some b → WK 71 (.inl none) σ0 (abH 2 70 g b) 62 [(0, aR 34), (1, aI x1), (2, aI x2)] [] (abH 2 70 g h) 0 0) (k63 : ∀ (x1 : Int) (x2 : Int) (y0 : Int) (h : HH) (b : HH), c63 x1 x2 y0 h = some b → WK 71 (.inl none) σ0 (abH 2 70 g b) 63 [(0, aR 34), (1, aI x1), (2, aI x2)] [aI y0] (abH 2 70 g h) 0 0) : ∀ {x1 : Int} {x2 : Int} {h : HH} {b : HH}, bX7_beginPieces_2 nX6_canTake nX2_costOf c62 c63 x1 x2 h = some b → WK 71 (.inl none) σ0 (abH 2 70 g b) 2 [(0, aR 34), (1, aI x1), (2, aI x2)] [] (abH 2 70 g h) 0 0 := by
  intro x1 x2 h b q
  have e : ∀ (f50 : HH → Int → Option Int) (f27 : HH → Int → Nat → Int → Option Int) , bX7_beginPieces_2 f50 f27 c62 c63 x1 x2 h = segW 2 70 g.2.2.2.2 krWV (clC 50 (liPW (pX6_canTake f50)) (clC 27 (liPW (pX2_costOf f27)) clN)) csX7_beginPieces (cuC 62 (fun l st s => tkC 0 34 l <| tkI 1 l fun x1 => tkI 2 l fun x2 => skE st (c62 x1 x2 s)) (cuC 63 (fun l st s => tkC 0 34 l <| tkI 1 l fun x1 => tkI 2 l fun x2 => skI st fun y0 st => skE st (c63 x1 x2 y0 s)) cuN)) 1000 2 [(0, aR 34), (1, aI x1), (2, aI x2)] [] h := fun _ _ => rfl
  rw [e nX6_canTake nX2_costOf] at q
  clear e
  refine segW_wk (by decide) (by decide) hg rwX7_beginPieces (CLKW_C (liPW_ok (pX6_canTake_ok hg)) (CLKW_C (liPW_ok (pX2_costOf_ok hg)) CLKW_N)) krWV_ok ?_ q
  clear q
  refine ct_C ?_ (ct_C ?_ (ct_N))
  · intro l st h q
    obtain ⟨m0, q1⟩ := tkC_of q
    obtain ⟨x1, m1, q2⟩ := tkI_of q1
    obtain ⟨x2, m2, q3⟩ := tkI_of q2
    obtain ⟨rfl, q4⟩ := skE_of q3
    exact WK_less (k62 _ _ _ _ q4) (List.forall_mem_cons.mpr ⟨m0, (List.forall_mem_cons.mpr ⟨m1, (List.forall_mem_cons.mpr ⟨m2, (fun _ h => absurd h List.not_mem_nil)⟩)⟩)⟩)
  · intro l st h q
    obtain ⟨m0, q1⟩ := tkC_of q
    obtain ⟨x1, m1, q2⟩ := tkI_of q1
    obtain ⟨x2, m2, q3⟩ := tkI_of q2
    obtain ⟨y0, t0, rfl, q4⟩ := skI_of q3
    obtain ⟨rfl, q5⟩ := skE_of q4
    exact WK_less (k63 _ _ _ _ _ q5) (List.forall_mem_cons.mpr ⟨m0, (List.forall_mem_cons.mpr ⟨m1, (List.forall_mem_cons.mpr ⟨m2, (fun _ h => absurd h List.not_mem_nil)⟩)⟩)⟩)
def nX7_beginPieces_2 : Nat → Int → Int → HH → Option HH := iter (fun _ _ _ => none) (fun self => bX7_beginPieces_2 nX6_canTake nX2_costOf (nX7_beginPieces_62 self) (nX7_beginPieces_63 self))
theorem nX7_beginPieces_2_s {F : Nat} : nX7_beginPieces_2 (F + 1) = bX7_beginPieces_2 nX6_canTake nX2_costOf (nX7_beginPieces_62 (nX7_beginPieces_2 F)) (nX7_beginPieces_63 (nX7_beginPieces_2 F)) := rfl
theorem wX7_beginPieces_2 {g : SG} (hg : GOK g) {σ0 : SG} : ∀ {F : Nat}, ∀ {x1 : Int} {x2 : Int} {h : HH} {b : HH}, nX7_beginPieces_2 F x1 x2 h = some b → WK 71 (.inl none) σ0 (abH 2 70 g b) 2 [(0, aR 34), (1, aI x1), (2, aI x2)] [] (abH 2 70 g h) 0 0 := by
  intro F
  have z : ∀ (x1 : Int) (x2 : Int) (h : HH) (b : HH), nX7_beginPieces_2 F x1 x2 h = some b → WK 71 (.inl none) σ0 (abH 2 70 g b) 2 [(0, aR 34), (1, aI x1), (2, aI x2)] [] (abH 2 70 g h) 0 0 := iter_ind (P := fun (c : Int → Int → HH → Option HH) => ∀ (x1 : Int) (x2 : Int) (h : HH) (b : HH), c x1 x2 h = some b → WK 71 (.inl none) σ0 (abH 2 70 g b) 2 [(0, aR 34), (1, aI x1), (2, aI x2)] [] (abH 2 70 g h) 0 0) (by
    intro x1 x2 h b q
    cases q) (fun self ih => by
    intro x1 x2 h b q
    exact uX7_beginPieces_2 hg (fun _ _ _ _ q => wX7_beginPieces_62 hg ih q) (fun _ _ _ _ _ q => wX7_beginPieces_63 hg ih q) q) F
  intro x1 x2 h b q
  exact z _ _ _ _ q
def bX7_beginPieces (c2 : Int → Int → HH → Option HH) (x1 : Int) (h : HH) : Option HH :=
  c2 x1 0 h
theorem uX7_beginPieces {g : SG} (hg : GOK g) {σ0 : SG} {c2 : Int → Int → HH → Option HH} (k2 : ∀ (x1 : Int) (x2 : Int) (h : HH) (b : HH), c2 x1 x2 h = some b → WK 71 (.inl none) σ0 (abH 2 70 g b) 2 [(0, aR 34), (1, aI x1), (2, aI x2)] [] (abH 2 70 g h) 0 0) : ∀ {x1 : Int} {h : HH} {b : HH}, bX7_beginPieces c2 x1 h = some b → WK 71 (.inl none) σ0 (abH 2 70 g b) 0 [(0, aR 34), (1, aI x1)] [] (abH 2 70 g h) 0 0 := by
  intro x1 h b q
  have e : bX7_beginPieces c2 x1 h = segW 2 70 g.2.2.2.2 krWV clN csX7_beginPieces (cuC 2 (fun l st s => tkC 0 34 l <| tkI 1 l fun x1 => tkI 2 l fun x2 => skE st (c2 x1 x2 s)) cuN) 1000 0 [(0, aR 34), (1, aI x1)] [] h := rfl
  rw [e] at q
  clear e
  refine segW_wk (by decide) (by decide) hg rwX7_beginPieces CLKW_N krWV_ok ?_ q
  clear q
  refine ct_C ?_ (ct_N)
  · intro l st h q
    obtain ⟨m0, q1⟩ := tkC_of q
    obtain ⟨x1, m1, q2⟩ := tkI_of q1
    obtain ⟨x2, m2, q3⟩ := tkI_of q2
    obtain ⟨rfl, q4⟩ := skE_of q3
    exact WK_less (k2 _ _ _ _ q4) (List.forall_mem_cons.mpr ⟨m0, (List.forall_mem_cons.mpr ⟨m1, (List.forall_mem_cons.mpr ⟨m2, (fun _ h => absurd h List.not_mem_nil)⟩)⟩)⟩)
def nX7_beginPieces (x1 : Int) (h : HH) : Option HH := bX7_beginPieces (nX7_beginPieces_2 100000) x1 h
theorem wX7_beginPieces {g : SG} (hg : GOK g) {σ0 : SG} : ∀ {x1 : Int} {h : HH} {b : HH}, nX7_beginPieces x1 h = some b → WK 71 (.inl none) σ0 (abH 2 70 g b) 0 [(0, aR 34), (1, aI x1)] [] (abH 2 70 g h) 0 0 := by
  intro x1 h b q
  exact uX7_beginPieces hg (fun _ _ _ _ q => wX7_beginPieces_2 hg q) q
theorem mX7_beginPieces {g : SG} (hg : GOK g) {h : HH} {x1 : Int} {b : HH} (q : nX7_beginPieces x1 h = some b) : MCT 71 [] [aR 34, aI x1] (abH 2 70 g h) (.inl none) (abH 2 70 g b) :=
  mct_of (by decide) (MFok 71 (by decide +kernel)) (fun _ => Nat.le_of_ble_eq_true rfl) (wX7_beginPieces hg q)
def pX7_beginPieces {β : Type} (z : Int → HH → Option HH) : PW β := fun as h f => skC 34 as fun as => skI as fun x1 as => skE as (bnd (z x1 h) fun r => f (.inl none) r)
theorem pX7_beginPieces_ok {β : Type} {g : SG} (hg : GOK g) : CW1 (β := β) 71 (pX7_beginPieces nX7_beginPieces) 2 70 g := fun as h f b q => by
  obtain ⟨as, rfl, q1⟩ := skC_of q
  obtain ⟨x1, as, rfl, q2⟩ := skI_of q1
  obtain ⟨rfl, q0⟩ := skE_of q2
  obtain ⟨r, z1, z2⟩ := bnd_of q0
  exact ⟨_, _, z2, by decide, mX7_beginPieces hg z1, rfl, rfl, fun z => absurd z (by decide)⟩
def csX7_pieceThatEndsWith : List (Nat × List (Nat × ARow)) := [(37, [(0, 1, .iconst 0, 0, 0, 0), (1, 1, .istore_n 2, 0, 0, 0), (2, 1, .iload_n 2, 0, 0, 0), (3, 2, .bipush 9, 0, 0, 0), (5, 3, .if_icmp .ge 39, 44, 0, 0), (8, 1, .aload_n 0, 0, 0, 0), (9, 3, .getfield 26, 7, 11, 2), (12, 1, .iload_n 2, 0, 0, 0), (13, 1, .iaload, 0, 0, 0), (14, 3, .ifCond .le 24, 38, 0, 0), (17, 1, .aload_n 0, 0, 0, 0), (18, 3, .getfield 23, 7, 10, 2), (21, 1, .iload_n 2, 0, 0, 0), (22, 1, .aaload, 0, 0, 0), (23, 1, .aload_n 0, 0, 0, 0), (24, 3, .getfield 26, 7, 11, 2), (27, 1, .iload_n 2, 0, 0, 0), (28, 1, .iaload, 0, 0, 0), (29, 1, .iconst 1, 0, 0, 0), (30, 1, .isub, 0, 0, 0), (31, 1, .iaload, 0, 0, 0), (32, 1, .iload_n 1, 0, 0, 0), (33, 3, .if_icmp .ne 5, 38, 0, 0), (36, 1, .iload_n 2, 0, 0, 0)]),
  (100000, [(37, 1, .ireturn, 0, 0, 0), (38, 3, .iinc 2 1, 0, 0, 0), (41, 3, .goto (-39), 2, 0, 0), (44, 1, .iconst (-1), 0, 0, 0), (45, 1, .ireturn, 0, 0, 0)])]
theorem rwX7_pieceThatEndsWith : rowsB (mB 75) (mO 75) (mX 75) (mIni 75) (mFr 75) (mLo 75) (mT 75) csX7_pieceThatEndsWith = true := by decide +kernel
def bX7_pieceThatEndsWith_38 (h : HH) (c2 : Int → Int → Option Int) (x1 : Int) (x2 : Int) : Option Int :=
  gd (R32 (x2 + 1)) <|
    c2 x1 (x2 + 1)
theorem uX7_pieceThatEndsWith_38 {g : SG} (hg : GOK g) {σ0 : SG} {h : HH} {c2 : Int → Int → Option Int} (k2 : ∀ (x1 : Int) (x2 : Int) (b : Int), c2 x1 x2 = some b → WK 75 (.inl (some (aI b))) σ0 (abH 2 70 g h) 2 [(0, aR 34), (1, aI x1), (2, aI x2)] [] (abH 2 70 g h) 0 0) : ∀ {x1 : Int} {x2 : Int} {b : Int}, bX7_pieceThatEndsWith_38 h c2 x1 x2 = some b → WK 75 (.inl (some (aI b))) σ0 (abH 2 70 g h) 38 [(0, aR 34), (1, aI x1), (2, aI x2)] [] (abH 2 70 g h) 0 0 := by
  intro x1 x2 b q
  have e : bX7_pieceThatEndsWith_38 h c2 x1 x2 = segP 2 70 g.2.2.2.2 h krPI clNP csX7_pieceThatEndsWith (cuC 2 (fun l st s => tkC 0 34 l <| tkI 1 l fun x1 => tkI 2 l fun x2 => skE st (c2 x1 x2)) cuN) 1000 38 [(0, aR 34), (1, aI x1), (2, aI x2)] [] := rfl
  rw [e] at q
  clear e
  refine segP_wk (by decide) (by decide) hg rwX7_pieceThatEndsWith CLKP_N krPI_ok ?_ q
  clear q
  refine ct_C ?_ (ct_N)
  · intro l st _ q
    obtain ⟨m0, q1⟩ := tkC_of q
    obtain ⟨x1, m1, q2⟩ := tkI_of q1
    obtain ⟨x2, m2, q3⟩ := tkI_of q2
    obtain ⟨rfl, q4⟩ := skE_of q3
    exact WK_less (k2 _ _ _ q4) (List.forall_mem_cons.mpr ⟨m0, (List.forall_mem_cons.mpr ⟨m1, (List.forall_mem_cons.mpr ⟨m2, (fun _ h => absurd h List.not_mem_nil)⟩)⟩)⟩)
def nX7_pieceThatEndsWith_38 (h : HH) (c2 : Int → Int → Option Int) (x1 : Int) (x2 : Int) : Option Int := bX7_pieceThatEndsWith_38 h c2 x1 x2
theorem wX7_pieceThatEndsWith_38 {g : SG} (hg : GOK g) {σ0 : SG} {h : HH} {c2 : Int → Int → Option Int} (k2 : ∀ (x1 : Int) (x2 : Int) (b : Int), c2 x1 x2 = some b → WK 75 (.inl (some (aI b))) σ0 (abH 2 70 g h) 2 [(0, aR 34), (1, aI x1), (2, aI x2)] [] (abH 2 70 g h) 0 0) : ∀ {x1 : Int} {x2 : Int} {b : Int}, nX7_pieceThatEndsWith_38 h c2 x1 x2 = some b → WK 75 (.inl (some (aI b))) σ0 (abH 2 70 g h) 38 [(0, aR 34), (1, aI x1), (2, aI x2)] [] (abH 2 70 g h) 0 0 := by
  intro x1 x2 b q
  exact uX7_pieceThatEndsWith_38 hg k2 q
def bX7_pieceThatEndsWith_2 (h : HH) (c38 : Int → Int → Option Int) (x1 : Int) (x2 : Int) : Option Int :=
  if x2 < (9 : Int) then
    gd ((0 : Int) ≤ x2 ∧ x2 < (9 : Int)) <|
    if (0 : Int) < (h.1 48 x2) then
    gd ((0 : Int) ≤ x2 ∧ x2 < (9 : Int)) <|
    bif Nat.beq (rwK 9 39 x2) 0 then none else
    gd ((0 : Int) ≤ x2 ∧ x2 < (9 : Int)) <|
    gd (R32 ((h.1 48 x2) - 1)) <|
    bif okS 2 70 (rwK 9 39 x2) 0 || okS 2 70 (rwK 9 39 x2) 9 then
    gd ((0 : Int) ≤ ((h.1 48 x2) - 1) ∧ ((h.1 48 x2) - 1) < ((lnK (rwK 9 39 x2)) : Int)) <|
    if (h.1 (rwK 9 39 x2) ((h.1 48 x2) - 1)) = (x1 : Int) then
    some x2
  else
    c38 x1 x2
  else none
  else
    c38 x1 x2
  else
    some (-1)
theorem uX7_pieceThatEndsWith_2 {g : SG} (hg : GOK g) {σ0 : SG} {h : HH} {c38 : Int → Int → Option Int} (k38 : ∀ (x1 : Int) (x2 : Int) (b : Int), c38 x1 x2 = some b → WK 75 (.inl (some (aI b))) σ0 (abH 2 70 g h) 38 [(0, aR 34), (1, aI x1), (2, aI x2)] [] (abH 2 70 g h) 0 0) : ∀ {x1 : Int} {x2 : Int} {b : Int}, bX7_pieceThatEndsWith_2 h c38 x1 x2 = some b → WK 75 (.inl (some (aI b))) σ0 (abH 2 70 g h) 2 [(0, aR 34), (1, aI x1), (2, aI x2)] [] (abH 2 70 g h) 0 0 := by
  intro x1 x2 b q
  have e : bX7_pieceThatEndsWith_2 h c38 x1 x2 = segP 2 70 g.2.2.2.2 h krPI clNP csX7_pieceThatEndsWith (cuC 38 (fun l st s => tkC 0 34 l <| tkI 1 l fun x1 => tkI 2 l fun x2 => skE st (c38 x1 x2)) cuN) 1000 2 [(0, aR 34), (1, aI x1), (2, aI x2)] [] := rfl
  rw [e] at q
  clear e
  refine segP_wk (by decide) (by decide) hg rwX7_pieceThatEndsWith CLKP_N krPI_ok ?_ q
  clear q
  refine ct_C ?_ (ct_N)
  · intro l st _ q
    obtain ⟨m0, q1⟩ := tkC_of q
    obtain ⟨x1, m1, q2⟩ := tkI_of q1
    obtain ⟨x2, m2, q3⟩ := tkI_of q2
    obtain ⟨rfl, q4⟩ := skE_of q3
    exact WK_less (k38 _ _ _ q4) (List.forall_mem_cons.mpr ⟨m0, (List.forall_mem_cons.mpr ⟨m1, (List.forall_mem_cons.mpr ⟨m2, (fun _ h => absurd h List.not_mem_nil)⟩)⟩)⟩)
def nX7_pieceThatEndsWith_2 (h : HH) : Nat → Int → Int → Option Int := iter (fun _ _ => none) (fun self => bX7_pieceThatEndsWith_2 h (nX7_pieceThatEndsWith_38 h self))
theorem nX7_pieceThatEndsWith_2_s {h : HH} {F : Nat} : nX7_pieceThatEndsWith_2 h (F + 1) = bX7_pieceThatEndsWith_2 h (nX7_pieceThatEndsWith_38 h (nX7_pieceThatEndsWith_2 h F)) := rfl
theorem wX7_pieceThatEndsWith_2 {g : SG} (hg : GOK g) {σ0 : SG} {h : HH} : ∀ {F : Nat}, ∀ {x1 : Int} {x2 : Int} {b : Int}, nX7_pieceThatEndsWith_2 h F x1 x2 = some b → WK 75 (.inl (some (aI b))) σ0 (abH 2 70 g h) 2 [(0, aR 34), (1, aI x1), (2, aI x2)] [] (abH 2 70 g h) 0 0 := by
  intro F
  have z : ∀ (x1 : Int) (x2 : Int) (b : Int), nX7_pieceThatEndsWith_2 h F x1 x2 = some b → WK 75 (.inl (some (aI b))) σ0 (abH 2 70 g h) 2 [(0, aR 34), (1, aI x1), (2, aI x2)] [] (abH 2 70 g h) 0 0 := iter_ind (P := fun (c : Int → Int → Option Int) => ∀ (x1 : Int) (x2 : Int) (b : Int), c x1 x2 = some b → WK 75 (.inl (some (aI b))) σ0 (abH 2 70 g h) 2 [(0, aR 34), (1, aI x1), (2, aI x2)] [] (abH 2 70 g h) 0 0) (by
    intro x1 x2 b q
    cases q) (fun self ih => by
    intro x1 x2 b q
    exact uX7_pieceThatEndsWith_2 hg (fun _ _ _ q => wX7_pieceThatEndsWith_38 hg ih q) q) F
  intro x1 x2 b q
  exact z _ _ _ q
def bX7_pieceThatEndsWith (h : HH) (c2 : Int → Int → Option Int) (x1 : Int) : Option Int :=
  c2 x1 0
theorem uX7_pieceThatEndsWith {g : SG} (hg : GOK g) {σ0 : SG} {h : HH} {c2 : Int → Int → Option Int} (k2 : ∀ (x1 : Int) (x2 : Int) (b : Int), c2 x1 x2 = some b → WK 75 (.inl (some (aI b))) σ0 (abH 2 70 g h) 2 [(0, aR 34), (1, aI x1), (2, aI x2)] [] (abH 2 70 g h) 0 0) : ∀ {x1 : Int} {b : Int}, bX7_pieceThatEndsWith h c2 x1 = some b → WK 75 (.inl (some (aI b))) σ0 (abH 2 70 g h) 0 [(0, aR 34), (1, aI x1)] [] (abH 2 70 g h) 0 0 := by
  intro x1 b q
  have e : bX7_pieceThatEndsWith h c2 x1 = segP 2 70 g.2.2.2.2 h krPI clNP csX7_pieceThatEndsWith (cuC 2 (fun l st s => tkC 0 34 l <| tkI 1 l fun x1 => tkI 2 l fun x2 => skE st (c2 x1 x2)) cuN) 1000 0 [(0, aR 34), (1, aI x1)] [] := rfl
  rw [e] at q
  clear e
  refine segP_wk (by decide) (by decide) hg rwX7_pieceThatEndsWith CLKP_N krPI_ok ?_ q
  clear q
  refine ct_C ?_ (ct_N)
  · intro l st _ q
    obtain ⟨m0, q1⟩ := tkC_of q
    obtain ⟨x1, m1, q2⟩ := tkI_of q1
    obtain ⟨x2, m2, q3⟩ := tkI_of q2
    obtain ⟨rfl, q4⟩ := skE_of q3
    exact WK_less (k2 _ _ _ q4) (List.forall_mem_cons.mpr ⟨m0, (List.forall_mem_cons.mpr ⟨m1, (List.forall_mem_cons.mpr ⟨m2, (fun _ h => absurd h List.not_mem_nil)⟩)⟩)⟩)
def nX7_pieceThatEndsWith (h : HH) (x1 : Int) : Option Int := bX7_pieceThatEndsWith h (nX7_pieceThatEndsWith_2 h 100000) x1
theorem wX7_pieceThatEndsWith {g : SG} (hg : GOK g) {σ0 : SG} {h : HH} : ∀ {x1 : Int} {b : Int}, nX7_pieceThatEndsWith h x1 = some b → WK 75 (.inl (some (aI b))) σ0 (abH 2 70 g h) 0 [(0, aR 34), (1, aI x1)] [] (abH 2 70 g h) 0 0 := by
  intro x1 b q
  exact uX7_pieceThatEndsWith hg (fun _ _ _ q => wX7_pieceThatEndsWith_2 hg q) q
theorem mX7_pieceThatEndsWith {g : SG} (hg : GOK g) {h : HH} {x1 : Int} {b : Int} (q : nX7_pieceThatEndsWith h x1 = some b) : MCT 75 [] [aR 34, aI x1] (abH 2 70 g h) (.inl (some (aI b))) (abH 2 70 g h) :=
  mct_of (by decide) (MFok 75 (by decide +kernel)) (fun _ => Nat.le_of_ble_eq_true rfl) (wX7_pieceThatEndsWith hg q)
def pX7_pieceThatEndsWith {β : Type} (z : HH → Int → Option Int) : PP β := fun h as f => skC 34 as fun as => skI as fun x1 as => skE as (bnd (z h x1) fun r => f (.inl (some (aI r))))
theorem pX7_pieceThatEndsWith_ok {β : Type} {g : SG} (hg : GOK g) : CP1 (β := β) 75 (pX7_pieceThatEndsWith nX7_pieceThatEndsWith) 2 70 g := fun h as f b q => by
  obtain ⟨as, rfl, q1⟩ := skC_of q
  obtain ⟨x1, as, rfl, q2⟩ := skI_of q1
  obtain ⟨rfl, q0⟩ := skE_of q2
  obtain ⟨r, z1, z2⟩ := bnd_of q0
  exact ⟨_, z2, by decide, mX7_pieceThatEndsWith hg z1, rfl, rfl, fun z => absurd z (by decide)⟩
def csX7_join : List (Nat × List (Nat × ARow)) := [(36, [(0, 1, .aload_n 0, 0, 0, 0), (1, 3, .getfield 23, 7, 10, 2), (4, 1, .iload_n 1, 0, 0, 0), (5, 1, .aaload, 0, 0, 0), (6, 1, .iconst 0, 0, 0, 0), (7, 1, .aload_n 3, 0, 0, 0), (8, 1, .iconst 0, 0, 0, 0), (9, 1, .aload_n 0, 0, 0, 0), (10, 3, .getfield 26, 7, 11, 2), (13, 1, .iload_n 1, 0, 0, 0), (14, 1, .iaload, 0, 0, 0), (15, 3, .invokestatic 103, 1003, 5, 0), (18, 1, .aload_n 0, 0, 0, 0), (19, 3, .getfield 23, 7, 10, 2), (22, 1, .iload_n 2, 0, 0, 0), (23, 1, .aaload, 0, 0, 0), (24, 1, .iconst 0, 0, 0, 0), (25, 1, .aload_n 3, 0, 0, 0), (26, 1, .aload_n 0, 0, 0, 0), (27, 3, .getfield 26, 7, 11, 2), (30, 1, .iload_n 1, 0, 0, 0), (31, 1, .iaload, 0, 0, 0), (32, 1, .aload_n 0, 0, 0, 0), (33, 3, .getfield 26, 7, 11, 2)]),
  (100000, [(36, 1, .iload_n 2, 0, 0, 0), (37, 1, .iaload, 0, 0, 0), (38, 3, .invokestatic 103, 1003, 5, 0), (41, 1, .aload_n 0, 0, 0, 0), (42, 3, .getfield 26, 7, 11, 2), (45, 1, .iload_n 1, 0, 0, 0), (46, 1, .iaload, 0, 0, 0), (47, 1, .aload_n 0, 0, 0, 0), (48, 3, .getfield 26, 7, 11, 2), (51, 1, .iload_n 2, 0, 0, 0), (52, 1, .iaload, 0, 0, 0), (53, 1, .iadd, 0, 0, 0), (54, 1, .ireturn, 0, 0, 0)])]
theorem rwX7_join : rowsB (mB 72) (mO 72) (mX 72) (mIni 72) (mFr 72) (mLo 72) (mT 72) csX7_join = true := by decide +kernel
def bX7_join (x1 : Int) (x2 : Int) (x3 : Nat) (h : HH) : Option (Int × HH) :=
  gd ((0 : Int) ≤ x1 ∧ x1 < (9 : Int)) <|
    bif Nat.beq (rwK 9 39 x1) 0 then none else
    gd ((0 : Int) ≤ x1 ∧ x1 < (9 : Int)) <|
    bif (okS 2 70 (rwK 9 39 x1) 0 && okS 2 70 x3 0) && true then
    gd ((0 : Int) ≤ (h.1 48 x1) ∧ (0 : Int) ≤ 0 ∧ (0 : Int) ≤ 0 ∧ 0 + (h.1 48 x1) ≤ ((lnK (rwK 9 39 x1)) : Int) ∧ 0 + (h.1 48 x1) ≤ ((lnK x3) : Int)) <|
    bnd (bif inS 2 70 x3 then some (hC h x3 (fun j => if 0 ≤ j ∧ j < 0 + (h.1 48 x1) then h.1 (rwK 9 39 x1) (0 + (j - 0)) else h.1 x3 j)) else none) fun h1 =>
    gd ((0 : Int) ≤ x2 ∧ x2 < (9 : Int)) <|
    bif Nat.beq (rwK 9 39 x2) 0 then none else
    gd ((0 : Int) ≤ x1 ∧ x1 < (9 : Int)) <|
    gd ((0 : Int) ≤ x2 ∧ x2 < (9 : Int)) <|
    bif (okS 2 70 (rwK 9 39 x2) 0 && okS 2 70 x3 0) && true then
    gd ((0 : Int) ≤ (h1.1 48 x2) ∧ (0 : Int) ≤ 0 ∧ (0 : Int) ≤ (h1.1 48 x1) ∧ 0 + (h1.1 48 x2) ≤ ((lnK (rwK 9 39 x2)) : Int) ∧ (h1.1 48 x1) + (h1.1 48 x2) ≤ ((lnK x3) : Int)) <|
    bnd (bif inS 2 70 x3 then some (hC h1 x3 (fun j => if (h1.1 48 x1) ≤ j ∧ j < (h1.1 48 x1) + (h1.1 48 x2) then h1.1 (rwK 9 39 x2) (0 + (j - (h1.1 48 x1))) else h1.1 x3 j)) else none) fun h2 =>
    gd ((0 : Int) ≤ x1 ∧ x1 < (9 : Int)) <|
    gd ((0 : Int) ≤ x2 ∧ x2 < (9 : Int)) <|
    gd (R32 ((h2.1 48 x1) + (h2.1 48 x2))) <|
    some (((h2.1 48 x1) + (h2.1 48 x2)), h2)
  else none
  else none
set_option maxRecDepth 100000 in
theorem uX7_join {g : SG} (hg : GOK g) {σ0 : SG} : ∀ {x1 : Int} {x2 : Int} {x3 : Nat} {h : HH} {b : (Int × HH)}, bX7_join x1 x2 x3 h = some b → WK 72 (.inl (some (aI b.1))) σ0 (abH 2 70 g b.2) 0 [(0, aR 34), (1, aI x1), (2, aI x2), (3, aR x3)] [] (abH 2 70 g h) 0 0 := by
  intro x1 x2 x3 h b q
  have e : bX7_join x1 x2 x3 h = segW 2 70 g.2.2.2.2 krWI clN csX7_join cuN 1000 0 [(0, aR 34), (1, aI x1), (2, aI x2), (3, aR x3)] [] h := rfl
  rw [e] at q
  clear e
  refine segW_wk (by decide) (by decide) hg rwX7_join CLKW_N krWI_ok ?_ q
  clear q
  exact ct_N
def nX7_join (x1 : Int) (x2 : Int) (x3 : Nat) (h : HH) : Option (Int × HH) := bX7_join x1 x2 x3 h
theorem wX7_join {g : SG} (hg : GOK g) {σ0 : SG} : ∀ {x1 : Int} {x2 : Int} {x3 : Nat} {h : HH} {b : (Int × HH)}, nX7_join x1 x2 x3 h = some b → WK 72 (.inl (some (aI b.1))) σ0 (abH 2 70 g b.2) 0 [(0, aR 34), (1, aI x1), (2, aI x2), (3, aR x3)] [] (abH 2 70 g h) 0 0 := by
  intro x1 x2 x3 h b q
  exact uX7_join hg q
theorem mX7_join {g : SG} (hg : GOK g) {h : HH} {x1 : Int} {x2 : Int} {x3 : Nat} {b : (Int × HH)} (q : nX7_join x1 x2 x3 h = some b) : MCT 72 [] [aR 34, aI x1, aI x2, aR x3] (abH 2 70 g h) (.inl (some (aI b.1))) (abH 2 70 g b.2) :=
  mct_of (by decide) (MFok 72 (by decide +kernel)) (fun _ => Nat.le_of_ble_eq_true rfl) (wX7_join hg q)
def pX7_join {β : Type} (z : Int → Int → Nat → HH → Option (Int × HH)) : PW β := fun as h f => skC 34 as fun as => skI as fun x1 as => skI as fun x2 as => skR as fun x3 as => skE as (bnd (z x1 x2 x3 h) fun r => f (.inl (some (aI r.1))) r.2)
theorem pX7_join_ok {β : Type} {g : SG} (hg : GOK g) : CW1 (β := β) 72 (pX7_join nX7_join) 2 70 g := fun as h f b q => by
  obtain ⟨as, rfl, q1⟩ := skC_of q
  obtain ⟨x1, as, rfl, q2⟩ := skI_of q1
  obtain ⟨x2, as, rfl, q3⟩ := skI_of q2
  obtain ⟨x3, as, rfl, q4⟩ := skR_of q3
  obtain ⟨rfl, q0⟩ := skE_of q4
  obtain ⟨r, z1, z2⟩ := bnd_of q0
  exact ⟨_, _, z2, by decide, mX7_join hg z1, rfl, rfl, fun z => absurd z (by decide)⟩
def csX7_tryJoin : List (Nat × List (Nat × ARow)) := [(42, [(0, 1, .aload_n 0, 0, 0, 0), (1, 3, .getfield 29, 7, 0, 2), (4, 1, .aload_n 0, 0, 0, 0), (5, 3, .getfield 23, 7, 10, 2), (8, 1, .iload_n 2, 0, 0, 0), (9, 1, .aaload, 0, 0, 0), (10, 1, .aload_n 0, 0, 0, 0), (11, 3, .getfield 26, 7, 11, 2), (14, 1, .iload_n 2, 0, 0, 0), (15, 1, .iaload, 0, 0, 0), (16, 1, .iconst 1, 0, 0, 0), (17, 1, .isub, 0, 0, 0), (18, 1, .iaload, 0, 0, 0), (19, 1, .iload_n 3, 0, 0, 0), (20, 3, .invokevirtual 146, 29, 3, 2), (23, 2, .istore 4, 0, 0, 0), (25, 1, .aload_n 0, 0, 0, 0), (26, 3, .getfield 73, 7, 6, 3), (29, 3, .ifCond .eq 13, 42, 0, 0), (32, 2, .iload 4, 0, 0, 0), (34, 1, .aload_n 0, 0, 0, 0), (35, 3, .getfield 136, 7, 12, 0), (38, 3, .if_icmp .gt 4, 42, 0, 0), (41, 1, .return_, 0, 0, 0)]),
  (85, [(42, 1, .aload_n 0, 0, 0, 0), (43, 1, .iload_n 2, 0, 0, 0), (44, 1, .iload_n 3, 0, 0, 0), (45, 1, .aload_n 0, 0, 0, 0), (46, 3, .getfield 9, 7, 2, 2), (49, 3, .invokevirtual 122, 72, 4, 7), (52, 2, .istore 5, 0, 0, 0), (54, 1, .aload_n 0, 0, 0, 0), (55, 3, .getfield 29, 7, 0, 2), (58, 1, .iload_n 1, 0, 0, 0), (59, 1, .aload_n 0, 0, 0, 0), (60, 3, .getfield 9, 7, 2, 2), (63, 2, .iload 5, 0, 0, 0), (65, 3, .invokevirtual 60, 27, 4, 2), (68, 1, .iconst (-1), 0, 0, 0), (69, 3, .if_icmp .eq 24, 93, 0, 0), (72, 1, .aload_n 0, 0, 0, 0), (73, 1, .iconst 1, 0, 0, 0), (74, 3, .putfield 73, 7, 6, 3), (77, 1, .aload_n 0, 0, 0, 0), (78, 2, .iload 4, 0, 0, 0), (80, 3, .putfield 136, 7, 12, 0), (83, 1, .aload_n 0, 0, 0, 0), (84, 1, .iload_n 2, 0, 0, 0)]),
  (100000, [(85, 3, .putfield 116, 7, 13, 0), (88, 1, .aload_n 0, 0, 0, 0), (89, 1, .iload_n 3, 0, 0, 0), (90, 3, .putfield 119, 7, 14, 0), (93, 1, .return_, 0, 0, 0)])]
theorem rwX7_tryJoin : rowsB (mB 74) (mO 74) (mX 74) (mIni 74) (mFr 74) (mLo 74) (mT 74) csX7_tryJoin = true := by decide +kernel
def bX7_tryJoin_42 (f72 : Int → Int → Nat → HH → Option (Int × HH)) (f27 : HH → Int → Nat → Int → Option Int) (x1 : Int) (x2 : Int) (x3 : Int) (x4 : Int) (h : HH) : Option HH :=
  bnd (f72 x2 x3 35 h) fun r1 =>
    bnd (f27 r1.2 x1 35 r1.1) fun r2 =>
    if r2 = ((-1) : Int) then
    some r1.2
  else
    gd ((0 : Int) ≤ 1 ∧ 1 ≤ (1 : Int)) <|
    bnd (some (hI r1.2 34 6 1)) fun h3 =>
    bnd (some (hI h3 34 12 x4)) fun h4 =>
    bnd (some (hI h4 34 13 x2)) fun h5 =>
    bnd (some (hI h5 34 14 x3)) fun h6 =>
    some h6
theorem uX7_tryJoin_42 {g : SG} (hg : GOK g) {σ0 : SG} : ∀ {x1 : Int} {x2 : Int} {x3 : Int} {x4 : Int} {h : HH} {b : HH}, bX7_tryJoin_42 nX7_join nX2_costOf x1 x2 x3 x4 h = some b → WK 74 (.inl none) σ0 (abH 2 70 g b) 42 [(0, aR 34), (1, aI x1), (2, aI x2), (3, aI x3), (4, aI x4)] [] (abH 2 70 g h) 0 0 := by
  intro x1 x2 x3 x4 h b q
  have e : ∀ (f72 : Int → Int → Nat → HH → Option (Int × HH)) (f27 : HH → Int → Nat → Int → Option Int) , bX7_tryJoin_42 f72 f27 x1 x2 x3 x4 h = segW 2 70 g.2.2.2.2 krWV (clC 72 (pX7_join f72) (clC 27 (liPW (pX2_costOf f27)) clN)) csX7_tryJoin cuN 1000 42 [(0, aR 34), (1, aI x1), (2, aI x2), (3, aI x3), (4, aI x4)] [] h := fun _ _ => rfl
  rw [e nX7_join nX2_costOf] at q
  clear e
  refine segW_wk (by decide) (by decide) hg rwX7_tryJoin (CLKW_C (pX7_join_ok hg) (CLKW_C (liPW_ok (pX2_costOf_ok hg)) CLKW_N)) krWV_ok ?_ q
  clear q
  exact ct_N
def nX7_tryJoin_42 (x1 : Int) (x2 : Int) (x3 : Int) (x4 : Int) (h : HH) : Option HH := bX7_tryJoin_42 nX7_join nX2_costOf x1 x2 x3 x4 h
theorem wX7_tryJoin_42 {g : SG} (hg : GOK g) {σ0 : SG} : ∀ {x1 : Int} {x2 : Int} {x3 : Int} {x4 : Int} {h : HH} {b : HH}, nX7_tryJoin_42 x1 x2 x3 x4 h = some b → WK 74 (.inl none) σ0 (abH 2 70 g b) 42 [(0, aR 34), (1, aI x1), (2, aI x2), (3, aI x3), (4, aI x4)] [] (abH 2 70 g h) 0 0 := by
  intro x1 x2 x3 x4 h b q
  exact uX7_tryJoin_42 hg q
def bX7_tryJoin (f29 : HH → Int → Int → Option Int) (c42 : Int → Int → Int → Int → HH → Option HH) (x1 : Int) (x2 : Int) (x3 : Int) (h : HH) : Option HH :=
  gd ((0 : Int) ≤ x2 ∧ x2 < (9 : Int)) <|
    bif Nat.beq (rwK 9 39 x2) 0 then none else
    gd ((0 : Int) ≤ x2 ∧ x2 < (9 : Int)) <|
    gd (R32 ((h.1 48 x2) - 1)) <|
    bif okS 2 70 (rwK 9 39 x2) 0 || okS 2 70 (rwK 9 39 x2) 9 then
    gd ((0 : Int) ≤ ((h.1 48 x2) - 1) ∧ ((h.1 48 x2) - 1) < ((lnK (rwK 9 39 x2)) : Int)) <|
    bnd (f29 h (h.1 (rwK 9 39 x2) ((h.1 48 x2) - 1)) x3) fun r1 =>
    if (h.1 34 6) = (0 : Int) then
    c42 x1 x2 x3 r1 h
  else
    if ((h.1 34 12) : Int) < r1 then
    c42 x1 x2 x3 r1 h
  else
    some h
  else none
theorem uX7_tryJoin {g : SG} (hg : GOK g) {σ0 : SG} {c42 : Int → Int → Int → Int → HH → Option HH} (k42 : ∀ (x1 : Int) (x2 : Int) (x3 : Int) (x4 : Int) (h : HH) (b : HH), c42 x1 x2 x3 x4 h = some b → WK 74 (.inl none) σ0 (abH 2 70 g b) 42 [(0, aR 34), (1, aI x1), (2, aI x2), (3, aI x3), (4, aI x4)] [] (abH 2 70 g h) 0 0) : ∀ {x1 : Int} {x2 : Int} {x3 : Int} {h : HH} {b : HH}, bX7_tryJoin nX2_savingOf c42 x1 x2 x3 h = some b → WK 74 (.inl none) σ0 (abH 2 70 g b) 0 [(0, aR 34), (1, aI x1), (2, aI x2), (3, aI x3)] [] (abH 2 70 g h) 0 0 := by
  intro x1 x2 x3 h b q
  have e : ∀ (f29 : HH → Int → Int → Option Int) , bX7_tryJoin f29 c42 x1 x2 x3 h = segW 2 70 g.2.2.2.2 krWV (clC 29 (liPW (pX2_savingOf f29)) clN) csX7_tryJoin (cuC 42 (fun l st s => tkC 0 34 l <| tkI 1 l fun x1 => tkI 2 l fun x2 => tkI 3 l fun x3 => tkI 4 l fun x4 => skE st (c42 x1 x2 x3 x4 s)) cuN) 1000 0 [(0, aR 34), (1, aI x1), (2, aI x2), (3, aI x3)] [] h := fun _ => rfl
  rw [e nX2_savingOf] at q
  clear e
  refine segW_wk (by decide) (by decide) hg rwX7_tryJoin (CLKW_C (liPW_ok (pX2_savingOf_ok hg)) CLKW_N) krWV_ok ?_ q
  clear q
  refine ct_C ?_ (ct_N)
  · intro l st h q
    obtain ⟨m0, q1⟩ := tkC_of q
    obtain ⟨x1, m1, q2⟩ := tkI_of q1
    obtain ⟨x2, m2, q3⟩ := tkI_of q2
    obtain ⟨x3, m3, q4⟩ := tkI_of q3
    obtain ⟨x4, m4, q5⟩ := tkI_of q4
    obtain ⟨rfl, q6⟩ := skE_of q5
    exact WK_less (k42 _ _ _ _ _ _ q6) (List.forall_mem_cons.mpr ⟨m0, (List.forall_mem_cons.mpr ⟨m1, (List.forall_mem_cons.mpr ⟨m2, (List.forall_mem_cons.mpr ⟨m3, (List.forall_mem_cons.mpr ⟨m4, (fun _ h => absurd h List.not_mem_nil)⟩)⟩)⟩)⟩)⟩)
def nX7_tryJoin (x1 : Int) (x2 : Int) (x3 : Int) (h : HH) : Option HH := bX7_tryJoin nX2_savingOf nX7_tryJoin_42 x1 x2 x3 h
theorem wX7_tryJoin {g : SG} (hg : GOK g) {σ0 : SG} : ∀ {x1 : Int} {x2 : Int} {x3 : Int} {h : HH} {b : HH}, nX7_tryJoin x1 x2 x3 h = some b → WK 74 (.inl none) σ0 (abH 2 70 g b) 0 [(0, aR 34), (1, aI x1), (2, aI x2), (3, aI x3)] [] (abH 2 70 g h) 0 0 := by
  intro x1 x2 x3 h b q
  exact uX7_tryJoin hg (fun _ _ _ _ _ _ q => wX7_tryJoin_42 hg q) q
theorem mX7_tryJoin {g : SG} (hg : GOK g) {h : HH} {x1 : Int} {x2 : Int} {x3 : Int} {b : HH} (q : nX7_tryJoin x1 x2 x3 h = some b) : MCT 74 [] [aR 34, aI x1, aI x2, aI x3] (abH 2 70 g h) (.inl none) (abH 2 70 g b) :=
  mct_of (by decide) (MFok 74 (by decide +kernel)) (fun _ => Nat.le_of_ble_eq_true rfl) (wX7_tryJoin hg q)
def pX7_tryJoin {β : Type} (z : Int → Int → Int → HH → Option HH) : PW β := fun as h f => skC 34 as fun as => skI as fun x1 as => skI as fun x2 as => skI as fun x3 as => skE as (bnd (z x1 x2 x3 h) fun r => f (.inl none) r)
theorem pX7_tryJoin_ok {β : Type} {g : SG} (hg : GOK g) : CW1 (β := β) 74 (pX7_tryJoin nX7_tryJoin) 2 70 g := fun as h f b q => by
  obtain ⟨as, rfl, q1⟩ := skC_of q
  obtain ⟨x1, as, rfl, q2⟩ := skI_of q1
  obtain ⟨x2, as, rfl, q3⟩ := skI_of q2
  obtain ⟨x3, as, rfl, q4⟩ := skI_of q3
  obtain ⟨rfl, q0⟩ := skE_of q4
  obtain ⟨r, z1, z2⟩ := bnd_of q0
  exact ⟨_, _, z2, by decide, mX7_tryJoin hg z1, rfl, rfl, fun z => absurd z (by decide)⟩
def csX7_findJoin : List (Nat × List (Nat × ARow)) := [(44, [(0, 1, .aload_n 0, 0, 0, 0), (1, 1, .iconst 0, 0, 0, 0), (2, 3, .putfield 73, 7, 6, 3), (5, 1, .aload_n 0, 0, 0, 0), (6, 1, .iconst 0, 0, 0, 0), (7, 3, .putfield 136, 7, 12, 0), (10, 1, .iconst 0, 0, 0, 0), (11, 1, .istore_n 2, 0, 0, 0), (12, 1, .iload_n 2, 0, 0, 0), (13, 1, .aload_n 0, 0, 0, 0), (14, 3, .getfield 29, 7, 0, 2), (17, 3, .getfield 130, 2, 10, 0), (20, 3, .if_icmp .ge 65, 85, 0, 0), (23, 1, .aload_n 0, 0, 0, 0), (24, 1, .iload_n 2, 0, 0, 0), (25, 3, .invokevirtual 139, 75, 2, 7), (28, 1, .istore_n 3, 0, 0, 0), (29, 1, .iconst 0, 0, 0, 0), (30, 2, .istore 4, 0, 0, 0), (32, 2, .iload 4, 0, 0, 0), (34, 1, .aload_n 0, 0, 0, 0), (35, 3, .getfield 29, 7, 0, 2), (38, 3, .getfield 130, 2, 10, 0), (41, 3, .if_icmp .ge 38, 79, 0, 0)]),
  (100000, [(44, 1, .iload_n 3, 0, 0, 0), (45, 1, .iconst (-1), 0, 0, 0), (46, 3, .if_icmp .eq 33, 79, 0, 0), (49, 2, .iload 4, 0, 0, 0), (51, 1, .iload_n 3, 0, 0, 0), (52, 3, .if_icmp .eq 21, 73, 0, 0), (55, 1, .aload_n 0, 0, 0, 0), (56, 3, .getfield 26, 7, 11, 2), (59, 2, .iload 4, 0, 0, 0), (61, 1, .iaload, 0, 0, 0), (62, 3, .ifCond .le 11, 73, 0, 0), (65, 1, .aload_n 0, 0, 0, 0), (66, 1, .iload_n 1, 0, 0, 0), (67, 1, .iload_n 3, 0, 0, 0), (68, 2, .iload 4, 0, 0, 0), (70, 3, .invokevirtual 142, 74, 4, 7), (73, 3, .iinc 4 1, 0, 0, 0), (76, 3, .goto (-44), 32, 0, 0), (79, 3, .iinc 2 1, 0, 0, 0), (82, 3, .goto (-70), 12, 0, 0), (85, 1, .aload_n 0, 0, 0, 0), (86, 3, .getfield 73, 7, 6, 3), (89, 1, .ireturn, 1, 0, 0)])]
theorem rwX7_findJoin : rowsB (mB 73) (mO 73) (mX 73) (mIni 73) (mFr 73) (mLo 73) (mT 73) csX7_findJoin = true := by decide +kernel
def bX7_findJoin_79 (c12 : Int → Int → HH → Option (Int × HH)) (x1 : Int) (x2 : Int) (h : HH) : Option (Int × HH) :=
  gd (R32 (x2 + 1)) <|
    c12 x1 (x2 + 1) h
theorem uX7_findJoin_79 {g : SG} (hg : GOK g) {σ0 : SG} {c12 : Int → Int → HH → Option (Int × HH)} (k12 : ∀ (x1 : Int) (x2 : Int) (h : HH) (b : (Int × HH)), c12 x1 x2 h = some b → WK 73 (.inl (some (aI b.1))) σ0 (abH 2 70 g b.2) 12 [(0, aR 34), (1, aI x1), (2, aI x2)] [] (abH 2 70 g h) 0 0) : ∀ {x1 : Int} {x2 : Int} {h : HH} {b : (Int × HH)}, bX7_findJoin_79 c12 x1 x2 h = some b → WK 73 (.inl (some (aI b.1))) σ0 (abH 2 70 g b.2) 79 [(0, aR 34), (1, aI x1), (2, aI x2)] [] (abH 2 70 g h) 0 0 := by
  intro x1 x2 h b q
  have e : bX7_findJoin_79 c12 x1 x2 h = segW 2 70 g.2.2.2.2 krWI clN csX7_findJoin (cuC 12 (fun l st s => tkC 0 34 l <| tkI 1 l fun x1 => tkI 2 l fun x2 => skE st (c12 x1 x2 s)) cuN) 1000 79 [(0, aR 34), (1, aI x1), (2, aI x2)] [] h := rfl
  rw [e] at q
  clear e
  refine segW_wk (by decide) (by decide) hg rwX7_findJoin CLKW_N krWI_ok ?_ q
  clear q
  refine ct_C ?_ (ct_N)
  · intro l st h q
    obtain ⟨m0, q1⟩ := tkC_of q
    obtain ⟨x1, m1, q2⟩ := tkI_of q1
    obtain ⟨x2, m2, q3⟩ := tkI_of q2
    obtain ⟨rfl, q4⟩ := skE_of q3
    exact WK_less (k12 _ _ _ _ q4) (List.forall_mem_cons.mpr ⟨m0, (List.forall_mem_cons.mpr ⟨m1, (List.forall_mem_cons.mpr ⟨m2, (fun _ h => absurd h List.not_mem_nil)⟩)⟩)⟩)
def nX7_findJoin_79 (c12 : Int → Int → HH → Option (Int × HH)) (x1 : Int) (x2 : Int) (h : HH) : Option (Int × HH) := bX7_findJoin_79 c12 x1 x2 h
theorem wX7_findJoin_79 {g : SG} (hg : GOK g) {σ0 : SG} {c12 : Int → Int → HH → Option (Int × HH)} (k12 : ∀ (x1 : Int) (x2 : Int) (h : HH) (b : (Int × HH)), c12 x1 x2 h = some b → WK 73 (.inl (some (aI b.1))) σ0 (abH 2 70 g b.2) 12 [(0, aR 34), (1, aI x1), (2, aI x2)] [] (abH 2 70 g h) 0 0) : ∀ {x1 : Int} {x2 : Int} {h : HH} {b : (Int × HH)}, nX7_findJoin_79 c12 x1 x2 h = some b → WK 73 (.inl (some (aI b.1))) σ0 (abH 2 70 g b.2) 79 [(0, aR 34), (1, aI x1), (2, aI x2)] [] (abH 2 70 g h) 0 0 := by
  intro x1 x2 h b q
  exact uX7_findJoin_79 hg k12 q
def bX7_findJoin_73 (c32 : Int → Int → Int → Int → HH → Option (Int × HH)) (x1 : Int) (x2 : Int) (x3 : Int) (x4 : Int) (h : HH) : Option (Int × HH) :=
  gd (R32 (x4 + 1)) <|
    c32 x1 x2 x3 (x4 + 1) h
theorem uX7_findJoin_73 {g : SG} (hg : GOK g) {σ0 : SG} {c32 : Int → Int → Int → Int → HH → Option (Int × HH)} (k32 : ∀ (x1 : Int) (x2 : Int) (x3 : Int) (x4 : Int) (h : HH) (b : (Int × HH)), c32 x1 x2 x3 x4 h = some b → WK 73 (.inl (some (aI b.1))) σ0 (abH 2 70 g b.2) 32 [(0, aR 34), (1, aI x1), (2, aI x2), (3, aI x3), (4, aI x4)] [] (abH 2 70 g h) 0 0) : ∀ {x1 : Int} {x2 : Int} {x3 : Int} {x4 : Int} {h : HH} {b : (Int × HH)}, bX7_findJoin_73 c32 x1 x2 x3 x4 h = some b → WK 73 (.inl (some (aI b.1))) σ0 (abH 2 70 g b.2) 73 [(0, aR 34), (1, aI x1), (2, aI x2), (3, aI x3), (4, aI x4)] [] (abH 2 70 g h) 0 0 := by
  intro x1 x2 x3 x4 h b q
  have e : bX7_findJoin_73 c32 x1 x2 x3 x4 h = segW 2 70 g.2.2.2.2 krWI clN csX7_findJoin (cuC 32 (fun l st s => tkC 0 34 l <| tkI 1 l fun x1 => tkI 2 l fun x2 => tkI 3 l fun x3 => tkI 4 l fun x4 => skE st (c32 x1 x2 x3 x4 s)) cuN) 1000 73 [(0, aR 34), (1, aI x1), (2, aI x2), (3, aI x3), (4, aI x4)] [] h := rfl
  rw [e] at q
  clear e
  refine segW_wk (by decide) (by decide) hg rwX7_findJoin CLKW_N krWI_ok ?_ q
  clear q
  refine ct_C ?_ (ct_N)
  · intro l st h q
    obtain ⟨m0, q1⟩ := tkC_of q
    obtain ⟨x1, m1, q2⟩ := tkI_of q1
    obtain ⟨x2, m2, q3⟩ := tkI_of q2
    obtain ⟨x3, m3, q4⟩ := tkI_of q3
    obtain ⟨x4, m4, q5⟩ := tkI_of q4
    obtain ⟨rfl, q6⟩ := skE_of q5
    exact WK_less (k32 _ _ _ _ _ _ q6) (List.forall_mem_cons.mpr ⟨m0, (List.forall_mem_cons.mpr ⟨m1, (List.forall_mem_cons.mpr ⟨m2, (List.forall_mem_cons.mpr ⟨m3, (List.forall_mem_cons.mpr ⟨m4, (fun _ h => absurd h List.not_mem_nil)⟩)⟩)⟩)⟩)⟩)
def nX7_findJoin_73 (c12 : Int → Int → HH → Option (Int × HH)) (c32 : Int → Int → Int → Int → HH → Option (Int × HH)) (x1 : Int) (x2 : Int) (x3 : Int) (x4 : Int) (h : HH) : Option (Int × HH) := bX7_findJoin_73 c32 x1 x2 x3 x4 h
theorem wX7_findJoin_73 {g : SG} (hg : GOK g) {σ0 : SG} {c12 : Int → Int → HH → Option (Int × HH)} {c32 : Int → Int → Int → Int → HH → Option (Int × HH)} (k12 : ∀ (x1 : Int) (x2 : Int) (h : HH) (b : (Int × HH)), c12 x1 x2 h = some b → WK 73 (.inl (some (aI b.1))) σ0 (abH 2 70 g b.2) 12 [(0, aR 34), (1, aI x1), (2, aI x2)] [] (abH 2 70 g h) 0 0) (k32 : ∀ (x1 : Int) (x2 : Int) (x3 : Int) (x4 : Int) (h : HH) (b : (Int × HH)), c32 x1 x2 x3 x4 h = some b → WK 73 (.inl (some (aI b.1))) σ0 (abH 2 70 g b.2) 32 [(0, aR 34), (1, aI x1), (2, aI x2), (3, aI x3), (4, aI x4)] [] (abH 2 70 g h) 0 0) : ∀ {x1 : Int} {x2 : Int} {x3 : Int} {x4 : Int} {h : HH} {b : (Int × HH)}, nX7_findJoin_73 c12 c32 x1 x2 x3 x4 h = some b → WK 73 (.inl (some (aI b.1))) σ0 (abH 2 70 g b.2) 73 [(0, aR 34), (1, aI x1), (2, aI x2), (3, aI x3), (4, aI x4)] [] (abH 2 70 g h) 0 0 := by
  intro x1 x2 x3 x4 h b q
  exact uX7_findJoin_73 hg k32 q
def bX7_findJoin_32 (f74 : Int → Int → Int → HH → Option HH) (c73 : Int → Int → Int → Int → HH → Option (Int × HH)) (c79 : Int → Int → HH → Option (Int × HH)) (x1 : Int) (x2 : Int) (x3 : Int) (x4 : Int) (h : HH) : Option (Int × HH) :=
  if x4 < ((h.1 13 10) : Int) then
    if x3 = ((-1) : Int) then
    c79 x1 x2 h
  else
    if x4 = (x3 : Int) then
    c73 x1 x2 x3 x4 h
  else
    gd ((0 : Int) ≤ x4 ∧ x4 < (9 : Int)) <|
    if (0 : Int) < (h.1 48 x4) then
    bnd (f74 x1 x3 x4 h) fun r1 =>
    c73 x1 x2 x3 x4 r1
  else
    c73 x1 x2 x3 x4 h
  else
    c79 x1 x2 h
theorem uX7_findJoin_32 {g : SG} (hg : GOK g) {σ0 : SG} {c73 : Int → Int → Int → Int → HH → Option (Int × HH)} {c79 : Int → Int → HH → Option (Int × HH)} (k73 : ∀ (x1 : Int) (x2 : Int) (x3 : Int) (x4 : Int) (h : HH) (b : (Int × HH)), c73 x1 x2 x3 x4 h = some b → WK 73 (.inl (some (aI b.1))) σ0 (abH 2 70 g b.2) 73 [(0, aR 34), (1, aI x1), (2, aI x2), (3, aI x3), (4, aI x4)] [] (abH 2 70 g h) 0 0) (k79 : ∀ (x1 : Int) (x2 : Int) (h : HH) (b : (Int × HH)), c79 x1 x2 h = some b → WK 73 (.inl (some (aI b.1))) σ0 (abH 2 70 g b.2) 79 [(0, aR 34), (1, aI x1), (2, aI x2)] [] (abH 2 70 g h) 0 0) : ∀ {x1 : Int} {x2 : Int} {x3 : Int} {x4 : Int} {h : HH} {b : (Int × HH)}, bX7_findJoin_32 nX7_tryJoin c73 c79 x1 x2 x3 x4 h = some b → WK 73 (.inl (some (aI b.1))) σ0 (abH 2 70 g b.2) 32 [(0, aR 34), (1, aI x1), (2, aI x2), (3, aI x3), (4, aI x4)] [] (abH 2 70 g h) 0 0 := by
  intro x1 x2 x3 x4 h b q
  have e : ∀ (f74 : Int → Int → Int → HH → Option HH) , bX7_findJoin_32 f74 c73 c79 x1 x2 x3 x4 h = segW 2 70 g.2.2.2.2 krWI (clC 74 (pX7_tryJoin f74) clN) csX7_findJoin (cuC 73 (fun l st s => tkC 0 34 l <| tkI 1 l fun x1 => tkI 2 l fun x2 => tkI 3 l fun x3 => tkI 4 l fun x4 => skE st (c73 x1 x2 x3 x4 s)) (cuC 79 (fun l st s => tkC 0 34 l <| tkI 1 l fun x1 => tkI 2 l fun x2 => skE st (c79 x1 x2 s)) cuN)) 1000 32 [(0, aR 34), (1, aI x1), (2, aI x2), (3, aI x3), (4, aI x4)] [] h := fun _ => rfl
  rw [e nX7_tryJoin] at q
  clear e
  refine segW_wk (by decide) (by decide) hg rwX7_findJoin (CLKW_C (pX7_tryJoin_ok hg) CLKW_N) krWI_ok ?_ q
  clear q
  refine ct_C ?_ (ct_C ?_ (ct_N))
  · intro l st h q
    obtain ⟨m0, q1⟩ := tkC_of q
    obtain ⟨x1, m1, q2⟩ := tkI_of q1
    obtain ⟨x2, m2, q3⟩ := tkI_of q2
    obtain ⟨x3, m3, q4⟩ := tkI_of q3
    obtain ⟨x4, m4, q5⟩ := tkI_of q4
    obtain ⟨rfl, q6⟩ := skE_of q5
    exact WK_less (k73 _ _ _ _ _ _ q6) (List.forall_mem_cons.mpr ⟨m0, (List.forall_mem_cons.mpr ⟨m1, (List.forall_mem_cons.mpr ⟨m2, (List.forall_mem_cons.mpr ⟨m3, (List.forall_mem_cons.mpr ⟨m4, (fun _ h => absurd h List.not_mem_nil)⟩)⟩)⟩)⟩)⟩)
  · intro l st h q
    obtain ⟨m0, q1⟩ := tkC_of q
    obtain ⟨x1, m1, q2⟩ := tkI_of q1
    obtain ⟨x2, m2, q3⟩ := tkI_of q2
    obtain ⟨rfl, q4⟩ := skE_of q3
    exact WK_less (k79 _ _ _ _ q4) (List.forall_mem_cons.mpr ⟨m0, (List.forall_mem_cons.mpr ⟨m1, (List.forall_mem_cons.mpr ⟨m2, (fun _ h => absurd h List.not_mem_nil)⟩)⟩)⟩)
def nX7_findJoin_32 (c12 : Int → Int → HH → Option (Int × HH)) : Nat → Int → Int → Int → Int → HH → Option (Int × HH) := iter (fun _ _ _ _ _ => none) (fun self => bX7_findJoin_32 nX7_tryJoin (nX7_findJoin_73 c12 self) (nX7_findJoin_79 c12))
theorem nX7_findJoin_32_s {c12 : Int → Int → HH → Option (Int × HH)} {F : Nat} : nX7_findJoin_32 c12 (F + 1) = bX7_findJoin_32 nX7_tryJoin (nX7_findJoin_73 c12 (nX7_findJoin_32 c12 F)) (nX7_findJoin_79 c12) := rfl
theorem wX7_findJoin_32 {g : SG} (hg : GOK g) {σ0 : SG} {c12 : Int → Int → HH → Option (Int × HH)} (k12 : ∀ (x1 : Int) (x2 : Int) (h : HH) (b : (Int × HH)), c12 x1 x2 h = some b → WK 73 (.inl (some (aI b.1))) σ0 (abH 2 70 g b.2) 12 [(0, aR 34), (1, aI x1), (2, aI x2)] [] (abH 2 70 g h) 0 0) : ∀ {F : Nat}, ∀ {x1 : Int} {x2 : Int} {x3 : Int} {x4 : Int} {h : HH} {b : (Int × HH)}, nX7_findJoin_32 c12 F x1 x2 x3 x4 h = some b → WK 73 (.inl (some (aI b.1))) σ0 (abH 2 70 g b.2) 32 [(0, aR 34), (1, aI x1), (2, aI x2), (3, aI x3), (4, aI x4)] [] (abH 2 70 g h) 0 0 := by
  intro F
  have z : ∀ (x1 : Int) (x2 : Int) (x3 : Int) (x4 : Int) (h : HH) (b : (Int × HH)), nX7_findJoin_32 c12 F x1 x2 x3 x4 h = some b → WK 73 (.inl (some (aI b.1))) σ0 (abH 2 70 g b.2) 32 [(0, aR 34), (1, aI x1), (2, aI x2), (3, aI x3), (4, aI x4)] [] (abH 2 70 g h) 0 0 := iter_ind (P := fun (c : Int → Int → Int → Int → HH → Option (Int × HH)) => ∀ (x1 : Int) (x2 : Int) (x3 : Int) (x4 : Int) (h : HH) (b : (Int × HH)), c x1 x2 x3 x4 h = some b → WK 73 (.inl (some (aI b.1))) σ0 (abH 2 70 g b.2) 32 [(0, aR 34), (1, aI x1), (2, aI x2), (3, aI x3), (4, aI x4)] [] (abH 2 70 g h) 0 0) (by
    intro x1 x2 x3 x4 h b q
    cases q) (fun self ih => by
    intro x1 x2 x3 x4 h b q
    exact uX7_findJoin_32 hg (fun _ _ _ _ _ _ q => wX7_findJoin_73 hg k12 ih q) (fun _ _ _ _ q => wX7_findJoin_79 hg k12 q) q) F
  intro x1 x2 x3 x4 h b q
  exact z _ _ _ _ _ _ q
def bX7_findJoin_12 (f75 : HH → Int → Option Int) (c32 : Int → Int → Int → Int → HH → Option (Int × HH)) (x1 : Int) (x2 : Int) (h : HH) : Option (Int × HH) :=
  if x2 < ((h.1 13 10) : Int) then
    bnd (f75 h x2) fun r1 =>
    c32 x1 x2 r1 0 h
  else
    gd ((0 : Int) ≤ (h.1 34 6) ∧ (h.1 34 6) ≤ (1 : Int)) <|
    some ((h.1 34 6), h)
theorem uX7_findJoin_12 {g : SG} (hg : GOK g) {σ0 : SG} {c32 : Int → Int → Int → Int → HH → Option (Int × HH)} (k32 : ∀ (x1 : Int) (x2 : Int) (x3 : Int) (x4 : Int) (h : HH) (b : (Int × HH)), c32 x1 x2 x3 x4 h = some b → WK 73 (.inl (some (aI b.1))) σ0 (abH 2 70 g b.2) 32 [(0, aR 34), (1, aI x1), (2, aI x2), (3, aI x3), (4, aI x4)] [] (abH 2 70 g h) 0 0) : ∀ {x1 : Int} {x2 : Int} {h : HH} {b : (Int × HH)}, bX7_findJoin_12 nX7_pieceThatEndsWith c32 x1 x2 h = some b → WK 73 (.inl (some (aI b.1))) σ0 (abH 2 70 g b.2) 12 [(0, aR 34), (1, aI x1), (2, aI x2)] [] (abH 2 70 g h) 0 0 := by
  intro x1 x2 h b q
  have e : ∀ (f75 : HH → Int → Option Int) , bX7_findJoin_12 f75 c32 x1 x2 h = segW 2 70 g.2.2.2.2 krWI (clC 75 (liPW (pX7_pieceThatEndsWith f75)) clN) csX7_findJoin (cuC 32 (fun l st s => tkC 0 34 l <| tkI 1 l fun x1 => tkI 2 l fun x2 => tkI 3 l fun x3 => tkI 4 l fun x4 => skE st (c32 x1 x2 x3 x4 s)) cuN) 1000 12 [(0, aR 34), (1, aI x1), (2, aI x2)] [] h := fun _ => rfl
  rw [e nX7_pieceThatEndsWith] at q
  clear e
  refine segW_wk (by decide) (by decide) hg rwX7_findJoin (CLKW_C (liPW_ok (pX7_pieceThatEndsWith_ok hg)) CLKW_N) krWI_ok ?_ q
  clear q
  refine ct_C ?_ (ct_N)
  · intro l st h q
    obtain ⟨m0, q1⟩ := tkC_of q
    obtain ⟨x1, m1, q2⟩ := tkI_of q1
    obtain ⟨x2, m2, q3⟩ := tkI_of q2
    obtain ⟨x3, m3, q4⟩ := tkI_of q3
    obtain ⟨x4, m4, q5⟩ := tkI_of q4
    obtain ⟨rfl, q6⟩ := skE_of q5
    exact WK_less (k32 _ _ _ _ _ _ q6) (List.forall_mem_cons.mpr ⟨m0, (List.forall_mem_cons.mpr ⟨m1, (List.forall_mem_cons.mpr ⟨m2, (List.forall_mem_cons.mpr ⟨m3, (List.forall_mem_cons.mpr ⟨m4, (fun _ h => absurd h List.not_mem_nil)⟩)⟩)⟩)⟩)⟩)
def nX7_findJoin_12 : Nat → Int → Int → HH → Option (Int × HH) := iter (fun _ _ _ => none) (fun self => bX7_findJoin_12 nX7_pieceThatEndsWith (nX7_findJoin_32 self 100000))
theorem nX7_findJoin_12_s {F : Nat} : nX7_findJoin_12 (F + 1) = bX7_findJoin_12 nX7_pieceThatEndsWith (nX7_findJoin_32 (nX7_findJoin_12 F) 100000) := rfl
theorem wX7_findJoin_12 {g : SG} (hg : GOK g) {σ0 : SG} : ∀ {F : Nat}, ∀ {x1 : Int} {x2 : Int} {h : HH} {b : (Int × HH)}, nX7_findJoin_12 F x1 x2 h = some b → WK 73 (.inl (some (aI b.1))) σ0 (abH 2 70 g b.2) 12 [(0, aR 34), (1, aI x1), (2, aI x2)] [] (abH 2 70 g h) 0 0 := by
  intro F
  have z : ∀ (x1 : Int) (x2 : Int) (h : HH) (b : (Int × HH)), nX7_findJoin_12 F x1 x2 h = some b → WK 73 (.inl (some (aI b.1))) σ0 (abH 2 70 g b.2) 12 [(0, aR 34), (1, aI x1), (2, aI x2)] [] (abH 2 70 g h) 0 0 := iter_ind (P := fun (c : Int → Int → HH → Option (Int × HH)) => ∀ (x1 : Int) (x2 : Int) (h : HH) (b : (Int × HH)), c x1 x2 h = some b → WK 73 (.inl (some (aI b.1))) σ0 (abH 2 70 g b.2) 12 [(0, aR 34), (1, aI x1), (2, aI x2)] [] (abH 2 70 g h) 0 0) (by
    intro x1 x2 h b q
    cases q) (fun self ih => by
    intro x1 x2 h b q
    exact uX7_findJoin_12 hg (fun _ _ _ _ _ _ q => wX7_findJoin_32 hg ih q) q) F
  intro x1 x2 h b q
  exact z _ _ _ _ q
def bX7_findJoin (c12 : Int → Int → HH → Option (Int × HH)) (x1 : Int) (h : HH) : Option (Int × HH) :=
  gd ((0 : Int) ≤ 0 ∧ 0 ≤ (1 : Int)) <|
    bnd (some (hI h 34 6 0)) fun h1 =>
    bnd (some (hI h1 34 12 0)) fun h2 =>
    c12 x1 0 h2
theorem uX7_findJoin {g : SG} (hg : GOK g) {σ0 : SG} {c12 : Int → Int → HH → Option (Int × HH)} (k12 : ∀ (x1 : Int) (x2 : Int) (h : HH) (b : (Int × HH)), c12 x1 x2 h = some b → WK 73 (.inl (some (aI b.1))) σ0 (abH 2 70 g b.2) 12 [(0, aR 34), (1, aI x1), (2, aI x2)] [] (abH 2 70 g h) 0 0) : ∀ {x1 : Int} {h : HH} {b : (Int × HH)}, bX7_findJoin c12 x1 h = some b → WK 73 (.inl (some (aI b.1))) σ0 (abH 2 70 g b.2) 0 [(0, aR 34), (1, aI x1)] [] (abH 2 70 g h) 0 0 := by
  intro x1 h b q
  have e : bX7_findJoin c12 x1 h = segW 2 70 g.2.2.2.2 krWI clN csX7_findJoin (cuC 12 (fun l st s => tkC 0 34 l <| tkI 1 l fun x1 => tkI 2 l fun x2 => skE st (c12 x1 x2 s)) cuN) 1000 0 [(0, aR 34), (1, aI x1)] [] h := rfl
  rw [e] at q
  clear e
  refine segW_wk (by decide) (by decide) hg rwX7_findJoin CLKW_N krWI_ok ?_ q
  clear q
  refine ct_C ?_ (ct_N)
  · intro l st h q
    obtain ⟨m0, q1⟩ := tkC_of q
    obtain ⟨x1, m1, q2⟩ := tkI_of q1
    obtain ⟨x2, m2, q3⟩ := tkI_of q2
    obtain ⟨rfl, q4⟩ := skE_of q3
    exact WK_less (k12 _ _ _ _ q4) (List.forall_mem_cons.mpr ⟨m0, (List.forall_mem_cons.mpr ⟨m1, (List.forall_mem_cons.mpr ⟨m2, (fun _ h => absurd h List.not_mem_nil)⟩)⟩)⟩)
def nX7_findJoin (x1 : Int) (h : HH) : Option (Int × HH) := bX7_findJoin (nX7_findJoin_12 100000) x1 h
theorem wX7_findJoin {g : SG} (hg : GOK g) {σ0 : SG} : ∀ {x1 : Int} {h : HH} {b : (Int × HH)}, nX7_findJoin x1 h = some b → WK 73 (.inl (some (aI b.1))) σ0 (abH 2 70 g b.2) 0 [(0, aR 34), (1, aI x1)] [] (abH 2 70 g h) 0 0 := by
  intro x1 h b q
  exact uX7_findJoin hg (fun _ _ _ _ q => wX7_findJoin_12 hg q) q
theorem mX7_findJoin {g : SG} (hg : GOK g) {h : HH} {x1 : Int} {b : (Int × HH)} (q : nX7_findJoin x1 h = some b) : MCT 73 [] [aR 34, aI x1] (abH 2 70 g h) (.inl (some (aI b.1))) (abH 2 70 g b.2) :=
  mct_of (by decide) (MFok 73 (by decide +kernel)) (fun _ => Nat.le_of_ble_eq_true rfl) (wX7_findJoin hg q)
def pX7_findJoin {β : Type} (z : Int → HH → Option (Int × HH)) : PW β := fun as h f => skC 34 as fun as => skI as fun x1 as => skE as (bnd (z x1 h) fun r => f (.inl (some (aI r.1))) r.2)
theorem pX7_findJoin_ok {β : Type} {g : SG} (hg : GOK g) : CW1 (β := β) 73 (pX7_findJoin nX7_findJoin) 2 70 g := fun as h f b q => by
  obtain ⟨as, rfl, q1⟩ := skC_of q
  obtain ⟨x1, as, rfl, q2⟩ := skI_of q1
  obtain ⟨rfl, q0⟩ := skE_of q2
  obtain ⟨r, z1, z2⟩ := bnd_of q0
  exact ⟨_, _, z2, by decide, mX7_findJoin hg z1, rfl, rfl, fun z => absurd z (by decide)⟩
def csX7_longestPiece : List (Nat × List (Nat × ARow)) := [(100000, [(0, 1, .iconst 0, 0, 0, 0), (1, 1, .istore_n 1, 0, 0, 0), (2, 1, .iconst 1, 0, 0, 0), (3, 1, .istore_n 2, 0, 0, 0), (4, 1, .iload_n 2, 0, 0, 0), (5, 2, .bipush 9, 0, 0, 0), (7, 3, .if_icmp .ge 26, 33, 0, 0), (10, 1, .aload_n 0, 0, 0, 0), (11, 3, .getfield 26, 7, 11, 2), (14, 1, .iload_n 2, 0, 0, 0), (15, 1, .iaload, 0, 0, 0), (16, 1, .aload_n 0, 0, 0, 0), (17, 3, .getfield 26, 7, 11, 2), (20, 1, .iload_n 1, 0, 0, 0), (21, 1, .iaload, 0, 0, 0), (22, 3, .if_icmp .le 5, 27, 0, 0), (25, 1, .iload_n 2, 0, 0, 0), (26, 1, .istore_n 1, 0, 0, 0), (27, 3, .iinc 2 1, 0, 0, 0), (30, 3, .goto (-26), 4, 0, 0), (33, 1, .iload_n 1, 0, 0, 0), (34, 1, .ireturn, 0, 0, 0)])]
theorem rwX7_longestPiece : rowsB (mB 76) (mO 76) (mX 76) (mIni 76) (mFr 76) (mLo 76) (mT 76) csX7_longestPiece = true := by decide +kernel
def bX7_longestPiece_27 (h : HH) (c4 : Int → Int → Option Int) (x1 : Int) (x2 : Int) : Option Int :=
  gd (R32 (x2 + 1)) <|
    c4 x1 (x2 + 1)
theorem uX7_longestPiece_27 {g : SG} (hg : GOK g) {σ0 : SG} {h : HH} {c4 : Int → Int → Option Int} (k4 : ∀ (x1 : Int) (x2 : Int) (b : Int), c4 x1 x2 = some b → WK 76 (.inl (some (aI b))) σ0 (abH 2 70 g h) 4 [(0, aR 34), (1, aI x1), (2, aI x2)] [] (abH 2 70 g h) 0 0) : ∀ {x1 : Int} {x2 : Int} {b : Int}, bX7_longestPiece_27 h c4 x1 x2 = some b → WK 76 (.inl (some (aI b))) σ0 (abH 2 70 g h) 27 [(0, aR 34), (1, aI x1), (2, aI x2)] [] (abH 2 70 g h) 0 0 := by
  intro x1 x2 b q
  have e : bX7_longestPiece_27 h c4 x1 x2 = segP 2 70 g.2.2.2.2 h krPI clNP csX7_longestPiece (cuC 4 (fun l st s => tkC 0 34 l <| tkI 1 l fun x1 => tkI 2 l fun x2 => skE st (c4 x1 x2)) cuN) 1000 27 [(0, aR 34), (1, aI x1), (2, aI x2)] [] := rfl
  rw [e] at q
  clear e
  refine segP_wk (by decide) (by decide) hg rwX7_longestPiece CLKP_N krPI_ok ?_ q
  clear q
  refine ct_C ?_ (ct_N)
  · intro l st _ q
    obtain ⟨m0, q1⟩ := tkC_of q
    obtain ⟨x1, m1, q2⟩ := tkI_of q1
    obtain ⟨x2, m2, q3⟩ := tkI_of q2
    obtain ⟨rfl, q4⟩ := skE_of q3
    exact WK_less (k4 _ _ _ q4) (List.forall_mem_cons.mpr ⟨m0, (List.forall_mem_cons.mpr ⟨m1, (List.forall_mem_cons.mpr ⟨m2, (fun _ h => absurd h List.not_mem_nil)⟩)⟩)⟩)
def nX7_longestPiece_27 (h : HH) (c4 : Int → Int → Option Int) (x1 : Int) (x2 : Int) : Option Int := bX7_longestPiece_27 h c4 x1 x2
theorem wX7_longestPiece_27 {g : SG} (hg : GOK g) {σ0 : SG} {h : HH} {c4 : Int → Int → Option Int} (k4 : ∀ (x1 : Int) (x2 : Int) (b : Int), c4 x1 x2 = some b → WK 76 (.inl (some (aI b))) σ0 (abH 2 70 g h) 4 [(0, aR 34), (1, aI x1), (2, aI x2)] [] (abH 2 70 g h) 0 0) : ∀ {x1 : Int} {x2 : Int} {b : Int}, nX7_longestPiece_27 h c4 x1 x2 = some b → WK 76 (.inl (some (aI b))) σ0 (abH 2 70 g h) 27 [(0, aR 34), (1, aI x1), (2, aI x2)] [] (abH 2 70 g h) 0 0 := by
  intro x1 x2 b q
  exact uX7_longestPiece_27 hg k4 q
def bX7_longestPiece_4 (h : HH) (c27 : Int → Int → Option Int) (x1 : Int) (x2 : Int) : Option Int :=
  if x2 < (9 : Int) then
    gd ((0 : Int) ≤ x2 ∧ x2 < (9 : Int)) <|
    gd ((0 : Int) ≤ x1 ∧ x1 < (9 : Int)) <|
    if ((h.1 48 x1) : Int) < (h.1 48 x2) then
    c27 x2 x2
  else
    c27 x1 x2
  else
    some x1
theorem uX7_longestPiece_4 {g : SG} (hg : GOK g) {σ0 : SG} {h : HH} {c27 : Int → Int → Option Int} (k27 : ∀ (x1 : Int) (x2 : Int) (b : Int), c27 x1 x2 = some b → WK 76 (.inl (some (aI b))) σ0 (abH 2 70 g h) 27 [(0, aR 34), (1, aI x1), (2, aI x2)] [] (abH 2 70 g h) 0 0) : ∀ {x1 : Int} {x2 : Int} {b : Int}, bX7_longestPiece_4 h c27 x1 x2 = some b → WK 76 (.inl (some (aI b))) σ0 (abH 2 70 g h) 4 [(0, aR 34), (1, aI x1), (2, aI x2)] [] (abH 2 70 g h) 0 0 := by
  intro x1 x2 b q
  have e : bX7_longestPiece_4 h c27 x1 x2 = segP 2 70 g.2.2.2.2 h krPI clNP csX7_longestPiece (cuC 27 (fun l st s => tkC 0 34 l <| tkI 1 l fun x1 => tkI 2 l fun x2 => skE st (c27 x1 x2)) cuN) 1000 4 [(0, aR 34), (1, aI x1), (2, aI x2)] [] := rfl
  rw [e] at q
  clear e
  refine segP_wk (by decide) (by decide) hg rwX7_longestPiece CLKP_N krPI_ok ?_ q
  clear q
  refine ct_C ?_ (ct_N)
  · intro l st _ q
    obtain ⟨m0, q1⟩ := tkC_of q
    obtain ⟨x1, m1, q2⟩ := tkI_of q1
    obtain ⟨x2, m2, q3⟩ := tkI_of q2
    obtain ⟨rfl, q4⟩ := skE_of q3
    exact WK_less (k27 _ _ _ q4) (List.forall_mem_cons.mpr ⟨m0, (List.forall_mem_cons.mpr ⟨m1, (List.forall_mem_cons.mpr ⟨m2, (fun _ h => absurd h List.not_mem_nil)⟩)⟩)⟩)
def nX7_longestPiece_4 (h : HH) : Nat → Int → Int → Option Int := iter (fun _ _ => none) (fun self => bX7_longestPiece_4 h (nX7_longestPiece_27 h self))
theorem nX7_longestPiece_4_s {h : HH} {F : Nat} : nX7_longestPiece_4 h (F + 1) = bX7_longestPiece_4 h (nX7_longestPiece_27 h (nX7_longestPiece_4 h F)) := rfl
theorem wX7_longestPiece_4 {g : SG} (hg : GOK g) {σ0 : SG} {h : HH} : ∀ {F : Nat}, ∀ {x1 : Int} {x2 : Int} {b : Int}, nX7_longestPiece_4 h F x1 x2 = some b → WK 76 (.inl (some (aI b))) σ0 (abH 2 70 g h) 4 [(0, aR 34), (1, aI x1), (2, aI x2)] [] (abH 2 70 g h) 0 0 := by
  intro F
  have z : ∀ (x1 : Int) (x2 : Int) (b : Int), nX7_longestPiece_4 h F x1 x2 = some b → WK 76 (.inl (some (aI b))) σ0 (abH 2 70 g h) 4 [(0, aR 34), (1, aI x1), (2, aI x2)] [] (abH 2 70 g h) 0 0 := iter_ind (P := fun (c : Int → Int → Option Int) => ∀ (x1 : Int) (x2 : Int) (b : Int), c x1 x2 = some b → WK 76 (.inl (some (aI b))) σ0 (abH 2 70 g h) 4 [(0, aR 34), (1, aI x1), (2, aI x2)] [] (abH 2 70 g h) 0 0) (by
    intro x1 x2 b q
    cases q) (fun self ih => by
    intro x1 x2 b q
    exact uX7_longestPiece_4 hg (fun _ _ _ q => wX7_longestPiece_27 hg ih q) q) F
  intro x1 x2 b q
  exact z _ _ _ q
def bX7_longestPiece (h : HH) (c4 : Int → Int → Option Int) : Option Int :=
  c4 0 1
theorem uX7_longestPiece {g : SG} (hg : GOK g) {σ0 : SG} {h : HH} {c4 : Int → Int → Option Int} (k4 : ∀ (x1 : Int) (x2 : Int) (b : Int), c4 x1 x2 = some b → WK 76 (.inl (some (aI b))) σ0 (abH 2 70 g h) 4 [(0, aR 34), (1, aI x1), (2, aI x2)] [] (abH 2 70 g h) 0 0) : ∀ {b : Int}, bX7_longestPiece h c4 = some b → WK 76 (.inl (some (aI b))) σ0 (abH 2 70 g h) 0 [(0, aR 34)] [] (abH 2 70 g h) 0 0 := by
  intro  b q
  have e : bX7_longestPiece h c4 = segP 2 70 g.2.2.2.2 h krPI clNP csX7_longestPiece (cuC 4 (fun l st s => tkC 0 34 l <| tkI 1 l fun x1 => tkI 2 l fun x2 => skE st (c4 x1 x2)) cuN) 1000 0 [(0, aR 34)] [] := rfl
  rw [e] at q
  clear e
  refine segP_wk (by decide) (by decide) hg rwX7_longestPiece CLKP_N krPI_ok ?_ q
  clear q
  refine ct_C ?_ (ct_N)
  · intro l st _ q
    obtain ⟨m0, q1⟩ := tkC_of q
    obtain ⟨x1, m1, q2⟩ := tkI_of q1
    obtain ⟨x2, m2, q3⟩ := tkI_of q2
    obtain ⟨rfl, q4⟩ := skE_of q3
    exact WK_less (k4 _ _ _ q4) (List.forall_mem_cons.mpr ⟨m0, (List.forall_mem_cons.mpr ⟨m1, (List.forall_mem_cons.mpr ⟨m2, (fun _ h => absurd h List.not_mem_nil)⟩)⟩)⟩)
def nX7_longestPiece (h : HH) : Option Int := bX7_longestPiece h (nX7_longestPiece_4 h 100000)
theorem wX7_longestPiece {g : SG} (hg : GOK g) {σ0 : SG} {h : HH} : ∀ {b : Int}, nX7_longestPiece h = some b → WK 76 (.inl (some (aI b))) σ0 (abH 2 70 g h) 0 [(0, aR 34)] [] (abH 2 70 g h) 0 0 := by
  intro  b q
  exact uX7_longestPiece hg (fun _ _ _ q => wX7_longestPiece_4 hg q) q
theorem mX7_longestPiece {g : SG} (hg : GOK g) {h : HH} {b : Int} (q : nX7_longestPiece h = some b) : MCT 76 [] [aR 34] (abH 2 70 g h) (.inl (some (aI b))) (abH 2 70 g h) :=
  mct_of (by decide) (MFok 76 (by decide +kernel)) (fun _ => Nat.le_of_ble_eq_true rfl) (wX7_longestPiece hg q)
def pX7_longestPiece {β : Type} (z : HH → Option Int) : PP β := fun h as f => skC 34 as fun as => skE as (bnd (z h) fun r => f (.inl (some (aI r))))
theorem pX7_longestPiece_ok {β : Type} {g : SG} (hg : GOK g) : CP1 (β := β) 76 (pX7_longestPiece nX7_longestPiece) 2 70 g := fun h as f b q => by
  obtain ⟨as, rfl, q1⟩ := skC_of q
  obtain ⟨rfl, q0⟩ := skE_of q1
  obtain ⟨r, z1, z2⟩ := bnd_of q0
  exact ⟨_, z2, by decide, mX7_longestPiece hg z1, rfl, rfl, fun z => absurd z (by decide)⟩
