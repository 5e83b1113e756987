def csX12_services : List (Nat × List (Nat × ARow)) := [(33, [(0, 1, .iconst 0, 0, 0, 0), (1, 1, .istore_n 2, 0, 0, 0), (2, 1, .iconst 0, 0, 0, 0), (3, 1, .istore_n 3, 0, 0, 0), (4, 1, .iload_n 3, 0, 0, 0), (5, 1, .aload_n 0, 0, 0, 0), (6, 3, .getfield 79, 12, 26, 2), (9, 1, .iload_n 1, 0, 0, 0), (10, 1, .iaload, 0, 0, 0), (11, 3, .if_icmp .ge 28, 39, 0, 0), (14, 1, .iload_n 2, 0, 0, 0), (15, 1, .aload_n 0, 0, 0, 0), (16, 3, .getfield 52, 12, 16, 2), (19, 1, .aload_n 0, 0, 0, 0), (20, 3, .getfield 76, 12, 25, 2), (23, 2, .bipush 9, 0, 0, 0), (25, 1, .iload_n 1, 0, 0, 0), (26, 1, .imul, 0, 0, 0), (27, 1, .iload_n 3, 0, 0, 0), (28, 1, .iadd, 0, 0, 0), (29, 1, .iaload, 0, 0, 0), (30, 1, .iaload, 0, 0, 0), (31, 1, .iadd, 0, 0, 0), (32, 1, .istore_n 2, 0, 0, 0)]),
  (100000, [(33, 3, .iinc 3 1, 0, 0, 0), (36, 3, .goto (-32), 4, 0, 0), (39, 1, .iload_n 2, 0, 0, 0), (40, 1, .ireturn, 0, 0, 0)])]
theorem rwX12_services : rowsB (mB 229) (mO 229) (mX 229) (mIni 229) (mFr 229) (mLo 229) (mT 229) csX12_services = true := by decide +kernel
def bX12_services_4 (h : HH) (c4 : Int → Int → Int → Option Int) (x1 : Int) (x2 : Int) (x3 : Int) : Option Int :=
  gd ((0 : Int) ≤ x1 ∧ x1 < (3 : Int)) <|
    if x3 < ((h.1 95 x1) : Int) then
    gd (R32 (9 * x1)) <|
    gd (R32 ((9 * x1) + x3)) <|
    gd ((0 : Int) ≤ ((9 * x1) + x3) ∧ ((9 * x1) + x3) < (27 : Int)) <|
    gd ((0 : Int) ≤ (h.1 94 ((9 * x1) + x3)) ∧ (h.1 94 ((9 * x1) + x3)) < (9 : Int)) <|
    gd (R32 (x2 + (h.1 86 (h.1 94 ((9 * x1) + x3))))) <|
    gd (R32 (x3 + 1)) <|
    c4 x1 (x2 + (h.1 86 (h.1 94 ((9 * x1) + x3)))) (x3 + 1)
  else
    some x2
set_option maxRecDepth 100000 in
theorem uX12_services_4 {g : SG} (hg : GOK g) {σ0 : SG} {h : HH} {c4 : Int → Int → Int → Option Int} (k4 : ∀ (x1 : Int) (x2 : Int) (x3 : Int) (b : Int), c4 x1 x2 x3 = some b → WK 229 (.inl (some (aI b))) σ0 (abH 71 119 g h) 4 [(0, aR 71), (1, aI x1), (2, aI x2), (3, aI x3)] [] (abH 71 119 g h) 0 0) : ∀ {x1 : Int} {x2 : Int} {x3 : Int} {b : Int}, bX12_services_4 h c4 x1 x2 x3 = some b → WK 229 (.inl (some (aI b))) σ0 (abH 71 119 g h) 4 [(0, aR 71), (1, aI x1), (2, aI x2), (3, aI x3)] [] (abH 71 119 g h) 0 0 := by
  intro x1 x2 x3 b q
  have e : bX12_services_4 h c4 x1 x2 x3 = segP 71 119 g.2.2.2.2 h krPI clNP csX12_services (cuC 4 (fun l st s => tkC 0 71 l <| tkI 1 l fun x1 => tkI 2 l fun x2 => tkI 3 l fun x3 => skE st (c4 x1 x2 x3)) cuN) 1000 4 [(0, aR 71), (1, aI x1), (2, aI x2), (3, aI x3)] [] := rfl
  rw [e] at q
  clear e
  refine segP_wk (by decide) (by decide) hg rwX12_services CLKP_N krPI_ok ?_ q
  clear q
  refine ct_C ?_ (ct_N)
  · intro l st _ q
    obtain ⟨m0, q1⟩ := tkC_of q
    obtain ⟨x1, m1, q2⟩ := tkI_of q1
    obtain ⟨x2, m2, q3⟩ := tkI_of q2
    obtain ⟨x3, m3, q4⟩ := tkI_of q3
    obtain ⟨rfl, q5⟩ := skE_of q4
    exact WK_less (k4 _ _ _ _ q5) (List.forall_mem_cons.mpr ⟨m0, (List.forall_mem_cons.mpr ⟨m1, (List.forall_mem_cons.mpr ⟨m2, (List.forall_mem_cons.mpr ⟨m3, (fun _ h => absurd h List.not_mem_nil)⟩)⟩)⟩)⟩)
def nX12_services_4 (h : HH) : Nat → Int → Int → Int → Option Int := iter (fun _ _ _ => none) (fun self => bX12_services_4 h self)
theorem nX12_services_4_s {h : HH} {F : Nat} : nX12_services_4 h (F + 1) = bX12_services_4 h (nX12_services_4 h F) := rfl
theorem wX12_services_4 {g : SG} (hg : GOK g) {σ0 : SG} {h : HH} : ∀ {F : Nat}, ∀ {x1 : Int} {x2 : Int} {x3 : Int} {b : Int}, nX12_services_4 h F x1 x2 x3 = some b → WK 229 (.inl (some (aI b))) σ0 (abH 71 119 g h) 4 [(0, aR 71), (1, aI x1), (2, aI x2), (3, aI x3)] [] (abH 71 119 g h) 0 0 := by
  intro F
  have z : ∀ (x1 : Int) (x2 : Int) (x3 : Int) (b : Int), nX12_services_4 h F x1 x2 x3 = some b → WK 229 (.inl (some (aI b))) σ0 (abH 71 119 g h) 4 [(0, aR 71), (1, aI x1), (2, aI x2), (3, aI x3)] [] (abH 71 119 g h) 0 0 := iter_ind (P := fun (c : Int → Int → Int → Option Int) => ∀ (x1 : Int) (x2 : Int) (x3 : Int) (b : Int), c x1 x2 x3 = some b → WK 229 (.inl (some (aI b))) σ0 (abH 71 119 g h) 4 [(0, aR 71), (1, aI x1), (2, aI x2), (3, aI x3)] [] (abH 71 119 g h) 0 0) (by
    intro x1 x2 x3 b q
    cases q) (fun self ih => by
    intro x1 x2 x3 b q
    exact uX12_services_4 hg ih q) F
  intro x1 x2 x3 b q
  exact z _ _ _ _ q
def bX12_services (h : HH) (c4 : Int → Int → Int → Option Int) (x1 : Int) : Option Int :=
  c4 x1 0 0
theorem uX12_services {g : SG} (hg : GOK g) {σ0 : SG} {h : HH} {c4 : Int → Int → Int → Option Int} (k4 : ∀ (x1 : Int) (x2 : Int) (x3 : Int) (b : Int), c4 x1 x2 x3 = some b → WK 229 (.inl (some (aI b))) σ0 (abH 71 119 g h) 4 [(0, aR 71), (1, aI x1), (2, aI x2), (3, aI x3)] [] (abH 71 119 g h) 0 0) : ∀ {x1 : Int} {b : Int}, bX12_services h c4 x1 = some b → WK 229 (.inl (some (aI b))) σ0 (abH 71 119 g h) 0 [(0, aR 71), (1, aI x1)] [] (abH 71 119 g h) 0 0 := by
  intro x1 b q
  have e : bX12_services h c4 x1 = segP 71 119 g.2.2.2.2 h krPI clNP csX12_services (cuC 4 (fun l st s => tkC 0 71 l <| tkI 1 l fun x1 => tkI 2 l fun x2 => tkI 3 l fun x3 => skE st (c4 x1 x2 x3)) cuN) 1000 0 [(0, aR 71), (1, aI x1)] [] := rfl
  rw [e] at q
  clear e
  refine segP_wk (by decide) (by decide) hg rwX12_services CLKP_N krPI_ok ?_ q
  clear q
  refine ct_C ?_ (ct_N)
  · intro l st _ q
    obtain ⟨m0, q1⟩ := tkC_of q
    obtain ⟨x1, m1, q2⟩ := tkI_of q1
    obtain ⟨x2, m2, q3⟩ := tkI_of q2
    obtain ⟨x3, m3, q4⟩ := tkI_of q3
    obtain ⟨rfl, q5⟩ := skE_of q4
    exact WK_less (k4 _ _ _ _ q5) (List.forall_mem_cons.mpr ⟨m0, (List.forall_mem_cons.mpr ⟨m1, (List.forall_mem_cons.mpr ⟨m2, (List.forall_mem_cons.mpr ⟨m3, (fun _ h => absurd h List.not_mem_nil)⟩)⟩)⟩)⟩)
def nX12_services (h : HH) (x1 : Int) : Option Int := bX12_services h (nX12_services_4 h 100000) x1
theorem wX12_services {g : SG} (hg : GOK g) {σ0 : SG} {h : HH} : ∀ {x1 : Int} {b : Int}, nX12_services h x1 = some b → WK 229 (.inl (some (aI b))) σ0 (abH 71 119 g h) 0 [(0, aR 71), (1, aI x1)] [] (abH 71 119 g h) 0 0 := by
  intro x1 b q
  exact uX12_services hg (fun _ _ _ _ q => wX12_services_4 hg q) q
theorem mX12_services {g : SG} (hg : GOK g) {h : HH} {x1 : Int} {b : Int} (q : nX12_services h x1 = some b) : MCT 229 [] [aR 71, aI x1] (abH 71 119 g h) (.inl (some (aI b))) (abH 71 119 g h) :=
  mct_of (by decide) (MFok 229 (by decide +kernel)) (fun _ => Nat.le_of_ble_eq_true rfl) (wX12_services hg q)
def pX12_services {β : Type} (z : HH → Int → Option Int) : PP β := fun h as f => skC 71 as fun as => skI as fun x1 as => skE as (bnd (z h x1) fun r => f (.inl (some (aI r))))
theorem pX12_services_ok {β : Type} {g : SG} (hg : GOK g) : CP1 (β := β) 229 (pX12_services nX12_services) 71 119 g := fun h as f b q => by
  obtain ⟨as, rfl, q1⟩ := skC_of q
  obtain ⟨x1, as, rfl, q2⟩ := skI_of q1
  obtain ⟨rfl, q0⟩ := skE_of q2
  obtain ⟨r, z1, z2⟩ := bnd_of q0
  exact ⟨_, z2, by decide, mX12_services hg z1, rfl, rfl, fun z => absurd z (by decide)⟩
def csX12_ofRound : List (Nat × List (Nat × ARow)) := [(77, [(0, 1, .aload_n 0, 0, 0, 0), (1, 1, .iload_n 1, 0, 0, 0), (2, 3, .invokevirtual 260, 176, 2, 12), (5, 3, .ifCond .ne 9, 14, 0, 0), (8, 1, .aload_n 0, 0, 0, 0), (9, 1, .iconst 1, 0, 0, 0), (10, 3, .invokevirtual 200, 177, 2, 12), (13, 1, .ireturn, 0, 0, 0), (14, 1, .iload_n 2, 0, 0, 0), (15, 1, .iconst 0, 0, 0, 0), (16, 2, .bipush 8, 0, 0, 0), (18, 3, .invokestatic 178, 171, 3, 0), (21, 3, .ifCond .ne 9, 30, 0, 0), (24, 1, .aload_n 0, 0, 0, 0), (25, 1, .iconst 2, 0, 0, 0), (26, 3, .invokevirtual 200, 177, 2, 12), (29, 1, .ireturn, 0, 0, 0), (30, 1, .aload_n 0, 0, 0, 0), (31, 1, .iload_n 1, 0, 0, 0), (32, 3, .invokevirtual 310, 197, 2, 12), (35, 1, .istore_n 3, 0, 0, 0), (36, 1, .iload_n 2, 0, 0, 0), (37, 39, .tableswitch 90 0 5 #[39, 45, 54, 63, 72, 81], 0, 0, 0), (76, 1, .aload_n 0, 0, 0, 0)]),
  (119, [(77, 1, .iload_n 3, 0, 0, 0), (78, 3, .invokevirtual 209, 178, 2, 12), (81, 1, .ireturn, 0, 0, 0), (82, 1, .aload_n 0, 0, 0, 0), (83, 1, .aload_n 0, 0, 0, 0), (84, 3, .getfield 226, 12, 53, 0), (87, 3, .invokevirtual 209, 178, 2, 12), (90, 1, .ireturn, 0, 0, 0), (91, 1, .aload_n 0, 0, 0, 0), (92, 1, .aload_n 0, 0, 0, 0), (93, 3, .getfield 229, 12, 54, 0), (96, 3, .invokevirtual 209, 178, 2, 12), (99, 1, .ireturn, 0, 0, 0), (100, 1, .aload_n 0, 0, 0, 0), (101, 1, .aload_n 0, 0, 0, 0), (102, 3, .getfield 232, 12, 55, 0), (105, 3, .invokevirtual 209, 178, 2, 12), (108, 1, .ireturn, 0, 0, 0), (109, 1, .aload_n 0, 0, 0, 0), (110, 1, .aload_n 0, 0, 0, 0), (111, 3, .getfield 235, 12, 56, 0), (114, 3, .invokevirtual 209, 178, 2, 12), (117, 1, .ireturn, 0, 0, 0), (118, 1, .aload_n 0, 0, 0, 0)]),
  (165, [(119, 1, .aload_n 0, 0, 0, 0), (120, 3, .getfield 238, 12, 57, 0), (123, 3, .invokevirtual 209, 178, 2, 12), (126, 1, .ireturn, 0, 0, 0), (127, 1, .aload_n 0, 0, 0, 0), (128, 1, .iload_n 1, 0, 0, 0), (129, 3, .invokevirtual 352, 227, 2, 12), (132, 1, .aload_n 0, 0, 0, 0), (133, 1, .iload_n 2, 0, 0, 0), (134, 2, .bipush 6, 0, 0, 0), (136, 3, .if_icmp .ne 10, 146, 0, 0), (139, 1, .aload_n 0, 0, 0, 0), (140, 3, .getfield 346, 12, 73, 0), (143, 3, .goto 31, 174, 0, 0), (146, 1, .iload_n 2, 0, 0, 0), (147, 2, .bipush 7, 0, 0, 0), (149, 3, .if_icmp .ne 15, 164, 0, 0), (152, 1, .aload_n 0, 0, 0, 0), (153, 3, .getfield 346, 12, 73, 0), (156, 1, .aload_n 0, 0, 0, 0), (157, 3, .invokevirtual 355, 228, 1, 12), (160, 1, .iadd, 0, 0, 0), (161, 3, .goto 13, 174, 0, 0), (164, 1, .aload_n 0, 0, 0, 0)]),
  (100000, [(165, 3, .getfield 346, 12, 73, 0), (168, 1, .aload_n 0, 0, 0, 0), (169, 1, .iload_n 1, 0, 0, 0), (170, 3, .invokevirtual 359, 229, 2, 12), (173, 1, .iadd, 0, 0, 0), (174, 3, .invokevirtual 209, 178, 2, 12), (177, 1, .ireturn, 0, 0, 0)])]
theorem rwX12_ofRound : rowsB (mB 230) (mO 230) (mX 230) (mIni 230) (mFr 230) (mLo 230) (mT 230) csX12_ofRound = true := by decide +kernel
def bX12_ofRound_174 (f178 : Int → HH → Option (Int × HH)) (y0 : Int) (h : HH) : Option (Int × HH) :=
  bnd (f178 y0 h) fun r1 =>
    some (r1.1, r1.2)
theorem uX12_ofRound_174 {g : SG} (hg : GOK g) {σ0 : SG} : ∀ {y0 : Int} {h : HH} {b : (Int × HH)}, bX12_ofRound_174 nX12_told y0 h = some b → WK 230 (.inl (some (aI b.1))) σ0 (abH 71 119 g b.2) 174 [] [aI y0, aR 71] (abH 71 119 g h) 0 0 := by
  intro y0 h b q
  have e : ∀ (f178 : Int → HH → Option (Int × HH)) , bX12_ofRound_174 f178 y0 h = segW 71 119 g.2.2.2.2 krWI (clC 178 (pX12_told f178) clN) csX12_ofRound cuN 1000 174 [] [aI y0, aR 71] h := fun _ => rfl
  rw [e nX12_told] at q
  clear e
  refine segW_wk (by decide) (by decide) hg rwX12_ofRound (CLKW_C (pX12_told_ok hg) CLKW_N) krWI_ok ?_ q
  clear q
  exact ct_N
def nX12_ofRound_174 (y0 : Int) (h : HH) : Option (Int × HH) := bX12_ofRound_174 nX12_told y0 h
theorem wX12_ofRound_174 {g : SG} (hg : GOK g) {σ0 : SG} : ∀ {y0 : Int} {h : HH} {b : (Int × HH)}, nX12_ofRound_174 y0 h = some b → WK 230 (.inl (some (aI b.1))) σ0 (abH 71 119 g b.2) 174 [] [aI y0, aR 71] (abH 71 119 g h) 0 0 := by
  intro y0 h b q
  exact uX12_ofRound_174 hg q
def bX12_ofRound_127 (f227 : Int → HH → Option HH) (f229 : HH → Int → Option Int) (f228 : HH → Option (Int × HH)) (c174 : Int → HH → Option (Int × HH)) (x1 : Int) (x2 : Int) (h : HH) : Option (Int × HH) :=
  bnd (f227 x1 h) fun r1 =>
    if x2 = (6 : Int) then
    c174 (r1.1 71 73) r1
  else
    if x2 = (7 : Int) then
    bnd (f228 r1) fun r3 =>
    gd (R32 ((r1.1 71 73) + r3.1)) <|
    c174 ((r1.1 71 73) + r3.1) r3.2
  else
    bnd (f229 r1 x1) fun r2 =>
    gd (R32 ((r1.1 71 73) + r2)) <|
    c174 ((r1.1 71 73) + r2) r1
theorem uX12_ofRound_127 {g : SG} (hg : GOK g) {σ0 : SG} {c174 : Int → HH → Option (Int × HH)} (k174 : ∀ (y0 : Int) (h : HH) (b : (Int × HH)), c174 y0 h = some b → WK 230 (.inl (some (aI b.1))) σ0 (abH 71 119 g b.2) 174 [] [aI y0, aR 71] (abH 71 119 g h) 0 0) : ∀ {x1 : Int} {x2 : Int} {h : HH} {b : (Int × HH)}, bX12_ofRound_127 nX12_laysTree nX12_services nX12_pairing c174 x1 x2 h = some b → WK 230 (.inl (some (aI b.1))) σ0 (abH 71 119 g b.2) 127 [(0, aR 71), (1, aI x1), (2, aI x2)] [] (abH 71 119 g h) 0 0 := by
  intro x1 x2 h b q
  have e : ∀ (f227 : Int → HH → Option HH) (f229 : HH → Int → Option Int) (f228 : HH → Option (Int × HH)) , bX12_ofRound_127 f227 f229 f228 c174 x1 x2 h = segW 71 119 g.2.2.2.2 krWI (clC 227 (pX12_laysTree f227) (clC 229 (liPW (pX12_services f229)) (clC 228 (pX12_pairing f228) clN))) csX12_ofRound (cuC 174 (fun l st s => skI st fun y0 st => skC 71 st fun st => skE st (c174 y0 s)) cuN) 1000 127 [(0, aR 71), (1, aI x1), (2, aI x2)] [] h := fun _ _ _ => rfl
  rw [e nX12_laysTree nX12_services nX12_pairing] at q
  clear e
  refine segW_wk (by decide) (by decide) hg rwX12_ofRound (CLKW_C (pX12_laysTree_ok hg) (CLKW_C (liPW_ok (pX12_services_ok hg)) (CLKW_C (pX12_pairing_ok hg) CLKW_N))) krWI_ok ?_ q
  clear q
  refine ct_C ?_ (ct_N)
  · intro l st h q
    obtain ⟨y0, t0, rfl, q1⟩ := skI_of q
    obtain ⟨t1, rfl, q2⟩ := skC_of q1
    obtain ⟨rfl, q3⟩ := skE_of q2
    exact WK_less (k174 _ _ _ q3) (fun _ h => absurd h List.not_mem_nil)
def nX12_ofRound_127 (x1 : Int) (x2 : Int) (h : HH) : Option (Int × HH) := bX12_ofRound_127 nX12_laysTree nX12_services nX12_pairing nX12_ofRound_174 x1 x2 h
theorem wX12_ofRound_127 {g : SG} (hg : GOK g) {σ0 : SG} : ∀ {x1 : Int} {x2 : Int} {h : HH} {b : (Int × HH)}, nX12_ofRound_127 x1 x2 h = some b → WK 230 (.inl (some (aI b.1))) σ0 (abH 71 119 g b.2) 127 [(0, aR 71), (1, aI x1), (2, aI x2)] [] (abH 71 119 g h) 0 0 := by
  intro x1 x2 h b q
  exact uX12_ofRound_127 hg (fun _ _ _ q => wX12_ofRound_174 hg q) q
def bX12_ofRound (f176 : HH → Int → Option Int) (f171 : HH → Int → Int → Int → Option Int) (f197 : Int → HH → Option (Int × HH)) (f178 : Int → HH → Option (Int × HH)) (f177 : Int → HH → Option (Int × HH)) (c127 : Int → Int → HH → Option (Int × HH)) (x1 : Int) (x2 : Int) (h : HH) : Option (Int × HH) :=
  bnd (f176 h x1) fun r1 =>
    if r1 = (0 : Int) then
    bnd (f177 1 h) fun r11 =>
    some (r11.1, r11.2)
  else
    bnd (f171 h x2 0 8) fun r2 =>
    if r2 = (0 : Int) then
    bnd (f177 2 h) fun r10 =>
    some (r10.1, r10.2)
  else
    bnd (f197 x1 h) fun r3 =>
    if x2 = (0 : Int) then
    bnd (f178 r3.1 r3.2) fun r4 =>
    some (r4.1, r4.2)
  else if x2 = (1 : Int) then
    bnd (f178 (r3.2.1 71 53) r3.2) fun r5 =>
    some (r5.1, r5.2)
  else if x2 = (2 : Int) then
    bnd (f178 (r3.2.1 71 54) r3.2) fun r6 =>
    some (r6.1, r6.2)
  else if x2 = (3 : Int) then
    bnd (f178 (r3.2.1 71 55) r3.2) fun r7 =>
    some (r7.1, r7.2)
  else if x2 = (4 : Int) then
    bnd (f178 (r3.2.1 71 56) r3.2) fun r8 =>
    some (r8.1, r8.2)
  else if x2 = (5 : Int) then
    bnd (f178 (r3.2.1 71 57) r3.2) fun r9 =>
    some (r9.1, r9.2)
  else 
    c127 x1 x2 r3.2
set_option maxRecDepth 100000 in
theorem uX12_ofRound {g : SG} (hg : GOK g) {σ0 : SG} {c127 : Int → Int → HH → Option (Int × HH)} (k127 : ∀ (x1 : Int) (x2 : Int) (h : HH) (b : (Int × HH)), c127 x1 x2 h = some b → WK 230 (.inl (some (aI b.1))) σ0 (abH 71 119 g b.2) 127 [(0, aR 71), (1, aI x1), (2, aI x2)] [] (abH 71 119 g h) 0 0) : ∀ {x1 : Int} {x2 : Int} {h : HH} {b : (Int × HH)}, bX12_ofRound nX12_isVan nX12_in nX12_costOf nX12_told nX12_refuse c127 x1 x2 h = some b → WK 230 (.inl (some (aI b.1))) σ0 (abH 71 119 g b.2) 0 [(0, aR 71), (1, aI x1), (2, aI x2)] [] (abH 71 119 g h) 0 0 := by
  intro x1 x2 h b q
  have e : ∀ (f176 : HH → Int → Option Int) (f171 : HH → Int → Int → Int → Option Int) (f197 : Int → HH → Option (Int × HH)) (f178 : Int → HH → Option (Int × HH)) (f177 : Int → HH → Option (Int × HH)) , bX12_ofRound f176 f171 f197 f178 f177 c127 x1 x2 h = segW 71 119 g.2.2.2.2 krWI (clC 176 (liPW (pX12_isVan f176)) (clC 171 (liPW (pX12_in f171)) (clC 197 (pX12_costOf f197) (clC 178 (pX12_told f178) (clC 177 (pX12_refuse f177) clN))))) csX12_ofRound (cuC 127 (fun l st s => tkC 0 71 l <| tkI 1 l fun x1 => tkI 2 l fun x2 => skE st (c127 x1 x2 s)) cuN) 1000 0 [(0, aR 71), (1, aI x1), (2, aI x2)] [] h := fun _ _ _ _ _ => rfl
  rw [e nX12_isVan nX12_in nX12_costOf nX12_told nX12_refuse] at q
  clear e
  refine segW_wk (by decide) (by decide) hg rwX12_ofRound (CLKW_C (liPW_ok (pX12_isVan_ok hg)) (CLKW_C (liPW_ok (pX12_in_ok hg)) (CLKW_C (pX12_costOf_ok hg) (CLKW_C (pX12_told_ok hg) (CLKW_C (pX12_refuse_ok hg) CLKW_N))))) krWI_ok ?_ q
  clear q
  refine ct_C ?_ (ct_N)
  · intro l st h q
    obtain ⟨m0, q1⟩ := tkC_of q
    obtain ⟨x1, m1, q2⟩ := tkI_of q1
    obtain ⟨x2, m2, q3⟩ := tkI_of q2
    obtain ⟨rfl, q4⟩ := skE_of q3
    exact WK_less (k127 _ _ _ _ q4) (List.forall_mem_cons.mpr ⟨m0, (List.forall_mem_cons.mpr ⟨m1, (List.forall_mem_cons.mpr ⟨m2, (fun _ h => absurd h List.not_mem_nil)⟩)⟩)⟩)
def nX12_ofRound (x1 : Int) (x2 : Int) (h : HH) : Option (Int × HH) := bX12_ofRound nX12_isVan nX12_in nX12_costOf nX12_told nX12_refuse nX12_ofRound_127 x1 x2 h
theorem wX12_ofRound {g : SG} (hg : GOK g) {σ0 : SG} : ∀ {x1 : Int} {x2 : Int} {h : HH} {b : (Int × HH)}, nX12_ofRound x1 x2 h = some b → WK 230 (.inl (some (aI b.1))) σ0 (abH 71 119 g b.2) 0 [(0, aR 71), (1, aI x1), (2, aI x2)] [] (abH 71 119 g h) 0 0 := by
  intro x1 x2 h b q
  exact uX12_ofRound hg (fun _ _ _ _ q => wX12_ofRound_127 hg q) q
theorem mX12_ofRound {g : SG} (hg : GOK g) {h : HH} {x1 : Int} {x2 : Int} {b : (Int × HH)} (q : nX12_ofRound x1 x2 h = some b) : MCT 230 [] [aR 71, aI x1, aI x2] (abH 71 119 g h) (.inl (some (aI b.1))) (abH 71 119 g b.2) :=
  mct_of (by decide) (MFok 230 (by decide +kernel)) (fun _ => Nat.le_of_ble_eq_true rfl) (wX12_ofRound hg q)
def pX12_ofRound {β : Type} (z : Int → Int → HH → Option (Int × HH)) : PW β := fun as h f => skC 71 as fun as => skI as fun x1 as => skI as fun x2 as => skE as (bnd (z x1 x2 h) fun r => f (.inl (some (aI r.1))) r.2)
theorem pX12_ofRound_ok {β : Type} {g : SG} (hg : GOK g) : CW1 (β := β) 230 (pX12_ofRound nX12_ofRound) 71 119 g := fun as h f b q => by
  obtain ⟨as, rfl, q1⟩ := skC_of q
  obtain ⟨x1, as, rfl, q2⟩ := skI_of q1
  obtain ⟨x2, as, rfl, q3⟩ := skI_of q2
  obtain ⟨rfl, q0⟩ := skE_of q3
  obtain ⟨r, z1, z2⟩ := bnd_of q0
  exact ⟨_, _, z2, by decide, mX12_ofRound hg z1, rfl, rfl, fun z => absurd z (by decide)⟩
def csX12_served : List (Nat × List (Nat × ARow)) := [(40, [(0, 1, .aload_n 0, 0, 0, 0), (1, 1, .iload_n 1, 0, 0, 0), (2, 3, .invokevirtual 220, 175, 2, 12), (5, 3, .ifCond .ne 9, 14, 0, 0), (8, 1, .aload_n 0, 0, 0, 0), (9, 1, .iconst 1, 0, 0, 0), (10, 3, .invokevirtual 200, 177, 2, 12), (13, 1, .ireturn, 0, 0, 0), (14, 1, .aload_n 0, 0, 0, 0), (15, 3, .getfield 64, 12, 20, 2), (18, 1, .iload_n 1, 0, 0, 0), (19, 1, .iaload, 0, 0, 0), (20, 1, .iconst (-1), 0, 0, 0), (21, 3, .if_icmp .ne 9, 30, 0, 0), (24, 1, .aload_n 0, 0, 0, 0), (25, 1, .iconst 2, 0, 0, 0), (26, 3, .invokevirtual 200, 177, 2, 12), (29, 1, .ireturn, 0, 0, 0), (30, 1, .aload_n 0, 0, 0, 0), (31, 1, .aload_n 0, 0, 0, 0), (32, 3, .getfield 64, 12, 20, 2), (35, 1, .iload_n 1, 0, 0, 0), (36, 1, .iaload, 0, 0, 0), (37, 3, .invokevirtual 310, 197, 2, 12)]),
  (100000, [(40, 1, .istore_n 2, 0, 0, 0), (41, 1, .aload_n 0, 0, 0, 0), (42, 1, .aload_n 0, 0, 0, 0), (43, 3, .getfield 136, 12, 50, 2), (46, 1, .iload_n 1, 0, 0, 0), (47, 1, .iaload, 0, 0, 0), (48, 3, .invokevirtual 209, 178, 2, 12), (51, 1, .ireturn, 0, 0, 0)])]
theorem rwX12_served : rowsB (mB 231) (mO 231) (mX 231) (mIni 231) (mFr 231) (mLo 231) (mT 231) csX12_served = true := by decide +kernel
def bX12_served (f175 : HH → Int → Option Int) (f197 : Int → HH → Option (Int × HH)) (f178 : Int → HH → Option (Int × HH)) (f177 : Int → HH → Option (Int × HH)) (x1 : Int) (h : HH) : Option (Int × HH) :=
  bnd (f175 h x1) fun r1 =>
    if r1 = (0 : Int) then
    bnd (f177 1 h) fun r5 =>
    some (r5.1, r5.2)
  else
    gd ((0 : Int) ≤ x1 ∧ x1 < (9 : Int)) <|
    if (h.1 90 x1) = ((-1) : Int) then
    bnd (f177 2 h) fun r4 =>
    some (r4.1, r4.2)
  else
    gd ((0 : Int) ≤ x1 ∧ x1 < (9 : Int)) <|
    bnd (f197 (h.1 90 x1) h) fun r2 =>
    gd ((0 : Int) ≤ x1 ∧ x1 < (9 : Int)) <|
    bnd (f178 (r2.2.1 108 x1) r2.2) fun r3 =>
    some (r3.1, r3.2)
set_option maxRecDepth 100000 in
theorem uX12_served {g : SG} (hg : GOK g) {σ0 : SG} : ∀ {x1 : Int} {h : HH} {b : (Int × HH)}, bX12_served nX12_isParcel nX12_costOf nX12_told nX12_refuse x1 h = some b → WK 231 (.inl (some (aI b.1))) σ0 (abH 71 119 g b.2) 0 [(0, aR 71), (1, aI x1)] [] (abH 71 119 g h) 0 0 := by
  intro x1 h b q
  have e : ∀ (f175 : HH → Int → Option Int) (f197 : Int → HH → Option (Int × HH)) (f178 : Int → HH → Option (Int × HH)) (f177 : Int → HH → Option (Int × HH)) , bX12_served f175 f197 f178 f177 x1 h = segW 71 119 g.2.2.2.2 krWI (clC 175 (liPW (pX12_isParcel f175)) (clC 197 (pX12_costOf f197) (clC 178 (pX12_told f178) (clC 177 (pX12_refuse f177) clN)))) csX12_served cuN 1000 0 [(0, aR 71), (1, aI x1)] [] h := fun _ _ _ _ => rfl
  rw [e nX12_isParcel nX12_costOf nX12_told nX12_refuse] at q
  clear e
  refine segW_wk (by decide) (by decide) hg rwX12_served (CLKW_C (liPW_ok (pX12_isParcel_ok hg)) (CLKW_C (pX12_costOf_ok hg) (CLKW_C (pX12_told_ok hg) (CLKW_C (pX12_refuse_ok hg) CLKW_N)))) krWI_ok ?_ q
  clear q
  exact ct_N
def nX12_served (x1 : Int) (h : HH) : Option (Int × HH) := bX12_served nX12_isParcel nX12_costOf nX12_told nX12_refuse x1 h
theorem wX12_served {g : SG} (hg : GOK g) {σ0 : SG} : ∀ {x1 : Int} {h : HH} {b : (Int × HH)}, nX12_served x1 h = some b → WK 231 (.inl (some (aI b.1))) σ0 (abH 71 119 g b.2) 0 [(0, aR 71), (1, aI x1)] [] (abH 71 119 g h) 0 0 := by
  intro x1 h b q
  exact uX12_served hg q
theorem mX12_served {g : SG} (hg : GOK g) {h : HH} {x1 : Int} {b : (Int × HH)} (q : nX12_served x1 h = some b) : MCT 231 [] [aR 71, aI x1] (abH 71 119 g h) (.inl (some (aI b.1))) (abH 71 119 g b.2) :=
  mct_of (by decide) (MFok 231 (by decide +kernel)) (fun _ => Nat.le_of_ble_eq_true rfl) (wX12_served hg q)
def pX12_served {β : Type} (z : Int → HH → Option (Int × HH)) : PW β := fun as h f => skC 71 as fun as => skI as fun x1 as => skE as (bnd (z x1 h) fun r => f (.inl (some (aI r.1))) r.2)
theorem pX12_served_ok {β : Type} {g : SG} (hg : GOK g) : CW1 (β := β) 231 (pX12_served nX12_served) 71 119 g := fun as h f b q => by
  obtain ⟨as, rfl, q1⟩ := skC_of q
  obtain ⟨x1, as, rfl, q2⟩ := skI_of q1
  obtain ⟨rfl, q0⟩ := skE_of q2
  obtain ⟨r, z1, z2⟩ := bnd_of q0
  exact ⟨_, _, z2, by decide, mX12_served hg z1, rfl, rfl, fun z => absurd z (by decide)⟩
def csX12_does : List (Nat × List (Nat × ARow)) := [(38, [(0, 1, .aload_n 0, 0, 0, 0), (1, 1, .iload_n 1, 0, 0, 0), (2, 3, .invokevirtual 260, 176, 2, 12), (5, 3, .ifCond .ne 9, 14, 0, 0), (8, 1, .aload_n 0, 0, 0, 0), (9, 1, .iconst 1, 0, 0, 0), (10, 3, .invokevirtual 200, 177, 2, 12), (13, 1, .ireturn, 0, 0, 0), (14, 1, .aload_n 0, 0, 0, 0), (15, 1, .iload_n 1, 0, 0, 0), (16, 3, .invokevirtual 310, 197, 2, 12), (19, 1, .istore_n 3, 0, 0, 0), (20, 1, .iload_n 2, 0, 0, 0), (21, 1, .aload_n 0, 0, 0, 0), (22, 3, .getfield 70, 12, 23, 2), (25, 1, .iload_n 1, 0, 0, 0), (26, 1, .iaload, 0, 0, 0), (27, 3, .if_icmp .lt 15, 42, 0, 0), (30, 1, .iload_n 2, 0, 0, 0), (31, 1, .aload_n 0, 0, 0, 0), (32, 3, .getfield 70, 12, 23, 2), (35, 1, .iload_n 1, 0, 0, 0), (36, 1, .iaload, 0, 0, 0), (37, 1, .iload_n 3, 0, 0, 0)]),
  (80, [(38, 1, .iadd, 0, 0, 0), (39, 3, .if_icmp .lt 9, 48, 0, 0), (42, 1, .aload_n 0, 0, 0, 0), (43, 1, .iconst 0, 0, 0, 0), (44, 3, .invokevirtual 209, 178, 2, 12), (47, 1, .ireturn, 0, 0, 0), (48, 1, .aload_n 0, 0, 0, 0), (49, 3, .getfield 70, 12, 23, 2), (52, 1, .iload_n 1, 0, 0, 0), (53, 1, .iaload, 0, 0, 0), (54, 2, .istore 4, 0, 0, 0), (56, 1, .iconst 0, 0, 0, 0), (57, 2, .istore 5, 0, 0, 0), (59, 1, .iconst 0, 0, 0, 0), (60, 2, .istore 6, 0, 0, 0), (62, 2, .iload 6, 0, 0, 0), (64, 1, .aload_n 0, 0, 0, 0), (65, 3, .getfield 241, 12, 51, 0), (68, 3, .if_icmp .ge 103, 171, 0, 0), (71, 1, .aload_n 0, 0, 0, 0), (72, 3, .getfield 127, 12, 47, 2), (75, 2, .iload 6, 0, 0, 0), (77, 1, .iaload, 0, 0, 0), (78, 2, .istore 7, 0, 0, 0)]),
  (122, [(80, 2, .iload 4, 0, 0, 0), (82, 1, .aload_n 0, 0, 0, 0), (83, 2, .iload 5, 0, 0, 0), (85, 1, .aload_n 0, 0, 0, 0), (86, 3, .getfield 37, 12, 11, 2), (89, 2, .iload 7, 0, 0, 0), (91, 1, .iaload, 0, 0, 0), (92, 3, .invokevirtual 244, 181, 3, 12), (95, 1, .iadd, 0, 0, 0), (96, 2, .istore 4, 0, 0, 0), (98, 1, .iload_n 2, 0, 0, 0), (99, 2, .iload 4, 0, 0, 0), (101, 3, .if_icmp .ge 9, 110, 0, 0), (104, 1, .aload_n 0, 0, 0, 0), (105, 1, .iconst 1, 0, 0, 0), (106, 3, .invokevirtual 209, 178, 2, 12), (109, 1, .ireturn, 0, 0, 0), (110, 1, .iload_n 2, 0, 0, 0), (111, 1, .aload_n 0, 0, 0, 0), (112, 3, .getfield 136, 12, 50, 2), (115, 2, .iload 7, 0, 0, 0), (117, 1, .iaload, 0, 0, 0), (118, 3, .if_icmp .ge 9, 127, 0, 0), (121, 1, .aload_n 0, 0, 0, 0)]),
  (163, [(122, 1, .iconst 2, 0, 0, 0), (123, 3, .invokevirtual 209, 178, 2, 12), (126, 1, .ireturn, 0, 0, 0), (127, 1, .aload_n 0, 0, 0, 0), (128, 3, .getfield 136, 12, 50, 2), (131, 2, .iload 7, 0, 0, 0), (133, 1, .iaload, 0, 0, 0), (134, 1, .aload_n 0, 0, 0, 0), (135, 3, .getfield 52, 12, 16, 2), (138, 2, .iload 7, 0, 0, 0), (140, 1, .iaload, 0, 0, 0), (141, 1, .iadd, 0, 0, 0), (142, 2, .istore 4, 0, 0, 0), (144, 1, .iload_n 2, 0, 0, 0), (145, 2, .iload 4, 0, 0, 0), (147, 3, .if_icmp .ge 9, 156, 0, 0), (150, 1, .aload_n 0, 0, 0, 0), (151, 1, .iconst 3, 0, 0, 0), (152, 3, .invokevirtual 209, 178, 2, 12), (155, 1, .ireturn, 0, 0, 0), (156, 1, .aload_n 0, 0, 0, 0), (157, 3, .getfield 37, 12, 11, 2), (160, 2, .iload 7, 0, 0, 0), (162, 1, .iaload, 0, 0, 0)]),
  (100000, [(163, 2, .istore 5, 0, 0, 0), (165, 3, .iinc 6 1, 0, 0, 0), (168, 3, .goto (-106), 62, 0, 0), (171, 1, .aload_n 0, 0, 0, 0), (172, 1, .iconst 1, 0, 0, 0), (173, 3, .invokevirtual 209, 178, 2, 12), (176, 1, .ireturn, 0, 0, 0)])]
theorem rwX12_does : rowsB (mB 232) (mO 232) (mX 232) (mIni 232) (mFr 232) (mLo 232) (mT 232) csX12_does = true := by decide +kernel
def bX12_does_42 (f178 : Int → HH → Option (Int × HH)) (h : HH) : Option (Int × HH) :=
  bnd (f178 0 h) fun r1 =>
    some (r1.1, r1.2)
theorem uX12_does_42 {g : SG} (hg : GOK g) {σ0 : SG} : ∀ {h : HH} {b : (Int × HH)}, bX12_does_42 nX12_told h = some b → WK 232 (.inl (some (aI b.1))) σ0 (abH 71 119 g b.2) 42 [(0, aR 71)] [] (abH 71 119 g h) 0 0 := by
  intro h b q
  have e : ∀ (f178 : Int → HH → Option (Int × HH)) , bX12_does_42 f178 h = segW 71 119 g.2.2.2.2 krWI (clC 178 (pX12_told f178) clN) csX12_does cuN 1000 42 [(0, aR 71)] [] h := fun _ => rfl
  rw [e nX12_told] at q
  clear e
  refine segW_wk (by decide) (by decide) hg rwX12_does (CLKW_C (pX12_told_ok hg) CLKW_N) krWI_ok ?_ q
  clear q
  exact ct_N
def nX12_does_42 (h : HH) : Option (Int × HH) := bX12_does_42 nX12_told h
theorem wX12_does_42 {g : SG} (hg : GOK g) {σ0 : SG} : ∀ {h : HH} {b : (Int × HH)}, nX12_does_42 h = some b → WK 232 (.inl (some (aI b.1))) σ0 (abH 71 119 g b.2) 42 [(0, aR 71)] [] (abH 71 119 g h) 0 0 := by
  intro h b q
  exact uX12_does_42 hg q
def bX12_does_110 (f178 : Int → HH → Option (Int × HH)) (c62 : Int → Int → Int → Int → HH → Option (Int × HH)) (x2 : Int) (x6 : Int) (x7 : Int) (h : HH) : Option (Int × HH) :=
  gd ((0 : Int) ≤ x7 ∧ x7 < (9 : Int)) <|
    if x2 < ((h.1 108 x7) : Int) then
    bnd (f178 2 h) fun r2 =>
    some (r2.1, r2.2)
  else
    gd ((0 : Int) ≤ x7 ∧ x7 < (9 : Int)) <|
    gd ((0 : Int) ≤ x7 ∧ x7 < (9 : Int)) <|
    gd (R32 ((h.1 108 x7) + (h.1 86 x7))) <|
    if x2 < (((h.1 108 x7) + (h.1 86 x7)) : Int) then
    bnd (f178 3 h) fun r1 =>
    some (r1.1, r1.2)
  else
    gd ((0 : Int) ≤ x7 ∧ x7 < (9 : Int)) <|
    gd (R32 (x6 + 1)) <|
    c62 x2 ((h.1 108 x7) + (h.1 86 x7)) (h.1 81 x7) (x6 + 1) h
set_option maxRecDepth 100000 in
theorem uX12_does_110 {g : SG} (hg : GOK g) {σ0 : SG} {c62 : Int → Int → Int → Int → HH → Option (Int × HH)} (k62 : ∀ (x2 : Int) (x4 : Int) (x5 : Int) (x6 : Int) (h : HH) (b : (Int × HH)), c62 x2 x4 x5 x6 h = some b → WK 232 (.inl (some (aI b.1))) σ0 (abH 71 119 g b.2) 62 [(0, aR 71), (2, aI x2), (4, aI x4), (5, aI x5), (6, aI x6)] [] (abH 71 119 g h) 0 0) : ∀ {x2 : Int} {x6 : Int} {x7 : Int} {h : HH} {b : (Int × HH)}, bX12_does_110 nX12_told c62 x2 x6 x7 h = some b → WK 232 (.inl (some (aI b.1))) σ0 (abH 71 119 g b.2) 110 [(0, aR 71), (2, aI x2), (6, aI x6), (7, aI x7)] [] (abH 71 119 g h) 0 0 := by
  intro x2 x6 x7 h b q
  have e : ∀ (f178 : Int → HH → Option (Int × HH)) , bX12_does_110 f178 c62 x2 x6 x7 h = segW 71 119 g.2.2.2.2 krWI (clC 178 (pX12_told f178) clN) csX12_does (cuC 62 (fun l st s => tkC 0 71 l <| tkI 2 l fun x2 => tkI 4 l fun x4 => tkI 5 l fun x5 => tkI 6 l fun x6 => skE st (c62 x2 x4 x5 x6 s)) cuN) 1000 110 [(0, aR 71), (2, aI x2), (6, aI x6), (7, aI x7)] [] h := fun _ => rfl
  rw [e nX12_told] at q
  clear e
  refine segW_wk (by decide) (by decide) hg rwX12_does (CLKW_C (pX12_told_ok hg) CLKW_N) krWI_ok ?_ q
  clear q
  refine ct_C ?_ (ct_N)
  · intro l st h q
    obtain ⟨m0, q1⟩ := tkC_of q
    obtain ⟨x2, m2, q2⟩ := tkI_of q1
    obtain ⟨x4, m4, q3⟩ := tkI_of q2
    obtain ⟨x5, m5, q4⟩ := tkI_of q3
    obtain ⟨x6, m6, q5⟩ := tkI_of q4
    obtain ⟨rfl, q6⟩ := skE_of q5
    exact WK_less (k62 _ _ _ _ _ _ q6) (List.forall_mem_cons.mpr ⟨m0, (List.forall_mem_cons.mpr ⟨m2, (List.forall_mem_cons.mpr ⟨m4, (List.forall_mem_cons.mpr ⟨m5, (List.forall_mem_cons.mpr ⟨m6, (fun _ h => absurd h List.not_mem_nil)⟩)⟩)⟩)⟩)⟩)
def nX12_does_110 (c62 : Int → Int → Int → Int → HH → Option (Int × HH)) (x2 : Int) (x6 : Int) (x7 : Int) (h : HH) : Option (Int × HH) := bX12_does_110 nX12_told c62 x2 x6 x7 h
theorem wX12_does_110 {g : SG} (hg : GOK g) {σ0 : SG} {c62 : Int → Int → Int → Int → HH → Option (Int × HH)} (k62 : ∀ (x2 : Int) (x4 : Int) (x5 : Int) (x6 : Int) (h : HH) (b : (Int × HH)), c62 x2 x4 x5 x6 h = some b → WK 232 (.inl (some (aI b.1))) σ0 (abH 71 119 g b.2) 62 [(0, aR 71), (2, aI x2), (4, aI x4), (5, aI x5), (6, aI x6)] [] (abH 71 119 g h) 0 0) : ∀ {x2 : Int} {x6 : Int} {x7 : Int} {h : HH} {b : (Int × HH)}, nX12_does_110 c62 x2 x6 x7 h = some b → WK 232 (.inl (some (aI b.1))) σ0 (abH 71 119 g b.2) 110 [(0, aR 71), (2, aI x2), (6, aI x6), (7, aI x7)] [] (abH 71 119 g h) 0 0 := by
  intro x2 x6 x7 h b q
  exact uX12_does_110 hg k62 q
def bX12_does_62 (f178 : Int → HH → Option (Int × HH)) (f181 : HH → Int → Int → Option Int) (c110 : Int → Int → Int → HH → Option (Int × HH)) (x2 : Int) (x4 : Int) (x5 : Int) (x6 : Int) (h : HH) : Option (Int × HH) :=
  if x6 < ((h.1 71 51) : Int) then
    gd ((0 : Int) ≤ x6 ∧ x6 < (10 : Int)) <|
    gd ((0 : Int) ≤ (h.1 105 x6) ∧ (h.1 105 x6) < (9 : Int)) <|
    bnd (f181 h x5 (h.1 81 (h.1 105 x6))) fun r2 =>
    gd (R32 (x4 + r2)) <|
    if x2 < ((x4 + r2) : Int) then
    bnd (f178 1 h) fun r3 =>
    some (r3.1, r3.2)
  else
    c110 x2 x6 (h.1 105 x6) h
  else
    bnd (f178 1 h) fun r1 =>
    some (r1.1, r1.2)
set_option maxRecDepth 100000 in
theorem uX12_does_62 {g : SG} (hg : GOK g) {σ0 : SG} {c110 : Int → Int → Int → HH → Option (Int × HH)} (k110 : ∀ (x2 : Int) (x6 : Int) (x7 : Int) (h : HH) (b : (Int × HH)), c110 x2 x6 x7 h = some b → WK 232 (.inl (some (aI b.1))) σ0 (abH 71 119 g b.2) 110 [(0, aR 71), (2, aI x2), (6, aI x6), (7, aI x7)] [] (abH 71 119 g h) 0 0) : ∀ {x2 : Int} {x4 : Int} {x5 : Int} {x6 : Int} {h : HH} {b : (Int × HH)}, bX12_does_62 nX12_told nX12_d c110 x2 x4 x5 x6 h = some b → WK 232 (.inl (some (aI b.1))) σ0 (abH 71 119 g b.2) 62 [(0, aR 71), (2, aI x2), (4, aI x4), (5, aI x5), (6, aI x6)] [] (abH 71 119 g h) 0 0 := by
  intro x2 x4 x5 x6 h b q
  have e : ∀ (f178 : Int → HH → Option (Int × HH)) (f181 : HH → Int → Int → Option Int) , bX12_does_62 f178 f181 c110 x2 x4 x5 x6 h = segW 71 119 g.2.2.2.2 krWI (clC 178 (pX12_told f178) (clC 181 (liPW (pX12_d f181)) clN)) csX12_does (cuC 110 (fun l st s => tkC 0 71 l <| tkI 2 l fun x2 => tkI 6 l fun x6 => tkI 7 l fun x7 => skE st (c110 x2 x6 x7 s)) cuN) 1000 62 [(0, aR 71), (2, aI x2), (4, aI x4), (5, aI x5), (6, aI x6)] [] h := fun _ _ => rfl
  rw [e nX12_told nX12_d] at q
  clear e
  refine segW_wk (by decide) (by decide) hg rwX12_does (CLKW_C (pX12_told_ok hg) (CLKW_C (liPW_ok (pX12_d_ok hg)) CLKW_N)) krWI_ok ?_ q
  clear q
  refine ct_C ?_ (ct_N)
  · intro l st h q
    obtain ⟨m0, q1⟩ := tkC_of q
    obtain ⟨x2, m2, q2⟩ := tkI_of q1
    obtain ⟨x6, m6, q3⟩ := tkI_of q2
    obtain ⟨x7, m7, q4⟩ := tkI_of q3
    obtain ⟨rfl, q5⟩ := skE_of q4
    exact WK_less (k110 _ _ _ _ _ q5) (List.forall_mem_cons.mpr ⟨m0, (List.forall_mem_cons.mpr ⟨m2, (List.forall_mem_cons.mpr ⟨m6, (List.forall_mem_cons.mpr ⟨m7, (fun _ h => absurd h List.not_mem_nil)⟩)⟩)⟩)⟩)
def nX12_does_62 : Nat → Int → Int → Int → Int → HH → Option (Int × HH) := iter (fun _ _ _ _ _ => none) (fun self => bX12_does_62 nX12_told nX12_d (nX12_does_110 self))
theorem nX12_does_62_s {F : Nat} : nX12_does_62 (F + 1) = bX12_does_62 nX12_told nX12_d (nX12_does_110 (nX12_does_62 F)) := rfl
theorem wX12_does_62 {g : SG} (hg : GOK g) {σ0 : SG} : ∀ {F : Nat}, ∀ {x2 : Int} {x4 : Int} {x5 : Int} {x6 : Int} {h : HH} {b : (Int × HH)}, nX12_does_62 F x2 x4 x5 x6 h = some b → WK 232 (.inl (some (aI b.1))) σ0 (abH 71 119 g b.2) 62 [(0, aR 71), (2, aI x2), (4, aI x4), (5, aI x5), (6, aI x6)] [] (abH 71 119 g h) 0 0 := by
  intro F
  have z : ∀ (x2 : Int) (x4 : Int) (x5 : Int) (x6 : Int) (h : HH) (b : (Int × HH)), nX12_does_62 F x2 x4 x5 x6 h = some b → WK 232 (.inl (some (aI b.1))) σ0 (abH 71 119 g b.2) 62 [(0, aR 71), (2, aI x2), (4, aI x4), (5, aI x5), (6, aI x6)] [] (abH 71 119 g h) 0 0 := iter_ind (P := fun (c : Int → Int → Int → Int → HH → Option (Int × HH)) => ∀ (x2 : Int) (x4 : Int) (x5 : Int) (x6 : Int) (h : HH) (b : (Int × HH)), c x2 x4 x5 x6 h = some b → WK 232 (.inl (some (aI b.1))) σ0 (abH 71 119 g b.2) 62 [(0, aR 71), (2, aI x2), (4, aI x4), (5, aI x5), (6, aI x6)] [] (abH 71 119 g h) 0 0) (by
    intro x2 x4 x5 x6 h b q
    cases q) (fun self ih => by
    intro x2 x4 x5 x6 h b q
    exact uX12_does_62 hg (fun _ _ _ _ _ q => wX12_does_110 hg ih q) q) F
  intro x2 x4 x5 x6 h b q
  exact z _ _ _ _ _ _ q
def bX12_does (f176 : HH → Int → Option Int) (f197 : Int → HH → Option (Int × HH)) (f177 : Int → HH → Option (Int × HH)) (c42 : HH → Option (Int × HH)) (c62 : Int → Int → Int → Int → HH → Option (Int × HH)) (x1 : Int) (x2 : Int) (h : HH) : Option (Int × HH) :=
  bnd (f176 h x1) fun r1 =>
    if r1 = (0 : Int) then
    bnd (f177 1 h) fun r3 =>
    some (r3.1, r3.2)
  else
    bnd (f197 x1 h) fun r2 =>
    gd ((0 : Int) ≤ x1 ∧ x1 < (3 : Int)) <|
    if x2 < ((r2.2.1 92 x1) : Int) then
    c42 r2.2
  else
    gd ((0 : Int) ≤ x1 ∧ x1 < (3 : Int)) <|
    gd (R32 ((r2.2.1 92 x1) + r2.1)) <|
    if x2 < (((r2.2.1 92 x1) + r2.1) : Int) then
    gd ((0 : Int) ≤ x1 ∧ x1 < (3 : Int)) <|
    c62 x2 (r2.2.1 92 x1) 0 0 r2.2
  else
    c42 r2.2
set_option maxRecDepth 100000 in
theorem uX12_does {g : SG} (hg : GOK g) {σ0 : SG} {c42 : HH → Option (Int × HH)} {c62 : Int → Int → Int → Int → HH → Option (Int × HH)} (k42 : ∀ (h : HH) (b : (Int × HH)), c42 h = some b → WK 232 (.inl (some (aI b.1))) σ0 (abH 71 119 g b.2) 42 [(0, aR 71)] [] (abH 71 119 g h) 0 0) (k62 : ∀ (x2 : Int) (x4 : Int) (x5 : Int) (x6 : Int) (h : HH) (b : (Int × HH)), c62 x2 x4 x5 x6 h = some b → WK 232 (.inl (some (aI b.1))) σ0 (abH 71 119 g b.2) 62 [(0, aR 71), (2, aI x2), (4, aI x4), (5, aI x5), (6, aI x6)] [] (abH 71 119 g h) 0 0) : ∀ {x1 : Int} {x2 : Int} {h : HH} {b : (Int × HH)}, bX12_does nX12_isVan nX12_costOf nX12_refuse c42 c62 x1 x2 h = some b → WK 232 (.inl (some (aI b.1))) σ0 (abH 71 119 g b.2) 0 [(0, aR 71), (1, aI x1), (2, aI x2)] [] (abH 71 119 g h) 0 0 := by
  intro x1 x2 h b q
  have e : ∀ (f176 : HH → Int → Option Int) (f197 : Int → HH → Option (Int × HH)) (f177 : Int → HH → Option (Int × HH)) , bX12_does f176 f197 f177 c42 c62 x1 x2 h = segW 71 119 g.2.2.2.2 krWI (clC 176 (liPW (pX12_isVan f176)) (clC 197 (pX12_costOf f197) (clC 177 (pX12_refuse f177) clN))) csX12_does (cuC 42 (fun l st s => tkC 0 71 l <| skE st (c42 s)) (cuC 62 (fun l st s => tkC 0 71 l <| tkI 2 l fun x2 => tkI 4 l fun x4 => tkI 5 l fun x5 => tkI 6 l fun x6 => skE st (c62 x2 x4 x5 x6 s)) cuN)) 1000 0 [(0, aR 71), (1, aI x1), (2, aI x2)] [] h := fun _ _ _ => rfl
  rw [e nX12_isVan nX12_costOf nX12_refuse] at q
  clear e
  refine segW_wk (by decide) (by decide) hg rwX12_does (CLKW_C (liPW_ok (pX12_isVan_ok hg)) (CLKW_C (pX12_costOf_ok hg) (CLKW_C (pX12_refuse_ok hg) CLKW_N))) krWI_ok ?_ q
  clear q
  refine ct_C ?_ (ct_C ?_ (ct_N))
  · intro l st h q
    obtain ⟨m0, q1⟩ := tkC_of q
    obtain ⟨rfl, q2⟩ := skE_of q1
    exact WK_less (k42 _ _ q2) (List.forall_mem_cons.mpr ⟨m0, (fun _ h => absurd h List.not_mem_nil)⟩)
  · intro l st h q
    obtain ⟨m0, q1⟩ := tkC_of q
    obtain ⟨x2, m2, q2⟩ := tkI_of q1
    obtain ⟨x4, m4, q3⟩ := tkI_of q2
    obtain ⟨x5, m5, q4⟩ := tkI_of q3
    obtain ⟨x6, m6, q5⟩ := tkI_of q4
    obtain ⟨rfl, q6⟩ := skE_of q5
    exact WK_less (k62 _ _ _ _ _ _ q6) (List.forall_mem_cons.mpr ⟨m0, (List.forall_mem_cons.mpr ⟨m2, (List.forall_mem_cons.mpr ⟨m4, (List.forall_mem_cons.mpr ⟨m5, (List.forall_mem_cons.mpr ⟨m6, (fun _ h => absurd h List.not_mem_nil)⟩)⟩)⟩)⟩)⟩)
def nX12_does (x1 : Int) (x2 : Int) (h : HH) : Option (Int × HH) := bX12_does nX12_isVan nX12_costOf nX12_refuse nX12_does_42 (nX12_does_62 100000) x1 x2 h
theorem wX12_does {g : SG} (hg : GOK g) {σ0 : SG} : ∀ {x1 : Int} {x2 : Int} {h : HH} {b : (Int × HH)}, nX12_does x1 x2 h = some b → WK 232 (.inl (some (aI b.1))) σ0 (abH 71 119 g b.2) 0 [(0, aR 71), (1, aI x1), (2, aI x2)] [] (abH 71 119 g h) 0 0 := by
  intro x1 x2 h b q
  exact uX12_does hg (fun _ _ q => wX12_does_42 hg q) (fun _ _ _ _ _ _ q => wX12_does_62 hg q) q
theorem mX12_does {g : SG} (hg : GOK g) {h : HH} {x1 : Int} {x2 : Int} {b : (Int × HH)} (q : nX12_does x1 x2 h = some b) : MCT 232 [] [aR 71, aI x1, aI x2] (abH 71 119 g h) (.inl (some (aI b.1))) (abH 71 119 g b.2) :=
  mct_of (by decide) (MFok 232 (by decide +kernel)) (fun _ => Nat.le_of_ble_eq_true rfl) (wX12_does hg q)
def pX12_does {β : Type} (z : Int → Int → HH → Option (Int × HH)) : PW β := fun as h f => skC 71 as fun as => skI as fun x1 as => skI as fun x2 as => skE as (bnd (z x1 x2 h) fun r => f (.inl (some (aI r.1))) r.2)
theorem pX12_does_ok {β : Type} {g : SG} (hg : GOK g) : CW1 (β := β) 232 (pX12_does nX12_does) 71 119 g := fun as h f b q => by
  obtain ⟨as, rfl, q1⟩ := skC_of q
  obtain ⟨x1, as, rfl, q2⟩ := skI_of q1
  obtain ⟨x2, as, rfl, q3⟩ := skI_of q2
  obtain ⟨rfl, q0⟩ := skE_of q3
  obtain ⟨r, z1, z2⟩ := bnd_of q0
  exact ⟨_, _, z2, by decide, mX12_does hg z1, rfl, rfl, fun z => absurd z (by decide)⟩
def csX12_rules : List (Nat × List (Nat × ARow)) := [(48, [(0, 1, .iload_n 1, 0, 0, 0), (1, 2, .bipush 30, 0, 0, 0), (3, 3, .sipush 600, 0, 0, 0), (6, 3, .invokestatic 178, 171, 3, 0), (9, 3, .ifCond .eq 25, 34, 0, 0), (12, 1, .iload_n 2, 0, 0, 0), (13, 1, .iconst 5, 0, 0, 0), (14, 2, .bipush 120, 0, 0, 0), (16, 3, .invokestatic 178, 171, 3, 0), (19, 3, .ifCond .eq 15, 34, 0, 0), (22, 1, .iload_n 3, 0, 0, 0), (23, 2, .bipush 60, 0, 0, 0), (25, 3, .sipush 900, 0, 0, 0), (28, 3, .invokestatic 178, 171, 3, 0), (31, 3, .ifCond .ne 9, 40, 0, 0), (34, 1, .aload_n 0, 0, 0, 0), (35, 1, .iconst 1, 0, 0, 0), (36, 3, .invokevirtual 200, 177, 2, 12), (39, 1, .ireturn, 0, 0, 0), (40, 1, .aload_n 0, 0, 0, 0), (41, 3, .getfield 362, 12, 33, 0), (44, 2, .istore 4, 0, 0, 0), (46, 1, .aload_n 0, 0, 0, 0), (47, 1, .iload_n 1, 0, 0, 0)]),
  (100000, [(48, 3, .putfield 94, 12, 34, 0), (51, 1, .aload_n 0, 0, 0, 0), (52, 1, .iload_n 2, 0, 0, 0), (53, 3, .putfield 98, 12, 35, 0), (56, 1, .aload_n 0, 0, 0, 0), (57, 1, .iload_n 3, 0, 0, 0), (58, 3, .putfield 101, 12, 36, 0), (61, 1, .aload_n 0, 0, 0, 0), (62, 1, .iconst 0, 0, 0, 0), (63, 3, .putfield 362, 12, 33, 0), (66, 1, .aload_n 0, 0, 0, 0), (67, 2, .iload 4, 0, 0, 0), (69, 3, .invokevirtual 209, 178, 2, 12), (72, 1, .ireturn, 0, 0, 0)])]
theorem rwX12_rules : rowsB (mB 233) (mO 233) (mX 233) (mIni 233) (mFr 233) (mLo 233) (mT 233) csX12_rules = true := by decide +kernel
def bX12_rules_34 (f177 : Int → HH → Option (Int × HH)) (h : HH) : Option (Int × HH) :=
  bnd (f177 1 h) fun r1 =>
    some (r1.1, r1.2)
theorem uX12_rules_34 {g : SG} (hg : GOK g) {σ0 : SG} : ∀ {h : HH} {b : (Int × HH)}, bX12_rules_34 nX12_refuse h = some b → WK 233 (.inl (some (aI b.1))) σ0 (abH 71 119 g b.2) 34 [(0, aR 71)] [] (abH 71 119 g h) 0 0 := by
  intro h b q
  have e : ∀ (f177 : Int → HH → Option (Int × HH)) , bX12_rules_34 f177 h = segW 71 119 g.2.2.2.2 krWI (clC 177 (pX12_refuse f177) clN) csX12_rules cuN 1000 34 [(0, aR 71)] [] h := fun _ => rfl
  rw [e nX12_refuse] at q
  clear e
  refine segW_wk (by decide) (by decide) hg rwX12_rules (CLKW_C (pX12_refuse_ok hg) CLKW_N) krWI_ok ?_ q
  clear q
  exact ct_N
def nX12_rules_34 (h : HH) : Option (Int × HH) := bX12_rules_34 nX12_refuse h
theorem wX12_rules_34 {g : SG} (hg : GOK g) {σ0 : SG} : ∀ {h : HH} {b : (Int × HH)}, nX12_rules_34 h = some b → WK 233 (.inl (some (aI b.1))) σ0 (abH 71 119 g b.2) 34 [(0, aR 71)] [] (abH 71 119 g h) 0 0 := by
  intro h b q
  exact uX12_rules_34 hg q
def bX12_rules (f171 : HH → Int → Int → Int → Option Int) (f178 : Int → HH → Option (Int × HH)) (c34 : HH → Option (Int × HH)) (x1 : Int) (x2 : Int) (x3 : Int) (h : HH) : Option (Int × HH) :=
  bnd (f171 h x1 30 600) fun r1 =>
    if r1 = (0 : Int) then
    c34 h
  else
    bnd (f171 h x2 5 120) fun r2 =>
    if r2 = (0 : Int) then
    c34 h
  else
    bnd (f171 h x3 60 900) fun r3 =>
    if r3 = (0 : Int) then
    c34 h
  else
    bnd (some (hI h 71 34 x1)) fun h4 =>
    bnd (some (hI h4 71 35 x2)) fun h5 =>
    bnd (some (hI h5 71 36 x3)) fun h6 =>
    bnd (some (hI h6 71 33 0)) fun h7 =>
    bnd (f178 (h.1 71 33) h7) fun r8 =>
    some (r8.1, r8.2)
set_option maxRecDepth 100000 in
theorem uX12_rules {g : SG} (hg : GOK g) {σ0 : SG} {c34 : HH → Option (Int × HH)} (k34 : ∀ (h : HH) (b : (Int × HH)), c34 h = some b → WK 233 (.inl (some (aI b.1))) σ0 (abH 71 119 g b.2) 34 [(0, aR 71)] [] (abH 71 119 g h) 0 0) : ∀ {x1 : Int} {x2 : Int} {x3 : Int} {h : HH} {b : (Int × HH)}, bX12_rules nX12_in nX12_told c34 x1 x2 x3 h = some b → WK 233 (.inl (some (aI b.1))) σ0 (abH 71 119 g b.2) 0 [(0, aR 71), (1, aI x1), (2, aI x2), (3, aI x3)] [] (abH 71 119 g h) 0 0 := by
  intro x1 x2 x3 h b q
  have e : ∀ (f171 : HH → Int → Int → Int → Option Int) (f178 : Int → HH → Option (Int × HH)) , bX12_rules f171 f178 c34 x1 x2 x3 h = segW 71 119 g.2.2.2.2 krWI (clC 171 (liPW (pX12_in f171)) (clC 178 (pX12_told f178) clN)) csX12_rules (cuC 34 (fun l st s => tkC 0 71 l <| skE st (c34 s)) cuN) 1000 0 [(0, aR 71), (1, aI x1), (2, aI x2), (3, aI x3)] [] h := fun _ _ => rfl
  rw [e nX12_in nX12_told] at q
  clear e
  refine segW_wk (by decide) (by decide) hg rwX12_rules (CLKW_C (liPW_ok (pX12_in_ok hg)) (CLKW_C (pX12_told_ok hg) CLKW_N)) krWI_ok ?_ q
  clear q
  refine ct_C ?_ (ct_N)
  · intro l st h q
    obtain ⟨m0, q1⟩ := tkC_of q
    obtain ⟨rfl, q2⟩ := skE_of q1
    exact WK_less (k34 _ _ q2) (List.forall_mem_cons.mpr ⟨m0, (fun _ h => absurd h List.not_mem_nil)⟩)
def nX12_rules (x1 : Int) (x2 : Int) (x3 : Int) (h : HH) : Option (Int × HH) := bX12_rules nX12_in nX12_told nX12_rules_34 x1 x2 x3 h
theorem wX12_rules {g : SG} (hg : GOK g) {σ0 : SG} : ∀ {x1 : Int} {x2 : Int} {x3 : Int} {h : HH} {b : (Int × HH)}, nX12_rules x1 x2 x3 h = some b → WK 233 (.inl (some (aI b.1))) σ0 (abH 71 119 g b.2) 0 [(0, aR 71), (1, aI x1), (2, aI x2), (3, aI x3)] [] (abH 71 119 g h) 0 0 := by
  intro x1 x2 x3 h b q
  exact uX12_rules hg (fun _ _ q => wX12_rules_34 hg q) q
theorem mX12_rules {g : SG} (hg : GOK g) {h : HH} {x1 : Int} {x2 : Int} {x3 : Int} {b : (Int × HH)} (q : nX12_rules x1 x2 x3 h = some b) : MCT 233 [] [aR 71, aI x1, aI x2, aI x3] (abH 71 119 g h) (.inl (some (aI b.1))) (abH 71 119 g b.2) :=
  mct_of (by decide) (MFok 233 (by decide +kernel)) (fun _ => Nat.le_of_ble_eq_true rfl) (wX12_rules hg q)
def pX12_rules {β : Type} (z : Int → Int → Int → HH → Option (Int × HH)) : PW β := fun as h f => skC 71 as fun as => skI as fun x1 as => skI as fun x2 as => skI as fun x3 as => skE as (bnd (z x1 x2 x3 h) fun r => f (.inl (some (aI r.1))) r.2)
theorem pX12_rules_ok {β : Type} {g : SG} (hg : GOK g) : CW1 (β := β) 233 (pX12_rules nX12_rules) 71 119 g := fun as h f b q => by
  obtain ⟨as, rfl, q1⟩ := skC_of q
  obtain ⟨x1, as, rfl, q2⟩ := skI_of q1
  obtain ⟨x2, as, rfl, q3⟩ := skI_of q2
  obtain ⟨x3, as, rfl, q4⟩ := skI_of q3
  obtain ⟨rfl, q0⟩ := skE_of q4
  obtain ⟨r, z1, z2⟩ := bnd_of q0
  exact ⟨_, _, z2, by decide, mX12_rules hg z1, rfl, rfl, fun z => absurd z (by decide)⟩
def csX12_minutesOfRow : List (Nat × List (Nat × ARow)) := [(100000, [(0, 1, .iconst 0, 0, 0, 0), (1, 1, .istore_n 1, 0, 0, 0), (2, 1, .iconst 0, 0, 0, 0), (3, 1, .istore_n 2, 0, 0, 0), (4, 1, .iload_n 2, 0, 0, 0), (5, 1, .aload_n 0, 0, 0, 0), (6, 3, .getfield 362, 12, 33, 0), (9, 3, .if_icmp .ge 18, 27, 0, 0), (12, 1, .iload_n 1, 0, 0, 0), (13, 1, .aload_n 0, 0, 0, 0), (14, 3, .getfield 91, 12, 32, 2), (17, 1, .iload_n 2, 0, 0, 0), (18, 1, .iaload, 0, 0, 0), (19, 1, .iadd, 0, 0, 0), (20, 1, .istore_n 1, 0, 0, 0), (21, 3, .iinc 2 1, 0, 0, 0), (24, 3, .goto (-20), 4, 0, 0), (27, 1, .iload_n 1, 0, 0, 0), (28, 1, .ireturn, 0, 0, 0)])]
theorem rwX12_minutesOfRow : rowsB (mB 234) (mO 234) (mX 234) (mIni 234) (mFr 234) (mLo 234) (mT 234) csX12_minutesOfRow = true := by decide +kernel
def bX12_minutesOfRow_4 (h : HH) (c4 : Int → Int → Option Int) (x1 : Int) (x2 : Int) : Option Int :=
  if x2 < ((h.1 71 33) : Int) then
    gd ((0 : Int) ≤ x2 ∧ x2 < (60 : Int)) <|
    gd (R32 (x1 + (h.1 99 x2))) <|
    gd (R32 (x2 + 1)) <|
    c4 (x1 + (h.1 99 x2)) (x2 + 1)
  else
    some x1
theorem uX12_minutesOfRow_4 {g : SG} (hg : GOK g) {σ0 : SG} {h : HH} {c4 : Int → Int → Option Int} (k4 : ∀ (x1 : Int) (x2 : Int) (b : Int), c4 x1 x2 = some b → WK 234 (.inl (some (aI b))) σ0 (abH 71 119 g h) 4 [(0, aR 71), (1, aI x1), (2, aI x2)] [] (abH 71 119 g h) 0 0) : ∀ {x1 : Int} {x2 : Int} {b : Int}, bX12_minutesOfRow_4 h c4 x1 x2 = some b → WK 234 (.inl (some (aI b))) σ0 (abH 71 119 g h) 4 [(0, aR 71), (1, aI x1), (2, aI x2)] [] (abH 71 119 g h) 0 0 := by
  intro x1 x2 b q
  have e : bX12_minutesOfRow_4 h c4 x1 x2 = segP 71 119 g.2.2.2.2 h krPI clNP csX12_minutesOfRow (cuC 4 (fun l st s => tkC 0 71 l <| tkI 1 l fun x1 => tkI 2 l fun x2 => skE st (c4 x1 x2)) cuN) 1000 4 [(0, aR 71), (1, aI x1), (2, aI x2)] [] := rfl
  rw [e] at q
  clear e
  refine segP_wk (by decide) (by decide) hg rwX12_minutesOfRow CLKP_N krPI_ok ?_ q
  clear q
  refine ct_C ?_ (ct_N)
  · intro l st _ q
    obtain ⟨m0, q1⟩ := tkC_of q
    obtain ⟨x1, m1, q2⟩ := tkI_of q1
    obtain ⟨x2, m2, q3⟩ := tkI_of q2
    obtain ⟨rfl, q4⟩ := skE_of q3
    exact WK_less (k4 _ _ _ q4) (List.forall_mem_cons.mpr ⟨m0, (List.forall_mem_cons.mpr ⟨m1, (List.forall_mem_cons.mpr ⟨m2, (fun _ h => absurd h List.not_mem_nil)⟩)⟩)⟩)
def nX12_minutesOfRow_4 (h : HH) : Nat → Int → Int → Option Int := iter (fun _ _ => none) (fun self => bX12_minutesOfRow_4 h self)
theorem nX12_minutesOfRow_4_s {h : HH} {F : Nat} : nX12_minutesOfRow_4 h (F + 1) = bX12_minutesOfRow_4 h (nX12_minutesOfRow_4 h F) := rfl
theorem wX12_minutesOfRow_4 {g : SG} (hg : GOK g) {σ0 : SG} {h : HH} : ∀ {F : Nat}, ∀ {x1 : Int} {x2 : Int} {b : Int}, nX12_minutesOfRow_4 h F x1 x2 = some b → WK 234 (.inl (some (aI b))) σ0 (abH 71 119 g h) 4 [(0, aR 71), (1, aI x1), (2, aI x2)] [] (abH 71 119 g h) 0 0 := by
  intro F
  have z : ∀ (x1 : Int) (x2 : Int) (b : Int), nX12_minutesOfRow_4 h F x1 x2 = some b → WK 234 (.inl (some (aI b))) σ0 (abH 71 119 g h) 4 [(0, aR 71), (1, aI x1), (2, aI x2)] [] (abH 71 119 g h) 0 0 := iter_ind (P := fun (c : Int → Int → Option Int) => ∀ (x1 : Int) (x2 : Int) (b : Int), c x1 x2 = some b → WK 234 (.inl (some (aI b))) σ0 (abH 71 119 g h) 4 [(0, aR 71), (1, aI x1), (2, aI x2)] [] (abH 71 119 g h) 0 0) (by
    intro x1 x2 b q
    cases q) (fun self ih => by
    intro x1 x2 b q
    exact uX12_minutesOfRow_4 hg ih q) F
  intro x1 x2 b q
  exact z _ _ _ q
def bX12_minutesOfRow (h : HH) (c4 : Int → Int → Option Int) : Option Int :=
  c4 0 0
theorem uX12_minutesOfRow {g : SG} (hg : GOK g) {σ0 : SG} {h : HH} {c4 : Int → Int → Option Int} (k4 : ∀ (x1 : Int) (x2 : Int) (b : Int), c4 x1 x2 = some b → WK 234 (.inl (some (aI b))) σ0 (abH 71 119 g h) 4 [(0, aR 71), (1, aI x1), (2, aI x2)] [] (abH 71 119 g h) 0 0) : ∀ {b : Int}, bX12_minutesOfRow h c4 = some b → WK 234 (.inl (some (aI b))) σ0 (abH 71 119 g h) 0 [(0, aR 71)] [] (abH 71 119 g h) 0 0 := by
  intro  b q
  have e : bX12_minutesOfRow h c4 = segP 71 119 g.2.2.2.2 h krPI clNP csX12_minutesOfRow (cuC 4 (fun l st s => tkC 0 71 l <| tkI 1 l fun x1 => tkI 2 l fun x2 => skE st (c4 x1 x2)) cuN) 1000 0 [(0, aR 71)] [] := rfl
  rw [e] at q
  clear e
  refine segP_wk (by decide) (by decide) hg rwX12_minutesOfRow CLKP_N krPI_ok ?_ q
  clear q
  refine ct_C ?_ (ct_N)
  · intro l st _ q
    obtain ⟨m0, q1⟩ := tkC_of q
    obtain ⟨x1, m1, q2⟩ := tkI_of q1
    obtain ⟨x2, m2, q3⟩ := tkI_of q2
    obtain ⟨rfl, q4⟩ := skE_of q3
    exact WK_less (k4 _ _ _ q4) (List.forall_mem_cons.mpr ⟨m0, (List.forall_mem_cons.mpr ⟨m1, (List.forall_mem_cons.mpr ⟨m2, (fun _ h => absurd h List.not_mem_nil)⟩)⟩)⟩)
def nX12_minutesOfRow (h : HH) : Option Int := bX12_minutesOfRow h (nX12_minutesOfRow_4 h 100000)
theorem wX12_minutesOfRow {g : SG} (hg : GOK g) {σ0 : SG} {h : HH} : ∀ {b : Int}, nX12_minutesOfRow h = some b → WK 234 (.inl (some (aI b))) σ0 (abH 71 119 g h) 0 [(0, aR 71)] [] (abH 71 119 g h) 0 0 := by
  intro  b q
  exact uX12_minutesOfRow hg (fun _ _ _ q => wX12_minutesOfRow_4 hg q) q
theorem mX12_minutesOfRow {g : SG} (hg : GOK g) {h : HH} {b : Int} (q : nX12_minutesOfRow h = some b) : MCT 234 [] [aR 71] (abH 71 119 g h) (.inl (some (aI b))) (abH 71 119 g h) :=
  mct_of (by decide) (MFok 234 (by decide +kernel)) (fun _ => Nat.le_of_ble_eq_true rfl) (wX12_minutesOfRow hg q)
def pX12_minutesOfRow {β : Type} (z : HH → Option Int) : PP β := fun h as f => skC 71 as fun as => skE as (bnd (z h) fun r => f (.inl (some (aI r))))
theorem pX12_minutesOfRow_ok {β : Type} {g : SG} (hg : GOK g) : CP1 (β := β) 234 (pX12_minutesOfRow nX12_minutesOfRow) 71 119 g := fun h as f b q => by
  obtain ⟨as, rfl, q1⟩ := skC_of q
  obtain ⟨rfl, q0⟩ := skE_of q1
  obtain ⟨r, z1, z2⟩ := bnd_of q0
  exact ⟨_, z2, by decide, mX12_minutesOfRow hg z1, rfl, rfl, fun z => absurd z (by decide)⟩
def csX12_piece : List (Nat × List (Nat × ARow)) := [(45, [(0, 1, .iload_n 1, 0, 0, 0), (1, 1, .iconst 0, 0, 0, 0), (2, 1, .iconst 2, 0, 0, 0), (3, 3, .invokestatic 178, 171, 3, 0), (6, 3, .ifCond .eq 14, 20, 0, 0), (9, 1, .iload_n 2, 0, 0, 0), (10, 1, .iconst 1, 0, 0, 0), (11, 3, .sipush 600, 0, 0, 0), (14, 3, .invokestatic 178, 171, 3, 0), (17, 3, .ifCond .ne 9, 26, 0, 0), (20, 1, .aload_n 0, 0, 0, 0), (21, 1, .iconst 1, 0, 0, 0), (22, 3, .invokevirtual 200, 177, 2, 12), (25, 1, .ireturn, 0, 0, 0), (26, 1, .aload_n 0, 0, 0, 0), (27, 3, .getfield 362, 12, 33, 0), (30, 2, .bipush 60, 0, 0, 0), (32, 3, .if_icmp .ne 9, 41, 0, 0), (35, 1, .aload_n 0, 0, 0, 0), (36, 1, .iconst 2, 0, 0, 0), (37, 3, .invokevirtual 200, 177, 2, 12), (40, 1, .ireturn, 0, 0, 0), (41, 1, .aload_n 0, 0, 0, 0), (42, 3, .getfield 88, 12, 31, 2)]),
  (100000, [(45, 1, .aload_n 0, 0, 0, 0), (46, 3, .getfield 362, 12, 33, 0), (49, 1, .iload_n 1, 0, 0, 0), (50, 1, .iastore, 0, 0, 0), (51, 1, .aload_n 0, 0, 0, 0), (52, 3, .getfield 91, 12, 32, 2), (55, 1, .aload_n 0, 0, 0, 0), (56, 3, .getfield 362, 12, 33, 0), (59, 1, .iload_n 2, 0, 0, 0), (60, 1, .iastore, 0, 0, 0), (61, 1, .aload_n 0, 0, 0, 0), (62, 1, .dup, 0, 0, 0), (63, 3, .getfield 362, 12, 33, 0), (66, 1, .iconst 1, 0, 0, 0), (67, 1, .iadd, 0, 0, 0), (68, 3, .putfield 362, 12, 33, 0), (71, 1, .aload_n 0, 0, 0, 0), (72, 1, .aload_n 0, 0, 0, 0), (73, 3, .invokevirtual 365, 234, 1, 12), (76, 3, .invokevirtual 209, 178, 2, 12), (79, 1, .ireturn, 0, 0, 0)])]
theorem rwX12_piece : rowsB (mB 235) (mO 235) (mX 235) (mIni 235) (mFr 235) (mLo 235) (mT 235) csX12_piece = true := by decide +kernel
def bX12_piece_20 (f177 : Int → HH → Option (Int × HH)) (h : HH) : Option (Int × HH) :=
  bnd (f177 1 h) fun r1 =>
    some (r1.1, r1.2)
theorem uX12_piece_20 {g : SG} (hg : GOK g) {σ0 : SG} : ∀ {h : HH} {b : (Int × HH)}, bX12_piece_20 nX12_refuse h = some b → WK 235 (.inl (some (aI b.1))) σ0 (abH 71 119 g b.2) 20 [(0, aR 71)] [] (abH 71 119 g h) 0 0 := by
  intro h b q
  have e : ∀ (f177 : Int → HH → Option (Int × HH)) , bX12_piece_20 f177 h = segW 71 119 g.2.2.2.2 krWI (clC 177 (pX12_refuse f177) clN) csX12_piece cuN 1000 20 [(0, aR 71)] [] h := fun _ => rfl
  rw [e nX12_refuse] at q
  clear e
  refine segW_wk (by decide) (by decide) hg rwX12_piece (CLKW_C (pX12_refuse_ok hg) CLKW_N) krWI_ok ?_ q
  clear q
  exact ct_N
def nX12_piece_20 (h : HH) : Option (Int × HH) := bX12_piece_20 nX12_refuse h
theorem wX12_piece_20 {g : SG} (hg : GOK g) {σ0 : SG} : ∀ {h : HH} {b : (Int × HH)}, nX12_piece_20 h = some b → WK 235 (.inl (some (aI b.1))) σ0 (abH 71 119 g b.2) 20 [(0, aR 71)] [] (abH 71 119 g h) 0 0 := by
  intro h b q
  exact uX12_piece_20 hg q
def bX12_piece (f171 : HH → Int → Int → Int → Option Int) (f234 : HH → Option Int) (f178 : Int → HH → Option (Int × HH)) (f177 : Int → HH → Option (Int × HH)) (c20 : HH → Option (Int × HH)) (x1 : Int) (x2 : Int) (h : HH) : Option (Int × HH) :=
  bnd (f171 h x1 0 2) fun r1 =>
    if r1 = (0 : Int) then
    c20 h
  else
    bnd (f171 h x2 1 600) fun r2 =>
    if r2 = (0 : Int) then
    c20 h
  else
    if (h.1 71 33) = (60 : Int) then
    bnd (f177 2 h) fun r8 =>
    some (r8.1, r8.2)
  else
    gd ((0 : Int) ≤ (h.1 71 33) ∧ (h.1 71 33) < (60 : Int)) <|
    bnd (some (hI h 98 (h.1 71 33) x1)) fun h3 =>
    gd ((0 : Int) ≤ (h3.1 71 33) ∧ (h3.1 71 33) < (60 : Int)) <|
    bnd (some (hI h3 99 (h3.1 71 33) x2)) fun h4 =>
    gd (R32 ((h4.1 71 33) + 1)) <|
    bnd (some (hI h4 71 33 ((h4.1 71 33) + 1))) fun h5 =>
    bnd (f234 h5) fun r6 =>
    bnd (f178 r6 h5) fun r7 =>
    some (r7.1, r7.2)
set_option maxRecDepth 100000 in
theorem uX12_piece {g : SG} (hg : GOK g) {σ0 : SG} {c20 : HH → Option (Int × HH)} (k20 : ∀ (h : HH) (b : (Int × HH)), c20 h = some b → WK 235 (.inl (some (aI b.1))) σ0 (abH 71 119 g b.2) 20 [(0, aR 71)] [] (abH 71 119 g h) 0 0) : ∀ {x1 : Int} {x2 : Int} {h : HH} {b : (Int × HH)}, bX12_piece nX12_in nX12_minutesOfRow nX12_told nX12_refuse c20 x1 x2 h = some b → WK 235 (.inl (some (aI b.1))) σ0 (abH 71 119 g b.2) 0 [(0, aR 71), (1, aI x1), (2, aI x2)] [] (abH 71 119 g h) 0 0 := by
  intro x1 x2 h b q
  have e : ∀ (f171 : HH → Int → Int → Int → Option Int) (f234 : HH → Option Int) (f178 : Int → HH → Option (Int × HH)) (f177 : Int → HH → Option (Int × HH)) , bX12_piece f171 f234 f178 f177 c20 x1 x2 h = segW 71 119 g.2.2.2.2 krWI (clC 171 (liPW (pX12_in f171)) (clC 234 (liPW (pX12_minutesOfRow f234)) (clC 178 (pX12_told f178) (clC 177 (pX12_refuse f177) clN)))) csX12_piece (cuC 20 (fun l st s => tkC 0 71 l <| skE st (c20 s)) cuN) 1000 0 [(0, aR 71), (1, aI x1), (2, aI x2)] [] h := fun _ _ _ _ => rfl
  rw [e nX12_in nX12_minutesOfRow nX12_told nX12_refuse] at q
  clear e
  refine segW_wk (by decide) (by decide) hg rwX12_piece (CLKW_C (liPW_ok (pX12_in_ok hg)) (CLKW_C (liPW_ok (pX12_minutesOfRow_ok hg)) (CLKW_C (pX12_told_ok hg) (CLKW_C (pX12_refuse_ok hg) CLKW_N)))) krWI_ok ?_ q
  clear q
  refine ct_C ?_ (ct_N)
  · intro l st h q
    obtain ⟨m0, q1⟩ := tkC_of q
    obtain ⟨rfl, q2⟩ := skE_of q1
    exact WK_less (k20 _ _ q2) (List.forall_mem_cons.mpr ⟨m0, (fun _ h => absurd h List.not_mem_nil)⟩)
def nX12_piece (x1 : Int) (x2 : Int) (h : HH) : Option (Int × HH) := bX12_piece nX12_in nX12_minutesOfRow nX12_told nX12_refuse nX12_piece_20 x1 x2 h
theorem wX12_piece {g : SG} (hg : GOK g) {σ0 : SG} : ∀ {x1 : Int} {x2 : Int} {h : HH} {b : (Int × HH)}, nX12_piece x1 x2 h = some b → WK 235 (.inl (some (aI b.1))) σ0 (abH 71 119 g b.2) 0 [(0, aR 71), (1, aI x1), (2, aI x2)] [] (abH 71 119 g h) 0 0 := by
  intro x1 x2 h b q
  exact uX12_piece hg (fun _ _ q => wX12_piece_20 hg q) q
theorem mX12_piece {g : SG} (hg : GOK g) {h : HH} {x1 : Int} {x2 : Int} {b : (Int × HH)} (q : nX12_piece x1 x2 h = some b) : MCT 235 [] [aR 71, aI x1, aI x2] (abH 71 119 g h) (.inl (some (aI b.1))) (abH 71 119 g b.2) :=
  mct_of (by decide) (MFok 235 (by decide +kernel)) (fun _ => Nat.le_of_ble_eq_true rfl) (wX12_piece hg q)
def pX12_piece {β : Type} (z : Int → Int → HH → Option (Int × HH)) : PW β := fun as h f => skC 71 as fun as => skI as fun x1 as => skI as fun x2 as => skE as (bnd (z x1 x2 h) fun r => f (.inl (some (aI r.1))) r.2)
theorem pX12_piece_ok {β : Type} {g : SG} (hg : GOK g) : CW1 (β := β) 235 (pX12_piece nX12_piece) 71 119 g := fun as h f b q => by
  obtain ⟨as, rfl, q1⟩ := skC_of q
  obtain ⟨x1, as, rfl, q2⟩ := skI_of q1
  obtain ⟨x2, as, rfl, q3⟩ := skI_of q2
  obtain ⟨rfl, q0⟩ := skE_of q3
  obtain ⟨r, z1, z2⟩ := bnd_of q0
  exact ⟨_, _, z2, by decide, mX12_piece hg z1, rfl, rfl, fun z => absurd z (by decide)⟩
def csX12_goesThrough : List (Nat × List (Nat × ARow)) := [(40, [(0, 1, .aload_n 0, 0, 0, 0), (1, 1, .iconst 0, 0, 0, 0), (2, 3, .putfield 368, 12, 74, 0), (5, 1, .aload_n 0, 0, 0, 0), (6, 1, .iconst 0, 0, 0, 0), (7, 3, .putfield 371, 12, 75, 0), (10, 1, .aload_n 0, 0, 0, 0), (11, 1, .iconst 0, 0, 0, 0), (12, 3, .putfield 374, 12, 76, 0), (15, 1, .iconst 0, 0, 0, 0), (16, 1, .istore_n 1, 0, 0, 0), (17, 1, .iload_n 1, 0, 0, 0), (18, 1, .aload_n 0, 0, 0, 0), (19, 3, .getfield 362, 12, 33, 0), (22, 3, .if_icmp .ge 124, 146, 0, 0), (25, 1, .aload_n 0, 0, 0, 0), (26, 1, .aload_n 0, 0, 0, 0), (27, 3, .getfield 88, 12, 31, 2), (30, 1, .iload_n 1, 0, 0, 0), (31, 1, .iaload, 0, 0, 0), (32, 1, .iconst 2, 0, 0, 0), (33, 3, .if_icmp .ne 17, 50, 0, 0), (36, 1, .aload_n 0, 0, 0, 0), (37, 3, .getfield 374, 12, 76, 0)]),
  (86, [(40, 1, .aload_n 0, 0, 0, 0), (41, 3, .getfield 91, 12, 32, 2), (44, 1, .iload_n 1, 0, 0, 0), (45, 1, .iaload, 0, 0, 0), (46, 1, .iadd, 0, 0, 0), (47, 3, .goto 4, 51, 0, 0), (50, 1, .iconst 0, 0, 0, 0), (51, 3, .putfield 374, 12, 76, 0), (54, 1, .aload_n 0, 0, 0, 0), (55, 1, .aload_n 0, 0, 0, 0), (56, 3, .getfield 374, 12, 76, 0), (59, 1, .aload_n 0, 0, 0, 0), (60, 3, .getfield 98, 12, 35, 0), (63, 3, .if_icmp .lt 7, 70, 0, 0), (66, 1, .iconst 0, 0, 0, 0), (67, 3, .goto 7, 74, 0, 0), (70, 1, .aload_n 0, 0, 0, 0), (71, 3, .getfield 368, 12, 74, 0), (74, 3, .putfield 368, 12, 74, 0), (77, 1, .aload_n 0, 0, 0, 0), (78, 3, .getfield 88, 12, 31, 2), (81, 1, .iload_n 1, 0, 0, 0), (82, 1, .iaload, 0, 0, 0), (83, 3, .ifCond .ne 57, 140, 0, 0)]),
  (128, [(86, 1, .aload_n 0, 0, 0, 0), (87, 1, .dup, 0, 0, 0), (88, 3, .getfield 368, 12, 74, 0), (91, 1, .aload_n 0, 0, 0, 0), (92, 3, .getfield 91, 12, 32, 2), (95, 1, .iload_n 1, 0, 0, 0), (96, 1, .iaload, 0, 0, 0), (97, 1, .iadd, 0, 0, 0), (98, 3, .putfield 368, 12, 74, 0), (101, 1, .aload_n 0, 0, 0, 0), (102, 1, .dup, 0, 0, 0), (103, 3, .getfield 371, 12, 75, 0), (106, 1, .aload_n 0, 0, 0, 0), (107, 3, .getfield 91, 12, 32, 2), (110, 1, .iload_n 1, 0, 0, 0), (111, 1, .iaload, 0, 0, 0), (112, 1, .iadd, 0, 0, 0), (113, 3, .putfield 371, 12, 75, 0), (116, 1, .aload_n 0, 0, 0, 0), (117, 3, .getfield 368, 12, 74, 0), (120, 1, .aload_n 0, 0, 0, 0), (121, 3, .getfield 94, 12, 34, 0), (124, 3, .if_icmp .gt 14, 138, 0, 0), (127, 1, .aload_n 0, 0, 0, 0)]),
  (100000, [(128, 3, .getfield 371, 12, 75, 0), (131, 1, .aload_n 0, 0, 0, 0), (132, 3, .getfield 101, 12, 36, 0), (135, 3, .if_icmp .le 5, 140, 0, 0), (138, 1, .iload_n 1, 0, 0, 0), (139, 1, .ireturn, 0, 0, 0), (140, 3, .iinc 1 1, 0, 0, 0), (143, 3, .goto (-126), 17, 0, 0), (146, 1, .iconst (-1), 0, 0, 0), (147, 1, .ireturn, 0, 0, 0)])]
theorem rwX12_goesThrough : rowsB (mB 236) (mO 236) (mX 236) (mIni 236) (mFr 236) (mLo 236) (mT 236) csX12_goesThrough = true := by decide +kernel
def bX12_goesThrough_140 (c17 : Int → HH → Option (Int × HH)) (x1 : Int) (h : HH) : Option (Int × HH) :=
  gd (R32 (x1 + 1)) <|
    c17 (x1 + 1) h
theorem uX12_goesThrough_140 {g : SG} (hg : GOK g) {σ0 : SG} {c17 : Int → HH → Option (Int × HH)} (k17 : ∀ (x1 : Int) (h : HH) (b : (Int × HH)), c17 x1 h = some b → WK 236 (.inl (some (aI b.1))) σ0 (abH 71 119 g b.2) 17 [(0, aR 71), (1, aI x1)] [] (abH 71 119 g h) 0 0) : ∀ {x1 : Int} {h : HH} {b : (Int × HH)}, bX12_goesThrough_140 c17 x1 h = some b → WK 236 (.inl (some (aI b.1))) σ0 (abH 71 119 g b.2) 140 [(0, aR 71), (1, aI x1)] [] (abH 71 119 g h) 0 0 := by
  intro x1 h b q
  have e : bX12_goesThrough_140 c17 x1 h = segW 71 119 g.2.2.2.2 krWI clN csX12_goesThrough (cuC 17 (fun l st s => tkC 0 71 l <| tkI 1 l fun x1 => skE st (c17 x1 s)) cuN) 1000 140 [(0, aR 71), (1, aI x1)] [] h := rfl
  rw [e] at q
  clear e
  refine segW_wk (by decide) (by decide) hg rwX12_goesThrough CLKW_N krWI_ok ?_ q
  clear q
  refine ct_C ?_ (ct_N)
  · intro l st h q
    obtain ⟨m0, q1⟩ := tkC_of q
    obtain ⟨x1, m1, q2⟩ := tkI_of q1
    obtain ⟨rfl, q3⟩ := skE_of q2
    exact WK_less (k17 _ _ _ q3) (List.forall_mem_cons.mpr ⟨m0, (List.forall_mem_cons.mpr ⟨m1, (fun _ h => absurd h List.not_mem_nil)⟩)⟩)
def nX12_goesThrough_140 (c17 : Int → HH → Option (Int × HH)) (x1 : Int) (h : HH) : Option (Int × HH) := bX12_goesThrough_140 c17 x1 h
theorem wX12_goesThrough_140 {g : SG} (hg : GOK g) {σ0 : SG} {c17 : Int → HH → Option (Int × HH)} (k17 : ∀ (x1 : Int) (h : HH) (b : (Int × HH)), c17 x1 h = some b → WK 236 (.inl (some (aI b.1))) σ0 (abH 71 119 g b.2) 17 [(0, aR 71), (1, aI x1)] [] (abH 71 119 g h) 0 0) : ∀ {x1 : Int} {h : HH} {b : (Int × HH)}, nX12_goesThrough_140 c17 x1 h = some b → WK 236 (.inl (some (aI b.1))) σ0 (abH 71 119 g b.2) 140 [(0, aR 71), (1, aI x1)] [] (abH 71 119 g h) 0 0 := by
  intro x1 h b q
  exact uX12_goesThrough_140 hg k17 q
def bX12_goesThrough_74 (c140 : Int → HH → Option (Int × HH)) (x1 : Int) (y0 : Int) (h : HH) : Option (Int × HH) :=
  bnd (some (hI h 71 74 y0)) fun h1 =>
    gd ((0 : Int) ≤ x1 ∧ x1 < (60 : Int)) <|
    if (h1.1 98 x1) = (0 : Int) then
    gd ((0 : Int) ≤ x1 ∧ x1 < (60 : Int)) <|
    gd (R32 ((h1.1 71 74) + (h1.1 99 x1))) <|
    bnd (some (hI h1 71 74 ((h1.1 71 74) + (h1.1 99 x1)))) fun h2 =>
    gd ((0 : Int) ≤ x1 ∧ x1 < (60 : Int)) <|
    gd (R32 ((h2.1 71 75) + (h2.1 99 x1))) <|
    bnd (some (hI h2 71 75 ((h2.1 71 75) + (h2.1 99 x1)))) fun h3 =>
    if ((h3.1 71 34) : Int) < (h3.1 71 74) then
    some (x1, h3)
  else
    if ((h3.1 71 36) : Int) < (h3.1 71 75) then
    some (x1, h3)
  else
    c140 x1 h3
  else
    c140 x1 h1
set_option maxRecDepth 100000 in
theorem uX12_goesThrough_74 {g : SG} (hg : GOK g) {σ0 : SG} {c140 : Int → HH → Option (Int × HH)} (k140 : ∀ (x1 : Int) (h : HH) (b : (Int × HH)), c140 x1 h = some b → WK 236 (.inl (some (aI b.1))) σ0 (abH 71 119 g b.2) 140 [(0, aR 71), (1, aI x1)] [] (abH 71 119 g h) 0 0) : ∀ {x1 : Int} {y0 : Int} {h : HH} {b : (Int × HH)}, bX12_goesThrough_74 c140 x1 y0 h = some b → WK 236 (.inl (some (aI b.1))) σ0 (abH 71 119 g b.2) 74 [(0, aR 71), (1, aI x1)] [aI y0, aR 71] (abH 71 119 g h) 0 0 := by
  intro x1 y0 h b q
  have e : bX12_goesThrough_74 c140 x1 y0 h = segW 71 119 g.2.2.2.2 krWI clN csX12_goesThrough (cuC 140 (fun l st s => tkC 0 71 l <| tkI 1 l fun x1 => skE st (c140 x1 s)) cuN) 1000 74 [(0, aR 71), (1, aI x1)] [aI y0, aR 71] h := rfl
  rw [e] at q
  clear e
  refine segW_wk (by decide) (by decide) hg rwX12_goesThrough CLKW_N krWI_ok ?_ q
  clear q
  refine ct_C ?_ (ct_N)
  · intro l st h q
    obtain ⟨m0, q1⟩ := tkC_of q
    obtain ⟨x1, m1, q2⟩ := tkI_of q1
    obtain ⟨rfl, q3⟩ := skE_of q2
    exact WK_less (k140 _ _ _ q3) (List.forall_mem_cons.mpr ⟨m0, (List.forall_mem_cons.mpr ⟨m1, (fun _ h => absurd h List.not_mem_nil)⟩)⟩)
def nX12_goesThrough_74 (c17 : Int → HH → Option (Int × HH)) (x1 : Int) (y0 : Int) (h : HH) : Option (Int × HH) := bX12_goesThrough_74 (nX12_goesThrough_140 c17) x1 y0 h
theorem wX12_goesThrough_74 {g : SG} (hg : GOK g) {σ0 : SG} {c17 : Int → HH → Option (Int × HH)} (k17 : ∀ (x1 : Int) (h : HH) (b : (Int × HH)), c17 x1 h = some b → WK 236 (.inl (some (aI b.1))) σ0 (abH 71 119 g b.2) 17 [(0, aR 71), (1, aI x1)] [] (abH 71 119 g h) 0 0) : ∀ {x1 : Int} {y0 : Int} {h : HH} {b : (Int × HH)}, nX12_goesThrough_74 c17 x1 y0 h = some b → WK 236 (.inl (some (aI b.1))) σ0 (abH 71 119 g b.2) 74 [(0, aR 71), (1, aI x1)] [aI y0, aR 71] (abH 71 119 g h) 0 0 := by
  intro x1 y0 h b q
  exact uX12_goesThrough_74 hg (fun _ _ _ q => wX12_goesThrough_140 hg k17 q) q
def bX12_goesThrough_51 (c74 : Int → Int → HH → Option (Int × HH)) (x1 : Int) (y0 : Int) (h : HH) : Option (Int × HH) :=
  bnd (some (hI h 71 76 y0)) fun h1 =>
    if (h1.1 71 76) < ((h1.1 71 35) : Int) then
    c74 x1 (h1.1 71 74) h1
  else
    c74 x1 0 h1
theorem uX12_goesThrough_51 {g : SG} (hg : GOK g) {σ0 : SG} {c74 : Int → Int → HH → Option (Int × HH)} (k74 : ∀ (x1 : Int) (y0 : Int) (h : HH) (b : (Int × HH)), c74 x1 y0 h = some b → WK 236 (.inl (some (aI b.1))) σ0 (abH 71 119 g b.2) 74 [(0, aR 71), (1, aI x1)] [aI y0, aR 71] (abH 71 119 g h) 0 0) : ∀ {x1 : Int} {y0 : Int} {h : HH} {b : (Int × HH)}, bX12_goesThrough_51 c74 x1 y0 h = some b → WK 236 (.inl (some (aI b.1))) σ0 (abH 71 119 g b.2) 51 [(0, aR 71), (1, aI x1)] [aI y0, aR 71] (abH 71 119 g h) 0 0 := by
  intro x1 y0 h b q
  have e : bX12_goesThrough_51 c74 x1 y0 h = segW 71 119 g.2.2.2.2 krWI clN csX12_goesThrough (cuC 74 (fun l st s => tkC 0 71 l <| tkI 1 l fun x1 => skI st fun y0 st => skC 71 st fun st => skE st (c74 x1 y0 s)) cuN) 1000 51 [(0, aR 71), (1, aI x1)] [aI y0, aR 71] h := rfl
  rw [e] at q
  clear e
  refine segW_wk (by decide) (by decide) hg rwX12_goesThrough CLKW_N krWI_ok ?_ q
  clear q
  refine ct_C ?_ (ct_N)
  · intro l st h q
    obtain ⟨m0, q1⟩ := tkC_of q
    obtain ⟨x1, m1, q2⟩ := tkI_of q1
    obtain ⟨y0, t0, rfl, q3⟩ := skI_of q2
    obtain ⟨t1, rfl, q4⟩ := skC_of q3
    obtain ⟨rfl, q5⟩ := skE_of q4
    exact WK_less (k74 _ _ _ _ q5) (List.forall_mem_cons.mpr ⟨m0, (List.forall_mem_cons.mpr ⟨m1, (fun _ h => absurd h List.not_mem_nil)⟩)⟩)
def nX12_goesThrough_51 (c17 : Int → HH → Option (Int × HH)) (x1 : Int) (y0 : Int) (h : HH) : Option (Int × HH) := bX12_goesThrough_51 (nX12_goesThrough_74 c17) x1 y0 h
theorem wX12_goesThrough_51 {g : SG} (hg : GOK g) {σ0 : SG} {c17 : Int → HH → Option (Int × HH)} (k17 : ∀ (x1 : Int) (h : HH) (b : (Int × HH)), c17 x1 h = some b → WK 236 (.inl (some (aI b.1))) σ0 (abH 71 119 g b.2) 17 [(0, aR 71), (1, aI x1)] [] (abH 71 119 g h) 0 0) : ∀ {x1 : Int} {y0 : Int} {h : HH} {b : (Int × HH)}, nX12_goesThrough_51 c17 x1 y0 h = some b → WK 236 (.inl (some (aI b.1))) σ0 (abH 71 119 g b.2) 51 [(0, aR 71), (1, aI x1)] [aI y0, aR 71] (abH 71 119 g h) 0 0 := by
  intro x1 y0 h b q
  exact uX12_goesThrough_51 hg (fun _ _ _ _ q => wX12_goesThrough_74 hg k17 q) q
def bX12_goesThrough_17 (c51 : Int → Int → HH → Option (Int × HH)) (x1 : Int) (h : HH) : Option (Int × HH) :=
  if x1 < ((h.1 71 33) : Int) then
    gd ((0 : Int) ≤ x1 ∧ x1 < (60 : Int)) <|
    if (h.1 98 x1) = (2 : Int) then
    gd ((0 : Int) ≤ x1 ∧ x1 < (60 : Int)) <|
    gd (R32 ((h.1 71 76) + (h.1 99 x1))) <|
    c51 x1 ((h.1 71 76) + (h.1 99 x1)) h
  else
    c51 x1 0 h
  else
    some ((-1), h)
theorem uX12_goesThrough_17 {g : SG} (hg : GOK g) {σ0 : SG} {c51 : Int → Int → HH → Option (Int × HH)} (k51 : ∀ (x1 : Int) (y0 : Int) (h : HH) (b : (Int × HH)), c51 x1 y0 h = some b → WK 236 (.inl (some (aI b.1))) σ0 (abH 71 119 g b.2) 51 [(0, aR 71), (1, aI x1)] [aI y0, aR 71] (abH 71 119 g h) 0 0) : ∀ {x1 : Int} {h : HH} {b : (Int × HH)}, bX12_goesThrough_17 c51 x1 h = some b → WK 236 (.inl (some (aI b.1))) σ0 (abH 71 119 g b.2) 17 [(0, aR 71), (1, aI x1)] [] (abH 71 119 g h) 0 0 := by
  intro x1 h b q
  have e : bX12_goesThrough_17 c51 x1 h = segW 71 119 g.2.2.2.2 krWI clN csX12_goesThrough (cuC 51 (fun l st s => tkC 0 71 l <| tkI 1 l fun x1 => skI st fun y0 st => skC 71 st fun st => skE st (c51 x1 y0 s)) cuN) 1000 17 [(0, aR 71), (1, aI x1)] [] h := rfl
  rw [e] at q
  clear e
  refine segW_wk (by decide) (by decide) hg rwX12_goesThrough CLKW_N krWI_ok ?_ q
  clear q
  refine ct_C ?_ (ct_N)
  · intro l st h q
    obtain ⟨m0, q1⟩ := tkC_of q
    obtain ⟨x1, m1, q2⟩ := tkI_of q1
    obtain ⟨y0, t0, rfl, q3⟩ := skI_of q2
    obtain ⟨t1, rfl, q4⟩ := skC_of q3
    obtain ⟨rfl, q5⟩ := skE_of q4
    exact WK_less (k51 _ _ _ _ q5) (List.forall_mem_cons.mpr ⟨m0, (List.forall_mem_cons.mpr ⟨m1, (fun _ h => absurd h List.not_mem_nil)⟩)⟩)
def nX12_goesThrough_17 : Nat → Int → HH → Option (Int × HH) := iter (fun _ _ => none) (fun self => bX12_goesThrough_17 (nX12_goesThrough_51 self))
theorem nX12_goesThrough_17_s {F : Nat} : nX12_goesThrough_17 (F + 1) = bX12_goesThrough_17 (nX12_goesThrough_51 (nX12_goesThrough_17 F)) := rfl
theorem wX12_goesThrough_17 {g : SG} (hg : GOK g) {σ0 : SG} : ∀ {F : Nat}, ∀ {x1 : Int} {h : HH} {b : (Int × HH)}, nX12_goesThrough_17 F x1 h = some b → WK 236 (.inl (some (aI b.1))) σ0 (abH 71 119 g b.2) 17 [(0, aR 71), (1, aI x1)] [] (abH 71 119 g h) 0 0 := by
  intro F
  have z : ∀ (x1 : Int) (h : HH) (b : (Int × HH)), nX12_goesThrough_17 F x1 h = some b → WK 236 (.inl (some (aI b.1))) σ0 (abH 71 119 g b.2) 17 [(0, aR 71), (1, aI x1)] [] (abH 71 119 g h) 0 0 := iter_ind (P := fun (c : Int → HH → Option (Int × HH)) => ∀ (x1 : Int) (h : HH) (b : (Int × HH)), c x1 h = some b → WK 236 (.inl (some (aI b.1))) σ0 (abH 71 119 g b.2) 17 [(0, aR 71), (1, aI x1)] [] (abH 71 119 g h) 0 0) (by
    intro x1 h b q
    cases q) (fun self ih => by
    intro x1 h b q
    exact uX12_goesThrough_17 hg (fun _ _ _ _ q => wX12_goesThrough_51 hg ih q) q) F
  intro x1 h b q
  exact z _ _ _ q
def bX12_goesThrough (c17 : Int → HH → Option (Int × HH)) (h : HH) : Option (Int × HH) :=
  bnd (some (hI h 71 74 0)) fun h1 =>
    bnd (some (hI h1 71 75 0)) fun h2 =>
    bnd (some (hI h2 71 76 0)) fun h3 =>
    c17 0 h3
theorem uX12_goesThrough {g : SG} (hg : GOK g) {σ0 : SG} {c17 : Int → HH → Option (Int × HH)} (k17 : ∀ (x1 : Int) (h : HH) (b : (Int × HH)), c17 x1 h = some b → WK 236 (.inl (some (aI b.1))) σ0 (abH 71 119 g b.2) 17 [(0, aR 71), (1, aI x1)] [] (abH 71 119 g h) 0 0) : ∀ {h : HH} {b : (Int × HH)}, bX12_goesThrough c17 h = some b → WK 236 (.inl (some (aI b.1))) σ0 (abH 71 119 g b.2) 0 [(0, aR 71)] [] (abH 71 119 g h) 0 0 := by
  intro h b q
  have e : bX12_goesThrough c17 h = segW 71 119 g.2.2.2.2 krWI clN csX12_goesThrough (cuC 17 (fun l st s => tkC 0 71 l <| tkI 1 l fun x1 => skE st (c17 x1 s)) cuN) 1000 0 [(0, aR 71)] [] h := rfl
  rw [e] at q
  clear e
  refine segW_wk (by decide) (by decide) hg rwX12_goesThrough CLKW_N krWI_ok ?_ q
  clear q
  refine ct_C ?_ (ct_N)
  · intro l st h q
    obtain ⟨m0, q1⟩ := tkC_of q
    obtain ⟨x1, m1, q2⟩ := tkI_of q1
    obtain ⟨rfl, q3⟩ := skE_of q2
    exact WK_less (k17 _ _ _ q3) (List.forall_mem_cons.mpr ⟨m0, (List.forall_mem_cons.mpr ⟨m1, (fun _ h => absurd h List.not_mem_nil)⟩)⟩)
def nX12_goesThrough (h : HH) : Option (Int × HH) := bX12_goesThrough (nX12_goesThrough_17 100000) h
theorem wX12_goesThrough {g : SG} (hg : GOK g) {σ0 : SG} : ∀ {h : HH} {b : (Int × HH)}, nX12_goesThrough h = some b → WK 236 (.inl (some (aI b.1))) σ0 (abH 71 119 g b.2) 0 [(0, aR 71)] [] (abH 71 119 g h) 0 0 := by
  intro h b q
  exact uX12_goesThrough hg (fun _ _ _ q => wX12_goesThrough_17 hg q) q
theorem mX12_goesThrough {g : SG} (hg : GOK g) {h : HH} {b : (Int × HH)} (q : nX12_goesThrough h = some b) : MCT 236 [] [aR 71] (abH 71 119 g h) (.inl (some (aI b.1))) (abH 71 119 g b.2) :=
  mct_of (by decide) (MFok 236 (by decide +kernel)) (fun _ => Nat.le_of_ble_eq_true rfl) (wX12_goesThrough hg q)
def pX12_goesThrough {β : Type} (z : HH → Option (Int × HH)) : PW β := fun as h f => skC 71 as fun as => skE as (bnd (z h) fun r => f (.inl (some (aI r.1))) r.2)
theorem pX12_goesThrough_ok {β : Type} {g : SG} (hg : GOK g) : CW1 (β := β) 236 (pX12_goesThrough nX12_goesThrough) 71 119 g := fun as h f b q => by
  obtain ⟨as, rfl, q1⟩ := skC_of q
  obtain ⟨rfl, q0⟩ := skE_of q1
  obtain ⟨r, z1, z2⟩ := bnd_of q0
  exact ⟨_, _, z2, by decide, mX12_goesThrough hg z1, rfl, rfl, fun z => absurd z (by decide)⟩
def csX12_unlawful : List (Nat × List (Nat × ARow)) := [(100000, [(0, 1, .aload_n 0, 0, 0, 0), (1, 1, .aload_n 0, 0, 0, 0), (2, 3, .invokevirtual 377, 236, 1, 12), (5, 3, .invokevirtual 209, 178, 2, 12), (8, 1, .ireturn, 0, 0, 0)])]
theorem rwX12_unlawful : rowsB (mB 237) (mO 237) (mX 237) (mIni 237) (mFr 237) (mLo 237) (mT 237) csX12_unlawful = true := by decide +kernel
def bX12_unlawful (f236 : HH → Option (Int × HH)) (f178 : Int → HH → Option (Int × HH)) (h : HH) : Option (Int × HH) :=
  bnd (f236 h) fun r1 =>
    bnd (f178 r1.1 r1.2) fun r2 =>
    some (r2.1, r2.2)
theorem uX12_unlawful {g : SG} (hg : GOK g) {σ0 : SG} : ∀ {h : HH} {b : (Int × HH)}, bX12_unlawful nX12_goesThrough nX12_told h = some b → WK 237 (.inl (some (aI b.1))) σ0 (abH 71 119 g b.2) 0 [(0, aR 71)] [] (abH 71 119 g h) 0 0 := by
  intro h b q
  have e : ∀ (f236 : HH → Option (Int × HH)) (f178 : Int → HH → Option (Int × HH)) , bX12_unlawful f236 f178 h = segW 71 119 g.2.2.2.2 krWI (clC 236 (pX12_goesThrough f236) (clC 178 (pX12_told f178) clN)) csX12_unlawful cuN 1000 0 [(0, aR 71)] [] h := fun _ _ => rfl
  rw [e nX12_goesThrough nX12_told] at q
  clear e
  refine segW_wk (by decide) (by decide) hg rwX12_unlawful (CLKW_C (pX12_goesThrough_ok hg) (CLKW_C (pX12_told_ok hg) CLKW_N)) krWI_ok ?_ q
  clear q
  exact ct_N
def nX12_unlawful (h : HH) : Option (Int × HH) := bX12_unlawful nX12_goesThrough nX12_told h
theorem wX12_unlawful {g : SG} (hg : GOK g) {σ0 : SG} : ∀ {h : HH} {b : (Int × HH)}, nX12_unlawful h = some b → WK 237 (.inl (some (aI b.1))) σ0 (abH 71 119 g b.2) 0 [(0, aR 71)] [] (abH 71 119 g h) 0 0 := by
  intro h b q
  exact uX12_unlawful hg q
theorem mX12_unlawful {g : SG} (hg : GOK g) {h : HH} {b : (Int × HH)} (q : nX12_unlawful h = some b) : MCT 237 [] [aR 71] (abH 71 119 g h) (.inl (some (aI b.1))) (abH 71 119 g b.2) :=
  mct_of (by decide) (MFok 237 (by decide +kernel)) (fun _ => Nat.le_of_ble_eq_true rfl) (wX12_unlawful hg q)
def pX12_unlawful {β : Type} (z : HH → Option (Int × HH)) : PW β := fun as h f => skC 71 as fun as => skE as (bnd (z h) fun r => f (.inl (some (aI r.1))) r.2)
theorem pX12_unlawful_ok {β : Type} {g : SG} (hg : GOK g) : CW1 (β := β) 237 (pX12_unlawful nX12_unlawful) 71 119 g := fun as h f b q => by
  obtain ⟨as, rfl, q1⟩ := skC_of q
  obtain ⟨rfl, q0⟩ := skE_of q1
  obtain ⟨r, z1, z2⟩ := bnd_of q0
  exact ⟨_, _, z2, by decide, mX12_unlawful hg z1, rfl, rfl, fun z => absurd z (by decide)⟩
def csX12_mayDrive : List (Nat × List (Nat × ARow)) := [(42, [(0, 1, .aload_n 0, 0, 0, 0), (1, 3, .invokevirtual 377, 236, 1, 12), (4, 1, .iconst (-1), 0, 0, 0), (5, 3, .if_icmp .eq 9, 14, 0, 0), (8, 1, .aload_n 0, 0, 0, 0), (9, 1, .iconst 0, 0, 0, 0), (10, 3, .invokevirtual 209, 178, 2, 12), (13, 1, .ireturn, 0, 0, 0), (14, 1, .aload_n 0, 0, 0, 0), (15, 3, .getfield 101, 12, 36, 0), (18, 1, .aload_n 0, 0, 0, 0), (19, 3, .getfield 371, 12, 75, 0), (22, 1, .isub, 0, 0, 0), (23, 1, .istore_n 2, 0, 0, 0), (24, 1, .aload_n 0, 0, 0, 0), (25, 1, .iload_n 1, 0, 0, 0), (26, 3, .ifCond .eq 7, 33, 0, 0), (29, 1, .iload_n 2, 0, 0, 0), (30, 3, .goto 16, 46, 0, 0), (33, 1, .iload_n 2, 0, 0, 0), (34, 1, .aload_n 0, 0, 0, 0), (35, 3, .getfield 94, 12, 34, 0), (38, 1, .aload_n 0, 0, 0, 0), (39, 3, .getfield 368, 12, 74, 0)]),
  (100000, [(42, 1, .isub, 0, 0, 0), (43, 3, .invokestatic 212, 172, 2, 0), (46, 3, .invokevirtual 209, 178, 2, 12), (49, 1, .ireturn, 0, 0, 0)])]
theorem rwX12_mayDrive : rowsB (mB 238) (mO 238) (mX 238) (mIni 238) (mFr 238) (mLo 238) (mT 238) csX12_mayDrive = true := by decide +kernel
def bX12_mayDrive_46 (f178 : Int → HH → Option (Int × HH)) (y0 : Int) (h : HH) : Option (Int × HH) :=
  bnd (f178 y0 h) fun r1 =>
    some (r1.1, r1.2)
theorem uX12_mayDrive_46 {g : SG} (hg : GOK g) {σ0 : SG} : ∀ {y0 : Int} {h : HH} {b : (Int × HH)}, bX12_mayDrive_46 nX12_told y0 h = some b → WK 238 (.inl (some (aI b.1))) σ0 (abH 71 119 g b.2) 46 [] [aI y0, aR 71] (abH 71 119 g h) 0 0 := by
  intro y0 h b q
  have e : ∀ (f178 : Int → HH → Option (Int × HH)) , bX12_mayDrive_46 f178 y0 h = segW 71 119 g.2.2.2.2 krWI (clC 178 (pX12_told f178) clN) csX12_mayDrive cuN 1000 46 [] [aI y0, aR 71] h := fun _ => rfl
  rw [e nX12_told] at q
  clear e
  refine segW_wk (by decide) (by decide) hg rwX12_mayDrive (CLKW_C (pX12_told_ok hg) CLKW_N) krWI_ok ?_ q
  clear q
  exact ct_N
def nX12_mayDrive_46 (y0 : Int) (h : HH) : Option (Int × HH) := bX12_mayDrive_46 nX12_told y0 h
theorem wX12_mayDrive_46 {g : SG} (hg : GOK g) {σ0 : SG} : ∀ {y0 : Int} {h : HH} {b : (Int × HH)}, nX12_mayDrive_46 y0 h = some b → WK 238 (.inl (some (aI b.1))) σ0 (abH 71 119 g b.2) 46 [] [aI y0, aR 71] (abH 71 119 g h) 0 0 := by
  intro y0 h b q
  exact uX12_mayDrive_46 hg q
def bX12_mayDrive (f236 : HH → Option (Int × HH)) (f172 : HH → Int → Int → Option Int) (f178 : Int → HH → Option (Int × HH)) (c46 : Int → HH → Option (Int × HH)) (x1 : Int) (h : HH) : Option (Int × HH) :=
  bnd (f236 h) fun r1 =>
    if r1.1 = ((-1) : Int) then
    gd (R32 ((r1.2.1 71 36) - (r1.2.1 71 75))) <|
    if x1 = (0 : Int) then
    gd (R32 ((r1.2.1 71 34) - (r1.2.1 71 74))) <|
    bnd (f172 r1.2 ((r1.2.1 71 36) - (r1.2.1 71 75)) ((r1.2.1 71 34) - (r1.2.1 71 74))) fun r2 =>
    c46 r2 r1.2
  else
    c46 ((r1.2.1 71 36) - (r1.2.1 71 75)) r1.2
  else
    bnd (f178 0 r1.2) fun r3 =>
    some (r3.1, r3.2)
set_option maxRecDepth 100000 in
theorem uX12_mayDrive {g : SG} (hg : GOK g) {σ0 : SG} {c46 : Int → HH → Option (Int × HH)} (k46 : ∀ (y0 : Int) (h : HH) (b : (Int × HH)), c46 y0 h = some b → WK 238 (.inl (some (aI b.1))) σ0 (abH 71 119 g b.2) 46 [] [aI y0, aR 71] (abH 71 119 g h) 0 0) : ∀ {x1 : Int} {h : HH} {b : (Int × HH)}, bX12_mayDrive nX12_goesThrough nX12_less nX12_told c46 x1 h = some b → WK 238 (.inl (some (aI b.1))) σ0 (abH 71 119 g b.2) 0 [(0, aR 71), (1, aI x1)] [] (abH 71 119 g h) 0 0 := by
  intro x1 h b q
  have e : ∀ (f236 : HH → Option (Int × HH)) (f172 : HH → Int → Int → Option Int) (f178 : Int → HH → Option (Int × HH)) , bX12_mayDrive f236 f172 f178 c46 x1 h = segW 71 119 g.2.2.2.2 krWI (clC 236 (pX12_goesThrough f236) (clC 172 (liPW (pX12_less f172)) (clC 178 (pX12_told f178) clN))) csX12_mayDrive (cuC 46 (fun l st s => skI st fun y0 st => skC 71 st fun st => skE st (c46 y0 s)) cuN) 1000 0 [(0, aR 71), (1, aI x1)] [] h := fun _ _ _ => rfl
  rw [e nX12_goesThrough nX12_less nX12_told] at q
  clear e
  refine segW_wk (by decide) (by decide) hg rwX12_mayDrive (CLKW_C (pX12_goesThrough_ok hg) (CLKW_C (liPW_ok (pX12_less_ok hg)) (CLKW_C (pX12_told_ok hg) CLKW_N))) krWI_ok ?_ q
  clear q
  refine ct_C ?_ (ct_N)
  · intro l st h q
    obtain ⟨y0, t0, rfl, q1⟩ := skI_of q
    obtain ⟨t1, rfl, q2⟩ := skC_of q1
    obtain ⟨rfl, q3⟩ := skE_of q2
    exact WK_less (k46 _ _ _ q3) (fun _ h => absurd h List.not_mem_nil)
def nX12_mayDrive (x1 : Int) (h : HH) : Option (Int × HH) := bX12_mayDrive nX12_goesThrough nX12_less nX12_told nX12_mayDrive_46 x1 h
theorem wX12_mayDrive {g : SG} (hg : GOK g) {σ0 : SG} : ∀ {x1 : Int} {h : HH} {b : (Int × HH)}, nX12_mayDrive x1 h = some b → WK 238 (.inl (some (aI b.1))) σ0 (abH 71 119 g b.2) 0 [(0, aR 71), (1, aI x1)] [] (abH 71 119 g h) 0 0 := by
  intro x1 h b q
  exact uX12_mayDrive hg (fun _ _ _ q => wX12_mayDrive_46 hg q) q
theorem mX12_mayDrive {g : SG} (hg : GOK g) {h : HH} {x1 : Int} {b : (Int × HH)} (q : nX12_mayDrive x1 h = some b) : MCT 238 [] [aR 71, aI x1] (abH 71 119 g h) (.inl (some (aI b.1))) (abH 71 119 g b.2) :=
  mct_of (by decide) (MFok 238 (by decide +kernel)) (fun _ => Nat.le_of_ble_eq_true rfl) (wX12_mayDrive hg q)
def pX12_mayDrive {β : Type} (z : Int → HH → Option (Int × HH)) : PW β := fun as h f => skC 71 as fun as => skI as fun x1 as => skE as (bnd (z x1 h) fun r => f (.inl (some (aI r.1))) r.2)
theorem pX12_mayDrive_ok {β : Type} {g : SG} (hg : GOK g) : CW1 (β := β) 238 (pX12_mayDrive nX12_mayDrive) 71 119 g := fun as h f b q => by
  obtain ⟨as, rfl, q1⟩ := skC_of q
  obtain ⟨x1, as, rfl, q2⟩ := skI_of q1
  obtain ⟨rfl, q0⟩ := skE_of q2
  obtain ⟨r, z1, z2⟩ := bnd_of q0
  exact ⟨_, _, z2, by decide, mX12_mayDrive hg z1, rfl, rfl, fun z => absurd z (by decide)⟩
def csX12_rests : List (Nat × List (Nat × ARow)) := [(100000, [(0, 1, .iload_n 1, 0, 0, 0), (1, 1, .iload_n 2, 0, 0, 0), (2, 3, .if_icmp .gt 7, 9, 0, 0), (5, 1, .iconst 0, 0, 0, 0), (6, 3, .goto 18, 24, 0, 0), (9, 1, .iload_n 1, 0, 0, 0), (10, 1, .iload_n 2, 0, 0, 0), (11, 1, .isub, 0, 0, 0), (12, 1, .aload_n 0, 0, 0, 0), (13, 3, .getfield 94, 12, 34, 0), (16, 1, .iadd, 0, 0, 0), (17, 1, .iconst 1, 0, 0, 0), (18, 1, .isub, 0, 0, 0), (19, 1, .aload_n 0, 0, 0, 0), (20, 3, .getfield 94, 12, 34, 0), (23, 1, .idiv, 0, 0, 0), (24, 1, .ireturn, 0, 0, 0)])]
theorem rwX12_rests : rowsB (mB 239) (mO 239) (mX 239) (mIni 239) (mFr 239) (mLo 239) (mT 239) csX12_rests = true := by decide +kernel
def bX12_rests (h : HH) (x1 : Int) (x2 : Int) : Option Int :=
  if (x2 : Int) < x1 then
    gd (R32 (x1 - x2)) <|
    gd (R32 ((x1 - x2) + (h.1 71 34))) <|
    gd (R32 (((x1 - x2) + (h.1 71 34)) - 1)) <|
    gd ((0 : Int) ≤ (((x1 - x2) + (h.1 71 34)) - 1) ∧ (0 : Int) < (h.1 71 34)) <|
    some ((((x1 - x2) + (h.1 71 34)) - 1) / (h.1 71 34))
  else
    some 0
theorem uX12_rests {g : SG} (hg : GOK g) {σ0 : SG} {h : HH} : ∀ {x1 : Int} {x2 : Int} {b : Int}, bX12_rests h x1 x2 = some b → WK 239 (.inl (some (aI b))) σ0 (abH 71 119 g h) 0 [(0, aR 71), (1, aI x1), (2, aI x2)] [] (abH 71 119 g h) 0 0 := by
  intro x1 x2 b q
  have e : bX12_rests h x1 x2 = segP 71 119 g.2.2.2.2 h krPI clNP csX12_rests cuN 1000 0 [(0, aR 71), (1, aI x1), (2, aI x2)] [] := rfl
  rw [e] at q
  clear e
  refine segP_wk (by decide) (by decide) hg rwX12_rests CLKP_N krPI_ok ?_ q
  clear q
  exact ct_N
def nX12_rests (h : HH) (x1 : Int) (x2 : Int) : Option Int := bX12_rests h x1 x2
theorem wX12_rests {g : SG} (hg : GOK g) {σ0 : SG} {h : HH} : ∀ {x1 : Int} {x2 : Int} {b : Int}, nX12_rests h x1 x2 = some b → WK 239 (.inl (some (aI b))) σ0 (abH 71 119 g h) 0 [(0, aR 71), (1, aI x1), (2, aI x2)] [] (abH 71 119 g h) 0 0 := by
  intro x1 x2 b q
  exact uX12_rests hg q
theorem mX12_rests {g : SG} (hg : GOK g) {h : HH} {x1 : Int} {x2 : Int} {b : Int} (q : nX12_rests h x1 x2 = some b) : MCT 239 [] [aR 71, aI x1, aI x2] (abH 71 119 g h) (.inl (some (aI b))) (abH 71 119 g h) :=
  mct_of (by decide) (MFok 239 (by decide +kernel)) (fun _ => Nat.le_of_ble_eq_true rfl) (wX12_rests hg q)
def pX12_rests {β : Type} (z : HH → Int → Int → Option Int) : PP β := fun h as f => skC 71 as fun as => skI as fun x1 as => skI as fun x2 as => skE as (bnd (z h x1 x2) fun r => f (.inl (some (aI r))))
theorem pX12_rests_ok {β : Type} {g : SG} (hg : GOK g) : CP1 (β := β) 239 (pX12_rests nX12_rests) 71 119 g := fun h as f b q => by
  obtain ⟨as, rfl, q1⟩ := skC_of q
  obtain ⟨x1, as, rfl, q2⟩ := skI_of q1
  obtain ⟨x2, as, rfl, q3⟩ := skI_of q2
  obtain ⟨rfl, q0⟩ := skE_of q3
  obtain ⟨r, z1, z2⟩ := bnd_of q0
  exact ⟨_, z2, by decide, mX12_rests hg z1, rfl, rfl, fun z => absurd z (by decide)⟩
def csX12_leastFor : List (Nat × List (Nat × ARow)) := [(42, [(0, 1, .aload_n 0, 0, 0, 0), (1, 3, .invokevirtual 377, 236, 1, 12), (4, 1, .iconst (-1), 0, 0, 0), (5, 3, .if_icmp .ne 16, 21, 0, 0), (8, 1, .iload_n 1, 0, 0, 0), (9, 1, .aload_n 0, 0, 0, 0), (10, 3, .getfield 101, 12, 36, 0), (13, 1, .aload_n 0, 0, 0, 0), (14, 3, .getfield 371, 12, 75, 0), (17, 1, .isub, 0, 0, 0), (18, 3, .if_icmp .le 5, 23, 0, 0), (21, 1, .iconst (-1), 0, 0, 0), (22, 1, .ireturn, 0, 0, 0), (23, 1, .iload_n 1, 0, 0, 0), (24, 1, .aload_n 0, 0, 0, 0), (25, 3, .getfield 98, 12, 35, 0), (28, 1, .aload_n 0, 0, 0, 0), (29, 1, .iload_n 1, 0, 0, 0), (30, 1, .aload_n 0, 0, 0, 0), (31, 3, .getfield 94, 12, 34, 0), (34, 1, .aload_n 0, 0, 0, 0), (35, 3, .getfield 368, 12, 74, 0), (38, 1, .isub, 0, 0, 0), (39, 3, .invokevirtual 380, 239, 3, 12)]),
  (84, [(42, 1, .imul, 0, 0, 0), (43, 1, .iadd, 0, 0, 0), (44, 1, .istore_n 2, 0, 0, 0), (45, 1, .aload_n 0, 0, 0, 0), (46, 3, .getfield 374, 12, 76, 0), (49, 3, .ifCond .le 43, 92, 0, 0), (52, 1, .aload_n 0, 0, 0, 0), (53, 3, .getfield 374, 12, 76, 0), (56, 1, .aload_n 0, 0, 0, 0), (57, 3, .getfield 98, 12, 35, 0), (60, 3, .if_icmp .ge 32, 92, 0, 0), (63, 1, .aload_n 0, 0, 0, 0), (64, 3, .getfield 98, 12, 35, 0), (67, 1, .aload_n 0, 0, 0, 0), (68, 3, .getfield 374, 12, 76, 0), (71, 1, .isub, 0, 0, 0), (72, 1, .iload_n 1, 0, 0, 0), (73, 1, .iadd, 0, 0, 0), (74, 1, .aload_n 0, 0, 0, 0), (75, 3, .getfield 98, 12, 35, 0), (78, 1, .aload_n 0, 0, 0, 0), (79, 1, .iload_n 1, 0, 0, 0), (80, 1, .aload_n 0, 0, 0, 0), (81, 3, .getfield 94, 12, 34, 0)]),
  (100000, [(84, 3, .invokevirtual 380, 239, 3, 12), (87, 1, .imul, 0, 0, 0), (88, 1, .iadd, 0, 0, 0), (89, 3, .goto 5, 94, 0, 0), (92, 2, .ldc 188, 1000000000, 0, 0), (94, 1, .istore_n 3, 0, 0, 0), (95, 1, .iload_n 2, 0, 0, 0), (96, 1, .iload_n 3, 0, 0, 0), (97, 3, .invokestatic 212, 172, 2, 0), (100, 1, .ireturn, 0, 0, 0)])]
theorem rwX12_leastFor : rowsB (mB 240) (mO 240) (mX 240) (mIni 240) (mFr 240) (mLo 240) (mT 240) csX12_leastFor = true := by decide +kernel
def bX12_leastFor_94 (f172 : HH → Int → Int → Option Int) (x2 : Int) (y0 : Int) (h : HH) : Option (Int × HH) :=
  bnd (f172 h x2 y0) fun r1 =>
    some (r1, h)
theorem uX12_leastFor_94 {g : SG} (hg : GOK g) {σ0 : SG} : ∀ {x2 : Int} {y0 : Int} {h : HH} {b : (Int × HH)}, bX12_leastFor_94 nX12_less x2 y0 h = some b → WK 240 (.inl (some (aI b.1))) σ0 (abH 71 119 g b.2) 94 [(2, aI x2)] [aI y0] (abH 71 119 g h) 0 0 := by
  intro x2 y0 h b q
  have e : ∀ (f172 : HH → Int → Int → Option Int) , bX12_leastFor_94 f172 x2 y0 h = segW 71 119 g.2.2.2.2 krWI (clC 172 (liPW (pX12_less f172)) clN) csX12_leastFor cuN 1000 94 [(2, aI x2)] [aI y0] h := fun _ => rfl
  rw [e nX12_less] at q
  clear e
  refine segW_wk (by decide) (by decide) hg rwX12_leastFor (CLKW_C (liPW_ok (pX12_less_ok hg)) CLKW_N) krWI_ok ?_ q
  clear q
  exact ct_N
def nX12_leastFor_94 (x2 : Int) (y0 : Int) (h : HH) : Option (Int × HH) := bX12_leastFor_94 nX12_less x2 y0 h
theorem wX12_leastFor_94 {g : SG} (hg : GOK g) {σ0 : SG} : ∀ {x2 : Int} {y0 : Int} {h : HH} {b : (Int × HH)}, nX12_leastFor_94 x2 y0 h = some b → WK 240 (.inl (some (aI b.1))) σ0 (abH 71 119 g b.2) 94 [(2, aI x2)] [aI y0] (abH 71 119 g h) 0 0 := by
  intro x2 y0 h b q
  exact uX12_leastFor_94 hg q
def bX12_leastFor_92 (c94 : Int → Int → HH → Option (Int × HH)) (x2 : Int) (h : HH) : Option (Int × HH) :=
  c94 x2 1000000000 h
theorem uX12_leastFor_92 {g : SG} (hg : GOK g) {σ0 : SG} {c94 : Int → Int → HH → Option (Int × HH)} (k94 : ∀ (x2 : Int) (y0 : Int) (h : HH) (b : (Int × HH)), c94 x2 y0 h = some b → WK 240 (.inl (some (aI b.1))) σ0 (abH 71 119 g b.2) 94 [(2, aI x2)] [aI y0] (abH 71 119 g h) 0 0) : ∀ {x2 : Int} {h : HH} {b : (Int × HH)}, bX12_leastFor_92 c94 x2 h = some b → WK 240 (.inl (some (aI b.1))) σ0 (abH 71 119 g b.2) 92 [(2, aI x2)] [] (abH 71 119 g h) 0 0 := by
  intro x2 h b q
  have e : bX12_leastFor_92 c94 x2 h = segW 71 119 g.2.2.2.2 krWI clN csX12_leastFor (cuC 94 (fun l st s => tkI 2 l fun x2 => skI st fun y0 st => skE st (c94 x2 y0 s)) cuN) 1000 92 [(2, aI x2)] [] h := rfl
  rw [e] at q
  clear e
  refine segW_wk (by decide) (by decide) hg rwX12_leastFor CLKW_N krWI_ok ?_ q
  clear q
  refine ct_C ?_ (ct_N)
  · intro l st h q
    obtain ⟨x2, m2, q1⟩ := tkI_of q
    obtain ⟨y0, t0, rfl, q2⟩ := skI_of q1
    obtain ⟨rfl, q3⟩ := skE_of q2
    exact WK_less (k94 _ _ _ _ q3) (List.forall_mem_cons.mpr ⟨m2, (fun _ h => absurd h List.not_mem_nil)⟩)
def nX12_leastFor_92 (x2 : Int) (h : HH) : Option (Int × HH) := bX12_leastFor_92 nX12_leastFor_94 x2 h
theorem wX12_leastFor_92 {g : SG} (hg : GOK g) {σ0 : SG} : ∀ {x2 : Int} {h : HH} {b : (Int × HH)}, nX12_leastFor_92 x2 h = some b → WK 240 (.inl (some (aI b.1))) σ0 (abH 71 119 g b.2) 92 [(2, aI x2)] [] (abH 71 119 g h) 0 0 := by
  intro x2 h b q
  exact uX12_leastFor_92 hg (fun _ _ _ _ q => wX12_leastFor_94 hg q) q
def bX12_leastFor (f236 : HH → Option (Int × HH)) (f239 : HH → Int → Int → Option Int) (c92 : Int → HH → Option (Int × HH)) (c94 : Int → Int → HH → Option (Int × HH)) (x1 : Int) (h : HH) : Option (Int × HH) :=
  bnd (f236 h) fun r1 =>
    if r1.1 = ((-1) : Int) then
    gd (R32 ((r1.2.1 71 36) - (r1.2.1 71 75))) <|
    if (((r1.2.1 71 36) - (r1.2.1 71 75)) : Int) < x1 then
    some ((-1), r1.2)
  else
    gd (R32 ((r1.2.1 71 34) - (r1.2.1 71 74))) <|
    bnd (f239 r1.2 x1 ((r1.2.1 71 34) - (r1.2.1 71 74))) fun r2 =>
    gd (R32 ((r1.2.1 71 35) * r2)) <|
    gd (R32 (x1 + ((r1.2.1 71 35) * r2))) <|
    if (0 : Int) < (r1.2.1 71 76) then
    if (r1.2.1 71 76) < ((r1.2.1 71 35) : Int) then
    gd (R32 ((r1.2.1 71 35) - (r1.2.1 71 76))) <|
    gd (R32 (((r1.2.1 71 35) - (r1.2.1 71 76)) + x1)) <|
    bnd (f239 r1.2 x1 (r1.2.1 71 34)) fun r3 =>
    gd (R32 ((r1.2.1 71 35) * r3)) <|
    gd (R32 ((((r1.2.1 71 35) - (r1.2.1 71 76)) + x1) + ((r1.2.1 71 35) * r3))) <|
    c94 (x1 + ((r1.2.1 71 35) * r2)) ((((r1.2.1 71 35) - (r1.2.1 71 76)) + x1) + ((r1.2.1 71 35) * r3)) r1.2
  else
    c92 (x1 + ((r1.2.1 71 35) * r2)) r1.2
  else
    c92 (x1 + ((r1.2.1 71 35) * r2)) r1.2
  else
    some ((-1), r1.2)
set_option maxRecDepth 100000 in
theorem uX12_leastFor {g : SG} (hg : GOK g) {σ0 : SG} {c92 : Int → HH → Option (Int × HH)} {c94 : Int → Int → HH → Option (Int × HH)} (k92 : ∀ (x2 : Int) (h : HH) (b : (Int × HH)), c92 x2 h = some b → WK 240 (.inl (some (aI b.1))) σ0 (abH 71 119 g b.2) 92 [(2, aI x2)] [] (abH 71 119 g h) 0 0) (k94 : ∀ (x2 : Int) (y0 : Int) (h : HH) (b : (Int × HH)), c94 x2 y0 h = some b → WK 240 (.inl (some (aI b.1))) σ0 (abH 71 119 g b.2) 94 [(2, aI x2)] [aI y0] (abH 71 119 g h) 0 0) : ∀ {x1 : Int} {h : HH} {b : (Int × HH)}, bX12_leastFor nX12_goesThrough nX12_rests c92 c94 x1 h = some b → WK 240 (.inl (some (aI b.1))) σ0 (abH 71 119 g b.2) 0 [(0, aR 71), (1, aI x1)] [] (abH 71 119 g h) 0 0 := by
  intro x1 h b q
  have e : ∀ (f236 : HH → Option (Int × HH)) (f239 : HH → Int → Int → Option Int) , bX12_leastFor f236 f239 c92 c94 x1 h = segW 71 119 g.2.2.2.2 krWI (clC 236 (pX12_goesThrough f236) (clC 239 (liPW (pX12_rests f239)) clN)) csX12_leastFor (cuC 92 (fun l st s => tkI 2 l fun x2 => skE st (c92 x2 s)) (cuC 94 (fun l st s => tkI 2 l fun x2 => skI st fun y0 st => skE st (c94 x2 y0 s)) cuN)) 1000 0 [(0, aR 71), (1, aI x1)] [] h := fun _ _ => rfl
  rw [e nX12_goesThrough nX12_rests] at q
  clear e
  refine segW_wk (by decide) (by decide) hg rwX12_leastFor (CLKW_C (pX12_goesThrough_ok hg) (CLKW_C (liPW_ok (pX12_rests_ok hg)) CLKW_N)) krWI_ok ?_ q
  clear q
  refine ct_C ?_ (ct_C ?_ (ct_N))
  · intro l st h q
    obtain ⟨x2, m2, q1⟩ := tkI_of q
    obtain ⟨rfl, q2⟩ := skE_of q1
    exact WK_less (k92 _ _ _ q2) (List.forall_mem_cons.mpr ⟨m2, (fun _ h => absurd h List.not_mem_nil)⟩)
  · intro l st h q
    obtain ⟨x2, m2, q1⟩ := tkI_of q
    obtain ⟨y0, t0, rfl, q2⟩ := skI_of q1
    obtain ⟨rfl, q3⟩ := skE_of q2
    exact WK_less (k94 _ _ _ _ q3) (List.forall_mem_cons.mpr ⟨m2, (fun _ h => absurd h List.not_mem_nil)⟩)
def nX12_leastFor (x1 : Int) (h : HH) : Option (Int × HH) := bX12_leastFor nX12_goesThrough nX12_rests nX12_leastFor_92 nX12_leastFor_94 x1 h
theorem wX12_leastFor {g : SG} (hg : GOK g) {σ0 : SG} : ∀ {x1 : Int} {h : HH} {b : (Int × HH)}, nX12_leastFor x1 h = some b → WK 240 (.inl (some (aI b.1))) σ0 (abH 71 119 g b.2) 0 [(0, aR 71), (1, aI x1)] [] (abH 71 119 g h) 0 0 := by
  intro x1 h b q
  exact uX12_leastFor hg (fun _ _ _ q => wX12_leastFor_92 hg q) (fun _ _ _ _ q => wX12_leastFor_94 hg q) q
theorem mX12_leastFor {g : SG} (hg : GOK g) {h : HH} {x1 : Int} {b : (Int × HH)} (q : nX12_leastFor x1 h = some b) : MCT 240 [] [aR 71, aI x1] (abH 71 119 g h) (.inl (some (aI b.1))) (abH 71 119 g b.2) :=
  mct_of (by decide) (MFok 240 (by decide +kernel)) (fun _ => Nat.le_of_ble_eq_true rfl) (wX12_leastFor hg q)
def pX12_leastFor {β : Type} (z : Int → HH → Option (Int × HH)) : PW β := fun as h f => skC 71 as fun as => skI as fun x1 as => skE as (bnd (z x1 h) fun r => f (.inl (some (aI r.1))) r.2)
theorem pX12_leastFor_ok {β : Type} {g : SG} (hg : GOK g) : CW1 (β := β) 240 (pX12_leastFor nX12_leastFor) 71 119 g := fun as h f b q => by
  obtain ⟨as, rfl, q1⟩ := skC_of q
  obtain ⟨x1, as, rfl, q2⟩ := skI_of q1
  obtain ⟨rfl, q0⟩ := skE_of q2
  obtain ⟨r, z1, z2⟩ := bnd_of q0
  exact ⟨_, _, z2, by decide, mX12_leastFor hg z1, rfl, rfl, fun z => absurd z (by decide)⟩
def csX12_leastTime : List (Nat × List (Nat × ARow)) := [(100000, [(0, 1, .iload_n 1, 0, 0, 0), (1, 1, .iconst 0, 0, 0, 0), (2, 3, .sipush 900, 0, 0, 0), (5, 3, .invokestatic 178, 171, 3, 0), (8, 3, .ifCond .eq 15, 23, 0, 0), (11, 1, .aload_n 0, 0, 0, 0), (12, 1, .aload_n 0, 0, 0, 0), (13, 1, .iload_n 1, 0, 0, 0), (14, 3, .invokevirtual 383, 240, 2, 12), (17, 3, .invokevirtual 209, 178, 2, 12), (20, 3, .goto 8, 28, 0, 0), (23, 1, .aload_n 0, 0, 0, 0), (24, 1, .iconst 1, 0, 0, 0), (25, 3, .invokevirtual 200, 177, 2, 12), (28, 1, .ireturn, 0, 0, 0)])]
theorem rwX12_leastTime : rowsB (mB 241) (mO 241) (mX 241) (mIni 241) (mFr 241) (mLo 241) (mT 241) csX12_leastTime = true := by decide +kernel
def bX12_leastTime (f171 : HH → Int → Int → Int → Option Int) (f177 : Int → HH → Option (Int × HH)) (f240 : Int → HH → Option (Int × HH)) (f178 : Int → HH → Option (Int × HH)) (x1 : Int) (h : HH) : Option (Int × HH) :=
  bnd (f171 h x1 0 900) fun r1 =>
    if r1 = (0 : Int) then
    bnd (f177 1 h) fun r2 =>
    some (r2.1, r2.2)
  else
    bnd (f240 x1 h) fun r3 =>
    bnd (f178 r3.1 r3.2) fun r4 =>
    some (r4.1, r4.2)
theorem uX12_leastTime {g : SG} (hg : GOK g) {σ0 : SG} : ∀ {x1 : Int} {h : HH} {b : (Int × HH)}, bX12_leastTime nX12_in nX12_refuse nX12_leastFor nX12_told x1 h = some b → WK 241 (.inl (some (aI b.1))) σ0 (abH 71 119 g b.2) 0 [(0, aR 71), (1, aI x1)] [] (abH 71 119 g h) 0 0 := by
  intro x1 h b q
  have e : ∀ (f171 : HH → Int → Int → Int → Option Int) (f177 : Int → HH → Option (Int × HH)) (f240 : Int → HH → Option (Int × HH)) (f178 : Int → HH → Option (Int × HH)) , bX12_leastTime f171 f177 f240 f178 x1 h = segW 71 119 g.2.2.2.2 krWI (clC 171 (liPW (pX12_in f171)) (clC 177 (pX12_refuse f177) (clC 240 (pX12_leastFor f240) (clC 178 (pX12_told f178) clN)))) csX12_leastTime cuN 1000 0 [(0, aR 71), (1, aI x1)] [] h := fun _ _ _ _ => rfl
  rw [e nX12_in nX12_refuse nX12_leastFor nX12_told] at q
  clear e
  refine segW_wk (by decide) (by decide) hg rwX12_leastTime (CLKW_C (liPW_ok (pX12_in_ok hg)) (CLKW_C (pX12_refuse_ok hg) (CLKW_C (pX12_leastFor_ok hg) (CLKW_C (pX12_told_ok hg) CLKW_N)))) krWI_ok ?_ q
  clear q
  exact ct_N
def nX12_leastTime (x1 : Int) (h : HH) : Option (Int × HH) := bX12_leastTime nX12_in nX12_refuse nX12_leastFor nX12_told x1 h
theorem wX12_leastTime {g : SG} (hg : GOK g) {σ0 : SG} : ∀ {x1 : Int} {h : HH} {b : (Int × HH)}, nX12_leastTime x1 h = some b → WK 241 (.inl (some (aI b.1))) σ0 (abH 71 119 g b.2) 0 [(0, aR 71), (1, aI x1)] [] (abH 71 119 g h) 0 0 := by
  intro x1 h b q
  exact uX12_leastTime hg q
theorem mX12_leastTime {g : SG} (hg : GOK g) {h : HH} {x1 : Int} {b : (Int × HH)} (q : nX12_leastTime x1 h = some b) : MCT 241 [] [aR 71, aI x1] (abH 71 119 g h) (.inl (some (aI b.1))) (abH 71 119 g b.2) :=
  mct_of (by decide) (MFok 241 (by decide +kernel)) (fun _ => Nat.le_of_ble_eq_true rfl) (wX12_leastTime hg q)
def pX12_leastTime {β : Type} (z : Int → HH → Option (Int × HH)) : PW β := fun as h f => skC 71 as fun as => skI as fun x1 as => skE as (bnd (z x1 h) fun r => f (.inl (some (aI r.1))) r.2)
theorem pX12_leastTime_ok {β : Type} {g : SG} (hg : GOK g) : CW1 (β := β) 241 (pX12_leastTime nX12_leastTime) 71 119 g := fun as h f b q => by
  obtain ⟨as, rfl, q1⟩ := skC_of q
  obtain ⟨x1, as, rfl, q2⟩ := skI_of q1
  obtain ⟨rfl, q0⟩ := skE_of q2
  obtain ⟨r, z1, z2⟩ := bnd_of q0
  exact ⟨_, _, z2, by decide, mX12_leastTime hg z1, rfl, rfl, fun z => absurd z (by decide)⟩
def csX12_leaves : List (Nat × List (Nat × ARow)) := [(100000, [(0, 1, .aload_n 0, 0, 0, 0), (1, 3, .getfield 64, 12, 20, 2), (4, 1, .iload_n 1, 0, 0, 0), (5, 1, .iaload, 0, 0, 0), (6, 1, .istore_n 2, 0, 0, 0), (7, 1, .aload_n 0, 0, 0, 0), (8, 1, .iload_n 2, 0, 0, 0), (9, 3, .invokevirtual 250, 193, 2, 12), (12, 1, .aload_n 0, 0, 0, 0), (13, 1, .aload_n 0, 0, 0, 0), (14, 1, .iload_n 2, 0, 0, 0), (15, 1, .iload_n 1, 0, 0, 0), (16, 3, .invokevirtual 273, 198, 3, 12), (19, 3, .invokevirtual 276, 196, 2, 12), (22, 1, .aload_n 0, 0, 0, 0), (23, 1, .iload_n 2, 0, 0, 0), (24, 3, .invokevirtual 257, 194, 2, 12), (27, 1, .return_, 0, 0, 0)])]
theorem rwX12_leaves : rowsB (mB 242) (mO 242) (mX 242) (mIni 242) (mFr 242) (mLo 242) (mT 242) csX12_leaves = true := by decide +kernel
def bX12_leaves (f193 : Int → HH → Option HH) (f198 : HH → Int → Int → Option Int) (f196 : Int → HH → Option HH) (f194 : Int → HH → Option HH) (x1 : Int) (h : HH) : Option HH :=
  gd ((0 : Int) ≤ x1 ∧ x1 < (9 : Int)) <|
    bnd (f193 (h.1 90 x1) h) fun r1 =>
    bnd (f198 r1 (h.1 90 x1) x1) fun r2 =>
    bnd (f196 r2 r1) fun r3 =>
    bnd (f194 (h.1 90 x1) r3) fun r4 =>
    some r4
theorem uX12_leaves {g : SG} (hg : GOK g) {σ0 : SG} : ∀ {x1 : Int} {h : HH} {b : HH}, bX12_leaves nX12_loads nX12_placeInRound nX12_removes nX12_lays x1 h = some b → WK 242 (.inl none) σ0 (abH 71 119 g b) 0 [(0, aR 71), (1, aI x1)] [] (abH 71 119 g h) 0 0 := by
  intro x1 h b q
  have e : ∀ (f193 : Int → HH → Option HH) (f198 : HH → Int → Int → Option Int) (f196 : Int → HH → Option HH) (f194 : Int → HH → Option HH) , bX12_leaves f193 f198 f196 f194 x1 h = segW 71 119 g.2.2.2.2 krWV (clC 193 (pX12_loads f193) (clC 198 (liPW (pX12_placeInRound f198)) (clC 196 (pX12_removes f196) (clC 194 (pX12_lays f194) clN)))) csX12_leaves cuN 1000 0 [(0, aR 71), (1, aI x1)] [] h := fun _ _ _ _ => rfl
  rw [e nX12_loads nX12_placeInRound nX12_removes nX12_lays] at q
  clear e
  refine segW_wk (by decide) (by decide) hg rwX12_leaves (CLKW_C (pX12_loads_ok hg) (CLKW_C (liPW_ok (pX12_placeInRound_ok hg)) (CLKW_C (pX12_removes_ok hg) (CLKW_C (pX12_lays_ok hg) CLKW_N)))) krWV_ok ?_ q
  clear q
  exact ct_N
def nX12_leaves (x1 : Int) (h : HH) : Option HH := bX12_leaves nX12_loads nX12_placeInRound nX12_removes nX12_lays x1 h
theorem wX12_leaves {g : SG} (hg : GOK g) {σ0 : SG} : ∀ {x1 : Int} {h : HH} {b : HH}, nX12_leaves x1 h = some b → WK 242 (.inl none) σ0 (abH 71 119 g b) 0 [(0, aR 71), (1, aI x1)] [] (abH 71 119 g h) 0 0 := by
  intro x1 h b q
  exact uX12_leaves hg q
theorem mX12_leaves {g : SG} (hg : GOK g) {h : HH} {x1 : Int} {b : HH} (q : nX12_leaves x1 h = some b) : MCT 242 [] [aR 71, aI x1] (abH 71 119 g h) (.inl none) (abH 71 119 g b) :=
  mct_of (by decide) (MFok 242 (by decide +kernel)) (fun _ => Nat.le_of_ble_eq_true rfl) (wX12_leaves hg q)
def pX12_leaves {β : Type} (z : Int → HH → Option HH) : PW β := fun as h f => skC 71 as fun as => skI as fun x1 as => skE as (bnd (z x1 h) fun r => f (.inl none) r)
theorem pX12_leaves_ok {β : Type} {g : SG} (hg : GOK g) : CW1 (β := β) 242 (pX12_leaves nX12_leaves) 71 119 g := fun as h f b q => by
  obtain ⟨as, rfl, q1⟩ := skC_of q
  obtain ⟨x1, as, rfl, q2⟩ := skI_of q1
  obtain ⟨rfl, q0⟩ := skE_of q2
  obtain ⟨r, z1, z2⟩ := bnd_of q0
  exact ⟨_, _, z2, by decide, mX12_leaves hg z1, rfl, rfl, fun z => absurd z (by decide)⟩
def csX12_goesToLocker : List (Nat × List (Nat × ARow)) := [(39, [(0, 1, .iconst (-1), 0, 0, 0), (1, 1, .istore_n 2, 0, 0, 0), (2, 1, .iconst 1, 0, 0, 0), (3, 1, .istore_n 3, 0, 0, 0), (4, 1, .iload_n 3, 0, 0, 0), (5, 2, .bipush 16, 0, 0, 0), (7, 3, .if_icmp .ge 87, 94, 0, 0), (10, 1, .aload_n 0, 0, 0, 0), (11, 3, .getfield 110, 12, 39, 2), (14, 1, .iload_n 3, 0, 0, 0), (15, 1, .baload, 0, 0, 0), (16, 3, .ifCond .eq 32, 48, 0, 0), (19, 1, .aload_n 0, 0, 0, 0), (20, 3, .getfield 107, 12, 38, 2), (23, 1, .iload_n 3, 0, 0, 0), (24, 1, .iaload, 0, 0, 0), (25, 3, .ifCond .le 23, 48, 0, 0), (28, 1, .aload_n 0, 0, 0, 0), (29, 1, .aload_n 0, 0, 0, 0), (30, 3, .getfield 37, 12, 11, 2), (33, 1, .iload_n 1, 0, 0, 0), (34, 1, .iaload, 0, 0, 0), (35, 1, .iload_n 3, 0, 0, 0), (36, 3, .invokevirtual 244, 181, 3, 12)]),
  (80, [(39, 2, .ldc 188, 1000000000, 0, 0), (41, 3, .if_icmp .ge 7, 48, 0, 0), (44, 1, .iconst 1, 0, 0, 0), (45, 3, .goto 4, 49, 0, 0), (48, 1, .iconst 0, 0, 0, 0), (49, 2, .istore 4, 0, 0, 0), (51, 2, .iload 4, 0, 0, 0), (53, 3, .ifCond .eq 35, 88, 0, 0), (56, 1, .iload_n 2, 0, 0, 0), (57, 1, .iconst (-1), 0, 0, 0), (58, 3, .if_icmp .eq 28, 86, 0, 0), (61, 1, .aload_n 0, 0, 0, 0), (62, 1, .aload_n 0, 0, 0, 0), (63, 3, .getfield 37, 12, 11, 2), (66, 1, .iload_n 1, 0, 0, 0), (67, 1, .iaload, 0, 0, 0), (68, 1, .iload_n 3, 0, 0, 0), (69, 3, .invokevirtual 244, 181, 3, 12), (72, 1, .aload_n 0, 0, 0, 0), (73, 1, .aload_n 0, 0, 0, 0), (74, 3, .getfield 37, 12, 11, 2), (77, 1, .iload_n 1, 0, 0, 0), (78, 1, .iaload, 0, 0, 0), (79, 1, .iload_n 2, 0, 0, 0)]),
  (122, [(80, 3, .invokevirtual 244, 181, 3, 12), (83, 3, .if_icmp .ge 5, 88, 0, 0), (86, 1, .iload_n 3, 0, 0, 0), (87, 1, .istore_n 2, 0, 0, 0), (88, 3, .iinc 3 1, 0, 0, 0), (91, 3, .goto (-87), 4, 0, 0), (94, 1, .aload_n 0, 0, 0, 0), (95, 3, .getfield 55, 12, 17, 2), (98, 1, .iload_n 1, 0, 0, 0), (99, 1, .iload_n 2, 0, 0, 0), (100, 1, .iconst (-1), 0, 0, 0), (101, 3, .if_icmp .ne 7, 108, 0, 0), (104, 1, .iconst 3, 0, 0, 0), (105, 3, .goto 4, 109, 0, 0), (108, 1, .iconst 2, 0, 0, 0), (109, 1, .iastore, 0, 0, 0), (110, 1, .aload_n 0, 0, 0, 0), (111, 3, .getfield 61, 12, 19, 2), (114, 1, .iload_n 1, 0, 0, 0), (115, 1, .iload_n 2, 0, 0, 0), (116, 1, .iastore, 0, 0, 0), (117, 1, .iload_n 2, 0, 0, 0), (118, 1, .iconst (-1), 0, 0, 0), (119, 3, .if_icmp .eq 13, 132, 0, 0)]),
  (100000, [(122, 1, .aload_n 0, 0, 0, 0), (123, 3, .getfield 107, 12, 38, 2), (126, 1, .iload_n 2, 0, 0, 0), (127, 1, .dup2, 0, 0, 0), (128, 1, .iaload, 0, 0, 0), (129, 1, .iconst 1, 0, 0, 0), (130, 1, .isub, 0, 0, 0), (131, 1, .iastore, 0, 0, 0), (132, 1, .return_, 0, 0, 0)])]
theorem rwX12_goesToLocker : rowsB (mB 243) (mO 243) (mX 243) (mIni 243) (mFr 243) (mLo 243) (mT 243) csX12_goesToLocker = true := by decide +kernel
def bX12_goesToLocker_109 (x1 : Int) (x2 : Int) (y0 : Int) (y1 : Int) (h : HH) : Option HH :=
  gd ((0 : Int) ≤ y1 ∧ y1 < (9 : Int)) <|
    bnd (some (hI h 87 y1 y0)) fun h1 =>
    gd ((0 : Int) ≤ x1 ∧ x1 < (9 : Int)) <|
    bnd (some (hI h1 89 x1 x2)) fun h2 =>
    if x2 = ((-1) : Int) then
    some h2
  else
    gd ((0 : Int) ≤ x2 ∧ x2 < (16 : Int)) <|
    gd (R32 ((h2.1 101 x2) - 1)) <|
    gd ((0 : Int) ≤ x2 ∧ x2 < (16 : Int)) <|
    bnd (some (hI h2 101 x2 ((h2.1 101 x2) - 1))) fun h3 =>
    some h3
set_option maxRecDepth 100000 in
theorem uX12_goesToLocker_109 {g : SG} (hg : GOK g) {σ0 : SG} : ∀ {x1 : Int} {x2 : Int} {y0 : Int} {y1 : Int} {h : HH} {b : HH}, bX12_goesToLocker_109 x1 x2 y0 y1 h = some b → WK 243 (.inl none) σ0 (abH 71 119 g b) 109 [(0, aR 71), (1, aI x1), (2, aI x2)] [aI y0, aI y1, aR 87] (abH 71 119 g h) 0 0 := by
  intro x1 x2 y0 y1 h b q
  have e : bX12_goesToLocker_109 x1 x2 y0 y1 h = segW 71 119 g.2.2.2.2 krWV clN csX12_goesToLocker cuN 1000 109 [(0, aR 71), (1, aI x1), (2, aI x2)] [aI y0, aI y1, aR 87] h := rfl
  rw [e] at q
  clear e
  refine segW_wk (by decide) (by decide) hg rwX12_goesToLocker CLKW_N krWV_ok ?_ q
  clear q
  exact ct_N
def nX12_goesToLocker_109 (x1 : Int) (x2 : Int) (y0 : Int) (y1 : Int) (h : HH) : Option HH := bX12_goesToLocker_109 x1 x2 y0 y1 h
theorem wX12_goesToLocker_109 {g : SG} (hg : GOK g) {σ0 : SG} : ∀ {x1 : Int} {x2 : Int} {y0 : Int} {y1 : Int} {h : HH} {b : HH}, nX12_goesToLocker_109 x1 x2 y0 y1 h = some b → WK 243 (.inl none) σ0 (abH 71 119 g b) 109 [(0, aR 71), (1, aI x1), (2, aI x2)] [aI y0, aI y1, aR 87] (abH 71 119 g h) 0 0 := by
  intro x1 x2 y0 y1 h b q
  exact uX12_goesToLocker_109 hg q
def bX12_goesToLocker_88 (c4 : Int → Int → Int → HH → Option HH) (x1 : Int) (x2 : Int) (x3 : Int) (h : HH) : Option HH :=
  gd (R32 (x3 + 1)) <|
    c4 x1 x2 (x3 + 1) h
theorem uX12_goesToLocker_88 {g : SG} (hg : GOK g) {σ0 : SG} {c4 : Int → Int → Int → HH → Option HH} (k4 : ∀ (x1 : Int) (x2 : Int) (x3 : Int) (h : HH) (b : HH), c4 x1 x2 x3 h = some b → WK 243 (.inl none) σ0 (abH 71 119 g b) 4 [(0, aR 71), (1, aI x1), (2, aI x2), (3, aI x3)] [] (abH 71 119 g h) 0 0) : ∀ {x1 : Int} {x2 : Int} {x3 : Int} {h : HH} {b : HH}, bX12_goesToLocker_88 c4 x1 x2 x3 h = some b → WK 243 (.inl none) σ0 (abH 71 119 g b) 88 [(0, aR 71), (1, aI x1), (2, aI x2), (3, aI x3)] [] (abH 71 119 g h) 0 0 := by
  intro x1 x2 x3 h b q
  have e : bX12_goesToLocker_88 c4 x1 x2 x3 h = segW 71 119 g.2.2.2.2 krWV clN csX12_goesToLocker (cuC 4 (fun l st s => tkC 0 71 l <| tkI 1 l fun x1 => tkI 2 l fun x2 => tkI 3 l fun x3 => skE st (c4 x1 x2 x3 s)) cuN) 1000 88 [(0, aR 71), (1, aI x1), (2, aI x2), (3, aI x3)] [] h := rfl
  rw [e] at q
  clear e
  refine segW_wk (by decide) (by decide) hg rwX12_goesToLocker CLKW_N krWV_ok ?_ q
  clear q
  refine ct_C ?_ (ct_N)
  · intro l st h q
    obtain ⟨m0, q1⟩ := tkC_of q
    obtain ⟨x1, m1, q2⟩ := tkI_of q1
    obtain ⟨x2, m2, q3⟩ := tkI_of q2
    obtain ⟨x3, m3, q4⟩ := tkI_of q3
    obtain ⟨rfl, q5⟩ := skE_of q4
    exact WK_less (k4 _ _ _ _ _ q5) (List.forall_mem_cons.mpr ⟨m0, (List.forall_mem_cons.mpr ⟨m1, (List.forall_mem_cons.mpr ⟨m2, (List.forall_mem_cons.mpr ⟨m3, (fun _ h => absurd h List.not_mem_nil)⟩)⟩)⟩)⟩)
def nX12_goesToLocker_88 (c4 : Int → Int → Int → HH → Option HH) (x1 : Int) (x2 : Int) (x3 : Int) (h : HH) : Option HH := bX12_goesToLocker_88 c4 x1 x2 x3 h
theorem wX12_goesToLocker_88 {g : SG} (hg : GOK g) {σ0 : SG} {c4 : Int → Int → Int → HH → Option HH} (k4 : ∀ (x1 : Int) (x2 : Int) (x3 : Int) (h : HH) (b : HH), c4 x1 x2 x3 h = some b → WK 243 (.inl none) σ0 (abH 71 119 g b) 4 [(0, aR 71), (1, aI x1), (2, aI x2), (3, aI x3)] [] (abH 71 119 g h) 0 0) : ∀ {x1 : Int} {x2 : Int} {x3 : Int} {h : HH} {b : HH}, nX12_goesToLocker_88 c4 x1 x2 x3 h = some b → WK 243 (.inl none) σ0 (abH 71 119 g b) 88 [(0, aR 71), (1, aI x1), (2, aI x2), (3, aI x3)] [] (abH 71 119 g h) 0 0 := by
  intro x1 x2 x3 h b q
  exact uX12_goesToLocker_88 hg k4 q
def bX12_goesToLocker_86 (c88 : Int → Int → Int → HH → Option HH) (x1 : Int) (x3 : Int) (h : HH) : Option HH :=
  c88 x1 x3 x3 h
theorem uX12_goesToLocker_86 {g : SG} (hg : GOK g) {σ0 : SG} {c88 : Int → Int → Int → HH → Option HH} (k88 : ∀ (x1 : Int) (x2 : Int) (x3 : Int) (h : HH) (b : HH), c88 x1 x2 x3 h = some b → WK 243 (.inl none) σ0 (abH 71 119 g b) 88 [(0, aR 71), (1, aI x1), (2, aI x2), (3, aI x3)] [] (abH 71 119 g h) 0 0) : ∀ {x1 : Int} {x3 : Int} {h : HH} {b : HH}, bX12_goesToLocker_86 c88 x1 x3 h = some b → WK 243 (.inl none) σ0 (abH 71 119 g b) 86 [(0, aR 71), (1, aI x1), (3, aI x3)] [] (abH 71 119 g h) 0 0 := by
  intro x1 x3 h b q
  have e : bX12_goesToLocker_86 c88 x1 x3 h = segW 71 119 g.2.2.2.2 krWV clN csX12_goesToLocker (cuC 88 (fun l st s => tkC 0 71 l <| tkI 1 l fun x1 => tkI 2 l fun x2 => tkI 3 l fun x3 => skE st (c88 x1 x2 x3 s)) cuN) 1000 86 [(0, aR 71), (1, aI x1), (3, aI x3)] [] h := rfl
  rw [e] at q
  clear e
  refine segW_wk (by decide) (by decide) hg rwX12_goesToLocker CLKW_N krWV_ok ?_ q
  clear q
  refine ct_C ?_ (ct_N)
  · intro l st h q
    obtain ⟨m0, q1⟩ := tkC_of q
    obtain ⟨x1, m1, q2⟩ := tkI_of q1
    obtain ⟨x2, m2, q3⟩ := tkI_of q2
    obtain ⟨x3, m3, q4⟩ := tkI_of q3
    obtain ⟨rfl, q5⟩ := skE_of q4
    exact WK_less (k88 _ _ _ _ _ q5) (List.forall_mem_cons.mpr ⟨m0, (List.forall_mem_cons.mpr ⟨m1, (List.forall_mem_cons.mpr ⟨m2, (List.forall_mem_cons.mpr ⟨m3, (fun _ h => absurd h List.not_mem_nil)⟩)⟩)⟩)⟩)
def nX12_goesToLocker_86 (c4 : Int → Int → Int → HH → Option HH) (x1 : Int) (x3 : Int) (h : HH) : Option HH := bX12_goesToLocker_86 (nX12_goesToLocker_88 c4) x1 x3 h
theorem wX12_goesToLocker_86 {g : SG} (hg : GOK g) {σ0 : SG} {c4 : Int → Int → Int → HH → Option HH} (k4 : ∀ (x1 : Int) (x2 : Int) (x3 : Int) (h : HH) (b : HH), c4 x1 x2 x3 h = some b → WK 243 (.inl none) σ0 (abH 71 119 g b) 4 [(0, aR 71), (1, aI x1), (2, aI x2), (3, aI x3)] [] (abH 71 119 g h) 0 0) : ∀ {x1 : Int} {x3 : Int} {h : HH} {b : HH}, nX12_goesToLocker_86 c4 x1 x3 h = some b → WK 243 (.inl none) σ0 (abH 71 119 g b) 86 [(0, aR 71), (1, aI x1), (3, aI x3)] [] (abH 71 119 g h) 0 0 := by
  intro x1 x3 h b q
  exact uX12_goesToLocker_86 hg (fun _ _ _ _ _ q => wX12_goesToLocker_88 hg k4 q) q
def bX12_goesToLocker_49 (f181 : HH → Int → Int → Option Int) (c86 : Int → Int → HH → Option HH) (c88 : Int → Int → Int → HH → Option HH) (x1 : Int) (x2 : Int) (x3 : Int) (y0 : Int) (h : HH) : Option HH :=
  if y0 = (0 : Int) then
    c88 x1 x2 x3 h
  else
    if x2 = ((-1) : Int) then
    c86 x1 x3 h
  else
    gd ((0 : Int) ≤ x1 ∧ x1 < (9 : Int)) <|
    bnd (f181 h (h.1 81 x1) x3) fun r1 =>
    gd ((0 : Int) ≤ x1 ∧ x1 < (9 : Int)) <|
    bnd (f181 h (h.1 81 x1) x2) fun r2 =>
    if r1 < (r2 : Int) then
    c86 x1 x3 h
  else
    c88 x1 x2 x3 h
set_option maxRecDepth 100000 in
theorem uX12_goesToLocker_49 {g : SG} (hg : GOK g) {σ0 : SG} {c86 : Int → Int → HH → Option HH} {c88 : Int → Int → Int → HH → Option HH} (k86 : ∀ (x1 : Int) (x3 : Int) (h : HH) (b : HH), c86 x1 x3 h = some b → WK 243 (.inl none) σ0 (abH 71 119 g b) 86 [(0, aR 71), (1, aI x1), (3, aI x3)] [] (abH 71 119 g h) 0 0) (k88 : ∀ (x1 : Int) (x2 : Int) (x3 : Int) (h : HH) (b : HH), c88 x1 x2 x3 h = some b → WK 243 (.inl none) σ0 (abH 71 119 g b) 88 [(0, aR 71), (1, aI x1), (2, aI x2), (3, aI x3)] [] (abH 71 119 g h) 0 0) : ∀ {x1 : Int} {x2 : Int} {x3 : Int} {y0 : Int} {h : HH} {b : HH}, bX12_goesToLocker_49 nX12_d c86 c88 x1 x2 x3 y0 h = some b → WK 243 (.inl none) σ0 (abH 71 119 g b) 49 [(0, aR 71), (1, aI x1), (2, aI x2), (3, aI x3)] [aI y0] (abH 71 119 g h) 0 0 := by
  intro x1 x2 x3 y0 h b q
  have e : ∀ (f181 : HH → Int → Int → Option Int) , bX12_goesToLocker_49 f181 c86 c88 x1 x2 x3 y0 h = segW 71 119 g.2.2.2.2 krWV (clC 181 (liPW (pX12_d f181)) clN) csX12_goesToLocker (cuC 86 (fun l st s => tkC 0 71 l <| tkI 1 l fun x1 => tkI 3 l fun x3 => skE st (c86 x1 x3 s)) (cuC 88 (fun l st s => tkC 0 71 l <| tkI 1 l fun x1 => tkI 2 l fun x2 => tkI 3 l fun x3 => skE st (c88 x1 x2 x3 s)) cuN)) 1000 49 [(0, aR 71), (1, aI x1), (2, aI x2), (3, aI x3)] [aI y0] h := fun _ => rfl
  rw [e nX12_d] at q
  clear e
  refine segW_wk (by decide) (by decide) hg rwX12_goesToLocker (CLKW_C (liPW_ok (pX12_d_ok hg)) CLKW_N) krWV_ok ?_ q
  clear q
  refine ct_C ?_ (ct_C ?_ (ct_N))
  · intro l st h q
    obtain ⟨m0, q1⟩ := tkC_of q
    obtain ⟨x1, m1, q2⟩ := tkI_of q1
    obtain ⟨x3, m3, q3⟩ := tkI_of q2
    obtain ⟨rfl, q4⟩ := skE_of q3
    exact WK_less (k86 _ _ _ _ q4) (List.forall_mem_cons.mpr ⟨m0, (List.forall_mem_cons.mpr ⟨m1, (List.forall_mem_cons.mpr ⟨m3, (fun _ h => absurd h List.not_mem_nil)⟩)⟩)⟩)
  · intro l st h q
    obtain ⟨m0, q1⟩ := tkC_of q
    obtain ⟨x1, m1, q2⟩ := tkI_of q1
    obtain ⟨x2, m2, q3⟩ := tkI_of q2
    obtain ⟨x3, m3, q4⟩ := tkI_of q3
    obtain ⟨rfl, q5⟩ := skE_of q4
    exact WK_less (k88 _ _ _ _ _ q5) (List.forall_mem_cons.mpr ⟨m0, (List.forall_mem_cons.mpr ⟨m1, (List.forall_mem_cons.mpr ⟨m2, (List.forall_mem_cons.mpr ⟨m3, (fun _ h => absurd h List.not_mem_nil)⟩)⟩)⟩)⟩)
def nX12_goesToLocker_49 (c4 : Int → Int → Int → HH → Option HH) (x1 : Int) (x2 : Int) (x3 : Int) (y0 : Int) (h : HH) : Option HH := bX12_goesToLocker_49 nX12_d (nX12_goesToLocker_86 c4) (nX12_goesToLocker_88 c4) x1 x2 x3 y0 h
theorem wX12_goesToLocker_49 {g : SG} (hg : GOK g) {σ0 : SG} {c4 : Int → Int → Int → HH → Option HH} (k4 : ∀ (x1 : Int) (x2 : Int) (x3 : Int) (h : HH) (b : HH), c4 x1 x2 x3 h = some b → WK 243 (.inl none) σ0 (abH 71 119 g b) 4 [(0, aR 71), (1, aI x1), (2, aI x2), (3, aI x3)] [] (abH 71 119 g h) 0 0) : ∀ {x1 : Int} {x2 : Int} {x3 : Int} {y0 : Int} {h : HH} {b : HH}, nX12_goesToLocker_49 c4 x1 x2 x3 y0 h = some b → WK 243 (.inl none) σ0 (abH 71 119 g b) 49 [(0, aR 71), (1, aI x1), (2, aI x2), (3, aI x3)] [aI y0] (abH 71 119 g h) 0 0 := by
  intro x1 x2 x3 y0 h b q
  exact uX12_goesToLocker_49 hg (fun _ _ _ _ q => wX12_goesToLocker_86 hg k4 q) (fun _ _ _ _ _ q => wX12_goesToLocker_88 hg k4 q) q
def bX12_goesToLocker_48 (c49 : Int → Int → Int → Int → HH → Option HH) (x1 : Int) (x2 : Int) (x3 : Int) (h : HH) : Option HH :=
  c49 x1 x2 x3 0 h
theorem uX12_goesToLocker_48 {g : SG} (hg : GOK g) {σ0 : SG} {c49 : Int → Int → Int → Int → HH → Option HH} (k49 : ∀ (x1 : Int) (x2 : Int) (x3 : Int) (y0 : Int) (h : HH) (b : HH), c49 x1 x2 x3 y0 h = some b → WK 243 (.inl none) σ0 (abH 71 119 g b) 49 [(0, aR 71), (1, aI x1), (2, aI x2), (3, aI x3)] [aI y0] (abH 71 119 g h) 0 0) : ∀ {x1 : Int} {x2 : Int} {x3 : Int} {h : HH} {b : HH}, bX12_goesToLocker_48 c49 x1 x2 x3 h = some b → WK 243 (.inl none) σ0 (abH 71 119 g b) 48 [(0, aR 71), (1, aI x1), (2, aI x2), (3, aI x3)] [] (abH 71 119 g h) 0 0 := by
  intro x1 x2 x3 h b q
  have e : bX12_goesToLocker_48 c49 x1 x2 x3 h = segW 71 119 g.2.2.2.2 krWV clN csX12_goesToLocker (cuC 49 (fun l st s => tkC 0 71 l <| tkI 1 l fun x1 => tkI 2 l fun x2 => tkI 3 l fun x3 => skI st fun y0 st => skE st (c49 x1 x2 x3 y0 s)) cuN) 1000 48 [(0, aR 71), (1, aI x1), (2, aI x2), (3, aI x3)] [] h := rfl
  rw [e] at q
  clear e
  refine segW_wk (by decide) (by decide) hg rwX12_goesToLocker CLKW_N krWV_ok ?_ q
  clear q
  refine ct_C ?_ (ct_N)
  · intro l st h q
    obtain ⟨m0, q1⟩ := tkC_of q
    obtain ⟨x1, m1, q2⟩ := tkI_of q1
    obtain ⟨x2, m2, q3⟩ := tkI_of q2
    obtain ⟨x3, m3, q4⟩ := tkI_of q3
    obtain ⟨y0, t0, rfl, q5⟩ := skI_of q4
    obtain ⟨rfl, q6⟩ := skE_of q5
    exact WK_less (k49 _ _ _ _ _ _ q6) (List.forall_mem_cons.mpr ⟨m0, (List.forall_mem_cons.mpr ⟨m1, (List.forall_mem_cons.mpr ⟨m2, (List.forall_mem_cons.mpr ⟨m3, (fun _ h => absurd h List.not_mem_nil)⟩)⟩)⟩)⟩)
def nX12_goesToLocker_48 (c4 : Int → Int → Int → HH → Option HH) (x1 : Int) (x2 : Int) (x3 : Int) (h : HH) : Option HH := bX12_goesToLocker_48 (nX12_goesToLocker_49 c4) x1 x2 x3 h
theorem wX12_goesToLocker_48 {g : SG} (hg : GOK g) {σ0 : SG} {c4 : Int → Int → Int → HH → Option HH} (k4 : ∀ (x1 : Int) (x2 : Int) (x3 : Int) (h : HH) (b : HH), c4 x1 x2 x3 h = some b → WK 243 (.inl none) σ0 (abH 71 119 g b) 4 [(0, aR 71), (1, aI x1), (2, aI x2), (3, aI x3)] [] (abH 71 119 g h) 0 0) : ∀ {x1 : Int} {x2 : Int} {x3 : Int} {h : HH} {b : HH}, nX12_goesToLocker_48 c4 x1 x2 x3 h = some b → WK 243 (.inl none) σ0 (abH 71 119 g b) 48 [(0, aR 71), (1, aI x1), (2, aI x2), (3, aI x3)] [] (abH 71 119 g h) 0 0 := by
  intro x1 x2 x3 h b q
  exact uX12_goesToLocker_48 hg (fun _ _ _ _ _ _ q => wX12_goesToLocker_49 hg k4 q) q
def bX12_goesToLocker_4 (f181 : HH → Int → Int → Option Int) (c48 : Int → Int → Int → HH → Option HH) (c49 : Int → Int → Int → Int → HH → Option HH) (c109 : Int → Int → Int → Int → HH → Option HH) (x1 : Int) (x2 : Int) (x3 : Int) (h : HH) : Option HH :=
  if x3 < (16 : Int) then
    gd ((0 : Int) ≤ x3 ∧ x3 < (16 : Int)) <|
    if (h.1 102 x3) = (0 : Int) then
    c48 x1 x2 x3 h
  else
    gd ((0 : Int) ≤ x3 ∧ x3 < (16 : Int)) <|
    if (0 : Int) < (h.1 101 x3) then
    gd ((0 : Int) ≤ x1 ∧ x1 < (9 : Int)) <|
    bnd (f181 h (h.1 81 x1) x3) fun r1 =>
    if r1 < (1000000000 : Int) then
    c49 x1 x2 x3 1 h
  else
    c48 x1 x2 x3 h
  else
    c48 x1 x2 x3 h
  else
    if x2 = ((-1) : Int) then
    c109 x1 x2 3 x1 h
  else
    c109 x1 x2 2 x1 h
set_option maxRecDepth 100000 in
theorem uX12_goesToLocker_4 {g : SG} (hg : GOK g) {σ0 : SG} {c48 : Int → Int → Int → HH → Option HH} {c49 : Int → Int → Int → Int → HH → Option HH} {c109 : Int → Int → Int → Int → HH → Option HH} (k48 : ∀ (x1 : Int) (x2 : Int) (x3 : Int) (h : HH) (b : HH), c48 x1 x2 x3 h = some b → WK 243 (.inl none) σ0 (abH 71 119 g b) 48 [(0, aR 71), (1, aI x1), (2, aI x2), (3, aI x3)] [] (abH 71 119 g h) 0 0) (k49 : ∀ (x1 : Int) (x2 : Int) (x3 : Int) (y0 : Int) (h : HH) (b : HH), c49 x1 x2 x3 y0 h = some b → WK 243 (.inl none) σ0 (abH 71 119 g b) 49 [(0, aR 71), (1, aI x1), (2, aI x2), (3, aI x3)] [aI y0] (abH 71 119 g h) 0 0) (k109 : ∀ (x1 : Int) (x2 : Int) (y0 : Int) (y1 : Int) (h : HH) (b : HH), c109 x1 x2 y0 y1 h = some b → WK 243 (.inl none) σ0 (abH 71 119 g b) 109 [(0, aR 71), (1, aI x1), (2, aI x2)] [aI y0, aI y1, aR 87] (abH 71 119 g h) 0 0) : ∀ {x1 : Int} {x2 : Int} {x3 : Int} {h : HH} {b : HH}, bX12_goesToLocker_4 nX12_d c48 c49 c109 x1 x2 x3 h = some b → WK 243 (.inl none) σ0 (abH 71 119 g b) 4 [(0, aR 71), (1, aI x1), (2, aI x2), (3, aI x3)] [] (abH 71 119 g h) 0 0 := by
  intro x1 x2 x3 h b q
  have e : ∀ (f181 : HH → Int → Int → Option Int) , bX12_goesToLocker_4 f181 c48 c49 c109 x1 x2 x3 h = segW 71 119 g.2.2.2.2 krWV (clC 181 (liPW (pX12_d f181)) clN) csX12_goesToLocker (cuC 48 (fun l st s => tkC 0 71 l <| tkI 1 l fun x1 => tkI 2 l fun x2 => tkI 3 l fun x3 => skE st (c48 x1 x2 x3 s)) (cuC 49 (fun l st s => tkC 0 71 l <| tkI 1 l fun x1 => tkI 2 l fun x2 => tkI 3 l fun x3 => skI st fun y0 st => skE st (c49 x1 x2 x3 y0 s)) (cuC 109 (fun l st s => tkC 0 71 l <| tkI 1 l fun x1 => tkI 2 l fun x2 => skI st fun y0 st => skI st fun y1 st => skC 87 st fun st => skE st (c109 x1 x2 y0 y1 s)) cuN))) 1000 4 [(0, aR 71), (1, aI x1), (2, aI x2), (3, aI x3)] [] h := fun _ => rfl
  rw [e nX12_d] at q
  clear e
  refine segW_wk (by decide) (by decide) hg rwX12_goesToLocker (CLKW_C (liPW_ok (pX12_d_ok hg)) CLKW_N) krWV_ok ?_ q
  clear q
  refine ct_C ?_ (ct_C ?_ (ct_C ?_ (ct_N)))
  · intro l st h q
    obtain ⟨m0, q1⟩ := tkC_of q
    obtain ⟨x1, m1, q2⟩ := tkI_of q1
    obtain ⟨x2, m2, q3⟩ := tkI_of q2
    obtain ⟨x3, m3, q4⟩ := tkI_of q3
    obtain ⟨rfl, q5⟩ := skE_of q4
    exact WK_less (k48 _ _ _ _ _ q5) (List.forall_mem_cons.mpr ⟨m0, (List.forall_mem_cons.mpr ⟨m1, (List.forall_mem_cons.mpr ⟨m2, (List.forall_mem_cons.mpr ⟨m3, (fun _ h => absurd h List.not_mem_nil)⟩)⟩)⟩)⟩)
  · intro l st h q
    obtain ⟨m0, q1⟩ := tkC_of q
    obtain ⟨x1, m1, q2⟩ := tkI_of q1
    obtain ⟨x2, m2, q3⟩ := tkI_of q2
    obtain ⟨x3, m3, q4⟩ := tkI_of q3
    obtain ⟨y0, t0, rfl, q5⟩ := skI_of q4
    obtain ⟨rfl, q6⟩ := skE_of q5
    exact WK_less (k49 _ _ _ _ _ _ q6) (List.forall_mem_cons.mpr ⟨m0, (List.forall_mem_cons.mpr ⟨m1, (List.forall_mem_cons.mpr ⟨m2, (List.forall_mem_cons.mpr ⟨m3, (fun _ h => absurd h List.not_mem_nil)⟩)⟩)⟩)⟩)
  · intro l st h q
    obtain ⟨m0, q1⟩ := tkC_of q
    obtain ⟨x1, m1, q2⟩ := tkI_of q1
    obtain ⟨x2, m2, q3⟩ := tkI_of q2
    obtain ⟨y0, t0, rfl, q4⟩ := skI_of q3
    obtain ⟨y1, t1, rfl, q5⟩ := skI_of q4
    obtain ⟨t2, rfl, q6⟩ := skC_of q5
    obtain ⟨rfl, q7⟩ := skE_of q6
    exact WK_less (k109 _ _ _ _ _ _ q7) (List.forall_mem_cons.mpr ⟨m0, (List.forall_mem_cons.mpr ⟨m1, (List.forall_mem_cons.mpr ⟨m2, (fun _ h => absurd h List.not_mem_nil)⟩)⟩)⟩)
def nX12_goesToLocker_4 : Nat → Int → Int → Int → HH → Option HH := iter (fun _ _ _ _ => none) (fun self => bX12_goesToLocker_4 nX12_d (nX12_goesToLocker_48 self) (nX12_goesToLocker_49 self) nX12_goesToLocker_109)
theorem nX12_goesToLocker_4_s {F : Nat} : nX12_goesToLocker_4 (F + 1) = bX12_goesToLocker_4 nX12_d (nX12_goesToLocker_48 (nX12_goesToLocker_4 F)) (nX12_goesToLocker_49 (nX12_goesToLocker_4 F)) nX12_goesToLocker_109 := rfl
theorem wX12_goesToLocker_4 {g : SG} (hg : GOK g) {σ0 : SG} : ∀ {F : Nat}, ∀ {x1 : Int} {x2 : Int} {x3 : Int} {h : HH} {b : HH}, nX12_goesToLocker_4 F x1 x2 x3 h = some b → WK 243 (.inl none) σ0 (abH 71 119 g b) 4 [(0, aR 71), (1, aI x1), (2, aI x2), (3, aI x3)] [] (abH 71 119 g h) 0 0 := by
  intro F
  have z : ∀ (x1 : Int) (x2 : Int) (x3 : Int) (h : HH) (b : HH), nX12_goesToLocker_4 F x1 x2 x3 h = some b → WK 243 (.inl none) σ0 (abH 71 119 g b) 4 [(0, aR 71), (1, aI x1), (2, aI x2), (3, aI x3)] [] (abH 71 119 g h) 0 0 := iter_ind (P := fun (c : Int → Int → Int → HH → Option HH) => ∀ (x1 : Int) (x2 : Int) (x3 : Int) (h : HH) (b : HH), c x1 x2 x3 h = some b → WK 243 (.inl none) σ0 (abH 71 119 g b) 4 [(0, aR 71), (1, aI x1), (2, aI x2), (3, aI x3)] [] (abH 71 119 g h) 0 0) (by
    intro x1 x2 x3 h b q
    cases q) (fun self ih => by
    intro x1 x2 x3 h b q
    exact uX12_goesToLocker_4 hg (fun _ _ _ _ _ q => wX12_goesToLocker_48 hg ih q) (fun _ _ _ _ _ _ q => wX12_goesToLocker_49 hg ih q) (fun _ _ _ _ _ _ q => wX12_goesToLocker_109 hg q) q) F
  intro x1 x2 x3 h b q
  exact z _ _ _ _ _ q
def bX12_goesToLocker (c4 : Int → Int → Int → HH → Option HH) (x1 : Int) (h : HH) : Option HH :=
  c4 x1 (-1) 1 h
theorem uX12_goesToLocker {g : SG} (hg : GOK g) {σ0 : SG} {c4 : Int → Int → Int → HH → Option HH} (k4 : ∀ (x1 : Int) (x2 : Int) (x3 : Int) (h : HH) (b : HH), c4 x1 x2 x3 h = some b → WK 243 (.inl none) σ0 (abH 71 119 g b) 4 [(0, aR 71), (1, aI x1), (2, aI x2), (3, aI x3)] [] (abH 71 119 g h) 0 0) : ∀ {x1 : Int} {h : HH} {b : HH}, bX12_goesToLocker c4 x1 h = some b → WK 243 (.inl none) σ0 (abH 71 119 g b) 0 [(0, aR 71), (1, aI x1)] [] (abH 71 119 g h) 0 0 := by
  intro x1 h b q
  have e : bX12_goesToLocker c4 x1 h = segW 71 119 g.2.2.2.2 krWV clN csX12_goesToLocker (cuC 4 (fun l st s => tkC 0 71 l <| tkI 1 l fun x1 => tkI 2 l fun x2 => tkI 3 l fun x3 => skE st (c4 x1 x2 x3 s)) cuN) 1000 0 [(0, aR 71), (1, aI x1)] [] h := rfl
  rw [e] at q
  clear e
  refine segW_wk (by decide) (by decide) hg rwX12_goesToLocker CLKW_N krWV_ok ?_ q
  clear q
  refine ct_C ?_ (ct_N)
  · intro l st h q
    obtain ⟨m0, q1⟩ := tkC_of q
    obtain ⟨x1, m1, q2⟩ := tkI_of q1
    obtain ⟨x2, m2, q3⟩ := tkI_of q2
    obtain ⟨x3, m3, q4⟩ := tkI_of q3
    obtain ⟨rfl, q5⟩ := skE_of q4
    exact WK_less (k4 _ _ _ _ _ q5) (List.forall_mem_cons.mpr ⟨m0, (List.forall_mem_cons.mpr ⟨m1, (List.forall_mem_cons.mpr ⟨m2, (List.forall_mem_cons.mpr ⟨m3, (fun _ h => absurd h List.not_mem_nil)⟩)⟩)⟩)⟩)
def nX12_goesToLocker (x1 : Int) (h : HH) : Option HH := bX12_goesToLocker (nX12_goesToLocker_4 100000) x1 h
theorem wX12_goesToLocker {g : SG} (hg : GOK g) {σ0 : SG} : ∀ {x1 : Int} {h : HH} {b : HH}, nX12_goesToLocker x1 h = some b → WK 243 (.inl none) σ0 (abH 71 119 g b) 0 [(0, aR 71), (1, aI x1)] [] (abH 71 119 g h) 0 0 := by
  intro x1 h b q
  exact uX12_goesToLocker hg (fun _ _ _ _ _ q => wX12_goesToLocker_4 hg q) q
theorem mX12_goesToLocker {g : SG} (hg : GOK g) {h : HH} {x1 : Int} {b : HH} (q : nX12_goesToLocker x1 h = some b) : MCT 243 [] [aR 71, aI x1] (abH 71 119 g h) (.inl none) (abH 71 119 g b) :=
  mct_of (by decide) (MFok 243 (by decide +kernel)) (fun _ => Nat.le_of_ble_eq_true rfl) (wX12_goesToLocker hg q)
def pX12_goesToLocker {β : Type} (z : Int → HH → Option HH) : PW β := fun as h f => skC 71 as fun as => skI as fun x1 as => skE as (bnd (z x1 h) fun r => f (.inl none) r)
theorem pX12_goesToLocker_ok {β : Type} {g : SG} (hg : GOK g) : CW1 (β := β) 243 (pX12_goesToLocker nX12_goesToLocker) 71 119 g := fun as h f b q => by
  obtain ⟨as, rfl, q1⟩ := skC_of q
  obtain ⟨x1, as, rfl, q2⟩ := skI_of q1
  obtain ⟨rfl, q0⟩ := skE_of q2
  obtain ⟨r, z1, z2⟩ := bnd_of q0
  exact ⟨_, _, z2, by decide, mX12_goesToLocker hg z1, rfl, rfl, fun z => absurd z (by decide)⟩
