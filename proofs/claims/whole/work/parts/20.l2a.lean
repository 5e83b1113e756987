def csX0_addLocker : List (Nat × List (Nat × ARow)) := [(100000, [(0, 1, .aload_n 0, 0, 0, 0), (1, 3, .getfield 9, 0, 1, 2), (4, 1, .iload_n 1, 0, 0, 0), (5, 1, .iload_n 2, 0, 0, 0), (6, 1, .iastore, 0, 0, 0), (7, 1, .aload_n 0, 0, 0, 0), (8, 1, .dup, 0, 0, 0), (9, 3, .getfield 28, 0, 3, 0), (12, 1, .iconst 1, 0, 0, 0), (13, 1, .iadd, 0, 0, 0), (14, 3, .putfield 28, 0, 3, 0), (17, 1, .aload_n 0, 0, 0, 0), (18, 3, .getfield 28, 0, 3, 0), (21, 1, .ireturn, 0, 0, 0)])]
theorem rwX0_addLocker : rowsB (mB 1) (mO 1) (mX 1) (mIni 1) (mFr 1) (mLo 1) (mT 1) csX0_addLocker = true := by decide +kernel
def nX0_addLocker (x1 : Int) (x2 : Int) (h : HH) : Option (Int × HH) :=
  gd (0 ≤ x1 ∧ x1 < 16) <|
    bnd (some (hI h 61 x1 x2)) fun h1 =>
    gd (R32 ((h1.1 60 3) + 1)) <|
    bnd (some (hI h1 60 3 ((h1.1 60 3) + 1))) fun h2 =>
    some ((h2.1 60 3), h2)
theorem wX0_addLocker {g : SG} (hg : GOK g) {σ0 : SG} : ∀ {x1 : Int} {x2 : Int} {h : HH} {b : (Int × HH)}, nX0_addLocker x1 x2 h = some b → WK 1 (.inl (some (aI b.1))) σ0 (abH 2 70 g b.2) 0 [(0, aR 60), (1, aI x1), (2, aI x2)] [] (abH 2 70 g h) 0 0 := by
  intro x1 x2 h b q
  have e : nX0_addLocker x1 x2 h = segW 2 70 g.2.2.2.2 krWI clN csX0_addLocker cuN 1000 0 [(0, aR 60), (1, aI x1), (2, aI x2)] [] h := rfl
  rw [e] at q
  clear e
  refine segW_wk (by decide) (by decide) hg rwX0_addLocker CLKW_N krWI_ok ?_ q
  clear q
  exact ct_N
theorem mX0_addLocker {g : SG} (hg : GOK g) {h : HH} {x1 : Int} {x2 : Int} {b : (Int × HH)} (q : nX0_addLocker x1 x2 h = some b) : MCT 1 [] [aR 60, aI x1, aI x2] (abH 2 70 g h) (.inl (some (aI b.1))) (abH 2 70 g b.2) :=
  mct_of (by decide) (MFok 1 (by decide +kernel)) (fun _ => Nat.le_of_ble_eq_true rfl) (wX0_addLocker hg q)
def pX0_addLocker {β : Type} : PW β := fun as h f => skC 60 as fun as => skI as fun x1 as => skI as fun x2 as => skE as (bnd (nX0_addLocker x1 x2 h) fun r => f (.inl (some (aI r.1))) r.2)
theorem pX0_addLocker_ok {β : Type} {g : SG} (hg : GOK g) : CW1 (β := β) 1 pX0_addLocker 2 70 g := fun as h f b q => by
  obtain ⟨as, rfl, q1⟩ := skC_of q
  obtain ⟨x1, as, rfl, q2⟩ := skI_of q1
  obtain ⟨x2, as, rfl, q3⟩ := skI_of q2
  obtain ⟨rfl, q0⟩ := skE_of q3
  obtain ⟨r, z1, z2⟩ := bnd_of q0
  exact ⟨_, _, z2, by decide, mX0_addLocker hg z1, rfl, rfl, fun z => absurd z (by decide)⟩
def csX9_minutesOf : List (Nat × List (Nat × ARow)) := [(100000, [(0, 1, .aload_n 0, 0, 0, 0), (1, 3, .getfield 21, 9, 4, 2), (4, 1, .iload_n 1, 0, 0, 0), (5, 2, .bipush 16, 0, 0, 0), (7, 1, .imul, 0, 0, 0), (8, 1, .iload_n 2, 0, 0, 0), (9, 1, .iadd, 0, 0, 0), (10, 1, .iaload, 0, 0, 0), (11, 1, .ireturn, 0, 0, 0)])]
theorem rwX9_minutesOf : rowsB (mB 87) (mO 87) (mX 87) (mIni 87) (mFr 87) (mLo 87) (mT 87) csX9_minutesOf = true := by decide +kernel
def nX9_minutesOf (h : HH) (x1 : Int) (x2 : Int) : Option Int :=
  gd (R32 (x1 * 16)) <|
    gd (R32 ((x1 * 16) + x2)) <|
    gd (0 ≤ ((x1 * 16) + x2) ∧ ((x1 * 16) + x2) < 256) <|
    some (h.1 7 ((x1 * 16) + x2))
theorem wX9_minutesOf {g : SG} (hg : GOK g) {σ0 : SG} {h : HH} : ∀ {x1 : Int} {x2 : Int} {b : Int}, nX9_minutesOf h x1 x2 = some b → WK 87 (.inl (some (aI b))) σ0 (abH 2 70 g h) 0 [(0, aR 3), (1, aI x1), (2, aI x2)] [] (abH 2 70 g h) 0 0 := by
  intro x1 x2 b q
  have e : nX9_minutesOf h x1 x2 = segP 2 70 g.2.2.2.2 h krPI clNP csX9_minutesOf cuN 1000 0 [(0, aR 3), (1, aI x1), (2, aI x2)] [] := rfl
  rw [e] at q
  clear e
  refine segP_wk (by decide) (by decide) hg rwX9_minutesOf CLKP_N krPI_ok ?_ q
  clear q
  exact ct_N
theorem mX9_minutesOf {g : SG} (hg : GOK g) {h : HH} {x1 : Int} {x2 : Int} {b : Int} (q : nX9_minutesOf h x1 x2 = some b) : MCT 87 [] [aR 3, aI x1, aI x2] (abH 2 70 g h) (.inl (some (aI b))) (abH 2 70 g h) :=
  mct_of (by decide) (MFok 87 (by decide +kernel)) (fun _ => Nat.le_of_ble_eq_true rfl) (wX9_minutesOf hg q)
def pX9_minutesOf {β : Type} : PP β := fun h as f => skC 3 as fun as => skI as fun x1 as => skI as fun x2 as => skE as (bnd (nX9_minutesOf h x1 x2) fun r => f (.inl (some (aI r))))
theorem pX9_minutesOf_ok {β : Type} {g : SG} (hg : GOK g) : CP1 (β := β) 87 pX9_minutesOf 2 70 g := fun h as f b q => by
  obtain ⟨as, rfl, q1⟩ := skC_of q
  obtain ⟨x1, as, rfl, q2⟩ := skI_of q1
  obtain ⟨x2, as, rfl, q3⟩ := skI_of q2
  obtain ⟨rfl, q0⟩ := skE_of q3
  obtain ⟨r, z1, z2⟩ := bnd_of q0
  exact ⟨_, z2, by decide, mX9_minutesOf hg z1, rfl, rfl, fun z => absurd z (by decide)⟩
def csX0_nearestFree : List (Nat × List (Nat × ARow)) := [(44, [(0, 1, .iconst (-1), 0, 0, 0), (1, 1, .istore_n 2, 0, 0, 0), (2, 2, .ldc 47, 10000000, 0, 0), (4, 1, .istore_n 3, 0, 0, 0), (5, 1, .iconst 0, 0, 0, 0), (6, 2, .istore 4, 0, 0, 0), (8, 2, .iload 4, 0, 0, 0), (10, 2, .bipush 16, 0, 0, 0), (12, 3, .if_icmp .ge 59, 71, 0, 0), (15, 1, .aload_n 0, 0, 0, 0), (16, 3, .getfield 24, 0, 0, 2), (19, 3, .getfield 48, 2, 0, 2), (22, 1, .iload_n 1, 0, 0, 0), (23, 2, .iload 4, 0, 0, 0), (25, 3, .invokevirtual 52, 87, 3, 9), (28, 2, .istore 5, 0, 0, 0), (30, 1, .aload_n 0, 0, 0, 0), (31, 3, .getfield 15, 0, 2, 2), (34, 2, .iload 4, 0, 0, 0), (36, 1, .iaload, 0, 0, 0), (37, 1, .aload_n 0, 0, 0, 0), (38, 3, .getfield 9, 0, 1, 2), (41, 2, .iload 4, 0, 0, 0), (43, 1, .iaload, 0, 0, 0)]),
  (100000, [(44, 3, .if_icmp .ge 21, 65, 0, 0), (47, 2, .iload 5, 0, 0, 0), (49, 1, .iconst (-1), 0, 0, 0), (50, 3, .if_icmp .eq 15, 65, 0, 0), (53, 2, .iload 5, 0, 0, 0), (55, 1, .iload_n 3, 0, 0, 0), (56, 3, .if_icmp .ge 9, 65, 0, 0), (59, 2, .iload 4, 0, 0, 0), (61, 1, .istore_n 2, 0, 0, 0), (62, 2, .iload 5, 0, 0, 0), (64, 1, .istore_n 3, 0, 0, 0), (65, 3, .iinc 4 1, 0, 0, 0), (68, 3, .goto (-60), 8, 0, 0), (71, 1, .iload_n 2, 0, 0, 0), (72, 1, .ireturn, 0, 0, 0)])]
theorem rwX0_nearestFree : rowsB (mB 3) (mO 3) (mX 3) (mIni 3) (mFr 3) (mLo 3) (mT 3) csX0_nearestFree = true := by decide +kernel
def nX0_nearestFree_65 (h : HH) (c8 : Int → Int → Int → Int → Option Int) (x1 : Int) (x2 : Int) (x3 : Int) (x4 : Int) : Option Int :=
  gd (R32 (x4 + 1)) <|
    c8 x1 x2 x3 (x4 + 1)
theorem wX0_nearestFree_65 {g : SG} (hg : GOK g) {σ0 : SG} {h : HH} {c8 : Int → Int → Int → Int → Option Int} (k8 : ∀ (x1 : Int) (x2 : Int) (x3 : Int) (x4 : Int) (b : Int), c8 x1 x2 x3 x4 = some b → WK 3 (.inl (some (aI b))) σ0 (abH 2 70 g h) 8 [(0, aR 60), (1, aI x1), (2, aI x2), (3, aI x3), (4, aI x4)] [] (abH 2 70 g h) 0 0) : ∀ {x1 : Int} {x2 : Int} {x3 : Int} {x4 : Int} {b : Int}, nX0_nearestFree_65 h c8 x1 x2 x3 x4 = some b → WK 3 (.inl (some (aI b))) σ0 (abH 2 70 g h) 65 [(0, aR 60), (1, aI x1), (2, aI x2), (3, aI x3), (4, aI x4)] [] (abH 2 70 g h) 0 0 := by
  intro x1 x2 x3 x4 b q
  have e : nX0_nearestFree_65 h c8 x1 x2 x3 x4 = segP 2 70 g.2.2.2.2 h krPI clNP csX0_nearestFree (cuC 8 (fun l st s => tkC 0 60 l <| tkI 1 l fun x1 => tkI 2 l fun x2 => tkI 3 l fun x3 => tkI 4 l fun x4 => skE st (c8 x1 x2 x3 x4)) cuN) 1000 65 [(0, aR 60), (1, aI x1), (2, aI x2), (3, aI x3), (4, aI x4)] [] := rfl
  rw [e] at q
  clear e
  refine segP_wk (by decide) (by decide) hg rwX0_nearestFree CLKP_N krPI_ok ?_ q
  clear q
  refine ct_C ?_ (ct_N)
  · intro l st _ q
    obtain ⟨m0, q1⟩ := tkC_of q
    obtain ⟨x1, m1, q2⟩ := tkI_of q1
    obtain ⟨x2, m2, q3⟩ := tkI_of q2
    obtain ⟨x3, m3, q4⟩ := tkI_of q3
    obtain ⟨x4, m4, q5⟩ := tkI_of q4
    obtain ⟨rfl, q6⟩ := skE_of q5
    exact WK_less (k8 _ _ _ _ _ q6) (List.forall_mem_cons.mpr ⟨m0, (List.forall_mem_cons.mpr ⟨m1, (List.forall_mem_cons.mpr ⟨m2, (List.forall_mem_cons.mpr ⟨m3, (List.forall_mem_cons.mpr ⟨m4, (fun _ h => absurd h List.not_mem_nil)⟩)⟩)⟩)⟩)⟩)
def nX0_nearestFree_8 (h : HH) : Nat → Int → Int → Int → Int → Option Int
  | 0, _, _, _, _ => none
  | c + 1, x1, x2, x3, x4 =>
    if x4 < 16 then
      bnd (nX9_minutesOf h x1 x4) fun r1 =>
      gd (0 ≤ x4 ∧ x4 < 16) <|
      gd (0 ≤ x4 ∧ x4 < 16) <|
      if (h.1 62 x4) < (h.1 61 x4) then
      if r1 = (-1) then
      nX0_nearestFree_65 h (nX0_nearestFree_8 h c) x1 x2 x3 x4
    else
      if r1 < x3 then
      nX0_nearestFree_65 h (nX0_nearestFree_8 h c) x1 x4 r1 x4
    else
      nX0_nearestFree_65 h (nX0_nearestFree_8 h c) x1 x2 x3 x4
    else
      nX0_nearestFree_65 h (nX0_nearestFree_8 h c) x1 x2 x3 x4
    else
      some x2
theorem wX0_nearestFree_8 {g : SG} (hg : GOK g) {σ0 : SG} {h : HH} : ∀ {F : Nat}, ∀ {x1 : Int} {x2 : Int} {x3 : Int} {x4 : Int} {b : Int}, nX0_nearestFree_8 h F x1 x2 x3 x4 = some b → WK 3 (.inl (some (aI b))) σ0 (abH 2 70 g h) 8 [(0, aR 60), (1, aI x1), (2, aI x2), (3, aI x3), (4, aI x4)] [] (abH 2 70 g h) 0 0 := by
  intro F
  induction F with
  | zero =>
    intro x1 x2 x3 x4 b q
    cases q
  | succ F ih =>
    intro x1 x2 x3 x4 b q
    have e : nX0_nearestFree_8 h (F + 1) x1 x2 x3 x4 = segP 2 70 g.2.2.2.2 h krPI (clCP 87 (pX9_minutesOf h) clNP) csX0_nearestFree (cuC 65 (fun l st s => tkC 0 60 l <| tkI 1 l fun x1 => tkI 2 l fun x2 => tkI 3 l fun x3 => tkI 4 l fun x4 => skE st (nX0_nearestFree_65 h (nX0_nearestFree_8 h F) x1 x2 x3 x4)) cuN) 1000 8 [(0, aR 60), (1, aI x1), (2, aI x2), (3, aI x3), (4, aI x4)] [] := rfl
    rw [e] at q
    clear e
    refine segP_wk (by decide) (by decide) hg rwX0_nearestFree (CLKP_C (pX9_minutesOf_ok hg) CLKP_N) krPI_ok ?_ q
    clear q
    refine ct_C ?_ (ct_N)
    · intro l st _ q
      obtain ⟨m0, q1⟩ := tkC_of q
      obtain ⟨x1, m1, q2⟩ := tkI_of q1
      obtain ⟨x2, m2, q3⟩ := tkI_of q2
      obtain ⟨x3, m3, q4⟩ := tkI_of q3
      obtain ⟨x4, m4, q5⟩ := tkI_of q4
      obtain ⟨rfl, q6⟩ := skE_of q5
      exact WK_less (wX0_nearestFree_65 hg (fun _ _ _ _ _ q => ih q) q6) (List.forall_mem_cons.mpr ⟨m0, (List.forall_mem_cons.mpr ⟨m1, (List.forall_mem_cons.mpr ⟨m2, (List.forall_mem_cons.mpr ⟨m3, (List.forall_mem_cons.mpr ⟨m4, (fun _ h => absurd h List.not_mem_nil)⟩)⟩)⟩)⟩)⟩)
def nX0_nearestFree (h : HH) (x1 : Int) : Option Int :=
  nX0_nearestFree_8 h 4000 x1 (-1) 10000000 0
theorem wX0_nearestFree {g : SG} (hg : GOK g) {σ0 : SG} {h : HH} : ∀ {x1 : Int} {b : Int}, nX0_nearestFree h x1 = some b → WK 3 (.inl (some (aI b))) σ0 (abH 2 70 g h) 0 [(0, aR 60), (1, aI x1)] [] (abH 2 70 g h) 0 0 := by
  intro x1 b q
  have e : nX0_nearestFree h x1 = segP 2 70 g.2.2.2.2 h krPI clNP csX0_nearestFree (cuC 8 (fun l st s => tkC 0 60 l <| tkI 1 l fun x1 => tkI 2 l fun x2 => tkI 3 l fun x3 => tkI 4 l fun x4 => skE st (nX0_nearestFree_8 h 4000 x1 x2 x3 x4)) cuN) 1000 0 [(0, aR 60), (1, aI x1)] [] := rfl
  rw [e] at q
  clear e
  refine segP_wk (by decide) (by decide) hg rwX0_nearestFree CLKP_N krPI_ok ?_ q
  clear q
  refine ct_C ?_ (ct_N)
  · intro l st _ q
    obtain ⟨m0, q1⟩ := tkC_of q
    obtain ⟨x1, m1, q2⟩ := tkI_of q1
    obtain ⟨x2, m2, q3⟩ := tkI_of q2
    obtain ⟨x3, m3, q4⟩ := tkI_of q3
    obtain ⟨x4, m4, q5⟩ := tkI_of q4
    obtain ⟨rfl, q6⟩ := skE_of q5
    exact WK_less (wX0_nearestFree_8 hg q6) (List.forall_mem_cons.mpr ⟨m0, (List.forall_mem_cons.mpr ⟨m1, (List.forall_mem_cons.mpr ⟨m2, (List.forall_mem_cons.mpr ⟨m3, (List.forall_mem_cons.mpr ⟨m4, (fun _ h => absurd h List.not_mem_nil)⟩)⟩)⟩)⟩)⟩)
theorem mX0_nearestFree {g : SG} (hg : GOK g) {h : HH} {x1 : Int} {b : Int} (q : nX0_nearestFree h x1 = some b) : MCT 3 [] [aR 60, aI x1] (abH 2 70 g h) (.inl (some (aI b))) (abH 2 70 g h) :=
  mct_of (by decide) (MFok 3 (by decide +kernel)) (fun _ => Nat.le_of_ble_eq_true rfl) (wX0_nearestFree hg q)
def pX0_nearestFree {β : Type} : PP β := fun h as f => skC 60 as fun as => skI as fun x1 as => skE as (bnd (nX0_nearestFree h x1) fun r => f (.inl (some (aI r))))
theorem pX0_nearestFree_ok {β : Type} {g : SG} (hg : GOK g) : CP1 (β := β) 3 pX0_nearestFree 2 70 g := fun h as f b q => by
  obtain ⟨as, rfl, q1⟩ := skC_of q
  obtain ⟨x1, as, rfl, q2⟩ := skI_of q1
  obtain ⟨rfl, q0⟩ := skE_of q2
  obtain ⟨r, z1, z2⟩ := bnd_of q0
  exact ⟨_, z2, by decide, mX0_nearestFree hg z1, rfl, rfl, fun z => absurd z (by decide)⟩
def csX0_sendAway : List (Nat × List (Nat × ARow)) := [(42, [(0, 1, .aload_n 0, 0, 0, 0), (1, 1, .aload_n 0, 0, 0, 0), (2, 3, .getfield 24, 0, 0, 2), (5, 3, .getfield 32, 2, 1, 2), (8, 1, .iload_n 1, 0, 0, 0), (9, 1, .iaload, 0, 0, 0), (10, 3, .invokevirtual 37, 3, 2, 0), (13, 1, .istore_n 2, 0, 0, 0), (14, 1, .aload_n 0, 0, 0, 0), (15, 3, .getfield 24, 0, 0, 2), (18, 3, .getfield 41, 2, 9, 2), (21, 1, .iload_n 1, 0, 0, 0), (22, 1, .iload_n 2, 0, 0, 0), (23, 1, .iastore, 0, 0, 0), (24, 1, .aload_n 0, 0, 0, 0), (25, 3, .getfield 24, 0, 0, 2), (28, 3, .getfield 44, 2, 7, 2), (31, 1, .iload_n 1, 0, 0, 0), (32, 1, .iload_n 2, 0, 0, 0), (33, 1, .iconst (-1), 0, 0, 0), (34, 3, .if_icmp .ne 7, 41, 0, 0), (37, 1, .iconst 3, 0, 0, 0), (38, 3, .goto 4, 42, 0, 0), (41, 1, .iconst 2, 0, 0, 0)]),
  (100000, [(42, 1, .iastore, 0, 0, 0), (43, 1, .iload_n 2, 0, 0, 0), (44, 1, .iconst (-1), 0, 0, 0), (45, 3, .if_icmp .eq 13, 58, 0, 0), (48, 1, .aload_n 0, 0, 0, 0), (49, 3, .getfield 15, 0, 2, 2), (52, 1, .iload_n 2, 0, 0, 0), (53, 1, .dup2, 0, 0, 0), (54, 1, .iaload, 0, 0, 0), (55, 1, .iconst 1, 0, 0, 0), (56, 1, .iadd, 0, 0, 0), (57, 1, .iastore, 0, 0, 0), (58, 1, .return_, 0, 0, 0)])]
theorem rwX0_sendAway : rowsB (mB 2) (mO 2) (mX 2) (mIni 2) (mFr 2) (mLo 2) (mT 2) csX0_sendAway = true := by decide +kernel
def nX0_sendAway_42 (x2 : Int) (y0 : Int) (y1 : Int) (h : HH) : Option HH :=
  gd (0 ≤ y1 ∧ y1 < 9) <|
    bnd (some (hI h 20 y1 y0)) fun h1 =>
    if x2 = (-1) then
    some h1
  else
    gd (0 ≤ x2 ∧ x2 < 16) <|
    gd (R32 ((h1.1 62 x2) + 1)) <|
    gd (0 ≤ x2 ∧ x2 < 16) <|
    bnd (some (hI h1 62 x2 ((h1.1 62 x2) + 1))) fun h2 =>
    some h2
theorem wX0_sendAway_42 {g : SG} (hg : GOK g) {σ0 : SG} : ∀ {x2 : Int} {y0 : Int} {y1 : Int} {h : HH} {b : HH}, nX0_sendAway_42 x2 y0 y1 h = some b → WK 2 (.inl none) σ0 (abH 2 70 g b) 42 [(0, aR 60), (2, aI x2)] [aI y0, aI y1, aR 20] (abH 2 70 g h) 0 0 := by
  intro x2 y0 y1 h b q
  have e : nX0_sendAway_42 x2 y0 y1 h = segW 2 70 g.2.2.2.2 krWV clN csX0_sendAway cuN 1000 42 [(0, aR 60), (2, aI x2)] [aI y0, aI y1, aR 20] h := rfl
  rw [e] at q
  clear e
  refine segW_wk (by decide) (by decide) hg rwX0_sendAway CLKW_N krWV_ok ?_ q
  clear q
  exact ct_N
def nX0_sendAway (x1 : Int) (h : HH) : Option HH :=
  gd (0 ≤ x1 ∧ x1 < 9) <|
    bnd (nX0_nearestFree h (h.1 14 x1)) fun r1 =>
    gd (0 ≤ x1 ∧ x1 < 9) <|
    bnd (some (hI h 22 x1 r1)) fun h2 =>
    if r1 = (-1) then
    nX0_sendAway_42 r1 3 x1 h2
  else
    nX0_sendAway_42 r1 2 x1 h2
theorem wX0_sendAway {g : SG} (hg : GOK g) {σ0 : SG} : ∀ {x1 : Int} {h : HH} {b : HH}, nX0_sendAway x1 h = some b → WK 2 (.inl none) σ0 (abH 2 70 g b) 0 [(0, aR 60), (1, aI x1)] [] (abH 2 70 g h) 0 0 := by
  intro x1 h b q
  have e : nX0_sendAway x1 h = segW 2 70 g.2.2.2.2 krWV (clC 3 (liPW pX0_nearestFree) clN) csX0_sendAway (cuC 42 (fun l st s => tkC 0 60 l <| tkI 2 l fun x2 => skI st fun y0 st => skI st fun y1 st => skC 20 st fun st => skE st (nX0_sendAway_42 x2 y0 y1 s)) cuN) 1000 0 [(0, aR 60), (1, aI x1)] [] h := rfl
  rw [e] at q
  clear e
  refine segW_wk (by decide) (by decide) hg rwX0_sendAway (CLKW_C (liPW_ok (pX0_nearestFree_ok hg)) CLKW_N) krWV_ok ?_ q
  clear q
  refine ct_C ?_ (ct_N)
  · intro l st h q
    obtain ⟨m0, q1⟩ := tkC_of q
    obtain ⟨x2, m2, q2⟩ := tkI_of q1
    obtain ⟨y0, t0, rfl, q3⟩ := skI_of q2
    obtain ⟨y1, t1, rfl, q4⟩ := skI_of q3
    obtain ⟨t2, rfl, q5⟩ := skC_of q4
    obtain ⟨rfl, q6⟩ := skE_of q5
    exact WK_less (wX0_sendAway_42 hg q6) (List.forall_mem_cons.mpr ⟨m0, (List.forall_mem_cons.mpr ⟨m2, (fun _ h => absurd h List.not_mem_nil)⟩)⟩)
theorem mX0_sendAway {g : SG} (hg : GOK g) {h : HH} {x1 : Int} {b : HH} (q : nX0_sendAway x1 h = some b) : MCT 2 [] [aR 60, aI x1] (abH 2 70 g h) (.inl none) (abH 2 70 g b) :=
  mct_of (by decide) (MFok 2 (by decide +kernel)) (fun _ => Nat.le_of_ble_eq_true rfl) (wX0_sendAway hg q)
def pX0_sendAway {β : Type} : PW β := fun as h f => skC 60 as fun as => skI as fun x1 as => skE as (bnd (nX0_sendAway x1 h) fun r => f (.inl none) r)
theorem pX0_sendAway_ok {β : Type} {g : SG} (hg : GOK g) : CW1 (β := β) 2 pX0_sendAway 2 70 g := fun as h f b q => by
  obtain ⟨as, rfl, q1⟩ := skC_of q
  obtain ⟨x1, as, rfl, q2⟩ := skI_of q1
  obtain ⟨rfl, q0⟩ := skE_of q2
  obtain ⟨r, z1, z2⟩ := bnd_of q0
  exact ⟨_, _, z2, by decide, mX0_sendAway hg z1, rfl, rfl, fun z => absurd z (by decide)⟩
