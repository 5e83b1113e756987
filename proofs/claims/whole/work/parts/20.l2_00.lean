def csX0_addLocker : List (Nat × List (Nat × ARow)) := [(100000, [(0, 1, .aload_n 0, 0, 0, 0), (1, 3, .getfield 9, 0, 1, 2), (4, 1, .iload_n 1, 0, 0, 0), (5, 1, .iload_n 2, 0, 0, 0), (6, 1, .iastore, 0, 0, 0), (7, 1, .aload_n 0, 0, 0, 0), (8, 1, .dup, 0, 0, 0), (9, 3, .getfield 28, 0, 3, 0), (12, 1, .iconst 1, 0, 0, 0), (13, 1, .iadd, 0, 0, 0), (14, 3, .putfield 28, 0, 3, 0), (17, 1, .aload_n 0, 0, 0, 0), (18, 3, .getfield 28, 0, 3, 0), (21, 1, .ireturn, 0, 0, 0)])]
theorem rwX0_addLocker : rowsB (mB 1) (mO 1) (mX 1) (mIni 1) (mFr 1) (mLo 1) (mT 1) csX0_addLocker = true := by decide +kernel
def bX0_addLocker (x1 : Int) (x2 : Int) (h : HH) : Option (Int × HH) :=
  gd ((0 : Int) ≤ x1 ∧ x1 < (16 : Int)) <|
    bnd (some (hI h 61 x1 x2)) fun h1 =>
    gd (R32 ((h1.1 60 3) + 1)) <|
    bnd (some (hI h1 60 3 ((h1.1 60 3) + 1))) fun h2 =>
    some ((h2.1 60 3), h2)
theorem uX0_addLocker {g : SG} (hg : GOK g) {σ0 : SG} : ∀ {x1 : Int} {x2 : Int} {h : HH} {b : (Int × HH)}, bX0_addLocker x1 x2 h = some b → WK 1 (.inl (some (aI b.1))) σ0 (abH 2 70 g b.2) 0 [(0, aR 60), (1, aI x1), (2, aI x2)] [] (abH 2 70 g h) 0 0 := by
  intro x1 x2 h b q
  have e : bX0_addLocker x1 x2 h = segW 2 70 g.2.2.2.2 krWI clN csX0_addLocker cuN 1000 0 [(0, aR 60), (1, aI x1), (2, aI x2)] [] h := rfl
  rw [e] at q
  clear e
  refine segW_wk (by decide) (by decide) hg rwX0_addLocker CLKW_N krWI_ok ?_ q
  clear q
  exact ct_N
def nX0_addLocker (x1 : Int) (x2 : Int) (h : HH) : Option (Int × HH) := bX0_addLocker x1 x2 h
theorem wX0_addLocker {g : SG} (hg : GOK g) {σ0 : SG} : ∀ {x1 : Int} {x2 : Int} {h : HH} {b : (Int × HH)}, nX0_addLocker x1 x2 h = some b → WK 1 (.inl (some (aI b.1))) σ0 (abH 2 70 g b.2) 0 [(0, aR 60), (1, aI x1), (2, aI x2)] [] (abH 2 70 g h) 0 0 := by
  intro x1 x2 h b q
  exact uX0_addLocker hg q
theorem mX0_addLocker {g : SG} (hg : GOK g) {h : HH} {x1 : Int} {x2 : Int} {b : (Int × HH)} (q : nX0_addLocker x1 x2 h = some b) : MCT 1 [] [aR 60, aI x1, aI x2] (abH 2 70 g h) (.inl (some (aI b.1))) (abH 2 70 g b.2) :=
  mct_of (by decide) (MFok 1 (by decide +kernel)) (fun _ => Nat.le_of_ble_eq_true rfl) (wX0_addLocker hg q)
def pX0_addLocker {β : Type} (z : Int → Int → HH → Option (Int × HH)) : PW β := fun as h f => skC 60 as fun as => skI as fun x1 as => skI as fun x2 as => skE as (bnd (z x1 x2 h) fun r => f (.inl (some (aI r.1))) r.2)
theorem pX0_addLocker_ok {β : Type} {g : SG} (hg : GOK g) : CW1 (β := β) 1 (pX0_addLocker nX0_addLocker) 2 70 g := fun as h f b q => by
  obtain ⟨as, rfl, q1⟩ := skC_of q
  obtain ⟨x1, as, rfl, q2⟩ := skI_of q1
  obtain ⟨x2, as, rfl, q3⟩ := skI_of q2
  obtain ⟨rfl, q0⟩ := skE_of q3
  obtain ⟨r, z1, z2⟩ := bnd_of q0
  exact ⟨_, _, z2, by decide, mX0_addLocker hg z1, rfl, rfl, fun z => absurd z (by decide)⟩
def csX9_minutesOf : List (Nat × List (Nat × ARow)) := [(100000, [(0, 1, .aload_n 0, 0, 0, 0), (1, 3, .getfield 21, 9, 4, 2), (4, 1, .iload_n 1, 0, 0, 0), (5, 2, .bipush 16, 0, 0, 0), (7, 1, .imul, 0, 0, 0), (8, 1, .iload_n 2, 0, 0, 0), (9, 1, .iadd, 0, 0, 0), (10, 1, .iaload, 0, 0, 0), (11, 1, .ireturn, 0, 0, 0)])]
theorem rwX9_minutesOf : rowsB (mB 87) (mO 87) (mX 87) (mIni 87) (mFr 87) (mLo 87) (mT 87) csX9_minutesOf = true := by decide +kernel
def bX9_minutesOf (h : HH) (x1 : Int) (x2 : Int) : Option Int :=
  gd (R32 (x1 * 16)) <|
    gd (R32 ((x1 * 16) + x2)) <|
    gd ((0 : Int) ≤ ((x1 * 16) + x2) ∧ ((x1 * 16) + x2) < (256 : Int)) <|
    some (h.1 7 ((x1 * 16) + x2))
theorem uX9_minutesOf {g : SG} (hg : GOK g) {σ0 : SG} {h : HH} : ∀ {x1 : Int} {x2 : Int} {b : Int}, bX9_minutesOf h x1 x2 = some b → WK 87 (.inl (some (aI b))) σ0 (abH 2 70 g h) 0 [(0, aR 3), (1, aI x1), (2, aI x2)] [] (abH 2 70 g h) 0 0 := by
  intro x1 x2 b q
  have e : bX9_minutesOf h x1 x2 = segP 2 70 g.2.2.2.2 h krPI clNP csX9_minutesOf cuN 1000 0 [(0, aR 3), (1, aI x1), (2, aI x2)] [] := rfl
  rw [e] at q
  clear e
  refine segP_wk (by decide) (by decide) hg rwX9_minutesOf CLKP_N krPI_ok ?_ q
  clear q
  exact ct_N
def nX9_minutesOf (h : HH) (x1 : Int) (x2 : Int) : Option Int := bX9_minutesOf h x1 x2
theorem wX9_minutesOf {g : SG} (hg : GOK g) {σ0 : SG} {h : HH} : ∀ {x1 : Int} {x2 : Int} {b : Int}, nX9_minutesOf h x1 x2 = some b → WK 87 (.inl (some (aI b))) σ0 (abH 2 70 g h) 0 [(0, aR 3), (1, aI x1), (2, aI x2)] [] (abH 2 70 g h) 0 0 := by
  intro x1 x2 b q
  exact uX9_minutesOf hg q
theorem mX9_minutesOf {g : SG} (hg : GOK g) {h : HH} {x1 : Int} {x2 : Int} {b : Int} (q : nX9_minutesOf h x1 x2 = some b) : MCT 87 [] [aR 3, aI x1, aI x2] (abH 2 70 g h) (.inl (some (aI b))) (abH 2 70 g h) :=
  mct_of (by decide) (MFok 87 (by decide +kernel)) (fun _ => Nat.le_of_ble_eq_true rfl) (wX9_minutesOf hg q)
def pX9_minutesOf {β : Type} (z : HH → Int → Int → Option Int) : PP β := fun h as f => skC 3 as fun as => skI as fun x1 as => skI as fun x2 as => skE as (bnd (z h x1 x2) fun r => f (.inl (some (aI r))))
theorem pX9_minutesOf_ok {β : Type} {g : SG} (hg : GOK g) : CP1 (β := β) 87 (pX9_minutesOf nX9_minutesOf) 2 70 g := fun h as f b q => by
  obtain ⟨as, rfl, q1⟩ := skC_of q
  obtain ⟨x1, as, rfl, q2⟩ := skI_of q1
  obtain ⟨x2, as, rfl, q3⟩ := skI_of q2
  obtain ⟨rfl, q0⟩ := skE_of q3
  obtain ⟨r, z1, z2⟩ := bnd_of q0
  exact ⟨_, z2, by decide, mX9_minutesOf hg z1, rfl, rfl, fun z => absurd z (by decide)⟩
def csX0_nearestFree : List (Nat × List (Nat × ARow)) := [(44, [(0, 1, .iconst (-1), 0, 0, 0), (1, 1, .istore_n 2, 0, 0, 0), (2, 2, .ldc 47, 10000000, 0, 0), (4, 1, .istore_n 3, 0, 0, 0), (5, 1, .iconst 0, 0, 0, 0), (6, 2, .istore 4, 0, 0, 0), (8, 2, .iload 4, 0, 0, 0), (10, 2, .bipush 16, 0, 0, 0), (12, 3, .if_icmp .ge 59, 71, 0, 0), (15, 1, .aload_n 0, 0, 0, 0), (16, 3, .getfield 24, 0, 0, 2), (19, 3, .getfield 48, 2, 0, 2), (22, 1, .iload_n 1, 0, 0, 0), (23, 2, .iload 4, 0, 0, 0), (25, 3, .invokevirtual 52, 87, 3, 9), (28, 2, .istore 5, 0, 0, 0), (30, 1, .aload_n 0, 0, 0, 0), (31, 3, .getfield 15, 0, 2, 2), (34, 2, .iload 4, 0, 0, 0), (36, 1, .iaload, 0, 0, 0), (37, 1, .aload_n 0, 0, 0, 0), (38, 3, .getfield 9, 0, 1, 2), (41, 2, .iload 4, 0, 0, 0), (43, 1, .iaload, 0, 0, 0)]),
  (100000, [(44, 3, .if_icmp .ge 21, 65, 0, 0), (47, 2, .iload 5, 0, 0, 0), (49, 1, .iconst (-1), 0, 0, 0), (50, 3, .if_icmp .eq 15, 65, 0, 0), (53, 2, .iload 5, 0, 0, 0), (55, 1, .iload_n 3, 0, 0, 0), (56, 3, .if_icmp .ge 9, 65, 0, 0), (59, 2, .iload 4, 0, 0, 0), (61, 1, .istore_n 2, 0, 0, 0), (62, 2, .iload 5, 0, 0, 0), (64, 1, .istore_n 3, 0, 0, 0), (65, 3, .iinc 4 1, 0, 0, 0), (68, 3, .goto (-60), 8, 0, 0), (71, 1, .iload_n 2, 0, 0, 0), (72, 1, .ireturn, 0, 0, 0)])]
theorem rwX0_nearestFree : rowsB (mB 3) (mO 3) (mX 3) (mIni 3) (mFr 3) (mLo 3) (mT 3) csX0_nearestFree = true := by decide +kernel
def bX0_nearestFree_65 (h : HH) (c8 : Int → Int → Int → Int → Option Int) (x1 : Int) (x2 : Int) (x3 : Int) (x4 : Int) : Option Int :=
  gd (R32 (x4 + 1)) <|
    c8 x1 x2 x3 (x4 + 1)
theorem uX0_nearestFree_65 {g : SG} (hg : GOK g) {σ0 : SG} {h : HH} {c8 : Int → Int → Int → Int → Option Int} (k8 : ∀ (x1 : Int) (x2 : Int) (x3 : Int) (x4 : Int) (b : Int), c8 x1 x2 x3 x4 = some b → WK 3 (.inl (some (aI b))) σ0 (abH 2 70 g h) 8 [(0, aR 60), (1, aI x1), (2, aI x2), (3, aI x3), (4, aI x4)] [] (abH 2 70 g h) 0 0) : ∀ {x1 : Int} {x2 : Int} {x3 : Int} {x4 : Int} {b : Int}, bX0_nearestFree_65 h c8 x1 x2 x3 x4 = some b → WK 3 (.inl (some (aI b))) σ0 (abH 2 70 g h) 65 [(0, aR 60), (1, aI x1), (2, aI x2), (3, aI x3), (4, aI x4)] [] (abH 2 70 g h) 0 0 := by
  intro x1 x2 x3 x4 b q
  have e : bX0_nearestFree_65 h c8 x1 x2 x3 x4 = segP 2 70 g.2.2.2.2 h krPI clNP csX0_nearestFree (cuC 8 (fun l st s => tkC 0 60 l <| tkI 1 l fun x1 => tkI 2 l fun x2 => tkI 3 l fun x3 => tkI 4 l fun x4 => skE st (c8 x1 x2 x3 x4)) cuN) 1000 65 [(0, aR 60), (1, aI x1), (2, aI x2), (3, aI x3), (4, aI x4)] [] := rfl
  rw [e] at q
  clear e
  refine segP_wk (by decide) (by decide) hg rwX0_nearestFree CLKP_N krPI_ok ?_ q
  clear q
  refine ct_C ?_ (ct_N)
  · intro l st _ q
    obtain ⟨m0, q1⟩ := tkC_of q
    obtain ⟨x1, m1, q2⟩ := tkI_of q1
    obtain ⟨x2, m2, q3⟩ := tkI_of q2
    obtain ⟨x3, m3, q4⟩ := tkI_of q3
    obtain ⟨x4, m4, q5⟩ := tkI_of q4
    obtain ⟨rfl, q6⟩ := skE_of q5
    exact WK_less (k8 _ _ _ _ _ q6) (List.forall_mem_cons.mpr ⟨m0, (List.forall_mem_cons.mpr ⟨m1, (List.forall_mem_cons.mpr ⟨m2, (List.forall_mem_cons.mpr ⟨m3, (List.forall_mem_cons.mpr ⟨m4, (fun _ h => absurd h List.not_mem_nil)⟩)⟩)⟩)⟩)⟩)
def nX0_nearestFree_65 (h : HH) (c8 : Int → Int → Int → Int → Option Int) (x1 : Int) (x2 : Int) (x3 : Int) (x4 : Int) : Option Int := bX0_nearestFree_65 h c8 x1 x2 x3 x4
theorem wX0_nearestFree_65 {g : SG} (hg : GOK g) {σ0 : SG} {h : HH} {c8 : Int → Int → Int → Int → Option Int} (k8 : ∀ (x1 : Int) (x2 : Int) (x3 : Int) (x4 : Int) (b : Int), c8 x1 x2 x3 x4 = some b → WK 3 (.inl (some (aI b))) σ0 (abH 2 70 g h) 8 [(0, aR 60), (1, aI x1), (2, aI x2), (3, aI x3), (4, aI x4)] [] (abH 2 70 g h) 0 0) : ∀ {x1 : Int} {x2 : Int} {x3 : Int} {x4 : Int} {b : Int}, nX0_nearestFree_65 h c8 x1 x2 x3 x4 = some b → WK 3 (.inl (some (aI b))) σ0 (abH 2 70 g h) 65 [(0, aR 60), (1, aI x1), (2, aI x2), (3, aI x3), (4, aI x4)] [] (abH 2 70 g h) 0 0 := by
  intro x1 x2 x3 x4 b q
  exact uX0_nearestFree_65 hg k8 q
def bX0_nearestFree_8 (f87 : HH → Int → Int → Option Int) (h : HH) (c65 : Int → Int → Int → Int → Option Int) (x1 : Int) (x2 : Int) (x3 : Int) (x4 : Int) : Option Int :=
  if x4 < (16 : Int) then
    bnd (f87 h x1 x4) fun r1 =>
    gd ((0 : Int) ≤ x4 ∧ x4 < (16 : Int)) <|
    gd ((0 : Int) ≤ x4 ∧ x4 < (16 : Int)) <|
    if (h.1 62 x4) < ((h.1 61 x4) : Int) then
    if r1 = ((-1) : Int) then
    c65 x1 x2 x3 x4
  else
    if r1 < (x3 : Int) then
    c65 x1 x4 r1 x4
  else
    c65 x1 x2 x3 x4
  else
    c65 x1 x2 x3 x4
  else
    some x2
theorem uX0_nearestFree_8 {g : SG} (hg : GOK g) {σ0 : SG} {h : HH} {c65 : Int → Int → Int → Int → Option Int} (k65 : ∀ (x1 : Int) (x2 : Int) (x3 : Int) (x4 : Int) (b : Int), c65 x1 x2 x3 x4 = some b → WK 3 (.inl (some (aI b))) σ0 (abH 2 70 g h) 65 [(0, aR 60), (1, aI x1), (2, aI x2), (3, aI x3), (4, aI x4)] [] (abH 2 70 g h) 0 0) : ∀ {x1 : Int} {x2 : Int} {x3 : Int} {x4 : Int} {b : Int}, bX0_nearestFree_8 nX9_minutesOf h c65 x1 x2 x3 x4 = some b → WK 3 (.inl (some (aI b))) σ0 (abH 2 70 g h) 8 [(0, aR 60), (1, aI x1), (2, aI x2), (3, aI x3), (4, aI x4)] [] (abH 2 70 g h) 0 0 := by
  intro x1 x2 x3 x4 b q
  have e : ∀ (f87 : HH → Int → Int → Option Int) , bX0_nearestFree_8 f87 h c65 x1 x2 x3 x4 = segP 2 70 g.2.2.2.2 h krPI (clCP 87 (pX9_minutesOf f87 h) clNP) csX0_nearestFree (cuC 65 (fun l st s => tkC 0 60 l <| tkI 1 l fun x1 => tkI 2 l fun x2 => tkI 3 l fun x3 => tkI 4 l fun x4 => skE st (c65 x1 x2 x3 x4)) cuN) 1000 8 [(0, aR 60), (1, aI x1), (2, aI x2), (3, aI x3), (4, aI x4)] [] := fun _ => rfl
  rw [e nX9_minutesOf] at q
  clear e
  refine segP_wk (by decide) (by decide) hg rwX0_nearestFree (CLKP_C (pX9_minutesOf_ok hg) CLKP_N) krPI_ok ?_ q
  clear q
  refine ct_C ?_ (ct_N)
  · intro l st _ q
    obtain ⟨m0, q1⟩ := tkC_of q
    obtain ⟨x1, m1, q2⟩ := tkI_of q1
    obtain ⟨x2, m2, q3⟩ := tkI_of q2
    obtain ⟨x3, m3, q4⟩ := tkI_of q3
    obtain ⟨x4, m4, q5⟩ := tkI_of q4
    obtain ⟨rfl, q6⟩ := skE_of q5
    exact WK_less (k65 _ _ _ _ _ q6) (List.forall_mem_cons.mpr ⟨m0, (List.forall_mem_cons.mpr ⟨m1, (List.forall_mem_cons.mpr ⟨m2, (List.forall_mem_cons.mpr ⟨m3, (List.forall_mem_cons.mpr ⟨m4, (fun _ h => absurd h List.not_mem_nil)⟩)⟩)⟩)⟩)⟩)
def nX0_nearestFree_8 (h : HH) : Nat → Int → Int → Int → Int → Option Int := iter (fun _ _ _ _ => none) (fun self => bX0_nearestFree_8 nX9_minutesOf h (nX0_nearestFree_65 h self))
theorem nX0_nearestFree_8_s {h : HH} {F : Nat} : nX0_nearestFree_8 h (F + 1) = bX0_nearestFree_8 nX9_minutesOf h (nX0_nearestFree_65 h (nX0_nearestFree_8 h F)) := rfl
theorem wX0_nearestFree_8 {g : SG} (hg : GOK g) {σ0 : SG} {h : HH} : ∀ {F : Nat}, ∀ {x1 : Int} {x2 : Int} {x3 : Int} {x4 : Int} {b : Int}, nX0_nearestFree_8 h F x1 x2 x3 x4 = some b → WK 3 (.inl (some (aI b))) σ0 (abH 2 70 g h) 8 [(0, aR 60), (1, aI x1), (2, aI x2), (3, aI x3), (4, aI x4)] [] (abH 2 70 g h) 0 0 := by
  intro F
  have z : ∀ (x1 : Int) (x2 : Int) (x3 : Int) (x4 : Int) (b : Int), nX0_nearestFree_8 h F x1 x2 x3 x4 = some b → WK 3 (.inl (some (aI b))) σ0 (abH 2 70 g h) 8 [(0, aR 60), (1, aI x1), (2, aI x2), (3, aI x3), (4, aI x4)] [] (abH 2 70 g h) 0 0 := iter_ind (P := fun (c : Int → Int → Int → Int → Option Int) => ∀ (x1 : Int) (x2 : Int) (x3 : Int) (x4 : Int) (b : Int), c x1 x2 x3 x4 = some b → WK 3 (.inl (some (aI b))) σ0 (abH 2 70 g h) 8 [(0, aR 60), (1, aI x1), (2, aI x2), (3, aI x3), (4, aI x4)] [] (abH 2 70 g h) 0 0) (by
    intro x1 x2 x3 x4 b q
    cases q) (fun self ih => by
    intro x1 x2 x3 x4 b q
    exact uX0_nearestFree_8 hg (fun _ _ _ _ _ q => wX0_nearestFree_65 hg ih q) q) F
  intro x1 x2 x3 x4 b q
  exact z _ _ _ _ _ q
def bX0_nearestFree (h : HH) (c8 : Int → Int → Int → Int → Option Int) (x1 : Int) : Option Int :=
  c8 x1 (-1) 10000000 0
theorem uX0_nearestFree {g : SG} (hg : GOK g) {σ0 : SG} {h : HH} {c8 : Int → Int → Int → Int → Option Int} (k8 : ∀ (x1 : Int) (x2 : Int) (x3 : Int) (x4 : Int) (b : Int), c8 x1 x2 x3 x4 = some b → WK 3 (.inl (some (aI b))) σ0 (abH 2 70 g h) 8 [(0, aR 60), (1, aI x1), (2, aI x2), (3, aI x3), (4, aI x4)] [] (abH 2 70 g h) 0 0) : ∀ {x1 : Int} {b : Int}, bX0_nearestFree h c8 x1 = some b → WK 3 (.inl (some (aI b))) σ0 (abH 2 70 g h) 0 [(0, aR 60), (1, aI x1)] [] (abH 2 70 g h) 0 0 := by
  intro x1 b q
  have e : bX0_nearestFree h c8 x1 = segP 2 70 g.2.2.2.2 h krPI clNP csX0_nearestFree (cuC 8 (fun l st s => tkC 0 60 l <| tkI 1 l fun x1 => tkI 2 l fun x2 => tkI 3 l fun x3 => tkI 4 l fun x4 => skE st (c8 x1 x2 x3 x4)) cuN) 1000 0 [(0, aR 60), (1, aI x1)] [] := rfl
  rw [e] at q
  clear e
  refine segP_wk (by decide) (by decide) hg rwX0_nearestFree CLKP_N krPI_ok ?_ q
  clear q
  refine ct_C ?_ (ct_N)
  · intro l st _ q
    obtain ⟨m0, q1⟩ := tkC_of q
    obtain ⟨x1, m1, q2⟩ := tkI_of q1
    obtain ⟨x2, m2, q3⟩ := tkI_of q2
    obtain ⟨x3, m3, q4⟩ := tkI_of q3
    obtain ⟨x4, m4, q5⟩ := tkI_of q4
    obtain ⟨rfl, q6⟩ := skE_of q5
    exact WK_less (k8 _ _ _ _ _ q6) (List.forall_mem_cons.mpr ⟨m0, (List.forall_mem_cons.mpr ⟨m1, (List.forall_mem_cons.mpr ⟨m2, (List.forall_mem_cons.mpr ⟨m3, (List.forall_mem_cons.mpr ⟨m4, (fun _ h => absurd h List.not_mem_nil)⟩)⟩)⟩)⟩)⟩)
def nX0_nearestFree (h : HH) (x1 : Int) : Option Int := bX0_nearestFree h (nX0_nearestFree_8 h 100000) x1
theorem wX0_nearestFree {g : SG} (hg : GOK g) {σ0 : SG} {h : HH} : ∀ {x1 : Int} {b : Int}, nX0_nearestFree h x1 = some b → WK 3 (.inl (some (aI b))) σ0 (abH 2 70 g h) 0 [(0, aR 60), (1, aI x1)] [] (abH 2 70 g h) 0 0 := by
  intro x1 b q
  exact uX0_nearestFree hg (fun _ _ _ _ _ q => wX0_nearestFree_8 hg q) q
theorem mX0_nearestFree {g : SG} (hg : GOK g) {h : HH} {x1 : Int} {b : Int} (q : nX0_nearestFree h x1 = some b) : MCT 3 [] [aR 60, aI x1] (abH 2 70 g h) (.inl (some (aI b))) (abH 2 70 g h) :=
  mct_of (by decide) (MFok 3 (by decide +kernel)) (fun _ => Nat.le_of_ble_eq_true rfl) (wX0_nearestFree hg q)
def pX0_nearestFree {β : Type} (z : HH → Int → Option Int) : PP β := fun h as f => skC 60 as fun as => skI as fun x1 as => skE as (bnd (z h x1) fun r => f (.inl (some (aI r))))
theorem pX0_nearestFree_ok {β : Type} {g : SG} (hg : GOK g) : CP1 (β := β) 3 (pX0_nearestFree nX0_nearestFree) 2 70 g := fun h as f b q => by
  obtain ⟨as, rfl, q1⟩ := skC_of q
  obtain ⟨x1, as, rfl, q2⟩ := skI_of q1
  obtain ⟨rfl, q0⟩ := skE_of q2
  obtain ⟨r, z1, z2⟩ := bnd_of q0
  exact ⟨_, z2, by decide, mX0_nearestFree hg z1, rfl, rfl, fun z => absurd z (by decide)⟩
def csX0_sendAway : List (Nat × List (Nat × ARow)) := [(42, [(0, 1, .aload_n 0, 0, 0, 0), (1, 1, .aload_n 0, 0, 0, 0), (2, 3, .getfield 24, 0, 0, 2), (5, 3, .getfield 32, 2, 1, 2), (8, 1, .iload_n 1, 0, 0, 0), (9, 1, .iaload, 0, 0, 0), (10, 3, .invokevirtual 37, 3, 2, 0), (13, 1, .istore_n 2, 0, 0, 0), (14, 1, .aload_n 0, 0, 0, 0), (15, 3, .getfield 24, 0, 0, 2), (18, 3, .getfield 41, 2, 9, 2), (21, 1, .iload_n 1, 0, 0, 0), (22, 1, .iload_n 2, 0, 0, 0), (23, 1, .iastore, 0, 0, 0), (24, 1, .aload_n 0, 0, 0, 0), (25, 3, .getfield 24, 0, 0, 2), (28, 3, .getfield 44, 2, 7, 2), (31, 1, .iload_n 1, 0, 0, 0), (32, 1, .iload_n 2, 0, 0, 0), (33, 1, .iconst (-1), 0, 0, 0), (34, 3, .if_icmp .ne 7, 41, 0, 0), (37, 1, .iconst 3, 0, 0, 0), (38, 3, .goto 4, 42, 0, 0), (41, 1, .iconst 2, 0, 0, 0)]),
  (100000, [(42, 1, .iastore, 0, 0, 0), (43, 1, .iload_n 2, 0, 0, 0), (44, 1, .iconst (-1), 0, 0, 0), (45, 3, .if_icmp .eq 13, 58, 0, 0), (48, 1, .aload_n 0, 0, 0, 0), (49, 3, .getfield 15, 0, 2, 2), (52, 1, .iload_n 2, 0, 0, 0), (53, 1, .dup2, 0, 0, 0), (54, 1, .iaload, 0, 0, 0), (55, 1, .iconst 1, 0, 0, 0), (56, 1, .iadd, 0, 0, 0), (57, 1, .iastore, 0, 0, 0), (58, 1, .return_, 0, 0, 0)])]
theorem rwX0_sendAway : rowsB (mB 2) (mO 2) (mX 2) (mIni 2) (mFr 2) (mLo 2) (mT 2) csX0_sendAway = true := by decide +kernel
def bX0_sendAway_42 (x2 : Int) (y0 : Int) (y1 : Int) (h : HH) : Option HH :=
  gd ((0 : Int) ≤ y1 ∧ y1 < (9 : Int)) <|
    bnd (some (hI h 20 y1 y0)) fun h1 =>
    if x2 = ((-1) : Int) then
    some h1
  else
    gd ((0 : Int) ≤ x2 ∧ x2 < (16 : Int)) <|
    gd (R32 ((h1.1 62 x2) + 1)) <|
    gd ((0 : Int) ≤ x2 ∧ x2 < (16 : Int)) <|
    bnd (some (hI h1 62 x2 ((h1.1 62 x2) + 1))) fun h2 =>
    some h2
theorem uX0_sendAway_42 {g : SG} (hg : GOK g) {σ0 : SG} : ∀ {x2 : Int} {y0 : Int} {y1 : Int} {h : HH} {b : HH}, bX0_sendAway_42 x2 y0 y1 h = some b → WK 2 (.inl none) σ0 (abH 2 70 g b) 42 [(0, aR 60), (2, aI x2)] [aI y0, aI y1, aR 20] (abH 2 70 g h) 0 0 := by
  intro x2 y0 y1 h b q
  have e : bX0_sendAway_42 x2 y0 y1 h = segW 2 70 g.2.2.2.2 krWV clN csX0_sendAway cuN 1000 42 [(0, aR 60), (2, aI x2)] [aI y0, aI y1, aR 20] h := rfl
  rw [e] at q
  clear e
  refine segW_wk (by decide) (by decide) hg rwX0_sendAway CLKW_N krWV_ok ?_ q
  clear q
  exact ct_N
def nX0_sendAway_42 (x2 : Int) (y0 : Int) (y1 : Int) (h : HH) : Option HH := bX0_sendAway_42 x2 y0 y1 h
theorem wX0_sendAway_42 {g : SG} (hg : GOK g) {σ0 : SG} : ∀ {x2 : Int} {y0 : Int} {y1 : Int} {h : HH} {b : HH}, nX0_sendAway_42 x2 y0 y1 h = some b → WK 2 (.inl none) σ0 (abH 2 70 g b) 42 [(0, aR 60), (2, aI x2)] [aI y0, aI y1, aR 20] (abH 2 70 g h) 0 0 := by
  intro x2 y0 y1 h b q
  exact uX0_sendAway_42 hg q
def bX0_sendAway (f3 : HH → Int → Option Int) (c42 : Int → Int → Int → HH → Option HH) (x1 : Int) (h : HH) : Option HH :=
  gd ((0 : Int) ≤ x1 ∧ x1 < (9 : Int)) <|
    bnd (f3 h (h.1 14 x1)) fun r1 =>
    gd ((0 : Int) ≤ x1 ∧ x1 < (9 : Int)) <|
    bnd (some (hI h 22 x1 r1)) fun h2 =>
    if r1 = ((-1) : Int) then
    c42 r1 3 x1 h2
  else
    c42 r1 2 x1 h2
theorem uX0_sendAway {g : SG} (hg : GOK g) {σ0 : SG} {c42 : Int → Int → Int → HH → Option HH} (k42 : ∀ (x2 : Int) (y0 : Int) (y1 : Int) (h : HH) (b : HH), c42 x2 y0 y1 h = some b → WK 2 (.inl none) σ0 (abH 2 70 g b) 42 [(0, aR 60), (2, aI x2)] [aI y0, aI y1, aR 20] (abH 2 70 g h) 0 0) : ∀ {x1 : Int} {h : HH} {b : HH}, bX0_sendAway nX0_nearestFree c42 x1 h = some b → WK 2 (.inl none) σ0 (abH 2 70 g b) 0 [(0, aR 60), (1, aI x1)] [] (abH 2 70 g h) 0 0 := by
  intro x1 h b q
  have e : ∀ (f3 : HH → Int → Option Int) , bX0_sendAway f3 c42 x1 h = segW 2 70 g.2.2.2.2 krWV (clC 3 (liPW (pX0_nearestFree f3)) clN) csX0_sendAway (cuC 42 (fun l st s => tkC 0 60 l <| tkI 2 l fun x2 => skI st fun y0 st => skI st fun y1 st => skC 20 st fun st => skE st (c42 x2 y0 y1 s)) cuN) 1000 0 [(0, aR 60), (1, aI x1)] [] h := fun _ => rfl
  rw [e nX0_nearestFree] at q
  clear e
  refine segW_wk (by decide) (by decide) hg rwX0_sendAway (CLKW_C (liPW_ok (pX0_nearestFree_ok hg)) CLKW_N) krWV_ok ?_ q
  clear q
  refine ct_C ?_ (ct_N)
  · intro l st h q
    obtain ⟨m0, q1⟩ := tkC_of q
    obtain ⟨x2, m2, q2⟩ := tkI_of q1
    obtain ⟨y0, t0, rfl, q3⟩ := skI_of q2
    obtain ⟨y1, t1, rfl, q4⟩ := skI_of q3
    obtain ⟨t2, rfl, q5⟩ := skC_of q4
    obtain ⟨rfl, q6⟩ := skE_of q5
    exact WK_less (k42 _ _ _ _ _ q6) (List.forall_mem_cons.mpr ⟨m0, (List.forall_mem_cons.mpr ⟨m2, (fun _ h => absurd h List.not_mem_nil)⟩)⟩)
def nX0_sendAway (x1 : Int) (h : HH) : Option HH := bX0_sendAway nX0_nearestFree nX0_sendAway_42 x1 h
theorem wX0_sendAway {g : SG} (hg : GOK g) {σ0 : SG} : ∀ {x1 : Int} {h : HH} {b : HH}, nX0_sendAway x1 h = some b → WK 2 (.inl none) σ0 (abH 2 70 g b) 0 [(0, aR 60), (1, aI x1)] [] (abH 2 70 g h) 0 0 := by
  intro x1 h b q
  exact uX0_sendAway hg (fun _ _ _ _ _ q => wX0_sendAway_42 hg q) q
theorem mX0_sendAway {g : SG} (hg : GOK g) {h : HH} {x1 : Int} {b : HH} (q : nX0_sendAway x1 h = some b) : MCT 2 [] [aR 60, aI x1] (abH 2 70 g h) (.inl none) (abH 2 70 g b) :=
  mct_of (by decide) (MFok 2 (by decide +kernel)) (fun _ => Nat.le_of_ble_eq_true rfl) (wX0_sendAway hg q)
def pX0_sendAway {β : Type} (z : Int → HH → Option HH) : PW β := fun as h f => skC 60 as fun as => skI as fun x1 as => skE as (bnd (z x1 h) fun r => f (.inl none) r)
theorem pX0_sendAway_ok {β : Type} {g : SG} (hg : GOK g) : CW1 (β := β) 2 (pX0_sendAway nX0_sendAway) 2 70 g := fun as h f b q => by
  obtain ⟨as, rfl, q1⟩ := skC_of q
  obtain ⟨x1, as, rfl, q2⟩ := skI_of q1
  obtain ⟨rfl, q0⟩ := skE_of q2
  obtain ⟨r, z1, z2⟩ := bnd_of q0
  exact ⟨_, _, z2, by decide, mX0_sendAway hg z1, rfl, rfl, fun z => absurd z (by decide)⟩
def csX0_loadAt : List (Nat × List (Nat × ARow)) := [(42, [(0, 1, .iconst 0, 0, 0, 0), (1, 1, .istore_n 2, 0, 0, 0), (2, 1, .iconst 0, 0, 0, 0), (3, 1, .istore_n 3, 0, 0, 0), (4, 1, .iload_n 3, 0, 0, 0), (5, 1, .aload_n 0, 0, 0, 0), (6, 3, .getfield 24, 0, 0, 2), (9, 3, .getfield 58, 2, 10, 0), (12, 3, .if_icmp .ge 46, 58, 0, 0), (15, 1, .aload_n 0, 0, 0, 0), (16, 3, .getfield 24, 0, 0, 2), (19, 3, .getfield 32, 2, 1, 2), (22, 1, .iload_n 3, 0, 0, 0), (23, 1, .iaload, 0, 0, 0), (24, 1, .iload_n 1, 0, 0, 0), (25, 3, .if_icmp .ne 27, 52, 0, 0), (28, 1, .aload_n 0, 0, 0, 0), (29, 3, .getfield 24, 0, 0, 2), (32, 3, .getfield 44, 2, 7, 2), (35, 1, .iload_n 3, 0, 0, 0), (36, 1, .iaload, 0, 0, 0), (37, 3, .ifCond .ne 15, 52, 0, 0), (40, 1, .iload_n 2, 0, 0, 0), (41, 1, .aload_n 0, 0, 0, 0)]),
  (100000, [(42, 3, .getfield 24, 0, 0, 2), (45, 3, .getfield 61, 2, 2, 2), (48, 1, .iload_n 3, 0, 0, 0), (49, 1, .iaload, 0, 0, 0), (50, 1, .iadd, 0, 0, 0), (51, 1, .istore_n 2, 0, 0, 0), (52, 3, .iinc 3 1, 0, 0, 0), (55, 3, .goto (-51), 4, 0, 0), (58, 1, .iload_n 2, 0, 0, 0), (59, 1, .ireturn, 0, 0, 0)])]
theorem rwX0_loadAt : rowsB (mB 4) (mO 4) (mX 4) (mIni 4) (mFr 4) (mLo 4) (mT 4) csX0_loadAt = true := by decide +kernel
def bX0_loadAt_52 (h : HH) (c4 : Int → Int → Int → Option Int) (x1 : Int) (x2 : Int) (x3 : Int) : Option Int :=
  gd (R32 (x3 + 1)) <|
    c4 x1 x2 (x3 + 1)
theorem uX0_loadAt_52 {g : SG} (hg : GOK g) {σ0 : SG} {h : HH} {c4 : Int → Int → Int → Option Int} (k4 : ∀ (x1 : Int) (x2 : Int) (x3 : Int) (b : Int), c4 x1 x2 x3 = some b → WK 4 (.inl (some (aI b))) σ0 (abH 2 70 g h) 4 [(0, aR 60), (1, aI x1), (2, aI x2), (3, aI x3)] [] (abH 2 70 g h) 0 0) : ∀ {x1 : Int} {x2 : Int} {x3 : Int} {b : Int}, bX0_loadAt_52 h c4 x1 x2 x3 = some b → WK 4 (.inl (some (aI b))) σ0 (abH 2 70 g h) 52 [(0, aR 60), (1, aI x1), (2, aI x2), (3, aI x3)] [] (abH 2 70 g h) 0 0 := by
  intro x1 x2 x3 b q
  have e : bX0_loadAt_52 h c4 x1 x2 x3 = segP 2 70 g.2.2.2.2 h krPI clNP csX0_loadAt (cuC 4 (fun l st s => tkC 0 60 l <| tkI 1 l fun x1 => tkI 2 l fun x2 => tkI 3 l fun x3 => skE st (c4 x1 x2 x3)) cuN) 1000 52 [(0, aR 60), (1, aI x1), (2, aI x2), (3, aI x3)] [] := rfl
  rw [e] at q
  clear e
  refine segP_wk (by decide) (by decide) hg rwX0_loadAt CLKP_N krPI_ok ?_ q
  clear q
  refine ct_C ?_ (ct_N)
  · intro l st _ q
    obtain ⟨m0, q1⟩ := tkC_of q
    obtain ⟨x1, m1, q2⟩ := tkI_of q1
    obtain ⟨x2, m2, q3⟩ := tkI_of q2
    obtain ⟨x3, m3, q4⟩ := tkI_of q3
    obtain ⟨rfl, q5⟩ := skE_of q4
    exact WK_less (k4 _ _ _ _ q5) (List.forall_mem_cons.mpr ⟨m0, (List.forall_mem_cons.mpr ⟨m1, (List.forall_mem_cons.mpr ⟨m2, (List.forall_mem_cons.mpr ⟨m3, (fun _ h => absurd h List.not_mem_nil)⟩)⟩)⟩)⟩)
def nX0_loadAt_52 (h : HH) (c4 : Int → Int → Int → Option Int) (x1 : Int) (x2 : Int) (x3 : Int) : Option Int := bX0_loadAt_52 h c4 x1 x2 x3
theorem wX0_loadAt_52 {g : SG} (hg : GOK g) {σ0 : SG} {h : HH} {c4 : Int → Int → Int → Option Int} (k4 : ∀ (x1 : Int) (x2 : Int) (x3 : Int) (b : Int), c4 x1 x2 x3 = some b → WK 4 (.inl (some (aI b))) σ0 (abH 2 70 g h) 4 [(0, aR 60), (1, aI x1), (2, aI x2), (3, aI x3)] [] (abH 2 70 g h) 0 0) : ∀ {x1 : Int} {x2 : Int} {x3 : Int} {b : Int}, nX0_loadAt_52 h c4 x1 x2 x3 = some b → WK 4 (.inl (some (aI b))) σ0 (abH 2 70 g h) 52 [(0, aR 60), (1, aI x1), (2, aI x2), (3, aI x3)] [] (abH 2 70 g h) 0 0 := by
  intro x1 x2 x3 b q
  exact uX0_loadAt_52 hg k4 q
def bX0_loadAt_4 (h : HH) (c52 : Int → Int → Int → Option Int) (x1 : Int) (x2 : Int) (x3 : Int) : Option Int :=
  if x3 < ((h.1 13 10) : Int) then
    gd ((0 : Int) ≤ x3 ∧ x3 < (9 : Int)) <|
    if (h.1 14 x3) = (x1 : Int) then
    gd ((0 : Int) ≤ x3 ∧ x3 < (9 : Int)) <|
    if (h.1 20 x3) = (0 : Int) then
    gd ((0 : Int) ≤ x3 ∧ x3 < (9 : Int)) <|
    gd (R32 (x2 + (h.1 15 x3))) <|
    c52 x1 (x2 + (h.1 15 x3)) x3
  else
    c52 x1 x2 x3
  else
    c52 x1 x2 x3
  else
    some x2
theorem uX0_loadAt_4 {g : SG} (hg : GOK g) {σ0 : SG} {h : HH} {c52 : Int → Int → Int → Option Int} (k52 : ∀ (x1 : Int) (x2 : Int) (x3 : Int) (b : Int), c52 x1 x2 x3 = some b → WK 4 (.inl (some (aI b))) σ0 (abH 2 70 g h) 52 [(0, aR 60), (1, aI x1), (2, aI x2), (3, aI x3)] [] (abH 2 70 g h) 0 0) : ∀ {x1 : Int} {x2 : Int} {x3 : Int} {b : Int}, bX0_loadAt_4 h c52 x1 x2 x3 = some b → WK 4 (.inl (some (aI b))) σ0 (abH 2 70 g h) 4 [(0, aR 60), (1, aI x1), (2, aI x2), (3, aI x3)] [] (abH 2 70 g h) 0 0 := by
  intro x1 x2 x3 b q
  have e : bX0_loadAt_4 h c52 x1 x2 x3 = segP 2 70 g.2.2.2.2 h krPI clNP csX0_loadAt (cuC 52 (fun l st s => tkC 0 60 l <| tkI 1 l fun x1 => tkI 2 l fun x2 => tkI 3 l fun x3 => skE st (c52 x1 x2 x3)) cuN) 1000 4 [(0, aR 60), (1, aI x1), (2, aI x2), (3, aI x3)] [] := rfl
  rw [e] at q
  clear e
  refine segP_wk (by decide) (by decide) hg rwX0_loadAt CLKP_N krPI_ok ?_ q
  clear q
  refine ct_C ?_ (ct_N)
  · intro l st _ q
    obtain ⟨m0, q1⟩ := tkC_of q
    obtain ⟨x1, m1, q2⟩ := tkI_of q1
    obtain ⟨x2, m2, q3⟩ := tkI_of q2
    obtain ⟨x3, m3, q4⟩ := tkI_of q3
    obtain ⟨rfl, q5⟩ := skE_of q4
    exact WK_less (k52 _ _ _ _ q5) (List.forall_mem_cons.mpr ⟨m0, (List.forall_mem_cons.mpr ⟨m1, (List.forall_mem_cons.mpr ⟨m2, (List.forall_mem_cons.mpr ⟨m3, (fun _ h => absurd h List.not_mem_nil)⟩)⟩)⟩)⟩)
def nX0_loadAt_4 (h : HH) : Nat → Int → Int → Int → Option Int := iter (fun _ _ _ => none) (fun self => bX0_loadAt_4 h (nX0_loadAt_52 h self))
theorem nX0_loadAt_4_s {h : HH} {F : Nat} : nX0_loadAt_4 h (F + 1) = bX0_loadAt_4 h (nX0_loadAt_52 h (nX0_loadAt_4 h F)) := rfl
theorem wX0_loadAt_4 {g : SG} (hg : GOK g) {σ0 : SG} {h : HH} : ∀ {F : Nat}, ∀ {x1 : Int} {x2 : Int} {x3 : Int} {b : Int}, nX0_loadAt_4 h F x1 x2 x3 = some b → WK 4 (.inl (some (aI b))) σ0 (abH 2 70 g h) 4 [(0, aR 60), (1, aI x1), (2, aI x2), (3, aI x3)] [] (abH 2 70 g h) 0 0 := by
  intro F
  have z : ∀ (x1 : Int) (x2 : Int) (x3 : Int) (b : Int), nX0_loadAt_4 h F x1 x2 x3 = some b → WK 4 (.inl (some (aI b))) σ0 (abH 2 70 g h) 4 [(0, aR 60), (1, aI x1), (2, aI x2), (3, aI x3)] [] (abH 2 70 g h) 0 0 := iter_ind (P := fun (c : Int → Int → Int → Option Int) => ∀ (x1 : Int) (x2 : Int) (x3 : Int) (b : Int), c x1 x2 x3 = some b → WK 4 (.inl (some (aI b))) σ0 (abH 2 70 g h) 4 [(0, aR 60), (1, aI x1), (2, aI x2), (3, aI x3)] [] (abH 2 70 g h) 0 0) (by
    intro x1 x2 x3 b q
    cases q) (fun self ih => by
    intro x1 x2 x3 b q
    exact uX0_loadAt_4 hg (fun _ _ _ _ q => wX0_loadAt_52 hg ih q) q) F
  intro x1 x2 x3 b q
  exact z _ _ _ _ q
def bX0_loadAt (h : HH) (c4 : Int → Int → Int → Option Int) (x1 : Int) : Option Int :=
  c4 x1 0 0
theorem uX0_loadAt {g : SG} (hg : GOK g) {σ0 : SG} {h : HH} {c4 : Int → Int → Int → Option Int} (k4 : ∀ (x1 : Int) (x2 : Int) (x3 : Int) (b : Int), c4 x1 x2 x3 = some b → WK 4 (.inl (some (aI b))) σ0 (abH 2 70 g h) 4 [(0, aR 60), (1, aI x1), (2, aI x2), (3, aI x3)] [] (abH 2 70 g h) 0 0) : ∀ {x1 : Int} {b : Int}, bX0_loadAt h c4 x1 = some b → WK 4 (.inl (some (aI b))) σ0 (abH 2 70 g h) 0 [(0, aR 60), (1, aI x1)] [] (abH 2 70 g h) 0 0 := by
  intro x1 b q
  have e : bX0_loadAt h c4 x1 = segP 2 70 g.2.2.2.2 h krPI clNP csX0_loadAt (cuC 4 (fun l st s => tkC 0 60 l <| tkI 1 l fun x1 => tkI 2 l fun x2 => tkI 3 l fun x3 => skE st (c4 x1 x2 x3)) cuN) 1000 0 [(0, aR 60), (1, aI x1)] [] := rfl
  rw [e] at q
  clear e
  refine segP_wk (by decide) (by decide) hg rwX0_loadAt CLKP_N krPI_ok ?_ q
  clear q
  refine ct_C ?_ (ct_N)
  · intro l st _ q
    obtain ⟨m0, q1⟩ := tkC_of q
    obtain ⟨x1, m1, q2⟩ := tkI_of q1
    obtain ⟨x2, m2, q3⟩ := tkI_of q2
    obtain ⟨x3, m3, q4⟩ := tkI_of q3
    obtain ⟨rfl, q5⟩ := skE_of q4
    exact WK_less (k4 _ _ _ _ q5) (List.forall_mem_cons.mpr ⟨m0, (List.forall_mem_cons.mpr ⟨m1, (List.forall_mem_cons.mpr ⟨m2, (List.forall_mem_cons.mpr ⟨m3, (fun _ h => absurd h List.not_mem_nil)⟩)⟩)⟩)⟩)
def nX0_loadAt (h : HH) (x1 : Int) : Option Int := bX0_loadAt h (nX0_loadAt_4 h 100000) x1
theorem wX0_loadAt {g : SG} (hg : GOK g) {σ0 : SG} {h : HH} : ∀ {x1 : Int} {b : Int}, nX0_loadAt h x1 = some b → WK 4 (.inl (some (aI b))) σ0 (abH 2 70 g h) 0 [(0, aR 60), (1, aI x1)] [] (abH 2 70 g h) 0 0 := by
  intro x1 b q
  exact uX0_loadAt hg (fun _ _ _ _ q => wX0_loadAt_4 hg q) q
theorem mX0_loadAt {g : SG} (hg : GOK g) {h : HH} {x1 : Int} {b : Int} (q : nX0_loadAt h x1 = some b) : MCT 4 [] [aR 60, aI x1] (abH 2 70 g h) (.inl (some (aI b))) (abH 2 70 g h) :=
  mct_of (by decide) (MFok 4 (by decide +kernel)) (fun _ => Nat.le_of_ble_eq_true rfl) (wX0_loadAt hg q)
def pX0_loadAt {β : Type} (z : HH → Int → Option Int) : PP β := fun h as f => skC 60 as fun as => skI as fun x1 as => skE as (bnd (z h x1) fun r => f (.inl (some (aI r))))
theorem pX0_loadAt_ok {β : Type} {g : SG} (hg : GOK g) : CP1 (β := β) 4 (pX0_loadAt nX0_loadAt) 2 70 g := fun h as f b q => by
  obtain ⟨as, rfl, q1⟩ := skC_of q
  obtain ⟨x1, as, rfl, q2⟩ := skI_of q1
  obtain ⟨rfl, q0⟩ := skE_of q2
  obtain ⟨r, z1, z2⟩ := bnd_of q0
  exact ⟨_, z2, by decide, mX0_loadAt hg z1, rfl, rfl, fun z => absurd z (by decide)⟩
def csX0_loadOf : List (Nat × List (Nat × ARow)) := [(100000, [(0, 1, .iconst 0, 0, 0, 0), (1, 1, .istore_n 2, 0, 0, 0), (2, 1, .iconst 1, 0, 0, 0), (3, 1, .istore_n 3, 0, 0, 0), (4, 1, .iload_n 3, 0, 0, 0), (5, 2, .bipush 16, 0, 0, 0), (7, 3, .if_icmp .ge 27, 34, 0, 0), (10, 1, .aload_n 0, 0, 0, 0), (11, 3, .getfield 18, 0, 4, 2), (14, 1, .iload_n 3, 0, 0, 0), (15, 1, .iaload, 0, 0, 0), (16, 1, .iload_n 1, 0, 0, 0), (17, 3, .if_icmp .ne 11, 28, 0, 0), (20, 1, .iload_n 2, 0, 0, 0), (21, 1, .aload_n 0, 0, 0, 0), (22, 1, .iload_n 3, 0, 0, 0), (23, 3, .invokevirtual 64, 4, 2, 0), (26, 1, .iadd, 0, 0, 0), (27, 1, .istore_n 2, 0, 0, 0), (28, 3, .iinc 3 1, 0, 0, 0), (31, 3, .goto (-27), 4, 0, 0), (34, 1, .iload_n 2, 0, 0, 0), (35, 1, .ireturn, 0, 0, 0)])]
theorem rwX0_loadOf : rowsB (mB 5) (mO 5) (mX 5) (mIni 5) (mFr 5) (mLo 5) (mT 5) csX0_loadOf = true := by decide +kernel
def bX0_loadOf_28 (h : HH) (c4 : Int → Int → Int → Option Int) (x1 : Int) (x2 : Int) (x3 : Int) : Option Int :=
  gd (R32 (x3 + 1)) <|
    c4 x1 x2 (x3 + 1)
theorem uX0_loadOf_28 {g : SG} (hg : GOK g) {σ0 : SG} {h : HH} {c4 : Int → Int → Int → Option Int} (k4 : ∀ (x1 : Int) (x2 : Int) (x3 : Int) (b : Int), c4 x1 x2 x3 = some b → WK 5 (.inl (some (aI b))) σ0 (abH 2 70 g h) 4 [(0, aR 60), (1, aI x1), (2, aI x2), (3, aI x3)] [] (abH 2 70 g h) 0 0) : ∀ {x1 : Int} {x2 : Int} {x3 : Int} {b : Int}, bX0_loadOf_28 h c4 x1 x2 x3 = some b → WK 5 (.inl (some (aI b))) σ0 (abH 2 70 g h) 28 [(0, aR 60), (1, aI x1), (2, aI x2), (3, aI x3)] [] (abH 2 70 g h) 0 0 := by
  intro x1 x2 x3 b q
  have e : bX0_loadOf_28 h c4 x1 x2 x3 = segP 2 70 g.2.2.2.2 h krPI clNP csX0_loadOf (cuC 4 (fun l st s => tkC 0 60 l <| tkI 1 l fun x1 => tkI 2 l fun x2 => tkI 3 l fun x3 => skE st (c4 x1 x2 x3)) cuN) 1000 28 [(0, aR 60), (1, aI x1), (2, aI x2), (3, aI x3)] [] := rfl
  rw [e] at q
  clear e
  refine segP_wk (by decide) (by decide) hg rwX0_loadOf CLKP_N krPI_ok ?_ q
  clear q
  refine ct_C ?_ (ct_N)
  · intro l st _ q
    obtain ⟨m0, q1⟩ := tkC_of q
    obtain ⟨x1, m1, q2⟩ := tkI_of q1
    obtain ⟨x2, m2, q3⟩ := tkI_of q2
    obtain ⟨x3, m3, q4⟩ := tkI_of q3
    obtain ⟨rfl, q5⟩ := skE_of q4
    exact WK_less (k4 _ _ _ _ q5) (List.forall_mem_cons.mpr ⟨m0, (List.forall_mem_cons.mpr ⟨m1, (List.forall_mem_cons.mpr ⟨m2, (List.forall_mem_cons.mpr ⟨m3, (fun _ h => absurd h List.not_mem_nil)⟩)⟩)⟩)⟩)
def nX0_loadOf_28 (h : HH) (c4 : Int → Int → Int → Option Int) (x1 : Int) (x2 : Int) (x3 : Int) : Option Int := bX0_loadOf_28 h c4 x1 x2 x3
theorem wX0_loadOf_28 {g : SG} (hg : GOK g) {σ0 : SG} {h : HH} {c4 : Int → Int → Int → Option Int} (k4 : ∀ (x1 : Int) (x2 : Int) (x3 : Int) (b : Int), c4 x1 x2 x3 = some b → WK 5 (.inl (some (aI b))) σ0 (abH 2 70 g h) 4 [(0, aR 60), (1, aI x1), (2, aI x2), (3, aI x3)] [] (abH 2 70 g h) 0 0) : ∀ {x1 : Int} {x2 : Int} {x3 : Int} {b : Int}, nX0_loadOf_28 h c4 x1 x2 x3 = some b → WK 5 (.inl (some (aI b))) σ0 (abH 2 70 g h) 28 [(0, aR 60), (1, aI x1), (2, aI x2), (3, aI x3)] [] (abH 2 70 g h) 0 0 := by
  intro x1 x2 x3 b q
  exact uX0_loadOf_28 hg k4 q
def bX0_loadOf_4 (f4 : HH → Int → Option Int) (h : HH) (c28 : Int → Int → Int → Option Int) (x1 : Int) (x2 : Int) (x3 : Int) : Option Int :=
  if x3 < (16 : Int) then
    gd ((0 : Int) ≤ x3 ∧ x3 < (16 : Int)) <|
    if (h.1 63 x3) = (x1 : Int) then
    bnd (f4 h x3) fun r1 =>
    gd (R32 (x2 + r1)) <|
    c28 x1 (x2 + r1) x3
  else
    c28 x1 x2 x3
  else
    some x2
theorem uX0_loadOf_4 {g : SG} (hg : GOK g) {σ0 : SG} {h : HH} {c28 : Int → Int → Int → Option Int} (k28 : ∀ (x1 : Int) (x2 : Int) (x3 : Int) (b : Int), c28 x1 x2 x3 = some b → WK 5 (.inl (some (aI b))) σ0 (abH 2 70 g h) 28 [(0, aR 60), (1, aI x1), (2, aI x2), (3, aI x3)] [] (abH 2 70 g h) 0 0) : ∀ {x1 : Int} {x2 : Int} {x3 : Int} {b : Int}, bX0_loadOf_4 nX0_loadAt h c28 x1 x2 x3 = some b → WK 5 (.inl (some (aI b))) σ0 (abH 2 70 g h) 4 [(0, aR 60), (1, aI x1), (2, aI x2), (3, aI x3)] [] (abH 2 70 g h) 0 0 := by
  intro x1 x2 x3 b q
  have e : ∀ (f4 : HH → Int → Option Int) , bX0_loadOf_4 f4 h c28 x1 x2 x3 = segP 2 70 g.2.2.2.2 h krPI (clCP 4 (pX0_loadAt f4 h) clNP) csX0_loadOf (cuC 28 (fun l st s => tkC 0 60 l <| tkI 1 l fun x1 => tkI 2 l fun x2 => tkI 3 l fun x3 => skE st (c28 x1 x2 x3)) cuN) 1000 4 [(0, aR 60), (1, aI x1), (2, aI x2), (3, aI x3)] [] := fun _ => rfl
  rw [e nX0_loadAt] at q
  clear e
  refine segP_wk (by decide) (by decide) hg rwX0_loadOf (CLKP_C (pX0_loadAt_ok hg) CLKP_N) krPI_ok ?_ q
  clear q
  refine ct_C ?_ (ct_N)
  · intro l st _ q
    obtain ⟨m0, q1⟩ := tkC_of q
    obtain ⟨x1, m1, q2⟩ := tkI_of q1
    obtain ⟨x2, m2, q3⟩ := tkI_of q2
    obtain ⟨x3, m3, q4⟩ := tkI_of q3
    obtain ⟨rfl, q5⟩ := skE_of q4
    exact WK_less (k28 _ _ _ _ q5) (List.forall_mem_cons.mpr ⟨m0, (List.forall_mem_cons.mpr ⟨m1, (List.forall_mem_cons.mpr ⟨m2, (List.forall_mem_cons.mpr ⟨m3, (fun _ h => absurd h List.not_mem_nil)⟩)⟩)⟩)⟩)
def nX0_loadOf_4 (h : HH) : Nat → Int → Int → Int → Option Int := iter (fun _ _ _ => none) (fun self => bX0_loadOf_4 nX0_loadAt h (nX0_loadOf_28 h self))
theorem nX0_loadOf_4_s {h : HH} {F : Nat} : nX0_loadOf_4 h (F + 1) = bX0_loadOf_4 nX0_loadAt h (nX0_loadOf_28 h (nX0_loadOf_4 h F)) := rfl
theorem wX0_loadOf_4 {g : SG} (hg : GOK g) {σ0 : SG} {h : HH} : ∀ {F : Nat}, ∀ {x1 : Int} {x2 : Int} {x3 : Int} {b : Int}, nX0_loadOf_4 h F x1 x2 x3 = some b → WK 5 (.inl (some (aI b))) σ0 (abH 2 70 g h) 4 [(0, aR 60), (1, aI x1), (2, aI x2), (3, aI x3)] [] (abH 2 70 g h) 0 0 := by
  intro F
  have z : ∀ (x1 : Int) (x2 : Int) (x3 : Int) (b : Int), nX0_loadOf_4 h F x1 x2 x3 = some b → WK 5 (.inl (some (aI b))) σ0 (abH 2 70 g h) 4 [(0, aR 60), (1, aI x1), (2, aI x2), (3, aI x3)] [] (abH 2 70 g h) 0 0 := iter_ind (P := fun (c : Int → Int → Int → Option Int) => ∀ (x1 : Int) (x2 : Int) (x3 : Int) (b : Int), c x1 x2 x3 = some b → WK 5 (.inl (some (aI b))) σ0 (abH 2 70 g h) 4 [(0, aR 60), (1, aI x1), (2, aI x2), (3, aI x3)] [] (abH 2 70 g h) 0 0) (by
    intro x1 x2 x3 b q
    cases q) (fun self ih => by
    intro x1 x2 x3 b q
    exact uX0_loadOf_4 hg (fun _ _ _ _ q => wX0_loadOf_28 hg ih q) q) F
  intro x1 x2 x3 b q
  exact z _ _ _ _ q
def bX0_loadOf (h : HH) (c4 : Int → Int → Int → Option Int) (x1 : Int) : Option Int :=
  c4 x1 0 1
theorem uX0_loadOf {g : SG} (hg : GOK g) {σ0 : SG} {h : HH} {c4 : Int → Int → Int → Option Int} (k4 : ∀ (x1 : Int) (x2 : Int) (x3 : Int) (b : Int), c4 x1 x2 x3 = some b → WK 5 (.inl (some (aI b))) σ0 (abH 2 70 g h) 4 [(0, aR 60), (1, aI x1), (2, aI x2), (3, aI x3)] [] (abH 2 70 g h) 0 0) : ∀ {x1 : Int} {b : Int}, bX0_loadOf h c4 x1 = some b → WK 5 (.inl (some (aI b))) σ0 (abH 2 70 g h) 0 [(0, aR 60), (1, aI x1)] [] (abH 2 70 g h) 0 0 := by
  intro x1 b q
  have e : bX0_loadOf h c4 x1 = segP 2 70 g.2.2.2.2 h krPI clNP csX0_loadOf (cuC 4 (fun l st s => tkC 0 60 l <| tkI 1 l fun x1 => tkI 2 l fun x2 => tkI 3 l fun x3 => skE st (c4 x1 x2 x3)) cuN) 1000 0 [(0, aR 60), (1, aI x1)] [] := rfl
  rw [e] at q
  clear e
  refine segP_wk (by decide) (by decide) hg rwX0_loadOf CLKP_N krPI_ok ?_ q
  clear q
  refine ct_C ?_ (ct_N)
  · intro l st _ q
    obtain ⟨m0, q1⟩ := tkC_of q
    obtain ⟨x1, m1, q2⟩ := tkI_of q1
    obtain ⟨x2, m2, q3⟩ := tkI_of q2
    obtain ⟨x3, m3, q4⟩ := tkI_of q3
    obtain ⟨rfl, q5⟩ := skE_of q4
    exact WK_less (k4 _ _ _ _ q5) (List.forall_mem_cons.mpr ⟨m0, (List.forall_mem_cons.mpr ⟨m1, (List.forall_mem_cons.mpr ⟨m2, (List.forall_mem_cons.mpr ⟨m3, (fun _ h => absurd h List.not_mem_nil)⟩)⟩)⟩)⟩)
def nX0_loadOf (h : HH) (x1 : Int) : Option Int := bX0_loadOf h (nX0_loadOf_4 h 100000) x1
theorem wX0_loadOf {g : SG} (hg : GOK g) {σ0 : SG} {h : HH} : ∀ {x1 : Int} {b : Int}, nX0_loadOf h x1 = some b → WK 5 (.inl (some (aI b))) σ0 (abH 2 70 g h) 0 [(0, aR 60), (1, aI x1)] [] (abH 2 70 g h) 0 0 := by
  intro x1 b q
  exact uX0_loadOf hg (fun _ _ _ _ q => wX0_loadOf_4 hg q) q
theorem mX0_loadOf {g : SG} (hg : GOK g) {h : HH} {x1 : Int} {b : Int} (q : nX0_loadOf h x1 = some b) : MCT 5 [] [aR 60, aI x1] (abH 2 70 g h) (.inl (some (aI b))) (abH 2 70 g h) :=
  mct_of (by decide) (MFok 5 (by decide +kernel)) (fun _ => Nat.le_of_ble_eq_true rfl) (wX0_loadOf hg q)
def pX0_loadOf {β : Type} (z : HH → Int → Option Int) : PP β := fun h as f => skC 60 as fun as => skI as fun x1 as => skE as (bnd (z h x1) fun r => f (.inl (some (aI r))))
theorem pX0_loadOf_ok {β : Type} {g : SG} (hg : GOK g) : CP1 (β := β) 5 (pX0_loadOf nX0_loadOf) 2 70 g := fun h as f b q => by
  obtain ⟨as, rfl, q1⟩ := skC_of q
  obtain ⟨x1, as, rfl, q2⟩ := skI_of q1
  obtain ⟨rfl, q0⟩ := skE_of q2
  obtain ⟨r, z1, z2⟩ := bnd_of q0
  exact ⟨_, z2, by decide, mX0_loadOf hg z1, rfl, rfl, fun z => absurd z (by decide)⟩
def csX0_spread : List (Nat × List (Nat × ARow)) := [(38, [(0, 1, .aload_n 0, 0, 0, 0), (1, 3, .getfield 21, 0, 5, 2), (4, 1, .iconst 0, 0, 0, 0), (5, 1, .iaload, 0, 0, 0), (6, 1, .aload_n 0, 0, 0, 0), (7, 3, .getfield 21, 0, 5, 2), (10, 1, .iconst 1, 0, 0, 0), (11, 1, .iaload, 0, 0, 0), (12, 1, .aload_n 0, 0, 0, 0), (13, 3, .getfield 21, 0, 5, 2), (16, 1, .iconst 2, 0, 0, 0), (17, 1, .iaload, 0, 0, 0), (18, 3, .invokestatic 87, 1000, 2, 0), (21, 3, .invokestatic 87, 1000, 2, 0), (24, 1, .istore_n 1, 0, 0, 0), (25, 1, .iload_n 1, 0, 0, 0), (26, 1, .aload_n 0, 0, 0, 0), (27, 3, .getfield 21, 0, 5, 2), (30, 1, .iconst 0, 0, 0, 0), (31, 1, .iaload, 0, 0, 0), (32, 1, .aload_n 0, 0, 0, 0), (33, 3, .getfield 21, 0, 5, 2), (36, 1, .iconst 1, 0, 0, 0), (37, 1, .iaload, 0, 0, 0)]),
  (100000, [(38, 1, .aload_n 0, 0, 0, 0), (39, 3, .getfield 21, 0, 5, 2), (42, 1, .iconst 2, 0, 0, 0), (43, 1, .iaload, 0, 0, 0), (44, 3, .invokestatic 82, 1001, 2, 0), (47, 3, .invokestatic 82, 1001, 2, 0), (50, 1, .isub, 0, 0, 0), (51, 1, .ireturn, 0, 0, 0)])]
theorem rwX0_spread : rowsB (mB 7) (mO 7) (mX 7) (mIni 7) (mFr 7) (mLo 7) (mT 7) csX0_spread = true := by decide +kernel
def bX0_spread (h : HH) : Option Int :=
  gd ((0 : Int) ≤ 0 ∧ 0 < (3 : Int)) <|
    gd ((0 : Int) ≤ 1 ∧ 1 < (3 : Int)) <|
    gd ((0 : Int) ≤ 2 ∧ 2 < (3 : Int)) <|
    gd ((0 : Int) ≤ 0 ∧ 0 < (3 : Int)) <|
    gd ((0 : Int) ≤ 1 ∧ 1 < (3 : Int)) <|
    gd ((0 : Int) ≤ 2 ∧ 2 < (3 : Int)) <|
    gd (R32 ((max (h.1 64 0) (max (h.1 64 1) (h.1 64 2))) - (min (h.1 64 0) (min (h.1 64 1) (h.1 64 2))))) <|
    some ((max (h.1 64 0) (max (h.1 64 1) (h.1 64 2))) - (min (h.1 64 0) (min (h.1 64 1) (h.1 64 2))))
theorem uX0_spread {g : SG} (hg : GOK g) {σ0 : SG} {h : HH} : ∀ {b : Int}, bX0_spread h = some b → WK 7 (.inl (some (aI b))) σ0 (abH 2 70 g h) 0 [(0, aR 60)] [] (abH 2 70 g h) 0 0 := by
  intro  b q
  have e : bX0_spread h = segP 2 70 g.2.2.2.2 h krPI clNP csX0_spread cuN 1000 0 [(0, aR 60)] [] := rfl
  rw [e] at q
  clear e
  refine segP_wk (by decide) (by decide) hg rwX0_spread CLKP_N krPI_ok ?_ q
  clear q
  exact ct_N
def nX0_spread (h : HH) : Option Int := bX0_spread h
theorem wX0_spread {g : SG} (hg : GOK g) {σ0 : SG} {h : HH} : ∀ {b : Int}, nX0_spread h = some b → WK 7 (.inl (some (aI b))) σ0 (abH 2 70 g h) 0 [(0, aR 60)] [] (abH 2 70 g h) 0 0 := by
  intro  b q
  exact uX0_spread hg q
theorem mX0_spread {g : SG} (hg : GOK g) {h : HH} {b : Int} (q : nX0_spread h = some b) : MCT 7 [] [aR 60] (abH 2 70 g h) (.inl (some (aI b))) (abH 2 70 g h) :=
  mct_of (by decide) (MFok 7 (by decide +kernel)) (fun _ => Nat.le_of_ble_eq_true rfl) (wX0_spread hg q)
def pX0_spread {β : Type} (z : HH → Option Int) : PP β := fun h as f => skC 60 as fun as => skE as (bnd (z h) fun r => f (.inl (some (aI r))))
theorem pX0_spread_ok {β : Type} {g : SG} (hg : GOK g) : CP1 (β := β) 7 (pX0_spread nX0_spread) 2 70 g := fun h as f b q => by
  obtain ⟨as, rfl, q1⟩ := skC_of q
  obtain ⟨rfl, q0⟩ := skE_of q1
  obtain ⟨r, z1, z2⟩ := bnd_of q0
  exact ⟨_, z2, by decide, mX0_spread hg z1, rfl, rfl, fun z => absurd z (by decide)⟩
def csX9_hasStreet : List (Nat × List (Nat × ARow)) := [(42, [(0, 1, .iconst 0, 0, 0, 0), (1, 1, .istore_n 3, 0, 0, 0), (2, 1, .iload_n 3, 0, 0, 0), (3, 1, .aload_n 0, 0, 0, 0), (4, 3, .getfield 46, 9, 3, 0), (7, 3, .if_icmp .ge 63, 70, 0, 0), (10, 1, .aload_n 0, 0, 0, 0), (11, 3, .getfield 9, 9, 0, 2), (14, 1, .iload_n 3, 0, 0, 0), (15, 1, .iaload, 0, 0, 0), (16, 1, .iload_n 1, 0, 0, 0), (17, 3, .if_icmp .ne 17, 34, 0, 0), (20, 1, .aload_n 0, 0, 0, 0), (21, 3, .getfield 15, 9, 1, 2), (24, 1, .iload_n 3, 0, 0, 0), (25, 1, .iaload, 0, 0, 0), (26, 1, .iload_n 2, 0, 0, 0), (27, 3, .if_icmp .ne 7, 34, 0, 0), (30, 1, .iconst 1, 0, 0, 0), (31, 3, .goto 4, 35, 0, 0), (34, 1, .iconst 0, 0, 0, 0), (35, 2, .istore 4, 0, 0, 0), (37, 2, .iload 4, 0, 0, 0), (39, 3, .ifCond .ne 23, 62, 0, 0)]),
  (100000, [(42, 1, .aload_n 0, 0, 0, 0), (43, 3, .getfield 9, 9, 0, 2), (46, 1, .iload_n 3, 0, 0, 0), (47, 1, .iaload, 0, 0, 0), (48, 1, .iload_n 2, 0, 0, 0), (49, 3, .if_icmp .ne 15, 64, 0, 0), (52, 1, .aload_n 0, 0, 0, 0), (53, 3, .getfield 15, 9, 1, 2), (56, 1, .iload_n 3, 0, 0, 0), (57, 1, .iaload, 0, 0, 0), (58, 1, .iload_n 1, 0, 0, 0), (59, 3, .if_icmp .ne 5, 64, 0, 0), (62, 1, .iconst 1, 0, 0, 0), (63, 1, .ireturn, 1, 0, 0), (64, 3, .iinc 3 1, 0, 0, 0), (67, 3, .goto (-65), 2, 0, 0), (70, 1, .iconst 0, 0, 0, 0), (71, 1, .ireturn, 1, 0, 0)])]
theorem rwX9_hasStreet : rowsB (mB 97) (mO 97) (mX 97) (mIni 97) (mFr 97) (mLo 97) (mT 97) csX9_hasStreet = true := by decide +kernel
def bX9_hasStreet_64 (h : HH) (c2 : Int → Int → Int → Option Int) (x1 : Int) (x2 : Int) (x3 : Int) : Option Int :=
  gd (R32 (x3 + 1)) <|
    c2 x1 x2 (x3 + 1)
theorem uX9_hasStreet_64 {g : SG} (hg : GOK g) {σ0 : SG} {h : HH} {c2 : Int → Int → Int → Option Int} (k2 : ∀ (x1 : Int) (x2 : Int) (x3 : Int) (b : Int), c2 x1 x2 x3 = some b → WK 97 (.inl (some (aI b))) σ0 (abH 2 70 g h) 2 [(0, aR 3), (1, aI x1), (2, aI x2), (3, aI x3)] [] (abH 2 70 g h) 0 0) : ∀ {x1 : Int} {x2 : Int} {x3 : Int} {b : Int}, bX9_hasStreet_64 h c2 x1 x2 x3 = some b → WK 97 (.inl (some (aI b))) σ0 (abH 2 70 g h) 64 [(0, aR 3), (1, aI x1), (2, aI x2), (3, aI x3)] [] (abH 2 70 g h) 0 0 := by
  intro x1 x2 x3 b q
  have e : bX9_hasStreet_64 h c2 x1 x2 x3 = segP 2 70 g.2.2.2.2 h krPI clNP csX9_hasStreet (cuC 2 (fun l st s => tkC 0 3 l <| tkI 1 l fun x1 => tkI 2 l fun x2 => tkI 3 l fun x3 => skE st (c2 x1 x2 x3)) cuN) 1000 64 [(0, aR 3), (1, aI x1), (2, aI x2), (3, aI x3)] [] := rfl
  rw [e] at q
  clear e
  refine segP_wk (by decide) (by decide) hg rwX9_hasStreet CLKP_N krPI_ok ?_ q
  clear q
  refine ct_C ?_ (ct_N)
  · intro l st _ q
    obtain ⟨m0, q1⟩ := tkC_of q
    obtain ⟨x1, m1, q2⟩ := tkI_of q1
    obtain ⟨x2, m2, q3⟩ := tkI_of q2
    obtain ⟨x3, m3, q4⟩ := tkI_of q3
    obtain ⟨rfl, q5⟩ := skE_of q4
    exact WK_less (k2 _ _ _ _ q5) (List.forall_mem_cons.mpr ⟨m0, (List.forall_mem_cons.mpr ⟨m1, (List.forall_mem_cons.mpr ⟨m2, (List.forall_mem_cons.mpr ⟨m3, (fun _ h => absurd h List.not_mem_nil)⟩)⟩)⟩)⟩)
def nX9_hasStreet_64 (h : HH) (c2 : Int → Int → Int → Option Int) (x1 : Int) (x2 : Int) (x3 : Int) : Option Int := bX9_hasStreet_64 h c2 x1 x2 x3
theorem wX9_hasStreet_64 {g : SG} (hg : GOK g) {σ0 : SG} {h : HH} {c2 : Int → Int → Int → Option Int} (k2 : ∀ (x1 : Int) (x2 : Int) (x3 : Int) (b : Int), c2 x1 x2 x3 = some b → WK 97 (.inl (some (aI b))) σ0 (abH 2 70 g h) 2 [(0, aR 3), (1, aI x1), (2, aI x2), (3, aI x3)] [] (abH 2 70 g h) 0 0) : ∀ {x1 : Int} {x2 : Int} {x3 : Int} {b : Int}, nX9_hasStreet_64 h c2 x1 x2 x3 = some b → WK 97 (.inl (some (aI b))) σ0 (abH 2 70 g h) 64 [(0, aR 3), (1, aI x1), (2, aI x2), (3, aI x3)] [] (abH 2 70 g h) 0 0 := by
  intro x1 x2 x3 b q
  exact uX9_hasStreet_64 hg k2 q
def bX9_hasStreet_35 (h : HH) (c64 : Int → Int → Int → Option Int) (x1 : Int) (x2 : Int) (x3 : Int) (y0 : Int) : Option Int :=
  if y0 = (0 : Int) then
    gd ((0 : Int) ≤ x3 ∧ x3 < (60 : Int)) <|
    if (h.1 4 x3) = (x2 : Int) then
    gd ((0 : Int) ≤ x3 ∧ x3 < (60 : Int)) <|
    if (h.1 5 x3) = (x1 : Int) then
    gd ((0 : Int) ≤ 1 ∧ 1 ≤ (1 : Int)) <|
    some 1
  else
    c64 x1 x2 x3
  else
    c64 x1 x2 x3
  else
    gd ((0 : Int) ≤ 1 ∧ 1 ≤ (1 : Int)) <|
    some 1
theorem uX9_hasStreet_35 {g : SG} (hg : GOK g) {σ0 : SG} {h : HH} {c64 : Int → Int → Int → Option Int} (k64 : ∀ (x1 : Int) (x2 : Int) (x3 : Int) (b : Int), c64 x1 x2 x3 = some b → WK 97 (.inl (some (aI b))) σ0 (abH 2 70 g h) 64 [(0, aR 3), (1, aI x1), (2, aI x2), (3, aI x3)] [] (abH 2 70 g h) 0 0) : ∀ {x1 : Int} {x2 : Int} {x3 : Int} {y0 : Int} {b : Int}, bX9_hasStreet_35 h c64 x1 x2 x3 y0 = some b → WK 97 (.inl (some (aI b))) σ0 (abH 2 70 g h) 35 [(0, aR 3), (1, aI x1), (2, aI x2), (3, aI x3)] [aI y0] (abH 2 70 g h) 0 0 := by
  intro x1 x2 x3 y0 b q
  have e : bX9_hasStreet_35 h c64 x1 x2 x3 y0 = segP 2 70 g.2.2.2.2 h krPI clNP csX9_hasStreet (cuC 64 (fun l st s => tkC 0 3 l <| tkI 1 l fun x1 => tkI 2 l fun x2 => tkI 3 l fun x3 => skE st (c64 x1 x2 x3)) cuN) 1000 35 [(0, aR 3), (1, aI x1), (2, aI x2), (3, aI x3)] [aI y0] := rfl
  rw [e] at q
  clear e
  refine segP_wk (by decide) (by decide) hg rwX9_hasStreet CLKP_N krPI_ok ?_ q
  clear q
  refine ct_C ?_ (ct_N)
  · intro l st _ q
    obtain ⟨m0, q1⟩ := tkC_of q
    obtain ⟨x1, m1, q2⟩ := tkI_of q1
    obtain ⟨x2, m2, q3⟩ := tkI_of q2
    obtain ⟨x3, m3, q4⟩ := tkI_of q3
    obtain ⟨rfl, q5⟩ := skE_of q4
    exact WK_less (k64 _ _ _ _ q5) (List.forall_mem_cons.mpr ⟨m0, (List.forall_mem_cons.mpr ⟨m1, (List.forall_mem_cons.mpr ⟨m2, (List.forall_mem_cons.mpr ⟨m3, (fun _ h => absurd h List.not_mem_nil)⟩)⟩)⟩)⟩)
def nX9_hasStreet_35 (h : HH) (c2 : Int → Int → Int → Option Int) (x1 : Int) (x2 : Int) (x3 : Int) (y0 : Int) : Option Int := bX9_hasStreet_35 h (nX9_hasStreet_64 h c2) x1 x2 x3 y0
theorem wX9_hasStreet_35 {g : SG} (hg : GOK g) {σ0 : SG} {h : HH} {c2 : Int → Int → Int → Option Int} (k2 : ∀ (x1 : Int) (x2 : Int) (x3 : Int) (b : Int), c2 x1 x2 x3 = some b → WK 97 (.inl (some (aI b))) σ0 (abH 2 70 g h) 2 [(0, aR 3), (1, aI x1), (2, aI x2), (3, aI x3)] [] (abH 2 70 g h) 0 0) : ∀ {x1 : Int} {x2 : Int} {x3 : Int} {y0 : Int} {b : Int}, nX9_hasStreet_35 h c2 x1 x2 x3 y0 = some b → WK 97 (.inl (some (aI b))) σ0 (abH 2 70 g h) 35 [(0, aR 3), (1, aI x1), (2, aI x2), (3, aI x3)] [aI y0] (abH 2 70 g h) 0 0 := by
  intro x1 x2 x3 y0 b q
  exact uX9_hasStreet_35 hg (fun _ _ _ _ q => wX9_hasStreet_64 hg k2 q) q
def bX9_hasStreet_34 (h : HH) (c35 : Int → Int → Int → Int → Option Int) (x1 : Int) (x2 : Int) (x3 : Int) : Option Int :=
  c35 x1 x2 x3 0
theorem uX9_hasStreet_34 {g : SG} (hg : GOK g) {σ0 : SG} {h : HH} {c35 : Int → Int → Int → Int → Option Int} (k35 : ∀ (x1 : Int) (x2 : Int) (x3 : Int) (y0 : Int) (b : Int), c35 x1 x2 x3 y0 = some b → WK 97 (.inl (some (aI b))) σ0 (abH 2 70 g h) 35 [(0, aR 3), (1, aI x1), (2, aI x2), (3, aI x3)] [aI y0] (abH 2 70 g h) 0 0) : ∀ {x1 : Int} {x2 : Int} {x3 : Int} {b : Int}, bX9_hasStreet_34 h c35 x1 x2 x3 = some b → WK 97 (.inl (some (aI b))) σ0 (abH 2 70 g h) 34 [(0, aR 3), (1, aI x1), (2, aI x2), (3, aI x3)] [] (abH 2 70 g h) 0 0 := by
  intro x1 x2 x3 b q
  have e : bX9_hasStreet_34 h c35 x1 x2 x3 = segP 2 70 g.2.2.2.2 h krPI clNP csX9_hasStreet (cuC 35 (fun l st s => tkC 0 3 l <| tkI 1 l fun x1 => tkI 2 l fun x2 => tkI 3 l fun x3 => skI st fun y0 st => skE st (c35 x1 x2 x3 y0)) cuN) 1000 34 [(0, aR 3), (1, aI x1), (2, aI x2), (3, aI x3)] [] := rfl
  rw [e] at q
  clear e
  refine segP_wk (by decide) (by decide) hg rwX9_hasStreet CLKP_N krPI_ok ?_ q
  clear q
  refine ct_C ?_ (ct_N)
  · intro l st _ q
    obtain ⟨m0, q1⟩ := tkC_of q
    obtain ⟨x1, m1, q2⟩ := tkI_of q1
    obtain ⟨x2, m2, q3⟩ := tkI_of q2
    obtain ⟨x3, m3, q4⟩ := tkI_of q3
    obtain ⟨y0, t0, rfl, q5⟩ := skI_of q4
    obtain ⟨rfl, q6⟩ := skE_of q5
    exact WK_less (k35 _ _ _ _ _ q6) (List.forall_mem_cons.mpr ⟨m0, (List.forall_mem_cons.mpr ⟨m1, (List.forall_mem_cons.mpr ⟨m2, (List.forall_mem_cons.mpr ⟨m3, (fun _ h => absurd h List.not_mem_nil)⟩)⟩)⟩)⟩)
def nX9_hasStreet_34 (h : HH) (c2 : Int → Int → Int → Option Int) (x1 : Int) (x2 : Int) (x3 : Int) : Option Int := bX9_hasStreet_34 h (nX9_hasStreet_35 h c2) x1 x2 x3
theorem wX9_hasStreet_34 {g : SG} (hg : GOK g) {σ0 : SG} {h : HH} {c2 : Int → Int → Int → Option Int} (k2 : ∀ (x1 : Int) (x2 : Int) (x3 : Int) (b : Int), c2 x1 x2 x3 = some b → WK 97 (.inl (some (aI b))) σ0 (abH 2 70 g h) 2 [(0, aR 3), (1, aI x1), (2, aI x2), (3, aI x3)] [] (abH 2 70 g h) 0 0) : ∀ {x1 : Int} {x2 : Int} {x3 : Int} {b : Int}, nX9_hasStreet_34 h c2 x1 x2 x3 = some b → WK 97 (.inl (some (aI b))) σ0 (abH 2 70 g h) 34 [(0, aR 3), (1, aI x1), (2, aI x2), (3, aI x3)] [] (abH 2 70 g h) 0 0 := by
  intro x1 x2 x3 b q
  exact uX9_hasStreet_34 hg (fun _ _ _ _ _ q => wX9_hasStreet_35 hg k2 q) q
def bX9_hasStreet_2 (h : HH) (c34 : Int → Int → Int → Option Int) (c35 : Int → Int → Int → Int → Option Int) (x1 : Int) (x2 : Int) (x3 : Int) : Option Int :=
  if x3 < ((h.1 3 3) : Int) then
    gd ((0 : Int) ≤ x3 ∧ x3 < (60 : Int)) <|
    if (h.1 4 x3) = (x1 : Int) then
    gd ((0 : Int) ≤ x3 ∧ x3 < (60 : Int)) <|
    if (h.1 5 x3) = (x2 : Int) then
    c35 x1 x2 x3 1
  else
    c34 x1 x2 x3
  else
    c34 x1 x2 x3
  else
    gd ((0 : Int) ≤ 0 ∧ 0 ≤ (1 : Int)) <|
    some 0
theorem uX9_hasStreet_2 {g : SG} (hg : GOK g) {σ0 : SG} {h : HH} {c34 : Int → Int → Int → Option Int} {c35 : Int → Int → Int → Int → Option Int} (k34 : ∀ (x1 : Int) (x2 : Int) (x3 : Int) (b : Int), c34 x1 x2 x3 = some b → WK 97 (.inl (some (aI b))) σ0 (abH 2 70 g h) 34 [(0, aR 3), (1, aI x1), (2, aI x2), (3, aI x3)] [] (abH 2 70 g h) 0 0) (k35 : ∀ (x1 : Int) (x2 : Int) (x3 : Int) (y0 : Int) (b : Int), c35 x1 x2 x3 y0 = some b → WK 97 (.inl (some (aI b))) σ0 (abH 2 70 g h) 35 [(0, aR 3), (1, aI x1), (2, aI x2), (3, aI x3)] [aI y0] (abH 2 70 g h) 0 0) : ∀ {x1 : Int} {x2 : Int} {x3 : Int} {b : Int}, bX9_hasStreet_2 h c34 c35 x1 x2 x3 = some b → WK 97 (.inl (some (aI b))) σ0 (abH 2 70 g h) 2 [(0, aR 3), (1, aI x1), (2, aI x2), (3, aI x3)] [] (abH 2 70 g h) 0 0 := by
  intro x1 x2 x3 b q
  have e : bX9_hasStreet_2 h c34 c35 x1 x2 x3 = segP 2 70 g.2.2.2.2 h krPI clNP csX9_hasStreet (cuC 34 (fun l st s => tkC 0 3 l <| tkI 1 l fun x1 => tkI 2 l fun x2 => tkI 3 l fun x3 => skE st (c34 x1 x2 x3)) (cuC 35 (fun l st s => tkC 0 3 l <| tkI 1 l fun x1 => tkI 2 l fun x2 => tkI 3 l fun x3 => skI st fun y0 st => skE st (c35 x1 x2 x3 y0)) cuN)) 1000 2 [(0, aR 3), (1, aI x1), (2, aI x2), (3, aI x3)] [] := rfl
  rw [e] at q
  clear e
  refine segP_wk (by decide) (by decide) hg rwX9_hasStreet CLKP_N krPI_ok ?_ q
  clear q
  refine ct_C ?_ (ct_C ?_ (ct_N))
  · intro l st _ q
    obtain ⟨m0, q1⟩ := tkC_of q
    obtain ⟨x1, m1, q2⟩ := tkI_of q1
    obtain ⟨x2, m2, q3⟩ := tkI_of q2
    obtain ⟨x3, m3, q4⟩ := tkI_of q3
    obtain ⟨rfl, q5⟩ := skE_of q4
    exact WK_less (k34 _ _ _ _ q5) (List.forall_mem_cons.mpr ⟨m0, (List.forall_mem_cons.mpr ⟨m1, (List.forall_mem_cons.mpr ⟨m2, (List.forall_mem_cons.mpr ⟨m3, (fun _ h => absurd h List.not_mem_nil)⟩)⟩)⟩)⟩)
  · intro l st _ q
    obtain ⟨m0, q1⟩ := tkC_of q
    obtain ⟨x1, m1, q2⟩ := tkI_of q1
    obtain ⟨x2, m2, q3⟩ := tkI_of q2
    obtain ⟨x3, m3, q4⟩ := tkI_of q3
    obtain ⟨y0, t0, rfl, q5⟩ := skI_of q4
    obtain ⟨rfl, q6⟩ := skE_of q5
    exact WK_less (k35 _ _ _ _ _ q6) (List.forall_mem_cons.mpr ⟨m0, (List.forall_mem_cons.mpr ⟨m1, (List.forall_mem_cons.mpr ⟨m2, (List.forall_mem_cons.mpr ⟨m3, (fun _ h => absurd h List.not_mem_nil)⟩)⟩)⟩)⟩)
def nX9_hasStreet_2 (h : HH) : Nat → Int → Int → Int → Option Int := iter (fun _ _ _ => none) (fun self => bX9_hasStreet_2 h (nX9_hasStreet_34 h self) (nX9_hasStreet_35 h self))
theorem nX9_hasStreet_2_s {h : HH} {F : Nat} : nX9_hasStreet_2 h (F + 1) = bX9_hasStreet_2 h (nX9_hasStreet_34 h (nX9_hasStreet_2 h F)) (nX9_hasStreet_35 h (nX9_hasStreet_2 h F)) := rfl
theorem wX9_hasStreet_2 {g : SG} (hg : GOK g) {σ0 : SG} {h : HH} : ∀ {F : Nat}, ∀ {x1 : Int} {x2 : Int} {x3 : Int} {b : Int}, nX9_hasStreet_2 h F x1 x2 x3 = some b → WK 97 (.inl (some (aI b))) σ0 (abH 2 70 g h) 2 [(0, aR 3), (1, aI x1), (2, aI x2), (3, aI x3)] [] (abH 2 70 g h) 0 0 := by
  intro F
  have z : ∀ (x1 : Int) (x2 : Int) (x3 : Int) (b : Int), nX9_hasStreet_2 h F x1 x2 x3 = some b → WK 97 (.inl (some (aI b))) σ0 (abH 2 70 g h) 2 [(0, aR 3), (1, aI x1), (2, aI x2), (3, aI x3)] [] (abH 2 70 g h) 0 0 := iter_ind (P := fun (c : Int → Int → Int → Option Int) => ∀ (x1 : Int) (x2 : Int) (x3 : Int) (b : Int), c x1 x2 x3 = some b → WK 97 (.inl (some (aI b))) σ0 (abH 2 70 g h) 2 [(0, aR 3), (1, aI x1), (2, aI x2), (3, aI x3)] [] (abH 2 70 g h) 0 0) (by
    intro x1 x2 x3 b q
    cases q) (fun self ih => by
    intro x1 x2 x3 b q
    exact uX9_hasStreet_2 hg (fun _ _ _ _ q => wX9_hasStreet_34 hg ih q) (fun _ _ _ _ _ q => wX9_hasStreet_35 hg ih q) q) F
  intro x1 x2 x3 b q
  exact z _ _ _ _ q
def bX9_hasStreet (h : HH) (c2 : Int → Int → Int → Option Int) (x1 : Int) (x2 : Int) : Option Int :=
  c2 x1 x2 0
theorem uX9_hasStreet {g : SG} (hg : GOK g) {σ0 : SG} {h : HH} {c2 : Int → Int → Int → Option Int} (k2 : ∀ (x1 : Int) (x2 : Int) (x3 : Int) (b : Int), c2 x1 x2 x3 = some b → WK 97 (.inl (some (aI b))) σ0 (abH 2 70 g h) 2 [(0, aR 3), (1, aI x1), (2, aI x2), (3, aI x3)] [] (abH 2 70 g h) 0 0) : ∀ {x1 : Int} {x2 : Int} {b : Int}, bX9_hasStreet h c2 x1 x2 = some b → WK 97 (.inl (some (aI b))) σ0 (abH 2 70 g h) 0 [(0, aR 3), (1, aI x1), (2, aI x2)] [] (abH 2 70 g h) 0 0 := by
  intro x1 x2 b q
  have e : bX9_hasStreet h c2 x1 x2 = segP 2 70 g.2.2.2.2 h krPI clNP csX9_hasStreet (cuC 2 (fun l st s => tkC 0 3 l <| tkI 1 l fun x1 => tkI 2 l fun x2 => tkI 3 l fun x3 => skE st (c2 x1 x2 x3)) cuN) 1000 0 [(0, aR 3), (1, aI x1), (2, aI x2)] [] := rfl
  rw [e] at q
  clear e
  refine segP_wk (by decide) (by decide) hg rwX9_hasStreet CLKP_N krPI_ok ?_ q
  clear q
  refine ct_C ?_ (ct_N)
  · intro l st _ q
    obtain ⟨m0, q1⟩ := tkC_of q
    obtain ⟨x1, m1, q2⟩ := tkI_of q1
    obtain ⟨x2, m2, q3⟩ := tkI_of q2
    obtain ⟨x3, m3, q4⟩ := tkI_of q3
    obtain ⟨rfl, q5⟩ := skE_of q4
    exact WK_less (k2 _ _ _ _ q5) (List.forall_mem_cons.mpr ⟨m0, (List.forall_mem_cons.mpr ⟨m1, (List.forall_mem_cons.mpr ⟨m2, (List.forall_mem_cons.mpr ⟨m3, (fun _ h => absurd h List.not_mem_nil)⟩)⟩)⟩)⟩)
def nX9_hasStreet (h : HH) (x1 : Int) (x2 : Int) : Option Int := bX9_hasStreet h (nX9_hasStreet_2 h 100000) x1 x2
theorem wX9_hasStreet {g : SG} (hg : GOK g) {σ0 : SG} {h : HH} : ∀ {x1 : Int} {x2 : Int} {b : Int}, nX9_hasStreet h x1 x2 = some b → WK 97 (.inl (some (aI b))) σ0 (abH 2 70 g h) 0 [(0, aR 3), (1, aI x1), (2, aI x2)] [] (abH 2 70 g h) 0 0 := by
  intro x1 x2 b q
  exact uX9_hasStreet hg (fun _ _ _ _ q => wX9_hasStreet_2 hg q) q
theorem mX9_hasStreet {g : SG} (hg : GOK g) {h : HH} {x1 : Int} {x2 : Int} {b : Int} (q : nX9_hasStreet h x1 x2 = some b) : MCT 97 [] [aR 3, aI x1, aI x2] (abH 2 70 g h) (.inl (some (aI b))) (abH 2 70 g h) :=
  mct_of (by decide) (MFok 97 (by decide +kernel)) (fun _ => Nat.le_of_ble_eq_true rfl) (wX9_hasStreet hg q)
def pX9_hasStreet {β : Type} (z : HH → Int → Int → Option Int) : PP β := fun h as f => skC 3 as fun as => skI as fun x1 as => skI as fun x2 as => skE as (bnd (z h x1 x2) fun r => f (.inl (some (aI r))))
theorem pX9_hasStreet_ok {β : Type} {g : SG} (hg : GOK g) : CP1 (β := β) 97 (pX9_hasStreet nX9_hasStreet) 2 70 g := fun h as f b q => by
  obtain ⟨as, rfl, q1⟩ := skC_of q
  obtain ⟨x1, as, rfl, q2⟩ := skI_of q1
  obtain ⟨x2, as, rfl, q3⟩ := skI_of q2
  obtain ⟨rfl, q0⟩ := skE_of q3
  obtain ⟨r, z1, z2⟩ := bnd_of q0
  exact ⟨_, z2, by decide, mX9_hasStreet hg z1, rfl, rfl, fun z => absurd z (by decide)⟩
def csX0_touches : List (Nat × List (Nat × ARow)) := [(100000, [(0, 1, .iconst 1, 0, 0, 0), (1, 1, .istore_n 3, 0, 0, 0), (2, 1, .iload_n 3, 0, 0, 0), (3, 2, .bipush 16, 0, 0, 0), (5, 3, .if_icmp .ge 36, 41, 0, 0), (8, 1, .aload_n 0, 0, 0, 0), (9, 3, .getfield 18, 0, 4, 2), (12, 1, .iload_n 3, 0, 0, 0), (13, 1, .iaload, 0, 0, 0), (14, 1, .iload_n 2, 0, 0, 0), (15, 3, .if_icmp .ne 20, 35, 0, 0), (18, 1, .aload_n 0, 0, 0, 0), (19, 3, .getfield 24, 0, 0, 2), (22, 3, .getfield 48, 2, 0, 2), (25, 1, .iload_n 1, 0, 0, 0), (26, 1, .iload_n 3, 0, 0, 0), (27, 3, .invokevirtual 90, 97, 3, 9), (30, 3, .ifCond .eq 5, 35, 0, 0), (33, 1, .iconst 1, 0, 0, 0), (34, 1, .ireturn, 1, 0, 0), (35, 3, .iinc 3 1, 0, 0, 0), (38, 3, .goto (-36), 2, 0, 0), (41, 1, .iconst 0, 0, 0, 0), (42, 1, .ireturn, 1, 0, 0)])]
theorem rwX0_touches : rowsB (mB 9) (mO 9) (mX 9) (mIni 9) (mFr 9) (mLo 9) (mT 9) csX0_touches = true := by decide +kernel
def bX0_touches_35 (h : HH) (c2 : Int → Int → Int → Option Int) (x1 : Int) (x2 : Int) (x3 : Int) : Option Int :=
  gd (R32 (x3 + 1)) <|
    c2 x1 x2 (x3 + 1)
theorem uX0_touches_35 {g : SG} (hg : GOK g) {σ0 : SG} {h : HH} {c2 : Int → Int → Int → Option Int} (k2 : ∀ (x1 : Int) (x2 : Int) (x3 : Int) (b : Int), c2 x1 x2 x3 = some b → WK 9 (.inl (some (aI b))) σ0 (abH 2 70 g h) 2 [(0, aR 60), (1, aI x1), (2, aI x2), (3, aI x3)] [] (abH 2 70 g h) 0 0) : ∀ {x1 : Int} {x2 : Int} {x3 : Int} {b : Int}, bX0_touches_35 h c2 x1 x2 x3 = some b → WK 9 (.inl (some (aI b))) σ0 (abH 2 70 g h) 35 [(0, aR 60), (1, aI x1), (2, aI x2), (3, aI x3)] [] (abH 2 70 g h) 0 0 := by
  intro x1 x2 x3 b q
  have e : bX0_touches_35 h c2 x1 x2 x3 = segP 2 70 g.2.2.2.2 h krPI clNP csX0_touches (cuC 2 (fun l st s => tkC 0 60 l <| tkI 1 l fun x1 => tkI 2 l fun x2 => tkI 3 l fun x3 => skE st (c2 x1 x2 x3)) cuN) 1000 35 [(0, aR 60), (1, aI x1), (2, aI x2), (3, aI x3)] [] := rfl
  rw [e] at q
  clear e
  refine segP_wk (by decide) (by decide) hg rwX0_touches CLKP_N krPI_ok ?_ q
  clear q
  refine ct_C ?_ (ct_N)
  · intro l st _ q
    obtain ⟨m0, q1⟩ := tkC_of q
    obtain ⟨x1, m1, q2⟩ := tkI_of q1
    obtain ⟨x2, m2, q3⟩ := tkI_of q2
    obtain ⟨x3, m3, q4⟩ := tkI_of q3
    obtain ⟨rfl, q5⟩ := skE_of q4
    exact WK_less (k2 _ _ _ _ q5) (List.forall_mem_cons.mpr ⟨m0, (List.forall_mem_cons.mpr ⟨m1, (List.forall_mem_cons.mpr ⟨m2, (List.forall_mem_cons.mpr ⟨m3, (fun _ h => absurd h List.not_mem_nil)⟩)⟩)⟩)⟩)
def nX0_touches_35 (h : HH) (c2 : Int → Int → Int → Option Int) (x1 : Int) (x2 : Int) (x3 : Int) : Option Int := bX0_touches_35 h c2 x1 x2 x3
theorem wX0_touches_35 {g : SG} (hg : GOK g) {σ0 : SG} {h : HH} {c2 : Int → Int → Int → Option Int} (k2 : ∀ (x1 : Int) (x2 : Int) (x3 : Int) (b : Int), c2 x1 x2 x3 = some b → WK 9 (.inl (some (aI b))) σ0 (abH 2 70 g h) 2 [(0, aR 60), (1, aI x1), (2, aI x2), (3, aI x3)] [] (abH 2 70 g h) 0 0) : ∀ {x1 : Int} {x2 : Int} {x3 : Int} {b : Int}, nX0_touches_35 h c2 x1 x2 x3 = some b → WK 9 (.inl (some (aI b))) σ0 (abH 2 70 g h) 35 [(0, aR 60), (1, aI x1), (2, aI x2), (3, aI x3)] [] (abH 2 70 g h) 0 0 := by
  intro x1 x2 x3 b q
  exact uX0_touches_35 hg k2 q
def bX0_touches_2 (f97 : HH → Int → Int → Option Int) (h : HH) (c35 : Int → Int → Int → Option Int) (x1 : Int) (x2 : Int) (x3 : Int) : Option Int :=
  if x3 < (16 : Int) then
    gd ((0 : Int) ≤ x3 ∧ x3 < (16 : Int)) <|
    if (h.1 63 x3) = (x2 : Int) then
    bnd (f97 h x1 x3) fun r1 =>
    if r1 = (0 : Int) then
    c35 x1 x2 x3
  else
    gd ((0 : Int) ≤ 1 ∧ 1 ≤ (1 : Int)) <|
    some 1
  else
    c35 x1 x2 x3
  else
    gd ((0 : Int) ≤ 0 ∧ 0 ≤ (1 : Int)) <|
    some 0
theorem uX0_touches_2 {g : SG} (hg : GOK g) {σ0 : SG} {h : HH} {c35 : Int → Int → Int → Option Int} (k35 : ∀ (x1 : Int) (x2 : Int) (x3 : Int) (b : Int), c35 x1 x2 x3 = some b → WK 9 (.inl (some (aI b))) σ0 (abH 2 70 g h) 35 [(0, aR 60), (1, aI x1), (2, aI x2), (3, aI x3)] [] (abH 2 70 g h) 0 0) : ∀ {x1 : Int} {x2 : Int} {x3 : Int} {b : Int}, bX0_touches_2 nX9_hasStreet h c35 x1 x2 x3 = some b → WK 9 (.inl (some (aI b))) σ0 (abH 2 70 g h) 2 [(0, aR 60), (1, aI x1), (2, aI x2), (3, aI x3)] [] (abH 2 70 g h) 0 0 := by
  intro x1 x2 x3 b q
  have e : ∀ (f97 : HH → Int → Int → Option Int) , bX0_touches_2 f97 h c35 x1 x2 x3 = segP 2 70 g.2.2.2.2 h krPI (clCP 97 (pX9_hasStreet f97 h) clNP) csX0_touches (cuC 35 (fun l st s => tkC 0 60 l <| tkI 1 l fun x1 => tkI 2 l fun x2 => tkI 3 l fun x3 => skE st (c35 x1 x2 x3)) cuN) 1000 2 [(0, aR 60), (1, aI x1), (2, aI x2), (3, aI x3)] [] := fun _ => rfl
  rw [e nX9_hasStreet] at q
  clear e
  refine segP_wk (by decide) (by decide) hg rwX0_touches (CLKP_C (pX9_hasStreet_ok hg) CLKP_N) krPI_ok ?_ q
  clear q
  refine ct_C ?_ (ct_N)
  · intro l st _ q
    obtain ⟨m0, q1⟩ := tkC_of q
    obtain ⟨x1, m1, q2⟩ := tkI_of q1
    obtain ⟨x2, m2, q3⟩ := tkI_of q2
    obtain ⟨x3, m3, q4⟩ := tkI_of q3
    obtain ⟨rfl, q5⟩ := skE_of q4
    exact WK_less (k35 _ _ _ _ q5) (List.forall_mem_cons.mpr ⟨m0, (List.forall_mem_cons.mpr ⟨m1, (List.forall_mem_cons.mpr ⟨m2, (List.forall_mem_cons.mpr ⟨m3, (fun _ h => absurd h List.not_mem_nil)⟩)⟩)⟩)⟩)
def nX0_touches_2 (h : HH) : Nat → Int → Int → Int → Option Int := iter (fun _ _ _ => none) (fun self => bX0_touches_2 nX9_hasStreet h (nX0_touches_35 h self))
theorem nX0_touches_2_s {h : HH} {F : Nat} : nX0_touches_2 h (F + 1) = bX0_touches_2 nX9_hasStreet h (nX0_touches_35 h (nX0_touches_2 h F)) := rfl
theorem wX0_touches_2 {g : SG} (hg : GOK g) {σ0 : SG} {h : HH} : ∀ {F : Nat}, ∀ {x1 : Int} {x2 : Int} {x3 : Int} {b : Int}, nX0_touches_2 h F x1 x2 x3 = some b → WK 9 (.inl (some (aI b))) σ0 (abH 2 70 g h) 2 [(0, aR 60), (1, aI x1), (2, aI x2), (3, aI x3)] [] (abH 2 70 g h) 0 0 := by
  intro F
  have z : ∀ (x1 : Int) (x2 : Int) (x3 : Int) (b : Int), nX0_touches_2 h F x1 x2 x3 = some b → WK 9 (.inl (some (aI b))) σ0 (abH 2 70 g h) 2 [(0, aR 60), (1, aI x1), (2, aI x2), (3, aI x3)] [] (abH 2 70 g h) 0 0 := iter_ind (P := fun (c : Int → Int → Int → Option Int) => ∀ (x1 : Int) (x2 : Int) (x3 : Int) (b : Int), c x1 x2 x3 = some b → WK 9 (.inl (some (aI b))) σ0 (abH 2 70 g h) 2 [(0, aR 60), (1, aI x1), (2, aI x2), (3, aI x3)] [] (abH 2 70 g h) 0 0) (by
    intro x1 x2 x3 b q
    cases q) (fun self ih => by
    intro x1 x2 x3 b q
    exact uX0_touches_2 hg (fun _ _ _ _ q => wX0_touches_35 hg ih q) q) F
  intro x1 x2 x3 b q
  exact z _ _ _ _ q
def bX0_touches (h : HH) (c2 : Int → Int → Int → Option Int) (x1 : Int) (x2 : Int) : Option Int :=
  c2 x1 x2 1
theorem uX0_touches {g : SG} (hg : GOK g) {σ0 : SG} {h : HH} {c2 : Int → Int → Int → Option Int} (k2 : ∀ (x1 : Int) (x2 : Int) (x3 : Int) (b : Int), c2 x1 x2 x3 = some b → WK 9 (.inl (some (aI b))) σ0 (abH 2 70 g h) 2 [(0, aR 60), (1, aI x1), (2, aI x2), (3, aI x3)] [] (abH 2 70 g h) 0 0) : ∀ {x1 : Int} {x2 : Int} {b : Int}, bX0_touches h c2 x1 x2 = some b → WK 9 (.inl (some (aI b))) σ0 (abH 2 70 g h) 0 [(0, aR 60), (1, aI x1), (2, aI x2)] [] (abH 2 70 g h) 0 0 := by
  intro x1 x2 b q
  have e : bX0_touches h c2 x1 x2 = segP 2 70 g.2.2.2.2 h krPI clNP csX0_touches (cuC 2 (fun l st s => tkC 0 60 l <| tkI 1 l fun x1 => tkI 2 l fun x2 => tkI 3 l fun x3 => skE st (c2 x1 x2 x3)) cuN) 1000 0 [(0, aR 60), (1, aI x1), (2, aI x2)] [] := rfl
  rw [e] at q
  clear e
  refine segP_wk (by decide) (by decide) hg rwX0_touches CLKP_N krPI_ok ?_ q
  clear q
  refine ct_C ?_ (ct_N)
  · intro l st _ q
    obtain ⟨m0, q1⟩ := tkC_of q
    obtain ⟨x1, m1, q2⟩ := tkI_of q1
    obtain ⟨x2, m2, q3⟩ := tkI_of q2
    obtain ⟨x3, m3, q4⟩ := tkI_of q3
    obtain ⟨rfl, q5⟩ := skE_of q4
    exact WK_less (k2 _ _ _ _ q5) (List.forall_mem_cons.mpr ⟨m0, (List.forall_mem_cons.mpr ⟨m1, (List.forall_mem_cons.mpr ⟨m2, (List.forall_mem_cons.mpr ⟨m3, (fun _ h => absurd h List.not_mem_nil)⟩)⟩)⟩)⟩)
def nX0_touches (h : HH) (x1 : Int) (x2 : Int) : Option Int := bX0_touches h (nX0_touches_2 h 100000) x1 x2
theorem wX0_touches {g : SG} (hg : GOK g) {σ0 : SG} {h : HH} : ∀ {x1 : Int} {x2 : Int} {b : Int}, nX0_touches h x1 x2 = some b → WK 9 (.inl (some (aI b))) σ0 (abH 2 70 g h) 0 [(0, aR 60), (1, aI x1), (2, aI x2)] [] (abH 2 70 g h) 0 0 := by
  intro x1 x2 b q
  exact uX0_touches hg (fun _ _ _ _ q => wX0_touches_2 hg q) q
theorem mX0_touches {g : SG} (hg : GOK g) {h : HH} {x1 : Int} {x2 : Int} {b : Int} (q : nX0_touches h x1 x2 = some b) : MCT 9 [] [aR 60, aI x1, aI x2] (abH 2 70 g h) (.inl (some (aI b))) (abH 2 70 g h) :=
  mct_of (by decide) (MFok 9 (by decide +kernel)) (fun _ => Nat.le_of_ble_eq_true rfl) (wX0_touches hg q)
def pX0_touches {β : Type} (z : HH → Int → Int → Option Int) : PP β := fun h as f => skC 60 as fun as => skI as fun x1 as => skI as fun x2 as => skE as (bnd (z h x1 x2) fun r => f (.inl (some (aI r))))
theorem pX0_touches_ok {β : Type} {g : SG} (hg : GOK g) : CP1 (β := β) 9 (pX0_touches nX0_touches) 2 70 g := fun h as f b q => by
  obtain ⟨as, rfl, q1⟩ := skC_of q
  obtain ⟨x1, as, rfl, q2⟩ := skI_of q1
  obtain ⟨x2, as, rfl, q3⟩ := skI_of q2
  obtain ⟨rfl, q0⟩ := skE_of q3
  obtain ⟨r, z1, z2⟩ := bnd_of q0
  exact ⟨_, z2, by decide, mX0_touches hg z1, rfl, rfl, fun z => absurd z (by decide)⟩
def csX0_spreadBehind : List (Nat × List (Nat × ARow)) := [(33, [(0, 1, .aload_n 0, 0, 0, 0), (1, 3, .getfield 21, 0, 5, 2), (4, 1, .iload_n 1, 0, 0, 0), (5, 1, .dup2, 0, 0, 0), (6, 1, .iaload, 0, 0, 0), (7, 1, .iload_n 3, 0, 0, 0), (8, 1, .isub, 0, 0, 0), (9, 1, .iastore, 0, 0, 0), (10, 1, .aload_n 0, 0, 0, 0), (11, 3, .getfield 21, 0, 5, 2), (14, 1, .iload_n 2, 0, 0, 0), (15, 1, .dup2, 0, 0, 0), (16, 1, .iaload, 0, 0, 0), (17, 1, .iload_n 3, 0, 0, 0), (18, 1, .iadd, 0, 0, 0), (19, 1, .iastore, 0, 0, 0), (20, 1, .aload_n 0, 0, 0, 0), (21, 3, .invokevirtual 70, 7, 1, 0), (24, 2, .istore 4, 0, 0, 0), (26, 1, .aload_n 0, 0, 0, 0), (27, 3, .getfield 21, 0, 5, 2), (30, 1, .iload_n 1, 0, 0, 0), (31, 1, .dup2, 0, 0, 0), (32, 1, .iaload, 0, 0, 0)]),
  (100000, [(33, 1, .iload_n 3, 0, 0, 0), (34, 1, .iadd, 0, 0, 0), (35, 1, .iastore, 0, 0, 0), (36, 1, .aload_n 0, 0, 0, 0), (37, 3, .getfield 21, 0, 5, 2), (40, 1, .iload_n 2, 0, 0, 0), (41, 1, .dup2, 0, 0, 0), (42, 1, .iaload, 0, 0, 0), (43, 1, .iload_n 3, 0, 0, 0), (44, 1, .isub, 0, 0, 0), (45, 1, .iastore, 0, 0, 0), (46, 2, .iload 4, 0, 0, 0), (48, 1, .ireturn, 0, 0, 0)])]
theorem rwX0_spreadBehind : rowsB (mB 8) (mO 8) (mX 8) (mIni 8) (mFr 8) (mLo 8) (mT 8) csX0_spreadBehind = true := by decide +kernel
def bX0_spreadBehind (f7 : HH → Option Int) (x1 : Int) (x2 : Int) (x3 : Int) (h : HH) : Option (Int × HH) :=
  gd ((0 : Int) ≤ x1 ∧ x1 < (3 : Int)) <|
    gd (R32 ((h.1 64 x1) - x3)) <|
    gd ((0 : Int) ≤ x1 ∧ x1 < (3 : Int)) <|
    bnd (some (hI h 64 x1 ((h.1 64 x1) - x3))) fun h1 =>
    gd ((0 : Int) ≤ x2 ∧ x2 < (3 : Int)) <|
    gd (R32 ((h1.1 64 x2) + x3)) <|
    gd ((0 : Int) ≤ x2 ∧ x2 < (3 : Int)) <|
    bnd (some (hI h1 64 x2 ((h1.1 64 x2) + x3))) fun h2 =>
    bnd (f7 h2) fun r3 =>
    gd ((0 : Int) ≤ x1 ∧ x1 < (3 : Int)) <|
    gd (R32 ((h2.1 64 x1) + x3)) <|
    gd ((0 : Int) ≤ x1 ∧ x1 < (3 : Int)) <|
    bnd (some (hI h2 64 x1 ((h2.1 64 x1) + x3))) fun h4 =>
    gd ((0 : Int) ≤ x2 ∧ x2 < (3 : Int)) <|
    gd (R32 ((h4.1 64 x2) - x3)) <|
    gd ((0 : Int) ≤ x2 ∧ x2 < (3 : Int)) <|
    bnd (some (hI h4 64 x2 ((h4.1 64 x2) - x3))) fun h5 =>
    some (r3, h5)
theorem uX0_spreadBehind {g : SG} (hg : GOK g) {σ0 : SG} : ∀ {x1 : Int} {x2 : Int} {x3 : Int} {h : HH} {b : (Int × HH)}, bX0_spreadBehind nX0_spread x1 x2 x3 h = some b → WK 8 (.inl (some (aI b.1))) σ0 (abH 2 70 g b.2) 0 [(0, aR 60), (1, aI x1), (2, aI x2), (3, aI x3)] [] (abH 2 70 g h) 0 0 := by
  intro x1 x2 x3 h b q
  have e : ∀ (f7 : HH → Option Int) , bX0_spreadBehind f7 x1 x2 x3 h = segW 2 70 g.2.2.2.2 krWI (clC 7 (liPW (pX0_spread f7)) clN) csX0_spreadBehind cuN 1000 0 [(0, aR 60), (1, aI x1), (2, aI x2), (3, aI x3)] [] h := fun _ => rfl
  rw [e nX0_spread] at q
  clear e
  refine segW_wk (by decide) (by decide) hg rwX0_spreadBehind (CLKW_C (liPW_ok (pX0_spread_ok hg)) CLKW_N) krWI_ok ?_ q
  clear q
  exact ct_N
def nX0_spreadBehind (x1 : Int) (x2 : Int) (x3 : Int) (h : HH) : Option (Int × HH) := bX0_spreadBehind nX0_spread x1 x2 x3 h
theorem wX0_spreadBehind {g : SG} (hg : GOK g) {σ0 : SG} : ∀ {x1 : Int} {x2 : Int} {x3 : Int} {h : HH} {b : (Int × HH)}, nX0_spreadBehind x1 x2 x3 h = some b → WK 8 (.inl (some (aI b.1))) σ0 (abH 2 70 g b.2) 0 [(0, aR 60), (1, aI x1), (2, aI x2), (3, aI x3)] [] (abH 2 70 g h) 0 0 := by
  intro x1 x2 x3 h b q
  exact uX0_spreadBehind hg q
theorem mX0_spreadBehind {g : SG} (hg : GOK g) {h : HH} {x1 : Int} {x2 : Int} {x3 : Int} {b : (Int × HH)} (q : nX0_spreadBehind x1 x2 x3 h = some b) : MCT 8 [] [aR 60, aI x1, aI x2, aI x3] (abH 2 70 g h) (.inl (some (aI b.1))) (abH 2 70 g b.2) :=
  mct_of (by decide) (MFok 8 (by decide +kernel)) (fun _ => Nat.le_of_ble_eq_true rfl) (wX0_spreadBehind hg q)
def pX0_spreadBehind {β : Type} (z : Int → Int → Int → HH → Option (Int × HH)) : PW β := fun as h f => skC 60 as fun as => skI as fun x1 as => skI as fun x2 as => skI as fun x3 as => skE as (bnd (z x1 x2 x3 h) fun r => f (.inl (some (aI r.1))) r.2)
theorem pX0_spreadBehind_ok {β : Type} {g : SG} (hg : GOK g) : CW1 (β := β) 8 (pX0_spreadBehind nX0_spreadBehind) 2 70 g := fun as h f b q => by
  obtain ⟨as, rfl, q1⟩ := skC_of q
  obtain ⟨x1, as, rfl, q2⟩ := skI_of q1
  obtain ⟨x2, as, rfl, q3⟩ := skI_of q2
  obtain ⟨x3, as, rfl, q4⟩ := skI_of q3
  obtain ⟨rfl, q0⟩ := skE_of q4
  obtain ⟨r, z1, z2⟩ := bnd_of q0
  exact ⟨_, _, z2, by decide, mX0_spreadBehind hg z1, rfl, rfl, fun z => absurd z (by decide)⟩
def csX0_balanceOnce : List (Nat × List (Nat × ARow)) := [(34, [(0, 1, .iconst 0, 0, 0, 0), (1, 1, .istore_n 1, 0, 0, 0), (2, 1, .iconst 0, 0, 0, 0), (3, 1, .istore_n 2, 0, 0, 0), (4, 1, .iconst 0, 0, 0, 0), (5, 1, .istore_n 3, 0, 0, 0), (6, 1, .iload_n 3, 0, 0, 0), (7, 1, .iconst 3, 0, 0, 0), (8, 3, .if_icmp .ge 62, 70, 0, 0), (11, 1, .aload_n 0, 0, 0, 0), (12, 3, .getfield 21, 0, 5, 2), (15, 1, .iload_n 3, 0, 0, 0), (16, 1, .aload_n 0, 0, 0, 0), (17, 1, .iload_n 3, 0, 0, 0), (18, 3, .invokevirtual 67, 5, 2, 0), (21, 1, .iastore, 0, 0, 0), (22, 1, .aload_n 0, 0, 0, 0), (23, 3, .getfield 21, 0, 5, 2), (26, 1, .iload_n 3, 0, 0, 0), (27, 1, .iaload, 0, 0, 0), (28, 1, .aload_n 0, 0, 0, 0), (29, 3, .getfield 21, 0, 5, 2), (32, 1, .iload_n 1, 0, 0, 0), (33, 1, .iaload, 0, 0, 0)]),
  (76, [(34, 3, .if_icmp .le 7, 41, 0, 0), (37, 1, .iload_n 3, 0, 0, 0), (38, 3, .goto 4, 42, 0, 0), (41, 1, .iload_n 1, 0, 0, 0), (42, 1, .istore_n 1, 0, 0, 0), (43, 1, .aload_n 0, 0, 0, 0), (44, 3, .getfield 21, 0, 5, 2), (47, 1, .iload_n 3, 0, 0, 0), (48, 1, .iaload, 0, 0, 0), (49, 1, .aload_n 0, 0, 0, 0), (50, 3, .getfield 21, 0, 5, 2), (53, 1, .iload_n 2, 0, 0, 0), (54, 1, .iaload, 0, 0, 0), (55, 3, .if_icmp .gt 7, 62, 0, 0), (58, 1, .iload_n 3, 0, 0, 0), (59, 3, .goto 4, 63, 0, 0), (62, 1, .iload_n 2, 0, 0, 0), (63, 1, .istore_n 2, 0, 0, 0), (64, 3, .iinc 3 1, 0, 0, 0), (67, 3, .goto (-61), 6, 0, 0), (70, 1, .iconst (-1), 0, 0, 0), (71, 1, .istore_n 3, 0, 0, 0), (72, 1, .aload_n 0, 0, 0, 0), (73, 3, .invokevirtual 70, 7, 1, 0)]),
  (123, [(76, 2, .istore 4, 0, 0, 0), (78, 1, .iconst 1, 0, 0, 0), (79, 2, .istore 5, 0, 0, 0), (81, 2, .iload 5, 0, 0, 0), (83, 2, .bipush 16, 0, 0, 0), (85, 3, .if_icmp .ge 80, 165, 0, 0), (88, 1, .aload_n 0, 0, 0, 0), (89, 3, .getfield 18, 0, 4, 2), (92, 2, .iload 5, 0, 0, 0), (94, 1, .iaload, 0, 0, 0), (95, 1, .iload_n 1, 0, 0, 0), (96, 3, .if_icmp .ne 12, 108, 0, 0), (99, 1, .aload_n 0, 0, 0, 0), (100, 2, .iload 5, 0, 0, 0), (102, 3, .invokevirtual 64, 4, 2, 0), (105, 3, .goto 4, 109, 0, 0), (108, 1, .iconst 0, 0, 0, 0), (109, 2, .istore 6, 0, 0, 0), (111, 2, .iload 6, 0, 0, 0), (113, 3, .ifCond .le 46, 159, 0, 0), (116, 1, .aload_n 0, 0, 0, 0), (117, 2, .iload 5, 0, 0, 0), (119, 1, .iload_n 2, 0, 0, 0), (120, 3, .invokevirtual 74, 9, 3, 0)]),
  (171, [(123, 3, .ifCond .eq 36, 159, 0, 0), (126, 1, .aload_n 0, 0, 0, 0), (127, 1, .iload_n 1, 0, 0, 0), (128, 1, .iload_n 2, 0, 0, 0), (129, 2, .iload 6, 0, 0, 0), (131, 3, .invokevirtual 78, 8, 4, 0), (134, 2, .istore 7, 0, 0, 0), (136, 2, .iload 7, 0, 0, 0), (138, 2, .iload 4, 0, 0, 0), (140, 3, .if_icmp .ge 8, 148, 0, 0), (143, 2, .iload 5, 0, 0, 0), (145, 3, .goto 4, 149, 0, 0), (148, 1, .iload_n 3, 0, 0, 0), (149, 1, .istore_n 3, 0, 0, 0), (150, 2, .iload 7, 0, 0, 0), (152, 2, .iload 4, 0, 0, 0), (154, 3, .invokestatic 82, 1001, 2, 0), (157, 2, .istore 4, 0, 0, 0), (159, 3, .iinc 5 1, 0, 0, 0), (162, 3, .goto (-81), 81, 0, 0), (165, 1, .iload_n 3, 0, 0, 0), (166, 1, .iconst (-1), 0, 0, 0), (167, 3, .if_icmp .eq 10, 177, 0, 0), (170, 1, .aload_n 0, 0, 0, 0)]),
  (100000, [(171, 3, .getfield 18, 0, 4, 2), (174, 1, .iload_n 3, 0, 0, 0), (175, 1, .iload_n 2, 0, 0, 0), (176, 1, .iastore, 0, 0, 0), (177, 1, .iload_n 3, 0, 0, 0), (178, 1, .iconst (-1), 0, 0, 0), (179, 3, .if_icmp .eq 7, 186, 0, 0), (182, 1, .iconst 1, 0, 0, 0), (183, 3, .goto 4, 187, 0, 0), (186, 1, .iconst 0, 0, 0, 0), (187, 1, .ireturn, 1, 0, 0)])]
theorem rwX0_balanceOnce : rowsB (mB 6) (mO 6) (mX 6) (mIni 6) (mFr 6) (mLo 6) (mT 6) csX0_balanceOnce = true := by decide +kernel
def bX0_balanceOnce_177 (x3 : Int) (h : HH) : Option (Int × HH) :=
  if x3 = ((-1) : Int) then
    gd ((0 : Int) ≤ 0 ∧ 0 ≤ (1 : Int)) <|
    some (0, h)
  else
    gd ((0 : Int) ≤ 1 ∧ 1 ≤ (1 : Int)) <|
    some (1, h)
theorem uX0_balanceOnce_177 {g : SG} (hg : GOK g) {σ0 : SG} : ∀ {x3 : Int} {h : HH} {b : (Int × HH)}, bX0_balanceOnce_177 x3 h = some b → WK 6 (.inl (some (aI b.1))) σ0 (abH 2 70 g b.2) 177 [(3, aI x3)] [] (abH 2 70 g h) 0 0 := by
  intro x3 h b q
  have e : bX0_balanceOnce_177 x3 h = segW 2 70 g.2.2.2.2 krWI clN csX0_balanceOnce cuN 1000 177 [(3, aI x3)] [] h := rfl
  rw [e] at q
  clear e
  refine segW_wk (by decide) (by decide) hg rwX0_balanceOnce CLKW_N krWI_ok ?_ q
  clear q
  exact ct_N
def nX0_balanceOnce_177 (x3 : Int) (h : HH) : Option (Int × HH) := bX0_balanceOnce_177 x3 h
theorem wX0_balanceOnce_177 {g : SG} (hg : GOK g) {σ0 : SG} : ∀ {x3 : Int} {h : HH} {b : (Int × HH)}, nX0_balanceOnce_177 x3 h = some b → WK 6 (.inl (some (aI b.1))) σ0 (abH 2 70 g b.2) 177 [(3, aI x3)] [] (abH 2 70 g h) 0 0 := by
  intro x3 h b q
  exact uX0_balanceOnce_177 hg q
def bX0_balanceOnce_159 (c81 : Int → Int → Int → Int → Int → HH → Option (Int × HH)) (x1 : Int) (x2 : Int) (x3 : Int) (x4 : Int) (x5 : Int) (h : HH) : Option (Int × HH) :=
  gd (R32 (x5 + 1)) <|
    c81 x1 x2 x3 x4 (x5 + 1) h
theorem uX0_balanceOnce_159 {g : SG} (hg : GOK g) {σ0 : SG} {c81 : Int → Int → Int → Int → Int → HH → Option (Int × HH)} (k81 : ∀ (x1 : Int) (x2 : Int) (x3 : Int) (x4 : Int) (x5 : Int) (h : HH) (b : (Int × HH)), c81 x1 x2 x3 x4 x5 h = some b → WK 6 (.inl (some (aI b.1))) σ0 (abH 2 70 g b.2) 81 [(0, aR 60), (1, aI x1), (2, aI x2), (3, aI x3), (4, aI x4), (5, aI x5)] [] (abH 2 70 g h) 0 0) : ∀ {x1 : Int} {x2 : Int} {x3 : Int} {x4 : Int} {x5 : Int} {h : HH} {b : (Int × HH)}, bX0_balanceOnce_159 c81 x1 x2 x3 x4 x5 h = some b → WK 6 (.inl (some (aI b.1))) σ0 (abH 2 70 g b.2) 159 [(0, aR 60), (1, aI x1), (2, aI x2), (3, aI x3), (4, aI x4), (5, aI x5)] [] (abH 2 70 g h) 0 0 := by
  intro x1 x2 x3 x4 x5 h b q
  have e : bX0_balanceOnce_159 c81 x1 x2 x3 x4 x5 h = segW 2 70 g.2.2.2.2 krWI clN csX0_balanceOnce (cuC 81 (fun l st s => tkC 0 60 l <| tkI 1 l fun x1 => tkI 2 l fun x2 => tkI 3 l fun x3 => tkI 4 l fun x4 => tkI 5 l fun x5 => skE st (c81 x1 x2 x3 x4 x5 s)) cuN) 1000 159 [(0, aR 60), (1, aI x1), (2, aI x2), (3, aI x3), (4, aI x4), (5, aI x5)] [] h := rfl
  rw [e] at q
  clear e
  refine segW_wk (by decide) (by decide) hg rwX0_balanceOnce CLKW_N krWI_ok ?_ q
  clear q
  refine ct_C ?_ (ct_N)
  · intro l st h q
    obtain ⟨m0, q1⟩ := tkC_of q
    obtain ⟨x1, m1, q2⟩ := tkI_of q1
    obtain ⟨x2, m2, q3⟩ := tkI_of q2
    obtain ⟨x3, m3, q4⟩ := tkI_of q3
    obtain ⟨x4, m4, q5⟩ := tkI_of q4
    obtain ⟨x5, m5, q6⟩ := tkI_of q5
    obtain ⟨rfl, q7⟩ := skE_of q6
    exact WK_less (k81 _ _ _ _ _ _ _ q7) (List.forall_mem_cons.mpr ⟨m0, (List.forall_mem_cons.mpr ⟨m1, (List.forall_mem_cons.mpr ⟨m2, (List.forall_mem_cons.mpr ⟨m3, (List.forall_mem_cons.mpr ⟨m4, (List.forall_mem_cons.mpr ⟨m5, (fun _ h => absurd h List.not_mem_nil)⟩)⟩)⟩)⟩)⟩)⟩)
def nX0_balanceOnce_159 (c81 : Int → Int → Int → Int → Int → HH → Option (Int × HH)) (x1 : Int) (x2 : Int) (x3 : Int) (x4 : Int) (x5 : Int) (h : HH) : Option (Int × HH) := bX0_balanceOnce_159 c81 x1 x2 x3 x4 x5 h
theorem wX0_balanceOnce_159 {g : SG} (hg : GOK g) {σ0 : SG} {c81 : Int → Int → Int → Int → Int → HH → Option (Int × HH)} (k81 : ∀ (x1 : Int) (x2 : Int) (x3 : Int) (x4 : Int) (x5 : Int) (h : HH) (b : (Int × HH)), c81 x1 x2 x3 x4 x5 h = some b → WK 6 (.inl (some (aI b.1))) σ0 (abH 2 70 g b.2) 81 [(0, aR 60), (1, aI x1), (2, aI x2), (3, aI x3), (4, aI x4), (5, aI x5)] [] (abH 2 70 g h) 0 0) : ∀ {x1 : Int} {x2 : Int} {x3 : Int} {x4 : Int} {x5 : Int} {h : HH} {b : (Int × HH)}, nX0_balanceOnce_159 c81 x1 x2 x3 x4 x5 h = some b → WK 6 (.inl (some (aI b.1))) σ0 (abH 2 70 g b.2) 159 [(0, aR 60), (1, aI x1), (2, aI x2), (3, aI x3), (4, aI x4), (5, aI x5)] [] (abH 2 70 g h) 0 0 := by
  intro x1 x2 x3 x4 x5 h b q
  exact uX0_balanceOnce_159 hg k81 q
def bX0_balanceOnce_149 (c159 : Int → Int → Int → Int → Int → HH → Option (Int × HH)) (x1 : Int) (x2 : Int) (x4 : Int) (x5 : Int) (x7 : Int) (y0 : Int) (h : HH) : Option (Int × HH) :=
  c159 x1 x2 y0 (min x7 x4) x5 h
theorem uX0_balanceOnce_149 {g : SG} (hg : GOK g) {σ0 : SG} {c159 : Int → Int → Int → Int → Int → HH → Option (Int × HH)} (k159 : ∀ (x1 : Int) (x2 : Int) (x3 : Int) (x4 : Int) (x5 : Int) (h : HH) (b : (Int × HH)), c159 x1 x2 x3 x4 x5 h = some b → WK 6 (.inl (some (aI b.1))) σ0 (abH 2 70 g b.2) 159 [(0, aR 60), (1, aI x1), (2, aI x2), (3, aI x3), (4, aI x4), (5, aI x5)] [] (abH 2 70 g h) 0 0) : ∀ {x1 : Int} {x2 : Int} {x4 : Int} {x5 : Int} {x7 : Int} {y0 : Int} {h : HH} {b : (Int × HH)}, bX0_balanceOnce_149 c159 x1 x2 x4 x5 x7 y0 h = some b → WK 6 (.inl (some (aI b.1))) σ0 (abH 2 70 g b.2) 149 [(0, aR 60), (1, aI x1), (2, aI x2), (4, aI x4), (5, aI x5), (7, aI x7)] [aI y0] (abH 2 70 g h) 0 0 := by
  intro x1 x2 x4 x5 x7 y0 h b q
  have e : bX0_balanceOnce_149 c159 x1 x2 x4 x5 x7 y0 h = segW 2 70 g.2.2.2.2 krWI clN csX0_balanceOnce (cuC 159 (fun l st s => tkC 0 60 l <| tkI 1 l fun x1 => tkI 2 l fun x2 => tkI 3 l fun x3 => tkI 4 l fun x4 => tkI 5 l fun x5 => skE st (c159 x1 x2 x3 x4 x5 s)) cuN) 1000 149 [(0, aR 60), (1, aI x1), (2, aI x2), (4, aI x4), (5, aI x5), (7, aI x7)] [aI y0] h := rfl
  rw [e] at q
  clear e
  refine segW_wk (by decide) (by decide) hg rwX0_balanceOnce CLKW_N krWI_ok ?_ q
  clear q
  refine ct_C ?_ (ct_N)
  · intro l st h q
    obtain ⟨m0, q1⟩ := tkC_of q
    obtain ⟨x1, m1, q2⟩ := tkI_of q1
    obtain ⟨x2, m2, q3⟩ := tkI_of q2
    obtain ⟨x3, m3, q4⟩ := tkI_of q3
    obtain ⟨x4, m4, q5⟩ := tkI_of q4
    obtain ⟨x5, m5, q6⟩ := tkI_of q5
    obtain ⟨rfl, q7⟩ := skE_of q6
    exact WK_less (k159 _ _ _ _ _ _ _ q7) (List.forall_mem_cons.mpr ⟨m0, (List.forall_mem_cons.mpr ⟨m1, (List.forall_mem_cons.mpr ⟨m2, (List.forall_mem_cons.mpr ⟨m3, (List.forall_mem_cons.mpr ⟨m4, (List.forall_mem_cons.mpr ⟨m5, (fun _ h => absurd h List.not_mem_nil)⟩)⟩)⟩)⟩)⟩)⟩)
def nX0_balanceOnce_149 (c81 : Int → Int → Int → Int → Int → HH → Option (Int × HH)) (x1 : Int) (x2 : Int) (x4 : Int) (x5 : Int) (x7 : Int) (y0 : Int) (h : HH) : Option (Int × HH) := bX0_balanceOnce_149 (nX0_balanceOnce_159 c81) x1 x2 x4 x5 x7 y0 h
theorem wX0_balanceOnce_149 {g : SG} (hg : GOK g) {σ0 : SG} {c81 : Int → Int → Int → Int → Int → HH → Option (Int × HH)} (k81 : ∀ (x1 : Int) (x2 : Int) (x3 : Int) (x4 : Int) (x5 : Int) (h : HH) (b : (Int × HH)), c81 x1 x2 x3 x4 x5 h = some b → WK 6 (.inl (some (aI b.1))) σ0 (abH 2 70 g b.2) 81 [(0, aR 60), (1, aI x1), (2, aI x2), (3, aI x3), (4, aI x4), (5, aI x5)] [] (abH 2 70 g h) 0 0) : ∀ {x1 : Int} {x2 : Int} {x4 : Int} {x5 : Int} {x7 : Int} {y0 : Int} {h : HH} {b : (Int × HH)}, nX0_balanceOnce_149 c81 x1 x2 x4 x5 x7 y0 h = some b → WK 6 (.inl (some (aI b.1))) σ0 (abH 2 70 g b.2) 149 [(0, aR 60), (1, aI x1), (2, aI x2), (4, aI x4), (5, aI x5), (7, aI x7)] [aI y0] (abH 2 70 g h) 0 0 := by
  intro x1 x2 x4 x5 x7 y0 h b q
  exact uX0_balanceOnce_149 hg (fun _ _ _ _ _ _ _ q => wX0_balanceOnce_159 hg k81 q) q
def bX0_balanceOnce_109 (f9 : HH → Int → Int → Option Int) (f8 : Int → Int → Int → HH → Option (Int × HH)) (c149 : Int → Int → Int → Int → Int → Int → HH → Option (Int × HH)) (c159 : Int → Int → Int → Int → Int → HH → Option (Int × HH)) (x1 : Int) (x2 : Int) (x3 : Int) (x4 : Int) (x5 : Int) (y0 : Int) (h : HH) : Option (Int × HH) :=
  if (0 : Int) < y0 then
    bnd (f9 h x5 x2) fun r1 =>
    if r1 = (0 : Int) then
    c159 x1 x2 x3 x4 x5 h
  else
    bnd (f8 x1 x2 y0 h) fun r2 =>
    if r2.1 < (x4 : Int) then
    c149 x1 x2 x4 x5 r2.1 x5 r2.2
  else
    c149 x1 x2 x4 x5 r2.1 x3 r2.2
  else
    c159 x1 x2 x3 x4 x5 h
theorem uX0_balanceOnce_109 {g : SG} (hg : GOK g) {σ0 : SG} {c149 : Int → Int → Int → Int → Int → Int → HH → Option (Int × HH)} {c159 : Int → Int → Int → Int → Int → HH → Option (Int × HH)} (k149 : ∀ (x1 : Int) (x2 : Int) (x4 : Int) (x5 : Int) (x7 : Int) (y0 : Int) (h : HH) (b : (Int × HH)), c149 x1 x2 x4 x5 x7 y0 h = some b → WK 6 (.inl (some (aI b.1))) σ0 (abH 2 70 g b.2) 149 [(0, aR 60), (1, aI x1), (2, aI x2), (4, aI x4), (5, aI x5), (7, aI x7)] [aI y0] (abH 2 70 g h) 0 0) (k159 : ∀ (x1 : Int) (x2 : Int) (x3 : Int) (x4 : Int) (x5 : Int) (h : HH) (b : (Int × HH)), c159 x1 x2 x3 x4 x5 h = some b → WK 6 (.inl (some (aI b.1))) σ0 (abH 2 70 g b.2) 159 [(0, aR 60), (1, aI x1), (2, aI x2), (3, aI x3), (4, aI x4), (5, aI x5)] [] (abH 2 70 g h) 0 0) : ∀ {x1 : Int} {x2 : Int} {x3 : Int} {x4 : Int} {x5 : Int} {y0 : Int} {h : HH} {b : (Int × HH)}, bX0_balanceOnce_109 nX0_touches nX0_spreadBehind c149 c159 x1 x2 x3 x4 x5 y0 h = some b → WK 6 (.inl (some (aI b.1))) σ0 (abH 2 70 g b.2) 109 [(0, aR 60), (1, aI x1), (2, aI x2), (3, aI x3), (4, aI x4), (5, aI x5)] [aI y0] (abH 2 70 g h) 0 0 := by
  intro x1 x2 x3 x4 x5 y0 h b q
  have e : ∀ (f9 : HH → Int → Int → Option Int) (f8 : Int → Int → Int → HH → Option (Int × HH)) , bX0_balanceOnce_109 f9 f8 c149 c159 x1 x2 x3 x4 x5 y0 h = segW 2 70 g.2.2.2.2 krWI (clC 9 (liPW (pX0_touches f9)) (clC 8 (pX0_spreadBehind f8) clN)) csX0_balanceOnce (cuC 149 (fun l st s => tkC 0 60 l <| tkI 1 l fun x1 => tkI 2 l fun x2 => tkI 4 l fun x4 => tkI 5 l fun x5 => tkI 7 l fun x7 => skI st fun y0 st => skE st (c149 x1 x2 x4 x5 x7 y0 s)) (cuC 159 (fun l st s => tkC 0 60 l <| tkI 1 l fun x1 => tkI 2 l fun x2 => tkI 3 l fun x3 => tkI 4 l fun x4 => tkI 5 l fun x5 => skE st (c159 x1 x2 x3 x4 x5 s)) cuN)) 1000 109 [(0, aR 60), (1, aI x1), (2, aI x2), (3, aI x3), (4, aI x4), (5, aI x5)] [aI y0] h := fun _ _ => rfl
  rw [e nX0_touches nX0_spreadBehind] at q
  clear e
  refine segW_wk (by decide) (by decide) hg rwX0_balanceOnce (CLKW_C (liPW_ok (pX0_touches_ok hg)) (CLKW_C (pX0_spreadBehind_ok hg) CLKW_N)) krWI_ok ?_ q
  clear q
  refine ct_C ?_ (ct_C ?_ (ct_N))
  · intro l st h q
    obtain ⟨m0, q1⟩ := tkC_of q
    obtain ⟨x1, m1, q2⟩ := tkI_of q1
    obtain ⟨x2, m2, q3⟩ := tkI_of q2
    obtain ⟨x4, m4, q4⟩ := tkI_of q3
    obtain ⟨x5, m5, q5⟩ := tkI_of q4
    obtain ⟨x7, m7, q6⟩ := tkI_of q5
    obtain ⟨y0, t0, rfl, q7⟩ := skI_of q6
    obtain ⟨rfl, q8⟩ := skE_of q7
    exact WK_less (k149 _ _ _ _ _ _ _ _ q8) (List.forall_mem_cons.mpr ⟨m0, (List.forall_mem_cons.mpr ⟨m1, (List.forall_mem_cons.mpr ⟨m2, (List.forall_mem_cons.mpr ⟨m4, (List.forall_mem_cons.mpr ⟨m5, (List.forall_mem_cons.mpr ⟨m7, (fun _ h => absurd h List.not_mem_nil)⟩)⟩)⟩)⟩)⟩)⟩)
  · intro l st h q
    obtain ⟨m0, q1⟩ := tkC_of q
    obtain ⟨x1, m1, q2⟩ := tkI_of q1
    obtain ⟨x2, m2, q3⟩ := tkI_of q2
    obtain ⟨x3, m3, q4⟩ := tkI_of q3
    obtain ⟨x4, m4, q5⟩ := tkI_of q4
    obtain ⟨x5, m5, q6⟩ := tkI_of q5
    obtain ⟨rfl, q7⟩ := skE_of q6
    exact WK_less (k159 _ _ _ _ _ _ _ q7) (List.forall_mem_cons.mpr ⟨m0, (List.forall_mem_cons.mpr ⟨m1, (List.forall_mem_cons.mpr ⟨m2, (List.forall_mem_cons.mpr ⟨m3, (List.forall_mem_cons.mpr ⟨m4, (List.forall_mem_cons.mpr ⟨m5, (fun _ h => absurd h List.not_mem_nil)⟩)⟩)⟩)⟩)⟩)⟩)
def nX0_balanceOnce_109 (c81 : Int → Int → Int → Int → Int → HH → Option (Int × HH)) (x1 : Int) (x2 : Int) (x3 : Int) (x4 : Int) (x5 : Int) (y0 : Int) (h : HH) : Option (Int × HH) := bX0_balanceOnce_109 nX0_touches nX0_spreadBehind (nX0_balanceOnce_149 c81) (nX0_balanceOnce_159 c81) x1 x2 x3 x4 x5 y0 h
theorem wX0_balanceOnce_109 {g : SG} (hg : GOK g) {σ0 : SG} {c81 : Int → Int → Int → Int → Int → HH → Option (Int × HH)} (k81 : ∀ (x1 : Int) (x2 : Int) (x3 : Int) (x4 : Int) (x5 : Int) (h : HH) (b : (Int × HH)), c81 x1 x2 x3 x4 x5 h = some b → WK 6 (.inl (some (aI b.1))) σ0 (abH 2 70 g b.2) 81 [(0, aR 60), (1, aI x1), (2, aI x2), (3, aI x3), (4, aI x4), (5, aI x5)] [] (abH 2 70 g h) 0 0) : ∀ {x1 : Int} {x2 : Int} {x3 : Int} {x4 : Int} {x5 : Int} {y0 : Int} {h : HH} {b : (Int × HH)}, nX0_balanceOnce_109 c81 x1 x2 x3 x4 x5 y0 h = some b → WK 6 (.inl (some (aI b.1))) σ0 (abH 2 70 g b.2) 109 [(0, aR 60), (1, aI x1), (2, aI x2), (3, aI x3), (4, aI x4), (5, aI x5)] [aI y0] (abH 2 70 g h) 0 0 := by
  intro x1 x2 x3 x4 x5 y0 h b q
  exact uX0_balanceOnce_109 hg (fun _ _ _ _ _ _ _ _ q => wX0_balanceOnce_149 hg k81 q) (fun _ _ _ _ _ _ _ q => wX0_balanceOnce_159 hg k81 q) q
def bX0_balanceOnce_81 (f4 : HH → Int → Option Int) (c109 : Int → Int → Int → Int → Int → Int → HH → Option (Int × HH)) (c177 : Int → HH → Option (Int × HH)) (x1 : Int) (x2 : Int) (x3 : Int) (x4 : Int) (x5 : Int) (h : HH) : Option (Int × HH) :=
  if x5 < (16 : Int) then
    gd ((0 : Int) ≤ x5 ∧ x5 < (16 : Int)) <|
    if (h.1 63 x5) = (x1 : Int) then
    bnd (f4 h x5) fun r2 =>
    c109 x1 x2 x3 x4 x5 r2 h
  else
    c109 x1 x2 x3 x4 x5 0 h
  else
    if x3 = ((-1) : Int) then
    c177 x3 h
  else
    gd ((0 : Int) ≤ x3 ∧ x3 < (16 : Int)) <|
    bnd (some (hI h 63 x3 x2)) fun h1 =>
    c177 x3 h1
theorem uX0_balanceOnce_81 {g : SG} (hg : GOK g) {σ0 : SG} {c109 : Int → Int → Int → Int → Int → Int → HH → Option (Int × HH)} {c177 : Int → HH → Option (Int × HH)} (k109 : ∀ (x1 : Int) (x2 : Int) (x3 : Int) (x4 : Int) (x5 : Int) (y0 : Int) (h : HH) (b : (Int × HH)), c109 x1 x2 x3 x4 x5 y0 h = some b → WK 6 (.inl (some (aI b.1))) σ0 (abH 2 70 g b.2) 109 [(0, aR 60), (1, aI x1), (2, aI x2), (3, aI x3), (4, aI x4), (5, aI x5)] [aI y0] (abH 2 70 g h) 0 0) (k177 : ∀ (x3 : Int) (h : HH) (b : (Int × HH)), c177 x3 h = some b → WK 6 (.inl (some (aI b.1))) σ0 (abH 2 70 g b.2) 177 [(3, aI x3)] [] (abH 2 70 g h) 0 0) : ∀ {x1 : Int} {x2 : Int} {x3 : Int} {x4 : Int} {x5 : Int} {h : HH} {b : (Int × HH)}, bX0_balanceOnce_81 nX0_loadAt c109 c177 x1 x2 x3 x4 x5 h = some b → WK 6 (.inl (some (aI b.1))) σ0 (abH 2 70 g b.2) 81 [(0, aR 60), (1, aI x1), (2, aI x2), (3, aI x3), (4, aI x4), (5, aI x5)] [] (abH 2 70 g h) 0 0 := by
  intro x1 x2 x3 x4 x5 h b q
  have e : ∀ (f4 : HH → Int → Option Int) , bX0_balanceOnce_81 f4 c109 c177 x1 x2 x3 x4 x5 h = segW 2 70 g.2.2.2.2 krWI (clC 4 (liPW (pX0_loadAt f4)) clN) csX0_balanceOnce (cuC 109 (fun l st s => tkC 0 60 l <| tkI 1 l fun x1 => tkI 2 l fun x2 => tkI 3 l fun x3 => tkI 4 l fun x4 => tkI 5 l fun x5 => skI st fun y0 st => skE st (c109 x1 x2 x3 x4 x5 y0 s)) (cuC 177 (fun l st s => tkI 3 l fun x3 => skE st (c177 x3 s)) cuN)) 1000 81 [(0, aR 60), (1, aI x1), (2, aI x2), (3, aI x3), (4, aI x4), (5, aI x5)] [] h := fun _ => rfl
  rw [e nX0_loadAt] at q
  clear e
  refine segW_wk (by decide) (by decide) hg rwX0_balanceOnce (CLKW_C (liPW_ok (pX0_loadAt_ok hg)) CLKW_N) krWI_ok ?_ q
  clear q
  refine ct_C ?_ (ct_C ?_ (ct_N))
  · intro l st h q
    obtain ⟨m0, q1⟩ := tkC_of q
    obtain ⟨x1, m1, q2⟩ := tkI_of q1
    obtain ⟨x2, m2, q3⟩ := tkI_of q2
    obtain ⟨x3, m3, q4⟩ := tkI_of q3
    obtain ⟨x4, m4, q5⟩ := tkI_of q4
    obtain ⟨x5, m5, q6⟩ := tkI_of q5
    obtain ⟨y0, t0, rfl, q7⟩ := skI_of q6
    obtain ⟨rfl, q8⟩ := skE_of q7
    exact WK_less (k109 _ _ _ _ _ _ _ _ q8) (List.forall_mem_cons.mpr ⟨m0, (List.forall_mem_cons.mpr ⟨m1, (List.forall_mem_cons.mpr ⟨m2, (List.forall_mem_cons.mpr ⟨m3, (List.forall_mem_cons.mpr ⟨m4, (List.forall_mem_cons.mpr ⟨m5, (fun _ h => absurd h List.not_mem_nil)⟩)⟩)⟩)⟩)⟩)⟩)
  · intro l st h q
    obtain ⟨x3, m3, q1⟩ := tkI_of q
    obtain ⟨rfl, q2⟩ := skE_of q1
    exact WK_less (k177 _ _ _ q2) (List.forall_mem_cons.mpr ⟨m3, (fun _ h => absurd h List.not_mem_nil)⟩)
def nX0_balanceOnce_81 : Nat → Int → Int → Int → Int → Int → HH → Option (Int × HH) := iter (fun _ _ _ _ _ _ => none) (fun self => bX0_balanceOnce_81 nX0_loadAt (nX0_balanceOnce_109 self) nX0_balanceOnce_177)
theorem nX0_balanceOnce_81_s {F : Nat} : nX0_balanceOnce_81 (F + 1) = bX0_balanceOnce_81 nX0_loadAt (nX0_balanceOnce_109 (nX0_balanceOnce_81 F)) nX0_balanceOnce_177 := rfl
theorem wX0_balanceOnce_81 {g : SG} (hg : GOK g) {σ0 : SG} : ∀ {F : Nat}, ∀ {x1 : Int} {x2 : Int} {x3 : Int} {x4 : Int} {x5 : Int} {h : HH} {b : (Int × HH)}, nX0_balanceOnce_81 F x1 x2 x3 x4 x5 h = some b → WK 6 (.inl (some (aI b.1))) σ0 (abH 2 70 g b.2) 81 [(0, aR 60), (1, aI x1), (2, aI x2), (3, aI x3), (4, aI x4), (5, aI x5)] [] (abH 2 70 g h) 0 0 := by
  intro F
  have z : ∀ (x1 : Int) (x2 : Int) (x3 : Int) (x4 : Int) (x5 : Int) (h : HH) (b : (Int × HH)), nX0_balanceOnce_81 F x1 x2 x3 x4 x5 h = some b → WK 6 (.inl (some (aI b.1))) σ0 (abH 2 70 g b.2) 81 [(0, aR 60), (1, aI x1), (2, aI x2), (3, aI x3), (4, aI x4), (5, aI x5)] [] (abH 2 70 g h) 0 0 := iter_ind (P := fun (c : Int → Int → Int → Int → Int → HH → Option (Int × HH)) => ∀ (x1 : Int) (x2 : Int) (x3 : Int) (x4 : Int) (x5 : Int) (h : HH) (b : (Int × HH)), c x1 x2 x3 x4 x5 h = some b → WK 6 (.inl (some (aI b.1))) σ0 (abH 2 70 g b.2) 81 [(0, aR 60), (1, aI x1), (2, aI x2), (3, aI x3), (4, aI x4), (5, aI x5)] [] (abH 2 70 g h) 0 0) (by
    intro x1 x2 x3 x4 x5 h b q
    cases q) (fun self ih => by
    intro x1 x2 x3 x4 x5 h b q
    exact uX0_balanceOnce_81 hg (fun _ _ _ _ _ _ _ _ q => wX0_balanceOnce_109 hg ih q) (fun _ _ _ q => wX0_balanceOnce_177 hg q) q) F
  intro x1 x2 x3 x4 x5 h b q
  exact z _ _ _ _ _ _ _ q
def bX0_balanceOnce_63 (c6 : Int → Int → Int → HH → Option (Int × HH)) (x1 : Int) (x3 : Int) (y0 : Int) (h : HH) : Option (Int × HH) :=
  gd (R32 (x3 + 1)) <|
    c6 x1 y0 (x3 + 1) h
theorem uX0_balanceOnce_63 {g : SG} (hg : GOK g) {σ0 : SG} {c6 : Int → Int → Int → HH → Option (Int × HH)} (k6 : ∀ (x1 : Int) (x2 : Int) (x3 : Int) (h : HH) (b : (Int × HH)), c6 x1 x2 x3 h = some b → WK 6 (.inl (some (aI b.1))) σ0 (abH 2 70 g b.2) 6 [(0, aR 60), (1, aI x1), (2, aI x2), (3, aI x3)] [] (abH 2 70 g h) 0 0) : ∀ {x1 : Int} {x3 : Int} {y0 : Int} {h : HH} {b : (Int × HH)}, bX0_balanceOnce_63 c6 x1 x3 y0 h = some b → WK 6 (.inl (some (aI b.1))) σ0 (abH 2 70 g b.2) 63 [(0, aR 60), (1, aI x1), (3, aI x3)] [aI y0] (abH 2 70 g h) 0 0 := by
  intro x1 x3 y0 h b q
  have e : bX0_balanceOnce_63 c6 x1 x3 y0 h = segW 2 70 g.2.2.2.2 krWI clN csX0_balanceOnce (cuC 6 (fun l st s => tkC 0 60 l <| tkI 1 l fun x1 => tkI 2 l fun x2 => tkI 3 l fun x3 => skE st (c6 x1 x2 x3 s)) cuN) 1000 63 [(0, aR 60), (1, aI x1), (3, aI x3)] [aI y0] h := rfl
  rw [e] at q
  clear e
  refine segW_wk (by decide) (by decide) hg rwX0_balanceOnce CLKW_N krWI_ok ?_ q
  clear q
  refine ct_C ?_ (ct_N)
  · intro l st h q
    obtain ⟨m0, q1⟩ := tkC_of q
    obtain ⟨x1, m1, q2⟩ := tkI_of q1
    obtain ⟨x2, m2, q3⟩ := tkI_of q2
    obtain ⟨x3, m3, q4⟩ := tkI_of q3
    obtain ⟨rfl, q5⟩ := skE_of q4
    exact WK_less (k6 _ _ _ _ _ q5) (List.forall_mem_cons.mpr ⟨m0, (List.forall_mem_cons.mpr ⟨m1, (List.forall_mem_cons.mpr ⟨m2, (List.forall_mem_cons.mpr ⟨m3, (fun _ h => absurd h List.not_mem_nil)⟩)⟩)⟩)⟩)
def nX0_balanceOnce_63 (c6 : Int → Int → Int → HH → Option (Int × HH)) (x1 : Int) (x3 : Int) (y0 : Int) (h : HH) : Option (Int × HH) := bX0_balanceOnce_63 c6 x1 x3 y0 h
theorem wX0_balanceOnce_63 {g : SG} (hg : GOK g) {σ0 : SG} {c6 : Int → Int → Int → HH → Option (Int × HH)} (k6 : ∀ (x1 : Int) (x2 : Int) (x3 : Int) (h : HH) (b : (Int × HH)), c6 x1 x2 x3 h = some b → WK 6 (.inl (some (aI b.1))) σ0 (abH 2 70 g b.2) 6 [(0, aR 60), (1, aI x1), (2, aI x2), (3, aI x3)] [] (abH 2 70 g h) 0 0) : ∀ {x1 : Int} {x3 : Int} {y0 : Int} {h : HH} {b : (Int × HH)}, nX0_balanceOnce_63 c6 x1 x3 y0 h = some b → WK 6 (.inl (some (aI b.1))) σ0 (abH 2 70 g b.2) 63 [(0, aR 60), (1, aI x1), (3, aI x3)] [aI y0] (abH 2 70 g h) 0 0 := by
  intro x1 x3 y0 h b q
  exact uX0_balanceOnce_63 hg k6 q
def bX0_balanceOnce_42 (c63 : Int → Int → Int → HH → Option (Int × HH)) (x2 : Int) (x3 : Int) (y0 : Int) (h : HH) : Option (Int × HH) :=
  gd ((0 : Int) ≤ x3 ∧ x3 < (3 : Int)) <|
    gd ((0 : Int) ≤ x2 ∧ x2 < (3 : Int)) <|
    if ((h.1 64 x2) : Int) < (h.1 64 x3) then
    c63 y0 x3 x2 h
  else
    c63 y0 x3 x3 h
theorem uX0_balanceOnce_42 {g : SG} (hg : GOK g) {σ0 : SG} {c63 : Int → Int → Int → HH → Option (Int × HH)} (k63 : ∀ (x1 : Int) (x3 : Int) (y0 : Int) (h : HH) (b : (Int × HH)), c63 x1 x3 y0 h = some b → WK 6 (.inl (some (aI b.1))) σ0 (abH 2 70 g b.2) 63 [(0, aR 60), (1, aI x1), (3, aI x3)] [aI y0] (abH 2 70 g h) 0 0) : ∀ {x2 : Int} {x3 : Int} {y0 : Int} {h : HH} {b : (Int × HH)}, bX0_balanceOnce_42 c63 x2 x3 y0 h = some b → WK 6 (.inl (some (aI b.1))) σ0 (abH 2 70 g b.2) 42 [(0, aR 60), (2, aI x2), (3, aI x3)] [aI y0] (abH 2 70 g h) 0 0 := by
  intro x2 x3 y0 h b q
  have e : bX0_balanceOnce_42 c63 x2 x3 y0 h = segW 2 70 g.2.2.2.2 krWI clN csX0_balanceOnce (cuC 63 (fun l st s => tkC 0 60 l <| tkI 1 l fun x1 => tkI 3 l fun x3 => skI st fun y0 st => skE st (c63 x1 x3 y0 s)) cuN) 1000 42 [(0, aR 60), (2, aI x2), (3, aI x3)] [aI y0] h := rfl
  rw [e] at q
  clear e
  refine segW_wk (by decide) (by decide) hg rwX0_balanceOnce CLKW_N krWI_ok ?_ q
  clear q
  refine ct_C ?_ (ct_N)
  · intro l st h q
    obtain ⟨m0, q1⟩ := tkC_of q
    obtain ⟨x1, m1, q2⟩ := tkI_of q1
    obtain ⟨x3, m3, q3⟩ := tkI_of q2
    obtain ⟨y0, t0, rfl, q4⟩ := skI_of q3
    obtain ⟨rfl, q5⟩ := skE_of q4
    exact WK_less (k63 _ _ _ _ _ q5) (List.forall_mem_cons.mpr ⟨m0, (List.forall_mem_cons.mpr ⟨m1, (List.forall_mem_cons.mpr ⟨m3, (fun _ h => absurd h List.not_mem_nil)⟩)⟩)⟩)
def nX0_balanceOnce_42 (c6 : Int → Int → Int → HH → Option (Int × HH)) (x2 : Int) (x3 : Int) (y0 : Int) (h : HH) : Option (Int × HH) := bX0_balanceOnce_42 (nX0_balanceOnce_63 c6) x2 x3 y0 h
theorem wX0_balanceOnce_42 {g : SG} (hg : GOK g) {σ0 : SG} {c6 : Int → Int → Int → HH → Option (Int × HH)} (k6 : ∀ (x1 : Int) (x2 : Int) (x3 : Int) (h : HH) (b : (Int × HH)), c6 x1 x2 x3 h = some b → WK 6 (.inl (some (aI b.1))) σ0 (abH 2 70 g b.2) 6 [(0, aR 60), (1, aI x1), (2, aI x2), (3, aI x3)] [] (abH 2 70 g h) 0 0) : ∀ {x2 : Int} {x3 : Int} {y0 : Int} {h : HH} {b : (Int × HH)}, nX0_balanceOnce_42 c6 x2 x3 y0 h = some b → WK 6 (.inl (some (aI b.1))) σ0 (abH 2 70 g b.2) 42 [(0, aR 60), (2, aI x2), (3, aI x3)] [aI y0] (abH 2 70 g h) 0 0 := by
  intro x2 x3 y0 h b q
  exact uX0_balanceOnce_42 hg (fun _ _ _ _ _ q => wX0_balanceOnce_63 hg k6 q) q
def bX0_balanceOnce_6 (f7 : HH → Option Int) (f5 : HH → Int → Option Int) (c42 : Int → Int → Int → HH → Option (Int × HH)) (c81 : Int → Int → Int → Int → Int → HH → Option (Int × HH)) (x1 : Int) (x2 : Int) (x3 : Int) (h : HH) : Option (Int × HH) :=
  if x3 < (3 : Int) then
    bnd (f5 h x3) fun r2 =>
    gd ((0 : Int) ≤ x3 ∧ x3 < (3 : Int)) <|
    bnd (some (hI h 64 x3 r2)) fun h3 =>
    gd ((0 : Int) ≤ x3 ∧ x3 < (3 : Int)) <|
    gd ((0 : Int) ≤ x1 ∧ x1 < (3 : Int)) <|
    if ((h3.1 64 x1) : Int) < (h3.1 64 x3) then
    c42 x2 x3 x3 h3
  else
    c42 x2 x3 x1 h3
  else
    bnd (f7 h) fun r1 =>
    c81 x1 x2 (-1) r1 1 h
theorem uX0_balanceOnce_6 {g : SG} (hg : GOK g) {σ0 : SG} {c42 : Int → Int → Int → HH → Option (Int × HH)} {c81 : Int → Int → Int → Int → Int → HH → Option (Int × HH)} (k42 : ∀ (x2 : Int) (x3 : Int) (y0 : Int) (h : HH) (b : (Int × HH)), c42 x2 x3 y0 h = some b → WK 6 (.inl (some (aI b.1))) σ0 (abH 2 70 g b.2) 42 [(0, aR 60), (2, aI x2), (3, aI x3)] [aI y0] (abH 2 70 g h) 0 0) (k81 : ∀ (x1 : Int) (x2 : Int) (x3 : Int) (x4 : Int) (x5 : Int) (h : HH) (b : (Int × HH)), c81 x1 x2 x3 x4 x5 h = some b → WK 6 (.inl (some (aI b.1))) σ0 (abH 2 70 g b.2) 81 [(0, aR 60), (1, aI x1), (2, aI x2), (3, aI x3), (4, aI x4), (5, aI x5)] [] (abH 2 70 g h) 0 0) : ∀ {x1 : Int} {x2 : Int} {x3 : Int} {h : HH} {b : (Int × HH)}, bX0_balanceOnce_6 nX0_spread nX0_loadOf c42 c81 x1 x2 x3 h = some b → WK 6 (.inl (some (aI b.1))) σ0 (abH 2 70 g b.2) 6 [(0, aR 60), (1, aI x1), (2, aI x2), (3, aI x3)] [] (abH 2 70 g h) 0 0 := by
  intro x1 x2 x3 h b q
  have e : ∀ (f7 : HH → Option Int) (f5 : HH → Int → Option Int) , bX0_balanceOnce_6 f7 f5 c42 c81 x1 x2 x3 h = segW 2 70 g.2.2.2.2 krWI (clC 7 (liPW (pX0_spread f7)) (clC 5 (liPW (pX0_loadOf f5)) clN)) csX0_balanceOnce (cuC 42 (fun l st s => tkC 0 60 l <| tkI 2 l fun x2 => tkI 3 l fun x3 => skI st fun y0 st => skE st (c42 x2 x3 y0 s)) (cuC 81 (fun l st s => tkC 0 60 l <| tkI 1 l fun x1 => tkI 2 l fun x2 => tkI 3 l fun x3 => tkI 4 l fun x4 => tkI 5 l fun x5 => skE st (c81 x1 x2 x3 x4 x5 s)) cuN)) 1000 6 [(0, aR 60), (1, aI x1), (2, aI x2), (3, aI x3)] [] h := fun _ _ => rfl
  rw [e nX0_spread nX0_loadOf] at q
  clear e
  refine segW_wk (by decide) (by decide) hg rwX0_balanceOnce (CLKW_C (liPW_ok (pX0_spread_ok hg)) (CLKW_C (liPW_ok (pX0_loadOf_ok hg)) CLKW_N)) krWI_ok ?_ q
  clear q
  refine ct_C ?_ (ct_C ?_ (ct_N))
  · intro l st h q
    obtain ⟨m0, q1⟩ := tkC_of q
    obtain ⟨x2, m2, q2⟩ := tkI_of q1
    obtain ⟨x3, m3, q3⟩ := tkI_of q2
    obtain ⟨y0, t0, rfl, q4⟩ := skI_of q3
    obtain ⟨rfl, q5⟩ := skE_of q4
    exact WK_less (k42 _ _ _ _ _ q5) (List.forall_mem_cons.mpr ⟨m0, (List.forall_mem_cons.mpr ⟨m2, (List.forall_mem_cons.mpr ⟨m3, (fun _ h => absurd h List.not_mem_nil)⟩)⟩)⟩)
  · intro l st h q
    obtain ⟨m0, q1⟩ := tkC_of q
    obtain ⟨x1, m1, q2⟩ := tkI_of q1
    obtain ⟨x2, m2, q3⟩ := tkI_of q2
    obtain ⟨x3, m3, q4⟩ := tkI_of q3
    obtain ⟨x4, m4, q5⟩ := tkI_of q4
    obtain ⟨x5, m5, q6⟩ := tkI_of q5
    obtain ⟨rfl, q7⟩ := skE_of q6
    exact WK_less (k81 _ _ _ _ _ _ _ q7) (List.forall_mem_cons.mpr ⟨m0, (List.forall_mem_cons.mpr ⟨m1, (List.forall_mem_cons.mpr ⟨m2, (List.forall_mem_cons.mpr ⟨m3, (List.forall_mem_cons.mpr ⟨m4, (List.forall_mem_cons.mpr ⟨m5, (fun _ h => absurd h List.not_mem_nil)⟩)⟩)⟩)⟩)⟩)⟩)
def nX0_balanceOnce_6 : Nat → Int → Int → Int → HH → Option (Int × HH) := iter (fun _ _ _ _ => none) (fun self => bX0_balanceOnce_6 nX0_spread nX0_loadOf (nX0_balanceOnce_42 self) (nX0_balanceOnce_81 100000))
theorem nX0_balanceOnce_6_s {F : Nat} : nX0_balanceOnce_6 (F + 1) = bX0_balanceOnce_6 nX0_spread nX0_loadOf (nX0_balanceOnce_42 (nX0_balanceOnce_6 F)) (nX0_balanceOnce_81 100000) := rfl
theorem wX0_balanceOnce_6 {g : SG} (hg : GOK g) {σ0 : SG} : ∀ {F : Nat}, ∀ {x1 : Int} {x2 : Int} {x3 : Int} {h : HH} {b : (Int × HH)}, nX0_balanceOnce_6 F x1 x2 x3 h = some b → WK 6 (.inl (some (aI b.1))) σ0 (abH 2 70 g b.2) 6 [(0, aR 60), (1, aI x1), (2, aI x2), (3, aI x3)] [] (abH 2 70 g h) 0 0 := by
  intro F
  have z : ∀ (x1 : Int) (x2 : Int) (x3 : Int) (h : HH) (b : (Int × HH)), nX0_balanceOnce_6 F x1 x2 x3 h = some b → WK 6 (.inl (some (aI b.1))) σ0 (abH 2 70 g b.2) 6 [(0, aR 60), (1, aI x1), (2, aI x2), (3, aI x3)] [] (abH 2 70 g h) 0 0 := iter_ind (P := fun (c : Int → Int → Int → HH → Option (Int × HH)) => ∀ (x1 : Int) (x2 : Int) (x3 : Int) (h : HH) (b : (Int × HH)), c x1 x2 x3 h = some b → WK 6 (.inl (some (aI b.1))) σ0 (abH 2 70 g b.2) 6 [(0, aR 60), (1, aI x1), (2, aI x2), (3, aI x3)] [] (abH 2 70 g h) 0 0) (by
    intro x1 x2 x3 h b q
    cases q) (fun self ih => by
    intro x1 x2 x3 h b q
    exact uX0_balanceOnce_6 hg (fun _ _ _ _ _ q => wX0_balanceOnce_42 hg ih q) (fun _ _ _ _ _ _ _ q => wX0_balanceOnce_81 hg q) q) F
  intro x1 x2 x3 h b q
  exact z _ _ _ _ _ q
def bX0_balanceOnce (c6 : Int → Int → Int → HH → Option (Int × HH)) (h : HH) : Option (Int × HH) :=
  c6 0 0 0 h
theorem uX0_balanceOnce {g : SG} (hg : GOK g) {σ0 : SG} {c6 : Int → Int → Int → HH → Option (Int × HH)} (k6 : ∀ (x1 : Int) (x2 : Int) (x3 : Int) (h : HH) (b : (Int × HH)), c6 x1 x2 x3 h = some b → WK 6 (.inl (some (aI b.1))) σ0 (abH 2 70 g b.2) 6 [(0, aR 60), (1, aI x1), (2, aI x2), (3, aI x3)] [] (abH 2 70 g h) 0 0) : ∀ {h : HH} {b : (Int × HH)}, bX0_balanceOnce c6 h = some b → WK 6 (.inl (some (aI b.1))) σ0 (abH 2 70 g b.2) 0 [(0, aR 60)] [] (abH 2 70 g h) 0 0 := by
  intro h b q
  have e : bX0_balanceOnce c6 h = segW 2 70 g.2.2.2.2 krWI clN csX0_balanceOnce (cuC 6 (fun l st s => tkC 0 60 l <| tkI 1 l fun x1 => tkI 2 l fun x2 => tkI 3 l fun x3 => skE st (c6 x1 x2 x3 s)) cuN) 1000 0 [(0, aR 60)] [] h := rfl
  rw [e] at q
  clear e
  refine segW_wk (by decide) (by decide) hg rwX0_balanceOnce CLKW_N krWI_ok ?_ q
  clear q
  refine ct_C ?_ (ct_N)
  · intro l st h q
    obtain ⟨m0, q1⟩ := tkC_of q
    obtain ⟨x1, m1, q2⟩ := tkI_of q1
    obtain ⟨x2, m2, q3⟩ := tkI_of q2
    obtain ⟨x3, m3, q4⟩ := tkI_of q3
    obtain ⟨rfl, q5⟩ := skE_of q4
    exact WK_less (k6 _ _ _ _ _ q5) (List.forall_mem_cons.mpr ⟨m0, (List.forall_mem_cons.mpr ⟨m1, (List.forall_mem_cons.mpr ⟨m2, (List.forall_mem_cons.mpr ⟨m3, (fun _ h => absurd h List.not_mem_nil)⟩)⟩)⟩)⟩)
def nX0_balanceOnce (h : HH) : Option (Int × HH) := bX0_balanceOnce (nX0_balanceOnce_6 100000) h
theorem wX0_balanceOnce {g : SG} (hg : GOK g) {σ0 : SG} : ∀ {h : HH} {b : (Int × HH)}, nX0_balanceOnce h = some b → WK 6 (.inl (some (aI b.1))) σ0 (abH 2 70 g b.2) 0 [(0, aR 60)] [] (abH 2 70 g h) 0 0 := by
  intro h b q
  exact uX0_balanceOnce hg (fun _ _ _ _ _ q => wX0_balanceOnce_6 hg q) q
theorem mX0_balanceOnce {g : SG} (hg : GOK g) {h : HH} {b : (Int × HH)} (q : nX0_balanceOnce h = some b) : MCT 6 [] [aR 60] (abH 2 70 g h) (.inl (some (aI b.1))) (abH 2 70 g b.2) :=
  mct_of (by decide) (MFok 6 (by decide +kernel)) (fun _ => Nat.le_of_ble_eq_true rfl) (wX0_balanceOnce hg q)
def pX0_balanceOnce {β : Type} (z : HH → Option (Int × HH)) : PW β := fun as h f => skC 60 as fun as => skE as (bnd (z h) fun r => f (.inl (some (aI r.1))) r.2)
theorem pX0_balanceOnce_ok {β : Type} {g : SG} (hg : GOK g) : CW1 (β := β) 6 (pX0_balanceOnce nX0_balanceOnce) 2 70 g := fun as h f b q => by
  obtain ⟨as, rfl, q1⟩ := skC_of q
  obtain ⟨rfl, q0⟩ := skE_of q1
  obtain ⟨r, z1, z2⟩ := bnd_of q0
  exact ⟨_, _, z2, by decide, mX0_balanceOnce hg z1, rfl, rfl, fun z => absurd z (by decide)⟩
def csX1_chooseNone : List (Nat × List (Nat × ARow)) := [(100000, [(0, 1, .aload_n 0, 0, 0, 0), (1, 1, .iconst 0, 0, 0, 0), (2, 3, .putfield 25, 1, 2, 0), (5, 1, .return_, 0, 0, 0)])]
theorem rwX1_chooseNone : rowsB (mB 11) (mO 11) (mX 11) (mIni 11) (mFr 11) (mLo 11) (mT 11) csX1_chooseNone = true := by decide +kernel
def bX1_chooseNone (h : HH) : Option HH :=
  bnd (some (hI h 49 2 0)) fun h1 =>
    some h1
theorem uX1_chooseNone {g : SG} (hg : GOK g) {σ0 : SG} : ∀ {h : HH} {b : HH}, bX1_chooseNone h = some b → WK 11 (.inl none) σ0 (abH 2 70 g b) 0 [(0, aR 49)] [] (abH 2 70 g h) 0 0 := by
  intro h b q
  have e : bX1_chooseNone h = segW 2 70 g.2.2.2.2 krWV clN csX1_chooseNone cuN 1000 0 [(0, aR 49)] [] h := rfl
  rw [e] at q
  clear e
  refine segW_wk (by decide) (by decide) hg rwX1_chooseNone CLKW_N krWV_ok ?_ q
  clear q
  exact ct_N
def nX1_chooseNone (h : HH) : Option HH := bX1_chooseNone h
theorem wX1_chooseNone {g : SG} (hg : GOK g) {σ0 : SG} : ∀ {h : HH} {b : HH}, nX1_chooseNone h = some b → WK 11 (.inl none) σ0 (abH 2 70 g b) 0 [(0, aR 49)] [] (abH 2 70 g h) 0 0 := by
  intro h b q
  exact uX1_chooseNone hg q
theorem mX1_chooseNone {g : SG} (hg : GOK g) {h : HH} {b : HH} (q : nX1_chooseNone h = some b) : MCT 11 [] [aR 49] (abH 2 70 g h) (.inl none) (abH 2 70 g b) :=
  mct_of (by decide) (MFok 11 (by decide +kernel)) (fun _ => Nat.le_of_ble_eq_true rfl) (wX1_chooseNone hg q)
def pX1_chooseNone {β : Type} (z : HH → Option HH) : PW β := fun as h f => skC 49 as fun as => skE as (bnd (z h) fun r => f (.inl none) r)
theorem pX1_chooseNone_ok {β : Type} {g : SG} (hg : GOK g) : CW1 (β := β) 11 (pX1_chooseNone nX1_chooseNone) 2 70 g := fun as h f b q => by
  obtain ⟨as, rfl, q1⟩ := skC_of q
  obtain ⟨rfl, q0⟩ := skE_of q1
  obtain ⟨r, z1, z2⟩ := bnd_of q0
  exact ⟨_, _, z2, by decide, mX1_chooseNone hg z1, rfl, rfl, fun z => absurd z (by decide)⟩
def csX1_choose : List (Nat × List (Nat × ARow)) := [(100000, [(0, 1, .aload_n 0, 0, 0, 0), (1, 3, .getfield 25, 1, 2, 0), (4, 2, .bipush 9, 0, 0, 0), (6, 3, .if_icmp .ge 23, 29, 0, 0), (9, 1, .aload_n 0, 0, 0, 0), (10, 3, .getfield 9, 1, 1, 2), (13, 1, .aload_n 0, 0, 0, 0), (14, 3, .getfield 25, 1, 2, 0), (17, 1, .iload_n 1, 0, 0, 0), (18, 1, .iastore, 0, 0, 0), (19, 1, .aload_n 0, 0, 0, 0), (20, 1, .dup, 0, 0, 0), (21, 3, .getfield 25, 1, 2, 0), (24, 1, .iconst 1, 0, 0, 0), (25, 1, .iadd, 0, 0, 0), (26, 3, .putfield 25, 1, 2, 0), (29, 1, .return_, 0, 0, 0)])]
theorem rwX1_choose : rowsB (mB 12) (mO 12) (mX 12) (mIni 12) (mFr 12) (mLo 12) (mT 12) csX1_choose = true := by decide +kernel
def bX1_choose (x1 : Int) (h : HH) : Option HH :=
  if (h.1 49 2) < (9 : Int) then
    gd ((0 : Int) ≤ (h.1 49 2) ∧ (h.1 49 2) < (9 : Int)) <|
    bnd (some (hI h 50 (h.1 49 2) x1)) fun h1 =>
    gd (R32 ((h1.1 49 2) + 1)) <|
    bnd (some (hI h1 49 2 ((h1.1 49 2) + 1))) fun h2 =>
    some h2
  else
    some h
theorem uX1_choose {g : SG} (hg : GOK g) {σ0 : SG} : ∀ {x1 : Int} {h : HH} {b : HH}, bX1_choose x1 h = some b → WK 12 (.inl none) σ0 (abH 2 70 g b) 0 [(0, aR 49), (1, aI x1)] [] (abH 2 70 g h) 0 0 := by
  intro x1 h b q
  have e : bX1_choose x1 h = segW 2 70 g.2.2.2.2 krWV clN csX1_choose cuN 1000 0 [(0, aR 49), (1, aI x1)] [] h := rfl
  rw [e] at q
  clear e
  refine segW_wk (by decide) (by decide) hg rwX1_choose CLKW_N krWV_ok ?_ q
  clear q
  exact ct_N
def nX1_choose (x1 : Int) (h : HH) : Option HH := bX1_choose x1 h
theorem wX1_choose {g : SG} (hg : GOK g) {σ0 : SG} : ∀ {x1 : Int} {h : HH} {b : HH}, nX1_choose x1 h = some b → WK 12 (.inl none) σ0 (abH 2 70 g b) 0 [(0, aR 49), (1, aI x1)] [] (abH 2 70 g h) 0 0 := by
  intro x1 h b q
  exact uX1_choose hg q
theorem mX1_choose {g : SG} (hg : GOK g) {h : HH} {x1 : Int} {b : HH} (q : nX1_choose x1 h = some b) : MCT 12 [] [aR 49, aI x1] (abH 2 70 g h) (.inl none) (abH 2 70 g b) :=
  mct_of (by decide) (MFok 12 (by decide +kernel)) (fun _ => Nat.le_of_ble_eq_true rfl) (wX1_choose hg q)
def pX1_choose {β : Type} (z : Int → HH → Option HH) : PW β := fun as h f => skC 49 as fun as => skI as fun x1 as => skE as (bnd (z x1 h) fun r => f (.inl none) r)
theorem pX1_choose_ok {β : Type} {g : SG} (hg : GOK g) : CW1 (β := β) 12 (pX1_choose nX1_choose) 2 70 g := fun as h f b q => by
  obtain ⟨as, rfl, q1⟩ := skC_of q
  obtain ⟨x1, as, rfl, q2⟩ := skI_of q1
  obtain ⟨rfl, q0⟩ := skE_of q2
  obtain ⟨r, z1, z2⟩ := bnd_of q0
  exact ⟨_, _, z2, by decide, mX1_choose hg z1, rfl, rfl, fun z => absurd z (by decide)⟩
def csX1_all : List (Nat × List (Nat × ARow)) := [(100000, [(0, 1, .iconst 1, 0, 0, 0), (1, 1, .aload_n 0, 0, 0, 0), (2, 3, .getfield 25, 1, 2, 0), (5, 1, .ishl, 0, 0, 0), (6, 1, .iconst 1, 0, 0, 0), (7, 1, .isub, 0, 0, 0), (8, 1, .ireturn, 0, 0, 0)])]
theorem rwX1_all : rowsB (mB 13) (mO 13) (mX 13) (mIni 13) (mFr 13) (mLo 13) (mT 13) csX1_all = true := by decide +kernel
def bX1_all (h : HH) : Option Int :=
  gd (R32 ((shlI 1 (h.1 49 2)) - 1)) <|
    some ((shlI 1 (h.1 49 2)) - 1)
theorem uX1_all {g : SG} (hg : GOK g) {σ0 : SG} {h : HH} : ∀ {b : Int}, bX1_all h = some b → WK 13 (.inl (some (aI b))) σ0 (abH 2 70 g h) 0 [(0, aR 49)] [] (abH 2 70 g h) 0 0 := by
  intro  b q
  have e : bX1_all h = segP 2 70 g.2.2.2.2 h krPI clNP csX1_all cuN 1000 0 [(0, aR 49)] [] := rfl
  rw [e] at q
  clear e
  refine segP_wk (by decide) (by decide) hg rwX1_all CLKP_N krPI_ok ?_ q
  clear q
  exact ct_N
def nX1_all (h : HH) : Option Int := bX1_all h
theorem wX1_all {g : SG} (hg : GOK g) {σ0 : SG} {h : HH} : ∀ {b : Int}, nX1_all h = some b → WK 13 (.inl (some (aI b))) σ0 (abH 2 70 g h) 0 [(0, aR 49)] [] (abH 2 70 g h) 0 0 := by
  intro  b q
  exact uX1_all hg q
theorem mX1_all {g : SG} (hg : GOK g) {h : HH} {b : Int} (q : nX1_all h = some b) : MCT 13 [] [aR 49] (abH 2 70 g h) (.inl (some (aI b))) (abH 2 70 g h) :=
  mct_of (by decide) (MFok 13 (by decide +kernel)) (fun _ => Nat.le_of_ble_eq_true rfl) (wX1_all hg q)
def pX1_all {β : Type} (z : HH → Option Int) : PP β := fun h as f => skC 49 as fun as => skE as (bnd (z h) fun r => f (.inl (some (aI r))))
theorem pX1_all_ok {β : Type} {g : SG} (hg : GOK g) : CP1 (β := β) 13 (pX1_all nX1_all) 2 70 g := fun h as f b q => by
  obtain ⟨as, rfl, q1⟩ := skC_of q
  obtain ⟨rfl, q0⟩ := skE_of q1
  obtain ⟨r, z1, z2⟩ := bnd_of q0
  exact ⟨_, z2, by decide, mX1_all hg z1, rfl, rfl, fun z => absurd z (by decide)⟩
def csX1_has : List (Nat × List (Nat × ARow)) := [(100000, [(0, 1, .iload_n 0, 0, 0, 0), (1, 1, .iload_n 1, 0, 0, 0), (2, 1, .ishr, 0, 0, 0), (3, 1, .iconst 1, 0, 0, 0), (4, 1, .iand, 0, 0, 0), (5, 1, .iconst 1, 0, 0, 0), (6, 3, .if_icmp .ne 7, 13, 0, 0), (9, 1, .iconst 1, 0, 0, 0), (10, 3, .goto 4, 14, 0, 0), (13, 1, .iconst 0, 0, 0, 0), (14, 1, .ireturn, 1, 0, 0)])]
theorem rwX1_has : rowsB (mB 15) (mO 15) (mX 15) (mIni 15) (mFr 15) (mLo 15) (mT 15) csX1_has = true := by decide +kernel
def bX1_has (h : HH) (x0 : Int) (x1 : Int) : Option Int :=
  if (andI (shrI x0 x1) 1) = (1 : Int) then
    gd ((0 : Int) ≤ 1 ∧ 1 ≤ (1 : Int)) <|
    some 1
  else
    gd ((0 : Int) ≤ 0 ∧ 0 ≤ (1 : Int)) <|
    some 0
theorem uX1_has {g : SG} (hg : GOK g) {σ0 : SG} {h : HH} : ∀ {x0 : Int} {x1 : Int} {b : Int}, bX1_has h x0 x1 = some b → WK 15 (.inl (some (aI b))) σ0 (abH 2 70 g h) 0 [(0, aI x0), (1, aI x1)] [] (abH 2 70 g h) 0 0 := by
  intro x0 x1 b q
  have e : bX1_has h x0 x1 = segP 2 70 g.2.2.2.2 h krPI clNP csX1_has cuN 1000 0 [(0, aI x0), (1, aI x1)] [] := rfl
  rw [e] at q
  clear e
  refine segP_wk (by decide) (by decide) hg rwX1_has CLKP_N krPI_ok ?_ q
  clear q
  exact ct_N
def nX1_has (h : HH) (x0 : Int) (x1 : Int) : Option Int := bX1_has h x0 x1
theorem wX1_has {g : SG} (hg : GOK g) {σ0 : SG} {h : HH} : ∀ {x0 : Int} {x1 : Int} {b : Int}, nX1_has h x0 x1 = some b → WK 15 (.inl (some (aI b))) σ0 (abH 2 70 g h) 0 [(0, aI x0), (1, aI x1)] [] (abH 2 70 g h) 0 0 := by
  intro x0 x1 b q
  exact uX1_has hg q
theorem mX1_has {g : SG} (hg : GOK g) {h : HH} {x0 : Int} {x1 : Int} {b : Int} (q : nX1_has h x0 x1 = some b) : MCT 15 [] [aI x0, aI x1] (abH 2 70 g h) (.inl (some (aI b))) (abH 2 70 g h) :=
  mct_of (by decide) (MFok 15 (by decide +kernel)) (fun _ => Nat.le_of_ble_eq_true rfl) (wX1_has hg q)
def pX1_has {β : Type} (z : HH → Int → Int → Option Int) : PP β := fun h as f => skI as fun x0 as => skI as fun x1 as => skE as (bnd (z h x0 x1) fun r => f (.inl (some (aI r))))
theorem pX1_has_ok {β : Type} {g : SG} (hg : GOK g) : CP1 (β := β) 15 (pX1_has nX1_has) 2 70 g := fun h as f b q => by
  obtain ⟨x0, as, rfl, q1⟩ := skI_of q
  obtain ⟨x1, as, rfl, q2⟩ := skI_of q1
  obtain ⟨rfl, q0⟩ := skE_of q2
  obtain ⟨r, z1, z2⟩ := bnd_of q0
  exact ⟨_, z2, by decide, mX1_has hg z1, rfl, rfl, fun z => absurd z (by decide)⟩
def csX2_serveAt : List (Nat × List (Nat × ARow)) := [(41, [(0, 1, .aload_n 0, 0, 0, 0), (1, 3, .getfield 48, 2, 0, 2), (4, 1, .iload_n 2, 0, 0, 0), (5, 1, .aload_n 0, 0, 0, 0), (6, 3, .getfield 9, 2, 1, 2), (9, 1, .iload_n 1, 0, 0, 0), (10, 1, .iaload, 0, 0, 0), (11, 3, .invokevirtual 63, 87, 3, 9), (14, 2, .istore 4, 0, 0, 0), (16, 2, .iload 4, 0, 0, 0), (18, 1, .iconst (-1), 0, 0, 0), (19, 3, .if_icmp .ne 5, 24, 0, 0), (22, 1, .iconst (-1), 0, 0, 0), (23, 1, .ireturn, 0, 0, 0), (24, 1, .iload_n 3, 0, 0, 0), (25, 2, .iload 4, 0, 0, 0), (27, 1, .iadd, 0, 0, 0), (28, 1, .aload_n 0, 0, 0, 0), (29, 3, .getfield 21, 2, 4, 2), (32, 1, .iload_n 1, 0, 0, 0), (33, 1, .iaload, 0, 0, 0), (34, 3, .invokestatic 69, 1000, 2, 0), (37, 2, .istore 5, 0, 0, 0), (39, 2, .iload 5, 0, 0, 0)]),
  (100000, [(41, 1, .aload_n 0, 0, 0, 0), (42, 3, .getfield 24, 2, 5, 2), (45, 1, .iload_n 1, 0, 0, 0), (46, 1, .iaload, 0, 0, 0), (47, 3, .if_icmp .le 7, 54, 0, 0), (50, 1, .iconst (-1), 0, 0, 0), (51, 3, .goto 5, 56, 0, 0), (54, 2, .iload 5, 0, 0, 0), (56, 1, .ireturn, 0, 0, 0)])]
theorem rwX2_serveAt : rowsB (mB 28) (mO 28) (mX 28) (mIni 28) (mFr 28) (mLo 28) (mT 28) csX2_serveAt = true := by decide +kernel
def bX2_serveAt (f87 : HH → Int → Int → Option Int) (h : HH) (x1 : Int) (x2 : Int) (x3 : Int) : Option Int :=
  gd ((0 : Int) ≤ x1 ∧ x1 < (9 : Int)) <|
    bnd (f87 h x2 (h.1 14 x1)) fun r1 =>
    if r1 = ((-1) : Int) then
    some (-1)
  else
    gd (R32 (x3 + r1)) <|
    gd ((0 : Int) ≤ x1 ∧ x1 < (9 : Int)) <|
    gd ((0 : Int) ≤ x1 ∧ x1 < (9 : Int)) <|
    if ((h.1 18 x1) : Int) < (max (x3 + r1) (h.1 17 x1)) then
    some (-1)
  else
    some (max (x3 + r1) (h.1 17 x1))
theorem uX2_serveAt {g : SG} (hg : GOK g) {σ0 : SG} {h : HH} : ∀ {x1 : Int} {x2 : Int} {x3 : Int} {b : Int}, bX2_serveAt nX9_minutesOf h x1 x2 x3 = some b → WK 28 (.inl (some (aI b))) σ0 (abH 2 70 g h) 0 [(0, aR 13), (1, aI x1), (2, aI x2), (3, aI x3)] [] (abH 2 70 g h) 0 0 := by
  intro x1 x2 x3 b q
  have e : ∀ (f87 : HH → Int → Int → Option Int) , bX2_serveAt f87 h x1 x2 x3 = segP 2 70 g.2.2.2.2 h krPI (clCP 87 (pX9_minutesOf f87 h) clNP) csX2_serveAt cuN 1000 0 [(0, aR 13), (1, aI x1), (2, aI x2), (3, aI x3)] [] := fun _ => rfl
  rw [e nX9_minutesOf] at q
  clear e
  refine segP_wk (by decide) (by decide) hg rwX2_serveAt (CLKP_C (pX9_minutesOf_ok hg) CLKP_N) krPI_ok ?_ q
  clear q
  exact ct_N
def nX2_serveAt (h : HH) (x1 : Int) (x2 : Int) (x3 : Int) : Option Int := bX2_serveAt nX9_minutesOf h x1 x2 x3
theorem wX2_serveAt {g : SG} (hg : GOK g) {σ0 : SG} {h : HH} : ∀ {x1 : Int} {x2 : Int} {x3 : Int} {b : Int}, nX2_serveAt h x1 x2 x3 = some b → WK 28 (.inl (some (aI b))) σ0 (abH 2 70 g h) 0 [(0, aR 13), (1, aI x1), (2, aI x2), (3, aI x3)] [] (abH 2 70 g h) 0 0 := by
  intro x1 x2 x3 b q
  exact uX2_serveAt hg q
theorem mX2_serveAt {g : SG} (hg : GOK g) {h : HH} {x1 : Int} {x2 : Int} {x3 : Int} {b : Int} (q : nX2_serveAt h x1 x2 x3 = some b) : MCT 28 [] [aR 13, aI x1, aI x2, aI x3] (abH 2 70 g h) (.inl (some (aI b))) (abH 2 70 g h) :=
  mct_of (by decide) (MFok 28 (by decide +kernel)) (fun _ => Nat.le_of_ble_eq_true rfl) (wX2_serveAt hg q)
def pX2_serveAt {β : Type} (z : HH → Int → Int → Int → Option Int) : PP β := fun h as f => skC 13 as fun as => skI as fun x1 as => skI as fun x2 as => skI as fun x3 as => skE as (bnd (z h x1 x2 x3) fun r => f (.inl (some (aI r))))
theorem pX2_serveAt_ok {β : Type} {g : SG} (hg : GOK g) : CP1 (β := β) 28 (pX2_serveAt nX2_serveAt) 2 70 g := fun h as f b q => by
  obtain ⟨as, rfl, q1⟩ := skC_of q
  obtain ⟨x1, as, rfl, q2⟩ := skI_of q1
  obtain ⟨x2, as, rfl, q3⟩ := skI_of q2
  obtain ⟨x3, as, rfl, q4⟩ := skI_of q3
  obtain ⟨rfl, q0⟩ := skE_of q4
  obtain ⟨r, z1, z2⟩ := bnd_of q0
  exact ⟨_, z2, by decide, mX2_serveAt hg z1, rfl, rfl, fun z => absurd z (by decide)⟩
def csX1_leastEnd : List (Nat × List (Nat × ARow)) := [(42, [(0, 1, .iload_n 2, 0, 0, 0), (1, 1, .iconst 1, 0, 0, 0), (2, 1, .iload_n 3, 0, 0, 0), (3, 1, .ishl, 0, 0, 0), (4, 1, .ixor, 0, 0, 0), (5, 2, .istore 4, 0, 0, 0), (7, 1, .aload_n 0, 0, 0, 0), (8, 3, .getfield 9, 1, 1, 2), (11, 1, .iload_n 3, 0, 0, 0), (12, 1, .iaload, 0, 0, 0), (13, 2, .istore 5, 0, 0, 0), (15, 2, .iload 4, 0, 0, 0), (17, 3, .ifCond .ne 25, 42, 0, 0), (20, 1, .aload_n 0, 0, 0, 0), (21, 3, .getfield 21, 1, 0, 2), (24, 2, .iload 5, 0, 0, 0), (26, 1, .iconst 0, 0, 0, 0), (27, 1, .aload_n 0, 0, 0, 0), (28, 3, .getfield 21, 1, 0, 2), (31, 3, .getfield 41, 2, 12, 2), (34, 1, .iload_n 1, 0, 0, 0), (35, 1, .iaload, 0, 0, 0), (36, 3, .invokevirtual 46, 28, 4, 2), (39, 3, .goto 4, 43, 0, 0)]),
  (88, [(42, 1, .iconst (-1), 0, 0, 0), (43, 2, .istore 6, 0, 0, 0), (45, 1, .iconst 0, 0, 0, 0), (46, 2, .istore 7, 0, 0, 0), (48, 2, .iload 7, 0, 0, 0), (50, 1, .aload_n 0, 0, 0, 0), (51, 3, .getfield 25, 1, 2, 0), (54, 3, .if_icmp .ge 100, 154, 0, 0), (57, 2, .iload 4, 0, 0, 0), (59, 2, .iload 7, 0, 0, 0), (61, 3, .invokestatic 33, 15, 2, 0), (64, 3, .ifCond .eq 19, 83, 0, 0), (67, 1, .aload_n 0, 0, 0, 0), (68, 3, .getfield 15, 1, 3, 2), (71, 2, .iload 4, 0, 0, 0), (73, 2, .bipush 9, 0, 0, 0), (75, 1, .imul, 0, 0, 0), (76, 2, .iload 7, 0, 0, 0), (78, 1, .iadd, 0, 0, 0), (79, 1, .iaload, 0, 0, 0), (80, 3, .goto 4, 84, 0, 0), (83, 1, .iconst (-1), 0, 0, 0), (84, 2, .istore 8, 0, 0, 0), (86, 2, .iload 8, 0, 0, 0)]),
  (136, [(88, 1, .iconst (-1), 0, 0, 0), (89, 3, .if_icmp .eq 59, 148, 0, 0), (92, 1, .aload_n 0, 0, 0, 0), (93, 3, .getfield 21, 1, 0, 2), (96, 2, .iload 5, 0, 0, 0), (98, 1, .aload_n 0, 0, 0, 0), (99, 3, .getfield 21, 1, 0, 2), (102, 3, .getfield 49, 2, 1, 2), (105, 1, .aload_n 0, 0, 0, 0), (106, 3, .getfield 9, 1, 1, 2), (109, 2, .iload 7, 0, 0, 0), (111, 1, .iaload, 0, 0, 0), (112, 1, .iaload, 0, 0, 0), (113, 2, .iload 8, 0, 0, 0), (115, 3, .invokevirtual 46, 28, 4, 2), (118, 2, .istore 9, 0, 0, 0), (120, 2, .iload 6, 0, 0, 0), (122, 1, .iconst (-1), 0, 0, 0), (123, 3, .if_icmp .eq 16, 139, 0, 0), (126, 2, .iload 9, 0, 0, 0), (128, 1, .iconst (-1), 0, 0, 0), (129, 3, .if_icmp .eq 15, 144, 0, 0), (132, 2, .iload 9, 0, 0, 0), (134, 2, .iload 6, 0, 0, 0)]),
  (100000, [(136, 3, .if_icmp .ge 8, 144, 0, 0), (139, 2, .iload 9, 0, 0, 0), (141, 3, .goto 5, 146, 0, 0), (144, 2, .iload 6, 0, 0, 0), (146, 2, .istore 6, 0, 0, 0), (148, 3, .iinc 7 1, 0, 0, 0), (151, 3, .goto (-103), 48, 0, 0), (154, 2, .iload 6, 0, 0, 0), (156, 1, .iconst (-1), 0, 0, 0), (157, 3, .if_icmp .ne 7, 164, 0, 0), (160, 1, .iconst (-1), 0, 0, 0), (161, 3, .goto 16, 177, 0, 0), (164, 2, .iload 6, 0, 0, 0), (166, 1, .aload_n 0, 0, 0, 0), (167, 3, .getfield 21, 1, 0, 2), (170, 3, .getfield 52, 2, 6, 2), (173, 2, .iload 5, 0, 0, 0), (175, 1, .iaload, 0, 0, 0), (176, 1, .iadd, 0, 0, 0), (177, 1, .ireturn, 0, 0, 0)])]
theorem rwX1_leastEnd : rowsB (mB 16) (mO 16) (mX 16) (mIni 16) (mFr 16) (mLo 16) (mT 16) csX1_leastEnd = true := by decide +kernel
def bX1_leastEnd_148 (h : HH) (c48 : Int → Int → Int → Int → Option Int) (x4 : Int) (x5 : Int) (x6 : Int) (x7 : Int) : Option Int :=
  gd (R32 (x7 + 1)) <|
    c48 x4 x5 x6 (x7 + 1)
theorem uX1_leastEnd_148 {g : SG} (hg : GOK g) {σ0 : SG} {h : HH} {c48 : Int → Int → Int → Int → Option Int} (k48 : ∀ (x4 : Int) (x5 : Int) (x6 : Int) (x7 : Int) (b : Int), c48 x4 x5 x6 x7 = some b → WK 16 (.inl (some (aI b))) σ0 (abH 2 70 g h) 48 [(0, aR 49), (4, aI x4), (5, aI x5), (6, aI x6), (7, aI x7)] [] (abH 2 70 g h) 0 0) : ∀ {x4 : Int} {x5 : Int} {x6 : Int} {x7 : Int} {b : Int}, bX1_leastEnd_148 h c48 x4 x5 x6 x7 = some b → WK 16 (.inl (some (aI b))) σ0 (abH 2 70 g h) 148 [(0, aR 49), (4, aI x4), (5, aI x5), (6, aI x6), (7, aI x7)] [] (abH 2 70 g h) 0 0 := by
  intro x4 x5 x6 x7 b q
  have e : bX1_leastEnd_148 h c48 x4 x5 x6 x7 = segP 2 70 g.2.2.2.2 h krPI clNP csX1_leastEnd (cuC 48 (fun l st s => tkC 0 49 l <| tkI 4 l fun x4 => tkI 5 l fun x5 => tkI 6 l fun x6 => tkI 7 l fun x7 => skE st (c48 x4 x5 x6 x7)) cuN) 1000 148 [(0, aR 49), (4, aI x4), (5, aI x5), (6, aI x6), (7, aI x7)] [] := rfl
  rw [e] at q
  clear e
  refine segP_wk (by decide) (by decide) hg rwX1_leastEnd CLKP_N krPI_ok ?_ q
  clear q
  refine ct_C ?_ (ct_N)
  · intro l st _ q
    obtain ⟨m0, q1⟩ := tkC_of q
    obtain ⟨x4, m4, q2⟩ := tkI_of q1
    obtain ⟨x5, m5, q3⟩ := tkI_of q2
    obtain ⟨x6, m6, q4⟩ := tkI_of q3
    obtain ⟨x7, m7, q5⟩ := tkI_of q4
    obtain ⟨rfl, q6⟩ := skE_of q5
    exact WK_less (k48 _ _ _ _ _ q6) (List.forall_mem_cons.mpr ⟨m0, (List.forall_mem_cons.mpr ⟨m4, (List.forall_mem_cons.mpr ⟨m5, (List.forall_mem_cons.mpr ⟨m6, (List.forall_mem_cons.mpr ⟨m7, (fun _ h => absurd h List.not_mem_nil)⟩)⟩)⟩)⟩)⟩)
def nX1_leastEnd_148 (h : HH) (c48 : Int → Int → Int → Int → Option Int) (x4 : Int) (x5 : Int) (x6 : Int) (x7 : Int) : Option Int := bX1_leastEnd_148 h c48 x4 x5 x6 x7
theorem wX1_leastEnd_148 {g : SG} (hg : GOK g) {σ0 : SG} {h : HH} {c48 : Int → Int → Int → Int → Option Int} (k48 : ∀ (x4 : Int) (x5 : Int) (x6 : Int) (x7 : Int) (b : Int), c48 x4 x5 x6 x7 = some b → WK 16 (.inl (some (aI b))) σ0 (abH 2 70 g h) 48 [(0, aR 49), (4, aI x4), (5, aI x5), (6, aI x6), (7, aI x7)] [] (abH 2 70 g h) 0 0) : ∀ {x4 : Int} {x5 : Int} {x6 : Int} {x7 : Int} {b : Int}, nX1_leastEnd_148 h c48 x4 x5 x6 x7 = some b → WK 16 (.inl (some (aI b))) σ0 (abH 2 70 g h) 148 [(0, aR 49), (4, aI x4), (5, aI x5), (6, aI x6), (7, aI x7)] [] (abH 2 70 g h) 0 0 := by
  intro x4 x5 x6 x7 b q
  exact uX1_leastEnd_148 hg k48 q
def bX1_leastEnd_146 (h : HH) (c148 : Int → Int → Int → Int → Option Int) (x4 : Int) (x5 : Int) (x7 : Int) (y0 : Int) : Option Int :=
  c148 x4 x5 y0 x7
theorem uX1_leastEnd_146 {g : SG} (hg : GOK g) {σ0 : SG} {h : HH} {c148 : Int → Int → Int → Int → Option Int} (k148 : ∀ (x4 : Int) (x5 : Int) (x6 : Int) (x7 : Int) (b : Int), c148 x4 x5 x6 x7 = some b → WK 16 (.inl (some (aI b))) σ0 (abH 2 70 g h) 148 [(0, aR 49), (4, aI x4), (5, aI x5), (6, aI x6), (7, aI x7)] [] (abH 2 70 g h) 0 0) : ∀ {x4 : Int} {x5 : Int} {x7 : Int} {y0 : Int} {b : Int}, bX1_leastEnd_146 h c148 x4 x5 x7 y0 = some b → WK 16 (.inl (some (aI b))) σ0 (abH 2 70 g h) 146 [(0, aR 49), (4, aI x4), (5, aI x5), (7, aI x7)] [aI y0] (abH 2 70 g h) 0 0 := by
  intro x4 x5 x7 y0 b q
  have e : bX1_leastEnd_146 h c148 x4 x5 x7 y0 = segP 2 70 g.2.2.2.2 h krPI clNP csX1_leastEnd (cuC 148 (fun l st s => tkC 0 49 l <| tkI 4 l fun x4 => tkI 5 l fun x5 => tkI 6 l fun x6 => tkI 7 l fun x7 => skE st (c148 x4 x5 x6 x7)) cuN) 1000 146 [(0, aR 49), (4, aI x4), (5, aI x5), (7, aI x7)] [aI y0] := rfl
  rw [e] at q
  clear e
  refine segP_wk (by decide) (by decide) hg rwX1_leastEnd CLKP_N krPI_ok ?_ q
  clear q
  refine ct_C ?_ (ct_N)
  · intro l st _ q
    obtain ⟨m0, q1⟩ := tkC_of q
    obtain ⟨x4, m4, q2⟩ := tkI_of q1
    obtain ⟨x5, m5, q3⟩ := tkI_of q2
    obtain ⟨x6, m6, q4⟩ := tkI_of q3
    obtain ⟨x7, m7, q5⟩ := tkI_of q4
    obtain ⟨rfl, q6⟩ := skE_of q5
    exact WK_less (k148 _ _ _ _ _ q6) (List.forall_mem_cons.mpr ⟨m0, (List.forall_mem_cons.mpr ⟨m4, (List.forall_mem_cons.mpr ⟨m5, (List.forall_mem_cons.mpr ⟨m6, (List.forall_mem_cons.mpr ⟨m7, (fun _ h => absurd h List.not_mem_nil)⟩)⟩)⟩)⟩)⟩)
def nX1_leastEnd_146 (h : HH) (c48 : Int → Int → Int → Int → Option Int) (x4 : Int) (x5 : Int) (x7 : Int) (y0 : Int) : Option Int := bX1_leastEnd_146 h (nX1_leastEnd_148 h c48) x4 x5 x7 y0
theorem wX1_leastEnd_146 {g : SG} (hg : GOK g) {σ0 : SG} {h : HH} {c48 : Int → Int → Int → Int → Option Int} (k48 : ∀ (x4 : Int) (x5 : Int) (x6 : Int) (x7 : Int) (b : Int), c48 x4 x5 x6 x7 = some b → WK 16 (.inl (some (aI b))) σ0 (abH 2 70 g h) 48 [(0, aR 49), (4, aI x4), (5, aI x5), (6, aI x6), (7, aI x7)] [] (abH 2 70 g h) 0 0) : ∀ {x4 : Int} {x5 : Int} {x7 : Int} {y0 : Int} {b : Int}, nX1_leastEnd_146 h c48 x4 x5 x7 y0 = some b → WK 16 (.inl (some (aI b))) σ0 (abH 2 70 g h) 146 [(0, aR 49), (4, aI x4), (5, aI x5), (7, aI x7)] [aI y0] (abH 2 70 g h) 0 0 := by
  intro x4 x5 x7 y0 b q
  exact uX1_leastEnd_146 hg (fun _ _ _ _ _ q => wX1_leastEnd_148 hg k48 q) q
def bX1_leastEnd_139 (h : HH) (c146 : Int → Int → Int → Int → Option Int) (x4 : Int) (x5 : Int) (x7 : Int) (x9 : Int) : Option Int :=
  c146 x4 x5 x7 x9
theorem uX1_leastEnd_139 {g : SG} (hg : GOK g) {σ0 : SG} {h : HH} {c146 : Int → Int → Int → Int → Option Int} (k146 : ∀ (x4 : Int) (x5 : Int) (x7 : Int) (y0 : Int) (b : Int), c146 x4 x5 x7 y0 = some b → WK 16 (.inl (some (aI b))) σ0 (abH 2 70 g h) 146 [(0, aR 49), (4, aI x4), (5, aI x5), (7, aI x7)] [aI y0] (abH 2 70 g h) 0 0) : ∀ {x4 : Int} {x5 : Int} {x7 : Int} {x9 : Int} {b : Int}, bX1_leastEnd_139 h c146 x4 x5 x7 x9 = some b → WK 16 (.inl (some (aI b))) σ0 (abH 2 70 g h) 139 [(0, aR 49), (4, aI x4), (5, aI x5), (7, aI x7), (9, aI x9)] [] (abH 2 70 g h) 0 0 := by
  intro x4 x5 x7 x9 b q
  have e : bX1_leastEnd_139 h c146 x4 x5 x7 x9 = segP 2 70 g.2.2.2.2 h krPI clNP csX1_leastEnd (cuC 146 (fun l st s => tkC 0 49 l <| tkI 4 l fun x4 => tkI 5 l fun x5 => tkI 7 l fun x7 => skI st fun y0 st => skE st (c146 x4 x5 x7 y0)) cuN) 1000 139 [(0, aR 49), (4, aI x4), (5, aI x5), (7, aI x7), (9, aI x9)] [] := rfl
  rw [e] at q
  clear e
  refine segP_wk (by decide) (by decide) hg rwX1_leastEnd CLKP_N krPI_ok ?_ q
  clear q
  refine ct_C ?_ (ct_N)
  · intro l st _ q
    obtain ⟨m0, q1⟩ := tkC_of q
    obtain ⟨x4, m4, q2⟩ := tkI_of q1
    obtain ⟨x5, m5, q3⟩ := tkI_of q2
    obtain ⟨x7, m7, q4⟩ := tkI_of q3
    obtain ⟨y0, t0, rfl, q5⟩ := skI_of q4
    obtain ⟨rfl, q6⟩ := skE_of q5
    exact WK_less (k146 _ _ _ _ _ q6) (List.forall_mem_cons.mpr ⟨m0, (List.forall_mem_cons.mpr ⟨m4, (List.forall_mem_cons.mpr ⟨m5, (List.forall_mem_cons.mpr ⟨m7, (fun _ h => absurd h List.not_mem_nil)⟩)⟩)⟩)⟩)
def nX1_leastEnd_139 (h : HH) (c48 : Int → Int → Int → Int → Option Int) (x4 : Int) (x5 : Int) (x7 : Int) (x9 : Int) : Option Int := bX1_leastEnd_139 h (nX1_leastEnd_146 h c48) x4 x5 x7 x9
theorem wX1_leastEnd_139 {g : SG} (hg : GOK g) {σ0 : SG} {h : HH} {c48 : Int → Int → Int → Int → Option Int} (k48 : ∀ (x4 : Int) (x5 : Int) (x6 : Int) (x7 : Int) (b : Int), c48 x4 x5 x6 x7 = some b → WK 16 (.inl (some (aI b))) σ0 (abH 2 70 g h) 48 [(0, aR 49), (4, aI x4), (5, aI x5), (6, aI x6), (7, aI x7)] [] (abH 2 70 g h) 0 0) : ∀ {x4 : Int} {x5 : Int} {x7 : Int} {x9 : Int} {b : Int}, nX1_leastEnd_139 h c48 x4 x5 x7 x9 = some b → WK 16 (.inl (some (aI b))) σ0 (abH 2 70 g h) 139 [(0, aR 49), (4, aI x4), (5, aI x5), (7, aI x7), (9, aI x9)] [] (abH 2 70 g h) 0 0 := by
  intro x4 x5 x7 x9 b q
  exact uX1_leastEnd_139 hg (fun _ _ _ _ _ q => wX1_leastEnd_146 hg k48 q) q
def bX1_leastEnd_144 (h : HH) (c146 : Int → Int → Int → Int → Option Int) (x4 : Int) (x5 : Int) (x6 : Int) (x7 : Int) : Option Int :=
  c146 x4 x5 x7 x6
theorem uX1_leastEnd_144 {g : SG} (hg : GOK g) {σ0 : SG} {h : HH} {c146 : Int → Int → Int → Int → Option Int} (k146 : ∀ (x4 : Int) (x5 : Int) (x7 : Int) (y0 : Int) (b : Int), c146 x4 x5 x7 y0 = some b → WK 16 (.inl (some (aI b))) σ0 (abH 2 70 g h) 146 [(0, aR 49), (4, aI x4), (5, aI x5), (7, aI x7)] [aI y0] (abH 2 70 g h) 0 0) : ∀ {x4 : Int} {x5 : Int} {x6 : Int} {x7 : Int} {b : Int}, bX1_leastEnd_144 h c146 x4 x5 x6 x7 = some b → WK 16 (.inl (some (aI b))) σ0 (abH 2 70 g h) 144 [(0, aR 49), (4, aI x4), (5, aI x5), (6, aI x6), (7, aI x7)] [] (abH 2 70 g h) 0 0 := by
  intro x4 x5 x6 x7 b q
  have e : bX1_leastEnd_144 h c146 x4 x5 x6 x7 = segP 2 70 g.2.2.2.2 h krPI clNP csX1_leastEnd (cuC 146 (fun l st s => tkC 0 49 l <| tkI 4 l fun x4 => tkI 5 l fun x5 => tkI 7 l fun x7 => skI st fun y0 st => skE st (c146 x4 x5 x7 y0)) cuN) 1000 144 [(0, aR 49), (4, aI x4), (5, aI x5), (6, aI x6), (7, aI x7)] [] := rfl
  rw [e] at q
  clear e
  refine segP_wk (by decide) (by decide) hg rwX1_leastEnd CLKP_N krPI_ok ?_ q
  clear q
  refine ct_C ?_ (ct_N)
  · intro l st _ q
    obtain ⟨m0, q1⟩ := tkC_of q
    obtain ⟨x4, m4, q2⟩ := tkI_of q1
    obtain ⟨x5, m5, q3⟩ := tkI_of q2
    obtain ⟨x7, m7, q4⟩ := tkI_of q3
    obtain ⟨y0, t0, rfl, q5⟩ := skI_of q4
    obtain ⟨rfl, q6⟩ := skE_of q5
    exact WK_less (k146 _ _ _ _ _ q6) (List.forall_mem_cons.mpr ⟨m0, (List.forall_mem_cons.mpr ⟨m4, (List.forall_mem_cons.mpr ⟨m5, (List.forall_mem_cons.mpr ⟨m7, (fun _ h => absurd h List.not_mem_nil)⟩)⟩)⟩)⟩)
def nX1_leastEnd_144 (h : HH) (c48 : Int → Int → Int → Int → Option Int) (x4 : Int) (x5 : Int) (x6 : Int) (x7 : Int) : Option Int := bX1_leastEnd_144 h (nX1_leastEnd_146 h c48) x4 x5 x6 x7
theorem wX1_leastEnd_144 {g : SG} (hg : GOK g) {σ0 : SG} {h : HH} {c48 : Int → Int → Int → Int → Option Int} (k48 : ∀ (x4 : Int) (x5 : Int) (x6 : Int) (x7 : Int) (b : Int), c48 x4 x5 x6 x7 = some b → WK 16 (.inl (some (aI b))) σ0 (abH 2 70 g h) 48 [(0, aR 49), (4, aI x4), (5, aI x5), (6, aI x6), (7, aI x7)] [] (abH 2 70 g h) 0 0) : ∀ {x4 : Int} {x5 : Int} {x6 : Int} {x7 : Int} {b : Int}, nX1_leastEnd_144 h c48 x4 x5 x6 x7 = some b → WK 16 (.inl (some (aI b))) σ0 (abH 2 70 g h) 144 [(0, aR 49), (4, aI x4), (5, aI x5), (6, aI x6), (7, aI x7)] [] (abH 2 70 g h) 0 0 := by
  intro x4 x5 x6 x7 b q
  exact uX1_leastEnd_144 hg (fun _ _ _ _ _ q => wX1_leastEnd_146 hg k48 q) q
def bX1_leastEnd_84 (f28 : HH → Int → Int → Int → Option Int) (h : HH) (c139 : Int → Int → Int → Int → Option Int) (c144 : Int → Int → Int → Int → Option Int) (c148 : Int → Int → Int → Int → Option Int) (x4 : Int) (x5 : Int) (x6 : Int) (x7 : Int) (y0 : Int) : Option Int :=
  if y0 = ((-1) : Int) then
    c148 x4 x5 x6 x7
  else
    gd ((0 : Int) ≤ x7 ∧ x7 < (9 : Int)) <|
    gd ((0 : Int) ≤ (h.1 50 x7) ∧ (h.1 50 x7) < (9 : Int)) <|
    bnd (f28 h x5 (h.1 14 (h.1 50 x7)) y0) fun r1 =>
    if x6 = ((-1) : Int) then
    c139 x4 x5 x7 r1
  else
    if r1 = ((-1) : Int) then
    c144 x4 x5 x6 x7
  else
    if r1 < (x6 : Int) then
    c139 x4 x5 x7 r1
  else
    c144 x4 x5 x6 x7
theorem uX1_leastEnd_84 {g : SG} (hg : GOK g) {σ0 : SG} {h : HH} {c139 : Int → Int → Int → Int → Option Int} {c144 : Int → Int → Int → Int → Option Int} {c148 : Int → Int → Int → Int → Option Int} (k139 : ∀ (x4 : Int) (x5 : Int) (x7 : Int) (x9 : Int) (b : Int), c139 x4 x5 x7 x9 = some b → WK 16 (.inl (some (aI b))) σ0 (abH 2 70 g h) 139 [(0, aR 49), (4, aI x4), (5, aI x5), (7, aI x7), (9, aI x9)] [] (abH 2 70 g h) 0 0) (k144 : ∀ (x4 : Int) (x5 : Int) (x6 : Int) (x7 : Int) (b : Int), c144 x4 x5 x6 x7 = some b → WK 16 (.inl (some (aI b))) σ0 (abH 2 70 g h) 144 [(0, aR 49), (4, aI x4), (5, aI x5), (6, aI x6), (7, aI x7)] [] (abH 2 70 g h) 0 0) (k148 : ∀ (x4 : Int) (x5 : Int) (x6 : Int) (x7 : Int) (b : Int), c148 x4 x5 x6 x7 = some b → WK 16 (.inl (some (aI b))) σ0 (abH 2 70 g h) 148 [(0, aR 49), (4, aI x4), (5, aI x5), (6, aI x6), (7, aI x7)] [] (abH 2 70 g h) 0 0) : ∀ {x4 : Int} {x5 : Int} {x6 : Int} {x7 : Int} {y0 : Int} {b : Int}, bX1_leastEnd_84 nX2_serveAt h c139 c144 c148 x4 x5 x6 x7 y0 = some b → WK 16 (.inl (some (aI b))) σ0 (abH 2 70 g h) 84 [(0, aR 49), (4, aI x4), (5, aI x5), (6, aI x6), (7, aI x7)] [aI y0] (abH 2 70 g h) 0 0 := by
  intro x4 x5 x6 x7 y0 b q
  have e : ∀ (f28 : HH → Int → Int → Int → Option Int) , bX1_leastEnd_84 f28 h c139 c144 c148 x4 x5 x6 x7 y0 = segP 2 70 g.2.2.2.2 h krPI (clCP 28 (pX2_serveAt f28 h) clNP) csX1_leastEnd (cuC 139 (fun l st s => tkC 0 49 l <| tkI 4 l fun x4 => tkI 5 l fun x5 => tkI 7 l fun x7 => tkI 9 l fun x9 => skE st (c139 x4 x5 x7 x9)) (cuC 144 (fun l st s => tkC 0 49 l <| tkI 4 l fun x4 => tkI 5 l fun x5 => tkI 6 l fun x6 => tkI 7 l fun x7 => skE st (c144 x4 x5 x6 x7)) (cuC 148 (fun l st s => tkC 0 49 l <| tkI 4 l fun x4 => tkI 5 l fun x5 => tkI 6 l fun x6 => tkI 7 l fun x7 => skE st (c148 x4 x5 x6 x7)) cuN))) 1000 84 [(0, aR 49), (4, aI x4), (5, aI x5), (6, aI x6), (7, aI x7)] [aI y0] := fun _ => rfl
  rw [e nX2_serveAt] at q
  clear e
  refine segP_wk (by decide) (by decide) hg rwX1_leastEnd (CLKP_C (pX2_serveAt_ok hg) CLKP_N) krPI_ok ?_ q
  clear q
  refine ct_C ?_ (ct_C ?_ (ct_C ?_ (ct_N)))
  · intro l st _ q
    obtain ⟨m0, q1⟩ := tkC_of q
    obtain ⟨x4, m4, q2⟩ := tkI_of q1
    obtain ⟨x5, m5, q3⟩ := tkI_of q2
    obtain ⟨x7, m7, q4⟩ := tkI_of q3
    obtain ⟨x9, m9, q5⟩ := tkI_of q4
    obtain ⟨rfl, q6⟩ := skE_of q5
    exact WK_less (k139 _ _ _ _ _ q6) (List.forall_mem_cons.mpr ⟨m0, (List.forall_mem_cons.mpr ⟨m4, (List.forall_mem_cons.mpr ⟨m5, (List.forall_mem_cons.mpr ⟨m7, (List.forall_mem_cons.mpr ⟨m9, (fun _ h => absurd h List.not_mem_nil)⟩)⟩)⟩)⟩)⟩)
  · intro l st _ q
    obtain ⟨m0, q1⟩ := tkC_of q
    obtain ⟨x4, m4, q2⟩ := tkI_of q1
    obtain ⟨x5, m5, q3⟩ := tkI_of q2
    obtain ⟨x6, m6, q4⟩ := tkI_of q3
    obtain ⟨x7, m7, q5⟩ := tkI_of q4
    obtain ⟨rfl, q6⟩ := skE_of q5
    exact WK_less (k144 _ _ _ _ _ q6) (List.forall_mem_cons.mpr ⟨m0, (List.forall_mem_cons.mpr ⟨m4, (List.forall_mem_cons.mpr ⟨m5, (List.forall_mem_cons.mpr ⟨m6, (List.forall_mem_cons.mpr ⟨m7, (fun _ h => absurd h List.not_mem_nil)⟩)⟩)⟩)⟩)⟩)
  · intro l st _ q
    obtain ⟨m0, q1⟩ := tkC_of q
    obtain ⟨x4, m4, q2⟩ := tkI_of q1
    obtain ⟨x5, m5, q3⟩ := tkI_of q2
    obtain ⟨x6, m6, q4⟩ := tkI_of q3
    obtain ⟨x7, m7, q5⟩ := tkI_of q4
    obtain ⟨rfl, q6⟩ := skE_of q5
    exact WK_less (k148 _ _ _ _ _ q6) (List.forall_mem_cons.mpr ⟨m0, (List.forall_mem_cons.mpr ⟨m4, (List.forall_mem_cons.mpr ⟨m5, (List.forall_mem_cons.mpr ⟨m6, (List.forall_mem_cons.mpr ⟨m7, (fun _ h => absurd h List.not_mem_nil)⟩)⟩)⟩)⟩)⟩)
def nX1_leastEnd_84 (h : HH) (c48 : Int → Int → Int → Int → Option Int) (x4 : Int) (x5 : Int) (x6 : Int) (x7 : Int) (y0 : Int) : Option Int := bX1_leastEnd_84 nX2_serveAt h (nX1_leastEnd_139 h c48) (nX1_leastEnd_144 h c48) (nX1_leastEnd_148 h c48) x4 x5 x6 x7 y0
theorem wX1_leastEnd_84 {g : SG} (hg : GOK g) {σ0 : SG} {h : HH} {c48 : Int → Int → Int → Int → Option Int} (k48 : ∀ (x4 : Int) (x5 : Int) (x6 : Int) (x7 : Int) (b : Int), c48 x4 x5 x6 x7 = some b → WK 16 (.inl (some (aI b))) σ0 (abH 2 70 g h) 48 [(0, aR 49), (4, aI x4), (5, aI x5), (6, aI x6), (7, aI x7)] [] (abH 2 70 g h) 0 0) : ∀ {x4 : Int} {x5 : Int} {x6 : Int} {x7 : Int} {y0 : Int} {b : Int}, nX1_leastEnd_84 h c48 x4 x5 x6 x7 y0 = some b → WK 16 (.inl (some (aI b))) σ0 (abH 2 70 g h) 84 [(0, aR 49), (4, aI x4), (5, aI x5), (6, aI x6), (7, aI x7)] [aI y0] (abH 2 70 g h) 0 0 := by
  intro x4 x5 x6 x7 y0 b q
  exact uX1_leastEnd_84 hg (fun _ _ _ _ _ q => wX1_leastEnd_139 hg k48 q) (fun _ _ _ _ _ q => wX1_leastEnd_144 hg k48 q) (fun _ _ _ _ _ q => wX1_leastEnd_148 hg k48 q) q
def bX1_leastEnd_48 (f15 : HH → Int → Int → Option Int) (h : HH) (c84 : Int → Int → Int → Int → Int → Option Int) (x4 : Int) (x5 : Int) (x6 : Int) (x7 : Int) : Option Int :=
  if x7 < ((h.1 49 2) : Int) then
    bnd (f15 h x4 x7) fun r1 =>
    if r1 = (0 : Int) then
    c84 x4 x5 x6 x7 (-1)
  else
    gd (R32 (x4 * 9)) <|
    gd (R32 ((x4 * 9) + x7)) <|
    gd ((0 : Int) ≤ ((x4 * 9) + x7) ∧ ((x4 * 9) + x7) < (4608 : Int)) <|
    c84 x4 x5 x6 x7 (h.1 51 ((x4 * 9) + x7))
  else
    if x6 = ((-1) : Int) then
    some (-1)
  else
    gd ((0 : Int) ≤ x5 ∧ x5 < (9 : Int)) <|
    gd (R32 (x6 + (h.1 19 x5))) <|
    some (x6 + (h.1 19 x5))
theorem uX1_leastEnd_48 {g : SG} (hg : GOK g) {σ0 : SG} {h : HH} {c84 : Int → Int → Int → Int → Int → Option Int} (k84 : ∀ (x4 : Int) (x5 : Int) (x6 : Int) (x7 : Int) (y0 : Int) (b : Int), c84 x4 x5 x6 x7 y0 = some b → WK 16 (.inl (some (aI b))) σ0 (abH 2 70 g h) 84 [(0, aR 49), (4, aI x4), (5, aI x5), (6, aI x6), (7, aI x7)] [aI y0] (abH 2 70 g h) 0 0) : ∀ {x4 : Int} {x5 : Int} {x6 : Int} {x7 : Int} {b : Int}, bX1_leastEnd_48 nX1_has h c84 x4 x5 x6 x7 = some b → WK 16 (.inl (some (aI b))) σ0 (abH 2 70 g h) 48 [(0, aR 49), (4, aI x4), (5, aI x5), (6, aI x6), (7, aI x7)] [] (abH 2 70 g h) 0 0 := by
  intro x4 x5 x6 x7 b q
  have e : ∀ (f15 : HH → Int → Int → Option Int) , bX1_leastEnd_48 f15 h c84 x4 x5 x6 x7 = segP 2 70 g.2.2.2.2 h krPI (clCP 15 (pX1_has f15 h) clNP) csX1_leastEnd (cuC 84 (fun l st s => tkC 0 49 l <| tkI 4 l fun x4 => tkI 5 l fun x5 => tkI 6 l fun x6 => tkI 7 l fun x7 => skI st fun y0 st => skE st (c84 x4 x5 x6 x7 y0)) cuN) 1000 48 [(0, aR 49), (4, aI x4), (5, aI x5), (6, aI x6), (7, aI x7)] [] := fun _ => rfl
  rw [e nX1_has] at q
  clear e
  refine segP_wk (by decide) (by decide) hg rwX1_leastEnd (CLKP_C (pX1_has_ok hg) CLKP_N) krPI_ok ?_ q
  clear q
  refine ct_C ?_ (ct_N)
  · intro l st _ q
    obtain ⟨m0, q1⟩ := tkC_of q
    obtain ⟨x4, m4, q2⟩ := tkI_of q1
    obtain ⟨x5, m5, q3⟩ := tkI_of q2
    obtain ⟨x6, m6, q4⟩ := tkI_of q3
    obtain ⟨x7, m7, q5⟩ := tkI_of q4
    obtain ⟨y0, t0, rfl, q6⟩ := skI_of q5
    obtain ⟨rfl, q7⟩ := skE_of q6
    exact WK_less (k84 _ _ _ _ _ _ q7) (List.forall_mem_cons.mpr ⟨m0, (List.forall_mem_cons.mpr ⟨m4, (List.forall_mem_cons.mpr ⟨m5, (List.forall_mem_cons.mpr ⟨m6, (List.forall_mem_cons.mpr ⟨m7, (fun _ h => absurd h List.not_mem_nil)⟩)⟩)⟩)⟩)⟩)
def nX1_leastEnd_48 (h : HH) : Nat → Int → Int → Int → Int → Option Int := iter (fun _ _ _ _ => none) (fun self => bX1_leastEnd_48 nX1_has h (nX1_leastEnd_84 h self))
theorem nX1_leastEnd_48_s {h : HH} {F : Nat} : nX1_leastEnd_48 h (F + 1) = bX1_leastEnd_48 nX1_has h (nX1_leastEnd_84 h (nX1_leastEnd_48 h F)) := rfl
theorem wX1_leastEnd_48 {g : SG} (hg : GOK g) {σ0 : SG} {h : HH} : ∀ {F : Nat}, ∀ {x4 : Int} {x5 : Int} {x6 : Int} {x7 : Int} {b : Int}, nX1_leastEnd_48 h F x4 x5 x6 x7 = some b → WK 16 (.inl (some (aI b))) σ0 (abH 2 70 g h) 48 [(0, aR 49), (4, aI x4), (5, aI x5), (6, aI x6), (7, aI x7)] [] (abH 2 70 g h) 0 0 := by
  intro F
  have z : ∀ (x4 : Int) (x5 : Int) (x6 : Int) (x7 : Int) (b : Int), nX1_leastEnd_48 h F x4 x5 x6 x7 = some b → WK 16 (.inl (some (aI b))) σ0 (abH 2 70 g h) 48 [(0, aR 49), (4, aI x4), (5, aI x5), (6, aI x6), (7, aI x7)] [] (abH 2 70 g h) 0 0 := iter_ind (P := fun (c : Int → Int → Int → Int → Option Int) => ∀ (x4 : Int) (x5 : Int) (x6 : Int) (x7 : Int) (b : Int), c x4 x5 x6 x7 = some b → WK 16 (.inl (some (aI b))) σ0 (abH 2 70 g h) 48 [(0, aR 49), (4, aI x4), (5, aI x5), (6, aI x6), (7, aI x7)] [] (abH 2 70 g h) 0 0) (by
    intro x4 x5 x6 x7 b q
    cases q) (fun self ih => by
    intro x4 x5 x6 x7 b q
    exact uX1_leastEnd_48 hg (fun _ _ _ _ _ _ q => wX1_leastEnd_84 hg ih q) q) F
  intro x4 x5 x6 x7 b q
  exact z _ _ _ _ _ q
def bX1_leastEnd_43 (h : HH) (c48 : Int → Int → Int → Int → Option Int) (x4 : Int) (x5 : Int) (y0 : Int) : Option Int :=
  c48 x4 x5 y0 0
theorem uX1_leastEnd_43 {g : SG} (hg : GOK g) {σ0 : SG} {h : HH} {c48 : Int → Int → Int → Int → Option Int} (k48 : ∀ (x4 : Int) (x5 : Int) (x6 : Int) (x7 : Int) (b : Int), c48 x4 x5 x6 x7 = some b → WK 16 (.inl (some (aI b))) σ0 (abH 2 70 g h) 48 [(0, aR 49), (4, aI x4), (5, aI x5), (6, aI x6), (7, aI x7)] [] (abH 2 70 g h) 0 0) : ∀ {x4 : Int} {x5 : Int} {y0 : Int} {b : Int}, bX1_leastEnd_43 h c48 x4 x5 y0 = some b → WK 16 (.inl (some (aI b))) σ0 (abH 2 70 g h) 43 [(0, aR 49), (4, aI x4), (5, aI x5)] [aI y0] (abH 2 70 g h) 0 0 := by
  intro x4 x5 y0 b q
  have e : bX1_leastEnd_43 h c48 x4 x5 y0 = segP 2 70 g.2.2.2.2 h krPI clNP csX1_leastEnd (cuC 48 (fun l st s => tkC 0 49 l <| tkI 4 l fun x4 => tkI 5 l fun x5 => tkI 6 l fun x6 => tkI 7 l fun x7 => skE st (c48 x4 x5 x6 x7)) cuN) 1000 43 [(0, aR 49), (4, aI x4), (5, aI x5)] [aI y0] := rfl
  rw [e] at q
  clear e
  refine segP_wk (by decide) (by decide) hg rwX1_leastEnd CLKP_N krPI_ok ?_ q
  clear q
  refine ct_C ?_ (ct_N)
  · intro l st _ q
    obtain ⟨m0, q1⟩ := tkC_of q
    obtain ⟨x4, m4, q2⟩ := tkI_of q1
    obtain ⟨x5, m5, q3⟩ := tkI_of q2
    obtain ⟨x6, m6, q4⟩ := tkI_of q3
    obtain ⟨x7, m7, q5⟩ := tkI_of q4
    obtain ⟨rfl, q6⟩ := skE_of q5
    exact WK_less (k48 _ _ _ _ _ q6) (List.forall_mem_cons.mpr ⟨m0, (List.forall_mem_cons.mpr ⟨m4, (List.forall_mem_cons.mpr ⟨m5, (List.forall_mem_cons.mpr ⟨m6, (List.forall_mem_cons.mpr ⟨m7, (fun _ h => absurd h List.not_mem_nil)⟩)⟩)⟩)⟩)⟩)
def nX1_leastEnd_43 (h : HH) (x4 : Int) (x5 : Int) (y0 : Int) : Option Int := bX1_leastEnd_43 h (nX1_leastEnd_48 h 100000) x4 x5 y0
theorem wX1_leastEnd_43 {g : SG} (hg : GOK g) {σ0 : SG} {h : HH} : ∀ {x4 : Int} {x5 : Int} {y0 : Int} {b : Int}, nX1_leastEnd_43 h x4 x5 y0 = some b → WK 16 (.inl (some (aI b))) σ0 (abH 2 70 g h) 43 [(0, aR 49), (4, aI x4), (5, aI x5)] [aI y0] (abH 2 70 g h) 0 0 := by
  intro x4 x5 y0 b q
  exact uX1_leastEnd_43 hg (fun _ _ _ _ _ q => wX1_leastEnd_48 hg q) q
def bX1_leastEnd (f28 : HH → Int → Int → Int → Option Int) (h : HH) (c43 : Int → Int → Int → Option Int) (x1 : Int) (x2 : Int) (x3 : Int) : Option Int :=
  gd ((0 : Int) ≤ x3 ∧ x3 < (9 : Int)) <|
    if (xorI x2 (shlI 1 x3)) = (0 : Int) then
    gd ((0 : Int) ≤ x1 ∧ x1 < (3 : Int)) <|
    bnd (f28 h (h.1 50 x3) 0 (h.1 24 x1)) fun r1 =>
    c43 (xorI x2 (shlI 1 x3)) (h.1 50 x3) r1
  else
    c43 (xorI x2 (shlI 1 x3)) (h.1 50 x3) (-1)
theorem uX1_leastEnd {g : SG} (hg : GOK g) {σ0 : SG} {h : HH} {c43 : Int → Int → Int → Option Int} (k43 : ∀ (x4 : Int) (x5 : Int) (y0 : Int) (b : Int), c43 x4 x5 y0 = some b → WK 16 (.inl (some (aI b))) σ0 (abH 2 70 g h) 43 [(0, aR 49), (4, aI x4), (5, aI x5)] [aI y0] (abH 2 70 g h) 0 0) : ∀ {x1 : Int} {x2 : Int} {x3 : Int} {b : Int}, bX1_leastEnd nX2_serveAt h c43 x1 x2 x3 = some b → WK 16 (.inl (some (aI b))) σ0 (abH 2 70 g h) 0 [(0, aR 49), (1, aI x1), (2, aI x2), (3, aI x3)] [] (abH 2 70 g h) 0 0 := by
  intro x1 x2 x3 b q
  have e : ∀ (f28 : HH → Int → Int → Int → Option Int) , bX1_leastEnd f28 h c43 x1 x2 x3 = segP 2 70 g.2.2.2.2 h krPI (clCP 28 (pX2_serveAt f28 h) clNP) csX1_leastEnd (cuC 43 (fun l st s => tkC 0 49 l <| tkI 4 l fun x4 => tkI 5 l fun x5 => skI st fun y0 st => skE st (c43 x4 x5 y0)) cuN) 1000 0 [(0, aR 49), (1, aI x1), (2, aI x2), (3, aI x3)] [] := fun _ => rfl
  rw [e nX2_serveAt] at q
  clear e
  refine segP_wk (by decide) (by decide) hg rwX1_leastEnd (CLKP_C (pX2_serveAt_ok hg) CLKP_N) krPI_ok ?_ q
  clear q
  refine ct_C ?_ (ct_N)
  · intro l st _ q
    obtain ⟨m0, q1⟩ := tkC_of q
    obtain ⟨x4, m4, q2⟩ := tkI_of q1
    obtain ⟨x5, m5, q3⟩ := tkI_of q2
    obtain ⟨y0, t0, rfl, q4⟩ := skI_of q3
    obtain ⟨rfl, q5⟩ := skE_of q4
    exact WK_less (k43 _ _ _ _ q5) (List.forall_mem_cons.mpr ⟨m0, (List.forall_mem_cons.mpr ⟨m4, (List.forall_mem_cons.mpr ⟨m5, (fun _ h => absurd h List.not_mem_nil)⟩)⟩)⟩)
def nX1_leastEnd (h : HH) (x1 : Int) (x2 : Int) (x3 : Int) : Option Int := bX1_leastEnd nX2_serveAt h (nX1_leastEnd_43 h) x1 x2 x3
theorem wX1_leastEnd {g : SG} (hg : GOK g) {σ0 : SG} {h : HH} : ∀ {x1 : Int} {x2 : Int} {x3 : Int} {b : Int}, nX1_leastEnd h x1 x2 x3 = some b → WK 16 (.inl (some (aI b))) σ0 (abH 2 70 g h) 0 [(0, aR 49), (1, aI x1), (2, aI x2), (3, aI x3)] [] (abH 2 70 g h) 0 0 := by
  intro x1 x2 x3 b q
  exact uX1_leastEnd hg (fun _ _ _ _ q => wX1_leastEnd_43 hg q) q
theorem mX1_leastEnd {g : SG} (hg : GOK g) {h : HH} {x1 : Int} {x2 : Int} {x3 : Int} {b : Int} (q : nX1_leastEnd h x1 x2 x3 = some b) : MCT 16 [] [aR 49, aI x1, aI x2, aI x3] (abH 2 70 g h) (.inl (some (aI b))) (abH 2 70 g h) :=
  mct_of (by decide) (MFok 16 (by decide +kernel)) (fun _ => Nat.le_of_ble_eq_true rfl) (wX1_leastEnd hg q)
def pX1_leastEnd {β : Type} (z : HH → Int → Int → Int → Option Int) : PP β := fun h as f => skC 49 as fun as => skI as fun x1 as => skI as fun x2 as => skI as fun x3 as => skE as (bnd (z h x1 x2 x3) fun r => f (.inl (some (aI r))))
theorem pX1_leastEnd_ok {β : Type} {g : SG} (hg : GOK g) : CP1 (β := β) 16 (pX1_leastEnd nX1_leastEnd) 2 70 g := fun h as f b q => by
  obtain ⟨as, rfl, q1⟩ := skC_of q
  obtain ⟨x1, as, rfl, q2⟩ := skI_of q1
  obtain ⟨x2, as, rfl, q3⟩ := skI_of q2
  obtain ⟨x3, as, rfl, q4⟩ := skI_of q3
  obtain ⟨rfl, q0⟩ := skE_of q4
  obtain ⟨r, z1, z2⟩ := bnd_of q0
  exact ⟨_, z2, by decide, mX1_leastEnd hg z1, rfl, rfl, fun z => absurd z (by decide)⟩
def csX1_drive : List (Nat × List (Nat × ARow)) := [(39, [(0, 1, .iconst 1, 0, 0, 0), (1, 1, .istore_n 2, 0, 0, 0), (2, 1, .iload_n 2, 0, 0, 0), (3, 1, .aload_n 0, 0, 0, 0), (4, 3, .invokevirtual 29, 13, 1, 1), (7, 3, .if_icmp .gt 51, 58, 0, 0), (10, 1, .iconst 0, 0, 0, 0), (11, 1, .istore_n 3, 0, 0, 0), (12, 1, .iload_n 3, 0, 0, 0), (13, 1, .aload_n 0, 0, 0, 0), (14, 3, .getfield 25, 1, 2, 0), (17, 3, .if_icmp .ge 35, 52, 0, 0), (20, 1, .iload_n 2, 0, 0, 0), (21, 1, .iload_n 3, 0, 0, 0), (22, 3, .invokestatic 33, 15, 2, 0), (25, 3, .ifCond .eq 21, 46, 0, 0), (28, 1, .aload_n 0, 0, 0, 0), (29, 3, .getfield 15, 1, 3, 2), (32, 1, .iload_n 2, 0, 0, 0), (33, 2, .bipush 9, 0, 0, 0), (35, 1, .imul, 0, 0, 0), (36, 1, .iload_n 3, 0, 0, 0), (37, 1, .iadd, 0, 0, 0), (38, 1, .aload_n 0, 0, 0, 0)]),
  (100000, [(39, 1, .iload_n 1, 0, 0, 0), (40, 1, .iload_n 2, 0, 0, 0), (41, 1, .iload_n 3, 0, 0, 0), (42, 3, .invokevirtual 37, 16, 4, 1), (45, 1, .iastore, 0, 0, 0), (46, 3, .iinc 3 1, 0, 0, 0), (49, 3, .goto (-37), 12, 0, 0), (52, 3, .iinc 2 1, 0, 0, 0), (55, 3, .goto (-53), 2, 0, 0), (58, 1, .return_, 0, 0, 0)])]
theorem rwX1_drive : rowsB (mB 14) (mO 14) (mX 14) (mIni 14) (mFr 14) (mLo 14) (mT 14) csX1_drive = true := by decide +kernel
def bX1_drive_46 (c12 : Int → Int → Int → HH → Option HH) (x1 : Int) (x2 : Int) (x3 : Int) (h : HH) : Option HH :=
  gd (R32 (x3 + 1)) <|
    c12 x1 x2 (x3 + 1) h
theorem uX1_drive_46 {g : SG} (hg : GOK g) {σ0 : SG} {c12 : Int → Int → Int → HH → Option HH} (k12 : ∀ (x1 : Int) (x2 : Int) (x3 : Int) (h : HH) (b : HH), c12 x1 x2 x3 h = some b → WK 14 (.inl none) σ0 (abH 2 70 g b) 12 [(0, aR 49), (1, aI x1), (2, aI x2), (3, aI x3)] [] (abH 2 70 g h) 0 0) : ∀ {x1 : Int} {x2 : Int} {x3 : Int} {h : HH} {b : HH}, bX1_drive_46 c12 x1 x2 x3 h = some b → WK 14 (.inl none) σ0 (abH 2 70 g b) 46 [(0, aR 49), (1, aI x1), (2, aI x2), (3, aI x3)] [] (abH 2 70 g h) 0 0 := by
  intro x1 x2 x3 h b q
  have e : bX1_drive_46 c12 x1 x2 x3 h = segW 2 70 g.2.2.2.2 krWV clN csX1_drive (cuC 12 (fun l st s => tkC 0 49 l <| tkI 1 l fun x1 => tkI 2 l fun x2 => tkI 3 l fun x3 => skE st (c12 x1 x2 x3 s)) cuN) 1000 46 [(0, aR 49), (1, aI x1), (2, aI x2), (3, aI x3)] [] h := rfl
  rw [e] at q
  clear e
  refine segW_wk (by decide) (by decide) hg rwX1_drive CLKW_N krWV_ok ?_ q
  clear q
  refine ct_C ?_ (ct_N)
  · intro l st h q
    obtain ⟨m0, q1⟩ := tkC_of q
    obtain ⟨x1, m1, q2⟩ := tkI_of q1
    obtain ⟨x2, m2, q3⟩ := tkI_of q2
    obtain ⟨x3, m3, q4⟩ := tkI_of q3
    obtain ⟨rfl, q5⟩ := skE_of q4
    exact WK_less (k12 _ _ _ _ _ q5) (List.forall_mem_cons.mpr ⟨m0, (List.forall_mem_cons.mpr ⟨m1, (List.forall_mem_cons.mpr ⟨m2, (List.forall_mem_cons.mpr ⟨m3, (fun _ h => absurd h List.not_mem_nil)⟩)⟩)⟩)⟩)
def nX1_drive_46 (c2 : Int → Int → HH → Option HH) (c12 : Int → Int → Int → HH → Option HH) (x1 : Int) (x2 : Int) (x3 : Int) (h : HH) : Option HH := bX1_drive_46 c12 x1 x2 x3 h
theorem wX1_drive_46 {g : SG} (hg : GOK g) {σ0 : SG} {c2 : Int → Int → HH → Option HH} {c12 : Int → Int → Int → HH → Option HH} (k2 : ∀ (x1 : Int) (x2 : Int) (h : HH) (b : HH), c2 x1 x2 h = some b → WK 14 (.inl none) σ0 (abH 2 70 g b) 2 [(0, aR 49), (1, aI x1), (2, aI x2)] [] (abH 2 70 g h) 0 0) (k12 : ∀ (x1 : Int) (x2 : Int) (x3 : Int) (h : HH) (b : HH), c12 x1 x2 x3 h = some b → WK 14 (.inl none) σ0 (abH 2 70 g b) 12 [(0, aR 49), (1, aI x1), (2, aI x2), (3, aI x3)] [] (abH 2 70 g h) 0 0) : ∀ {x1 : Int} {x2 : Int} {x3 : Int} {h : HH} {b : HH}, nX1_drive_46 c2 c12 x1 x2 x3 h = some b → WK 14 (.inl none) σ0 (abH 2 70 g b) 46 [(0, aR 49), (1, aI x1), (2, aI x2), (3, aI x3)] [] (abH 2 70 g h) 0 0 := by
  intro x1 x2 x3 h b q
  exact uX1_drive_46 hg k12 q
def bX1_drive_12 (f15 : HH → Int → Int → Option Int) (f16 : HH → Int → Int → Int → Option Int) (c2 : Int → Int → HH → Option HH) (c46 : Int → Int → Int → HH → Option HH) (x1 : Int) (x2 : Int) (x3 : Int) (h : HH) : Option HH :=
  if x3 < ((h.1 49 2) : Int) then
    bnd (f15 h x2 x3) fun r1 =>
    if r1 = (0 : Int) then
    c46 x1 x2 x3 h
  else
    gd (R32 (x2 * 9)) <|
    gd (R32 ((x2 * 9) + x3)) <|
    bnd (f16 h x1 x2 x3) fun r2 =>
    gd ((0 : Int) ≤ ((x2 * 9) + x3) ∧ ((x2 * 9) + x3) < (4608 : Int)) <|
    bnd (some (hI h 51 ((x2 * 9) + x3) r2)) fun h3 =>
    c46 x1 x2 x3 h3
  else
    gd (R32 (x2 + 1)) <|
    c2 x1 (x2 + 1) h
theorem uX1_drive_12 {g : SG} (hg : GOK g) {σ0 : SG} {c2 : Int → Int → HH → Option HH} {c46 : Int → Int → Int → HH → Option HH} (k2 : ∀ (x1 : Int) (x2 : Int) (h : HH) (b : HH), c2 x1 x2 h = some b → WK 14 (.inl none) σ0 (abH 2 70 g b) 2 [(0, aR 49), (1, aI x1), (2, aI x2)] [] (abH 2 70 g h) 0 0) (k46 : ∀ (x1 : Int) (x2 : Int) (x3 : Int) (h : HH) (b : HH), c46 x1 x2 x3 h = some b → WK 14 (.inl none) σ0 (abH 2 70 g b) 46 [(0, aR 49), (1, aI x1), (2, aI x2), (3, aI x3)] [] (abH 2 70 g h) 0 0) : ∀ {x1 : Int} {x2 : Int} {x3 : Int} {h : HH} {b : HH}, bX1_drive_12 nX1_has nX1_leastEnd c2 c46 x1 x2 x3 h = some b → WK 14 (.inl none) σ0 (abH 2 70 g b) 12 [(0, aR 49), (1, aI x1), (2, aI x2), (3, aI x3)] [] (abH 2 70 g h) 0 0 := by
  intro x1 x2 x3 h b q
  have e : ∀ (f15 : HH → Int → Int → Option Int) (f16 : HH → Int → Int → Int → Option Int) , bX1_drive_12 f15 f16 c2 c46 x1 x2 x3 h = segW 2 70 g.2.2.2.2 krWV (clC 15 (liPW (pX1_has f15)) (clC 16 (liPW (pX1_leastEnd f16)) clN)) csX1_drive (cuC 2 (fun l st s => tkC 0 49 l <| tkI 1 l fun x1 => tkI 2 l fun x2 => skE st (c2 x1 x2 s)) (cuC 46 (fun l st s => tkC 0 49 l <| tkI 1 l fun x1 => tkI 2 l fun x2 => tkI 3 l fun x3 => skE st (c46 x1 x2 x3 s)) cuN)) 1000 12 [(0, aR 49), (1, aI x1), (2, aI x2), (3, aI x3)] [] h := fun _ _ => rfl
  rw [e nX1_has nX1_leastEnd] at q
  clear e
  refine segW_wk (by decide) (by decide) hg rwX1_drive (CLKW_C (liPW_ok (pX1_has_ok hg)) (CLKW_C (liPW_ok (pX1_leastEnd_ok hg)) CLKW_N)) krWV_ok ?_ q
  clear q
  refine ct_C ?_ (ct_C ?_ (ct_N))
  · intro l st h q
    obtain ⟨m0, q1⟩ := tkC_of q
    obtain ⟨x1, m1, q2⟩ := tkI_of q1
    obtain ⟨x2, m2, q3⟩ := tkI_of q2
    obtain ⟨rfl, q4⟩ := skE_of q3
    exact WK_less (k2 _ _ _ _ q4) (List.forall_mem_cons.mpr ⟨m0, (List.forall_mem_cons.mpr ⟨m1, (List.forall_mem_cons.mpr ⟨m2, (fun _ h => absurd h List.not_mem_nil)⟩)⟩)⟩)
  · intro l st h q
    obtain ⟨m0, q1⟩ := tkC_of q
    obtain ⟨x1, m1, q2⟩ := tkI_of q1
    obtain ⟨x2, m2, q3⟩ := tkI_of q2
    obtain ⟨x3, m3, q4⟩ := tkI_of q3
    obtain ⟨rfl, q5⟩ := skE_of q4
    exact WK_less (k46 _ _ _ _ _ q5) (List.forall_mem_cons.mpr ⟨m0, (List.forall_mem_cons.mpr ⟨m1, (List.forall_mem_cons.mpr ⟨m2, (List.forall_mem_cons.mpr ⟨m3, (fun _ h => absurd h List.not_mem_nil)⟩)⟩)⟩)⟩)
def nX1_drive_12 (c2 : Int → Int → HH → Option HH) : Nat → Int → Int → Int → HH → Option HH := iter (fun _ _ _ _ => none) (fun self => bX1_drive_12 nX1_has nX1_leastEnd c2 (nX1_drive_46 c2 self))
theorem nX1_drive_12_s {c2 : Int → Int → HH → Option HH} {F : Nat} : nX1_drive_12 c2 (F + 1) = bX1_drive_12 nX1_has nX1_leastEnd c2 (nX1_drive_46 c2 (nX1_drive_12 c2 F)) := rfl
theorem wX1_drive_12 {g : SG} (hg : GOK g) {σ0 : SG} {c2 : Int → Int → HH → Option HH} (k2 : ∀ (x1 : Int) (x2 : Int) (h : HH) (b : HH), c2 x1 x2 h = some b → WK 14 (.inl none) σ0 (abH 2 70 g b) 2 [(0, aR 49), (1, aI x1), (2, aI x2)] [] (abH 2 70 g h) 0 0) : ∀ {F : Nat}, ∀ {x1 : Int} {x2 : Int} {x3 : Int} {h : HH} {b : HH}, nX1_drive_12 c2 F x1 x2 x3 h = some b → WK 14 (.inl none) σ0 (abH 2 70 g b) 12 [(0, aR 49), (1, aI x1), (2, aI x2), (3, aI x3)] [] (abH 2 70 g h) 0 0 := by
  intro F
  have z : ∀ (x1 : Int) (x2 : Int) (x3 : Int) (h : HH) (b : HH), nX1_drive_12 c2 F x1 x2 x3 h = some b → WK 14 (.inl none) σ0 (abH 2 70 g b) 12 [(0, aR 49), (1, aI x1), (2, aI x2), (3, aI x3)] [] (abH 2 70 g h) 0 0 := iter_ind (P := fun (c : Int → Int → Int → HH → Option HH) => ∀ (x1 : Int) (x2 : Int) (x3 : Int) (h : HH) (b : HH), c x1 x2 x3 h = some b → WK 14 (.inl none) σ0 (abH 2 70 g b) 12 [(0, aR 49), (1, aI x1), (2, aI x2), (3, aI x3)] [] (abH 2 70 g h) 0 0) (by
    intro x1 x2 x3 h b q
    cases q) (fun self ih => by
    intro x1 x2 x3 h b q
    exact uX1_drive_12 hg k2 (fun _ _ _ _ _ q => wX1_drive_46 hg k2 ih q) q) F
  intro x1 x2 x3 h b q
  exact z _ _ _ _ _ q
def bX1_drive_2 (f13 : HH → Option Int) (c12 : Int → Int → Int → HH → Option HH) (x1 : Int) (x2 : Int) (h : HH) : Option HH :=
  bnd (f13 h) fun r1 =>
    if (r1 : Int) < x2 then
    some h
  else
    c12 x1 x2 0 h
theorem uX1_drive_2 {g : SG} (hg : GOK g) {σ0 : SG} {c12 : Int → Int → Int → HH → Option HH} (k12 : ∀ (x1 : Int) (x2 : Int) (x3 : Int) (h : HH) (b : HH), c12 x1 x2 x3 h = some b → WK 14 (.inl none) σ0 (abH 2 70 g b) 12 [(0, aR 49), (1, aI x1), (2, aI x2), (3, aI x3)] [] (abH 2 70 g h) 0 0) : ∀ {x1 : Int} {x2 : Int} {h : HH} {b : HH}, bX1_drive_2 nX1_all c12 x1 x2 h = some b → WK 14 (.inl none) σ0 (abH 2 70 g b) 2 [(0, aR 49), (1, aI x1), (2, aI x2)] [] (abH 2 70 g h) 0 0 := by
  intro x1 x2 h b q
  have e : ∀ (f13 : HH → Option Int) , bX1_drive_2 f13 c12 x1 x2 h = segW 2 70 g.2.2.2.2 krWV (clC 13 (liPW (pX1_all f13)) clN) csX1_drive (cuC 12 (fun l st s => tkC 0 49 l <| tkI 1 l fun x1 => tkI 2 l fun x2 => tkI 3 l fun x3 => skE st (c12 x1 x2 x3 s)) cuN) 1000 2 [(0, aR 49), (1, aI x1), (2, aI x2)] [] h := fun _ => rfl
  rw [e nX1_all] at q
  clear e
  refine segW_wk (by decide) (by decide) hg rwX1_drive (CLKW_C (liPW_ok (pX1_all_ok hg)) CLKW_N) krWV_ok ?_ q
  clear q
  refine ct_C ?_ (ct_N)
  · intro l st h q
    obtain ⟨m0, q1⟩ := tkC_of q
    obtain ⟨x1, m1, q2⟩ := tkI_of q1
    obtain ⟨x2, m2, q3⟩ := tkI_of q2
    obtain ⟨x3, m3, q4⟩ := tkI_of q3
    obtain ⟨rfl, q5⟩ := skE_of q4
    exact WK_less (k12 _ _ _ _ _ q5) (List.forall_mem_cons.mpr ⟨m0, (List.forall_mem_cons.mpr ⟨m1, (List.forall_mem_cons.mpr ⟨m2, (List.forall_mem_cons.mpr ⟨m3, (fun _ h => absurd h List.not_mem_nil)⟩)⟩)⟩)⟩)
def nX1_drive_2 : Nat → Int → Int → HH → Option HH := iter (fun _ _ _ => none) (fun self => bX1_drive_2 nX1_all (nX1_drive_12 self 100000))
theorem nX1_drive_2_s {F : Nat} : nX1_drive_2 (F + 1) = bX1_drive_2 nX1_all (nX1_drive_12 (nX1_drive_2 F) 100000) := rfl
theorem wX1_drive_2 {g : SG} (hg : GOK g) {σ0 : SG} : ∀ {F : Nat}, ∀ {x1 : Int} {x2 : Int} {h : HH} {b : HH}, nX1_drive_2 F x1 x2 h = some b → WK 14 (.inl none) σ0 (abH 2 70 g b) 2 [(0, aR 49), (1, aI x1), (2, aI x2)] [] (abH 2 70 g h) 0 0 := by
  intro F
  have z : ∀ (x1 : Int) (x2 : Int) (h : HH) (b : HH), nX1_drive_2 F x1 x2 h = some b → WK 14 (.inl none) σ0 (abH 2 70 g b) 2 [(0, aR 49), (1, aI x1), (2, aI x2)] [] (abH 2 70 g h) 0 0 := iter_ind (P := fun (c : Int → Int → HH → Option HH) => ∀ (x1 : Int) (x2 : Int) (h : HH) (b : HH), c x1 x2 h = some b → WK 14 (.inl none) σ0 (abH 2 70 g b) 2 [(0, aR 49), (1, aI x1), (2, aI x2)] [] (abH 2 70 g h) 0 0) (by
    intro x1 x2 h b q
    cases q) (fun self ih => by
    intro x1 x2 h b q
    exact uX1_drive_2 hg (fun _ _ _ _ _ q => wX1_drive_12 hg ih q) q) F
  intro x1 x2 h b q
  exact z _ _ _ _ q
def bX1_drive (c2 : Int → Int → HH → Option HH) (x1 : Int) (h : HH) : Option HH :=
  c2 x1 1 h
theorem uX1_drive {g : SG} (hg : GOK g) {σ0 : SG} {c2 : Int → Int → HH → Option HH} (k2 : ∀ (x1 : Int) (x2 : Int) (h : HH) (b : HH), c2 x1 x2 h = some b → WK 14 (.inl none) σ0 (abH 2 70 g b) 2 [(0, aR 49), (1, aI x1), (2, aI x2)] [] (abH 2 70 g h) 0 0) : ∀ {x1 : Int} {h : HH} {b : HH}, bX1_drive c2 x1 h = some b → WK 14 (.inl none) σ0 (abH 2 70 g b) 0 [(0, aR 49), (1, aI x1)] [] (abH 2 70 g h) 0 0 := by
  intro x1 h b q
  have e : bX1_drive c2 x1 h = segW 2 70 g.2.2.2.2 krWV clN csX1_drive (cuC 2 (fun l st s => tkC 0 49 l <| tkI 1 l fun x1 => tkI 2 l fun x2 => skE st (c2 x1 x2 s)) cuN) 1000 0 [(0, aR 49), (1, aI x1)] [] h := rfl
  rw [e] at q
  clear e
  refine segW_wk (by decide) (by decide) hg rwX1_drive CLKW_N krWV_ok ?_ q
  clear q
  refine ct_C ?_ (ct_N)
  · intro l st h q
    obtain ⟨m0, q1⟩ := tkC_of q
    obtain ⟨x1, m1, q2⟩ := tkI_of q1
    obtain ⟨x2, m2, q3⟩ := tkI_of q2
    obtain ⟨rfl, q4⟩ := skE_of q3
    exact WK_less (k2 _ _ _ _ q4) (List.forall_mem_cons.mpr ⟨m0, (List.forall_mem_cons.mpr ⟨m1, (List.forall_mem_cons.mpr ⟨m2, (fun _ h => absurd h List.not_mem_nil)⟩)⟩)⟩)
def nX1_drive (x1 : Int) (h : HH) : Option HH := bX1_drive (nX1_drive_2 100000) x1 h
theorem wX1_drive {g : SG} (hg : GOK g) {σ0 : SG} : ∀ {x1 : Int} {h : HH} {b : HH}, nX1_drive x1 h = some b → WK 14 (.inl none) σ0 (abH 2 70 g b) 0 [(0, aR 49), (1, aI x1)] [] (abH 2 70 g h) 0 0 := by
  intro x1 h b q
  exact uX1_drive hg (fun _ _ _ _ q => wX1_drive_2 hg q) q
theorem mX1_drive {g : SG} (hg : GOK g) {h : HH} {x1 : Int} {b : HH} (q : nX1_drive x1 h = some b) : MCT 14 [] [aR 49, aI x1] (abH 2 70 g h) (.inl none) (abH 2 70 g b) :=
  mct_of (by decide) (MFok 14 (by decide +kernel)) (fun _ => Nat.le_of_ble_eq_true rfl) (wX1_drive hg q)
def pX1_drive {β : Type} (z : Int → HH → Option HH) : PW β := fun as h f => skC 49 as fun as => skI as fun x1 as => skE as (bnd (z x1 h) fun r => f (.inl none) r)
theorem pX1_drive_ok {β : Type} {g : SG} (hg : GOK g) : CW1 (β := β) 14 (pX1_drive nX1_drive) 2 70 g := fun as h f b q => by
  obtain ⟨as, rfl, q1⟩ := skC_of q
  obtain ⟨x1, as, rfl, q2⟩ := skI_of q1
  obtain ⟨rfl, q0⟩ := skE_of q2
  obtain ⟨r, z1, z2⟩ := bnd_of q0
  exact ⟨_, _, z2, by decide, mX1_drive hg z1, rfl, rfl, fun z => absurd z (by decide)⟩
def csX1_homeFrom : List (Nat × List (Nat × ARow)) := [(100000, [(0, 1, .aload_n 0, 0, 0, 0), (1, 3, .getfield 21, 1, 0, 2), (4, 3, .getfield 71, 2, 0, 2), (7, 1, .aload_n 0, 0, 0, 0), (8, 3, .getfield 21, 1, 0, 2), (11, 3, .getfield 49, 2, 1, 2), (14, 1, .aload_n 0, 0, 0, 0), (15, 3, .getfield 9, 1, 1, 2), (18, 1, .iload_n 1, 0, 0, 0), (19, 1, .iaload, 0, 0, 0), (20, 1, .iaload, 0, 0, 0), (21, 1, .iconst 0, 0, 0, 0), (22, 3, .invokevirtual 75, 87, 3, 9), (25, 1, .ireturn, 0, 0, 0)])]
theorem rwX1_homeFrom : rowsB (mB 19) (mO 19) (mX 19) (mIni 19) (mFr 19) (mLo 19) (mT 19) csX1_homeFrom = true := by decide +kernel
def bX1_homeFrom (f87 : HH → Int → Int → Option Int) (h : HH) (x1 : Int) : Option Int :=
  gd ((0 : Int) ≤ x1 ∧ x1 < (9 : Int)) <|
    gd ((0 : Int) ≤ (h.1 50 x1) ∧ (h.1 50 x1) < (9 : Int)) <|
    bnd (f87 h (h.1 14 (h.1 50 x1)) 0) fun r1 =>
    some r1
theorem uX1_homeFrom {g : SG} (hg : GOK g) {σ0 : SG} {h : HH} : ∀ {x1 : Int} {b : Int}, bX1_homeFrom nX9_minutesOf h x1 = some b → WK 19 (.inl (some (aI b))) σ0 (abH 2 70 g h) 0 [(0, aR 49), (1, aI x1)] [] (abH 2 70 g h) 0 0 := by
  intro x1 b q
  have e : ∀ (f87 : HH → Int → Int → Option Int) , bX1_homeFrom f87 h x1 = segP 2 70 g.2.2.2.2 h krPI (clCP 87 (pX9_minutesOf f87 h) clNP) csX1_homeFrom cuN 1000 0 [(0, aR 49), (1, aI x1)] [] := fun _ => rfl
  rw [e nX9_minutesOf] at q
  clear e
  refine segP_wk (by decide) (by decide) hg rwX1_homeFrom (CLKP_C (pX9_minutesOf_ok hg) CLKP_N) krPI_ok ?_ q
  clear q
  exact ct_N
def nX1_homeFrom (h : HH) (x1 : Int) : Option Int := bX1_homeFrom nX9_minutesOf h x1
theorem wX1_homeFrom {g : SG} (hg : GOK g) {σ0 : SG} {h : HH} : ∀ {x1 : Int} {b : Int}, nX1_homeFrom h x1 = some b → WK 19 (.inl (some (aI b))) σ0 (abH 2 70 g h) 0 [(0, aR 49), (1, aI x1)] [] (abH 2 70 g h) 0 0 := by
  intro x1 b q
  exact uX1_homeFrom hg q
theorem mX1_homeFrom {g : SG} (hg : GOK g) {h : HH} {x1 : Int} {b : Int} (q : nX1_homeFrom h x1 = some b) : MCT 19 [] [aR 49, aI x1] (abH 2 70 g h) (.inl (some (aI b))) (abH 2 70 g h) :=
  mct_of (by decide) (MFok 19 (by decide +kernel)) (fun _ => Nat.le_of_ble_eq_true rfl) (wX1_homeFrom hg q)
def pX1_homeFrom {β : Type} (z : HH → Int → Option Int) : PP β := fun h as f => skC 49 as fun as => skI as fun x1 as => skE as (bnd (z h x1) fun r => f (.inl (some (aI r))))
theorem pX1_homeFrom_ok {β : Type} {g : SG} (hg : GOK g) : CP1 (β := β) 19 (pX1_homeFrom nX1_homeFrom) 2 70 g := fun h as f b q => by
  obtain ⟨as, rfl, q1⟩ := skC_of q
  obtain ⟨x1, as, rfl, q2⟩ := skI_of q1
  obtain ⟨rfl, q0⟩ := skE_of q2
  obtain ⟨r, z1, z2⟩ := bnd_of q0
  exact ⟨_, z2, by decide, mX1_homeFrom hg z1, rfl, rfl, fun z => absurd z (by decide)⟩
