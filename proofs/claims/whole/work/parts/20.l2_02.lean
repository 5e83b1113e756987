def csX3_restore : List (Nat × List (Nat × ARow)) := [(36, [(0, 1, .aload_n 0, 0, 0, 0), (1, 1, .dup, 0, 0, 0), (2, 3, .getfield 15, 3, 2, 0), (5, 1, .iconst 1, 0, 0, 0), (6, 1, .isub, 0, 0, 0), (7, 3, .putfield 15, 3, 2, 0), (10, 1, .aload_n 0, 0, 0, 0), (11, 3, .getfield 19, 3, 1, 0), (14, 1, .aload_n 0, 0, 0, 0), (15, 3, .getfield 15, 3, 2, 0), (18, 1, .iadd, 0, 0, 0), (19, 2, .bipush 20, 0, 0, 0), (21, 1, .irem, 0, 0, 0), (22, 2, .bipush 12, 0, 0, 0), (24, 1, .imul, 0, 0, 0), (25, 1, .istore_n 2, 0, 0, 0), (26, 1, .iload_n 2, 0, 0, 0), (27, 1, .iconst 3, 0, 0, 0), (28, 1, .iadd, 0, 0, 0), (29, 1, .istore_n 3, 0, 0, 0), (30, 1, .iconst 0, 0, 0, 0), (31, 2, .istore 4, 0, 0, 0), (33, 2, .iload 4, 0, 0, 0), (35, 1, .iconst 3, 0, 0, 0)]),
  (78, [(36, 3, .if_icmp .ge 58, 94, 0, 0), (39, 1, .aload_n 1, 0, 0, 0), (40, 3, .getfield 22, 6, 2, 2), (43, 2, .iload 4, 0, 0, 0), (45, 1, .aload_n 0, 0, 0, 0), (46, 3, .getfield 11, 3, 0, 2), (49, 1, .iload_n 2, 0, 0, 0), (50, 2, .iload 4, 0, 0, 0), (52, 1, .iadd, 0, 0, 0), (53, 1, .iaload, 0, 0, 0), (54, 1, .iastore, 0, 0, 0), (55, 1, .aload_n 0, 0, 0, 0), (56, 3, .getfield 11, 3, 0, 2), (59, 1, .iload_n 3, 0, 0, 0), (60, 1, .aload_n 1, 0, 0, 0), (61, 3, .getfield 27, 6, 1, 2), (64, 2, .iload 4, 0, 0, 0), (66, 1, .aaload, 0, 0, 0), (67, 1, .iconst 0, 0, 0, 0), (68, 1, .aload_n 1, 0, 0, 0), (69, 3, .getfield 22, 6, 2, 2), (72, 2, .iload 4, 0, 0, 0), (74, 1, .iaload, 0, 0, 0), (75, 3, .invokestatic 31, 1003, 5, 0)]),
  (100000, [(78, 1, .iload_n 3, 0, 0, 0), (79, 1, .aload_n 1, 0, 0, 0), (80, 3, .getfield 22, 6, 2, 2), (83, 2, .iload 4, 0, 0, 0), (85, 1, .iaload, 0, 0, 0), (86, 1, .iadd, 0, 0, 0), (87, 1, .istore_n 3, 0, 0, 0), (88, 3, .iinc 4 1, 0, 0, 0), (91, 3, .goto (-58), 33, 0, 0), (94, 1, .return_, 0, 0, 0)])]
theorem rwX3_restore : rowsB (mB 33) (mO 33) (mX 33) (mIni 33) (mFr 33) (mLo 33) (mT 33) csX3_restore = true := by decide +kernel
def bX3_restore_33 (c33 : Int → Int → Int → HH → Option HH) (x2 : Int) (x3 : Int) (x4 : Int) (h : HH) : Option HH :=
  if x4 < (3 : Int) then
    gd (R32 (x2 + x4)) <|
    gd ((0 : Int) ≤ (x2 + x4) ∧ (x2 + x4) < (240 : Int)) <|
    gd ((0 : Int) ≤ x4 ∧ x4 < (3 : Int)) <|
    bnd (some (hI h 31 x4 (h.1 33 (x2 + x4)))) fun h1 =>
    gd ((0 : Int) ≤ x4 ∧ x4 < (3 : Int)) <|
    bif Nat.beq (rwK 3 28 x4) 0 then none else
    gd ((0 : Int) ≤ x4 ∧ x4 < (3 : Int)) <|
    bif (okS 2 70 33 0 && okS 2 70 (rwK 3 28 x4) 0) && true then
    gd ((0 : Int) ≤ (h1.1 31 x4) ∧ (0 : Int) ≤ x3 ∧ (0 : Int) ≤ 0 ∧ x3 + (h1.1 31 x4) ≤ (240 : Int) ∧ 0 + (h1.1 31 x4) ≤ ((lnK (rwK 3 28 x4)) : Int)) <|
    bnd (bif inS 2 70 (rwK 3 28 x4) then some (hC h1 (rwK 3 28 x4) (fun j => if 0 ≤ j ∧ j < 0 + (h1.1 31 x4) then h1.1 33 (x3 + (j - 0)) else h1.1 (rwK 3 28 x4) j)) else none) fun h2 =>
    gd ((0 : Int) ≤ x4 ∧ x4 < (3 : Int)) <|
    gd (R32 (x3 + (h2.1 31 x4))) <|
    gd (R32 (x4 + 1)) <|
    c33 x2 (x3 + (h2.1 31 x4)) (x4 + 1) h2
  else none
  else
    some h
theorem uX3_restore_33 {g : SG} (hg : GOK g) {σ0 : SG} {c33 : Int → Int → Int → HH → Option HH} (k33 : ∀ (x2 : Int) (x3 : Int) (x4 : Int) (h : HH) (b : HH), c33 x2 x3 x4 h = some b → WK 33 (.inl none) σ0 (abH 2 70 g b) 33 [(0, aR 32), (1, aR 26), (2, aI x2), (3, aI x3), (4, aI x4)] [] (abH 2 70 g h) 0 0) : ∀ {x2 : Int} {x3 : Int} {x4 : Int} {h : HH} {b : HH}, bX3_restore_33 c33 x2 x3 x4 h = some b → WK 33 (.inl none) σ0 (abH 2 70 g b) 33 [(0, aR 32), (1, aR 26), (2, aI x2), (3, aI x3), (4, aI x4)] [] (abH 2 70 g h) 0 0 := by
  intro x2 x3 x4 h b q
  have e : bX3_restore_33 c33 x2 x3 x4 h = segW 2 70 g.2.2.2.2 krWV clN csX3_restore (cuC 33 (fun l st s => tkC 0 32 l <| tkC 1 26 l <| tkI 2 l fun x2 => tkI 3 l fun x3 => tkI 4 l fun x4 => skE st (c33 x2 x3 x4 s)) cuN) 1000 33 [(0, aR 32), (1, aR 26), (2, aI x2), (3, aI x3), (4, aI x4)] [] h := rfl
  rw [e] at q
  clear e
  refine segW_wk (by decide) (by decide) hg rwX3_restore CLKW_N krWV_ok ?_ q
  clear q
  refine ct_C ?_ (ct_N)
  · intro l st h q
    obtain ⟨m0, q1⟩ := tkC_of q
    obtain ⟨m1, q2⟩ := tkC_of q1
    obtain ⟨x2, m2, q3⟩ := tkI_of q2
    obtain ⟨x3, m3, q4⟩ := tkI_of q3
    obtain ⟨x4, m4, q5⟩ := tkI_of q4
    obtain ⟨rfl, q6⟩ := skE_of q5
    exact WK_less (k33 _ _ _ _ _ q6) (List.forall_mem_cons.mpr ⟨m0, (List.forall_mem_cons.mpr ⟨m1, (List.forall_mem_cons.mpr ⟨m2, (List.forall_mem_cons.mpr ⟨m3, (List.forall_mem_cons.mpr ⟨m4, (fun _ h => absurd h List.not_mem_nil)⟩)⟩)⟩)⟩)⟩)
def nX3_restore_33 : Nat → Int → Int → Int → HH → Option HH := iter (fun _ _ _ _ => none) (fun self => bX3_restore_33 self)
theorem nX3_restore_33_s {F : Nat} : nX3_restore_33 (F + 1) = bX3_restore_33 (nX3_restore_33 F) := rfl
theorem wX3_restore_33 {g : SG} (hg : GOK g) {σ0 : SG} : ∀ {F : Nat}, ∀ {x2 : Int} {x3 : Int} {x4 : Int} {h : HH} {b : HH}, nX3_restore_33 F x2 x3 x4 h = some b → WK 33 (.inl none) σ0 (abH 2 70 g b) 33 [(0, aR 32), (1, aR 26), (2, aI x2), (3, aI x3), (4, aI x4)] [] (abH 2 70 g h) 0 0 := by
  intro F
  have z : ∀ (x2 : Int) (x3 : Int) (x4 : Int) (h : HH) (b : HH), nX3_restore_33 F x2 x3 x4 h = some b → WK 33 (.inl none) σ0 (abH 2 70 g b) 33 [(0, aR 32), (1, aR 26), (2, aI x2), (3, aI x3), (4, aI x4)] [] (abH 2 70 g h) 0 0 := iter_ind (P := fun (c : Int → Int → Int → HH → Option HH) => ∀ (x2 : Int) (x3 : Int) (x4 : Int) (h : HH) (b : HH), c x2 x3 x4 h = some b → WK 33 (.inl none) σ0 (abH 2 70 g b) 33 [(0, aR 32), (1, aR 26), (2, aI x2), (3, aI x3), (4, aI x4)] [] (abH 2 70 g h) 0 0) (by
    intro x2 x3 x4 h b q
    cases q) (fun self ih => by
    intro x2 x3 x4 h b q
    exact uX3_restore_33 hg ih q) F
  intro x2 x3 x4 h b q
  exact z _ _ _ _ _ q
def bX3_restore (c33 : Int → Int → Int → HH → Option HH) (h : HH) : Option HH :=
  gd (R32 ((h.1 32 2) - 1)) <|
    bnd (some (hI h 32 2 ((h.1 32 2) - 1))) fun h1 =>
    gd (R32 ((h1.1 32 1) + (h1.1 32 2))) <|
    gd ((0 : Int) ≤ ((h1.1 32 1) + (h1.1 32 2)) ∧ (0 : Int) < 20) <|
    gd (R32 ((((h1.1 32 1) + (h1.1 32 2)) % 20) * 12)) <|
    gd (R32 (((((h1.1 32 1) + (h1.1 32 2)) % 20) * 12) + 3)) <|
    c33 ((((h1.1 32 1) + (h1.1 32 2)) % 20) * 12) (((((h1.1 32 1) + (h1.1 32 2)) % 20) * 12) + 3) 0 h1
theorem uX3_restore {g : SG} (hg : GOK g) {σ0 : SG} {c33 : Int → Int → Int → HH → Option HH} (k33 : ∀ (x2 : Int) (x3 : Int) (x4 : Int) (h : HH) (b : HH), c33 x2 x3 x4 h = some b → WK 33 (.inl none) σ0 (abH 2 70 g b) 33 [(0, aR 32), (1, aR 26), (2, aI x2), (3, aI x3), (4, aI x4)] [] (abH 2 70 g h) 0 0) : ∀ {h : HH} {b : HH}, bX3_restore c33 h = some b → WK 33 (.inl none) σ0 (abH 2 70 g b) 0 [(0, aR 32), (1, aR 26)] [] (abH 2 70 g h) 0 0 := by
  intro h b q
  have e : bX3_restore c33 h = segW 2 70 g.2.2.2.2 krWV clN csX3_restore (cuC 33 (fun l st s => tkC 0 32 l <| tkC 1 26 l <| tkI 2 l fun x2 => tkI 3 l fun x3 => tkI 4 l fun x4 => skE st (c33 x2 x3 x4 s)) cuN) 1000 0 [(0, aR 32), (1, aR 26)] [] h := rfl
  rw [e] at q
  clear e
  refine segW_wk (by decide) (by decide) hg rwX3_restore CLKW_N krWV_ok ?_ q
  clear q
  refine ct_C ?_ (ct_N)
  · intro l st h q
    obtain ⟨m0, q1⟩ := tkC_of q
    obtain ⟨m1, q2⟩ := tkC_of q1
    obtain ⟨x2, m2, q3⟩ := tkI_of q2
    obtain ⟨x3, m3, q4⟩ := tkI_of q3
    obtain ⟨x4, m4, q5⟩ := tkI_of q4
    obtain ⟨rfl, q6⟩ := skE_of q5
    exact WK_less (k33 _ _ _ _ _ q6) (List.forall_mem_cons.mpr ⟨m0, (List.forall_mem_cons.mpr ⟨m1, (List.forall_mem_cons.mpr ⟨m2, (List.forall_mem_cons.mpr ⟨m3, (List.forall_mem_cons.mpr ⟨m4, (fun _ h => absurd h List.not_mem_nil)⟩)⟩)⟩)⟩)⟩)
def nX3_restore (h : HH) : Option HH := bX3_restore (nX3_restore_33 100000) h
theorem wX3_restore {g : SG} (hg : GOK g) {σ0 : SG} : ∀ {h : HH} {b : HH}, nX3_restore h = some b → WK 33 (.inl none) σ0 (abH 2 70 g b) 0 [(0, aR 32), (1, aR 26)] [] (abH 2 70 g h) 0 0 := by
  intro h b q
  exact uX3_restore hg (fun _ _ _ _ _ q => wX3_restore_33 hg q) q
theorem mX3_restore {g : SG} (hg : GOK g) {h : HH} {b : HH} (q : nX3_restore h = some b) : MCT 33 [] [aR 32, aR 26] (abH 2 70 g h) (.inl none) (abH 2 70 g b) :=
  mct_of (by decide) (MFok 33 (by decide +kernel)) (fun _ => Nat.le_of_ble_eq_true rfl) (wX3_restore hg q)
def pX3_restore {β : Type} (z : HH → Option HH) : PW β := fun as h f => skC 32 as fun as => skC 26 as fun as => skE as (bnd (z h) fun r => f (.inl none) r)
theorem pX3_restore_ok {β : Type} {g : SG} (hg : GOK g) : CW1 (β := β) 33 (pX3_restore nX3_restore) 2 70 g := fun as h f b q => by
  obtain ⟨as, rfl, q1⟩ := skC_of q
  obtain ⟨as, rfl, q2⟩ := skC_of q1
  obtain ⟨rfl, q0⟩ := skE_of q2
  obtain ⟨r, z1, z2⟩ := bnd_of q0
  exact ⟨_, _, z2, by decide, mX3_restore hg z1, rfl, rfl, fun z => absurd z (by decide)⟩
def csX4_begin : List (Nat × List (Nat × ARow)) := [(41, [(0, 1, .aload_n 0, 0, 0, 0), (1, 3, .getfield 24, 4, 3, 0), (4, 2, .istore 4, 0, 0, 0), (6, 1, .aload_n 0, 0, 0, 0), (7, 1, .iload_n 1, 0, 0, 0), (8, 3, .putfield 9, 4, 0, 0), (11, 1, .aload_n 0, 0, 0, 0), (12, 1, .iload_n 2, 0, 0, 0), (13, 3, .putfield 15, 4, 1, 0), (16, 1, .aload_n 0, 0, 0, 0), (17, 1, .iload_n 3, 0, 0, 0), (18, 3, .putfield 18, 4, 2, 0), (21, 1, .aload_n 0, 0, 0, 0), (22, 1, .iconst 0, 0, 0, 0), (23, 3, .putfield 24, 4, 3, 0), (26, 1, .aload_n 0, 0, 0, 0), (27, 1, .iconst 0, 0, 0, 0), (28, 3, .putfield 27, 4, 4, 0), (31, 1, .aload_n 0, 0, 0, 0), (32, 1, .iconst 0, 0, 0, 0), (33, 3, .putfield 30, 4, 5, 0), (36, 1, .aload_n 0, 0, 0, 0), (37, 1, .iconst 0, 0, 0, 0), (38, 3, .putfield 33, 4, 6, 0)]),
  (100000, [(41, 1, .aload_n 0, 0, 0, 0), (42, 1, .iconst 0, 0, 0, 0), (43, 3, .putfield 36, 4, 7, 0), (46, 1, .aload_n 0, 0, 0, 0), (47, 1, .iconst (-1), 0, 0, 0), (48, 3, .putfield 21, 4, 8, 0), (51, 2, .iload 4, 0, 0, 0), (53, 1, .ireturn, 0, 0, 0)])]
theorem rwX4_begin : rowsB (mB 35) (mO 35) (mX 35) (mIni 35) (mFr 35) (mLo 35) (mT 35) csX4_begin = true := by decide +kernel
def bX4_begin (x1 : Int) (x2 : Int) (x3 : Int) (h : HH) : Option (Int × HH) :=
  bnd (some (hI h 59 0 x1)) fun h1 =>
    bnd (some (hI h1 59 1 x2)) fun h2 =>
    bnd (some (hI h2 59 2 x3)) fun h3 =>
    bnd (some (hI h3 59 3 0)) fun h4 =>
    bnd (some (hI h4 59 4 0)) fun h5 =>
    bnd (some (hI h5 59 5 0)) fun h6 =>
    bnd (some (hI h6 59 6 0)) fun h7 =>
    bnd (some (hI h7 59 7 0)) fun h8 =>
    bnd (some (hI h8 59 8 (-1))) fun h9 =>
    some ((h.1 59 3), h9)
theorem uX4_begin {g : SG} (hg : GOK g) {σ0 : SG} : ∀ {x1 : Int} {x2 : Int} {x3 : Int} {h : HH} {b : (Int × HH)}, bX4_begin x1 x2 x3 h = some b → WK 35 (.inl (some (aI b.1))) σ0 (abH 2 70 g b.2) 0 [(0, aR 59), (1, aI x1), (2, aI x2), (3, aI x3)] [] (abH 2 70 g h) 0 0 := by
  intro x1 x2 x3 h b q
  have e : bX4_begin x1 x2 x3 h = segW 2 70 g.2.2.2.2 krWI clN csX4_begin cuN 1000 0 [(0, aR 59), (1, aI x1), (2, aI x2), (3, aI x3)] [] h := rfl
  rw [e] at q
  clear e
  refine segW_wk (by decide) (by decide) hg rwX4_begin CLKW_N krWI_ok ?_ q
  clear q
  exact ct_N
def nX4_begin (x1 : Int) (x2 : Int) (x3 : Int) (h : HH) : Option (Int × HH) := bX4_begin x1 x2 x3 h
theorem wX4_begin {g : SG} (hg : GOK g) {σ0 : SG} : ∀ {x1 : Int} {x2 : Int} {x3 : Int} {h : HH} {b : (Int × HH)}, nX4_begin x1 x2 x3 h = some b → WK 35 (.inl (some (aI b.1))) σ0 (abH 2 70 g b.2) 0 [(0, aR 59), (1, aI x1), (2, aI x2), (3, aI x3)] [] (abH 2 70 g h) 0 0 := by
  intro x1 x2 x3 h b q
  exact uX4_begin hg q
theorem mX4_begin {g : SG} (hg : GOK g) {h : HH} {x1 : Int} {x2 : Int} {x3 : Int} {b : (Int × HH)} (q : nX4_begin x1 x2 x3 h = some b) : MCT 35 [] [aR 59, aI x1, aI x2, aI x3] (abH 2 70 g h) (.inl (some (aI b.1))) (abH 2 70 g b.2) :=
  mct_of (by decide) (MFok 35 (by decide +kernel)) (fun _ => Nat.le_of_ble_eq_true rfl) (wX4_begin hg q)
def pX4_begin {β : Type} (z : Int → Int → Int → HH → Option (Int × HH)) : PW β := fun as h f => skC 59 as fun as => skI as fun x1 as => skI as fun x2 as => skI as fun x3 as => skE as (bnd (z x1 x2 x3 h) fun r => f (.inl (some (aI r.1))) r.2)
theorem pX4_begin_ok {β : Type} {g : SG} (hg : GOK g) : CW1 (β := β) 35 (pX4_begin nX4_begin) 2 70 g := fun as h f b q => by
  obtain ⟨as, rfl, q1⟩ := skC_of q
  obtain ⟨x1, as, rfl, q2⟩ := skI_of q1
  obtain ⟨x2, as, rfl, q3⟩ := skI_of q2
  obtain ⟨x3, as, rfl, q4⟩ := skI_of q3
  obtain ⟨rfl, q0⟩ := skE_of q4
  obtain ⟨r, z1, z2⟩ := bnd_of q0
  exact ⟨_, _, z2, by decide, mX4_begin hg z1, rfl, rfl, fun z => absurd z (by decide)⟩
def csX4_add : List (Nat × List (Nat × ARow)) := [(44, [(0, 1, .aload_n 0, 0, 0, 0), (1, 1, .iload_n 1, 0, 0, 0), (2, 1, .iconst 2, 0, 0, 0), (3, 3, .if_icmp .ne 12, 15, 0, 0), (6, 1, .aload_n 0, 0, 0, 0), (7, 3, .getfield 36, 4, 7, 0), (10, 1, .iload_n 2, 0, 0, 0), (11, 1, .iadd, 0, 0, 0), (12, 3, .goto 4, 16, 0, 0), (15, 1, .iconst 0, 0, 0, 0), (16, 3, .putfield 36, 4, 7, 0), (19, 1, .aload_n 0, 0, 0, 0), (20, 3, .getfield 36, 4, 7, 0), (23, 1, .aload_n 0, 0, 0, 0), (24, 3, .getfield 15, 4, 1, 0), (27, 3, .if_icmp .lt 8, 35, 0, 0), (30, 1, .aload_n 0, 0, 0, 0), (31, 1, .iconst 0, 0, 0, 0), (32, 3, .putfield 33, 4, 6, 0), (35, 1, .iload_n 1, 0, 0, 0), (36, 3, .ifCond .ne 23, 59, 0, 0), (39, 1, .aload_n 0, 0, 0, 0), (40, 1, .dup, 0, 0, 0), (41, 3, .getfield 30, 4, 5, 0)]),
  (90, [(44, 1, .iload_n 2, 0, 0, 0), (45, 1, .iadd, 0, 0, 0), (46, 3, .putfield 30, 4, 5, 0), (49, 1, .aload_n 0, 0, 0, 0), (50, 1, .dup, 0, 0, 0), (51, 3, .getfield 33, 4, 6, 0), (54, 1, .iload_n 2, 0, 0, 0), (55, 1, .iadd, 0, 0, 0), (56, 3, .putfield 33, 4, 6, 0), (59, 1, .aload_n 0, 0, 0, 0), (60, 3, .getfield 21, 4, 8, 0), (63, 1, .iconst (-1), 0, 0, 0), (64, 3, .if_icmp .ne 33, 97, 0, 0), (67, 1, .aload_n 0, 0, 0, 0), (68, 3, .getfield 33, 4, 6, 0), (71, 1, .aload_n 0, 0, 0, 0), (72, 3, .getfield 9, 4, 0, 0), (75, 3, .if_icmp .gt 14, 89, 0, 0), (78, 1, .aload_n 0, 0, 0, 0), (79, 3, .getfield 30, 4, 5, 0), (82, 1, .aload_n 0, 0, 0, 0), (83, 3, .getfield 18, 4, 2, 0), (86, 3, .if_icmp .le 11, 97, 0, 0), (89, 1, .aload_n 0, 0, 0, 0)]),
  (100000, [(90, 1, .aload_n 0, 0, 0, 0), (91, 3, .getfield 24, 4, 3, 0), (94, 3, .putfield 21, 4, 8, 0), (97, 1, .aload_n 0, 0, 0, 0), (98, 1, .dup, 0, 0, 0), (99, 3, .getfield 24, 4, 3, 0), (102, 1, .iconst 1, 0, 0, 0), (103, 1, .iadd, 0, 0, 0), (104, 3, .putfield 24, 4, 3, 0), (107, 1, .aload_n 0, 0, 0, 0), (108, 1, .dup, 0, 0, 0), (109, 3, .getfield 27, 4, 4, 0), (112, 1, .iload_n 2, 0, 0, 0), (113, 1, .iadd, 0, 0, 0), (114, 3, .putfield 27, 4, 4, 0), (117, 1, .aload_n 0, 0, 0, 0), (118, 3, .getfield 27, 4, 4, 0), (121, 1, .ireturn, 0, 0, 0)])]
theorem rwX4_add : rowsB (mB 36) (mO 36) (mX 36) (mIni 36) (mFr 36) (mLo 36) (mT 36) csX4_add = true := by decide +kernel
def bX4_add_97 (x2 : Int) (h : HH) : Option (Int × HH) :=
  gd (R32 ((h.1 59 3) + 1)) <|
    bnd (some (hI h 59 3 ((h.1 59 3) + 1))) fun h1 =>
    gd (R32 ((h1.1 59 4) + x2)) <|
    bnd (some (hI h1 59 4 ((h1.1 59 4) + x2))) fun h2 =>
    some ((h2.1 59 4), h2)
theorem uX4_add_97 {g : SG} (hg : GOK g) {σ0 : SG} : ∀ {x2 : Int} {h : HH} {b : (Int × HH)}, bX4_add_97 x2 h = some b → WK 36 (.inl (some (aI b.1))) σ0 (abH 2 70 g b.2) 97 [(0, aR 59), (2, aI x2)] [] (abH 2 70 g h) 0 0 := by
  intro x2 h b q
  have e : bX4_add_97 x2 h = segW 2 70 g.2.2.2.2 krWI clN csX4_add cuN 1000 97 [(0, aR 59), (2, aI x2)] [] h := rfl
  rw [e] at q
  clear e
  refine segW_wk (by decide) (by decide) hg rwX4_add CLKW_N krWI_ok ?_ q
  clear q
  exact ct_N
def nX4_add_97 (x2 : Int) (h : HH) : Option (Int × HH) := bX4_add_97 x2 h
theorem wX4_add_97 {g : SG} (hg : GOK g) {σ0 : SG} : ∀ {x2 : Int} {h : HH} {b : (Int × HH)}, nX4_add_97 x2 h = some b → WK 36 (.inl (some (aI b.1))) σ0 (abH 2 70 g b.2) 97 [(0, aR 59), (2, aI x2)] [] (abH 2 70 g h) 0 0 := by
  intro x2 h b q
  exact uX4_add_97 hg q
def bX4_add_89 (c97 : Int → HH → Option (Int × HH)) (x2 : Int) (h : HH) : Option (Int × HH) :=
  bnd (some (hI h 59 8 (h.1 59 3))) fun h1 =>
    c97 x2 h1
theorem uX4_add_89 {g : SG} (hg : GOK g) {σ0 : SG} {c97 : Int → HH → Option (Int × HH)} (k97 : ∀ (x2 : Int) (h : HH) (b : (Int × HH)), c97 x2 h = some b → WK 36 (.inl (some (aI b.1))) σ0 (abH 2 70 g b.2) 97 [(0, aR 59), (2, aI x2)] [] (abH 2 70 g h) 0 0) : ∀ {x2 : Int} {h : HH} {b : (Int × HH)}, bX4_add_89 c97 x2 h = some b → WK 36 (.inl (some (aI b.1))) σ0 (abH 2 70 g b.2) 89 [(0, aR 59), (2, aI x2)] [] (abH 2 70 g h) 0 0 := by
  intro x2 h b q
  have e : bX4_add_89 c97 x2 h = segW 2 70 g.2.2.2.2 krWI clN csX4_add (cuC 97 (fun l st s => tkC 0 59 l <| tkI 2 l fun x2 => skE st (c97 x2 s)) cuN) 1000 89 [(0, aR 59), (2, aI x2)] [] h := rfl
  rw [e] at q
  clear e
  refine segW_wk (by decide) (by decide) hg rwX4_add CLKW_N krWI_ok ?_ q
  clear q
  refine ct_C ?_ (ct_N)
  · intro l st h q
    obtain ⟨m0, q1⟩ := tkC_of q
    obtain ⟨x2, m2, q2⟩ := tkI_of q1
    obtain ⟨rfl, q3⟩ := skE_of q2
    exact WK_less (k97 _ _ _ q3) (List.forall_mem_cons.mpr ⟨m0, (List.forall_mem_cons.mpr ⟨m2, (fun _ h => absurd h List.not_mem_nil)⟩)⟩)
def nX4_add_89 (x2 : Int) (h : HH) : Option (Int × HH) := bX4_add_89 nX4_add_97 x2 h
theorem wX4_add_89 {g : SG} (hg : GOK g) {σ0 : SG} : ∀ {x2 : Int} {h : HH} {b : (Int × HH)}, nX4_add_89 x2 h = some b → WK 36 (.inl (some (aI b.1))) σ0 (abH 2 70 g b.2) 89 [(0, aR 59), (2, aI x2)] [] (abH 2 70 g h) 0 0 := by
  intro x2 h b q
  exact uX4_add_89 hg (fun _ _ _ q => wX4_add_97 hg q) q
def bX4_add_59 (c89 : Int → HH → Option (Int × HH)) (c97 : Int → HH → Option (Int × HH)) (x2 : Int) (h : HH) : Option (Int × HH) :=
  if (h.1 59 8) = ((-1) : Int) then
    if ((h.1 59 0) : Int) < (h.1 59 6) then
    c89 x2 h
  else
    if ((h.1 59 2) : Int) < (h.1 59 5) then
    c89 x2 h
  else
    c97 x2 h
  else
    c97 x2 h
theorem uX4_add_59 {g : SG} (hg : GOK g) {σ0 : SG} {c89 : Int → HH → Option (Int × HH)} {c97 : Int → HH → Option (Int × HH)} (k89 : ∀ (x2 : Int) (h : HH) (b : (Int × HH)), c89 x2 h = some b → WK 36 (.inl (some (aI b.1))) σ0 (abH 2 70 g b.2) 89 [(0, aR 59), (2, aI x2)] [] (abH 2 70 g h) 0 0) (k97 : ∀ (x2 : Int) (h : HH) (b : (Int × HH)), c97 x2 h = some b → WK 36 (.inl (some (aI b.1))) σ0 (abH 2 70 g b.2) 97 [(0, aR 59), (2, aI x2)] [] (abH 2 70 g h) 0 0) : ∀ {x2 : Int} {h : HH} {b : (Int × HH)}, bX4_add_59 c89 c97 x2 h = some b → WK 36 (.inl (some (aI b.1))) σ0 (abH 2 70 g b.2) 59 [(0, aR 59), (2, aI x2)] [] (abH 2 70 g h) 0 0 := by
  intro x2 h b q
  have e : bX4_add_59 c89 c97 x2 h = segW 2 70 g.2.2.2.2 krWI clN csX4_add (cuC 89 (fun l st s => tkC 0 59 l <| tkI 2 l fun x2 => skE st (c89 x2 s)) (cuC 97 (fun l st s => tkC 0 59 l <| tkI 2 l fun x2 => skE st (c97 x2 s)) cuN)) 1000 59 [(0, aR 59), (2, aI x2)] [] h := rfl
  rw [e] at q
  clear e
  refine segW_wk (by decide) (by decide) hg rwX4_add CLKW_N krWI_ok ?_ q
  clear q
  refine ct_C ?_ (ct_C ?_ (ct_N))
  · intro l st h q
    obtain ⟨m0, q1⟩ := tkC_of q
    obtain ⟨x2, m2, q2⟩ := tkI_of q1
    obtain ⟨rfl, q3⟩ := skE_of q2
    exact WK_less (k89 _ _ _ q3) (List.forall_mem_cons.mpr ⟨m0, (List.forall_mem_cons.mpr ⟨m2, (fun _ h => absurd h List.not_mem_nil)⟩)⟩)
  · intro l st h q
    obtain ⟨m0, q1⟩ := tkC_of q
    obtain ⟨x2, m2, q2⟩ := tkI_of q1
    obtain ⟨rfl, q3⟩ := skE_of q2
    exact WK_less (k97 _ _ _ q3) (List.forall_mem_cons.mpr ⟨m0, (List.forall_mem_cons.mpr ⟨m2, (fun _ h => absurd h List.not_mem_nil)⟩)⟩)
def nX4_add_59 (x2 : Int) (h : HH) : Option (Int × HH) := bX4_add_59 nX4_add_89 nX4_add_97 x2 h
theorem wX4_add_59 {g : SG} (hg : GOK g) {σ0 : SG} : ∀ {x2 : Int} {h : HH} {b : (Int × HH)}, nX4_add_59 x2 h = some b → WK 36 (.inl (some (aI b.1))) σ0 (abH 2 70 g b.2) 59 [(0, aR 59), (2, aI x2)] [] (abH 2 70 g h) 0 0 := by
  intro x2 h b q
  exact uX4_add_59 hg (fun _ _ _ q => wX4_add_89 hg q) (fun _ _ _ q => wX4_add_97 hg q) q
def bX4_add_35 (c59 : Int → HH → Option (Int × HH)) (x1 : Int) (x2 : Int) (h : HH) : Option (Int × HH) :=
  if x1 = (0 : Int) then
    gd (R32 ((h.1 59 5) + x2)) <|
    bnd (some (hI h 59 5 ((h.1 59 5) + x2))) fun h1 =>
    gd (R32 ((h1.1 59 6) + x2)) <|
    bnd (some (hI h1 59 6 ((h1.1 59 6) + x2))) fun h2 =>
    c59 x2 h2
  else
    c59 x2 h
theorem uX4_add_35 {g : SG} (hg : GOK g) {σ0 : SG} {c59 : Int → HH → Option (Int × HH)} (k59 : ∀ (x2 : Int) (h : HH) (b : (Int × HH)), c59 x2 h = some b → WK 36 (.inl (some (aI b.1))) σ0 (abH 2 70 g b.2) 59 [(0, aR 59), (2, aI x2)] [] (abH 2 70 g h) 0 0) : ∀ {x1 : Int} {x2 : Int} {h : HH} {b : (Int × HH)}, bX4_add_35 c59 x1 x2 h = some b → WK 36 (.inl (some (aI b.1))) σ0 (abH 2 70 g b.2) 35 [(0, aR 59), (1, aI x1), (2, aI x2)] [] (abH 2 70 g h) 0 0 := by
  intro x1 x2 h b q
  have e : bX4_add_35 c59 x1 x2 h = segW 2 70 g.2.2.2.2 krWI clN csX4_add (cuC 59 (fun l st s => tkC 0 59 l <| tkI 2 l fun x2 => skE st (c59 x2 s)) cuN) 1000 35 [(0, aR 59), (1, aI x1), (2, aI x2)] [] h := rfl
  rw [e] at q
  clear e
  refine segW_wk (by decide) (by decide) hg rwX4_add CLKW_N krWI_ok ?_ q
  clear q
  refine ct_C ?_ (ct_N)
  · intro l st h q
    obtain ⟨m0, q1⟩ := tkC_of q
    obtain ⟨x2, m2, q2⟩ := tkI_of q1
    obtain ⟨rfl, q3⟩ := skE_of q2
    exact WK_less (k59 _ _ _ q3) (List.forall_mem_cons.mpr ⟨m0, (List.forall_mem_cons.mpr ⟨m2, (fun _ h => absurd h List.not_mem_nil)⟩)⟩)
def nX4_add_35 (x1 : Int) (x2 : Int) (h : HH) : Option (Int × HH) := bX4_add_35 nX4_add_59 x1 x2 h
theorem wX4_add_35 {g : SG} (hg : GOK g) {σ0 : SG} : ∀ {x1 : Int} {x2 : Int} {h : HH} {b : (Int × HH)}, nX4_add_35 x1 x2 h = some b → WK 36 (.inl (some (aI b.1))) σ0 (abH 2 70 g b.2) 35 [(0, aR 59), (1, aI x1), (2, aI x2)] [] (abH 2 70 g h) 0 0 := by
  intro x1 x2 h b q
  exact uX4_add_35 hg (fun _ _ _ q => wX4_add_59 hg q) q
def bX4_add_16 (c35 : Int → Int → HH → Option (Int × HH)) (x1 : Int) (x2 : Int) (y0 : Int) (h : HH) : Option (Int × HH) :=
  bnd (some (hI h 59 7 y0)) fun h1 =>
    if (h1.1 59 7) < ((h1.1 59 1) : Int) then
    c35 x1 x2 h1
  else
    bnd (some (hI h1 59 6 0)) fun h2 =>
    c35 x1 x2 h2
theorem uX4_add_16 {g : SG} (hg : GOK g) {σ0 : SG} {c35 : Int → Int → HH → Option (Int × HH)} (k35 : ∀ (x1 : Int) (x2 : Int) (h : HH) (b : (Int × HH)), c35 x1 x2 h = some b → WK 36 (.inl (some (aI b.1))) σ0 (abH 2 70 g b.2) 35 [(0, aR 59), (1, aI x1), (2, aI x2)] [] (abH 2 70 g h) 0 0) : ∀ {x1 : Int} {x2 : Int} {y0 : Int} {h : HH} {b : (Int × HH)}, bX4_add_16 c35 x1 x2 y0 h = some b → WK 36 (.inl (some (aI b.1))) σ0 (abH 2 70 g b.2) 16 [(0, aR 59), (1, aI x1), (2, aI x2)] [aI y0, aR 59] (abH 2 70 g h) 0 0 := by
  intro x1 x2 y0 h b q
  have e : bX4_add_16 c35 x1 x2 y0 h = segW 2 70 g.2.2.2.2 krWI clN csX4_add (cuC 35 (fun l st s => tkC 0 59 l <| tkI 1 l fun x1 => tkI 2 l fun x2 => skE st (c35 x1 x2 s)) cuN) 1000 16 [(0, aR 59), (1, aI x1), (2, aI x2)] [aI y0, aR 59] h := rfl
  rw [e] at q
  clear e
  refine segW_wk (by decide) (by decide) hg rwX4_add CLKW_N krWI_ok ?_ q
  clear q
  refine ct_C ?_ (ct_N)
  · intro l st h q
    obtain ⟨m0, q1⟩ := tkC_of q
    obtain ⟨x1, m1, q2⟩ := tkI_of q1
    obtain ⟨x2, m2, q3⟩ := tkI_of q2
    obtain ⟨rfl, q4⟩ := skE_of q3
    exact WK_less (k35 _ _ _ _ q4) (List.forall_mem_cons.mpr ⟨m0, (List.forall_mem_cons.mpr ⟨m1, (List.forall_mem_cons.mpr ⟨m2, (fun _ h => absurd h List.not_mem_nil)⟩)⟩)⟩)
def nX4_add_16 (x1 : Int) (x2 : Int) (y0 : Int) (h : HH) : Option (Int × HH) := bX4_add_16 nX4_add_35 x1 x2 y0 h
theorem wX4_add_16 {g : SG} (hg : GOK g) {σ0 : SG} : ∀ {x1 : Int} {x2 : Int} {y0 : Int} {h : HH} {b : (Int × HH)}, nX4_add_16 x1 x2 y0 h = some b → WK 36 (.inl (some (aI b.1))) σ0 (abH 2 70 g b.2) 16 [(0, aR 59), (1, aI x1), (2, aI x2)] [aI y0, aR 59] (abH 2 70 g h) 0 0 := by
  intro x1 x2 y0 h b q
  exact uX4_add_16 hg (fun _ _ _ _ q => wX4_add_35 hg q) q
def bX4_add (c16 : Int → Int → Int → HH → Option (Int × HH)) (x1 : Int) (x2 : Int) (h : HH) : Option (Int × HH) :=
  if x1 = (2 : Int) then
    gd (R32 ((h.1 59 7) + x2)) <|
    c16 x1 x2 ((h.1 59 7) + x2) h
  else
    c16 x1 x2 0 h
theorem uX4_add {g : SG} (hg : GOK g) {σ0 : SG} {c16 : Int → Int → Int → HH → Option (Int × HH)} (k16 : ∀ (x1 : Int) (x2 : Int) (y0 : Int) (h : HH) (b : (Int × HH)), c16 x1 x2 y0 h = some b → WK 36 (.inl (some (aI b.1))) σ0 (abH 2 70 g b.2) 16 [(0, aR 59), (1, aI x1), (2, aI x2)] [aI y0, aR 59] (abH 2 70 g h) 0 0) : ∀ {x1 : Int} {x2 : Int} {h : HH} {b : (Int × HH)}, bX4_add c16 x1 x2 h = some b → WK 36 (.inl (some (aI b.1))) σ0 (abH 2 70 g b.2) 0 [(0, aR 59), (1, aI x1), (2, aI x2)] [] (abH 2 70 g h) 0 0 := by
  intro x1 x2 h b q
  have e : bX4_add c16 x1 x2 h = segW 2 70 g.2.2.2.2 krWI clN csX4_add (cuC 16 (fun l st s => tkC 0 59 l <| tkI 1 l fun x1 => tkI 2 l fun x2 => skI st fun y0 st => skC 59 st fun st => skE st (c16 x1 x2 y0 s)) cuN) 1000 0 [(0, aR 59), (1, aI x1), (2, aI x2)] [] h := rfl
  rw [e] at q
  clear e
  refine segW_wk (by decide) (by decide) hg rwX4_add CLKW_N krWI_ok ?_ q
  clear q
  refine ct_C ?_ (ct_N)
  · intro l st h q
    obtain ⟨m0, q1⟩ := tkC_of q
    obtain ⟨x1, m1, q2⟩ := tkI_of q1
    obtain ⟨x2, m2, q3⟩ := tkI_of q2
    obtain ⟨y0, t0, rfl, q4⟩ := skI_of q3
    obtain ⟨t1, rfl, q5⟩ := skC_of q4
    obtain ⟨rfl, q6⟩ := skE_of q5
    exact WK_less (k16 _ _ _ _ _ q6) (List.forall_mem_cons.mpr ⟨m0, (List.forall_mem_cons.mpr ⟨m1, (List.forall_mem_cons.mpr ⟨m2, (fun _ h => absurd h List.not_mem_nil)⟩)⟩)⟩)
def nX4_add (x1 : Int) (x2 : Int) (h : HH) : Option (Int × HH) := bX4_add nX4_add_16 x1 x2 h
theorem wX4_add {g : SG} (hg : GOK g) {σ0 : SG} : ∀ {x1 : Int} {x2 : Int} {h : HH} {b : (Int × HH)}, nX4_add x1 x2 h = some b → WK 36 (.inl (some (aI b.1))) σ0 (abH 2 70 g b.2) 0 [(0, aR 59), (1, aI x1), (2, aI x2)] [] (abH 2 70 g h) 0 0 := by
  intro x1 x2 h b q
  exact uX4_add hg (fun _ _ _ _ _ q => wX4_add_16 hg q) q
theorem mX4_add {g : SG} (hg : GOK g) {h : HH} {x1 : Int} {x2 : Int} {b : (Int × HH)} (q : nX4_add x1 x2 h = some b) : MCT 36 [] [aR 59, aI x1, aI x2] (abH 2 70 g h) (.inl (some (aI b.1))) (abH 2 70 g b.2) :=
  mct_of (by decide) (MFok 36 (by decide +kernel)) (fun _ => Nat.le_of_ble_eq_true rfl) (wX4_add hg q)
def pX4_add {β : Type} (z : Int → Int → HH → Option (Int × HH)) : PW β := fun as h f => skC 59 as fun as => skI as fun x1 as => skI as fun x2 as => skE as (bnd (z x1 x2 h) fun r => f (.inl (some (aI r.1))) r.2)
theorem pX4_add_ok {β : Type} {g : SG} (hg : GOK g) : CW1 (β := β) 36 (pX4_add nX4_add) 2 70 g := fun as h f b q => by
  obtain ⟨as, rfl, q1⟩ := skC_of q
  obtain ⟨x1, as, rfl, q2⟩ := skI_of q1
  obtain ⟨x2, as, rfl, q3⟩ := skI_of q2
  obtain ⟨rfl, q0⟩ := skE_of q3
  obtain ⟨r, z1, z2⟩ := bnd_of q0
  exact ⟨_, _, z2, by decide, mX4_add hg z1, rfl, rfl, fun z => absurd z (by decide)⟩
def csX4_firstBroken : List (Nat × List (Nat × ARow)) := [(100000, [(0, 1, .aload_n 0, 0, 0, 0), (1, 3, .getfield 21, 4, 8, 0), (4, 1, .ireturn, 0, 0, 0)])]
theorem rwX4_firstBroken : rowsB (mB 37) (mO 37) (mX 37) (mIni 37) (mFr 37) (mLo 37) (mT 37) csX4_firstBroken = true := by decide +kernel
def bX4_firstBroken (h : HH) : Option Int :=
  some (h.1 59 8)
theorem uX4_firstBroken {g : SG} (hg : GOK g) {σ0 : SG} {h : HH} : ∀ {b : Int}, bX4_firstBroken h = some b → WK 37 (.inl (some (aI b))) σ0 (abH 2 70 g h) 0 [(0, aR 59)] [] (abH 2 70 g h) 0 0 := by
  intro  b q
  have e : bX4_firstBroken h = segP 2 70 g.2.2.2.2 h krPI clNP csX4_firstBroken cuN 1000 0 [(0, aR 59)] [] := rfl
  rw [e] at q
  clear e
  refine segP_wk (by decide) (by decide) hg rwX4_firstBroken CLKP_N krPI_ok ?_ q
  clear q
  exact ct_N
def nX4_firstBroken (h : HH) : Option Int := bX4_firstBroken h
theorem wX4_firstBroken {g : SG} (hg : GOK g) {σ0 : SG} {h : HH} : ∀ {b : Int}, nX4_firstBroken h = some b → WK 37 (.inl (some (aI b))) σ0 (abH 2 70 g h) 0 [(0, aR 59)] [] (abH 2 70 g h) 0 0 := by
  intro  b q
  exact uX4_firstBroken hg q
theorem mX4_firstBroken {g : SG} (hg : GOK g) {h : HH} {b : Int} (q : nX4_firstBroken h = some b) : MCT 37 [] [aR 59] (abH 2 70 g h) (.inl (some (aI b))) (abH 2 70 g h) :=
  mct_of (by decide) (MFok 37 (by decide +kernel)) (fun _ => Nat.le_of_ble_eq_true rfl) (wX4_firstBroken hg q)
def pX4_firstBroken {β : Type} (z : HH → Option Int) : PP β := fun h as f => skC 59 as fun as => skE as (bnd (z h) fun r => f (.inl (some (aI r))))
theorem pX4_firstBroken_ok {β : Type} {g : SG} (hg : GOK g) : CP1 (β := β) 37 (pX4_firstBroken nX4_firstBroken) 2 70 g := fun h as f b q => by
  obtain ⟨as, rfl, q1⟩ := skC_of q
  obtain ⟨rfl, q0⟩ := skE_of q1
  obtain ⟨r, z1, z2⟩ := bnd_of q0
  exact ⟨_, z2, by decide, mX4_firstBroken hg z1, rfl, rfl, fun z => absurd z (by decide)⟩
def csX4_leftInAll : List (Nat × List (Nat × ARow)) := [(100000, [(0, 1, .aload_n 0, 0, 0, 0), (1, 3, .getfield 21, 4, 8, 0), (4, 1, .iconst (-1), 0, 0, 0), (5, 3, .if_icmp .ne 15, 20, 0, 0), (8, 1, .aload_n 0, 0, 0, 0), (9, 3, .getfield 18, 4, 2, 0), (12, 1, .aload_n 0, 0, 0, 0), (13, 3, .getfield 30, 4, 5, 0), (16, 1, .isub, 0, 0, 0), (17, 3, .goto 4, 21, 0, 0), (20, 1, .iconst 0, 0, 0, 0), (21, 1, .ireturn, 0, 0, 0)])]
theorem rwX4_leftInAll : rowsB (mB 38) (mO 38) (mX 38) (mIni 38) (mFr 38) (mLo 38) (mT 38) csX4_leftInAll = true := by decide +kernel
def bX4_leftInAll (h : HH) : Option Int :=
  if (h.1 59 8) = ((-1) : Int) then
    gd (R32 ((h.1 59 2) - (h.1 59 5))) <|
    some ((h.1 59 2) - (h.1 59 5))
  else
    some 0
theorem uX4_leftInAll {g : SG} (hg : GOK g) {σ0 : SG} {h : HH} : ∀ {b : Int}, bX4_leftInAll h = some b → WK 38 (.inl (some (aI b))) σ0 (abH 2 70 g h) 0 [(0, aR 59)] [] (abH 2 70 g h) 0 0 := by
  intro  b q
  have e : bX4_leftInAll h = segP 2 70 g.2.2.2.2 h krPI clNP csX4_leftInAll cuN 1000 0 [(0, aR 59)] [] := rfl
  rw [e] at q
  clear e
  refine segP_wk (by decide) (by decide) hg rwX4_leftInAll CLKP_N krPI_ok ?_ q
  clear q
  exact ct_N
def nX4_leftInAll (h : HH) : Option Int := bX4_leftInAll h
theorem wX4_leftInAll {g : SG} (hg : GOK g) {σ0 : SG} {h : HH} : ∀ {b : Int}, nX4_leftInAll h = some b → WK 38 (.inl (some (aI b))) σ0 (abH 2 70 g h) 0 [(0, aR 59)] [] (abH 2 70 g h) 0 0 := by
  intro  b q
  exact uX4_leftInAll hg q
theorem mX4_leftInAll {g : SG} (hg : GOK g) {h : HH} {b : Int} (q : nX4_leftInAll h = some b) : MCT 38 [] [aR 59] (abH 2 70 g h) (.inl (some (aI b))) (abH 2 70 g h) :=
  mct_of (by decide) (MFok 38 (by decide +kernel)) (fun _ => Nat.le_of_ble_eq_true rfl) (wX4_leftInAll hg q)
def pX4_leftInAll {β : Type} (z : HH → Option Int) : PP β := fun h as f => skC 59 as fun as => skE as (bnd (z h) fun r => f (.inl (some (aI r))))
theorem pX4_leftInAll_ok {β : Type} {g : SG} (hg : GOK g) : CP1 (β := β) 38 (pX4_leftInAll nX4_leftInAll) 2 70 g := fun h as f b q => by
  obtain ⟨as, rfl, q1⟩ := skC_of q
  obtain ⟨rfl, q0⟩ := skE_of q1
  obtain ⟨r, z1, z2⟩ := bnd_of q0
  exact ⟨_, z2, by decide, mX4_leftInAll hg z1, rfl, rfl, fun z => absurd z (by decide)⟩
def csX4_leftWithoutRest : List (Nat × List (Nat × ARow)) := [(100000, [(0, 1, .aload_n 0, 0, 0, 0), (1, 3, .getfield 21, 4, 8, 0), (4, 1, .iconst (-1), 0, 0, 0), (5, 3, .if_icmp .ne 27, 32, 0, 0), (8, 1, .aload_n 0, 0, 0, 0), (9, 3, .getfield 9, 4, 0, 0), (12, 1, .aload_n 0, 0, 0, 0), (13, 3, .getfield 33, 4, 6, 0), (16, 1, .isub, 0, 0, 0), (17, 1, .aload_n 0, 0, 0, 0), (18, 3, .getfield 18, 4, 2, 0), (21, 1, .aload_n 0, 0, 0, 0), (22, 3, .getfield 30, 4, 5, 0), (25, 1, .isub, 0, 0, 0), (26, 3, .invokestatic 39, 1001, 2, 0), (29, 3, .goto 4, 33, 0, 0), (32, 1, .iconst 0, 0, 0, 0), (33, 1, .ireturn, 0, 0, 0)])]
theorem rwX4_leftWithoutRest : rowsB (mB 39) (mO 39) (mX 39) (mIni 39) (mFr 39) (mLo 39) (mT 39) csX4_leftWithoutRest = true := by decide +kernel
def bX4_leftWithoutRest (h : HH) : Option Int :=
  if (h.1 59 8) = ((-1) : Int) then
    gd (R32 ((h.1 59 0) - (h.1 59 6))) <|
    gd (R32 ((h.1 59 2) - (h.1 59 5))) <|
    some (min ((h.1 59 0) - (h.1 59 6)) ((h.1 59 2) - (h.1 59 5)))
  else
    some 0
theorem uX4_leftWithoutRest {g : SG} (hg : GOK g) {σ0 : SG} {h : HH} : ∀ {b : Int}, bX4_leftWithoutRest h = some b → WK 39 (.inl (some (aI b))) σ0 (abH 2 70 g h) 0 [(0, aR 59)] [] (abH 2 70 g h) 0 0 := by
  intro  b q
  have e : bX4_leftWithoutRest h = segP 2 70 g.2.2.2.2 h krPI clNP csX4_leftWithoutRest cuN 1000 0 [(0, aR 59)] [] := rfl
  rw [e] at q
  clear e
  refine segP_wk (by decide) (by decide) hg rwX4_leftWithoutRest CLKP_N krPI_ok ?_ q
  clear q
  exact ct_N
def nX4_leftWithoutRest (h : HH) : Option Int := bX4_leftWithoutRest h
theorem wX4_leftWithoutRest {g : SG} (hg : GOK g) {σ0 : SG} {h : HH} : ∀ {b : Int}, nX4_leftWithoutRest h = some b → WK 39 (.inl (some (aI b))) σ0 (abH 2 70 g h) 0 [(0, aR 59)] [] (abH 2 70 g h) 0 0 := by
  intro  b q
  exact uX4_leftWithoutRest hg q
theorem mX4_leftWithoutRest {g : SG} (hg : GOK g) {h : HH} {b : Int} (q : nX4_leftWithoutRest h = some b) : MCT 39 [] [aR 59] (abH 2 70 g h) (.inl (some (aI b))) (abH 2 70 g h) :=
  mct_of (by decide) (MFok 39 (by decide +kernel)) (fun _ => Nat.le_of_ble_eq_true rfl) (wX4_leftWithoutRest hg q)
def pX4_leftWithoutRest {β : Type} (z : HH → Option Int) : PP β := fun h as f => skC 59 as fun as => skE as (bnd (z h) fun r => f (.inl (some (aI r))))
theorem pX4_leftWithoutRest_ok {β : Type} {g : SG} (hg : GOK g) : CP1 (β := β) 39 (pX4_leftWithoutRest nX4_leftWithoutRest) 2 70 g := fun h as f b q => by
  obtain ⟨as, rfl, q1⟩ := skC_of q
  obtain ⟨rfl, q0⟩ := skE_of q1
  obtain ⟨r, z1, z2⟩ := bnd_of q0
  exact ⟨_, z2, by decide, mX4_leftWithoutRest hg z1, rfl, rfl, fun z => absurd z (by decide)⟩
def csX4_stretches : List (Nat × List (Nat × ARow)) := [(100000, [(0, 1, .aload_n 0, 0, 0, 0), (1, 3, .getfield 9, 4, 0, 0), (4, 3, .ifCond .le 19, 23, 0, 0), (7, 1, .iload_n 1, 0, 0, 0), (8, 1, .aload_n 0, 0, 0, 0), (9, 3, .getfield 9, 4, 0, 0), (12, 1, .iadd, 0, 0, 0), (13, 1, .iconst 1, 0, 0, 0), (14, 1, .isub, 0, 0, 0), (15, 1, .aload_n 0, 0, 0, 0), (16, 3, .getfield 9, 4, 0, 0), (19, 1, .idiv, 0, 0, 0), (20, 3, .goto 4, 24, 0, 0), (23, 1, .iconst 0, 0, 0, 0), (24, 1, .ireturn, 0, 0, 0)])]
theorem rwX4_stretches : rowsB (mB 41) (mO 41) (mX 41) (mIni 41) (mFr 41) (mLo 41) (mT 41) csX4_stretches = true := by decide +kernel
def bX4_stretches (h : HH) (x1 : Int) : Option Int :=
  if (0 : Int) < (h.1 59 0) then
    gd (R32 (x1 + (h.1 59 0))) <|
    gd (R32 ((x1 + (h.1 59 0)) - 1)) <|
    gd ((0 : Int) ≤ ((x1 + (h.1 59 0)) - 1) ∧ (0 : Int) < (h.1 59 0)) <|
    some (((x1 + (h.1 59 0)) - 1) / (h.1 59 0))
  else
    some 0
theorem uX4_stretches {g : SG} (hg : GOK g) {σ0 : SG} {h : HH} : ∀ {x1 : Int} {b : Int}, bX4_stretches h x1 = some b → WK 41 (.inl (some (aI b))) σ0 (abH 2 70 g h) 0 [(0, aR 59), (1, aI x1)] [] (abH 2 70 g h) 0 0 := by
  intro x1 b q
  have e : bX4_stretches h x1 = segP 2 70 g.2.2.2.2 h krPI clNP csX4_stretches cuN 1000 0 [(0, aR 59), (1, aI x1)] [] := rfl
  rw [e] at q
  clear e
  refine segP_wk (by decide) (by decide) hg rwX4_stretches CLKP_N krPI_ok ?_ q
  clear q
  exact ct_N
def nX4_stretches (h : HH) (x1 : Int) : Option Int := bX4_stretches h x1
theorem wX4_stretches {g : SG} (hg : GOK g) {σ0 : SG} {h : HH} : ∀ {x1 : Int} {b : Int}, nX4_stretches h x1 = some b → WK 41 (.inl (some (aI b))) σ0 (abH 2 70 g h) 0 [(0, aR 59), (1, aI x1)] [] (abH 2 70 g h) 0 0 := by
  intro x1 b q
  exact uX4_stretches hg q
theorem mX4_stretches {g : SG} (hg : GOK g) {h : HH} {x1 : Int} {b : Int} (q : nX4_stretches h x1 = some b) : MCT 41 [] [aR 59, aI x1] (abH 2 70 g h) (.inl (some (aI b))) (abH 2 70 g h) :=
  mct_of (by decide) (MFok 41 (by decide +kernel)) (fun _ => Nat.le_of_ble_eq_true rfl) (wX4_stretches hg q)
def pX4_stretches {β : Type} (z : HH → Int → Option Int) : PP β := fun h as f => skC 59 as fun as => skI as fun x1 as => skE as (bnd (z h x1) fun r => f (.inl (some (aI r))))
theorem pX4_stretches_ok {β : Type} {g : SG} (hg : GOK g) : CP1 (β := β) 41 (pX4_stretches nX4_stretches) 2 70 g := fun h as f b q => by
  obtain ⟨as, rfl, q1⟩ := skC_of q
  obtain ⟨x1, as, rfl, q2⟩ := skI_of q1
  obtain ⟨rfl, q0⟩ := skE_of q2
  obtain ⟨r, z1, z2⟩ := bnd_of q0
  exact ⟨_, z2, by decide, mX4_stretches hg z1, rfl, rfl, fun z => absurd z (by decide)⟩
def csX4_timeFor : List (Nat × List (Nat × ARow)) := [(40, [(0, 1, .aload_n 0, 0, 0, 0), (1, 3, .getfield 21, 4, 8, 0), (4, 1, .iconst (-1), 0, 0, 0), (5, 3, .if_icmp .ne 16, 21, 0, 0), (8, 1, .iload_n 1, 0, 0, 0), (9, 1, .aload_n 0, 0, 0, 0), (10, 3, .getfield 18, 4, 2, 0), (13, 1, .aload_n 0, 0, 0, 0), (14, 3, .getfield 30, 4, 5, 0), (17, 1, .isub, 0, 0, 0), (18, 3, .if_icmp .le 5, 23, 0, 0), (21, 1, .iconst (-1), 0, 0, 0), (22, 1, .ireturn, 0, 0, 0), (23, 1, .aload_n 0, 0, 0, 0), (24, 3, .getfield 9, 4, 0, 0), (27, 1, .aload_n 0, 0, 0, 0), (28, 3, .getfield 33, 4, 6, 0), (31, 1, .isub, 0, 0, 0), (32, 1, .istore_n 2, 0, 0, 0), (33, 1, .iload_n 1, 0, 0, 0), (34, 1, .iload_n 2, 0, 0, 0), (35, 3, .if_icmp .gt 5, 40, 0, 0), (38, 1, .iload_n 1, 0, 0, 0), (39, 1, .ireturn, 0, 0, 0)]),
  (76, [(40, 1, .iload_n 1, 0, 0, 0), (41, 1, .aload_n 0, 0, 0, 0), (42, 3, .getfield 15, 4, 1, 0), (45, 1, .aload_n 0, 0, 0, 0), (46, 1, .iload_n 1, 0, 0, 0), (47, 1, .iload_n 2, 0, 0, 0), (48, 1, .isub, 0, 0, 0), (49, 3, .invokevirtual 45, 41, 2, 4), (52, 1, .imul, 0, 0, 0), (53, 1, .iadd, 0, 0, 0), (54, 1, .istore_n 3, 0, 0, 0), (55, 1, .aload_n 0, 0, 0, 0), (56, 3, .getfield 15, 4, 1, 0), (59, 1, .aload_n 0, 0, 0, 0), (60, 3, .getfield 36, 4, 7, 0), (63, 1, .isub, 0, 0, 0), (64, 1, .iconst 0, 0, 0, 0), (65, 3, .invokestatic 49, 1000, 2, 0), (68, 2, .istore 4, 0, 0, 0), (70, 1, .iload_n 3, 0, 0, 0), (71, 1, .iload_n 1, 0, 0, 0), (72, 2, .iload 4, 0, 0, 0), (74, 1, .iadd, 0, 0, 0), (75, 1, .aload_n 0, 0, 0, 0)]),
  (100000, [(76, 3, .getfield 15, 4, 1, 0), (79, 1, .aload_n 0, 0, 0, 0), (80, 1, .iload_n 1, 0, 0, 0), (81, 3, .invokevirtual 45, 41, 2, 4), (84, 1, .iconst 1, 0, 0, 0), (85, 1, .isub, 0, 0, 0), (86, 1, .imul, 0, 0, 0), (87, 1, .iadd, 0, 0, 0), (88, 3, .invokestatic 39, 1001, 2, 0), (91, 1, .ireturn, 0, 0, 0)])]
theorem rwX4_timeFor : rowsB (mB 40) (mO 40) (mX 40) (mIni 40) (mFr 40) (mLo 40) (mT 40) csX4_timeFor = true := by decide +kernel
def bX4_timeFor_40 (f41 : HH → Int → Option Int) (h : HH) (x1 : Int) (x2 : Int) : Option Int :=
  gd (R32 (x1 - x2)) <|
    bnd (f41 h (x1 - x2)) fun r1 =>
    gd (R32 ((h.1 59 1) * r1)) <|
    gd (R32 (x1 + ((h.1 59 1) * r1))) <|
    gd (R32 ((h.1 59 1) - (h.1 59 7))) <|
    gd (R32 (x1 + (max ((h.1 59 1) - (h.1 59 7)) 0))) <|
    bnd (f41 h x1) fun r2 =>
    gd (R32 (r2 - 1)) <|
    gd (R32 ((h.1 59 1) * (r2 - 1))) <|
    gd (R32 ((x1 + (max ((h.1 59 1) - (h.1 59 7)) 0)) + ((h.1 59 1) * (r2 - 1)))) <|
    some (min (x1 + ((h.1 59 1) * r1)) ((x1 + (max ((h.1 59 1) - (h.1 59 7)) 0)) + ((h.1 59 1) * (r2 - 1))))
theorem uX4_timeFor_40 {g : SG} (hg : GOK g) {σ0 : SG} {h : HH} : ∀ {x1 : Int} {x2 : Int} {b : Int}, bX4_timeFor_40 nX4_stretches h x1 x2 = some b → WK 40 (.inl (some (aI b))) σ0 (abH 2 70 g h) 40 [(0, aR 59), (1, aI x1), (2, aI x2)] [] (abH 2 70 g h) 0 0 := by
  intro x1 x2 b q
  have e : ∀ (f41 : HH → Int → Option Int) , bX4_timeFor_40 f41 h x1 x2 = segP 2 70 g.2.2.2.2 h krPI (clCP 41 (pX4_stretches f41 h) clNP) csX4_timeFor cuN 1000 40 [(0, aR 59), (1, aI x1), (2, aI x2)] [] := fun _ => rfl
  rw [e nX4_stretches] at q
  clear e
  refine segP_wk (by decide) (by decide) hg rwX4_timeFor (CLKP_C (pX4_stretches_ok hg) CLKP_N) krPI_ok ?_ q
  clear q
  exact ct_N
def nX4_timeFor_40 (h : HH) (x1 : Int) (x2 : Int) : Option Int := bX4_timeFor_40 nX4_stretches h x1 x2
theorem wX4_timeFor_40 {g : SG} (hg : GOK g) {σ0 : SG} {h : HH} : ∀ {x1 : Int} {x2 : Int} {b : Int}, nX4_timeFor_40 h x1 x2 = some b → WK 40 (.inl (some (aI b))) σ0 (abH 2 70 g h) 40 [(0, aR 59), (1, aI x1), (2, aI x2)] [] (abH 2 70 g h) 0 0 := by
  intro x1 x2 b q
  exact uX4_timeFor_40 hg q
def bX4_timeFor (h : HH) (c40 : Int → Int → Option Int) (x1 : Int) : Option Int :=
  if (h.1 59 8) = ((-1) : Int) then
    gd (R32 ((h.1 59 2) - (h.1 59 5))) <|
    if (((h.1 59 2) - (h.1 59 5)) : Int) < x1 then
    some (-1)
  else
    gd (R32 ((h.1 59 0) - (h.1 59 6))) <|
    if (((h.1 59 0) - (h.1 59 6)) : Int) < x1 then
    c40 x1 ((h.1 59 0) - (h.1 59 6))
  else
    some x1
  else
    some (-1)
theorem uX4_timeFor {g : SG} (hg : GOK g) {σ0 : SG} {h : HH} {c40 : Int → Int → Option Int} (k40 : ∀ (x1 : Int) (x2 : Int) (b : Int), c40 x1 x2 = some b → WK 40 (.inl (some (aI b))) σ0 (abH 2 70 g h) 40 [(0, aR 59), (1, aI x1), (2, aI x2)] [] (abH 2 70 g h) 0 0) : ∀ {x1 : Int} {b : Int}, bX4_timeFor h c40 x1 = some b → WK 40 (.inl (some (aI b))) σ0 (abH 2 70 g h) 0 [(0, aR 59), (1, aI x1)] [] (abH 2 70 g h) 0 0 := by
  intro x1 b q
  have e : bX4_timeFor h c40 x1 = segP 2 70 g.2.2.2.2 h krPI clNP csX4_timeFor (cuC 40 (fun l st s => tkC 0 59 l <| tkI 1 l fun x1 => tkI 2 l fun x2 => skE st (c40 x1 x2)) cuN) 1000 0 [(0, aR 59), (1, aI x1)] [] := rfl
  rw [e] at q
  clear e
  refine segP_wk (by decide) (by decide) hg rwX4_timeFor CLKP_N krPI_ok ?_ q
  clear q
  refine ct_C ?_ (ct_N)
  · intro l st _ q
    obtain ⟨m0, q1⟩ := tkC_of q
    obtain ⟨x1, m1, q2⟩ := tkI_of q1
    obtain ⟨x2, m2, q3⟩ := tkI_of q2
    obtain ⟨rfl, q4⟩ := skE_of q3
    exact WK_less (k40 _ _ _ q4) (List.forall_mem_cons.mpr ⟨m0, (List.forall_mem_cons.mpr ⟨m1, (List.forall_mem_cons.mpr ⟨m2, (fun _ h => absurd h List.not_mem_nil)⟩)⟩)⟩)
def nX4_timeFor (h : HH) (x1 : Int) : Option Int := bX4_timeFor h (nX4_timeFor_40 h) x1
theorem wX4_timeFor {g : SG} (hg : GOK g) {σ0 : SG} {h : HH} : ∀ {x1 : Int} {b : Int}, nX4_timeFor h x1 = some b → WK 40 (.inl (some (aI b))) σ0 (abH 2 70 g h) 0 [(0, aR 59), (1, aI x1)] [] (abH 2 70 g h) 0 0 := by
  intro x1 b q
  exact uX4_timeFor hg (fun _ _ _ q => wX4_timeFor_40 hg q) q
theorem mX4_timeFor {g : SG} (hg : GOK g) {h : HH} {x1 : Int} {b : Int} (q : nX4_timeFor h x1 = some b) : MCT 40 [] [aR 59, aI x1] (abH 2 70 g h) (.inl (some (aI b))) (abH 2 70 g h) :=
  mct_of (by decide) (MFok 40 (by decide +kernel)) (fun _ => Nat.le_of_ble_eq_true rfl) (wX4_timeFor hg q)
def pX4_timeFor {β : Type} (z : HH → Int → Option Int) : PP β := fun h as f => skC 59 as fun as => skI as fun x1 as => skE as (bnd (z h x1) fun r => f (.inl (some (aI r))))
theorem pX4_timeFor_ok {β : Type} {g : SG} (hg : GOK g) : CP1 (β := β) 40 (pX4_timeFor nX4_timeFor) 2 70 g := fun h as f b q => by
  obtain ⟨as, rfl, q1⟩ := skC_of q
  obtain ⟨x1, as, rfl, q2⟩ := skI_of q1
  obtain ⟨rfl, q0⟩ := skE_of q2
  obtain ⟨r, z1, z2⟩ := bnd_of q0
  exact ⟨_, z2, by decide, mX4_timeFor hg z1, rfl, rfl, fun z => absurd z (by decide)⟩
def csX4_wrongTimes : List (Nat × List (Nat × ARow)) := [(40, [(0, 1, .aload_n 0, 0, 0, 0), (1, 3, .getfield 21, 4, 8, 0), (4, 1, .iconst (-1), 0, 0, 0), (5, 3, .if_icmp .eq 5, 10, 0, 0), (8, 1, .iconst 0, 0, 0, 0), (9, 1, .ireturn, 0, 0, 0), (10, 1, .aload_n 0, 0, 0, 0), (11, 3, .invokevirtual 52, 38, 1, 4), (14, 1, .istore_n 1, 0, 0, 0), (15, 1, .aload_n 0, 0, 0, 0), (16, 1, .iload_n 1, 0, 0, 0), (17, 3, .invokevirtual 56, 40, 2, 4), (20, 1, .iconst (-1), 0, 0, 0), (21, 3, .if_icmp .ne 7, 28, 0, 0), (24, 1, .iconst 1, 0, 0, 0), (25, 3, .goto 4, 29, 0, 0), (28, 1, .iconst 0, 0, 0, 0), (29, 1, .istore_n 2, 0, 0, 0), (30, 1, .iload_n 1, 0, 0, 0), (31, 3, .sipush 900, 0, 0, 0), (34, 3, .if_icmp .ge 20, 54, 0, 0), (37, 1, .aload_n 0, 0, 0, 0), (38, 1, .iload_n 1, 0, 0, 0), (39, 1, .iconst 1, 0, 0, 0)]),
  (100000, [(40, 1, .iadd, 0, 0, 0), (41, 3, .invokevirtual 56, 40, 2, 4), (44, 1, .iconst (-1), 0, 0, 0), (45, 3, .if_icmp .eq 9, 54, 0, 0), (48, 1, .iload_n 2, 0, 0, 0), (49, 1, .iconst 1, 0, 0, 0), (50, 1, .iadd, 0, 0, 0), (51, 3, .goto 4, 55, 0, 0), (54, 1, .iload_n 2, 0, 0, 0), (55, 1, .ireturn, 0, 0, 0)])]
theorem rwX4_wrongTimes : rowsB (mB 42) (mO 42) (mX 42) (mIni 42) (mFr 42) (mLo 42) (mT 42) csX4_wrongTimes = true := by decide +kernel
def bX4_wrongTimes_29 (f40 : HH → Int → Option Int) (h : HH) (x1 : Int) (y0 : Int) : Option Int :=
  if x1 < (900 : Int) then
    gd (R32 (x1 + 1)) <|
    bnd (f40 h (x1 + 1)) fun r1 =>
    if r1 = ((-1) : Int) then
    some y0
  else
    gd (R32 (y0 + 1)) <|
    some (y0 + 1)
  else
    some y0
theorem uX4_wrongTimes_29 {g : SG} (hg : GOK g) {σ0 : SG} {h : HH} : ∀ {x1 : Int} {y0 : Int} {b : Int}, bX4_wrongTimes_29 nX4_timeFor h x1 y0 = some b → WK 42 (.inl (some (aI b))) σ0 (abH 2 70 g h) 29 [(0, aR 59), (1, aI x1)] [aI y0] (abH 2 70 g h) 0 0 := by
  intro x1 y0 b q
  have e : ∀ (f40 : HH → Int → Option Int) , bX4_wrongTimes_29 f40 h x1 y0 = segP 2 70 g.2.2.2.2 h krPI (clCP 40 (pX4_timeFor f40 h) clNP) csX4_wrongTimes cuN 1000 29 [(0, aR 59), (1, aI x1)] [aI y0] := fun _ => rfl
  rw [e nX4_timeFor] at q
  clear e
  refine segP_wk (by decide) (by decide) hg rwX4_wrongTimes (CLKP_C (pX4_timeFor_ok hg) CLKP_N) krPI_ok ?_ q
  clear q
  exact ct_N
def nX4_wrongTimes_29 (h : HH) (x1 : Int) (y0 : Int) : Option Int := bX4_wrongTimes_29 nX4_timeFor h x1 y0
theorem wX4_wrongTimes_29 {g : SG} (hg : GOK g) {σ0 : SG} {h : HH} : ∀ {x1 : Int} {y0 : Int} {b : Int}, nX4_wrongTimes_29 h x1 y0 = some b → WK 42 (.inl (some (aI b))) σ0 (abH 2 70 g h) 29 [(0, aR 59), (1, aI x1)] [aI y0] (abH 2 70 g h) 0 0 := by
  intro x1 y0 b q
  exact uX4_wrongTimes_29 hg q
def bX4_wrongTimes (f38 : HH → Option Int) (f40 : HH → Int → Option Int) (h : HH) (c29 : Int → Int → Option Int) : Option Int :=
  if (h.1 59 8) = ((-1) : Int) then
    bnd (f38 h) fun r1 =>
    bnd (f40 h r1) fun r2 =>
    if r2 = ((-1) : Int) then
    c29 r1 1
  else
    c29 r1 0
  else
    some 0
theorem uX4_wrongTimes {g : SG} (hg : GOK g) {σ0 : SG} {h : HH} {c29 : Int → Int → Option Int} (k29 : ∀ (x1 : Int) (y0 : Int) (b : Int), c29 x1 y0 = some b → WK 42 (.inl (some (aI b))) σ0 (abH 2 70 g h) 29 [(0, aR 59), (1, aI x1)] [aI y0] (abH 2 70 g h) 0 0) : ∀ {b : Int}, bX4_wrongTimes nX4_leftInAll nX4_timeFor h c29 = some b → WK 42 (.inl (some (aI b))) σ0 (abH 2 70 g h) 0 [(0, aR 59)] [] (abH 2 70 g h) 0 0 := by
  intro  b q
  have e : ∀ (f38 : HH → Option Int) (f40 : HH → Int → Option Int) , bX4_wrongTimes f38 f40 h c29 = segP 2 70 g.2.2.2.2 h krPI (clCP 38 (pX4_leftInAll f38 h) (clCP 40 (pX4_timeFor f40 h) clNP)) csX4_wrongTimes (cuC 29 (fun l st s => tkC 0 59 l <| tkI 1 l fun x1 => skI st fun y0 st => skE st (c29 x1 y0)) cuN) 1000 0 [(0, aR 59)] [] := fun _ _ => rfl
  rw [e nX4_leftInAll nX4_timeFor] at q
  clear e
  refine segP_wk (by decide) (by decide) hg rwX4_wrongTimes (CLKP_C (pX4_leftInAll_ok hg) (CLKP_C (pX4_timeFor_ok hg) CLKP_N)) krPI_ok ?_ q
  clear q
  refine ct_C ?_ (ct_N)
  · intro l st _ q
    obtain ⟨m0, q1⟩ := tkC_of q
    obtain ⟨x1, m1, q2⟩ := tkI_of q1
    obtain ⟨y0, t0, rfl, q3⟩ := skI_of q2
    obtain ⟨rfl, q4⟩ := skE_of q3
    exact WK_less (k29 _ _ _ q4) (List.forall_mem_cons.mpr ⟨m0, (List.forall_mem_cons.mpr ⟨m1, (fun _ h => absurd h List.not_mem_nil)⟩)⟩)
def nX4_wrongTimes (h : HH) : Option Int := bX4_wrongTimes nX4_leftInAll nX4_timeFor h (nX4_wrongTimes_29 h)
theorem wX4_wrongTimes {g : SG} (hg : GOK g) {σ0 : SG} {h : HH} : ∀ {b : Int}, nX4_wrongTimes h = some b → WK 42 (.inl (some (aI b))) σ0 (abH 2 70 g h) 0 [(0, aR 59)] [] (abH 2 70 g h) 0 0 := by
  intro  b q
  exact uX4_wrongTimes hg (fun _ _ _ q => wX4_wrongTimes_29 hg q) q
theorem mX4_wrongTimes {g : SG} (hg : GOK g) {h : HH} {b : Int} (q : nX4_wrongTimes h = some b) : MCT 42 [] [aR 59] (abH 2 70 g h) (.inl (some (aI b))) (abH 2 70 g h) :=
  mct_of (by decide) (MFok 42 (by decide +kernel)) (fun _ => Nat.le_of_ble_eq_true rfl) (wX4_wrongTimes hg q)
def pX4_wrongTimes {β : Type} (z : HH → Option Int) : PP β := fun h as f => skC 59 as fun as => skE as (bnd (z h) fun r => f (.inl (some (aI r))))
theorem pX4_wrongTimes_ok {β : Type} {g : SG} (hg : GOK g) : CP1 (β := β) 42 (pX4_wrongTimes nX4_wrongTimes) 2 70 g := fun h as f b q => by
  obtain ⟨as, rfl, q1⟩ := skC_of q
  obtain ⟨rfl, q0⟩ := skE_of q1
  obtain ⟨r, z1, z2⟩ := bnd_of q0
  exact ⟨_, z2, by decide, mX4_wrongTimes hg z1, rfl, rfl, fun z => absurd z (by decide)⟩
def csX5_enter : List (Nat × List (Nat × ARow)) := [(34, [(0, 1, .aload_n 0, 0, 0, 0), (1, 3, .getfield 22, 5, 2, 0), (4, 1, .i2l, 0, 0, 0), (5, 1, .aload_n 0, 0, 0, 0), (6, 3, .getfield 9, 5, 0, 0), (9, 1, .i2l, 0, 0, 0), (10, 1, .lmul, 0, 0, 0), (11, 1, .iload_n 1, 0, 0, 0), (12, 1, .i2l, 0, 0, 0), (13, 1, .aload_n 0, 0, 0, 0), (14, 3, .getfield 15, 5, 1, 0), (17, 1, .i2l, 0, 0, 0), (18, 1, .lmul, 0, 0, 0), (19, 3, .ldc2_w 25, 500, 0, 0), (22, 1, .ladd, 0, 0, 0), (23, 3, .ldc2_w 27, 1000, 0, 0), (26, 1, .ldiv, 0, 0, 0), (27, 1, .ladd, 0, 0, 0), (28, 1, .iload_n 2, 0, 0, 0), (29, 1, .i2l, 0, 0, 0), (30, 1, .ladd, 0, 0, 0), (31, 1, .lstore_n 3, 0, 0, 0), (32, 1, .aload_n 0, 0, 0, 0), (33, 1, .iconst 0, 0, 0, 0)]),
  (100000, [(34, 3, .putfield 22, 5, 2, 0), (37, 1, .aload_n 0, 0, 0, 0), (38, 3, .getfield 18, 5, 3, 2), (41, 1, .aload_n 0, 0, 0, 0), (42, 3, .getfield 29, 5, 4, 0), (45, 1, .lload_n 3, 0, 0, 0), (46, 1, .lastore, 0, 0, 0), (47, 1, .aload_n 0, 0, 0, 0), (48, 1, .dup, 0, 0, 0), (49, 3, .getfield 29, 5, 4, 0), (52, 1, .iconst 1, 0, 0, 0), (53, 1, .iadd, 0, 0, 0), (54, 3, .putfield 29, 5, 4, 0), (57, 1, .aload_n 0, 0, 0, 0), (58, 1, .dup, 0, 0, 0), (59, 3, .getfield 32, 5, 5, 1), (62, 1, .lload_n 3, 0, 0, 0), (63, 1, .ladd, 0, 0, 0), (64, 3, .putfield 32, 5, 5, 1), (67, 1, .lload_n 3, 0, 0, 0), (68, 1, .lreturn, 0, 0, 0)])]
theorem rwX5_enter : rowsB (mB 44) (mO 44) (mX 44) (mIni 44) (mFr 44) (mLo 44) (mT 44) csX5_enter = true := by decide +kernel
def bX5_enter (x1 : Int) (x2 : Int) (h : HH) : Option (Int × HH) :=
  gd (R64 ((h.1 67 2) * (h.1 67 0))) <|
    gd (R64 (x1 * (h.1 67 1))) <|
    gd (R64 ((x1 * (h.1 67 1)) + 500)) <|
    gd ((0 : Int) ≤ ((x1 * (h.1 67 1)) + 500) ∧ (0 : Int) < 1000) <|
    gd (R64 (((h.1 67 2) * (h.1 67 0)) + (((x1 * (h.1 67 1)) + 500) / 1000))) <|
    gd (R64 ((((h.1 67 2) * (h.1 67 0)) + (((x1 * (h.1 67 1)) + 500) / 1000)) + x2)) <|
    bnd (some (hI h 67 2 0)) fun h1 =>
    gd ((0 : Int) ≤ (h1.1 67 4) ∧ (h1.1 67 4) < (50 : Int)) <|
    bnd (some (hJ h1 68 (h1.1 67 4) ((((h.1 67 2) * (h.1 67 0)) + (((x1 * (h.1 67 1)) + 500) / 1000)) + x2))) fun h2 =>
    gd (R32 ((h2.1 67 4) + 1)) <|
    bnd (some (hI h2 67 4 ((h2.1 67 4) + 1))) fun h3 =>
    gd (R64 ((h3.2 67 5) + ((((h.1 67 2) * (h.1 67 0)) + (((x1 * (h.1 67 1)) + 500) / 1000)) + x2))) <|
    bnd (some (hJ h3 67 5 ((h3.2 67 5) + ((((h.1 67 2) * (h.1 67 0)) + (((x1 * (h.1 67 1)) + 500) / 1000)) + x2)))) fun h4 =>
    some (((((h.1 67 2) * (h.1 67 0)) + (((x1 * (h.1 67 1)) + 500) / 1000)) + x2), h4)
set_option maxRecDepth 100000 in
theorem uX5_enter {g : SG} (hg : GOK g) {σ0 : SG} : ∀ {x1 : Int} {x2 : Int} {h : HH} {b : (Int × HH)}, bX5_enter x1 x2 h = some b → WK 44 (.inl (some (aJ b.1))) σ0 (abH 2 70 g b.2) 0 [(0, aR 67), (1, aI x1), (2, aI x2)] [] (abH 2 70 g h) 0 0 := by
  intro x1 x2 h b q
  have e : bX5_enter x1 x2 h = segW 2 70 g.2.2.2.2 krWJ clN csX5_enter cuN 1000 0 [(0, aR 67), (1, aI x1), (2, aI x2)] [] h := rfl
  rw [e] at q
  clear e
  refine segW_wk (by decide) (by decide) hg rwX5_enter CLKW_N krWJ_ok ?_ q
  clear q
  exact ct_N
def nX5_enter (x1 : Int) (x2 : Int) (h : HH) : Option (Int × HH) := bX5_enter x1 x2 h
theorem wX5_enter {g : SG} (hg : GOK g) {σ0 : SG} : ∀ {x1 : Int} {x2 : Int} {h : HH} {b : (Int × HH)}, nX5_enter x1 x2 h = some b → WK 44 (.inl (some (aJ b.1))) σ0 (abH 2 70 g b.2) 0 [(0, aR 67), (1, aI x1), (2, aI x2)] [] (abH 2 70 g h) 0 0 := by
  intro x1 x2 h b q
  exact uX5_enter hg q
theorem mX5_enter {g : SG} (hg : GOK g) {h : HH} {x1 : Int} {x2 : Int} {b : (Int × HH)} (q : nX5_enter x1 x2 h = some b) : MCT 44 [] [aR 67, aI x1, aI x2] (abH 2 70 g h) (.inl (some (aJ b.1))) (abH 2 70 g b.2) :=
  mct_of (by decide) (MFok 44 (by decide +kernel)) (fun _ => Nat.le_of_ble_eq_true rfl) (wX5_enter hg q)
def pX5_enter {β : Type} (z : Int → Int → HH → Option (Int × HH)) : PW β := fun as h f => skC 67 as fun as => skI as fun x1 as => skI as fun x2 as => skE as (bnd (z x1 x2 h) fun r => f (.inl (some (aJ r.1))) r.2)
theorem pX5_enter_ok {β : Type} {g : SG} (hg : GOK g) : CW1 (β := β) 44 (pX5_enter nX5_enter) 2 70 g := fun as h f b q => by
  obtain ⟨as, rfl, q1⟩ := skC_of q
  obtain ⟨x1, as, rfl, q2⟩ := skI_of q1
  obtain ⟨x2, as, rfl, q3⟩ := skI_of q2
  obtain ⟨rfl, q0⟩ := skE_of q3
  obtain ⟨r, z1, z2⟩ := bnd_of q0
  exact ⟨_, _, z2, by decide, mX5_enter hg z1, rfl, rfl, fun z => absurd z (by decide)⟩
def csX5_wrongSums : List (Nat × List (Nat × ARow)) := [(40, [(0, 1, .lconst 0, 0, 0, 0), (1, 1, .lstore_n 1, 0, 0, 0), (2, 1, .iconst 0, 0, 0, 0), (3, 1, .istore_n 3, 0, 0, 0), (4, 1, .iload_n 3, 0, 0, 0), (5, 1, .aload_n 0, 0, 0, 0), (6, 3, .getfield 29, 5, 4, 0), (9, 3, .if_icmp .ge 18, 27, 0, 0), (12, 1, .lload_n 1, 0, 0, 0), (13, 1, .aload_n 0, 0, 0, 0), (14, 3, .getfield 18, 5, 3, 2), (17, 1, .iload_n 3, 0, 0, 0), (18, 1, .laload, 0, 0, 0), (19, 1, .ladd, 0, 0, 0), (20, 1, .lstore_n 1, 0, 0, 0), (21, 3, .iinc 3 1, 0, 0, 0), (24, 3, .goto (-20), 4, 0, 0), (27, 1, .lload_n 1, 0, 0, 0), (28, 1, .aload_n 0, 0, 0, 0), (29, 3, .getfield 32, 5, 5, 1), (32, 1, .lcmp, 0, 0, 0), (33, 3, .ifCond .ne 7, 40, 0, 0), (36, 1, .iconst 0, 0, 0, 0), (37, 3, .goto 4, 41, 0, 0)]),
  (100000, [(40, 1, .iconst 1, 0, 0, 0), (41, 1, .ireturn, 0, 0, 0)])]
theorem rwX5_wrongSums : rowsB (mB 45) (mO 45) (mX 45) (mIni 45) (mFr 45) (mLo 45) (mT 45) csX5_wrongSums = true := by decide +kernel
def bX5_wrongSums_4 (h : HH) (c4 : Int → Int → Option Int) (x1 : Int) (x3 : Int) : Option Int :=
  if x3 < ((h.1 67 4) : Int) then
    gd ((0 : Int) ≤ x3 ∧ x3 < (50 : Int)) <|
    gd (R64 (x1 + (h.2 68 x3))) <|
    gd (R32 (x3 + 1)) <|
    c4 (x1 + (h.2 68 x3)) (x3 + 1)
  else
    if (cmpI x1 (h.2 67 5)) = (0 : Int) then
    some 0
  else
    some 1
theorem uX5_wrongSums_4 {g : SG} (hg : GOK g) {σ0 : SG} {h : HH} {c4 : Int → Int → Option Int} (k4 : ∀ (x1 : Int) (x3 : Int) (b : Int), c4 x1 x3 = some b → WK 45 (.inl (some (aI b))) σ0 (abH 2 70 g h) 4 [(0, aR 67), (1, aJ x1), (3, aI x3)] [] (abH 2 70 g h) 0 0) : ∀ {x1 : Int} {x3 : Int} {b : Int}, bX5_wrongSums_4 h c4 x1 x3 = some b → WK 45 (.inl (some (aI b))) σ0 (abH 2 70 g h) 4 [(0, aR 67), (1, aJ x1), (3, aI x3)] [] (abH 2 70 g h) 0 0 := by
  intro x1 x3 b q
  have e : bX5_wrongSums_4 h c4 x1 x3 = segP 2 70 g.2.2.2.2 h krPI clNP csX5_wrongSums (cuC 4 (fun l st s => tkC 0 67 l <| tkJ 1 l fun x1 => tkI 3 l fun x3 => skE st (c4 x1 x3)) cuN) 1000 4 [(0, aR 67), (1, aJ x1), (3, aI x3)] [] := rfl
  rw [e] at q
  clear e
  refine segP_wk (by decide) (by decide) hg rwX5_wrongSums CLKP_N krPI_ok ?_ q
  clear q
  refine ct_C ?_ (ct_N)
  · intro l st _ q
    obtain ⟨m0, q1⟩ := tkC_of q
    obtain ⟨x1, m1, q2⟩ := tkJ_of q1
    obtain ⟨x3, m3, q3⟩ := tkI_of q2
    obtain ⟨rfl, q4⟩ := skE_of q3
    exact WK_less (k4 _ _ _ q4) (List.forall_mem_cons.mpr ⟨m0, (List.forall_mem_cons.mpr ⟨m1, (List.forall_mem_cons.mpr ⟨m3, (fun _ h => absurd h List.not_mem_nil)⟩)⟩)⟩)
def nX5_wrongSums_4 (h : HH) : Nat → Int → Int → Option Int := iter (fun _ _ => none) (fun self => bX5_wrongSums_4 h self)
theorem nX5_wrongSums_4_s {h : HH} {F : Nat} : nX5_wrongSums_4 h (F + 1) = bX5_wrongSums_4 h (nX5_wrongSums_4 h F) := rfl
theorem wX5_wrongSums_4 {g : SG} (hg : GOK g) {σ0 : SG} {h : HH} : ∀ {F : Nat}, ∀ {x1 : Int} {x3 : Int} {b : Int}, nX5_wrongSums_4 h F x1 x3 = some b → WK 45 (.inl (some (aI b))) σ0 (abH 2 70 g h) 4 [(0, aR 67), (1, aJ x1), (3, aI x3)] [] (abH 2 70 g h) 0 0 := by
  intro F
  have z : ∀ (x1 : Int) (x3 : Int) (b : Int), nX5_wrongSums_4 h F x1 x3 = some b → WK 45 (.inl (some (aI b))) σ0 (abH 2 70 g h) 4 [(0, aR 67), (1, aJ x1), (3, aI x3)] [] (abH 2 70 g h) 0 0 := iter_ind (P := fun (c : Int → Int → Option Int) => ∀ (x1 : Int) (x3 : Int) (b : Int), c x1 x3 = some b → WK 45 (.inl (some (aI b))) σ0 (abH 2 70 g h) 4 [(0, aR 67), (1, aJ x1), (3, aI x3)] [] (abH 2 70 g h) 0 0) (by
    intro x1 x3 b q
    cases q) (fun self ih => by
    intro x1 x3 b q
    exact uX5_wrongSums_4 hg ih q) F
  intro x1 x3 b q
  exact z _ _ _ q
def bX5_wrongSums (h : HH) (c4 : Int → Int → Option Int) : Option Int :=
  c4 0 0
theorem uX5_wrongSums {g : SG} (hg : GOK g) {σ0 : SG} {h : HH} {c4 : Int → Int → Option Int} (k4 : ∀ (x1 : Int) (x3 : Int) (b : Int), c4 x1 x3 = some b → WK 45 (.inl (some (aI b))) σ0 (abH 2 70 g h) 4 [(0, aR 67), (1, aJ x1), (3, aI x3)] [] (abH 2 70 g h) 0 0) : ∀ {b : Int}, bX5_wrongSums h c4 = some b → WK 45 (.inl (some (aI b))) σ0 (abH 2 70 g h) 0 [(0, aR 67)] [] (abH 2 70 g h) 0 0 := by
  intro  b q
  have e : bX5_wrongSums h c4 = segP 2 70 g.2.2.2.2 h krPI clNP csX5_wrongSums (cuC 4 (fun l st s => tkC 0 67 l <| tkJ 1 l fun x1 => tkI 3 l fun x3 => skE st (c4 x1 x3)) cuN) 1000 0 [(0, aR 67)] [] := rfl
  rw [e] at q
  clear e
  refine segP_wk (by decide) (by decide) hg rwX5_wrongSums CLKP_N krPI_ok ?_ q
  clear q
  refine ct_C ?_ (ct_N)
  · intro l st _ q
    obtain ⟨m0, q1⟩ := tkC_of q
    obtain ⟨x1, m1, q2⟩ := tkJ_of q1
    obtain ⟨x3, m3, q3⟩ := tkI_of q2
    obtain ⟨rfl, q4⟩ := skE_of q3
    exact WK_less (k4 _ _ _ q4) (List.forall_mem_cons.mpr ⟨m0, (List.forall_mem_cons.mpr ⟨m1, (List.forall_mem_cons.mpr ⟨m3, (fun _ h => absurd h List.not_mem_nil)⟩)⟩)⟩)
def nX5_wrongSums (h : HH) : Option Int := bX5_wrongSums h (nX5_wrongSums_4 h 100000)
theorem wX5_wrongSums {g : SG} (hg : GOK g) {σ0 : SG} {h : HH} : ∀ {b : Int}, nX5_wrongSums h = some b → WK 45 (.inl (some (aI b))) σ0 (abH 2 70 g h) 0 [(0, aR 67)] [] (abH 2 70 g h) 0 0 := by
  intro  b q
  exact uX5_wrongSums hg (fun _ _ _ q => wX5_wrongSums_4 hg q) q
theorem mX5_wrongSums {g : SG} (hg : GOK g) {h : HH} {b : Int} (q : nX5_wrongSums h = some b) : MCT 45 [] [aR 67] (abH 2 70 g h) (.inl (some (aI b))) (abH 2 70 g h) :=
  mct_of (by decide) (MFok 45 (by decide +kernel)) (fun _ => Nat.le_of_ble_eq_true rfl) (wX5_wrongSums hg q)
def pX5_wrongSums {β : Type} (z : HH → Option Int) : PP β := fun h as f => skC 67 as fun as => skE as (bnd (z h) fun r => f (.inl (some (aI r))))
theorem pX5_wrongSums_ok {β : Type} {g : SG} (hg : GOK g) : CP1 (β := β) 45 (pX5_wrongSums nX5_wrongSums) 2 70 g := fun h as f b q => by
  obtain ⟨as, rfl, q1⟩ := skC_of q
  obtain ⟨rfl, q0⟩ := skE_of q1
  obtain ⟨r, z1, z2⟩ := bnd_of q0
  exact ⟨_, z2, by decide, mX5_wrongSums hg z1, rfl, rfl, fun z => absurd z (by decide)⟩
def csX6_areEmpty : List (Nat × List (Nat × ARow)) := [(100000, [(0, 1, .aload_n 0, 0, 0, 0), (1, 3, .getfield 16, 6, 2, 2), (4, 1, .iconst 0, 0, 0, 0), (5, 1, .iaload, 0, 0, 0), (6, 3, .ifCond .ne 25, 31, 0, 0), (9, 1, .aload_n 0, 0, 0, 0), (10, 3, .getfield 16, 6, 2, 2), (13, 1, .iconst 1, 0, 0, 0), (14, 1, .iaload, 0, 0, 0), (15, 3, .ifCond .ne 16, 31, 0, 0), (18, 1, .aload_n 0, 0, 0, 0), (19, 3, .getfield 16, 6, 2, 2), (22, 1, .iconst 2, 0, 0, 0), (23, 1, .iaload, 0, 0, 0), (24, 3, .ifCond .ne 7, 31, 0, 0), (27, 1, .iconst 1, 0, 0, 0), (28, 3, .goto 4, 32, 0, 0), (31, 1, .iconst 0, 0, 0, 0), (32, 1, .ireturn, 1, 0, 0)])]
theorem rwX6_areEmpty : rowsB (mB 47) (mO 47) (mX 47) (mIni 47) (mFr 47) (mLo 47) (mT 47) csX6_areEmpty = true := by decide +kernel
def bX6_areEmpty (h : HH) : Option Int :=
  gd ((0 : Int) ≤ 0 ∧ 0 < (3 : Int)) <|
    if (h.1 31 0) = (0 : Int) then
    gd ((0 : Int) ≤ 1 ∧ 1 < (3 : Int)) <|
    if (h.1 31 1) = (0 : Int) then
    gd ((0 : Int) ≤ 2 ∧ 2 < (3 : Int)) <|
    if (h.1 31 2) = (0 : Int) then
    gd ((0 : Int) ≤ 1 ∧ 1 ≤ (1 : Int)) <|
    some 1
  else
    gd ((0 : Int) ≤ 0 ∧ 0 ≤ (1 : Int)) <|
    some 0
  else
    gd ((0 : Int) ≤ 0 ∧ 0 ≤ (1 : Int)) <|
    some 0
  else
    gd ((0 : Int) ≤ 0 ∧ 0 ≤ (1 : Int)) <|
    some 0
theorem uX6_areEmpty {g : SG} (hg : GOK g) {σ0 : SG} {h : HH} : ∀ {b : Int}, bX6_areEmpty h = some b → WK 47 (.inl (some (aI b))) σ0 (abH 2 70 g h) 0 [(0, aR 26)] [] (abH 2 70 g h) 0 0 := by
  intro  b q
  have e : bX6_areEmpty h = segP 2 70 g.2.2.2.2 h krPI clNP csX6_areEmpty cuN 1000 0 [(0, aR 26)] [] := rfl
  rw [e] at q
  clear e
  refine segP_wk (by decide) (by decide) hg rwX6_areEmpty CLKP_N krPI_ok ?_ q
  clear q
  exact ct_N
def nX6_areEmpty (h : HH) : Option Int := bX6_areEmpty h
theorem wX6_areEmpty {g : SG} (hg : GOK g) {σ0 : SG} {h : HH} : ∀ {b : Int}, nX6_areEmpty h = some b → WK 47 (.inl (some (aI b))) σ0 (abH 2 70 g h) 0 [(0, aR 26)] [] (abH 2 70 g h) 0 0 := by
  intro  b q
  exact uX6_areEmpty hg q
theorem mX6_areEmpty {g : SG} (hg : GOK g) {h : HH} {b : Int} (q : nX6_areEmpty h = some b) : MCT 47 [] [aR 26] (abH 2 70 g h) (.inl (some (aI b))) (abH 2 70 g h) :=
  mct_of (by decide) (MFok 47 (by decide +kernel)) (fun _ => Nat.le_of_ble_eq_true rfl) (wX6_areEmpty hg q)
def pX6_areEmpty {β : Type} (z : HH → Option Int) : PP β := fun h as f => skC 26 as fun as => skE as (bnd (z h) fun r => f (.inl (some (aI r))))
theorem pX6_areEmpty_ok {β : Type} {g : SG} (hg : GOK g) : CP1 (β := β) 47 (pX6_areEmpty nX6_areEmpty) 2 70 g := fun h as f b q => by
  obtain ⟨as, rfl, q1⟩ := skC_of q
  obtain ⟨rfl, q0⟩ := skE_of q1
  obtain ⟨r, z1, z2⟩ := bnd_of q0
  exact ⟨_, z2, by decide, mX6_areEmpty hg z1, rfl, rfl, fun z => absurd z (by decide)⟩
def csX6_indexIn : List (Nat × List (Nat × ARow)) := [(100000, [(0, 1, .iconst 0, 0, 0, 0), (1, 1, .istore_n 3, 0, 0, 0), (2, 1, .iload_n 3, 0, 0, 0), (3, 1, .aload_n 0, 0, 0, 0), (4, 3, .getfield 16, 6, 2, 2), (7, 1, .iload_n 1, 0, 0, 0), (8, 1, .iaload, 0, 0, 0), (9, 3, .if_icmp .ge 23, 32, 0, 0), (12, 1, .aload_n 0, 0, 0, 0), (13, 3, .getfield 11, 6, 1, 2), (16, 1, .iload_n 1, 0, 0, 0), (17, 1, .aaload, 0, 0, 0), (18, 1, .iload_n 3, 0, 0, 0), (19, 1, .iaload, 0, 0, 0), (20, 1, .iload_n 2, 0, 0, 0), (21, 3, .if_icmp .ne 5, 26, 0, 0), (24, 1, .iload_n 3, 0, 0, 0), (25, 1, .ireturn, 0, 0, 0), (26, 3, .iinc 3 1, 0, 0, 0), (29, 3, .goto (-27), 2, 0, 0), (32, 1, .iconst (-1), 0, 0, 0), (33, 1, .ireturn, 0, 0, 0)])]
theorem rwX6_indexIn : rowsB (mB 48) (mO 48) (mX 48) (mIni 48) (mFr 48) (mLo 48) (mT 48) csX6_indexIn = true := by decide +kernel
def bX6_indexIn_2 (h : HH) (c2 : Int → Int → Int → Option Int) (x1 : Int) (x2 : Int) (x3 : Int) : Option Int :=
  gd ((0 : Int) ≤ x1 ∧ x1 < (3 : Int)) <|
    if x3 < ((h.1 31 x1) : Int) then
    gd ((0 : Int) ≤ x1 ∧ x1 < (3 : Int)) <|
    bif Nat.beq (rwK 3 28 x1) 0 then none else
    bif okS 2 70 (rwK 3 28 x1) 0 || okS 2 70 (rwK 3 28 x1) 9 then
    gd ((0 : Int) ≤ x3 ∧ x3 < ((lnK (rwK 3 28 x1)) : Int)) <|
    if (h.1 (rwK 3 28 x1) x3) = (x2 : Int) then
    some x3
  else
    gd (R32 (x3 + 1)) <|
    c2 x1 x2 (x3 + 1)
  else none
  else
    some (-1)
theorem uX6_indexIn_2 {g : SG} (hg : GOK g) {σ0 : SG} {h : HH} {c2 : Int → Int → Int → Option Int} (k2 : ∀ (x1 : Int) (x2 : Int) (x3 : Int) (b : Int), c2 x1 x2 x3 = some b → WK 48 (.inl (some (aI b))) σ0 (abH 2 70 g h) 2 [(0, aR 26), (1, aI x1), (2, aI x2), (3, aI x3)] [] (abH 2 70 g h) 0 0) : ∀ {x1 : Int} {x2 : Int} {x3 : Int} {b : Int}, bX6_indexIn_2 h c2 x1 x2 x3 = some b → WK 48 (.inl (some (aI b))) σ0 (abH 2 70 g h) 2 [(0, aR 26), (1, aI x1), (2, aI x2), (3, aI x3)] [] (abH 2 70 g h) 0 0 := by
  intro x1 x2 x3 b q
  have e : bX6_indexIn_2 h c2 x1 x2 x3 = segP 2 70 g.2.2.2.2 h krPI clNP csX6_indexIn (cuC 2 (fun l st s => tkC 0 26 l <| tkI 1 l fun x1 => tkI 2 l fun x2 => tkI 3 l fun x3 => skE st (c2 x1 x2 x3)) cuN) 1000 2 [(0, aR 26), (1, aI x1), (2, aI x2), (3, aI x3)] [] := rfl
  rw [e] at q
  clear e
  refine segP_wk (by decide) (by decide) hg rwX6_indexIn CLKP_N krPI_ok ?_ q
  clear q
  refine ct_C ?_ (ct_N)
  · intro l st _ q
    obtain ⟨m0, q1⟩ := tkC_of q
    obtain ⟨x1, m1, q2⟩ := tkI_of q1
    obtain ⟨x2, m2, q3⟩ := tkI_of q2
    obtain ⟨x3, m3, q4⟩ := tkI_of q3
    obtain ⟨rfl, q5⟩ := skE_of q4
    exact WK_less (k2 _ _ _ _ q5) (List.forall_mem_cons.mpr ⟨m0, (List.forall_mem_cons.mpr ⟨m1, (List.forall_mem_cons.mpr ⟨m2, (List.forall_mem_cons.mpr ⟨m3, (fun _ h => absurd h List.not_mem_nil)⟩)⟩)⟩)⟩)
def nX6_indexIn_2 (h : HH) : Nat → Int → Int → Int → Option Int := iter (fun _ _ _ => none) (fun self => bX6_indexIn_2 h self)
theorem nX6_indexIn_2_s {h : HH} {F : Nat} : nX6_indexIn_2 h (F + 1) = bX6_indexIn_2 h (nX6_indexIn_2 h F) := rfl
theorem wX6_indexIn_2 {g : SG} (hg : GOK g) {σ0 : SG} {h : HH} : ∀ {F : Nat}, ∀ {x1 : Int} {x2 : Int} {x3 : Int} {b : Int}, nX6_indexIn_2 h F x1 x2 x3 = some b → WK 48 (.inl (some (aI b))) σ0 (abH 2 70 g h) 2 [(0, aR 26), (1, aI x1), (2, aI x2), (3, aI x3)] [] (abH 2 70 g h) 0 0 := by
  intro F
  have z : ∀ (x1 : Int) (x2 : Int) (x3 : Int) (b : Int), nX6_indexIn_2 h F x1 x2 x3 = some b → WK 48 (.inl (some (aI b))) σ0 (abH 2 70 g h) 2 [(0, aR 26), (1, aI x1), (2, aI x2), (3, aI x3)] [] (abH 2 70 g h) 0 0 := iter_ind (P := fun (c : Int → Int → Int → Option Int) => ∀ (x1 : Int) (x2 : Int) (x3 : Int) (b : Int), c x1 x2 x3 = some b → WK 48 (.inl (some (aI b))) σ0 (abH 2 70 g h) 2 [(0, aR 26), (1, aI x1), (2, aI x2), (3, aI x3)] [] (abH 2 70 g h) 0 0) (by
    intro x1 x2 x3 b q
    cases q) (fun self ih => by
    intro x1 x2 x3 b q
    exact uX6_indexIn_2 hg ih q) F
  intro x1 x2 x3 b q
  exact z _ _ _ _ q
def bX6_indexIn (h : HH) (c2 : Int → Int → Int → Option Int) (x1 : Int) (x2 : Int) : Option Int :=
  c2 x1 x2 0
theorem uX6_indexIn {g : SG} (hg : GOK g) {σ0 : SG} {h : HH} {c2 : Int → Int → Int → Option Int} (k2 : ∀ (x1 : Int) (x2 : Int) (x3 : Int) (b : Int), c2 x1 x2 x3 = some b → WK 48 (.inl (some (aI b))) σ0 (abH 2 70 g h) 2 [(0, aR 26), (1, aI x1), (2, aI x2), (3, aI x3)] [] (abH 2 70 g h) 0 0) : ∀ {x1 : Int} {x2 : Int} {b : Int}, bX6_indexIn h c2 x1 x2 = some b → WK 48 (.inl (some (aI b))) σ0 (abH 2 70 g h) 0 [(0, aR 26), (1, aI x1), (2, aI x2)] [] (abH 2 70 g h) 0 0 := by
  intro x1 x2 b q
  have e : bX6_indexIn h c2 x1 x2 = segP 2 70 g.2.2.2.2 h krPI clNP csX6_indexIn (cuC 2 (fun l st s => tkC 0 26 l <| tkI 1 l fun x1 => tkI 2 l fun x2 => tkI 3 l fun x3 => skE st (c2 x1 x2 x3)) cuN) 1000 0 [(0, aR 26), (1, aI x1), (2, aI x2)] [] := rfl
  rw [e] at q
  clear e
  refine segP_wk (by decide) (by decide) hg rwX6_indexIn CLKP_N krPI_ok ?_ q
  clear q
  refine ct_C ?_ (ct_N)
  · intro l st _ q
    obtain ⟨m0, q1⟩ := tkC_of q
    obtain ⟨x1, m1, q2⟩ := tkI_of q1
    obtain ⟨x2, m2, q3⟩ := tkI_of q2
    obtain ⟨x3, m3, q4⟩ := tkI_of q3
    obtain ⟨rfl, q5⟩ := skE_of q4
    exact WK_less (k2 _ _ _ _ q5) (List.forall_mem_cons.mpr ⟨m0, (List.forall_mem_cons.mpr ⟨m1, (List.forall_mem_cons.mpr ⟨m2, (List.forall_mem_cons.mpr ⟨m3, (fun _ h => absurd h List.not_mem_nil)⟩)⟩)⟩)⟩)
def nX6_indexIn (h : HH) (x1 : Int) (x2 : Int) : Option Int := bX6_indexIn h (nX6_indexIn_2 h 100000) x1 x2
theorem wX6_indexIn {g : SG} (hg : GOK g) {σ0 : SG} {h : HH} : ∀ {x1 : Int} {x2 : Int} {b : Int}, nX6_indexIn h x1 x2 = some b → WK 48 (.inl (some (aI b))) σ0 (abH 2 70 g h) 0 [(0, aR 26), (1, aI x1), (2, aI x2)] [] (abH 2 70 g h) 0 0 := by
  intro x1 x2 b q
  exact uX6_indexIn hg (fun _ _ _ _ q => wX6_indexIn_2 hg q) q
theorem mX6_indexIn {g : SG} (hg : GOK g) {h : HH} {x1 : Int} {x2 : Int} {b : Int} (q : nX6_indexIn h x1 x2 = some b) : MCT 48 [] [aR 26, aI x1, aI x2] (abH 2 70 g h) (.inl (some (aI b))) (abH 2 70 g h) :=
  mct_of (by decide) (MFok 48 (by decide +kernel)) (fun _ => Nat.le_of_ble_eq_true rfl) (wX6_indexIn hg q)
def pX6_indexIn {β : Type} (z : HH → Int → Int → Option Int) : PP β := fun h as f => skC 26 as fun as => skI as fun x1 as => skI as fun x2 as => skE as (bnd (z h x1 x2) fun r => f (.inl (some (aI r))))
theorem pX6_indexIn_ok {β : Type} {g : SG} (hg : GOK g) : CP1 (β := β) 48 (pX6_indexIn nX6_indexIn) 2 70 g := fun h as f b q => by
  obtain ⟨as, rfl, q1⟩ := skC_of q
  obtain ⟨x1, as, rfl, q2⟩ := skI_of q1
  obtain ⟨x2, as, rfl, q3⟩ := skI_of q2
  obtain ⟨rfl, q0⟩ := skE_of q3
  obtain ⟨r, z1, z2⟩ := bnd_of q0
  exact ⟨_, z2, by decide, mX6_indexIn hg z1, rfl, rfl, fun z => absurd z (by decide)⟩
def csX6_vanWith : List (Nat × List (Nat × ARow)) := [(100000, [(0, 1, .iconst 0, 0, 0, 0), (1, 1, .istore_n 2, 0, 0, 0), (2, 1, .iload_n 2, 0, 0, 0), (3, 1, .iconst 3, 0, 0, 0), (4, 3, .if_icmp .ge 21, 25, 0, 0), (7, 1, .aload_n 0, 0, 0, 0), (8, 1, .iload_n 2, 0, 0, 0), (9, 1, .iload_n 1, 0, 0, 0), (10, 3, .invokevirtual 24, 48, 3, 6), (13, 1, .iconst (-1), 0, 0, 0), (14, 3, .if_icmp .eq 5, 19, 0, 0), (17, 1, .iload_n 2, 0, 0, 0), (18, 1, .ireturn, 0, 0, 0), (19, 3, .iinc 2 1, 0, 0, 0), (22, 3, .goto (-20), 2, 0, 0), (25, 1, .iconst (-1), 0, 0, 0), (26, 1, .ireturn, 0, 0, 0)])]
theorem rwX6_vanWith : rowsB (mB 49) (mO 49) (mX 49) (mIni 49) (mFr 49) (mLo 49) (mT 49) csX6_vanWith = true := by decide +kernel
def bX6_vanWith_2 (f48 : HH → Int → Int → Option Int) (h : HH) (c2 : Int → Int → Option Int) (x1 : Int) (x2 : Int) : Option Int :=
  if x2 < (3 : Int) then
    bnd (f48 h x2 x1) fun r1 =>
    if r1 = ((-1) : Int) then
    gd (R32 (x2 + 1)) <|
    c2 x1 (x2 + 1)
  else
    some x2
  else
    some (-1)
theorem uX6_vanWith_2 {g : SG} (hg : GOK g) {σ0 : SG} {h : HH} {c2 : Int → Int → Option Int} (k2 : ∀ (x1 : Int) (x2 : Int) (b : Int), c2 x1 x2 = some b → WK 49 (.inl (some (aI b))) σ0 (abH 2 70 g h) 2 [(0, aR 26), (1, aI x1), (2, aI x2)] [] (abH 2 70 g h) 0 0) : ∀ {x1 : Int} {x2 : Int} {b : Int}, bX6_vanWith_2 nX6_indexIn h c2 x1 x2 = some b → WK 49 (.inl (some (aI b))) σ0 (abH 2 70 g h) 2 [(0, aR 26), (1, aI x1), (2, aI x2)] [] (abH 2 70 g h) 0 0 := by
  intro x1 x2 b q
  have e : ∀ (f48 : HH → Int → Int → Option Int) , bX6_vanWith_2 f48 h c2 x1 x2 = segP 2 70 g.2.2.2.2 h krPI (clCP 48 (pX6_indexIn f48 h) clNP) csX6_vanWith (cuC 2 (fun l st s => tkC 0 26 l <| tkI 1 l fun x1 => tkI 2 l fun x2 => skE st (c2 x1 x2)) cuN) 1000 2 [(0, aR 26), (1, aI x1), (2, aI x2)] [] := fun _ => rfl
  rw [e nX6_indexIn] at q
  clear e
  refine segP_wk (by decide) (by decide) hg rwX6_vanWith (CLKP_C (pX6_indexIn_ok hg) CLKP_N) krPI_ok ?_ q
  clear q
  refine ct_C ?_ (ct_N)
  · intro l st _ q
    obtain ⟨m0, q1⟩ := tkC_of q
    obtain ⟨x1, m1, q2⟩ := tkI_of q1
    obtain ⟨x2, m2, q3⟩ := tkI_of q2
    obtain ⟨rfl, q4⟩ := skE_of q3
    exact WK_less (k2 _ _ _ q4) (List.forall_mem_cons.mpr ⟨m0, (List.forall_mem_cons.mpr ⟨m1, (List.forall_mem_cons.mpr ⟨m2, (fun _ h => absurd h List.not_mem_nil)⟩)⟩)⟩)
def nX6_vanWith_2 (h : HH) : Nat → Int → Int → Option Int := iter (fun _ _ => none) (fun self => bX6_vanWith_2 nX6_indexIn h self)
theorem nX6_vanWith_2_s {h : HH} {F : Nat} : nX6_vanWith_2 h (F + 1) = bX6_vanWith_2 nX6_indexIn h (nX6_vanWith_2 h F) := rfl
theorem wX6_vanWith_2 {g : SG} (hg : GOK g) {σ0 : SG} {h : HH} : ∀ {F : Nat}, ∀ {x1 : Int} {x2 : Int} {b : Int}, nX6_vanWith_2 h F x1 x2 = some b → WK 49 (.inl (some (aI b))) σ0 (abH 2 70 g h) 2 [(0, aR 26), (1, aI x1), (2, aI x2)] [] (abH 2 70 g h) 0 0 := by
  intro F
  have z : ∀ (x1 : Int) (x2 : Int) (b : Int), nX6_vanWith_2 h F x1 x2 = some b → WK 49 (.inl (some (aI b))) σ0 (abH 2 70 g h) 2 [(0, aR 26), (1, aI x1), (2, aI x2)] [] (abH 2 70 g h) 0 0 := iter_ind (P := fun (c : Int → Int → Option Int) => ∀ (x1 : Int) (x2 : Int) (b : Int), c x1 x2 = some b → WK 49 (.inl (some (aI b))) σ0 (abH 2 70 g h) 2 [(0, aR 26), (1, aI x1), (2, aI x2)] [] (abH 2 70 g h) 0 0) (by
    intro x1 x2 b q
    cases q) (fun self ih => by
    intro x1 x2 b q
    exact uX6_vanWith_2 hg ih q) F
  intro x1 x2 b q
  exact z _ _ _ q
def bX6_vanWith (h : HH) (c2 : Int → Int → Option Int) (x1 : Int) : Option Int :=
  c2 x1 0
theorem uX6_vanWith {g : SG} (hg : GOK g) {σ0 : SG} {h : HH} {c2 : Int → Int → Option Int} (k2 : ∀ (x1 : Int) (x2 : Int) (b : Int), c2 x1 x2 = some b → WK 49 (.inl (some (aI b))) σ0 (abH 2 70 g h) 2 [(0, aR 26), (1, aI x1), (2, aI x2)] [] (abH 2 70 g h) 0 0) : ∀ {x1 : Int} {b : Int}, bX6_vanWith h c2 x1 = some b → WK 49 (.inl (some (aI b))) σ0 (abH 2 70 g h) 0 [(0, aR 26), (1, aI x1)] [] (abH 2 70 g h) 0 0 := by
  intro x1 b q
  have e : bX6_vanWith h c2 x1 = segP 2 70 g.2.2.2.2 h krPI clNP csX6_vanWith (cuC 2 (fun l st s => tkC 0 26 l <| tkI 1 l fun x1 => tkI 2 l fun x2 => skE st (c2 x1 x2)) cuN) 1000 0 [(0, aR 26), (1, aI x1)] [] := rfl
  rw [e] at q
  clear e
  refine segP_wk (by decide) (by decide) hg rwX6_vanWith CLKP_N krPI_ok ?_ q
  clear q
  refine ct_C ?_ (ct_N)
  · intro l st _ q
    obtain ⟨m0, q1⟩ := tkC_of q
    obtain ⟨x1, m1, q2⟩ := tkI_of q1
    obtain ⟨x2, m2, q3⟩ := tkI_of q2
    obtain ⟨rfl, q4⟩ := skE_of q3
    exact WK_less (k2 _ _ _ q4) (List.forall_mem_cons.mpr ⟨m0, (List.forall_mem_cons.mpr ⟨m1, (List.forall_mem_cons.mpr ⟨m2, (fun _ h => absurd h List.not_mem_nil)⟩)⟩)⟩)
def nX6_vanWith (h : HH) (x1 : Int) : Option Int := bX6_vanWith h (nX6_vanWith_2 h 100000) x1
theorem wX6_vanWith {g : SG} (hg : GOK g) {σ0 : SG} {h : HH} : ∀ {x1 : Int} {b : Int}, nX6_vanWith h x1 = some b → WK 49 (.inl (some (aI b))) σ0 (abH 2 70 g h) 0 [(0, aR 26), (1, aI x1)] [] (abH 2 70 g h) 0 0 := by
  intro x1 b q
  exact uX6_vanWith hg (fun _ _ _ q => wX6_vanWith_2 hg q) q
theorem mX6_vanWith {g : SG} (hg : GOK g) {h : HH} {x1 : Int} {b : Int} (q : nX6_vanWith h x1 = some b) : MCT 49 [] [aR 26, aI x1] (abH 2 70 g h) (.inl (some (aI b))) (abH 2 70 g h) :=
  mct_of (by decide) (MFok 49 (by decide +kernel)) (fun _ => Nat.le_of_ble_eq_true rfl) (wX6_vanWith hg q)
def pX6_vanWith {β : Type} (z : HH → Int → Option Int) : PP β := fun h as f => skC 26 as fun as => skI as fun x1 as => skE as (bnd (z h x1) fun r => f (.inl (some (aI r))))
theorem pX6_vanWith_ok {β : Type} {g : SG} (hg : GOK g) : CP1 (β := β) 49 (pX6_vanWith nX6_vanWith) 2 70 g := fun h as f b q => by
  obtain ⟨as, rfl, q1⟩ := skC_of q
  obtain ⟨x1, as, rfl, q2⟩ := skI_of q1
  obtain ⟨rfl, q0⟩ := skE_of q2
  obtain ⟨r, z1, z2⟩ := bnd_of q0
  exact ⟨_, z2, by decide, mX6_vanWith hg z1, rfl, rfl, fun z => absurd z (by decide)⟩
def csX6_canTake : List (Nat × List (Nat × ARow)) := [(100000, [(0, 1, .aload_n 0, 0, 0, 0), (1, 3, .getfield 20, 6, 0, 2), (4, 3, .getfield 28, 2, 7, 2), (7, 1, .iload_n 1, 0, 0, 0), (8, 1, .iaload, 0, 0, 0), (9, 3, .ifCond .ne 16, 25, 0, 0), (12, 1, .aload_n 0, 0, 0, 0), (13, 1, .iload_n 1, 0, 0, 0), (14, 3, .invokevirtual 33, 49, 2, 6), (17, 1, .iconst (-1), 0, 0, 0), (18, 3, .if_icmp .ne 7, 25, 0, 0), (21, 1, .iconst 1, 0, 0, 0), (22, 3, .goto 4, 26, 0, 0), (25, 1, .iconst 0, 0, 0, 0), (26, 1, .ireturn, 1, 0, 0)])]
theorem rwX6_canTake : rowsB (mB 50) (mO 50) (mX 50) (mIni 50) (mFr 50) (mLo 50) (mT 50) csX6_canTake = true := by decide +kernel
def bX6_canTake (f49 : HH → Int → Option Int) (h : HH) (x1 : Int) : Option Int :=
  gd ((0 : Int) ≤ x1 ∧ x1 < (9 : Int)) <|
    if (h.1 20 x1) = (0 : Int) then
    bnd (f49 h x1) fun r1 =>
    if r1 = ((-1) : Int) then
    gd ((0 : Int) ≤ 1 ∧ 1 ≤ (1 : Int)) <|
    some 1
  else
    gd ((0 : Int) ≤ 0 ∧ 0 ≤ (1 : Int)) <|
    some 0
  else
    gd ((0 : Int) ≤ 0 ∧ 0 ≤ (1 : Int)) <|
    some 0
theorem uX6_canTake {g : SG} (hg : GOK g) {σ0 : SG} {h : HH} : ∀ {x1 : Int} {b : Int}, bX6_canTake nX6_vanWith h x1 = some b → WK 50 (.inl (some (aI b))) σ0 (abH 2 70 g h) 0 [(0, aR 26), (1, aI x1)] [] (abH 2 70 g h) 0 0 := by
  intro x1 b q
  have e : ∀ (f49 : HH → Int → Option Int) , bX6_canTake f49 h x1 = segP 2 70 g.2.2.2.2 h krPI (clCP 49 (pX6_vanWith f49 h) clNP) csX6_canTake cuN 1000 0 [(0, aR 26), (1, aI x1)] [] := fun _ => rfl
  rw [e nX6_vanWith] at q
  clear e
  refine segP_wk (by decide) (by decide) hg rwX6_canTake (CLKP_C (pX6_vanWith_ok hg) CLKP_N) krPI_ok ?_ q
  clear q
  exact ct_N
def nX6_canTake (h : HH) (x1 : Int) : Option Int := bX6_canTake nX6_vanWith h x1
theorem wX6_canTake {g : SG} (hg : GOK g) {σ0 : SG} {h : HH} : ∀ {x1 : Int} {b : Int}, nX6_canTake h x1 = some b → WK 50 (.inl (some (aI b))) σ0 (abH 2 70 g h) 0 [(0, aR 26), (1, aI x1)] [] (abH 2 70 g h) 0 0 := by
  intro x1 b q
  exact uX6_canTake hg q
theorem mX6_canTake {g : SG} (hg : GOK g) {h : HH} {x1 : Int} {b : Int} (q : nX6_canTake h x1 = some b) : MCT 50 [] [aR 26, aI x1] (abH 2 70 g h) (.inl (some (aI b))) (abH 2 70 g h) :=
  mct_of (by decide) (MFok 50 (by decide +kernel)) (fun _ => Nat.le_of_ble_eq_true rfl) (wX6_canTake hg q)
def pX6_canTake {β : Type} (z : HH → Int → Option Int) : PP β := fun h as f => skC 26 as fun as => skI as fun x1 as => skE as (bnd (z h x1) fun r => f (.inl (some (aI r))))
theorem pX6_canTake_ok {β : Type} {g : SG} (hg : GOK g) : CP1 (β := β) 50 (pX6_canTake nX6_canTake) 2 70 g := fun h as f b q => by
  obtain ⟨as, rfl, q1⟩ := skC_of q
  obtain ⟨x1, as, rfl, q2⟩ := skI_of q1
  obtain ⟨rfl, q0⟩ := skE_of q2
  obtain ⟨r, z1, z2⟩ := bnd_of q0
  exact ⟨_, z2, by decide, mX6_canTake hg z1, rfl, rfl, fun z => absurd z (by decide)⟩
def csX6_replace : List (Nat × List (Nat × ARow)) := [(100000, [(0, 1, .aload_n 2, 0, 0, 0), (1, 1, .iconst 0, 0, 0, 0), (2, 1, .aload_n 0, 0, 0, 0), (3, 3, .getfield 11, 6, 1, 2), (6, 1, .iload_n 1, 0, 0, 0), (7, 1, .aaload, 0, 0, 0), (8, 1, .iconst 0, 0, 0, 0), (9, 1, .iload_n 3, 0, 0, 0), (10, 3, .invokestatic 37, 1003, 5, 0), (13, 1, .aload_n 0, 0, 0, 0), (14, 3, .getfield 16, 6, 2, 2), (17, 1, .iload_n 1, 0, 0, 0), (18, 1, .iload_n 3, 0, 0, 0), (19, 1, .iastore, 0, 0, 0), (20, 1, .return_, 0, 0, 0)])]
theorem rwX6_replace : rowsB (mB 51) (mO 51) (mX 51) (mIni 51) (mFr 51) (mLo 51) (mT 51) csX6_replace = true := by decide +kernel
def bX6_replace (x1 : Int) (x2 : Nat) (x3 : Int) (h : HH) : Option HH :=
  gd ((0 : Int) ≤ x1 ∧ x1 < (3 : Int)) <|
    bif Nat.beq (rwK 3 28 x1) 0 then none else
    bif (okS 2 70 x2 0 && okS 2 70 (rwK 3 28 x1) 0) && true then
    gd ((0 : Int) ≤ x3 ∧ (0 : Int) ≤ 0 ∧ (0 : Int) ≤ 0 ∧ 0 + x3 ≤ ((lnK x2) : Int) ∧ 0 + x3 ≤ ((lnK (rwK 3 28 x1)) : Int)) <|
    bnd (bif inS 2 70 (rwK 3 28 x1) then some (hC h (rwK 3 28 x1) (fun j => if 0 ≤ j ∧ j < 0 + x3 then h.1 x2 (0 + (j - 0)) else h.1 (rwK 3 28 x1) j)) else none) fun h1 =>
    gd ((0 : Int) ≤ x1 ∧ x1 < (3 : Int)) <|
    bnd (some (hI h1 31 x1 x3)) fun h2 =>
    some h2
  else none
theorem uX6_replace {g : SG} (hg : GOK g) {σ0 : SG} : ∀ {x1 : Int} {x2 : Nat} {x3 : Int} {h : HH} {b : HH}, bX6_replace x1 x2 x3 h = some b → WK 51 (.inl none) σ0 (abH 2 70 g b) 0 [(0, aR 26), (1, aI x1), (2, aR x2), (3, aI x3)] [] (abH 2 70 g h) 0 0 := by
  intro x1 x2 x3 h b q
  have e : bX6_replace x1 x2 x3 h = segW 2 70 g.2.2.2.2 krWV clN csX6_replace cuN 1000 0 [(0, aR 26), (1, aI x1), (2, aR x2), (3, aI x3)] [] h := rfl
  rw [e] at q
  clear e
  refine segW_wk (by decide) (by decide) hg rwX6_replace CLKW_N krWV_ok ?_ q
  clear q
  exact ct_N
def nX6_replace (x1 : Int) (x2 : Nat) (x3 : Int) (h : HH) : Option HH := bX6_replace x1 x2 x3 h
theorem wX6_replace {g : SG} (hg : GOK g) {σ0 : SG} : ∀ {x1 : Int} {x2 : Nat} {x3 : Int} {h : HH} {b : HH}, nX6_replace x1 x2 x3 h = some b → WK 51 (.inl none) σ0 (abH 2 70 g b) 0 [(0, aR 26), (1, aI x1), (2, aR x2), (3, aI x3)] [] (abH 2 70 g h) 0 0 := by
  intro x1 x2 x3 h b q
  exact uX6_replace hg q
theorem mX6_replace {g : SG} (hg : GOK g) {h : HH} {x1 : Int} {x2 : Nat} {x3 : Int} {b : HH} (q : nX6_replace x1 x2 x3 h = some b) : MCT 51 [] [aR 26, aI x1, aR x2, aI x3] (abH 2 70 g h) (.inl none) (abH 2 70 g b) :=
  mct_of (by decide) (MFok 51 (by decide +kernel)) (fun _ => Nat.le_of_ble_eq_true rfl) (wX6_replace hg q)
def pX6_replace {β : Type} (z : Int → Nat → Int → HH → Option HH) : PW β := fun as h f => skC 26 as fun as => skI as fun x1 as => skR as fun x2 as => skI as fun x3 as => skE as (bnd (z x1 x2 x3 h) fun r => f (.inl none) r)
theorem pX6_replace_ok {β : Type} {g : SG} (hg : GOK g) : CW1 (β := β) 51 (pX6_replace nX6_replace) 2 70 g := fun as h f b q => by
  obtain ⟨as, rfl, q1⟩ := skC_of q
  obtain ⟨x1, as, rfl, q2⟩ := skI_of q1
  obtain ⟨x2, as, rfl, q3⟩ := skR_of q2
  obtain ⟨x3, as, rfl, q4⟩ := skI_of q3
  obtain ⟨rfl, q0⟩ := skE_of q4
  obtain ⟨r, z1, z2⟩ := bnd_of q0
  exact ⟨_, _, z2, by decide, mX6_replace hg z1, rfl, rfl, fun z => absurd z (by decide)⟩
def csX6_insert : List (Nat × List (Nat × ARow)) := [(100000, [(0, 1, .aload_n 0, 0, 0, 0), (1, 1, .iconst 0, 0, 0, 0), (2, 2, .aload 4, 0, 0, 0), (4, 1, .iconst 0, 0, 0, 0), (5, 1, .iload_n 2, 0, 0, 0), (6, 3, .invokestatic 37, 1003, 5, 0), (9, 2, .aload 4, 0, 0, 0), (11, 1, .iload_n 2, 0, 0, 0), (12, 1, .iload_n 3, 0, 0, 0), (13, 1, .iastore, 0, 0, 0), (14, 1, .aload_n 0, 0, 0, 0), (15, 1, .iload_n 2, 0, 0, 0), (16, 2, .aload 4, 0, 0, 0), (18, 1, .iload_n 2, 0, 0, 0), (19, 1, .iconst 1, 0, 0, 0), (20, 1, .iadd, 0, 0, 0), (21, 1, .iload_n 1, 0, 0, 0), (22, 1, .iload_n 2, 0, 0, 0), (23, 1, .isub, 0, 0, 0), (24, 3, .invokestatic 37, 1003, 5, 0), (27, 1, .iload_n 1, 0, 0, 0), (28, 1, .iconst 1, 0, 0, 0), (29, 1, .iadd, 0, 0, 0), (30, 1, .ireturn, 0, 0, 0)])]
theorem rwX6_insert : rowsB (mB 52) (mO 52) (mX 52) (mIni 52) (mFr 52) (mLo 52) (mT 52) csX6_insert = true := by decide +kernel
def bX6_insert (x0 : Nat) (x1 : Int) (x2 : Int) (x3 : Int) (x4 : Nat) (h : HH) : Option (Int × HH) :=
  bif (okS 2 70 x0 0 && okS 2 70 x4 0) && true then
    gd ((0 : Int) ≤ x2 ∧ (0 : Int) ≤ 0 ∧ (0 : Int) ≤ 0 ∧ 0 + x2 ≤ ((lnK x0) : Int) ∧ 0 + x2 ≤ ((lnK x4) : Int)) <|
    bnd (bif inS 2 70 x4 then some (hC h x4 (fun j => if 0 ≤ j ∧ j < 0 + x2 then h.1 x0 (0 + (j - 0)) else h.1 x4 j)) else none) fun h1 =>
    bif okS 2 70 x4 0 then
    gd ((0 : Int) ≤ x2 ∧ x2 < ((lnK x4) : Int)) <|
    bnd (bif inS 2 70 x4 then some (hI h1 x4 x2 x3) else none) fun h2 =>
    gd (R32 (x2 + 1)) <|
    gd (R32 (x1 - x2)) <|
    bif (okS 2 70 x0 0 && okS 2 70 x4 0) && true then
    gd ((0 : Int) ≤ (x1 - x2) ∧ (0 : Int) ≤ x2 ∧ (0 : Int) ≤ (x2 + 1) ∧ x2 + (x1 - x2) ≤ ((lnK x0) : Int) ∧ (x2 + 1) + (x1 - x2) ≤ ((lnK x4) : Int)) <|
    bnd (bif inS 2 70 x4 then some (hC h2 x4 (fun j => if (x2 + 1) ≤ j ∧ j < (x2 + 1) + (x1 - x2) then h2.1 x0 (x2 + (j - (x2 + 1))) else h2.1 x4 j)) else none) fun h3 =>
    gd (R32 (x1 + 1)) <|
    some ((x1 + 1), h3)
  else none
  else none
  else none
set_option maxRecDepth 100000 in
theorem uX6_insert {g : SG} (hg : GOK g) {σ0 : SG} : ∀ {x0 : Nat} {x1 : Int} {x2 : Int} {x3 : Int} {x4 : Nat} {h : HH} {b : (Int × HH)}, bX6_insert x0 x1 x2 x3 x4 h = some b → WK 52 (.inl (some (aI b.1))) σ0 (abH 2 70 g b.2) 0 [(0, aR x0), (1, aI x1), (2, aI x2), (3, aI x3), (4, aR x4)] [] (abH 2 70 g h) 0 0 := by
  intro x0 x1 x2 x3 x4 h b q
  have e : bX6_insert x0 x1 x2 x3 x4 h = segW 2 70 g.2.2.2.2 krWI clN csX6_insert cuN 1000 0 [(0, aR x0), (1, aI x1), (2, aI x2), (3, aI x3), (4, aR x4)] [] h := rfl
  rw [e] at q
  clear e
  refine segW_wk (by decide) (by decide) hg rwX6_insert CLKW_N krWI_ok ?_ q
  clear q
  exact ct_N
def nX6_insert (x0 : Nat) (x1 : Int) (x2 : Int) (x3 : Int) (x4 : Nat) (h : HH) : Option (Int × HH) := bX6_insert x0 x1 x2 x3 x4 h
theorem wX6_insert {g : SG} (hg : GOK g) {σ0 : SG} : ∀ {x0 : Nat} {x1 : Int} {x2 : Int} {x3 : Int} {x4 : Nat} {h : HH} {b : (Int × HH)}, nX6_insert x0 x1 x2 x3 x4 h = some b → WK 52 (.inl (some (aI b.1))) σ0 (abH 2 70 g b.2) 0 [(0, aR x0), (1, aI x1), (2, aI x2), (3, aI x3), (4, aR x4)] [] (abH 2 70 g h) 0 0 := by
  intro x0 x1 x2 x3 x4 h b q
  exact uX6_insert hg q
theorem mX6_insert {g : SG} (hg : GOK g) {h : HH} {x0 : Nat} {x1 : Int} {x2 : Int} {x3 : Int} {x4 : Nat} {b : (Int × HH)} (q : nX6_insert x0 x1 x2 x3 x4 h = some b) : MCT 52 [] [aR x0, aI x1, aI x2, aI x3, aR x4] (abH 2 70 g h) (.inl (some (aI b.1))) (abH 2 70 g b.2) :=
  mct_of (by decide) (MFok 52 (by decide +kernel)) (fun _ => Nat.le_of_ble_eq_true rfl) (wX6_insert hg q)
def pX6_insert {β : Type} (z : Nat → Int → Int → Int → Nat → HH → Option (Int × HH)) : PW β := fun as h f => skR as fun x0 as => skI as fun x1 as => skI as fun x2 as => skI as fun x3 as => skR as fun x4 as => skE as (bnd (z x0 x1 x2 x3 x4 h) fun r => f (.inl (some (aI r.1))) r.2)
theorem pX6_insert_ok {β : Type} {g : SG} (hg : GOK g) : CW1 (β := β) 52 (pX6_insert nX6_insert) 2 70 g := fun as h f b q => by
  obtain ⟨x0, as, rfl, q1⟩ := skR_of q
  obtain ⟨x1, as, rfl, q2⟩ := skI_of q1
  obtain ⟨x2, as, rfl, q3⟩ := skI_of q2
  obtain ⟨x3, as, rfl, q4⟩ := skI_of q3
  obtain ⟨x4, as, rfl, q5⟩ := skR_of q4
  obtain ⟨rfl, q0⟩ := skE_of q5
  obtain ⟨r, z1, z2⟩ := bnd_of q0
  exact ⟨_, _, z2, by decide, mX6_insert hg z1, rfl, rfl, fun z => absurd z (by decide)⟩
def csX6_remove : List (Nat × List (Nat × ARow)) := [(100000, [(0, 1, .aload_n 0, 0, 0, 0), (1, 1, .iconst 0, 0, 0, 0), (2, 1, .aload_n 3, 0, 0, 0), (3, 1, .iconst 0, 0, 0, 0), (4, 1, .iload_n 2, 0, 0, 0), (5, 3, .invokestatic 37, 1003, 5, 0), (8, 1, .aload_n 0, 0, 0, 0), (9, 1, .iload_n 2, 0, 0, 0), (10, 1, .iconst 1, 0, 0, 0), (11, 1, .iadd, 0, 0, 0), (12, 1, .aload_n 3, 0, 0, 0), (13, 1, .iload_n 2, 0, 0, 0), (14, 1, .iload_n 1, 0, 0, 0), (15, 1, .iload_n 2, 0, 0, 0), (16, 1, .isub, 0, 0, 0), (17, 1, .iconst 1, 0, 0, 0), (18, 1, .isub, 0, 0, 0), (19, 3, .invokestatic 37, 1003, 5, 0), (22, 1, .iload_n 1, 0, 0, 0), (23, 1, .iconst 1, 0, 0, 0), (24, 1, .isub, 0, 0, 0), (25, 1, .ireturn, 0, 0, 0)])]
theorem rwX6_remove : rowsB (mB 53) (mO 53) (mX 53) (mIni 53) (mFr 53) (mLo 53) (mT 53) csX6_remove = true := by decide +kernel
def bX6_remove (x0 : Nat) (x1 : Int) (x2 : Int) (x3 : Nat) (h : HH) : Option (Int × HH) :=
  bif (okS 2 70 x0 0 && okS 2 70 x3 0) && true then
    gd ((0 : Int) ≤ x2 ∧ (0 : Int) ≤ 0 ∧ (0 : Int) ≤ 0 ∧ 0 + x2 ≤ ((lnK x0) : Int) ∧ 0 + x2 ≤ ((lnK x3) : Int)) <|
    bnd (bif inS 2 70 x3 then some (hC h x3 (fun j => if 0 ≤ j ∧ j < 0 + x2 then h.1 x0 (0 + (j - 0)) else h.1 x3 j)) else none) fun h1 =>
    gd (R32 (x2 + 1)) <|
    gd (R32 (x1 - x2)) <|
    gd (R32 ((x1 - x2) - 1)) <|
    bif (okS 2 70 x0 0 && okS 2 70 x3 0) && true then
    gd ((0 : Int) ≤ ((x1 - x2) - 1) ∧ (0 : Int) ≤ (x2 + 1) ∧ (0 : Int) ≤ x2 ∧ (x2 + 1) + ((x1 - x2) - 1) ≤ ((lnK x0) : Int) ∧ x2 + ((x1 - x2) - 1) ≤ ((lnK x3) : Int)) <|
    bnd (bif inS 2 70 x3 then some (hC h1 x3 (fun j => if x2 ≤ j ∧ j < x2 + ((x1 - x2) - 1) then h1.1 x0 ((x2 + 1) + (j - x2)) else h1.1 x3 j)) else none) fun h2 =>
    gd (R32 (x1 - 1)) <|
    some ((x1 - 1), h2)
  else none
  else none
theorem uX6_remove {g : SG} (hg : GOK g) {σ0 : SG} : ∀ {x0 : Nat} {x1 : Int} {x2 : Int} {x3 : Nat} {h : HH} {b : (Int × HH)}, bX6_remove x0 x1 x2 x3 h = some b → WK 53 (.inl (some (aI b.1))) σ0 (abH 2 70 g b.2) 0 [(0, aR x0), (1, aI x1), (2, aI x2), (3, aR x3)] [] (abH 2 70 g h) 0 0 := by
  intro x0 x1 x2 x3 h b q
  have e : bX6_remove x0 x1 x2 x3 h = segW 2 70 g.2.2.2.2 krWI clN csX6_remove cuN 1000 0 [(0, aR x0), (1, aI x1), (2, aI x2), (3, aR x3)] [] h := rfl
  rw [e] at q
  clear e
  refine segW_wk (by decide) (by decide) hg rwX6_remove CLKW_N krWI_ok ?_ q
  clear q
  exact ct_N
def nX6_remove (x0 : Nat) (x1 : Int) (x2 : Int) (x3 : Nat) (h : HH) : Option (Int × HH) := bX6_remove x0 x1 x2 x3 h
theorem wX6_remove {g : SG} (hg : GOK g) {σ0 : SG} : ∀ {x0 : Nat} {x1 : Int} {x2 : Int} {x3 : Nat} {h : HH} {b : (Int × HH)}, nX6_remove x0 x1 x2 x3 h = some b → WK 53 (.inl (some (aI b.1))) σ0 (abH 2 70 g b.2) 0 [(0, aR x0), (1, aI x1), (2, aI x2), (3, aR x3)] [] (abH 2 70 g h) 0 0 := by
  intro x0 x1 x2 x3 h b q
  exact uX6_remove hg q
theorem mX6_remove {g : SG} (hg : GOK g) {h : HH} {x0 : Nat} {x1 : Int} {x2 : Int} {x3 : Nat} {b : (Int × HH)} (q : nX6_remove x0 x1 x2 x3 h = some b) : MCT 53 [] [aR x0, aI x1, aI x2, aR x3] (abH 2 70 g h) (.inl (some (aI b.1))) (abH 2 70 g b.2) :=
  mct_of (by decide) (MFok 53 (by decide +kernel)) (fun _ => Nat.le_of_ble_eq_true rfl) (wX6_remove hg q)
def pX6_remove {β : Type} (z : Nat → Int → Int → Nat → HH → Option (Int × HH)) : PW β := fun as h f => skR as fun x0 as => skI as fun x1 as => skI as fun x2 as => skR as fun x3 as => skE as (bnd (z x0 x1 x2 x3 h) fun r => f (.inl (some (aI r.1))) r.2)
theorem pX6_remove_ok {β : Type} {g : SG} (hg : GOK g) : CW1 (β := β) 53 (pX6_remove nX6_remove) 2 70 g := fun as h f b q => by
  obtain ⟨x0, as, rfl, q1⟩ := skR_of q
  obtain ⟨x1, as, rfl, q2⟩ := skI_of q1
  obtain ⟨x2, as, rfl, q3⟩ := skI_of q2
  obtain ⟨x3, as, rfl, q4⟩ := skR_of q3
  obtain ⟨rfl, q0⟩ := skE_of q4
  obtain ⟨r, z1, z2⟩ := bnd_of q0
  exact ⟨_, _, z2, by decide, mX6_remove hg z1, rfl, rfl, fun z => absurd z (by decide)⟩
def csX6_turn : List (Nat × List (Nat × ARow)) := [(36, [(0, 1, .aload_n 0, 0, 0, 0), (1, 1, .iconst 0, 0, 0, 0), (2, 2, .aload 4, 0, 0, 0), (4, 1, .iconst 0, 0, 0, 0), (5, 1, .iload_n 1, 0, 0, 0), (6, 3, .invokestatic 37, 1003, 5, 0), (9, 1, .iload_n 2, 0, 0, 0), (10, 2, .istore 5, 0, 0, 0), (12, 2, .iload 5, 0, 0, 0), (14, 1, .iload_n 3, 0, 0, 0), (15, 3, .if_icmp .ge 24, 39, 0, 0), (18, 2, .aload 4, 0, 0, 0), (20, 2, .iload 5, 0, 0, 0), (22, 1, .aload_n 0, 0, 0, 0), (23, 1, .iload_n 2, 0, 0, 0), (24, 1, .iload_n 3, 0, 0, 0), (25, 1, .iadd, 0, 0, 0), (26, 1, .iconst 1, 0, 0, 0), (27, 1, .isub, 0, 0, 0), (28, 2, .iload 5, 0, 0, 0), (30, 1, .isub, 0, 0, 0), (31, 1, .iaload, 0, 0, 0), (32, 1, .iastore, 0, 0, 0), (33, 3, .iinc 5 1, 0, 0, 0)]),
  (100000, [(36, 3, .goto (-24), 12, 0, 0), (39, 1, .return_, 0, 0, 0)])]
theorem rwX6_turn : rowsB (mB 54) (mO 54) (mX 54) (mIni 54) (mFr 54) (mLo 54) (mT 54) csX6_turn = true := by decide +kernel
def bX6_turn_12 (c12 : Nat → Int → Int → Nat → Int → HH → Option HH) (x0 : Nat) (x2 : Int) (x3 : Int) (x4 : Nat) (x5 : Int) (h : HH) : Option HH :=
  if x5 < (x3 : Int) then
    gd (R32 (x2 + x3)) <|
    gd (R32 ((x2 + x3) - 1)) <|
    gd (R32 (((x2 + x3) - 1) - x5)) <|
    bif okS 2 70 x0 0 || okS 2 70 x0 9 then
    gd ((0 : Int) ≤ (((x2 + x3) - 1) - x5) ∧ (((x2 + x3) - 1) - x5) < ((lnK x0) : Int)) <|
    bif okS 2 70 x4 0 then
    gd ((0 : Int) ≤ x5 ∧ x5 < ((lnK x4) : Int)) <|
    bnd (bif inS 2 70 x4 then some (hI h x4 x5 (h.1 x0 (((x2 + x3) - 1) - x5))) else none) fun h1 =>
    gd (R32 (x5 + 1)) <|
    c12 x0 x2 x3 x4 (x5 + 1) h1
  else none
  else none
  else
    some h
theorem uX6_turn_12 {g : SG} (hg : GOK g) {σ0 : SG} {c12 : Nat → Int → Int → Nat → Int → HH → Option HH} (k12 : ∀ (x0 : Nat) (x2 : Int) (x3 : Int) (x4 : Nat) (x5 : Int) (h : HH) (b : HH), c12 x0 x2 x3 x4 x5 h = some b → WK 54 (.inl none) σ0 (abH 2 70 g b) 12 [(0, aR x0), (2, aI x2), (3, aI x3), (4, aR x4), (5, aI x5)] [] (abH 2 70 g h) 0 0) : ∀ {x0 : Nat} {x2 : Int} {x3 : Int} {x4 : Nat} {x5 : Int} {h : HH} {b : HH}, bX6_turn_12 c12 x0 x2 x3 x4 x5 h = some b → WK 54 (.inl none) σ0 (abH 2 70 g b) 12 [(0, aR x0), (2, aI x2), (3, aI x3), (4, aR x4), (5, aI x5)] [] (abH 2 70 g h) 0 0 := by
  intro x0 x2 x3 x4 x5 h b q
  have e : bX6_turn_12 c12 x0 x2 x3 x4 x5 h = segW 2 70 g.2.2.2.2 krWV clN csX6_turn (cuC 12 (fun l st s => tkR 0 l fun x0 => tkI 2 l fun x2 => tkI 3 l fun x3 => tkR 4 l fun x4 => tkI 5 l fun x5 => skE st (c12 x0 x2 x3 x4 x5 s)) cuN) 1000 12 [(0, aR x0), (2, aI x2), (3, aI x3), (4, aR x4), (5, aI x5)] [] h := rfl
  rw [e] at q
  clear e
  refine segW_wk (by decide) (by decide) hg rwX6_turn CLKW_N krWV_ok ?_ q
  clear q
  refine ct_C ?_ (ct_N)
  · intro l st h q
    obtain ⟨x0, m0, q1⟩ := tkR_of q
    obtain ⟨x2, m2, q2⟩ := tkI_of q1
    obtain ⟨x3, m3, q3⟩ := tkI_of q2
    obtain ⟨x4, m4, q4⟩ := tkR_of q3
    obtain ⟨x5, m5, q5⟩ := tkI_of q4
    obtain ⟨rfl, q6⟩ := skE_of q5
    exact WK_less (k12 _ _ _ _ _ _ _ q6) (List.forall_mem_cons.mpr ⟨m0, (List.forall_mem_cons.mpr ⟨m2, (List.forall_mem_cons.mpr ⟨m3, (List.forall_mem_cons.mpr ⟨m4, (List.forall_mem_cons.mpr ⟨m5, (fun _ h => absurd h List.not_mem_nil)⟩)⟩)⟩)⟩)⟩)
def nX6_turn_12 : Nat → Nat → Int → Int → Nat → Int → HH → Option HH := iter (fun _ _ _ _ _ _ => none) (fun self => bX6_turn_12 self)
theorem nX6_turn_12_s {F : Nat} : nX6_turn_12 (F + 1) = bX6_turn_12 (nX6_turn_12 F) := rfl
theorem wX6_turn_12 {g : SG} (hg : GOK g) {σ0 : SG} : ∀ {F : Nat}, ∀ {x0 : Nat} {x2 : Int} {x3 : Int} {x4 : Nat} {x5 : Int} {h : HH} {b : HH}, nX6_turn_12 F x0 x2 x3 x4 x5 h = some b → WK 54 (.inl none) σ0 (abH 2 70 g b) 12 [(0, aR x0), (2, aI x2), (3, aI x3), (4, aR x4), (5, aI x5)] [] (abH 2 70 g h) 0 0 := by
  intro F
  have z : ∀ (x0 : Nat) (x2 : Int) (x3 : Int) (x4 : Nat) (x5 : Int) (h : HH) (b : HH), nX6_turn_12 F x0 x2 x3 x4 x5 h = some b → WK 54 (.inl none) σ0 (abH 2 70 g b) 12 [(0, aR x0), (2, aI x2), (3, aI x3), (4, aR x4), (5, aI x5)] [] (abH 2 70 g h) 0 0 := iter_ind (P := fun (c : Nat → Int → Int → Nat → Int → HH → Option HH) => ∀ (x0 : Nat) (x2 : Int) (x3 : Int) (x4 : Nat) (x5 : Int) (h : HH) (b : HH), c x0 x2 x3 x4 x5 h = some b → WK 54 (.inl none) σ0 (abH 2 70 g b) 12 [(0, aR x0), (2, aI x2), (3, aI x3), (4, aR x4), (5, aI x5)] [] (abH 2 70 g h) 0 0) (by
    intro x0 x2 x3 x4 x5 h b q
    cases q) (fun self ih => by
    intro x0 x2 x3 x4 x5 h b q
    exact uX6_turn_12 hg ih q) F
  intro x0 x2 x3 x4 x5 h b q
  exact z _ _ _ _ _ _ _ q
def bX6_turn (c12 : Nat → Int → Int → Nat → Int → HH → Option HH) (x0 : Nat) (x1 : Int) (x2 : Int) (x3 : Int) (x4 : Nat) (h : HH) : Option HH :=
  bif (okS 2 70 x0 0 && okS 2 70 x4 0) && true then
    gd ((0 : Int) ≤ x1 ∧ (0 : Int) ≤ 0 ∧ (0 : Int) ≤ 0 ∧ 0 + x1 ≤ ((lnK x0) : Int) ∧ 0 + x1 ≤ ((lnK x4) : Int)) <|
    bnd (bif inS 2 70 x4 then some (hC h x4 (fun j => if 0 ≤ j ∧ j < 0 + x1 then h.1 x0 (0 + (j - 0)) else h.1 x4 j)) else none) fun h1 =>
    c12 x0 x2 x3 x4 x2 h1
  else none
theorem uX6_turn {g : SG} (hg : GOK g) {σ0 : SG} {c12 : Nat → Int → Int → Nat → Int → HH → Option HH} (k12 : ∀ (x0 : Nat) (x2 : Int) (x3 : Int) (x4 : Nat) (x5 : Int) (h : HH) (b : HH), c12 x0 x2 x3 x4 x5 h = some b → WK 54 (.inl none) σ0 (abH 2 70 g b) 12 [(0, aR x0), (2, aI x2), (3, aI x3), (4, aR x4), (5, aI x5)] [] (abH 2 70 g h) 0 0) : ∀ {x0 : Nat} {x1 : Int} {x2 : Int} {x3 : Int} {x4 : Nat} {h : HH} {b : HH}, bX6_turn c12 x0 x1 x2 x3 x4 h = some b → WK 54 (.inl none) σ0 (abH 2 70 g b) 0 [(0, aR x0), (1, aI x1), (2, aI x2), (3, aI x3), (4, aR x4)] [] (abH 2 70 g h) 0 0 := by
  intro x0 x1 x2 x3 x4 h b q
  have e : bX6_turn c12 x0 x1 x2 x3 x4 h = segW 2 70 g.2.2.2.2 krWV clN csX6_turn (cuC 12 (fun l st s => tkR 0 l fun x0 => tkI 2 l fun x2 => tkI 3 l fun x3 => tkR 4 l fun x4 => tkI 5 l fun x5 => skE st (c12 x0 x2 x3 x4 x5 s)) cuN) 1000 0 [(0, aR x0), (1, aI x1), (2, aI x2), (3, aI x3), (4, aR x4)] [] h := rfl
  rw [e] at q
  clear e
  refine segW_wk (by decide) (by decide) hg rwX6_turn CLKW_N krWV_ok ?_ q
  clear q
  refine ct_C ?_ (ct_N)
  · intro l st h q
    obtain ⟨x0, m0, q1⟩ := tkR_of q
    obtain ⟨x2, m2, q2⟩ := tkI_of q1
    obtain ⟨x3, m3, q3⟩ := tkI_of q2
    obtain ⟨x4, m4, q4⟩ := tkR_of q3
    obtain ⟨x5, m5, q5⟩ := tkI_of q4
    obtain ⟨rfl, q6⟩ := skE_of q5
    exact WK_less (k12 _ _ _ _ _ _ _ q6) (List.forall_mem_cons.mpr ⟨m0, (List.forall_mem_cons.mpr ⟨m2, (List.forall_mem_cons.mpr ⟨m3, (List.forall_mem_cons.mpr ⟨m4, (List.forall_mem_cons.mpr ⟨m5, (fun _ h => absurd h List.not_mem_nil)⟩)⟩)⟩)⟩)⟩)
def nX6_turn (x0 : Nat) (x1 : Int) (x2 : Int) (x3 : Int) (x4 : Nat) (h : HH) : Option HH := bX6_turn (nX6_turn_12 100000) x0 x1 x2 x3 x4 h
theorem wX6_turn {g : SG} (hg : GOK g) {σ0 : SG} : ∀ {x0 : Nat} {x1 : Int} {x2 : Int} {x3 : Int} {x4 : Nat} {h : HH} {b : HH}, nX6_turn x0 x1 x2 x3 x4 h = some b → WK 54 (.inl none) σ0 (abH 2 70 g b) 0 [(0, aR x0), (1, aI x1), (2, aI x2), (3, aI x3), (4, aR x4)] [] (abH 2 70 g h) 0 0 := by
  intro x0 x1 x2 x3 x4 h b q
  exact uX6_turn hg (fun _ _ _ _ _ _ _ q => wX6_turn_12 hg q) q
theorem mX6_turn {g : SG} (hg : GOK g) {h : HH} {x0 : Nat} {x1 : Int} {x2 : Int} {x3 : Int} {x4 : Nat} {b : HH} (q : nX6_turn x0 x1 x2 x3 x4 h = some b) : MCT 54 [] [aR x0, aI x1, aI x2, aI x3, aR x4] (abH 2 70 g h) (.inl none) (abH 2 70 g b) :=
  mct_of (by decide) (MFok 54 (by decide +kernel)) (fun _ => Nat.le_of_ble_eq_true rfl) (wX6_turn hg q)
def pX6_turn {β : Type} (z : Nat → Int → Int → Int → Nat → HH → Option HH) : PW β := fun as h f => skR as fun x0 as => skI as fun x1 as => skI as fun x2 as => skI as fun x3 as => skR as fun x4 as => skE as (bnd (z x0 x1 x2 x3 x4 h) fun r => f (.inl none) r)
theorem pX6_turn_ok {β : Type} {g : SG} (hg : GOK g) : CW1 (β := β) 54 (pX6_turn nX6_turn) 2 70 g := fun as h f b q => by
  obtain ⟨x0, as, rfl, q1⟩ := skR_of q
  obtain ⟨x1, as, rfl, q2⟩ := skI_of q1
  obtain ⟨x2, as, rfl, q3⟩ := skI_of q2
  obtain ⟨x3, as, rfl, q4⟩ := skI_of q3
  obtain ⟨x4, as, rfl, q5⟩ := skR_of q4
  obtain ⟨rfl, q0⟩ := skE_of q5
  obtain ⟨r, z1, z2⟩ := bnd_of q0
  exact ⟨_, _, z2, by decide, mX6_turn hg z1, rfl, rfl, fun z => absurd z (by decide)⟩
def csX6_without : List (Nat × List (Nat × ARow)) := [(100000, [(0, 1, .aload_n 0, 0, 0, 0), (1, 1, .iload_n 1, 0, 0, 0), (2, 1, .iload_n 2, 0, 0, 0), (3, 3, .invokevirtual 24, 48, 3, 6), (6, 2, .istore 4, 0, 0, 0), (8, 2, .iload 4, 0, 0, 0), (10, 1, .iconst (-1), 0, 0, 0), (11, 3, .if_icmp .ne 7, 18, 0, 0), (14, 1, .iconst 0, 0, 0, 0), (15, 3, .goto 21, 36, 0, 0), (18, 1, .aload_n 0, 0, 0, 0), (19, 3, .getfield 11, 6, 1, 2), (22, 1, .iload_n 1, 0, 0, 0), (23, 1, .aaload, 0, 0, 0), (24, 1, .aload_n 0, 0, 0, 0), (25, 3, .getfield 16, 6, 2, 2), (28, 1, .iload_n 1, 0, 0, 0), (29, 1, .iaload, 0, 0, 0), (30, 2, .iload 4, 0, 0, 0), (32, 1, .aload_n 3, 0, 0, 0), (33, 3, .invokestatic 43, 53, 4, 0), (36, 1, .ireturn, 0, 0, 0)])]
theorem rwX6_without : rowsB (mB 55) (mO 55) (mX 55) (mIni 55) (mFr 55) (mLo 55) (mT 55) csX6_without = true := by decide +kernel
def bX6_without (f48 : HH → Int → Int → Option Int) (f53 : Nat → Int → Int → Nat → HH → Option (Int × HH)) (x1 : Int) (x2 : Int) (x3 : Nat) (h : HH) : Option (Int × HH) :=
  bnd (f48 h x1 x2) fun r1 =>
    if r1 = ((-1) : Int) then
    some (0, h)
  else
    gd ((0 : Int) ≤ x1 ∧ x1 < (3 : Int)) <|
    bif Nat.beq (rwK 3 28 x1) 0 then none else
    gd ((0 : Int) ≤ x1 ∧ x1 < (3 : Int)) <|
    bnd (f53 (rwK 3 28 x1) (h.1 31 x1) r1 x3 h) fun r2 =>
    some (r2.1, r2.2)
theorem uX6_without {g : SG} (hg : GOK g) {σ0 : SG} : ∀ {x1 : Int} {x2 : Int} {x3 : Nat} {h : HH} {b : (Int × HH)}, bX6_without nX6_indexIn nX6_remove x1 x2 x3 h = some b → WK 55 (.inl (some (aI b.1))) σ0 (abH 2 70 g b.2) 0 [(0, aR 26), (1, aI x1), (2, aI x2), (3, aR x3)] [] (abH 2 70 g h) 0 0 := by
  intro x1 x2 x3 h b q
  have e : ∀ (f48 : HH → Int → Int → Option Int) (f53 : Nat → Int → Int → Nat → HH → Option (Int × HH)) , bX6_without f48 f53 x1 x2 x3 h = segW 2 70 g.2.2.2.2 krWI (clC 48 (liPW (pX6_indexIn f48)) (clC 53 (pX6_remove f53) clN)) csX6_without cuN 1000 0 [(0, aR 26), (1, aI x1), (2, aI x2), (3, aR x3)] [] h := fun _ _ => rfl
  rw [e nX6_indexIn nX6_remove] at q
  clear e
  refine segW_wk (by decide) (by decide) hg rwX6_without (CLKW_C (liPW_ok (pX6_indexIn_ok hg)) (CLKW_C (pX6_remove_ok hg) CLKW_N)) krWI_ok ?_ q
  clear q
  exact ct_N
def nX6_without (x1 : Int) (x2 : Int) (x3 : Nat) (h : HH) : Option (Int × HH) := bX6_without nX6_indexIn nX6_remove x1 x2 x3 h
theorem wX6_without {g : SG} (hg : GOK g) {σ0 : SG} : ∀ {x1 : Int} {x2 : Int} {x3 : Nat} {h : HH} {b : (Int × HH)}, nX6_without x1 x2 x3 h = some b → WK 55 (.inl (some (aI b.1))) σ0 (abH 2 70 g b.2) 0 [(0, aR 26), (1, aI x1), (2, aI x2), (3, aR x3)] [] (abH 2 70 g h) 0 0 := by
  intro x1 x2 x3 h b q
  exact uX6_without hg q
theorem mX6_without {g : SG} (hg : GOK g) {h : HH} {x1 : Int} {x2 : Int} {x3 : Nat} {b : (Int × HH)} (q : nX6_without x1 x2 x3 h = some b) : MCT 55 [] [aR 26, aI x1, aI x2, aR x3] (abH 2 70 g h) (.inl (some (aI b.1))) (abH 2 70 g b.2) :=
  mct_of (by decide) (MFok 55 (by decide +kernel)) (fun _ => Nat.le_of_ble_eq_true rfl) (wX6_without hg q)
def pX6_without {β : Type} (z : Int → Int → Nat → HH → Option (Int × HH)) : PW β := fun as h f => skC 26 as fun as => skI as fun x1 as => skI as fun x2 as => skR as fun x3 as => skE as (bnd (z x1 x2 x3 h) fun r => f (.inl (some (aI r.1))) r.2)
theorem pX6_without_ok {β : Type} {g : SG} (hg : GOK g) : CW1 (β := β) 55 (pX6_without nX6_without) 2 70 g := fun as h f b q => by
  obtain ⟨as, rfl, q1⟩ := skC_of q
  obtain ⟨x1, as, rfl, q2⟩ := skI_of q1
  obtain ⟨x2, as, rfl, q3⟩ := skI_of q2
  obtain ⟨x3, as, rfl, q4⟩ := skR_of q3
  obtain ⟨rfl, q0⟩ := skE_of q4
  obtain ⟨r, z1, z2⟩ := bnd_of q0
  exact ⟨_, _, z2, by decide, mX6_without hg z1, rfl, rfl, fun z => absurd z (by decide)⟩
def csX6_joinEnds : List (Nat × List (Nat × ARow)) := [(38, [(0, 1, .aload_n 0, 0, 0, 0), (1, 3, .getfield 11, 6, 1, 2), (4, 1, .iload_n 1, 0, 0, 0), (5, 1, .aaload, 0, 0, 0), (6, 1, .iconst 0, 0, 0, 0), (7, 2, .aload 5, 0, 0, 0), (9, 1, .iconst 0, 0, 0, 0), (10, 1, .iload_n 2, 0, 0, 0), (11, 3, .invokestatic 37, 1003, 5, 0), (14, 1, .aload_n 0, 0, 0, 0), (15, 3, .getfield 11, 6, 1, 2), (18, 1, .iload_n 3, 0, 0, 0), (19, 1, .aaload, 0, 0, 0), (20, 2, .iload 4, 0, 0, 0), (22, 2, .aload 5, 0, 0, 0), (24, 1, .iload_n 2, 0, 0, 0), (25, 1, .aload_n 0, 0, 0, 0), (26, 3, .getfield 16, 6, 2, 2), (29, 1, .iload_n 3, 0, 0, 0), (30, 1, .iaload, 0, 0, 0), (31, 2, .iload 4, 0, 0, 0), (33, 1, .isub, 0, 0, 0), (34, 3, .invokestatic 37, 1003, 5, 0), (37, 1, .iload_n 2, 0, 0, 0)]),
  (100000, [(38, 1, .aload_n 0, 0, 0, 0), (39, 3, .getfield 16, 6, 2, 2), (42, 1, .iload_n 3, 0, 0, 0), (43, 1, .iaload, 0, 0, 0), (44, 1, .iadd, 0, 0, 0), (45, 2, .iload 4, 0, 0, 0), (47, 1, .isub, 0, 0, 0), (48, 1, .ireturn, 0, 0, 0)])]
theorem rwX6_joinEnds : rowsB (mB 56) (mO 56) (mX 56) (mIni 56) (mFr 56) (mLo 56) (mT 56) csX6_joinEnds = true := by decide +kernel
def bX6_joinEnds (x1 : Int) (x2 : Int) (x3 : Int) (x4 : Int) (x5 : Nat) (h : HH) : Option (Int × HH) :=
  gd ((0 : Int) ≤ x1 ∧ x1 < (3 : Int)) <|
    bif Nat.beq (rwK 3 28 x1) 0 then none else
    bif (okS 2 70 (rwK 3 28 x1) 0 && okS 2 70 x5 0) && true then
    gd ((0 : Int) ≤ x2 ∧ (0 : Int) ≤ 0 ∧ (0 : Int) ≤ 0 ∧ 0 + x2 ≤ ((lnK (rwK 3 28 x1)) : Int) ∧ 0 + x2 ≤ ((lnK x5) : Int)) <|
    bnd (bif inS 2 70 x5 then some (hC h x5 (fun j => if 0 ≤ j ∧ j < 0 + x2 then h.1 (rwK 3 28 x1) (0 + (j - 0)) else h.1 x5 j)) else none) fun h1 =>
    gd ((0 : Int) ≤ x3 ∧ x3 < (3 : Int)) <|
    bif Nat.beq (rwK 3 28 x3) 0 then none else
    gd ((0 : Int) ≤ x3 ∧ x3 < (3 : Int)) <|
    gd (R32 ((h1.1 31 x3) - x4)) <|
    bif (okS 2 70 (rwK 3 28 x3) 0 && okS 2 70 x5 0) && true then
    gd ((0 : Int) ≤ ((h1.1 31 x3) - x4) ∧ (0 : Int) ≤ x4 ∧ (0 : Int) ≤ x2 ∧ x4 + ((h1.1 31 x3) - x4) ≤ ((lnK (rwK 3 28 x3)) : Int) ∧ x2 + ((h1.1 31 x3) - x4) ≤ ((lnK x5) : Int)) <|
    bnd (bif inS 2 70 x5 then some (hC h1 x5 (fun j => if x2 ≤ j ∧ j < x2 + ((h1.1 31 x3) - x4) then h1.1 (rwK 3 28 x3) (x4 + (j - x2)) else h1.1 x5 j)) else none) fun h2 =>
    gd ((0 : Int) ≤ x3 ∧ x3 < (3 : Int)) <|
    gd (R32 (x2 + (h2.1 31 x3))) <|
    gd (R32 ((x2 + (h2.1 31 x3)) - x4)) <|
    some (((x2 + (h2.1 31 x3)) - x4), h2)
  else none
  else none
set_option maxRecDepth 100000 in
theorem uX6_joinEnds {g : SG} (hg : GOK g) {σ0 : SG} : ∀ {x1 : Int} {x2 : Int} {x3 : Int} {x4 : Int} {x5 : Nat} {h : HH} {b : (Int × HH)}, bX6_joinEnds x1 x2 x3 x4 x5 h = some b → WK 56 (.inl (some (aI b.1))) σ0 (abH 2 70 g b.2) 0 [(0, aR 26), (1, aI x1), (2, aI x2), (3, aI x3), (4, aI x4), (5, aR x5)] [] (abH 2 70 g h) 0 0 := by
  intro x1 x2 x3 x4 x5 h b q
  have e : bX6_joinEnds x1 x2 x3 x4 x5 h = segW 2 70 g.2.2.2.2 krWI clN csX6_joinEnds cuN 1000 0 [(0, aR 26), (1, aI x1), (2, aI x2), (3, aI x3), (4, aI x4), (5, aR x5)] [] h := rfl
  rw [e] at q
  clear e
  refine segW_wk (by decide) (by decide) hg rwX6_joinEnds CLKW_N krWI_ok ?_ q
  clear q
  exact ct_N
def nX6_joinEnds (x1 : Int) (x2 : Int) (x3 : Int) (x4 : Int) (x5 : Nat) (h : HH) : Option (Int × HH) := bX6_joinEnds x1 x2 x3 x4 x5 h
theorem wX6_joinEnds {g : SG} (hg : GOK g) {σ0 : SG} : ∀ {x1 : Int} {x2 : Int} {x3 : Int} {x4 : Int} {x5 : Nat} {h : HH} {b : (Int × HH)}, nX6_joinEnds x1 x2 x3 x4 x5 h = some b → WK 56 (.inl (some (aI b.1))) σ0 (abH 2 70 g b.2) 0 [(0, aR 26), (1, aI x1), (2, aI x2), (3, aI x3), (4, aI x4), (5, aR x5)] [] (abH 2 70 g h) 0 0 := by
  intro x1 x2 x3 x4 x5 h b q
  exact uX6_joinEnds hg q
theorem mX6_joinEnds {g : SG} (hg : GOK g) {h : HH} {x1 : Int} {x2 : Int} {x3 : Int} {x4 : Int} {x5 : Nat} {b : (Int × HH)} (q : nX6_joinEnds x1 x2 x3 x4 x5 h = some b) : MCT 56 [] [aR 26, aI x1, aI x2, aI x3, aI x4, aR x5] (abH 2 70 g h) (.inl (some (aI b.1))) (abH 2 70 g b.2) :=
  mct_of (by decide) (MFok 56 (by decide +kernel)) (fun _ => Nat.le_of_ble_eq_true rfl) (wX6_joinEnds hg q)
def pX6_joinEnds {β : Type} (z : Int → Int → Int → Int → Nat → HH → Option (Int × HH)) : PW β := fun as h f => skC 26 as fun as => skI as fun x1 as => skI as fun x2 as => skI as fun x3 as => skI as fun x4 as => skR as fun x5 as => skE as (bnd (z x1 x2 x3 x4 x5 h) fun r => f (.inl (some (aI r.1))) r.2)
theorem pX6_joinEnds_ok {β : Type} {g : SG} (hg : GOK g) : CW1 (β := β) 56 (pX6_joinEnds nX6_joinEnds) 2 70 g := fun as h f b q => by
  obtain ⟨as, rfl, q1⟩ := skC_of q
  obtain ⟨x1, as, rfl, q2⟩ := skI_of q1
  obtain ⟨x2, as, rfl, q3⟩ := skI_of q2
  obtain ⟨x3, as, rfl, q4⟩ := skI_of q3
  obtain ⟨x4, as, rfl, q5⟩ := skI_of q4
  obtain ⟨x5, as, rfl, q6⟩ := skR_of q5
  obtain ⟨rfl, q0⟩ := skE_of q6
  obtain ⟨r, z1, z2⟩ := bnd_of q0
  exact ⟨_, _, z2, by decide, mX6_joinEnds hg z1, rfl, rfl, fun z => absurd z (by decide)⟩
def csX6_costNow : List (Nat × List (Nat × ARow)) := [(100000, [(0, 1, .aload_n 0, 0, 0, 0), (1, 3, .getfield 20, 6, 0, 2), (4, 1, .iload_n 1, 0, 0, 0), (5, 1, .aload_n 0, 0, 0, 0), (6, 3, .getfield 11, 6, 1, 2), (9, 1, .iload_n 1, 0, 0, 0), (10, 1, .aaload, 0, 0, 0), (11, 1, .aload_n 0, 0, 0, 0), (12, 3, .getfield 16, 6, 2, 2), (15, 1, .iload_n 1, 0, 0, 0), (16, 1, .iaload, 0, 0, 0), (17, 3, .invokevirtual 47, 27, 4, 2), (20, 1, .ireturn, 0, 0, 0)])]
theorem rwX6_costNow : rowsB (mB 57) (mO 57) (mX 57) (mIni 57) (mFr 57) (mLo 57) (mT 57) csX6_costNow = true := by decide +kernel
def bX6_costNow (f27 : HH → Int → Nat → Int → Option Int) (h : HH) (x1 : Int) : Option Int :=
  gd ((0 : Int) ≤ x1 ∧ x1 < (3 : Int)) <|
    bif Nat.beq (rwK 3 28 x1) 0 then none else
    gd ((0 : Int) ≤ x1 ∧ x1 < (3 : Int)) <|
    bnd (f27 h x1 (rwK 3 28 x1) (h.1 31 x1)) fun r1 =>
    some r1
theorem uX6_costNow {g : SG} (hg : GOK g) {σ0 : SG} {h : HH} : ∀ {x1 : Int} {b : Int}, bX6_costNow nX2_costOf h x1 = some b → WK 57 (.inl (some (aI b))) σ0 (abH 2 70 g h) 0 [(0, aR 26), (1, aI x1)] [] (abH 2 70 g h) 0 0 := by
  intro x1 b q
  have e : ∀ (f27 : HH → Int → Nat → Int → Option Int) , bX6_costNow f27 h x1 = segP 2 70 g.2.2.2.2 h krPI (clCP 27 (pX2_costOf f27 h) clNP) csX6_costNow cuN 1000 0 [(0, aR 26), (1, aI x1)] [] := fun _ => rfl
  rw [e nX2_costOf] at q
  clear e
  refine segP_wk (by decide) (by decide) hg rwX6_costNow (CLKP_C (pX2_costOf_ok hg) CLKP_N) krPI_ok ?_ q
  clear q
  exact ct_N
def nX6_costNow (h : HH) (x1 : Int) : Option Int := bX6_costNow nX2_costOf h x1
theorem wX6_costNow {g : SG} (hg : GOK g) {σ0 : SG} {h : HH} : ∀ {x1 : Int} {b : Int}, nX6_costNow h x1 = some b → WK 57 (.inl (some (aI b))) σ0 (abH 2 70 g h) 0 [(0, aR 26), (1, aI x1)] [] (abH 2 70 g h) 0 0 := by
  intro x1 b q
  exact uX6_costNow hg q
theorem mX6_costNow {g : SG} (hg : GOK g) {h : HH} {x1 : Int} {b : Int} (q : nX6_costNow h x1 = some b) : MCT 57 [] [aR 26, aI x1] (abH 2 70 g h) (.inl (some (aI b))) (abH 2 70 g h) :=
  mct_of (by decide) (MFok 57 (by decide +kernel)) (fun _ => Nat.le_of_ble_eq_true rfl) (wX6_costNow hg q)
def pX6_costNow {β : Type} (z : HH → Int → Option Int) : PP β := fun h as f => skC 26 as fun as => skI as fun x1 as => skE as (bnd (z h x1) fun r => f (.inl (some (aI r))))
theorem pX6_costNow_ok {β : Type} {g : SG} (hg : GOK g) : CP1 (β := β) 57 (pX6_costNow nX6_costNow) 2 70 g := fun h as f b q => by
  obtain ⟨as, rfl, q1⟩ := skC_of q
  obtain ⟨x1, as, rfl, q2⟩ := skI_of q1
  obtain ⟨rfl, q0⟩ := skE_of q2
  obtain ⟨r, z1, z2⟩ := bnd_of q0
  exact ⟨_, z2, by decide, mX6_costNow hg z1, rfl, rfl, fun z => absurd z (by decide)⟩
def csX9_ofWay : List (Nat × List (Nat × ARow)) := [(41, [(0, 1, .iload_n 1, 0, 0, 0), (1, 2, .bipush 16, 0, 0, 0), (3, 1, .imul, 0, 0, 0), (4, 1, .iload_n 2, 0, 0, 0), (5, 1, .iadd, 0, 0, 0), (6, 2, .istore 4, 0, 0, 0), (8, 1, .iload_n 3, 0, 0, 0), (9, 3, .ifCond .ne 11, 20, 0, 0), (12, 1, .aload_n 0, 0, 0, 0), (13, 3, .getfield 21, 9, 4, 2), (16, 2, .iload 4, 0, 0, 0), (18, 1, .iaload, 0, 0, 0), (19, 1, .ireturn, 0, 0, 0), (20, 1, .iload_n 3, 0, 0, 0), (21, 1, .iconst 1, 0, 0, 0), (22, 3, .if_icmp .ne 13, 35, 0, 0), (25, 1, .aload_n 0, 0, 0, 0), (26, 3, .getfield 24, 9, 5, 2), (29, 2, .iload 4, 0, 0, 0), (31, 1, .iaload, 0, 0, 0), (32, 3, .goto 10, 42, 0, 0), (35, 1, .aload_n 0, 0, 0, 0), (36, 3, .getfield 27, 9, 6, 2), (39, 2, .iload 4, 0, 0, 0)]),
  (100000, [(41, 1, .iaload, 0, 0, 0), (42, 1, .ireturn, 0, 0, 0)])]
theorem rwX9_ofWay : rowsB (mB 88) (mO 88) (mX 88) (mIni 88) (mFr 88) (mLo 88) (mT 88) csX9_ofWay = true := by decide +kernel
def bX9_ofWay (h : HH) (x1 : Int) (x2 : Int) (x3 : Int) : Option Int :=
  gd (R32 (x1 * 16)) <|
    gd (R32 ((x1 * 16) + x2)) <|
    if x3 = (0 : Int) then
    gd ((0 : Int) ≤ ((x1 * 16) + x2) ∧ ((x1 * 16) + x2) < (256 : Int)) <|
    some (h.1 7 ((x1 * 16) + x2))
  else
    if x3 = (1 : Int) then
    gd ((0 : Int) ≤ ((x1 * 16) + x2) ∧ ((x1 * 16) + x2) < (256 : Int)) <|
    some (h.1 8 ((x1 * 16) + x2))
  else
    gd ((0 : Int) ≤ ((x1 * 16) + x2) ∧ ((x1 * 16) + x2) < (256 : Int)) <|
    some (h.1 9 ((x1 * 16) + x2))
theorem uX9_ofWay {g : SG} (hg : GOK g) {σ0 : SG} {h : HH} : ∀ {x1 : Int} {x2 : Int} {x3 : Int} {b : Int}, bX9_ofWay h x1 x2 x3 = some b → WK 88 (.inl (some (aI b))) σ0 (abH 2 70 g h) 0 [(0, aR 3), (1, aI x1), (2, aI x2), (3, aI x3)] [] (abH 2 70 g h) 0 0 := by
  intro x1 x2 x3 b q
  have e : bX9_ofWay h x1 x2 x3 = segP 2 70 g.2.2.2.2 h krPI clNP csX9_ofWay cuN 1000 0 [(0, aR 3), (1, aI x1), (2, aI x2), (3, aI x3)] [] := rfl
  rw [e] at q
  clear e
  refine segP_wk (by decide) (by decide) hg rwX9_ofWay CLKP_N krPI_ok ?_ q
  clear q
  exact ct_N
def nX9_ofWay (h : HH) (x1 : Int) (x2 : Int) (x3 : Int) : Option Int := bX9_ofWay h x1 x2 x3
theorem wX9_ofWay {g : SG} (hg : GOK g) {σ0 : SG} {h : HH} : ∀ {x1 : Int} {x2 : Int} {x3 : Int} {b : Int}, nX9_ofWay h x1 x2 x3 = some b → WK 88 (.inl (some (aI b))) σ0 (abH 2 70 g h) 0 [(0, aR 3), (1, aI x1), (2, aI x2), (3, aI x3)] [] (abH 2 70 g h) 0 0 := by
  intro x1 x2 x3 b q
  exact uX9_ofWay hg q
theorem mX9_ofWay {g : SG} (hg : GOK g) {h : HH} {x1 : Int} {x2 : Int} {x3 : Int} {b : Int} (q : nX9_ofWay h x1 x2 x3 = some b) : MCT 88 [] [aR 3, aI x1, aI x2, aI x3] (abH 2 70 g h) (.inl (some (aI b))) (abH 2 70 g h) :=
  mct_of (by decide) (MFok 88 (by decide +kernel)) (fun _ => Nat.le_of_ble_eq_true rfl) (wX9_ofWay hg q)
def pX9_ofWay {β : Type} (z : HH → Int → Int → Int → Option Int) : PP β := fun h as f => skC 3 as fun as => skI as fun x1 as => skI as fun x2 as => skI as fun x3 as => skE as (bnd (z h x1 x2 x3) fun r => f (.inl (some (aI r))))
theorem pX9_ofWay_ok {β : Type} {g : SG} (hg : GOK g) : CP1 (β := β) 88 (pX9_ofWay nX9_ofWay) 2 70 g := fun h as f b q => by
  obtain ⟨as, rfl, q1⟩ := skC_of q
  obtain ⟨x1, as, rfl, q2⟩ := skI_of q1
  obtain ⟨x2, as, rfl, q3⟩ := skI_of q2
  obtain ⟨x3, as, rfl, q4⟩ := skI_of q3
  obtain ⟨rfl, q0⟩ := skE_of q4
  obtain ⟨r, z1, z2⟩ := bnd_of q0
  exact ⟨_, z2, by decide, mX9_ofWay hg z1, rfl, rfl, fun z => absurd z (by decide)⟩
def csX6_sumOfWays : List (Nat × List (Nat × ARow)) := [(40, [(0, 1, .iconst 0, 0, 0, 0), (1, 1, .istore_n 3, 0, 0, 0), (2, 1, .iconst 0, 0, 0, 0), (3, 2, .istore 4, 0, 0, 0), (5, 1, .iconst 0, 0, 0, 0), (6, 2, .istore 5, 0, 0, 0), (8, 2, .iload 5, 0, 0, 0), (10, 1, .aload_n 0, 0, 0, 0), (11, 3, .getfield 16, 6, 2, 2), (14, 1, .iload_n 1, 0, 0, 0), (15, 1, .iaload, 0, 0, 0), (16, 3, .if_icmp .ge 50, 66, 0, 0), (19, 1, .aload_n 0, 0, 0, 0), (20, 3, .getfield 20, 6, 0, 2), (23, 3, .getfield 51, 2, 1, 2), (26, 1, .aload_n 0, 0, 0, 0), (27, 3, .getfield 11, 6, 1, 2), (30, 1, .iload_n 1, 0, 0, 0), (31, 1, .aaload, 0, 0, 0), (32, 2, .iload 5, 0, 0, 0), (34, 1, .iaload, 0, 0, 0), (35, 1, .iaload, 0, 0, 0), (36, 2, .istore 6, 0, 0, 0), (38, 2, .iload 4, 0, 0, 0)]),
  (100000, [(40, 1, .aload_n 0, 0, 0, 0), (41, 3, .getfield 20, 6, 0, 2), (44, 3, .getfield 54, 2, 0, 2), (47, 1, .iload_n 3, 0, 0, 0), (48, 2, .iload 6, 0, 0, 0), (50, 1, .iload_n 2, 0, 0, 0), (51, 3, .invokevirtual 58, 88, 4, 9), (54, 1, .iadd, 0, 0, 0), (55, 2, .istore 4, 0, 0, 0), (57, 2, .iload 6, 0, 0, 0), (59, 1, .istore_n 3, 0, 0, 0), (60, 3, .iinc 5 1, 0, 0, 0), (63, 3, .goto (-55), 8, 0, 0), (66, 2, .iload 4, 0, 0, 0), (68, 1, .aload_n 0, 0, 0, 0), (69, 3, .getfield 20, 6, 0, 2), (72, 3, .getfield 54, 2, 0, 2), (75, 1, .iload_n 3, 0, 0, 0), (76, 1, .iconst 0, 0, 0, 0), (77, 1, .iload_n 2, 0, 0, 0), (78, 3, .invokevirtual 58, 88, 4, 9), (81, 1, .iadd, 0, 0, 0), (82, 1, .ireturn, 0, 0, 0)])]
theorem rwX6_sumOfWays : rowsB (mB 58) (mO 58) (mX 58) (mIni 58) (mFr 58) (mLo 58) (mT 58) csX6_sumOfWays = true := by decide +kernel
def bX6_sumOfWays_8 (f88 : HH → Int → Int → Int → Option Int) (h : HH) (c8 : Int → Int → Int → Int → Int → Option Int) (x1 : Int) (x2 : Int) (x3 : Int) (x4 : Int) (x5 : Int) : Option Int :=
  gd ((0 : Int) ≤ x1 ∧ x1 < (3 : Int)) <|
    if x5 < ((h.1 31 x1) : Int) then
    gd ((0 : Int) ≤ x1 ∧ x1 < (3 : Int)) <|
    bif Nat.beq (rwK 3 28 x1) 0 then none else
    bif okS 2 70 (rwK 3 28 x1) 0 || okS 2 70 (rwK 3 28 x1) 9 then
    gd ((0 : Int) ≤ x5 ∧ x5 < ((lnK (rwK 3 28 x1)) : Int)) <|
    gd ((0 : Int) ≤ (h.1 (rwK 3 28 x1) x5) ∧ (h.1 (rwK 3 28 x1) x5) < (9 : Int)) <|
    bnd (f88 h x3 (h.1 14 (h.1 (rwK 3 28 x1) x5)) x2) fun r2 =>
    gd (R32 (x4 + r2)) <|
    gd (R32 (x5 + 1)) <|
    c8 x1 x2 (h.1 14 (h.1 (rwK 3 28 x1) x5)) (x4 + r2) (x5 + 1)
  else none
  else
    bnd (f88 h x3 0 x2) fun r1 =>
    gd (R32 (x4 + r1)) <|
    some (x4 + r1)
theorem uX6_sumOfWays_8 {g : SG} (hg : GOK g) {σ0 : SG} {h : HH} {c8 : Int → Int → Int → Int → Int → Option Int} (k8 : ∀ (x1 : Int) (x2 : Int) (x3 : Int) (x4 : Int) (x5 : Int) (b : Int), c8 x1 x2 x3 x4 x5 = some b → WK 58 (.inl (some (aI b))) σ0 (abH 2 70 g h) 8 [(0, aR 26), (1, aI x1), (2, aI x2), (3, aI x3), (4, aI x4), (5, aI x5)] [] (abH 2 70 g h) 0 0) : ∀ {x1 : Int} {x2 : Int} {x3 : Int} {x4 : Int} {x5 : Int} {b : Int}, bX6_sumOfWays_8 nX9_ofWay h c8 x1 x2 x3 x4 x5 = some b → WK 58 (.inl (some (aI b))) σ0 (abH 2 70 g h) 8 [(0, aR 26), (1, aI x1), (2, aI x2), (3, aI x3), (4, aI x4), (5, aI x5)] [] (abH 2 70 g h) 0 0 := by
  intro x1 x2 x3 x4 x5 b q
  have e : ∀ (f88 : HH → Int → Int → Int → Option Int) , bX6_sumOfWays_8 f88 h c8 x1 x2 x3 x4 x5 = segP 2 70 g.2.2.2.2 h krPI (clCP 88 (pX9_ofWay f88 h) clNP) csX6_sumOfWays (cuC 8 (fun l st s => tkC 0 26 l <| tkI 1 l fun x1 => tkI 2 l fun x2 => tkI 3 l fun x3 => tkI 4 l fun x4 => tkI 5 l fun x5 => skE st (c8 x1 x2 x3 x4 x5)) cuN) 1000 8 [(0, aR 26), (1, aI x1), (2, aI x2), (3, aI x3), (4, aI x4), (5, aI x5)] [] := fun _ => rfl
  rw [e nX9_ofWay] at q
  clear e
  refine segP_wk (by decide) (by decide) hg rwX6_sumOfWays (CLKP_C (pX9_ofWay_ok hg) CLKP_N) krPI_ok ?_ q
  clear q
  refine ct_C ?_ (ct_N)
  · intro l st _ q
    obtain ⟨m0, q1⟩ := tkC_of q
    obtain ⟨x1, m1, q2⟩ := tkI_of q1
    obtain ⟨x2, m2, q3⟩ := tkI_of q2
    obtain ⟨x3, m3, q4⟩ := tkI_of q3
    obtain ⟨x4, m4, q5⟩ := tkI_of q4
    obtain ⟨x5, m5, q6⟩ := tkI_of q5
    obtain ⟨rfl, q7⟩ := skE_of q6
    exact WK_less (k8 _ _ _ _ _ _ q7) (List.forall_mem_cons.mpr ⟨m0, (List.forall_mem_cons.mpr ⟨m1, (List.forall_mem_cons.mpr ⟨m2, (List.forall_mem_cons.mpr ⟨m3, (List.forall_mem_cons.mpr ⟨m4, (List.forall_mem_cons.mpr ⟨m5, (fun _ h => absurd h List.not_mem_nil)⟩)⟩)⟩)⟩)⟩)⟩)
def nX6_sumOfWays_8 (h : HH) : Nat → Int → Int → Int → Int → Int → Option Int := iter (fun _ _ _ _ _ => none) (fun self => bX6_sumOfWays_8 nX9_ofWay h self)
theorem nX6_sumOfWays_8_s {h : HH} {F : Nat} : nX6_sumOfWays_8 h (F + 1) = bX6_sumOfWays_8 nX9_ofWay h (nX6_sumOfWays_8 h F) := rfl
theorem wX6_sumOfWays_8 {g : SG} (hg : GOK g) {σ0 : SG} {h : HH} : ∀ {F : Nat}, ∀ {x1 : Int} {x2 : Int} {x3 : Int} {x4 : Int} {x5 : Int} {b : Int}, nX6_sumOfWays_8 h F x1 x2 x3 x4 x5 = some b → WK 58 (.inl (some (aI b))) σ0 (abH 2 70 g h) 8 [(0, aR 26), (1, aI x1), (2, aI x2), (3, aI x3), (4, aI x4), (5, aI x5)] [] (abH 2 70 g h) 0 0 := by
  intro F
  have z : ∀ (x1 : Int) (x2 : Int) (x3 : Int) (x4 : Int) (x5 : Int) (b : Int), nX6_sumOfWays_8 h F x1 x2 x3 x4 x5 = some b → WK 58 (.inl (some (aI b))) σ0 (abH 2 70 g h) 8 [(0, aR 26), (1, aI x1), (2, aI x2), (3, aI x3), (4, aI x4), (5, aI x5)] [] (abH 2 70 g h) 0 0 := iter_ind (P := fun (c : Int → Int → Int → Int → Int → Option Int) => ∀ (x1 : Int) (x2 : Int) (x3 : Int) (x4 : Int) (x5 : Int) (b : Int), c x1 x2 x3 x4 x5 = some b → WK 58 (.inl (some (aI b))) σ0 (abH 2 70 g h) 8 [(0, aR 26), (1, aI x1), (2, aI x2), (3, aI x3), (4, aI x4), (5, aI x5)] [] (abH 2 70 g h) 0 0) (by
    intro x1 x2 x3 x4 x5 b q
    cases q) (fun self ih => by
    intro x1 x2 x3 x4 x5 b q
    exact uX6_sumOfWays_8 hg ih q) F
  intro x1 x2 x3 x4 x5 b q
  exact z _ _ _ _ _ _ q
def bX6_sumOfWays (h : HH) (c8 : Int → Int → Int → Int → Int → Option Int) (x1 : Int) (x2 : Int) : Option Int :=
  c8 x1 x2 0 0 0
theorem uX6_sumOfWays {g : SG} (hg : GOK g) {σ0 : SG} {h : HH} {c8 : Int → Int → Int → Int → Int → Option Int} (k8 : ∀ (x1 : Int) (x2 : Int) (x3 : Int) (x4 : Int) (x5 : Int) (b : Int), c8 x1 x2 x3 x4 x5 = some b → WK 58 (.inl (some (aI b))) σ0 (abH 2 70 g h) 8 [(0, aR 26), (1, aI x1), (2, aI x2), (3, aI x3), (4, aI x4), (5, aI x5)] [] (abH 2 70 g h) 0 0) : ∀ {x1 : Int} {x2 : Int} {b : Int}, bX6_sumOfWays h c8 x1 x2 = some b → WK 58 (.inl (some (aI b))) σ0 (abH 2 70 g h) 0 [(0, aR 26), (1, aI x1), (2, aI x2)] [] (abH 2 70 g h) 0 0 := by
  intro x1 x2 b q
  have e : bX6_sumOfWays h c8 x1 x2 = segP 2 70 g.2.2.2.2 h krPI clNP csX6_sumOfWays (cuC 8 (fun l st s => tkC 0 26 l <| tkI 1 l fun x1 => tkI 2 l fun x2 => tkI 3 l fun x3 => tkI 4 l fun x4 => tkI 5 l fun x5 => skE st (c8 x1 x2 x3 x4 x5)) cuN) 1000 0 [(0, aR 26), (1, aI x1), (2, aI x2)] [] := rfl
  rw [e] at q
  clear e
  refine segP_wk (by decide) (by decide) hg rwX6_sumOfWays CLKP_N krPI_ok ?_ q
  clear q
  refine ct_C ?_ (ct_N)
  · intro l st _ q
    obtain ⟨m0, q1⟩ := tkC_of q
    obtain ⟨x1, m1, q2⟩ := tkI_of q1
    obtain ⟨x2, m2, q3⟩ := tkI_of q2
    obtain ⟨x3, m3, q4⟩ := tkI_of q3
    obtain ⟨x4, m4, q5⟩ := tkI_of q4
    obtain ⟨x5, m5, q6⟩ := tkI_of q5
    obtain ⟨rfl, q7⟩ := skE_of q6
    exact WK_less (k8 _ _ _ _ _ _ q7) (List.forall_mem_cons.mpr ⟨m0, (List.forall_mem_cons.mpr ⟨m1, (List.forall_mem_cons.mpr ⟨m2, (List.forall_mem_cons.mpr ⟨m3, (List.forall_mem_cons.mpr ⟨m4, (List.forall_mem_cons.mpr ⟨m5, (fun _ h => absurd h List.not_mem_nil)⟩)⟩)⟩)⟩)⟩)⟩)
def nX6_sumOfWays (h : HH) (x1 : Int) (x2 : Int) : Option Int := bX6_sumOfWays h (nX6_sumOfWays_8 h 100000) x1 x2
theorem wX6_sumOfWays {g : SG} (hg : GOK g) {σ0 : SG} {h : HH} : ∀ {x1 : Int} {x2 : Int} {b : Int}, nX6_sumOfWays h x1 x2 = some b → WK 58 (.inl (some (aI b))) σ0 (abH 2 70 g h) 0 [(0, aR 26), (1, aI x1), (2, aI x2)] [] (abH 2 70 g h) 0 0 := by
  intro x1 x2 b q
  exact uX6_sumOfWays hg (fun _ _ _ _ _ _ q => wX6_sumOfWays_8 hg q) q
theorem mX6_sumOfWays {g : SG} (hg : GOK g) {h : HH} {x1 : Int} {x2 : Int} {b : Int} (q : nX6_sumOfWays h x1 x2 = some b) : MCT 58 [] [aR 26, aI x1, aI x2] (abH 2 70 g h) (.inl (some (aI b))) (abH 2 70 g h) :=
  mct_of (by decide) (MFok 58 (by decide +kernel)) (fun _ => Nat.le_of_ble_eq_true rfl) (wX6_sumOfWays hg q)
def pX6_sumOfWays {β : Type} (z : HH → Int → Int → Option Int) : PP β := fun h as f => skC 26 as fun as => skI as fun x1 as => skI as fun x2 as => skE as (bnd (z h x1 x2) fun r => f (.inl (some (aI r))))
theorem pX6_sumOfWays_ok {β : Type} {g : SG} (hg : GOK g) : CP1 (β := β) 58 (pX6_sumOfWays nX6_sumOfWays) 2 70 g := fun h as f b q => by
  obtain ⟨as, rfl, q1⟩ := skC_of q
  obtain ⟨x1, as, rfl, q2⟩ := skI_of q1
  obtain ⟨x2, as, rfl, q3⟩ := skI_of q2
  obtain ⟨rfl, q0⟩ := skE_of q3
  obtain ⟨r, z1, z2⟩ := bnd_of q0
  exact ⟨_, z2, by decide, mX6_sumOfWays hg z1, rfl, rfl, fun z => absurd z (by decide)⟩
def csX6_sumOfServices : List (Nat × List (Nat × ARow)) := [(36, [(0, 1, .iconst 0, 0, 0, 0), (1, 1, .istore_n 2, 0, 0, 0), (2, 1, .iconst 0, 0, 0, 0), (3, 1, .istore_n 3, 0, 0, 0), (4, 1, .iload_n 3, 0, 0, 0), (5, 1, .aload_n 0, 0, 0, 0), (6, 3, .getfield 16, 6, 2, 2), (9, 1, .iload_n 1, 0, 0, 0), (10, 1, .iaload, 0, 0, 0), (11, 3, .if_icmp .ge 28, 39, 0, 0), (14, 1, .iload_n 2, 0, 0, 0), (15, 1, .aload_n 0, 0, 0, 0), (16, 3, .getfield 20, 6, 0, 2), (19, 3, .getfield 64, 2, 6, 2), (22, 1, .aload_n 0, 0, 0, 0), (23, 3, .getfield 11, 6, 1, 2), (26, 1, .iload_n 1, 0, 0, 0), (27, 1, .aaload, 0, 0, 0), (28, 1, .iload_n 3, 0, 0, 0), (29, 1, .iaload, 0, 0, 0), (30, 1, .iaload, 0, 0, 0), (31, 1, .iadd, 0, 0, 0), (32, 1, .istore_n 2, 0, 0, 0), (33, 3, .iinc 3 1, 0, 0, 0)]),
  (100000, [(36, 3, .goto (-32), 4, 0, 0), (39, 1, .iload_n 2, 0, 0, 0), (40, 1, .ireturn, 0, 0, 0)])]
theorem rwX6_sumOfServices : rowsB (mB 59) (mO 59) (mX 59) (mIni 59) (mFr 59) (mLo 59) (mT 59) csX6_sumOfServices = true := by decide +kernel
def bX6_sumOfServices_4 (h : HH) (c4 : Int → Int → Int → Option Int) (x1 : Int) (x2 : Int) (x3 : Int) : Option Int :=
  gd ((0 : Int) ≤ x1 ∧ x1 < (3 : Int)) <|
    if x3 < ((h.1 31 x1) : Int) then
    gd ((0 : Int) ≤ x1 ∧ x1 < (3 : Int)) <|
    bif Nat.beq (rwK 3 28 x1) 0 then none else
    bif okS 2 70 (rwK 3 28 x1) 0 || okS 2 70 (rwK 3 28 x1) 9 then
    gd ((0 : Int) ≤ x3 ∧ x3 < ((lnK (rwK 3 28 x1)) : Int)) <|
    gd ((0 : Int) ≤ (h.1 (rwK 3 28 x1) x3) ∧ (h.1 (rwK 3 28 x1) x3) < (9 : Int)) <|
    gd (R32 (x2 + (h.1 19 (h.1 (rwK 3 28 x1) x3)))) <|
    gd (R32 (x3 + 1)) <|
    c4 x1 (x2 + (h.1 19 (h.1 (rwK 3 28 x1) x3))) (x3 + 1)
  else none
  else
    some x2
theorem uX6_sumOfServices_4 {g : SG} (hg : GOK g) {σ0 : SG} {h : HH} {c4 : Int → Int → Int → Option Int} (k4 : ∀ (x1 : Int) (x2 : Int) (x3 : Int) (b : Int), c4 x1 x2 x3 = some b → WK 59 (.inl (some (aI b))) σ0 (abH 2 70 g h) 4 [(0, aR 26), (1, aI x1), (2, aI x2), (3, aI x3)] [] (abH 2 70 g h) 0 0) : ∀ {x1 : Int} {x2 : Int} {x3 : Int} {b : Int}, bX6_sumOfServices_4 h c4 x1 x2 x3 = some b → WK 59 (.inl (some (aI b))) σ0 (abH 2 70 g h) 4 [(0, aR 26), (1, aI x1), (2, aI x2), (3, aI x3)] [] (abH 2 70 g h) 0 0 := by
  intro x1 x2 x3 b q
  have e : bX6_sumOfServices_4 h c4 x1 x2 x3 = segP 2 70 g.2.2.2.2 h krPI clNP csX6_sumOfServices (cuC 4 (fun l st s => tkC 0 26 l <| tkI 1 l fun x1 => tkI 2 l fun x2 => tkI 3 l fun x3 => skE st (c4 x1 x2 x3)) cuN) 1000 4 [(0, aR 26), (1, aI x1), (2, aI x2), (3, aI x3)] [] := rfl
  rw [e] at q
  clear e
  refine segP_wk (by decide) (by decide) hg rwX6_sumOfServices CLKP_N krPI_ok ?_ q
  clear q
  refine ct_C ?_ (ct_N)
  · intro l st _ q
    obtain ⟨m0, q1⟩ := tkC_of q
    obtain ⟨x1, m1, q2⟩ := tkI_of q1
    obtain ⟨x2, m2, q3⟩ := tkI_of q2
    obtain ⟨x3, m3, q4⟩ := tkI_of q3
    obtain ⟨rfl, q5⟩ := skE_of q4
    exact WK_less (k4 _ _ _ _ q5) (List.forall_mem_cons.mpr ⟨m0, (List.forall_mem_cons.mpr ⟨m1, (List.forall_mem_cons.mpr ⟨m2, (List.forall_mem_cons.mpr ⟨m3, (fun _ h => absurd h List.not_mem_nil)⟩)⟩)⟩)⟩)
def nX6_sumOfServices_4 (h : HH) : Nat → Int → Int → Int → Option Int := iter (fun _ _ _ => none) (fun self => bX6_sumOfServices_4 h self)
theorem nX6_sumOfServices_4_s {h : HH} {F : Nat} : nX6_sumOfServices_4 h (F + 1) = bX6_sumOfServices_4 h (nX6_sumOfServices_4 h F) := rfl
theorem wX6_sumOfServices_4 {g : SG} (hg : GOK g) {σ0 : SG} {h : HH} : ∀ {F : Nat}, ∀ {x1 : Int} {x2 : Int} {x3 : Int} {b : Int}, nX6_sumOfServices_4 h F x1 x2 x3 = some b → WK 59 (.inl (some (aI b))) σ0 (abH 2 70 g h) 4 [(0, aR 26), (1, aI x1), (2, aI x2), (3, aI x3)] [] (abH 2 70 g h) 0 0 := by
  intro F
  have z : ∀ (x1 : Int) (x2 : Int) (x3 : Int) (b : Int), nX6_sumOfServices_4 h F x1 x2 x3 = some b → WK 59 (.inl (some (aI b))) σ0 (abH 2 70 g h) 4 [(0, aR 26), (1, aI x1), (2, aI x2), (3, aI x3)] [] (abH 2 70 g h) 0 0 := iter_ind (P := fun (c : Int → Int → Int → Option Int) => ∀ (x1 : Int) (x2 : Int) (x3 : Int) (b : Int), c x1 x2 x3 = some b → WK 59 (.inl (some (aI b))) σ0 (abH 2 70 g h) 4 [(0, aR 26), (1, aI x1), (2, aI x2), (3, aI x3)] [] (abH 2 70 g h) 0 0) (by
    intro x1 x2 x3 b q
    cases q) (fun self ih => by
    intro x1 x2 x3 b q
    exact uX6_sumOfServices_4 hg ih q) F
  intro x1 x2 x3 b q
  exact z _ _ _ _ q
def bX6_sumOfServices (h : HH) (c4 : Int → Int → Int → Option Int) (x1 : Int) : Option Int :=
  c4 x1 0 0
theorem uX6_sumOfServices {g : SG} (hg : GOK g) {σ0 : SG} {h : HH} {c4 : Int → Int → Int → Option Int} (k4 : ∀ (x1 : Int) (x2 : Int) (x3 : Int) (b : Int), c4 x1 x2 x3 = some b → WK 59 (.inl (some (aI b))) σ0 (abH 2 70 g h) 4 [(0, aR 26), (1, aI x1), (2, aI x2), (3, aI x3)] [] (abH 2 70 g h) 0 0) : ∀ {x1 : Int} {b : Int}, bX6_sumOfServices h c4 x1 = some b → WK 59 (.inl (some (aI b))) σ0 (abH 2 70 g h) 0 [(0, aR 26), (1, aI x1)] [] (abH 2 70 g h) 0 0 := by
  intro x1 b q
  have e : bX6_sumOfServices h c4 x1 = segP 2 70 g.2.2.2.2 h krPI clNP csX6_sumOfServices (cuC 4 (fun l st s => tkC 0 26 l <| tkI 1 l fun x1 => tkI 2 l fun x2 => tkI 3 l fun x3 => skE st (c4 x1 x2 x3)) cuN) 1000 0 [(0, aR 26), (1, aI x1)] [] := rfl
  rw [e] at q
  clear e
  refine segP_wk (by decide) (by decide) hg rwX6_sumOfServices CLKP_N krPI_ok ?_ q
  clear q
  refine ct_C ?_ (ct_N)
  · intro l st _ q
    obtain ⟨m0, q1⟩ := tkC_of q
    obtain ⟨x1, m1, q2⟩ := tkI_of q1
    obtain ⟨x2, m2, q3⟩ := tkI_of q2
    obtain ⟨x3, m3, q4⟩ := tkI_of q3
    obtain ⟨rfl, q5⟩ := skE_of q4
    exact WK_less (k4 _ _ _ _ q5) (List.forall_mem_cons.mpr ⟨m0, (List.forall_mem_cons.mpr ⟨m1, (List.forall_mem_cons.mpr ⟨m2, (List.forall_mem_cons.mpr ⟨m3, (fun _ h => absurd h List.not_mem_nil)⟩)⟩)⟩)⟩)
def nX6_sumOfServices (h : HH) (x1 : Int) : Option Int := bX6_sumOfServices h (nX6_sumOfServices_4 h 100000) x1
theorem wX6_sumOfServices {g : SG} (hg : GOK g) {σ0 : SG} {h : HH} : ∀ {x1 : Int} {b : Int}, nX6_sumOfServices h x1 = some b → WK 59 (.inl (some (aI b))) σ0 (abH 2 70 g h) 0 [(0, aR 26), (1, aI x1)] [] (abH 2 70 g h) 0 0 := by
  intro x1 b q
  exact uX6_sumOfServices hg (fun _ _ _ _ q => wX6_sumOfServices_4 hg q) q
theorem mX6_sumOfServices {g : SG} (hg : GOK g) {h : HH} {x1 : Int} {b : Int} (q : nX6_sumOfServices h x1 = some b) : MCT 59 [] [aR 26, aI x1] (abH 2 70 g h) (.inl (some (aI b))) (abH 2 70 g h) :=
  mct_of (by decide) (MFok 59 (by decide +kernel)) (fun _ => Nat.le_of_ble_eq_true rfl) (wX6_sumOfServices hg q)
def pX6_sumOfServices {β : Type} (z : HH → Int → Option Int) : PP β := fun h as f => skC 26 as fun as => skI as fun x1 as => skE as (bnd (z h x1) fun r => f (.inl (some (aI r))))
theorem pX6_sumOfServices_ok {β : Type} {g : SG} (hg : GOK g) : CP1 (β := β) 59 (pX6_sumOfServices nX6_sumOfServices) 2 70 g := fun h as f b q => by
  obtain ⟨as, rfl, q1⟩ := skC_of q
  obtain ⟨x1, as, rfl, q2⟩ := skI_of q1
  obtain ⟨rfl, q0⟩ := skE_of q2
  obtain ⟨r, z1, z2⟩ := bnd_of q0
  exact ⟨_, z2, by decide, mX6_sumOfServices hg z1, rfl, rfl, fun z => absurd z (by decide)⟩
