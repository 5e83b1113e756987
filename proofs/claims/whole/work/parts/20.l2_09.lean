def csX12_clock : List (Nat × List (Nat × ARow)) := [(42, [(0, 1, .iload_n 1, 0, 0, 0), (1, 1, .iconst 0, 0, 0, 0), (2, 2, .bipush 23, 0, 0, 0), (4, 3, .invokestatic 178, 171, 3, 0), (7, 3, .ifCond .eq 23, 30, 0, 0), (10, 1, .iload_n 2, 0, 0, 0), (11, 1, .iconst 0, 0, 0, 0), (12, 2, .bipush 59, 0, 0, 0), (14, 3, .invokestatic 178, 171, 3, 0), (17, 3, .ifCond .eq 13, 30, 0, 0), (20, 1, .iload_n 3, 0, 0, 0), (21, 1, .iconst 0, 0, 0, 0), (22, 2, .ldc 219, 100000, 0, 0), (24, 3, .invokestatic 178, 171, 3, 0), (27, 3, .ifCond .ne 9, 36, 0, 0), (30, 1, .aload_n 0, 0, 0, 0), (31, 1, .iconst 1, 0, 0, 0), (32, 3, .invokevirtual 200, 177, 2, 12), (35, 1, .ireturn, 0, 0, 0), (36, 1, .aload_n 0, 0, 0, 0), (37, 2, .bipush 60, 0, 0, 0), (39, 1, .iload_n 1, 0, 0, 0), (40, 1, .imul, 0, 0, 0), (41, 1, .iload_n 2, 0, 0, 0)]),
  (100000, [(42, 1, .iadd, 0, 0, 0), (43, 1, .iload_n 3, 0, 0, 0), (44, 1, .iadd, 0, 0, 0), (45, 3, .sipush 1440, 0, 0, 0), (48, 1, .irem, 0, 0, 0), (49, 3, .invokevirtual 209, 178, 2, 12), (52, 1, .ireturn, 0, 0, 0)])]
theorem rwX12_clock : rowsB (mB 188) (mO 188) (mX 188) (mIni 188) (mFr 188) (mLo 188) (mT 188) csX12_clock = true := by decide +kernel
def bX12_clock_30 (f177 : Int → HH → Option (Int × HH)) (h : HH) : Option (Int × HH) :=
  bnd (f177 1 h) fun r1 =>
    some (r1.1, r1.2)
theorem uX12_clock_30 {g : SG} (hg : GOK g) {σ0 : SG} : ∀ {h : HH} {b : (Int × HH)}, bX12_clock_30 nX12_refuse h = some b → WK 188 (.inl (some (aI b.1))) σ0 (abH 71 119 g b.2) 30 [(0, aR 71)] [] (abH 71 119 g h) 0 0 := by
  intro h b q
  have e : ∀ (f177 : Int → HH → Option (Int × HH)) , bX12_clock_30 f177 h = segW 71 119 g.2.2.2.2 krWI (clC 177 (pX12_refuse f177) clN) csX12_clock cuN 1000 30 [(0, aR 71)] [] h := fun _ => rfl
  rw [e nX12_refuse] at q
  clear e
  refine segW_wk (by decide) (by decide) hg rwX12_clock (CLKW_C (pX12_refuse_ok hg) CLKW_N) krWI_ok ?_ q
  clear q
  exact ct_N
def nX12_clock_30 (h : HH) : Option (Int × HH) := bX12_clock_30 nX12_refuse h
theorem wX12_clock_30 {g : SG} (hg : GOK g) {σ0 : SG} : ∀ {h : HH} {b : (Int × HH)}, nX12_clock_30 h = some b → WK 188 (.inl (some (aI b.1))) σ0 (abH 71 119 g b.2) 30 [(0, aR 71)] [] (abH 71 119 g h) 0 0 := by
  intro h b q
  exact uX12_clock_30 hg q
def bX12_clock (f171 : HH → Int → Int → Int → Option Int) (f178 : Int → HH → Option (Int × HH)) (c30 : HH → Option (Int × HH)) (x1 : Int) (x2 : Int) (x3 : Int) (h : HH) : Option (Int × HH) :=
  bnd (f171 h x1 0 23) fun r1 =>
    if r1 = (0 : Int) then
    c30 h
  else
    bnd (f171 h x2 0 59) fun r2 =>
    if r2 = (0 : Int) then
    c30 h
  else
    bnd (f171 h x3 0 100000) fun r3 =>
    if r3 = (0 : Int) then
    c30 h
  else
    gd (R32 (60 * x1)) <|
    gd (R32 ((60 * x1) + x2)) <|
    gd (R32 (((60 * x1) + x2) + x3)) <|
    gd ((0 : Int) ≤ (((60 * x1) + x2) + x3) ∧ (0 : Int) < 1440) <|
    bnd (f178 ((((60 * x1) + x2) + x3) % 1440) h) fun r4 =>
    some (r4.1, r4.2)
set_option maxRecDepth 100000 in
theorem uX12_clock {g : SG} (hg : GOK g) {σ0 : SG} {c30 : HH → Option (Int × HH)} (k30 : ∀ (h : HH) (b : (Int × HH)), c30 h = some b → WK 188 (.inl (some (aI b.1))) σ0 (abH 71 119 g b.2) 30 [(0, aR 71)] [] (abH 71 119 g h) 0 0) : ∀ {x1 : Int} {x2 : Int} {x3 : Int} {h : HH} {b : (Int × HH)}, bX12_clock nX12_in nX12_told c30 x1 x2 x3 h = some b → WK 188 (.inl (some (aI b.1))) σ0 (abH 71 119 g b.2) 0 [(0, aR 71), (1, aI x1), (2, aI x2), (3, aI x3)] [] (abH 71 119 g h) 0 0 := by
  intro x1 x2 x3 h b q
  have e : ∀ (f171 : HH → Int → Int → Int → Option Int) (f178 : Int → HH → Option (Int × HH)) , bX12_clock f171 f178 c30 x1 x2 x3 h = segW 71 119 g.2.2.2.2 krWI (clC 171 (liPW (pX12_in f171)) (clC 178 (pX12_told f178) clN)) csX12_clock (cuC 30 (fun l st s => tkC 0 71 l <| skE st (c30 s)) cuN) 1000 0 [(0, aR 71), (1, aI x1), (2, aI x2), (3, aI x3)] [] h := fun _ _ => rfl
  rw [e nX12_in nX12_told] at q
  clear e
  refine segW_wk (by decide) (by decide) hg rwX12_clock (CLKW_C (liPW_ok (pX12_in_ok hg)) (CLKW_C (pX12_told_ok hg) CLKW_N)) krWI_ok ?_ q
  clear q
  refine ct_C ?_ (ct_N)
  · intro l st h q
    obtain ⟨m0, q1⟩ := tkC_of q
    obtain ⟨rfl, q2⟩ := skE_of q1
    exact WK_less (k30 _ _ q2) (List.forall_mem_cons.mpr ⟨m0, (fun _ h => absurd h List.not_mem_nil)⟩)
def nX12_clock (x1 : Int) (x2 : Int) (x3 : Int) (h : HH) : Option (Int × HH) := bX12_clock nX12_in nX12_told nX12_clock_30 x1 x2 x3 h
theorem wX12_clock {g : SG} (hg : GOK g) {σ0 : SG} : ∀ {x1 : Int} {x2 : Int} {x3 : Int} {h : HH} {b : (Int × HH)}, nX12_clock x1 x2 x3 h = some b → WK 188 (.inl (some (aI b.1))) σ0 (abH 71 119 g b.2) 0 [(0, aR 71), (1, aI x1), (2, aI x2), (3, aI x3)] [] (abH 71 119 g h) 0 0 := by
  intro x1 x2 x3 h b q
  exact uX12_clock hg (fun _ _ q => wX12_clock_30 hg q) q
theorem mX12_clock {g : SG} (hg : GOK g) {h : HH} {x1 : Int} {x2 : Int} {x3 : Int} {b : (Int × HH)} (q : nX12_clock x1 x2 x3 h = some b) : MCT 188 [] [aR 71, aI x1, aI x2, aI x3] (abH 71 119 g h) (.inl (some (aI b.1))) (abH 71 119 g b.2) :=
  mct_of (by decide) (MFok 188 (by decide +kernel)) (fun _ => Nat.le_of_ble_eq_true rfl) (wX12_clock hg q)
def pX12_clock {β : Type} (z : Int → Int → Int → HH → Option (Int × HH)) : PW β := fun as h f => skC 71 as fun as => skI as fun x1 as => skI as fun x2 as => skI as fun x3 as => skE as (bnd (z x1 x2 x3 h) fun r => f (.inl (some (aI r.1))) r.2)
theorem pX12_clock_ok {β : Type} {g : SG} (hg : GOK g) : CW1 (β := β) 188 (pX12_clock nX12_clock) 71 119 g := fun as h f b q => by
  obtain ⟨as, rfl, q1⟩ := skC_of q
  obtain ⟨x1, as, rfl, q2⟩ := skI_of q1
  obtain ⟨x2, as, rfl, q3⟩ := skI_of q2
  obtain ⟨x3, as, rfl, q4⟩ := skI_of q3
  obtain ⟨rfl, q0⟩ := skE_of q4
  obtain ⟨r, z1, z2⟩ := bnd_of q0
  exact ⟨_, _, z2, by decide, mX12_clock hg z1, rfl, rfl, fun z => absurd z (by decide)⟩
def csX12_parcel : List (Nat × List (Nat × ARow)) := [(43, [(0, 1, .iload_n 1, 0, 0, 0), (1, 3, .invokestatic 196, 174, 1, 0), (4, 3, .ifCond .eq 12, 16, 0, 0), (7, 1, .iload_n 3, 0, 0, 0), (8, 1, .iconst 0, 0, 0, 0), (9, 1, .iconst 2, 0, 0, 0), (10, 3, .invokestatic 178, 171, 3, 0), (13, 3, .ifCond .ne 9, 22, 0, 0), (16, 1, .aload_n 0, 0, 0, 0), (17, 1, .iconst 1, 0, 0, 0), (18, 3, .invokevirtual 200, 177, 2, 12), (21, 1, .ireturn, 0, 0, 0), (22, 1, .iload_n 1, 0, 0, 0), (23, 3, .ifCond .eq 13, 36, 0, 0), (26, 1, .iload_n 2, 0, 0, 0), (27, 1, .iconst 1, 0, 0, 0), (28, 2, .bipush 100, 0, 0, 0), (30, 3, .invokestatic 178, 171, 3, 0), (33, 3, .ifCond .ne 9, 42, 0, 0), (36, 1, .aload_n 0, 0, 0, 0), (37, 1, .iconst 2, 0, 0, 0), (38, 3, .invokevirtual 200, 177, 2, 12), (41, 1, .ireturn, 0, 0, 0), (42, 1, .aload_n 0, 0, 0, 0)]),
  (86, [(43, 3, .getfield 182, 12, 21, 0), (46, 2, .bipush 9, 0, 0, 0), (48, 3, .if_icmp .ne 9, 57, 0, 0), (51, 1, .aload_n 0, 0, 0, 0), (52, 1, .iconst 3, 0, 0, 0), (53, 3, .invokevirtual 200, 177, 2, 12), (56, 1, .ireturn, 0, 0, 0), (57, 1, .aload_n 0, 0, 0, 0), (58, 3, .getfield 37, 12, 11, 2), (61, 1, .aload_n 0, 0, 0, 0), (62, 3, .getfield 182, 12, 21, 0), (65, 1, .iload_n 1, 0, 0, 0), (66, 1, .iastore, 0, 0, 0), (67, 1, .aload_n 0, 0, 0, 0), (68, 3, .getfield 40, 12, 12, 2), (71, 1, .aload_n 0, 0, 0, 0), (72, 3, .getfield 182, 12, 21, 0), (75, 1, .iload_n 2, 0, 0, 0), (76, 1, .iastore, 0, 0, 0), (77, 1, .aload_n 0, 0, 0, 0), (78, 3, .getfield 43, 12, 13, 2), (81, 1, .aload_n 0, 0, 0, 0), (82, 3, .getfield 182, 12, 21, 0), (85, 1, .iload_n 3, 0, 0, 0)]),
  (126, [(86, 1, .iastore, 0, 0, 0), (87, 1, .aload_n 0, 0, 0, 0), (88, 3, .getfield 49, 12, 15, 2), (91, 1, .aload_n 0, 0, 0, 0), (92, 3, .getfield 182, 12, 21, 0), (95, 3, .sipush 1439, 0, 0, 0), (98, 1, .iastore, 0, 0, 0), (99, 1, .aload_n 0, 0, 0, 0), (100, 3, .getfield 61, 12, 19, 2), (103, 1, .aload_n 0, 0, 0, 0), (104, 3, .getfield 182, 12, 21, 0), (107, 1, .iconst (-1), 0, 0, 0), (108, 1, .iastore, 0, 0, 0), (109, 1, .aload_n 0, 0, 0, 0), (110, 3, .getfield 64, 12, 20, 2), (113, 1, .aload_n 0, 0, 0, 0), (114, 3, .getfield 182, 12, 21, 0), (117, 1, .iconst (-1), 0, 0, 0), (118, 1, .iastore, 0, 0, 0), (119, 1, .aload_n 0, 0, 0, 0), (120, 1, .dup, 0, 0, 0), (121, 3, .getfield 182, 12, 21, 0), (124, 1, .iconst 1, 0, 0, 0), (125, 1, .iadd, 0, 0, 0)]),
  (100000, [(126, 3, .putfield 182, 12, 21, 0), (129, 1, .aload_n 0, 0, 0, 0), (130, 1, .aload_n 0, 0, 0, 0), (131, 3, .getfield 182, 12, 21, 0), (134, 1, .iconst 1, 0, 0, 0), (135, 1, .isub, 0, 0, 0), (136, 3, .invokevirtual 209, 178, 2, 12), (139, 1, .ireturn, 0, 0, 0)])]
theorem rwX12_parcel : rowsB (mB 189) (mO 189) (mX 189) (mIni 189) (mFr 189) (mLo 189) (mT 189) csX12_parcel = true := by decide +kernel
def bX12_parcel_16 (f177 : Int → HH → Option (Int × HH)) (h : HH) : Option (Int × HH) :=
  bnd (f177 1 h) fun r1 =>
    some (r1.1, r1.2)
theorem uX12_parcel_16 {g : SG} (hg : GOK g) {σ0 : SG} : ∀ {h : HH} {b : (Int × HH)}, bX12_parcel_16 nX12_refuse h = some b → WK 189 (.inl (some (aI b.1))) σ0 (abH 71 119 g b.2) 16 [(0, aR 71)] [] (abH 71 119 g h) 0 0 := by
  intro h b q
  have e : ∀ (f177 : Int → HH → Option (Int × HH)) , bX12_parcel_16 f177 h = segW 71 119 g.2.2.2.2 krWI (clC 177 (pX12_refuse f177) clN) csX12_parcel cuN 1000 16 [(0, aR 71)] [] h := fun _ => rfl
  rw [e nX12_refuse] at q
  clear e
  refine segW_wk (by decide) (by decide) hg rwX12_parcel (CLKW_C (pX12_refuse_ok hg) CLKW_N) krWI_ok ?_ q
  clear q
  exact ct_N
def nX12_parcel_16 (h : HH) : Option (Int × HH) := bX12_parcel_16 nX12_refuse h
theorem wX12_parcel_16 {g : SG} (hg : GOK g) {σ0 : SG} : ∀ {h : HH} {b : (Int × HH)}, nX12_parcel_16 h = some b → WK 189 (.inl (some (aI b.1))) σ0 (abH 71 119 g b.2) 16 [(0, aR 71)] [] (abH 71 119 g h) 0 0 := by
  intro h b q
  exact uX12_parcel_16 hg q
def bX12_parcel_36 (f177 : Int → HH → Option (Int × HH)) (h : HH) : Option (Int × HH) :=
  bnd (f177 2 h) fun r1 =>
    some (r1.1, r1.2)
theorem uX12_parcel_36 {g : SG} (hg : GOK g) {σ0 : SG} : ∀ {h : HH} {b : (Int × HH)}, bX12_parcel_36 nX12_refuse h = some b → WK 189 (.inl (some (aI b.1))) σ0 (abH 71 119 g b.2) 36 [(0, aR 71)] [] (abH 71 119 g h) 0 0 := by
  intro h b q
  have e : ∀ (f177 : Int → HH → Option (Int × HH)) , bX12_parcel_36 f177 h = segW 71 119 g.2.2.2.2 krWI (clC 177 (pX12_refuse f177) clN) csX12_parcel cuN 1000 36 [(0, aR 71)] [] h := fun _ => rfl
  rw [e nX12_refuse] at q
  clear e
  refine segW_wk (by decide) (by decide) hg rwX12_parcel (CLKW_C (pX12_refuse_ok hg) CLKW_N) krWI_ok ?_ q
  clear q
  exact ct_N
def nX12_parcel_36 (h : HH) : Option (Int × HH) := bX12_parcel_36 nX12_refuse h
theorem wX12_parcel_36 {g : SG} (hg : GOK g) {σ0 : SG} : ∀ {h : HH} {b : (Int × HH)}, nX12_parcel_36 h = some b → WK 189 (.inl (some (aI b.1))) σ0 (abH 71 119 g b.2) 36 [(0, aR 71)] [] (abH 71 119 g h) 0 0 := by
  intro h b q
  exact uX12_parcel_36 hg q
def bX12_parcel_77 (f178 : Int → HH → Option (Int × HH)) (x3 : Int) (h : HH) : Option (Int × HH) :=
  gd ((0 : Int) ≤ (h.1 71 21) ∧ (h.1 71 21) < (9 : Int)) <|
    bnd (some (hI h 83 (h.1 71 21) x3)) fun h1 =>
    gd ((0 : Int) ≤ (h1.1 71 21) ∧ (h1.1 71 21) < (9 : Int)) <|
    bnd (some (hI h1 85 (h1.1 71 21) 1439)) fun h2 =>
    gd ((0 : Int) ≤ (h2.1 71 21) ∧ (h2.1 71 21) < (9 : Int)) <|
    bnd (some (hI h2 89 (h2.1 71 21) (-1))) fun h3 =>
    gd ((0 : Int) ≤ (h3.1 71 21) ∧ (h3.1 71 21) < (9 : Int)) <|
    bnd (some (hI h3 90 (h3.1 71 21) (-1))) fun h4 =>
    gd (R32 ((h4.1 71 21) + 1)) <|
    bnd (some (hI h4 71 21 ((h4.1 71 21) + 1))) fun h5 =>
    gd (R32 ((h5.1 71 21) - 1)) <|
    bnd (f178 ((h5.1 71 21) - 1) h5) fun r6 =>
    some (r6.1, r6.2)
set_option maxRecDepth 100000 in
theorem uX12_parcel_77 {g : SG} (hg : GOK g) {σ0 : SG} : ∀ {x3 : Int} {h : HH} {b : (Int × HH)}, bX12_parcel_77 nX12_told x3 h = some b → WK 189 (.inl (some (aI b.1))) σ0 (abH 71 119 g b.2) 77 [(0, aR 71), (3, aI x3)] [] (abH 71 119 g h) 0 0 := by
  intro x3 h b q
  have e : ∀ (f178 : Int → HH → Option (Int × HH)) , bX12_parcel_77 f178 x3 h = segW 71 119 g.2.2.2.2 krWI (clC 178 (pX12_told f178) clN) csX12_parcel cuN 1000 77 [(0, aR 71), (3, aI x3)] [] h := fun _ => rfl
  rw [e nX12_told] at q
  clear e
  refine segW_wk (by decide) (by decide) hg rwX12_parcel (CLKW_C (pX12_told_ok hg) CLKW_N) krWI_ok ?_ q
  clear q
  exact ct_N
def nX12_parcel_77 (x3 : Int) (h : HH) : Option (Int × HH) := bX12_parcel_77 nX12_told x3 h
theorem wX12_parcel_77 {g : SG} (hg : GOK g) {σ0 : SG} : ∀ {x3 : Int} {h : HH} {b : (Int × HH)}, nX12_parcel_77 x3 h = some b → WK 189 (.inl (some (aI b.1))) σ0 (abH 71 119 g b.2) 77 [(0, aR 71), (3, aI x3)] [] (abH 71 119 g h) 0 0 := by
  intro x3 h b q
  exact uX12_parcel_77 hg q
def bX12_parcel (f174 : HH → Int → Option Int) (f171 : HH → Int → Int → Int → Option Int) (f177 : Int → HH → Option (Int × HH)) (c16 : HH → Option (Int × HH)) (c36 : HH → Option (Int × HH)) (c77 : Int → HH → Option (Int × HH)) (x1 : Int) (x2 : Int) (x3 : Int) (h : HH) : Option (Int × HH) :=
  bnd (f174 h x1) fun r1 =>
    if r1 = (0 : Int) then
    c16 h
  else
    bnd (f171 h x3 0 2) fun r2 =>
    if r2 = (0 : Int) then
    c16 h
  else
    if x1 = (0 : Int) then
    c36 h
  else
    bnd (f171 h x2 1 100) fun r3 =>
    if r3 = (0 : Int) then
    c36 h
  else
    if (h.1 71 21) = (9 : Int) then
    bnd (f177 3 h) fun r6 =>
    some (r6.1, r6.2)
  else
    gd ((0 : Int) ≤ (h.1 71 21) ∧ (h.1 71 21) < (9 : Int)) <|
    bnd (some (hI h 81 (h.1 71 21) x1)) fun h4 =>
    gd ((0 : Int) ≤ (h4.1 71 21) ∧ (h4.1 71 21) < (9 : Int)) <|
    bnd (some (hI h4 82 (h4.1 71 21) x2)) fun h5 =>
    c77 x3 h5
set_option maxRecDepth 100000 in
theorem uX12_parcel {g : SG} (hg : GOK g) {σ0 : SG} {c16 : HH → Option (Int × HH)} {c36 : HH → Option (Int × HH)} {c77 : Int → HH → Option (Int × HH)} (k16 : ∀ (h : HH) (b : (Int × HH)), c16 h = some b → WK 189 (.inl (some (aI b.1))) σ0 (abH 71 119 g b.2) 16 [(0, aR 71)] [] (abH 71 119 g h) 0 0) (k36 : ∀ (h : HH) (b : (Int × HH)), c36 h = some b → WK 189 (.inl (some (aI b.1))) σ0 (abH 71 119 g b.2) 36 [(0, aR 71)] [] (abH 71 119 g h) 0 0) (k77 : ∀ (x3 : Int) (h : HH) (b : (Int × HH)), c77 x3 h = some b → WK 189 (.inl (some (aI b.1))) σ0 (abH 71 119 g b.2) 77 [(0, aR 71), (3, aI x3)] [] (abH 71 119 g h) 0 0) : ∀ {x1 : Int} {x2 : Int} {x3 : Int} {h : HH} {b : (Int × HH)}, bX12_parcel nX12_isPlace nX12_in nX12_refuse c16 c36 c77 x1 x2 x3 h = some b → WK 189 (.inl (some (aI b.1))) σ0 (abH 71 119 g b.2) 0 [(0, aR 71), (1, aI x1), (2, aI x2), (3, aI x3)] [] (abH 71 119 g h) 0 0 := by
  intro x1 x2 x3 h b q
  have e : ∀ (f174 : HH → Int → Option Int) (f171 : HH → Int → Int → Int → Option Int) (f177 : Int → HH → Option (Int × HH)) , bX12_parcel f174 f171 f177 c16 c36 c77 x1 x2 x3 h = segW 71 119 g.2.2.2.2 krWI (clC 174 (liPW (pX12_isPlace f174)) (clC 171 (liPW (pX12_in f171)) (clC 177 (pX12_refuse f177) clN))) csX12_parcel (cuC 16 (fun l st s => tkC 0 71 l <| skE st (c16 s)) (cuC 36 (fun l st s => tkC 0 71 l <| skE st (c36 s)) (cuC 77 (fun l st s => tkC 0 71 l <| tkI 3 l fun x3 => skE st (c77 x3 s)) cuN))) 1000 0 [(0, aR 71), (1, aI x1), (2, aI x2), (3, aI x3)] [] h := fun _ _ _ => rfl
  rw [e nX12_isPlace nX12_in nX12_refuse] at q
  clear e
  refine segW_wk (by decide) (by decide) hg rwX12_parcel (CLKW_C (liPW_ok (pX12_isPlace_ok hg)) (CLKW_C (liPW_ok (pX12_in_ok hg)) (CLKW_C (pX12_refuse_ok hg) CLKW_N))) krWI_ok ?_ q
  clear q
  refine ct_C ?_ (ct_C ?_ (ct_C ?_ (ct_N)))
  · intro l st h q
    obtain ⟨m0, q1⟩ := tkC_of q
    obtain ⟨rfl, q2⟩ := skE_of q1
    exact WK_less (k16 _ _ q2) (List.forall_mem_cons.mpr ⟨m0, (fun _ h => absurd h List.not_mem_nil)⟩)
  · intro l st h q
    obtain ⟨m0, q1⟩ := tkC_of q
    obtain ⟨rfl, q2⟩ := skE_of q1
    exact WK_less (k36 _ _ q2) (List.forall_mem_cons.mpr ⟨m0, (fun _ h => absurd h List.not_mem_nil)⟩)
  · intro l st h q
    obtain ⟨m0, q1⟩ := tkC_of q
    obtain ⟨x3, m3, q2⟩ := tkI_of q1
    obtain ⟨rfl, q3⟩ := skE_of q2
    exact WK_less (k77 _ _ _ q3) (List.forall_mem_cons.mpr ⟨m0, (List.forall_mem_cons.mpr ⟨m3, (fun _ h => absurd h List.not_mem_nil)⟩)⟩)
def nX12_parcel (x1 : Int) (x2 : Int) (x3 : Int) (h : HH) : Option (Int × HH) := bX12_parcel nX12_isPlace nX12_in nX12_refuse nX12_parcel_16 nX12_parcel_36 nX12_parcel_77 x1 x2 x3 h
theorem wX12_parcel {g : SG} (hg : GOK g) {σ0 : SG} : ∀ {x1 : Int} {x2 : Int} {x3 : Int} {h : HH} {b : (Int × HH)}, nX12_parcel x1 x2 x3 h = some b → WK 189 (.inl (some (aI b.1))) σ0 (abH 71 119 g b.2) 0 [(0, aR 71), (1, aI x1), (2, aI x2), (3, aI x3)] [] (abH 71 119 g h) 0 0 := by
  intro x1 x2 x3 h b q
  exact uX12_parcel hg (fun _ _ q => wX12_parcel_16 hg q) (fun _ _ q => wX12_parcel_36 hg q) (fun _ _ _ q => wX12_parcel_77 hg q) q
theorem mX12_parcel {g : SG} (hg : GOK g) {h : HH} {x1 : Int} {x2 : Int} {x3 : Int} {b : (Int × HH)} (q : nX12_parcel x1 x2 x3 h = some b) : MCT 189 [] [aR 71, aI x1, aI x2, aI x3] (abH 71 119 g h) (.inl (some (aI b.1))) (abH 71 119 g b.2) :=
  mct_of (by decide) (MFok 189 (by decide +kernel)) (fun _ => Nat.le_of_ble_eq_true rfl) (wX12_parcel hg q)
def pX12_parcel {β : Type} (z : Int → Int → Int → HH → Option (Int × HH)) : PW β := fun as h f => skC 71 as fun as => skI as fun x1 as => skI as fun x2 as => skI as fun x3 as => skE as (bnd (z x1 x2 x3 h) fun r => f (.inl (some (aI r.1))) r.2)
theorem pX12_parcel_ok {β : Type} {g : SG} (hg : GOK g) : CW1 (β := β) 189 (pX12_parcel nX12_parcel) 71 119 g := fun as h f b q => by
  obtain ⟨as, rfl, q1⟩ := skC_of q
  obtain ⟨x1, as, rfl, q2⟩ := skI_of q1
  obtain ⟨x2, as, rfl, q3⟩ := skI_of q2
  obtain ⟨x3, as, rfl, q4⟩ := skI_of q3
  obtain ⟨rfl, q0⟩ := skE_of q4
  obtain ⟨r, z1, z2⟩ := bnd_of q0
  exact ⟨_, _, z2, by decide, mX12_parcel hg z1, rfl, rfl, fun z => absurd z (by decide)⟩
def csX12_window : List (Nat × List (Nat × ARow)) := [(48, [(0, 1, .aload_n 0, 0, 0, 0), (1, 1, .iload_n 1, 0, 0, 0), (2, 3, .invokevirtual 220, 175, 2, 12), (5, 3, .ifCond .ne 9, 14, 0, 0), (8, 1, .aload_n 0, 0, 0, 0), (9, 1, .iconst 1, 0, 0, 0), (10, 3, .invokevirtual 200, 177, 2, 12), (13, 1, .ireturn, 0, 0, 0), (14, 1, .iload_n 2, 0, 0, 0), (15, 1, .iconst 0, 0, 0, 0), (16, 3, .sipush 1439, 0, 0, 0), (19, 3, .invokestatic 178, 171, 3, 0), (22, 3, .ifCond .eq 25, 47, 0, 0), (25, 1, .iload_n 3, 0, 0, 0), (26, 1, .iload_n 2, 0, 0, 0), (27, 3, .sipush 1439, 0, 0, 0), (30, 3, .invokestatic 178, 171, 3, 0), (33, 3, .ifCond .eq 14, 47, 0, 0), (36, 2, .iload 4, 0, 0, 0), (38, 1, .iconst 0, 0, 0, 0), (39, 2, .bipush 60, 0, 0, 0), (41, 3, .invokestatic 178, 171, 3, 0), (44, 3, .ifCond .ne 9, 53, 0, 0), (47, 1, .aload_n 0, 0, 0, 0)]),
  (85, [(48, 1, .iconst 2, 0, 0, 0), (49, 3, .invokevirtual 200, 177, 2, 12), (52, 1, .ireturn, 0, 0, 0), (53, 1, .aload_n 0, 0, 0, 0), (54, 3, .getfield 64, 12, 20, 2), (57, 1, .iload_n 1, 0, 0, 0), (58, 1, .iaload, 0, 0, 0), (59, 1, .iconst (-1), 0, 0, 0), (60, 3, .if_icmp .eq 9, 69, 0, 0), (63, 1, .aload_n 0, 0, 0, 0), (64, 1, .iconst 3, 0, 0, 0), (65, 3, .invokevirtual 200, 177, 2, 12), (68, 1, .ireturn, 0, 0, 0), (69, 1, .aload_n 0, 0, 0, 0), (70, 3, .getfield 52, 12, 16, 2), (73, 1, .iload_n 1, 0, 0, 0), (74, 1, .iaload, 0, 0, 0), (75, 2, .istore 5, 0, 0, 0), (77, 1, .aload_n 0, 0, 0, 0), (78, 3, .getfield 46, 12, 14, 2), (81, 1, .iload_n 1, 0, 0, 0), (82, 1, .iload_n 2, 0, 0, 0), (83, 1, .iastore, 0, 0, 0), (84, 1, .aload_n 0, 0, 0, 0)]),
  (100000, [(85, 3, .getfield 49, 12, 15, 2), (88, 1, .iload_n 1, 0, 0, 0), (89, 1, .iload_n 3, 0, 0, 0), (90, 1, .iastore, 0, 0, 0), (91, 1, .aload_n 0, 0, 0, 0), (92, 3, .getfield 52, 12, 16, 2), (95, 1, .iload_n 1, 0, 0, 0), (96, 2, .iload 4, 0, 0, 0), (98, 1, .iastore, 0, 0, 0), (99, 1, .aload_n 0, 0, 0, 0), (100, 1, .iconst 0, 0, 0, 0), (101, 3, .putfield 223, 12, 30, 0), (104, 1, .aload_n 0, 0, 0, 0), (105, 2, .iload 5, 0, 0, 0), (107, 3, .invokevirtual 209, 178, 2, 12), (110, 1, .ireturn, 0, 0, 0)])]
theorem rwX12_window : rowsB (mB 190) (mO 190) (mX 190) (mIni 190) (mFr 190) (mLo 190) (mT 190) csX12_window = true := by decide +kernel
def bX12_window_47 (f177 : Int → HH → Option (Int × HH)) (h : HH) : Option (Int × HH) :=
  bnd (f177 2 h) fun r1 =>
    some (r1.1, r1.2)
theorem uX12_window_47 {g : SG} (hg : GOK g) {σ0 : SG} : ∀ {h : HH} {b : (Int × HH)}, bX12_window_47 nX12_refuse h = some b → WK 190 (.inl (some (aI b.1))) σ0 (abH 71 119 g b.2) 47 [(0, aR 71)] [] (abH 71 119 g h) 0 0 := by
  intro h b q
  have e : ∀ (f177 : Int → HH → Option (Int × HH)) , bX12_window_47 f177 h = segW 71 119 g.2.2.2.2 krWI (clC 177 (pX12_refuse f177) clN) csX12_window cuN 1000 47 [(0, aR 71)] [] h := fun _ => rfl
  rw [e nX12_refuse] at q
  clear e
  refine segW_wk (by decide) (by decide) hg rwX12_window (CLKW_C (pX12_refuse_ok hg) CLKW_N) krWI_ok ?_ q
  clear q
  exact ct_N
def nX12_window_47 (h : HH) : Option (Int × HH) := bX12_window_47 nX12_refuse h
theorem wX12_window_47 {g : SG} (hg : GOK g) {σ0 : SG} : ∀ {h : HH} {b : (Int × HH)}, nX12_window_47 h = some b → WK 190 (.inl (some (aI b.1))) σ0 (abH 71 119 g b.2) 47 [(0, aR 71)] [] (abH 71 119 g h) 0 0 := by
  intro h b q
  exact uX12_window_47 hg q
def bX12_window_69 (f178 : Int → HH → Option (Int × HH)) (x1 : Int) (x2 : Int) (x3 : Int) (x4 : Int) (h : HH) : Option (Int × HH) :=
  gd ((0 : Int) ≤ x1 ∧ x1 < (9 : Int)) <|
    gd ((0 : Int) ≤ x1 ∧ x1 < (9 : Int)) <|
    bnd (some (hI h 84 x1 x2)) fun h1 =>
    gd ((0 : Int) ≤ x1 ∧ x1 < (9 : Int)) <|
    bnd (some (hI h1 85 x1 x3)) fun h2 =>
    gd ((0 : Int) ≤ x1 ∧ x1 < (9 : Int)) <|
    bnd (some (hI h2 86 x1 x4)) fun h3 =>
    bnd (some (hI h3 71 30 0)) fun h4 =>
    bnd (f178 (h.1 86 x1) h4) fun r5 =>
    some (r5.1, r5.2)
set_option maxRecDepth 100000 in
theorem uX12_window_69 {g : SG} (hg : GOK g) {σ0 : SG} : ∀ {x1 : Int} {x2 : Int} {x3 : Int} {x4 : Int} {h : HH} {b : (Int × HH)}, bX12_window_69 nX12_told x1 x2 x3 x4 h = some b → WK 190 (.inl (some (aI b.1))) σ0 (abH 71 119 g b.2) 69 [(0, aR 71), (1, aI x1), (2, aI x2), (3, aI x3), (4, aI x4)] [] (abH 71 119 g h) 0 0 := by
  intro x1 x2 x3 x4 h b q
  have e : ∀ (f178 : Int → HH → Option (Int × HH)) , bX12_window_69 f178 x1 x2 x3 x4 h = segW 71 119 g.2.2.2.2 krWI (clC 178 (pX12_told f178) clN) csX12_window cuN 1000 69 [(0, aR 71), (1, aI x1), (2, aI x2), (3, aI x3), (4, aI x4)] [] h := fun _ => rfl
  rw [e nX12_told] at q
  clear e
  refine segW_wk (by decide) (by decide) hg rwX12_window (CLKW_C (pX12_told_ok hg) CLKW_N) krWI_ok ?_ q
  clear q
  exact ct_N
def nX12_window_69 (x1 : Int) (x2 : Int) (x3 : Int) (x4 : Int) (h : HH) : Option (Int × HH) := bX12_window_69 nX12_told x1 x2 x3 x4 h
theorem wX12_window_69 {g : SG} (hg : GOK g) {σ0 : SG} : ∀ {x1 : Int} {x2 : Int} {x3 : Int} {x4 : Int} {h : HH} {b : (Int × HH)}, nX12_window_69 x1 x2 x3 x4 h = some b → WK 190 (.inl (some (aI b.1))) σ0 (abH 71 119 g b.2) 69 [(0, aR 71), (1, aI x1), (2, aI x2), (3, aI x3), (4, aI x4)] [] (abH 71 119 g h) 0 0 := by
  intro x1 x2 x3 x4 h b q
  exact uX12_window_69 hg q
def bX12_window (f175 : HH → Int → Option Int) (f171 : HH → Int → Int → Int → Option Int) (f177 : Int → HH → Option (Int × HH)) (c47 : HH → Option (Int × HH)) (c69 : Int → Int → Int → Int → HH → Option (Int × HH)) (x1 : Int) (x2 : Int) (x3 : Int) (x4 : Int) (h : HH) : Option (Int × HH) :=
  bnd (f175 h x1) fun r1 =>
    if r1 = (0 : Int) then
    bnd (f177 1 h) fun r6 =>
    some (r6.1, r6.2)
  else
    bnd (f171 h x2 0 1439) fun r2 =>
    if r2 = (0 : Int) then
    c47 h
  else
    bnd (f171 h x3 x2 1439) fun r3 =>
    if r3 = (0 : Int) then
    c47 h
  else
    bnd (f171 h x4 0 60) fun r4 =>
    if r4 = (0 : Int) then
    c47 h
  else
    gd ((0 : Int) ≤ x1 ∧ x1 < (9 : Int)) <|
    if (h.1 90 x1) = ((-1) : Int) then
    c69 x1 x2 x3 x4 h
  else
    bnd (f177 3 h) fun r5 =>
    some (r5.1, r5.2)
set_option maxRecDepth 100000 in
theorem uX12_window {g : SG} (hg : GOK g) {σ0 : SG} {c47 : HH → Option (Int × HH)} {c69 : Int → Int → Int → Int → HH → Option (Int × HH)} (k47 : ∀ (h : HH) (b : (Int × HH)), c47 h = some b → WK 190 (.inl (some (aI b.1))) σ0 (abH 71 119 g b.2) 47 [(0, aR 71)] [] (abH 71 119 g h) 0 0) (k69 : ∀ (x1 : Int) (x2 : Int) (x3 : Int) (x4 : Int) (h : HH) (b : (Int × HH)), c69 x1 x2 x3 x4 h = some b → WK 190 (.inl (some (aI b.1))) σ0 (abH 71 119 g b.2) 69 [(0, aR 71), (1, aI x1), (2, aI x2), (3, aI x3), (4, aI x4)] [] (abH 71 119 g h) 0 0) : ∀ {x1 : Int} {x2 : Int} {x3 : Int} {x4 : Int} {h : HH} {b : (Int × HH)}, bX12_window nX12_isParcel nX12_in nX12_refuse c47 c69 x1 x2 x3 x4 h = some b → WK 190 (.inl (some (aI b.1))) σ0 (abH 71 119 g b.2) 0 [(0, aR 71), (1, aI x1), (2, aI x2), (3, aI x3), (4, aI x4)] [] (abH 71 119 g h) 0 0 := by
  intro x1 x2 x3 x4 h b q
  have e : ∀ (f175 : HH → Int → Option Int) (f171 : HH → Int → Int → Int → Option Int) (f177 : Int → HH → Option (Int × HH)) , bX12_window f175 f171 f177 c47 c69 x1 x2 x3 x4 h = segW 71 119 g.2.2.2.2 krWI (clC 175 (liPW (pX12_isParcel f175)) (clC 171 (liPW (pX12_in f171)) (clC 177 (pX12_refuse f177) clN))) csX12_window (cuC 47 (fun l st s => tkC 0 71 l <| skE st (c47 s)) (cuC 69 (fun l st s => tkC 0 71 l <| tkI 1 l fun x1 => tkI 2 l fun x2 => tkI 3 l fun x3 => tkI 4 l fun x4 => skE st (c69 x1 x2 x3 x4 s)) cuN)) 1000 0 [(0, aR 71), (1, aI x1), (2, aI x2), (3, aI x3), (4, aI x4)] [] h := fun _ _ _ => rfl
  rw [e nX12_isParcel nX12_in nX12_refuse] at q
  clear e
  refine segW_wk (by decide) (by decide) hg rwX12_window (CLKW_C (liPW_ok (pX12_isParcel_ok hg)) (CLKW_C (liPW_ok (pX12_in_ok hg)) (CLKW_C (pX12_refuse_ok hg) CLKW_N))) krWI_ok ?_ q
  clear q
  refine ct_C ?_ (ct_C ?_ (ct_N))
  · intro l st h q
    obtain ⟨m0, q1⟩ := tkC_of q
    obtain ⟨rfl, q2⟩ := skE_of q1
    exact WK_less (k47 _ _ q2) (List.forall_mem_cons.mpr ⟨m0, (fun _ h => absurd h List.not_mem_nil)⟩)
  · intro l st h q
    obtain ⟨m0, q1⟩ := tkC_of q
    obtain ⟨x1, m1, q2⟩ := tkI_of q1
    obtain ⟨x2, m2, q3⟩ := tkI_of q2
    obtain ⟨x3, m3, q4⟩ := tkI_of q3
    obtain ⟨x4, m4, q5⟩ := tkI_of q4
    obtain ⟨rfl, q6⟩ := skE_of q5
    exact WK_less (k69 _ _ _ _ _ _ q6) (List.forall_mem_cons.mpr ⟨m0, (List.forall_mem_cons.mpr ⟨m1, (List.forall_mem_cons.mpr ⟨m2, (List.forall_mem_cons.mpr ⟨m3, (List.forall_mem_cons.mpr ⟨m4, (fun _ h => absurd h List.not_mem_nil)⟩)⟩)⟩)⟩)⟩)
def nX12_window (x1 : Int) (x2 : Int) (x3 : Int) (x4 : Int) (h : HH) : Option (Int × HH) := bX12_window nX12_isParcel nX12_in nX12_refuse nX12_window_47 nX12_window_69 x1 x2 x3 x4 h
theorem wX12_window {g : SG} (hg : GOK g) {σ0 : SG} : ∀ {x1 : Int} {x2 : Int} {x3 : Int} {x4 : Int} {h : HH} {b : (Int × HH)}, nX12_window x1 x2 x3 x4 h = some b → WK 190 (.inl (some (aI b.1))) σ0 (abH 71 119 g b.2) 0 [(0, aR 71), (1, aI x1), (2, aI x2), (3, aI x3), (4, aI x4)] [] (abH 71 119 g h) 0 0 := by
  intro x1 x2 x3 x4 h b q
  exact uX12_window hg (fun _ _ q => wX12_window_47 hg q) (fun _ _ _ _ _ _ q => wX12_window_69 hg q) q
theorem mX12_window {g : SG} (hg : GOK g) {h : HH} {x1 : Int} {x2 : Int} {x3 : Int} {x4 : Int} {b : (Int × HH)} (q : nX12_window x1 x2 x3 x4 h = some b) : MCT 190 [] [aR 71, aI x1, aI x2, aI x3, aI x4] (abH 71 119 g h) (.inl (some (aI b.1))) (abH 71 119 g b.2) :=
  mct_of (by decide) (MFok 190 (by decide +kernel)) (fun _ => Nat.le_of_ble_eq_true rfl) (wX12_window hg q)
def pX12_window {β : Type} (z : Int → Int → Int → Int → HH → Option (Int × HH)) : PW β := fun as h f => skC 71 as fun as => skI as fun x1 as => skI as fun x2 as => skI as fun x3 as => skI as fun x4 as => skE as (bnd (z x1 x2 x3 x4 h) fun r => f (.inl (some (aI r.1))) r.2)
theorem pX12_window_ok {β : Type} {g : SG} (hg : GOK g) : CW1 (β := β) 190 (pX12_window nX12_window) 71 119 g := fun as h f b q => by
  obtain ⟨as, rfl, q1⟩ := skC_of q
  obtain ⟨x1, as, rfl, q2⟩ := skI_of q1
  obtain ⟨x2, as, rfl, q3⟩ := skI_of q2
  obtain ⟨x3, as, rfl, q4⟩ := skI_of q3
  obtain ⟨x4, as, rfl, q5⟩ := skI_of q4
  obtain ⟨rfl, q0⟩ := skE_of q5
  obtain ⟨r, z1, z2⟩ := bnd_of q0
  exact ⟨_, _, z2, by decide, mX12_window hg z1, rfl, rfl, fun z => absurd z (by decide)⟩
def csX12_van : List (Nat × List (Nat × ARow)) := [(48, [(0, 1, .iload_n 1, 0, 0, 0), (1, 1, .iconst 1, 0, 0, 0), (2, 3, .sipush 900, 0, 0, 0), (5, 3, .invokestatic 178, 171, 3, 0), (8, 3, .ifCond .eq 25, 33, 0, 0), (11, 1, .iload_n 2, 0, 0, 0), (12, 1, .iconst 0, 0, 0, 0), (13, 3, .sipush 1439, 0, 0, 0), (16, 3, .invokestatic 178, 171, 3, 0), (19, 3, .ifCond .eq 14, 33, 0, 0), (22, 1, .iload_n 3, 0, 0, 0), (23, 1, .iload_n 2, 0, 0, 0), (24, 3, .sipush 2000, 0, 0, 0), (27, 3, .invokestatic 178, 171, 3, 0), (30, 3, .ifCond .ne 9, 39, 0, 0), (33, 1, .aload_n 0, 0, 0, 0), (34, 1, .iconst 1, 0, 0, 0), (35, 3, .invokevirtual 200, 177, 2, 12), (38, 1, .ireturn, 0, 0, 0), (39, 1, .aload_n 0, 0, 0, 0), (40, 3, .getfield 185, 12, 27, 0), (43, 1, .iconst 3, 0, 0, 0), (44, 3, .if_icmp .ne 9, 53, 0, 0), (47, 1, .aload_n 0, 0, 0, 0)]),
  (88, [(48, 1, .iconst 2, 0, 0, 0), (49, 3, .invokevirtual 200, 177, 2, 12), (52, 1, .ireturn, 0, 0, 0), (53, 1, .aload_n 0, 0, 0, 0), (54, 3, .getfield 67, 12, 22, 2), (57, 1, .aload_n 0, 0, 0, 0), (58, 3, .getfield 185, 12, 27, 0), (61, 1, .iload_n 1, 0, 0, 0), (62, 1, .iastore, 0, 0, 0), (63, 1, .aload_n 0, 0, 0, 0), (64, 3, .getfield 70, 12, 23, 2), (67, 1, .aload_n 0, 0, 0, 0), (68, 3, .getfield 185, 12, 27, 0), (71, 1, .iload_n 2, 0, 0, 0), (72, 1, .iastore, 0, 0, 0), (73, 1, .aload_n 0, 0, 0, 0), (74, 3, .getfield 73, 12, 24, 2), (77, 1, .aload_n 0, 0, 0, 0), (78, 3, .getfield 185, 12, 27, 0), (81, 1, .iload_n 3, 0, 0, 0), (82, 1, .iastore, 0, 0, 0), (83, 1, .aload_n 0, 0, 0, 0), (84, 1, .dup, 0, 0, 0), (85, 3, .getfield 185, 12, 27, 0)]),
  (100000, [(88, 1, .iconst 1, 0, 0, 0), (89, 1, .iadd, 0, 0, 0), (90, 3, .putfield 185, 12, 27, 0), (93, 1, .aload_n 0, 0, 0, 0), (94, 1, .aload_n 0, 0, 0, 0), (95, 3, .getfield 185, 12, 27, 0), (98, 1, .iconst 1, 0, 0, 0), (99, 1, .isub, 0, 0, 0), (100, 3, .invokevirtual 209, 178, 2, 12), (103, 1, .ireturn, 0, 0, 0)])]
theorem rwX12_van : rowsB (mB 191) (mO 191) (mX 191) (mIni 191) (mFr 191) (mLo 191) (mT 191) csX12_van = true := by decide +kernel
def bX12_van_33 (f177 : Int → HH → Option (Int × HH)) (h : HH) : Option (Int × HH) :=
  bnd (f177 1 h) fun r1 =>
    some (r1.1, r1.2)
theorem uX12_van_33 {g : SG} (hg : GOK g) {σ0 : SG} : ∀ {h : HH} {b : (Int × HH)}, bX12_van_33 nX12_refuse h = some b → WK 191 (.inl (some (aI b.1))) σ0 (abH 71 119 g b.2) 33 [(0, aR 71)] [] (abH 71 119 g h) 0 0 := by
  intro h b q
  have e : ∀ (f177 : Int → HH → Option (Int × HH)) , bX12_van_33 f177 h = segW 71 119 g.2.2.2.2 krWI (clC 177 (pX12_refuse f177) clN) csX12_van cuN 1000 33 [(0, aR 71)] [] h := fun _ => rfl
  rw [e nX12_refuse] at q
  clear e
  refine segW_wk (by decide) (by decide) hg rwX12_van (CLKW_C (pX12_refuse_ok hg) CLKW_N) krWI_ok ?_ q
  clear q
  exact ct_N
def nX12_van_33 (h : HH) : Option (Int × HH) := bX12_van_33 nX12_refuse h
theorem wX12_van_33 {g : SG} (hg : GOK g) {σ0 : SG} : ∀ {h : HH} {b : (Int × HH)}, nX12_van_33 h = some b → WK 191 (.inl (some (aI b.1))) σ0 (abH 71 119 g b.2) 33 [(0, aR 71)] [] (abH 71 119 g h) 0 0 := by
  intro h b q
  exact uX12_van_33 hg q
def bX12_van (f171 : HH → Int → Int → Int → Option Int) (f178 : Int → HH → Option (Int × HH)) (f177 : Int → HH → Option (Int × HH)) (c33 : HH → Option (Int × HH)) (x1 : Int) (x2 : Int) (x3 : Int) (h : HH) : Option (Int × HH) :=
  bnd (f171 h x1 1 900) fun r1 =>
    if r1 = (0 : Int) then
    c33 h
  else
    bnd (f171 h x2 0 1439) fun r2 =>
    if r2 = (0 : Int) then
    c33 h
  else
    bnd (f171 h x3 x2 2000) fun r3 =>
    if r3 = (0 : Int) then
    c33 h
  else
    if (h.1 71 27) = (3 : Int) then
    bnd (f177 2 h) fun r9 =>
    some (r9.1, r9.2)
  else
    gd ((0 : Int) ≤ (h.1 71 27) ∧ (h.1 71 27) < (3 : Int)) <|
    bnd (some (hI h 91 (h.1 71 27) x1)) fun h4 =>
    gd ((0 : Int) ≤ (h4.1 71 27) ∧ (h4.1 71 27) < (3 : Int)) <|
    bnd (some (hI h4 92 (h4.1 71 27) x2)) fun h5 =>
    gd ((0 : Int) ≤ (h5.1 71 27) ∧ (h5.1 71 27) < (3 : Int)) <|
    bnd (some (hI h5 93 (h5.1 71 27) x3)) fun h6 =>
    gd (R32 ((h6.1 71 27) + 1)) <|
    bnd (some (hI h6 71 27 ((h6.1 71 27) + 1))) fun h7 =>
    gd (R32 ((h7.1 71 27) - 1)) <|
    bnd (f178 ((h7.1 71 27) - 1) h7) fun r8 =>
    some (r8.1, r8.2)
set_option maxRecDepth 100000 in
theorem uX12_van {g : SG} (hg : GOK g) {σ0 : SG} {c33 : HH → Option (Int × HH)} (k33 : ∀ (h : HH) (b : (Int × HH)), c33 h = some b → WK 191 (.inl (some (aI b.1))) σ0 (abH 71 119 g b.2) 33 [(0, aR 71)] [] (abH 71 119 g h) 0 0) : ∀ {x1 : Int} {x2 : Int} {x3 : Int} {h : HH} {b : (Int × HH)}, bX12_van nX12_in nX12_told nX12_refuse c33 x1 x2 x3 h = some b → WK 191 (.inl (some (aI b.1))) σ0 (abH 71 119 g b.2) 0 [(0, aR 71), (1, aI x1), (2, aI x2), (3, aI x3)] [] (abH 71 119 g h) 0 0 := by
  intro x1 x2 x3 h b q
  have e : ∀ (f171 : HH → Int → Int → Int → Option Int) (f178 : Int → HH → Option (Int × HH)) (f177 : Int → HH → Option (Int × HH)) , bX12_van f171 f178 f177 c33 x1 x2 x3 h = segW 71 119 g.2.2.2.2 krWI (clC 171 (liPW (pX12_in f171)) (clC 178 (pX12_told f178) (clC 177 (pX12_refuse f177) clN))) csX12_van (cuC 33 (fun l st s => tkC 0 71 l <| skE st (c33 s)) cuN) 1000 0 [(0, aR 71), (1, aI x1), (2, aI x2), (3, aI x3)] [] h := fun _ _ _ => rfl
  rw [e nX12_in nX12_told nX12_refuse] at q
  clear e
  refine segW_wk (by decide) (by decide) hg rwX12_van (CLKW_C (liPW_ok (pX12_in_ok hg)) (CLKW_C (pX12_told_ok hg) (CLKW_C (pX12_refuse_ok hg) CLKW_N))) krWI_ok ?_ q
  clear q
  refine ct_C ?_ (ct_N)
  · intro l st h q
    obtain ⟨m0, q1⟩ := tkC_of q
    obtain ⟨rfl, q2⟩ := skE_of q1
    exact WK_less (k33 _ _ q2) (List.forall_mem_cons.mpr ⟨m0, (fun _ h => absurd h List.not_mem_nil)⟩)
def nX12_van (x1 : Int) (x2 : Int) (x3 : Int) (h : HH) : Option (Int × HH) := bX12_van nX12_in nX12_told nX12_refuse nX12_van_33 x1 x2 x3 h
theorem wX12_van {g : SG} (hg : GOK g) {σ0 : SG} : ∀ {x1 : Int} {x2 : Int} {x3 : Int} {h : HH} {b : (Int × HH)}, nX12_van x1 x2 x3 h = some b → WK 191 (.inl (some (aI b.1))) σ0 (abH 71 119 g b.2) 0 [(0, aR 71), (1, aI x1), (2, aI x2), (3, aI x3)] [] (abH 71 119 g h) 0 0 := by
  intro x1 x2 x3 h b q
  exact uX12_van hg (fun _ _ q => wX12_van_33 hg q) q
theorem mX12_van {g : SG} (hg : GOK g) {h : HH} {x1 : Int} {x2 : Int} {x3 : Int} {b : (Int × HH)} (q : nX12_van x1 x2 x3 h = some b) : MCT 191 [] [aR 71, aI x1, aI x2, aI x3] (abH 71 119 g h) (.inl (some (aI b.1))) (abH 71 119 g b.2) :=
  mct_of (by decide) (MFok 191 (by decide +kernel)) (fun _ => Nat.le_of_ble_eq_true rfl) (wX12_van hg q)
def pX12_van {β : Type} (z : Int → Int → Int → HH → Option (Int × HH)) : PW β := fun as h f => skC 71 as fun as => skI as fun x1 as => skI as fun x2 as => skI as fun x3 as => skE as (bnd (z x1 x2 x3 h) fun r => f (.inl (some (aI r.1))) r.2)
theorem pX12_van_ok {β : Type} {g : SG} (hg : GOK g) : CW1 (β := β) 191 (pX12_van nX12_van) 71 119 g := fun as h f b q => by
  obtain ⟨as, rfl, q1⟩ := skC_of q
  obtain ⟨x1, as, rfl, q2⟩ := skI_of q1
  obtain ⟨x2, as, rfl, q3⟩ := skI_of q2
  obtain ⟨x3, as, rfl, q4⟩ := skI_of q3
  obtain ⟨rfl, q0⟩ := skE_of q4
  obtain ⟨r, z1, z2⟩ := bnd_of q0
  exact ⟨_, _, z2, by decide, mX12_van hg z1, rfl, rfl, fun z => absurd z (by decide)⟩
def csX12_drives : List (Nat × List (Nat × ARow)) := [(37, [(0, 1, .aload_n 0, 0, 0, 0), (1, 1, .iconst 0, 0, 0, 0), (2, 3, .putfield 226, 12, 53, 0), (5, 1, .aload_n 0, 0, 0, 0), (6, 1, .iconst 0, 0, 0, 0), (7, 3, .putfield 229, 12, 54, 0), (10, 1, .aload_n 0, 0, 0, 0), (11, 1, .iconst 0, 0, 0, 0), (12, 3, .putfield 232, 12, 55, 0), (15, 1, .aload_n 0, 0, 0, 0), (16, 1, .iconst 0, 0, 0, 0), (17, 3, .putfield 235, 12, 56, 0), (20, 1, .aload_n 0, 0, 0, 0), (21, 1, .iconst 0, 0, 0, 0), (22, 3, .putfield 238, 12, 57, 0), (25, 1, .aload_n 0, 0, 0, 0), (26, 3, .getfield 70, 12, 23, 2), (29, 1, .iload_n 1, 0, 0, 0), (30, 1, .iaload, 0, 0, 0), (31, 1, .istore_n 2, 0, 0, 0), (32, 1, .iconst 0, 0, 0, 0), (33, 1, .istore_n 3, 0, 0, 0), (34, 1, .iconst 0, 0, 0, 0), (35, 2, .istore 4, 0, 0, 0)]),
  (84, [(37, 2, .iload 4, 0, 0, 0), (39, 1, .aload_n 0, 0, 0, 0), (40, 3, .getfield 241, 12, 51, 0), (43, 3, .if_icmp .gt 224, 267, 0, 0), (46, 1, .aload_n 0, 0, 0, 0), (47, 3, .getfield 241, 12, 51, 0), (50, 3, .ifCond .le 217, 267, 0, 0), (53, 2, .iload 4, 0, 0, 0), (55, 1, .aload_n 0, 0, 0, 0), (56, 3, .getfield 241, 12, 51, 0), (59, 3, .if_icmp .ge 18, 77, 0, 0), (62, 1, .aload_n 0, 0, 0, 0), (63, 3, .getfield 37, 12, 11, 2), (66, 1, .aload_n 0, 0, 0, 0), (67, 3, .getfield 127, 12, 47, 2), (70, 2, .iload 4, 0, 0, 0), (72, 1, .iaload, 0, 0, 0), (73, 1, .iaload, 0, 0, 0), (74, 3, .goto 4, 78, 0, 0), (77, 1, .iconst 0, 0, 0, 0), (78, 2, .istore 5, 0, 0, 0), (80, 1, .aload_n 0, 0, 0, 0), (81, 1, .iload_n 3, 0, 0, 0), (82, 2, .iload 5, 0, 0, 0)]),
  (125, [(84, 3, .invokevirtual 244, 181, 3, 12), (87, 2, .ldc 188, 1000000000, 0, 0), (89, 3, .if_icmp .ne 5, 94, 0, 0), (92, 1, .iconst (-1), 0, 0, 0), (93, 1, .ireturn, 0, 0, 0), (94, 1, .iload_n 2, 0, 0, 0), (95, 1, .aload_n 0, 0, 0, 0), (96, 1, .iload_n 3, 0, 0, 0), (97, 2, .iload 5, 0, 0, 0), (99, 3, .invokevirtual 244, 181, 3, 12), (102, 1, .iadd, 0, 0, 0), (103, 1, .istore_n 2, 0, 0, 0), (104, 1, .aload_n 0, 0, 0, 0), (105, 1, .dup, 0, 0, 0), (106, 3, .getfield 226, 12, 53, 0), (109, 1, .aload_n 0, 0, 0, 0), (110, 1, .iload_n 3, 0, 0, 0), (111, 2, .iload 5, 0, 0, 0), (113, 3, .invokevirtual 244, 181, 3, 12), (116, 1, .iadd, 0, 0, 0), (117, 3, .putfield 226, 12, 53, 0), (120, 1, .aload_n 0, 0, 0, 0), (121, 1, .dup, 0, 0, 0), (122, 3, .getfield 232, 12, 55, 0)]),
  (164, [(125, 1, .aload_n 0, 0, 0, 0), (126, 3, .getfield 31, 12, 7, 2), (129, 2, .bipush 16, 0, 0, 0), (131, 1, .iload_n 3, 0, 0, 0), (132, 1, .imul, 0, 0, 0), (133, 2, .iload 5, 0, 0, 0), (135, 1, .iadd, 0, 0, 0), (136, 1, .iaload, 0, 0, 0), (137, 1, .iadd, 0, 0, 0), (138, 3, .putfield 232, 12, 55, 0), (141, 1, .aload_n 0, 0, 0, 0), (142, 1, .dup, 0, 0, 0), (143, 3, .getfield 235, 12, 56, 0), (146, 1, .aload_n 0, 0, 0, 0), (147, 3, .getfield 34, 12, 8, 2), (150, 2, .bipush 16, 0, 0, 0), (152, 1, .iload_n 3, 0, 0, 0), (153, 1, .imul, 0, 0, 0), (154, 2, .iload 5, 0, 0, 0), (156, 1, .iadd, 0, 0, 0), (157, 1, .iaload, 0, 0, 0), (158, 1, .iadd, 0, 0, 0), (159, 3, .putfield 235, 12, 56, 0), (162, 2, .iload 5, 0, 0, 0)]),
  (204, [(164, 1, .istore_n 3, 0, 0, 0), (165, 2, .iload 4, 0, 0, 0), (167, 1, .aload_n 0, 0, 0, 0), (168, 3, .getfield 241, 12, 51, 0), (171, 3, .if_icmp .ge 90, 261, 0, 0), (174, 1, .aload_n 0, 0, 0, 0), (175, 3, .getfield 127, 12, 47, 2), (178, 2, .iload 4, 0, 0, 0), (180, 1, .iaload, 0, 0, 0), (181, 2, .istore 6, 0, 0, 0), (183, 1, .iconst 0, 0, 0, 0), (184, 1, .aload_n 0, 0, 0, 0), (185, 3, .getfield 46, 12, 14, 2), (188, 2, .iload 6, 0, 0, 0), (190, 1, .iaload, 0, 0, 0), (191, 1, .iload_n 2, 0, 0, 0), (192, 1, .isub, 0, 0, 0), (193, 3, .invokestatic 247, 173, 2, 0), (196, 2, .istore 7, 0, 0, 0), (198, 1, .iload_n 2, 0, 0, 0), (199, 2, .iload 7, 0, 0, 0), (201, 1, .iadd, 0, 0, 0), (202, 1, .istore_n 2, 0, 0, 0), (203, 1, .aload_n 0, 0, 0, 0)]),
  (244, [(204, 1, .dup, 0, 0, 0), (205, 3, .getfield 229, 12, 54, 0), (208, 2, .iload 7, 0, 0, 0), (210, 1, .iadd, 0, 0, 0), (211, 3, .putfield 229, 12, 54, 0), (214, 1, .iload_n 2, 0, 0, 0), (215, 1, .aload_n 0, 0, 0, 0), (216, 3, .getfield 49, 12, 15, 2), (219, 2, .iload 6, 0, 0, 0), (221, 1, .iaload, 0, 0, 0), (222, 3, .if_icmp .le 5, 227, 0, 0), (225, 1, .iconst (-1), 0, 0, 0), (226, 1, .ireturn, 0, 0, 0), (227, 1, .aload_n 0, 0, 0, 0), (228, 3, .getfield 136, 12, 50, 2), (231, 2, .iload 6, 0, 0, 0), (233, 1, .iload_n 2, 0, 0, 0), (234, 1, .iastore, 0, 0, 0), (235, 1, .iload_n 2, 0, 0, 0), (236, 1, .aload_n 0, 0, 0, 0), (237, 3, .getfield 52, 12, 16, 2), (240, 2, .iload 6, 0, 0, 0), (242, 1, .iaload, 0, 0, 0), (243, 1, .iadd, 0, 0, 0)]),
  (287, [(244, 1, .istore_n 2, 0, 0, 0), (245, 1, .aload_n 0, 0, 0, 0), (246, 1, .dup, 0, 0, 0), (247, 3, .getfield 238, 12, 57, 0), (250, 1, .aload_n 0, 0, 0, 0), (251, 3, .getfield 40, 12, 12, 2), (254, 2, .iload 6, 0, 0, 0), (256, 1, .iaload, 0, 0, 0), (257, 1, .iadd, 0, 0, 0), (258, 3, .putfield 238, 12, 57, 0), (261, 3, .iinc 4 1, 0, 0, 0), (264, 3, .goto (-227), 37, 0, 0), (267, 1, .iload_n 2, 0, 0, 0), (268, 1, .aload_n 0, 0, 0, 0), (269, 3, .getfield 73, 12, 24, 2), (272, 1, .iload_n 1, 0, 0, 0), (273, 1, .iaload, 0, 0, 0), (274, 3, .if_icmp .gt 16, 290, 0, 0), (277, 1, .aload_n 0, 0, 0, 0), (278, 3, .getfield 238, 12, 57, 0), (281, 1, .aload_n 0, 0, 0, 0), (282, 3, .getfield 67, 12, 22, 2), (285, 1, .iload_n 1, 0, 0, 0), (286, 1, .iaload, 0, 0, 0)]),
  (100000, [(287, 3, .if_icmp .le 7, 294, 0, 0), (290, 1, .iconst (-1), 0, 0, 0), (291, 3, .goto 11, 302, 0, 0), (294, 1, .iload_n 2, 0, 0, 0), (295, 1, .aload_n 0, 0, 0, 0), (296, 3, .getfield 70, 12, 23, 2), (299, 1, .iload_n 1, 0, 0, 0), (300, 1, .iaload, 0, 0, 0), (301, 1, .isub, 0, 0, 0), (302, 1, .ireturn, 0, 0, 0)])]
theorem rwX12_drives : rowsB (mB 192) (mO 192) (mX 192) (mIni 192) (mFr 192) (mLo 192) (mT 192) csX12_drives = true := by decide +kernel
def bX12_drives_267 (x1 : Int) (x2 : Int) (h : HH) : Option (Int × HH) :=
  gd ((0 : Int) ≤ x1 ∧ x1 < (3 : Int)) <|
    if ((h.1 93 x1) : Int) < x2 then
    some ((-1), h)
  else
    gd ((0 : Int) ≤ x1 ∧ x1 < (3 : Int)) <|
    if ((h.1 91 x1) : Int) < (h.1 71 57) then
    some ((-1), h)
  else
    gd ((0 : Int) ≤ x1 ∧ x1 < (3 : Int)) <|
    gd (R32 (x2 - (h.1 92 x1))) <|
    some ((x2 - (h.1 92 x1)), h)
set_option maxRecDepth 100000 in
theorem uX12_drives_267 {g : SG} (hg : GOK g) {σ0 : SG} : ∀ {x1 : Int} {x2 : Int} {h : HH} {b : (Int × HH)}, bX12_drives_267 x1 x2 h = some b → WK 192 (.inl (some (aI b.1))) σ0 (abH 71 119 g b.2) 267 [(0, aR 71), (1, aI x1), (2, aI x2)] [] (abH 71 119 g h) 0 0 := by
  intro x1 x2 h b q
  have e : bX12_drives_267 x1 x2 h = segW 71 119 g.2.2.2.2 krWI clN csX12_drives cuN 1000 267 [(0, aR 71), (1, aI x1), (2, aI x2)] [] h := rfl
  rw [e] at q
  clear e
  refine segW_wk (by decide) (by decide) hg rwX12_drives CLKW_N krWI_ok ?_ q
  clear q
  exact ct_N
def nX12_drives_267 (x1 : Int) (x2 : Int) (h : HH) : Option (Int × HH) := bX12_drives_267 x1 x2 h
theorem wX12_drives_267 {g : SG} (hg : GOK g) {σ0 : SG} : ∀ {x1 : Int} {x2 : Int} {h : HH} {b : (Int × HH)}, nX12_drives_267 x1 x2 h = some b → WK 192 (.inl (some (aI b.1))) σ0 (abH 71 119 g b.2) 267 [(0, aR 71), (1, aI x1), (2, aI x2)] [] (abH 71 119 g h) 0 0 := by
  intro x1 x2 h b q
  exact uX12_drives_267 hg q
def bX12_drives_261 (c37 : Int → Int → Int → Int → HH → Option (Int × HH)) (x1 : Int) (x2 : Int) (x3 : Int) (x4 : Int) (h : HH) : Option (Int × HH) :=
  gd (R32 (x4 + 1)) <|
    c37 x1 x2 x3 (x4 + 1) h
theorem uX12_drives_261 {g : SG} (hg : GOK g) {σ0 : SG} {c37 : Int → Int → Int → Int → HH → Option (Int × HH)} (k37 : ∀ (x1 : Int) (x2 : Int) (x3 : Int) (x4 : Int) (h : HH) (b : (Int × HH)), c37 x1 x2 x3 x4 h = some b → WK 192 (.inl (some (aI b.1))) σ0 (abH 71 119 g b.2) 37 [(0, aR 71), (1, aI x1), (2, aI x2), (3, aI x3), (4, aI x4)] [] (abH 71 119 g h) 0 0) : ∀ {x1 : Int} {x2 : Int} {x3 : Int} {x4 : Int} {h : HH} {b : (Int × HH)}, bX12_drives_261 c37 x1 x2 x3 x4 h = some b → WK 192 (.inl (some (aI b.1))) σ0 (abH 71 119 g b.2) 261 [(0, aR 71), (1, aI x1), (2, aI x2), (3, aI x3), (4, aI x4)] [] (abH 71 119 g h) 0 0 := by
  intro x1 x2 x3 x4 h b q
  have e : bX12_drives_261 c37 x1 x2 x3 x4 h = segW 71 119 g.2.2.2.2 krWI clN csX12_drives (cuC 37 (fun l st s => tkC 0 71 l <| tkI 1 l fun x1 => tkI 2 l fun x2 => tkI 3 l fun x3 => tkI 4 l fun x4 => skE st (c37 x1 x2 x3 x4 s)) cuN) 1000 261 [(0, aR 71), (1, aI x1), (2, aI x2), (3, aI x3), (4, aI x4)] [] h := rfl
  rw [e] at q
  clear e
  refine segW_wk (by decide) (by decide) hg rwX12_drives CLKW_N krWI_ok ?_ q
  clear q
  refine ct_C ?_ (ct_N)
  · intro l st h q
    obtain ⟨m0, q1⟩ := tkC_of q
    obtain ⟨x1, m1, q2⟩ := tkI_of q1
    obtain ⟨x2, m2, q3⟩ := tkI_of q2
    obtain ⟨x3, m3, q4⟩ := tkI_of q3
    obtain ⟨x4, m4, q5⟩ := tkI_of q4
    obtain ⟨rfl, q6⟩ := skE_of q5
    exact WK_less (k37 _ _ _ _ _ _ q6) (List.forall_mem_cons.mpr ⟨m0, (List.forall_mem_cons.mpr ⟨m1, (List.forall_mem_cons.mpr ⟨m2, (List.forall_mem_cons.mpr ⟨m3, (List.forall_mem_cons.mpr ⟨m4, (fun _ h => absurd h List.not_mem_nil)⟩)⟩)⟩)⟩)⟩)
def nX12_drives_261 (c37 : Int → Int → Int → Int → HH → Option (Int × HH)) (x1 : Int) (x2 : Int) (x3 : Int) (x4 : Int) (h : HH) : Option (Int × HH) := bX12_drives_261 c37 x1 x2 x3 x4 h
theorem wX12_drives_261 {g : SG} (hg : GOK g) {σ0 : SG} {c37 : Int → Int → Int → Int → HH → Option (Int × HH)} (k37 : ∀ (x1 : Int) (x2 : Int) (x3 : Int) (x4 : Int) (h : HH) (b : (Int × HH)), c37 x1 x2 x3 x4 h = some b → WK 192 (.inl (some (aI b.1))) σ0 (abH 71 119 g b.2) 37 [(0, aR 71), (1, aI x1), (2, aI x2), (3, aI x3), (4, aI x4)] [] (abH 71 119 g h) 0 0) : ∀ {x1 : Int} {x2 : Int} {x3 : Int} {x4 : Int} {h : HH} {b : (Int × HH)}, nX12_drives_261 c37 x1 x2 x3 x4 h = some b → WK 192 (.inl (some (aI b.1))) σ0 (abH 71 119 g b.2) 261 [(0, aR 71), (1, aI x1), (2, aI x2), (3, aI x3), (4, aI x4)] [] (abH 71 119 g h) 0 0 := by
  intro x1 x2 x3 x4 h b q
  exact uX12_drives_261 hg k37 q
def bX12_drives_214 (c261 : Int → Int → Int → Int → HH → Option (Int × HH)) (x1 : Int) (x2 : Int) (x3 : Int) (x4 : Int) (x6 : Int) (h : HH) : Option (Int × HH) :=
  gd ((0 : Int) ≤ x6 ∧ x6 < (9 : Int)) <|
    if ((h.1 85 x6) : Int) < x2 then
    some ((-1), h)
  else
    gd ((0 : Int) ≤ x6 ∧ x6 < (9 : Int)) <|
    bnd (some (hI h 108 x6 x2)) fun h1 =>
    gd ((0 : Int) ≤ x6 ∧ x6 < (9 : Int)) <|
    gd (R32 (x2 + (h1.1 86 x6))) <|
    gd ((0 : Int) ≤ x6 ∧ x6 < (9 : Int)) <|
    gd (R32 ((h1.1 71 57) + (h1.1 82 x6))) <|
    bnd (some (hI h1 71 57 ((h1.1 71 57) + (h1.1 82 x6)))) fun h2 =>
    c261 x1 (x2 + (h1.1 86 x6)) x3 x4 h2
set_option maxRecDepth 100000 in
theorem uX12_drives_214 {g : SG} (hg : GOK g) {σ0 : SG} {c261 : Int → Int → Int → Int → HH → Option (Int × HH)} (k261 : ∀ (x1 : Int) (x2 : Int) (x3 : Int) (x4 : Int) (h : HH) (b : (Int × HH)), c261 x1 x2 x3 x4 h = some b → WK 192 (.inl (some (aI b.1))) σ0 (abH 71 119 g b.2) 261 [(0, aR 71), (1, aI x1), (2, aI x2), (3, aI x3), (4, aI x4)] [] (abH 71 119 g h) 0 0) : ∀ {x1 : Int} {x2 : Int} {x3 : Int} {x4 : Int} {x6 : Int} {h : HH} {b : (Int × HH)}, bX12_drives_214 c261 x1 x2 x3 x4 x6 h = some b → WK 192 (.inl (some (aI b.1))) σ0 (abH 71 119 g b.2) 214 [(0, aR 71), (1, aI x1), (2, aI x2), (3, aI x3), (4, aI x4), (6, aI x6)] [] (abH 71 119 g h) 0 0 := by
  intro x1 x2 x3 x4 x6 h b q
  have e : bX12_drives_214 c261 x1 x2 x3 x4 x6 h = segW 71 119 g.2.2.2.2 krWI clN csX12_drives (cuC 261 (fun l st s => tkC 0 71 l <| tkI 1 l fun x1 => tkI 2 l fun x2 => tkI 3 l fun x3 => tkI 4 l fun x4 => skE st (c261 x1 x2 x3 x4 s)) cuN) 1000 214 [(0, aR 71), (1, aI x1), (2, aI x2), (3, aI x3), (4, aI x4), (6, aI x6)] [] h := rfl
  rw [e] at q
  clear e
  refine segW_wk (by decide) (by decide) hg rwX12_drives CLKW_N krWI_ok ?_ q
  clear q
  refine ct_C ?_ (ct_N)
  · intro l st h q
    obtain ⟨m0, q1⟩ := tkC_of q
    obtain ⟨x1, m1, q2⟩ := tkI_of q1
    obtain ⟨x2, m2, q3⟩ := tkI_of q2
    obtain ⟨x3, m3, q4⟩ := tkI_of q3
    obtain ⟨x4, m4, q5⟩ := tkI_of q4
    obtain ⟨rfl, q6⟩ := skE_of q5
    exact WK_less (k261 _ _ _ _ _ _ q6) (List.forall_mem_cons.mpr ⟨m0, (List.forall_mem_cons.mpr ⟨m1, (List.forall_mem_cons.mpr ⟨m2, (List.forall_mem_cons.mpr ⟨m3, (List.forall_mem_cons.mpr ⟨m4, (fun _ h => absurd h List.not_mem_nil)⟩)⟩)⟩)⟩)⟩)
def nX12_drives_214 (c37 : Int → Int → Int → Int → HH → Option (Int × HH)) (x1 : Int) (x2 : Int) (x3 : Int) (x4 : Int) (x6 : Int) (h : HH) : Option (Int × HH) := bX12_drives_214 (nX12_drives_261 c37) x1 x2 x3 x4 x6 h
theorem wX12_drives_214 {g : SG} (hg : GOK g) {σ0 : SG} {c37 : Int → Int → Int → Int → HH → Option (Int × HH)} (k37 : ∀ (x1 : Int) (x2 : Int) (x3 : Int) (x4 : Int) (h : HH) (b : (Int × HH)), c37 x1 x2 x3 x4 h = some b → WK 192 (.inl (some (aI b.1))) σ0 (abH 71 119 g b.2) 37 [(0, aR 71), (1, aI x1), (2, aI x2), (3, aI x3), (4, aI x4)] [] (abH 71 119 g h) 0 0) : ∀ {x1 : Int} {x2 : Int} {x3 : Int} {x4 : Int} {x6 : Int} {h : HH} {b : (Int × HH)}, nX12_drives_214 c37 x1 x2 x3 x4 x6 h = some b → WK 192 (.inl (some (aI b.1))) σ0 (abH 71 119 g b.2) 214 [(0, aR 71), (1, aI x1), (2, aI x2), (3, aI x3), (4, aI x4), (6, aI x6)] [] (abH 71 119 g h) 0 0 := by
  intro x1 x2 x3 x4 x6 h b q
  exact uX12_drives_214 hg (fun _ _ _ _ _ _ q => wX12_drives_261 hg k37 q) q
def bX12_drives_165 (f173 : HH → Int → Int → Option Int) (c214 : Int → Int → Int → Int → Int → HH → Option (Int × HH)) (c261 : Int → Int → Int → Int → HH → Option (Int × HH)) (x1 : Int) (x2 : Int) (x3 : Int) (x4 : Int) (h : HH) : Option (Int × HH) :=
  if x4 < ((h.1 71 51) : Int) then
    gd ((0 : Int) ≤ x4 ∧ x4 < (10 : Int)) <|
    gd ((0 : Int) ≤ (h.1 105 x4) ∧ (h.1 105 x4) < (9 : Int)) <|
    gd (R32 ((h.1 84 (h.1 105 x4)) - x2)) <|
    bnd (f173 h 0 ((h.1 84 (h.1 105 x4)) - x2)) fun r1 =>
    gd (R32 (x2 + r1)) <|
    gd (R32 ((h.1 71 54) + r1)) <|
    bnd (some (hI h 71 54 ((h.1 71 54) + r1))) fun h2 =>
    c214 x1 (x2 + r1) x3 x4 (h.1 105 x4) h2
  else
    c261 x1 x2 x3 x4 h
set_option maxRecDepth 100000 in
theorem uX12_drives_165 {g : SG} (hg : GOK g) {σ0 : SG} {c214 : Int → Int → Int → Int → Int → HH → Option (Int × HH)} {c261 : Int → Int → Int → Int → HH → Option (Int × HH)} (k214 : ∀ (x1 : Int) (x2 : Int) (x3 : Int) (x4 : Int) (x6 : Int) (h : HH) (b : (Int × HH)), c214 x1 x2 x3 x4 x6 h = some b → WK 192 (.inl (some (aI b.1))) σ0 (abH 71 119 g b.2) 214 [(0, aR 71), (1, aI x1), (2, aI x2), (3, aI x3), (4, aI x4), (6, aI x6)] [] (abH 71 119 g h) 0 0) (k261 : ∀ (x1 : Int) (x2 : Int) (x3 : Int) (x4 : Int) (h : HH) (b : (Int × HH)), c261 x1 x2 x3 x4 h = some b → WK 192 (.inl (some (aI b.1))) σ0 (abH 71 119 g b.2) 261 [(0, aR 71), (1, aI x1), (2, aI x2), (3, aI x3), (4, aI x4)] [] (abH 71 119 g h) 0 0) : ∀ {x1 : Int} {x2 : Int} {x3 : Int} {x4 : Int} {h : HH} {b : (Int × HH)}, bX12_drives_165 nX12_more c214 c261 x1 x2 x3 x4 h = some b → WK 192 (.inl (some (aI b.1))) σ0 (abH 71 119 g b.2) 165 [(0, aR 71), (1, aI x1), (2, aI x2), (3, aI x3), (4, aI x4)] [] (abH 71 119 g h) 0 0 := by
  intro x1 x2 x3 x4 h b q
  have e : ∀ (f173 : HH → Int → Int → Option Int) , bX12_drives_165 f173 c214 c261 x1 x2 x3 x4 h = segW 71 119 g.2.2.2.2 krWI (clC 173 (liPW (pX12_more f173)) clN) csX12_drives (cuC 214 (fun l st s => tkC 0 71 l <| tkI 1 l fun x1 => tkI 2 l fun x2 => tkI 3 l fun x3 => tkI 4 l fun x4 => tkI 6 l fun x6 => skE st (c214 x1 x2 x3 x4 x6 s)) (cuC 261 (fun l st s => tkC 0 71 l <| tkI 1 l fun x1 => tkI 2 l fun x2 => tkI 3 l fun x3 => tkI 4 l fun x4 => skE st (c261 x1 x2 x3 x4 s)) cuN)) 1000 165 [(0, aR 71), (1, aI x1), (2, aI x2), (3, aI x3), (4, aI x4)] [] h := fun _ => rfl
  rw [e nX12_more] at q
  clear e
  refine segW_wk (by decide) (by decide) hg rwX12_drives (CLKW_C (liPW_ok (pX12_more_ok hg)) CLKW_N) krWI_ok ?_ q
  clear q
  refine ct_C ?_ (ct_C ?_ (ct_N))
  · intro l st h q
    obtain ⟨m0, q1⟩ := tkC_of q
    obtain ⟨x1, m1, q2⟩ := tkI_of q1
    obtain ⟨x2, m2, q3⟩ := tkI_of q2
    obtain ⟨x3, m3, q4⟩ := tkI_of q3
    obtain ⟨x4, m4, q5⟩ := tkI_of q4
    obtain ⟨x6, m6, q6⟩ := tkI_of q5
    obtain ⟨rfl, q7⟩ := skE_of q6
    exact WK_less (k214 _ _ _ _ _ _ _ q7) (List.forall_mem_cons.mpr ⟨m0, (List.forall_mem_cons.mpr ⟨m1, (List.forall_mem_cons.mpr ⟨m2, (List.forall_mem_cons.mpr ⟨m3, (List.forall_mem_cons.mpr ⟨m4, (List.forall_mem_cons.mpr ⟨m6, (fun _ h => absurd h List.not_mem_nil)⟩)⟩)⟩)⟩)⟩)⟩)
  · intro l st h q
    obtain ⟨m0, q1⟩ := tkC_of q
    obtain ⟨x1, m1, q2⟩ := tkI_of q1
    obtain ⟨x2, m2, q3⟩ := tkI_of q2
    obtain ⟨x3, m3, q4⟩ := tkI_of q3
    obtain ⟨x4, m4, q5⟩ := tkI_of q4
    obtain ⟨rfl, q6⟩ := skE_of q5
    exact WK_less (k261 _ _ _ _ _ _ q6) (List.forall_mem_cons.mpr ⟨m0, (List.forall_mem_cons.mpr ⟨m1, (List.forall_mem_cons.mpr ⟨m2, (List.forall_mem_cons.mpr ⟨m3, (List.forall_mem_cons.mpr ⟨m4, (fun _ h => absurd h List.not_mem_nil)⟩)⟩)⟩)⟩)⟩)
def nX12_drives_165 (c37 : Int → Int → Int → Int → HH → Option (Int × HH)) (x1 : Int) (x2 : Int) (x3 : Int) (x4 : Int) (h : HH) : Option (Int × HH) := bX12_drives_165 nX12_more (nX12_drives_214 c37) (nX12_drives_261 c37) x1 x2 x3 x4 h
theorem wX12_drives_165 {g : SG} (hg : GOK g) {σ0 : SG} {c37 : Int → Int → Int → Int → HH → Option (Int × HH)} (k37 : ∀ (x1 : Int) (x2 : Int) (x3 : Int) (x4 : Int) (h : HH) (b : (Int × HH)), c37 x1 x2 x3 x4 h = some b → WK 192 (.inl (some (aI b.1))) σ0 (abH 71 119 g b.2) 37 [(0, aR 71), (1, aI x1), (2, aI x2), (3, aI x3), (4, aI x4)] [] (abH 71 119 g h) 0 0) : ∀ {x1 : Int} {x2 : Int} {x3 : Int} {x4 : Int} {h : HH} {b : (Int × HH)}, nX12_drives_165 c37 x1 x2 x3 x4 h = some b → WK 192 (.inl (some (aI b.1))) σ0 (abH 71 119 g b.2) 165 [(0, aR 71), (1, aI x1), (2, aI x2), (3, aI x3), (4, aI x4)] [] (abH 71 119 g h) 0 0 := by
  intro x1 x2 x3 x4 h b q
  exact uX12_drives_165 hg (fun _ _ _ _ _ _ _ q => wX12_drives_214 hg k37 q) (fun _ _ _ _ _ _ q => wX12_drives_261 hg k37 q) q
def bX12_drives_78 (f181 : HH → Int → Int → Option Int) (c165 : Int → Int → Int → Int → HH → Option (Int × HH)) (x1 : Int) (x2 : Int) (x3 : Int) (x4 : Int) (y0 : Int) (h : HH) : Option (Int × HH) :=
  bnd (f181 h x3 y0) fun r1 =>
    if r1 = (1000000000 : Int) then
    some ((-1), h)
  else
    bnd (f181 h x3 y0) fun r2 =>
    gd (R32 (x2 + r2)) <|
    bnd (f181 h x3 y0) fun r3 =>
    gd (R32 ((h.1 71 53) + r3)) <|
    bnd (some (hI h 71 53 ((h.1 71 53) + r3))) fun h4 =>
    gd (R32 (16 * x3)) <|
    gd (R32 ((16 * x3) + y0)) <|
    gd ((0 : Int) ≤ ((16 * x3) + y0) ∧ ((16 * x3) + y0) < (256 : Int)) <|
    gd (R32 ((h4.1 71 55) + (h4.1 79 ((16 * x3) + y0)))) <|
    bnd (some (hI h4 71 55 ((h4.1 71 55) + (h4.1 79 ((16 * x3) + y0))))) fun h5 =>
    gd (R32 (16 * x3)) <|
    gd (R32 ((16 * x3) + y0)) <|
    gd ((0 : Int) ≤ ((16 * x3) + y0) ∧ ((16 * x3) + y0) < (256 : Int)) <|
    gd (R32 ((h5.1 71 56) + (h5.1 80 ((16 * x3) + y0)))) <|
    bnd (some (hI h5 71 56 ((h5.1 71 56) + (h5.1 80 ((16 * x3) + y0))))) fun h6 =>
    c165 x1 (x2 + r2) y0 x4 h6
set_option maxRecDepth 100000 in
theorem uX12_drives_78 {g : SG} (hg : GOK g) {σ0 : SG} {c165 : Int → Int → Int → Int → HH → Option (Int × HH)} (k165 : ∀ (x1 : Int) (x2 : Int) (x3 : Int) (x4 : Int) (h : HH) (b : (Int × HH)), c165 x1 x2 x3 x4 h = some b → WK 192 (.inl (some (aI b.1))) σ0 (abH 71 119 g b.2) 165 [(0, aR 71), (1, aI x1), (2, aI x2), (3, aI x3), (4, aI x4)] [] (abH 71 119 g h) 0 0) : ∀ {x1 : Int} {x2 : Int} {x3 : Int} {x4 : Int} {y0 : Int} {h : HH} {b : (Int × HH)}, bX12_drives_78 nX12_d c165 x1 x2 x3 x4 y0 h = some b → WK 192 (.inl (some (aI b.1))) σ0 (abH 71 119 g b.2) 78 [(0, aR 71), (1, aI x1), (2, aI x2), (3, aI x3), (4, aI x4)] [aI y0] (abH 71 119 g h) 0 0 := by
  intro x1 x2 x3 x4 y0 h b q
  have e : ∀ (f181 : HH → Int → Int → Option Int) , bX12_drives_78 f181 c165 x1 x2 x3 x4 y0 h = segW 71 119 g.2.2.2.2 krWI (clC 181 (liPW (pX12_d f181)) clN) csX12_drives (cuC 165 (fun l st s => tkC 0 71 l <| tkI 1 l fun x1 => tkI 2 l fun x2 => tkI 3 l fun x3 => tkI 4 l fun x4 => skE st (c165 x1 x2 x3 x4 s)) cuN) 1000 78 [(0, aR 71), (1, aI x1), (2, aI x2), (3, aI x3), (4, aI x4)] [aI y0] h := fun _ => rfl
  rw [e nX12_d] at q
  clear e
  refine segW_wk (by decide) (by decide) hg rwX12_drives (CLKW_C (liPW_ok (pX12_d_ok hg)) CLKW_N) krWI_ok ?_ q
  clear q
  refine ct_C ?_ (ct_N)
  · intro l st h q
    obtain ⟨m0, q1⟩ := tkC_of q
    obtain ⟨x1, m1, q2⟩ := tkI_of q1
    obtain ⟨x2, m2, q3⟩ := tkI_of q2
    obtain ⟨x3, m3, q4⟩ := tkI_of q3
    obtain ⟨x4, m4, q5⟩ := tkI_of q4
    obtain ⟨rfl, q6⟩ := skE_of q5
    exact WK_less (k165 _ _ _ _ _ _ q6) (List.forall_mem_cons.mpr ⟨m0, (List.forall_mem_cons.mpr ⟨m1, (List.forall_mem_cons.mpr ⟨m2, (List.forall_mem_cons.mpr ⟨m3, (List.forall_mem_cons.mpr ⟨m4, (fun _ h => absurd h List.not_mem_nil)⟩)⟩)⟩)⟩)⟩)
def nX12_drives_78 (c37 : Int → Int → Int → Int → HH → Option (Int × HH)) (x1 : Int) (x2 : Int) (x3 : Int) (x4 : Int) (y0 : Int) (h : HH) : Option (Int × HH) := bX12_drives_78 nX12_d (nX12_drives_165 c37) x1 x2 x3 x4 y0 h
theorem wX12_drives_78 {g : SG} (hg : GOK g) {σ0 : SG} {c37 : Int → Int → Int → Int → HH → Option (Int × HH)} (k37 : ∀ (x1 : Int) (x2 : Int) (x3 : Int) (x4 : Int) (h : HH) (b : (Int × HH)), c37 x1 x2 x3 x4 h = some b → WK 192 (.inl (some (aI b.1))) σ0 (abH 71 119 g b.2) 37 [(0, aR 71), (1, aI x1), (2, aI x2), (3, aI x3), (4, aI x4)] [] (abH 71 119 g h) 0 0) : ∀ {x1 : Int} {x2 : Int} {x3 : Int} {x4 : Int} {y0 : Int} {h : HH} {b : (Int × HH)}, nX12_drives_78 c37 x1 x2 x3 x4 y0 h = some b → WK 192 (.inl (some (aI b.1))) σ0 (abH 71 119 g b.2) 78 [(0, aR 71), (1, aI x1), (2, aI x2), (3, aI x3), (4, aI x4)] [aI y0] (abH 71 119 g h) 0 0 := by
  intro x1 x2 x3 x4 y0 h b q
  exact uX12_drives_78 hg (fun _ _ _ _ _ _ q => wX12_drives_165 hg k37 q) q
def bX12_drives_37 (c78 : Int → Int → Int → Int → Int → HH → Option (Int × HH)) (c267 : Int → Int → HH → Option (Int × HH)) (x1 : Int) (x2 : Int) (x3 : Int) (x4 : Int) (h : HH) : Option (Int × HH) :=
  if ((h.1 71 51) : Int) < x4 then
    c267 x1 x2 h
  else
    if (0 : Int) < (h.1 71 51) then
    if x4 < ((h.1 71 51) : Int) then
    gd ((0 : Int) ≤ x4 ∧ x4 < (10 : Int)) <|
    gd ((0 : Int) ≤ (h.1 105 x4) ∧ (h.1 105 x4) < (9 : Int)) <|
    c78 x1 x2 x3 x4 (h.1 81 (h.1 105 x4)) h
  else
    c78 x1 x2 x3 x4 0 h
  else
    c267 x1 x2 h
set_option maxRecDepth 100000 in
theorem uX12_drives_37 {g : SG} (hg : GOK g) {σ0 : SG} {c78 : Int → Int → Int → Int → Int → HH → Option (Int × HH)} {c267 : Int → Int → HH → Option (Int × HH)} (k78 : ∀ (x1 : Int) (x2 : Int) (x3 : Int) (x4 : Int) (y0 : Int) (h : HH) (b : (Int × HH)), c78 x1 x2 x3 x4 y0 h = some b → WK 192 (.inl (some (aI b.1))) σ0 (abH 71 119 g b.2) 78 [(0, aR 71), (1, aI x1), (2, aI x2), (3, aI x3), (4, aI x4)] [aI y0] (abH 71 119 g h) 0 0) (k267 : ∀ (x1 : Int) (x2 : Int) (h : HH) (b : (Int × HH)), c267 x1 x2 h = some b → WK 192 (.inl (some (aI b.1))) σ0 (abH 71 119 g b.2) 267 [(0, aR 71), (1, aI x1), (2, aI x2)] [] (abH 71 119 g h) 0 0) : ∀ {x1 : Int} {x2 : Int} {x3 : Int} {x4 : Int} {h : HH} {b : (Int × HH)}, bX12_drives_37 c78 c267 x1 x2 x3 x4 h = some b → WK 192 (.inl (some (aI b.1))) σ0 (abH 71 119 g b.2) 37 [(0, aR 71), (1, aI x1), (2, aI x2), (3, aI x3), (4, aI x4)] [] (abH 71 119 g h) 0 0 := by
  intro x1 x2 x3 x4 h b q
  have e : bX12_drives_37 c78 c267 x1 x2 x3 x4 h = segW 71 119 g.2.2.2.2 krWI clN csX12_drives (cuC 78 (fun l st s => tkC 0 71 l <| tkI 1 l fun x1 => tkI 2 l fun x2 => tkI 3 l fun x3 => tkI 4 l fun x4 => skI st fun y0 st => skE st (c78 x1 x2 x3 x4 y0 s)) (cuC 267 (fun l st s => tkC 0 71 l <| tkI 1 l fun x1 => tkI 2 l fun x2 => skE st (c267 x1 x2 s)) cuN)) 1000 37 [(0, aR 71), (1, aI x1), (2, aI x2), (3, aI x3), (4, aI x4)] [] h := rfl
  rw [e] at q
  clear e
  refine segW_wk (by decide) (by decide) hg rwX12_drives CLKW_N krWI_ok ?_ q
  clear q
  refine ct_C ?_ (ct_C ?_ (ct_N))
  · intro l st h q
    obtain ⟨m0, q1⟩ := tkC_of q
    obtain ⟨x1, m1, q2⟩ := tkI_of q1
    obtain ⟨x2, m2, q3⟩ := tkI_of q2
    obtain ⟨x3, m3, q4⟩ := tkI_of q3
    obtain ⟨x4, m4, q5⟩ := tkI_of q4
    obtain ⟨y0, t0, rfl, q6⟩ := skI_of q5
    obtain ⟨rfl, q7⟩ := skE_of q6
    exact WK_less (k78 _ _ _ _ _ _ _ q7) (List.forall_mem_cons.mpr ⟨m0, (List.forall_mem_cons.mpr ⟨m1, (List.forall_mem_cons.mpr ⟨m2, (List.forall_mem_cons.mpr ⟨m3, (List.forall_mem_cons.mpr ⟨m4, (fun _ h => absurd h List.not_mem_nil)⟩)⟩)⟩)⟩)⟩)
  · intro l st h q
    obtain ⟨m0, q1⟩ := tkC_of q
    obtain ⟨x1, m1, q2⟩ := tkI_of q1
    obtain ⟨x2, m2, q3⟩ := tkI_of q2
    obtain ⟨rfl, q4⟩ := skE_of q3
    exact WK_less (k267 _ _ _ _ q4) (List.forall_mem_cons.mpr ⟨m0, (List.forall_mem_cons.mpr ⟨m1, (List.forall_mem_cons.mpr ⟨m2, (fun _ h => absurd h List.not_mem_nil)⟩)⟩)⟩)
def nX12_drives_37 : Nat → Int → Int → Int → Int → HH → Option (Int × HH) := iter (fun _ _ _ _ _ => none) (fun self => bX12_drives_37 (nX12_drives_78 self) nX12_drives_267)
theorem nX12_drives_37_s {F : Nat} : nX12_drives_37 (F + 1) = bX12_drives_37 (nX12_drives_78 (nX12_drives_37 F)) nX12_drives_267 := rfl
theorem wX12_drives_37 {g : SG} (hg : GOK g) {σ0 : SG} : ∀ {F : Nat}, ∀ {x1 : Int} {x2 : Int} {x3 : Int} {x4 : Int} {h : HH} {b : (Int × HH)}, nX12_drives_37 F x1 x2 x3 x4 h = some b → WK 192 (.inl (some (aI b.1))) σ0 (abH 71 119 g b.2) 37 [(0, aR 71), (1, aI x1), (2, aI x2), (3, aI x3), (4, aI x4)] [] (abH 71 119 g h) 0 0 := by
  intro F
  have z : ∀ (x1 : Int) (x2 : Int) (x3 : Int) (x4 : Int) (h : HH) (b : (Int × HH)), nX12_drives_37 F x1 x2 x3 x4 h = some b → WK 192 (.inl (some (aI b.1))) σ0 (abH 71 119 g b.2) 37 [(0, aR 71), (1, aI x1), (2, aI x2), (3, aI x3), (4, aI x4)] [] (abH 71 119 g h) 0 0 := iter_ind (P := fun (c : Int → Int → Int → Int → HH → Option (Int × HH)) => ∀ (x1 : Int) (x2 : Int) (x3 : Int) (x4 : Int) (h : HH) (b : (Int × HH)), c x1 x2 x3 x4 h = some b → WK 192 (.inl (some (aI b.1))) σ0 (abH 71 119 g b.2) 37 [(0, aR 71), (1, aI x1), (2, aI x2), (3, aI x3), (4, aI x4)] [] (abH 71 119 g h) 0 0) (by
    intro x1 x2 x3 x4 h b q
    cases q) (fun self ih => by
    intro x1 x2 x3 x4 h b q
    exact uX12_drives_37 hg (fun _ _ _ _ _ _ _ q => wX12_drives_78 hg ih q) (fun _ _ _ _ q => wX12_drives_267 hg q) q) F
  intro x1 x2 x3 x4 h b q
  exact z _ _ _ _ _ _ q
def bX12_drives (c37 : Int → Int → Int → Int → HH → Option (Int × HH)) (x1 : Int) (h : HH) : Option (Int × HH) :=
  bnd (some (hI h 71 53 0)) fun h1 =>
    bnd (some (hI h1 71 54 0)) fun h2 =>
    bnd (some (hI h2 71 55 0)) fun h3 =>
    bnd (some (hI h3 71 56 0)) fun h4 =>
    bnd (some (hI h4 71 57 0)) fun h5 =>
    gd ((0 : Int) ≤ x1 ∧ x1 < (3 : Int)) <|
    c37 x1 (h5.1 92 x1) 0 0 h5
theorem uX12_drives {g : SG} (hg : GOK g) {σ0 : SG} {c37 : Int → Int → Int → Int → HH → Option (Int × HH)} (k37 : ∀ (x1 : Int) (x2 : Int) (x3 : Int) (x4 : Int) (h : HH) (b : (Int × HH)), c37 x1 x2 x3 x4 h = some b → WK 192 (.inl (some (aI b.1))) σ0 (abH 71 119 g b.2) 37 [(0, aR 71), (1, aI x1), (2, aI x2), (3, aI x3), (4, aI x4)] [] (abH 71 119 g h) 0 0) : ∀ {x1 : Int} {h : HH} {b : (Int × HH)}, bX12_drives c37 x1 h = some b → WK 192 (.inl (some (aI b.1))) σ0 (abH 71 119 g b.2) 0 [(0, aR 71), (1, aI x1)] [] (abH 71 119 g h) 0 0 := by
  intro x1 h b q
  have e : bX12_drives c37 x1 h = segW 71 119 g.2.2.2.2 krWI clN csX12_drives (cuC 37 (fun l st s => tkC 0 71 l <| tkI 1 l fun x1 => tkI 2 l fun x2 => tkI 3 l fun x3 => tkI 4 l fun x4 => skE st (c37 x1 x2 x3 x4 s)) cuN) 1000 0 [(0, aR 71), (1, aI x1)] [] h := rfl
  rw [e] at q
  clear e
  refine segW_wk (by decide) (by decide) hg rwX12_drives CLKW_N krWI_ok ?_ q
  clear q
  refine ct_C ?_ (ct_N)
  · intro l st h q
    obtain ⟨m0, q1⟩ := tkC_of q
    obtain ⟨x1, m1, q2⟩ := tkI_of q1
    obtain ⟨x2, m2, q3⟩ := tkI_of q2
    obtain ⟨x3, m3, q4⟩ := tkI_of q3
    obtain ⟨x4, m4, q5⟩ := tkI_of q4
    obtain ⟨rfl, q6⟩ := skE_of q5
    exact WK_less (k37 _ _ _ _ _ _ q6) (List.forall_mem_cons.mpr ⟨m0, (List.forall_mem_cons.mpr ⟨m1, (List.forall_mem_cons.mpr ⟨m2, (List.forall_mem_cons.mpr ⟨m3, (List.forall_mem_cons.mpr ⟨m4, (fun _ h => absurd h List.not_mem_nil)⟩)⟩)⟩)⟩)⟩)
def nX12_drives (x1 : Int) (h : HH) : Option (Int × HH) := bX12_drives (nX12_drives_37 100000) x1 h
theorem wX12_drives {g : SG} (hg : GOK g) {σ0 : SG} : ∀ {x1 : Int} {h : HH} {b : (Int × HH)}, nX12_drives x1 h = some b → WK 192 (.inl (some (aI b.1))) σ0 (abH 71 119 g b.2) 0 [(0, aR 71), (1, aI x1)] [] (abH 71 119 g h) 0 0 := by
  intro x1 h b q
  exact uX12_drives hg (fun _ _ _ _ _ _ q => wX12_drives_37 hg q) q
theorem mX12_drives {g : SG} (hg : GOK g) {h : HH} {x1 : Int} {b : (Int × HH)} (q : nX12_drives x1 h = some b) : MCT 192 [] [aR 71, aI x1] (abH 71 119 g h) (.inl (some (aI b.1))) (abH 71 119 g b.2) :=
  mct_of (by decide) (MFok 192 (by decide +kernel)) (fun _ => Nat.le_of_ble_eq_true rfl) (wX12_drives hg q)
def pX12_drives {β : Type} (z : Int → HH → Option (Int × HH)) : PW β := fun as h f => skC 71 as fun as => skI as fun x1 as => skE as (bnd (z x1 h) fun r => f (.inl (some (aI r.1))) r.2)
theorem pX12_drives_ok {β : Type} {g : SG} (hg : GOK g) : CW1 (β := β) 192 (pX12_drives nX12_drives) 71 119 g := fun as h f b q => by
  obtain ⟨as, rfl, q1⟩ := skC_of q
  obtain ⟨x1, as, rfl, q2⟩ := skI_of q1
  obtain ⟨rfl, q0⟩ := skE_of q2
  obtain ⟨r, z1, z2⟩ := bnd_of q0
  exact ⟨_, _, z2, by decide, mX12_drives hg z1, rfl, rfl, fun z => absurd z (by decide)⟩
def csX12_loads : List (Nat × List (Nat × ARow)) := [(37, [(0, 1, .aload_n 0, 0, 0, 0), (1, 1, .aload_n 0, 0, 0, 0), (2, 3, .getfield 79, 12, 26, 2), (5, 1, .iload_n 1, 0, 0, 0), (6, 1, .iaload, 0, 0, 0), (7, 3, .putfield 241, 12, 51, 0), (10, 1, .iconst 0, 0, 0, 0), (11, 1, .istore_n 2, 0, 0, 0), (12, 1, .iload_n 2, 0, 0, 0), (13, 1, .aload_n 0, 0, 0, 0), (14, 3, .getfield 241, 12, 51, 0), (17, 3, .if_icmp .ge 26, 43, 0, 0), (20, 1, .aload_n 0, 0, 0, 0), (21, 3, .getfield 127, 12, 47, 2), (24, 1, .iload_n 2, 0, 0, 0), (25, 1, .aload_n 0, 0, 0, 0), (26, 3, .getfield 76, 12, 25, 2), (29, 2, .bipush 9, 0, 0, 0), (31, 1, .iload_n 1, 0, 0, 0), (32, 1, .imul, 0, 0, 0), (33, 1, .iload_n 2, 0, 0, 0), (34, 1, .iadd, 0, 0, 0), (35, 1, .iaload, 0, 0, 0), (36, 1, .iastore, 0, 0, 0)]),
  (100000, [(37, 3, .iinc 2 1, 0, 0, 0), (40, 3, .goto (-28), 12, 0, 0), (43, 1, .return_, 0, 0, 0)])]
theorem rwX12_loads : rowsB (mB 193) (mO 193) (mX 193) (mIni 193) (mFr 193) (mLo 193) (mT 193) csX12_loads = true := by decide +kernel
def bX12_loads_12 (c12 : Int → Int → HH → Option HH) (x1 : Int) (x2 : Int) (h : HH) : Option HH :=
  if x2 < ((h.1 71 51) : Int) then
    gd (R32 (9 * x1)) <|
    gd (R32 ((9 * x1) + x2)) <|
    gd ((0 : Int) ≤ ((9 * x1) + x2) ∧ ((9 * x1) + x2) < (27 : Int)) <|
    gd ((0 : Int) ≤ x2 ∧ x2 < (10 : Int)) <|
    bnd (some (hI h 105 x2 (h.1 94 ((9 * x1) + x2)))) fun h1 =>
    gd (R32 (x2 + 1)) <|
    c12 x1 (x2 + 1) h1
  else
    some h
set_option maxRecDepth 100000 in
theorem uX12_loads_12 {g : SG} (hg : GOK g) {σ0 : SG} {c12 : Int → Int → HH → Option HH} (k12 : ∀ (x1 : Int) (x2 : Int) (h : HH) (b : HH), c12 x1 x2 h = some b → WK 193 (.inl none) σ0 (abH 71 119 g b) 12 [(0, aR 71), (1, aI x1), (2, aI x2)] [] (abH 71 119 g h) 0 0) : ∀ {x1 : Int} {x2 : Int} {h : HH} {b : HH}, bX12_loads_12 c12 x1 x2 h = some b → WK 193 (.inl none) σ0 (abH 71 119 g b) 12 [(0, aR 71), (1, aI x1), (2, aI x2)] [] (abH 71 119 g h) 0 0 := by
  intro x1 x2 h b q
  have e : bX12_loads_12 c12 x1 x2 h = segW 71 119 g.2.2.2.2 krWV clN csX12_loads (cuC 12 (fun l st s => tkC 0 71 l <| tkI 1 l fun x1 => tkI 2 l fun x2 => skE st (c12 x1 x2 s)) cuN) 1000 12 [(0, aR 71), (1, aI x1), (2, aI x2)] [] h := rfl
  rw [e] at q
  clear e
  refine segW_wk (by decide) (by decide) hg rwX12_loads CLKW_N krWV_ok ?_ q
  clear q
  refine ct_C ?_ (ct_N)
  · intro l st h q
    obtain ⟨m0, q1⟩ := tkC_of q
    obtain ⟨x1, m1, q2⟩ := tkI_of q1
    obtain ⟨x2, m2, q3⟩ := tkI_of q2
    obtain ⟨rfl, q4⟩ := skE_of q3
    exact WK_less (k12 _ _ _ _ q4) (List.forall_mem_cons.mpr ⟨m0, (List.forall_mem_cons.mpr ⟨m1, (List.forall_mem_cons.mpr ⟨m2, (fun _ h => absurd h List.not_mem_nil)⟩)⟩)⟩)
def nX12_loads_12 : Nat → Int → Int → HH → Option HH := iter (fun _ _ _ => none) (fun self => bX12_loads_12 self)
theorem nX12_loads_12_s {F : Nat} : nX12_loads_12 (F + 1) = bX12_loads_12 (nX12_loads_12 F) := rfl
theorem wX12_loads_12 {g : SG} (hg : GOK g) {σ0 : SG} : ∀ {F : Nat}, ∀ {x1 : Int} {x2 : Int} {h : HH} {b : HH}, nX12_loads_12 F x1 x2 h = some b → WK 193 (.inl none) σ0 (abH 71 119 g b) 12 [(0, aR 71), (1, aI x1), (2, aI x2)] [] (abH 71 119 g h) 0 0 := by
  intro F
  have z : ∀ (x1 : Int) (x2 : Int) (h : HH) (b : HH), nX12_loads_12 F x1 x2 h = some b → WK 193 (.inl none) σ0 (abH 71 119 g b) 12 [(0, aR 71), (1, aI x1), (2, aI x2)] [] (abH 71 119 g h) 0 0 := iter_ind (P := fun (c : Int → Int → HH → Option HH) => ∀ (x1 : Int) (x2 : Int) (h : HH) (b : HH), c x1 x2 h = some b → WK 193 (.inl none) σ0 (abH 71 119 g b) 12 [(0, aR 71), (1, aI x1), (2, aI x2)] [] (abH 71 119 g h) 0 0) (by
    intro x1 x2 h b q
    cases q) (fun self ih => by
    intro x1 x2 h b q
    exact uX12_loads_12 hg ih q) F
  intro x1 x2 h b q
  exact z _ _ _ _ q
def bX12_loads (c12 : Int → Int → HH → Option HH) (x1 : Int) (h : HH) : Option HH :=
  gd ((0 : Int) ≤ x1 ∧ x1 < (3 : Int)) <|
    bnd (some (hI h 71 51 (h.1 95 x1))) fun h1 =>
    c12 x1 0 h1
theorem uX12_loads {g : SG} (hg : GOK g) {σ0 : SG} {c12 : Int → Int → HH → Option HH} (k12 : ∀ (x1 : Int) (x2 : Int) (h : HH) (b : HH), c12 x1 x2 h = some b → WK 193 (.inl none) σ0 (abH 71 119 g b) 12 [(0, aR 71), (1, aI x1), (2, aI x2)] [] (abH 71 119 g h) 0 0) : ∀ {x1 : Int} {h : HH} {b : HH}, bX12_loads c12 x1 h = some b → WK 193 (.inl none) σ0 (abH 71 119 g b) 0 [(0, aR 71), (1, aI x1)] [] (abH 71 119 g h) 0 0 := by
  intro x1 h b q
  have e : bX12_loads c12 x1 h = segW 71 119 g.2.2.2.2 krWV clN csX12_loads (cuC 12 (fun l st s => tkC 0 71 l <| tkI 1 l fun x1 => tkI 2 l fun x2 => skE st (c12 x1 x2 s)) cuN) 1000 0 [(0, aR 71), (1, aI x1)] [] h := rfl
  rw [e] at q
  clear e
  refine segW_wk (by decide) (by decide) hg rwX12_loads CLKW_N krWV_ok ?_ q
  clear q
  refine ct_C ?_ (ct_N)
  · intro l st h q
    obtain ⟨m0, q1⟩ := tkC_of q
    obtain ⟨x1, m1, q2⟩ := tkI_of q1
    obtain ⟨x2, m2, q3⟩ := tkI_of q2
    obtain ⟨rfl, q4⟩ := skE_of q3
    exact WK_less (k12 _ _ _ _ q4) (List.forall_mem_cons.mpr ⟨m0, (List.forall_mem_cons.mpr ⟨m1, (List.forall_mem_cons.mpr ⟨m2, (fun _ h => absurd h List.not_mem_nil)⟩)⟩)⟩)
def nX12_loads (x1 : Int) (h : HH) : Option HH := bX12_loads (nX12_loads_12 100000) x1 h
theorem wX12_loads {g : SG} (hg : GOK g) {σ0 : SG} : ∀ {x1 : Int} {h : HH} {b : HH}, nX12_loads x1 h = some b → WK 193 (.inl none) σ0 (abH 71 119 g b) 0 [(0, aR 71), (1, aI x1)] [] (abH 71 119 g h) 0 0 := by
  intro x1 h b q
  exact uX12_loads hg (fun _ _ _ _ q => wX12_loads_12 hg q) q
theorem mX12_loads {g : SG} (hg : GOK g) {h : HH} {x1 : Int} {b : HH} (q : nX12_loads x1 h = some b) : MCT 193 [] [aR 71, aI x1] (abH 71 119 g h) (.inl none) (abH 71 119 g b) :=
  mct_of (by decide) (MFok 193 (by decide +kernel)) (fun _ => Nat.le_of_ble_eq_true rfl) (wX12_loads hg q)
def pX12_loads {β : Type} (z : Int → HH → Option HH) : PW β := fun as h f => skC 71 as fun as => skI as fun x1 as => skE as (bnd (z x1 h) fun r => f (.inl none) r)
theorem pX12_loads_ok {β : Type} {g : SG} (hg : GOK g) : CW1 (β := β) 193 (pX12_loads nX12_loads) 71 119 g := fun as h f b q => by
  obtain ⟨as, rfl, q1⟩ := skC_of q
  obtain ⟨x1, as, rfl, q2⟩ := skI_of q1
  obtain ⟨rfl, q0⟩ := skE_of q2
  obtain ⟨r, z1, z2⟩ := bnd_of q0
  exact ⟨_, _, z2, by decide, mX12_loads hg z1, rfl, rfl, fun z => absurd z (by decide)⟩
def csX12_lays : List (Nat × List (Nat × ARow)) := [(37, [(0, 1, .aload_n 0, 0, 0, 0), (1, 3, .getfield 79, 12, 26, 2), (4, 1, .iload_n 1, 0, 0, 0), (5, 1, .aload_n 0, 0, 0, 0), (6, 3, .getfield 241, 12, 51, 0), (9, 1, .iastore, 0, 0, 0), (10, 1, .iconst 0, 0, 0, 0), (11, 1, .istore_n 2, 0, 0, 0), (12, 1, .iload_n 2, 0, 0, 0), (13, 1, .aload_n 0, 0, 0, 0), (14, 3, .getfield 241, 12, 51, 0), (17, 3, .if_icmp .ge 26, 43, 0, 0), (20, 1, .aload_n 0, 0, 0, 0), (21, 3, .getfield 76, 12, 25, 2), (24, 2, .bipush 9, 0, 0, 0), (26, 1, .iload_n 1, 0, 0, 0), (27, 1, .imul, 0, 0, 0), (28, 1, .iload_n 2, 0, 0, 0), (29, 1, .iadd, 0, 0, 0), (30, 1, .aload_n 0, 0, 0, 0), (31, 3, .getfield 127, 12, 47, 2), (34, 1, .iload_n 2, 0, 0, 0), (35, 1, .iaload, 0, 0, 0), (36, 1, .iastore, 0, 0, 0)]),
  (79, [(37, 3, .iinc 2 1, 0, 0, 0), (40, 3, .goto (-28), 12, 0, 0), (43, 1, .iconst 0, 0, 0, 0), (44, 1, .istore_n 2, 0, 0, 0), (45, 1, .iload_n 2, 0, 0, 0), (46, 1, .aload_n 0, 0, 0, 0), (47, 3, .getfield 182, 12, 21, 0), (50, 3, .if_icmp .ge 16, 66, 0, 0), (53, 1, .aload_n 0, 0, 0, 0), (54, 3, .getfield 64, 12, 20, 2), (57, 1, .iload_n 2, 0, 0, 0), (58, 1, .iconst (-1), 0, 0, 0), (59, 1, .iastore, 0, 0, 0), (60, 3, .iinc 2 1, 0, 0, 0), (63, 3, .goto (-18), 45, 0, 0), (66, 1, .iconst 0, 0, 0, 0), (67, 1, .istore_n 2, 0, 0, 0), (68, 1, .iload_n 2, 0, 0, 0), (69, 1, .aload_n 0, 0, 0, 0), (70, 3, .getfield 185, 12, 27, 0), (73, 3, .if_icmp .ge 44, 117, 0, 0), (76, 1, .iconst 0, 0, 0, 0), (77, 1, .istore_n 3, 0, 0, 0), (78, 1, .iload_n 3, 0, 0, 0)]),
  (100000, [(79, 1, .aload_n 0, 0, 0, 0), (80, 3, .getfield 79, 12, 26, 2), (83, 1, .iload_n 2, 0, 0, 0), (84, 1, .iaload, 0, 0, 0), (85, 3, .if_icmp .ge 26, 111, 0, 0), (88, 1, .aload_n 0, 0, 0, 0), (89, 3, .getfield 64, 12, 20, 2), (92, 1, .aload_n 0, 0, 0, 0), (93, 3, .getfield 76, 12, 25, 2), (96, 2, .bipush 9, 0, 0, 0), (98, 1, .iload_n 2, 0, 0, 0), (99, 1, .imul, 0, 0, 0), (100, 1, .iload_n 3, 0, 0, 0), (101, 1, .iadd, 0, 0, 0), (102, 1, .iaload, 0, 0, 0), (103, 1, .iload_n 2, 0, 0, 0), (104, 1, .iastore, 0, 0, 0), (105, 3, .iinc 3 1, 0, 0, 0), (108, 3, .goto (-30), 78, 0, 0), (111, 3, .iinc 2 1, 0, 0, 0), (114, 3, .goto (-46), 68, 0, 0), (117, 1, .return_, 0, 0, 0)])]
theorem rwX12_lays : rowsB (mB 194) (mO 194) (mX 194) (mIni 194) (mFr 194) (mLo 194) (mT 194) csX12_lays = true := by decide +kernel
def bX12_lays_78 (c68 : Int → HH → Option HH) (c78 : Int → Int → HH → Option HH) (x2 : Int) (x3 : Int) (h : HH) : Option HH :=
  gd ((0 : Int) ≤ x2 ∧ x2 < (3 : Int)) <|
    if x3 < ((h.1 95 x2) : Int) then
    gd (R32 (9 * x2)) <|
    gd (R32 ((9 * x2) + x3)) <|
    gd ((0 : Int) ≤ ((9 * x2) + x3) ∧ ((9 * x2) + x3) < (27 : Int)) <|
    gd ((0 : Int) ≤ (h.1 94 ((9 * x2) + x3)) ∧ (h.1 94 ((9 * x2) + x3)) < (9 : Int)) <|
    bnd (some (hI h 90 (h.1 94 ((9 * x2) + x3)) x2)) fun h1 =>
    gd (R32 (x3 + 1)) <|
    c78 x2 (x3 + 1) h1
  else
    gd (R32 (x2 + 1)) <|
    c68 (x2 + 1) h
set_option maxRecDepth 100000 in
theorem uX12_lays_78 {g : SG} (hg : GOK g) {σ0 : SG} {c68 : Int → HH → Option HH} {c78 : Int → Int → HH → Option HH} (k68 : ∀ (x2 : Int) (h : HH) (b : HH), c68 x2 h = some b → WK 194 (.inl none) σ0 (abH 71 119 g b) 68 [(0, aR 71), (2, aI x2)] [] (abH 71 119 g h) 0 0) (k78 : ∀ (x2 : Int) (x3 : Int) (h : HH) (b : HH), c78 x2 x3 h = some b → WK 194 (.inl none) σ0 (abH 71 119 g b) 78 [(0, aR 71), (2, aI x2), (3, aI x3)] [] (abH 71 119 g h) 0 0) : ∀ {x2 : Int} {x3 : Int} {h : HH} {b : HH}, bX12_lays_78 c68 c78 x2 x3 h = some b → WK 194 (.inl none) σ0 (abH 71 119 g b) 78 [(0, aR 71), (2, aI x2), (3, aI x3)] [] (abH 71 119 g h) 0 0 := by
  intro x2 x3 h b q
  have e : bX12_lays_78 c68 c78 x2 x3 h = segW 71 119 g.2.2.2.2 krWV clN csX12_lays (cuC 68 (fun l st s => tkC 0 71 l <| tkI 2 l fun x2 => skE st (c68 x2 s)) (cuC 78 (fun l st s => tkC 0 71 l <| tkI 2 l fun x2 => tkI 3 l fun x3 => skE st (c78 x2 x3 s)) cuN)) 1000 78 [(0, aR 71), (2, aI x2), (3, aI x3)] [] h := rfl
  rw [e] at q
  clear e
  refine segW_wk (by decide) (by decide) hg rwX12_lays CLKW_N krWV_ok ?_ q
  clear q
  refine ct_C ?_ (ct_C ?_ (ct_N))
  · intro l st h q
    obtain ⟨m0, q1⟩ := tkC_of q
    obtain ⟨x2, m2, q2⟩ := tkI_of q1
    obtain ⟨rfl, q3⟩ := skE_of q2
    exact WK_less (k68 _ _ _ q3) (List.forall_mem_cons.mpr ⟨m0, (List.forall_mem_cons.mpr ⟨m2, (fun _ h => absurd h List.not_mem_nil)⟩)⟩)
  · intro l st h q
    obtain ⟨m0, q1⟩ := tkC_of q
    obtain ⟨x2, m2, q2⟩ := tkI_of q1
    obtain ⟨x3, m3, q3⟩ := tkI_of q2
    obtain ⟨rfl, q4⟩ := skE_of q3
    exact WK_less (k78 _ _ _ _ q4) (List.forall_mem_cons.mpr ⟨m0, (List.forall_mem_cons.mpr ⟨m2, (List.forall_mem_cons.mpr ⟨m3, (fun _ h => absurd h List.not_mem_nil)⟩)⟩)⟩)
def nX12_lays_78 (c68 : Int → HH → Option HH) : Nat → Int → Int → HH → Option HH := iter (fun _ _ _ => none) (fun self => bX12_lays_78 c68 self)
theorem nX12_lays_78_s {c68 : Int → HH → Option HH} {F : Nat} : nX12_lays_78 c68 (F + 1) = bX12_lays_78 c68 (nX12_lays_78 c68 F) := rfl
theorem wX12_lays_78 {g : SG} (hg : GOK g) {σ0 : SG} {c68 : Int → HH → Option HH} (k68 : ∀ (x2 : Int) (h : HH) (b : HH), c68 x2 h = some b → WK 194 (.inl none) σ0 (abH 71 119 g b) 68 [(0, aR 71), (2, aI x2)] [] (abH 71 119 g h) 0 0) : ∀ {F : Nat}, ∀ {x2 : Int} {x3 : Int} {h : HH} {b : HH}, nX12_lays_78 c68 F x2 x3 h = some b → WK 194 (.inl none) σ0 (abH 71 119 g b) 78 [(0, aR 71), (2, aI x2), (3, aI x3)] [] (abH 71 119 g h) 0 0 := by
  intro F
  have z : ∀ (x2 : Int) (x3 : Int) (h : HH) (b : HH), nX12_lays_78 c68 F x2 x3 h = some b → WK 194 (.inl none) σ0 (abH 71 119 g b) 78 [(0, aR 71), (2, aI x2), (3, aI x3)] [] (abH 71 119 g h) 0 0 := iter_ind (P := fun (c : Int → Int → HH → Option HH) => ∀ (x2 : Int) (x3 : Int) (h : HH) (b : HH), c x2 x3 h = some b → WK 194 (.inl none) σ0 (abH 71 119 g b) 78 [(0, aR 71), (2, aI x2), (3, aI x3)] [] (abH 71 119 g h) 0 0) (by
    intro x2 x3 h b q
    cases q) (fun self ih => by
    intro x2 x3 h b q
    exact uX12_lays_78 hg k68 ih q) F
  intro x2 x3 h b q
  exact z _ _ _ _ q
def bX12_lays_68 (c78 : Int → Int → HH → Option HH) (x2 : Int) (h : HH) : Option HH :=
  if x2 < ((h.1 71 27) : Int) then
    c78 x2 0 h
  else
    some h
theorem uX12_lays_68 {g : SG} (hg : GOK g) {σ0 : SG} {c78 : Int → Int → HH → Option HH} (k78 : ∀ (x2 : Int) (x3 : Int) (h : HH) (b : HH), c78 x2 x3 h = some b → WK 194 (.inl none) σ0 (abH 71 119 g b) 78 [(0, aR 71), (2, aI x2), (3, aI x3)] [] (abH 71 119 g h) 0 0) : ∀ {x2 : Int} {h : HH} {b : HH}, bX12_lays_68 c78 x2 h = some b → WK 194 (.inl none) σ0 (abH 71 119 g b) 68 [(0, aR 71), (2, aI x2)] [] (abH 71 119 g h) 0 0 := by
  intro x2 h b q
  have e : bX12_lays_68 c78 x2 h = segW 71 119 g.2.2.2.2 krWV clN csX12_lays (cuC 78 (fun l st s => tkC 0 71 l <| tkI 2 l fun x2 => tkI 3 l fun x3 => skE st (c78 x2 x3 s)) cuN) 1000 68 [(0, aR 71), (2, aI x2)] [] h := rfl
  rw [e] at q
  clear e
  refine segW_wk (by decide) (by decide) hg rwX12_lays CLKW_N krWV_ok ?_ q
  clear q
  refine ct_C ?_ (ct_N)
  · intro l st h q
    obtain ⟨m0, q1⟩ := tkC_of q
    obtain ⟨x2, m2, q2⟩ := tkI_of q1
    obtain ⟨x3, m3, q3⟩ := tkI_of q2
    obtain ⟨rfl, q4⟩ := skE_of q3
    exact WK_less (k78 _ _ _ _ q4) (List.forall_mem_cons.mpr ⟨m0, (List.forall_mem_cons.mpr ⟨m2, (List.forall_mem_cons.mpr ⟨m3, (fun _ h => absurd h List.not_mem_nil)⟩)⟩)⟩)
def nX12_lays_68 : Nat → Int → HH → Option HH := iter (fun _ _ => none) (fun self => bX12_lays_68 (nX12_lays_78 self 100000))
theorem nX12_lays_68_s {F : Nat} : nX12_lays_68 (F + 1) = bX12_lays_68 (nX12_lays_78 (nX12_lays_68 F) 100000) := rfl
theorem wX12_lays_68 {g : SG} (hg : GOK g) {σ0 : SG} : ∀ {F : Nat}, ∀ {x2 : Int} {h : HH} {b : HH}, nX12_lays_68 F x2 h = some b → WK 194 (.inl none) σ0 (abH 71 119 g b) 68 [(0, aR 71), (2, aI x2)] [] (abH 71 119 g h) 0 0 := by
  intro F
  have z : ∀ (x2 : Int) (h : HH) (b : HH), nX12_lays_68 F x2 h = some b → WK 194 (.inl none) σ0 (abH 71 119 g b) 68 [(0, aR 71), (2, aI x2)] [] (abH 71 119 g h) 0 0 := iter_ind (P := fun (c : Int → HH → Option HH) => ∀ (x2 : Int) (h : HH) (b : HH), c x2 h = some b → WK 194 (.inl none) σ0 (abH 71 119 g b) 68 [(0, aR 71), (2, aI x2)] [] (abH 71 119 g h) 0 0) (by
    intro x2 h b q
    cases q) (fun self ih => by
    intro x2 h b q
    exact uX12_lays_68 hg (fun _ _ _ _ q => wX12_lays_78 hg ih q) q) F
  intro x2 h b q
  exact z _ _ _ q
def bX12_lays_45 (c45 : Int → HH → Option HH) (c68 : Int → HH → Option HH) (x2 : Int) (h : HH) : Option HH :=
  if x2 < ((h.1 71 21) : Int) then
    gd ((0 : Int) ≤ x2 ∧ x2 < (9 : Int)) <|
    bnd (some (hI h 90 x2 (-1))) fun h1 =>
    gd (R32 (x2 + 1)) <|
    c45 (x2 + 1) h1
  else
    c68 0 h
theorem uX12_lays_45 {g : SG} (hg : GOK g) {σ0 : SG} {c45 : Int → HH → Option HH} {c68 : Int → HH → Option HH} (k45 : ∀ (x2 : Int) (h : HH) (b : HH), c45 x2 h = some b → WK 194 (.inl none) σ0 (abH 71 119 g b) 45 [(0, aR 71), (2, aI x2)] [] (abH 71 119 g h) 0 0) (k68 : ∀ (x2 : Int) (h : HH) (b : HH), c68 x2 h = some b → WK 194 (.inl none) σ0 (abH 71 119 g b) 68 [(0, aR 71), (2, aI x2)] [] (abH 71 119 g h) 0 0) : ∀ {x2 : Int} {h : HH} {b : HH}, bX12_lays_45 c45 c68 x2 h = some b → WK 194 (.inl none) σ0 (abH 71 119 g b) 45 [(0, aR 71), (2, aI x2)] [] (abH 71 119 g h) 0 0 := by
  intro x2 h b q
  have e : bX12_lays_45 c45 c68 x2 h = segW 71 119 g.2.2.2.2 krWV clN csX12_lays (cuC 45 (fun l st s => tkC 0 71 l <| tkI 2 l fun x2 => skE st (c45 x2 s)) (cuC 68 (fun l st s => tkC 0 71 l <| tkI 2 l fun x2 => skE st (c68 x2 s)) cuN)) 1000 45 [(0, aR 71), (2, aI x2)] [] h := rfl
  rw [e] at q
  clear e
  refine segW_wk (by decide) (by decide) hg rwX12_lays CLKW_N krWV_ok ?_ q
  clear q
  refine ct_C ?_ (ct_C ?_ (ct_N))
  · intro l st h q
    obtain ⟨m0, q1⟩ := tkC_of q
    obtain ⟨x2, m2, q2⟩ := tkI_of q1
    obtain ⟨rfl, q3⟩ := skE_of q2
    exact WK_less (k45 _ _ _ q3) (List.forall_mem_cons.mpr ⟨m0, (List.forall_mem_cons.mpr ⟨m2, (fun _ h => absurd h List.not_mem_nil)⟩)⟩)
  · intro l st h q
    obtain ⟨m0, q1⟩ := tkC_of q
    obtain ⟨x2, m2, q2⟩ := tkI_of q1
    obtain ⟨rfl, q3⟩ := skE_of q2
    exact WK_less (k68 _ _ _ q3) (List.forall_mem_cons.mpr ⟨m0, (List.forall_mem_cons.mpr ⟨m2, (fun _ h => absurd h List.not_mem_nil)⟩)⟩)
def nX12_lays_45 : Nat → Int → HH → Option HH := iter (fun _ _ => none) (fun self => bX12_lays_45 self (nX12_lays_68 100000))
theorem nX12_lays_45_s {F : Nat} : nX12_lays_45 (F + 1) = bX12_lays_45 (nX12_lays_45 F) (nX12_lays_68 100000) := rfl
theorem wX12_lays_45 {g : SG} (hg : GOK g) {σ0 : SG} : ∀ {F : Nat}, ∀ {x2 : Int} {h : HH} {b : HH}, nX12_lays_45 F x2 h = some b → WK 194 (.inl none) σ0 (abH 71 119 g b) 45 [(0, aR 71), (2, aI x2)] [] (abH 71 119 g h) 0 0 := by
  intro F
  have z : ∀ (x2 : Int) (h : HH) (b : HH), nX12_lays_45 F x2 h = some b → WK 194 (.inl none) σ0 (abH 71 119 g b) 45 [(0, aR 71), (2, aI x2)] [] (abH 71 119 g h) 0 0 := iter_ind (P := fun (c : Int → HH → Option HH) => ∀ (x2 : Int) (h : HH) (b : HH), c x2 h = some b → WK 194 (.inl none) σ0 (abH 71 119 g b) 45 [(0, aR 71), (2, aI x2)] [] (abH 71 119 g h) 0 0) (by
    intro x2 h b q
    cases q) (fun self ih => by
    intro x2 h b q
    exact uX12_lays_45 hg ih (fun _ _ _ q => wX12_lays_68 hg q) q) F
  intro x2 h b q
  exact z _ _ _ q
def bX12_lays_12 (c12 : Int → Int → HH → Option HH) (c45 : Int → HH → Option HH) (x1 : Int) (x2 : Int) (h : HH) : Option HH :=
  if x2 < ((h.1 71 51) : Int) then
    gd (R32 (9 * x1)) <|
    gd (R32 ((9 * x1) + x2)) <|
    gd ((0 : Int) ≤ x2 ∧ x2 < (10 : Int)) <|
    gd ((0 : Int) ≤ ((9 * x1) + x2) ∧ ((9 * x1) + x2) < (27 : Int)) <|
    bnd (some (hI h 94 ((9 * x1) + x2) (h.1 105 x2))) fun h1 =>
    gd (R32 (x2 + 1)) <|
    c12 x1 (x2 + 1) h1
  else
    c45 0 h
set_option maxRecDepth 100000 in
theorem uX12_lays_12 {g : SG} (hg : GOK g) {σ0 : SG} {c12 : Int → Int → HH → Option HH} {c45 : Int → HH → Option HH} (k12 : ∀ (x1 : Int) (x2 : Int) (h : HH) (b : HH), c12 x1 x2 h = some b → WK 194 (.inl none) σ0 (abH 71 119 g b) 12 [(0, aR 71), (1, aI x1), (2, aI x2)] [] (abH 71 119 g h) 0 0) (k45 : ∀ (x2 : Int) (h : HH) (b : HH), c45 x2 h = some b → WK 194 (.inl none) σ0 (abH 71 119 g b) 45 [(0, aR 71), (2, aI x2)] [] (abH 71 119 g h) 0 0) : ∀ {x1 : Int} {x2 : Int} {h : HH} {b : HH}, bX12_lays_12 c12 c45 x1 x2 h = some b → WK 194 (.inl none) σ0 (abH 71 119 g b) 12 [(0, aR 71), (1, aI x1), (2, aI x2)] [] (abH 71 119 g h) 0 0 := by
  intro x1 x2 h b q
  have e : bX12_lays_12 c12 c45 x1 x2 h = segW 71 119 g.2.2.2.2 krWV clN csX12_lays (cuC 12 (fun l st s => tkC 0 71 l <| tkI 1 l fun x1 => tkI 2 l fun x2 => skE st (c12 x1 x2 s)) (cuC 45 (fun l st s => tkC 0 71 l <| tkI 2 l fun x2 => skE st (c45 x2 s)) cuN)) 1000 12 [(0, aR 71), (1, aI x1), (2, aI x2)] [] h := rfl
  rw [e] at q
  clear e
  refine segW_wk (by decide) (by decide) hg rwX12_lays CLKW_N krWV_ok ?_ q
  clear q
  refine ct_C ?_ (ct_C ?_ (ct_N))
  · intro l st h q
    obtain ⟨m0, q1⟩ := tkC_of q
    obtain ⟨x1, m1, q2⟩ := tkI_of q1
    obtain ⟨x2, m2, q3⟩ := tkI_of q2
    obtain ⟨rfl, q4⟩ := skE_of q3
    exact WK_less (k12 _ _ _ _ q4) (List.forall_mem_cons.mpr ⟨m0, (List.forall_mem_cons.mpr ⟨m1, (List.forall_mem_cons.mpr ⟨m2, (fun _ h => absurd h List.not_mem_nil)⟩)⟩)⟩)
  · intro l st h q
    obtain ⟨m0, q1⟩ := tkC_of q
    obtain ⟨x2, m2, q2⟩ := tkI_of q1
    obtain ⟨rfl, q3⟩ := skE_of q2
    exact WK_less (k45 _ _ _ q3) (List.forall_mem_cons.mpr ⟨m0, (List.forall_mem_cons.mpr ⟨m2, (fun _ h => absurd h List.not_mem_nil)⟩)⟩)
def nX12_lays_12 : Nat → Int → Int → HH → Option HH := iter (fun _ _ _ => none) (fun self => bX12_lays_12 self (nX12_lays_45 100000))
theorem nX12_lays_12_s {F : Nat} : nX12_lays_12 (F + 1) = bX12_lays_12 (nX12_lays_12 F) (nX12_lays_45 100000) := rfl
theorem wX12_lays_12 {g : SG} (hg : GOK g) {σ0 : SG} : ∀ {F : Nat}, ∀ {x1 : Int} {x2 : Int} {h : HH} {b : HH}, nX12_lays_12 F x1 x2 h = some b → WK 194 (.inl none) σ0 (abH 71 119 g b) 12 [(0, aR 71), (1, aI x1), (2, aI x2)] [] (abH 71 119 g h) 0 0 := by
  intro F
  have z : ∀ (x1 : Int) (x2 : Int) (h : HH) (b : HH), nX12_lays_12 F x1 x2 h = some b → WK 194 (.inl none) σ0 (abH 71 119 g b) 12 [(0, aR 71), (1, aI x1), (2, aI x2)] [] (abH 71 119 g h) 0 0 := iter_ind (P := fun (c : Int → Int → HH → Option HH) => ∀ (x1 : Int) (x2 : Int) (h : HH) (b : HH), c x1 x2 h = some b → WK 194 (.inl none) σ0 (abH 71 119 g b) 12 [(0, aR 71), (1, aI x1), (2, aI x2)] [] (abH 71 119 g h) 0 0) (by
    intro x1 x2 h b q
    cases q) (fun self ih => by
    intro x1 x2 h b q
    exact uX12_lays_12 hg ih (fun _ _ _ q => wX12_lays_45 hg q) q) F
  intro x1 x2 h b q
  exact z _ _ _ _ q
def bX12_lays (c12 : Int → Int → HH → Option HH) (x1 : Int) (h : HH) : Option HH :=
  gd ((0 : Int) ≤ x1 ∧ x1 < (3 : Int)) <|
    bnd (some (hI h 95 x1 (h.1 71 51))) fun h1 =>
    c12 x1 0 h1
theorem uX12_lays {g : SG} (hg : GOK g) {σ0 : SG} {c12 : Int → Int → HH → Option HH} (k12 : ∀ (x1 : Int) (x2 : Int) (h : HH) (b : HH), c12 x1 x2 h = some b → WK 194 (.inl none) σ0 (abH 71 119 g b) 12 [(0, aR 71), (1, aI x1), (2, aI x2)] [] (abH 71 119 g h) 0 0) : ∀ {x1 : Int} {h : HH} {b : HH}, bX12_lays c12 x1 h = some b → WK 194 (.inl none) σ0 (abH 71 119 g b) 0 [(0, aR 71), (1, aI x1)] [] (abH 71 119 g h) 0 0 := by
  intro x1 h b q
  have e : bX12_lays c12 x1 h = segW 71 119 g.2.2.2.2 krWV clN csX12_lays (cuC 12 (fun l st s => tkC 0 71 l <| tkI 1 l fun x1 => tkI 2 l fun x2 => skE st (c12 x1 x2 s)) cuN) 1000 0 [(0, aR 71), (1, aI x1)] [] h := rfl
  rw [e] at q
  clear e
  refine segW_wk (by decide) (by decide) hg rwX12_lays CLKW_N krWV_ok ?_ q
  clear q
  refine ct_C ?_ (ct_N)
  · intro l st h q
    obtain ⟨m0, q1⟩ := tkC_of q
    obtain ⟨x1, m1, q2⟩ := tkI_of q1
    obtain ⟨x2, m2, q3⟩ := tkI_of q2
    obtain ⟨rfl, q4⟩ := skE_of q3
    exact WK_less (k12 _ _ _ _ q4) (List.forall_mem_cons.mpr ⟨m0, (List.forall_mem_cons.mpr ⟨m1, (List.forall_mem_cons.mpr ⟨m2, (fun _ h => absurd h List.not_mem_nil)⟩)⟩)⟩)
def nX12_lays (x1 : Int) (h : HH) : Option HH := bX12_lays (nX12_lays_12 100000) x1 h
theorem wX12_lays {g : SG} (hg : GOK g) {σ0 : SG} : ∀ {x1 : Int} {h : HH} {b : HH}, nX12_lays x1 h = some b → WK 194 (.inl none) σ0 (abH 71 119 g b) 0 [(0, aR 71), (1, aI x1)] [] (abH 71 119 g h) 0 0 := by
  intro x1 h b q
  exact uX12_lays hg (fun _ _ _ _ q => wX12_lays_12 hg q) q
theorem mX12_lays {g : SG} (hg : GOK g) {h : HH} {x1 : Int} {b : HH} (q : nX12_lays x1 h = some b) : MCT 194 [] [aR 71, aI x1] (abH 71 119 g h) (.inl none) (abH 71 119 g b) :=
  mct_of (by decide) (MFok 194 (by decide +kernel)) (fun _ => Nat.le_of_ble_eq_true rfl) (wX12_lays hg q)
def pX12_lays {β : Type} (z : Int → HH → Option HH) : PW β := fun as h f => skC 71 as fun as => skI as fun x1 as => skE as (bnd (z x1 h) fun r => f (.inl none) r)
theorem pX12_lays_ok {β : Type} {g : SG} (hg : GOK g) : CW1 (β := β) 194 (pX12_lays nX12_lays) 71 119 g := fun as h f b q => by
  obtain ⟨as, rfl, q1⟩ := skC_of q
  obtain ⟨x1, as, rfl, q2⟩ := skI_of q1
  obtain ⟨rfl, q0⟩ := skE_of q2
  obtain ⟨r, z1, z2⟩ := bnd_of q0
  exact ⟨_, _, z2, by decide, mX12_lays hg z1, rfl, rfl, fun z => absurd z (by decide)⟩
def csX12_inserts : List (Nat × List (Nat × ARow)) := [(38, [(0, 1, .aload_n 0, 0, 0, 0), (1, 3, .getfield 241, 12, 51, 0), (4, 1, .istore_n 3, 0, 0, 0), (5, 1, .iload_n 3, 0, 0, 0), (6, 1, .iload_n 1, 0, 0, 0), (7, 3, .if_icmp .le 23, 30, 0, 0), (10, 1, .aload_n 0, 0, 0, 0), (11, 3, .getfield 127, 12, 47, 2), (14, 1, .iload_n 3, 0, 0, 0), (15, 1, .aload_n 0, 0, 0, 0), (16, 3, .getfield 127, 12, 47, 2), (19, 1, .iload_n 3, 0, 0, 0), (20, 1, .iconst 1, 0, 0, 0), (21, 1, .isub, 0, 0, 0), (22, 1, .iaload, 0, 0, 0), (23, 1, .iastore, 0, 0, 0), (24, 3, .iinc 3 (-1), 0, 0, 0), (27, 3, .goto (-22), 5, 0, 0), (30, 1, .aload_n 0, 0, 0, 0), (31, 3, .getfield 127, 12, 47, 2), (34, 1, .iload_n 1, 0, 0, 0), (35, 1, .iload_n 2, 0, 0, 0), (36, 1, .iastore, 0, 0, 0), (37, 1, .aload_n 0, 0, 0, 0)]),
  (100000, [(38, 1, .dup, 0, 0, 0), (39, 3, .getfield 241, 12, 51, 0), (42, 1, .iconst 1, 0, 0, 0), (43, 1, .iadd, 0, 0, 0), (44, 3, .putfield 241, 12, 51, 0), (47, 1, .return_, 0, 0, 0)])]
theorem rwX12_inserts : rowsB (mB 195) (mO 195) (mX 195) (mIni 195) (mFr 195) (mLo 195) (mT 195) csX12_inserts = true := by decide +kernel
def bX12_inserts_5 (c5 : Int → Int → Int → HH → Option HH) (x1 : Int) (x2 : Int) (x3 : Int) (h : HH) : Option HH :=
  if (x1 : Int) < x3 then
    gd (R32 (x3 - 1)) <|
    gd ((0 : Int) ≤ (x3 - 1) ∧ (x3 - 1) < (10 : Int)) <|
    gd ((0 : Int) ≤ x3 ∧ x3 < (10 : Int)) <|
    bnd (some (hI h 105 x3 (h.1 105 (x3 - 1)))) fun h3 =>
    gd (R32 (x3 + (-1))) <|
    c5 x1 x2 (x3 + (-1)) h3
  else
    gd ((0 : Int) ≤ x1 ∧ x1 < (10 : Int)) <|
    bnd (some (hI h 105 x1 x2)) fun h1 =>
    gd (R32 ((h1.1 71 51) + 1)) <|
    bnd (some (hI h1 71 51 ((h1.1 71 51) + 1))) fun h2 =>
    some h2
set_option maxRecDepth 100000 in
theorem uX12_inserts_5 {g : SG} (hg : GOK g) {σ0 : SG} {c5 : Int → Int → Int → HH → Option HH} (k5 : ∀ (x1 : Int) (x2 : Int) (x3 : Int) (h : HH) (b : HH), c5 x1 x2 x3 h = some b → WK 195 (.inl none) σ0 (abH 71 119 g b) 5 [(0, aR 71), (1, aI x1), (2, aI x2), (3, aI x3)] [] (abH 71 119 g h) 0 0) : ∀ {x1 : Int} {x2 : Int} {x3 : Int} {h : HH} {b : HH}, bX12_inserts_5 c5 x1 x2 x3 h = some b → WK 195 (.inl none) σ0 (abH 71 119 g b) 5 [(0, aR 71), (1, aI x1), (2, aI x2), (3, aI x3)] [] (abH 71 119 g h) 0 0 := by
  intro x1 x2 x3 h b q
  have e : bX12_inserts_5 c5 x1 x2 x3 h = segW 71 119 g.2.2.2.2 krWV clN csX12_inserts (cuC 5 (fun l st s => tkC 0 71 l <| tkI 1 l fun x1 => tkI 2 l fun x2 => tkI 3 l fun x3 => skE st (c5 x1 x2 x3 s)) cuN) 1000 5 [(0, aR 71), (1, aI x1), (2, aI x2), (3, aI x3)] [] h := rfl
  rw [e] at q
  clear e
  refine segW_wk (by decide) (by decide) hg rwX12_inserts CLKW_N krWV_ok ?_ q
  clear q
  refine ct_C ?_ (ct_N)
  · intro l st h q
    obtain ⟨m0, q1⟩ := tkC_of q
    obtain ⟨x1, m1, q2⟩ := tkI_of q1
    obtain ⟨x2, m2, q3⟩ := tkI_of q2
    obtain ⟨x3, m3, q4⟩ := tkI_of q3
    obtain ⟨rfl, q5⟩ := skE_of q4
    exact WK_less (k5 _ _ _ _ _ q5) (List.forall_mem_cons.mpr ⟨m0, (List.forall_mem_cons.mpr ⟨m1, (List.forall_mem_cons.mpr ⟨m2, (List.forall_mem_cons.mpr ⟨m3, (fun _ h => absurd h List.not_mem_nil)⟩)⟩)⟩)⟩)
def nX12_inserts_5 : Nat → Int → Int → Int → HH → Option HH := iter (fun _ _ _ _ => none) (fun self => bX12_inserts_5 self)
theorem nX12_inserts_5_s {F : Nat} : nX12_inserts_5 (F + 1) = bX12_inserts_5 (nX12_inserts_5 F) := rfl
theorem wX12_inserts_5 {g : SG} (hg : GOK g) {σ0 : SG} : ∀ {F : Nat}, ∀ {x1 : Int} {x2 : Int} {x3 : Int} {h : HH} {b : HH}, nX12_inserts_5 F x1 x2 x3 h = some b → WK 195 (.inl none) σ0 (abH 71 119 g b) 5 [(0, aR 71), (1, aI x1), (2, aI x2), (3, aI x3)] [] (abH 71 119 g h) 0 0 := by
  intro F
  have z : ∀ (x1 : Int) (x2 : Int) (x3 : Int) (h : HH) (b : HH), nX12_inserts_5 F x1 x2 x3 h = some b → WK 195 (.inl none) σ0 (abH 71 119 g b) 5 [(0, aR 71), (1, aI x1), (2, aI x2), (3, aI x3)] [] (abH 71 119 g h) 0 0 := iter_ind (P := fun (c : Int → Int → Int → HH → Option HH) => ∀ (x1 : Int) (x2 : Int) (x3 : Int) (h : HH) (b : HH), c x1 x2 x3 h = some b → WK 195 (.inl none) σ0 (abH 71 119 g b) 5 [(0, aR 71), (1, aI x1), (2, aI x2), (3, aI x3)] [] (abH 71 119 g h) 0 0) (by
    intro x1 x2 x3 h b q
    cases q) (fun self ih => by
    intro x1 x2 x3 h b q
    exact uX12_inserts_5 hg ih q) F
  intro x1 x2 x3 h b q
  exact z _ _ _ _ _ q
def bX12_inserts (c5 : Int → Int → Int → HH → Option HH) (x1 : Int) (x2 : Int) (h : HH) : Option HH :=
  c5 x1 x2 (h.1 71 51) h
theorem uX12_inserts {g : SG} (hg : GOK g) {σ0 : SG} {c5 : Int → Int → Int → HH → Option HH} (k5 : ∀ (x1 : Int) (x2 : Int) (x3 : Int) (h : HH) (b : HH), c5 x1 x2 x3 h = some b → WK 195 (.inl none) σ0 (abH 71 119 g b) 5 [(0, aR 71), (1, aI x1), (2, aI x2), (3, aI x3)] [] (abH 71 119 g h) 0 0) : ∀ {x1 : Int} {x2 : Int} {h : HH} {b : HH}, bX12_inserts c5 x1 x2 h = some b → WK 195 (.inl none) σ0 (abH 71 119 g b) 0 [(0, aR 71), (1, aI x1), (2, aI x2)] [] (abH 71 119 g h) 0 0 := by
  intro x1 x2 h b q
  have e : bX12_inserts c5 x1 x2 h = segW 71 119 g.2.2.2.2 krWV clN csX12_inserts (cuC 5 (fun l st s => tkC 0 71 l <| tkI 1 l fun x1 => tkI 2 l fun x2 => tkI 3 l fun x3 => skE st (c5 x1 x2 x3 s)) cuN) 1000 0 [(0, aR 71), (1, aI x1), (2, aI x2)] [] h := rfl
  rw [e] at q
  clear e
  refine segW_wk (by decide) (by decide) hg rwX12_inserts CLKW_N krWV_ok ?_ q
  clear q
  refine ct_C ?_ (ct_N)
  · intro l st h q
    obtain ⟨m0, q1⟩ := tkC_of q
    obtain ⟨x1, m1, q2⟩ := tkI_of q1
    obtain ⟨x2, m2, q3⟩ := tkI_of q2
    obtain ⟨x3, m3, q4⟩ := tkI_of q3
    obtain ⟨rfl, q5⟩ := skE_of q4
    exact WK_less (k5 _ _ _ _ _ q5) (List.forall_mem_cons.mpr ⟨m0, (List.forall_mem_cons.mpr ⟨m1, (List.forall_mem_cons.mpr ⟨m2, (List.forall_mem_cons.mpr ⟨m3, (fun _ h => absurd h List.not_mem_nil)⟩)⟩)⟩)⟩)
def nX12_inserts (x1 : Int) (x2 : Int) (h : HH) : Option HH := bX12_inserts (nX12_inserts_5 100000) x1 x2 h
theorem wX12_inserts {g : SG} (hg : GOK g) {σ0 : SG} : ∀ {x1 : Int} {x2 : Int} {h : HH} {b : HH}, nX12_inserts x1 x2 h = some b → WK 195 (.inl none) σ0 (abH 71 119 g b) 0 [(0, aR 71), (1, aI x1), (2, aI x2)] [] (abH 71 119 g h) 0 0 := by
  intro x1 x2 h b q
  exact uX12_inserts hg (fun _ _ _ _ _ q => wX12_inserts_5 hg q) q
theorem mX12_inserts {g : SG} (hg : GOK g) {h : HH} {x1 : Int} {x2 : Int} {b : HH} (q : nX12_inserts x1 x2 h = some b) : MCT 195 [] [aR 71, aI x1, aI x2] (abH 71 119 g h) (.inl none) (abH 71 119 g b) :=
  mct_of (by decide) (MFok 195 (by decide +kernel)) (fun _ => Nat.le_of_ble_eq_true rfl) (wX12_inserts hg q)
def pX12_inserts {β : Type} (z : Int → Int → HH → Option HH) : PW β := fun as h f => skC 71 as fun as => skI as fun x1 as => skI as fun x2 as => skE as (bnd (z x1 x2 h) fun r => f (.inl none) r)
theorem pX12_inserts_ok {β : Type} {g : SG} (hg : GOK g) : CW1 (β := β) 195 (pX12_inserts nX12_inserts) 71 119 g := fun as h f b q => by
  obtain ⟨as, rfl, q1⟩ := skC_of q
  obtain ⟨x1, as, rfl, q2⟩ := skI_of q1
  obtain ⟨x2, as, rfl, q3⟩ := skI_of q2
  obtain ⟨rfl, q0⟩ := skE_of q3
  obtain ⟨r, z1, z2⟩ := bnd_of q0
  exact ⟨_, _, z2, by decide, mX12_inserts hg z1, rfl, rfl, fun z => absurd z (by decide)⟩
def csX12_removes : List (Nat × List (Nat × ARow)) := [(40, [(0, 1, .aload_n 0, 0, 0, 0), (1, 1, .dup, 0, 0, 0), (2, 3, .getfield 241, 12, 51, 0), (5, 1, .iconst 1, 0, 0, 0), (6, 1, .isub, 0, 0, 0), (7, 3, .putfield 241, 12, 51, 0), (10, 1, .iload_n 1, 0, 0, 0), (11, 1, .istore_n 2, 0, 0, 0), (12, 1, .iload_n 2, 0, 0, 0), (13, 1, .aload_n 0, 0, 0, 0), (14, 3, .getfield 241, 12, 51, 0), (17, 3, .if_icmp .ge 23, 40, 0, 0), (20, 1, .aload_n 0, 0, 0, 0), (21, 3, .getfield 127, 12, 47, 2), (24, 1, .iload_n 2, 0, 0, 0), (25, 1, .aload_n 0, 0, 0, 0), (26, 3, .getfield 127, 12, 47, 2), (29, 1, .iload_n 2, 0, 0, 0), (30, 1, .iconst 1, 0, 0, 0), (31, 1, .iadd, 0, 0, 0), (32, 1, .iaload, 0, 0, 0), (33, 1, .iastore, 0, 0, 0), (34, 3, .iinc 2 1, 0, 0, 0), (37, 3, .goto (-25), 12, 0, 0)]),
  (100000, [(40, 1, .return_, 0, 0, 0)])]
theorem rwX12_removes : rowsB (mB 196) (mO 196) (mX 196) (mIni 196) (mFr 196) (mLo 196) (mT 196) csX12_removes = true := by decide +kernel
def bX12_removes_12 (c12 : Int → HH → Option HH) (x2 : Int) (h : HH) : Option HH :=
  if x2 < ((h.1 71 51) : Int) then
    gd (R32 (x2 + 1)) <|
    gd ((0 : Int) ≤ (x2 + 1) ∧ (x2 + 1) < (10 : Int)) <|
    gd ((0 : Int) ≤ x2 ∧ x2 < (10 : Int)) <|
    bnd (some (hI h 105 x2 (h.1 105 (x2 + 1)))) fun h1 =>
    gd (R32 (x2 + 1)) <|
    c12 (x2 + 1) h1
  else
    some h
theorem uX12_removes_12 {g : SG} (hg : GOK g) {σ0 : SG} {c12 : Int → HH → Option HH} (k12 : ∀ (x2 : Int) (h : HH) (b : HH), c12 x2 h = some b → WK 196 (.inl none) σ0 (abH 71 119 g b) 12 [(0, aR 71), (2, aI x2)] [] (abH 71 119 g h) 0 0) : ∀ {x2 : Int} {h : HH} {b : HH}, bX12_removes_12 c12 x2 h = some b → WK 196 (.inl none) σ0 (abH 71 119 g b) 12 [(0, aR 71), (2, aI x2)] [] (abH 71 119 g h) 0 0 := by
  intro x2 h b q
  have e : bX12_removes_12 c12 x2 h = segW 71 119 g.2.2.2.2 krWV clN csX12_removes (cuC 12 (fun l st s => tkC 0 71 l <| tkI 2 l fun x2 => skE st (c12 x2 s)) cuN) 1000 12 [(0, aR 71), (2, aI x2)] [] h := rfl
  rw [e] at q
  clear e
  refine segW_wk (by decide) (by decide) hg rwX12_removes CLKW_N krWV_ok ?_ q
  clear q
  refine ct_C ?_ (ct_N)
  · intro l st h q
    obtain ⟨m0, q1⟩ := tkC_of q
    obtain ⟨x2, m2, q2⟩ := tkI_of q1
    obtain ⟨rfl, q3⟩ := skE_of q2
    exact WK_less (k12 _ _ _ q3) (List.forall_mem_cons.mpr ⟨m0, (List.forall_mem_cons.mpr ⟨m2, (fun _ h => absurd h List.not_mem_nil)⟩)⟩)
def nX12_removes_12 : Nat → Int → HH → Option HH := iter (fun _ _ => none) (fun self => bX12_removes_12 self)
theorem nX12_removes_12_s {F : Nat} : nX12_removes_12 (F + 1) = bX12_removes_12 (nX12_removes_12 F) := rfl
theorem wX12_removes_12 {g : SG} (hg : GOK g) {σ0 : SG} : ∀ {F : Nat}, ∀ {x2 : Int} {h : HH} {b : HH}, nX12_removes_12 F x2 h = some b → WK 196 (.inl none) σ0 (abH 71 119 g b) 12 [(0, aR 71), (2, aI x2)] [] (abH 71 119 g h) 0 0 := by
  intro F
  have z : ∀ (x2 : Int) (h : HH) (b : HH), nX12_removes_12 F x2 h = some b → WK 196 (.inl none) σ0 (abH 71 119 g b) 12 [(0, aR 71), (2, aI x2)] [] (abH 71 119 g h) 0 0 := iter_ind (P := fun (c : Int → HH → Option HH) => ∀ (x2 : Int) (h : HH) (b : HH), c x2 h = some b → WK 196 (.inl none) σ0 (abH 71 119 g b) 12 [(0, aR 71), (2, aI x2)] [] (abH 71 119 g h) 0 0) (by
    intro x2 h b q
    cases q) (fun self ih => by
    intro x2 h b q
    exact uX12_removes_12 hg ih q) F
  intro x2 h b q
  exact z _ _ _ q
def bX12_removes (c12 : Int → HH → Option HH) (x1 : Int) (h : HH) : Option HH :=
  gd (R32 ((h.1 71 51) - 1)) <|
    bnd (some (hI h 71 51 ((h.1 71 51) - 1))) fun h1 =>
    c12 x1 h1
theorem uX12_removes {g : SG} (hg : GOK g) {σ0 : SG} {c12 : Int → HH → Option HH} (k12 : ∀ (x2 : Int) (h : HH) (b : HH), c12 x2 h = some b → WK 196 (.inl none) σ0 (abH 71 119 g b) 12 [(0, aR 71), (2, aI x2)] [] (abH 71 119 g h) 0 0) : ∀ {x1 : Int} {h : HH} {b : HH}, bX12_removes c12 x1 h = some b → WK 196 (.inl none) σ0 (abH 71 119 g b) 0 [(0, aR 71), (1, aI x1)] [] (abH 71 119 g h) 0 0 := by
  intro x1 h b q
  have e : bX12_removes c12 x1 h = segW 71 119 g.2.2.2.2 krWV clN csX12_removes (cuC 12 (fun l st s => tkC 0 71 l <| tkI 2 l fun x2 => skE st (c12 x2 s)) cuN) 1000 0 [(0, aR 71), (1, aI x1)] [] h := rfl
  rw [e] at q
  clear e
  refine segW_wk (by decide) (by decide) hg rwX12_removes CLKW_N krWV_ok ?_ q
  clear q
  refine ct_C ?_ (ct_N)
  · intro l st h q
    obtain ⟨m0, q1⟩ := tkC_of q
    obtain ⟨x2, m2, q2⟩ := tkI_of q1
    obtain ⟨rfl, q3⟩ := skE_of q2
    exact WK_less (k12 _ _ _ q3) (List.forall_mem_cons.mpr ⟨m0, (List.forall_mem_cons.mpr ⟨m2, (fun _ h => absurd h List.not_mem_nil)⟩)⟩)
def nX12_removes (x1 : Int) (h : HH) : Option HH := bX12_removes (nX12_removes_12 100000) x1 h
theorem wX12_removes {g : SG} (hg : GOK g) {σ0 : SG} : ∀ {x1 : Int} {h : HH} {b : HH}, nX12_removes x1 h = some b → WK 196 (.inl none) σ0 (abH 71 119 g b) 0 [(0, aR 71), (1, aI x1)] [] (abH 71 119 g h) 0 0 := by
  intro x1 h b q
  exact uX12_removes hg (fun _ _ _ q => wX12_removes_12 hg q) q
theorem mX12_removes {g : SG} (hg : GOK g) {h : HH} {x1 : Int} {b : HH} (q : nX12_removes x1 h = some b) : MCT 196 [] [aR 71, aI x1] (abH 71 119 g h) (.inl none) (abH 71 119 g b) :=
  mct_of (by decide) (MFok 196 (by decide +kernel)) (fun _ => Nat.le_of_ble_eq_true rfl) (wX12_removes hg q)
def pX12_removes {β : Type} (z : Int → HH → Option HH) : PW β := fun as h f => skC 71 as fun as => skI as fun x1 as => skE as (bnd (z x1 h) fun r => f (.inl none) r)
theorem pX12_removes_ok {β : Type} {g : SG} (hg : GOK g) : CW1 (β := β) 196 (pX12_removes nX12_removes) 71 119 g := fun as h f b q => by
  obtain ⟨as, rfl, q1⟩ := skC_of q
  obtain ⟨x1, as, rfl, q2⟩ := skI_of q1
  obtain ⟨rfl, q0⟩ := skE_of q2
  obtain ⟨r, z1, z2⟩ := bnd_of q0
  exact ⟨_, _, z2, by decide, mX12_removes hg z1, rfl, rfl, fun z => absurd z (by decide)⟩
def csX12_costOf : List (Nat × List (Nat × ARow)) := [(100000, [(0, 1, .aload_n 0, 0, 0, 0), (1, 1, .iload_n 1, 0, 0, 0), (2, 3, .invokevirtual 250, 193, 2, 12), (5, 1, .aload_n 0, 0, 0, 0), (6, 1, .iload_n 1, 0, 0, 0), (7, 3, .invokevirtual 254, 192, 2, 12), (10, 1, .ireturn, 0, 0, 0)])]
theorem rwX12_costOf : rowsB (mB 197) (mO 197) (mX 197) (mIni 197) (mFr 197) (mLo 197) (mT 197) csX12_costOf = true := by decide +kernel
def bX12_costOf (f193 : Int → HH → Option HH) (f192 : Int → HH → Option (Int × HH)) (x1 : Int) (h : HH) : Option (Int × HH) :=
  bnd (f193 x1 h) fun r1 =>
    bnd (f192 x1 r1) fun r2 =>
    some (r2.1, r2.2)
theorem uX12_costOf {g : SG} (hg : GOK g) {σ0 : SG} : ∀ {x1 : Int} {h : HH} {b : (Int × HH)}, bX12_costOf nX12_loads nX12_drives x1 h = some b → WK 197 (.inl (some (aI b.1))) σ0 (abH 71 119 g b.2) 0 [(0, aR 71), (1, aI x1)] [] (abH 71 119 g h) 0 0 := by
  intro x1 h b q
  have e : ∀ (f193 : Int → HH → Option HH) (f192 : Int → HH → Option (Int × HH)) , bX12_costOf f193 f192 x1 h = segW 71 119 g.2.2.2.2 krWI (clC 193 (pX12_loads f193) (clC 192 (pX12_drives f192) clN)) csX12_costOf cuN 1000 0 [(0, aR 71), (1, aI x1)] [] h := fun _ _ => rfl
  rw [e nX12_loads nX12_drives] at q
  clear e
  refine segW_wk (by decide) (by decide) hg rwX12_costOf (CLKW_C (pX12_loads_ok hg) (CLKW_C (pX12_drives_ok hg) CLKW_N)) krWI_ok ?_ q
  clear q
  exact ct_N
def nX12_costOf (x1 : Int) (h : HH) : Option (Int × HH) := bX12_costOf nX12_loads nX12_drives x1 h
theorem wX12_costOf {g : SG} (hg : GOK g) {σ0 : SG} : ∀ {x1 : Int} {h : HH} {b : (Int × HH)}, nX12_costOf x1 h = some b → WK 197 (.inl (some (aI b.1))) σ0 (abH 71 119 g b.2) 0 [(0, aR 71), (1, aI x1)] [] (abH 71 119 g h) 0 0 := by
  intro x1 h b q
  exact uX12_costOf hg q
theorem mX12_costOf {g : SG} (hg : GOK g) {h : HH} {x1 : Int} {b : (Int × HH)} (q : nX12_costOf x1 h = some b) : MCT 197 [] [aR 71, aI x1] (abH 71 119 g h) (.inl (some (aI b.1))) (abH 71 119 g b.2) :=
  mct_of (by decide) (MFok 197 (by decide +kernel)) (fun _ => Nat.le_of_ble_eq_true rfl) (wX12_costOf hg q)
def pX12_costOf {β : Type} (z : Int → HH → Option (Int × HH)) : PW β := fun as h f => skC 71 as fun as => skI as fun x1 as => skE as (bnd (z x1 h) fun r => f (.inl (some (aI r.1))) r.2)
theorem pX12_costOf_ok {β : Type} {g : SG} (hg : GOK g) : CW1 (β := β) 197 (pX12_costOf nX12_costOf) 71 119 g := fun as h f b q => by
  obtain ⟨as, rfl, q1⟩ := skC_of q
  obtain ⟨x1, as, rfl, q2⟩ := skI_of q1
  obtain ⟨rfl, q0⟩ := skE_of q2
  obtain ⟨r, z1, z2⟩ := bnd_of q0
  exact ⟨_, _, z2, by decide, mX12_costOf hg z1, rfl, rfl, fun z => absurd z (by decide)⟩
def csX12_placeInRound : List (Nat × List (Nat × ARow)) := [(100000, [(0, 1, .iconst 0, 0, 0, 0), (1, 1, .istore_n 3, 0, 0, 0), (2, 1, .aload_n 0, 0, 0, 0), (3, 3, .getfield 76, 12, 25, 2), (6, 2, .bipush 9, 0, 0, 0), (8, 1, .iload_n 1, 0, 0, 0), (9, 1, .imul, 0, 0, 0), (10, 1, .iload_n 3, 0, 0, 0), (11, 1, .iadd, 0, 0, 0), (12, 1, .iaload, 0, 0, 0), (13, 1, .iload_n 2, 0, 0, 0), (14, 3, .if_icmp .eq 9, 23, 0, 0), (17, 3, .iinc 3 1, 0, 0, 0), (20, 3, .goto (-18), 2, 0, 0), (23, 1, .iload_n 3, 0, 0, 0), (24, 1, .ireturn, 0, 0, 0)])]
theorem rwX12_placeInRound : rowsB (mB 198) (mO 198) (mX 198) (mIni 198) (mFr 198) (mLo 198) (mT 198) csX12_placeInRound = true := by decide +kernel
def bX12_placeInRound_2 (h : HH) (c2 : Int → Int → Int → Option Int) (x1 : Int) (x2 : Int) (x3 : Int) : Option Int :=
  gd (R32 (9 * x1)) <|
    gd (R32 ((9 * x1) + x3)) <|
    gd ((0 : Int) ≤ ((9 * x1) + x3) ∧ ((9 * x1) + x3) < (27 : Int)) <|
    if (h.1 94 ((9 * x1) + x3)) = (x2 : Int) then
    some x3
  else
    gd (R32 (x3 + 1)) <|
    c2 x1 x2 (x3 + 1)
theorem uX12_placeInRound_2 {g : SG} (hg : GOK g) {σ0 : SG} {h : HH} {c2 : Int → Int → Int → Option Int} (k2 : ∀ (x1 : Int) (x2 : Int) (x3 : Int) (b : Int), c2 x1 x2 x3 = some b → WK 198 (.inl (some (aI b))) σ0 (abH 71 119 g h) 2 [(0, aR 71), (1, aI x1), (2, aI x2), (3, aI x3)] [] (abH 71 119 g h) 0 0) : ∀ {x1 : Int} {x2 : Int} {x3 : Int} {b : Int}, bX12_placeInRound_2 h c2 x1 x2 x3 = some b → WK 198 (.inl (some (aI b))) σ0 (abH 71 119 g h) 2 [(0, aR 71), (1, aI x1), (2, aI x2), (3, aI x3)] [] (abH 71 119 g h) 0 0 := by
  intro x1 x2 x3 b q
  have e : bX12_placeInRound_2 h c2 x1 x2 x3 = segP 71 119 g.2.2.2.2 h krPI clNP csX12_placeInRound (cuC 2 (fun l st s => tkC 0 71 l <| tkI 1 l fun x1 => tkI 2 l fun x2 => tkI 3 l fun x3 => skE st (c2 x1 x2 x3)) cuN) 1000 2 [(0, aR 71), (1, aI x1), (2, aI x2), (3, aI x3)] [] := rfl
  rw [e] at q
  clear e
  refine segP_wk (by decide) (by decide) hg rwX12_placeInRound CLKP_N krPI_ok ?_ q
  clear q
  refine ct_C ?_ (ct_N)
  · intro l st _ q
    obtain ⟨m0, q1⟩ := tkC_of q
    obtain ⟨x1, m1, q2⟩ := tkI_of q1
    obtain ⟨x2, m2, q3⟩ := tkI_of q2
    obtain ⟨x3, m3, q4⟩ := tkI_of q3
    obtain ⟨rfl, q5⟩ := skE_of q4
    exact WK_less (k2 _ _ _ _ q5) (List.forall_mem_cons.mpr ⟨m0, (List.forall_mem_cons.mpr ⟨m1, (List.forall_mem_cons.mpr ⟨m2, (List.forall_mem_cons.mpr ⟨m3, (fun _ h => absurd h List.not_mem_nil)⟩)⟩)⟩)⟩)
def nX12_placeInRound_2 (h : HH) : Nat → Int → Int → Int → Option Int := iter (fun _ _ _ => none) (fun self => bX12_placeInRound_2 h self)
theorem nX12_placeInRound_2_s {h : HH} {F : Nat} : nX12_placeInRound_2 h (F + 1) = bX12_placeInRound_2 h (nX12_placeInRound_2 h F) := rfl
theorem wX12_placeInRound_2 {g : SG} (hg : GOK g) {σ0 : SG} {h : HH} : ∀ {F : Nat}, ∀ {x1 : Int} {x2 : Int} {x3 : Int} {b : Int}, nX12_placeInRound_2 h F x1 x2 x3 = some b → WK 198 (.inl (some (aI b))) σ0 (abH 71 119 g h) 2 [(0, aR 71), (1, aI x1), (2, aI x2), (3, aI x3)] [] (abH 71 119 g h) 0 0 := by
  intro F
  have z : ∀ (x1 : Int) (x2 : Int) (x3 : Int) (b : Int), nX12_placeInRound_2 h F x1 x2 x3 = some b → WK 198 (.inl (some (aI b))) σ0 (abH 71 119 g h) 2 [(0, aR 71), (1, aI x1), (2, aI x2), (3, aI x3)] [] (abH 71 119 g h) 0 0 := iter_ind (P := fun (c : Int → Int → Int → Option Int) => ∀ (x1 : Int) (x2 : Int) (x3 : Int) (b : Int), c x1 x2 x3 = some b → WK 198 (.inl (some (aI b))) σ0 (abH 71 119 g h) 2 [(0, aR 71), (1, aI x1), (2, aI x2), (3, aI x3)] [] (abH 71 119 g h) 0 0) (by
    intro x1 x2 x3 b q
    cases q) (fun self ih => by
    intro x1 x2 x3 b q
    exact uX12_placeInRound_2 hg ih q) F
  intro x1 x2 x3 b q
  exact z _ _ _ _ q
def bX12_placeInRound (h : HH) (c2 : Int → Int → Int → Option Int) (x1 : Int) (x2 : Int) : Option Int :=
  c2 x1 x2 0
theorem uX12_placeInRound {g : SG} (hg : GOK g) {σ0 : SG} {h : HH} {c2 : Int → Int → Int → Option Int} (k2 : ∀ (x1 : Int) (x2 : Int) (x3 : Int) (b : Int), c2 x1 x2 x3 = some b → WK 198 (.inl (some (aI b))) σ0 (abH 71 119 g h) 2 [(0, aR 71), (1, aI x1), (2, aI x2), (3, aI x3)] [] (abH 71 119 g h) 0 0) : ∀ {x1 : Int} {x2 : Int} {b : Int}, bX12_placeInRound h c2 x1 x2 = some b → WK 198 (.inl (some (aI b))) σ0 (abH 71 119 g h) 0 [(0, aR 71), (1, aI x1), (2, aI x2)] [] (abH 71 119 g h) 0 0 := by
  intro x1 x2 b q
  have e : bX12_placeInRound h c2 x1 x2 = segP 71 119 g.2.2.2.2 h krPI clNP csX12_placeInRound (cuC 2 (fun l st s => tkC 0 71 l <| tkI 1 l fun x1 => tkI 2 l fun x2 => tkI 3 l fun x3 => skE st (c2 x1 x2 x3)) cuN) 1000 0 [(0, aR 71), (1, aI x1), (2, aI x2)] [] := rfl
  rw [e] at q
  clear e
  refine segP_wk (by decide) (by decide) hg rwX12_placeInRound CLKP_N krPI_ok ?_ q
  clear q
  refine ct_C ?_ (ct_N)
  · intro l st _ q
    obtain ⟨m0, q1⟩ := tkC_of q
    obtain ⟨x1, m1, q2⟩ := tkI_of q1
    obtain ⟨x2, m2, q3⟩ := tkI_of q2
    obtain ⟨x3, m3, q4⟩ := tkI_of q3
    obtain ⟨rfl, q5⟩ := skE_of q4
    exact WK_less (k2 _ _ _ _ q5) (List.forall_mem_cons.mpr ⟨m0, (List.forall_mem_cons.mpr ⟨m1, (List.forall_mem_cons.mpr ⟨m2, (List.forall_mem_cons.mpr ⟨m3, (fun _ h => absurd h List.not_mem_nil)⟩)⟩)⟩)⟩)
def nX12_placeInRound (h : HH) (x1 : Int) (x2 : Int) : Option Int := bX12_placeInRound h (nX12_placeInRound_2 h 100000) x1 x2
theorem wX12_placeInRound {g : SG} (hg : GOK g) {σ0 : SG} {h : HH} : ∀ {x1 : Int} {x2 : Int} {b : Int}, nX12_placeInRound h x1 x2 = some b → WK 198 (.inl (some (aI b))) σ0 (abH 71 119 g h) 0 [(0, aR 71), (1, aI x1), (2, aI x2)] [] (abH 71 119 g h) 0 0 := by
  intro x1 x2 b q
  exact uX12_placeInRound hg (fun _ _ _ _ q => wX12_placeInRound_2 hg q) q
theorem mX12_placeInRound {g : SG} (hg : GOK g) {h : HH} {x1 : Int} {x2 : Int} {b : Int} (q : nX12_placeInRound h x1 x2 = some b) : MCT 198 [] [aR 71, aI x1, aI x2] (abH 71 119 g h) (.inl (some (aI b))) (abH 71 119 g h) :=
  mct_of (by decide) (MFok 198 (by decide +kernel)) (fun _ => Nat.le_of_ble_eq_true rfl) (wX12_placeInRound hg q)
def pX12_placeInRound {β : Type} (z : HH → Int → Int → Option Int) : PP β := fun h as f => skC 71 as fun as => skI as fun x1 as => skI as fun x2 as => skE as (bnd (z h x1 x2) fun r => f (.inl (some (aI r))))
theorem pX12_placeInRound_ok {β : Type} {g : SG} (hg : GOK g) : CP1 (β := β) 198 (pX12_placeInRound nX12_placeInRound) 71 119 g := fun h as f b q => by
  obtain ⟨as, rfl, q1⟩ := skC_of q
  obtain ⟨x1, as, rfl, q2⟩ := skI_of q1
  obtain ⟨x2, as, rfl, q3⟩ := skI_of q2
  obtain ⟨rfl, q0⟩ := skE_of q3
  obtain ⟨r, z1, z2⟩ := bnd_of q0
  exact ⟨_, z2, by decide, mX12_placeInRound hg z1, rfl, rfl, fun z => absurd z (by decide)⟩
def csX12_canBePut : List (Nat × List (Nat × ARow)) := [(100000, [(0, 1, .aload_n 0, 0, 0, 0), (1, 3, .getfield 55, 12, 17, 2), (4, 1, .iload_n 1, 0, 0, 0), (5, 1, .iaload, 0, 0, 0), (6, 3, .ifCond .ne 17, 23, 0, 0), (9, 1, .aload_n 0, 0, 0, 0), (10, 3, .getfield 64, 12, 20, 2), (13, 1, .iload_n 1, 0, 0, 0), (14, 1, .iaload, 0, 0, 0), (15, 1, .iconst (-1), 0, 0, 0), (16, 3, .if_icmp .ne 7, 23, 0, 0), (19, 1, .iconst 1, 0, 0, 0), (20, 3, .goto 4, 24, 0, 0), (23, 1, .iconst 0, 0, 0, 0), (24, 1, .ireturn, 1, 0, 0)])]
theorem rwX12_canBePut : rowsB (mB 199) (mO 199) (mX 199) (mIni 199) (mFr 199) (mLo 199) (mT 199) csX12_canBePut = true := by decide +kernel
def bX12_canBePut (h : HH) (x1 : Int) : Option Int :=
  gd ((0 : Int) ≤ x1 ∧ x1 < (9 : Int)) <|
    if (h.1 87 x1) = (0 : Int) then
    gd ((0 : Int) ≤ x1 ∧ x1 < (9 : Int)) <|
    if (h.1 90 x1) = ((-1) : Int) then
    gd ((0 : Int) ≤ 1 ∧ 1 ≤ (1 : Int)) <|
    some 1
  else
    gd ((0 : Int) ≤ 0 ∧ 0 ≤ (1 : Int)) <|
    some 0
  else
    gd ((0 : Int) ≤ 0 ∧ 0 ≤ (1 : Int)) <|
    some 0
set_option maxRecDepth 100000 in
theorem uX12_canBePut {g : SG} (hg : GOK g) {σ0 : SG} {h : HH} : ∀ {x1 : Int} {b : Int}, bX12_canBePut h x1 = some b → WK 199 (.inl (some (aI b))) σ0 (abH 71 119 g h) 0 [(0, aR 71), (1, aI x1)] [] (abH 71 119 g h) 0 0 := by
  intro x1 b q
  have e : bX12_canBePut h x1 = segP 71 119 g.2.2.2.2 h krPI clNP csX12_canBePut cuN 1000 0 [(0, aR 71), (1, aI x1)] [] := rfl
  rw [e] at q
  clear e
  refine segP_wk (by decide) (by decide) hg rwX12_canBePut CLKP_N krPI_ok ?_ q
  clear q
  exact ct_N
def nX12_canBePut (h : HH) (x1 : Int) : Option Int := bX12_canBePut h x1
theorem wX12_canBePut {g : SG} (hg : GOK g) {σ0 : SG} {h : HH} : ∀ {x1 : Int} {b : Int}, nX12_canBePut h x1 = some b → WK 199 (.inl (some (aI b))) σ0 (abH 71 119 g h) 0 [(0, aR 71), (1, aI x1)] [] (abH 71 119 g h) 0 0 := by
  intro x1 b q
  exact uX12_canBePut hg q
theorem mX12_canBePut {g : SG} (hg : GOK g) {h : HH} {x1 : Int} {b : Int} (q : nX12_canBePut h x1 = some b) : MCT 199 [] [aR 71, aI x1] (abH 71 119 g h) (.inl (some (aI b))) (abH 71 119 g h) :=
  mct_of (by decide) (MFok 199 (by decide +kernel)) (fun _ => Nat.le_of_ble_eq_true rfl) (wX12_canBePut hg q)
def pX12_canBePut {β : Type} (z : HH → Int → Option Int) : PP β := fun h as f => skC 71 as fun as => skI as fun x1 as => skE as (bnd (z h x1) fun r => f (.inl (some (aI r))))
theorem pX12_canBePut_ok {β : Type} {g : SG} (hg : GOK g) : CP1 (β := β) 199 (pX12_canBePut nX12_canBePut) 71 119 g := fun h as f b q => by
  obtain ⟨as, rfl, q1⟩ := skC_of q
  obtain ⟨x1, as, rfl, q2⟩ := skI_of q1
  obtain ⟨rfl, q0⟩ := skE_of q2
  obtain ⟨r, z1, z2⟩ := bnd_of q0
  exact ⟨_, z2, by decide, mX12_canBePut hg z1, rfl, rfl, fun z => absurd z (by decide)⟩
def csX12_keeps : List (Nat × List (Nat × ARow)) := [(42, [(0, 1, .aload_n 0, 0, 0, 0), (1, 3, .getfield 223, 12, 30, 0), (4, 2, .bipush 20, 0, 0, 0), (6, 3, .if_icmp .ne 79, 85, 0, 0), (9, 1, .aload_n 0, 0, 0, 0), (10, 1, .dup, 0, 0, 0), (11, 3, .getfield 223, 12, 30, 0), (14, 1, .iconst 1, 0, 0, 0), (15, 1, .isub, 0, 0, 0), (16, 3, .putfield 223, 12, 30, 0), (19, 1, .iconst 0, 0, 0, 0), (20, 1, .istore_n 1, 0, 0, 0), (21, 1, .iload_n 1, 0, 0, 0), (22, 2, .bipush 27, 0, 0, 0), (24, 1, .aload_n 0, 0, 0, 0), (25, 3, .getfield 223, 12, 30, 0), (28, 1, .imul, 0, 0, 0), (29, 3, .if_icmp .ge 24, 53, 0, 0), (32, 1, .aload_n 0, 0, 0, 0), (33, 3, .getfield 82, 12, 28, 2), (36, 1, .iload_n 1, 0, 0, 0), (37, 1, .aload_n 0, 0, 0, 0), (38, 3, .getfield 82, 12, 28, 2), (41, 1, .iload_n 1, 0, 0, 0)]),
  (79, [(42, 2, .bipush 27, 0, 0, 0), (44, 1, .iadd, 0, 0, 0), (45, 1, .iaload, 0, 0, 0), (46, 1, .iastore, 0, 0, 0), (47, 3, .iinc 1 1, 0, 0, 0), (50, 3, .goto (-29), 21, 0, 0), (53, 1, .iconst 0, 0, 0, 0), (54, 1, .istore_n 1, 0, 0, 0), (55, 1, .iload_n 1, 0, 0, 0), (56, 1, .iconst 3, 0, 0, 0), (57, 1, .aload_n 0, 0, 0, 0), (58, 3, .getfield 223, 12, 30, 0), (61, 1, .imul, 0, 0, 0), (62, 3, .if_icmp .ge 23, 85, 0, 0), (65, 1, .aload_n 0, 0, 0, 0), (66, 3, .getfield 85, 12, 29, 2), (69, 1, .iload_n 1, 0, 0, 0), (70, 1, .aload_n 0, 0, 0, 0), (71, 3, .getfield 85, 12, 29, 2), (74, 1, .iload_n 1, 0, 0, 0), (75, 1, .iconst 3, 0, 0, 0), (76, 1, .iadd, 0, 0, 0), (77, 1, .iaload, 0, 0, 0), (78, 1, .iastore, 0, 0, 0)]),
  (121, [(79, 3, .iinc 1 1, 0, 0, 0), (82, 3, .goto (-27), 55, 0, 0), (85, 1, .iconst 0, 0, 0, 0), (86, 1, .istore_n 1, 0, 0, 0), (87, 1, .iload_n 1, 0, 0, 0), (88, 2, .bipush 27, 0, 0, 0), (90, 3, .if_icmp .ge 29, 119, 0, 0), (93, 1, .aload_n 0, 0, 0, 0), (94, 3, .getfield 82, 12, 28, 2), (97, 2, .bipush 27, 0, 0, 0), (99, 1, .aload_n 0, 0, 0, 0), (100, 3, .getfield 223, 12, 30, 0), (103, 1, .imul, 0, 0, 0), (104, 1, .iload_n 1, 0, 0, 0), (105, 1, .iadd, 0, 0, 0), (106, 1, .aload_n 0, 0, 0, 0), (107, 3, .getfield 76, 12, 25, 2), (110, 1, .iload_n 1, 0, 0, 0), (111, 1, .iaload, 0, 0, 0), (112, 1, .iastore, 0, 0, 0), (113, 3, .iinc 1 1, 0, 0, 0), (116, 3, .goto (-29), 87, 0, 0), (119, 1, .iconst 0, 0, 0, 0), (120, 1, .istore_n 1, 0, 0, 0)]),
  (161, [(121, 1, .iload_n 1, 0, 0, 0), (122, 1, .iconst 3, 0, 0, 0), (123, 3, .if_icmp .ge 28, 151, 0, 0), (126, 1, .aload_n 0, 0, 0, 0), (127, 3, .getfield 85, 12, 29, 2), (130, 1, .iconst 3, 0, 0, 0), (131, 1, .aload_n 0, 0, 0, 0), (132, 3, .getfield 223, 12, 30, 0), (135, 1, .imul, 0, 0, 0), (136, 1, .iload_n 1, 0, 0, 0), (137, 1, .iadd, 0, 0, 0), (138, 1, .aload_n 0, 0, 0, 0), (139, 3, .getfield 79, 12, 26, 2), (142, 1, .iload_n 1, 0, 0, 0), (143, 1, .iaload, 0, 0, 0), (144, 1, .iastore, 0, 0, 0), (145, 3, .iinc 1 1, 0, 0, 0), (148, 3, .goto (-27), 121, 0, 0), (151, 1, .aload_n 0, 0, 0, 0), (152, 1, .dup, 0, 0, 0), (153, 3, .getfield 223, 12, 30, 0), (156, 1, .iconst 1, 0, 0, 0), (157, 1, .iadd, 0, 0, 0), (158, 3, .putfield 223, 12, 30, 0)]),
  (100000, [(161, 1, .return_, 0, 0, 0)])]
theorem rwX12_keeps : rowsB (mB 200) (mO 200) (mX 200) (mIni 200) (mFr 200) (mLo 200) (mT 200) csX12_keeps = true := by decide +kernel
def bX12_keeps_121 (c121 : Int → HH → Option HH) (x1 : Int) (h : HH) : Option HH :=
  if x1 < (3 : Int) then
    gd (R32 (3 * (h.1 71 30))) <|
    gd (R32 ((3 * (h.1 71 30)) + x1)) <|
    gd ((0 : Int) ≤ x1 ∧ x1 < (3 : Int)) <|
    gd ((0 : Int) ≤ ((3 * (h.1 71 30)) + x1) ∧ ((3 * (h.1 71 30)) + x1) < (60 : Int)) <|
    bnd (some (hI h 97 ((3 * (h.1 71 30)) + x1) (h.1 95 x1))) fun h2 =>
    gd (R32 (x1 + 1)) <|
    c121 (x1 + 1) h2
  else
    gd (R32 ((h.1 71 30) + 1)) <|
    bnd (some (hI h 71 30 ((h.1 71 30) + 1))) fun h1 =>
    some h1
set_option maxRecDepth 100000 in
theorem uX12_keeps_121 {g : SG} (hg : GOK g) {σ0 : SG} {c121 : Int → HH → Option HH} (k121 : ∀ (x1 : Int) (h : HH) (b : HH), c121 x1 h = some b → WK 200 (.inl none) σ0 (abH 71 119 g b) 121 [(0, aR 71), (1, aI x1)] [] (abH 71 119 g h) 0 0) : ∀ {x1 : Int} {h : HH} {b : HH}, bX12_keeps_121 c121 x1 h = some b → WK 200 (.inl none) σ0 (abH 71 119 g b) 121 [(0, aR 71), (1, aI x1)] [] (abH 71 119 g h) 0 0 := by
  intro x1 h b q
  have e : bX12_keeps_121 c121 x1 h = segW 71 119 g.2.2.2.2 krWV clN csX12_keeps (cuC 121 (fun l st s => tkC 0 71 l <| tkI 1 l fun x1 => skE st (c121 x1 s)) cuN) 1000 121 [(0, aR 71), (1, aI x1)] [] h := rfl
  rw [e] at q
  clear e
  refine segW_wk (by decide) (by decide) hg rwX12_keeps CLKW_N krWV_ok ?_ q
  clear q
  refine ct_C ?_ (ct_N)
  · intro l st h q
    obtain ⟨m0, q1⟩ := tkC_of q
    obtain ⟨x1, m1, q2⟩ := tkI_of q1
    obtain ⟨rfl, q3⟩ := skE_of q2
    exact WK_less (k121 _ _ _ q3) (List.forall_mem_cons.mpr ⟨m0, (List.forall_mem_cons.mpr ⟨m1, (fun _ h => absurd h List.not_mem_nil)⟩)⟩)
def nX12_keeps_121 : Nat → Int → HH → Option HH := iter (fun _ _ => none) (fun self => bX12_keeps_121 self)
theorem nX12_keeps_121_s {F : Nat} : nX12_keeps_121 (F + 1) = bX12_keeps_121 (nX12_keeps_121 F) := rfl
theorem wX12_keeps_121 {g : SG} (hg : GOK g) {σ0 : SG} : ∀ {F : Nat}, ∀ {x1 : Int} {h : HH} {b : HH}, nX12_keeps_121 F x1 h = some b → WK 200 (.inl none) σ0 (abH 71 119 g b) 121 [(0, aR 71), (1, aI x1)] [] (abH 71 119 g h) 0 0 := by
  intro F
  have z : ∀ (x1 : Int) (h : HH) (b : HH), nX12_keeps_121 F x1 h = some b → WK 200 (.inl none) σ0 (abH 71 119 g b) 121 [(0, aR 71), (1, aI x1)] [] (abH 71 119 g h) 0 0 := iter_ind (P := fun (c : Int → HH → Option HH) => ∀ (x1 : Int) (h : HH) (b : HH), c x1 h = some b → WK 200 (.inl none) σ0 (abH 71 119 g b) 121 [(0, aR 71), (1, aI x1)] [] (abH 71 119 g h) 0 0) (by
    intro x1 h b q
    cases q) (fun self ih => by
    intro x1 h b q
    exact uX12_keeps_121 hg ih q) F
  intro x1 h b q
  exact z _ _ _ q
def bX12_keeps_87 (c87 : Int → HH → Option HH) (c121 : Int → HH → Option HH) (x1 : Int) (h : HH) : Option HH :=
  if x1 < (27 : Int) then
    gd (R32 (27 * (h.1 71 30))) <|
    gd (R32 ((27 * (h.1 71 30)) + x1)) <|
    gd ((0 : Int) ≤ x1 ∧ x1 < (27 : Int)) <|
    gd ((0 : Int) ≤ ((27 * (h.1 71 30)) + x1) ∧ ((27 * (h.1 71 30)) + x1) < (540 : Int)) <|
    bnd (some (hI h 96 ((27 * (h.1 71 30)) + x1) (h.1 94 x1))) fun h1 =>
    gd (R32 (x1 + 1)) <|
    c87 (x1 + 1) h1
  else
    c121 0 h
set_option maxRecDepth 100000 in
theorem uX12_keeps_87 {g : SG} (hg : GOK g) {σ0 : SG} {c87 : Int → HH → Option HH} {c121 : Int → HH → Option HH} (k87 : ∀ (x1 : Int) (h : HH) (b : HH), c87 x1 h = some b → WK 200 (.inl none) σ0 (abH 71 119 g b) 87 [(0, aR 71), (1, aI x1)] [] (abH 71 119 g h) 0 0) (k121 : ∀ (x1 : Int) (h : HH) (b : HH), c121 x1 h = some b → WK 200 (.inl none) σ0 (abH 71 119 g b) 121 [(0, aR 71), (1, aI x1)] [] (abH 71 119 g h) 0 0) : ∀ {x1 : Int} {h : HH} {b : HH}, bX12_keeps_87 c87 c121 x1 h = some b → WK 200 (.inl none) σ0 (abH 71 119 g b) 87 [(0, aR 71), (1, aI x1)] [] (abH 71 119 g h) 0 0 := by
  intro x1 h b q
  have e : bX12_keeps_87 c87 c121 x1 h = segW 71 119 g.2.2.2.2 krWV clN csX12_keeps (cuC 87 (fun l st s => tkC 0 71 l <| tkI 1 l fun x1 => skE st (c87 x1 s)) (cuC 121 (fun l st s => tkC 0 71 l <| tkI 1 l fun x1 => skE st (c121 x1 s)) cuN)) 1000 87 [(0, aR 71), (1, aI x1)] [] h := rfl
  rw [e] at q
  clear e
  refine segW_wk (by decide) (by decide) hg rwX12_keeps CLKW_N krWV_ok ?_ q
  clear q
  refine ct_C ?_ (ct_C ?_ (ct_N))
  · intro l st h q
    obtain ⟨m0, q1⟩ := tkC_of q
    obtain ⟨x1, m1, q2⟩ := tkI_of q1
    obtain ⟨rfl, q3⟩ := skE_of q2
    exact WK_less (k87 _ _ _ q3) (List.forall_mem_cons.mpr ⟨m0, (List.forall_mem_cons.mpr ⟨m1, (fun _ h => absurd h List.not_mem_nil)⟩)⟩)
  · intro l st h q
    obtain ⟨m0, q1⟩ := tkC_of q
    obtain ⟨x1, m1, q2⟩ := tkI_of q1
    obtain ⟨rfl, q3⟩ := skE_of q2
    exact WK_less (k121 _ _ _ q3) (List.forall_mem_cons.mpr ⟨m0, (List.forall_mem_cons.mpr ⟨m1, (fun _ h => absurd h List.not_mem_nil)⟩)⟩)
def nX12_keeps_87 : Nat → Int → HH → Option HH := iter (fun _ _ => none) (fun self => bX12_keeps_87 self (nX12_keeps_121 100000))
theorem nX12_keeps_87_s {F : Nat} : nX12_keeps_87 (F + 1) = bX12_keeps_87 (nX12_keeps_87 F) (nX12_keeps_121 100000) := rfl
theorem wX12_keeps_87 {g : SG} (hg : GOK g) {σ0 : SG} : ∀ {F : Nat}, ∀ {x1 : Int} {h : HH} {b : HH}, nX12_keeps_87 F x1 h = some b → WK 200 (.inl none) σ0 (abH 71 119 g b) 87 [(0, aR 71), (1, aI x1)] [] (abH 71 119 g h) 0 0 := by
  intro F
  have z : ∀ (x1 : Int) (h : HH) (b : HH), nX12_keeps_87 F x1 h = some b → WK 200 (.inl none) σ0 (abH 71 119 g b) 87 [(0, aR 71), (1, aI x1)] [] (abH 71 119 g h) 0 0 := iter_ind (P := fun (c : Int → HH → Option HH) => ∀ (x1 : Int) (h : HH) (b : HH), c x1 h = some b → WK 200 (.inl none) σ0 (abH 71 119 g b) 87 [(0, aR 71), (1, aI x1)] [] (abH 71 119 g h) 0 0) (by
    intro x1 h b q
    cases q) (fun self ih => by
    intro x1 h b q
    exact uX12_keeps_87 hg ih (fun _ _ _ q => wX12_keeps_121 hg q) q) F
  intro x1 h b q
  exact z _ _ _ q
def bX12_keeps_85 (c87 : Int → HH → Option HH) (h : HH) : Option HH :=
  c87 0 h
theorem uX12_keeps_85 {g : SG} (hg : GOK g) {σ0 : SG} {c87 : Int → HH → Option HH} (k87 : ∀ (x1 : Int) (h : HH) (b : HH), c87 x1 h = some b → WK 200 (.inl none) σ0 (abH 71 119 g b) 87 [(0, aR 71), (1, aI x1)] [] (abH 71 119 g h) 0 0) : ∀ {h : HH} {b : HH}, bX12_keeps_85 c87 h = some b → WK 200 (.inl none) σ0 (abH 71 119 g b) 85 [(0, aR 71)] [] (abH 71 119 g h) 0 0 := by
  intro h b q
  have e : bX12_keeps_85 c87 h = segW 71 119 g.2.2.2.2 krWV clN csX12_keeps (cuC 87 (fun l st s => tkC 0 71 l <| tkI 1 l fun x1 => skE st (c87 x1 s)) cuN) 1000 85 [(0, aR 71)] [] h := rfl
  rw [e] at q
  clear e
  refine segW_wk (by decide) (by decide) hg rwX12_keeps CLKW_N krWV_ok ?_ q
  clear q
  refine ct_C ?_ (ct_N)
  · intro l st h q
    obtain ⟨m0, q1⟩ := tkC_of q
    obtain ⟨x1, m1, q2⟩ := tkI_of q1
    obtain ⟨rfl, q3⟩ := skE_of q2
    exact WK_less (k87 _ _ _ q3) (List.forall_mem_cons.mpr ⟨m0, (List.forall_mem_cons.mpr ⟨m1, (fun _ h => absurd h List.not_mem_nil)⟩)⟩)
def nX12_keeps_85 (h : HH) : Option HH := bX12_keeps_85 (nX12_keeps_87 100000) h
theorem wX12_keeps_85 {g : SG} (hg : GOK g) {σ0 : SG} : ∀ {h : HH} {b : HH}, nX12_keeps_85 h = some b → WK 200 (.inl none) σ0 (abH 71 119 g b) 85 [(0, aR 71)] [] (abH 71 119 g h) 0 0 := by
  intro h b q
  exact uX12_keeps_85 hg (fun _ _ _ q => wX12_keeps_87 hg q) q
def bX12_keeps_55 (c55 : Int → HH → Option HH) (c85 : HH → Option HH) (x1 : Int) (h : HH) : Option HH :=
  gd (R32 (3 * (h.1 71 30))) <|
    if x1 < ((3 * (h.1 71 30)) : Int) then
    gd (R32 (x1 + 3)) <|
    gd ((0 : Int) ≤ (x1 + 3) ∧ (x1 + 3) < (60 : Int)) <|
    gd ((0 : Int) ≤ x1 ∧ x1 < (60 : Int)) <|
    bnd (some (hI h 97 x1 (h.1 97 (x1 + 3)))) fun h1 =>
    gd (R32 (x1 + 1)) <|
    c55 (x1 + 1) h1
  else
    c85 h
theorem uX12_keeps_55 {g : SG} (hg : GOK g) {σ0 : SG} {c55 : Int → HH → Option HH} {c85 : HH → Option HH} (k55 : ∀ (x1 : Int) (h : HH) (b : HH), c55 x1 h = some b → WK 200 (.inl none) σ0 (abH 71 119 g b) 55 [(0, aR 71), (1, aI x1)] [] (abH 71 119 g h) 0 0) (k85 : ∀ (h : HH) (b : HH), c85 h = some b → WK 200 (.inl none) σ0 (abH 71 119 g b) 85 [(0, aR 71)] [] (abH 71 119 g h) 0 0) : ∀ {x1 : Int} {h : HH} {b : HH}, bX12_keeps_55 c55 c85 x1 h = some b → WK 200 (.inl none) σ0 (abH 71 119 g b) 55 [(0, aR 71), (1, aI x1)] [] (abH 71 119 g h) 0 0 := by
  intro x1 h b q
  have e : bX12_keeps_55 c55 c85 x1 h = segW 71 119 g.2.2.2.2 krWV clN csX12_keeps (cuC 55 (fun l st s => tkC 0 71 l <| tkI 1 l fun x1 => skE st (c55 x1 s)) (cuC 85 (fun l st s => tkC 0 71 l <| skE st (c85 s)) cuN)) 1000 55 [(0, aR 71), (1, aI x1)] [] h := rfl
  rw [e] at q
  clear e
  refine segW_wk (by decide) (by decide) hg rwX12_keeps CLKW_N krWV_ok ?_ q
  clear q
  refine ct_C ?_ (ct_C ?_ (ct_N))
  · intro l st h q
    obtain ⟨m0, q1⟩ := tkC_of q
    obtain ⟨x1, m1, q2⟩ := tkI_of q1
    obtain ⟨rfl, q3⟩ := skE_of q2
    exact WK_less (k55 _ _ _ q3) (List.forall_mem_cons.mpr ⟨m0, (List.forall_mem_cons.mpr ⟨m1, (fun _ h => absurd h List.not_mem_nil)⟩)⟩)
  · intro l st h q
    obtain ⟨m0, q1⟩ := tkC_of q
    obtain ⟨rfl, q2⟩ := skE_of q1
    exact WK_less (k85 _ _ q2) (List.forall_mem_cons.mpr ⟨m0, (fun _ h => absurd h List.not_mem_nil)⟩)
def nX12_keeps_55 : Nat → Int → HH → Option HH := iter (fun _ _ => none) (fun self => bX12_keeps_55 self nX12_keeps_85)
theorem nX12_keeps_55_s {F : Nat} : nX12_keeps_55 (F + 1) = bX12_keeps_55 (nX12_keeps_55 F) nX12_keeps_85 := rfl
theorem wX12_keeps_55 {g : SG} (hg : GOK g) {σ0 : SG} : ∀ {F : Nat}, ∀ {x1 : Int} {h : HH} {b : HH}, nX12_keeps_55 F x1 h = some b → WK 200 (.inl none) σ0 (abH 71 119 g b) 55 [(0, aR 71), (1, aI x1)] [] (abH 71 119 g h) 0 0 := by
  intro F
  have z : ∀ (x1 : Int) (h : HH) (b : HH), nX12_keeps_55 F x1 h = some b → WK 200 (.inl none) σ0 (abH 71 119 g b) 55 [(0, aR 71), (1, aI x1)] [] (abH 71 119 g h) 0 0 := iter_ind (P := fun (c : Int → HH → Option HH) => ∀ (x1 : Int) (h : HH) (b : HH), c x1 h = some b → WK 200 (.inl none) σ0 (abH 71 119 g b) 55 [(0, aR 71), (1, aI x1)] [] (abH 71 119 g h) 0 0) (by
    intro x1 h b q
    cases q) (fun self ih => by
    intro x1 h b q
    exact uX12_keeps_55 hg ih (fun _ _ q => wX12_keeps_85 hg q) q) F
  intro x1 h b q
  exact z _ _ _ q
def bX12_keeps_21 (c21 : Int → HH → Option HH) (c55 : Int → HH → Option HH) (x1 : Int) (h : HH) : Option HH :=
  gd (R32 (27 * (h.1 71 30))) <|
    if x1 < ((27 * (h.1 71 30)) : Int) then
    gd (R32 (x1 + 27)) <|
    gd ((0 : Int) ≤ (x1 + 27) ∧ (x1 + 27) < (540 : Int)) <|
    gd ((0 : Int) ≤ x1 ∧ x1 < (540 : Int)) <|
    bnd (some (hI h 96 x1 (h.1 96 (x1 + 27)))) fun h1 =>
    gd (R32 (x1 + 1)) <|
    c21 (x1 + 1) h1
  else
    c55 0 h
set_option maxRecDepth 100000 in
theorem uX12_keeps_21 {g : SG} (hg : GOK g) {σ0 : SG} {c21 : Int → HH → Option HH} {c55 : Int → HH → Option HH} (k21 : ∀ (x1 : Int) (h : HH) (b : HH), c21 x1 h = some b → WK 200 (.inl none) σ0 (abH 71 119 g b) 21 [(0, aR 71), (1, aI x1)] [] (abH 71 119 g h) 0 0) (k55 : ∀ (x1 : Int) (h : HH) (b : HH), c55 x1 h = some b → WK 200 (.inl none) σ0 (abH 71 119 g b) 55 [(0, aR 71), (1, aI x1)] [] (abH 71 119 g h) 0 0) : ∀ {x1 : Int} {h : HH} {b : HH}, bX12_keeps_21 c21 c55 x1 h = some b → WK 200 (.inl none) σ0 (abH 71 119 g b) 21 [(0, aR 71), (1, aI x1)] [] (abH 71 119 g h) 0 0 := by
  intro x1 h b q
  have e : bX12_keeps_21 c21 c55 x1 h = segW 71 119 g.2.2.2.2 krWV clN csX12_keeps (cuC 21 (fun l st s => tkC 0 71 l <| tkI 1 l fun x1 => skE st (c21 x1 s)) (cuC 55 (fun l st s => tkC 0 71 l <| tkI 1 l fun x1 => skE st (c55 x1 s)) cuN)) 1000 21 [(0, aR 71), (1, aI x1)] [] h := rfl
  rw [e] at q
  clear e
  refine segW_wk (by decide) (by decide) hg rwX12_keeps CLKW_N krWV_ok ?_ q
  clear q
  refine ct_C ?_ (ct_C ?_ (ct_N))
  · intro l st h q
    obtain ⟨m0, q1⟩ := tkC_of q
    obtain ⟨x1, m1, q2⟩ := tkI_of q1
    obtain ⟨rfl, q3⟩ := skE_of q2
    exact WK_less (k21 _ _ _ q3) (List.forall_mem_cons.mpr ⟨m0, (List.forall_mem_cons.mpr ⟨m1, (fun _ h => absurd h List.not_mem_nil)⟩)⟩)
  · intro l st h q
    obtain ⟨m0, q1⟩ := tkC_of q
    obtain ⟨x1, m1, q2⟩ := tkI_of q1
    obtain ⟨rfl, q3⟩ := skE_of q2
    exact WK_less (k55 _ _ _ q3) (List.forall_mem_cons.mpr ⟨m0, (List.forall_mem_cons.mpr ⟨m1, (fun _ h => absurd h List.not_mem_nil)⟩)⟩)
def nX12_keeps_21 : Nat → Int → HH → Option HH := iter (fun _ _ => none) (fun self => bX12_keeps_21 self (nX12_keeps_55 100000))
theorem nX12_keeps_21_s {F : Nat} : nX12_keeps_21 (F + 1) = bX12_keeps_21 (nX12_keeps_21 F) (nX12_keeps_55 100000) := rfl
theorem wX12_keeps_21 {g : SG} (hg : GOK g) {σ0 : SG} : ∀ {F : Nat}, ∀ {x1 : Int} {h : HH} {b : HH}, nX12_keeps_21 F x1 h = some b → WK 200 (.inl none) σ0 (abH 71 119 g b) 21 [(0, aR 71), (1, aI x1)] [] (abH 71 119 g h) 0 0 := by
  intro F
  have z : ∀ (x1 : Int) (h : HH) (b : HH), nX12_keeps_21 F x1 h = some b → WK 200 (.inl none) σ0 (abH 71 119 g b) 21 [(0, aR 71), (1, aI x1)] [] (abH 71 119 g h) 0 0 := iter_ind (P := fun (c : Int → HH → Option HH) => ∀ (x1 : Int) (h : HH) (b : HH), c x1 h = some b → WK 200 (.inl none) σ0 (abH 71 119 g b) 21 [(0, aR 71), (1, aI x1)] [] (abH 71 119 g h) 0 0) (by
    intro x1 h b q
    cases q) (fun self ih => by
    intro x1 h b q
    exact uX12_keeps_21 hg ih (fun _ _ _ q => wX12_keeps_55 hg q) q) F
  intro x1 h b q
  exact z _ _ _ q
def bX12_keeps (c21 : Int → HH → Option HH) (c85 : HH → Option HH) (h : HH) : Option HH :=
  if (h.1 71 30) = (20 : Int) then
    gd (R32 ((h.1 71 30) - 1)) <|
    bnd (some (hI h 71 30 ((h.1 71 30) - 1))) fun h1 =>
    c21 0 h1
  else
    c85 h
theorem uX12_keeps {g : SG} (hg : GOK g) {σ0 : SG} {c21 : Int → HH → Option HH} {c85 : HH → Option HH} (k21 : ∀ (x1 : Int) (h : HH) (b : HH), c21 x1 h = some b → WK 200 (.inl none) σ0 (abH 71 119 g b) 21 [(0, aR 71), (1, aI x1)] [] (abH 71 119 g h) 0 0) (k85 : ∀ (h : HH) (b : HH), c85 h = some b → WK 200 (.inl none) σ0 (abH 71 119 g b) 85 [(0, aR 71)] [] (abH 71 119 g h) 0 0) : ∀ {h : HH} {b : HH}, bX12_keeps c21 c85 h = some b → WK 200 (.inl none) σ0 (abH 71 119 g b) 0 [(0, aR 71)] [] (abH 71 119 g h) 0 0 := by
  intro h b q
  have e : bX12_keeps c21 c85 h = segW 71 119 g.2.2.2.2 krWV clN csX12_keeps (cuC 21 (fun l st s => tkC 0 71 l <| tkI 1 l fun x1 => skE st (c21 x1 s)) (cuC 85 (fun l st s => tkC 0 71 l <| skE st (c85 s)) cuN)) 1000 0 [(0, aR 71)] [] h := rfl
  rw [e] at q
  clear e
  refine segW_wk (by decide) (by decide) hg rwX12_keeps CLKW_N krWV_ok ?_ q
  clear q
  refine ct_C ?_ (ct_C ?_ (ct_N))
  · intro l st h q
    obtain ⟨m0, q1⟩ := tkC_of q
    obtain ⟨x1, m1, q2⟩ := tkI_of q1
    obtain ⟨rfl, q3⟩ := skE_of q2
    exact WK_less (k21 _ _ _ q3) (List.forall_mem_cons.mpr ⟨m0, (List.forall_mem_cons.mpr ⟨m1, (fun _ h => absurd h List.not_mem_nil)⟩)⟩)
  · intro l st h q
    obtain ⟨m0, q1⟩ := tkC_of q
    obtain ⟨rfl, q2⟩ := skE_of q1
    exact WK_less (k85 _ _ q2) (List.forall_mem_cons.mpr ⟨m0, (fun _ h => absurd h List.not_mem_nil)⟩)
def nX12_keeps (h : HH) : Option HH := bX12_keeps (nX12_keeps_21 100000) nX12_keeps_85 h
theorem wX12_keeps {g : SG} (hg : GOK g) {σ0 : SG} : ∀ {h : HH} {b : HH}, nX12_keeps h = some b → WK 200 (.inl none) σ0 (abH 71 119 g b) 0 [(0, aR 71)] [] (abH 71 119 g h) 0 0 := by
  intro h b q
  exact uX12_keeps hg (fun _ _ _ q => wX12_keeps_21 hg q) (fun _ _ q => wX12_keeps_85 hg q) q
theorem mX12_keeps {g : SG} (hg : GOK g) {h : HH} {b : HH} (q : nX12_keeps h = some b) : MCT 200 [] [aR 71] (abH 71 119 g h) (.inl none) (abH 71 119 g b) :=
  mct_of (by decide) (MFok 200 (by decide +kernel)) (fun _ => Nat.le_of_ble_eq_true rfl) (wX12_keeps hg q)
def pX12_keeps {β : Type} (z : HH → Option HH) : PW β := fun as h f => skC 71 as fun as => skE as (bnd (z h) fun r => f (.inl none) r)
theorem pX12_keeps_ok {β : Type} {g : SG} (hg : GOK g) : CW1 (β := β) 200 (pX12_keeps nX12_keeps) 71 119 g := fun as h f b q => by
  obtain ⟨as, rfl, q1⟩ := skC_of q
  obtain ⟨rfl, q0⟩ := skE_of q1
  obtain ⟨r, z1, z2⟩ := bnd_of q0
  exact ⟨_, _, z2, by decide, mX12_keeps hg z1, rfl, rfl, fun z => absurd z (by decide)⟩
