def csX12_door : List (Nat × List (Nat × ARow)) := [(40, [(0, 1, .aload_n 0, 0, 0, 0), (1, 1, .iload_n 1, 0, 0, 0), (2, 3, .invokevirtual 220, 175, 2, 12), (5, 3, .ifCond .ne 9, 14, 0, 0), (8, 1, .aload_n 0, 0, 0, 0), (9, 1, .iconst 1, 0, 0, 0), (10, 3, .invokevirtual 200, 177, 2, 12), (13, 1, .ireturn, 0, 0, 0), (14, 1, .aload_n 0, 0, 0, 0), (15, 3, .getfield 55, 12, 17, 2), (18, 1, .iload_n 1, 0, 0, 0), (19, 1, .iaload, 0, 0, 0), (20, 3, .ifCond .ne 13, 33, 0, 0), (23, 1, .aload_n 0, 0, 0, 0), (24, 3, .getfield 64, 12, 20, 2), (27, 1, .iload_n 1, 0, 0, 0), (28, 1, .iaload, 0, 0, 0), (29, 1, .iconst (-1), 0, 0, 0), (30, 3, .if_icmp .ne 9, 39, 0, 0), (33, 1, .aload_n 0, 0, 0, 0), (34, 1, .iconst 2, 0, 0, 0), (35, 3, .invokevirtual 200, 177, 2, 12), (38, 1, .ireturn, 0, 0, 0), (39, 1, .aload_n 0, 0, 0, 0)]),
  (80, [(40, 1, .iconst 0, 0, 0, 0), (41, 3, .putfield 223, 12, 30, 0), (44, 1, .iload_n 2, 0, 0, 0), (45, 3, .ifCond .eq 31, 76, 0, 0), (48, 1, .aload_n 0, 0, 0, 0), (49, 1, .iload_n 1, 0, 0, 0), (50, 3, .invokevirtual 386, 242, 2, 12), (53, 1, .aload_n 0, 0, 0, 0), (54, 3, .getfield 55, 12, 17, 2), (57, 1, .iload_n 1, 0, 0, 0), (58, 1, .iconst 1, 0, 0, 0), (59, 1, .iastore, 0, 0, 0), (60, 1, .aload_n 0, 0, 0, 0), (61, 1, .dup, 0, 0, 0), (62, 3, .getfield 389, 12, 43, 0), (65, 1, .iconst 1, 0, 0, 0), (66, 1, .iadd, 0, 0, 0), (67, 3, .putfield 389, 12, 43, 0), (70, 1, .aload_n 0, 0, 0, 0), (71, 1, .iconst 1, 0, 0, 0), (72, 3, .invokevirtual 209, 178, 2, 12), (75, 1, .ireturn, 0, 0, 0), (76, 1, .aload_n 0, 0, 0, 0), (77, 3, .getfield 58, 12, 18, 2)]),
  (114, [(80, 1, .iload_n 1, 0, 0, 0), (81, 1, .dup2, 0, 0, 0), (82, 1, .iaload, 0, 0, 0), (83, 1, .iconst 1, 0, 0, 0), (84, 1, .iadd, 0, 0, 0), (85, 1, .iastore, 0, 0, 0), (86, 1, .aload_n 0, 0, 0, 0), (87, 3, .getfield 64, 12, 20, 2), (90, 1, .iload_n 1, 0, 0, 0), (91, 1, .iaload, 0, 0, 0), (92, 1, .istore_n 3, 0, 0, 0), (93, 1, .aload_n 0, 0, 0, 0), (94, 1, .iload_n 3, 0, 0, 0), (95, 3, .invokevirtual 250, 193, 2, 12), (98, 1, .aload_n 0, 0, 0, 0), (99, 1, .aload_n 0, 0, 0, 0), (100, 1, .iload_n 3, 0, 0, 0), (101, 1, .iload_n 1, 0, 0, 0), (102, 3, .invokevirtual 273, 198, 3, 12), (105, 3, .invokevirtual 276, 196, 2, 12), (108, 1, .aload_n 0, 0, 0, 0), (109, 1, .aload_n 0, 0, 0, 0), (110, 3, .getfield 241, 12, 51, 0), (113, 1, .iload_n 1, 0, 0, 0)]),
  (156, [(114, 3, .invokevirtual 266, 195, 3, 12), (117, 1, .aload_n 0, 0, 0, 0), (118, 3, .getfield 58, 12, 18, 2), (121, 1, .iload_n 1, 0, 0, 0), (122, 1, .iaload, 0, 0, 0), (123, 1, .iconst 3, 0, 0, 0), (124, 3, .if_icmp .ge 20, 144, 0, 0), (127, 1, .aload_n 0, 0, 0, 0), (128, 1, .iload_n 3, 0, 0, 0), (129, 3, .invokevirtual 254, 192, 2, 12), (132, 1, .iconst (-1), 0, 0, 0), (133, 3, .if_icmp .eq 11, 144, 0, 0), (136, 1, .aload_n 0, 0, 0, 0), (137, 1, .iload_n 3, 0, 0, 0), (138, 3, .invokevirtual 257, 194, 2, 12), (141, 3, .goto 13, 154, 0, 0), (144, 1, .aload_n 0, 0, 0, 0), (145, 1, .iload_n 1, 0, 0, 0), (146, 3, .invokevirtual 386, 242, 2, 12), (149, 1, .aload_n 0, 0, 0, 0), (150, 1, .iload_n 1, 0, 0, 0), (151, 3, .invokevirtual 392, 243, 2, 12), (154, 1, .aload_n 0, 0, 0, 0), (155, 1, .aload_n 0, 0, 0, 0)]),
  (100000, [(156, 3, .getfield 55, 12, 17, 2), (159, 1, .iload_n 1, 0, 0, 0), (160, 1, .iaload, 0, 0, 0), (161, 3, .invokevirtual 209, 178, 2, 12), (164, 1, .ireturn, 0, 0, 0)])]
theorem rwX12_door : rowsB (mB 244) (mO 244) (mX 244) (mIni 244) (mFr 244) (mLo 244) (mT 244) csX12_door = true := by decide +kernel
def bX12_door_33 (f177 : Int → HH → Option (Int × HH)) (h : HH) : Option (Int × HH) :=
  bnd (f177 2 h) fun r1 =>
    some (r1.1, r1.2)
theorem uX12_door_33 {g : SG} (hg : GOK g) {σ0 : SG} : ∀ {h : HH} {b : (Int × HH)}, bX12_door_33 nX12_refuse h = some b → WK 244 (.inl (some (aI b.1))) σ0 (abH 71 119 g b.2) 33 [(0, aR 71)] [] (abH 71 119 g h) 0 0 := by
  intro h b q
  have e : ∀ (f177 : Int → HH → Option (Int × HH)) , bX12_door_33 f177 h = segW 71 119 g.2.2.2.2 krWI (clC 177 (pX12_refuse f177) clN) csX12_door cuN 1000 33 [(0, aR 71)] [] h := fun _ => rfl
  rw [e nX12_refuse] at q
  clear e
  refine segW_wk (by decide) (by decide) hg rwX12_door (CLKW_C (pX12_refuse_ok hg) CLKW_N) krWI_ok ?_ q
  clear q
  exact ct_N
def nX12_door_33 (h : HH) : Option (Int × HH) := bX12_door_33 nX12_refuse h
theorem wX12_door_33 {g : SG} (hg : GOK g) {σ0 : SG} : ∀ {h : HH} {b : (Int × HH)}, nX12_door_33 h = some b → WK 244 (.inl (some (aI b.1))) σ0 (abH 71 119 g b.2) 33 [(0, aR 71)] [] (abH 71 119 g h) 0 0 := by
  intro h b q
  exact uX12_door_33 hg q
def bX12_door_154 (f178 : Int → HH → Option (Int × HH)) (x1 : Int) (h : HH) : Option (Int × HH) :=
  gd ((0 : Int) ≤ x1 ∧ x1 < (9 : Int)) <|
    bnd (f178 (h.1 87 x1) h) fun r1 =>
    some (r1.1, r1.2)
theorem uX12_door_154 {g : SG} (hg : GOK g) {σ0 : SG} : ∀ {x1 : Int} {h : HH} {b : (Int × HH)}, bX12_door_154 nX12_told x1 h = some b → WK 244 (.inl (some (aI b.1))) σ0 (abH 71 119 g b.2) 154 [(0, aR 71), (1, aI x1)] [] (abH 71 119 g h) 0 0 := by
  intro x1 h b q
  have e : ∀ (f178 : Int → HH → Option (Int × HH)) , bX12_door_154 f178 x1 h = segW 71 119 g.2.2.2.2 krWI (clC 178 (pX12_told f178) clN) csX12_door cuN 1000 154 [(0, aR 71), (1, aI x1)] [] h := fun _ => rfl
  rw [e nX12_told] at q
  clear e
  refine segW_wk (by decide) (by decide) hg rwX12_door (CLKW_C (pX12_told_ok hg) CLKW_N) krWI_ok ?_ q
  clear q
  exact ct_N
def nX12_door_154 (x1 : Int) (h : HH) : Option (Int × HH) := bX12_door_154 nX12_told x1 h
theorem wX12_door_154 {g : SG} (hg : GOK g) {σ0 : SG} : ∀ {x1 : Int} {h : HH} {b : (Int × HH)}, nX12_door_154 x1 h = some b → WK 244 (.inl (some (aI b.1))) σ0 (abH 71 119 g b.2) 154 [(0, aR 71), (1, aI x1)] [] (abH 71 119 g h) 0 0 := by
  intro x1 h b q
  exact uX12_door_154 hg q
def bX12_door_144 (f242 : Int → HH → Option HH) (f243 : Int → HH → Option HH) (c154 : Int → HH → Option (Int × HH)) (x1 : Int) (h : HH) : Option (Int × HH) :=
  bnd (f242 x1 h) fun r1 =>
    bnd (f243 x1 r1) fun r2 =>
    c154 x1 r2
theorem uX12_door_144 {g : SG} (hg : GOK g) {σ0 : SG} {c154 : Int → HH → Option (Int × HH)} (k154 : ∀ (x1 : Int) (h : HH) (b : (Int × HH)), c154 x1 h = some b → WK 244 (.inl (some (aI b.1))) σ0 (abH 71 119 g b.2) 154 [(0, aR 71), (1, aI x1)] [] (abH 71 119 g h) 0 0) : ∀ {x1 : Int} {h : HH} {b : (Int × HH)}, bX12_door_144 nX12_leaves nX12_goesToLocker c154 x1 h = some b → WK 244 (.inl (some (aI b.1))) σ0 (abH 71 119 g b.2) 144 [(0, aR 71), (1, aI x1)] [] (abH 71 119 g h) 0 0 := by
  intro x1 h b q
  have e : ∀ (f242 : Int → HH → Option HH) (f243 : Int → HH → Option HH) , bX12_door_144 f242 f243 c154 x1 h = segW 71 119 g.2.2.2.2 krWI (clC 242 (pX12_leaves f242) (clC 243 (pX12_goesToLocker f243) clN)) csX12_door (cuC 154 (fun l st s => tkC 0 71 l <| tkI 1 l fun x1 => skE st (c154 x1 s)) cuN) 1000 144 [(0, aR 71), (1, aI x1)] [] h := fun _ _ => rfl
  rw [e nX12_leaves nX12_goesToLocker] at q
  clear e
  refine segW_wk (by decide) (by decide) hg rwX12_door (CLKW_C (pX12_leaves_ok hg) (CLKW_C (pX12_goesToLocker_ok hg) CLKW_N)) krWI_ok ?_ q
  clear q
  refine ct_C ?_ (ct_N)
  · intro l st h q
    obtain ⟨m0, q1⟩ := tkC_of q
    obtain ⟨x1, m1, q2⟩ := tkI_of q1
    obtain ⟨rfl, q3⟩ := skE_of q2
    exact WK_less (k154 _ _ _ q3) (List.forall_mem_cons.mpr ⟨m0, (List.forall_mem_cons.mpr ⟨m1, (fun _ h => absurd h List.not_mem_nil)⟩)⟩)
def nX12_door_144 (x1 : Int) (h : HH) : Option (Int × HH) := bX12_door_144 nX12_leaves nX12_goesToLocker nX12_door_154 x1 h
theorem wX12_door_144 {g : SG} (hg : GOK g) {σ0 : SG} : ∀ {x1 : Int} {h : HH} {b : (Int × HH)}, nX12_door_144 x1 h = some b → WK 244 (.inl (some (aI b.1))) σ0 (abH 71 119 g b.2) 144 [(0, aR 71), (1, aI x1)] [] (abH 71 119 g h) 0 0 := by
  intro x1 h b q
  exact uX12_door_144 hg (fun _ _ _ q => wX12_door_154 hg q) q
def bX12_door_76 (f193 : Int → HH → Option HH) (f198 : HH → Int → Int → Option Int) (f196 : Int → HH → Option HH) (f195 : Int → Int → HH → Option HH) (f192 : Int → HH → Option (Int × HH)) (f194 : Int → HH → Option HH) (c144 : Int → HH → Option (Int × HH)) (c154 : Int → HH → Option (Int × HH)) (x1 : Int) (h : HH) : Option (Int × HH) :=
  gd ((0 : Int) ≤ x1 ∧ x1 < (9 : Int)) <|
    gd (R32 ((h.1 88 x1) + 1)) <|
    gd ((0 : Int) ≤ x1 ∧ x1 < (9 : Int)) <|
    bnd (some (hI h 88 x1 ((h.1 88 x1) + 1))) fun h1 =>
    gd ((0 : Int) ≤ x1 ∧ x1 < (9 : Int)) <|
    bnd (f193 (h1.1 90 x1) h1) fun r2 =>
    bnd (f198 r2 (h1.1 90 x1) x1) fun r3 =>
    bnd (f196 r3 r2) fun r4 =>
    bnd (f195 (r4.1 71 51) x1 r4) fun r5 =>
    gd ((0 : Int) ≤ x1 ∧ x1 < (9 : Int)) <|
    if (r5.1 88 x1) < (3 : Int) then
    bnd (f192 (h1.1 90 x1) r5) fun r6 =>
    if r6.1 = ((-1) : Int) then
    c144 x1 r6.2
  else
    bnd (f194 (h1.1 90 x1) r6.2) fun r7 =>
    c154 x1 r7
  else
    c144 x1 r5
set_option maxRecDepth 100000 in
theorem uX12_door_76 {g : SG} (hg : GOK g) {σ0 : SG} {c144 : Int → HH → Option (Int × HH)} {c154 : Int → HH → Option (Int × HH)} (k144 : ∀ (x1 : Int) (h : HH) (b : (Int × HH)), c144 x1 h = some b → WK 244 (.inl (some (aI b.1))) σ0 (abH 71 119 g b.2) 144 [(0, aR 71), (1, aI x1)] [] (abH 71 119 g h) 0 0) (k154 : ∀ (x1 : Int) (h : HH) (b : (Int × HH)), c154 x1 h = some b → WK 244 (.inl (some (aI b.1))) σ0 (abH 71 119 g b.2) 154 [(0, aR 71), (1, aI x1)] [] (abH 71 119 g h) 0 0) : ∀ {x1 : Int} {h : HH} {b : (Int × HH)}, bX12_door_76 nX12_loads nX12_placeInRound nX12_removes nX12_inserts nX12_drives nX12_lays c144 c154 x1 h = some b → WK 244 (.inl (some (aI b.1))) σ0 (abH 71 119 g b.2) 76 [(0, aR 71), (1, aI x1)] [] (abH 71 119 g h) 0 0 := by
  intro x1 h b q
  have e : ∀ (f193 : Int → HH → Option HH) (f198 : HH → Int → Int → Option Int) (f196 : Int → HH → Option HH) (f195 : Int → Int → HH → Option HH) (f192 : Int → HH → Option (Int × HH)) (f194 : Int → HH → Option HH) , bX12_door_76 f193 f198 f196 f195 f192 f194 c144 c154 x1 h = segW 71 119 g.2.2.2.2 krWI (clC 193 (pX12_loads f193) (clC 198 (liPW (pX12_placeInRound f198)) (clC 196 (pX12_removes f196) (clC 195 (pX12_inserts f195) (clC 192 (pX12_drives f192) (clC 194 (pX12_lays f194) clN)))))) csX12_door (cuC 144 (fun l st s => tkC 0 71 l <| tkI 1 l fun x1 => skE st (c144 x1 s)) (cuC 154 (fun l st s => tkC 0 71 l <| tkI 1 l fun x1 => skE st (c154 x1 s)) cuN)) 1000 76 [(0, aR 71), (1, aI x1)] [] h := fun _ _ _ _ _ _ => rfl
  rw [e nX12_loads nX12_placeInRound nX12_removes nX12_inserts nX12_drives nX12_lays] at q
  clear e
  refine segW_wk (by decide) (by decide) hg rwX12_door (CLKW_C (pX12_loads_ok hg) (CLKW_C (liPW_ok (pX12_placeInRound_ok hg)) (CLKW_C (pX12_removes_ok hg) (CLKW_C (pX12_inserts_ok hg) (CLKW_C (pX12_drives_ok hg) (CLKW_C (pX12_lays_ok hg) CLKW_N)))))) krWI_ok ?_ q
  clear q
  refine ct_C ?_ (ct_C ?_ (ct_N))
  · intro l st h q
    obtain ⟨m0, q1⟩ := tkC_of q
    obtain ⟨x1, m1, q2⟩ := tkI_of q1
    obtain ⟨rfl, q3⟩ := skE_of q2
    exact WK_less (k144 _ _ _ q3) (List.forall_mem_cons.mpr ⟨m0, (List.forall_mem_cons.mpr ⟨m1, (fun _ h => absurd h List.not_mem_nil)⟩)⟩)
  · intro l st h q
    obtain ⟨m0, q1⟩ := tkC_of q
    obtain ⟨x1, m1, q2⟩ := tkI_of q1
    obtain ⟨rfl, q3⟩ := skE_of q2
    exact WK_less (k154 _ _ _ q3) (List.forall_mem_cons.mpr ⟨m0, (List.forall_mem_cons.mpr ⟨m1, (fun _ h => absurd h List.not_mem_nil)⟩)⟩)
def nX12_door_76 (x1 : Int) (h : HH) : Option (Int × HH) := bX12_door_76 nX12_loads nX12_placeInRound nX12_removes nX12_inserts nX12_drives nX12_lays nX12_door_144 nX12_door_154 x1 h
theorem wX12_door_76 {g : SG} (hg : GOK g) {σ0 : SG} : ∀ {x1 : Int} {h : HH} {b : (Int × HH)}, nX12_door_76 x1 h = some b → WK 244 (.inl (some (aI b.1))) σ0 (abH 71 119 g b.2) 76 [(0, aR 71), (1, aI x1)] [] (abH 71 119 g h) 0 0 := by
  intro x1 h b q
  exact uX12_door_76 hg (fun _ _ _ q => wX12_door_144 hg q) (fun _ _ _ q => wX12_door_154 hg q) q
def bX12_door (f175 : HH → Int → Option Int) (f242 : Int → HH → Option HH) (f178 : Int → HH → Option (Int × HH)) (f177 : Int → HH → Option (Int × HH)) (c33 : HH → Option (Int × HH)) (c76 : Int → HH → Option (Int × HH)) (x1 : Int) (x2 : Int) (h : HH) : Option (Int × HH) :=
  bnd (f175 h x1) fun r1 =>
    if r1 = (0 : Int) then
    bnd (f177 1 h) fun r7 =>
    some (r7.1, r7.2)
  else
    gd ((0 : Int) ≤ x1 ∧ x1 < (9 : Int)) <|
    if (h.1 87 x1) = (0 : Int) then
    gd ((0 : Int) ≤ x1 ∧ x1 < (9 : Int)) <|
    if (h.1 90 x1) = ((-1) : Int) then
    c33 h
  else
    bnd (some (hI h 71 30 0)) fun h2 =>
    if x2 = (0 : Int) then
    c76 x1 h2
  else
    bnd (f242 x1 h2) fun r3 =>
    gd ((0 : Int) ≤ x1 ∧ x1 < (9 : Int)) <|
    bnd (some (hI r3 87 x1 1)) fun h4 =>
    gd (R32 ((h4.1 71 43) + 1)) <|
    bnd (some (hI h4 71 43 ((h4.1 71 43) + 1))) fun h5 =>
    bnd (f178 1 h5) fun r6 =>
    some (r6.1, r6.2)
  else
    c33 h
set_option maxRecDepth 100000 in
theorem uX12_door {g : SG} (hg : GOK g) {σ0 : SG} {c33 : HH → Option (Int × HH)} {c76 : Int → HH → Option (Int × HH)} (k33 : ∀ (h : HH) (b : (Int × HH)), c33 h = some b → WK 244 (.inl (some (aI b.1))) σ0 (abH 71 119 g b.2) 33 [(0, aR 71)] [] (abH 71 119 g h) 0 0) (k76 : ∀ (x1 : Int) (h : HH) (b : (Int × HH)), c76 x1 h = some b → WK 244 (.inl (some (aI b.1))) σ0 (abH 71 119 g b.2) 76 [(0, aR 71), (1, aI x1)] [] (abH 71 119 g h) 0 0) : ∀ {x1 : Int} {x2 : Int} {h : HH} {b : (Int × HH)}, bX12_door nX12_isParcel nX12_leaves nX12_told nX12_refuse c33 c76 x1 x2 h = some b → WK 244 (.inl (some (aI b.1))) σ0 (abH 71 119 g b.2) 0 [(0, aR 71), (1, aI x1), (2, aI x2)] [] (abH 71 119 g h) 0 0 := by
  intro x1 x2 h b q
  have e : ∀ (f175 : HH → Int → Option Int) (f242 : Int → HH → Option HH) (f178 : Int → HH → Option (Int × HH)) (f177 : Int → HH → Option (Int × HH)) , bX12_door f175 f242 f178 f177 c33 c76 x1 x2 h = segW 71 119 g.2.2.2.2 krWI (clC 175 (liPW (pX12_isParcel f175)) (clC 242 (pX12_leaves f242) (clC 178 (pX12_told f178) (clC 177 (pX12_refuse f177) clN)))) csX12_door (cuC 33 (fun l st s => tkC 0 71 l <| skE st (c33 s)) (cuC 76 (fun l st s => tkC 0 71 l <| tkI 1 l fun x1 => skE st (c76 x1 s)) cuN)) 1000 0 [(0, aR 71), (1, aI x1), (2, aI x2)] [] h := fun _ _ _ _ => rfl
  rw [e nX12_isParcel nX12_leaves nX12_told nX12_refuse] at q
  clear e
  refine segW_wk (by decide) (by decide) hg rwX12_door (CLKW_C (liPW_ok (pX12_isParcel_ok hg)) (CLKW_C (pX12_leaves_ok hg) (CLKW_C (pX12_told_ok hg) (CLKW_C (pX12_refuse_ok hg) CLKW_N)))) krWI_ok ?_ q
  clear q
  refine ct_C ?_ (ct_C ?_ (ct_N))
  · intro l st h q
    obtain ⟨m0, q1⟩ := tkC_of q
    obtain ⟨rfl, q2⟩ := skE_of q1
    exact WK_less (k33 _ _ q2) (List.forall_mem_cons.mpr ⟨m0, (fun _ h => absurd h List.not_mem_nil)⟩)
  · intro l st h q
    obtain ⟨m0, q1⟩ := tkC_of q
    obtain ⟨x1, m1, q2⟩ := tkI_of q1
    obtain ⟨rfl, q3⟩ := skE_of q2
    exact WK_less (k76 _ _ _ q3) (List.forall_mem_cons.mpr ⟨m0, (List.forall_mem_cons.mpr ⟨m1, (fun _ h => absurd h List.not_mem_nil)⟩)⟩)
def nX12_door (x1 : Int) (x2 : Int) (h : HH) : Option (Int × HH) := bX12_door nX12_isParcel nX12_leaves nX12_told nX12_refuse nX12_door_33 nX12_door_76 x1 x2 h
theorem wX12_door {g : SG} (hg : GOK g) {σ0 : SG} : ∀ {x1 : Int} {x2 : Int} {h : HH} {b : (Int × HH)}, nX12_door x1 x2 h = some b → WK 244 (.inl (some (aI b.1))) σ0 (abH 71 119 g b.2) 0 [(0, aR 71), (1, aI x1), (2, aI x2)] [] (abH 71 119 g h) 0 0 := by
  intro x1 x2 h b q
  exact uX12_door hg (fun _ _ q => wX12_door_33 hg q) (fun _ _ _ q => wX12_door_76 hg q) q
theorem mX12_door {g : SG} (hg : GOK g) {h : HH} {x1 : Int} {x2 : Int} {b : (Int × HH)} (q : nX12_door x1 x2 h = some b) : MCT 244 [] [aR 71, aI x1, aI x2] (abH 71 119 g h) (.inl (some (aI b.1))) (abH 71 119 g b.2) :=
  mct_of (by decide) (MFok 244 (by decide +kernel)) (fun _ => Nat.le_of_ble_eq_true rfl) (wX12_door hg q)
def pX12_door {β : Type} (z : Int → Int → HH → Option (Int × HH)) : PW β := fun as h f => skC 71 as fun as => skI as fun x1 as => skI as fun x2 as => skE as (bnd (z x1 x2 h) fun r => f (.inl (some (aI r.1))) r.2)
theorem pX12_door_ok {β : Type} {g : SG} (hg : GOK g) : CW1 (β := β) 244 (pX12_door nX12_door) 71 119 g := fun as h f b q => by
  obtain ⟨as, rfl, q1⟩ := skC_of q
  obtain ⟨x1, as, rfl, q2⟩ := skI_of q1
  obtain ⟨x2, as, rfl, q3⟩ := skI_of q2
  obtain ⟨rfl, q0⟩ := skE_of q3
  obtain ⟨r, z1, z2⟩ := bnd_of q0
  exact ⟨_, _, z2, by decide, mX12_door hg z1, rfl, rfl, fun z => absurd z (by decide)⟩
def csX12_locker : List (Nat × List (Nat × ARow)) := [(42, [(0, 1, .iload_n 1, 0, 0, 0), (1, 3, .invokestatic 196, 174, 1, 0), (4, 3, .ifCond .ne 9, 13, 0, 0), (7, 1, .aload_n 0, 0, 0, 0), (8, 1, .iconst 1, 0, 0, 0), (9, 3, .invokevirtual 200, 177, 2, 12), (12, 1, .ireturn, 0, 0, 0), (13, 1, .iload_n 1, 0, 0, 0), (14, 3, .ifCond .eq 12, 26, 0, 0), (17, 1, .iload_n 2, 0, 0, 0), (18, 1, .iconst 1, 0, 0, 0), (19, 1, .iconst 5, 0, 0, 0), (20, 3, .invokestatic 178, 171, 3, 0), (23, 3, .ifCond .ne 9, 32, 0, 0), (26, 1, .aload_n 0, 0, 0, 0), (27, 1, .iconst 2, 0, 0, 0), (28, 3, .invokevirtual 200, 177, 2, 12), (31, 1, .ireturn, 0, 0, 0), (32, 1, .aload_n 0, 0, 0, 0), (33, 3, .getfield 110, 12, 39, 2), (36, 1, .iload_n 1, 0, 0, 0), (37, 1, .baload, 0, 0, 0), (38, 3, .ifCond .eq 9, 47, 0, 0), (41, 1, .aload_n 0, 0, 0, 0)]),
  (100000, [(42, 1, .iconst 3, 0, 0, 0), (43, 3, .invokevirtual 200, 177, 2, 12), (46, 1, .ireturn, 0, 0, 0), (47, 1, .aload_n 0, 0, 0, 0), (48, 3, .getfield 110, 12, 39, 2), (51, 1, .iload_n 1, 0, 0, 0), (52, 1, .iconst 1, 0, 0, 0), (53, 1, .bastore, 0, 0, 0), (54, 1, .aload_n 0, 0, 0, 0), (55, 3, .getfield 107, 12, 38, 2), (58, 1, .iload_n 1, 0, 0, 0), (59, 1, .iload_n 2, 0, 0, 0), (60, 1, .iastore, 0, 0, 0), (61, 1, .aload_n 0, 0, 0, 0), (62, 1, .dup, 0, 0, 0), (63, 3, .getfield 395, 12, 40, 0), (66, 1, .iconst 1, 0, 0, 0), (67, 1, .iadd, 0, 0, 0), (68, 3, .putfield 395, 12, 40, 0), (71, 1, .aload_n 0, 0, 0, 0), (72, 1, .aload_n 0, 0, 0, 0), (73, 3, .getfield 395, 12, 40, 0), (76, 3, .invokevirtual 209, 178, 2, 12), (79, 1, .ireturn, 0, 0, 0)])]
theorem rwX12_locker : rowsB (mB 245) (mO 245) (mX 245) (mIni 245) (mFr 245) (mLo 245) (mT 245) csX12_locker = true := by decide +kernel
def bX12_locker_26 (f177 : Int → HH → Option (Int × HH)) (h : HH) : Option (Int × HH) :=
  bnd (f177 2 h) fun r1 =>
    some (r1.1, r1.2)
theorem uX12_locker_26 {g : SG} (hg : GOK g) {σ0 : SG} : ∀ {h : HH} {b : (Int × HH)}, bX12_locker_26 nX12_refuse h = some b → WK 245 (.inl (some (aI b.1))) σ0 (abH 71 119 g b.2) 26 [(0, aR 71)] [] (abH 71 119 g h) 0 0 := by
  intro h b q
  have e : ∀ (f177 : Int → HH → Option (Int × HH)) , bX12_locker_26 f177 h = segW 71 119 g.2.2.2.2 krWI (clC 177 (pX12_refuse f177) clN) csX12_locker cuN 1000 26 [(0, aR 71)] [] h := fun _ => rfl
  rw [e nX12_refuse] at q
  clear e
  refine segW_wk (by decide) (by decide) hg rwX12_locker (CLKW_C (pX12_refuse_ok hg) CLKW_N) krWI_ok ?_ q
  clear q
  exact ct_N
def nX12_locker_26 (h : HH) : Option (Int × HH) := bX12_locker_26 nX12_refuse h
theorem wX12_locker_26 {g : SG} (hg : GOK g) {σ0 : SG} : ∀ {h : HH} {b : (Int × HH)}, nX12_locker_26 h = some b → WK 245 (.inl (some (aI b.1))) σ0 (abH 71 119 g b.2) 26 [(0, aR 71)] [] (abH 71 119 g h) 0 0 := by
  intro h b q
  exact uX12_locker_26 hg q
def bX12_locker (f174 : HH → Int → Option Int) (f171 : HH → Int → Int → Int → Option Int) (f178 : Int → HH → Option (Int × HH)) (f177 : Int → HH → Option (Int × HH)) (c26 : HH → Option (Int × HH)) (x1 : Int) (x2 : Int) (h : HH) : Option (Int × HH) :=
  bnd (f174 h x1) fun r1 =>
    if r1 = (0 : Int) then
    bnd (f177 1 h) fun r8 =>
    some (r8.1, r8.2)
  else
    if x1 = (0 : Int) then
    c26 h
  else
    bnd (f171 h x2 1 5) fun r2 =>
    if r2 = (0 : Int) then
    c26 h
  else
    gd ((0 : Int) ≤ x1 ∧ x1 < (16 : Int)) <|
    if (h.1 102 x1) = (0 : Int) then
    gd ((0 : Int) ≤ x1 ∧ x1 < (16 : Int)) <|
    gd ((0 : Int) ≤ 1 ∧ 1 ≤ (1 : Int)) <|
    bnd (some (hI h 102 x1 1)) fun h3 =>
    gd ((0 : Int) ≤ x1 ∧ x1 < (16 : Int)) <|
    bnd (some (hI h3 101 x1 x2)) fun h4 =>
    gd (R32 ((h4.1 71 40) + 1)) <|
    bnd (some (hI h4 71 40 ((h4.1 71 40) + 1))) fun h5 =>
    bnd (f178 (h5.1 71 40) h5) fun r6 =>
    some (r6.1, r6.2)
  else
    bnd (f177 3 h) fun r7 =>
    some (r7.1, r7.2)
set_option maxRecDepth 100000 in
theorem uX12_locker {g : SG} (hg : GOK g) {σ0 : SG} {c26 : HH → Option (Int × HH)} (k26 : ∀ (h : HH) (b : (Int × HH)), c26 h = some b → WK 245 (.inl (some (aI b.1))) σ0 (abH 71 119 g b.2) 26 [(0, aR 71)] [] (abH 71 119 g h) 0 0) : ∀ {x1 : Int} {x2 : Int} {h : HH} {b : (Int × HH)}, bX12_locker nX12_isPlace nX12_in nX12_told nX12_refuse c26 x1 x2 h = some b → WK 245 (.inl (some (aI b.1))) σ0 (abH 71 119 g b.2) 0 [(0, aR 71), (1, aI x1), (2, aI x2)] [] (abH 71 119 g h) 0 0 := by
  intro x1 x2 h b q
  have e : ∀ (f174 : HH → Int → Option Int) (f171 : HH → Int → Int → Int → Option Int) (f178 : Int → HH → Option (Int × HH)) (f177 : Int → HH → Option (Int × HH)) , bX12_locker f174 f171 f178 f177 c26 x1 x2 h = segW 71 119 g.2.2.2.2 krWI (clC 174 (liPW (pX12_isPlace f174)) (clC 171 (liPW (pX12_in f171)) (clC 178 (pX12_told f178) (clC 177 (pX12_refuse f177) clN)))) csX12_locker (cuC 26 (fun l st s => tkC 0 71 l <| skE st (c26 s)) cuN) 1000 0 [(0, aR 71), (1, aI x1), (2, aI x2)] [] h := fun _ _ _ _ => rfl
  rw [e nX12_isPlace nX12_in nX12_told nX12_refuse] at q
  clear e
  refine segW_wk (by decide) (by decide) hg rwX12_locker (CLKW_C (liPW_ok (pX12_isPlace_ok hg)) (CLKW_C (liPW_ok (pX12_in_ok hg)) (CLKW_C (pX12_told_ok hg) (CLKW_C (pX12_refuse_ok hg) CLKW_N)))) krWI_ok ?_ q
  clear q
  refine ct_C ?_ (ct_N)
  · intro l st h q
    obtain ⟨m0, q1⟩ := tkC_of q
    obtain ⟨rfl, q2⟩ := skE_of q1
    exact WK_less (k26 _ _ q2) (List.forall_mem_cons.mpr ⟨m0, (fun _ h => absurd h List.not_mem_nil)⟩)
def nX12_locker (x1 : Int) (x2 : Int) (h : HH) : Option (Int × HH) := bX12_locker nX12_isPlace nX12_in nX12_told nX12_refuse nX12_locker_26 x1 x2 h
theorem wX12_locker {g : SG} (hg : GOK g) {σ0 : SG} : ∀ {x1 : Int} {x2 : Int} {h : HH} {b : (Int × HH)}, nX12_locker x1 x2 h = some b → WK 245 (.inl (some (aI b.1))) σ0 (abH 71 119 g b.2) 0 [(0, aR 71), (1, aI x1), (2, aI x2)] [] (abH 71 119 g h) 0 0 := by
  intro x1 x2 h b q
  exact uX12_locker hg (fun _ _ q => wX12_locker_26 hg q) q
theorem mX12_locker {g : SG} (hg : GOK g) {h : HH} {x1 : Int} {x2 : Int} {b : (Int × HH)} (q : nX12_locker x1 x2 h = some b) : MCT 245 [] [aR 71, aI x1, aI x2] (abH 71 119 g h) (.inl (some (aI b.1))) (abH 71 119 g b.2) :=
  mct_of (by decide) (MFok 245 (by decide +kernel)) (fun _ => Nat.le_of_ble_eq_true rfl) (wX12_locker hg q)
def pX12_locker {β : Type} (z : Int → Int → HH → Option (Int × HH)) : PW β := fun as h f => skC 71 as fun as => skI as fun x1 as => skI as fun x2 as => skE as (bnd (z x1 x2 h) fun r => f (.inl (some (aI r.1))) r.2)
theorem pX12_locker_ok {β : Type} {g : SG} (hg : GOK g) : CW1 (β := β) 245 (pX12_locker nX12_locker) 71 119 g := fun as h f b q => by
  obtain ⟨as, rfl, q1⟩ := skC_of q
  obtain ⟨x1, as, rfl, q2⟩ := skI_of q1
  obtain ⟨x2, as, rfl, q3⟩ := skI_of q2
  obtain ⟨rfl, q0⟩ := skE_of q3
  obtain ⟨r, z1, z2⟩ := bnd_of q0
  exact ⟨_, _, z2, by decide, mX12_locker hg z1, rfl, rfl, fun z => absurd z (by decide)⟩
def csX12_parcelAt : List (Nat × List (Nat × ARow)) := [(78, [(0, 1, .aload_n 0, 0, 0, 0), (1, 1, .iload_n 1, 0, 0, 0), (2, 3, .invokevirtual 220, 175, 2, 12), (5, 3, .ifCond .ne 9, 14, 0, 0), (8, 1, .aload_n 0, 0, 0, 0), (9, 1, .iconst 1, 0, 0, 0), (10, 3, .invokevirtual 200, 177, 2, 12), (13, 1, .ireturn, 0, 0, 0), (14, 1, .iload_n 2, 0, 0, 0), (15, 41, .tableswitch 118 0 6 #[41, 52, 63, 74, 85, 96, 107], 0, 0, 0), (56, 1, .aload_n 0, 0, 0, 0), (57, 1, .aload_n 0, 0, 0, 0), (58, 3, .getfield 55, 12, 17, 2), (61, 1, .iload_n 1, 0, 0, 0), (62, 1, .iaload, 0, 0, 0), (63, 3, .invokevirtual 209, 178, 2, 12), (66, 1, .ireturn, 0, 0, 0), (67, 1, .aload_n 0, 0, 0, 0), (68, 1, .aload_n 0, 0, 0, 0), (69, 3, .getfield 58, 12, 18, 2), (72, 1, .iload_n 1, 0, 0, 0), (73, 1, .iaload, 0, 0, 0), (74, 3, .invokevirtual 209, 178, 2, 12), (77, 1, .ireturn, 0, 0, 0)]),
  (116, [(78, 1, .aload_n 0, 0, 0, 0), (79, 1, .aload_n 0, 0, 0, 0), (80, 3, .getfield 64, 12, 20, 2), (83, 1, .iload_n 1, 0, 0, 0), (84, 1, .iaload, 0, 0, 0), (85, 3, .invokevirtual 209, 178, 2, 12), (88, 1, .ireturn, 0, 0, 0), (89, 1, .aload_n 0, 0, 0, 0), (90, 1, .aload_n 0, 0, 0, 0), (91, 3, .getfield 61, 12, 19, 2), (94, 1, .iload_n 1, 0, 0, 0), (95, 1, .iaload, 0, 0, 0), (96, 3, .invokevirtual 209, 178, 2, 12), (99, 1, .ireturn, 0, 0, 0), (100, 1, .aload_n 0, 0, 0, 0), (101, 1, .aload_n 0, 0, 0, 0), (102, 3, .getfield 37, 12, 11, 2), (105, 1, .iload_n 1, 0, 0, 0), (106, 1, .iaload, 0, 0, 0), (107, 3, .invokevirtual 209, 178, 2, 12), (110, 1, .ireturn, 0, 0, 0), (111, 1, .aload_n 0, 0, 0, 0), (112, 1, .aload_n 0, 0, 0, 0), (113, 3, .getfield 40, 12, 12, 2)]),
  (100000, [(116, 1, .iload_n 1, 0, 0, 0), (117, 1, .iaload, 0, 0, 0), (118, 3, .invokevirtual 209, 178, 2, 12), (121, 1, .ireturn, 0, 0, 0), (122, 1, .aload_n 0, 0, 0, 0), (123, 1, .aload_n 0, 0, 0, 0), (124, 3, .getfield 43, 12, 13, 2), (127, 1, .iload_n 1, 0, 0, 0), (128, 1, .iaload, 0, 0, 0), (129, 3, .invokevirtual 209, 178, 2, 12), (132, 1, .ireturn, 0, 0, 0), (133, 1, .aload_n 0, 0, 0, 0), (134, 1, .iconst 2, 0, 0, 0), (135, 3, .invokevirtual 200, 177, 2, 12), (138, 1, .ireturn, 0, 0, 0)])]
theorem rwX12_parcelAt : rowsB (mB 246) (mO 246) (mX 246) (mIni 246) (mFr 246) (mLo 246) (mT 246) csX12_parcelAt = true := by decide +kernel
def bX12_parcelAt_14 (f178 : Int → HH → Option (Int × HH)) (f177 : Int → HH → Option (Int × HH)) (x1 : Int) (x2 : Int) (h : HH) : Option (Int × HH) :=
  if x2 = (0 : Int) then
    gd ((0 : Int) ≤ x1 ∧ x1 < (9 : Int)) <|
    bnd (f178 (h.1 87 x1) h) fun r1 =>
    some (r1.1, r1.2)
  else if x2 = (1 : Int) then
    gd ((0 : Int) ≤ x1 ∧ x1 < (9 : Int)) <|
    bnd (f178 (h.1 88 x1) h) fun r2 =>
    some (r2.1, r2.2)
  else if x2 = (2 : Int) then
    gd ((0 : Int) ≤ x1 ∧ x1 < (9 : Int)) <|
    bnd (f178 (h.1 90 x1) h) fun r3 =>
    some (r3.1, r3.2)
  else if x2 = (3 : Int) then
    gd ((0 : Int) ≤ x1 ∧ x1 < (9 : Int)) <|
    bnd (f178 (h.1 89 x1) h) fun r4 =>
    some (r4.1, r4.2)
  else if x2 = (4 : Int) then
    gd ((0 : Int) ≤ x1 ∧ x1 < (9 : Int)) <|
    bnd (f178 (h.1 81 x1) h) fun r5 =>
    some (r5.1, r5.2)
  else if x2 = (5 : Int) then
    gd ((0 : Int) ≤ x1 ∧ x1 < (9 : Int)) <|
    bnd (f178 (h.1 82 x1) h) fun r6 =>
    some (r6.1, r6.2)
  else if x2 = (6 : Int) then
    gd ((0 : Int) ≤ x1 ∧ x1 < (9 : Int)) <|
    bnd (f178 (h.1 83 x1) h) fun r7 =>
    some (r7.1, r7.2)
  else 
    bnd (f177 2 h) fun r8 =>
    some (r8.1, r8.2)
set_option maxRecDepth 100000 in
theorem uX12_parcelAt_14 {g : SG} (hg : GOK g) {σ0 : SG} : ∀ {x1 : Int} {x2 : Int} {h : HH} {b : (Int × HH)}, bX12_parcelAt_14 nX12_told nX12_refuse x1 x2 h = some b → WK 246 (.inl (some (aI b.1))) σ0 (abH 71 119 g b.2) 14 [(0, aR 71), (1, aI x1), (2, aI x2)] [] (abH 71 119 g h) 0 0 := by
  intro x1 x2 h b q
  have e : ∀ (f178 : Int → HH → Option (Int × HH)) (f177 : Int → HH → Option (Int × HH)) , bX12_parcelAt_14 f178 f177 x1 x2 h = segW 71 119 g.2.2.2.2 krWI (clC 178 (pX12_told f178) (clC 177 (pX12_refuse f177) clN)) csX12_parcelAt cuN 1000 14 [(0, aR 71), (1, aI x1), (2, aI x2)] [] h := fun _ _ => rfl
  rw [e nX12_told nX12_refuse] at q
  clear e
  refine segW_wk (by decide) (by decide) hg rwX12_parcelAt (CLKW_C (pX12_told_ok hg) (CLKW_C (pX12_refuse_ok hg) CLKW_N)) krWI_ok ?_ q
  clear q
  exact ct_N
def nX12_parcelAt_14 (x1 : Int) (x2 : Int) (h : HH) : Option (Int × HH) := bX12_parcelAt_14 nX12_told nX12_refuse x1 x2 h
theorem wX12_parcelAt_14 {g : SG} (hg : GOK g) {σ0 : SG} : ∀ {x1 : Int} {x2 : Int} {h : HH} {b : (Int × HH)}, nX12_parcelAt_14 x1 x2 h = some b → WK 246 (.inl (some (aI b.1))) σ0 (abH 71 119 g b.2) 14 [(0, aR 71), (1, aI x1), (2, aI x2)] [] (abH 71 119 g h) 0 0 := by
  intro x1 x2 h b q
  exact uX12_parcelAt_14 hg q
def bX12_parcelAt (f175 : HH → Int → Option Int) (f177 : Int → HH → Option (Int × HH)) (c14 : Int → Int → HH → Option (Int × HH)) (x1 : Int) (x2 : Int) (h : HH) : Option (Int × HH) :=
  bnd (f175 h x1) fun r1 =>
    if r1 = (0 : Int) then
    bnd (f177 1 h) fun r2 =>
    some (r2.1, r2.2)
  else
    c14 x1 x2 h
theorem uX12_parcelAt {g : SG} (hg : GOK g) {σ0 : SG} {c14 : Int → Int → HH → Option (Int × HH)} (k14 : ∀ (x1 : Int) (x2 : Int) (h : HH) (b : (Int × HH)), c14 x1 x2 h = some b → WK 246 (.inl (some (aI b.1))) σ0 (abH 71 119 g b.2) 14 [(0, aR 71), (1, aI x1), (2, aI x2)] [] (abH 71 119 g h) 0 0) : ∀ {x1 : Int} {x2 : Int} {h : HH} {b : (Int × HH)}, bX12_parcelAt nX12_isParcel nX12_refuse c14 x1 x2 h = some b → WK 246 (.inl (some (aI b.1))) σ0 (abH 71 119 g b.2) 0 [(0, aR 71), (1, aI x1), (2, aI x2)] [] (abH 71 119 g h) 0 0 := by
  intro x1 x2 h b q
  have e : ∀ (f175 : HH → Int → Option Int) (f177 : Int → HH → Option (Int × HH)) , bX12_parcelAt f175 f177 c14 x1 x2 h = segW 71 119 g.2.2.2.2 krWI (clC 175 (liPW (pX12_isParcel f175)) (clC 177 (pX12_refuse f177) clN)) csX12_parcelAt (cuC 14 (fun l st s => tkC 0 71 l <| tkI 1 l fun x1 => tkI 2 l fun x2 => skE st (c14 x1 x2 s)) cuN) 1000 0 [(0, aR 71), (1, aI x1), (2, aI x2)] [] h := fun _ _ => rfl
  rw [e nX12_isParcel nX12_refuse] at q
  clear e
  refine segW_wk (by decide) (by decide) hg rwX12_parcelAt (CLKW_C (liPW_ok (pX12_isParcel_ok hg)) (CLKW_C (pX12_refuse_ok hg) CLKW_N)) krWI_ok ?_ q
  clear q
  refine ct_C ?_ (ct_N)
  · intro l st h q
    obtain ⟨m0, q1⟩ := tkC_of q
    obtain ⟨x1, m1, q2⟩ := tkI_of q1
    obtain ⟨x2, m2, q3⟩ := tkI_of q2
    obtain ⟨rfl, q4⟩ := skE_of q3
    exact WK_less (k14 _ _ _ _ q4) (List.forall_mem_cons.mpr ⟨m0, (List.forall_mem_cons.mpr ⟨m1, (List.forall_mem_cons.mpr ⟨m2, (fun _ h => absurd h List.not_mem_nil)⟩)⟩)⟩)
def nX12_parcelAt (x1 : Int) (x2 : Int) (h : HH) : Option (Int × HH) := bX12_parcelAt nX12_isParcel nX12_refuse nX12_parcelAt_14 x1 x2 h
theorem wX12_parcelAt {g : SG} (hg : GOK g) {σ0 : SG} : ∀ {x1 : Int} {x2 : Int} {h : HH} {b : (Int × HH)}, nX12_parcelAt x1 x2 h = some b → WK 246 (.inl (some (aI b.1))) σ0 (abH 71 119 g b.2) 0 [(0, aR 71), (1, aI x1), (2, aI x2)] [] (abH 71 119 g h) 0 0 := by
  intro x1 x2 h b q
  exact uX12_parcelAt hg (fun _ _ _ _ q => wX12_parcelAt_14 hg q) q
theorem mX12_parcelAt {g : SG} (hg : GOK g) {h : HH} {x1 : Int} {x2 : Int} {b : (Int × HH)} (q : nX12_parcelAt x1 x2 h = some b) : MCT 246 [] [aR 71, aI x1, aI x2] (abH 71 119 g h) (.inl (some (aI b.1))) (abH 71 119 g b.2) :=
  mct_of (by decide) (MFok 246 (by decide +kernel)) (fun _ => Nat.le_of_ble_eq_true rfl) (wX12_parcelAt hg q)
def pX12_parcelAt {β : Type} (z : Int → Int → HH → Option (Int × HH)) : PW β := fun as h f => skC 71 as fun as => skI as fun x1 as => skI as fun x2 as => skE as (bnd (z x1 x2 h) fun r => f (.inl (some (aI r.1))) r.2)
theorem pX12_parcelAt_ok {β : Type} {g : SG} (hg : GOK g) : CW1 (β := β) 246 (pX12_parcelAt nX12_parcelAt) 71 119 g := fun as h f b q => by
  obtain ⟨as, rfl, q1⟩ := skC_of q
  obtain ⟨x1, as, rfl, q2⟩ := skI_of q1
  obtain ⟨x2, as, rfl, q3⟩ := skI_of q2
  obtain ⟨rfl, q0⟩ := skE_of q3
  obtain ⟨r, z1, z2⟩ := bnd_of q0
  exact ⟨_, _, z2, by decide, mX12_parcelAt hg z1, rfl, rfl, fun z => absurd z (by decide)⟩
def csX12_setZone : List (Nat × List (Nat × ARow)) := [(40, [(0, 1, .iload_n 1, 0, 0, 0), (1, 3, .invokestatic 196, 174, 1, 0), (4, 3, .ifCond .ne 9, 13, 0, 0), (7, 1, .aload_n 0, 0, 0, 0), (8, 1, .iconst 1, 0, 0, 0), (9, 3, .invokevirtual 200, 177, 2, 12), (12, 1, .ireturn, 0, 0, 0), (13, 1, .iload_n 1, 0, 0, 0), (14, 3, .ifCond .eq 12, 26, 0, 0), (17, 1, .iload_n 2, 0, 0, 0), (18, 1, .iconst 0, 0, 0, 0), (19, 1, .iconst 2, 0, 0, 0), (20, 3, .invokestatic 178, 171, 3, 0), (23, 3, .ifCond .ne 9, 32, 0, 0), (26, 1, .aload_n 0, 0, 0, 0), (27, 1, .iconst 2, 0, 0, 0), (28, 3, .invokevirtual 200, 177, 2, 12), (31, 1, .ireturn, 0, 0, 0), (32, 1, .aload_n 0, 0, 0, 0), (33, 3, .getfield 104, 12, 37, 2), (36, 1, .iload_n 1, 0, 0, 0), (37, 1, .iaload, 0, 0, 0), (38, 1, .istore_n 3, 0, 0, 0), (39, 1, .aload_n 0, 0, 0, 0)]),
  (100000, [(40, 3, .getfield 104, 12, 37, 2), (43, 1, .iload_n 1, 0, 0, 0), (44, 1, .iload_n 2, 0, 0, 0), (45, 1, .iastore, 0, 0, 0), (46, 1, .aload_n 0, 0, 0, 0), (47, 1, .iload_n 3, 0, 0, 0), (48, 3, .invokevirtual 209, 178, 2, 12), (51, 1, .ireturn, 0, 0, 0)])]
theorem rwX12_setZone : rowsB (mB 247) (mO 247) (mX 247) (mIni 247) (mFr 247) (mLo 247) (mT 247) csX12_setZone = true := by decide +kernel
def bX12_setZone_26 (f177 : Int → HH → Option (Int × HH)) (h : HH) : Option (Int × HH) :=
  bnd (f177 2 h) fun r1 =>
    some (r1.1, r1.2)
theorem uX12_setZone_26 {g : SG} (hg : GOK g) {σ0 : SG} : ∀ {h : HH} {b : (Int × HH)}, bX12_setZone_26 nX12_refuse h = some b → WK 247 (.inl (some (aI b.1))) σ0 (abH 71 119 g b.2) 26 [(0, aR 71)] [] (abH 71 119 g h) 0 0 := by
  intro h b q
  have e : ∀ (f177 : Int → HH → Option (Int × HH)) , bX12_setZone_26 f177 h = segW 71 119 g.2.2.2.2 krWI (clC 177 (pX12_refuse f177) clN) csX12_setZone cuN 1000 26 [(0, aR 71)] [] h := fun _ => rfl
  rw [e nX12_refuse] at q
  clear e
  refine segW_wk (by decide) (by decide) hg rwX12_setZone (CLKW_C (pX12_refuse_ok hg) CLKW_N) krWI_ok ?_ q
  clear q
  exact ct_N
def nX12_setZone_26 (h : HH) : Option (Int × HH) := bX12_setZone_26 nX12_refuse h
theorem wX12_setZone_26 {g : SG} (hg : GOK g) {σ0 : SG} : ∀ {h : HH} {b : (Int × HH)}, nX12_setZone_26 h = some b → WK 247 (.inl (some (aI b.1))) σ0 (abH 71 119 g b.2) 26 [(0, aR 71)] [] (abH 71 119 g h) 0 0 := by
  intro h b q
  exact uX12_setZone_26 hg q
def bX12_setZone (f174 : HH → Int → Option Int) (f171 : HH → Int → Int → Int → Option Int) (f178 : Int → HH → Option (Int × HH)) (f177 : Int → HH → Option (Int × HH)) (c26 : HH → Option (Int × HH)) (x1 : Int) (x2 : Int) (h : HH) : Option (Int × HH) :=
  bnd (f174 h x1) fun r1 =>
    if r1 = (0 : Int) then
    bnd (f177 1 h) fun r5 =>
    some (r5.1, r5.2)
  else
    if x1 = (0 : Int) then
    c26 h
  else
    bnd (f171 h x2 0 2) fun r2 =>
    if r2 = (0 : Int) then
    c26 h
  else
    gd ((0 : Int) ≤ x1 ∧ x1 < (16 : Int)) <|
    gd ((0 : Int) ≤ x1 ∧ x1 < (16 : Int)) <|
    bnd (some (hI h 100 x1 x2)) fun h3 =>
    bnd (f178 (h.1 100 x1) h3) fun r4 =>
    some (r4.1, r4.2)
set_option maxRecDepth 100000 in
theorem uX12_setZone {g : SG} (hg : GOK g) {σ0 : SG} {c26 : HH → Option (Int × HH)} (k26 : ∀ (h : HH) (b : (Int × HH)), c26 h = some b → WK 247 (.inl (some (aI b.1))) σ0 (abH 71 119 g b.2) 26 [(0, aR 71)] [] (abH 71 119 g h) 0 0) : ∀ {x1 : Int} {x2 : Int} {h : HH} {b : (Int × HH)}, bX12_setZone nX12_isPlace nX12_in nX12_told nX12_refuse c26 x1 x2 h = some b → WK 247 (.inl (some (aI b.1))) σ0 (abH 71 119 g b.2) 0 [(0, aR 71), (1, aI x1), (2, aI x2)] [] (abH 71 119 g h) 0 0 := by
  intro x1 x2 h b q
  have e : ∀ (f174 : HH → Int → Option Int) (f171 : HH → Int → Int → Int → Option Int) (f178 : Int → HH → Option (Int × HH)) (f177 : Int → HH → Option (Int × HH)) , bX12_setZone f174 f171 f178 f177 c26 x1 x2 h = segW 71 119 g.2.2.2.2 krWI (clC 174 (liPW (pX12_isPlace f174)) (clC 171 (liPW (pX12_in f171)) (clC 178 (pX12_told f178) (clC 177 (pX12_refuse f177) clN)))) csX12_setZone (cuC 26 (fun l st s => tkC 0 71 l <| skE st (c26 s)) cuN) 1000 0 [(0, aR 71), (1, aI x1), (2, aI x2)] [] h := fun _ _ _ _ => rfl
  rw [e nX12_isPlace nX12_in nX12_told nX12_refuse] at q
  clear e
  refine segW_wk (by decide) (by decide) hg rwX12_setZone (CLKW_C (liPW_ok (pX12_isPlace_ok hg)) (CLKW_C (liPW_ok (pX12_in_ok hg)) (CLKW_C (pX12_told_ok hg) (CLKW_C (pX12_refuse_ok hg) CLKW_N)))) krWI_ok ?_ q
  clear q
  refine ct_C ?_ (ct_N)
  · intro l st h q
    obtain ⟨m0, q1⟩ := tkC_of q
    obtain ⟨rfl, q2⟩ := skE_of q1
    exact WK_less (k26 _ _ q2) (List.forall_mem_cons.mpr ⟨m0, (fun _ h => absurd h List.not_mem_nil)⟩)
def nX12_setZone (x1 : Int) (x2 : Int) (h : HH) : Option (Int × HH) := bX12_setZone nX12_isPlace nX12_in nX12_told nX12_refuse nX12_setZone_26 x1 x2 h
theorem wX12_setZone {g : SG} (hg : GOK g) {σ0 : SG} : ∀ {x1 : Int} {x2 : Int} {h : HH} {b : (Int × HH)}, nX12_setZone x1 x2 h = some b → WK 247 (.inl (some (aI b.1))) σ0 (abH 71 119 g b.2) 0 [(0, aR 71), (1, aI x1), (2, aI x2)] [] (abH 71 119 g h) 0 0 := by
  intro x1 x2 h b q
  exact uX12_setZone hg (fun _ _ q => wX12_setZone_26 hg q) q
theorem mX12_setZone {g : SG} (hg : GOK g) {h : HH} {x1 : Int} {x2 : Int} {b : (Int × HH)} (q : nX12_setZone x1 x2 h = some b) : MCT 247 [] [aR 71, aI x1, aI x2] (abH 71 119 g h) (.inl (some (aI b.1))) (abH 71 119 g b.2) :=
  mct_of (by decide) (MFok 247 (by decide +kernel)) (fun _ => Nat.le_of_ble_eq_true rfl) (wX12_setZone hg q)
def pX12_setZone {β : Type} (z : Int → Int → HH → Option (Int × HH)) : PW β := fun as h f => skC 71 as fun as => skI as fun x1 as => skI as fun x2 as => skE as (bnd (z x1 x2 h) fun r => f (.inl (some (aI r.1))) r.2)
theorem pX12_setZone_ok {β : Type} {g : SG} (hg : GOK g) : CW1 (β := β) 247 (pX12_setZone nX12_setZone) 71 119 g := fun as h f b q => by
  obtain ⟨as, rfl, q1⟩ := skC_of q
  obtain ⟨x1, as, rfl, q2⟩ := skI_of q1
  obtain ⟨x2, as, rfl, q3⟩ := skI_of q2
  obtain ⟨rfl, q0⟩ := skE_of q3
  obtain ⟨r, z1, z2⟩ := bnd_of q0
  exact ⟨_, _, z2, by decide, mX12_setZone hg z1, rfl, rfl, fun z => absurd z (by decide)⟩
def csX12_loadOfPlace : List (Nat × List (Nat × ARow)) := [(38, [(0, 1, .iconst 0, 0, 0, 0), (1, 1, .istore_n 2, 0, 0, 0), (2, 1, .iconst 0, 0, 0, 0), (3, 1, .istore_n 3, 0, 0, 0), (4, 1, .iload_n 3, 0, 0, 0), (5, 1, .aload_n 0, 0, 0, 0), (6, 3, .getfield 182, 12, 21, 0), (9, 3, .if_icmp .ge 41, 50, 0, 0), (12, 1, .iload_n 2, 0, 0, 0), (13, 1, .aload_n 0, 0, 0, 0), (14, 3, .getfield 55, 12, 17, 2), (17, 1, .iload_n 3, 0, 0, 0), (18, 1, .iaload, 0, 0, 0), (19, 3, .ifCond .ne 22, 41, 0, 0), (22, 1, .aload_n 0, 0, 0, 0), (23, 3, .getfield 37, 12, 11, 2), (26, 1, .iload_n 3, 0, 0, 0), (27, 1, .iaload, 0, 0, 0), (28, 1, .iload_n 1, 0, 0, 0), (29, 3, .if_icmp .ne 12, 41, 0, 0), (32, 1, .aload_n 0, 0, 0, 0), (33, 3, .getfield 40, 12, 12, 2), (36, 1, .iload_n 3, 0, 0, 0), (37, 1, .iaload, 0, 0, 0)]),
  (100000, [(38, 3, .goto 4, 42, 0, 0), (41, 1, .iconst 0, 0, 0, 0), (42, 1, .iadd, 0, 0, 0), (43, 1, .istore_n 2, 0, 0, 0), (44, 3, .iinc 3 1, 0, 0, 0), (47, 3, .goto (-43), 4, 0, 0), (50, 1, .iload_n 2, 0, 0, 0), (51, 1, .ireturn, 0, 0, 0)])]
theorem rwX12_loadOfPlace : rowsB (mB 248) (mO 248) (mX 248) (mIni 248) (mFr 248) (mLo 248) (mT 248) csX12_loadOfPlace = true := by decide +kernel
def bX12_loadOfPlace_42 (h : HH) (c4 : Int → Int → Int → Option Int) (x1 : Int) (x3 : Int) (y0 : Int) (y1 : Int) : Option Int :=
  gd (R32 (y1 + y0)) <|
    gd (R32 (x3 + 1)) <|
    c4 x1 (y1 + y0) (x3 + 1)
theorem uX12_loadOfPlace_42 {g : SG} (hg : GOK g) {σ0 : SG} {h : HH} {c4 : Int → Int → Int → Option Int} (k4 : ∀ (x1 : Int) (x2 : Int) (x3 : Int) (b : Int), c4 x1 x2 x3 = some b → WK 248 (.inl (some (aI b))) σ0 (abH 71 119 g h) 4 [(0, aR 71), (1, aI x1), (2, aI x2), (3, aI x3)] [] (abH 71 119 g h) 0 0) : ∀ {x1 : Int} {x3 : Int} {y0 : Int} {y1 : Int} {b : Int}, bX12_loadOfPlace_42 h c4 x1 x3 y0 y1 = some b → WK 248 (.inl (some (aI b))) σ0 (abH 71 119 g h) 42 [(0, aR 71), (1, aI x1), (3, aI x3)] [aI y0, aI y1] (abH 71 119 g h) 0 0 := by
  intro x1 x3 y0 y1 b q
  have e : bX12_loadOfPlace_42 h c4 x1 x3 y0 y1 = segP 71 119 g.2.2.2.2 h krPI clNP csX12_loadOfPlace (cuC 4 (fun l st s => tkC 0 71 l <| tkI 1 l fun x1 => tkI 2 l fun x2 => tkI 3 l fun x3 => skE st (c4 x1 x2 x3)) cuN) 1000 42 [(0, aR 71), (1, aI x1), (3, aI x3)] [aI y0, aI y1] := rfl
  rw [e] at q
  clear e
  refine segP_wk (by decide) (by decide) hg rwX12_loadOfPlace CLKP_N krPI_ok ?_ q
  clear q
  refine ct_C ?_ (ct_N)
  · intro l st _ q
    obtain ⟨m0, q1⟩ := tkC_of q
    obtain ⟨x1, m1, q2⟩ := tkI_of q1
    obtain ⟨x2, m2, q3⟩ := tkI_of q2
    obtain ⟨x3, m3, q4⟩ := tkI_of q3
    obtain ⟨rfl, q5⟩ := skE_of q4
    exact WK_less (k4 _ _ _ _ q5) (List.forall_mem_cons.mpr ⟨m0, (List.forall_mem_cons.mpr ⟨m1, (List.forall_mem_cons.mpr ⟨m2, (List.forall_mem_cons.mpr ⟨m3, (fun _ h => absurd h List.not_mem_nil)⟩)⟩)⟩)⟩)
def nX12_loadOfPlace_42 (h : HH) (c4 : Int → Int → Int → Option Int) (x1 : Int) (x3 : Int) (y0 : Int) (y1 : Int) : Option Int := bX12_loadOfPlace_42 h c4 x1 x3 y0 y1
theorem wX12_loadOfPlace_42 {g : SG} (hg : GOK g) {σ0 : SG} {h : HH} {c4 : Int → Int → Int → Option Int} (k4 : ∀ (x1 : Int) (x2 : Int) (x3 : Int) (b : Int), c4 x1 x2 x3 = some b → WK 248 (.inl (some (aI b))) σ0 (abH 71 119 g h) 4 [(0, aR 71), (1, aI x1), (2, aI x2), (3, aI x3)] [] (abH 71 119 g h) 0 0) : ∀ {x1 : Int} {x3 : Int} {y0 : Int} {y1 : Int} {b : Int}, nX12_loadOfPlace_42 h c4 x1 x3 y0 y1 = some b → WK 248 (.inl (some (aI b))) σ0 (abH 71 119 g h) 42 [(0, aR 71), (1, aI x1), (3, aI x3)] [aI y0, aI y1] (abH 71 119 g h) 0 0 := by
  intro x1 x3 y0 y1 b q
  exact uX12_loadOfPlace_42 hg k4 q
def bX12_loadOfPlace_41 (h : HH) (c42 : Int → Int → Int → Int → Option Int) (x1 : Int) (x3 : Int) (y0 : Int) : Option Int :=
  c42 x1 x3 0 y0
theorem uX12_loadOfPlace_41 {g : SG} (hg : GOK g) {σ0 : SG} {h : HH} {c42 : Int → Int → Int → Int → Option Int} (k42 : ∀ (x1 : Int) (x3 : Int) (y0 : Int) (y1 : Int) (b : Int), c42 x1 x3 y0 y1 = some b → WK 248 (.inl (some (aI b))) σ0 (abH 71 119 g h) 42 [(0, aR 71), (1, aI x1), (3, aI x3)] [aI y0, aI y1] (abH 71 119 g h) 0 0) : ∀ {x1 : Int} {x3 : Int} {y0 : Int} {b : Int}, bX12_loadOfPlace_41 h c42 x1 x3 y0 = some b → WK 248 (.inl (some (aI b))) σ0 (abH 71 119 g h) 41 [(0, aR 71), (1, aI x1), (3, aI x3)] [aI y0] (abH 71 119 g h) 0 0 := by
  intro x1 x3 y0 b q
  have e : bX12_loadOfPlace_41 h c42 x1 x3 y0 = segP 71 119 g.2.2.2.2 h krPI clNP csX12_loadOfPlace (cuC 42 (fun l st s => tkC 0 71 l <| tkI 1 l fun x1 => tkI 3 l fun x3 => skI st fun y0 st => skI st fun y1 st => skE st (c42 x1 x3 y0 y1)) cuN) 1000 41 [(0, aR 71), (1, aI x1), (3, aI x3)] [aI y0] := rfl
  rw [e] at q
  clear e
  refine segP_wk (by decide) (by decide) hg rwX12_loadOfPlace CLKP_N krPI_ok ?_ q
  clear q
  refine ct_C ?_ (ct_N)
  · intro l st _ q
    obtain ⟨m0, q1⟩ := tkC_of q
    obtain ⟨x1, m1, q2⟩ := tkI_of q1
    obtain ⟨x3, m3, q3⟩ := tkI_of q2
    obtain ⟨y0, t0, rfl, q4⟩ := skI_of q3
    obtain ⟨y1, t1, rfl, q5⟩ := skI_of q4
    obtain ⟨rfl, q6⟩ := skE_of q5
    exact WK_less (k42 _ _ _ _ _ q6) (List.forall_mem_cons.mpr ⟨m0, (List.forall_mem_cons.mpr ⟨m1, (List.forall_mem_cons.mpr ⟨m3, (fun _ h => absurd h List.not_mem_nil)⟩)⟩)⟩)
def nX12_loadOfPlace_41 (h : HH) (c4 : Int → Int → Int → Option Int) (x1 : Int) (x3 : Int) (y0 : Int) : Option Int := bX12_loadOfPlace_41 h (nX12_loadOfPlace_42 h c4) x1 x3 y0
theorem wX12_loadOfPlace_41 {g : SG} (hg : GOK g) {σ0 : SG} {h : HH} {c4 : Int → Int → Int → Option Int} (k4 : ∀ (x1 : Int) (x2 : Int) (x3 : Int) (b : Int), c4 x1 x2 x3 = some b → WK 248 (.inl (some (aI b))) σ0 (abH 71 119 g h) 4 [(0, aR 71), (1, aI x1), (2, aI x2), (3, aI x3)] [] (abH 71 119 g h) 0 0) : ∀ {x1 : Int} {x3 : Int} {y0 : Int} {b : Int}, nX12_loadOfPlace_41 h c4 x1 x3 y0 = some b → WK 248 (.inl (some (aI b))) σ0 (abH 71 119 g h) 41 [(0, aR 71), (1, aI x1), (3, aI x3)] [aI y0] (abH 71 119 g h) 0 0 := by
  intro x1 x3 y0 b q
  exact uX12_loadOfPlace_41 hg (fun _ _ _ _ _ q => wX12_loadOfPlace_42 hg k4 q) q
def bX12_loadOfPlace_4 (h : HH) (c41 : Int → Int → Int → Option Int) (c42 : Int → Int → Int → Int → Option Int) (x1 : Int) (x2 : Int) (x3 : Int) : Option Int :=
  if x3 < ((h.1 71 21) : Int) then
    gd ((0 : Int) ≤ x3 ∧ x3 < (9 : Int)) <|
    if (h.1 87 x3) = (0 : Int) then
    gd ((0 : Int) ≤ x3 ∧ x3 < (9 : Int)) <|
    if (h.1 81 x3) = (x1 : Int) then
    gd ((0 : Int) ≤ x3 ∧ x3 < (9 : Int)) <|
    c42 x1 x3 (h.1 82 x3) x2
  else
    c41 x1 x3 x2
  else
    c41 x1 x3 x2
  else
    some x2
set_option maxRecDepth 100000 in
theorem uX12_loadOfPlace_4 {g : SG} (hg : GOK g) {σ0 : SG} {h : HH} {c41 : Int → Int → Int → Option Int} {c42 : Int → Int → Int → Int → Option Int} (k41 : ∀ (x1 : Int) (x3 : Int) (y0 : Int) (b : Int), c41 x1 x3 y0 = some b → WK 248 (.inl (some (aI b))) σ0 (abH 71 119 g h) 41 [(0, aR 71), (1, aI x1), (3, aI x3)] [aI y0] (abH 71 119 g h) 0 0) (k42 : ∀ (x1 : Int) (x3 : Int) (y0 : Int) (y1 : Int) (b : Int), c42 x1 x3 y0 y1 = some b → WK 248 (.inl (some (aI b))) σ0 (abH 71 119 g h) 42 [(0, aR 71), (1, aI x1), (3, aI x3)] [aI y0, aI y1] (abH 71 119 g h) 0 0) : ∀ {x1 : Int} {x2 : Int} {x3 : Int} {b : Int}, bX12_loadOfPlace_4 h c41 c42 x1 x2 x3 = some b → WK 248 (.inl (some (aI b))) σ0 (abH 71 119 g h) 4 [(0, aR 71), (1, aI x1), (2, aI x2), (3, aI x3)] [] (abH 71 119 g h) 0 0 := by
  intro x1 x2 x3 b q
  have e : bX12_loadOfPlace_4 h c41 c42 x1 x2 x3 = segP 71 119 g.2.2.2.2 h krPI clNP csX12_loadOfPlace (cuC 41 (fun l st s => tkC 0 71 l <| tkI 1 l fun x1 => tkI 3 l fun x3 => skI st fun y0 st => skE st (c41 x1 x3 y0)) (cuC 42 (fun l st s => tkC 0 71 l <| tkI 1 l fun x1 => tkI 3 l fun x3 => skI st fun y0 st => skI st fun y1 st => skE st (c42 x1 x3 y0 y1)) cuN)) 1000 4 [(0, aR 71), (1, aI x1), (2, aI x2), (3, aI x3)] [] := rfl
  rw [e] at q
  clear e
  refine segP_wk (by decide) (by decide) hg rwX12_loadOfPlace CLKP_N krPI_ok ?_ q
  clear q
  refine ct_C ?_ (ct_C ?_ (ct_N))
  · intro l st _ q
    obtain ⟨m0, q1⟩ := tkC_of q
    obtain ⟨x1, m1, q2⟩ := tkI_of q1
    obtain ⟨x3, m3, q3⟩ := tkI_of q2
    obtain ⟨y0, t0, rfl, q4⟩ := skI_of q3
    obtain ⟨rfl, q5⟩ := skE_of q4
    exact WK_less (k41 _ _ _ _ q5) (List.forall_mem_cons.mpr ⟨m0, (List.forall_mem_cons.mpr ⟨m1, (List.forall_mem_cons.mpr ⟨m3, (fun _ h => absurd h List.not_mem_nil)⟩)⟩)⟩)
  · intro l st _ q
    obtain ⟨m0, q1⟩ := tkC_of q
    obtain ⟨x1, m1, q2⟩ := tkI_of q1
    obtain ⟨x3, m3, q3⟩ := tkI_of q2
    obtain ⟨y0, t0, rfl, q4⟩ := skI_of q3
    obtain ⟨y1, t1, rfl, q5⟩ := skI_of q4
    obtain ⟨rfl, q6⟩ := skE_of q5
    exact WK_less (k42 _ _ _ _ _ q6) (List.forall_mem_cons.mpr ⟨m0, (List.forall_mem_cons.mpr ⟨m1, (List.forall_mem_cons.mpr ⟨m3, (fun _ h => absurd h List.not_mem_nil)⟩)⟩)⟩)
def nX12_loadOfPlace_4 (h : HH) : Nat → Int → Int → Int → Option Int := iter (fun _ _ _ => none) (fun self => bX12_loadOfPlace_4 h (nX12_loadOfPlace_41 h self) (nX12_loadOfPlace_42 h self))
theorem nX12_loadOfPlace_4_s {h : HH} {F : Nat} : nX12_loadOfPlace_4 h (F + 1) = bX12_loadOfPlace_4 h (nX12_loadOfPlace_41 h (nX12_loadOfPlace_4 h F)) (nX12_loadOfPlace_42 h (nX12_loadOfPlace_4 h F)) := rfl
theorem wX12_loadOfPlace_4 {g : SG} (hg : GOK g) {σ0 : SG} {h : HH} : ∀ {F : Nat}, ∀ {x1 : Int} {x2 : Int} {x3 : Int} {b : Int}, nX12_loadOfPlace_4 h F x1 x2 x3 = some b → WK 248 (.inl (some (aI b))) σ0 (abH 71 119 g h) 4 [(0, aR 71), (1, aI x1), (2, aI x2), (3, aI x3)] [] (abH 71 119 g h) 0 0 := by
  intro F
  have z : ∀ (x1 : Int) (x2 : Int) (x3 : Int) (b : Int), nX12_loadOfPlace_4 h F x1 x2 x3 = some b → WK 248 (.inl (some (aI b))) σ0 (abH 71 119 g h) 4 [(0, aR 71), (1, aI x1), (2, aI x2), (3, aI x3)] [] (abH 71 119 g h) 0 0 := iter_ind (P := fun (c : Int → Int → Int → Option Int) => ∀ (x1 : Int) (x2 : Int) (x3 : Int) (b : Int), c x1 x2 x3 = some b → WK 248 (.inl (some (aI b))) σ0 (abH 71 119 g h) 4 [(0, aR 71), (1, aI x1), (2, aI x2), (3, aI x3)] [] (abH 71 119 g h) 0 0) (by
    intro x1 x2 x3 b q
    cases q) (fun self ih => by
    intro x1 x2 x3 b q
    exact uX12_loadOfPlace_4 hg (fun _ _ _ _ q => wX12_loadOfPlace_41 hg ih q) (fun _ _ _ _ _ q => wX12_loadOfPlace_42 hg ih q) q) F
  intro x1 x2 x3 b q
  exact z _ _ _ _ q
def bX12_loadOfPlace (h : HH) (c4 : Int → Int → Int → Option Int) (x1 : Int) : Option Int :=
  c4 x1 0 0
theorem uX12_loadOfPlace {g : SG} (hg : GOK g) {σ0 : SG} {h : HH} {c4 : Int → Int → Int → Option Int} (k4 : ∀ (x1 : Int) (x2 : Int) (x3 : Int) (b : Int), c4 x1 x2 x3 = some b → WK 248 (.inl (some (aI b))) σ0 (abH 71 119 g h) 4 [(0, aR 71), (1, aI x1), (2, aI x2), (3, aI x3)] [] (abH 71 119 g h) 0 0) : ∀ {x1 : Int} {b : Int}, bX12_loadOfPlace h c4 x1 = some b → WK 248 (.inl (some (aI b))) σ0 (abH 71 119 g h) 0 [(0, aR 71), (1, aI x1)] [] (abH 71 119 g h) 0 0 := by
  intro x1 b q
  have e : bX12_loadOfPlace h c4 x1 = segP 71 119 g.2.2.2.2 h krPI clNP csX12_loadOfPlace (cuC 4 (fun l st s => tkC 0 71 l <| tkI 1 l fun x1 => tkI 2 l fun x2 => tkI 3 l fun x3 => skE st (c4 x1 x2 x3)) cuN) 1000 0 [(0, aR 71), (1, aI x1)] [] := rfl
  rw [e] at q
  clear e
  refine segP_wk (by decide) (by decide) hg rwX12_loadOfPlace CLKP_N krPI_ok ?_ q
  clear q
  refine ct_C ?_ (ct_N)
  · intro l st _ q
    obtain ⟨m0, q1⟩ := tkC_of q
    obtain ⟨x1, m1, q2⟩ := tkI_of q1
    obtain ⟨x2, m2, q3⟩ := tkI_of q2
    obtain ⟨x3, m3, q4⟩ := tkI_of q3
    obtain ⟨rfl, q5⟩ := skE_of q4
    exact WK_less (k4 _ _ _ _ q5) (List.forall_mem_cons.mpr ⟨m0, (List.forall_mem_cons.mpr ⟨m1, (List.forall_mem_cons.mpr ⟨m2, (List.forall_mem_cons.mpr ⟨m3, (fun _ h => absurd h List.not_mem_nil)⟩)⟩)⟩)⟩)
def nX12_loadOfPlace (h : HH) (x1 : Int) : Option Int := bX12_loadOfPlace h (nX12_loadOfPlace_4 h 100000) x1
theorem wX12_loadOfPlace {g : SG} (hg : GOK g) {σ0 : SG} {h : HH} : ∀ {x1 : Int} {b : Int}, nX12_loadOfPlace h x1 = some b → WK 248 (.inl (some (aI b))) σ0 (abH 71 119 g h) 0 [(0, aR 71), (1, aI x1)] [] (abH 71 119 g h) 0 0 := by
  intro x1 b q
  exact uX12_loadOfPlace hg (fun _ _ _ _ q => wX12_loadOfPlace_4 hg q) q
theorem mX12_loadOfPlace {g : SG} (hg : GOK g) {h : HH} {x1 : Int} {b : Int} (q : nX12_loadOfPlace h x1 = some b) : MCT 248 [] [aR 71, aI x1] (abH 71 119 g h) (.inl (some (aI b))) (abH 71 119 g h) :=
  mct_of (by decide) (MFok 248 (by decide +kernel)) (fun _ => Nat.le_of_ble_eq_true rfl) (wX12_loadOfPlace hg q)
def pX12_loadOfPlace {β : Type} (z : HH → Int → Option Int) : PP β := fun h as f => skC 71 as fun as => skI as fun x1 as => skE as (bnd (z h x1) fun r => f (.inl (some (aI r))))
theorem pX12_loadOfPlace_ok {β : Type} {g : SG} (hg : GOK g) : CP1 (β := β) 248 (pX12_loadOfPlace nX12_loadOfPlace) 71 119 g := fun h as f b q => by
  obtain ⟨as, rfl, q1⟩ := skC_of q
  obtain ⟨x1, as, rfl, q2⟩ := skI_of q1
  obtain ⟨rfl, q0⟩ := skE_of q2
  obtain ⟨r, z1, z2⟩ := bnd_of q0
  exact ⟨_, z2, by decide, mX12_loadOfPlace hg z1, rfl, rfl, fun z => absurd z (by decide)⟩
def csX12_loadOf : List (Nat × List (Nat × ARow)) := [(39, [(0, 1, .iconst 0, 0, 0, 0), (1, 1, .istore_n 2, 0, 0, 0), (2, 1, .iconst 1, 0, 0, 0), (3, 1, .istore_n 3, 0, 0, 0), (4, 1, .iload_n 3, 0, 0, 0), (5, 2, .bipush 16, 0, 0, 0), (7, 3, .if_icmp .ge 31, 38, 0, 0), (10, 1, .iload_n 2, 0, 0, 0), (11, 1, .aload_n 0, 0, 0, 0), (12, 3, .getfield 104, 12, 37, 2), (15, 1, .iload_n 3, 0, 0, 0), (16, 1, .iaload, 0, 0, 0), (17, 1, .iload_n 1, 0, 0, 0), (18, 3, .if_icmp .ne 11, 29, 0, 0), (21, 1, .aload_n 0, 0, 0, 0), (22, 1, .iload_n 3, 0, 0, 0), (23, 3, .invokevirtual 398, 248, 2, 12), (26, 3, .goto 4, 30, 0, 0), (29, 1, .iconst 0, 0, 0, 0), (30, 1, .iadd, 0, 0, 0), (31, 1, .istore_n 2, 0, 0, 0), (32, 3, .iinc 3 1, 0, 0, 0), (35, 3, .goto (-31), 4, 0, 0), (38, 1, .iload_n 2, 0, 0, 0)]),
  (100000, [(39, 1, .ireturn, 0, 0, 0)])]
theorem rwX12_loadOf : rowsB (mB 249) (mO 249) (mX 249) (mIni 249) (mFr 249) (mLo 249) (mT 249) csX12_loadOf = true := by decide +kernel
def bX12_loadOf_30 (h : HH) (c4 : Int → Int → Int → Option Int) (x1 : Int) (x3 : Int) (y0 : Int) (y1 : Int) : Option Int :=
  gd (R32 (y1 + y0)) <|
    gd (R32 (x3 + 1)) <|
    c4 x1 (y1 + y0) (x3 + 1)
theorem uX12_loadOf_30 {g : SG} (hg : GOK g) {σ0 : SG} {h : HH} {c4 : Int → Int → Int → Option Int} (k4 : ∀ (x1 : Int) (x2 : Int) (x3 : Int) (b : Int), c4 x1 x2 x3 = some b → WK 249 (.inl (some (aI b))) σ0 (abH 71 119 g h) 4 [(0, aR 71), (1, aI x1), (2, aI x2), (3, aI x3)] [] (abH 71 119 g h) 0 0) : ∀ {x1 : Int} {x3 : Int} {y0 : Int} {y1 : Int} {b : Int}, bX12_loadOf_30 h c4 x1 x3 y0 y1 = some b → WK 249 (.inl (some (aI b))) σ0 (abH 71 119 g h) 30 [(0, aR 71), (1, aI x1), (3, aI x3)] [aI y0, aI y1] (abH 71 119 g h) 0 0 := by
  intro x1 x3 y0 y1 b q
  have e : bX12_loadOf_30 h c4 x1 x3 y0 y1 = segP 71 119 g.2.2.2.2 h krPI clNP csX12_loadOf (cuC 4 (fun l st s => tkC 0 71 l <| tkI 1 l fun x1 => tkI 2 l fun x2 => tkI 3 l fun x3 => skE st (c4 x1 x2 x3)) cuN) 1000 30 [(0, aR 71), (1, aI x1), (3, aI x3)] [aI y0, aI y1] := rfl
  rw [e] at q
  clear e
  refine segP_wk (by decide) (by decide) hg rwX12_loadOf CLKP_N krPI_ok ?_ q
  clear q
  refine ct_C ?_ (ct_N)
  · intro l st _ q
    obtain ⟨m0, q1⟩ := tkC_of q
    obtain ⟨x1, m1, q2⟩ := tkI_of q1
    obtain ⟨x2, m2, q3⟩ := tkI_of q2
    obtain ⟨x3, m3, q4⟩ := tkI_of q3
    obtain ⟨rfl, q5⟩ := skE_of q4
    exact WK_less (k4 _ _ _ _ q5) (List.forall_mem_cons.mpr ⟨m0, (List.forall_mem_cons.mpr ⟨m1, (List.forall_mem_cons.mpr ⟨m2, (List.forall_mem_cons.mpr ⟨m3, (fun _ h => absurd h List.not_mem_nil)⟩)⟩)⟩)⟩)
def nX12_loadOf_30 (h : HH) (c4 : Int → Int → Int → Option Int) (x1 : Int) (x3 : Int) (y0 : Int) (y1 : Int) : Option Int := bX12_loadOf_30 h c4 x1 x3 y0 y1
theorem wX12_loadOf_30 {g : SG} (hg : GOK g) {σ0 : SG} {h : HH} {c4 : Int → Int → Int → Option Int} (k4 : ∀ (x1 : Int) (x2 : Int) (x3 : Int) (b : Int), c4 x1 x2 x3 = some b → WK 249 (.inl (some (aI b))) σ0 (abH 71 119 g h) 4 [(0, aR 71), (1, aI x1), (2, aI x2), (3, aI x3)] [] (abH 71 119 g h) 0 0) : ∀ {x1 : Int} {x3 : Int} {y0 : Int} {y1 : Int} {b : Int}, nX12_loadOf_30 h c4 x1 x3 y0 y1 = some b → WK 249 (.inl (some (aI b))) σ0 (abH 71 119 g h) 30 [(0, aR 71), (1, aI x1), (3, aI x3)] [aI y0, aI y1] (abH 71 119 g h) 0 0 := by
  intro x1 x3 y0 y1 b q
  exact uX12_loadOf_30 hg k4 q
def bX12_loadOf_4 (f248 : HH → Int → Option Int) (h : HH) (c30 : Int → Int → Int → Int → Option Int) (x1 : Int) (x2 : Int) (x3 : Int) : Option Int :=
  if x3 < (16 : Int) then
    gd ((0 : Int) ≤ x3 ∧ x3 < (16 : Int)) <|
    if (h.1 100 x3) = (x1 : Int) then
    bnd (f248 h x3) fun r1 =>
    c30 x1 x3 r1 x2
  else
    c30 x1 x3 0 x2
  else
    some x2
theorem uX12_loadOf_4 {g : SG} (hg : GOK g) {σ0 : SG} {h : HH} {c30 : Int → Int → Int → Int → Option Int} (k30 : ∀ (x1 : Int) (x3 : Int) (y0 : Int) (y1 : Int) (b : Int), c30 x1 x3 y0 y1 = some b → WK 249 (.inl (some (aI b))) σ0 (abH 71 119 g h) 30 [(0, aR 71), (1, aI x1), (3, aI x3)] [aI y0, aI y1] (abH 71 119 g h) 0 0) : ∀ {x1 : Int} {x2 : Int} {x3 : Int} {b : Int}, bX12_loadOf_4 nX12_loadOfPlace h c30 x1 x2 x3 = some b → WK 249 (.inl (some (aI b))) σ0 (abH 71 119 g h) 4 [(0, aR 71), (1, aI x1), (2, aI x2), (3, aI x3)] [] (abH 71 119 g h) 0 0 := by
  intro x1 x2 x3 b q
  have e : ∀ (f248 : HH → Int → Option Int) , bX12_loadOf_4 f248 h c30 x1 x2 x3 = segP 71 119 g.2.2.2.2 h krPI (clCP 248 (pX12_loadOfPlace f248 h) clNP) csX12_loadOf (cuC 30 (fun l st s => tkC 0 71 l <| tkI 1 l fun x1 => tkI 3 l fun x3 => skI st fun y0 st => skI st fun y1 st => skE st (c30 x1 x3 y0 y1)) cuN) 1000 4 [(0, aR 71), (1, aI x1), (2, aI x2), (3, aI x3)] [] := fun _ => rfl
  rw [e nX12_loadOfPlace] at q
  clear e
  refine segP_wk (by decide) (by decide) hg rwX12_loadOf (CLKP_C (pX12_loadOfPlace_ok hg) CLKP_N) krPI_ok ?_ q
  clear q
  refine ct_C ?_ (ct_N)
  · intro l st _ q
    obtain ⟨m0, q1⟩ := tkC_of q
    obtain ⟨x1, m1, q2⟩ := tkI_of q1
    obtain ⟨x3, m3, q3⟩ := tkI_of q2
    obtain ⟨y0, t0, rfl, q4⟩ := skI_of q3
    obtain ⟨y1, t1, rfl, q5⟩ := skI_of q4
    obtain ⟨rfl, q6⟩ := skE_of q5
    exact WK_less (k30 _ _ _ _ _ q6) (List.forall_mem_cons.mpr ⟨m0, (List.forall_mem_cons.mpr ⟨m1, (List.forall_mem_cons.mpr ⟨m3, (fun _ h => absurd h List.not_mem_nil)⟩)⟩)⟩)
def nX12_loadOf_4 (h : HH) : Nat → Int → Int → Int → Option Int := iter (fun _ _ _ => none) (fun self => bX12_loadOf_4 nX12_loadOfPlace h (nX12_loadOf_30 h self))
theorem nX12_loadOf_4_s {h : HH} {F : Nat} : nX12_loadOf_4 h (F + 1) = bX12_loadOf_4 nX12_loadOfPlace h (nX12_loadOf_30 h (nX12_loadOf_4 h F)) := rfl
theorem wX12_loadOf_4 {g : SG} (hg : GOK g) {σ0 : SG} {h : HH} : ∀ {F : Nat}, ∀ {x1 : Int} {x2 : Int} {x3 : Int} {b : Int}, nX12_loadOf_4 h F x1 x2 x3 = some b → WK 249 (.inl (some (aI b))) σ0 (abH 71 119 g h) 4 [(0, aR 71), (1, aI x1), (2, aI x2), (3, aI x3)] [] (abH 71 119 g h) 0 0 := by
  intro F
  have z : ∀ (x1 : Int) (x2 : Int) (x3 : Int) (b : Int), nX12_loadOf_4 h F x1 x2 x3 = some b → WK 249 (.inl (some (aI b))) σ0 (abH 71 119 g h) 4 [(0, aR 71), (1, aI x1), (2, aI x2), (3, aI x3)] [] (abH 71 119 g h) 0 0 := iter_ind (P := fun (c : Int → Int → Int → Option Int) => ∀ (x1 : Int) (x2 : Int) (x3 : Int) (b : Int), c x1 x2 x3 = some b → WK 249 (.inl (some (aI b))) σ0 (abH 71 119 g h) 4 [(0, aR 71), (1, aI x1), (2, aI x2), (3, aI x3)] [] (abH 71 119 g h) 0 0) (by
    intro x1 x2 x3 b q
    cases q) (fun self ih => by
    intro x1 x2 x3 b q
    exact uX12_loadOf_4 hg (fun _ _ _ _ _ q => wX12_loadOf_30 hg ih q) q) F
  intro x1 x2 x3 b q
  exact z _ _ _ _ q
def bX12_loadOf (h : HH) (c4 : Int → Int → Int → Option Int) (x1 : Int) : Option Int :=
  c4 x1 0 1
theorem uX12_loadOf {g : SG} (hg : GOK g) {σ0 : SG} {h : HH} {c4 : Int → Int → Int → Option Int} (k4 : ∀ (x1 : Int) (x2 : Int) (x3 : Int) (b : Int), c4 x1 x2 x3 = some b → WK 249 (.inl (some (aI b))) σ0 (abH 71 119 g h) 4 [(0, aR 71), (1, aI x1), (2, aI x2), (3, aI x3)] [] (abH 71 119 g h) 0 0) : ∀ {x1 : Int} {b : Int}, bX12_loadOf h c4 x1 = some b → WK 249 (.inl (some (aI b))) σ0 (abH 71 119 g h) 0 [(0, aR 71), (1, aI x1)] [] (abH 71 119 g h) 0 0 := by
  intro x1 b q
  have e : bX12_loadOf h c4 x1 = segP 71 119 g.2.2.2.2 h krPI clNP csX12_loadOf (cuC 4 (fun l st s => tkC 0 71 l <| tkI 1 l fun x1 => tkI 2 l fun x2 => tkI 3 l fun x3 => skE st (c4 x1 x2 x3)) cuN) 1000 0 [(0, aR 71), (1, aI x1)] [] := rfl
  rw [e] at q
  clear e
  refine segP_wk (by decide) (by decide) hg rwX12_loadOf CLKP_N krPI_ok ?_ q
  clear q
  refine ct_C ?_ (ct_N)
  · intro l st _ q
    obtain ⟨m0, q1⟩ := tkC_of q
    obtain ⟨x1, m1, q2⟩ := tkI_of q1
    obtain ⟨x2, m2, q3⟩ := tkI_of q2
    obtain ⟨x3, m3, q4⟩ := tkI_of q3
    obtain ⟨rfl, q5⟩ := skE_of q4
    exact WK_less (k4 _ _ _ _ q5) (List.forall_mem_cons.mpr ⟨m0, (List.forall_mem_cons.mpr ⟨m1, (List.forall_mem_cons.mpr ⟨m2, (List.forall_mem_cons.mpr ⟨m3, (fun _ h => absurd h List.not_mem_nil)⟩)⟩)⟩)⟩)
def nX12_loadOf (h : HH) (x1 : Int) : Option Int := bX12_loadOf h (nX12_loadOf_4 h 100000) x1
theorem wX12_loadOf {g : SG} (hg : GOK g) {σ0 : SG} {h : HH} : ∀ {x1 : Int} {b : Int}, nX12_loadOf h x1 = some b → WK 249 (.inl (some (aI b))) σ0 (abH 71 119 g h) 0 [(0, aR 71), (1, aI x1)] [] (abH 71 119 g h) 0 0 := by
  intro x1 b q
  exact uX12_loadOf hg (fun _ _ _ _ q => wX12_loadOf_4 hg q) q
theorem mX12_loadOf {g : SG} (hg : GOK g) {h : HH} {x1 : Int} {b : Int} (q : nX12_loadOf h x1 = some b) : MCT 249 [] [aR 71, aI x1] (abH 71 119 g h) (.inl (some (aI b))) (abH 71 119 g h) :=
  mct_of (by decide) (MFok 249 (by decide +kernel)) (fun _ => Nat.le_of_ble_eq_true rfl) (wX12_loadOf hg q)
def pX12_loadOf {β : Type} (z : HH → Int → Option Int) : PP β := fun h as f => skC 71 as fun as => skI as fun x1 as => skE as (bnd (z h x1) fun r => f (.inl (some (aI r))))
theorem pX12_loadOf_ok {β : Type} {g : SG} (hg : GOK g) : CP1 (β := β) 249 (pX12_loadOf nX12_loadOf) 71 119 g := fun h as f b q => by
  obtain ⟨as, rfl, q1⟩ := skC_of q
  obtain ⟨x1, as, rfl, q2⟩ := skI_of q1
  obtain ⟨rfl, q0⟩ := skE_of q2
  obtain ⟨r, z1, z2⟩ := bnd_of q0
  exact ⟨_, z2, by decide, mX12_loadOf hg z1, rfl, rfl, fun z => absurd z (by decide)⟩
def csX12_greatestZone : List (Nat × List (Nat × ARow)) := [(100000, [(0, 1, .iconst 0, 0, 0, 0), (1, 1, .istore_n 1, 0, 0, 0), (2, 1, .iconst 1, 0, 0, 0), (3, 1, .istore_n 2, 0, 0, 0), (4, 1, .iload_n 2, 0, 0, 0), (5, 1, .iconst 3, 0, 0, 0), (6, 3, .if_icmp .ge 28, 34, 0, 0), (9, 1, .aload_n 0, 0, 0, 0), (10, 1, .iload_n 2, 0, 0, 0), (11, 3, .invokevirtual 401, 249, 2, 12), (14, 1, .aload_n 0, 0, 0, 0), (15, 1, .iload_n 1, 0, 0, 0), (16, 3, .invokevirtual 401, 249, 2, 12), (19, 3, .if_icmp .le 7, 26, 0, 0), (22, 1, .iload_n 2, 0, 0, 0), (23, 3, .goto 4, 27, 0, 0), (26, 1, .iload_n 1, 0, 0, 0), (27, 1, .istore_n 1, 0, 0, 0), (28, 3, .iinc 2 1, 0, 0, 0), (31, 3, .goto (-27), 4, 0, 0), (34, 1, .iload_n 1, 0, 0, 0), (35, 1, .ireturn, 0, 0, 0)])]
theorem rwX12_greatestZone : rowsB (mB 250) (mO 250) (mX 250) (mIni 250) (mFr 250) (mLo 250) (mT 250) csX12_greatestZone = true := by decide +kernel
def bX12_greatestZone_27 (h : HH) (c4 : Int → Int → Option Int) (x2 : Int) (y0 : Int) : Option Int :=
  gd (R32 (x2 + 1)) <|
    c4 y0 (x2 + 1)
theorem uX12_greatestZone_27 {g : SG} (hg : GOK g) {σ0 : SG} {h : HH} {c4 : Int → Int → Option Int} (k4 : ∀ (x1 : Int) (x2 : Int) (b : Int), c4 x1 x2 = some b → WK 250 (.inl (some (aI b))) σ0 (abH 71 119 g h) 4 [(0, aR 71), (1, aI x1), (2, aI x2)] [] (abH 71 119 g h) 0 0) : ∀ {x2 : Int} {y0 : Int} {b : Int}, bX12_greatestZone_27 h c4 x2 y0 = some b → WK 250 (.inl (some (aI b))) σ0 (abH 71 119 g h) 27 [(0, aR 71), (2, aI x2)] [aI y0] (abH 71 119 g h) 0 0 := by
  intro x2 y0 b q
  have e : bX12_greatestZone_27 h c4 x2 y0 = segP 71 119 g.2.2.2.2 h krPI clNP csX12_greatestZone (cuC 4 (fun l st s => tkC 0 71 l <| tkI 1 l fun x1 => tkI 2 l fun x2 => skE st (c4 x1 x2)) cuN) 1000 27 [(0, aR 71), (2, aI x2)] [aI y0] := rfl
  rw [e] at q
  clear e
  refine segP_wk (by decide) (by decide) hg rwX12_greatestZone CLKP_N krPI_ok ?_ q
  clear q
  refine ct_C ?_ (ct_N)
  · intro l st _ q
    obtain ⟨m0, q1⟩ := tkC_of q
    obtain ⟨x1, m1, q2⟩ := tkI_of q1
    obtain ⟨x2, m2, q3⟩ := tkI_of q2
    obtain ⟨rfl, q4⟩ := skE_of q3
    exact WK_less (k4 _ _ _ q4) (List.forall_mem_cons.mpr ⟨m0, (List.forall_mem_cons.mpr ⟨m1, (List.forall_mem_cons.mpr ⟨m2, (fun _ h => absurd h List.not_mem_nil)⟩)⟩)⟩)
def nX12_greatestZone_27 (h : HH) (c4 : Int → Int → Option Int) (x2 : Int) (y0 : Int) : Option Int := bX12_greatestZone_27 h c4 x2 y0
theorem wX12_greatestZone_27 {g : SG} (hg : GOK g) {σ0 : SG} {h : HH} {c4 : Int → Int → Option Int} (k4 : ∀ (x1 : Int) (x2 : Int) (b : Int), c4 x1 x2 = some b → WK 250 (.inl (some (aI b))) σ0 (abH 71 119 g h) 4 [(0, aR 71), (1, aI x1), (2, aI x2)] [] (abH 71 119 g h) 0 0) : ∀ {x2 : Int} {y0 : Int} {b : Int}, nX12_greatestZone_27 h c4 x2 y0 = some b → WK 250 (.inl (some (aI b))) σ0 (abH 71 119 g h) 27 [(0, aR 71), (2, aI x2)] [aI y0] (abH 71 119 g h) 0 0 := by
  intro x2 y0 b q
  exact uX12_greatestZone_27 hg k4 q
def bX12_greatestZone_4 (f249 : HH → Int → Option Int) (h : HH) (c27 : Int → Int → Option Int) (x1 : Int) (x2 : Int) : Option Int :=
  if x2 < (3 : Int) then
    bnd (f249 h x2) fun r1 =>
    bnd (f249 h x1) fun r2 =>
    if (r2 : Int) < r1 then
    c27 x2 x2
  else
    c27 x2 x1
  else
    some x1
theorem uX12_greatestZone_4 {g : SG} (hg : GOK g) {σ0 : SG} {h : HH} {c27 : Int → Int → Option Int} (k27 : ∀ (x2 : Int) (y0 : Int) (b : Int), c27 x2 y0 = some b → WK 250 (.inl (some (aI b))) σ0 (abH 71 119 g h) 27 [(0, aR 71), (2, aI x2)] [aI y0] (abH 71 119 g h) 0 0) : ∀ {x1 : Int} {x2 : Int} {b : Int}, bX12_greatestZone_4 nX12_loadOf h c27 x1 x2 = some b → WK 250 (.inl (some (aI b))) σ0 (abH 71 119 g h) 4 [(0, aR 71), (1, aI x1), (2, aI x2)] [] (abH 71 119 g h) 0 0 := by
  intro x1 x2 b q
  have e : ∀ (f249 : HH → Int → Option Int) , bX12_greatestZone_4 f249 h c27 x1 x2 = segP 71 119 g.2.2.2.2 h krPI (clCP 249 (pX12_loadOf f249 h) clNP) csX12_greatestZone (cuC 27 (fun l st s => tkC 0 71 l <| tkI 2 l fun x2 => skI st fun y0 st => skE st (c27 x2 y0)) cuN) 1000 4 [(0, aR 71), (1, aI x1), (2, aI x2)] [] := fun _ => rfl
  rw [e nX12_loadOf] at q
  clear e
  refine segP_wk (by decide) (by decide) hg rwX12_greatestZone (CLKP_C (pX12_loadOf_ok hg) CLKP_N) krPI_ok ?_ q
  clear q
  refine ct_C ?_ (ct_N)
  · intro l st _ q
    obtain ⟨m0, q1⟩ := tkC_of q
    obtain ⟨x2, m2, q2⟩ := tkI_of q1
    obtain ⟨y0, t0, rfl, q3⟩ := skI_of q2
    obtain ⟨rfl, q4⟩ := skE_of q3
    exact WK_less (k27 _ _ _ q4) (List.forall_mem_cons.mpr ⟨m0, (List.forall_mem_cons.mpr ⟨m2, (fun _ h => absurd h List.not_mem_nil)⟩)⟩)
def nX12_greatestZone_4 (h : HH) : Nat → Int → Int → Option Int := iter (fun _ _ => none) (fun self => bX12_greatestZone_4 nX12_loadOf h (nX12_greatestZone_27 h self))
theorem nX12_greatestZone_4_s {h : HH} {F : Nat} : nX12_greatestZone_4 h (F + 1) = bX12_greatestZone_4 nX12_loadOf h (nX12_greatestZone_27 h (nX12_greatestZone_4 h F)) := rfl
theorem wX12_greatestZone_4 {g : SG} (hg : GOK g) {σ0 : SG} {h : HH} : ∀ {F : Nat}, ∀ {x1 : Int} {x2 : Int} {b : Int}, nX12_greatestZone_4 h F x1 x2 = some b → WK 250 (.inl (some (aI b))) σ0 (abH 71 119 g h) 4 [(0, aR 71), (1, aI x1), (2, aI x2)] [] (abH 71 119 g h) 0 0 := by
  intro F
  have z : ∀ (x1 : Int) (x2 : Int) (b : Int), nX12_greatestZone_4 h F x1 x2 = some b → WK 250 (.inl (some (aI b))) σ0 (abH 71 119 g h) 4 [(0, aR 71), (1, aI x1), (2, aI x2)] [] (abH 71 119 g h) 0 0 := iter_ind (P := fun (c : Int → Int → Option Int) => ∀ (x1 : Int) (x2 : Int) (b : Int), c x1 x2 = some b → WK 250 (.inl (some (aI b))) σ0 (abH 71 119 g h) 4 [(0, aR 71), (1, aI x1), (2, aI x2)] [] (abH 71 119 g h) 0 0) (by
    intro x1 x2 b q
    cases q) (fun self ih => by
    intro x1 x2 b q
    exact uX12_greatestZone_4 hg (fun _ _ _ q => wX12_greatestZone_27 hg ih q) q) F
  intro x1 x2 b q
  exact z _ _ _ q
def bX12_greatestZone (h : HH) (c4 : Int → Int → Option Int) : Option Int :=
  c4 0 1
theorem uX12_greatestZone {g : SG} (hg : GOK g) {σ0 : SG} {h : HH} {c4 : Int → Int → Option Int} (k4 : ∀ (x1 : Int) (x2 : Int) (b : Int), c4 x1 x2 = some b → WK 250 (.inl (some (aI b))) σ0 (abH 71 119 g h) 4 [(0, aR 71), (1, aI x1), (2, aI x2)] [] (abH 71 119 g h) 0 0) : ∀ {b : Int}, bX12_greatestZone h c4 = some b → WK 250 (.inl (some (aI b))) σ0 (abH 71 119 g h) 0 [(0, aR 71)] [] (abH 71 119 g h) 0 0 := by
  intro  b q
  have e : bX12_greatestZone h c4 = segP 71 119 g.2.2.2.2 h krPI clNP csX12_greatestZone (cuC 4 (fun l st s => tkC 0 71 l <| tkI 1 l fun x1 => tkI 2 l fun x2 => skE st (c4 x1 x2)) cuN) 1000 0 [(0, aR 71)] [] := rfl
  rw [e] at q
  clear e
  refine segP_wk (by decide) (by decide) hg rwX12_greatestZone CLKP_N krPI_ok ?_ q
  clear q
  refine ct_C ?_ (ct_N)
  · intro l st _ q
    obtain ⟨m0, q1⟩ := tkC_of q
    obtain ⟨x1, m1, q2⟩ := tkI_of q1
    obtain ⟨x2, m2, q3⟩ := tkI_of q2
    obtain ⟨rfl, q4⟩ := skE_of q3
    exact WK_less (k4 _ _ _ q4) (List.forall_mem_cons.mpr ⟨m0, (List.forall_mem_cons.mpr ⟨m1, (List.forall_mem_cons.mpr ⟨m2, (fun _ h => absurd h List.not_mem_nil)⟩)⟩)⟩)
def nX12_greatestZone (h : HH) : Option Int := bX12_greatestZone h (nX12_greatestZone_4 h 100000)
theorem wX12_greatestZone {g : SG} (hg : GOK g) {σ0 : SG} {h : HH} : ∀ {b : Int}, nX12_greatestZone h = some b → WK 250 (.inl (some (aI b))) σ0 (abH 71 119 g h) 0 [(0, aR 71)] [] (abH 71 119 g h) 0 0 := by
  intro  b q
  exact uX12_greatestZone hg (fun _ _ _ q => wX12_greatestZone_4 hg q) q
theorem mX12_greatestZone {g : SG} (hg : GOK g) {h : HH} {b : Int} (q : nX12_greatestZone h = some b) : MCT 250 [] [aR 71] (abH 71 119 g h) (.inl (some (aI b))) (abH 71 119 g h) :=
  mct_of (by decide) (MFok 250 (by decide +kernel)) (fun _ => Nat.le_of_ble_eq_true rfl) (wX12_greatestZone hg q)
def pX12_greatestZone {β : Type} (z : HH → Option Int) : PP β := fun h as f => skC 71 as fun as => skE as (bnd (z h) fun r => f (.inl (some (aI r))))
theorem pX12_greatestZone_ok {β : Type} {g : SG} (hg : GOK g) : CP1 (β := β) 250 (pX12_greatestZone nX12_greatestZone) 71 119 g := fun h as f b q => by
  obtain ⟨as, rfl, q1⟩ := skC_of q
  obtain ⟨rfl, q0⟩ := skE_of q1
  obtain ⟨r, z1, z2⟩ := bnd_of q0
  exact ⟨_, z2, by decide, mX12_greatestZone hg z1, rfl, rfl, fun z => absurd z (by decide)⟩
def csX12_leastZone : List (Nat × List (Nat × ARow)) := [(100000, [(0, 1, .iconst 2, 0, 0, 0), (1, 1, .istore_n 1, 0, 0, 0), (2, 1, .iconst 1, 0, 0, 0), (3, 1, .istore_n 2, 0, 0, 0), (4, 1, .iload_n 2, 0, 0, 0), (5, 3, .ifCond .lt 28, 33, 0, 0), (8, 1, .aload_n 0, 0, 0, 0), (9, 1, .iload_n 2, 0, 0, 0), (10, 3, .invokevirtual 401, 249, 2, 12), (13, 1, .aload_n 0, 0, 0, 0), (14, 1, .iload_n 1, 0, 0, 0), (15, 3, .invokevirtual 401, 249, 2, 12), (18, 3, .if_icmp .ge 7, 25, 0, 0), (21, 1, .iload_n 2, 0, 0, 0), (22, 3, .goto 4, 26, 0, 0), (25, 1, .iload_n 1, 0, 0, 0), (26, 1, .istore_n 1, 0, 0, 0), (27, 3, .iinc 2 (-1), 0, 0, 0), (30, 3, .goto (-26), 4, 0, 0), (33, 1, .iload_n 1, 0, 0, 0), (34, 1, .ireturn, 0, 0, 0)])]
theorem rwX12_leastZone : rowsB (mB 251) (mO 251) (mX 251) (mIni 251) (mFr 251) (mLo 251) (mT 251) csX12_leastZone = true := by decide +kernel
def bX12_leastZone_26 (h : HH) (c4 : Int → Int → Option Int) (x2 : Int) (y0 : Int) : Option Int :=
  gd (R32 (x2 + (-1))) <|
    c4 y0 (x2 + (-1))
theorem uX12_leastZone_26 {g : SG} (hg : GOK g) {σ0 : SG} {h : HH} {c4 : Int → Int → Option Int} (k4 : ∀ (x1 : Int) (x2 : Int) (b : Int), c4 x1 x2 = some b → WK 251 (.inl (some (aI b))) σ0 (abH 71 119 g h) 4 [(0, aR 71), (1, aI x1), (2, aI x2)] [] (abH 71 119 g h) 0 0) : ∀ {x2 : Int} {y0 : Int} {b : Int}, bX12_leastZone_26 h c4 x2 y0 = some b → WK 251 (.inl (some (aI b))) σ0 (abH 71 119 g h) 26 [(0, aR 71), (2, aI x2)] [aI y0] (abH 71 119 g h) 0 0 := by
  intro x2 y0 b q
  have e : bX12_leastZone_26 h c4 x2 y0 = segP 71 119 g.2.2.2.2 h krPI clNP csX12_leastZone (cuC 4 (fun l st s => tkC 0 71 l <| tkI 1 l fun x1 => tkI 2 l fun x2 => skE st (c4 x1 x2)) cuN) 1000 26 [(0, aR 71), (2, aI x2)] [aI y0] := rfl
  rw [e] at q
  clear e
  refine segP_wk (by decide) (by decide) hg rwX12_leastZone CLKP_N krPI_ok ?_ q
  clear q
  refine ct_C ?_ (ct_N)
  · intro l st _ q
    obtain ⟨m0, q1⟩ := tkC_of q
    obtain ⟨x1, m1, q2⟩ := tkI_of q1
    obtain ⟨x2, m2, q3⟩ := tkI_of q2
    obtain ⟨rfl, q4⟩ := skE_of q3
    exact WK_less (k4 _ _ _ q4) (List.forall_mem_cons.mpr ⟨m0, (List.forall_mem_cons.mpr ⟨m1, (List.forall_mem_cons.mpr ⟨m2, (fun _ h => absurd h List.not_mem_nil)⟩)⟩)⟩)
def nX12_leastZone_26 (h : HH) (c4 : Int → Int → Option Int) (x2 : Int) (y0 : Int) : Option Int := bX12_leastZone_26 h c4 x2 y0
theorem wX12_leastZone_26 {g : SG} (hg : GOK g) {σ0 : SG} {h : HH} {c4 : Int → Int → Option Int} (k4 : ∀ (x1 : Int) (x2 : Int) (b : Int), c4 x1 x2 = some b → WK 251 (.inl (some (aI b))) σ0 (abH 71 119 g h) 4 [(0, aR 71), (1, aI x1), (2, aI x2)] [] (abH 71 119 g h) 0 0) : ∀ {x2 : Int} {y0 : Int} {b : Int}, nX12_leastZone_26 h c4 x2 y0 = some b → WK 251 (.inl (some (aI b))) σ0 (abH 71 119 g h) 26 [(0, aR 71), (2, aI x2)] [aI y0] (abH 71 119 g h) 0 0 := by
  intro x2 y0 b q
  exact uX12_leastZone_26 hg k4 q
def bX12_leastZone_4 (f249 : HH → Int → Option Int) (h : HH) (c26 : Int → Int → Option Int) (x1 : Int) (x2 : Int) : Option Int :=
  if x2 < (0 : Int) then
    some x1
  else
    bnd (f249 h x2) fun r1 =>
    bnd (f249 h x1) fun r2 =>
    if r1 < (r2 : Int) then
    c26 x2 x2
  else
    c26 x2 x1
theorem uX12_leastZone_4 {g : SG} (hg : GOK g) {σ0 : SG} {h : HH} {c26 : Int → Int → Option Int} (k26 : ∀ (x2 : Int) (y0 : Int) (b : Int), c26 x2 y0 = some b → WK 251 (.inl (some (aI b))) σ0 (abH 71 119 g h) 26 [(0, aR 71), (2, aI x2)] [aI y0] (abH 71 119 g h) 0 0) : ∀ {x1 : Int} {x2 : Int} {b : Int}, bX12_leastZone_4 nX12_loadOf h c26 x1 x2 = some b → WK 251 (.inl (some (aI b))) σ0 (abH 71 119 g h) 4 [(0, aR 71), (1, aI x1), (2, aI x2)] [] (abH 71 119 g h) 0 0 := by
  intro x1 x2 b q
  have e : ∀ (f249 : HH → Int → Option Int) , bX12_leastZone_4 f249 h c26 x1 x2 = segP 71 119 g.2.2.2.2 h krPI (clCP 249 (pX12_loadOf f249 h) clNP) csX12_leastZone (cuC 26 (fun l st s => tkC 0 71 l <| tkI 2 l fun x2 => skI st fun y0 st => skE st (c26 x2 y0)) cuN) 1000 4 [(0, aR 71), (1, aI x1), (2, aI x2)] [] := fun _ => rfl
  rw [e nX12_loadOf] at q
  clear e
  refine segP_wk (by decide) (by decide) hg rwX12_leastZone (CLKP_C (pX12_loadOf_ok hg) CLKP_N) krPI_ok ?_ q
  clear q
  refine ct_C ?_ (ct_N)
  · intro l st _ q
    obtain ⟨m0, q1⟩ := tkC_of q
    obtain ⟨x2, m2, q2⟩ := tkI_of q1
    obtain ⟨y0, t0, rfl, q3⟩ := skI_of q2
    obtain ⟨rfl, q4⟩ := skE_of q3
    exact WK_less (k26 _ _ _ q4) (List.forall_mem_cons.mpr ⟨m0, (List.forall_mem_cons.mpr ⟨m2, (fun _ h => absurd h List.not_mem_nil)⟩)⟩)
def nX12_leastZone_4 (h : HH) : Nat → Int → Int → Option Int := iter (fun _ _ => none) (fun self => bX12_leastZone_4 nX12_loadOf h (nX12_leastZone_26 h self))
theorem nX12_leastZone_4_s {h : HH} {F : Nat} : nX12_leastZone_4 h (F + 1) = bX12_leastZone_4 nX12_loadOf h (nX12_leastZone_26 h (nX12_leastZone_4 h F)) := rfl
theorem wX12_leastZone_4 {g : SG} (hg : GOK g) {σ0 : SG} {h : HH} : ∀ {F : Nat}, ∀ {x1 : Int} {x2 : Int} {b : Int}, nX12_leastZone_4 h F x1 x2 = some b → WK 251 (.inl (some (aI b))) σ0 (abH 71 119 g h) 4 [(0, aR 71), (1, aI x1), (2, aI x2)] [] (abH 71 119 g h) 0 0 := by
  intro F
  have z : ∀ (x1 : Int) (x2 : Int) (b : Int), nX12_leastZone_4 h F x1 x2 = some b → WK 251 (.inl (some (aI b))) σ0 (abH 71 119 g h) 4 [(0, aR 71), (1, aI x1), (2, aI x2)] [] (abH 71 119 g h) 0 0 := iter_ind (P := fun (c : Int → Int → Option Int) => ∀ (x1 : Int) (x2 : Int) (b : Int), c x1 x2 = some b → WK 251 (.inl (some (aI b))) σ0 (abH 71 119 g h) 4 [(0, aR 71), (1, aI x1), (2, aI x2)] [] (abH 71 119 g h) 0 0) (by
    intro x1 x2 b q
    cases q) (fun self ih => by
    intro x1 x2 b q
    exact uX12_leastZone_4 hg (fun _ _ _ q => wX12_leastZone_26 hg ih q) q) F
  intro x1 x2 b q
  exact z _ _ _ q
def bX12_leastZone (h : HH) (c4 : Int → Int → Option Int) : Option Int :=
  c4 2 1
theorem uX12_leastZone {g : SG} (hg : GOK g) {σ0 : SG} {h : HH} {c4 : Int → Int → Option Int} (k4 : ∀ (x1 : Int) (x2 : Int) (b : Int), c4 x1 x2 = some b → WK 251 (.inl (some (aI b))) σ0 (abH 71 119 g h) 4 [(0, aR 71), (1, aI x1), (2, aI x2)] [] (abH 71 119 g h) 0 0) : ∀ {b : Int}, bX12_leastZone h c4 = some b → WK 251 (.inl (some (aI b))) σ0 (abH 71 119 g h) 0 [(0, aR 71)] [] (abH 71 119 g h) 0 0 := by
  intro  b q
  have e : bX12_leastZone h c4 = segP 71 119 g.2.2.2.2 h krPI clNP csX12_leastZone (cuC 4 (fun l st s => tkC 0 71 l <| tkI 1 l fun x1 => tkI 2 l fun x2 => skE st (c4 x1 x2)) cuN) 1000 0 [(0, aR 71)] [] := rfl
  rw [e] at q
  clear e
  refine segP_wk (by decide) (by decide) hg rwX12_leastZone CLKP_N krPI_ok ?_ q
  clear q
  refine ct_C ?_ (ct_N)
  · intro l st _ q
    obtain ⟨m0, q1⟩ := tkC_of q
    obtain ⟨x1, m1, q2⟩ := tkI_of q1
    obtain ⟨x2, m2, q3⟩ := tkI_of q2
    obtain ⟨rfl, q4⟩ := skE_of q3
    exact WK_less (k4 _ _ _ q4) (List.forall_mem_cons.mpr ⟨m0, (List.forall_mem_cons.mpr ⟨m1, (List.forall_mem_cons.mpr ⟨m2, (fun _ h => absurd h List.not_mem_nil)⟩)⟩)⟩)
def nX12_leastZone (h : HH) : Option Int := bX12_leastZone h (nX12_leastZone_4 h 100000)
theorem wX12_leastZone {g : SG} (hg : GOK g) {σ0 : SG} {h : HH} : ∀ {b : Int}, nX12_leastZone h = some b → WK 251 (.inl (some (aI b))) σ0 (abH 71 119 g h) 0 [(0, aR 71)] [] (abH 71 119 g h) 0 0 := by
  intro  b q
  exact uX12_leastZone hg (fun _ _ _ q => wX12_leastZone_4 hg q) q
theorem mX12_leastZone {g : SG} (hg : GOK g) {h : HH} {b : Int} (q : nX12_leastZone h = some b) : MCT 251 [] [aR 71] (abH 71 119 g h) (.inl (some (aI b))) (abH 71 119 g h) :=
  mct_of (by decide) (MFok 251 (by decide +kernel)) (fun _ => Nat.le_of_ble_eq_true rfl) (wX12_leastZone hg q)
def pX12_leastZone {β : Type} (z : HH → Option Int) : PP β := fun h as f => skC 71 as fun as => skE as (bnd (z h) fun r => f (.inl (some (aI r))))
theorem pX12_leastZone_ok {β : Type} {g : SG} (hg : GOK g) : CP1 (β := β) 251 (pX12_leastZone nX12_leastZone) 71 119 g := fun h as f b q => by
  obtain ⟨as, rfl, q1⟩ := skC_of q
  obtain ⟨rfl, q0⟩ := skE_of q1
  obtain ⟨r, z1, z2⟩ := bnd_of q0
  exact ⟨_, z2, by decide, mX12_leastZone hg z1, rfl, rfl, fun z => absurd z (by decide)⟩
def csX12_apart : List (Nat × List (Nat × ARow)) := [(100000, [(0, 1, .aload_n 0, 0, 0, 0), (1, 1, .aload_n 0, 0, 0, 0), (2, 3, .invokevirtual 404, 250, 1, 12), (5, 3, .invokevirtual 401, 249, 2, 12), (8, 1, .aload_n 0, 0, 0, 0), (9, 1, .aload_n 0, 0, 0, 0), (10, 3, .invokevirtual 407, 251, 1, 12), (13, 3, .invokevirtual 401, 249, 2, 12), (16, 1, .isub, 0, 0, 0), (17, 1, .ireturn, 0, 0, 0)])]
theorem rwX12_apart : rowsB (mB 252) (mO 252) (mX 252) (mIni 252) (mFr 252) (mLo 252) (mT 252) csX12_apart = true := by decide +kernel
def bX12_apart (f250 : HH → Option Int) (f249 : HH → Int → Option Int) (f251 : HH → Option Int) (h : HH) : Option Int :=
  bnd (f250 h) fun r1 =>
    bnd (f249 h r1) fun r2 =>
    bnd (f251 h) fun r3 =>
    bnd (f249 h r3) fun r4 =>
    gd (R32 (r2 - r4)) <|
    some (r2 - r4)
theorem uX12_apart {g : SG} (hg : GOK g) {σ0 : SG} {h : HH} : ∀ {b : Int}, bX12_apart nX12_greatestZone nX12_loadOf nX12_leastZone h = some b → WK 252 (.inl (some (aI b))) σ0 (abH 71 119 g h) 0 [(0, aR 71)] [] (abH 71 119 g h) 0 0 := by
  intro  b q
  have e : ∀ (f250 : HH → Option Int) (f249 : HH → Int → Option Int) (f251 : HH → Option Int) , bX12_apart f250 f249 f251 h = segP 71 119 g.2.2.2.2 h krPI (clCP 250 (pX12_greatestZone f250 h) (clCP 249 (pX12_loadOf f249 h) (clCP 251 (pX12_leastZone f251 h) clNP))) csX12_apart cuN 1000 0 [(0, aR 71)] [] := fun _ _ _ => rfl
  rw [e nX12_greatestZone nX12_loadOf nX12_leastZone] at q
  clear e
  refine segP_wk (by decide) (by decide) hg rwX12_apart (CLKP_C (pX12_greatestZone_ok hg) (CLKP_C (pX12_loadOf_ok hg) (CLKP_C (pX12_leastZone_ok hg) CLKP_N))) krPI_ok ?_ q
  clear q
  exact ct_N
def nX12_apart (h : HH) : Option Int := bX12_apart nX12_greatestZone nX12_loadOf nX12_leastZone h
theorem wX12_apart {g : SG} (hg : GOK g) {σ0 : SG} {h : HH} : ∀ {b : Int}, nX12_apart h = some b → WK 252 (.inl (some (aI b))) σ0 (abH 71 119 g h) 0 [(0, aR 71)] [] (abH 71 119 g h) 0 0 := by
  intro  b q
  exact uX12_apart hg q
theorem mX12_apart {g : SG} (hg : GOK g) {h : HH} {b : Int} (q : nX12_apart h = some b) : MCT 252 [] [aR 71] (abH 71 119 g h) (.inl (some (aI b))) (abH 71 119 g h) :=
  mct_of (by decide) (MFok 252 (by decide +kernel)) (fun _ => Nat.le_of_ble_eq_true rfl) (wX12_apart hg q)
def pX12_apart {β : Type} (z : HH → Option Int) : PP β := fun h as f => skC 71 as fun as => skE as (bnd (z h) fun r => f (.inl (some (aI r))))
theorem pX12_apart_ok {β : Type} {g : SG} (hg : GOK g) : CP1 (β := β) 252 (pX12_apart nX12_apart) 71 119 g := fun h as f b q => by
  obtain ⟨as, rfl, q1⟩ := skC_of q
  obtain ⟨rfl, q0⟩ := skE_of q1
  obtain ⟨r, z1, z2⟩ := bnd_of q0
  exact ⟨_, z2, by decide, mX12_apart hg z1, rfl, rfl, fun z => absurd z (by decide)⟩
def csX12_isBeside : List (Nat × List (Nat × ARow)) := [(44, [(0, 1, .iconst 0, 0, 0, 0), (1, 1, .istore_n 3, 0, 0, 0), (2, 1, .iconst 0, 0, 0, 0), (3, 2, .istore 4, 0, 0, 0), (5, 2, .iload 4, 0, 0, 0), (7, 1, .aload_n 0, 0, 0, 0), (8, 3, .getfield 189, 12, 9, 0), (11, 3, .if_icmp .ge 93, 104, 0, 0), (14, 1, .iload_n 3, 0, 0, 0), (15, 3, .ifCond .ne 77, 92, 0, 0), (18, 1, .aload_n 0, 0, 0, 0), (19, 3, .getfield 7, 12, 0, 2), (22, 2, .iload 4, 0, 0, 0), (24, 1, .iaload, 0, 0, 0), (25, 1, .iload_n 1, 0, 0, 0), (26, 3, .if_icmp .ne 29, 55, 0, 0), (29, 1, .aload_n 0, 0, 0, 0), (30, 3, .getfield 13, 12, 1, 2), (33, 2, .iload 4, 0, 0, 0), (35, 1, .iaload, 0, 0, 0), (36, 3, .ifCond .eq 19, 55, 0, 0), (39, 1, .aload_n 0, 0, 0, 0), (40, 3, .getfield 104, 12, 37, 2), (43, 1, .aload_n 0, 0, 0, 0)]),
  (88, [(44, 3, .getfield 13, 12, 1, 2), (47, 2, .iload 4, 0, 0, 0), (49, 1, .iaload, 0, 0, 0), (50, 1, .iaload, 0, 0, 0), (51, 1, .iload_n 2, 0, 0, 0), (52, 3, .if_icmp .eq 40, 92, 0, 0), (55, 1, .aload_n 0, 0, 0, 0), (56, 3, .getfield 13, 12, 1, 2), (59, 2, .iload 4, 0, 0, 0), (61, 1, .iaload, 0, 0, 0), (62, 1, .iload_n 1, 0, 0, 0), (63, 3, .if_icmp .ne 33, 96, 0, 0), (66, 1, .aload_n 0, 0, 0, 0), (67, 3, .getfield 7, 12, 0, 2), (70, 2, .iload 4, 0, 0, 0), (72, 1, .iaload, 0, 0, 0), (73, 3, .ifCond .eq 23, 96, 0, 0), (76, 1, .aload_n 0, 0, 0, 0), (77, 3, .getfield 104, 12, 37, 2), (80, 1, .aload_n 0, 0, 0, 0), (81, 3, .getfield 7, 12, 0, 2), (84, 2, .iload 4, 0, 0, 0), (86, 1, .iaload, 0, 0, 0), (87, 1, .iaload, 0, 0, 0)]),
  (100000, [(88, 1, .iload_n 2, 0, 0, 0), (89, 3, .if_icmp .ne 7, 96, 0, 0), (92, 1, .iconst 1, 0, 0, 0), (93, 3, .goto 4, 97, 0, 0), (96, 1, .iconst 0, 0, 0, 0), (97, 1, .istore_n 3, 0, 0, 0), (98, 3, .iinc 4 1, 0, 0, 0), (101, 3, .goto (-96), 5, 0, 0), (104, 1, .iload_n 3, 0, 0, 0), (105, 1, .ireturn, 1, 0, 0)])]
theorem rwX12_isBeside : rowsB (mB 253) (mO 253) (mX 253) (mIni 253) (mFr 253) (mLo 253) (mT 253) csX12_isBeside = true := by decide +kernel
def bX12_isBeside_97 (h : HH) (c5 : Int → Int → Int → Int → Option Int) (x1 : Int) (x2 : Int) (x4 : Int) (y0 : Int) : Option Int :=
  gd (R32 (x4 + 1)) <|
    c5 x1 x2 y0 (x4 + 1)
theorem uX12_isBeside_97 {g : SG} (hg : GOK g) {σ0 : SG} {h : HH} {c5 : Int → Int → Int → Int → Option Int} (k5 : ∀ (x1 : Int) (x2 : Int) (x3 : Int) (x4 : Int) (b : Int), c5 x1 x2 x3 x4 = some b → WK 253 (.inl (some (aI b))) σ0 (abH 71 119 g h) 5 [(0, aR 71), (1, aI x1), (2, aI x2), (3, aI x3), (4, aI x4)] [] (abH 71 119 g h) 0 0) : ∀ {x1 : Int} {x2 : Int} {x4 : Int} {y0 : Int} {b : Int}, bX12_isBeside_97 h c5 x1 x2 x4 y0 = some b → WK 253 (.inl (some (aI b))) σ0 (abH 71 119 g h) 97 [(0, aR 71), (1, aI x1), (2, aI x2), (4, aI x4)] [aI y0] (abH 71 119 g h) 0 0 := by
  intro x1 x2 x4 y0 b q
  have e : bX12_isBeside_97 h c5 x1 x2 x4 y0 = segP 71 119 g.2.2.2.2 h krPI clNP csX12_isBeside (cuC 5 (fun l st s => tkC 0 71 l <| tkI 1 l fun x1 => tkI 2 l fun x2 => tkI 3 l fun x3 => tkI 4 l fun x4 => skE st (c5 x1 x2 x3 x4)) cuN) 1000 97 [(0, aR 71), (1, aI x1), (2, aI x2), (4, aI x4)] [aI y0] := rfl
  rw [e] at q
  clear e
  refine segP_wk (by decide) (by decide) hg rwX12_isBeside CLKP_N krPI_ok ?_ q
  clear q
  refine ct_C ?_ (ct_N)
  · intro l st _ q
    obtain ⟨m0, q1⟩ := tkC_of q
    obtain ⟨x1, m1, q2⟩ := tkI_of q1
    obtain ⟨x2, m2, q3⟩ := tkI_of q2
    obtain ⟨x3, m3, q4⟩ := tkI_of q3
    obtain ⟨x4, m4, q5⟩ := tkI_of q4
    obtain ⟨rfl, q6⟩ := skE_of q5
    exact WK_less (k5 _ _ _ _ _ q6) (List.forall_mem_cons.mpr ⟨m0, (List.forall_mem_cons.mpr ⟨m1, (List.forall_mem_cons.mpr ⟨m2, (List.forall_mem_cons.mpr ⟨m3, (List.forall_mem_cons.mpr ⟨m4, (fun _ h => absurd h List.not_mem_nil)⟩)⟩)⟩)⟩)⟩)
def nX12_isBeside_97 (h : HH) (c5 : Int → Int → Int → Int → Option Int) (x1 : Int) (x2 : Int) (x4 : Int) (y0 : Int) : Option Int := bX12_isBeside_97 h c5 x1 x2 x4 y0
theorem wX12_isBeside_97 {g : SG} (hg : GOK g) {σ0 : SG} {h : HH} {c5 : Int → Int → Int → Int → Option Int} (k5 : ∀ (x1 : Int) (x2 : Int) (x3 : Int) (x4 : Int) (b : Int), c5 x1 x2 x3 x4 = some b → WK 253 (.inl (some (aI b))) σ0 (abH 71 119 g h) 5 [(0, aR 71), (1, aI x1), (2, aI x2), (3, aI x3), (4, aI x4)] [] (abH 71 119 g h) 0 0) : ∀ {x1 : Int} {x2 : Int} {x4 : Int} {y0 : Int} {b : Int}, nX12_isBeside_97 h c5 x1 x2 x4 y0 = some b → WK 253 (.inl (some (aI b))) σ0 (abH 71 119 g h) 97 [(0, aR 71), (1, aI x1), (2, aI x2), (4, aI x4)] [aI y0] (abH 71 119 g h) 0 0 := by
  intro x1 x2 x4 y0 b q
  exact uX12_isBeside_97 hg k5 q
def bX12_isBeside_92 (h : HH) (c97 : Int → Int → Int → Int → Option Int) (x1 : Int) (x2 : Int) (x4 : Int) : Option Int :=
  c97 x1 x2 x4 1
theorem uX12_isBeside_92 {g : SG} (hg : GOK g) {σ0 : SG} {h : HH} {c97 : Int → Int → Int → Int → Option Int} (k97 : ∀ (x1 : Int) (x2 : Int) (x4 : Int) (y0 : Int) (b : Int), c97 x1 x2 x4 y0 = some b → WK 253 (.inl (some (aI b))) σ0 (abH 71 119 g h) 97 [(0, aR 71), (1, aI x1), (2, aI x2), (4, aI x4)] [aI y0] (abH 71 119 g h) 0 0) : ∀ {x1 : Int} {x2 : Int} {x4 : Int} {b : Int}, bX12_isBeside_92 h c97 x1 x2 x4 = some b → WK 253 (.inl (some (aI b))) σ0 (abH 71 119 g h) 92 [(0, aR 71), (1, aI x1), (2, aI x2), (4, aI x4)] [] (abH 71 119 g h) 0 0 := by
  intro x1 x2 x4 b q
  have e : bX12_isBeside_92 h c97 x1 x2 x4 = segP 71 119 g.2.2.2.2 h krPI clNP csX12_isBeside (cuC 97 (fun l st s => tkC 0 71 l <| tkI 1 l fun x1 => tkI 2 l fun x2 => tkI 4 l fun x4 => skI st fun y0 st => skE st (c97 x1 x2 x4 y0)) cuN) 1000 92 [(0, aR 71), (1, aI x1), (2, aI x2), (4, aI x4)] [] := rfl
  rw [e] at q
  clear e
  refine segP_wk (by decide) (by decide) hg rwX12_isBeside CLKP_N krPI_ok ?_ q
  clear q
  refine ct_C ?_ (ct_N)
  · intro l st _ q
    obtain ⟨m0, q1⟩ := tkC_of q
    obtain ⟨x1, m1, q2⟩ := tkI_of q1
    obtain ⟨x2, m2, q3⟩ := tkI_of q2
    obtain ⟨x4, m4, q4⟩ := tkI_of q3
    obtain ⟨y0, t0, rfl, q5⟩ := skI_of q4
    obtain ⟨rfl, q6⟩ := skE_of q5
    exact WK_less (k97 _ _ _ _ _ q6) (List.forall_mem_cons.mpr ⟨m0, (List.forall_mem_cons.mpr ⟨m1, (List.forall_mem_cons.mpr ⟨m2, (List.forall_mem_cons.mpr ⟨m4, (fun _ h => absurd h List.not_mem_nil)⟩)⟩)⟩)⟩)
def nX12_isBeside_92 (h : HH) (c5 : Int → Int → Int → Int → Option Int) (x1 : Int) (x2 : Int) (x4 : Int) : Option Int := bX12_isBeside_92 h (nX12_isBeside_97 h c5) x1 x2 x4
theorem wX12_isBeside_92 {g : SG} (hg : GOK g) {σ0 : SG} {h : HH} {c5 : Int → Int → Int → Int → Option Int} (k5 : ∀ (x1 : Int) (x2 : Int) (x3 : Int) (x4 : Int) (b : Int), c5 x1 x2 x3 x4 = some b → WK 253 (.inl (some (aI b))) σ0 (abH 71 119 g h) 5 [(0, aR 71), (1, aI x1), (2, aI x2), (3, aI x3), (4, aI x4)] [] (abH 71 119 g h) 0 0) : ∀ {x1 : Int} {x2 : Int} {x4 : Int} {b : Int}, nX12_isBeside_92 h c5 x1 x2 x4 = some b → WK 253 (.inl (some (aI b))) σ0 (abH 71 119 g h) 92 [(0, aR 71), (1, aI x1), (2, aI x2), (4, aI x4)] [] (abH 71 119 g h) 0 0 := by
  intro x1 x2 x4 b q
  exact uX12_isBeside_92 hg (fun _ _ _ _ _ q => wX12_isBeside_97 hg k5 q) q
def bX12_isBeside_96 (h : HH) (c97 : Int → Int → Int → Int → Option Int) (x1 : Int) (x2 : Int) (x4 : Int) : Option Int :=
  c97 x1 x2 x4 0
theorem uX12_isBeside_96 {g : SG} (hg : GOK g) {σ0 : SG} {h : HH} {c97 : Int → Int → Int → Int → Option Int} (k97 : ∀ (x1 : Int) (x2 : Int) (x4 : Int) (y0 : Int) (b : Int), c97 x1 x2 x4 y0 = some b → WK 253 (.inl (some (aI b))) σ0 (abH 71 119 g h) 97 [(0, aR 71), (1, aI x1), (2, aI x2), (4, aI x4)] [aI y0] (abH 71 119 g h) 0 0) : ∀ {x1 : Int} {x2 : Int} {x4 : Int} {b : Int}, bX12_isBeside_96 h c97 x1 x2 x4 = some b → WK 253 (.inl (some (aI b))) σ0 (abH 71 119 g h) 96 [(0, aR 71), (1, aI x1), (2, aI x2), (4, aI x4)] [] (abH 71 119 g h) 0 0 := by
  intro x1 x2 x4 b q
  have e : bX12_isBeside_96 h c97 x1 x2 x4 = segP 71 119 g.2.2.2.2 h krPI clNP csX12_isBeside (cuC 97 (fun l st s => tkC 0 71 l <| tkI 1 l fun x1 => tkI 2 l fun x2 => tkI 4 l fun x4 => skI st fun y0 st => skE st (c97 x1 x2 x4 y0)) cuN) 1000 96 [(0, aR 71), (1, aI x1), (2, aI x2), (4, aI x4)] [] := rfl
  rw [e] at q
  clear e
  refine segP_wk (by decide) (by decide) hg rwX12_isBeside CLKP_N krPI_ok ?_ q
  clear q
  refine ct_C ?_ (ct_N)
  · intro l st _ q
    obtain ⟨m0, q1⟩ := tkC_of q
    obtain ⟨x1, m1, q2⟩ := tkI_of q1
    obtain ⟨x2, m2, q3⟩ := tkI_of q2
    obtain ⟨x4, m4, q4⟩ := tkI_of q3
    obtain ⟨y0, t0, rfl, q5⟩ := skI_of q4
    obtain ⟨rfl, q6⟩ := skE_of q5
    exact WK_less (k97 _ _ _ _ _ q6) (List.forall_mem_cons.mpr ⟨m0, (List.forall_mem_cons.mpr ⟨m1, (List.forall_mem_cons.mpr ⟨m2, (List.forall_mem_cons.mpr ⟨m4, (fun _ h => absurd h List.not_mem_nil)⟩)⟩)⟩)⟩)
def nX12_isBeside_96 (h : HH) (c5 : Int → Int → Int → Int → Option Int) (x1 : Int) (x2 : Int) (x4 : Int) : Option Int := bX12_isBeside_96 h (nX12_isBeside_97 h c5) x1 x2 x4
theorem wX12_isBeside_96 {g : SG} (hg : GOK g) {σ0 : SG} {h : HH} {c5 : Int → Int → Int → Int → Option Int} (k5 : ∀ (x1 : Int) (x2 : Int) (x3 : Int) (x4 : Int) (b : Int), c5 x1 x2 x3 x4 = some b → WK 253 (.inl (some (aI b))) σ0 (abH 71 119 g h) 5 [(0, aR 71), (1, aI x1), (2, aI x2), (3, aI x3), (4, aI x4)] [] (abH 71 119 g h) 0 0) : ∀ {x1 : Int} {x2 : Int} {x4 : Int} {b : Int}, nX12_isBeside_96 h c5 x1 x2 x4 = some b → WK 253 (.inl (some (aI b))) σ0 (abH 71 119 g h) 96 [(0, aR 71), (1, aI x1), (2, aI x2), (4, aI x4)] [] (abH 71 119 g h) 0 0 := by
  intro x1 x2 x4 b q
  exact uX12_isBeside_96 hg (fun _ _ _ _ _ q => wX12_isBeside_97 hg k5 q) q
def bX12_isBeside_55 (h : HH) (c92 : Int → Int → Int → Option Int) (c96 : Int → Int → Int → Option Int) (x1 : Int) (x2 : Int) (x4 : Int) : Option Int :=
  gd ((0 : Int) ≤ x4 ∧ x4 < (60 : Int)) <|
    if (h.1 73 x4) = (x1 : Int) then
    gd ((0 : Int) ≤ x4 ∧ x4 < (60 : Int)) <|
    if (h.1 72 x4) = (0 : Int) then
    c96 x1 x2 x4
  else
    gd ((0 : Int) ≤ x4 ∧ x4 < (60 : Int)) <|
    gd ((0 : Int) ≤ (h.1 72 x4) ∧ (h.1 72 x4) < (16 : Int)) <|
    if (h.1 100 (h.1 72 x4)) = (x2 : Int) then
    c92 x1 x2 x4
  else
    c96 x1 x2 x4
  else
    c96 x1 x2 x4
set_option maxRecDepth 100000 in
theorem uX12_isBeside_55 {g : SG} (hg : GOK g) {σ0 : SG} {h : HH} {c92 : Int → Int → Int → Option Int} {c96 : Int → Int → Int → Option Int} (k92 : ∀ (x1 : Int) (x2 : Int) (x4 : Int) (b : Int), c92 x1 x2 x4 = some b → WK 253 (.inl (some (aI b))) σ0 (abH 71 119 g h) 92 [(0, aR 71), (1, aI x1), (2, aI x2), (4, aI x4)] [] (abH 71 119 g h) 0 0) (k96 : ∀ (x1 : Int) (x2 : Int) (x4 : Int) (b : Int), c96 x1 x2 x4 = some b → WK 253 (.inl (some (aI b))) σ0 (abH 71 119 g h) 96 [(0, aR 71), (1, aI x1), (2, aI x2), (4, aI x4)] [] (abH 71 119 g h) 0 0) : ∀ {x1 : Int} {x2 : Int} {x4 : Int} {b : Int}, bX12_isBeside_55 h c92 c96 x1 x2 x4 = some b → WK 253 (.inl (some (aI b))) σ0 (abH 71 119 g h) 55 [(0, aR 71), (1, aI x1), (2, aI x2), (4, aI x4)] [] (abH 71 119 g h) 0 0 := by
  intro x1 x2 x4 b q
  have e : bX12_isBeside_55 h c92 c96 x1 x2 x4 = segP 71 119 g.2.2.2.2 h krPI clNP csX12_isBeside (cuC 92 (fun l st s => tkC 0 71 l <| tkI 1 l fun x1 => tkI 2 l fun x2 => tkI 4 l fun x4 => skE st (c92 x1 x2 x4)) (cuC 96 (fun l st s => tkC 0 71 l <| tkI 1 l fun x1 => tkI 2 l fun x2 => tkI 4 l fun x4 => skE st (c96 x1 x2 x4)) cuN)) 1000 55 [(0, aR 71), (1, aI x1), (2, aI x2), (4, aI x4)] [] := rfl
  rw [e] at q
  clear e
  refine segP_wk (by decide) (by decide) hg rwX12_isBeside CLKP_N krPI_ok ?_ q
  clear q
  refine ct_C ?_ (ct_C ?_ (ct_N))
  · intro l st _ q
    obtain ⟨m0, q1⟩ := tkC_of q
    obtain ⟨x1, m1, q2⟩ := tkI_of q1
    obtain ⟨x2, m2, q3⟩ := tkI_of q2
    obtain ⟨x4, m4, q4⟩ := tkI_of q3
    obtain ⟨rfl, q5⟩ := skE_of q4
    exact WK_less (k92 _ _ _ _ q5) (List.forall_mem_cons.mpr ⟨m0, (List.forall_mem_cons.mpr ⟨m1, (List.forall_mem_cons.mpr ⟨m2, (List.forall_mem_cons.mpr ⟨m4, (fun _ h => absurd h List.not_mem_nil)⟩)⟩)⟩)⟩)
  · intro l st _ q
    obtain ⟨m0, q1⟩ := tkC_of q
    obtain ⟨x1, m1, q2⟩ := tkI_of q1
    obtain ⟨x2, m2, q3⟩ := tkI_of q2
    obtain ⟨x4, m4, q4⟩ := tkI_of q3
    obtain ⟨rfl, q5⟩ := skE_of q4
    exact WK_less (k96 _ _ _ _ q5) (List.forall_mem_cons.mpr ⟨m0, (List.forall_mem_cons.mpr ⟨m1, (List.forall_mem_cons.mpr ⟨m2, (List.forall_mem_cons.mpr ⟨m4, (fun _ h => absurd h List.not_mem_nil)⟩)⟩)⟩)⟩)
def nX12_isBeside_55 (h : HH) (c5 : Int → Int → Int → Int → Option Int) (x1 : Int) (x2 : Int) (x4 : Int) : Option Int := bX12_isBeside_55 h (nX12_isBeside_92 h c5) (nX12_isBeside_96 h c5) x1 x2 x4
theorem wX12_isBeside_55 {g : SG} (hg : GOK g) {σ0 : SG} {h : HH} {c5 : Int → Int → Int → Int → Option Int} (k5 : ∀ (x1 : Int) (x2 : Int) (x3 : Int) (x4 : Int) (b : Int), c5 x1 x2 x3 x4 = some b → WK 253 (.inl (some (aI b))) σ0 (abH 71 119 g h) 5 [(0, aR 71), (1, aI x1), (2, aI x2), (3, aI x3), (4, aI x4)] [] (abH 71 119 g h) 0 0) : ∀ {x1 : Int} {x2 : Int} {x4 : Int} {b : Int}, nX12_isBeside_55 h c5 x1 x2 x4 = some b → WK 253 (.inl (some (aI b))) σ0 (abH 71 119 g h) 55 [(0, aR 71), (1, aI x1), (2, aI x2), (4, aI x4)] [] (abH 71 119 g h) 0 0 := by
  intro x1 x2 x4 b q
  exact uX12_isBeside_55 hg (fun _ _ _ _ q => wX12_isBeside_92 hg k5 q) (fun _ _ _ _ q => wX12_isBeside_96 hg k5 q) q
def bX12_isBeside_5 (h : HH) (c55 : Int → Int → Int → Option Int) (c92 : Int → Int → Int → Option Int) (x1 : Int) (x2 : Int) (x3 : Int) (x4 : Int) : Option Int :=
  if x4 < ((h.1 71 9) : Int) then
    if x3 = (0 : Int) then
    gd ((0 : Int) ≤ x4 ∧ x4 < (60 : Int)) <|
    if (h.1 72 x4) = (x1 : Int) then
    gd ((0 : Int) ≤ x4 ∧ x4 < (60 : Int)) <|
    if (h.1 73 x4) = (0 : Int) then
    c55 x1 x2 x4
  else
    gd ((0 : Int) ≤ x4 ∧ x4 < (60 : Int)) <|
    gd ((0 : Int) ≤ (h.1 73 x4) ∧ (h.1 73 x4) < (16 : Int)) <|
    if (h.1 100 (h.1 73 x4)) = (x2 : Int) then
    c92 x1 x2 x4
  else
    c55 x1 x2 x4
  else
    c55 x1 x2 x4
  else
    c92 x1 x2 x4
  else
    gd ((0 : Int) ≤ x3 ∧ x3 ≤ (1 : Int)) <|
    some x3
set_option maxRecDepth 100000 in
theorem uX12_isBeside_5 {g : SG} (hg : GOK g) {σ0 : SG} {h : HH} {c55 : Int → Int → Int → Option Int} {c92 : Int → Int → Int → Option Int} (k55 : ∀ (x1 : Int) (x2 : Int) (x4 : Int) (b : Int), c55 x1 x2 x4 = some b → WK 253 (.inl (some (aI b))) σ0 (abH 71 119 g h) 55 [(0, aR 71), (1, aI x1), (2, aI x2), (4, aI x4)] [] (abH 71 119 g h) 0 0) (k92 : ∀ (x1 : Int) (x2 : Int) (x4 : Int) (b : Int), c92 x1 x2 x4 = some b → WK 253 (.inl (some (aI b))) σ0 (abH 71 119 g h) 92 [(0, aR 71), (1, aI x1), (2, aI x2), (4, aI x4)] [] (abH 71 119 g h) 0 0) : ∀ {x1 : Int} {x2 : Int} {x3 : Int} {x4 : Int} {b : Int}, bX12_isBeside_5 h c55 c92 x1 x2 x3 x4 = some b → WK 253 (.inl (some (aI b))) σ0 (abH 71 119 g h) 5 [(0, aR 71), (1, aI x1), (2, aI x2), (3, aI x3), (4, aI x4)] [] (abH 71 119 g h) 0 0 := by
  intro x1 x2 x3 x4 b q
  have e : bX12_isBeside_5 h c55 c92 x1 x2 x3 x4 = segP 71 119 g.2.2.2.2 h krPI clNP csX12_isBeside (cuC 55 (fun l st s => tkC 0 71 l <| tkI 1 l fun x1 => tkI 2 l fun x2 => tkI 4 l fun x4 => skE st (c55 x1 x2 x4)) (cuC 92 (fun l st s => tkC 0 71 l <| tkI 1 l fun x1 => tkI 2 l fun x2 => tkI 4 l fun x4 => skE st (c92 x1 x2 x4)) cuN)) 1000 5 [(0, aR 71), (1, aI x1), (2, aI x2), (3, aI x3), (4, aI x4)] [] := rfl
  rw [e] at q
  clear e
  refine segP_wk (by decide) (by decide) hg rwX12_isBeside CLKP_N krPI_ok ?_ q
  clear q
  refine ct_C ?_ (ct_C ?_ (ct_N))
  · intro l st _ q
    obtain ⟨m0, q1⟩ := tkC_of q
    obtain ⟨x1, m1, q2⟩ := tkI_of q1
    obtain ⟨x2, m2, q3⟩ := tkI_of q2
    obtain ⟨x4, m4, q4⟩ := tkI_of q3
    obtain ⟨rfl, q5⟩ := skE_of q4
    exact WK_less (k55 _ _ _ _ q5) (List.forall_mem_cons.mpr ⟨m0, (List.forall_mem_cons.mpr ⟨m1, (List.forall_mem_cons.mpr ⟨m2, (List.forall_mem_cons.mpr ⟨m4, (fun _ h => absurd h List.not_mem_nil)⟩)⟩)⟩)⟩)
  · intro l st _ q
    obtain ⟨m0, q1⟩ := tkC_of q
    obtain ⟨x1, m1, q2⟩ := tkI_of q1
    obtain ⟨x2, m2, q3⟩ := tkI_of q2
    obtain ⟨x4, m4, q4⟩ := tkI_of q3
    obtain ⟨rfl, q5⟩ := skE_of q4
    exact WK_less (k92 _ _ _ _ q5) (List.forall_mem_cons.mpr ⟨m0, (List.forall_mem_cons.mpr ⟨m1, (List.forall_mem_cons.mpr ⟨m2, (List.forall_mem_cons.mpr ⟨m4, (fun _ h => absurd h List.not_mem_nil)⟩)⟩)⟩)⟩)
def nX12_isBeside_5 (h : HH) : Nat → Int → Int → Int → Int → Option Int := iter (fun _ _ _ _ => none) (fun self => bX12_isBeside_5 h (nX12_isBeside_55 h self) (nX12_isBeside_92 h self))
theorem nX12_isBeside_5_s {h : HH} {F : Nat} : nX12_isBeside_5 h (F + 1) = bX12_isBeside_5 h (nX12_isBeside_55 h (nX12_isBeside_5 h F)) (nX12_isBeside_92 h (nX12_isBeside_5 h F)) := rfl
theorem wX12_isBeside_5 {g : SG} (hg : GOK g) {σ0 : SG} {h : HH} : ∀ {F : Nat}, ∀ {x1 : Int} {x2 : Int} {x3 : Int} {x4 : Int} {b : Int}, nX12_isBeside_5 h F x1 x2 x3 x4 = some b → WK 253 (.inl (some (aI b))) σ0 (abH 71 119 g h) 5 [(0, aR 71), (1, aI x1), (2, aI x2), (3, aI x3), (4, aI x4)] [] (abH 71 119 g h) 0 0 := by
  intro F
  have z : ∀ (x1 : Int) (x2 : Int) (x3 : Int) (x4 : Int) (b : Int), nX12_isBeside_5 h F x1 x2 x3 x4 = some b → WK 253 (.inl (some (aI b))) σ0 (abH 71 119 g h) 5 [(0, aR 71), (1, aI x1), (2, aI x2), (3, aI x3), (4, aI x4)] [] (abH 71 119 g h) 0 0 := iter_ind (P := fun (c : Int → Int → Int → Int → Option Int) => ∀ (x1 : Int) (x2 : Int) (x3 : Int) (x4 : Int) (b : Int), c x1 x2 x3 x4 = some b → WK 253 (.inl (some (aI b))) σ0 (abH 71 119 g h) 5 [(0, aR 71), (1, aI x1), (2, aI x2), (3, aI x3), (4, aI x4)] [] (abH 71 119 g h) 0 0) (by
    intro x1 x2 x3 x4 b q
    cases q) (fun self ih => by
    intro x1 x2 x3 x4 b q
    exact uX12_isBeside_5 hg (fun _ _ _ _ q => wX12_isBeside_55 hg ih q) (fun _ _ _ _ q => wX12_isBeside_92 hg ih q) q) F
  intro x1 x2 x3 x4 b q
  exact z _ _ _ _ _ q
def bX12_isBeside (h : HH) (c5 : Int → Int → Int → Int → Option Int) (x1 : Int) (x2 : Int) : Option Int :=
  c5 x1 x2 0 0
theorem uX12_isBeside {g : SG} (hg : GOK g) {σ0 : SG} {h : HH} {c5 : Int → Int → Int → Int → Option Int} (k5 : ∀ (x1 : Int) (x2 : Int) (x3 : Int) (x4 : Int) (b : Int), c5 x1 x2 x3 x4 = some b → WK 253 (.inl (some (aI b))) σ0 (abH 71 119 g h) 5 [(0, aR 71), (1, aI x1), (2, aI x2), (3, aI x3), (4, aI x4)] [] (abH 71 119 g h) 0 0) : ∀ {x1 : Int} {x2 : Int} {b : Int}, bX12_isBeside h c5 x1 x2 = some b → WK 253 (.inl (some (aI b))) σ0 (abH 71 119 g h) 0 [(0, aR 71), (1, aI x1), (2, aI x2)] [] (abH 71 119 g h) 0 0 := by
  intro x1 x2 b q
  have e : bX12_isBeside h c5 x1 x2 = segP 71 119 g.2.2.2.2 h krPI clNP csX12_isBeside (cuC 5 (fun l st s => tkC 0 71 l <| tkI 1 l fun x1 => tkI 2 l fun x2 => tkI 3 l fun x3 => tkI 4 l fun x4 => skE st (c5 x1 x2 x3 x4)) cuN) 1000 0 [(0, aR 71), (1, aI x1), (2, aI x2)] [] := rfl
  rw [e] at q
  clear e
  refine segP_wk (by decide) (by decide) hg rwX12_isBeside CLKP_N krPI_ok ?_ q
  clear q
  refine ct_C ?_ (ct_N)
  · intro l st _ q
    obtain ⟨m0, q1⟩ := tkC_of q
    obtain ⟨x1, m1, q2⟩ := tkI_of q1
    obtain ⟨x2, m2, q3⟩ := tkI_of q2
    obtain ⟨x3, m3, q4⟩ := tkI_of q3
    obtain ⟨x4, m4, q5⟩ := tkI_of q4
    obtain ⟨rfl, q6⟩ := skE_of q5
    exact WK_less (k5 _ _ _ _ _ q6) (List.forall_mem_cons.mpr ⟨m0, (List.forall_mem_cons.mpr ⟨m1, (List.forall_mem_cons.mpr ⟨m2, (List.forall_mem_cons.mpr ⟨m3, (List.forall_mem_cons.mpr ⟨m4, (fun _ h => absurd h List.not_mem_nil)⟩)⟩)⟩)⟩)⟩)
def nX12_isBeside (h : HH) (x1 : Int) (x2 : Int) : Option Int := bX12_isBeside h (nX12_isBeside_5 h 100000) x1 x2
theorem wX12_isBeside {g : SG} (hg : GOK g) {σ0 : SG} {h : HH} : ∀ {x1 : Int} {x2 : Int} {b : Int}, nX12_isBeside h x1 x2 = some b → WK 253 (.inl (some (aI b))) σ0 (abH 71 119 g h) 0 [(0, aR 71), (1, aI x1), (2, aI x2)] [] (abH 71 119 g h) 0 0 := by
  intro x1 x2 b q
  exact uX12_isBeside hg (fun _ _ _ _ _ q => wX12_isBeside_5 hg q) q
theorem mX12_isBeside {g : SG} (hg : GOK g) {h : HH} {x1 : Int} {x2 : Int} {b : Int} (q : nX12_isBeside h x1 x2 = some b) : MCT 253 [] [aR 71, aI x1, aI x2] (abH 71 119 g h) (.inl (some (aI b))) (abH 71 119 g h) :=
  mct_of (by decide) (MFok 253 (by decide +kernel)) (fun _ => Nat.le_of_ble_eq_true rfl) (wX12_isBeside hg q)
def pX12_isBeside {β : Type} (z : HH → Int → Int → Option Int) : PP β := fun h as f => skC 71 as fun as => skI as fun x1 as => skI as fun x2 as => skE as (bnd (z h x1 x2) fun r => f (.inl (some (aI r))))
theorem pX12_isBeside_ok {β : Type} {g : SG} (hg : GOK g) : CP1 (β := β) 253 (pX12_isBeside nX12_isBeside) 71 119 g := fun h as f b q => by
  obtain ⟨as, rfl, q1⟩ := skC_of q
  obtain ⟨x1, as, rfl, q2⟩ := skI_of q1
  obtain ⟨x2, as, rfl, q3⟩ := skI_of q2
  obtain ⟨rfl, q0⟩ := skE_of q3
  obtain ⟨r, z1, z2⟩ := bnd_of q0
  exact ⟨_, z2, by decide, mX12_isBeside hg z1, rfl, rfl, fun z => absurd z (by decide)⟩
def csX12_balances : List (Nat × List (Nat × ARow)) := [(41, [(0, 1, .aload_n 0, 0, 0, 0), (1, 3, .invokevirtual 404, 250, 1, 12), (4, 1, .istore_n 1, 0, 0, 0), (5, 1, .aload_n 0, 0, 0, 0), (6, 3, .invokevirtual 407, 251, 1, 12), (9, 1, .istore_n 2, 0, 0, 0), (10, 1, .aload_n 0, 0, 0, 0), (11, 3, .invokevirtual 410, 252, 1, 12), (14, 1, .istore_n 3, 0, 0, 0), (15, 1, .iconst (-1), 0, 0, 0), (16, 2, .istore 4, 0, 0, 0), (18, 1, .iconst 1, 0, 0, 0), (19, 2, .istore 5, 0, 0, 0), (21, 2, .iload 5, 0, 0, 0), (23, 2, .bipush 16, 0, 0, 0), (25, 3, .if_icmp .ge 80, 105, 0, 0), (28, 1, .iload_n 1, 0, 0, 0), (29, 1, .iload_n 2, 0, 0, 0), (30, 3, .if_icmp .eq 69, 99, 0, 0), (33, 1, .aload_n 0, 0, 0, 0), (34, 3, .getfield 104, 12, 37, 2), (37, 2, .iload 5, 0, 0, 0), (39, 1, .iaload, 0, 0, 0), (40, 1, .iload_n 1, 0, 0, 0)]),
  (89, [(41, 3, .if_icmp .ne 58, 99, 0, 0), (44, 1, .aload_n 0, 0, 0, 0), (45, 2, .iload 5, 0, 0, 0), (47, 3, .invokevirtual 398, 248, 2, 12), (50, 3, .ifCond .eq 49, 99, 0, 0), (53, 1, .aload_n 0, 0, 0, 0), (54, 2, .iload 5, 0, 0, 0), (56, 1, .iload_n 2, 0, 0, 0), (57, 3, .invokevirtual 413, 253, 3, 12), (60, 3, .ifCond .ne 6, 66, 0, 0), (63, 3, .goto 36, 99, 0, 0), (66, 1, .aload_n 0, 0, 0, 0), (67, 3, .getfield 104, 12, 37, 2), (70, 2, .iload 5, 0, 0, 0), (72, 1, .iload_n 2, 0, 0, 0), (73, 1, .iastore, 0, 0, 0), (74, 1, .aload_n 0, 0, 0, 0), (75, 3, .invokevirtual 410, 252, 1, 12), (78, 1, .iload_n 3, 0, 0, 0), (79, 3, .if_icmp .ge 12, 91, 0, 0), (82, 1, .aload_n 0, 0, 0, 0), (83, 3, .invokevirtual 410, 252, 1, 12), (86, 1, .istore_n 3, 0, 0, 0), (87, 2, .iload 5, 0, 0, 0)]),
  (100000, [(89, 2, .istore 4, 0, 0, 0), (91, 1, .aload_n 0, 0, 0, 0), (92, 3, .getfield 104, 12, 37, 2), (95, 2, .iload 5, 0, 0, 0), (97, 1, .iload_n 1, 0, 0, 0), (98, 1, .iastore, 0, 0, 0), (99, 3, .iinc 5 1, 0, 0, 0), (102, 3, .goto (-81), 21, 0, 0), (105, 2, .iload 4, 0, 0, 0), (107, 1, .iconst (-1), 0, 0, 0), (108, 3, .if_icmp .eq 11, 119, 0, 0), (111, 1, .aload_n 0, 0, 0, 0), (112, 3, .getfield 104, 12, 37, 2), (115, 2, .iload 4, 0, 0, 0), (117, 1, .iload_n 2, 0, 0, 0), (118, 1, .iastore, 0, 0, 0), (119, 2, .iload 4, 0, 0, 0), (121, 1, .iconst (-1), 0, 0, 0), (122, 3, .if_icmp .eq 7, 129, 0, 0), (125, 1, .iconst 1, 0, 0, 0), (126, 3, .goto 4, 130, 0, 0), (129, 1, .iconst 0, 0, 0, 0), (130, 1, .ireturn, 1, 0, 0)])]
theorem rwX12_balances : rowsB (mB 254) (mO 254) (mX 254) (mIni 254) (mFr 254) (mLo 254) (mT 254) csX12_balances = true := by decide +kernel
def bX12_balances_119 (x4 : Int) (h : HH) : Option (Int × HH) :=
  if x4 = ((-1) : Int) then
    gd ((0 : Int) ≤ 0 ∧ 0 ≤ (1 : Int)) <|
    some (0, h)
  else
    gd ((0 : Int) ≤ 1 ∧ 1 ≤ (1 : Int)) <|
    some (1, h)
theorem uX12_balances_119 {g : SG} (hg : GOK g) {σ0 : SG} : ∀ {x4 : Int} {h : HH} {b : (Int × HH)}, bX12_balances_119 x4 h = some b → WK 254 (.inl (some (aI b.1))) σ0 (abH 71 119 g b.2) 119 [(4, aI x4)] [] (abH 71 119 g h) 0 0 := by
  intro x4 h b q
  have e : bX12_balances_119 x4 h = segW 71 119 g.2.2.2.2 krWI clN csX12_balances cuN 1000 119 [(4, aI x4)] [] h := rfl
  rw [e] at q
  clear e
  refine segW_wk (by decide) (by decide) hg rwX12_balances CLKW_N krWI_ok ?_ q
  clear q
  exact ct_N
def nX12_balances_119 (x4 : Int) (h : HH) : Option (Int × HH) := bX12_balances_119 x4 h
theorem wX12_balances_119 {g : SG} (hg : GOK g) {σ0 : SG} : ∀ {x4 : Int} {h : HH} {b : (Int × HH)}, nX12_balances_119 x4 h = some b → WK 254 (.inl (some (aI b.1))) σ0 (abH 71 119 g b.2) 119 [(4, aI x4)] [] (abH 71 119 g h) 0 0 := by
  intro x4 h b q
  exact uX12_balances_119 hg q
def bX12_balances_99 (c21 : Int → Int → Int → Int → Int → HH → Option (Int × HH)) (x1 : Int) (x2 : Int) (x3 : Int) (x4 : Int) (x5 : Int) (h : HH) : Option (Int × HH) :=
  gd (R32 (x5 + 1)) <|
    c21 x1 x2 x3 x4 (x5 + 1) h
theorem uX12_balances_99 {g : SG} (hg : GOK g) {σ0 : SG} {c21 : Int → Int → Int → Int → Int → HH → Option (Int × HH)} (k21 : ∀ (x1 : Int) (x2 : Int) (x3 : Int) (x4 : Int) (x5 : Int) (h : HH) (b : (Int × HH)), c21 x1 x2 x3 x4 x5 h = some b → WK 254 (.inl (some (aI b.1))) σ0 (abH 71 119 g b.2) 21 [(0, aR 71), (1, aI x1), (2, aI x2), (3, aI x3), (4, aI x4), (5, aI x5)] [] (abH 71 119 g h) 0 0) : ∀ {x1 : Int} {x2 : Int} {x3 : Int} {x4 : Int} {x5 : Int} {h : HH} {b : (Int × HH)}, bX12_balances_99 c21 x1 x2 x3 x4 x5 h = some b → WK 254 (.inl (some (aI b.1))) σ0 (abH 71 119 g b.2) 99 [(0, aR 71), (1, aI x1), (2, aI x2), (3, aI x3), (4, aI x4), (5, aI x5)] [] (abH 71 119 g h) 0 0 := by
  intro x1 x2 x3 x4 x5 h b q
  have e : bX12_balances_99 c21 x1 x2 x3 x4 x5 h = segW 71 119 g.2.2.2.2 krWI clN csX12_balances (cuC 21 (fun l st s => tkC 0 71 l <| tkI 1 l fun x1 => tkI 2 l fun x2 => tkI 3 l fun x3 => tkI 4 l fun x4 => tkI 5 l fun x5 => skE st (c21 x1 x2 x3 x4 x5 s)) cuN) 1000 99 [(0, aR 71), (1, aI x1), (2, aI x2), (3, aI x3), (4, aI x4), (5, aI x5)] [] h := rfl
  rw [e] at q
  clear e
  refine segW_wk (by decide) (by decide) hg rwX12_balances CLKW_N krWI_ok ?_ q
  clear q
  refine ct_C ?_ (ct_N)
  · intro l st h q
    obtain ⟨m0, q1⟩ := tkC_of q
    obtain ⟨x1, m1, q2⟩ := tkI_of q1
    obtain ⟨x2, m2, q3⟩ := tkI_of q2
    obtain ⟨x3, m3, q4⟩ := tkI_of q3
    obtain ⟨x4, m4, q5⟩ := tkI_of q4
    obtain ⟨x5, m5, q6⟩ := tkI_of q5
    obtain ⟨rfl, q7⟩ := skE_of q6
    exact WK_less (k21 _ _ _ _ _ _ _ q7) (List.forall_mem_cons.mpr ⟨m0, (List.forall_mem_cons.mpr ⟨m1, (List.forall_mem_cons.mpr ⟨m2, (List.forall_mem_cons.mpr ⟨m3, (List.forall_mem_cons.mpr ⟨m4, (List.forall_mem_cons.mpr ⟨m5, (fun _ h => absurd h List.not_mem_nil)⟩)⟩)⟩)⟩)⟩)⟩)
def nX12_balances_99 (c21 : Int → Int → Int → Int → Int → HH → Option (Int × HH)) (x1 : Int) (x2 : Int) (x3 : Int) (x4 : Int) (x5 : Int) (h : HH) : Option (Int × HH) := bX12_balances_99 c21 x1 x2 x3 x4 x5 h
theorem wX12_balances_99 {g : SG} (hg : GOK g) {σ0 : SG} {c21 : Int → Int → Int → Int → Int → HH → Option (Int × HH)} (k21 : ∀ (x1 : Int) (x2 : Int) (x3 : Int) (x4 : Int) (x5 : Int) (h : HH) (b : (Int × HH)), c21 x1 x2 x3 x4 x5 h = some b → WK 254 (.inl (some (aI b.1))) σ0 (abH 71 119 g b.2) 21 [(0, aR 71), (1, aI x1), (2, aI x2), (3, aI x3), (4, aI x4), (5, aI x5)] [] (abH 71 119 g h) 0 0) : ∀ {x1 : Int} {x2 : Int} {x3 : Int} {x4 : Int} {x5 : Int} {h : HH} {b : (Int × HH)}, nX12_balances_99 c21 x1 x2 x3 x4 x5 h = some b → WK 254 (.inl (some (aI b.1))) σ0 (abH 71 119 g b.2) 99 [(0, aR 71), (1, aI x1), (2, aI x2), (3, aI x3), (4, aI x4), (5, aI x5)] [] (abH 71 119 g h) 0 0 := by
  intro x1 x2 x3 x4 x5 h b q
  exact uX12_balances_99 hg k21 q
def bX12_balances_91 (c99 : Int → Int → Int → Int → Int → HH → Option (Int × HH)) (x1 : Int) (x2 : Int) (x3 : Int) (x4 : Int) (x5 : Int) (h : HH) : Option (Int × HH) :=
  gd ((0 : Int) ≤ x5 ∧ x5 < (16 : Int)) <|
    bnd (some (hI h 100 x5 x1)) fun h1 =>
    c99 x1 x2 x3 x4 x5 h1
theorem uX12_balances_91 {g : SG} (hg : GOK g) {σ0 : SG} {c99 : Int → Int → Int → Int → Int → HH → Option (Int × HH)} (k99 : ∀ (x1 : Int) (x2 : Int) (x3 : Int) (x4 : Int) (x5 : Int) (h : HH) (b : (Int × HH)), c99 x1 x2 x3 x4 x5 h = some b → WK 254 (.inl (some (aI b.1))) σ0 (abH 71 119 g b.2) 99 [(0, aR 71), (1, aI x1), (2, aI x2), (3, aI x3), (4, aI x4), (5, aI x5)] [] (abH 71 119 g h) 0 0) : ∀ {x1 : Int} {x2 : Int} {x3 : Int} {x4 : Int} {x5 : Int} {h : HH} {b : (Int × HH)}, bX12_balances_91 c99 x1 x2 x3 x4 x5 h = some b → WK 254 (.inl (some (aI b.1))) σ0 (abH 71 119 g b.2) 91 [(0, aR 71), (1, aI x1), (2, aI x2), (3, aI x3), (4, aI x4), (5, aI x5)] [] (abH 71 119 g h) 0 0 := by
  intro x1 x2 x3 x4 x5 h b q
  have e : bX12_balances_91 c99 x1 x2 x3 x4 x5 h = segW 71 119 g.2.2.2.2 krWI clN csX12_balances (cuC 99 (fun l st s => tkC 0 71 l <| tkI 1 l fun x1 => tkI 2 l fun x2 => tkI 3 l fun x3 => tkI 4 l fun x4 => tkI 5 l fun x5 => skE st (c99 x1 x2 x3 x4 x5 s)) cuN) 1000 91 [(0, aR 71), (1, aI x1), (2, aI x2), (3, aI x3), (4, aI x4), (5, aI x5)] [] h := rfl
  rw [e] at q
  clear e
  refine segW_wk (by decide) (by decide) hg rwX12_balances CLKW_N krWI_ok ?_ q
  clear q
  refine ct_C ?_ (ct_N)
  · intro l st h q
    obtain ⟨m0, q1⟩ := tkC_of q
    obtain ⟨x1, m1, q2⟩ := tkI_of q1
    obtain ⟨x2, m2, q3⟩ := tkI_of q2
    obtain ⟨x3, m3, q4⟩ := tkI_of q3
    obtain ⟨x4, m4, q5⟩ := tkI_of q4
    obtain ⟨x5, m5, q6⟩ := tkI_of q5
    obtain ⟨rfl, q7⟩ := skE_of q6
    exact WK_less (k99 _ _ _ _ _ _ _ q7) (List.forall_mem_cons.mpr ⟨m0, (List.forall_mem_cons.mpr ⟨m1, (List.forall_mem_cons.mpr ⟨m2, (List.forall_mem_cons.mpr ⟨m3, (List.forall_mem_cons.mpr ⟨m4, (List.forall_mem_cons.mpr ⟨m5, (fun _ h => absurd h List.not_mem_nil)⟩)⟩)⟩)⟩)⟩)⟩)
def nX12_balances_91 (c21 : Int → Int → Int → Int → Int → HH → Option (Int × HH)) (x1 : Int) (x2 : Int) (x3 : Int) (x4 : Int) (x5 : Int) (h : HH) : Option (Int × HH) := bX12_balances_91 (nX12_balances_99 c21) x1 x2 x3 x4 x5 h
theorem wX12_balances_91 {g : SG} (hg : GOK g) {σ0 : SG} {c21 : Int → Int → Int → Int → Int → HH → Option (Int × HH)} (k21 : ∀ (x1 : Int) (x2 : Int) (x3 : Int) (x4 : Int) (x5 : Int) (h : HH) (b : (Int × HH)), c21 x1 x2 x3 x4 x5 h = some b → WK 254 (.inl (some (aI b.1))) σ0 (abH 71 119 g b.2) 21 [(0, aR 71), (1, aI x1), (2, aI x2), (3, aI x3), (4, aI x4), (5, aI x5)] [] (abH 71 119 g h) 0 0) : ∀ {x1 : Int} {x2 : Int} {x3 : Int} {x4 : Int} {x5 : Int} {h : HH} {b : (Int × HH)}, nX12_balances_91 c21 x1 x2 x3 x4 x5 h = some b → WK 254 (.inl (some (aI b.1))) σ0 (abH 71 119 g b.2) 91 [(0, aR 71), (1, aI x1), (2, aI x2), (3, aI x3), (4, aI x4), (5, aI x5)] [] (abH 71 119 g h) 0 0 := by
  intro x1 x2 x3 x4 x5 h b q
  exact uX12_balances_91 hg (fun _ _ _ _ _ _ _ q => wX12_balances_99 hg k21 q) q
def bX12_balances_21 (f248 : HH → Int → Option Int) (f253 : HH → Int → Int → Option Int) (f252 : HH → Option Int) (c91 : Int → Int → Int → Int → Int → HH → Option (Int × HH)) (c99 : Int → Int → Int → Int → Int → HH → Option (Int × HH)) (c119 : Int → HH → Option (Int × HH)) (x1 : Int) (x2 : Int) (x3 : Int) (x4 : Int) (x5 : Int) (h : HH) : Option (Int × HH) :=
  if x5 < (16 : Int) then
    if x1 = (x2 : Int) then
    c99 x1 x2 x3 x4 x5 h
  else
    gd ((0 : Int) ≤ x5 ∧ x5 < (16 : Int)) <|
    if (h.1 100 x5) = (x1 : Int) then
    bnd (f248 h x5) fun r2 =>
    if r2 = (0 : Int) then
    c99 x1 x2 x3 x4 x5 h
  else
    bnd (f253 h x5 x2) fun r3 =>
    if r3 = (0 : Int) then
    c99 x1 x2 x3 x4 x5 h
  else
    gd ((0 : Int) ≤ x5 ∧ x5 < (16 : Int)) <|
    bnd (some (hI h 100 x5 x2)) fun h4 =>
    bnd (f252 h4) fun r5 =>
    if r5 < (x3 : Int) then
    bnd (f252 h4) fun r6 =>
    c91 x1 x2 r6 x5 x5 h4
  else
    c91 x1 x2 x3 x4 x5 h4
  else
    c99 x1 x2 x3 x4 x5 h
  else
    if x4 = ((-1) : Int) then
    c119 x4 h
  else
    gd ((0 : Int) ≤ x4 ∧ x4 < (16 : Int)) <|
    bnd (some (hI h 100 x4 x2)) fun h1 =>
    c119 x4 h1
set_option maxRecDepth 100000 in
theorem uX12_balances_21 {g : SG} (hg : GOK g) {σ0 : SG} {c91 : Int → Int → Int → Int → Int → HH → Option (Int × HH)} {c99 : Int → Int → Int → Int → Int → HH → Option (Int × HH)} {c119 : Int → HH → Option (Int × HH)} (k91 : ∀ (x1 : Int) (x2 : Int) (x3 : Int) (x4 : Int) (x5 : Int) (h : HH) (b : (Int × HH)), c91 x1 x2 x3 x4 x5 h = some b → WK 254 (.inl (some (aI b.1))) σ0 (abH 71 119 g b.2) 91 [(0, aR 71), (1, aI x1), (2, aI x2), (3, aI x3), (4, aI x4), (5, aI x5)] [] (abH 71 119 g h) 0 0) (k99 : ∀ (x1 : Int) (x2 : Int) (x3 : Int) (x4 : Int) (x5 : Int) (h : HH) (b : (Int × HH)), c99 x1 x2 x3 x4 x5 h = some b → WK 254 (.inl (some (aI b.1))) σ0 (abH 71 119 g b.2) 99 [(0, aR 71), (1, aI x1), (2, aI x2), (3, aI x3), (4, aI x4), (5, aI x5)] [] (abH 71 119 g h) 0 0) (k119 : ∀ (x4 : Int) (h : HH) (b : (Int × HH)), c119 x4 h = some b → WK 254 (.inl (some (aI b.1))) σ0 (abH 71 119 g b.2) 119 [(4, aI x4)] [] (abH 71 119 g h) 0 0) : ∀ {x1 : Int} {x2 : Int} {x3 : Int} {x4 : Int} {x5 : Int} {h : HH} {b : (Int × HH)}, bX12_balances_21 nX12_loadOfPlace nX12_isBeside nX12_apart c91 c99 c119 x1 x2 x3 x4 x5 h = some b → WK 254 (.inl (some (aI b.1))) σ0 (abH 71 119 g b.2) 21 [(0, aR 71), (1, aI x1), (2, aI x2), (3, aI x3), (4, aI x4), (5, aI x5)] [] (abH 71 119 g h) 0 0 := by
  intro x1 x2 x3 x4 x5 h b q
  have e : ∀ (f248 : HH → Int → Option Int) (f253 : HH → Int → Int → Option Int) (f252 : HH → Option Int) , bX12_balances_21 f248 f253 f252 c91 c99 c119 x1 x2 x3 x4 x5 h = segW 71 119 g.2.2.2.2 krWI (clC 248 (liPW (pX12_loadOfPlace f248)) (clC 253 (liPW (pX12_isBeside f253)) (clC 252 (liPW (pX12_apart f252)) clN))) csX12_balances (cuC 91 (fun l st s => tkC 0 71 l <| tkI 1 l fun x1 => tkI 2 l fun x2 => tkI 3 l fun x3 => tkI 4 l fun x4 => tkI 5 l fun x5 => skE st (c91 x1 x2 x3 x4 x5 s)) (cuC 99 (fun l st s => tkC 0 71 l <| tkI 1 l fun x1 => tkI 2 l fun x2 => tkI 3 l fun x3 => tkI 4 l fun x4 => tkI 5 l fun x5 => skE st (c99 x1 x2 x3 x4 x5 s)) (cuC 119 (fun l st s => tkI 4 l fun x4 => skE st (c119 x4 s)) cuN))) 1000 21 [(0, aR 71), (1, aI x1), (2, aI x2), (3, aI x3), (4, aI x4), (5, aI x5)] [] h := fun _ _ _ => rfl
  rw [e nX12_loadOfPlace nX12_isBeside nX12_apart] at q
  clear e
  refine segW_wk (by decide) (by decide) hg rwX12_balances (CLKW_C (liPW_ok (pX12_loadOfPlace_ok hg)) (CLKW_C (liPW_ok (pX12_isBeside_ok hg)) (CLKW_C (liPW_ok (pX12_apart_ok hg)) CLKW_N))) krWI_ok ?_ q
  clear q
  refine ct_C ?_ (ct_C ?_ (ct_C ?_ (ct_N)))
  · intro l st h q
    obtain ⟨m0, q1⟩ := tkC_of q
    obtain ⟨x1, m1, q2⟩ := tkI_of q1
    obtain ⟨x2, m2, q3⟩ := tkI_of q2
    obtain ⟨x3, m3, q4⟩ := tkI_of q3
    obtain ⟨x4, m4, q5⟩ := tkI_of q4
    obtain ⟨x5, m5, q6⟩ := tkI_of q5
    obtain ⟨rfl, q7⟩ := skE_of q6
    exact WK_less (k91 _ _ _ _ _ _ _ q7) (List.forall_mem_cons.mpr ⟨m0, (List.forall_mem_cons.mpr ⟨m1, (List.forall_mem_cons.mpr ⟨m2, (List.forall_mem_cons.mpr ⟨m3, (List.forall_mem_cons.mpr ⟨m4, (List.forall_mem_cons.mpr ⟨m5, (fun _ h => absurd h List.not_mem_nil)⟩)⟩)⟩)⟩)⟩)⟩)
  · intro l st h q
    obtain ⟨m0, q1⟩ := tkC_of q
    obtain ⟨x1, m1, q2⟩ := tkI_of q1
    obtain ⟨x2, m2, q3⟩ := tkI_of q2
    obtain ⟨x3, m3, q4⟩ := tkI_of q3
    obtain ⟨x4, m4, q5⟩ := tkI_of q4
    obtain ⟨x5, m5, q6⟩ := tkI_of q5
    obtain ⟨rfl, q7⟩ := skE_of q6
    exact WK_less (k99 _ _ _ _ _ _ _ q7) (List.forall_mem_cons.mpr ⟨m0, (List.forall_mem_cons.mpr ⟨m1, (List.forall_mem_cons.mpr ⟨m2, (List.forall_mem_cons.mpr ⟨m3, (List.forall_mem_cons.mpr ⟨m4, (List.forall_mem_cons.mpr ⟨m5, (fun _ h => absurd h List.not_mem_nil)⟩)⟩)⟩)⟩)⟩)⟩)
  · intro l st h q
    obtain ⟨x4, m4, q1⟩ := tkI_of q
    obtain ⟨rfl, q2⟩ := skE_of q1
    exact WK_less (k119 _ _ _ q2) (List.forall_mem_cons.mpr ⟨m4, (fun _ h => absurd h List.not_mem_nil)⟩)
def nX12_balances_21 : Nat → Int → Int → Int → Int → Int → HH → Option (Int × HH) := iter (fun _ _ _ _ _ _ => none) (fun self => bX12_balances_21 nX12_loadOfPlace nX12_isBeside nX12_apart (nX12_balances_91 self) (nX12_balances_99 self) nX12_balances_119)
theorem nX12_balances_21_s {F : Nat} : nX12_balances_21 (F + 1) = bX12_balances_21 nX12_loadOfPlace nX12_isBeside nX12_apart (nX12_balances_91 (nX12_balances_21 F)) (nX12_balances_99 (nX12_balances_21 F)) nX12_balances_119 := rfl
theorem wX12_balances_21 {g : SG} (hg : GOK g) {σ0 : SG} : ∀ {F : Nat}, ∀ {x1 : Int} {x2 : Int} {x3 : Int} {x4 : Int} {x5 : Int} {h : HH} {b : (Int × HH)}, nX12_balances_21 F x1 x2 x3 x4 x5 h = some b → WK 254 (.inl (some (aI b.1))) σ0 (abH 71 119 g b.2) 21 [(0, aR 71), (1, aI x1), (2, aI x2), (3, aI x3), (4, aI x4), (5, aI x5)] [] (abH 71 119 g h) 0 0 := by
  intro F
  have z : ∀ (x1 : Int) (x2 : Int) (x3 : Int) (x4 : Int) (x5 : Int) (h : HH) (b : (Int × HH)), nX12_balances_21 F x1 x2 x3 x4 x5 h = some b → WK 254 (.inl (some (aI b.1))) σ0 (abH 71 119 g b.2) 21 [(0, aR 71), (1, aI x1), (2, aI x2), (3, aI x3), (4, aI x4), (5, aI x5)] [] (abH 71 119 g h) 0 0 := iter_ind (P := fun (c : Int → Int → Int → Int → Int → HH → Option (Int × HH)) => ∀ (x1 : Int) (x2 : Int) (x3 : Int) (x4 : Int) (x5 : Int) (h : HH) (b : (Int × HH)), c x1 x2 x3 x4 x5 h = some b → WK 254 (.inl (some (aI b.1))) σ0 (abH 71 119 g b.2) 21 [(0, aR 71), (1, aI x1), (2, aI x2), (3, aI x3), (4, aI x4), (5, aI x5)] [] (abH 71 119 g h) 0 0) (by
    intro x1 x2 x3 x4 x5 h b q
    cases q) (fun self ih => by
    intro x1 x2 x3 x4 x5 h b q
    exact uX12_balances_21 hg (fun _ _ _ _ _ _ _ q => wX12_balances_91 hg ih q) (fun _ _ _ _ _ _ _ q => wX12_balances_99 hg ih q) (fun _ _ _ q => wX12_balances_119 hg q) q) F
  intro x1 x2 x3 x4 x5 h b q
  exact z _ _ _ _ _ _ _ q
def bX12_balances (f250 : HH → Option Int) (f251 : HH → Option Int) (f252 : HH → Option Int) (c21 : Int → Int → Int → Int → Int → HH → Option (Int × HH)) (h : HH) : Option (Int × HH) :=
  bnd (f250 h) fun r1 =>
    bnd (f251 h) fun r2 =>
    bnd (f252 h) fun r3 =>
    c21 r1 r2 r3 (-1) 1 h
theorem uX12_balances {g : SG} (hg : GOK g) {σ0 : SG} {c21 : Int → Int → Int → Int → Int → HH → Option (Int × HH)} (k21 : ∀ (x1 : Int) (x2 : Int) (x3 : Int) (x4 : Int) (x5 : Int) (h : HH) (b : (Int × HH)), c21 x1 x2 x3 x4 x5 h = some b → WK 254 (.inl (some (aI b.1))) σ0 (abH 71 119 g b.2) 21 [(0, aR 71), (1, aI x1), (2, aI x2), (3, aI x3), (4, aI x4), (5, aI x5)] [] (abH 71 119 g h) 0 0) : ∀ {h : HH} {b : (Int × HH)}, bX12_balances nX12_greatestZone nX12_leastZone nX12_apart c21 h = some b → WK 254 (.inl (some (aI b.1))) σ0 (abH 71 119 g b.2) 0 [(0, aR 71)] [] (abH 71 119 g h) 0 0 := by
  intro h b q
  have e : ∀ (f250 : HH → Option Int) (f251 : HH → Option Int) (f252 : HH → Option Int) , bX12_balances f250 f251 f252 c21 h = segW 71 119 g.2.2.2.2 krWI (clC 250 (liPW (pX12_greatestZone f250)) (clC 251 (liPW (pX12_leastZone f251)) (clC 252 (liPW (pX12_apart f252)) clN))) csX12_balances (cuC 21 (fun l st s => tkC 0 71 l <| tkI 1 l fun x1 => tkI 2 l fun x2 => tkI 3 l fun x3 => tkI 4 l fun x4 => tkI 5 l fun x5 => skE st (c21 x1 x2 x3 x4 x5 s)) cuN) 1000 0 [(0, aR 71)] [] h := fun _ _ _ => rfl
  rw [e nX12_greatestZone nX12_leastZone nX12_apart] at q
  clear e
  refine segW_wk (by decide) (by decide) hg rwX12_balances (CLKW_C (liPW_ok (pX12_greatestZone_ok hg)) (CLKW_C (liPW_ok (pX12_leastZone_ok hg)) (CLKW_C (liPW_ok (pX12_apart_ok hg)) CLKW_N))) krWI_ok ?_ q
  clear q
  refine ct_C ?_ (ct_N)
  · intro l st h q
    obtain ⟨m0, q1⟩ := tkC_of q
    obtain ⟨x1, m1, q2⟩ := tkI_of q1
    obtain ⟨x2, m2, q3⟩ := tkI_of q2
    obtain ⟨x3, m3, q4⟩ := tkI_of q3
    obtain ⟨x4, m4, q5⟩ := tkI_of q4
    obtain ⟨x5, m5, q6⟩ := tkI_of q5
    obtain ⟨rfl, q7⟩ := skE_of q6
    exact WK_less (k21 _ _ _ _ _ _ _ q7) (List.forall_mem_cons.mpr ⟨m0, (List.forall_mem_cons.mpr ⟨m1, (List.forall_mem_cons.mpr ⟨m2, (List.forall_mem_cons.mpr ⟨m3, (List.forall_mem_cons.mpr ⟨m4, (List.forall_mem_cons.mpr ⟨m5, (fun _ h => absurd h List.not_mem_nil)⟩)⟩)⟩)⟩)⟩)⟩)
def nX12_balances (h : HH) : Option (Int × HH) := bX12_balances nX12_greatestZone nX12_leastZone nX12_apart (nX12_balances_21 100000) h
theorem wX12_balances {g : SG} (hg : GOK g) {σ0 : SG} : ∀ {h : HH} {b : (Int × HH)}, nX12_balances h = some b → WK 254 (.inl (some (aI b.1))) σ0 (abH 71 119 g b.2) 0 [(0, aR 71)] [] (abH 71 119 g h) 0 0 := by
  intro h b q
  exact uX12_balances hg (fun _ _ _ _ _ _ _ q => wX12_balances_21 hg q) q
theorem mX12_balances {g : SG} (hg : GOK g) {h : HH} {b : (Int × HH)} (q : nX12_balances h = some b) : MCT 254 [] [aR 71] (abH 71 119 g h) (.inl (some (aI b.1))) (abH 71 119 g b.2) :=
  mct_of (by decide) (MFok 254 (by decide +kernel)) (fun _ => Nat.le_of_ble_eq_true rfl) (wX12_balances hg q)
def pX12_balances {β : Type} (z : HH → Option (Int × HH)) : PW β := fun as h f => skC 71 as fun as => skE as (bnd (z h) fun r => f (.inl (some (aI r.1))) r.2)
theorem pX12_balances_ok {β : Type} {g : SG} (hg : GOK g) : CW1 (β := β) 254 (pX12_balances nX12_balances) 71 119 g := fun as h f b q => by
  obtain ⟨as, rfl, q1⟩ := skC_of q
  obtain ⟨rfl, q0⟩ := skE_of q1
  obtain ⟨r, z1, z2⟩ := bnd_of q0
  exact ⟨_, _, z2, by decide, mX12_balances hg z1, rfl, rfl, fun z => absurd z (by decide)⟩
def csX12_balance : List (Nat × List (Nat × ARow)) := [(100000, [(0, 1, .iconst 0, 0, 0, 0), (1, 1, .istore_n 1, 0, 0, 0), (2, 1, .aload_n 0, 0, 0, 0), (3, 3, .invokevirtual 417, 254, 1, 12), (6, 3, .ifCond .eq 9, 15, 0, 0), (9, 3, .iinc 1 1, 0, 0, 0), (12, 3, .goto (-10), 2, 0, 0), (15, 1, .aload_n 0, 0, 0, 0), (16, 1, .iload_n 1, 0, 0, 0), (17, 3, .invokevirtual 209, 178, 2, 12), (20, 1, .ireturn, 0, 0, 0)])]
theorem rwX12_balance : rowsB (mB 255) (mO 255) (mX 255) (mIni 255) (mFr 255) (mLo 255) (mT 255) csX12_balance = true := by decide +kernel
def bX12_balance_2 (f254 : HH → Option (Int × HH)) (f178 : Int → HH → Option (Int × HH)) (c2 : Int → HH → Option (Int × HH)) (x1 : Int) (h : HH) : Option (Int × HH) :=
  bnd (f254 h) fun r1 =>
    if r1.1 = (0 : Int) then
    bnd (f178 x1 r1.2) fun r2 =>
    some (r2.1, r2.2)
  else
    gd (R32 (x1 + 1)) <|
    c2 (x1 + 1) r1.2
theorem uX12_balance_2 {g : SG} (hg : GOK g) {σ0 : SG} {c2 : Int → HH → Option (Int × HH)} (k2 : ∀ (x1 : Int) (h : HH) (b : (Int × HH)), c2 x1 h = some b → WK 255 (.inl (some (aI b.1))) σ0 (abH 71 119 g b.2) 2 [(0, aR 71), (1, aI x1)] [] (abH 71 119 g h) 0 0) : ∀ {x1 : Int} {h : HH} {b : (Int × HH)}, bX12_balance_2 nX12_balances nX12_told c2 x1 h = some b → WK 255 (.inl (some (aI b.1))) σ0 (abH 71 119 g b.2) 2 [(0, aR 71), (1, aI x1)] [] (abH 71 119 g h) 0 0 := by
  intro x1 h b q
  have e : ∀ (f254 : HH → Option (Int × HH)) (f178 : Int → HH → Option (Int × HH)) , bX12_balance_2 f254 f178 c2 x1 h = segW 71 119 g.2.2.2.2 krWI (clC 254 (pX12_balances f254) (clC 178 (pX12_told f178) clN)) csX12_balance (cuC 2 (fun l st s => tkC 0 71 l <| tkI 1 l fun x1 => skE st (c2 x1 s)) cuN) 1000 2 [(0, aR 71), (1, aI x1)] [] h := fun _ _ => rfl
  rw [e nX12_balances nX12_told] at q
  clear e
  refine segW_wk (by decide) (by decide) hg rwX12_balance (CLKW_C (pX12_balances_ok hg) (CLKW_C (pX12_told_ok hg) CLKW_N)) krWI_ok ?_ q
  clear q
  refine ct_C ?_ (ct_N)
  · intro l st h q
    obtain ⟨m0, q1⟩ := tkC_of q
    obtain ⟨x1, m1, q2⟩ := tkI_of q1
    obtain ⟨rfl, q3⟩ := skE_of q2
    exact WK_less (k2 _ _ _ q3) (List.forall_mem_cons.mpr ⟨m0, (List.forall_mem_cons.mpr ⟨m1, (fun _ h => absurd h List.not_mem_nil)⟩)⟩)
def nX12_balance_2 : Nat → Int → HH → Option (Int × HH) := iter (fun _ _ => none) (fun self => bX12_balance_2 nX12_balances nX12_told self)
theorem nX12_balance_2_s {F : Nat} : nX12_balance_2 (F + 1) = bX12_balance_2 nX12_balances nX12_told (nX12_balance_2 F) := rfl
theorem wX12_balance_2 {g : SG} (hg : GOK g) {σ0 : SG} : ∀ {F : Nat}, ∀ {x1 : Int} {h : HH} {b : (Int × HH)}, nX12_balance_2 F x1 h = some b → WK 255 (.inl (some (aI b.1))) σ0 (abH 71 119 g b.2) 2 [(0, aR 71), (1, aI x1)] [] (abH 71 119 g h) 0 0 := by
  intro F
  have z : ∀ (x1 : Int) (h : HH) (b : (Int × HH)), nX12_balance_2 F x1 h = some b → WK 255 (.inl (some (aI b.1))) σ0 (abH 71 119 g b.2) 2 [(0, aR 71), (1, aI x1)] [] (abH 71 119 g h) 0 0 := iter_ind (P := fun (c : Int → HH → Option (Int × HH)) => ∀ (x1 : Int) (h : HH) (b : (Int × HH)), c x1 h = some b → WK 255 (.inl (some (aI b.1))) σ0 (abH 71 119 g b.2) 2 [(0, aR 71), (1, aI x1)] [] (abH 71 119 g h) 0 0) (by
    intro x1 h b q
    cases q) (fun self ih => by
    intro x1 h b q
    exact uX12_balance_2 hg ih q) F
  intro x1 h b q
  exact z _ _ _ q
def bX12_balance (c2 : Int → HH → Option (Int × HH)) (h : HH) : Option (Int × HH) :=
  c2 0 h
theorem uX12_balance {g : SG} (hg : GOK g) {σ0 : SG} {c2 : Int → HH → Option (Int × HH)} (k2 : ∀ (x1 : Int) (h : HH) (b : (Int × HH)), c2 x1 h = some b → WK 255 (.inl (some (aI b.1))) σ0 (abH 71 119 g b.2) 2 [(0, aR 71), (1, aI x1)] [] (abH 71 119 g h) 0 0) : ∀ {h : HH} {b : (Int × HH)}, bX12_balance c2 h = some b → WK 255 (.inl (some (aI b.1))) σ0 (abH 71 119 g b.2) 0 [(0, aR 71)] [] (abH 71 119 g h) 0 0 := by
  intro h b q
  have e : bX12_balance c2 h = segW 71 119 g.2.2.2.2 krWI clN csX12_balance (cuC 2 (fun l st s => tkC 0 71 l <| tkI 1 l fun x1 => skE st (c2 x1 s)) cuN) 1000 0 [(0, aR 71)] [] h := rfl
  rw [e] at q
  clear e
  refine segW_wk (by decide) (by decide) hg rwX12_balance CLKW_N krWI_ok ?_ q
  clear q
  refine ct_C ?_ (ct_N)
  · intro l st h q
    obtain ⟨m0, q1⟩ := tkC_of q
    obtain ⟨x1, m1, q2⟩ := tkI_of q1
    obtain ⟨rfl, q3⟩ := skE_of q2
    exact WK_less (k2 _ _ _ q3) (List.forall_mem_cons.mpr ⟨m0, (List.forall_mem_cons.mpr ⟨m1, (fun _ h => absurd h List.not_mem_nil)⟩)⟩)
def nX12_balance (h : HH) : Option (Int × HH) := bX12_balance (nX12_balance_2 100000) h
theorem wX12_balance {g : SG} (hg : GOK g) {σ0 : SG} : ∀ {h : HH} {b : (Int × HH)}, nX12_balance h = some b → WK 255 (.inl (some (aI b.1))) σ0 (abH 71 119 g b.2) 0 [(0, aR 71)] [] (abH 71 119 g h) 0 0 := by
  intro h b q
  exact uX12_balance hg (fun _ _ _ q => wX12_balance_2 hg q) q
theorem mX12_balance {g : SG} (hg : GOK g) {h : HH} {b : (Int × HH)} (q : nX12_balance h = some b) : MCT 255 [] [aR 71] (abH 71 119 g h) (.inl (some (aI b.1))) (abH 71 119 g b.2) :=
  mct_of (by decide) (MFok 255 (by decide +kernel)) (fun _ => Nat.le_of_ble_eq_true rfl) (wX12_balance hg q)
def pX12_balance {β : Type} (z : HH → Option (Int × HH)) : PW β := fun as h f => skC 71 as fun as => skE as (bnd (z h) fun r => f (.inl (some (aI r.1))) r.2)
theorem pX12_balance_ok {β : Type} {g : SG} (hg : GOK g) : CW1 (β := β) 255 (pX12_balance nX12_balance) 71 119 g := fun as h f b q => by
  obtain ⟨as, rfl, q1⟩ := skC_of q
  obtain ⟨rfl, q0⟩ := skE_of q1
  obtain ⟨r, z1, z2⟩ := bnd_of q0
  exact ⟨_, _, z2, by decide, mX12_balance hg z1, rfl, rfl, fun z => absurd z (by decide)⟩
def csX12_zone : List (Nat × List (Nat × ARow)) := [(45, [(0, 1, .iload_n 2, 0, 0, 0), (1, 1, .iload_n 1, 0, 0, 0), (2, 3, .ifCond .eq 7, 9, 0, 0), (5, 1, .iconst 0, 0, 0, 0), (6, 3, .goto 4, 10, 0, 0), (9, 1, .iconst 1, 0, 0, 0), (10, 1, .iload_n 1, 0, 0, 0), (11, 3, .ifCond .eq 7, 18, 0, 0), (14, 1, .iconst 2, 0, 0, 0), (15, 3, .goto 5, 20, 0, 0), (18, 2, .bipush 15, 0, 0, 0), (20, 3, .invokestatic 178, 171, 3, 0), (23, 3, .ifCond .ne 9, 32, 0, 0), (26, 1, .aload_n 0, 0, 0, 0), (27, 1, .iconst 1, 0, 0, 0), (28, 3, .invokevirtual 200, 177, 2, 12), (31, 1, .ireturn, 0, 0, 0), (32, 1, .aload_n 0, 0, 0, 0), (33, 1, .iload_n 1, 0, 0, 0), (34, 3, .ifCond .eq 11, 45, 0, 0), (37, 1, .aload_n 0, 0, 0, 0), (38, 1, .iload_n 2, 0, 0, 0), (39, 3, .invokevirtual 401, 249, 2, 12), (42, 3, .goto 9, 51, 0, 0)]),
  (100000, [(45, 1, .aload_n 0, 0, 0, 0), (46, 3, .getfield 104, 12, 37, 2), (49, 1, .iload_n 2, 0, 0, 0), (50, 1, .iaload, 0, 0, 0), (51, 3, .invokevirtual 209, 178, 2, 12), (54, 1, .ireturn, 0, 0, 0)])]
theorem rwX12_zone : rowsB (mB 256) (mO 256) (mX 256) (mIni 256) (mFr 256) (mLo 256) (mT 256) csX12_zone = true := by decide +kernel
def bX12_zone_51 (f178 : Int → HH → Option (Int × HH)) (y0 : Int) (h : HH) : Option (Int × HH) :=
  bnd (f178 y0 h) fun r1 =>
    some (r1.1, r1.2)
theorem uX12_zone_51 {g : SG} (hg : GOK g) {σ0 : SG} : ∀ {y0 : Int} {h : HH} {b : (Int × HH)}, bX12_zone_51 nX12_told y0 h = some b → WK 256 (.inl (some (aI b.1))) σ0 (abH 71 119 g b.2) 51 [] [aI y0, aR 71] (abH 71 119 g h) 0 0 := by
  intro y0 h b q
  have e : ∀ (f178 : Int → HH → Option (Int × HH)) , bX12_zone_51 f178 y0 h = segW 71 119 g.2.2.2.2 krWI (clC 178 (pX12_told f178) clN) csX12_zone cuN 1000 51 [] [aI y0, aR 71] h := fun _ => rfl
  rw [e nX12_told] at q
  clear e
  refine segW_wk (by decide) (by decide) hg rwX12_zone (CLKW_C (pX12_told_ok hg) CLKW_N) krWI_ok ?_ q
  clear q
  exact ct_N
def nX12_zone_51 (y0 : Int) (h : HH) : Option (Int × HH) := bX12_zone_51 nX12_told y0 h
theorem wX12_zone_51 {g : SG} (hg : GOK g) {σ0 : SG} : ∀ {y0 : Int} {h : HH} {b : (Int × HH)}, nX12_zone_51 y0 h = some b → WK 256 (.inl (some (aI b.1))) σ0 (abH 71 119 g b.2) 51 [] [aI y0, aR 71] (abH 71 119 g h) 0 0 := by
  intro y0 h b q
  exact uX12_zone_51 hg q
def bX12_zone_20 (f171 : HH → Int → Int → Int → Option Int) (f249 : HH → Int → Option Int) (f177 : Int → HH → Option (Int × HH)) (c51 : Int → HH → Option (Int × HH)) (x1 : Int) (x2 : Int) (y0 : Int) (y1 : Int) (y2 : Int) (h : HH) : Option (Int × HH) :=
  bnd (f171 h y2 y1 y0) fun r1 =>
    if r1 = (0 : Int) then
    bnd (f177 1 h) fun r3 =>
    some (r3.1, r3.2)
  else
    if x1 = (0 : Int) then
    gd ((0 : Int) ≤ x2 ∧ x2 < (16 : Int)) <|
    c51 (h.1 100 x2) h
  else
    bnd (f249 h x2) fun r2 =>
    c51 r2 h
theorem uX12_zone_20 {g : SG} (hg : GOK g) {σ0 : SG} {c51 : Int → HH → Option (Int × HH)} (k51 : ∀ (y0 : Int) (h : HH) (b : (Int × HH)), c51 y0 h = some b → WK 256 (.inl (some (aI b.1))) σ0 (abH 71 119 g b.2) 51 [] [aI y0, aR 71] (abH 71 119 g h) 0 0) : ∀ {x1 : Int} {x2 : Int} {y0 : Int} {y1 : Int} {y2 : Int} {h : HH} {b : (Int × HH)}, bX12_zone_20 nX12_in nX12_loadOf nX12_refuse c51 x1 x2 y0 y1 y2 h = some b → WK 256 (.inl (some (aI b.1))) σ0 (abH 71 119 g b.2) 20 [(0, aR 71), (1, aI x1), (2, aI x2)] [aI y0, aI y1, aI y2] (abH 71 119 g h) 0 0 := by
  intro x1 x2 y0 y1 y2 h b q
  have e : ∀ (f171 : HH → Int → Int → Int → Option Int) (f249 : HH → Int → Option Int) (f177 : Int → HH → Option (Int × HH)) , bX12_zone_20 f171 f249 f177 c51 x1 x2 y0 y1 y2 h = segW 71 119 g.2.2.2.2 krWI (clC 171 (liPW (pX12_in f171)) (clC 249 (liPW (pX12_loadOf f249)) (clC 177 (pX12_refuse f177) clN))) csX12_zone (cuC 51 (fun l st s => skI st fun y0 st => skC 71 st fun st => skE st (c51 y0 s)) cuN) 1000 20 [(0, aR 71), (1, aI x1), (2, aI x2)] [aI y0, aI y1, aI y2] h := fun _ _ _ => rfl
  rw [e nX12_in nX12_loadOf nX12_refuse] at q
  clear e
  refine segW_wk (by decide) (by decide) hg rwX12_zone (CLKW_C (liPW_ok (pX12_in_ok hg)) (CLKW_C (liPW_ok (pX12_loadOf_ok hg)) (CLKW_C (pX12_refuse_ok hg) CLKW_N))) krWI_ok ?_ q
  clear q
  refine ct_C ?_ (ct_N)
  · intro l st h q
    obtain ⟨y0, t0, rfl, q1⟩ := skI_of q
    obtain ⟨t1, rfl, q2⟩ := skC_of q1
    obtain ⟨rfl, q3⟩ := skE_of q2
    exact WK_less (k51 _ _ _ q3) (fun _ h => absurd h List.not_mem_nil)
def nX12_zone_20 (x1 : Int) (x2 : Int) (y0 : Int) (y1 : Int) (y2 : Int) (h : HH) : Option (Int × HH) := bX12_zone_20 nX12_in nX12_loadOf nX12_refuse nX12_zone_51 x1 x2 y0 y1 y2 h
theorem wX12_zone_20 {g : SG} (hg : GOK g) {σ0 : SG} : ∀ {x1 : Int} {x2 : Int} {y0 : Int} {y1 : Int} {y2 : Int} {h : HH} {b : (Int × HH)}, nX12_zone_20 x1 x2 y0 y1 y2 h = some b → WK 256 (.inl (some (aI b.1))) σ0 (abH 71 119 g b.2) 20 [(0, aR 71), (1, aI x1), (2, aI x2)] [aI y0, aI y1, aI y2] (abH 71 119 g h) 0 0 := by
  intro x1 x2 y0 y1 y2 h b q
  exact uX12_zone_20 hg (fun _ _ _ q => wX12_zone_51 hg q) q
def bX12_zone_10 (c20 : Int → Int → Int → Int → Int → HH → Option (Int × HH)) (x1 : Int) (x2 : Int) (y0 : Int) (y1 : Int) (h : HH) : Option (Int × HH) :=
  if x1 = (0 : Int) then
    c20 x1 x2 15 y0 y1 h
  else
    c20 x1 x2 2 y0 y1 h
theorem uX12_zone_10 {g : SG} (hg : GOK g) {σ0 : SG} {c20 : Int → Int → Int → Int → Int → HH → Option (Int × HH)} (k20 : ∀ (x1 : Int) (x2 : Int) (y0 : Int) (y1 : Int) (y2 : Int) (h : HH) (b : (Int × HH)), c20 x1 x2 y0 y1 y2 h = some b → WK 256 (.inl (some (aI b.1))) σ0 (abH 71 119 g b.2) 20 [(0, aR 71), (1, aI x1), (2, aI x2)] [aI y0, aI y1, aI y2] (abH 71 119 g h) 0 0) : ∀ {x1 : Int} {x2 : Int} {y0 : Int} {y1 : Int} {h : HH} {b : (Int × HH)}, bX12_zone_10 c20 x1 x2 y0 y1 h = some b → WK 256 (.inl (some (aI b.1))) σ0 (abH 71 119 g b.2) 10 [(0, aR 71), (1, aI x1), (2, aI x2)] [aI y0, aI y1] (abH 71 119 g h) 0 0 := by
  intro x1 x2 y0 y1 h b q
  have e : bX12_zone_10 c20 x1 x2 y0 y1 h = segW 71 119 g.2.2.2.2 krWI clN csX12_zone (cuC 20 (fun l st s => tkC 0 71 l <| tkI 1 l fun x1 => tkI 2 l fun x2 => skI st fun y0 st => skI st fun y1 st => skI st fun y2 st => skE st (c20 x1 x2 y0 y1 y2 s)) cuN) 1000 10 [(0, aR 71), (1, aI x1), (2, aI x2)] [aI y0, aI y1] h := rfl
  rw [e] at q
  clear e
  refine segW_wk (by decide) (by decide) hg rwX12_zone CLKW_N krWI_ok ?_ q
  clear q
  refine ct_C ?_ (ct_N)
  · intro l st h q
    obtain ⟨m0, q1⟩ := tkC_of q
    obtain ⟨x1, m1, q2⟩ := tkI_of q1
    obtain ⟨x2, m2, q3⟩ := tkI_of q2
    obtain ⟨y0, t0, rfl, q4⟩ := skI_of q3
    obtain ⟨y1, t1, rfl, q5⟩ := skI_of q4
    obtain ⟨y2, t2, rfl, q6⟩ := skI_of q5
    obtain ⟨rfl, q7⟩ := skE_of q6
    exact WK_less (k20 _ _ _ _ _ _ _ q7) (List.forall_mem_cons.mpr ⟨m0, (List.forall_mem_cons.mpr ⟨m1, (List.forall_mem_cons.mpr ⟨m2, (fun _ h => absurd h List.not_mem_nil)⟩)⟩)⟩)
def nX12_zone_10 (x1 : Int) (x2 : Int) (y0 : Int) (y1 : Int) (h : HH) : Option (Int × HH) := bX12_zone_10 nX12_zone_20 x1 x2 y0 y1 h
theorem wX12_zone_10 {g : SG} (hg : GOK g) {σ0 : SG} : ∀ {x1 : Int} {x2 : Int} {y0 : Int} {y1 : Int} {h : HH} {b : (Int × HH)}, nX12_zone_10 x1 x2 y0 y1 h = some b → WK 256 (.inl (some (aI b.1))) σ0 (abH 71 119 g b.2) 10 [(0, aR 71), (1, aI x1), (2, aI x2)] [aI y0, aI y1] (abH 71 119 g h) 0 0 := by
  intro x1 x2 y0 y1 h b q
  exact uX12_zone_10 hg (fun _ _ _ _ _ _ _ q => wX12_zone_20 hg q) q
def bX12_zone (c10 : Int → Int → Int → Int → HH → Option (Int × HH)) (x1 : Int) (x2 : Int) (h : HH) : Option (Int × HH) :=
  if x1 = (0 : Int) then
    c10 x1 x2 1 x2 h
  else
    c10 x1 x2 0 x2 h
theorem uX12_zone {g : SG} (hg : GOK g) {σ0 : SG} {c10 : Int → Int → Int → Int → HH → Option (Int × HH)} (k10 : ∀ (x1 : Int) (x2 : Int) (y0 : Int) (y1 : Int) (h : HH) (b : (Int × HH)), c10 x1 x2 y0 y1 h = some b → WK 256 (.inl (some (aI b.1))) σ0 (abH 71 119 g b.2) 10 [(0, aR 71), (1, aI x1), (2, aI x2)] [aI y0, aI y1] (abH 71 119 g h) 0 0) : ∀ {x1 : Int} {x2 : Int} {h : HH} {b : (Int × HH)}, bX12_zone c10 x1 x2 h = some b → WK 256 (.inl (some (aI b.1))) σ0 (abH 71 119 g b.2) 0 [(0, aR 71), (1, aI x1), (2, aI x2)] [] (abH 71 119 g h) 0 0 := by
  intro x1 x2 h b q
  have e : bX12_zone c10 x1 x2 h = segW 71 119 g.2.2.2.2 krWI clN csX12_zone (cuC 10 (fun l st s => tkC 0 71 l <| tkI 1 l fun x1 => tkI 2 l fun x2 => skI st fun y0 st => skI st fun y1 st => skE st (c10 x1 x2 y0 y1 s)) cuN) 1000 0 [(0, aR 71), (1, aI x1), (2, aI x2)] [] h := rfl
  rw [e] at q
  clear e
  refine segW_wk (by decide) (by decide) hg rwX12_zone CLKW_N krWI_ok ?_ q
  clear q
  refine ct_C ?_ (ct_N)
  · intro l st h q
    obtain ⟨m0, q1⟩ := tkC_of q
    obtain ⟨x1, m1, q2⟩ := tkI_of q1
    obtain ⟨x2, m2, q3⟩ := tkI_of q2
    obtain ⟨y0, t0, rfl, q4⟩ := skI_of q3
    obtain ⟨y1, t1, rfl, q5⟩ := skI_of q4
    obtain ⟨rfl, q6⟩ := skE_of q5
    exact WK_less (k10 _ _ _ _ _ _ q6) (List.forall_mem_cons.mpr ⟨m0, (List.forall_mem_cons.mpr ⟨m1, (List.forall_mem_cons.mpr ⟨m2, (fun _ h => absurd h List.not_mem_nil)⟩)⟩)⟩)
def nX12_zone (x1 : Int) (x2 : Int) (h : HH) : Option (Int × HH) := bX12_zone nX12_zone_10 x1 x2 h
theorem wX12_zone {g : SG} (hg : GOK g) {σ0 : SG} : ∀ {x1 : Int} {x2 : Int} {h : HH} {b : (Int × HH)}, nX12_zone x1 x2 h = some b → WK 256 (.inl (some (aI b.1))) σ0 (abH 71 119 g b.2) 0 [(0, aR 71), (1, aI x1), (2, aI x2)] [] (abH 71 119 g h) 0 0 := by
  intro x1 x2 h b q
  exact uX12_zone hg (fun _ _ _ _ _ _ q => wX12_zone_10 hg q) q
theorem mX12_zone {g : SG} (hg : GOK g) {h : HH} {x1 : Int} {x2 : Int} {b : (Int × HH)} (q : nX12_zone x1 x2 h = some b) : MCT 256 [] [aR 71, aI x1, aI x2] (abH 71 119 g h) (.inl (some (aI b.1))) (abH 71 119 g b.2) :=
  mct_of (by decide) (MFok 256 (by decide +kernel)) (fun _ => Nat.le_of_ble_eq_true rfl) (wX12_zone hg q)
def pX12_zone {β : Type} (z : Int → Int → HH → Option (Int × HH)) : PW β := fun as h f => skC 71 as fun as => skI as fun x1 as => skI as fun x2 as => skE as (bnd (z x1 x2 h) fun r => f (.inl (some (aI r.1))) r.2)
theorem pX12_zone_ok {β : Type} {g : SG} (hg : GOK g) : CW1 (β := β) 256 (pX12_zone nX12_zone) 71 119 g := fun as h f b q => by
  obtain ⟨as, rfl, q1⟩ := skC_of q
  obtain ⟨x1, as, rfl, q2⟩ := skI_of q1
  obtain ⟨x2, as, rfl, q3⟩ := skI_of q2
  obtain ⟨rfl, q0⟩ := skE_of q3
  obtain ⟨r, z1, z2⟩ := bnd_of q0
  exact ⟨_, _, z2, by decide, mX12_zone hg z1, rfl, rfl, fun z => absurd z (by decide)⟩
def csX12_togetherOf : List (Nat × List (Nat × ARow)) := [(36, [(0, 1, .iconst 0, 0, 0, 0), (1, 1, .istore_n 2, 0, 0, 0), (2, 1, .iconst 0, 0, 0, 0), (3, 1, .istore_n 3, 0, 0, 0), (4, 1, .iload_n 3, 0, 0, 0), (5, 1, .aload_n 0, 0, 0, 0), (6, 3, .getfield 182, 12, 21, 0), (9, 3, .if_icmp .ge 42, 51, 0, 0), (12, 1, .aload_n 0, 0, 0, 0), (13, 3, .getfield 55, 12, 17, 2), (16, 1, .iload_n 3, 0, 0, 0), (17, 1, .iaload, 0, 0, 0), (18, 3, .ifCond .ne 27, 45, 0, 0), (21, 1, .iload_n 1, 0, 0, 0), (22, 1, .aload_n 0, 0, 0, 0), (23, 3, .getfield 43, 12, 13, 2), (26, 1, .iload_n 3, 0, 0, 0), (27, 1, .iaload, 0, 0, 0), (28, 1, .ishr, 0, 0, 0), (29, 1, .iconst 1, 0, 0, 0), (30, 1, .iand, 0, 0, 0), (31, 1, .iconst 1, 0, 0, 0), (32, 3, .if_icmp .ne 13, 45, 0, 0), (35, 1, .aload_n 0, 0, 0, 0)]),
  (100000, [(36, 3, .getfield 133, 12, 49, 2), (39, 1, .iload_n 2, 0, 0, 0), (40, 1, .iload_n 3, 0, 0, 0), (41, 1, .iastore, 0, 0, 0), (42, 3, .iinc 2 1, 0, 0, 0), (45, 3, .iinc 3 1, 0, 0, 0), (48, 3, .goto (-44), 4, 0, 0), (51, 1, .aload_n 0, 0, 0, 0), (52, 1, .iconst 0, 0, 0, 0), (53, 1, .iload_n 2, 0, 0, 0), (54, 3, .invokevirtual 337, 221, 3, 12), (57, 1, .ireturn, 0, 0, 0)])]
theorem rwX12_togetherOf : rowsB (mB 257) (mO 257) (mX 257) (mIni 257) (mFr 257) (mLo 257) (mT 257) csX12_togetherOf = true := by decide +kernel
def bX12_togetherOf_45 (c4 : Int → Int → Int → HH → Option (Int × HH)) (x1 : Int) (x2 : Int) (x3 : Int) (h : HH) : Option (Int × HH) :=
  gd (R32 (x3 + 1)) <|
    c4 x1 x2 (x3 + 1) h
theorem uX12_togetherOf_45 {g : SG} (hg : GOK g) {σ0 : SG} {c4 : Int → Int → Int → HH → Option (Int × HH)} (k4 : ∀ (x1 : Int) (x2 : Int) (x3 : Int) (h : HH) (b : (Int × HH)), c4 x1 x2 x3 h = some b → WK 257 (.inl (some (aI b.1))) σ0 (abH 71 119 g b.2) 4 [(0, aR 71), (1, aI x1), (2, aI x2), (3, aI x3)] [] (abH 71 119 g h) 0 0) : ∀ {x1 : Int} {x2 : Int} {x3 : Int} {h : HH} {b : (Int × HH)}, bX12_togetherOf_45 c4 x1 x2 x3 h = some b → WK 257 (.inl (some (aI b.1))) σ0 (abH 71 119 g b.2) 45 [(0, aR 71), (1, aI x1), (2, aI x2), (3, aI x3)] [] (abH 71 119 g h) 0 0 := by
  intro x1 x2 x3 h b q
  have e : bX12_togetherOf_45 c4 x1 x2 x3 h = segW 71 119 g.2.2.2.2 krWI clN csX12_togetherOf (cuC 4 (fun l st s => tkC 0 71 l <| tkI 1 l fun x1 => tkI 2 l fun x2 => tkI 3 l fun x3 => skE st (c4 x1 x2 x3 s)) cuN) 1000 45 [(0, aR 71), (1, aI x1), (2, aI x2), (3, aI x3)] [] h := rfl
  rw [e] at q
  clear e
  refine segW_wk (by decide) (by decide) hg rwX12_togetherOf CLKW_N krWI_ok ?_ q
  clear q
  refine ct_C ?_ (ct_N)
  · intro l st h q
    obtain ⟨m0, q1⟩ := tkC_of q
    obtain ⟨x1, m1, q2⟩ := tkI_of q1
    obtain ⟨x2, m2, q3⟩ := tkI_of q2
    obtain ⟨x3, m3, q4⟩ := tkI_of q3
    obtain ⟨rfl, q5⟩ := skE_of q4
    exact WK_less (k4 _ _ _ _ _ q5) (List.forall_mem_cons.mpr ⟨m0, (List.forall_mem_cons.mpr ⟨m1, (List.forall_mem_cons.mpr ⟨m2, (List.forall_mem_cons.mpr ⟨m3, (fun _ h => absurd h List.not_mem_nil)⟩)⟩)⟩)⟩)
def nX12_togetherOf_45 (c4 : Int → Int → Int → HH → Option (Int × HH)) (x1 : Int) (x2 : Int) (x3 : Int) (h : HH) : Option (Int × HH) := bX12_togetherOf_45 c4 x1 x2 x3 h
theorem wX12_togetherOf_45 {g : SG} (hg : GOK g) {σ0 : SG} {c4 : Int → Int → Int → HH → Option (Int × HH)} (k4 : ∀ (x1 : Int) (x2 : Int) (x3 : Int) (h : HH) (b : (Int × HH)), c4 x1 x2 x3 h = some b → WK 257 (.inl (some (aI b.1))) σ0 (abH 71 119 g b.2) 4 [(0, aR 71), (1, aI x1), (2, aI x2), (3, aI x3)] [] (abH 71 119 g h) 0 0) : ∀ {x1 : Int} {x2 : Int} {x3 : Int} {h : HH} {b : (Int × HH)}, nX12_togetherOf_45 c4 x1 x2 x3 h = some b → WK 257 (.inl (some (aI b.1))) σ0 (abH 71 119 g b.2) 45 [(0, aR 71), (1, aI x1), (2, aI x2), (3, aI x3)] [] (abH 71 119 g h) 0 0 := by
  intro x1 x2 x3 h b q
  exact uX12_togetherOf_45 hg k4 q
def bX12_togetherOf_4 (f221 : Int → Int → HH → Option (Int × HH)) (c45 : Int → Int → Int → HH → Option (Int × HH)) (x1 : Int) (x2 : Int) (x3 : Int) (h : HH) : Option (Int × HH) :=
  if x3 < ((h.1 71 21) : Int) then
    gd ((0 : Int) ≤ x3 ∧ x3 < (9 : Int)) <|
    if (h.1 87 x3) = (0 : Int) then
    gd ((0 : Int) ≤ x3 ∧ x3 < (9 : Int)) <|
    if (andI (shrI x1 (h.1 83 x3)) 1) = (1 : Int) then
    gd ((0 : Int) ≤ x2 ∧ x2 < (10 : Int)) <|
    bnd (some (hI h 107 x2 x3)) fun h2 =>
    gd (R32 (x2 + 1)) <|
    c45 x1 (x2 + 1) x3 h2
  else
    c45 x1 x2 x3 h
  else
    c45 x1 x2 x3 h
  else
    bnd (f221 0 x2 h) fun r1 =>
    some (r1.1, r1.2)
set_option maxRecDepth 100000 in
theorem uX12_togetherOf_4 {g : SG} (hg : GOK g) {σ0 : SG} {c45 : Int → Int → Int → HH → Option (Int × HH)} (k45 : ∀ (x1 : Int) (x2 : Int) (x3 : Int) (h : HH) (b : (Int × HH)), c45 x1 x2 x3 h = some b → WK 257 (.inl (some (aI b.1))) σ0 (abH 71 119 g b.2) 45 [(0, aR 71), (1, aI x1), (2, aI x2), (3, aI x3)] [] (abH 71 119 g h) 0 0) : ∀ {x1 : Int} {x2 : Int} {x3 : Int} {h : HH} {b : (Int × HH)}, bX12_togetherOf_4 nX12_exactOf c45 x1 x2 x3 h = some b → WK 257 (.inl (some (aI b.1))) σ0 (abH 71 119 g b.2) 4 [(0, aR 71), (1, aI x1), (2, aI x2), (3, aI x3)] [] (abH 71 119 g h) 0 0 := by
  intro x1 x2 x3 h b q
  have e : ∀ (f221 : Int → Int → HH → Option (Int × HH)) , bX12_togetherOf_4 f221 c45 x1 x2 x3 h = segW 71 119 g.2.2.2.2 krWI (clC 221 (pX12_exactOf f221) clN) csX12_togetherOf (cuC 45 (fun l st s => tkC 0 71 l <| tkI 1 l fun x1 => tkI 2 l fun x2 => tkI 3 l fun x3 => skE st (c45 x1 x2 x3 s)) cuN) 1000 4 [(0, aR 71), (1, aI x1), (2, aI x2), (3, aI x3)] [] h := fun _ => rfl
  rw [e nX12_exactOf] at q
  clear e
  refine segW_wk (by decide) (by decide) hg rwX12_togetherOf (CLKW_C (pX12_exactOf_ok hg) CLKW_N) krWI_ok ?_ q
  clear q
  refine ct_C ?_ (ct_N)
  · intro l st h q
    obtain ⟨m0, q1⟩ := tkC_of q
    obtain ⟨x1, m1, q2⟩ := tkI_of q1
    obtain ⟨x2, m2, q3⟩ := tkI_of q2
    obtain ⟨x3, m3, q4⟩ := tkI_of q3
    obtain ⟨rfl, q5⟩ := skE_of q4
    exact WK_less (k45 _ _ _ _ _ q5) (List.forall_mem_cons.mpr ⟨m0, (List.forall_mem_cons.mpr ⟨m1, (List.forall_mem_cons.mpr ⟨m2, (List.forall_mem_cons.mpr ⟨m3, (fun _ h => absurd h List.not_mem_nil)⟩)⟩)⟩)⟩)
def nX12_togetherOf_4 : Nat → Int → Int → Int → HH → Option (Int × HH) := iter (fun _ _ _ _ => none) (fun self => bX12_togetherOf_4 nX12_exactOf (nX12_togetherOf_45 self))
theorem nX12_togetherOf_4_s {F : Nat} : nX12_togetherOf_4 (F + 1) = bX12_togetherOf_4 nX12_exactOf (nX12_togetherOf_45 (nX12_togetherOf_4 F)) := rfl
theorem wX12_togetherOf_4 {g : SG} (hg : GOK g) {σ0 : SG} : ∀ {F : Nat}, ∀ {x1 : Int} {x2 : Int} {x3 : Int} {h : HH} {b : (Int × HH)}, nX12_togetherOf_4 F x1 x2 x3 h = some b → WK 257 (.inl (some (aI b.1))) σ0 (abH 71 119 g b.2) 4 [(0, aR 71), (1, aI x1), (2, aI x2), (3, aI x3)] [] (abH 71 119 g h) 0 0 := by
  intro F
  have z : ∀ (x1 : Int) (x2 : Int) (x3 : Int) (h : HH) (b : (Int × HH)), nX12_togetherOf_4 F x1 x2 x3 h = some b → WK 257 (.inl (some (aI b.1))) σ0 (abH 71 119 g b.2) 4 [(0, aR 71), (1, aI x1), (2, aI x2), (3, aI x3)] [] (abH 71 119 g h) 0 0 := iter_ind (P := fun (c : Int → Int → Int → HH → Option (Int × HH)) => ∀ (x1 : Int) (x2 : Int) (x3 : Int) (h : HH) (b : (Int × HH)), c x1 x2 x3 h = some b → WK 257 (.inl (some (aI b.1))) σ0 (abH 71 119 g b.2) 4 [(0, aR 71), (1, aI x1), (2, aI x2), (3, aI x3)] [] (abH 71 119 g h) 0 0) (by
    intro x1 x2 x3 h b q
    cases q) (fun self ih => by
    intro x1 x2 x3 h b q
    exact uX12_togetherOf_4 hg (fun _ _ _ _ _ q => wX12_togetherOf_45 hg ih q) q) F
  intro x1 x2 x3 h b q
  exact z _ _ _ _ _ q
def bX12_togetherOf (c4 : Int → Int → Int → HH → Option (Int × HH)) (x1 : Int) (h : HH) : Option (Int × HH) :=
  c4 x1 0 0 h
theorem uX12_togetherOf {g : SG} (hg : GOK g) {σ0 : SG} {c4 : Int → Int → Int → HH → Option (Int × HH)} (k4 : ∀ (x1 : Int) (x2 : Int) (x3 : Int) (h : HH) (b : (Int × HH)), c4 x1 x2 x3 h = some b → WK 257 (.inl (some (aI b.1))) σ0 (abH 71 119 g b.2) 4 [(0, aR 71), (1, aI x1), (2, aI x2), (3, aI x3)] [] (abH 71 119 g h) 0 0) : ∀ {x1 : Int} {h : HH} {b : (Int × HH)}, bX12_togetherOf c4 x1 h = some b → WK 257 (.inl (some (aI b.1))) σ0 (abH 71 119 g b.2) 0 [(0, aR 71), (1, aI x1)] [] (abH 71 119 g h) 0 0 := by
  intro x1 h b q
  have e : bX12_togetherOf c4 x1 h = segW 71 119 g.2.2.2.2 krWI clN csX12_togetherOf (cuC 4 (fun l st s => tkC 0 71 l <| tkI 1 l fun x1 => tkI 2 l fun x2 => tkI 3 l fun x3 => skE st (c4 x1 x2 x3 s)) cuN) 1000 0 [(0, aR 71), (1, aI x1)] [] h := rfl
  rw [e] at q
  clear e
  refine segW_wk (by decide) (by decide) hg rwX12_togetherOf CLKW_N krWI_ok ?_ q
  clear q
  refine ct_C ?_ (ct_N)
  · intro l st h q
    obtain ⟨m0, q1⟩ := tkC_of q
    obtain ⟨x1, m1, q2⟩ := tkI_of q1
    obtain ⟨x2, m2, q3⟩ := tkI_of q2
    obtain ⟨x3, m3, q4⟩ := tkI_of q3
    obtain ⟨rfl, q5⟩ := skE_of q4
    exact WK_less (k4 _ _ _ _ _ q5) (List.forall_mem_cons.mpr ⟨m0, (List.forall_mem_cons.mpr ⟨m1, (List.forall_mem_cons.mpr ⟨m2, (List.forall_mem_cons.mpr ⟨m3, (fun _ h => absurd h List.not_mem_nil)⟩)⟩)⟩)⟩)
def nX12_togetherOf (x1 : Int) (h : HH) : Option (Int × HH) := bX12_togetherOf (nX12_togetherOf_4 100000) x1 h
theorem wX12_togetherOf {g : SG} (hg : GOK g) {σ0 : SG} : ∀ {x1 : Int} {h : HH} {b : (Int × HH)}, nX12_togetherOf x1 h = some b → WK 257 (.inl (some (aI b.1))) σ0 (abH 71 119 g b.2) 0 [(0, aR 71), (1, aI x1)] [] (abH 71 119 g h) 0 0 := by
  intro x1 h b q
  exact uX12_togetherOf hg (fun _ _ _ _ _ q => wX12_togetherOf_4 hg q) q
theorem mX12_togetherOf {g : SG} (hg : GOK g) {h : HH} {x1 : Int} {b : (Int × HH)} (q : nX12_togetherOf x1 h = some b) : MCT 257 [] [aR 71, aI x1] (abH 71 119 g h) (.inl (some (aI b.1))) (abH 71 119 g b.2) :=
  mct_of (by decide) (MFok 257 (by decide +kernel)) (fun _ => Nat.le_of_ble_eq_true rfl) (wX12_togetherOf hg q)
def pX12_togetherOf {β : Type} (z : Int → HH → Option (Int × HH)) : PW β := fun as h f => skC 71 as fun as => skI as fun x1 as => skE as (bnd (z x1 h) fun r => f (.inl (some (aI r.1))) r.2)
theorem pX12_togetherOf_ok {β : Type} {g : SG} (hg : GOK g) : CW1 (β := β) 257 (pX12_togetherOf nX12_togetherOf) 71 119 g := fun as h f b q => by
  obtain ⟨as, rfl, q1⟩ := skC_of q
  obtain ⟨x1, as, rfl, q2⟩ := skI_of q1
  obtain ⟨rfl, q0⟩ := skE_of q2
  obtain ⟨r, z1, z2⟩ := bnd_of q0
  exact ⟨_, _, z2, by decide, mX12_togetherOf hg z1, rfl, rfl, fun z => absurd z (by decide)⟩
def csX12_together : List (Nat × List (Nat × ARow)) := [(41, [(0, 1, .iload_n 1, 0, 0, 0), (1, 1, .iconst 0, 0, 0, 0), (2, 2, .bipush 7, 0, 0, 0), (4, 3, .invokestatic 178, 171, 3, 0), (7, 3, .ifCond .ne 9, 16, 0, 0), (10, 1, .aload_n 0, 0, 0, 0), (11, 1, .iconst 1, 0, 0, 0), (12, 3, .invokevirtual 200, 177, 2, 12), (15, 1, .ireturn, 0, 0, 0), (16, 1, .aload_n 0, 0, 0, 0), (17, 3, .getfield 185, 12, 27, 0), (20, 3, .ifCond .ne 9, 29, 0, 0), (23, 1, .aload_n 0, 0, 0, 0), (24, 1, .iconst 2, 0, 0, 0), (25, 3, .invokevirtual 200, 177, 2, 12), (28, 1, .ireturn, 0, 0, 0), (29, 1, .aload_n 0, 0, 0, 0), (30, 1, .iload_n 1, 0, 0, 0), (31, 3, .invokevirtual 420, 257, 2, 12), (34, 1, .istore_n 2, 0, 0, 0), (35, 1, .iload_n 2, 0, 0, 0), (36, 1, .iconst (-1), 0, 0, 0), (37, 3, .if_icmp .ne 11, 48, 0, 0), (40, 1, .aload_n 0, 0, 0, 0)]),
  (100000, [(41, 1, .iconst 3, 0, 0, 0), (42, 3, .invokevirtual 200, 177, 2, 12), (45, 3, .goto 8, 53, 0, 0), (48, 1, .aload_n 0, 0, 0, 0), (49, 1, .iload_n 2, 0, 0, 0), (50, 3, .invokevirtual 209, 178, 2, 12), (53, 1, .ireturn, 0, 0, 0)])]
theorem rwX12_together : rowsB (mB 258) (mO 258) (mX 258) (mIni 258) (mFr 258) (mLo 258) (mT 258) csX12_together = true := by decide +kernel
def bX12_together (f171 : HH → Int → Int → Int → Option Int) (f257 : Int → HH → Option (Int × HH)) (f178 : Int → HH → Option (Int × HH)) (f177 : Int → HH → Option (Int × HH)) (x1 : Int) (h : HH) : Option (Int × HH) :=
  bnd (f171 h x1 0 7) fun r1 =>
    if r1 = (0 : Int) then
    bnd (f177 1 h) fun r6 =>
    some (r6.1, r6.2)
  else
    if (h.1 71 27) = (0 : Int) then
    bnd (f177 2 h) fun r5 =>
    some (r5.1, r5.2)
  else
    bnd (f257 x1 h) fun r2 =>
    if r2.1 = ((-1) : Int) then
    bnd (f177 3 r2.2) fun r4 =>
    some (r4.1, r4.2)
  else
    bnd (f178 r2.1 r2.2) fun r3 =>
    some (r3.1, r3.2)
set_option maxRecDepth 100000 in
theorem uX12_together {g : SG} (hg : GOK g) {σ0 : SG} : ∀ {x1 : Int} {h : HH} {b : (Int × HH)}, bX12_together nX12_in nX12_togetherOf nX12_told nX12_refuse x1 h = some b → WK 258 (.inl (some (aI b.1))) σ0 (abH 71 119 g b.2) 0 [(0, aR 71), (1, aI x1)] [] (abH 71 119 g h) 0 0 := by
  intro x1 h b q
  have e : ∀ (f171 : HH → Int → Int → Int → Option Int) (f257 : Int → HH → Option (Int × HH)) (f178 : Int → HH → Option (Int × HH)) (f177 : Int → HH → Option (Int × HH)) , bX12_together f171 f257 f178 f177 x1 h = segW 71 119 g.2.2.2.2 krWI (clC 171 (liPW (pX12_in f171)) (clC 257 (pX12_togetherOf f257) (clC 178 (pX12_told f178) (clC 177 (pX12_refuse f177) clN)))) csX12_together cuN 1000 0 [(0, aR 71), (1, aI x1)] [] h := fun _ _ _ _ => rfl
  rw [e nX12_in nX12_togetherOf nX12_told nX12_refuse] at q
  clear e
  refine segW_wk (by decide) (by decide) hg rwX12_together (CLKW_C (liPW_ok (pX12_in_ok hg)) (CLKW_C (pX12_togetherOf_ok hg) (CLKW_C (pX12_told_ok hg) (CLKW_C (pX12_refuse_ok hg) CLKW_N)))) krWI_ok ?_ q
  clear q
  exact ct_N
def nX12_together (x1 : Int) (h : HH) : Option (Int × HH) := bX12_together nX12_in nX12_togetherOf nX12_told nX12_refuse x1 h
theorem wX12_together {g : SG} (hg : GOK g) {σ0 : SG} : ∀ {x1 : Int} {h : HH} {b : (Int × HH)}, nX12_together x1 h = some b → WK 258 (.inl (some (aI b.1))) σ0 (abH 71 119 g b.2) 0 [(0, aR 71), (1, aI x1)] [] (abH 71 119 g h) 0 0 := by
  intro x1 h b q
  exact uX12_together hg q
theorem mX12_together {g : SG} (hg : GOK g) {h : HH} {x1 : Int} {b : (Int × HH)} (q : nX12_together x1 h = some b) : MCT 258 [] [aR 71, aI x1] (abH 71 119 g h) (.inl (some (aI b.1))) (abH 71 119 g b.2) :=
  mct_of (by decide) (MFok 258 (by decide +kernel)) (fun _ => Nat.le_of_ble_eq_true rfl) (wX12_together hg q)
def pX12_together {β : Type} (z : Int → HH → Option (Int × HH)) : PW β := fun as h f => skC 71 as fun as => skI as fun x1 as => skE as (bnd (z x1 h) fun r => f (.inl (some (aI r.1))) r.2)
theorem pX12_together_ok {β : Type} {g : SG} (hg : GOK g) : CW1 (β := β) 258 (pX12_together nX12_together) 71 119 g := fun as h f b q => by
  obtain ⟨as, rfl, q1⟩ := skC_of q
  obtain ⟨x1, as, rfl, q2⟩ := skI_of q1
  obtain ⟨rfl, q0⟩ := skE_of q2
  obtain ⟨r, z1, z2⟩ := bnd_of q0
  exact ⟨_, _, z2, by decide, mX12_together hg z1, rfl, rfl, fun z => absurd z (by decide)⟩
def csX12_reckons : List (Nat × List (Nat × ARow)) := [(39, [(0, 1, .iconst 1, 0, 0, 0), (1, 1, .istore_n 1, 0, 0, 0), (2, 1, .iconst 0, 0, 0, 0), (3, 1, .istore_n 2, 0, 0, 0), (4, 1, .iload_n 2, 0, 0, 0), (5, 2, .bipush 8, 0, 0, 0), (7, 3, .if_icmp .ge 40, 47, 0, 0), (10, 1, .aload_n 0, 0, 0, 0), (11, 3, .getfield 166, 12, 77, 2), (14, 1, .iload_n 2, 0, 0, 0), (15, 1, .aload_n 0, 0, 0, 0), (16, 1, .iload_n 2, 0, 0, 0), (17, 3, .invokevirtual 420, 257, 2, 12), (20, 1, .iastore, 0, 0, 0), (21, 1, .iload_n 1, 0, 0, 0), (22, 3, .ifCond .eq 17, 39, 0, 0), (25, 1, .aload_n 0, 0, 0, 0), (26, 3, .getfield 166, 12, 77, 2), (29, 1, .iload_n 2, 0, 0, 0), (30, 1, .iaload, 0, 0, 0), (31, 1, .iconst (-1), 0, 0, 0), (32, 3, .if_icmp .eq 7, 39, 0, 0), (35, 1, .iconst 1, 0, 0, 0), (36, 3, .goto 4, 40, 0, 0)]),
  (100000, [(39, 1, .iconst 0, 0, 0, 0), (40, 1, .istore_n 1, 0, 0, 0), (41, 3, .iinc 2 1, 0, 0, 0), (44, 3, .goto (-40), 4, 0, 0), (47, 1, .iload_n 1, 0, 0, 0), (48, 1, .ireturn, 1, 0, 0)])]
theorem rwX12_reckons : rowsB (mB 259) (mO 259) (mX 259) (mIni 259) (mFr 259) (mLo 259) (mT 259) csX12_reckons = true := by decide +kernel
def bX12_reckons_40 (c4 : Int → Int → HH → Option (Int × HH)) (x2 : Int) (y0 : Int) (h : HH) : Option (Int × HH) :=
  gd (R32 (x2 + 1)) <|
    c4 y0 (x2 + 1) h
theorem uX12_reckons_40 {g : SG} (hg : GOK g) {σ0 : SG} {c4 : Int → Int → HH → Option (Int × HH)} (k4 : ∀ (x1 : Int) (x2 : Int) (h : HH) (b : (Int × HH)), c4 x1 x2 h = some b → WK 259 (.inl (some (aI b.1))) σ0 (abH 71 119 g b.2) 4 [(0, aR 71), (1, aI x1), (2, aI x2)] [] (abH 71 119 g h) 0 0) : ∀ {x2 : Int} {y0 : Int} {h : HH} {b : (Int × HH)}, bX12_reckons_40 c4 x2 y0 h = some b → WK 259 (.inl (some (aI b.1))) σ0 (abH 71 119 g b.2) 40 [(0, aR 71), (2, aI x2)] [aI y0] (abH 71 119 g h) 0 0 := by
  intro x2 y0 h b q
  have e : bX12_reckons_40 c4 x2 y0 h = segW 71 119 g.2.2.2.2 krWI clN csX12_reckons (cuC 4 (fun l st s => tkC 0 71 l <| tkI 1 l fun x1 => tkI 2 l fun x2 => skE st (c4 x1 x2 s)) cuN) 1000 40 [(0, aR 71), (2, aI x2)] [aI y0] h := rfl
  rw [e] at q
  clear e
  refine segW_wk (by decide) (by decide) hg rwX12_reckons CLKW_N krWI_ok ?_ q
  clear q
  refine ct_C ?_ (ct_N)
  · intro l st h q
    obtain ⟨m0, q1⟩ := tkC_of q
    obtain ⟨x1, m1, q2⟩ := tkI_of q1
    obtain ⟨x2, m2, q3⟩ := tkI_of q2
    obtain ⟨rfl, q4⟩ := skE_of q3
    exact WK_less (k4 _ _ _ _ q4) (List.forall_mem_cons.mpr ⟨m0, (List.forall_mem_cons.mpr ⟨m1, (List.forall_mem_cons.mpr ⟨m2, (fun _ h => absurd h List.not_mem_nil)⟩)⟩)⟩)
def nX12_reckons_40 (c4 : Int → Int → HH → Option (Int × HH)) (x2 : Int) (y0 : Int) (h : HH) : Option (Int × HH) := bX12_reckons_40 c4 x2 y0 h
theorem wX12_reckons_40 {g : SG} (hg : GOK g) {σ0 : SG} {c4 : Int → Int → HH → Option (Int × HH)} (k4 : ∀ (x1 : Int) (x2 : Int) (h : HH) (b : (Int × HH)), c4 x1 x2 h = some b → WK 259 (.inl (some (aI b.1))) σ0 (abH 71 119 g b.2) 4 [(0, aR 71), (1, aI x1), (2, aI x2)] [] (abH 71 119 g h) 0 0) : ∀ {x2 : Int} {y0 : Int} {h : HH} {b : (Int × HH)}, nX12_reckons_40 c4 x2 y0 h = some b → WK 259 (.inl (some (aI b.1))) σ0 (abH 71 119 g b.2) 40 [(0, aR 71), (2, aI x2)] [aI y0] (abH 71 119 g h) 0 0 := by
  intro x2 y0 h b q
  exact uX12_reckons_40 hg k4 q
def bX12_reckons_39 (c40 : Int → Int → HH → Option (Int × HH)) (x2 : Int) (h : HH) : Option (Int × HH) :=
  c40 x2 0 h
theorem uX12_reckons_39 {g : SG} (hg : GOK g) {σ0 : SG} {c40 : Int → Int → HH → Option (Int × HH)} (k40 : ∀ (x2 : Int) (y0 : Int) (h : HH) (b : (Int × HH)), c40 x2 y0 h = some b → WK 259 (.inl (some (aI b.1))) σ0 (abH 71 119 g b.2) 40 [(0, aR 71), (2, aI x2)] [aI y0] (abH 71 119 g h) 0 0) : ∀ {x2 : Int} {h : HH} {b : (Int × HH)}, bX12_reckons_39 c40 x2 h = some b → WK 259 (.inl (some (aI b.1))) σ0 (abH 71 119 g b.2) 39 [(0, aR 71), (2, aI x2)] [] (abH 71 119 g h) 0 0 := by
  intro x2 h b q
  have e : bX12_reckons_39 c40 x2 h = segW 71 119 g.2.2.2.2 krWI clN csX12_reckons (cuC 40 (fun l st s => tkC 0 71 l <| tkI 2 l fun x2 => skI st fun y0 st => skE st (c40 x2 y0 s)) cuN) 1000 39 [(0, aR 71), (2, aI x2)] [] h := rfl
  rw [e] at q
  clear e
  refine segW_wk (by decide) (by decide) hg rwX12_reckons CLKW_N krWI_ok ?_ q
  clear q
  refine ct_C ?_ (ct_N)
  · intro l st h q
    obtain ⟨m0, q1⟩ := tkC_of q
    obtain ⟨x2, m2, q2⟩ := tkI_of q1
    obtain ⟨y0, t0, rfl, q3⟩ := skI_of q2
    obtain ⟨rfl, q4⟩ := skE_of q3
    exact WK_less (k40 _ _ _ _ q4) (List.forall_mem_cons.mpr ⟨m0, (List.forall_mem_cons.mpr ⟨m2, (fun _ h => absurd h List.not_mem_nil)⟩)⟩)
def nX12_reckons_39 (c4 : Int → Int → HH → Option (Int × HH)) (x2 : Int) (h : HH) : Option (Int × HH) := bX12_reckons_39 (nX12_reckons_40 c4) x2 h
theorem wX12_reckons_39 {g : SG} (hg : GOK g) {σ0 : SG} {c4 : Int → Int → HH → Option (Int × HH)} (k4 : ∀ (x1 : Int) (x2 : Int) (h : HH) (b : (Int × HH)), c4 x1 x2 h = some b → WK 259 (.inl (some (aI b.1))) σ0 (abH 71 119 g b.2) 4 [(0, aR 71), (1, aI x1), (2, aI x2)] [] (abH 71 119 g h) 0 0) : ∀ {x2 : Int} {h : HH} {b : (Int × HH)}, nX12_reckons_39 c4 x2 h = some b → WK 259 (.inl (some (aI b.1))) σ0 (abH 71 119 g b.2) 39 [(0, aR 71), (2, aI x2)] [] (abH 71 119 g h) 0 0 := by
  intro x2 h b q
  exact uX12_reckons_39 hg (fun _ _ _ _ q => wX12_reckons_40 hg k4 q) q
def bX12_reckons_4 (f257 : Int → HH → Option (Int × HH)) (c39 : Int → HH → Option (Int × HH)) (c40 : Int → Int → HH → Option (Int × HH)) (x1 : Int) (x2 : Int) (h : HH) : Option (Int × HH) :=
  if x2 < (8 : Int) then
    bnd (f257 x2 h) fun r1 =>
    gd ((0 : Int) ≤ x2 ∧ x2 < (8 : Int)) <|
    bnd (some (hI r1.2 118 x2 r1.1)) fun h2 =>
    if x1 = (0 : Int) then
    c39 x2 h2
  else
    gd ((0 : Int) ≤ x2 ∧ x2 < (8 : Int)) <|
    if (h2.1 118 x2) = ((-1) : Int) then
    c39 x2 h2
  else
    c40 x2 1 h2
  else
    gd ((0 : Int) ≤ x1 ∧ x1 ≤ (1 : Int)) <|
    some (x1, h)
set_option maxRecDepth 100000 in
theorem uX12_reckons_4 {g : SG} (hg : GOK g) {σ0 : SG} {c39 : Int → HH → Option (Int × HH)} {c40 : Int → Int → HH → Option (Int × HH)} (k39 : ∀ (x2 : Int) (h : HH) (b : (Int × HH)), c39 x2 h = some b → WK 259 (.inl (some (aI b.1))) σ0 (abH 71 119 g b.2) 39 [(0, aR 71), (2, aI x2)] [] (abH 71 119 g h) 0 0) (k40 : ∀ (x2 : Int) (y0 : Int) (h : HH) (b : (Int × HH)), c40 x2 y0 h = some b → WK 259 (.inl (some (aI b.1))) σ0 (abH 71 119 g b.2) 40 [(0, aR 71), (2, aI x2)] [aI y0] (abH 71 119 g h) 0 0) : ∀ {x1 : Int} {x2 : Int} {h : HH} {b : (Int × HH)}, bX12_reckons_4 nX12_togetherOf c39 c40 x1 x2 h = some b → WK 259 (.inl (some (aI b.1))) σ0 (abH 71 119 g b.2) 4 [(0, aR 71), (1, aI x1), (2, aI x2)] [] (abH 71 119 g h) 0 0 := by
  intro x1 x2 h b q
  have e : ∀ (f257 : Int → HH → Option (Int × HH)) , bX12_reckons_4 f257 c39 c40 x1 x2 h = segW 71 119 g.2.2.2.2 krWI (clC 257 (pX12_togetherOf f257) clN) csX12_reckons (cuC 39 (fun l st s => tkC 0 71 l <| tkI 2 l fun x2 => skE st (c39 x2 s)) (cuC 40 (fun l st s => tkC 0 71 l <| tkI 2 l fun x2 => skI st fun y0 st => skE st (c40 x2 y0 s)) cuN)) 1000 4 [(0, aR 71), (1, aI x1), (2, aI x2)] [] h := fun _ => rfl
  rw [e nX12_togetherOf] at q
  clear e
  refine segW_wk (by decide) (by decide) hg rwX12_reckons (CLKW_C (pX12_togetherOf_ok hg) CLKW_N) krWI_ok ?_ q
  clear q
  refine ct_C ?_ (ct_C ?_ (ct_N))
  · intro l st h q
    obtain ⟨m0, q1⟩ := tkC_of q
    obtain ⟨x2, m2, q2⟩ := tkI_of q1
    obtain ⟨rfl, q3⟩ := skE_of q2
    exact WK_less (k39 _ _ _ q3) (List.forall_mem_cons.mpr ⟨m0, (List.forall_mem_cons.mpr ⟨m2, (fun _ h => absurd h List.not_mem_nil)⟩)⟩)
  · intro l st h q
    obtain ⟨m0, q1⟩ := tkC_of q
    obtain ⟨x2, m2, q2⟩ := tkI_of q1
    obtain ⟨y0, t0, rfl, q3⟩ := skI_of q2
    obtain ⟨rfl, q4⟩ := skE_of q3
    exact WK_less (k40 _ _ _ _ q4) (List.forall_mem_cons.mpr ⟨m0, (List.forall_mem_cons.mpr ⟨m2, (fun _ h => absurd h List.not_mem_nil)⟩)⟩)
def nX12_reckons_4 : Nat → Int → Int → HH → Option (Int × HH) := iter (fun _ _ _ => none) (fun self => bX12_reckons_4 nX12_togetherOf (nX12_reckons_39 self) (nX12_reckons_40 self))
theorem nX12_reckons_4_s {F : Nat} : nX12_reckons_4 (F + 1) = bX12_reckons_4 nX12_togetherOf (nX12_reckons_39 (nX12_reckons_4 F)) (nX12_reckons_40 (nX12_reckons_4 F)) := rfl
theorem wX12_reckons_4 {g : SG} (hg : GOK g) {σ0 : SG} : ∀ {F : Nat}, ∀ {x1 : Int} {x2 : Int} {h : HH} {b : (Int × HH)}, nX12_reckons_4 F x1 x2 h = some b → WK 259 (.inl (some (aI b.1))) σ0 (abH 71 119 g b.2) 4 [(0, aR 71), (1, aI x1), (2, aI x2)] [] (abH 71 119 g h) 0 0 := by
  intro F
  have z : ∀ (x1 : Int) (x2 : Int) (h : HH) (b : (Int × HH)), nX12_reckons_4 F x1 x2 h = some b → WK 259 (.inl (some (aI b.1))) σ0 (abH 71 119 g b.2) 4 [(0, aR 71), (1, aI x1), (2, aI x2)] [] (abH 71 119 g h) 0 0 := iter_ind (P := fun (c : Int → Int → HH → Option (Int × HH)) => ∀ (x1 : Int) (x2 : Int) (h : HH) (b : (Int × HH)), c x1 x2 h = some b → WK 259 (.inl (some (aI b.1))) σ0 (abH 71 119 g b.2) 4 [(0, aR 71), (1, aI x1), (2, aI x2)] [] (abH 71 119 g h) 0 0) (by
    intro x1 x2 h b q
    cases q) (fun self ih => by
    intro x1 x2 h b q
    exact uX12_reckons_4 hg (fun _ _ _ q => wX12_reckons_39 hg ih q) (fun _ _ _ _ q => wX12_reckons_40 hg ih q) q) F
  intro x1 x2 h b q
  exact z _ _ _ _ q
def bX12_reckons (c4 : Int → Int → HH → Option (Int × HH)) (h : HH) : Option (Int × HH) :=
  c4 1 0 h
theorem uX12_reckons {g : SG} (hg : GOK g) {σ0 : SG} {c4 : Int → Int → HH → Option (Int × HH)} (k4 : ∀ (x1 : Int) (x2 : Int) (h : HH) (b : (Int × HH)), c4 x1 x2 h = some b → WK 259 (.inl (some (aI b.1))) σ0 (abH 71 119 g b.2) 4 [(0, aR 71), (1, aI x1), (2, aI x2)] [] (abH 71 119 g h) 0 0) : ∀ {h : HH} {b : (Int × HH)}, bX12_reckons c4 h = some b → WK 259 (.inl (some (aI b.1))) σ0 (abH 71 119 g b.2) 0 [(0, aR 71)] [] (abH 71 119 g h) 0 0 := by
  intro h b q
  have e : bX12_reckons c4 h = segW 71 119 g.2.2.2.2 krWI clN csX12_reckons (cuC 4 (fun l st s => tkC 0 71 l <| tkI 1 l fun x1 => tkI 2 l fun x2 => skE st (c4 x1 x2 s)) cuN) 1000 0 [(0, aR 71)] [] h := rfl
  rw [e] at q
  clear e
  refine segW_wk (by decide) (by decide) hg rwX12_reckons CLKW_N krWI_ok ?_ q
  clear q
  refine ct_C ?_ (ct_N)
  · intro l st h q
    obtain ⟨m0, q1⟩ := tkC_of q
    obtain ⟨x1, m1, q2⟩ := tkI_of q1
    obtain ⟨x2, m2, q3⟩ := tkI_of q2
    obtain ⟨rfl, q4⟩ := skE_of q3
    exact WK_less (k4 _ _ _ _ q4) (List.forall_mem_cons.mpr ⟨m0, (List.forall_mem_cons.mpr ⟨m1, (List.forall_mem_cons.mpr ⟨m2, (fun _ h => absurd h List.not_mem_nil)⟩)⟩)⟩)
def nX12_reckons (h : HH) : Option (Int × HH) := bX12_reckons (nX12_reckons_4 100000) h
theorem wX12_reckons {g : SG} (hg : GOK g) {σ0 : SG} : ∀ {h : HH} {b : (Int × HH)}, nX12_reckons h = some b → WK 259 (.inl (some (aI b.1))) σ0 (abH 71 119 g b.2) 0 [(0, aR 71)] [] (abH 71 119 g h) 0 0 := by
  intro h b q
  exact uX12_reckons hg (fun _ _ _ _ q => wX12_reckons_4 hg q) q
theorem mX12_reckons {g : SG} (hg : GOK g) {h : HH} {b : (Int × HH)} (q : nX12_reckons h = some b) : MCT 259 [] [aR 71] (abH 71 119 g h) (.inl (some (aI b.1))) (abH 71 119 g b.2) :=
  mct_of (by decide) (MFok 259 (by decide +kernel)) (fun _ => Nat.le_of_ble_eq_true rfl) (wX12_reckons hg q)
def pX12_reckons {β : Type} (z : HH → Option (Int × HH)) : PW β := fun as h f => skC 71 as fun as => skE as (bnd (z h) fun r => f (.inl (some (aI r.1))) r.2)
theorem pX12_reckons_ok {β : Type} {g : SG} (hg : GOK g) : CW1 (β := β) 259 (pX12_reckons nX12_reckons) 71 119 g := fun as h f b q => by
  obtain ⟨as, rfl, q1⟩ := skC_of q
  obtain ⟨rfl, q0⟩ := skE_of q1
  obtain ⟨r, z1, z2⟩ := bnd_of q0
  exact ⟨_, _, z2, by decide, mX12_reckons hg z1, rfl, rfl, fun z => absurd z (by decide)⟩
def csX12_shareOf : List (Nat × List (Nat × ARow)) := [(36, [(0, 1, .iconst 0, 0, 0, 0), (1, 1, .istore_n 2, 0, 0, 0), (2, 1, .iconst 0, 0, 0, 0), (3, 1, .istore_n 3, 0, 0, 0), (4, 1, .iload_n 3, 0, 0, 0), (5, 2, .bipush 9, 0, 0, 0), (7, 3, .if_icmp .ge 116, 123, 0, 0), (10, 1, .iload_n 3, 0, 0, 0), (11, 1, .iconst 3, 0, 0, 0), (12, 1, .idiv, 0, 0, 0), (13, 2, .istore 4, 0, 0, 0), (15, 1, .iload_n 3, 0, 0, 0), (16, 1, .iconst 3, 0, 0, 0), (17, 1, .irem, 0, 0, 0), (18, 2, .istore 5, 0, 0, 0), (20, 1, .iconst 3, 0, 0, 0), (21, 2, .iload 4, 0, 0, 0), (23, 1, .isub, 0, 0, 0), (24, 2, .iload 5, 0, 0, 0), (26, 1, .isub, 0, 0, 0), (27, 2, .istore 6, 0, 0, 0), (29, 2, .iload 4, 0, 0, 0), (31, 2, .iload 5, 0, 0, 0), (33, 3, .if_icmp .ne 6, 39, 0, 0)]),
  (77, [(36, 3, .goto 81, 117, 0, 0), (39, 1, .iload_n 1, 0, 0, 0), (40, 2, .iload 4, 0, 0, 0), (42, 3, .if_icmp .ne 7, 49, 0, 0), (45, 1, .iconst 0, 0, 0, 0), (46, 3, .goto 25, 71, 0, 0), (49, 1, .iload_n 1, 0, 0, 0), (50, 2, .iload 5, 0, 0, 0), (52, 3, .if_icmp .ne 10, 62, 0, 0), (55, 1, .iconst 1, 0, 0, 0), (56, 2, .iload 4, 0, 0, 0), (58, 1, .ishl, 0, 0, 0), (59, 3, .goto 12, 71, 0, 0), (62, 1, .iconst 1, 0, 0, 0), (63, 2, .iload 4, 0, 0, 0), (65, 1, .ishl, 0, 0, 0), (66, 1, .iconst 1, 0, 0, 0), (67, 2, .iload 5, 0, 0, 0), (69, 1, .ishl, 0, 0, 0), (70, 1, .ior, 0, 0, 0), (71, 2, .istore 7, 0, 0, 0), (73, 1, .iload_n 2, 0, 0, 0), (74, 1, .iload_n 1, 0, 0, 0), (75, 2, .iload 4, 0, 0, 0)]),
  (117, [(77, 3, .if_icmp .eq 15, 92, 0, 0), (80, 1, .iload_n 1, 0, 0, 0), (81, 2, .iload 5, 0, 0, 0), (83, 3, .if_icmp .eq 9, 92, 0, 0), (86, 1, .iload_n 1, 0, 0, 0), (87, 2, .iload 6, 0, 0, 0), (89, 3, .if_icmp .ne 25, 114, 0, 0), (92, 1, .aload_n 0, 0, 0, 0), (93, 3, .getfield 166, 12, 77, 2), (96, 2, .iload 7, 0, 0, 0), (98, 1, .iconst 1, 0, 0, 0), (99, 1, .iload_n 1, 0, 0, 0), (100, 1, .ishl, 0, 0, 0), (101, 1, .ior, 0, 0, 0), (102, 1, .iaload, 0, 0, 0), (103, 1, .aload_n 0, 0, 0, 0), (104, 3, .getfield 166, 12, 77, 2), (107, 2, .iload 7, 0, 0, 0), (109, 1, .iaload, 0, 0, 0), (110, 1, .isub, 0, 0, 0), (111, 3, .goto 4, 115, 0, 0), (114, 1, .iconst 0, 0, 0, 0), (115, 1, .iadd, 0, 0, 0), (116, 1, .istore_n 2, 0, 0, 0)]),
  (100000, [(117, 3, .iinc 3 1, 0, 0, 0), (120, 3, .goto (-116), 4, 0, 0), (123, 1, .iload_n 2, 0, 0, 0), (124, 1, .ireturn, 0, 0, 0)])]
theorem rwX12_shareOf : rowsB (mB 260) (mO 260) (mX 260) (mIni 260) (mFr 260) (mLo 260) (mT 260) csX12_shareOf = true := by decide +kernel
def bX12_shareOf_117 (h : HH) (c4 : Int → Int → Int → Option Int) (x1 : Int) (x2 : Int) (x3 : Int) : Option Int :=
  gd (R32 (x3 + 1)) <|
    c4 x1 x2 (x3 + 1)
theorem uX12_shareOf_117 {g : SG} (hg : GOK g) {σ0 : SG} {h : HH} {c4 : Int → Int → Int → Option Int} (k4 : ∀ (x1 : Int) (x2 : Int) (x3 : Int) (b : Int), c4 x1 x2 x3 = some b → WK 260 (.inl (some (aI b))) σ0 (abH 71 119 g h) 4 [(0, aR 71), (1, aI x1), (2, aI x2), (3, aI x3)] [] (abH 71 119 g h) 0 0) : ∀ {x1 : Int} {x2 : Int} {x3 : Int} {b : Int}, bX12_shareOf_117 h c4 x1 x2 x3 = some b → WK 260 (.inl (some (aI b))) σ0 (abH 71 119 g h) 117 [(0, aR 71), (1, aI x1), (2, aI x2), (3, aI x3)] [] (abH 71 119 g h) 0 0 := by
  intro x1 x2 x3 b q
  have e : bX12_shareOf_117 h c4 x1 x2 x3 = segP 71 119 g.2.2.2.2 h krPI clNP csX12_shareOf (cuC 4 (fun l st s => tkC 0 71 l <| tkI 1 l fun x1 => tkI 2 l fun x2 => tkI 3 l fun x3 => skE st (c4 x1 x2 x3)) cuN) 1000 117 [(0, aR 71), (1, aI x1), (2, aI x2), (3, aI x3)] [] := rfl
  rw [e] at q
  clear e
  refine segP_wk (by decide) (by decide) hg rwX12_shareOf CLKP_N krPI_ok ?_ q
  clear q
  refine ct_C ?_ (ct_N)
  · intro l st _ q
    obtain ⟨m0, q1⟩ := tkC_of q
    obtain ⟨x1, m1, q2⟩ := tkI_of q1
    obtain ⟨x2, m2, q3⟩ := tkI_of q2
    obtain ⟨x3, m3, q4⟩ := tkI_of q3
    obtain ⟨rfl, q5⟩ := skE_of q4
    exact WK_less (k4 _ _ _ _ q5) (List.forall_mem_cons.mpr ⟨m0, (List.forall_mem_cons.mpr ⟨m1, (List.forall_mem_cons.mpr ⟨m2, (List.forall_mem_cons.mpr ⟨m3, (fun _ h => absurd h List.not_mem_nil)⟩)⟩)⟩)⟩)
def nX12_shareOf_117 (h : HH) (c4 : Int → Int → Int → Option Int) (x1 : Int) (x2 : Int) (x3 : Int) : Option Int := bX12_shareOf_117 h c4 x1 x2 x3
theorem wX12_shareOf_117 {g : SG} (hg : GOK g) {σ0 : SG} {h : HH} {c4 : Int → Int → Int → Option Int} (k4 : ∀ (x1 : Int) (x2 : Int) (x3 : Int) (b : Int), c4 x1 x2 x3 = some b → WK 260 (.inl (some (aI b))) σ0 (abH 71 119 g h) 4 [(0, aR 71), (1, aI x1), (2, aI x2), (3, aI x3)] [] (abH 71 119 g h) 0 0) : ∀ {x1 : Int} {x2 : Int} {x3 : Int} {b : Int}, nX12_shareOf_117 h c4 x1 x2 x3 = some b → WK 260 (.inl (some (aI b))) σ0 (abH 71 119 g h) 117 [(0, aR 71), (1, aI x1), (2, aI x2), (3, aI x3)] [] (abH 71 119 g h) 0 0 := by
  intro x1 x2 x3 b q
  exact uX12_shareOf_117 hg k4 q
def bX12_shareOf_115 (h : HH) (c117 : Int → Int → Int → Option Int) (x1 : Int) (x3 : Int) (y0 : Int) (y1 : Int) : Option Int :=
  gd (R32 (y1 + y0)) <|
    c117 x1 (y1 + y0) x3
theorem uX12_shareOf_115 {g : SG} (hg : GOK g) {σ0 : SG} {h : HH} {c117 : Int → Int → Int → Option Int} (k117 : ∀ (x1 : Int) (x2 : Int) (x3 : Int) (b : Int), c117 x1 x2 x3 = some b → WK 260 (.inl (some (aI b))) σ0 (abH 71 119 g h) 117 [(0, aR 71), (1, aI x1), (2, aI x2), (3, aI x3)] [] (abH 71 119 g h) 0 0) : ∀ {x1 : Int} {x3 : Int} {y0 : Int} {y1 : Int} {b : Int}, bX12_shareOf_115 h c117 x1 x3 y0 y1 = some b → WK 260 (.inl (some (aI b))) σ0 (abH 71 119 g h) 115 [(0, aR 71), (1, aI x1), (3, aI x3)] [aI y0, aI y1] (abH 71 119 g h) 0 0 := by
  intro x1 x3 y0 y1 b q
  have e : bX12_shareOf_115 h c117 x1 x3 y0 y1 = segP 71 119 g.2.2.2.2 h krPI clNP csX12_shareOf (cuC 117 (fun l st s => tkC 0 71 l <| tkI 1 l fun x1 => tkI 2 l fun x2 => tkI 3 l fun x3 => skE st (c117 x1 x2 x3)) cuN) 1000 115 [(0, aR 71), (1, aI x1), (3, aI x3)] [aI y0, aI y1] := rfl
  rw [e] at q
  clear e
  refine segP_wk (by decide) (by decide) hg rwX12_shareOf CLKP_N krPI_ok ?_ q
  clear q
  refine ct_C ?_ (ct_N)
  · intro l st _ q
    obtain ⟨m0, q1⟩ := tkC_of q
    obtain ⟨x1, m1, q2⟩ := tkI_of q1
    obtain ⟨x2, m2, q3⟩ := tkI_of q2
    obtain ⟨x3, m3, q4⟩ := tkI_of q3
    obtain ⟨rfl, q5⟩ := skE_of q4
    exact WK_less (k117 _ _ _ _ q5) (List.forall_mem_cons.mpr ⟨m0, (List.forall_mem_cons.mpr ⟨m1, (List.forall_mem_cons.mpr ⟨m2, (List.forall_mem_cons.mpr ⟨m3, (fun _ h => absurd h List.not_mem_nil)⟩)⟩)⟩)⟩)
def nX12_shareOf_115 (h : HH) (c4 : Int → Int → Int → Option Int) (x1 : Int) (x3 : Int) (y0 : Int) (y1 : Int) : Option Int := bX12_shareOf_115 h (nX12_shareOf_117 h c4) x1 x3 y0 y1
theorem wX12_shareOf_115 {g : SG} (hg : GOK g) {σ0 : SG} {h : HH} {c4 : Int → Int → Int → Option Int} (k4 : ∀ (x1 : Int) (x2 : Int) (x3 : Int) (b : Int), c4 x1 x2 x3 = some b → WK 260 (.inl (some (aI b))) σ0 (abH 71 119 g h) 4 [(0, aR 71), (1, aI x1), (2, aI x2), (3, aI x3)] [] (abH 71 119 g h) 0 0) : ∀ {x1 : Int} {x3 : Int} {y0 : Int} {y1 : Int} {b : Int}, nX12_shareOf_115 h c4 x1 x3 y0 y1 = some b → WK 260 (.inl (some (aI b))) σ0 (abH 71 119 g h) 115 [(0, aR 71), (1, aI x1), (3, aI x3)] [aI y0, aI y1] (abH 71 119 g h) 0 0 := by
  intro x1 x3 y0 y1 b q
  exact uX12_shareOf_115 hg (fun _ _ _ _ q => wX12_shareOf_117 hg k4 q) q
def bX12_shareOf_92 (h : HH) (c115 : Int → Int → Int → Int → Option Int) (x1 : Int) (x3 : Int) (x7 : Int) (y0 : Int) : Option Int :=
  gd ((0 : Int) ≤ (orI x7 (shlI 1 x1)) ∧ (orI x7 (shlI 1 x1)) < (8 : Int)) <|
    gd ((0 : Int) ≤ x7 ∧ x7 < (8 : Int)) <|
    gd (R32 ((h.1 118 (orI x7 (shlI 1 x1))) - (h.1 118 x7))) <|
    c115 x1 x3 ((h.1 118 (orI x7 (shlI 1 x1))) - (h.1 118 x7)) y0
theorem uX12_shareOf_92 {g : SG} (hg : GOK g) {σ0 : SG} {h : HH} {c115 : Int → Int → Int → Int → Option Int} (k115 : ∀ (x1 : Int) (x3 : Int) (y0 : Int) (y1 : Int) (b : Int), c115 x1 x3 y0 y1 = some b → WK 260 (.inl (some (aI b))) σ0 (abH 71 119 g h) 115 [(0, aR 71), (1, aI x1), (3, aI x3)] [aI y0, aI y1] (abH 71 119 g h) 0 0) : ∀ {x1 : Int} {x3 : Int} {x7 : Int} {y0 : Int} {b : Int}, bX12_shareOf_92 h c115 x1 x3 x7 y0 = some b → WK 260 (.inl (some (aI b))) σ0 (abH 71 119 g h) 92 [(0, aR 71), (1, aI x1), (3, aI x3), (7, aI x7)] [aI y0] (abH 71 119 g h) 0 0 := by
  intro x1 x3 x7 y0 b q
  have e : bX12_shareOf_92 h c115 x1 x3 x7 y0 = segP 71 119 g.2.2.2.2 h krPI clNP csX12_shareOf (cuC 115 (fun l st s => tkC 0 71 l <| tkI 1 l fun x1 => tkI 3 l fun x3 => skI st fun y0 st => skI st fun y1 st => skE st (c115 x1 x3 y0 y1)) cuN) 1000 92 [(0, aR 71), (1, aI x1), (3, aI x3), (7, aI x7)] [aI y0] := rfl
  rw [e] at q
  clear e
  refine segP_wk (by decide) (by decide) hg rwX12_shareOf CLKP_N krPI_ok ?_ q
  clear q
  refine ct_C ?_ (ct_N)
  · intro l st _ q
    obtain ⟨m0, q1⟩ := tkC_of q
    obtain ⟨x1, m1, q2⟩ := tkI_of q1
    obtain ⟨x3, m3, q3⟩ := tkI_of q2
    obtain ⟨y0, t0, rfl, q4⟩ := skI_of q3
    obtain ⟨y1, t1, rfl, q5⟩ := skI_of q4
    obtain ⟨rfl, q6⟩ := skE_of q5
    exact WK_less (k115 _ _ _ _ _ q6) (List.forall_mem_cons.mpr ⟨m0, (List.forall_mem_cons.mpr ⟨m1, (List.forall_mem_cons.mpr ⟨m3, (fun _ h => absurd h List.not_mem_nil)⟩)⟩)⟩)
def nX12_shareOf_92 (h : HH) (c4 : Int → Int → Int → Option Int) (x1 : Int) (x3 : Int) (x7 : Int) (y0 : Int) : Option Int := bX12_shareOf_92 h (nX12_shareOf_115 h c4) x1 x3 x7 y0
theorem wX12_shareOf_92 {g : SG} (hg : GOK g) {σ0 : SG} {h : HH} {c4 : Int → Int → Int → Option Int} (k4 : ∀ (x1 : Int) (x2 : Int) (x3 : Int) (b : Int), c4 x1 x2 x3 = some b → WK 260 (.inl (some (aI b))) σ0 (abH 71 119 g h) 4 [(0, aR 71), (1, aI x1), (2, aI x2), (3, aI x3)] [] (abH 71 119 g h) 0 0) : ∀ {x1 : Int} {x3 : Int} {x7 : Int} {y0 : Int} {b : Int}, nX12_shareOf_92 h c4 x1 x3 x7 y0 = some b → WK 260 (.inl (some (aI b))) σ0 (abH 71 119 g h) 92 [(0, aR 71), (1, aI x1), (3, aI x3), (7, aI x7)] [aI y0] (abH 71 119 g h) 0 0 := by
  intro x1 x3 x7 y0 b q
  exact uX12_shareOf_92 hg (fun _ _ _ _ _ q => wX12_shareOf_115 hg k4 q) q
def bX12_shareOf_71 (h : HH) (c92 : Int → Int → Int → Int → Option Int) (c115 : Int → Int → Int → Int → Option Int) (x1 : Int) (x2 : Int) (x3 : Int) (x4 : Int) (x5 : Int) (x6 : Int) (y0 : Int) : Option Int :=
  if x1 = (x4 : Int) then
    c92 x1 x3 y0 x2
  else
    if x1 = (x5 : Int) then
    c92 x1 x3 y0 x2
  else
    if x1 = (x6 : Int) then
    c92 x1 x3 y0 x2
  else
    c115 x1 x3 0 x2
theorem uX12_shareOf_71 {g : SG} (hg : GOK g) {σ0 : SG} {h : HH} {c92 : Int → Int → Int → Int → Option Int} {c115 : Int → Int → Int → Int → Option Int} (k92 : ∀ (x1 : Int) (x3 : Int) (x7 : Int) (y0 : Int) (b : Int), c92 x1 x3 x7 y0 = some b → WK 260 (.inl (some (aI b))) σ0 (abH 71 119 g h) 92 [(0, aR 71), (1, aI x1), (3, aI x3), (7, aI x7)] [aI y0] (abH 71 119 g h) 0 0) (k115 : ∀ (x1 : Int) (x3 : Int) (y0 : Int) (y1 : Int) (b : Int), c115 x1 x3 y0 y1 = some b → WK 260 (.inl (some (aI b))) σ0 (abH 71 119 g h) 115 [(0, aR 71), (1, aI x1), (3, aI x3)] [aI y0, aI y1] (abH 71 119 g h) 0 0) : ∀ {x1 : Int} {x2 : Int} {x3 : Int} {x4 : Int} {x5 : Int} {x6 : Int} {y0 : Int} {b : Int}, bX12_shareOf_71 h c92 c115 x1 x2 x3 x4 x5 x6 y0 = some b → WK 260 (.inl (some (aI b))) σ0 (abH 71 119 g h) 71 [(0, aR 71), (1, aI x1), (2, aI x2), (3, aI x3), (4, aI x4), (5, aI x5), (6, aI x6)] [aI y0] (abH 71 119 g h) 0 0 := by
  intro x1 x2 x3 x4 x5 x6 y0 b q
  have e : bX12_shareOf_71 h c92 c115 x1 x2 x3 x4 x5 x6 y0 = segP 71 119 g.2.2.2.2 h krPI clNP csX12_shareOf (cuC 92 (fun l st s => tkC 0 71 l <| tkI 1 l fun x1 => tkI 3 l fun x3 => tkI 7 l fun x7 => skI st fun y0 st => skE st (c92 x1 x3 x7 y0)) (cuC 115 (fun l st s => tkC 0 71 l <| tkI 1 l fun x1 => tkI 3 l fun x3 => skI st fun y0 st => skI st fun y1 st => skE st (c115 x1 x3 y0 y1)) cuN)) 1000 71 [(0, aR 71), (1, aI x1), (2, aI x2), (3, aI x3), (4, aI x4), (5, aI x5), (6, aI x6)] [aI y0] := rfl
  rw [e] at q
  clear e
  refine segP_wk (by decide) (by decide) hg rwX12_shareOf CLKP_N krPI_ok ?_ q
  clear q
  refine ct_C ?_ (ct_C ?_ (ct_N))
  · intro l st _ q
    obtain ⟨m0, q1⟩ := tkC_of q
    obtain ⟨x1, m1, q2⟩ := tkI_of q1
    obtain ⟨x3, m3, q3⟩ := tkI_of q2
    obtain ⟨x7, m7, q4⟩ := tkI_of q3
    obtain ⟨y0, t0, rfl, q5⟩ := skI_of q4
    obtain ⟨rfl, q6⟩ := skE_of q5
    exact WK_less (k92 _ _ _ _ _ q6) (List.forall_mem_cons.mpr ⟨m0, (List.forall_mem_cons.mpr ⟨m1, (List.forall_mem_cons.mpr ⟨m3, (List.forall_mem_cons.mpr ⟨m7, (fun _ h => absurd h List.not_mem_nil)⟩)⟩)⟩)⟩)
  · intro l st _ q
    obtain ⟨m0, q1⟩ := tkC_of q
    obtain ⟨x1, m1, q2⟩ := tkI_of q1
    obtain ⟨x3, m3, q3⟩ := tkI_of q2
    obtain ⟨y0, t0, rfl, q4⟩ := skI_of q3
    obtain ⟨y1, t1, rfl, q5⟩ := skI_of q4
    obtain ⟨rfl, q6⟩ := skE_of q5
    exact WK_less (k115 _ _ _ _ _ q6) (List.forall_mem_cons.mpr ⟨m0, (List.forall_mem_cons.mpr ⟨m1, (List.forall_mem_cons.mpr ⟨m3, (fun _ h => absurd h List.not_mem_nil)⟩)⟩)⟩)
def nX12_shareOf_71 (h : HH) (c4 : Int → Int → Int → Option Int) (x1 : Int) (x2 : Int) (x3 : Int) (x4 : Int) (x5 : Int) (x6 : Int) (y0 : Int) : Option Int := bX12_shareOf_71 h (nX12_shareOf_92 h c4) (nX12_shareOf_115 h c4) x1 x2 x3 x4 x5 x6 y0
theorem wX12_shareOf_71 {g : SG} (hg : GOK g) {σ0 : SG} {h : HH} {c4 : Int → Int → Int → Option Int} (k4 : ∀ (x1 : Int) (x2 : Int) (x3 : Int) (b : Int), c4 x1 x2 x3 = some b → WK 260 (.inl (some (aI b))) σ0 (abH 71 119 g h) 4 [(0, aR 71), (1, aI x1), (2, aI x2), (3, aI x3)] [] (abH 71 119 g h) 0 0) : ∀ {x1 : Int} {x2 : Int} {x3 : Int} {x4 : Int} {x5 : Int} {x6 : Int} {y0 : Int} {b : Int}, nX12_shareOf_71 h c4 x1 x2 x3 x4 x5 x6 y0 = some b → WK 260 (.inl (some (aI b))) σ0 (abH 71 119 g h) 71 [(0, aR 71), (1, aI x1), (2, aI x2), (3, aI x3), (4, aI x4), (5, aI x5), (6, aI x6)] [aI y0] (abH 71 119 g h) 0 0 := by
  intro x1 x2 x3 x4 x5 x6 y0 b q
  exact uX12_shareOf_71 hg (fun _ _ _ _ _ q => wX12_shareOf_92 hg k4 q) (fun _ _ _ _ _ q => wX12_shareOf_115 hg k4 q) q
def bX12_shareOf_4 (h : HH) (c71 : Int → Int → Int → Int → Int → Int → Int → Option Int) (c117 : Int → Int → Int → Option Int) (x1 : Int) (x2 : Int) (x3 : Int) : Option Int :=
  if x3 < (9 : Int) then
    gd ((0 : Int) ≤ x3 ∧ (0 : Int) < 3) <|
    gd ((0 : Int) ≤ x3 ∧ (0 : Int) < 3) <|
    gd (R32 (3 - (x3 / 3))) <|
    gd (R32 ((3 - (x3 / 3)) - (x3 % 3))) <|
    if (x3 / 3) = ((x3 % 3) : Int) then
    c117 x1 x2 x3
  else
    if x1 = ((x3 / 3) : Int) then
    c71 x1 x2 x3 (x3 / 3) (x3 % 3) ((3 - (x3 / 3)) - (x3 % 3)) 0
  else
    if x1 = ((x3 % 3) : Int) then
    c71 x1 x2 x3 (x3 / 3) (x3 % 3) ((3 - (x3 / 3)) - (x3 % 3)) (shlI 1 (x3 / 3))
  else
    c71 x1 x2 x3 (x3 / 3) (x3 % 3) ((3 - (x3 / 3)) - (x3 % 3)) (orI (shlI 1 (x3 / 3)) (shlI 1 (x3 % 3)))
  else
    some x2
set_option maxRecDepth 100000 in
theorem uX12_shareOf_4 {g : SG} (hg : GOK g) {σ0 : SG} {h : HH} {c71 : Int → Int → Int → Int → Int → Int → Int → Option Int} {c117 : Int → Int → Int → Option Int} (k71 : ∀ (x1 : Int) (x2 : Int) (x3 : Int) (x4 : Int) (x5 : Int) (x6 : Int) (y0 : Int) (b : Int), c71 x1 x2 x3 x4 x5 x6 y0 = some b → WK 260 (.inl (some (aI b))) σ0 (abH 71 119 g h) 71 [(0, aR 71), (1, aI x1), (2, aI x2), (3, aI x3), (4, aI x4), (5, aI x5), (6, aI x6)] [aI y0] (abH 71 119 g h) 0 0) (k117 : ∀ (x1 : Int) (x2 : Int) (x3 : Int) (b : Int), c117 x1 x2 x3 = some b → WK 260 (.inl (some (aI b))) σ0 (abH 71 119 g h) 117 [(0, aR 71), (1, aI x1), (2, aI x2), (3, aI x3)] [] (abH 71 119 g h) 0 0) : ∀ {x1 : Int} {x2 : Int} {x3 : Int} {b : Int}, bX12_shareOf_4 h c71 c117 x1 x2 x3 = some b → WK 260 (.inl (some (aI b))) σ0 (abH 71 119 g h) 4 [(0, aR 71), (1, aI x1), (2, aI x2), (3, aI x3)] [] (abH 71 119 g h) 0 0 := by
  intro x1 x2 x3 b q
  have e : bX12_shareOf_4 h c71 c117 x1 x2 x3 = segP 71 119 g.2.2.2.2 h krPI clNP csX12_shareOf (cuC 71 (fun l st s => tkC 0 71 l <| tkI 1 l fun x1 => tkI 2 l fun x2 => tkI 3 l fun x3 => tkI 4 l fun x4 => tkI 5 l fun x5 => tkI 6 l fun x6 => skI st fun y0 st => skE st (c71 x1 x2 x3 x4 x5 x6 y0)) (cuC 117 (fun l st s => tkC 0 71 l <| tkI 1 l fun x1 => tkI 2 l fun x2 => tkI 3 l fun x3 => skE st (c117 x1 x2 x3)) cuN)) 1000 4 [(0, aR 71), (1, aI x1), (2, aI x2), (3, aI x3)] [] := rfl
  rw [e] at q
  clear e
  refine segP_wk (by decide) (by decide) hg rwX12_shareOf CLKP_N krPI_ok ?_ q
  clear q
  refine ct_C ?_ (ct_C ?_ (ct_N))
  · intro l st _ q
    obtain ⟨m0, q1⟩ := tkC_of q
    obtain ⟨x1, m1, q2⟩ := tkI_of q1
    obtain ⟨x2, m2, q3⟩ := tkI_of q2
    obtain ⟨x3, m3, q4⟩ := tkI_of q3
    obtain ⟨x4, m4, q5⟩ := tkI_of q4
    obtain ⟨x5, m5, q6⟩ := tkI_of q5
    obtain ⟨x6, m6, q7⟩ := tkI_of q6
    obtain ⟨y0, t0, rfl, q8⟩ := skI_of q7
    obtain ⟨rfl, q9⟩ := skE_of q8
    exact WK_less (k71 _ _ _ _ _ _ _ _ q9) (List.forall_mem_cons.mpr ⟨m0, (List.forall_mem_cons.mpr ⟨m1, (List.forall_mem_cons.mpr ⟨m2, (List.forall_mem_cons.mpr ⟨m3, (List.forall_mem_cons.mpr ⟨m4, (List.forall_mem_cons.mpr ⟨m5, (List.forall_mem_cons.mpr ⟨m6, (fun _ h => absurd h List.not_mem_nil)⟩)⟩)⟩)⟩)⟩)⟩)⟩)
  · intro l st _ q
    obtain ⟨m0, q1⟩ := tkC_of q
    obtain ⟨x1, m1, q2⟩ := tkI_of q1
    obtain ⟨x2, m2, q3⟩ := tkI_of q2
    obtain ⟨x3, m3, q4⟩ := tkI_of q3
    obtain ⟨rfl, q5⟩ := skE_of q4
    exact WK_less (k117 _ _ _ _ q5) (List.forall_mem_cons.mpr ⟨m0, (List.forall_mem_cons.mpr ⟨m1, (List.forall_mem_cons.mpr ⟨m2, (List.forall_mem_cons.mpr ⟨m3, (fun _ h => absurd h List.not_mem_nil)⟩)⟩)⟩)⟩)
def nX12_shareOf_4 (h : HH) : Nat → Int → Int → Int → Option Int := iter (fun _ _ _ => none) (fun self => bX12_shareOf_4 h (nX12_shareOf_71 h self) (nX12_shareOf_117 h self))
theorem nX12_shareOf_4_s {h : HH} {F : Nat} : nX12_shareOf_4 h (F + 1) = bX12_shareOf_4 h (nX12_shareOf_71 h (nX12_shareOf_4 h F)) (nX12_shareOf_117 h (nX12_shareOf_4 h F)) := rfl
theorem wX12_shareOf_4 {g : SG} (hg : GOK g) {σ0 : SG} {h : HH} : ∀ {F : Nat}, ∀ {x1 : Int} {x2 : Int} {x3 : Int} {b : Int}, nX12_shareOf_4 h F x1 x2 x3 = some b → WK 260 (.inl (some (aI b))) σ0 (abH 71 119 g h) 4 [(0, aR 71), (1, aI x1), (2, aI x2), (3, aI x3)] [] (abH 71 119 g h) 0 0 := by
  intro F
  have z : ∀ (x1 : Int) (x2 : Int) (x3 : Int) (b : Int), nX12_shareOf_4 h F x1 x2 x3 = some b → WK 260 (.inl (some (aI b))) σ0 (abH 71 119 g h) 4 [(0, aR 71), (1, aI x1), (2, aI x2), (3, aI x3)] [] (abH 71 119 g h) 0 0 := iter_ind (P := fun (c : Int → Int → Int → Option Int) => ∀ (x1 : Int) (x2 : Int) (x3 : Int) (b : Int), c x1 x2 x3 = some b → WK 260 (.inl (some (aI b))) σ0 (abH 71 119 g h) 4 [(0, aR 71), (1, aI x1), (2, aI x2), (3, aI x3)] [] (abH 71 119 g h) 0 0) (by
    intro x1 x2 x3 b q
    cases q) (fun self ih => by
    intro x1 x2 x3 b q
    exact uX12_shareOf_4 hg (fun _ _ _ _ _ _ _ _ q => wX12_shareOf_71 hg ih q) (fun _ _ _ _ q => wX12_shareOf_117 hg ih q) q) F
  intro x1 x2 x3 b q
  exact z _ _ _ _ q
def bX12_shareOf (h : HH) (c4 : Int → Int → Int → Option Int) (x1 : Int) : Option Int :=
  c4 x1 0 0
theorem uX12_shareOf {g : SG} (hg : GOK g) {σ0 : SG} {h : HH} {c4 : Int → Int → Int → Option Int} (k4 : ∀ (x1 : Int) (x2 : Int) (x3 : Int) (b : Int), c4 x1 x2 x3 = some b → WK 260 (.inl (some (aI b))) σ0 (abH 71 119 g h) 4 [(0, aR 71), (1, aI x1), (2, aI x2), (3, aI x3)] [] (abH 71 119 g h) 0 0) : ∀ {x1 : Int} {b : Int}, bX12_shareOf h c4 x1 = some b → WK 260 (.inl (some (aI b))) σ0 (abH 71 119 g h) 0 [(0, aR 71), (1, aI x1)] [] (abH 71 119 g h) 0 0 := by
  intro x1 b q
  have e : bX12_shareOf h c4 x1 = segP 71 119 g.2.2.2.2 h krPI clNP csX12_shareOf (cuC 4 (fun l st s => tkC 0 71 l <| tkI 1 l fun x1 => tkI 2 l fun x2 => tkI 3 l fun x3 => skE st (c4 x1 x2 x3)) cuN) 1000 0 [(0, aR 71), (1, aI x1)] [] := rfl
  rw [e] at q
  clear e
  refine segP_wk (by decide) (by decide) hg rwX12_shareOf CLKP_N krPI_ok ?_ q
  clear q
  refine ct_C ?_ (ct_N)
  · intro l st _ q
    obtain ⟨m0, q1⟩ := tkC_of q
    obtain ⟨x1, m1, q2⟩ := tkI_of q1
    obtain ⟨x2, m2, q3⟩ := tkI_of q2
    obtain ⟨x3, m3, q4⟩ := tkI_of q3
    obtain ⟨rfl, q5⟩ := skE_of q4
    exact WK_less (k4 _ _ _ _ q5) (List.forall_mem_cons.mpr ⟨m0, (List.forall_mem_cons.mpr ⟨m1, (List.forall_mem_cons.mpr ⟨m2, (List.forall_mem_cons.mpr ⟨m3, (fun _ h => absurd h List.not_mem_nil)⟩)⟩)⟩)⟩)
def nX12_shareOf (h : HH) (x1 : Int) : Option Int := bX12_shareOf h (nX12_shareOf_4 h 100000) x1
theorem wX12_shareOf {g : SG} (hg : GOK g) {σ0 : SG} {h : HH} : ∀ {x1 : Int} {b : Int}, nX12_shareOf h x1 = some b → WK 260 (.inl (some (aI b))) σ0 (abH 71 119 g h) 0 [(0, aR 71), (1, aI x1)] [] (abH 71 119 g h) 0 0 := by
  intro x1 b q
  exact uX12_shareOf hg (fun _ _ _ _ q => wX12_shareOf_4 hg q) q
theorem mX12_shareOf {g : SG} (hg : GOK g) {h : HH} {x1 : Int} {b : Int} (q : nX12_shareOf h x1 = some b) : MCT 260 [] [aR 71, aI x1] (abH 71 119 g h) (.inl (some (aI b))) (abH 71 119 g h) :=
  mct_of (by decide) (MFok 260 (by decide +kernel)) (fun _ => Nat.le_of_ble_eq_true rfl) (wX12_shareOf hg q)
def pX12_shareOf {β : Type} (z : HH → Int → Option Int) : PP β := fun h as f => skC 71 as fun as => skI as fun x1 as => skE as (bnd (z h x1) fun r => f (.inl (some (aI r))))
theorem pX12_shareOf_ok {β : Type} {g : SG} (hg : GOK g) : CP1 (β := β) 260 (pX12_shareOf nX12_shareOf) 71 119 g := fun h as f b q => by
  obtain ⟨as, rfl, q1⟩ := skC_of q
  obtain ⟨x1, as, rfl, q2⟩ := skI_of q1
  obtain ⟨rfl, q0⟩ := skE_of q2
  obtain ⟨r, z1, z2⟩ := bnd_of q0
  exact ⟨_, z2, by decide, mX12_shareOf hg z1, rfl, rfl, fun z => absurd z (by decide)⟩
