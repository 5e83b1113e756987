def csX12_undo : List (Nat × List (Nat × ARow)) := [(42, [(0, 1, .aload_n 0, 0, 0, 0), (1, 3, .getfield 223, 12, 30, 0), (4, 3, .ifCond .ne 9, 13, 0, 0), (7, 1, .aload_n 0, 0, 0, 0), (8, 1, .iconst 1, 0, 0, 0), (9, 3, .invokevirtual 200, 177, 2, 12), (12, 1, .ireturn, 0, 0, 0), (13, 1, .aload_n 0, 0, 0, 0), (14, 1, .dup, 0, 0, 0), (15, 3, .getfield 223, 12, 30, 0), (18, 1, .iconst 1, 0, 0, 0), (19, 1, .isub, 0, 0, 0), (20, 3, .putfield 223, 12, 30, 0), (23, 1, .iconst 0, 0, 0, 0), (24, 1, .istore_n 1, 0, 0, 0), (25, 1, .iload_n 1, 0, 0, 0), (26, 2, .bipush 27, 0, 0, 0), (28, 3, .if_icmp .ge 29, 57, 0, 0), (31, 1, .aload_n 0, 0, 0, 0), (32, 3, .getfield 76, 12, 25, 2), (35, 1, .iload_n 1, 0, 0, 0), (36, 1, .aload_n 0, 0, 0, 0), (37, 3, .getfield 82, 12, 28, 2), (40, 2, .bipush 27, 0, 0, 0)]),
  (80, [(42, 1, .aload_n 0, 0, 0, 0), (43, 3, .getfield 223, 12, 30, 0), (46, 1, .imul, 0, 0, 0), (47, 1, .iload_n 1, 0, 0, 0), (48, 1, .iadd, 0, 0, 0), (49, 1, .iaload, 0, 0, 0), (50, 1, .iastore, 0, 0, 0), (51, 3, .iinc 1 1, 0, 0, 0), (54, 3, .goto (-29), 25, 0, 0), (57, 1, .iconst 0, 0, 0, 0), (58, 1, .istore_n 1, 0, 0, 0), (59, 1, .iload_n 1, 0, 0, 0), (60, 1, .iconst 3, 0, 0, 0), (61, 3, .if_icmp .ge 28, 89, 0, 0), (64, 1, .aload_n 0, 0, 0, 0), (65, 3, .getfield 79, 12, 26, 2), (68, 1, .iload_n 1, 0, 0, 0), (69, 1, .aload_n 0, 0, 0, 0), (70, 3, .getfield 85, 12, 29, 2), (73, 1, .iconst 3, 0, 0, 0), (74, 1, .aload_n 0, 0, 0, 0), (75, 3, .getfield 223, 12, 30, 0), (78, 1, .imul, 0, 0, 0), (79, 1, .iload_n 1, 0, 0, 0)]),
  (100000, [(80, 1, .iadd, 0, 0, 0), (81, 1, .iaload, 0, 0, 0), (82, 1, .iastore, 0, 0, 0), (83, 3, .iinc 1 1, 0, 0, 0), (86, 3, .goto (-27), 59, 0, 0), (89, 1, .aload_n 0, 0, 0, 0), (90, 1, .iconst 0, 0, 0, 0), (91, 3, .invokevirtual 250, 193, 2, 12), (94, 1, .aload_n 0, 0, 0, 0), (95, 1, .iconst 0, 0, 0, 0), (96, 3, .invokevirtual 257, 194, 2, 12), (99, 1, .aload_n 0, 0, 0, 0), (100, 1, .aload_n 0, 0, 0, 0), (101, 3, .getfield 223, 12, 30, 0), (104, 3, .invokevirtual 209, 178, 2, 12), (107, 1, .ireturn, 0, 0, 0)])]
theorem rwX12_undo : rowsB (mB 201) (mO 201) (mX 201) (mIni 201) (mFr 201) (mLo 201) (mT 201) csX12_undo = true := by decide +kernel
def bX12_undo_59 (f193 : Int → HH → Option HH) (f194 : Int → HH → Option HH) (f178 : Int → HH → Option (Int × HH)) (c59 : Int → HH → Option (Int × HH)) (x1 : Int) (h : HH) : Option (Int × HH) :=
  if x1 < (3 : Int) then
    gd (R32 (3 * (h.1 71 30))) <|
    gd (R32 ((3 * (h.1 71 30)) + x1)) <|
    gd ((0 : Int) ≤ ((3 * (h.1 71 30)) + x1) ∧ ((3 * (h.1 71 30)) + x1) < (60 : Int)) <|
    gd ((0 : Int) ≤ x1 ∧ x1 < (3 : Int)) <|
    bnd (some (hI h 95 x1 (h.1 97 ((3 * (h.1 71 30)) + x1)))) fun h4 =>
    gd (R32 (x1 + 1)) <|
    c59 (x1 + 1) h4
  else
    bnd (f193 0 h) fun r1 =>
    bnd (f194 0 r1) fun r2 =>
    bnd (f178 (r2.1 71 30) r2) fun r3 =>
    some (r3.1, r3.2)
set_option maxRecDepth 100000 in
theorem uX12_undo_59 {g : SG} (hg : GOK g) {σ0 : SG} {c59 : Int → HH → Option (Int × HH)} (k59 : ∀ (x1 : Int) (h : HH) (b : (Int × HH)), c59 x1 h = some b → WK 201 (.inl (some (aI b.1))) σ0 (abH 71 119 g b.2) 59 [(0, aR 71), (1, aI x1)] [] (abH 71 119 g h) 0 0) : ∀ {x1 : Int} {h : HH} {b : (Int × HH)}, bX12_undo_59 nX12_loads nX12_lays nX12_told c59 x1 h = some b → WK 201 (.inl (some (aI b.1))) σ0 (abH 71 119 g b.2) 59 [(0, aR 71), (1, aI x1)] [] (abH 71 119 g h) 0 0 := by
  intro x1 h b q
  have e : ∀ (f193 : Int → HH → Option HH) (f194 : Int → HH → Option HH) (f178 : Int → HH → Option (Int × HH)) , bX12_undo_59 f193 f194 f178 c59 x1 h = segW 71 119 g.2.2.2.2 krWI (clC 193 (pX12_loads f193) (clC 194 (pX12_lays f194) (clC 178 (pX12_told f178) clN))) csX12_undo (cuC 59 (fun l st s => tkC 0 71 l <| tkI 1 l fun x1 => skE st (c59 x1 s)) cuN) 1000 59 [(0, aR 71), (1, aI x1)] [] h := fun _ _ _ => rfl
  rw [e nX12_loads nX12_lays nX12_told] at q
  clear e
  refine segW_wk (by decide) (by decide) hg rwX12_undo (CLKW_C (pX12_loads_ok hg) (CLKW_C (pX12_lays_ok hg) (CLKW_C (pX12_told_ok hg) CLKW_N))) krWI_ok ?_ q
  clear q
  refine ct_C ?_ (ct_N)
  · intro l st h q
    obtain ⟨m0, q1⟩ := tkC_of q
    obtain ⟨x1, m1, q2⟩ := tkI_of q1
    obtain ⟨rfl, q3⟩ := skE_of q2
    exact WK_less (k59 _ _ _ q3) (List.forall_mem_cons.mpr ⟨m0, (List.forall_mem_cons.mpr ⟨m1, (fun _ h => absurd h List.not_mem_nil)⟩)⟩)
def nX12_undo_59 : Nat → Int → HH → Option (Int × HH) := iter (fun _ _ => none) (fun self => bX12_undo_59 nX12_loads nX12_lays nX12_told self)
theorem nX12_undo_59_s {F : Nat} : nX12_undo_59 (F + 1) = bX12_undo_59 nX12_loads nX12_lays nX12_told (nX12_undo_59 F) := rfl
theorem wX12_undo_59 {g : SG} (hg : GOK g) {σ0 : SG} : ∀ {F : Nat}, ∀ {x1 : Int} {h : HH} {b : (Int × HH)}, nX12_undo_59 F x1 h = some b → WK 201 (.inl (some (aI b.1))) σ0 (abH 71 119 g b.2) 59 [(0, aR 71), (1, aI x1)] [] (abH 71 119 g h) 0 0 := by
  intro F
  have z : ∀ (x1 : Int) (h : HH) (b : (Int × HH)), nX12_undo_59 F x1 h = some b → WK 201 (.inl (some (aI b.1))) σ0 (abH 71 119 g b.2) 59 [(0, aR 71), (1, aI x1)] [] (abH 71 119 g h) 0 0 := iter_ind (P := fun (c : Int → HH → Option (Int × HH)) => ∀ (x1 : Int) (h : HH) (b : (Int × HH)), c x1 h = some b → WK 201 (.inl (some (aI b.1))) σ0 (abH 71 119 g b.2) 59 [(0, aR 71), (1, aI x1)] [] (abH 71 119 g h) 0 0) (by
    intro x1 h b q
    cases q) (fun self ih => by
    intro x1 h b q
    exact uX12_undo_59 hg ih q) F
  intro x1 h b q
  exact z _ _ _ q
def bX12_undo_25 (c25 : Int → HH → Option (Int × HH)) (c59 : Int → HH → Option (Int × HH)) (x1 : Int) (h : HH) : Option (Int × HH) :=
  if x1 < (27 : Int) then
    gd (R32 (27 * (h.1 71 30))) <|
    gd (R32 ((27 * (h.1 71 30)) + x1)) <|
    gd ((0 : Int) ≤ ((27 * (h.1 71 30)) + x1) ∧ ((27 * (h.1 71 30)) + x1) < (540 : Int)) <|
    gd ((0 : Int) ≤ x1 ∧ x1 < (27 : Int)) <|
    bnd (some (hI h 94 x1 (h.1 96 ((27 * (h.1 71 30)) + x1)))) fun h1 =>
    gd (R32 (x1 + 1)) <|
    c25 (x1 + 1) h1
  else
    c59 0 h
set_option maxRecDepth 100000 in
theorem uX12_undo_25 {g : SG} (hg : GOK g) {σ0 : SG} {c25 : Int → HH → Option (Int × HH)} {c59 : Int → HH → Option (Int × HH)} (k25 : ∀ (x1 : Int) (h : HH) (b : (Int × HH)), c25 x1 h = some b → WK 201 (.inl (some (aI b.1))) σ0 (abH 71 119 g b.2) 25 [(0, aR 71), (1, aI x1)] [] (abH 71 119 g h) 0 0) (k59 : ∀ (x1 : Int) (h : HH) (b : (Int × HH)), c59 x1 h = some b → WK 201 (.inl (some (aI b.1))) σ0 (abH 71 119 g b.2) 59 [(0, aR 71), (1, aI x1)] [] (abH 71 119 g h) 0 0) : ∀ {x1 : Int} {h : HH} {b : (Int × HH)}, bX12_undo_25 c25 c59 x1 h = some b → WK 201 (.inl (some (aI b.1))) σ0 (abH 71 119 g b.2) 25 [(0, aR 71), (1, aI x1)] [] (abH 71 119 g h) 0 0 := by
  intro x1 h b q
  have e : bX12_undo_25 c25 c59 x1 h = segW 71 119 g.2.2.2.2 krWI clN csX12_undo (cuC 25 (fun l st s => tkC 0 71 l <| tkI 1 l fun x1 => skE st (c25 x1 s)) (cuC 59 (fun l st s => tkC 0 71 l <| tkI 1 l fun x1 => skE st (c59 x1 s)) cuN)) 1000 25 [(0, aR 71), (1, aI x1)] [] h := rfl
  rw [e] at q
  clear e
  refine segW_wk (by decide) (by decide) hg rwX12_undo CLKW_N krWI_ok ?_ q
  clear q
  refine ct_C ?_ (ct_C ?_ (ct_N))
  · intro l st h q
    obtain ⟨m0, q1⟩ := tkC_of q
    obtain ⟨x1, m1, q2⟩ := tkI_of q1
    obtain ⟨rfl, q3⟩ := skE_of q2
    exact WK_less (k25 _ _ _ q3) (List.forall_mem_cons.mpr ⟨m0, (List.forall_mem_cons.mpr ⟨m1, (fun _ h => absurd h List.not_mem_nil)⟩)⟩)
  · intro l st h q
    obtain ⟨m0, q1⟩ := tkC_of q
    obtain ⟨x1, m1, q2⟩ := tkI_of q1
    obtain ⟨rfl, q3⟩ := skE_of q2
    exact WK_less (k59 _ _ _ q3) (List.forall_mem_cons.mpr ⟨m0, (List.forall_mem_cons.mpr ⟨m1, (fun _ h => absurd h List.not_mem_nil)⟩)⟩)
def nX12_undo_25 : Nat → Int → HH → Option (Int × HH) := iter (fun _ _ => none) (fun self => bX12_undo_25 self (nX12_undo_59 100000))
theorem nX12_undo_25_s {F : Nat} : nX12_undo_25 (F + 1) = bX12_undo_25 (nX12_undo_25 F) (nX12_undo_59 100000) := rfl
theorem wX12_undo_25 {g : SG} (hg : GOK g) {σ0 : SG} : ∀ {F : Nat}, ∀ {x1 : Int} {h : HH} {b : (Int × HH)}, nX12_undo_25 F x1 h = some b → WK 201 (.inl (some (aI b.1))) σ0 (abH 71 119 g b.2) 25 [(0, aR 71), (1, aI x1)] [] (abH 71 119 g h) 0 0 := by
  intro F
  have z : ∀ (x1 : Int) (h : HH) (b : (Int × HH)), nX12_undo_25 F x1 h = some b → WK 201 (.inl (some (aI b.1))) σ0 (abH 71 119 g b.2) 25 [(0, aR 71), (1, aI x1)] [] (abH 71 119 g h) 0 0 := iter_ind (P := fun (c : Int → HH → Option (Int × HH)) => ∀ (x1 : Int) (h : HH) (b : (Int × HH)), c x1 h = some b → WK 201 (.inl (some (aI b.1))) σ0 (abH 71 119 g b.2) 25 [(0, aR 71), (1, aI x1)] [] (abH 71 119 g h) 0 0) (by
    intro x1 h b q
    cases q) (fun self ih => by
    intro x1 h b q
    exact uX12_undo_25 hg ih (fun _ _ _ q => wX12_undo_59 hg q) q) F
  intro x1 h b q
  exact z _ _ _ q
def bX12_undo (f177 : Int → HH → Option (Int × HH)) (c25 : Int → HH → Option (Int × HH)) (h : HH) : Option (Int × HH) :=
  if (h.1 71 30) = (0 : Int) then
    bnd (f177 1 h) fun r2 =>
    some (r2.1, r2.2)
  else
    gd (R32 ((h.1 71 30) - 1)) <|
    bnd (some (hI h 71 30 ((h.1 71 30) - 1))) fun h1 =>
    c25 0 h1
theorem uX12_undo {g : SG} (hg : GOK g) {σ0 : SG} {c25 : Int → HH → Option (Int × HH)} (k25 : ∀ (x1 : Int) (h : HH) (b : (Int × HH)), c25 x1 h = some b → WK 201 (.inl (some (aI b.1))) σ0 (abH 71 119 g b.2) 25 [(0, aR 71), (1, aI x1)] [] (abH 71 119 g h) 0 0) : ∀ {h : HH} {b : (Int × HH)}, bX12_undo nX12_refuse c25 h = some b → WK 201 (.inl (some (aI b.1))) σ0 (abH 71 119 g b.2) 0 [(0, aR 71)] [] (abH 71 119 g h) 0 0 := by
  intro h b q
  have e : ∀ (f177 : Int → HH → Option (Int × HH)) , bX12_undo f177 c25 h = segW 71 119 g.2.2.2.2 krWI (clC 177 (pX12_refuse f177) clN) csX12_undo (cuC 25 (fun l st s => tkC 0 71 l <| tkI 1 l fun x1 => skE st (c25 x1 s)) cuN) 1000 0 [(0, aR 71)] [] h := fun _ => rfl
  rw [e nX12_refuse] at q
  clear e
  refine segW_wk (by decide) (by decide) hg rwX12_undo (CLKW_C (pX12_refuse_ok hg) CLKW_N) krWI_ok ?_ q
  clear q
  refine ct_C ?_ (ct_N)
  · intro l st h q
    obtain ⟨m0, q1⟩ := tkC_of q
    obtain ⟨x1, m1, q2⟩ := tkI_of q1
    obtain ⟨rfl, q3⟩ := skE_of q2
    exact WK_less (k25 _ _ _ q3) (List.forall_mem_cons.mpr ⟨m0, (List.forall_mem_cons.mpr ⟨m1, (fun _ h => absurd h List.not_mem_nil)⟩)⟩)
def nX12_undo (h : HH) : Option (Int × HH) := bX12_undo nX12_refuse (nX12_undo_25 100000) h
theorem wX12_undo {g : SG} (hg : GOK g) {σ0 : SG} : ∀ {h : HH} {b : (Int × HH)}, nX12_undo h = some b → WK 201 (.inl (some (aI b.1))) σ0 (abH 71 119 g b.2) 0 [(0, aR 71)] [] (abH 71 119 g h) 0 0 := by
  intro h b q
  exact uX12_undo hg (fun _ _ _ q => wX12_undo_25 hg q) q
theorem mX12_undo {g : SG} (hg : GOK g) {h : HH} {b : (Int × HH)} (q : nX12_undo h = some b) : MCT 201 [] [aR 71] (abH 71 119 g h) (.inl (some (aI b.1))) (abH 71 119 g b.2) :=
  mct_of (by decide) (MFok 201 (by decide +kernel)) (fun _ => Nat.le_of_ble_eq_true rfl) (wX12_undo hg q)
def pX12_undo {β : Type} (z : HH → Option (Int × HH)) : PW β := fun as h f => skC 71 as fun as => skE as (bnd (z h) fun r => f (.inl (some (aI r.1))) r.2)
theorem pX12_undo_ok {β : Type} {g : SG} (hg : GOK g) : CW1 (β := β) 201 (pX12_undo nX12_undo) 71 119 g := fun as h f b q => by
  obtain ⟨as, rfl, q1⟩ := skC_of q
  obtain ⟨rfl, q0⟩ := skE_of q1
  obtain ⟨r, z1, z2⟩ := bnd_of q0
  exact ⟨_, _, z2, by decide, mX12_undo hg z1, rfl, rfl, fun z => absurd z (by decide)⟩
def csX12_put : List (Nat × List (Nat × ARow)) := [(44, [(0, 1, .aload_n 0, 0, 0, 0), (1, 1, .iload_n 1, 0, 0, 0), (2, 3, .invokevirtual 260, 176, 2, 12), (5, 3, .ifCond .eq 25, 30, 0, 0), (8, 1, .aload_n 0, 0, 0, 0), (9, 1, .iload_n 3, 0, 0, 0), (10, 3, .invokevirtual 220, 175, 2, 12), (13, 3, .ifCond .eq 17, 30, 0, 0), (16, 1, .iload_n 2, 0, 0, 0), (17, 1, .iconst 0, 0, 0, 0), (18, 1, .aload_n 0, 0, 0, 0), (19, 3, .getfield 79, 12, 26, 2), (22, 1, .iload_n 1, 0, 0, 0), (23, 1, .iaload, 0, 0, 0), (24, 3, .invokestatic 178, 171, 3, 0), (27, 3, .ifCond .ne 9, 36, 0, 0), (30, 1, .aload_n 0, 0, 0, 0), (31, 1, .iconst 1, 0, 0, 0), (32, 3, .invokevirtual 200, 177, 2, 12), (35, 1, .ireturn, 0, 0, 0), (36, 1, .aload_n 0, 0, 0, 0), (37, 1, .iload_n 3, 0, 0, 0), (38, 3, .invokevirtual 263, 199, 2, 12), (41, 3, .ifCond .ne 9, 50, 0, 0)]),
  (84, [(44, 1, .aload_n 0, 0, 0, 0), (45, 1, .iconst 2, 0, 0, 0), (46, 3, .invokevirtual 200, 177, 2, 12), (49, 1, .ireturn, 0, 0, 0), (50, 1, .aload_n 0, 0, 0, 0), (51, 1, .iload_n 1, 0, 0, 0), (52, 3, .invokevirtual 250, 193, 2, 12), (55, 1, .aload_n 0, 0, 0, 0), (56, 1, .iload_n 2, 0, 0, 0), (57, 1, .iload_n 3, 0, 0, 0), (58, 3, .invokevirtual 266, 195, 3, 12), (61, 1, .aload_n 0, 0, 0, 0), (62, 1, .iload_n 1, 0, 0, 0), (63, 3, .invokevirtual 254, 192, 2, 12), (66, 2, .istore 4, 0, 0, 0), (68, 2, .iload 4, 0, 0, 0), (70, 1, .iconst (-1), 0, 0, 0), (71, 3, .if_icmp .ne 9, 80, 0, 0), (74, 1, .aload_n 0, 0, 0, 0), (75, 1, .iconst 2, 0, 0, 0), (76, 3, .invokevirtual 200, 177, 2, 12), (79, 1, .ireturn, 0, 0, 0), (80, 1, .aload_n 0, 0, 0, 0), (81, 3, .invokevirtual 270, 200, 1, 12)]),
  (100000, [(84, 1, .aload_n 0, 0, 0, 0), (85, 1, .iload_n 1, 0, 0, 0), (86, 3, .invokevirtual 257, 194, 2, 12), (89, 1, .aload_n 0, 0, 0, 0), (90, 2, .iload 4, 0, 0, 0), (92, 3, .invokevirtual 209, 178, 2, 12), (95, 1, .ireturn, 0, 0, 0)])]
theorem rwX12_put : rowsB (mB 202) (mO 202) (mX 202) (mIni 202) (mFr 202) (mLo 202) (mT 202) csX12_put = true := by decide +kernel
def bX12_put_30 (f177 : Int → HH → Option (Int × HH)) (h : HH) : Option (Int × HH) :=
  bnd (f177 1 h) fun r1 =>
    some (r1.1, r1.2)
theorem uX12_put_30 {g : SG} (hg : GOK g) {σ0 : SG} : ∀ {h : HH} {b : (Int × HH)}, bX12_put_30 nX12_refuse h = some b → WK 202 (.inl (some (aI b.1))) σ0 (abH 71 119 g b.2) 30 [(0, aR 71)] [] (abH 71 119 g h) 0 0 := by
  intro h b q
  have e : ∀ (f177 : Int → HH → Option (Int × HH)) , bX12_put_30 f177 h = segW 71 119 g.2.2.2.2 krWI (clC 177 (pX12_refuse f177) clN) csX12_put cuN 1000 30 [(0, aR 71)] [] h := fun _ => rfl
  rw [e nX12_refuse] at q
  clear e
  refine segW_wk (by decide) (by decide) hg rwX12_put (CLKW_C (pX12_refuse_ok hg) CLKW_N) krWI_ok ?_ q
  clear q
  exact ct_N
def nX12_put_30 (h : HH) : Option (Int × HH) := bX12_put_30 nX12_refuse h
theorem wX12_put_30 {g : SG} (hg : GOK g) {σ0 : SG} : ∀ {h : HH} {b : (Int × HH)}, nX12_put_30 h = some b → WK 202 (.inl (some (aI b.1))) σ0 (abH 71 119 g b.2) 30 [(0, aR 71)] [] (abH 71 119 g h) 0 0 := by
  intro h b q
  exact uX12_put_30 hg q
def bX12_put (f176 : HH → Int → Option Int) (f175 : HH → Int → Option Int) (f171 : HH → Int → Int → Int → Option Int) (f199 : HH → Int → Option Int) (f193 : Int → HH → Option HH) (f195 : Int → Int → HH → Option HH) (f192 : Int → HH → Option (Int × HH)) (f200 : HH → Option HH) (f194 : Int → HH → Option HH) (f178 : Int → HH → Option (Int × HH)) (f177 : Int → HH → Option (Int × HH)) (c30 : HH → Option (Int × HH)) (x1 : Int) (x2 : Int) (x3 : Int) (h : HH) : Option (Int × HH) :=
  bnd (f176 h x1) fun r1 =>
    if r1 = (0 : Int) then
    c30 h
  else
    bnd (f175 h x3) fun r2 =>
    if r2 = (0 : Int) then
    c30 h
  else
    gd ((0 : Int) ≤ x1 ∧ x1 < (3 : Int)) <|
    bnd (f171 h x2 0 (h.1 95 x1)) fun r3 =>
    if r3 = (0 : Int) then
    c30 h
  else
    bnd (f199 h x3) fun r4 =>
    if r4 = (0 : Int) then
    bnd (f177 2 h) fun r12 =>
    some (r12.1, r12.2)
  else
    bnd (f193 x1 h) fun r5 =>
    bnd (f195 x2 x3 r5) fun r6 =>
    bnd (f192 x1 r6) fun r7 =>
    if r7.1 = ((-1) : Int) then
    bnd (f177 2 r7.2) fun r11 =>
    some (r11.1, r11.2)
  else
    bnd (f200 r7.2) fun r8 =>
    bnd (f194 x1 r8) fun r9 =>
    bnd (f178 r7.1 r9) fun r10 =>
    some (r10.1, r10.2)
set_option maxRecDepth 100000 in
theorem uX12_put {g : SG} (hg : GOK g) {σ0 : SG} {c30 : HH → Option (Int × HH)} (k30 : ∀ (h : HH) (b : (Int × HH)), c30 h = some b → WK 202 (.inl (some (aI b.1))) σ0 (abH 71 119 g b.2) 30 [(0, aR 71)] [] (abH 71 119 g h) 0 0) : ∀ {x1 : Int} {x2 : Int} {x3 : Int} {h : HH} {b : (Int × HH)}, bX12_put nX12_isVan nX12_isParcel nX12_in nX12_canBePut nX12_loads nX12_inserts nX12_drives nX12_keeps nX12_lays nX12_told nX12_refuse c30 x1 x2 x3 h = some b → WK 202 (.inl (some (aI b.1))) σ0 (abH 71 119 g b.2) 0 [(0, aR 71), (1, aI x1), (2, aI x2), (3, aI x3)] [] (abH 71 119 g h) 0 0 := by
  intro x1 x2 x3 h b q
  have e : ∀ (f176 : HH → Int → Option Int) (f175 : HH → Int → Option Int) (f171 : HH → Int → Int → Int → Option Int) (f199 : HH → Int → Option Int) (f193 : Int → HH → Option HH) (f195 : Int → Int → HH → Option HH) (f192 : Int → HH → Option (Int × HH)) (f200 : HH → Option HH) (f194 : Int → HH → Option HH) (f178 : Int → HH → Option (Int × HH)) (f177 : Int → HH → Option (Int × HH)) , bX12_put f176 f175 f171 f199 f193 f195 f192 f200 f194 f178 f177 c30 x1 x2 x3 h = segW 71 119 g.2.2.2.2 krWI (clC 176 (liPW (pX12_isVan f176)) (clC 175 (liPW (pX12_isParcel f175)) (clC 171 (liPW (pX12_in f171)) (clC 199 (liPW (pX12_canBePut f199)) (clC 193 (pX12_loads f193) (clC 195 (pX12_inserts f195) (clC 192 (pX12_drives f192) (clC 200 (pX12_keeps f200) (clC 194 (pX12_lays f194) (clC 178 (pX12_told f178) (clC 177 (pX12_refuse f177) clN))))))))))) csX12_put (cuC 30 (fun l st s => tkC 0 71 l <| skE st (c30 s)) cuN) 1000 0 [(0, aR 71), (1, aI x1), (2, aI x2), (3, aI x3)] [] h := fun _ _ _ _ _ _ _ _ _ _ _ => rfl
  rw [e nX12_isVan nX12_isParcel nX12_in nX12_canBePut nX12_loads nX12_inserts nX12_drives nX12_keeps nX12_lays nX12_told nX12_refuse] at q
  clear e
  refine segW_wk (by decide) (by decide) hg rwX12_put (CLKW_C (liPW_ok (pX12_isVan_ok hg)) (CLKW_C (liPW_ok (pX12_isParcel_ok hg)) (CLKW_C (liPW_ok (pX12_in_ok hg)) (CLKW_C (liPW_ok (pX12_canBePut_ok hg)) (CLKW_C (pX12_loads_ok hg) (CLKW_C (pX12_inserts_ok hg) (CLKW_C (pX12_drives_ok hg) (CLKW_C (pX12_keeps_ok hg) (CLKW_C (pX12_lays_ok hg) (CLKW_C (pX12_told_ok hg) (CLKW_C (pX12_refuse_ok hg) CLKW_N))))))))))) krWI_ok ?_ q
  clear q
  refine ct_C ?_ (ct_N)
  · intro l st h q
    obtain ⟨m0, q1⟩ := tkC_of q
    obtain ⟨rfl, q2⟩ := skE_of q1
    exact WK_less (k30 _ _ q2) (List.forall_mem_cons.mpr ⟨m0, (fun _ h => absurd h List.not_mem_nil)⟩)
def nX12_put (x1 : Int) (x2 : Int) (x3 : Int) (h : HH) : Option (Int × HH) := bX12_put nX12_isVan nX12_isParcel nX12_in nX12_canBePut nX12_loads nX12_inserts nX12_drives nX12_keeps nX12_lays nX12_told nX12_refuse nX12_put_30 x1 x2 x3 h
theorem wX12_put {g : SG} (hg : GOK g) {σ0 : SG} : ∀ {x1 : Int} {x2 : Int} {x3 : Int} {h : HH} {b : (Int × HH)}, nX12_put x1 x2 x3 h = some b → WK 202 (.inl (some (aI b.1))) σ0 (abH 71 119 g b.2) 0 [(0, aR 71), (1, aI x1), (2, aI x2), (3, aI x3)] [] (abH 71 119 g h) 0 0 := by
  intro x1 x2 x3 h b q
  exact uX12_put hg (fun _ _ q => wX12_put_30 hg q) q
theorem mX12_put {g : SG} (hg : GOK g) {h : HH} {x1 : Int} {x2 : Int} {x3 : Int} {b : (Int × HH)} (q : nX12_put x1 x2 x3 h = some b) : MCT 202 [] [aR 71, aI x1, aI x2, aI x3] (abH 71 119 g h) (.inl (some (aI b.1))) (abH 71 119 g b.2) :=
  mct_of (by decide) (MFok 202 (by decide +kernel)) (fun _ => Nat.le_of_ble_eq_true rfl) (wX12_put hg q)
def pX12_put {β : Type} (z : Int → Int → Int → HH → Option (Int × HH)) : PW β := fun as h f => skC 71 as fun as => skI as fun x1 as => skI as fun x2 as => skI as fun x3 as => skE as (bnd (z x1 x2 x3 h) fun r => f (.inl (some (aI r.1))) r.2)
theorem pX12_put_ok {β : Type} {g : SG} (hg : GOK g) : CW1 (β := β) 202 (pX12_put nX12_put) 71 119 g := fun as h f b q => by
  obtain ⟨as, rfl, q1⟩ := skC_of q
  obtain ⟨x1, as, rfl, q2⟩ := skI_of q1
  obtain ⟨x2, as, rfl, q3⟩ := skI_of q2
  obtain ⟨x3, as, rfl, q4⟩ := skI_of q3
  obtain ⟨rfl, q0⟩ := skE_of q4
  obtain ⟨r, z1, z2⟩ := bnd_of q0
  exact ⟨_, _, z2, by decide, mX12_put hg z1, rfl, rfl, fun z => absurd z (by decide)⟩
def csX12_takeOut : List (Nat × List (Nat × ARow)) := [(38, [(0, 1, .aload_n 0, 0, 0, 0), (1, 1, .iload_n 1, 0, 0, 0), (2, 3, .invokevirtual 220, 175, 2, 12), (5, 3, .ifCond .ne 9, 14, 0, 0), (8, 1, .aload_n 0, 0, 0, 0), (9, 1, .iconst 1, 0, 0, 0), (10, 3, .invokevirtual 200, 177, 2, 12), (13, 1, .ireturn, 0, 0, 0), (14, 1, .aload_n 0, 0, 0, 0), (15, 3, .getfield 64, 12, 20, 2), (18, 1, .iload_n 1, 0, 0, 0), (19, 1, .iaload, 0, 0, 0), (20, 1, .istore_n 2, 0, 0, 0), (21, 1, .iload_n 2, 0, 0, 0), (22, 1, .iconst (-1), 0, 0, 0), (23, 3, .if_icmp .ne 9, 32, 0, 0), (26, 1, .aload_n 0, 0, 0, 0), (27, 1, .iconst 2, 0, 0, 0), (28, 3, .invokevirtual 200, 177, 2, 12), (31, 1, .ireturn, 0, 0, 0), (32, 1, .aload_n 0, 0, 0, 0), (33, 1, .iload_n 2, 0, 0, 0), (34, 3, .invokevirtual 250, 193, 2, 12), (37, 1, .aload_n 0, 0, 0, 0)]),
  (100000, [(38, 1, .aload_n 0, 0, 0, 0), (39, 1, .iload_n 2, 0, 0, 0), (40, 1, .iload_n 1, 0, 0, 0), (41, 3, .invokevirtual 273, 198, 3, 12), (44, 3, .invokevirtual 276, 196, 2, 12), (47, 1, .aload_n 0, 0, 0, 0), (48, 1, .iload_n 2, 0, 0, 0), (49, 3, .invokevirtual 254, 192, 2, 12), (52, 1, .iconst (-1), 0, 0, 0), (53, 3, .if_icmp .ne 9, 62, 0, 0), (56, 1, .aload_n 0, 0, 0, 0), (57, 1, .iconst 2, 0, 0, 0), (58, 3, .invokevirtual 200, 177, 2, 12), (61, 1, .ireturn, 0, 0, 0), (62, 1, .aload_n 0, 0, 0, 0), (63, 3, .invokevirtual 270, 200, 1, 12), (66, 1, .aload_n 0, 0, 0, 0), (67, 1, .iload_n 2, 0, 0, 0), (68, 3, .invokevirtual 257, 194, 2, 12), (71, 1, .aload_n 0, 0, 0, 0), (72, 1, .iload_n 2, 0, 0, 0), (73, 3, .invokevirtual 209, 178, 2, 12), (76, 1, .ireturn, 0, 0, 0)])]
theorem rwX12_takeOut : rowsB (mB 203) (mO 203) (mX 203) (mIni 203) (mFr 203) (mLo 203) (mT 203) csX12_takeOut = true := by decide +kernel
def bX12_takeOut (f175 : HH → Int → Option Int) (f193 : Int → HH → Option HH) (f198 : HH → Int → Int → Option Int) (f196 : Int → HH → Option HH) (f192 : Int → HH → Option (Int × HH)) (f200 : HH → Option HH) (f194 : Int → HH → Option HH) (f178 : Int → HH → Option (Int × HH)) (f177 : Int → HH → Option (Int × HH)) (x1 : Int) (h : HH) : Option (Int × HH) :=
  bnd (f175 h x1) fun r1 =>
    if r1 = (0 : Int) then
    bnd (f177 1 h) fun r11 =>
    some (r11.1, r11.2)
  else
    gd ((0 : Int) ≤ x1 ∧ x1 < (9 : Int)) <|
    if (h.1 90 x1) = ((-1) : Int) then
    bnd (f177 2 h) fun r10 =>
    some (r10.1, r10.2)
  else
    bnd (f193 (h.1 90 x1) h) fun r2 =>
    bnd (f198 r2 (h.1 90 x1) x1) fun r3 =>
    bnd (f196 r3 r2) fun r4 =>
    bnd (f192 (h.1 90 x1) r4) fun r5 =>
    if r5.1 = ((-1) : Int) then
    bnd (f177 2 r5.2) fun r9 =>
    some (r9.1, r9.2)
  else
    bnd (f200 r5.2) fun r6 =>
    bnd (f194 (h.1 90 x1) r6) fun r7 =>
    bnd (f178 (h.1 90 x1) r7) fun r8 =>
    some (r8.1, r8.2)
set_option maxRecDepth 100000 in
theorem uX12_takeOut {g : SG} (hg : GOK g) {σ0 : SG} : ∀ {x1 : Int} {h : HH} {b : (Int × HH)}, bX12_takeOut nX12_isParcel nX12_loads nX12_placeInRound nX12_removes nX12_drives nX12_keeps nX12_lays nX12_told nX12_refuse x1 h = some b → WK 203 (.inl (some (aI b.1))) σ0 (abH 71 119 g b.2) 0 [(0, aR 71), (1, aI x1)] [] (abH 71 119 g h) 0 0 := by
  intro x1 h b q
  have e : ∀ (f175 : HH → Int → Option Int) (f193 : Int → HH → Option HH) (f198 : HH → Int → Int → Option Int) (f196 : Int → HH → Option HH) (f192 : Int → HH → Option (Int × HH)) (f200 : HH → Option HH) (f194 : Int → HH → Option HH) (f178 : Int → HH → Option (Int × HH)) (f177 : Int → HH → Option (Int × HH)) , bX12_takeOut f175 f193 f198 f196 f192 f200 f194 f178 f177 x1 h = segW 71 119 g.2.2.2.2 krWI (clC 175 (liPW (pX12_isParcel f175)) (clC 193 (pX12_loads f193) (clC 198 (liPW (pX12_placeInRound f198)) (clC 196 (pX12_removes f196) (clC 192 (pX12_drives f192) (clC 200 (pX12_keeps f200) (clC 194 (pX12_lays f194) (clC 178 (pX12_told f178) (clC 177 (pX12_refuse f177) clN))))))))) csX12_takeOut cuN 1000 0 [(0, aR 71), (1, aI x1)] [] h := fun _ _ _ _ _ _ _ _ _ => rfl
  rw [e nX12_isParcel nX12_loads nX12_placeInRound nX12_removes nX12_drives nX12_keeps nX12_lays nX12_told nX12_refuse] at q
  clear e
  refine segW_wk (by decide) (by decide) hg rwX12_takeOut (CLKW_C (liPW_ok (pX12_isParcel_ok hg)) (CLKW_C (pX12_loads_ok hg) (CLKW_C (liPW_ok (pX12_placeInRound_ok hg)) (CLKW_C (pX12_removes_ok hg) (CLKW_C (pX12_drives_ok hg) (CLKW_C (pX12_keeps_ok hg) (CLKW_C (pX12_lays_ok hg) (CLKW_C (pX12_told_ok hg) (CLKW_C (pX12_refuse_ok hg) CLKW_N))))))))) krWI_ok ?_ q
  clear q
  exact ct_N
def nX12_takeOut (x1 : Int) (h : HH) : Option (Int × HH) := bX12_takeOut nX12_isParcel nX12_loads nX12_placeInRound nX12_removes nX12_drives nX12_keeps nX12_lays nX12_told nX12_refuse x1 h
theorem wX12_takeOut {g : SG} (hg : GOK g) {σ0 : SG} : ∀ {x1 : Int} {h : HH} {b : (Int × HH)}, nX12_takeOut x1 h = some b → WK 203 (.inl (some (aI b.1))) σ0 (abH 71 119 g b.2) 0 [(0, aR 71), (1, aI x1)] [] (abH 71 119 g h) 0 0 := by
  intro x1 h b q
  exact uX12_takeOut hg q
theorem mX12_takeOut {g : SG} (hg : GOK g) {h : HH} {x1 : Int} {b : (Int × HH)} (q : nX12_takeOut x1 h = some b) : MCT 203 [] [aR 71, aI x1] (abH 71 119 g h) (.inl (some (aI b.1))) (abH 71 119 g b.2) :=
  mct_of (by decide) (MFok 203 (by decide +kernel)) (fun _ => Nat.le_of_ble_eq_true rfl) (wX12_takeOut hg q)
def pX12_takeOut {β : Type} (z : Int → HH → Option (Int × HH)) : PW β := fun as h f => skC 71 as fun as => skI as fun x1 as => skE as (bnd (z x1 h) fun r => f (.inl (some (aI r.1))) r.2)
theorem pX12_takeOut_ok {β : Type} {g : SG} (hg : GOK g) : CW1 (β := β) 203 (pX12_takeOut nX12_takeOut) 71 119 g := fun as h f b q => by
  obtain ⟨as, rfl, q1⟩ := skC_of q
  obtain ⟨x1, as, rfl, q2⟩ := skI_of q1
  obtain ⟨rfl, q0⟩ := skE_of q2
  obtain ⟨r, z1, z2⟩ := bnd_of q0
  exact ⟨_, _, z2, by decide, mX12_takeOut hg z1, rfl, rfl, fun z => absurd z (by decide)⟩
def csX12_turns : List (Nat × List (Nat × ARow)) := [(33, [(0, 1, .iconst 0, 0, 0, 0), (1, 1, .istore_n 3, 0, 0, 0), (2, 1, .iload_n 3, 0, 0, 0), (3, 1, .iload_n 2, 0, 0, 0), (4, 1, .iload_n 1, 0, 0, 0), (5, 1, .isub, 0, 0, 0), (6, 1, .iconst 2, 0, 0, 0), (7, 1, .idiv, 0, 0, 0), (8, 3, .if_icmp .ge 49, 57, 0, 0), (11, 1, .aload_n 0, 0, 0, 0), (12, 3, .getfield 127, 12, 47, 2), (15, 1, .iload_n 1, 0, 0, 0), (16, 1, .iload_n 3, 0, 0, 0), (17, 1, .iadd, 0, 0, 0), (18, 1, .iaload, 0, 0, 0), (19, 2, .istore 4, 0, 0, 0), (21, 1, .aload_n 0, 0, 0, 0), (22, 3, .getfield 127, 12, 47, 2), (25, 1, .iload_n 1, 0, 0, 0), (26, 1, .iload_n 3, 0, 0, 0), (27, 1, .iadd, 0, 0, 0), (28, 1, .aload_n 0, 0, 0, 0), (29, 3, .getfield 127, 12, 47, 2), (32, 1, .iload_n 2, 0, 0, 0)]),
  (100000, [(33, 1, .iconst 1, 0, 0, 0), (34, 1, .isub, 0, 0, 0), (35, 1, .iload_n 3, 0, 0, 0), (36, 1, .isub, 0, 0, 0), (37, 1, .iaload, 0, 0, 0), (38, 1, .iastore, 0, 0, 0), (39, 1, .aload_n 0, 0, 0, 0), (40, 3, .getfield 127, 12, 47, 2), (43, 1, .iload_n 2, 0, 0, 0), (44, 1, .iconst 1, 0, 0, 0), (45, 1, .isub, 0, 0, 0), (46, 1, .iload_n 3, 0, 0, 0), (47, 1, .isub, 0, 0, 0), (48, 2, .iload 4, 0, 0, 0), (50, 1, .iastore, 0, 0, 0), (51, 3, .iinc 3 1, 0, 0, 0), (54, 3, .goto (-52), 2, 0, 0), (57, 1, .return_, 0, 0, 0)])]
theorem rwX12_turns : rowsB (mB 204) (mO 204) (mX 204) (mIni 204) (mFr 204) (mLo 204) (mT 204) csX12_turns = true := by decide +kernel
def bX12_turns_2 (c2 : Int → Int → Int → HH → Option HH) (x1 : Int) (x2 : Int) (x3 : Int) (h : HH) : Option HH :=
  gd (R32 (x2 - x1)) <|
    gd ((0 : Int) ≤ (x2 - x1) ∧ (0 : Int) < 2) <|
    if x3 < (((x2 - x1) / 2) : Int) then
    gd (R32 (x1 + x3)) <|
    gd ((0 : Int) ≤ (x1 + x3) ∧ (x1 + x3) < (10 : Int)) <|
    gd (R32 (x1 + x3)) <|
    gd (R32 (x2 - 1)) <|
    gd (R32 ((x2 - 1) - x3)) <|
    gd ((0 : Int) ≤ ((x2 - 1) - x3) ∧ ((x2 - 1) - x3) < (10 : Int)) <|
    gd ((0 : Int) ≤ (x1 + x3) ∧ (x1 + x3) < (10 : Int)) <|
    bnd (some (hI h 105 (x1 + x3) (h.1 105 ((x2 - 1) - x3)))) fun h1 =>
    gd (R32 (x2 - 1)) <|
    gd (R32 ((x2 - 1) - x3)) <|
    gd ((0 : Int) ≤ ((x2 - 1) - x3) ∧ ((x2 - 1) - x3) < (10 : Int)) <|
    bnd (some (hI h1 105 ((x2 - 1) - x3) (h.1 105 (x1 + x3)))) fun h2 =>
    gd (R32 (x3 + 1)) <|
    c2 x1 x2 (x3 + 1) h2
  else
    some h
set_option maxRecDepth 100000 in
theorem uX12_turns_2 {g : SG} (hg : GOK g) {σ0 : SG} {c2 : Int → Int → Int → HH → Option HH} (k2 : ∀ (x1 : Int) (x2 : Int) (x3 : Int) (h : HH) (b : HH), c2 x1 x2 x3 h = some b → WK 204 (.inl none) σ0 (abH 71 119 g b) 2 [(0, aR 71), (1, aI x1), (2, aI x2), (3, aI x3)] [] (abH 71 119 g h) 0 0) : ∀ {x1 : Int} {x2 : Int} {x3 : Int} {h : HH} {b : HH}, bX12_turns_2 c2 x1 x2 x3 h = some b → WK 204 (.inl none) σ0 (abH 71 119 g b) 2 [(0, aR 71), (1, aI x1), (2, aI x2), (3, aI x3)] [] (abH 71 119 g h) 0 0 := by
  intro x1 x2 x3 h b q
  have e : bX12_turns_2 c2 x1 x2 x3 h = segW 71 119 g.2.2.2.2 krWV clN csX12_turns (cuC 2 (fun l st s => tkC 0 71 l <| tkI 1 l fun x1 => tkI 2 l fun x2 => tkI 3 l fun x3 => skE st (c2 x1 x2 x3 s)) cuN) 1000 2 [(0, aR 71), (1, aI x1), (2, aI x2), (3, aI x3)] [] h := rfl
  rw [e] at q
  clear e
  refine segW_wk (by decide) (by decide) hg rwX12_turns CLKW_N krWV_ok ?_ q
  clear q
  refine ct_C ?_ (ct_N)
  · intro l st h q
    obtain ⟨m0, q1⟩ := tkC_of q
    obtain ⟨x1, m1, q2⟩ := tkI_of q1
    obtain ⟨x2, m2, q3⟩ := tkI_of q2
    obtain ⟨x3, m3, q4⟩ := tkI_of q3
    obtain ⟨rfl, q5⟩ := skE_of q4
    exact WK_less (k2 _ _ _ _ _ q5) (List.forall_mem_cons.mpr ⟨m0, (List.forall_mem_cons.mpr ⟨m1, (List.forall_mem_cons.mpr ⟨m2, (List.forall_mem_cons.mpr ⟨m3, (fun _ h => absurd h List.not_mem_nil)⟩)⟩)⟩)⟩)
def nX12_turns_2 : Nat → Int → Int → Int → HH → Option HH := iter (fun _ _ _ _ => none) (fun self => bX12_turns_2 self)
theorem nX12_turns_2_s {F : Nat} : nX12_turns_2 (F + 1) = bX12_turns_2 (nX12_turns_2 F) := rfl
theorem wX12_turns_2 {g : SG} (hg : GOK g) {σ0 : SG} : ∀ {F : Nat}, ∀ {x1 : Int} {x2 : Int} {x3 : Int} {h : HH} {b : HH}, nX12_turns_2 F x1 x2 x3 h = some b → WK 204 (.inl none) σ0 (abH 71 119 g b) 2 [(0, aR 71), (1, aI x1), (2, aI x2), (3, aI x3)] [] (abH 71 119 g h) 0 0 := by
  intro F
  have z : ∀ (x1 : Int) (x2 : Int) (x3 : Int) (h : HH) (b : HH), nX12_turns_2 F x1 x2 x3 h = some b → WK 204 (.inl none) σ0 (abH 71 119 g b) 2 [(0, aR 71), (1, aI x1), (2, aI x2), (3, aI x3)] [] (abH 71 119 g h) 0 0 := iter_ind (P := fun (c : Int → Int → Int → HH → Option HH) => ∀ (x1 : Int) (x2 : Int) (x3 : Int) (h : HH) (b : HH), c x1 x2 x3 h = some b → WK 204 (.inl none) σ0 (abH 71 119 g b) 2 [(0, aR 71), (1, aI x1), (2, aI x2), (3, aI x3)] [] (abH 71 119 g h) 0 0) (by
    intro x1 x2 x3 h b q
    cases q) (fun self ih => by
    intro x1 x2 x3 h b q
    exact uX12_turns_2 hg ih q) F
  intro x1 x2 x3 h b q
  exact z _ _ _ _ _ q
def bX12_turns (c2 : Int → Int → Int → HH → Option HH) (x1 : Int) (x2 : Int) (h : HH) : Option HH :=
  c2 x1 x2 0 h
theorem uX12_turns {g : SG} (hg : GOK g) {σ0 : SG} {c2 : Int → Int → Int → HH → Option HH} (k2 : ∀ (x1 : Int) (x2 : Int) (x3 : Int) (h : HH) (b : HH), c2 x1 x2 x3 h = some b → WK 204 (.inl none) σ0 (abH 71 119 g b) 2 [(0, aR 71), (1, aI x1), (2, aI x2), (3, aI x3)] [] (abH 71 119 g h) 0 0) : ∀ {x1 : Int} {x2 : Int} {h : HH} {b : HH}, bX12_turns c2 x1 x2 h = some b → WK 204 (.inl none) σ0 (abH 71 119 g b) 0 [(0, aR 71), (1, aI x1), (2, aI x2)] [] (abH 71 119 g h) 0 0 := by
  intro x1 x2 h b q
  have e : bX12_turns c2 x1 x2 h = segW 71 119 g.2.2.2.2 krWV clN csX12_turns (cuC 2 (fun l st s => tkC 0 71 l <| tkI 1 l fun x1 => tkI 2 l fun x2 => tkI 3 l fun x3 => skE st (c2 x1 x2 x3 s)) cuN) 1000 0 [(0, aR 71), (1, aI x1), (2, aI x2)] [] h := rfl
  rw [e] at q
  clear e
  refine segW_wk (by decide) (by decide) hg rwX12_turns CLKW_N krWV_ok ?_ q
  clear q
  refine ct_C ?_ (ct_N)
  · intro l st h q
    obtain ⟨m0, q1⟩ := tkC_of q
    obtain ⟨x1, m1, q2⟩ := tkI_of q1
    obtain ⟨x2, m2, q3⟩ := tkI_of q2
    obtain ⟨x3, m3, q4⟩ := tkI_of q3
    obtain ⟨rfl, q5⟩ := skE_of q4
    exact WK_less (k2 _ _ _ _ _ q5) (List.forall_mem_cons.mpr ⟨m0, (List.forall_mem_cons.mpr ⟨m1, (List.forall_mem_cons.mpr ⟨m2, (List.forall_mem_cons.mpr ⟨m3, (fun _ h => absurd h List.not_mem_nil)⟩)⟩)⟩)⟩)
def nX12_turns (x1 : Int) (x2 : Int) (h : HH) : Option HH := bX12_turns (nX12_turns_2 100000) x1 x2 h
theorem wX12_turns {g : SG} (hg : GOK g) {σ0 : SG} : ∀ {x1 : Int} {x2 : Int} {h : HH} {b : HH}, nX12_turns x1 x2 h = some b → WK 204 (.inl none) σ0 (abH 71 119 g b) 0 [(0, aR 71), (1, aI x1), (2, aI x2)] [] (abH 71 119 g h) 0 0 := by
  intro x1 x2 h b q
  exact uX12_turns hg (fun _ _ _ _ _ q => wX12_turns_2 hg q) q
theorem mX12_turns {g : SG} (hg : GOK g) {h : HH} {x1 : Int} {x2 : Int} {b : HH} (q : nX12_turns x1 x2 h = some b) : MCT 204 [] [aR 71, aI x1, aI x2] (abH 71 119 g h) (.inl none) (abH 71 119 g b) :=
  mct_of (by decide) (MFok 204 (by decide +kernel)) (fun _ => Nat.le_of_ble_eq_true rfl) (wX12_turns hg q)
def pX12_turns {β : Type} (z : Int → Int → HH → Option HH) : PW β := fun as h f => skC 71 as fun as => skI as fun x1 as => skI as fun x2 as => skE as (bnd (z x1 x2 h) fun r => f (.inl none) r)
theorem pX12_turns_ok {β : Type} {g : SG} (hg : GOK g) : CW1 (β := β) 204 (pX12_turns nX12_turns) 71 119 g := fun as h f b q => by
  obtain ⟨as, rfl, q1⟩ := skC_of q
  obtain ⟨x1, as, rfl, q2⟩ := skI_of q1
  obtain ⟨x2, as, rfl, q3⟩ := skI_of q2
  obtain ⟨rfl, q0⟩ := skE_of q3
  obtain ⟨r, z1, z2⟩ := bnd_of q0
  exact ⟨_, _, z2, by decide, mX12_turns hg z1, rfl, rfl, fun z => absurd z (by decide)⟩
def csX12_turned : List (Nat × List (Nat × ARow)) := [(40, [(0, 1, .aload_n 0, 0, 0, 0), (1, 1, .iload_n 1, 0, 0, 0), (2, 3, .invokevirtual 260, 176, 2, 12), (5, 3, .ifCond .eq 22, 27, 0, 0), (8, 1, .iload_n 2, 0, 0, 0), (9, 3, .ifCond .lt 18, 27, 0, 0), (12, 1, .iload_n 3, 0, 0, 0), (13, 1, .aload_n 0, 0, 0, 0), (14, 3, .getfield 79, 12, 26, 2), (17, 1, .iload_n 1, 0, 0, 0), (18, 1, .iaload, 0, 0, 0), (19, 3, .if_icmp .gt 8, 27, 0, 0), (22, 1, .iload_n 2, 0, 0, 0), (23, 1, .iload_n 3, 0, 0, 0), (24, 3, .if_icmp .le 9, 33, 0, 0), (27, 1, .aload_n 0, 0, 0, 0), (28, 1, .iconst 1, 0, 0, 0), (29, 3, .invokevirtual 200, 177, 2, 12), (32, 1, .ireturn, 0, 0, 0), (33, 1, .aload_n 0, 0, 0, 0), (34, 1, .iload_n 1, 0, 0, 0), (35, 3, .invokevirtual 250, 193, 2, 12), (38, 1, .aload_n 0, 0, 0, 0), (39, 1, .iload_n 2, 0, 0, 0)]),
  (100000, [(40, 1, .iload_n 3, 0, 0, 0), (41, 3, .invokevirtual 279, 204, 3, 12), (44, 1, .aload_n 0, 0, 0, 0), (45, 1, .iload_n 1, 0, 0, 0), (46, 3, .invokevirtual 254, 192, 2, 12), (49, 2, .istore 4, 0, 0, 0), (51, 2, .iload 4, 0, 0, 0), (53, 1, .iconst (-1), 0, 0, 0), (54, 3, .if_icmp .ne 9, 63, 0, 0), (57, 1, .aload_n 0, 0, 0, 0), (58, 1, .iconst 2, 0, 0, 0), (59, 3, .invokevirtual 200, 177, 2, 12), (62, 1, .ireturn, 0, 0, 0), (63, 1, .aload_n 0, 0, 0, 0), (64, 3, .invokevirtual 270, 200, 1, 12), (67, 1, .aload_n 0, 0, 0, 0), (68, 1, .iload_n 1, 0, 0, 0), (69, 3, .invokevirtual 257, 194, 2, 12), (72, 1, .aload_n 0, 0, 0, 0), (73, 2, .iload 4, 0, 0, 0), (75, 3, .invokevirtual 209, 178, 2, 12), (78, 1, .ireturn, 0, 0, 0)])]
theorem rwX12_turned : rowsB (mB 205) (mO 205) (mX 205) (mIni 205) (mFr 205) (mLo 205) (mT 205) csX12_turned = true := by decide +kernel
def bX12_turned_27 (f177 : Int → HH → Option (Int × HH)) (h : HH) : Option (Int × HH) :=
  bnd (f177 1 h) fun r1 =>
    some (r1.1, r1.2)
theorem uX12_turned_27 {g : SG} (hg : GOK g) {σ0 : SG} : ∀ {h : HH} {b : (Int × HH)}, bX12_turned_27 nX12_refuse h = some b → WK 205 (.inl (some (aI b.1))) σ0 (abH 71 119 g b.2) 27 [(0, aR 71)] [] (abH 71 119 g h) 0 0 := by
  intro h b q
  have e : ∀ (f177 : Int → HH → Option (Int × HH)) , bX12_turned_27 f177 h = segW 71 119 g.2.2.2.2 krWI (clC 177 (pX12_refuse f177) clN) csX12_turned cuN 1000 27 [(0, aR 71)] [] h := fun _ => rfl
  rw [e nX12_refuse] at q
  clear e
  refine segW_wk (by decide) (by decide) hg rwX12_turned (CLKW_C (pX12_refuse_ok hg) CLKW_N) krWI_ok ?_ q
  clear q
  exact ct_N
def nX12_turned_27 (h : HH) : Option (Int × HH) := bX12_turned_27 nX12_refuse h
theorem wX12_turned_27 {g : SG} (hg : GOK g) {σ0 : SG} : ∀ {h : HH} {b : (Int × HH)}, nX12_turned_27 h = some b → WK 205 (.inl (some (aI b.1))) σ0 (abH 71 119 g b.2) 27 [(0, aR 71)] [] (abH 71 119 g h) 0 0 := by
  intro h b q
  exact uX12_turned_27 hg q
def bX12_turned (f176 : HH → Int → Option Int) (f193 : Int → HH → Option HH) (f204 : Int → Int → HH → Option HH) (f192 : Int → HH → Option (Int × HH)) (f200 : HH → Option HH) (f194 : Int → HH → Option HH) (f178 : Int → HH → Option (Int × HH)) (f177 : Int → HH → Option (Int × HH)) (c27 : HH → Option (Int × HH)) (x1 : Int) (x2 : Int) (x3 : Int) (h : HH) : Option (Int × HH) :=
  bnd (f176 h x1) fun r1 =>
    if r1 = (0 : Int) then
    c27 h
  else
    if x2 < (0 : Int) then
    c27 h
  else
    gd ((0 : Int) ≤ x1 ∧ x1 < (3 : Int)) <|
    if ((h.1 95 x1) : Int) < x3 then
    c27 h
  else
    if (x3 : Int) < x2 then
    c27 h
  else
    bnd (f193 x1 h) fun r2 =>
    bnd (f204 x2 x3 r2) fun r3 =>
    bnd (f192 x1 r3) fun r4 =>
    if r4.1 = ((-1) : Int) then
    bnd (f177 2 r4.2) fun r8 =>
    some (r8.1, r8.2)
  else
    bnd (f200 r4.2) fun r5 =>
    bnd (f194 x1 r5) fun r6 =>
    bnd (f178 r4.1 r6) fun r7 =>
    some (r7.1, r7.2)
set_option maxRecDepth 100000 in
theorem uX12_turned {g : SG} (hg : GOK g) {σ0 : SG} {c27 : HH → Option (Int × HH)} (k27 : ∀ (h : HH) (b : (Int × HH)), c27 h = some b → WK 205 (.inl (some (aI b.1))) σ0 (abH 71 119 g b.2) 27 [(0, aR 71)] [] (abH 71 119 g h) 0 0) : ∀ {x1 : Int} {x2 : Int} {x3 : Int} {h : HH} {b : (Int × HH)}, bX12_turned nX12_isVan nX12_loads nX12_turns nX12_drives nX12_keeps nX12_lays nX12_told nX12_refuse c27 x1 x2 x3 h = some b → WK 205 (.inl (some (aI b.1))) σ0 (abH 71 119 g b.2) 0 [(0, aR 71), (1, aI x1), (2, aI x2), (3, aI x3)] [] (abH 71 119 g h) 0 0 := by
  intro x1 x2 x3 h b q
  have e : ∀ (f176 : HH → Int → Option Int) (f193 : Int → HH → Option HH) (f204 : Int → Int → HH → Option HH) (f192 : Int → HH → Option (Int × HH)) (f200 : HH → Option HH) (f194 : Int → HH → Option HH) (f178 : Int → HH → Option (Int × HH)) (f177 : Int → HH → Option (Int × HH)) , bX12_turned f176 f193 f204 f192 f200 f194 f178 f177 c27 x1 x2 x3 h = segW 71 119 g.2.2.2.2 krWI (clC 176 (liPW (pX12_isVan f176)) (clC 193 (pX12_loads f193) (clC 204 (pX12_turns f204) (clC 192 (pX12_drives f192) (clC 200 (pX12_keeps f200) (clC 194 (pX12_lays f194) (clC 178 (pX12_told f178) (clC 177 (pX12_refuse f177) clN)))))))) csX12_turned (cuC 27 (fun l st s => tkC 0 71 l <| skE st (c27 s)) cuN) 1000 0 [(0, aR 71), (1, aI x1), (2, aI x2), (3, aI x3)] [] h := fun _ _ _ _ _ _ _ _ => rfl
  rw [e nX12_isVan nX12_loads nX12_turns nX12_drives nX12_keeps nX12_lays nX12_told nX12_refuse] at q
  clear e
  refine segW_wk (by decide) (by decide) hg rwX12_turned (CLKW_C (liPW_ok (pX12_isVan_ok hg)) (CLKW_C (pX12_loads_ok hg) (CLKW_C (pX12_turns_ok hg) (CLKW_C (pX12_drives_ok hg) (CLKW_C (pX12_keeps_ok hg) (CLKW_C (pX12_lays_ok hg) (CLKW_C (pX12_told_ok hg) (CLKW_C (pX12_refuse_ok hg) CLKW_N)))))))) krWI_ok ?_ q
  clear q
  refine ct_C ?_ (ct_N)
  · intro l st h q
    obtain ⟨m0, q1⟩ := tkC_of q
    obtain ⟨rfl, q2⟩ := skE_of q1
    exact WK_less (k27 _ _ q2) (List.forall_mem_cons.mpr ⟨m0, (fun _ h => absurd h List.not_mem_nil)⟩)
def nX12_turned (x1 : Int) (x2 : Int) (x3 : Int) (h : HH) : Option (Int × HH) := bX12_turned nX12_isVan nX12_loads nX12_turns nX12_drives nX12_keeps nX12_lays nX12_told nX12_refuse nX12_turned_27 x1 x2 x3 h
theorem wX12_turned {g : SG} (hg : GOK g) {σ0 : SG} : ∀ {x1 : Int} {x2 : Int} {x3 : Int} {h : HH} {b : (Int × HH)}, nX12_turned x1 x2 x3 h = some b → WK 205 (.inl (some (aI b.1))) σ0 (abH 71 119 g b.2) 0 [(0, aR 71), (1, aI x1), (2, aI x2), (3, aI x3)] [] (abH 71 119 g h) 0 0 := by
  intro x1 x2 x3 h b q
  exact uX12_turned hg (fun _ _ q => wX12_turned_27 hg q) q
theorem mX12_turned {g : SG} (hg : GOK g) {h : HH} {x1 : Int} {x2 : Int} {x3 : Int} {b : (Int × HH)} (q : nX12_turned x1 x2 x3 h = some b) : MCT 205 [] [aR 71, aI x1, aI x2, aI x3] (abH 71 119 g h) (.inl (some (aI b.1))) (abH 71 119 g b.2) :=
  mct_of (by decide) (MFok 205 (by decide +kernel)) (fun _ => Nat.le_of_ble_eq_true rfl) (wX12_turned hg q)
def pX12_turned {β : Type} (z : Int → Int → Int → HH → Option (Int × HH)) : PW β := fun as h f => skC 71 as fun as => skI as fun x1 as => skI as fun x2 as => skI as fun x3 as => skE as (bnd (z x1 x2 x3 h) fun r => f (.inl (some (aI r.1))) r.2)
theorem pX12_turned_ok {β : Type} {g : SG} (hg : GOK g) : CW1 (β := β) 205 (pX12_turned nX12_turned) 71 119 g := fun as h f b q => by
  obtain ⟨as, rfl, q1⟩ := skC_of q
  obtain ⟨x1, as, rfl, q2⟩ := skI_of q1
  obtain ⟨x2, as, rfl, q3⟩ := skI_of q2
  obtain ⟨x3, as, rfl, q4⟩ := skI_of q3
  obtain ⟨rfl, q0⟩ := skE_of q4
  obtain ⟨r, z1, z2⟩ := bnd_of q0
  exact ⟨_, _, z2, by decide, mX12_turned hg z1, rfl, rfl, fun z => absurd z (by decide)⟩
def csX12_joins : List (Nat × List (Nat × ARow)) := [(40, [(0, 1, .aload_n 0, 0, 0, 0), (1, 1, .iconst 0, 0, 0, 0), (2, 3, .putfield 241, 12, 51, 0), (5, 1, .iconst 0, 0, 0, 0), (6, 2, .istore 5, 0, 0, 0), (8, 2, .iload 5, 0, 0, 0), (10, 1, .iload_n 2, 0, 0, 0), (11, 3, .if_icmp .ge 40, 51, 0, 0), (14, 1, .aload_n 0, 0, 0, 0), (15, 3, .getfield 127, 12, 47, 2), (18, 1, .aload_n 0, 0, 0, 0), (19, 3, .getfield 241, 12, 51, 0), (22, 1, .aload_n 0, 0, 0, 0), (23, 3, .getfield 76, 12, 25, 2), (26, 2, .bipush 9, 0, 0, 0), (28, 1, .iload_n 1, 0, 0, 0), (29, 1, .imul, 0, 0, 0), (30, 2, .iload 5, 0, 0, 0), (32, 1, .iadd, 0, 0, 0), (33, 1, .iaload, 0, 0, 0), (34, 1, .iastore, 0, 0, 0), (35, 1, .aload_n 0, 0, 0, 0), (36, 1, .dup, 0, 0, 0), (37, 3, .getfield 241, 12, 51, 0)]),
  (89, [(40, 1, .iconst 1, 0, 0, 0), (41, 1, .iadd, 0, 0, 0), (42, 3, .putfield 241, 12, 51, 0), (45, 3, .iinc 5 1, 0, 0, 0), (48, 3, .goto (-40), 8, 0, 0), (51, 2, .iload 4, 0, 0, 0), (53, 2, .istore 5, 0, 0, 0), (55, 2, .iload 5, 0, 0, 0), (57, 1, .aload_n 0, 0, 0, 0), (58, 3, .getfield 79, 12, 26, 2), (61, 1, .iload_n 3, 0, 0, 0), (62, 1, .iaload, 0, 0, 0), (63, 3, .if_icmp .ge 49, 112, 0, 0), (66, 1, .aload_n 0, 0, 0, 0), (67, 3, .getfield 241, 12, 51, 0), (70, 2, .bipush 9, 0, 0, 0), (72, 3, .if_icmp .ge 40, 112, 0, 0), (75, 1, .aload_n 0, 0, 0, 0), (76, 3, .getfield 127, 12, 47, 2), (79, 1, .aload_n 0, 0, 0, 0), (80, 3, .getfield 241, 12, 51, 0), (83, 1, .aload_n 0, 0, 0, 0), (84, 3, .getfield 76, 12, 25, 2), (87, 2, .bipush 9, 0, 0, 0)]),
  (100000, [(89, 1, .iload_n 3, 0, 0, 0), (90, 1, .imul, 0, 0, 0), (91, 2, .iload 5, 0, 0, 0), (93, 1, .iadd, 0, 0, 0), (94, 1, .iaload, 0, 0, 0), (95, 1, .iastore, 0, 0, 0), (96, 1, .aload_n 0, 0, 0, 0), (97, 1, .dup, 0, 0, 0), (98, 3, .getfield 241, 12, 51, 0), (101, 1, .iconst 1, 0, 0, 0), (102, 1, .iadd, 0, 0, 0), (103, 3, .putfield 241, 12, 51, 0), (106, 3, .iinc 5 1, 0, 0, 0), (109, 3, .goto (-54), 55, 0, 0), (112, 1, .return_, 0, 0, 0)])]
theorem rwX12_joins : rowsB (mB 206) (mO 206) (mX 206) (mIni 206) (mFr 206) (mLo 206) (mT 206) csX12_joins = true := by decide +kernel
def bX12_joins_55 (c55 : Int → Int → HH → Option HH) (x3 : Int) (x5 : Int) (h : HH) : Option HH :=
  gd ((0 : Int) ≤ x3 ∧ x3 < (3 : Int)) <|
    if x5 < ((h.1 95 x3) : Int) then
    if (h.1 71 51) < (9 : Int) then
    gd (R32 (9 * x3)) <|
    gd (R32 ((9 * x3) + x5)) <|
    gd ((0 : Int) ≤ ((9 * x3) + x5) ∧ ((9 * x3) + x5) < (27 : Int)) <|
    gd ((0 : Int) ≤ (h.1 71 51) ∧ (h.1 71 51) < (10 : Int)) <|
    bnd (some (hI h 105 (h.1 71 51) (h.1 94 ((9 * x3) + x5)))) fun h1 =>
    gd (R32 ((h1.1 71 51) + 1)) <|
    bnd (some (hI h1 71 51 ((h1.1 71 51) + 1))) fun h2 =>
    gd (R32 (x5 + 1)) <|
    c55 x3 (x5 + 1) h2
  else
    some h
  else
    some h
set_option maxRecDepth 100000 in
theorem uX12_joins_55 {g : SG} (hg : GOK g) {σ0 : SG} {c55 : Int → Int → HH → Option HH} (k55 : ∀ (x3 : Int) (x5 : Int) (h : HH) (b : HH), c55 x3 x5 h = some b → WK 206 (.inl none) σ0 (abH 71 119 g b) 55 [(0, aR 71), (3, aI x3), (5, aI x5)] [] (abH 71 119 g h) 0 0) : ∀ {x3 : Int} {x5 : Int} {h : HH} {b : HH}, bX12_joins_55 c55 x3 x5 h = some b → WK 206 (.inl none) σ0 (abH 71 119 g b) 55 [(0, aR 71), (3, aI x3), (5, aI x5)] [] (abH 71 119 g h) 0 0 := by
  intro x3 x5 h b q
  have e : bX12_joins_55 c55 x3 x5 h = segW 71 119 g.2.2.2.2 krWV clN csX12_joins (cuC 55 (fun l st s => tkC 0 71 l <| tkI 3 l fun x3 => tkI 5 l fun x5 => skE st (c55 x3 x5 s)) cuN) 1000 55 [(0, aR 71), (3, aI x3), (5, aI x5)] [] h := rfl
  rw [e] at q
  clear e
  refine segW_wk (by decide) (by decide) hg rwX12_joins CLKW_N krWV_ok ?_ q
  clear q
  refine ct_C ?_ (ct_N)
  · intro l st h q
    obtain ⟨m0, q1⟩ := tkC_of q
    obtain ⟨x3, m3, q2⟩ := tkI_of q1
    obtain ⟨x5, m5, q3⟩ := tkI_of q2
    obtain ⟨rfl, q4⟩ := skE_of q3
    exact WK_less (k55 _ _ _ _ q4) (List.forall_mem_cons.mpr ⟨m0, (List.forall_mem_cons.mpr ⟨m3, (List.forall_mem_cons.mpr ⟨m5, (fun _ h => absurd h List.not_mem_nil)⟩)⟩)⟩)
def nX12_joins_55 : Nat → Int → Int → HH → Option HH := iter (fun _ _ _ => none) (fun self => bX12_joins_55 self)
theorem nX12_joins_55_s {F : Nat} : nX12_joins_55 (F + 1) = bX12_joins_55 (nX12_joins_55 F) := rfl
theorem wX12_joins_55 {g : SG} (hg : GOK g) {σ0 : SG} : ∀ {F : Nat}, ∀ {x3 : Int} {x5 : Int} {h : HH} {b : HH}, nX12_joins_55 F x3 x5 h = some b → WK 206 (.inl none) σ0 (abH 71 119 g b) 55 [(0, aR 71), (3, aI x3), (5, aI x5)] [] (abH 71 119 g h) 0 0 := by
  intro F
  have z : ∀ (x3 : Int) (x5 : Int) (h : HH) (b : HH), nX12_joins_55 F x3 x5 h = some b → WK 206 (.inl none) σ0 (abH 71 119 g b) 55 [(0, aR 71), (3, aI x3), (5, aI x5)] [] (abH 71 119 g h) 0 0 := iter_ind (P := fun (c : Int → Int → HH → Option HH) => ∀ (x3 : Int) (x5 : Int) (h : HH) (b : HH), c x3 x5 h = some b → WK 206 (.inl none) σ0 (abH 71 119 g b) 55 [(0, aR 71), (3, aI x3), (5, aI x5)] [] (abH 71 119 g h) 0 0) (by
    intro x3 x5 h b q
    cases q) (fun self ih => by
    intro x3 x5 h b q
    exact uX12_joins_55 hg ih q) F
  intro x3 x5 h b q
  exact z _ _ _ _ q
def bX12_joins_8 (c8 : Int → Int → Int → Int → Int → HH → Option HH) (c55 : Int → Int → HH → Option HH) (x1 : Int) (x2 : Int) (x3 : Int) (x4 : Int) (x5 : Int) (h : HH) : Option HH :=
  if x5 < (x2 : Int) then
    gd (R32 (9 * x1)) <|
    gd (R32 ((9 * x1) + x5)) <|
    gd ((0 : Int) ≤ ((9 * x1) + x5) ∧ ((9 * x1) + x5) < (27 : Int)) <|
    gd ((0 : Int) ≤ (h.1 71 51) ∧ (h.1 71 51) < (10 : Int)) <|
    bnd (some (hI h 105 (h.1 71 51) (h.1 94 ((9 * x1) + x5)))) fun h1 =>
    gd (R32 ((h1.1 71 51) + 1)) <|
    bnd (some (hI h1 71 51 ((h1.1 71 51) + 1))) fun h2 =>
    gd (R32 (x5 + 1)) <|
    c8 x1 x2 x3 x4 (x5 + 1) h2
  else
    c55 x3 x4 h
set_option maxRecDepth 100000 in
theorem uX12_joins_8 {g : SG} (hg : GOK g) {σ0 : SG} {c8 : Int → Int → Int → Int → Int → HH → Option HH} {c55 : Int → Int → HH → Option HH} (k8 : ∀ (x1 : Int) (x2 : Int) (x3 : Int) (x4 : Int) (x5 : Int) (h : HH) (b : HH), c8 x1 x2 x3 x4 x5 h = some b → WK 206 (.inl none) σ0 (abH 71 119 g b) 8 [(0, aR 71), (1, aI x1), (2, aI x2), (3, aI x3), (4, aI x4), (5, aI x5)] [] (abH 71 119 g h) 0 0) (k55 : ∀ (x3 : Int) (x5 : Int) (h : HH) (b : HH), c55 x3 x5 h = some b → WK 206 (.inl none) σ0 (abH 71 119 g b) 55 [(0, aR 71), (3, aI x3), (5, aI x5)] [] (abH 71 119 g h) 0 0) : ∀ {x1 : Int} {x2 : Int} {x3 : Int} {x4 : Int} {x5 : Int} {h : HH} {b : HH}, bX12_joins_8 c8 c55 x1 x2 x3 x4 x5 h = some b → WK 206 (.inl none) σ0 (abH 71 119 g b) 8 [(0, aR 71), (1, aI x1), (2, aI x2), (3, aI x3), (4, aI x4), (5, aI x5)] [] (abH 71 119 g h) 0 0 := by
  intro x1 x2 x3 x4 x5 h b q
  have e : bX12_joins_8 c8 c55 x1 x2 x3 x4 x5 h = segW 71 119 g.2.2.2.2 krWV clN csX12_joins (cuC 8 (fun l st s => tkC 0 71 l <| tkI 1 l fun x1 => tkI 2 l fun x2 => tkI 3 l fun x3 => tkI 4 l fun x4 => tkI 5 l fun x5 => skE st (c8 x1 x2 x3 x4 x5 s)) (cuC 55 (fun l st s => tkC 0 71 l <| tkI 3 l fun x3 => tkI 5 l fun x5 => skE st (c55 x3 x5 s)) cuN)) 1000 8 [(0, aR 71), (1, aI x1), (2, aI x2), (3, aI x3), (4, aI x4), (5, aI x5)] [] h := rfl
  rw [e] at q
  clear e
  refine segW_wk (by decide) (by decide) hg rwX12_joins CLKW_N krWV_ok ?_ q
  clear q
  refine ct_C ?_ (ct_C ?_ (ct_N))
  · intro l st h q
    obtain ⟨m0, q1⟩ := tkC_of q
    obtain ⟨x1, m1, q2⟩ := tkI_of q1
    obtain ⟨x2, m2, q3⟩ := tkI_of q2
    obtain ⟨x3, m3, q4⟩ := tkI_of q3
    obtain ⟨x4, m4, q5⟩ := tkI_of q4
    obtain ⟨x5, m5, q6⟩ := tkI_of q5
    obtain ⟨rfl, q7⟩ := skE_of q6
    exact WK_less (k8 _ _ _ _ _ _ _ q7) (List.forall_mem_cons.mpr ⟨m0, (List.forall_mem_cons.mpr ⟨m1, (List.forall_mem_cons.mpr ⟨m2, (List.forall_mem_cons.mpr ⟨m3, (List.forall_mem_cons.mpr ⟨m4, (List.forall_mem_cons.mpr ⟨m5, (fun _ h => absurd h List.not_mem_nil)⟩)⟩)⟩)⟩)⟩)⟩)
  · intro l st h q
    obtain ⟨m0, q1⟩ := tkC_of q
    obtain ⟨x3, m3, q2⟩ := tkI_of q1
    obtain ⟨x5, m5, q3⟩ := tkI_of q2
    obtain ⟨rfl, q4⟩ := skE_of q3
    exact WK_less (k55 _ _ _ _ q4) (List.forall_mem_cons.mpr ⟨m0, (List.forall_mem_cons.mpr ⟨m3, (List.forall_mem_cons.mpr ⟨m5, (fun _ h => absurd h List.not_mem_nil)⟩)⟩)⟩)
def nX12_joins_8 : Nat → Int → Int → Int → Int → Int → HH → Option HH := iter (fun _ _ _ _ _ _ => none) (fun self => bX12_joins_8 self (nX12_joins_55 100000))
theorem nX12_joins_8_s {F : Nat} : nX12_joins_8 (F + 1) = bX12_joins_8 (nX12_joins_8 F) (nX12_joins_55 100000) := rfl
theorem wX12_joins_8 {g : SG} (hg : GOK g) {σ0 : SG} : ∀ {F : Nat}, ∀ {x1 : Int} {x2 : Int} {x3 : Int} {x4 : Int} {x5 : Int} {h : HH} {b : HH}, nX12_joins_8 F x1 x2 x3 x4 x5 h = some b → WK 206 (.inl none) σ0 (abH 71 119 g b) 8 [(0, aR 71), (1, aI x1), (2, aI x2), (3, aI x3), (4, aI x4), (5, aI x5)] [] (abH 71 119 g h) 0 0 := by
  intro F
  have z : ∀ (x1 : Int) (x2 : Int) (x3 : Int) (x4 : Int) (x5 : Int) (h : HH) (b : HH), nX12_joins_8 F x1 x2 x3 x4 x5 h = some b → WK 206 (.inl none) σ0 (abH 71 119 g b) 8 [(0, aR 71), (1, aI x1), (2, aI x2), (3, aI x3), (4, aI x4), (5, aI x5)] [] (abH 71 119 g h) 0 0 := iter_ind (P := fun (c : Int → Int → Int → Int → Int → HH → Option HH) => ∀ (x1 : Int) (x2 : Int) (x3 : Int) (x4 : Int) (x5 : Int) (h : HH) (b : HH), c x1 x2 x3 x4 x5 h = some b → WK 206 (.inl none) σ0 (abH 71 119 g b) 8 [(0, aR 71), (1, aI x1), (2, aI x2), (3, aI x3), (4, aI x4), (5, aI x5)] [] (abH 71 119 g h) 0 0) (by
    intro x1 x2 x3 x4 x5 h b q
    cases q) (fun self ih => by
    intro x1 x2 x3 x4 x5 h b q
    exact uX12_joins_8 hg ih (fun _ _ _ _ q => wX12_joins_55 hg q) q) F
  intro x1 x2 x3 x4 x5 h b q
  exact z _ _ _ _ _ _ _ q
def bX12_joins (c8 : Int → Int → Int → Int → Int → HH → Option HH) (x1 : Int) (x2 : Int) (x3 : Int) (x4 : Int) (h : HH) : Option HH :=
  bnd (some (hI h 71 51 0)) fun h1 =>
    c8 x1 x2 x3 x4 0 h1
theorem uX12_joins {g : SG} (hg : GOK g) {σ0 : SG} {c8 : Int → Int → Int → Int → Int → HH → Option HH} (k8 : ∀ (x1 : Int) (x2 : Int) (x3 : Int) (x4 : Int) (x5 : Int) (h : HH) (b : HH), c8 x1 x2 x3 x4 x5 h = some b → WK 206 (.inl none) σ0 (abH 71 119 g b) 8 [(0, aR 71), (1, aI x1), (2, aI x2), (3, aI x3), (4, aI x4), (5, aI x5)] [] (abH 71 119 g h) 0 0) : ∀ {x1 : Int} {x2 : Int} {x3 : Int} {x4 : Int} {h : HH} {b : HH}, bX12_joins c8 x1 x2 x3 x4 h = some b → WK 206 (.inl none) σ0 (abH 71 119 g b) 0 [(0, aR 71), (1, aI x1), (2, aI x2), (3, aI x3), (4, aI x4)] [] (abH 71 119 g h) 0 0 := by
  intro x1 x2 x3 x4 h b q
  have e : bX12_joins c8 x1 x2 x3 x4 h = segW 71 119 g.2.2.2.2 krWV clN csX12_joins (cuC 8 (fun l st s => tkC 0 71 l <| tkI 1 l fun x1 => tkI 2 l fun x2 => tkI 3 l fun x3 => tkI 4 l fun x4 => tkI 5 l fun x5 => skE st (c8 x1 x2 x3 x4 x5 s)) cuN) 1000 0 [(0, aR 71), (1, aI x1), (2, aI x2), (3, aI x3), (4, aI x4)] [] h := rfl
  rw [e] at q
  clear e
  refine segW_wk (by decide) (by decide) hg rwX12_joins CLKW_N krWV_ok ?_ q
  clear q
  refine ct_C ?_ (ct_N)
  · intro l st h q
    obtain ⟨m0, q1⟩ := tkC_of q
    obtain ⟨x1, m1, q2⟩ := tkI_of q1
    obtain ⟨x2, m2, q3⟩ := tkI_of q2
    obtain ⟨x3, m3, q4⟩ := tkI_of q3
    obtain ⟨x4, m4, q5⟩ := tkI_of q4
    obtain ⟨x5, m5, q6⟩ := tkI_of q5
    obtain ⟨rfl, q7⟩ := skE_of q6
    exact WK_less (k8 _ _ _ _ _ _ _ q7) (List.forall_mem_cons.mpr ⟨m0, (List.forall_mem_cons.mpr ⟨m1, (List.forall_mem_cons.mpr ⟨m2, (List.forall_mem_cons.mpr ⟨m3, (List.forall_mem_cons.mpr ⟨m4, (List.forall_mem_cons.mpr ⟨m5, (fun _ h => absurd h List.not_mem_nil)⟩)⟩)⟩)⟩)⟩)⟩)
def nX12_joins (x1 : Int) (x2 : Int) (x3 : Int) (x4 : Int) (h : HH) : Option HH := bX12_joins (nX12_joins_8 100000) x1 x2 x3 x4 h
theorem wX12_joins {g : SG} (hg : GOK g) {σ0 : SG} : ∀ {x1 : Int} {x2 : Int} {x3 : Int} {x4 : Int} {h : HH} {b : HH}, nX12_joins x1 x2 x3 x4 h = some b → WK 206 (.inl none) σ0 (abH 71 119 g b) 0 [(0, aR 71), (1, aI x1), (2, aI x2), (3, aI x3), (4, aI x4)] [] (abH 71 119 g h) 0 0 := by
  intro x1 x2 x3 x4 h b q
  exact uX12_joins hg (fun _ _ _ _ _ _ _ q => wX12_joins_8 hg q) q
theorem mX12_joins {g : SG} (hg : GOK g) {h : HH} {x1 : Int} {x2 : Int} {x3 : Int} {x4 : Int} {b : HH} (q : nX12_joins x1 x2 x3 x4 h = some b) : MCT 206 [] [aR 71, aI x1, aI x2, aI x3, aI x4] (abH 71 119 g h) (.inl none) (abH 71 119 g b) :=
  mct_of (by decide) (MFok 206 (by decide +kernel)) (fun _ => Nat.le_of_ble_eq_true rfl) (wX12_joins hg q)
def pX12_joins {β : Type} (z : Int → Int → Int → Int → HH → Option HH) : PW β := fun as h f => skC 71 as fun as => skI as fun x1 as => skI as fun x2 as => skI as fun x3 as => skI as fun x4 as => skE as (bnd (z x1 x2 x3 x4 h) fun r => f (.inl none) r)
theorem pX12_joins_ok {β : Type} {g : SG} (hg : GOK g) : CW1 (β := β) 206 (pX12_joins nX12_joins) 71 119 g := fun as h f b q => by
  obtain ⟨as, rfl, q1⟩ := skC_of q
  obtain ⟨x1, as, rfl, q2⟩ := skI_of q1
  obtain ⟨x2, as, rfl, q3⟩ := skI_of q2
  obtain ⟨x3, as, rfl, q4⟩ := skI_of q3
  obtain ⟨x4, as, rfl, q5⟩ := skI_of q4
  obtain ⟨rfl, q0⟩ := skE_of q5
  obtain ⟨r, z1, z2⟩ := bnd_of q0
  exact ⟨_, _, z2, by decide, mX12_joins hg z1, rfl, rfl, fun z => absurd z (by decide)⟩
def csX12_swapEnds : List (Nat × List (Nat × ARow)) := [(45, [(0, 1, .aload_n 0, 0, 0, 0), (1, 1, .iload_n 1, 0, 0, 0), (2, 3, .invokevirtual 260, 176, 2, 12), (5, 3, .ifCond .eq 40, 45, 0, 0), (8, 1, .aload_n 0, 0, 0, 0), (9, 1, .iload_n 3, 0, 0, 0), (10, 3, .invokevirtual 260, 176, 2, 12), (13, 3, .ifCond .eq 32, 45, 0, 0), (16, 1, .iload_n 2, 0, 0, 0), (17, 1, .iconst 0, 0, 0, 0), (18, 1, .aload_n 0, 0, 0, 0), (19, 3, .getfield 79, 12, 26, 2), (22, 1, .iload_n 1, 0, 0, 0), (23, 1, .iaload, 0, 0, 0), (24, 3, .invokestatic 178, 171, 3, 0), (27, 3, .ifCond .eq 18, 45, 0, 0), (30, 2, .iload 4, 0, 0, 0), (32, 1, .iconst 0, 0, 0, 0), (33, 1, .aload_n 0, 0, 0, 0), (34, 3, .getfield 79, 12, 26, 2), (37, 1, .iload_n 3, 0, 0, 0), (38, 1, .iaload, 0, 0, 0), (39, 3, .invokestatic 178, 171, 3, 0), (42, 3, .ifCond .ne 9, 51, 0, 0)]),
  (83, [(45, 1, .aload_n 0, 0, 0, 0), (46, 1, .iconst 1, 0, 0, 0), (47, 3, .invokevirtual 200, 177, 2, 12), (50, 1, .ireturn, 0, 0, 0), (51, 1, .iload_n 1, 0, 0, 0), (52, 1, .iload_n 3, 0, 0, 0), (53, 3, .if_icmp .ne 9, 62, 0, 0), (56, 1, .aload_n 0, 0, 0, 0), (57, 1, .iconst 2, 0, 0, 0), (58, 3, .invokevirtual 200, 177, 2, 12), (61, 1, .ireturn, 0, 0, 0), (62, 1, .aload_n 0, 0, 0, 0), (63, 1, .iload_n 3, 0, 0, 0), (64, 2, .iload 4, 0, 0, 0), (66, 1, .iload_n 1, 0, 0, 0), (67, 1, .iload_n 2, 0, 0, 0), (68, 3, .invokevirtual 282, 206, 5, 12), (71, 1, .aload_n 0, 0, 0, 0), (72, 1, .iload_n 3, 0, 0, 0), (73, 3, .invokevirtual 254, 192, 2, 12), (76, 2, .istore 5, 0, 0, 0), (78, 1, .aload_n 0, 0, 0, 0), (79, 1, .aload_n 0, 0, 0, 0), (80, 3, .getfield 241, 12, 51, 0)]),
  (128, [(83, 3, .putfield 286, 12, 59, 0), (86, 1, .iconst 0, 0, 0, 0), (87, 2, .istore 6, 0, 0, 0), (89, 2, .iload 6, 0, 0, 0), (91, 1, .aload_n 0, 0, 0, 0), (92, 3, .getfield 241, 12, 51, 0), (95, 3, .if_icmp .ge 23, 118, 0, 0), (98, 1, .aload_n 0, 0, 0, 0), (99, 3, .getfield 139, 12, 58, 2), (102, 2, .iload 6, 0, 0, 0), (104, 1, .aload_n 0, 0, 0, 0), (105, 3, .getfield 127, 12, 47, 2), (108, 2, .iload 6, 0, 0, 0), (110, 1, .iaload, 0, 0, 0), (111, 1, .iastore, 0, 0, 0), (112, 3, .iinc 6 1, 0, 0, 0), (115, 3, .goto (-26), 89, 0, 0), (118, 1, .aload_n 0, 0, 0, 0), (119, 1, .iload_n 1, 0, 0, 0), (120, 1, .iload_n 2, 0, 0, 0), (121, 1, .iload_n 3, 0, 0, 0), (122, 2, .iload 4, 0, 0, 0), (124, 3, .invokevirtual 282, 206, 5, 12), (127, 1, .aload_n 0, 0, 0, 0)]),
  (169, [(128, 1, .iload_n 1, 0, 0, 0), (129, 3, .invokevirtual 254, 192, 2, 12), (132, 2, .istore 6, 0, 0, 0), (134, 2, .iload 6, 0, 0, 0), (136, 1, .iconst (-1), 0, 0, 0), (137, 3, .if_icmp .eq 9, 146, 0, 0), (140, 2, .iload 5, 0, 0, 0), (142, 1, .iconst (-1), 0, 0, 0), (143, 3, .if_icmp .ne 9, 152, 0, 0), (146, 1, .aload_n 0, 0, 0, 0), (147, 1, .iconst 3, 0, 0, 0), (148, 3, .invokevirtual 200, 177, 2, 12), (151, 1, .ireturn, 0, 0, 0), (152, 1, .aload_n 0, 0, 0, 0), (153, 3, .invokevirtual 270, 200, 1, 12), (156, 1, .aload_n 0, 0, 0, 0), (157, 3, .getfield 79, 12, 26, 2), (160, 1, .iload_n 3, 0, 0, 0), (161, 1, .iconst 0, 0, 0, 0), (162, 1, .iastore, 0, 0, 0), (163, 1, .aload_n 0, 0, 0, 0), (164, 1, .iload_n 1, 0, 0, 0), (165, 3, .invokevirtual 257, 194, 2, 12), (168, 1, .aload_n 0, 0, 0, 0)]),
  (216, [(169, 1, .aload_n 0, 0, 0, 0), (170, 3, .getfield 286, 12, 59, 0), (173, 3, .putfield 241, 12, 51, 0), (176, 1, .iconst 0, 0, 0, 0), (177, 2, .istore 7, 0, 0, 0), (179, 2, .iload 7, 0, 0, 0), (181, 1, .aload_n 0, 0, 0, 0), (182, 3, .getfield 241, 12, 51, 0), (185, 3, .if_icmp .ge 23, 208, 0, 0), (188, 1, .aload_n 0, 0, 0, 0), (189, 3, .getfield 127, 12, 47, 2), (192, 2, .iload 7, 0, 0, 0), (194, 1, .aload_n 0, 0, 0, 0), (195, 3, .getfield 139, 12, 58, 2), (198, 2, .iload 7, 0, 0, 0), (200, 1, .iaload, 0, 0, 0), (201, 1, .iastore, 0, 0, 0), (202, 3, .iinc 7 1, 0, 0, 0), (205, 3, .goto (-26), 179, 0, 0), (208, 1, .aload_n 0, 0, 0, 0), (209, 1, .iload_n 3, 0, 0, 0), (210, 3, .invokevirtual 257, 194, 2, 12), (213, 1, .aload_n 0, 0, 0, 0), (214, 2, .iload 6, 0, 0, 0)]),
  (100000, [(216, 2, .iload 5, 0, 0, 0), (218, 1, .iadd, 0, 0, 0), (219, 3, .invokevirtual 209, 178, 2, 12), (222, 1, .ireturn, 0, 0, 0)])]
theorem rwX12_swapEnds : rowsB (mB 207) (mO 207) (mX 207) (mIni 207) (mFr 207) (mLo 207) (mT 207) csX12_swapEnds = true := by decide +kernel
def bX12_swapEnds_45 (f177 : Int → HH → Option (Int × HH)) (h : HH) : Option (Int × HH) :=
  bnd (f177 1 h) fun r1 =>
    some (r1.1, r1.2)
theorem uX12_swapEnds_45 {g : SG} (hg : GOK g) {σ0 : SG} : ∀ {h : HH} {b : (Int × HH)}, bX12_swapEnds_45 nX12_refuse h = some b → WK 207 (.inl (some (aI b.1))) σ0 (abH 71 119 g b.2) 45 [(0, aR 71)] [] (abH 71 119 g h) 0 0 := by
  intro h b q
  have e : ∀ (f177 : Int → HH → Option (Int × HH)) , bX12_swapEnds_45 f177 h = segW 71 119 g.2.2.2.2 krWI (clC 177 (pX12_refuse f177) clN) csX12_swapEnds cuN 1000 45 [(0, aR 71)] [] h := fun _ => rfl
  rw [e nX12_refuse] at q
  clear e
  refine segW_wk (by decide) (by decide) hg rwX12_swapEnds (CLKW_C (pX12_refuse_ok hg) CLKW_N) krWI_ok ?_ q
  clear q
  exact ct_N
def nX12_swapEnds_45 (h : HH) : Option (Int × HH) := bX12_swapEnds_45 nX12_refuse h
theorem wX12_swapEnds_45 {g : SG} (hg : GOK g) {σ0 : SG} : ∀ {h : HH} {b : (Int × HH)}, nX12_swapEnds_45 h = some b → WK 207 (.inl (some (aI b.1))) σ0 (abH 71 119 g b.2) 45 [(0, aR 71)] [] (abH 71 119 g h) 0 0 := by
  intro h b q
  exact uX12_swapEnds_45 hg q
def bX12_swapEnds_146 (f177 : Int → HH → Option (Int × HH)) (h : HH) : Option (Int × HH) :=
  bnd (f177 3 h) fun r1 =>
    some (r1.1, r1.2)
theorem uX12_swapEnds_146 {g : SG} (hg : GOK g) {σ0 : SG} : ∀ {h : HH} {b : (Int × HH)}, bX12_swapEnds_146 nX12_refuse h = some b → WK 207 (.inl (some (aI b.1))) σ0 (abH 71 119 g b.2) 146 [(0, aR 71)] [] (abH 71 119 g h) 0 0 := by
  intro h b q
  have e : ∀ (f177 : Int → HH → Option (Int × HH)) , bX12_swapEnds_146 f177 h = segW 71 119 g.2.2.2.2 krWI (clC 177 (pX12_refuse f177) clN) csX12_swapEnds cuN 1000 146 [(0, aR 71)] [] h := fun _ => rfl
  rw [e nX12_refuse] at q
  clear e
  refine segW_wk (by decide) (by decide) hg rwX12_swapEnds (CLKW_C (pX12_refuse_ok hg) CLKW_N) krWI_ok ?_ q
  clear q
  exact ct_N
def nX12_swapEnds_146 (h : HH) : Option (Int × HH) := bX12_swapEnds_146 nX12_refuse h
theorem wX12_swapEnds_146 {g : SG} (hg : GOK g) {σ0 : SG} : ∀ {h : HH} {b : (Int × HH)}, nX12_swapEnds_146 h = some b → WK 207 (.inl (some (aI b.1))) σ0 (abH 71 119 g b.2) 146 [(0, aR 71)] [] (abH 71 119 g h) 0 0 := by
  intro h b q
  exact uX12_swapEnds_146 hg q
def bX12_swapEnds_179 (f194 : Int → HH → Option HH) (f178 : Int → HH → Option (Int × HH)) (c179 : Int → Int → Int → Int → HH → Option (Int × HH)) (x3 : Int) (x5 : Int) (x6 : Int) (x7 : Int) (h : HH) : Option (Int × HH) :=
  if x7 < ((h.1 71 51) : Int) then
    gd ((0 : Int) ≤ x7 ∧ x7 < (10 : Int)) <|
    gd ((0 : Int) ≤ x7 ∧ x7 < (10 : Int)) <|
    bnd (some (hI h 105 x7 (h.1 109 x7))) fun h3 =>
    gd (R32 (x7 + 1)) <|
    c179 x3 x5 x6 (x7 + 1) h3
  else
    bnd (f194 x3 h) fun r1 =>
    gd (R32 (x6 + x5)) <|
    bnd (f178 (x6 + x5) r1) fun r2 =>
    some (r2.1, r2.2)
set_option maxRecDepth 100000 in
theorem uX12_swapEnds_179 {g : SG} (hg : GOK g) {σ0 : SG} {c179 : Int → Int → Int → Int → HH → Option (Int × HH)} (k179 : ∀ (x3 : Int) (x5 : Int) (x6 : Int) (x7 : Int) (h : HH) (b : (Int × HH)), c179 x3 x5 x6 x7 h = some b → WK 207 (.inl (some (aI b.1))) σ0 (abH 71 119 g b.2) 179 [(0, aR 71), (3, aI x3), (5, aI x5), (6, aI x6), (7, aI x7)] [] (abH 71 119 g h) 0 0) : ∀ {x3 : Int} {x5 : Int} {x6 : Int} {x7 : Int} {h : HH} {b : (Int × HH)}, bX12_swapEnds_179 nX12_lays nX12_told c179 x3 x5 x6 x7 h = some b → WK 207 (.inl (some (aI b.1))) σ0 (abH 71 119 g b.2) 179 [(0, aR 71), (3, aI x3), (5, aI x5), (6, aI x6), (7, aI x7)] [] (abH 71 119 g h) 0 0 := by
  intro x3 x5 x6 x7 h b q
  have e : ∀ (f194 : Int → HH → Option HH) (f178 : Int → HH → Option (Int × HH)) , bX12_swapEnds_179 f194 f178 c179 x3 x5 x6 x7 h = segW 71 119 g.2.2.2.2 krWI (clC 194 (pX12_lays f194) (clC 178 (pX12_told f178) clN)) csX12_swapEnds (cuC 179 (fun l st s => tkC 0 71 l <| tkI 3 l fun x3 => tkI 5 l fun x5 => tkI 6 l fun x6 => tkI 7 l fun x7 => skE st (c179 x3 x5 x6 x7 s)) cuN) 1000 179 [(0, aR 71), (3, aI x3), (5, aI x5), (6, aI x6), (7, aI x7)] [] h := fun _ _ => rfl
  rw [e nX12_lays nX12_told] at q
  clear e
  refine segW_wk (by decide) (by decide) hg rwX12_swapEnds (CLKW_C (pX12_lays_ok hg) (CLKW_C (pX12_told_ok hg) CLKW_N)) krWI_ok ?_ q
  clear q
  refine ct_C ?_ (ct_N)
  · intro l st h q
    obtain ⟨m0, q1⟩ := tkC_of q
    obtain ⟨x3, m3, q2⟩ := tkI_of q1
    obtain ⟨x5, m5, q3⟩ := tkI_of q2
    obtain ⟨x6, m6, q4⟩ := tkI_of q3
    obtain ⟨x7, m7, q5⟩ := tkI_of q4
    obtain ⟨rfl, q6⟩ := skE_of q5
    exact WK_less (k179 _ _ _ _ _ _ q6) (List.forall_mem_cons.mpr ⟨m0, (List.forall_mem_cons.mpr ⟨m3, (List.forall_mem_cons.mpr ⟨m5, (List.forall_mem_cons.mpr ⟨m6, (List.forall_mem_cons.mpr ⟨m7, (fun _ h => absurd h List.not_mem_nil)⟩)⟩)⟩)⟩)⟩)
def nX12_swapEnds_179 : Nat → Int → Int → Int → Int → HH → Option (Int × HH) := iter (fun _ _ _ _ _ => none) (fun self => bX12_swapEnds_179 nX12_lays nX12_told self)
theorem nX12_swapEnds_179_s {F : Nat} : nX12_swapEnds_179 (F + 1) = bX12_swapEnds_179 nX12_lays nX12_told (nX12_swapEnds_179 F) := rfl
theorem wX12_swapEnds_179 {g : SG} (hg : GOK g) {σ0 : SG} : ∀ {F : Nat}, ∀ {x3 : Int} {x5 : Int} {x6 : Int} {x7 : Int} {h : HH} {b : (Int × HH)}, nX12_swapEnds_179 F x3 x5 x6 x7 h = some b → WK 207 (.inl (some (aI b.1))) σ0 (abH 71 119 g b.2) 179 [(0, aR 71), (3, aI x3), (5, aI x5), (6, aI x6), (7, aI x7)] [] (abH 71 119 g h) 0 0 := by
  intro F
  have z : ∀ (x3 : Int) (x5 : Int) (x6 : Int) (x7 : Int) (h : HH) (b : (Int × HH)), nX12_swapEnds_179 F x3 x5 x6 x7 h = some b → WK 207 (.inl (some (aI b.1))) σ0 (abH 71 119 g b.2) 179 [(0, aR 71), (3, aI x3), (5, aI x5), (6, aI x6), (7, aI x7)] [] (abH 71 119 g h) 0 0 := iter_ind (P := fun (c : Int → Int → Int → Int → HH → Option (Int × HH)) => ∀ (x3 : Int) (x5 : Int) (x6 : Int) (x7 : Int) (h : HH) (b : (Int × HH)), c x3 x5 x6 x7 h = some b → WK 207 (.inl (some (aI b.1))) σ0 (abH 71 119 g b.2) 179 [(0, aR 71), (3, aI x3), (5, aI x5), (6, aI x6), (7, aI x7)] [] (abH 71 119 g h) 0 0) (by
    intro x3 x5 x6 x7 h b q
    cases q) (fun self ih => by
    intro x3 x5 x6 x7 h b q
    exact uX12_swapEnds_179 hg ih q) F
  intro x3 x5 x6 x7 h b q
  exact z _ _ _ _ _ _ q
def bX12_swapEnds_89 (f206 : Int → Int → Int → Int → HH → Option HH) (f192 : Int → HH → Option (Int × HH)) (f200 : HH → Option HH) (f194 : Int → HH → Option HH) (c89 : Int → Int → Int → Int → Int → Int → HH → Option (Int × HH)) (c146 : HH → Option (Int × HH)) (c179 : Int → Int → Int → Int → HH → Option (Int × HH)) (x1 : Int) (x2 : Int) (x3 : Int) (x4 : Int) (x5 : Int) (x6 : Int) (h : HH) : Option (Int × HH) :=
  if x6 < ((h.1 71 51) : Int) then
    gd ((0 : Int) ≤ x6 ∧ x6 < (10 : Int)) <|
    gd ((0 : Int) ≤ x6 ∧ x6 < (10 : Int)) <|
    bnd (some (hI h 109 x6 (h.1 105 x6))) fun h7 =>
    gd (R32 (x6 + 1)) <|
    c89 x1 x2 x3 x4 x5 (x6 + 1) h7
  else
    bnd (f206 x1 x2 x3 x4 h) fun r1 =>
    bnd (f192 x1 r1) fun r2 =>
    if r2.1 = ((-1) : Int) then
    c146 r2.2
  else
    if x5 = ((-1) : Int) then
    c146 r2.2
  else
    bnd (f200 r2.2) fun r3 =>
    gd ((0 : Int) ≤ x3 ∧ x3 < (3 : Int)) <|
    bnd (some (hI r3 95 x3 0)) fun h4 =>
    bnd (f194 x1 h4) fun r5 =>
    bnd (some (hI r5 71 51 (r5.1 71 59))) fun h6 =>
    c179 x3 x5 r2.1 0 h6
set_option maxRecDepth 100000 in
theorem uX12_swapEnds_89 {g : SG} (hg : GOK g) {σ0 : SG} {c89 : Int → Int → Int → Int → Int → Int → HH → Option (Int × HH)} {c146 : HH → Option (Int × HH)} {c179 : Int → Int → Int → Int → HH → Option (Int × HH)} (k89 : ∀ (x1 : Int) (x2 : Int) (x3 : Int) (x4 : Int) (x5 : Int) (x6 : Int) (h : HH) (b : (Int × HH)), c89 x1 x2 x3 x4 x5 x6 h = some b → WK 207 (.inl (some (aI b.1))) σ0 (abH 71 119 g b.2) 89 [(0, aR 71), (1, aI x1), (2, aI x2), (3, aI x3), (4, aI x4), (5, aI x5), (6, aI x6)] [] (abH 71 119 g h) 0 0) (k146 : ∀ (h : HH) (b : (Int × HH)), c146 h = some b → WK 207 (.inl (some (aI b.1))) σ0 (abH 71 119 g b.2) 146 [(0, aR 71)] [] (abH 71 119 g h) 0 0) (k179 : ∀ (x3 : Int) (x5 : Int) (x6 : Int) (x7 : Int) (h : HH) (b : (Int × HH)), c179 x3 x5 x6 x7 h = some b → WK 207 (.inl (some (aI b.1))) σ0 (abH 71 119 g b.2) 179 [(0, aR 71), (3, aI x3), (5, aI x5), (6, aI x6), (7, aI x7)] [] (abH 71 119 g h) 0 0) : ∀ {x1 : Int} {x2 : Int} {x3 : Int} {x4 : Int} {x5 : Int} {x6 : Int} {h : HH} {b : (Int × HH)}, bX12_swapEnds_89 nX12_joins nX12_drives nX12_keeps nX12_lays c89 c146 c179 x1 x2 x3 x4 x5 x6 h = some b → WK 207 (.inl (some (aI b.1))) σ0 (abH 71 119 g b.2) 89 [(0, aR 71), (1, aI x1), (2, aI x2), (3, aI x3), (4, aI x4), (5, aI x5), (6, aI x6)] [] (abH 71 119 g h) 0 0 := by
  intro x1 x2 x3 x4 x5 x6 h b q
  have e : ∀ (f206 : Int → Int → Int → Int → HH → Option HH) (f192 : Int → HH → Option (Int × HH)) (f200 : HH → Option HH) (f194 : Int → HH → Option HH) , bX12_swapEnds_89 f206 f192 f200 f194 c89 c146 c179 x1 x2 x3 x4 x5 x6 h = segW 71 119 g.2.2.2.2 krWI (clC 206 (pX12_joins f206) (clC 192 (pX12_drives f192) (clC 200 (pX12_keeps f200) (clC 194 (pX12_lays f194) clN)))) csX12_swapEnds (cuC 89 (fun l st s => tkC 0 71 l <| tkI 1 l fun x1 => tkI 2 l fun x2 => tkI 3 l fun x3 => tkI 4 l fun x4 => tkI 5 l fun x5 => tkI 6 l fun x6 => skE st (c89 x1 x2 x3 x4 x5 x6 s)) (cuC 146 (fun l st s => tkC 0 71 l <| skE st (c146 s)) (cuC 179 (fun l st s => tkC 0 71 l <| tkI 3 l fun x3 => tkI 5 l fun x5 => tkI 6 l fun x6 => tkI 7 l fun x7 => skE st (c179 x3 x5 x6 x7 s)) cuN))) 1000 89 [(0, aR 71), (1, aI x1), (2, aI x2), (3, aI x3), (4, aI x4), (5, aI x5), (6, aI x6)] [] h := fun _ _ _ _ => rfl
  rw [e nX12_joins nX12_drives nX12_keeps nX12_lays] at q
  clear e
  refine segW_wk (by decide) (by decide) hg rwX12_swapEnds (CLKW_C (pX12_joins_ok hg) (CLKW_C (pX12_drives_ok hg) (CLKW_C (pX12_keeps_ok hg) (CLKW_C (pX12_lays_ok hg) CLKW_N)))) krWI_ok ?_ q
  clear q
  refine ct_C ?_ (ct_C ?_ (ct_C ?_ (ct_N)))
  · intro l st h q
    obtain ⟨m0, q1⟩ := tkC_of q
    obtain ⟨x1, m1, q2⟩ := tkI_of q1
    obtain ⟨x2, m2, q3⟩ := tkI_of q2
    obtain ⟨x3, m3, q4⟩ := tkI_of q3
    obtain ⟨x4, m4, q5⟩ := tkI_of q4
    obtain ⟨x5, m5, q6⟩ := tkI_of q5
    obtain ⟨x6, m6, q7⟩ := tkI_of q6
    obtain ⟨rfl, q8⟩ := skE_of q7
    exact WK_less (k89 _ _ _ _ _ _ _ _ q8) (List.forall_mem_cons.mpr ⟨m0, (List.forall_mem_cons.mpr ⟨m1, (List.forall_mem_cons.mpr ⟨m2, (List.forall_mem_cons.mpr ⟨m3, (List.forall_mem_cons.mpr ⟨m4, (List.forall_mem_cons.mpr ⟨m5, (List.forall_mem_cons.mpr ⟨m6, (fun _ h => absurd h List.not_mem_nil)⟩)⟩)⟩)⟩)⟩)⟩)⟩)
  · intro l st h q
    obtain ⟨m0, q1⟩ := tkC_of q
    obtain ⟨rfl, q2⟩ := skE_of q1
    exact WK_less (k146 _ _ q2) (List.forall_mem_cons.mpr ⟨m0, (fun _ h => absurd h List.not_mem_nil)⟩)
  · intro l st h q
    obtain ⟨m0, q1⟩ := tkC_of q
    obtain ⟨x3, m3, q2⟩ := tkI_of q1
    obtain ⟨x5, m5, q3⟩ := tkI_of q2
    obtain ⟨x6, m6, q4⟩ := tkI_of q3
    obtain ⟨x7, m7, q5⟩ := tkI_of q4
    obtain ⟨rfl, q6⟩ := skE_of q5
    exact WK_less (k179 _ _ _ _ _ _ q6) (List.forall_mem_cons.mpr ⟨m0, (List.forall_mem_cons.mpr ⟨m3, (List.forall_mem_cons.mpr ⟨m5, (List.forall_mem_cons.mpr ⟨m6, (List.forall_mem_cons.mpr ⟨m7, (fun _ h => absurd h List.not_mem_nil)⟩)⟩)⟩)⟩)⟩)
def nX12_swapEnds_89 : Nat → Int → Int → Int → Int → Int → Int → HH → Option (Int × HH) := iter (fun _ _ _ _ _ _ _ => none) (fun self => bX12_swapEnds_89 nX12_joins nX12_drives nX12_keeps nX12_lays self nX12_swapEnds_146 (nX12_swapEnds_179 100000))
theorem nX12_swapEnds_89_s {F : Nat} : nX12_swapEnds_89 (F + 1) = bX12_swapEnds_89 nX12_joins nX12_drives nX12_keeps nX12_lays (nX12_swapEnds_89 F) nX12_swapEnds_146 (nX12_swapEnds_179 100000) := rfl
theorem wX12_swapEnds_89 {g : SG} (hg : GOK g) {σ0 : SG} : ∀ {F : Nat}, ∀ {x1 : Int} {x2 : Int} {x3 : Int} {x4 : Int} {x5 : Int} {x6 : Int} {h : HH} {b : (Int × HH)}, nX12_swapEnds_89 F x1 x2 x3 x4 x5 x6 h = some b → WK 207 (.inl (some (aI b.1))) σ0 (abH 71 119 g b.2) 89 [(0, aR 71), (1, aI x1), (2, aI x2), (3, aI x3), (4, aI x4), (5, aI x5), (6, aI x6)] [] (abH 71 119 g h) 0 0 := by
  intro F
  have z : ∀ (x1 : Int) (x2 : Int) (x3 : Int) (x4 : Int) (x5 : Int) (x6 : Int) (h : HH) (b : (Int × HH)), nX12_swapEnds_89 F x1 x2 x3 x4 x5 x6 h = some b → WK 207 (.inl (some (aI b.1))) σ0 (abH 71 119 g b.2) 89 [(0, aR 71), (1, aI x1), (2, aI x2), (3, aI x3), (4, aI x4), (5, aI x5), (6, aI x6)] [] (abH 71 119 g h) 0 0 := iter_ind (P := fun (c : Int → Int → Int → Int → Int → Int → HH → Option (Int × HH)) => ∀ (x1 : Int) (x2 : Int) (x3 : Int) (x4 : Int) (x5 : Int) (x6 : Int) (h : HH) (b : (Int × HH)), c x1 x2 x3 x4 x5 x6 h = some b → WK 207 (.inl (some (aI b.1))) σ0 (abH 71 119 g b.2) 89 [(0, aR 71), (1, aI x1), (2, aI x2), (3, aI x3), (4, aI x4), (5, aI x5), (6, aI x6)] [] (abH 71 119 g h) 0 0) (by
    intro x1 x2 x3 x4 x5 x6 h b q
    cases q) (fun self ih => by
    intro x1 x2 x3 x4 x5 x6 h b q
    exact uX12_swapEnds_89 hg ih (fun _ _ q => wX12_swapEnds_146 hg q) (fun _ _ _ _ _ _ q => wX12_swapEnds_179 hg q) q) F
  intro x1 x2 x3 x4 x5 x6 h b q
  exact z _ _ _ _ _ _ _ _ q
def bX12_swapEnds (f176 : HH → Int → Option Int) (f171 : HH → Int → Int → Int → Option Int) (f206 : Int → Int → Int → Int → HH → Option HH) (f192 : Int → HH → Option (Int × HH)) (f177 : Int → HH → Option (Int × HH)) (c45 : HH → Option (Int × HH)) (c89 : Int → Int → Int → Int → Int → Int → HH → Option (Int × HH)) (x1 : Int) (x2 : Int) (x3 : Int) (x4 : Int) (h : HH) : Option (Int × HH) :=
  bnd (f176 h x1) fun r1 =>
    if r1 = (0 : Int) then
    c45 h
  else
    bnd (f176 h x3) fun r2 =>
    if r2 = (0 : Int) then
    c45 h
  else
    gd ((0 : Int) ≤ x1 ∧ x1 < (3 : Int)) <|
    bnd (f171 h x2 0 (h.1 95 x1)) fun r3 =>
    if r3 = (0 : Int) then
    c45 h
  else
    gd ((0 : Int) ≤ x3 ∧ x3 < (3 : Int)) <|
    bnd (f171 h x4 0 (h.1 95 x3)) fun r4 =>
    if r4 = (0 : Int) then
    c45 h
  else
    if x1 = (x3 : Int) then
    bnd (f177 2 h) fun r8 =>
    some (r8.1, r8.2)
  else
    bnd (f206 x3 x4 x1 x2 h) fun r5 =>
    bnd (f192 x3 r5) fun r6 =>
    bnd (some (hI r6.2 71 59 (r6.2.1 71 51))) fun h7 =>
    c89 x1 x2 x3 x4 r6.1 0 h7
set_option maxRecDepth 100000 in
theorem uX12_swapEnds {g : SG} (hg : GOK g) {σ0 : SG} {c45 : HH → Option (Int × HH)} {c89 : Int → Int → Int → Int → Int → Int → HH → Option (Int × HH)} (k45 : ∀ (h : HH) (b : (Int × HH)), c45 h = some b → WK 207 (.inl (some (aI b.1))) σ0 (abH 71 119 g b.2) 45 [(0, aR 71)] [] (abH 71 119 g h) 0 0) (k89 : ∀ (x1 : Int) (x2 : Int) (x3 : Int) (x4 : Int) (x5 : Int) (x6 : Int) (h : HH) (b : (Int × HH)), c89 x1 x2 x3 x4 x5 x6 h = some b → WK 207 (.inl (some (aI b.1))) σ0 (abH 71 119 g b.2) 89 [(0, aR 71), (1, aI x1), (2, aI x2), (3, aI x3), (4, aI x4), (5, aI x5), (6, aI x6)] [] (abH 71 119 g h) 0 0) : ∀ {x1 : Int} {x2 : Int} {x3 : Int} {x4 : Int} {h : HH} {b : (Int × HH)}, bX12_swapEnds nX12_isVan nX12_in nX12_joins nX12_drives nX12_refuse c45 c89 x1 x2 x3 x4 h = some b → WK 207 (.inl (some (aI b.1))) σ0 (abH 71 119 g b.2) 0 [(0, aR 71), (1, aI x1), (2, aI x2), (3, aI x3), (4, aI x4)] [] (abH 71 119 g h) 0 0 := by
  intro x1 x2 x3 x4 h b q
  have e : ∀ (f176 : HH → Int → Option Int) (f171 : HH → Int → Int → Int → Option Int) (f206 : Int → Int → Int → Int → HH → Option HH) (f192 : Int → HH → Option (Int × HH)) (f177 : Int → HH → Option (Int × HH)) , bX12_swapEnds f176 f171 f206 f192 f177 c45 c89 x1 x2 x3 x4 h = segW 71 119 g.2.2.2.2 krWI (clC 176 (liPW (pX12_isVan f176)) (clC 171 (liPW (pX12_in f171)) (clC 206 (pX12_joins f206) (clC 192 (pX12_drives f192) (clC 177 (pX12_refuse f177) clN))))) csX12_swapEnds (cuC 45 (fun l st s => tkC 0 71 l <| skE st (c45 s)) (cuC 89 (fun l st s => tkC 0 71 l <| tkI 1 l fun x1 => tkI 2 l fun x2 => tkI 3 l fun x3 => tkI 4 l fun x4 => tkI 5 l fun x5 => tkI 6 l fun x6 => skE st (c89 x1 x2 x3 x4 x5 x6 s)) cuN)) 1000 0 [(0, aR 71), (1, aI x1), (2, aI x2), (3, aI x3), (4, aI x4)] [] h := fun _ _ _ _ _ => rfl
  rw [e nX12_isVan nX12_in nX12_joins nX12_drives nX12_refuse] at q
  clear e
  refine segW_wk (by decide) (by decide) hg rwX12_swapEnds (CLKW_C (liPW_ok (pX12_isVan_ok hg)) (CLKW_C (liPW_ok (pX12_in_ok hg)) (CLKW_C (pX12_joins_ok hg) (CLKW_C (pX12_drives_ok hg) (CLKW_C (pX12_refuse_ok hg) CLKW_N))))) krWI_ok ?_ q
  clear q
  refine ct_C ?_ (ct_C ?_ (ct_N))
  · intro l st h q
    obtain ⟨m0, q1⟩ := tkC_of q
    obtain ⟨rfl, q2⟩ := skE_of q1
    exact WK_less (k45 _ _ q2) (List.forall_mem_cons.mpr ⟨m0, (fun _ h => absurd h List.not_mem_nil)⟩)
  · intro l st h q
    obtain ⟨m0, q1⟩ := tkC_of q
    obtain ⟨x1, m1, q2⟩ := tkI_of q1
    obtain ⟨x2, m2, q3⟩ := tkI_of q2
    obtain ⟨x3, m3, q4⟩ := tkI_of q3
    obtain ⟨x4, m4, q5⟩ := tkI_of q4
    obtain ⟨x5, m5, q6⟩ := tkI_of q5
    obtain ⟨x6, m6, q7⟩ := tkI_of q6
    obtain ⟨rfl, q8⟩ := skE_of q7
    exact WK_less (k89 _ _ _ _ _ _ _ _ q8) (List.forall_mem_cons.mpr ⟨m0, (List.forall_mem_cons.mpr ⟨m1, (List.forall_mem_cons.mpr ⟨m2, (List.forall_mem_cons.mpr ⟨m3, (List.forall_mem_cons.mpr ⟨m4, (List.forall_mem_cons.mpr ⟨m5, (List.forall_mem_cons.mpr ⟨m6, (fun _ h => absurd h List.not_mem_nil)⟩)⟩)⟩)⟩)⟩)⟩)⟩)
def nX12_swapEnds (x1 : Int) (x2 : Int) (x3 : Int) (x4 : Int) (h : HH) : Option (Int × HH) := bX12_swapEnds nX12_isVan nX12_in nX12_joins nX12_drives nX12_refuse nX12_swapEnds_45 (nX12_swapEnds_89 100000) x1 x2 x3 x4 h
theorem wX12_swapEnds {g : SG} (hg : GOK g) {σ0 : SG} : ∀ {x1 : Int} {x2 : Int} {x3 : Int} {x4 : Int} {h : HH} {b : (Int × HH)}, nX12_swapEnds x1 x2 x3 x4 h = some b → WK 207 (.inl (some (aI b.1))) σ0 (abH 71 119 g b.2) 0 [(0, aR 71), (1, aI x1), (2, aI x2), (3, aI x3), (4, aI x4)] [] (abH 71 119 g h) 0 0 := by
  intro x1 x2 x3 x4 h b q
  exact uX12_swapEnds hg (fun _ _ q => wX12_swapEnds_45 hg q) (fun _ _ _ _ _ _ _ _ q => wX12_swapEnds_89 hg q) q
theorem mX12_swapEnds {g : SG} (hg : GOK g) {h : HH} {x1 : Int} {x2 : Int} {x3 : Int} {x4 : Int} {b : (Int × HH)} (q : nX12_swapEnds x1 x2 x3 x4 h = some b) : MCT 207 [] [aR 71, aI x1, aI x2, aI x3, aI x4] (abH 71 119 g h) (.inl (some (aI b.1))) (abH 71 119 g b.2) :=
  mct_of (by decide) (MFok 207 (by decide +kernel)) (fun _ => Nat.le_of_ble_eq_true rfl) (wX12_swapEnds hg q)
def pX12_swapEnds {β : Type} (z : Int → Int → Int → Int → HH → Option (Int × HH)) : PW β := fun as h f => skC 71 as fun as => skI as fun x1 as => skI as fun x2 as => skI as fun x3 as => skI as fun x4 as => skE as (bnd (z x1 x2 x3 x4 h) fun r => f (.inl (some (aI r.1))) r.2)
theorem pX12_swapEnds_ok {β : Type} {g : SG} (hg : GOK g) : CW1 (β := β) 207 (pX12_swapEnds nX12_swapEnds) 71 119 g := fun as h f b q => by
  obtain ⟨as, rfl, q1⟩ := skC_of q
  obtain ⟨x1, as, rfl, q2⟩ := skI_of q1
  obtain ⟨x2, as, rfl, q3⟩ := skI_of q2
  obtain ⟨x3, as, rfl, q4⟩ := skI_of q3
  obtain ⟨x4, as, rfl, q5⟩ := skI_of q4
  obtain ⟨rfl, q0⟩ := skE_of q5
  obtain ⟨r, z1, z2⟩ := bnd_of q0
  exact ⟨_, _, z2, by decide, mX12_swapEnds hg z1, rfl, rfl, fun z => absurd z (by decide)⟩
def csX12_isAheadOfBest : List (Nat × List (Nat × ARow)) := [(40, [(0, 1, .iconst 0, 0, 0, 0), (1, 1, .istore_n 1, 0, 0, 0), (2, 1, .iload_n 1, 0, 0, 0), (3, 1, .aload_n 0, 0, 0, 0), (4, 3, .getfield 241, 12, 51, 0), (7, 3, .if_icmp .ge 53, 60, 0, 0), (10, 1, .iload_n 1, 0, 0, 0), (11, 1, .aload_n 0, 0, 0, 0), (12, 3, .getfield 289, 12, 52, 0), (15, 3, .if_icmp .ge 45, 60, 0, 0), (18, 1, .aload_n 0, 0, 0, 0), (19, 3, .getfield 127, 12, 47, 2), (22, 1, .iload_n 1, 0, 0, 0), (23, 1, .iaload, 0, 0, 0), (24, 1, .aload_n 0, 0, 0, 0), (25, 3, .getfield 130, 12, 48, 2), (28, 1, .iload_n 1, 0, 0, 0), (29, 1, .iaload, 0, 0, 0), (30, 3, .if_icmp .eq 24, 54, 0, 0), (33, 1, .aload_n 0, 0, 0, 0), (34, 3, .getfield 127, 12, 47, 2), (37, 1, .iload_n 1, 0, 0, 0), (38, 1, .iaload, 0, 0, 0), (39, 1, .aload_n 0, 0, 0, 0)]),
  (100000, [(40, 3, .getfield 130, 12, 48, 2), (43, 1, .iload_n 1, 0, 0, 0), (44, 1, .iaload, 0, 0, 0), (45, 3, .if_icmp .ge 7, 52, 0, 0), (48, 1, .iconst 1, 0, 0, 0), (49, 3, .goto 4, 53, 0, 0), (52, 1, .iconst 0, 0, 0, 0), (53, 1, .ireturn, 1, 0, 0), (54, 3, .iinc 1 1, 0, 0, 0), (57, 3, .goto (-55), 2, 0, 0), (60, 1, .aload_n 0, 0, 0, 0), (61, 3, .getfield 241, 12, 51, 0), (64, 1, .aload_n 0, 0, 0, 0), (65, 3, .getfield 289, 12, 52, 0), (68, 3, .if_icmp .ge 7, 75, 0, 0), (71, 1, .iconst 1, 0, 0, 0), (72, 3, .goto 4, 76, 0, 0), (75, 1, .iconst 0, 0, 0, 0), (76, 1, .ireturn, 1, 0, 0)])]
theorem rwX12_isAheadOfBest : rowsB (mB 208) (mO 208) (mX 208) (mIni 208) (mFr 208) (mLo 208) (mT 208) csX12_isAheadOfBest = true := by decide +kernel
def bX12_isAheadOfBest_60 (h : HH) : Option Int :=
  if (h.1 71 51) < ((h.1 71 52) : Int) then
    gd ((0 : Int) ≤ 1 ∧ 1 ≤ (1 : Int)) <|
    some 1
  else
    gd ((0 : Int) ≤ 0 ∧ 0 ≤ (1 : Int)) <|
    some 0
theorem uX12_isAheadOfBest_60 {g : SG} (hg : GOK g) {σ0 : SG} {h : HH} : ∀ {b : Int}, bX12_isAheadOfBest_60 h = some b → WK 208 (.inl (some (aI b))) σ0 (abH 71 119 g h) 60 [(0, aR 71)] [] (abH 71 119 g h) 0 0 := by
  intro  b q
  have e : bX12_isAheadOfBest_60 h = segP 71 119 g.2.2.2.2 h krPI clNP csX12_isAheadOfBest cuN 1000 60 [(0, aR 71)] [] := rfl
  rw [e] at q
  clear e
  refine segP_wk (by decide) (by decide) hg rwX12_isAheadOfBest CLKP_N krPI_ok ?_ q
  clear q
  exact ct_N
def nX12_isAheadOfBest_60 (h : HH) : Option Int := bX12_isAheadOfBest_60 h
theorem wX12_isAheadOfBest_60 {g : SG} (hg : GOK g) {σ0 : SG} {h : HH} : ∀ {b : Int}, nX12_isAheadOfBest_60 h = some b → WK 208 (.inl (some (aI b))) σ0 (abH 71 119 g h) 60 [(0, aR 71)] [] (abH 71 119 g h) 0 0 := by
  intro  b q
  exact uX12_isAheadOfBest_60 hg q
def bX12_isAheadOfBest_2 (h : HH) (c2 : Int → Option Int) (c60 : Option Int) (x1 : Int) : Option Int :=
  if x1 < ((h.1 71 51) : Int) then
    if x1 < ((h.1 71 52) : Int) then
    gd ((0 : Int) ≤ x1 ∧ x1 < (10 : Int)) <|
    gd ((0 : Int) ≤ x1 ∧ x1 < (10 : Int)) <|
    if (h.1 105 x1) = ((h.1 106 x1) : Int) then
    gd (R32 (x1 + 1)) <|
    c2 (x1 + 1)
  else
    gd ((0 : Int) ≤ x1 ∧ x1 < (10 : Int)) <|
    gd ((0 : Int) ≤ x1 ∧ x1 < (10 : Int)) <|
    if (h.1 105 x1) < ((h.1 106 x1) : Int) then
    gd ((0 : Int) ≤ 1 ∧ 1 ≤ (1 : Int)) <|
    some 1
  else
    gd ((0 : Int) ≤ 0 ∧ 0 ≤ (1 : Int)) <|
    some 0
  else
    c60
  else
    c60
set_option maxRecDepth 100000 in
theorem uX12_isAheadOfBest_2 {g : SG} (hg : GOK g) {σ0 : SG} {h : HH} {c2 : Int → Option Int} {c60 : Option Int} (k2 : ∀ (x1 : Int) (b : Int), c2 x1 = some b → WK 208 (.inl (some (aI b))) σ0 (abH 71 119 g h) 2 [(0, aR 71), (1, aI x1)] [] (abH 71 119 g h) 0 0) (k60 : ∀ (b : Int), c60 = some b → WK 208 (.inl (some (aI b))) σ0 (abH 71 119 g h) 60 [(0, aR 71)] [] (abH 71 119 g h) 0 0) : ∀ {x1 : Int} {b : Int}, bX12_isAheadOfBest_2 h c2 c60 x1 = some b → WK 208 (.inl (some (aI b))) σ0 (abH 71 119 g h) 2 [(0, aR 71), (1, aI x1)] [] (abH 71 119 g h) 0 0 := by
  intro x1 b q
  have e : bX12_isAheadOfBest_2 h c2 c60 x1 = segP 71 119 g.2.2.2.2 h krPI clNP csX12_isAheadOfBest (cuC 2 (fun l st s => tkC 0 71 l <| tkI 1 l fun x1 => skE st (c2 x1)) (cuC 60 (fun l st s => tkC 0 71 l <| skE st (c60)) cuN)) 1000 2 [(0, aR 71), (1, aI x1)] [] := rfl
  rw [e] at q
  clear e
  refine segP_wk (by decide) (by decide) hg rwX12_isAheadOfBest CLKP_N krPI_ok ?_ q
  clear q
  refine ct_C ?_ (ct_C ?_ (ct_N))
  · intro l st _ q
    obtain ⟨m0, q1⟩ := tkC_of q
    obtain ⟨x1, m1, q2⟩ := tkI_of q1
    obtain ⟨rfl, q3⟩ := skE_of q2
    exact WK_less (k2 _ _ q3) (List.forall_mem_cons.mpr ⟨m0, (List.forall_mem_cons.mpr ⟨m1, (fun _ h => absurd h List.not_mem_nil)⟩)⟩)
  · intro l st _ q
    obtain ⟨m0, q1⟩ := tkC_of q
    obtain ⟨rfl, q2⟩ := skE_of q1
    exact WK_less (k60 _ q2) (List.forall_mem_cons.mpr ⟨m0, (fun _ h => absurd h List.not_mem_nil)⟩)
def nX12_isAheadOfBest_2 (h : HH) : Nat → Int → Option Int := iter (fun _ => none) (fun self => bX12_isAheadOfBest_2 h self (nX12_isAheadOfBest_60 h))
theorem nX12_isAheadOfBest_2_s {h : HH} {F : Nat} : nX12_isAheadOfBest_2 h (F + 1) = bX12_isAheadOfBest_2 h (nX12_isAheadOfBest_2 h F) (nX12_isAheadOfBest_60 h) := rfl
theorem wX12_isAheadOfBest_2 {g : SG} (hg : GOK g) {σ0 : SG} {h : HH} : ∀ {F : Nat}, ∀ {x1 : Int} {b : Int}, nX12_isAheadOfBest_2 h F x1 = some b → WK 208 (.inl (some (aI b))) σ0 (abH 71 119 g h) 2 [(0, aR 71), (1, aI x1)] [] (abH 71 119 g h) 0 0 := by
  intro F
  have z : ∀ (x1 : Int) (b : Int), nX12_isAheadOfBest_2 h F x1 = some b → WK 208 (.inl (some (aI b))) σ0 (abH 71 119 g h) 2 [(0, aR 71), (1, aI x1)] [] (abH 71 119 g h) 0 0 := iter_ind (P := fun (c : Int → Option Int) => ∀ (x1 : Int) (b : Int), c x1 = some b → WK 208 (.inl (some (aI b))) σ0 (abH 71 119 g h) 2 [(0, aR 71), (1, aI x1)] [] (abH 71 119 g h) 0 0) (by
    intro x1 b q
    cases q) (fun self ih => by
    intro x1 b q
    exact uX12_isAheadOfBest_2 hg ih (fun _ q => wX12_isAheadOfBest_60 hg q) q) F
  intro x1 b q
  exact z _ _ q
def bX12_isAheadOfBest (h : HH) (c2 : Int → Option Int) : Option Int :=
  c2 0
theorem uX12_isAheadOfBest {g : SG} (hg : GOK g) {σ0 : SG} {h : HH} {c2 : Int → Option Int} (k2 : ∀ (x1 : Int) (b : Int), c2 x1 = some b → WK 208 (.inl (some (aI b))) σ0 (abH 71 119 g h) 2 [(0, aR 71), (1, aI x1)] [] (abH 71 119 g h) 0 0) : ∀ {b : Int}, bX12_isAheadOfBest h c2 = some b → WK 208 (.inl (some (aI b))) σ0 (abH 71 119 g h) 0 [(0, aR 71)] [] (abH 71 119 g h) 0 0 := by
  intro  b q
  have e : bX12_isAheadOfBest h c2 = segP 71 119 g.2.2.2.2 h krPI clNP csX12_isAheadOfBest (cuC 2 (fun l st s => tkC 0 71 l <| tkI 1 l fun x1 => skE st (c2 x1)) cuN) 1000 0 [(0, aR 71)] [] := rfl
  rw [e] at q
  clear e
  refine segP_wk (by decide) (by decide) hg rwX12_isAheadOfBest CLKP_N krPI_ok ?_ q
  clear q
  refine ct_C ?_ (ct_N)
  · intro l st _ q
    obtain ⟨m0, q1⟩ := tkC_of q
    obtain ⟨x1, m1, q2⟩ := tkI_of q1
    obtain ⟨rfl, q3⟩ := skE_of q2
    exact WK_less (k2 _ _ q3) (List.forall_mem_cons.mpr ⟨m0, (List.forall_mem_cons.mpr ⟨m1, (fun _ h => absurd h List.not_mem_nil)⟩)⟩)
def nX12_isAheadOfBest (h : HH) : Option Int := bX12_isAheadOfBest h (nX12_isAheadOfBest_2 h 100000)
theorem wX12_isAheadOfBest {g : SG} (hg : GOK g) {σ0 : SG} {h : HH} : ∀ {b : Int}, nX12_isAheadOfBest h = some b → WK 208 (.inl (some (aI b))) σ0 (abH 71 119 g h) 0 [(0, aR 71)] [] (abH 71 119 g h) 0 0 := by
  intro  b q
  exact uX12_isAheadOfBest hg (fun _ _ q => wX12_isAheadOfBest_2 hg q) q
theorem mX12_isAheadOfBest {g : SG} (hg : GOK g) {h : HH} {b : Int} (q : nX12_isAheadOfBest h = some b) : MCT 208 [] [aR 71] (abH 71 119 g h) (.inl (some (aI b))) (abH 71 119 g h) :=
  mct_of (by decide) (MFok 208 (by decide +kernel)) (fun _ => Nat.le_of_ble_eq_true rfl) (wX12_isAheadOfBest hg q)
def pX12_isAheadOfBest {β : Type} (z : HH → Option Int) : PP β := fun h as f => skC 71 as fun as => skE as (bnd (z h) fun r => f (.inl (some (aI r))))
theorem pX12_isAheadOfBest_ok {β : Type} {g : SG} (hg : GOK g) : CP1 (β := β) 208 (pX12_isAheadOfBest nX12_isAheadOfBest) 71 119 g := fun h as f b q => by
  obtain ⟨as, rfl, q1⟩ := skC_of q
  obtain ⟨rfl, q0⟩ := skE_of q1
  obtain ⟨r, z1, z2⟩ := bnd_of q0
  exact ⟨_, z2, by decide, mX12_isAheadOfBest hg z1, rfl, rfl, fun z => absurd z (by decide)⟩
def csX12_isBest : List (Nat × List (Nat × ARow)) := [(100000, [(0, 1, .aload_n 0, 0, 0, 0), (1, 1, .aload_n 0, 0, 0, 0), (2, 3, .getfield 241, 12, 51, 0), (5, 3, .putfield 289, 12, 52, 0), (8, 1, .iconst 0, 0, 0, 0), (9, 1, .istore_n 1, 0, 0, 0), (10, 1, .iload_n 1, 0, 0, 0), (11, 1, .aload_n 0, 0, 0, 0), (12, 3, .getfield 241, 12, 51, 0), (15, 3, .if_icmp .ge 21, 36, 0, 0), (18, 1, .aload_n 0, 0, 0, 0), (19, 3, .getfield 130, 12, 48, 2), (22, 1, .iload_n 1, 0, 0, 0), (23, 1, .aload_n 0, 0, 0, 0), (24, 3, .getfield 127, 12, 47, 2), (27, 1, .iload_n 1, 0, 0, 0), (28, 1, .iaload, 0, 0, 0), (29, 1, .iastore, 0, 0, 0), (30, 3, .iinc 1 1, 0, 0, 0), (33, 3, .goto (-23), 10, 0, 0), (36, 1, .return_, 0, 0, 0)])]
theorem rwX12_isBest : rowsB (mB 209) (mO 209) (mX 209) (mIni 209) (mFr 209) (mLo 209) (mT 209) csX12_isBest = true := by decide +kernel
def bX12_isBest_10 (c10 : Int → HH → Option HH) (x1 : Int) (h : HH) : Option HH :=
  if x1 < ((h.1 71 51) : Int) then
    gd ((0 : Int) ≤ x1 ∧ x1 < (10 : Int)) <|
    gd ((0 : Int) ≤ x1 ∧ x1 < (10 : Int)) <|
    bnd (some (hI h 106 x1 (h.1 105 x1))) fun h1 =>
    gd (R32 (x1 + 1)) <|
    c10 (x1 + 1) h1
  else
    some h
theorem uX12_isBest_10 {g : SG} (hg : GOK g) {σ0 : SG} {c10 : Int → HH → Option HH} (k10 : ∀ (x1 : Int) (h : HH) (b : HH), c10 x1 h = some b → WK 209 (.inl none) σ0 (abH 71 119 g b) 10 [(0, aR 71), (1, aI x1)] [] (abH 71 119 g h) 0 0) : ∀ {x1 : Int} {h : HH} {b : HH}, bX12_isBest_10 c10 x1 h = some b → WK 209 (.inl none) σ0 (abH 71 119 g b) 10 [(0, aR 71), (1, aI x1)] [] (abH 71 119 g h) 0 0 := by
  intro x1 h b q
  have e : bX12_isBest_10 c10 x1 h = segW 71 119 g.2.2.2.2 krWV clN csX12_isBest (cuC 10 (fun l st s => tkC 0 71 l <| tkI 1 l fun x1 => skE st (c10 x1 s)) cuN) 1000 10 [(0, aR 71), (1, aI x1)] [] h := rfl
  rw [e] at q
  clear e
  refine segW_wk (by decide) (by decide) hg rwX12_isBest CLKW_N krWV_ok ?_ q
  clear q
  refine ct_C ?_ (ct_N)
  · intro l st h q
    obtain ⟨m0, q1⟩ := tkC_of q
    obtain ⟨x1, m1, q2⟩ := tkI_of q1
    obtain ⟨rfl, q3⟩ := skE_of q2
    exact WK_less (k10 _ _ _ q3) (List.forall_mem_cons.mpr ⟨m0, (List.forall_mem_cons.mpr ⟨m1, (fun _ h => absurd h List.not_mem_nil)⟩)⟩)
def nX12_isBest_10 : Nat → Int → HH → Option HH := iter (fun _ _ => none) (fun self => bX12_isBest_10 self)
theorem nX12_isBest_10_s {F : Nat} : nX12_isBest_10 (F + 1) = bX12_isBest_10 (nX12_isBest_10 F) := rfl
theorem wX12_isBest_10 {g : SG} (hg : GOK g) {σ0 : SG} : ∀ {F : Nat}, ∀ {x1 : Int} {h : HH} {b : HH}, nX12_isBest_10 F x1 h = some b → WK 209 (.inl none) σ0 (abH 71 119 g b) 10 [(0, aR 71), (1, aI x1)] [] (abH 71 119 g h) 0 0 := by
  intro F
  have z : ∀ (x1 : Int) (h : HH) (b : HH), nX12_isBest_10 F x1 h = some b → WK 209 (.inl none) σ0 (abH 71 119 g b) 10 [(0, aR 71), (1, aI x1)] [] (abH 71 119 g h) 0 0 := iter_ind (P := fun (c : Int → HH → Option HH) => ∀ (x1 : Int) (h : HH) (b : HH), c x1 h = some b → WK 209 (.inl none) σ0 (abH 71 119 g b) 10 [(0, aR 71), (1, aI x1)] [] (abH 71 119 g h) 0 0) (by
    intro x1 h b q
    cases q) (fun self ih => by
    intro x1 h b q
    exact uX12_isBest_10 hg ih q) F
  intro x1 h b q
  exact z _ _ _ q
def bX12_isBest (c10 : Int → HH → Option HH) (h : HH) : Option HH :=
  bnd (some (hI h 71 52 (h.1 71 51))) fun h1 =>
    c10 0 h1
theorem uX12_isBest {g : SG} (hg : GOK g) {σ0 : SG} {c10 : Int → HH → Option HH} (k10 : ∀ (x1 : Int) (h : HH) (b : HH), c10 x1 h = some b → WK 209 (.inl none) σ0 (abH 71 119 g b) 10 [(0, aR 71), (1, aI x1)] [] (abH 71 119 g h) 0 0) : ∀ {h : HH} {b : HH}, bX12_isBest c10 h = some b → WK 209 (.inl none) σ0 (abH 71 119 g b) 0 [(0, aR 71)] [] (abH 71 119 g h) 0 0 := by
  intro h b q
  have e : bX12_isBest c10 h = segW 71 119 g.2.2.2.2 krWV clN csX12_isBest (cuC 10 (fun l st s => tkC 0 71 l <| tkI 1 l fun x1 => skE st (c10 x1 s)) cuN) 1000 0 [(0, aR 71)] [] h := rfl
  rw [e] at q
  clear e
  refine segW_wk (by decide) (by decide) hg rwX12_isBest CLKW_N krWV_ok ?_ q
  clear q
  refine ct_C ?_ (ct_N)
  · intro l st h q
    obtain ⟨m0, q1⟩ := tkC_of q
    obtain ⟨x1, m1, q2⟩ := tkI_of q1
    obtain ⟨rfl, q3⟩ := skE_of q2
    exact WK_less (k10 _ _ _ q3) (List.forall_mem_cons.mpr ⟨m0, (List.forall_mem_cons.mpr ⟨m1, (fun _ h => absurd h List.not_mem_nil)⟩)⟩)
def nX12_isBest (h : HH) : Option HH := bX12_isBest (nX12_isBest_10 100000) h
theorem wX12_isBest {g : SG} (hg : GOK g) {σ0 : SG} : ∀ {h : HH} {b : HH}, nX12_isBest h = some b → WK 209 (.inl none) σ0 (abH 71 119 g b) 0 [(0, aR 71)] [] (abH 71 119 g h) 0 0 := by
  intro h b q
  exact uX12_isBest hg (fun _ _ _ q => wX12_isBest_10 hg q) q
theorem mX12_isBest {g : SG} (hg : GOK g) {h : HH} {b : HH} (q : nX12_isBest h = some b) : MCT 209 [] [aR 71] (abH 71 119 g h) (.inl none) (abH 71 119 g b) :=
  mct_of (by decide) (MFok 209 (by decide +kernel)) (fun _ => Nat.le_of_ble_eq_true rfl) (wX12_isBest hg q)
def pX12_isBest {β : Type} (z : HH → Option HH) : PW β := fun as h f => skC 71 as fun as => skE as (bnd (z h) fun r => f (.inl none) r)
theorem pX12_isBest_ok {β : Type} {g : SG} (hg : GOK g) : CW1 (β := β) 209 (pX12_isBest nX12_isBest) 71 119 g := fun as h f b q => by
  obtain ⟨as, rfl, q1⟩ := skC_of q
  obtain ⟨rfl, q0⟩ := skE_of q1
  obtain ⟨r, z1, z2⟩ := bnd_of q0
  exact ⟨_, _, z2, by decide, mX12_isBest hg z1, rfl, rfl, fun z => absurd z (by decide)⟩
def csX12_loadsBest : List (Nat × List (Nat × ARow)) := [(100000, [(0, 1, .aload_n 0, 0, 0, 0), (1, 1, .aload_n 0, 0, 0, 0), (2, 3, .getfield 289, 12, 52, 0), (5, 3, .putfield 241, 12, 51, 0), (8, 1, .iconst 0, 0, 0, 0), (9, 1, .istore_n 1, 0, 0, 0), (10, 1, .iload_n 1, 0, 0, 0), (11, 1, .aload_n 0, 0, 0, 0), (12, 3, .getfield 241, 12, 51, 0), (15, 3, .if_icmp .ge 21, 36, 0, 0), (18, 1, .aload_n 0, 0, 0, 0), (19, 3, .getfield 127, 12, 47, 2), (22, 1, .iload_n 1, 0, 0, 0), (23, 1, .aload_n 0, 0, 0, 0), (24, 3, .getfield 130, 12, 48, 2), (27, 1, .iload_n 1, 0, 0, 0), (28, 1, .iaload, 0, 0, 0), (29, 1, .iastore, 0, 0, 0), (30, 3, .iinc 1 1, 0, 0, 0), (33, 3, .goto (-23), 10, 0, 0), (36, 1, .return_, 0, 0, 0)])]
theorem rwX12_loadsBest : rowsB (mB 210) (mO 210) (mX 210) (mIni 210) (mFr 210) (mLo 210) (mT 210) csX12_loadsBest = true := by decide +kernel
def bX12_loadsBest_10 (c10 : Int → HH → Option HH) (x1 : Int) (h : HH) : Option HH :=
  if x1 < ((h.1 71 51) : Int) then
    gd ((0 : Int) ≤ x1 ∧ x1 < (10 : Int)) <|
    gd ((0 : Int) ≤ x1 ∧ x1 < (10 : Int)) <|
    bnd (some (hI h 105 x1 (h.1 106 x1))) fun h1 =>
    gd (R32 (x1 + 1)) <|
    c10 (x1 + 1) h1
  else
    some h
theorem uX12_loadsBest_10 {g : SG} (hg : GOK g) {σ0 : SG} {c10 : Int → HH → Option HH} (k10 : ∀ (x1 : Int) (h : HH) (b : HH), c10 x1 h = some b → WK 210 (.inl none) σ0 (abH 71 119 g b) 10 [(0, aR 71), (1, aI x1)] [] (abH 71 119 g h) 0 0) : ∀ {x1 : Int} {h : HH} {b : HH}, bX12_loadsBest_10 c10 x1 h = some b → WK 210 (.inl none) σ0 (abH 71 119 g b) 10 [(0, aR 71), (1, aI x1)] [] (abH 71 119 g h) 0 0 := by
  intro x1 h b q
  have e : bX12_loadsBest_10 c10 x1 h = segW 71 119 g.2.2.2.2 krWV clN csX12_loadsBest (cuC 10 (fun l st s => tkC 0 71 l <| tkI 1 l fun x1 => skE st (c10 x1 s)) cuN) 1000 10 [(0, aR 71), (1, aI x1)] [] h := rfl
  rw [e] at q
  clear e
  refine segW_wk (by decide) (by decide) hg rwX12_loadsBest CLKW_N krWV_ok ?_ q
  clear q
  refine ct_C ?_ (ct_N)
  · intro l st h q
    obtain ⟨m0, q1⟩ := tkC_of q
    obtain ⟨x1, m1, q2⟩ := tkI_of q1
    obtain ⟨rfl, q3⟩ := skE_of q2
    exact WK_less (k10 _ _ _ q3) (List.forall_mem_cons.mpr ⟨m0, (List.forall_mem_cons.mpr ⟨m1, (fun _ h => absurd h List.not_mem_nil)⟩)⟩)
def nX12_loadsBest_10 : Nat → Int → HH → Option HH := iter (fun _ _ => none) (fun self => bX12_loadsBest_10 self)
theorem nX12_loadsBest_10_s {F : Nat} : nX12_loadsBest_10 (F + 1) = bX12_loadsBest_10 (nX12_loadsBest_10 F) := rfl
theorem wX12_loadsBest_10 {g : SG} (hg : GOK g) {σ0 : SG} : ∀ {F : Nat}, ∀ {x1 : Int} {h : HH} {b : HH}, nX12_loadsBest_10 F x1 h = some b → WK 210 (.inl none) σ0 (abH 71 119 g b) 10 [(0, aR 71), (1, aI x1)] [] (abH 71 119 g h) 0 0 := by
  intro F
  have z : ∀ (x1 : Int) (h : HH) (b : HH), nX12_loadsBest_10 F x1 h = some b → WK 210 (.inl none) σ0 (abH 71 119 g b) 10 [(0, aR 71), (1, aI x1)] [] (abH 71 119 g h) 0 0 := iter_ind (P := fun (c : Int → HH → Option HH) => ∀ (x1 : Int) (h : HH) (b : HH), c x1 h = some b → WK 210 (.inl none) σ0 (abH 71 119 g b) 10 [(0, aR 71), (1, aI x1)] [] (abH 71 119 g h) 0 0) (by
    intro x1 h b q
    cases q) (fun self ih => by
    intro x1 h b q
    exact uX12_loadsBest_10 hg ih q) F
  intro x1 h b q
  exact z _ _ _ q
def bX12_loadsBest (c10 : Int → HH → Option HH) (h : HH) : Option HH :=
  bnd (some (hI h 71 51 (h.1 71 52))) fun h1 =>
    c10 0 h1
theorem uX12_loadsBest {g : SG} (hg : GOK g) {σ0 : SG} {c10 : Int → HH → Option HH} (k10 : ∀ (x1 : Int) (h : HH) (b : HH), c10 x1 h = some b → WK 210 (.inl none) σ0 (abH 71 119 g b) 10 [(0, aR 71), (1, aI x1)] [] (abH 71 119 g h) 0 0) : ∀ {h : HH} {b : HH}, bX12_loadsBest c10 h = some b → WK 210 (.inl none) σ0 (abH 71 119 g b) 0 [(0, aR 71)] [] (abH 71 119 g h) 0 0 := by
  intro h b q
  have e : bX12_loadsBest c10 h = segW 71 119 g.2.2.2.2 krWV clN csX12_loadsBest (cuC 10 (fun l st s => tkC 0 71 l <| tkI 1 l fun x1 => skE st (c10 x1 s)) cuN) 1000 0 [(0, aR 71)] [] h := rfl
  rw [e] at q
  clear e
  refine segW_wk (by decide) (by decide) hg rwX12_loadsBest CLKW_N krWV_ok ?_ q
  clear q
  refine ct_C ?_ (ct_N)
  · intro l st h q
    obtain ⟨m0, q1⟩ := tkC_of q
    obtain ⟨x1, m1, q2⟩ := tkI_of q1
    obtain ⟨rfl, q3⟩ := skE_of q2
    exact WK_less (k10 _ _ _ q3) (List.forall_mem_cons.mpr ⟨m0, (List.forall_mem_cons.mpr ⟨m1, (fun _ h => absurd h List.not_mem_nil)⟩)⟩)
def nX12_loadsBest (h : HH) : Option HH := bX12_loadsBest (nX12_loadsBest_10 100000) h
theorem wX12_loadsBest {g : SG} (hg : GOK g) {σ0 : SG} : ∀ {h : HH} {b : HH}, nX12_loadsBest h = some b → WK 210 (.inl none) σ0 (abH 71 119 g b) 0 [(0, aR 71)] [] (abH 71 119 g h) 0 0 := by
  intro h b q
  exact uX12_loadsBest hg (fun _ _ _ q => wX12_loadsBest_10 hg q) q
theorem mX12_loadsBest {g : SG} (hg : GOK g) {h : HH} {b : HH} (q : nX12_loadsBest h = some b) : MCT 210 [] [aR 71] (abH 71 119 g h) (.inl none) (abH 71 119 g b) :=
  mct_of (by decide) (MFok 210 (by decide +kernel)) (fun _ => Nat.le_of_ble_eq_true rfl) (wX12_loadsBest hg q)
def pX12_loadsBest {β : Type} (z : HH → Option HH) : PW β := fun as h f => skC 71 as fun as => skE as (bnd (z h) fun r => f (.inl none) r)
theorem pX12_loadsBest_ok {β : Type} {g : SG} (hg : GOK g) : CW1 (β := β) 210 (pX12_loadsBest nX12_loadsBest) 71 119 g := fun as h f b q => by
  obtain ⟨as, rfl, q1⟩ := skC_of q
  obtain ⟨rfl, q0⟩ := skE_of q1
  obtain ⟨r, z1, z2⟩ := bnd_of q0
  exact ⟨_, _, z2, by decide, mX12_loadsBest hg z1, rfl, rfl, fun z => absurd z (by decide)⟩
def csX12_joinsPieces : List (Nat × List (Nat × ARow)) := [(37, [(0, 1, .aload_n 0, 0, 0, 0), (1, 1, .iconst 0, 0, 0, 0), (2, 3, .putfield 241, 12, 51, 0), (5, 1, .iconst 0, 0, 0, 0), (6, 1, .istore_n 3, 0, 0, 0), (7, 1, .iload_n 3, 0, 0, 0), (8, 1, .aload_n 0, 0, 0, 0), (9, 3, .getfield 145, 12, 61, 2), (12, 1, .iload_n 1, 0, 0, 0), (13, 1, .iaload, 0, 0, 0), (14, 3, .if_icmp .ge 39, 53, 0, 0), (17, 1, .aload_n 0, 0, 0, 0), (18, 3, .getfield 127, 12, 47, 2), (21, 1, .aload_n 0, 0, 0, 0), (22, 3, .getfield 241, 12, 51, 0), (25, 1, .aload_n 0, 0, 0, 0), (26, 3, .getfield 142, 12, 60, 2), (29, 2, .bipush 9, 0, 0, 0), (31, 1, .iload_n 1, 0, 0, 0), (32, 1, .imul, 0, 0, 0), (33, 1, .iload_n 3, 0, 0, 0), (34, 1, .iadd, 0, 0, 0), (35, 1, .iaload, 0, 0, 0), (36, 1, .iastore, 0, 0, 0)]),
  (80, [(37, 1, .aload_n 0, 0, 0, 0), (38, 1, .dup, 0, 0, 0), (39, 3, .getfield 241, 12, 51, 0), (42, 1, .iconst 1, 0, 0, 0), (43, 1, .iadd, 0, 0, 0), (44, 3, .putfield 241, 12, 51, 0), (47, 3, .iinc 3 1, 0, 0, 0), (50, 3, .goto (-43), 7, 0, 0), (53, 1, .iconst 0, 0, 0, 0), (54, 1, .istore_n 3, 0, 0, 0), (55, 1, .iload_n 3, 0, 0, 0), (56, 1, .aload_n 0, 0, 0, 0), (57, 3, .getfield 145, 12, 61, 2), (60, 1, .iload_n 2, 0, 0, 0), (61, 1, .iaload, 0, 0, 0), (62, 3, .if_icmp .ge 39, 101, 0, 0), (65, 1, .aload_n 0, 0, 0, 0), (66, 3, .getfield 127, 12, 47, 2), (69, 1, .aload_n 0, 0, 0, 0), (70, 3, .getfield 241, 12, 51, 0), (73, 1, .aload_n 0, 0, 0, 0), (74, 3, .getfield 142, 12, 60, 2), (77, 2, .bipush 9, 0, 0, 0), (79, 1, .iload_n 2, 0, 0, 0)]),
  (100000, [(80, 1, .imul, 0, 0, 0), (81, 1, .iload_n 3, 0, 0, 0), (82, 1, .iadd, 0, 0, 0), (83, 1, .iaload, 0, 0, 0), (84, 1, .iastore, 0, 0, 0), (85, 1, .aload_n 0, 0, 0, 0), (86, 1, .dup, 0, 0, 0), (87, 3, .getfield 241, 12, 51, 0), (90, 1, .iconst 1, 0, 0, 0), (91, 1, .iadd, 0, 0, 0), (92, 3, .putfield 241, 12, 51, 0), (95, 3, .iinc 3 1, 0, 0, 0), (98, 3, .goto (-43), 55, 0, 0), (101, 1, .return_, 0, 0, 0)])]
theorem rwX12_joinsPieces : rowsB (mB 211) (mO 211) (mX 211) (mIni 211) (mFr 211) (mLo 211) (mT 211) csX12_joinsPieces = true := by decide +kernel
def bX12_joinsPieces_55 (c55 : Int → Int → HH → Option HH) (x2 : Int) (x3 : Int) (h : HH) : Option HH :=
  gd ((0 : Int) ≤ x2 ∧ x2 < (9 : Int)) <|
    if x3 < ((h.1 111 x2) : Int) then
    gd (R32 (9 * x2)) <|
    gd (R32 ((9 * x2) + x3)) <|
    gd ((0 : Int) ≤ ((9 * x2) + x3) ∧ ((9 * x2) + x3) < (81 : Int)) <|
    gd ((0 : Int) ≤ (h.1 71 51) ∧ (h.1 71 51) < (10 : Int)) <|
    bnd (some (hI h 105 (h.1 71 51) (h.1 110 ((9 * x2) + x3)))) fun h1 =>
    gd (R32 ((h1.1 71 51) + 1)) <|
    bnd (some (hI h1 71 51 ((h1.1 71 51) + 1))) fun h2 =>
    gd (R32 (x3 + 1)) <|
    c55 x2 (x3 + 1) h2
  else
    some h
set_option maxRecDepth 100000 in
theorem uX12_joinsPieces_55 {g : SG} (hg : GOK g) {σ0 : SG} {c55 : Int → Int → HH → Option HH} (k55 : ∀ (x2 : Int) (x3 : Int) (h : HH) (b : HH), c55 x2 x3 h = some b → WK 211 (.inl none) σ0 (abH 71 119 g b) 55 [(0, aR 71), (2, aI x2), (3, aI x3)] [] (abH 71 119 g h) 0 0) : ∀ {x2 : Int} {x3 : Int} {h : HH} {b : HH}, bX12_joinsPieces_55 c55 x2 x3 h = some b → WK 211 (.inl none) σ0 (abH 71 119 g b) 55 [(0, aR 71), (2, aI x2), (3, aI x3)] [] (abH 71 119 g h) 0 0 := by
  intro x2 x3 h b q
  have e : bX12_joinsPieces_55 c55 x2 x3 h = segW 71 119 g.2.2.2.2 krWV clN csX12_joinsPieces (cuC 55 (fun l st s => tkC 0 71 l <| tkI 2 l fun x2 => tkI 3 l fun x3 => skE st (c55 x2 x3 s)) cuN) 1000 55 [(0, aR 71), (2, aI x2), (3, aI x3)] [] h := rfl
  rw [e] at q
  clear e
  refine segW_wk (by decide) (by decide) hg rwX12_joinsPieces CLKW_N krWV_ok ?_ q
  clear q
  refine ct_C ?_ (ct_N)
  · intro l st h q
    obtain ⟨m0, q1⟩ := tkC_of q
    obtain ⟨x2, m2, q2⟩ := tkI_of q1
    obtain ⟨x3, m3, q3⟩ := tkI_of q2
    obtain ⟨rfl, q4⟩ := skE_of q3
    exact WK_less (k55 _ _ _ _ q4) (List.forall_mem_cons.mpr ⟨m0, (List.forall_mem_cons.mpr ⟨m2, (List.forall_mem_cons.mpr ⟨m3, (fun _ h => absurd h List.not_mem_nil)⟩)⟩)⟩)
def nX12_joinsPieces_55 : Nat → Int → Int → HH → Option HH := iter (fun _ _ _ => none) (fun self => bX12_joinsPieces_55 self)
theorem nX12_joinsPieces_55_s {F : Nat} : nX12_joinsPieces_55 (F + 1) = bX12_joinsPieces_55 (nX12_joinsPieces_55 F) := rfl
theorem wX12_joinsPieces_55 {g : SG} (hg : GOK g) {σ0 : SG} : ∀ {F : Nat}, ∀ {x2 : Int} {x3 : Int} {h : HH} {b : HH}, nX12_joinsPieces_55 F x2 x3 h = some b → WK 211 (.inl none) σ0 (abH 71 119 g b) 55 [(0, aR 71), (2, aI x2), (3, aI x3)] [] (abH 71 119 g h) 0 0 := by
  intro F
  have z : ∀ (x2 : Int) (x3 : Int) (h : HH) (b : HH), nX12_joinsPieces_55 F x2 x3 h = some b → WK 211 (.inl none) σ0 (abH 71 119 g b) 55 [(0, aR 71), (2, aI x2), (3, aI x3)] [] (abH 71 119 g h) 0 0 := iter_ind (P := fun (c : Int → Int → HH → Option HH) => ∀ (x2 : Int) (x3 : Int) (h : HH) (b : HH), c x2 x3 h = some b → WK 211 (.inl none) σ0 (abH 71 119 g b) 55 [(0, aR 71), (2, aI x2), (3, aI x3)] [] (abH 71 119 g h) 0 0) (by
    intro x2 x3 h b q
    cases q) (fun self ih => by
    intro x2 x3 h b q
    exact uX12_joinsPieces_55 hg ih q) F
  intro x2 x3 h b q
  exact z _ _ _ _ q
def bX12_joinsPieces_7 (c7 : Int → Int → Int → HH → Option HH) (c55 : Int → Int → HH → Option HH) (x1 : Int) (x2 : Int) (x3 : Int) (h : HH) : Option HH :=
  gd ((0 : Int) ≤ x1 ∧ x1 < (9 : Int)) <|
    if x3 < ((h.1 111 x1) : Int) then
    gd (R32 (9 * x1)) <|
    gd (R32 ((9 * x1) + x3)) <|
    gd ((0 : Int) ≤ ((9 * x1) + x3) ∧ ((9 * x1) + x3) < (81 : Int)) <|
    gd ((0 : Int) ≤ (h.1 71 51) ∧ (h.1 71 51) < (10 : Int)) <|
    bnd (some (hI h 105 (h.1 71 51) (h.1 110 ((9 * x1) + x3)))) fun h1 =>
    gd (R32 ((h1.1 71 51) + 1)) <|
    bnd (some (hI h1 71 51 ((h1.1 71 51) + 1))) fun h2 =>
    gd (R32 (x3 + 1)) <|
    c7 x1 x2 (x3 + 1) h2
  else
    c55 x2 0 h
set_option maxRecDepth 100000 in
theorem uX12_joinsPieces_7 {g : SG} (hg : GOK g) {σ0 : SG} {c7 : Int → Int → Int → HH → Option HH} {c55 : Int → Int → HH → Option HH} (k7 : ∀ (x1 : Int) (x2 : Int) (x3 : Int) (h : HH) (b : HH), c7 x1 x2 x3 h = some b → WK 211 (.inl none) σ0 (abH 71 119 g b) 7 [(0, aR 71), (1, aI x1), (2, aI x2), (3, aI x3)] [] (abH 71 119 g h) 0 0) (k55 : ∀ (x2 : Int) (x3 : Int) (h : HH) (b : HH), c55 x2 x3 h = some b → WK 211 (.inl none) σ0 (abH 71 119 g b) 55 [(0, aR 71), (2, aI x2), (3, aI x3)] [] (abH 71 119 g h) 0 0) : ∀ {x1 : Int} {x2 : Int} {x3 : Int} {h : HH} {b : HH}, bX12_joinsPieces_7 c7 c55 x1 x2 x3 h = some b → WK 211 (.inl none) σ0 (abH 71 119 g b) 7 [(0, aR 71), (1, aI x1), (2, aI x2), (3, aI x3)] [] (abH 71 119 g h) 0 0 := by
  intro x1 x2 x3 h b q
  have e : bX12_joinsPieces_7 c7 c55 x1 x2 x3 h = segW 71 119 g.2.2.2.2 krWV clN csX12_joinsPieces (cuC 7 (fun l st s => tkC 0 71 l <| tkI 1 l fun x1 => tkI 2 l fun x2 => tkI 3 l fun x3 => skE st (c7 x1 x2 x3 s)) (cuC 55 (fun l st s => tkC 0 71 l <| tkI 2 l fun x2 => tkI 3 l fun x3 => skE st (c55 x2 x3 s)) cuN)) 1000 7 [(0, aR 71), (1, aI x1), (2, aI x2), (3, aI x3)] [] h := rfl
  rw [e] at q
  clear e
  refine segW_wk (by decide) (by decide) hg rwX12_joinsPieces CLKW_N krWV_ok ?_ q
  clear q
  refine ct_C ?_ (ct_C ?_ (ct_N))
  · intro l st h q
    obtain ⟨m0, q1⟩ := tkC_of q
    obtain ⟨x1, m1, q2⟩ := tkI_of q1
    obtain ⟨x2, m2, q3⟩ := tkI_of q2
    obtain ⟨x3, m3, q4⟩ := tkI_of q3
    obtain ⟨rfl, q5⟩ := skE_of q4
    exact WK_less (k7 _ _ _ _ _ q5) (List.forall_mem_cons.mpr ⟨m0, (List.forall_mem_cons.mpr ⟨m1, (List.forall_mem_cons.mpr ⟨m2, (List.forall_mem_cons.mpr ⟨m3, (fun _ h => absurd h List.not_mem_nil)⟩)⟩)⟩)⟩)
  · intro l st h q
    obtain ⟨m0, q1⟩ := tkC_of q
    obtain ⟨x2, m2, q2⟩ := tkI_of q1
    obtain ⟨x3, m3, q3⟩ := tkI_of q2
    obtain ⟨rfl, q4⟩ := skE_of q3
    exact WK_less (k55 _ _ _ _ q4) (List.forall_mem_cons.mpr ⟨m0, (List.forall_mem_cons.mpr ⟨m2, (List.forall_mem_cons.mpr ⟨m3, (fun _ h => absurd h List.not_mem_nil)⟩)⟩)⟩)
def nX12_joinsPieces_7 : Nat → Int → Int → Int → HH → Option HH := iter (fun _ _ _ _ => none) (fun self => bX12_joinsPieces_7 self (nX12_joinsPieces_55 100000))
theorem nX12_joinsPieces_7_s {F : Nat} : nX12_joinsPieces_7 (F + 1) = bX12_joinsPieces_7 (nX12_joinsPieces_7 F) (nX12_joinsPieces_55 100000) := rfl
theorem wX12_joinsPieces_7 {g : SG} (hg : GOK g) {σ0 : SG} : ∀ {F : Nat}, ∀ {x1 : Int} {x2 : Int} {x3 : Int} {h : HH} {b : HH}, nX12_joinsPieces_7 F x1 x2 x3 h = some b → WK 211 (.inl none) σ0 (abH 71 119 g b) 7 [(0, aR 71), (1, aI x1), (2, aI x2), (3, aI x3)] [] (abH 71 119 g h) 0 0 := by
  intro F
  have z : ∀ (x1 : Int) (x2 : Int) (x3 : Int) (h : HH) (b : HH), nX12_joinsPieces_7 F x1 x2 x3 h = some b → WK 211 (.inl none) σ0 (abH 71 119 g b) 7 [(0, aR 71), (1, aI x1), (2, aI x2), (3, aI x3)] [] (abH 71 119 g h) 0 0 := iter_ind (P := fun (c : Int → Int → Int → HH → Option HH) => ∀ (x1 : Int) (x2 : Int) (x3 : Int) (h : HH) (b : HH), c x1 x2 x3 h = some b → WK 211 (.inl none) σ0 (abH 71 119 g b) 7 [(0, aR 71), (1, aI x1), (2, aI x2), (3, aI x3)] [] (abH 71 119 g h) 0 0) (by
    intro x1 x2 x3 h b q
    cases q) (fun self ih => by
    intro x1 x2 x3 h b q
    exact uX12_joinsPieces_7 hg ih (fun _ _ _ _ q => wX12_joinsPieces_55 hg q) q) F
  intro x1 x2 x3 h b q
  exact z _ _ _ _ _ q
def bX12_joinsPieces (c7 : Int → Int → Int → HH → Option HH) (x1 : Int) (x2 : Int) (h : HH) : Option HH :=
  bnd (some (hI h 71 51 0)) fun h1 =>
    c7 x1 x2 0 h1
theorem uX12_joinsPieces {g : SG} (hg : GOK g) {σ0 : SG} {c7 : Int → Int → Int → HH → Option HH} (k7 : ∀ (x1 : Int) (x2 : Int) (x3 : Int) (h : HH) (b : HH), c7 x1 x2 x3 h = some b → WK 211 (.inl none) σ0 (abH 71 119 g b) 7 [(0, aR 71), (1, aI x1), (2, aI x2), (3, aI x3)] [] (abH 71 119 g h) 0 0) : ∀ {x1 : Int} {x2 : Int} {h : HH} {b : HH}, bX12_joinsPieces c7 x1 x2 h = some b → WK 211 (.inl none) σ0 (abH 71 119 g b) 0 [(0, aR 71), (1, aI x1), (2, aI x2)] [] (abH 71 119 g h) 0 0 := by
  intro x1 x2 h b q
  have e : bX12_joinsPieces c7 x1 x2 h = segW 71 119 g.2.2.2.2 krWV clN csX12_joinsPieces (cuC 7 (fun l st s => tkC 0 71 l <| tkI 1 l fun x1 => tkI 2 l fun x2 => tkI 3 l fun x3 => skE st (c7 x1 x2 x3 s)) cuN) 1000 0 [(0, aR 71), (1, aI x1), (2, aI x2)] [] h := rfl
  rw [e] at q
  clear e
  refine segW_wk (by decide) (by decide) hg rwX12_joinsPieces CLKW_N krWV_ok ?_ q
  clear q
  refine ct_C ?_ (ct_N)
  · intro l st h q
    obtain ⟨m0, q1⟩ := tkC_of q
    obtain ⟨x1, m1, q2⟩ := tkI_of q1
    obtain ⟨x2, m2, q3⟩ := tkI_of q2
    obtain ⟨x3, m3, q4⟩ := tkI_of q3
    obtain ⟨rfl, q5⟩ := skE_of q4
    exact WK_less (k7 _ _ _ _ _ q5) (List.forall_mem_cons.mpr ⟨m0, (List.forall_mem_cons.mpr ⟨m1, (List.forall_mem_cons.mpr ⟨m2, (List.forall_mem_cons.mpr ⟨m3, (fun _ h => absurd h List.not_mem_nil)⟩)⟩)⟩)⟩)
def nX12_joinsPieces (x1 : Int) (x2 : Int) (h : HH) : Option HH := bX12_joinsPieces (nX12_joinsPieces_7 100000) x1 x2 h
theorem wX12_joinsPieces {g : SG} (hg : GOK g) {σ0 : SG} : ∀ {x1 : Int} {x2 : Int} {h : HH} {b : HH}, nX12_joinsPieces x1 x2 h = some b → WK 211 (.inl none) σ0 (abH 71 119 g b) 0 [(0, aR 71), (1, aI x1), (2, aI x2)] [] (abH 71 119 g h) 0 0 := by
  intro x1 x2 h b q
  exact uX12_joinsPieces hg (fun _ _ _ _ _ q => wX12_joinsPieces_7 hg q) q
theorem mX12_joinsPieces {g : SG} (hg : GOK g) {h : HH} {x1 : Int} {x2 : Int} {b : HH} (q : nX12_joinsPieces x1 x2 h = some b) : MCT 211 [] [aR 71, aI x1, aI x2] (abH 71 119 g h) (.inl none) (abH 71 119 g b) :=
  mct_of (by decide) (MFok 211 (by decide +kernel)) (fun _ => Nat.le_of_ble_eq_true rfl) (wX12_joinsPieces hg q)
def pX12_joinsPieces {β : Type} (z : Int → Int → HH → Option HH) : PW β := fun as h f => skC 71 as fun as => skI as fun x1 as => skI as fun x2 as => skE as (bnd (z x1 x2 h) fun r => f (.inl none) r)
theorem pX12_joinsPieces_ok {β : Type} {g : SG} (hg : GOK g) : CW1 (β := β) 211 (pX12_joinsPieces nX12_joinsPieces) 71 119 g := fun as h f b q => by
  obtain ⟨as, rfl, q1⟩ := skC_of q
  obtain ⟨x1, as, rfl, q2⟩ := skI_of q1
  obtain ⟨x2, as, rfl, q3⟩ := skI_of q2
  obtain ⟨rfl, q0⟩ := skE_of q3
  obtain ⟨r, z1, z2⟩ := bnd_of q0
  exact ⟨_, _, z2, by decide, mX12_joinsPieces hg z1, rfl, rfl, fun z => absurd z (by decide)⟩
def csX12_lastOf : List (Nat × List (Nat × ARow)) := [(100000, [(0, 1, .aload_n 0, 0, 0, 0), (1, 3, .getfield 142, 12, 60, 2), (4, 2, .bipush 9, 0, 0, 0), (6, 1, .iload_n 1, 0, 0, 0), (7, 1, .imul, 0, 0, 0), (8, 1, .aload_n 0, 0, 0, 0), (9, 3, .getfield 145, 12, 61, 2), (12, 1, .iload_n 1, 0, 0, 0), (13, 1, .iaload, 0, 0, 0), (14, 1, .iadd, 0, 0, 0), (15, 1, .iconst 1, 0, 0, 0), (16, 1, .isub, 0, 0, 0), (17, 1, .iaload, 0, 0, 0), (18, 1, .ireturn, 0, 0, 0)])]
theorem rwX12_lastOf : rowsB (mB 212) (mO 212) (mX 212) (mIni 212) (mFr 212) (mLo 212) (mT 212) csX12_lastOf = true := by decide +kernel
def bX12_lastOf (h : HH) (x1 : Int) : Option Int :=
  gd (R32 (9 * x1)) <|
    gd ((0 : Int) ≤ x1 ∧ x1 < (9 : Int)) <|
    gd (R32 ((9 * x1) + (h.1 111 x1))) <|
    gd (R32 (((9 * x1) + (h.1 111 x1)) - 1)) <|
    gd ((0 : Int) ≤ (((9 * x1) + (h.1 111 x1)) - 1) ∧ (((9 * x1) + (h.1 111 x1)) - 1) < (81 : Int)) <|
    some (h.1 110 (((9 * x1) + (h.1 111 x1)) - 1))
theorem uX12_lastOf {g : SG} (hg : GOK g) {σ0 : SG} {h : HH} : ∀ {x1 : Int} {b : Int}, bX12_lastOf h x1 = some b → WK 212 (.inl (some (aI b))) σ0 (abH 71 119 g h) 0 [(0, aR 71), (1, aI x1)] [] (abH 71 119 g h) 0 0 := by
  intro x1 b q
  have e : bX12_lastOf h x1 = segP 71 119 g.2.2.2.2 h krPI clNP csX12_lastOf cuN 1000 0 [(0, aR 71), (1, aI x1)] [] := rfl
  rw [e] at q
  clear e
  refine segP_wk (by decide) (by decide) hg rwX12_lastOf CLKP_N krPI_ok ?_ q
  clear q
  exact ct_N
def nX12_lastOf (h : HH) (x1 : Int) : Option Int := bX12_lastOf h x1
theorem wX12_lastOf {g : SG} (hg : GOK g) {σ0 : SG} {h : HH} : ∀ {x1 : Int} {b : Int}, nX12_lastOf h x1 = some b → WK 212 (.inl (some (aI b))) σ0 (abH 71 119 g h) 0 [(0, aR 71), (1, aI x1)] [] (abH 71 119 g h) 0 0 := by
  intro x1 b q
  exact uX12_lastOf hg q
theorem mX12_lastOf {g : SG} (hg : GOK g) {h : HH} {x1 : Int} {b : Int} (q : nX12_lastOf h x1 = some b) : MCT 212 [] [aR 71, aI x1] (abH 71 119 g h) (.inl (some (aI b))) (abH 71 119 g h) :=
  mct_of (by decide) (MFok 212 (by decide +kernel)) (fun _ => Nat.le_of_ble_eq_true rfl) (wX12_lastOf hg q)
def pX12_lastOf {β : Type} (z : HH → Int → Option Int) : PP β := fun h as f => skC 71 as fun as => skI as fun x1 as => skE as (bnd (z h x1) fun r => f (.inl (some (aI r))))
theorem pX12_lastOf_ok {β : Type} {g : SG} (hg : GOK g) : CP1 (β := β) 212 (pX12_lastOf nX12_lastOf) 71 119 g := fun h as f b q => by
  obtain ⟨as, rfl, q1⟩ := skC_of q
  obtain ⟨x1, as, rfl, q2⟩ := skI_of q1
  obtain ⟨rfl, q0⟩ := skE_of q2
  obtain ⟨r, z1, z2⟩ := bnd_of q0
  exact ⟨_, z2, by decide, mX12_lastOf hg z1, rfl, rfl, fun z => absurd z (by decide)⟩
def csX12_firstOf : List (Nat × List (Nat × ARow)) := [(100000, [(0, 1, .aload_n 0, 0, 0, 0), (1, 3, .getfield 142, 12, 60, 2), (4, 2, .bipush 9, 0, 0, 0), (6, 1, .iload_n 1, 0, 0, 0), (7, 1, .imul, 0, 0, 0), (8, 1, .iaload, 0, 0, 0), (9, 1, .ireturn, 0, 0, 0)])]
theorem rwX12_firstOf : rowsB (mB 213) (mO 213) (mX 213) (mIni 213) (mFr 213) (mLo 213) (mT 213) csX12_firstOf = true := by decide +kernel
def bX12_firstOf (h : HH) (x1 : Int) : Option Int :=
  gd (R32 (9 * x1)) <|
    gd ((0 : Int) ≤ (9 * x1) ∧ (9 * x1) < (81 : Int)) <|
    some (h.1 110 (9 * x1))
theorem uX12_firstOf {g : SG} (hg : GOK g) {σ0 : SG} {h : HH} : ∀ {x1 : Int} {b : Int}, bX12_firstOf h x1 = some b → WK 213 (.inl (some (aI b))) σ0 (abH 71 119 g h) 0 [(0, aR 71), (1, aI x1)] [] (abH 71 119 g h) 0 0 := by
  intro x1 b q
  have e : bX12_firstOf h x1 = segP 71 119 g.2.2.2.2 h krPI clNP csX12_firstOf cuN 1000 0 [(0, aR 71), (1, aI x1)] [] := rfl
  rw [e] at q
  clear e
  refine segP_wk (by decide) (by decide) hg rwX12_firstOf CLKP_N krPI_ok ?_ q
  clear q
  exact ct_N
def nX12_firstOf (h : HH) (x1 : Int) : Option Int := bX12_firstOf h x1
theorem wX12_firstOf {g : SG} (hg : GOK g) {σ0 : SG} {h : HH} : ∀ {x1 : Int} {b : Int}, nX12_firstOf h x1 = some b → WK 213 (.inl (some (aI b))) σ0 (abH 71 119 g h) 0 [(0, aR 71), (1, aI x1)] [] (abH 71 119 g h) 0 0 := by
  intro x1 b q
  exact uX12_firstOf hg q
theorem mX12_firstOf {g : SG} (hg : GOK g) {h : HH} {x1 : Int} {b : Int} (q : nX12_firstOf h x1 = some b) : MCT 213 [] [aR 71, aI x1] (abH 71 119 g h) (.inl (some (aI b))) (abH 71 119 g h) :=
  mct_of (by decide) (MFok 213 (by decide +kernel)) (fun _ => Nat.le_of_ble_eq_true rfl) (wX12_firstOf hg q)
def pX12_firstOf {β : Type} (z : HH → Int → Option Int) : PP β := fun h as f => skC 71 as fun as => skI as fun x1 as => skE as (bnd (z h x1) fun r => f (.inl (some (aI r))))
theorem pX12_firstOf_ok {β : Type} {g : SG} (hg : GOK g) : CP1 (β := β) 213 (pX12_firstOf nX12_firstOf) 71 119 g := fun h as f b q => by
  obtain ⟨as, rfl, q1⟩ := skC_of q
  obtain ⟨x1, as, rfl, q2⟩ := skI_of q1
  obtain ⟨rfl, q0⟩ := skE_of q2
  obtain ⟨r, z1, z2⟩ := bnd_of q0
  exact ⟨_, z2, by decide, mX12_firstOf hg z1, rfl, rfl, fun z => absurd z (by decide)⟩
