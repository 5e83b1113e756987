/-! CONSTRUCTORS: streets -/
def csX9_init_0 : List (Nat × ARow) := [(0, 1, .aload_n 0, 0, 0, 0), (1, 3, .invokespecial 3, 1002, 1, 0), (4, 1, .aload_n 0, 0, 0, 0), (5, 2, .bipush 60, 0, 0, 0), (7, 2, .newarray .int, 0, 0, 0), (9, 3, .putfield 9, 9, 0, 2), (12, 1, .aload_n 0, 0, 0, 0), (13, 2, .bipush 60, 0, 0, 0), (15, 2, .newarray .int, 0, 0, 0), (17, 3, .putfield 15, 9, 1, 2), (20, 1, .aload_n 0, 0, 0, 0), (21, 2, .bipush 60, 0, 0, 0), (23, 2, .newarray .int, 0, 0, 0), (25, 3, .putfield 18, 9, 2, 2), (28, 1, .aload_n 0, 0, 0, 0), (29, 3, .sipush 256, 0, 0, 0), (32, 2, .newarray .int, 0, 0, 0), (34, 3, .putfield 21, 9, 4, 2), (37, 1, .aload_n 0, 0, 0, 0), (38, 3, .sipush 256, 0, 0, 0), (41, 2, .newarray .int, 0, 0, 0), (43, 3, .putfield 24, 9, 5, 2), (46, 1, .aload_n 0, 0, 0, 0), (47, 3, .sipush 256, 0, 0, 0), (50, 2, .newarray .int, 0, 0, 0), (52, 3, .putfield 27, 9, 6, 2), (55, 1, .aload_n 0, 0, 0, 0), (56, 2, .bipush 24, 0, 0, 0), (58, 2, .newarray .int, 0, 0, 0), (60, 3, .putfield 30, 9, 7, 2), (63, 1, .aload_n 0, 0, 0, 0), (64, 2, .bipush 16, 0, 0, 0), (66, 2, .newarray .int, 0, 0, 0), (68, 3, .putfield 33, 9, 8, 2), (71, 1, .aload_n 0, 0, 0, 0), (72, 2, .bipush 16, 0, 0, 0), (74, 2, .newarray .boolean, 2, 0, 0), (76, 3, .putfield 36, 9, 9, 2), (79, 1, .aload_n 0, 0, 0, 0), (80, 3, .getfield 21, 9, 4, 2)]
def csX9_init_1 : List (Nat × ARow) := [(83, 1, .iconst (-1), 0, 0, 0), (84, 3, .invokestatic 40, 275, 2, 0), (87, 1, .aload_n 0, 0, 0, 0), (88, 3, .getfield 24, 9, 5, 2), (91, 1, .iconst (-1), 0, 0, 0), (92, 3, .invokestatic 40, 275, 2, 0), (95, 1, .aload_n 0, 0, 0, 0), (96, 3, .getfield 27, 9, 6, 2), (99, 1, .iconst (-1), 0, 0, 0), (100, 3, .invokestatic 40, 275, 2, 0), (103, 1, .iconst 0, 0, 0, 0), (104, 1, .istore_n 1, 0, 0, 0), (105, 1, .iload_n 1, 0, 0, 0), (106, 2, .bipush 16, 0, 0, 0), (108, 3, .if_icmp .ge 37, 145, 0, 0), (111, 1, .iload_n 1, 0, 0, 0), (112, 2, .bipush 16, 0, 0, 0), (114, 1, .imul, 0, 0, 0), (115, 1, .iload_n 1, 0, 0, 0), (116, 1, .iadd, 0, 0, 0), (117, 1, .istore_n 2, 0, 0, 0), (118, 1, .aload_n 0, 0, 0, 0), (119, 3, .getfield 21, 9, 4, 2), (122, 1, .iload_n 2, 0, 0, 0), (123, 1, .iconst 0, 0, 0, 0), (124, 1, .iastore, 0, 0, 0), (125, 1, .aload_n 0, 0, 0, 0), (126, 3, .getfield 24, 9, 5, 2), (129, 1, .iload_n 2, 0, 0, 0), (130, 1, .iconst 0, 0, 0, 0), (131, 1, .iastore, 0, 0, 0), (132, 1, .aload_n 0, 0, 0, 0), (133, 3, .getfield 27, 9, 6, 2), (136, 1, .iload_n 2, 0, 0, 0), (137, 1, .iconst 0, 0, 0, 0), (138, 1, .iastore, 0, 0, 0), (139, 3, .iinc 1 1, 0, 0, 0), (142, 3, .goto (-37), 105, 0, 0), (145, 1, .aload_n 0, 0, 0, 0), (146, 3, .getfield 30, 9, 7, 2)]
def csX9_init_2 : List (Nat × ARow) := [(149, 2, .bipush 100, 0, 0, 0), (151, 3, .invokestatic 40, 275, 2, 0), (154, 1, .return_, 0, 0, 0)]
def csX9_init : List (Nat × List (Nat × ARow)) := [(83, csX9_init_0), (149, csX9_init_1), (100000, csX9_init_2)]
theorem rwX9_init : rowsB (mB 86) (mO 86) (mX 86) (mIni 86) (mFr 86) (mLo 86) (mT 86) csX9_init = true := by decide +kernel
def dgI : Nat → (Nat → Int → Int) → Nat → Int → Int
  | 0, f => f
  | k + 1, f => up2 (up2 (up2 (dgI k f) 7 ((k : Int) * 16 + k) 0) 8 ((k : Int) * 16 + k) 0) 9 ((k : Int) * 16 + k) 0
theorem dgI_at {f : Nat → Int → Int} {c : Nat} (hc : c = 7 ∨ c = 8 ∨ c = 9) : ∀ (k : Nat) (x : Int), dgI k f c x = if 0 ≤ x ∧ x < 17 * k ∧ x % 17 = 0 then 0 else f c x
  | 0, x => by rw [if_neg (by omega)]; rfl
  | k + 1, x => by
    have ih := dgI_at (f := f) hc k x
    show up2 (up2 (up2 (dgI k f) 7 ((k : Int) * 16 + k) 0) 8 ((k : Int) * 16 + k) 0) 9 ((k : Int) * 16 + k) 0 c x = _
    by_cases e : x = (k : Int) * 16 + k
    · rw [if_pos (by omega)]
      rcases hc with z | z | z
      · rw [z, up2_ne (by omega), up2_ne (by omega), e, up2_same]
      · rw [z, up2_ne (by omega), e, up2_same]
      · rw [z, e, up2_same]
    · have e9 : ∀ (g : Nat → Int → Int) (q : Nat), up2 g q ((k : Int) * 16 + k) 0 c x = g c x := fun g q => if_neg (fun z => e z.2)
      rw [e9, e9, e9, ih]
      by_cases c1 : 0 ≤ x ∧ x < 17 * (k : Int) ∧ x % 17 = 0
      · rw [if_pos c1, if_pos (by omega)]
      · rw [if_neg c1, if_neg (by omega)]
theorem dgI_ne {f : Nat → Int → Int} {c : Nat} (hc : c ≠ 7 ∧ c ≠ 8 ∧ c ≠ 9) : ∀ (k : Nat) (x : Int), dgI k f c x = f c x
  | 0, x => rfl
  | k + 1, x => by
    show up2 (up2 (up2 (dgI k f) 7 ((k : Int) * 16 + k) 0) 8 ((k : Int) * 16 + k) 0) 9 ((k : Int) * 16 + k) 0 c x = _
    rw [up2_ne hc.2.2, up2_ne hc.2.1, up2_ne hc.1, dgI_ne hc k x]
def dgW (k : Nat) (σ : SG) : SG := (σ.1, σ.2.1, dgI k σ.2.2.1, σ.2.2.2)
def RX9_0 (rz : Nat → Int → Nat) : Nat → Int → Nat := rz
def RX9_1 (rz : Nat → Int → Nat) : Nat → Int → Nat := ((fun σ : SG => uR (uN (σ)) 3 0 4) (3, RX9_0 rz, fun _ _ => 0, fun _ _ => 0, fun _ _ => 0)).2.1
def RX9_2 (rz : Nat → Int → Nat) : Nat → Int → Nat := ((fun σ : SG => uR (uN (σ)) 3 1 5) (4, RX9_1 rz, fun _ _ => 0, fun _ _ => 0, fun _ _ => 0)).2.1
def RX9_3 (rz : Nat → Int → Nat) : Nat → Int → Nat := ((fun σ : SG => uR (uN (σ)) 3 2 6) (5, RX9_2 rz, fun _ _ => 0, fun _ _ => 0, fun _ _ => 0)).2.1
def RX9_4 (rz : Nat → Int → Nat) : Nat → Int → Nat := ((fun σ : SG => uR (uN (σ)) 3 4 7) (6, RX9_3 rz, fun _ _ => 0, fun _ _ => 0, fun _ _ => 0)).2.1
def RX9_5 (rz : Nat → Int → Nat) : Nat → Int → Nat := ((fun σ : SG => uR (uN (σ)) 3 5 8) (7, RX9_4 rz, fun _ _ => 0, fun _ _ => 0, fun _ _ => 0)).2.1
def RX9_6 (rz : Nat → Int → Nat) : Nat → Int → Nat := ((fun σ : SG => uR (uN (σ)) 3 6 9) (8, RX9_5 rz, fun _ _ => 0, fun _ _ => 0, fun _ _ => 0)).2.1
def RX9_7 (rz : Nat → Int → Nat) : Nat → Int → Nat := ((fun σ : SG => uR (uN (σ)) 3 7 10) (9, RX9_6 rz, fun _ _ => 0, fun _ _ => 0, fun _ _ => 0)).2.1
def RX9_8 (rz : Nat → Int → Nat) : Nat → Int → Nat := ((fun σ : SG => uR (uN (σ)) 3 8 11) (10, RX9_7 rz, fun _ _ => 0, fun _ _ => 0, fun _ _ => 0)).2.1
def RX9_9 (rz : Nat → Int → Nat) : Nat → Int → Nat := ((fun σ : SG => uR (uN (σ)) 3 9 12) (11, RX9_8 rz, fun _ _ => 0, fun _ _ => 0, fun _ _ => 0)).2.1
def RX9_10 (rz : Nat → Int → Nat) : Nat → Int → Nat := ((fun σ : SG => fillW 7 256 (-1) (σ)) (12, RX9_9 rz, fun _ _ => 0, fun _ _ => 0, fun _ _ => 0)).2.1
def RX9_11 (rz : Nat → Int → Nat) : Nat → Int → Nat := ((fun σ : SG => fillW 8 256 (-1) (σ)) (12, RX9_10 rz, fun _ _ => 0, fun _ _ => 0, fun _ _ => 0)).2.1
def RX9_12 (rz : Nat → Int → Nat) : Nat → Int → Nat := ((fun σ : SG => fillW 9 256 (-1) (σ)) (12, RX9_11 rz, fun _ _ => 0, fun _ _ => 0, fun _ _ => 0)).2.1
def RX9_13 (rz : Nat → Int → Nat) : Nat → Int → Nat := ((fun σ : SG => σ) (12, RX9_12 rz, fun _ _ => 0, fun _ _ => 0, fun _ _ => 0)).2.1
def wX9_e (σ : SG) : SG := fillW 10 24 (100) (σ)
set_option maxRecDepth 100000 in
theorem wkX9_e {σ σ0 : SG} {rz : Nat → Int → Nat} (h : σ.1 = 12) (hr : σ.2.1 = RX9_13 rz) : WK 86 (.inl none) σ0 (wX9_e σ) 145 [(0, aR 3)] [] σ 9 1004 := by
  obtain ⟨K, r, i, j, d⟩ := σ
  have h : K = 12 := h
  subst h
  have hr : r = RX9_13 rz := hr
  rw [hr]
  exact segK_wk (b := (none, (wX9_e (12, RX9_13 rz, i, j, d), 9, 1004))) rwX9_init ⟨Nat.le_of_ble_eq_true rfl, Nat.le_of_ble_eq_true rfl⟩ (cl := (clC 275 (clI (mC 86) (mS 86) 275 12 [aR 10, aI (100)] (fillW 10 24 (100))) clN)) (CLK_C (CLK1_I (by decide +kernel) (fun σ h => mcF10 h)) CLK_N) ct_N (N := 200) (pc := 145) (lc := [(0, aR 3)]) (st := []) (s0 := ((12, RX9_13 rz, i, j, d), 9, 1004)) rfl
def wX9_13 (σ : SG) : SG := wX9_e (dgW 16 σ)
theorem wkX9_l {rz : Nat → Int → Nat} {σ0 : SG} {i j : Nat → Int → Int} {d : Nat → Int → UInt64} : ∀ (q k : Nat) (z : Int), z = (k : Int) → k + q = 16 → ∀ lc : AL, (0, aR 3) ∈ lc → (1, aI z) ∈ lc → WK 86 (.inl none) σ0 (wX9_13 (12, RX9_13 rz, i, j, d)) 105 lc [] (12, RX9_13 rz, dgI k i, j, d) 9 1004 := by
  intro q
  have e : ∀ (z : Int) (iw : Nat → Int → Int) (f g : AL → AS → SW → Option (Option AV × SW)), segK (mC 86) (mS 86) krG clN csX9_init (cuC 145 g (cuC 105 f cuN)) 200 105 [(0, aR 3), (1, aI z)] [] ((12, RX9_13 rz, iw, j, d), 9, 1004) = if z < 16 then gd (R32 (z * 16)) (gd (R32 (z * 16 + z)) (gd ((0 : Int) ≤ z * 16 + z ∧ z * 16 + z < lnK 7) (gd ((0 : Int) ≤ z * 16 + z ∧ z * 16 + z < lnK 8) (gd ((0 : Int) ≤ z * 16 + z ∧ z * 16 + z < lnK 9) (gd (R32 (z + 1)) (f [(1, aI (z + 1)), (2, aI (z * 16 + z)), (0, aR 3)] [] ((12, RX9_13 rz, up2 (up2 (up2 iw 7 (z * 16 + z) 0) 8 (z * 16 + z) 0) 9 (z * 16 + z) 0, j, d), 9, 1004))))))) else g [(0, aR 3), (1, aI z)] [] ((12, RX9_13 rz, iw, j, d), 9, 1004) := fun _ _ _ _ => rfl
  induction q with
  | zero =>
    intro k z hz hk lc m0 m1
    have e16 : k = 16 := by omega
    subst e16
    refine WK_less (lc' := [(0, aR 3), (1, aI z)]) ?_ (List.forall_mem_cons.mpr ⟨m0, List.forall_mem_cons.mpr ⟨m1, fun _ z => absurd z List.not_mem_nil⟩⟩)
    refine segK_wk (b := (none, (wX9_13 (12, RX9_13 rz, i, j, d), 9, 1004))) rwX9_init ⟨Nat.le_of_ble_eq_true rfl, Nat.le_of_ble_eq_true rfl⟩ (cl := clN) CLK_N (cut := cuC 145 (cuQ [(0, aR 3), (1, aI z)] [] ((12, RX9_13 rz, dgI 16 i, j, d), 9, 1004) (none, (wX9_13 (12, RX9_13 rz, i, j, d), 9, 1004))) (cuC 105 (fun _ _ _ => none) cuN)) (ct_C (fun lc st s1 z => ?_) (ct_C (fun lc st s1 z => by cases z) ct_N)) (N := 200) (s0 := ((12, RX9_13 rz, dgI 16 i, j, d), 9, 1004)) ?_
    · obtain ⟨rfl, rfl, rfl⟩ := cuQ_of z
      exact WK_less (wkX9_e (σ := (12, RX9_13 rz, dgI 16 i, j, d)) rfl rfl) (fun q hq => by rw [List.mem_singleton.mp hq]; exact List.mem_cons_self)
    · exact (e _ _ _ _).trans ((if_neg (by omega)).trans cuQ_t)
  | succ q ih =>
    intro k z hz hk lc m0 m1
    have hl7 : lnK 7 = 256 := rfl
    have hl8 : lnK 8 = 256 := rfl
    have hl9 : lnK 9 = 256 := rfl
    subst hz
    refine WK_less (lc' := [(0, aR 3), (1, aI (k : Int))]) ?_ (List.forall_mem_cons.mpr ⟨m0, List.forall_mem_cons.mpr ⟨m1, fun _ z => absurd z List.not_mem_nil⟩⟩)
    refine segK_wk (b := (none, (wX9_13 (12, RX9_13 rz, i, j, d), 9, 1004))) rwX9_init ⟨Nat.le_of_ble_eq_true rfl, Nat.le_of_ble_eq_true rfl⟩ (cl := clN) CLK_N (cut := cuC 145 (fun _ _ _ => none) (cuC 105 (cuQ [(1, aI ((k : Int) + 1)), (2, aI ((k : Int) * 16 + k)), (0, aR 3)] [] ((12, RX9_13 rz, dgI (k + 1) i, j, d), 9, 1004) (none, (wX9_13 (12, RX9_13 rz, i, j, d), 9, 1004))) cuN)) (ct_C (fun lc st s1 z => by cases z) (ct_C (fun lc st s1 z => ?_) ct_N)) (N := 200) (s0 := ((12, RX9_13 rz, dgI k i, j, d), 9, 1004)) ?_
    · obtain ⟨rfl, rfl, rfl⟩ := cuQ_of z
      exact ih (k + 1) _ (by omega) (by omega) _ (List.mem_cons_of_mem _ (List.mem_cons_of_mem _ List.mem_cons_self)) List.mem_cons_self
    · refine (e _ _ _ _).trans ?_
      rw [if_pos (by omega), hl7, hl8, hl9, gd_t ⟨by omega, by omega⟩, gd_t ⟨by omega, by omega⟩, gd_t ⟨by omega, by omega⟩, gd_t ⟨by omega, by omega⟩, gd_t ⟨by omega, by omega⟩, gd_t ⟨by omega, by omega⟩]
      exact cuQ_t
theorem wkX9_13 {σ σ0 : SG} {rz : Nat → Int → Nat} (h : σ.1 = 12) (hr : σ.2.1 = RX9_13 rz) : WK 86 (.inl none) σ0 (wX9_13 σ) 105 [(1, aI (0)), (0, aR 3)] [] σ 9 1004 := by
  obtain ⟨K, r, i, j, d⟩ := σ
  have h : K = 12 := h
  subst h
  have hr : r = RX9_13 rz := hr
  rw [hr]
  exact wkX9_l 16 0 0 rfl rfl _ (List.mem_cons_of_mem _ List.mem_cons_self) List.mem_cons_self
def wX9_12 (σ : SG) : SG := wX9_13 (σ)
set_option maxRecDepth 100000 in
theorem wkX9_12 {σ σ0 : SG} {rz : Nat → Int → Nat} (h : σ.1 = 12) (hr : σ.2.1 = RX9_12 rz) : WK 86 (.inl none) σ0 (wX9_12 σ) 103 [(0, aR 3)] [] σ 9 1004 := by
  obtain ⟨K, r, i, j, d⟩ := σ
  have h : K = 12 := h
  subst h
  have hr : r = RX9_12 rz := hr
  rw [hr]
  exact segK_to (b := (none, (wX9_12 (12, RX9_12 rz, i, j, d), 9, 1004))) rwX9_init ⟨Nat.le_of_ble_eq_true rfl, Nat.le_of_ble_eq_true rfl⟩ (cl := clN) CLK_N (pc2 := 105) (N := 200) (pc := 103) (l0 := [(1, aI (0)), (0, aR 3)]) (lc := [(0, aR 3)]) (st0 := []) (st := []) (s1 := ((fun σ : SG => σ) (12, RX9_12 rz, i, j, d), 9, 1004)) (s0 := ((12, RX9_12 rz, i, j, d), 9, 1004)) (wkX9_13 (rz := rz) rfl rfl) (fun _ => rfl)
def wX9_11 (σ : SG) : SG := wX9_12 (fillW 9 256 (-1) (σ))
set_option maxRecDepth 100000 in
theorem wkX9_11 {σ σ0 : SG} {rz : Nat → Int → Nat} (h : σ.1 = 12) (hr : σ.2.1 = RX9_11 rz) : WK 86 (.inl none) σ0 (wX9_11 σ) 95 [(0, aR 3)] [] σ 9 1004 := by
  obtain ⟨K, r, i, j, d⟩ := σ
  have h : K = 12 := h
  subst h
  have hr : r = RX9_11 rz := hr
  rw [hr]
  exact segK_to (b := (none, (wX9_11 (12, RX9_11 rz, i, j, d), 9, 1004))) rwX9_init ⟨Nat.le_of_ble_eq_true rfl, Nat.le_of_ble_eq_true rfl⟩ (cl := (clC 275 (clI (mC 86) (mS 86) 275 12 [aR 9, aI (-1)] (fillW 9 256 (-1))) clN)) (CLK_C (CLK1_I (by decide +kernel) (fun σ h => mcF9 h)) CLK_N) (pc2 := 103) (N := 200) (pc := 95) (l0 := [(0, aR 3)]) (lc := [(0, aR 3)]) (st0 := []) (st := []) (s1 := ((fun σ : SG => fillW 9 256 (-1) (σ)) (12, RX9_11 rz, i, j, d), 9, 1004)) (s0 := ((12, RX9_11 rz, i, j, d), 9, 1004)) (wkX9_12 (rz := rz) rfl rfl) (fun _ => rfl)
def wX9_10 (σ : SG) : SG := wX9_11 (fillW 8 256 (-1) (σ))
set_option maxRecDepth 100000 in
theorem wkX9_10 {σ σ0 : SG} {rz : Nat → Int → Nat} (h : σ.1 = 12) (hr : σ.2.1 = RX9_10 rz) : WK 86 (.inl none) σ0 (wX9_10 σ) 87 [(0, aR 3)] [] σ 9 1004 := by
  obtain ⟨K, r, i, j, d⟩ := σ
  have h : K = 12 := h
  subst h
  have hr : r = RX9_10 rz := hr
  rw [hr]
  exact segK_to (b := (none, (wX9_10 (12, RX9_10 rz, i, j, d), 9, 1004))) rwX9_init ⟨Nat.le_of_ble_eq_true rfl, Nat.le_of_ble_eq_true rfl⟩ (cl := (clC 275 (clI (mC 86) (mS 86) 275 12 [aR 8, aI (-1)] (fillW 8 256 (-1))) clN)) (CLK_C (CLK1_I (by decide +kernel) (fun σ h => mcF8 h)) CLK_N) (pc2 := 95) (N := 200) (pc := 87) (l0 := [(0, aR 3)]) (lc := [(0, aR 3)]) (st0 := []) (st := []) (s1 := ((fun σ : SG => fillW 8 256 (-1) (σ)) (12, RX9_10 rz, i, j, d), 9, 1004)) (s0 := ((12, RX9_10 rz, i, j, d), 9, 1004)) (wkX9_11 (rz := rz) rfl rfl) (fun _ => rfl)
def wX9_9 (σ : SG) : SG := wX9_10 (fillW 7 256 (-1) (σ))
set_option maxRecDepth 100000 in
theorem wkX9_9 {σ σ0 : SG} {rz : Nat → Int → Nat} (h : σ.1 = 12) (hr : σ.2.1 = RX9_9 rz) : WK 86 (.inl none) σ0 (wX9_9 σ) 79 [(0, aR 3)] [] σ 9 1004 := by
  obtain ⟨K, r, i, j, d⟩ := σ
  have h : K = 12 := h
  subst h
  have hr : r = RX9_9 rz := hr
  rw [hr]
  exact segK_to (b := (none, (wX9_9 (12, RX9_9 rz, i, j, d), 9, 1004))) rwX9_init ⟨Nat.le_of_ble_eq_true rfl, Nat.le_of_ble_eq_true rfl⟩ (cl := (clC 275 (clI (mC 86) (mS 86) 275 12 [aR 7, aI (-1)] (fillW 7 256 (-1))) clN)) (CLK_C (CLK1_I (by decide +kernel) (fun σ h => mcF7 h)) CLK_N) (pc2 := 87) (N := 200) (pc := 79) (l0 := [(0, aR 3)]) (lc := [(0, aR 3)]) (st0 := []) (st := []) (s1 := ((fun σ : SG => fillW 7 256 (-1) (σ)) (12, RX9_9 rz, i, j, d), 9, 1004)) (s0 := ((12, RX9_9 rz, i, j, d), 9, 1004)) (wkX9_10 (rz := rz) rfl rfl) (fun _ => rfl)
def wX9_8 (σ : SG) : SG := wX9_9 (uR (uN (σ)) 3 9 12)
set_option maxRecDepth 100000 in
theorem wkX9_8 {σ σ0 : SG} {rz : Nat → Int → Nat} (h : σ.1 = 11) (hr : σ.2.1 = RX9_8 rz) : WK 86 (.inl none) σ0 (wX9_8 σ) 71 [(0, aR 3)] [] σ 8 988 := by
  obtain ⟨K, r, i, j, d⟩ := σ
  have h : K = 11 := h
  subst h
  have hr : r = RX9_8 rz := hr
  rw [hr]
  exact segK_to (b := (none, (wX9_8 (11, RX9_8 rz, i, j, d), 9, 1004))) rwX9_init ⟨Nat.le_of_ble_eq_true rfl, Nat.le_of_ble_eq_true rfl⟩ (cl := clN) CLK_N (pc2 := 79) (N := 200) (pc := 71) (l0 := [(0, aR 3)]) (lc := [(0, aR 3)]) (st0 := []) (st := []) (s1 := ((fun σ : SG => uR (uN (σ)) 3 9 12) (11, RX9_8 rz, i, j, d), 9, 1004)) (s0 := ((11, RX9_8 rz, i, j, d), 8, 988)) (wkX9_9 (rz := rz) rfl rfl) (fun _ => rfl)
def wX9_7 (σ : SG) : SG := wX9_8 (uR (uN (σ)) 3 8 11)
set_option maxRecDepth 100000 in
theorem wkX9_7 {σ σ0 : SG} {rz : Nat → Int → Nat} (h : σ.1 = 10) (hr : σ.2.1 = RX9_7 rz) : WK 86 (.inl none) σ0 (wX9_7 σ) 63 [(0, aR 3)] [] σ 7 972 := by
  obtain ⟨K, r, i, j, d⟩ := σ
  have h : K = 10 := h
  subst h
  have hr : r = RX9_7 rz := hr
  rw [hr]
  exact segK_to (b := (none, (wX9_7 (10, RX9_7 rz, i, j, d), 9, 1004))) rwX9_init ⟨Nat.le_of_ble_eq_true rfl, Nat.le_of_ble_eq_true rfl⟩ (cl := clN) CLK_N (pc2 := 71) (N := 200) (pc := 63) (l0 := [(0, aR 3)]) (lc := [(0, aR 3)]) (st0 := []) (st := []) (s1 := ((fun σ : SG => uR (uN (σ)) 3 8 11) (10, RX9_7 rz, i, j, d), 8, 988)) (s0 := ((10, RX9_7 rz, i, j, d), 7, 972)) (wkX9_8 (rz := rz) rfl rfl) (fun _ => rfl)
def wX9_6 (σ : SG) : SG := wX9_7 (uR (uN (σ)) 3 7 10)
set_option maxRecDepth 100000 in
theorem wkX9_6 {σ σ0 : SG} {rz : Nat → Int → Nat} (h : σ.1 = 9) (hr : σ.2.1 = RX9_6 rz) : WK 86 (.inl none) σ0 (wX9_6 σ) 55 [(0, aR 3)] [] σ 6 948 := by
  obtain ⟨K, r, i, j, d⟩ := σ
  have h : K = 9 := h
  subst h
  have hr : r = RX9_6 rz := hr
  rw [hr]
  exact segK_to (b := (none, (wX9_6 (9, RX9_6 rz, i, j, d), 9, 1004))) rwX9_init ⟨Nat.le_of_ble_eq_true rfl, Nat.le_of_ble_eq_true rfl⟩ (cl := clN) CLK_N (pc2 := 63) (N := 200) (pc := 55) (l0 := [(0, aR 3)]) (lc := [(0, aR 3)]) (st0 := []) (st := []) (s1 := ((fun σ : SG => uR (uN (σ)) 3 7 10) (9, RX9_6 rz, i, j, d), 7, 972)) (s0 := ((9, RX9_6 rz, i, j, d), 6, 948)) (wkX9_7 (rz := rz) rfl rfl) (fun _ => rfl)
def wX9_5 (σ : SG) : SG := wX9_6 (uR (uN (σ)) 3 6 9)
set_option maxRecDepth 100000 in
theorem wkX9_5 {σ σ0 : SG} {rz : Nat → Int → Nat} (h : σ.1 = 8) (hr : σ.2.1 = RX9_5 rz) : WK 86 (.inl none) σ0 (wX9_5 σ) 46 [(0, aR 3)] [] σ 5 692 := by
  obtain ⟨K, r, i, j, d⟩ := σ
  have h : K = 8 := h
  subst h
  have hr : r = RX9_5 rz := hr
  rw [hr]
  exact segK_to (b := (none, (wX9_5 (8, RX9_5 rz, i, j, d), 9, 1004))) rwX9_init ⟨Nat.le_of_ble_eq_true rfl, Nat.le_of_ble_eq_true rfl⟩ (cl := clN) CLK_N (pc2 := 55) (N := 200) (pc := 46) (l0 := [(0, aR 3)]) (lc := [(0, aR 3)]) (st0 := []) (st := []) (s1 := ((fun σ : SG => uR (uN (σ)) 3 6 9) (8, RX9_5 rz, i, j, d), 6, 948)) (s0 := ((8, RX9_5 rz, i, j, d), 5, 692)) (wkX9_6 (rz := rz) rfl rfl) (fun _ => rfl)
def wX9_4 (σ : SG) : SG := wX9_5 (uR (uN (σ)) 3 5 8)
set_option maxRecDepth 100000 in
theorem wkX9_4 {σ σ0 : SG} {rz : Nat → Int → Nat} (h : σ.1 = 7) (hr : σ.2.1 = RX9_4 rz) : WK 86 (.inl none) σ0 (wX9_4 σ) 37 [(0, aR 3)] [] σ 4 436 := by
  obtain ⟨K, r, i, j, d⟩ := σ
  have h : K = 7 := h
  subst h
  have hr : r = RX9_4 rz := hr
  rw [hr]
  exact segK_to (b := (none, (wX9_4 (7, RX9_4 rz, i, j, d), 9, 1004))) rwX9_init ⟨Nat.le_of_ble_eq_true rfl, Nat.le_of_ble_eq_true rfl⟩ (cl := clN) CLK_N (pc2 := 46) (N := 200) (pc := 37) (l0 := [(0, aR 3)]) (lc := [(0, aR 3)]) (st0 := []) (st := []) (s1 := ((fun σ : SG => uR (uN (σ)) 3 5 8) (7, RX9_4 rz, i, j, d), 5, 692)) (s0 := ((7, RX9_4 rz, i, j, d), 4, 436)) (wkX9_5 (rz := rz) rfl rfl) (fun _ => rfl)
def wX9_3 (σ : SG) : SG := wX9_4 (uR (uN (σ)) 3 4 7)
set_option maxRecDepth 100000 in
theorem wkX9_3 {σ σ0 : SG} {rz : Nat → Int → Nat} (h : σ.1 = 6) (hr : σ.2.1 = RX9_3 rz) : WK 86 (.inl none) σ0 (wX9_3 σ) 28 [(0, aR 3)] [] σ 3 180 := by
  obtain ⟨K, r, i, j, d⟩ := σ
  have h : K = 6 := h
  subst h
  have hr : r = RX9_3 rz := hr
  rw [hr]
  exact segK_to (b := (none, (wX9_3 (6, RX9_3 rz, i, j, d), 9, 1004))) rwX9_init ⟨Nat.le_of_ble_eq_true rfl, Nat.le_of_ble_eq_true rfl⟩ (cl := clN) CLK_N (pc2 := 37) (N := 200) (pc := 28) (l0 := [(0, aR 3)]) (lc := [(0, aR 3)]) (st0 := []) (st := []) (s1 := ((fun σ : SG => uR (uN (σ)) 3 4 7) (6, RX9_3 rz, i, j, d), 4, 436)) (s0 := ((6, RX9_3 rz, i, j, d), 3, 180)) (wkX9_4 (rz := rz) rfl rfl) (fun _ => rfl)
def wX9_2 (σ : SG) : SG := wX9_3 (uR (uN (σ)) 3 2 6)
set_option maxRecDepth 100000 in
theorem wkX9_2 {σ σ0 : SG} {rz : Nat → Int → Nat} (h : σ.1 = 5) (hr : σ.2.1 = RX9_2 rz) : WK 86 (.inl none) σ0 (wX9_2 σ) 20 [(0, aR 3)] [] σ 2 120 := by
  obtain ⟨K, r, i, j, d⟩ := σ
  have h : K = 5 := h
  subst h
  have hr : r = RX9_2 rz := hr
  rw [hr]
  exact segK_to (b := (none, (wX9_2 (5, RX9_2 rz, i, j, d), 9, 1004))) rwX9_init ⟨Nat.le_of_ble_eq_true rfl, Nat.le_of_ble_eq_true rfl⟩ (cl := clN) CLK_N (pc2 := 28) (N := 200) (pc := 20) (l0 := [(0, aR 3)]) (lc := [(0, aR 3)]) (st0 := []) (st := []) (s1 := ((fun σ : SG => uR (uN (σ)) 3 2 6) (5, RX9_2 rz, i, j, d), 3, 180)) (s0 := ((5, RX9_2 rz, i, j, d), 2, 120)) (wkX9_3 (rz := rz) rfl rfl) (fun _ => rfl)
def wX9_1 (σ : SG) : SG := wX9_2 (uR (uN (σ)) 3 1 5)
set_option maxRecDepth 100000 in
theorem wkX9_1 {σ σ0 : SG} {rz : Nat → Int → Nat} (h : σ.1 = 4) (hr : σ.2.1 = RX9_1 rz) : WK 86 (.inl none) σ0 (wX9_1 σ) 12 [(0, aR 3)] [] σ 1 60 := by
  obtain ⟨K, r, i, j, d⟩ := σ
  have h : K = 4 := h
  subst h
  have hr : r = RX9_1 rz := hr
  rw [hr]
  exact segK_to (b := (none, (wX9_1 (4, RX9_1 rz, i, j, d), 9, 1004))) rwX9_init ⟨Nat.le_of_ble_eq_true rfl, Nat.le_of_ble_eq_true rfl⟩ (cl := clN) CLK_N (pc2 := 20) (N := 200) (pc := 12) (l0 := [(0, aR 3)]) (lc := [(0, aR 3)]) (st0 := []) (st := []) (s1 := ((fun σ : SG => uR (uN (σ)) 3 1 5) (4, RX9_1 rz, i, j, d), 2, 120)) (s0 := ((4, RX9_1 rz, i, j, d), 1, 60)) (wkX9_2 (rz := rz) rfl rfl) (fun _ => rfl)
def wX9_0 (σ : SG) : SG := wX9_1 (uR (uN (σ)) 3 0 4)
set_option maxRecDepth 100000 in
theorem wkX9_0 {σ σ0 : SG} (h : σ.1 = 3) : WK 86 (.inl none) σ0 (wX9_0 σ) 0 [(0, aR 3)] [] σ 0 0 := by
  obtain ⟨K, r, i, j, d⟩ := σ
  have h : K = 3 := h
  subst h
  exact segK_to (b := (none, (wX9_0 (3, r, i, j, d), 9, 1004))) rwX9_init ⟨Nat.le_of_ble_eq_true rfl, Nat.le_of_ble_eq_true rfl⟩ (cl := clN) CLK_N (pc2 := 12) (N := 200) (pc := 0) (l0 := [(0, aR 3)]) (lc := [(0, aR 3)]) (st0 := []) (st := []) (s1 := ((fun σ : SG => uR (uN (σ)) 3 0 4) (3, r, i, j, d), 1, 60)) (s0 := ((3, r, i, j, d), 0, 0)) (wkX9_1 (rz := r) rfl rfl) (fun _ => rfl)
def wX9 (σ : SG) : SG := wX9_0 σ
theorem mcX9 {σ : SG} (h : σ.1 = 3) : MCT 86 [] [aR 3] σ (.inl none) (wX9 σ) := mct_of (by decide) (MFok 86 (by decide +kernel)) (fun _ => Nat.le_of_ble_eq_true rfl) (wkX9_0 h)
