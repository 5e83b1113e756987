/-! CONSTRUCTORS: filling arrays -/
def csJ7_fill_53178_0 : List (Nat × ARow) := [(0, 1, .iconst 0, 0, 0, 0), (1, 1, .istore_n 2, 0, 0, 0), (2, 1, .aload_n 0, 0, 0, 0), (3, 1, .arraylength, 0, 0, 0), (4, 1, .istore_n 3, 0, 0, 0), (5, 1, .iload_n 2, 0, 0, 0), (6, 1, .iload_n 3, 0, 0, 0), (7, 3, .if_icmp .ge 13, 20, 0, 0), (10, 1, .aload_n 0, 0, 0, 0), (11, 1, .iload_n 2, 0, 0, 0), (12, 1, .iload_n 1, 0, 0, 0), (13, 1, .iastore, 0, 0, 0), (14, 3, .iinc 2 1, 0, 0, 0), (17, 3, .goto (-12), 5, 0, 0), (20, 1, .return_, 0, 0, 0)]
def csJ7_fill_53178 : List (Nat × List (Nat × ARow)) := [(100000, csJ7_fill_53178_0)]
theorem rwJ7_fill_53178 : rowsB (mB 275) (mO 275) (mX 275) (mIni 275) (mFr 275) (mLo 275) (mT 275) csJ7_fill_53178 = true := by decide +kernel
theorem fill_s {σ : SG} {c : Nat} {k x : Int} (k0 : 0 ≤ k) : uI (fillW c k x σ) c k x = fillW c (k + 1) x σ := by
  unfold fillW uI uC
  simp only
  congr 3
  funext a b
  by_cases ca : a = c
  · subst ca
    by_cases cb : b = k
    · subst cb
      rw [up2_same, upC_same, if_pos (by omega)]
    · show (if a = a ∧ b = k then x else upC σ.2.2.1 a _ a b) = _
      rw [if_neg (fun z => cb z.2), upC_same, upC_same]
      by_cases c1 : 0 ≤ b ∧ b < k
      · rw [if_pos c1, if_pos (by omega)]
      · rw [if_neg c1, if_neg (by omega)]
  · rw [up2_ne ca, upC_ne ca, upC_ne ca]
theorem fill_0 {σ : SG} {c : Nat} {x : Int} : fillW c 0 x σ = σ := by
  obtain ⟨K, r, i, j, d⟩ := σ
  unfold fillW uC
  simp only
  congr 3
  funext a b
  by_cases ca : a = c
  · subst ca
    rw [upC_same, if_neg (by omega)]
  · rw [upC_ne ca]
theorem wkF7 {x : Int} : ∀ (q : Nat) (k : Int) (σ σ0 : SG), σ.1 = 12 → 0 ≤ k → k + q = 256 → WK 275 (.inl none) σ0 (fillW 7 256 x σ) 5 [(0, aR 7), (1, aI x), (2, aI k), (3, aI 256)] [] (fillW 7 k x σ) 0 0 := by
  intro q
  induction q with
  | zero =>
    intro k σ σ0 h k0 hk
    have e : k = 256 := by omega
    subst e
    obtain ⟨K, r, i, j, d⟩ := σ
    have h : K = 12 := h
    subst h
    exact segK_wk (b := (none, (fillW 7 256 x (12, r, i, j, d), 0, 0))) rwJ7_fill_53178 ⟨Nat.le_of_ble_eq_true rfl, Nat.le_of_ble_eq_true rfl⟩ CLK_N ct_N (N := 200) (pc := 5) (lc := [(0, aR 7), (1, aI x), (2, aI 256), (3, aI 256)]) (st := []) (s0 := (fillW 7 256 x (12, r, i, j, d), 0, 0)) rfl
  | succ q ih =>
    intro k σ σ0 h k0 hk
    obtain ⟨K, r, i, j, d⟩ := σ
    have h : K = 12 := h
    subst h
    have e : ∀ f : AL → AS → SW → Option (Option AV × SW), segK (mC 275) (mS 275) krG clN csJ7_fill_53178 (cuC 5 f cuN) 200 5 [(0, aR 7), (1, aI x), (2, aI k), (3, aI 256)] [] (fillW 7 k x (12, r, i, j, d), 0, 0) = if k < 256 then gd ((0 : Int) ≤ k ∧ k < lnK 7) (gd (R32 (k + 1)) (f [(2, aI (k + 1)), (0, aR 7), (1, aI x), (3, aI 256)] [] (uI (fillW 7 k x (12, r, i, j, d)) 7 k x, 0, 0))) else some (none, (fillW 7 k x (12, r, i, j, d), 0, 0)) := fun _ => rfl
    have hl : lnK 7 = 256 := rfl
    refine segK_to (b := (none, (fillW 7 256 x (12, r, i, j, d), 0, 0))) rwJ7_fill_53178 ⟨Nat.le_of_ble_eq_true rfl, Nat.le_of_ble_eq_true rfl⟩ CLK_N (pc2 := 5) (N := 200) (pc := 5) (l0 := [(2, aI (k + 1)), (0, aR 7), (1, aI x), (3, aI 256)]) (lc := [(0, aR 7), (1, aI x), (2, aI k), (3, aI 256)]) (st0 := []) (st := []) (s1 := (uI (fillW 7 k x (12, r, i, j, d)) 7 k x, 0, 0)) (s0 := (fillW 7 k x (12, r, i, j, d), 0, 0)) ?_ (fun f => ?_)
    · rw [fill_s k0]
      refine WK_less (ih (k + 1) (12, r, i, j, d) σ0 rfl (by omega) (by omega)) (fun q hq => ?_)
      simp only [List.mem_cons, List.not_mem_nil, or_false] at hq ⊢
      rcases hq with z | z | z | z
      · exact Or.inr (Or.inl z)
      · exact Or.inr (Or.inr (Or.inl z))
      · exact Or.inl z
      · exact Or.inr (Or.inr (Or.inr z))
    · rw [e, if_pos (by omega), hl, gd_t ⟨by omega, by omega⟩, gd_t ⟨by omega, by omega⟩]
theorem mcF7 {x : Int} {σ : SG} (h : σ.1 = 12) : MCT 275 [] [aR 7, aI x] σ (.inl none) (fillW 7 256 x σ) := by
  refine mct_of (by decide) (MFok 275 (by decide +kernel)) (fun _ => Nat.le_of_ble_eq_true rfl) ?_
  have q := wkF7 (x := x) 256 0 σ σ h (by omega) (by omega)
  rw [fill_0] at q
  obtain ⟨K, r, i, j, d⟩ := σ
  have h : K = 12 := h
  subst h
  refine segK_to (b := (none, (fillW 7 256 x (12, r, i, j, d), 0, 0))) rwJ7_fill_53178 ⟨Nat.le_of_ble_eq_true rfl, Nat.le_of_ble_eq_true rfl⟩ CLK_N (pc2 := 5) (N := 200) (pc := 0) (l0 := [(3, aI 256), (2, aI 0), (0, aR 7), (1, aI x)]) (lc := aargs 0 [aR 7, aI x]) (st0 := []) (st := []) (s1 := ((12, r, i, j, d), 0, 0)) (s0 := ((12, r, i, j, d), 0, 0)) (WK_less q (fun q hq => ?_)) (fun _ => rfl)
  simp only [List.mem_cons, List.not_mem_nil, or_false] at hq ⊢
  rcases hq with z | z | z | z
  · exact Or.inr (Or.inr (Or.inl z))
  · exact Or.inr (Or.inr (Or.inr z))
  · exact Or.inr (Or.inl z)
  · exact Or.inl z
theorem wkF8 {x : Int} : ∀ (q : Nat) (k : Int) (σ σ0 : SG), σ.1 = 12 → 0 ≤ k → k + q = 256 → WK 275 (.inl none) σ0 (fillW 8 256 x σ) 5 [(0, aR 8), (1, aI x), (2, aI k), (3, aI 256)] [] (fillW 8 k x σ) 0 0 := by
  intro q
  induction q with
  | zero =>
    intro k σ σ0 h k0 hk
    have e : k = 256 := by omega
    subst e
    obtain ⟨K, r, i, j, d⟩ := σ
    have h : K = 12 := h
    subst h
    exact segK_wk (b := (none, (fillW 8 256 x (12, r, i, j, d), 0, 0))) rwJ7_fill_53178 ⟨Nat.le_of_ble_eq_true rfl, Nat.le_of_ble_eq_true rfl⟩ CLK_N ct_N (N := 200) (pc := 5) (lc := [(0, aR 8), (1, aI x), (2, aI 256), (3, aI 256)]) (st := []) (s0 := (fillW 8 256 x (12, r, i, j, d), 0, 0)) rfl
  | succ q ih =>
    intro k σ σ0 h k0 hk
    obtain ⟨K, r, i, j, d⟩ := σ
    have h : K = 12 := h
    subst h
    have e : ∀ f : AL → AS → SW → Option (Option AV × SW), segK (mC 275) (mS 275) krG clN csJ7_fill_53178 (cuC 5 f cuN) 200 5 [(0, aR 8), (1, aI x), (2, aI k), (3, aI 256)] [] (fillW 8 k x (12, r, i, j, d), 0, 0) = if k < 256 then gd ((0 : Int) ≤ k ∧ k < lnK 8) (gd (R32 (k + 1)) (f [(2, aI (k + 1)), (0, aR 8), (1, aI x), (3, aI 256)] [] (uI (fillW 8 k x (12, r, i, j, d)) 8 k x, 0, 0))) else some (none, (fillW 8 k x (12, r, i, j, d), 0, 0)) := fun _ => rfl
    have hl : lnK 8 = 256 := rfl
    refine segK_to (b := (none, (fillW 8 256 x (12, r, i, j, d), 0, 0))) rwJ7_fill_53178 ⟨Nat.le_of_ble_eq_true rfl, Nat.le_of_ble_eq_true rfl⟩ CLK_N (pc2 := 5) (N := 200) (pc := 5) (l0 := [(2, aI (k + 1)), (0, aR 8), (1, aI x), (3, aI 256)]) (lc := [(0, aR 8), (1, aI x), (2, aI k), (3, aI 256)]) (st0 := []) (st := []) (s1 := (uI (fillW 8 k x (12, r, i, j, d)) 8 k x, 0, 0)) (s0 := (fillW 8 k x (12, r, i, j, d), 0, 0)) ?_ (fun f => ?_)
    · rw [fill_s k0]
      refine WK_less (ih (k + 1) (12, r, i, j, d) σ0 rfl (by omega) (by omega)) (fun q hq => ?_)
      simp only [List.mem_cons, List.not_mem_nil, or_false] at hq ⊢
      rcases hq with z | z | z | z
      · exact Or.inr (Or.inl z)
      · exact Or.inr (Or.inr (Or.inl z))
      · exact Or.inl z
      · exact Or.inr (Or.inr (Or.inr z))
    · rw [e, if_pos (by omega), hl, gd_t ⟨by omega, by omega⟩, gd_t ⟨by omega, by omega⟩]
theorem mcF8 {x : Int} {σ : SG} (h : σ.1 = 12) : MCT 275 [] [aR 8, aI x] σ (.inl none) (fillW 8 256 x σ) := by
  refine mct_of (by decide) (MFok 275 (by decide +kernel)) (fun _ => Nat.le_of_ble_eq_true rfl) ?_
  have q := wkF8 (x := x) 256 0 σ σ h (by omega) (by omega)
  rw [fill_0] at q
  obtain ⟨K, r, i, j, d⟩ := σ
  have h : K = 12 := h
  subst h
  refine segK_to (b := (none, (fillW 8 256 x (12, r, i, j, d), 0, 0))) rwJ7_fill_53178 ⟨Nat.le_of_ble_eq_true rfl, Nat.le_of_ble_eq_true rfl⟩ CLK_N (pc2 := 5) (N := 200) (pc := 0) (l0 := [(3, aI 256), (2, aI 0), (0, aR 8), (1, aI x)]) (lc := aargs 0 [aR 8, aI x]) (st0 := []) (st := []) (s1 := ((12, r, i, j, d), 0, 0)) (s0 := ((12, r, i, j, d), 0, 0)) (WK_less q (fun q hq => ?_)) (fun _ => rfl)
  simp only [List.mem_cons, List.not_mem_nil, or_false] at hq ⊢
  rcases hq with z | z | z | z
  · exact Or.inr (Or.inr (Or.inl z))
  · exact Or.inr (Or.inr (Or.inr z))
  · exact Or.inr (Or.inl z)
  · exact Or.inl z
theorem wkF9 {x : Int} : ∀ (q : Nat) (k : Int) (σ σ0 : SG), σ.1 = 12 → 0 ≤ k → k + q = 256 → WK 275 (.inl none) σ0 (fillW 9 256 x σ) 5 [(0, aR 9), (1, aI x), (2, aI k), (3, aI 256)] [] (fillW 9 k x σ) 0 0 := by
  intro q
  induction q with
  | zero =>
    intro k σ σ0 h k0 hk
    have e : k = 256 := by omega
    subst e
    obtain ⟨K, r, i, j, d⟩ := σ
    have h : K = 12 := h
    subst h
    exact segK_wk (b := (none, (fillW 9 256 x (12, r, i, j, d), 0, 0))) rwJ7_fill_53178 ⟨Nat.le_of_ble_eq_true rfl, Nat.le_of_ble_eq_true rfl⟩ CLK_N ct_N (N := 200) (pc := 5) (lc := [(0, aR 9), (1, aI x), (2, aI 256), (3, aI 256)]) (st := []) (s0 := (fillW 9 256 x (12, r, i, j, d), 0, 0)) rfl
  | succ q ih =>
    intro k σ σ0 h k0 hk
    obtain ⟨K, r, i, j, d⟩ := σ
    have h : K = 12 := h
    subst h
    have e : ∀ f : AL → AS → SW → Option (Option AV × SW), segK (mC 275) (mS 275) krG clN csJ7_fill_53178 (cuC 5 f cuN) 200 5 [(0, aR 9), (1, aI x), (2, aI k), (3, aI 256)] [] (fillW 9 k x (12, r, i, j, d), 0, 0) = if k < 256 then gd ((0 : Int) ≤ k ∧ k < lnK 9) (gd (R32 (k + 1)) (f [(2, aI (k + 1)), (0, aR 9), (1, aI x), (3, aI 256)] [] (uI (fillW 9 k x (12, r, i, j, d)) 9 k x, 0, 0))) else some (none, (fillW 9 k x (12, r, i, j, d), 0, 0)) := fun _ => rfl
    have hl : lnK 9 = 256 := rfl
    refine segK_to (b := (none, (fillW 9 256 x (12, r, i, j, d), 0, 0))) rwJ7_fill_53178 ⟨Nat.le_of_ble_eq_true rfl, Nat.le_of_ble_eq_true rfl⟩ CLK_N (pc2 := 5) (N := 200) (pc := 5) (l0 := [(2, aI (k + 1)), (0, aR 9), (1, aI x), (3, aI 256)]) (lc := [(0, aR 9), (1, aI x), (2, aI k), (3, aI 256)]) (st0 := []) (st := []) (s1 := (uI (fillW 9 k x (12, r, i, j, d)) 9 k x, 0, 0)) (s0 := (fillW 9 k x (12, r, i, j, d), 0, 0)) ?_ (fun f => ?_)
    · rw [fill_s k0]
      refine WK_less (ih (k + 1) (12, r, i, j, d) σ0 rfl (by omega) (by omega)) (fun q hq => ?_)
      simp only [List.mem_cons, List.not_mem_nil, or_false] at hq ⊢
      rcases hq with z | z | z | z
      · exact Or.inr (Or.inl z)
      · exact Or.inr (Or.inr (Or.inl z))
      · exact Or.inl z
      · exact Or.inr (Or.inr (Or.inr z))
    · rw [e, if_pos (by omega), hl, gd_t ⟨by omega, by omega⟩, gd_t ⟨by omega, by omega⟩]
theorem mcF9 {x : Int} {σ : SG} (h : σ.1 = 12) : MCT 275 [] [aR 9, aI x] σ (.inl none) (fillW 9 256 x σ) := by
  refine mct_of (by decide) (MFok 275 (by decide +kernel)) (fun _ => Nat.le_of_ble_eq_true rfl) ?_
  have q := wkF9 (x := x) 256 0 σ σ h (by omega) (by omega)
  rw [fill_0] at q
  obtain ⟨K, r, i, j, d⟩ := σ
  have h : K = 12 := h
  subst h
  refine segK_to (b := (none, (fillW 9 256 x (12, r, i, j, d), 0, 0))) rwJ7_fill_53178 ⟨Nat.le_of_ble_eq_true rfl, Nat.le_of_ble_eq_true rfl⟩ CLK_N (pc2 := 5) (N := 200) (pc := 0) (l0 := [(3, aI 256), (2, aI 0), (0, aR 9), (1, aI x)]) (lc := aargs 0 [aR 9, aI x]) (st0 := []) (st := []) (s1 := ((12, r, i, j, d), 0, 0)) (s0 := ((12, r, i, j, d), 0, 0)) (WK_less q (fun q hq => ?_)) (fun _ => rfl)
  simp only [List.mem_cons, List.not_mem_nil, or_false] at hq ⊢
  rcases hq with z | z | z | z
  · exact Or.inr (Or.inr (Or.inl z))
  · exact Or.inr (Or.inr (Or.inr z))
  · exact Or.inr (Or.inl z)
  · exact Or.inl z
theorem wkF10 {x : Int} : ∀ (q : Nat) (k : Int) (σ σ0 : SG), σ.1 = 12 → 0 ≤ k → k + q = 24 → WK 275 (.inl none) σ0 (fillW 10 24 x σ) 5 [(0, aR 10), (1, aI x), (2, aI k), (3, aI 24)] [] (fillW 10 k x σ) 0 0 := by
  intro q
  induction q with
  | zero =>
    intro k σ σ0 h k0 hk
    have e : k = 24 := by omega
    subst e
    obtain ⟨K, r, i, j, d⟩ := σ
    have h : K = 12 := h
    subst h
    exact segK_wk (b := (none, (fillW 10 24 x (12, r, i, j, d), 0, 0))) rwJ7_fill_53178 ⟨Nat.le_of_ble_eq_true rfl, Nat.le_of_ble_eq_true rfl⟩ CLK_N ct_N (N := 200) (pc := 5) (lc := [(0, aR 10), (1, aI x), (2, aI 24), (3, aI 24)]) (st := []) (s0 := (fillW 10 24 x (12, r, i, j, d), 0, 0)) rfl
  | succ q ih =>
    intro k σ σ0 h k0 hk
    obtain ⟨K, r, i, j, d⟩ := σ
    have h : K = 12 := h
    subst h
    have e : ∀ f : AL → AS → SW → Option (Option AV × SW), segK (mC 275) (mS 275) krG clN csJ7_fill_53178 (cuC 5 f cuN) 200 5 [(0, aR 10), (1, aI x), (2, aI k), (3, aI 24)] [] (fillW 10 k x (12, r, i, j, d), 0, 0) = if k < 24 then gd ((0 : Int) ≤ k ∧ k < lnK 10) (gd (R32 (k + 1)) (f [(2, aI (k + 1)), (0, aR 10), (1, aI x), (3, aI 24)] [] (uI (fillW 10 k x (12, r, i, j, d)) 10 k x, 0, 0))) else some (none, (fillW 10 k x (12, r, i, j, d), 0, 0)) := fun _ => rfl
    have hl : lnK 10 = 24 := rfl
    refine segK_to (b := (none, (fillW 10 24 x (12, r, i, j, d), 0, 0))) rwJ7_fill_53178 ⟨Nat.le_of_ble_eq_true rfl, Nat.le_of_ble_eq_true rfl⟩ CLK_N (pc2 := 5) (N := 200) (pc := 5) (l0 := [(2, aI (k + 1)), (0, aR 10), (1, aI x), (3, aI 24)]) (lc := [(0, aR 10), (1, aI x), (2, aI k), (3, aI 24)]) (st0 := []) (st := []) (s1 := (uI (fillW 10 k x (12, r, i, j, d)) 10 k x, 0, 0)) (s0 := (fillW 10 k x (12, r, i, j, d), 0, 0)) ?_ (fun f => ?_)
    · rw [fill_s k0]
      refine WK_less (ih (k + 1) (12, r, i, j, d) σ0 rfl (by omega) (by omega)) (fun q hq => ?_)
      simp only [List.mem_cons, List.not_mem_nil, or_false] at hq ⊢
      rcases hq with z | z | z | z
      · exact Or.inr (Or.inl z)
      · exact Or.inr (Or.inr (Or.inl z))
      · exact Or.inl z
      · exact Or.inr (Or.inr (Or.inr z))
    · rw [e, if_pos (by omega), hl, gd_t ⟨by omega, by omega⟩, gd_t ⟨by omega, by omega⟩]
theorem mcF10 {x : Int} {σ : SG} (h : σ.1 = 12) : MCT 275 [] [aR 10, aI x] σ (.inl none) (fillW 10 24 x σ) := by
  refine mct_of (by decide) (MFok 275 (by decide +kernel)) (fun _ => Nat.le_of_ble_eq_true rfl) ?_
  have q := wkF10 (x := x) 24 0 σ σ h (by omega) (by omega)
  rw [fill_0] at q
  obtain ⟨K, r, i, j, d⟩ := σ
  have h : K = 12 := h
  subst h
  refine segK_to (b := (none, (fillW 10 24 x (12, r, i, j, d), 0, 0))) rwJ7_fill_53178 ⟨Nat.le_of_ble_eq_true rfl, Nat.le_of_ble_eq_true rfl⟩ CLK_N (pc2 := 5) (N := 200) (pc := 0) (l0 := [(3, aI 24), (2, aI 0), (0, aR 10), (1, aI x)]) (lc := aargs 0 [aR 10, aI x]) (st0 := []) (st := []) (s1 := ((12, r, i, j, d), 0, 0)) (s0 := ((12, r, i, j, d), 0, 0)) (WK_less q (fun q hq => ?_)) (fun _ => rfl)
  simp only [List.mem_cons, List.not_mem_nil, or_false] at hq ⊢
  rcases hq with z | z | z | z
  · exact Or.inr (Or.inr (Or.inl z))
  · exact Or.inr (Or.inr (Or.inr z))
  · exact Or.inr (Or.inl z)
  · exact Or.inl z
