/-! SAVINGS: the model's pieces joined; both sides -/
section SAVB
variable {h h' m : HH} {K K1 : Nat → Int → Int} {v n : Int} {C : List Int → Prop}
theorem m_338 {c2 : Int → Int → HH → Option HH} {P : HH → Prop} {b nn L : Int} (b0 : 0 ≤ b ∧ b < 9) (n0 : 0 ≤ nn ∧ nn < 9) (hL : 0 ≤ L ∧ L ≤ 9) {g0 : HH} (hl : g0.1 111 nn = L) (h62 : g0.1 71 62 = nn) (hk : ∀ g, Fr (fun c _ => c = 110 ∨ c = 111) g0 g → (∀ j, g.1 110 j = if 9 * b ≤ j ∧ j < 9 * b + L then g0.1 110 (9 * nn + (j - 9 * b)) else g0.1 110 j) → (∀ j, g.1 111 j = if j = b then L else g0.1 111 j) → Ok (c2 v 1 g) P) : ∀ (r N : Nat) (i : Int) (m : HH), r < N → i + r = L → 0 ≤ i → Fr (sA 110) g0 m → (∀ j, m.1 110 j = if 9 * b ≤ j ∧ j < 9 * b + i then g0.1 110 (9 * nn + (j - 9 * b)) else g0.1 110 j) → Ok (nX12_joinsAll_338 c2 N v 1 b i m) P := by
  intro r
  induction r with
  | zero =>
    intro N i m hN hi i0 f hj
    obtain ⟨M, rfl⟩ := fuel_s hN
    have e62 : m.1 71 62 = nn := by rw [f.2 71 62 (sA_n (by decide) _)]; exact h62
    have e111 : m.1 111 = g0.1 111 := fr_c f 111 (fun i => sA_n (by decide) i)
    rw [nX12_joinsAll_338_s]
    simp only [bX12_joinsAll_338, nX12_joinsAll_420, bX12_joinsAll_420, nX12_joinsAll_421, bX12_joinsAll_421]
    rw [e62, e111]
    have fin : ∀ y, y = L → Ok (c2 v 1 (hI m 111 b y)) P := fun y hy => by
      refine hk _ (fr_I (fr_m (fun c i s => Or.inl s) f) (Or.inr rfl)) (fun j => ?_) (fun j => ?_)
      · rw [rI_n (by decide), hj j, show i = L by omega]
      · rw [rI_s, updI_at, e111, hy]
    refine ok_gd (by omega) ?_
    refine ok_neg (by omega) ?_
    by_cases c : b = nn
    · refine ok_pos c ?_
      refine ok_gd (by omega) ?_
      refine ok_gd (by omega) ?_
      refine ok_bs ?_
      exact fin _ (by rw [c]; exact hl)
    · refine ok_neg c ?_
      refine ok_gd (by omega) ?_
      refine ok_gd (by omega) ?_
      refine ok_bs ?_
      exact fin _ hl
  | succ r ih =>
    intro N i m hN hi i0 f hj
    obtain ⟨M, rfl⟩ := fuel_s hN
    have e62 : m.1 71 62 = nn := by rw [f.2 71 62 (sA_n (by decide) _)]; exact h62
    have e111 : m.1 111 = g0.1 111 := fr_c f 111 (fun i => sA_n (by decide) i)
    rw [nX12_joinsAll_338_s]
    simp only [bX12_joinsAll_338]
    rw [e62, e111]
    refine ok_gd (by omega) ?_
    refine ok_pos (by omega) ?_
    refine ok_gd (by omega) ?_
    refine ok_gd (by omega) ?_
    refine ok_gd (by omega) ?_
    refine ok_gd (by omega) ?_
    refine ok_gd (by omega) ?_
    refine ok_gd (by omega) ?_
    refine ok_bs ?_
    refine ok_gd (by omega) ?_
    refine ih M (i + 1) _ (by omega) (by omega) (by omega) (fr_I f rfl) (fun j => ?_)
    have e1 : m.1 110 (9 * nn + i) = g0.1 110 (9 * nn + i) := by rw [hj, if_neg (by omega)]
    rw [rI_s, updI_at, e1]
    by_cases c : j = 9 * b + i
    · rw [if_pos c, if_pos (by omega)]
      exact ca (by omega)
    · rw [if_neg c, hj j]
      by_cases c2 : 9 * b ≤ j ∧ j < 9 * b + i
      · rw [if_pos c2, if_pos (by omega)]
      · rw [if_neg c2, if_neg (by omega)]
abbrev s281 : Nat → Int → Prop := fun c i => (c = 110 ∨ c = 111) ∨ (c = 71 ∧ i = 62)
theorem m_281 {c2 : Int → Int → HH → Option HH} {P : HH → Prop} {a b n L : Int} (a0 : 0 ≤ a ∧ a < 9) (hn : 1 ≤ n ∧ n ≤ 9) (hL : 0 ≤ L ∧ L ≤ 9) {g0 : HH} (h51 : g0.1 71 51 = L) (h62 : g0.1 71 62 = n) (hk : ∀ g, Fr s281 g0 g → g.1 71 62 = n - 1 → (∀ j, g.1 110 j = if 9 * a ≤ j ∧ j < 9 * a + L then g0.1 105 (j - 9 * a) else g0.1 110 j) → (∀ j, g.1 111 j = if j = a then L else g0.1 111 j) → Ok (nX12_joinsAll_338 c2 100000 v 1 b 0 g) P) : ∀ (r N : Nat) (i : Int) (m : HH), r < N → i + r = L → 0 ≤ i → Fr (sA 110) g0 m → (∀ j, m.1 110 j = if 9 * a ≤ j ∧ j < 9 * a + i then g0.1 105 (j - 9 * a) else g0.1 110 j) → Ok (nX12_joinsAll_281 c2 N v 1 a b i m) P := by
  intro r
  induction r with
  | zero =>
    intro N i m hN hi i0 f hj
    obtain ⟨M, rfl⟩ := fuel_s hN
    have e62 : m.1 71 62 = n := by rw [f.2 71 62 (sA_n (by decide) _)]; exact h62
    have e51 : m.1 71 51 = L := by rw [f.2 71 51 (sA_n (by decide) _)]; exact h51
    rw [nX12_joinsAll_281_s]
    simp only [bX12_joinsAll_281]
    refine ok_neg (by omega) ?_
    refine ok_gd (by omega) ?_
    refine ok_bs ?_
    have e62' : (hI m 111 a (m.1 71 51)).1 71 62 = n := by rw [rI_n (by decide)]; exact e62
    rw [e62']
    refine ok_gd (by omega) ?_
    refine ok_bs ?_
    refine hk _ (fr_I (S := s281) (fr_I (S := s281) (fr_m (T := s281) (fun c i s => Or.inl (Or.inl s)) f) (Or.inl (Or.inr rfl))) (Or.inr ⟨rfl, rfl⟩)) (by rw [rI_s, updI_s]) (fun j => ?_) (fun j => ?_)
    · rw [rI_n (by decide), rI_n (by decide), hj j, show i = L by omega]
    · rw [rI_n (by decide), rI_s, updI_at, e51, fr_c f 111 (fun i => sA_n (by decide) i)]
  | succ r ih =>
    intro N i m hN hi i0 f hj
    obtain ⟨M, rfl⟩ := fuel_s hN
    have e51 : m.1 71 51 = L := by rw [f.2 71 51 (sA_n (by decide) _)]; exact h51
    have e105 : m.1 105 = g0.1 105 := fr_c f 105 (fun i => sA_n (by decide) i)
    rw [nX12_joinsAll_281_s]
    simp only [bX12_joinsAll_281]
    refine ok_pos (by omega) ?_
    refine ok_gd (by omega) ?_
    refine ok_gd (by omega) ?_
    refine ok_gd (by omega) ?_
    refine ok_gd (by omega) ?_
    refine ok_bs ?_
    refine ok_gd (by omega) ?_
    refine ih M (i + 1) _ (by omega) (by omega) (by omega) (fr_I f rfl) (fun j => ?_)
    rw [rI_s, updI_at, e105]
    by_cases c : j = 9 * a + i
    · rw [if_pos c, if_pos (by omega)]
      exact ca (by omega)
    · rw [if_neg c, hj j]
      by_cases c2 : 9 * a ≤ j ∧ j < 9 * a + i
      · rw [if_pos c2, if_pos (by omega)]
      · rw [if_neg c2, if_neg (by omega)]
theorem mST_jo (hv : VAL K) (hP : PS K v C) {M M2 : Nat → Int → Int} (q : mST C M n) {a b : Int} (a0 : 0 ≤ a ∧ a < n) (b0 : 0 ≤ b ∧ b < n) (hne : a ≠ b) {M1 : Nat → Int → Int} {row : Int → Int} (hrow : rowL row 0 (M 111 a + M 111 b).toNat = mpr M a ++ mpr M b) (e1 : ∀ j, M1 110 j = if 9 * a ≤ j ∧ j < 9 * a + (M 111 a + M 111 b) then row (j - 9 * a) else M 110 j) (e2 : ∀ j, M1 111 j = if j = a then M 111 a + M 111 b else M 111 j) (e3 : ∀ j, M2 110 j = if 9 * b ≤ j ∧ j < 9 * b + M1 111 (n - 1) then M1 110 (9 * (n - 1) + (j - 9 * b)) else M1 110 j) (e4 : ∀ j, M2 111 j = if j = b then M1 111 (n - 1) else M1 111 j) (e5 : M2 71 62 = n - 1) : mST (joC C (mpr M a) (mpr M b)) M2 (n - 1) := by
  obtain ⟨⟨q0, q1, q2⟩, q3, q4, q5⟩ := q
  obtain ⟨ra, cA⟩ := q3 a a0.1 a0.2
  obtain ⟨rb, cB⟩ := q3 b b0.1 b0.2
  have hAB : mpr M a ≠ mpr M b := fun z => hne (q5 a b a0.1 a0.2 b0.1 b0.2 z)
  have lA := mpr_len (M := M) (k := a) (by omega)
  have lB := mpr_len (M := M) (k := b) (by omega)
  have l9 := PS_len hv hP cA cB hAB
  have pA := hP.1 _ cA
  have pB := hP.1 _ cB
  -- behind the first copy
  have f1 : ∀ k, 0 ≤ k → k < n → (1 ≤ M1 111 k ∧ M1 111 k ≤ 9) ∧ mpr M1 k = if k = a then mpr M a ++ mpr M b else mpr M k := fun k k0 k1 => by
    have rk := (q3 k k0 k1).1
    by_cases c : k = a
    · rw [if_pos c, e2, if_pos c]
      refine ⟨by omega, ?_⟩
      rw [← hrow]
      unfold mpr
      rw [e2, if_pos c, c]
      refine rowL_ext (fun j hj => ?_)
      rw [e1, if_pos (by omega)]
      exact ca (by omega)
    · rw [if_neg c, e2, if_neg c]
      refine ⟨rk, ?_⟩
      unfold mpr
      rw [e2, if_neg c]
      refine rowL_ext (fun j hj => ?_)
      rw [e1, if_neg (by omega)]
  have f2 : ∀ k, 0 ≤ k → k < n - 1 → (1 ≤ M2 111 k ∧ M2 111 k ≤ 9) ∧ mpr M2 k = if k = b then mpr M1 (n - 1) else mpr M1 k := fun k k0 k1 => by
    have rk := (f1 k k0 (by omega)).1
    have rn := (f1 (n - 1) (by omega) (by omega)).1
    by_cases c : k = b
    · rw [if_pos c, e4, if_pos c]
      refine ⟨rn, ?_⟩
      unfold mpr
      rw [e4, if_pos c, c]
      refine rowL_ext (fun j hj => ?_)
      rw [e3, if_pos (by omega)]
      exact ca (by omega)
    · rw [if_neg c, e4, if_neg c]
      refine ⟨rk, ?_⟩
      unfold mpr
      rw [e4, if_neg c]
      refine rowL_ext (fun j hj => ?_)
      rw [e3, if_neg (by omega)]
  -- which old piece, or the new one, stands at a place
  have f3 : ∀ k, 0 ≤ k → k < n - 1 → ∃ x, (0 ≤ x ∧ x < n) ∧ x ≠ b ∧ (x = if k = b then n - 1 else k) ∧ mpr M2 k = if x = a then mpr M a ++ mpr M b else mpr M x := fun k k0 k1 => by
    have z := (f2 k k0 k1).2
    by_cases c : k = b
    · refine ⟨n - 1, by omega, by omega, by rw [if_pos c], ?_⟩
      rw [z, if_pos c, (f1 (n - 1) (by omega) (by omega)).2]
    · refine ⟨k, by omega, c, by rw [if_neg c], ?_⟩
      rw [z, if_neg c, (f1 k k0 (by omega)).2]
  have nw : ∀ x, 0 ≤ x → x < n → mpr M x ≠ mpr M a ++ mpr M b := fun x x0 x1 z => by
    have cx := (q3 x x0 x1).2
    have h1 : hdL (mpr M a) ∈ mpr M x := by rw [z]; exact List.mem_append_left _ (hdL_m pA.1.1)
    have h2 : hdL (mpr M b) ∈ mpr M x := by rw [z]; exact List.mem_append_right _ (hdL_m pB.1.1)
    have y1 := hP.2 _ _ _ cx cA h1 (hdL_m pA.1.1)
    have y2 := hP.2 _ _ _ cx cB h2 (hdL_m pB.1.1)
    exact hAB (y1.symm.trans y2)
  refine ⟨⟨e5, by omega, by omega⟩, fun k k0 k1 => ⟨(f2 k k0 k1).1, ?_⟩, fun l hl => ?_, fun k k' k0 k1 k0' k1' e => ?_⟩
  · obtain ⟨x, x0, xb, _, xe⟩ := f3 k k0 k1
    rw [xe]
    by_cases c : x = a
    · rw [if_pos c]; exact Or.inr rfl
    · rw [if_neg c]
      exact Or.inl ⟨(q3 x x0.1 x0.2).2, fun z => c (q5 x a x0.1 x0.2 a0.1 a0.2 z), fun z => xb (q5 x b x0.1 x0.2 b0.1 b0.2 z)⟩
  · -- the place of what stays
    have at_ : ∀ x, 0 ≤ x → x < n → x ≠ b → ∃ k, (0 ≤ k ∧ k < n - 1) ∧ mpr M2 k = if x = a then mpr M a ++ mpr M b else mpr M x := fun x x0 x1 xb => by
      by_cases c : x = n - 1
      · obtain ⟨y, _, _, ye, yy⟩ := f3 b b0.1 (by omega)
        rw [if_pos rfl] at ye
        exact ⟨b, ⟨b0.1, by omega⟩, by rw [yy, ye, c]⟩
      · obtain ⟨y, _, _, ye, yy⟩ := f3 x x0 (by omega)
        rw [if_neg xb] at ye
        exact ⟨x, ⟨x0, by omega⟩, by rw [yy, ye]⟩
    rcases hl with ⟨hl, l1, l2⟩ | hl
    · obtain ⟨x, x0, xe⟩ := q4 l hl
      obtain ⟨k, k0, ke⟩ := at_ x x0.1 x0.2 (fun z => l2 (by rw [← xe, z]))
      refine ⟨k, k0, ?_⟩
      rw [ke, if_neg (fun z => l1 (by rw [← xe, z])), xe]
    · obtain ⟨k, k0, ke⟩ := at_ a a0.1 a0.2 hne
      exact ⟨k, k0, by rw [ke, if_pos rfl, hl]⟩
  · obtain ⟨x, x0, xb, xk, xe⟩ := f3 k k0 k1
    obtain ⟨y, y0, yb, yk, ye⟩ := f3 k' k0' k1'
    rw [xe, ye] at e
    have xy : x = y := by
      by_cases c1 : x = a
      · by_cases c2 : y = a
        · rw [c1, c2]
        · rw [if_pos c1, if_neg c2] at e
          exact absurd e.symm (nw y y0.1 y0.2)
      · by_cases c2 : y = a
        · rw [if_neg c1, if_pos c2] at e
          exact absurd e (nw x x0.1 x0.2)
        · rw [if_neg c1, if_neg c2] at e
          exact q5 x y x0.1 x0.2 y0.1 y0.2 e
    by_cases c1 : k = b
    · by_cases c2 : k' = b
      · rw [c1, c2]
      · rw [if_pos c1] at xk
        rw [if_neg c2] at yk
        omega
    · by_cases c2 : k' = b
      · rw [if_neg c1] at xk
        rw [if_pos c2] at yk
        omega
      · rw [if_neg c1] at xk
        rw [if_neg c2] at yk
        omega
theorem m_joins (hv : VAL K) (v0 : 0 ≤ v) (v1 : v < K 13 14) : ∀ (r N : Nat) (n : Int) (C : List Int → Prop) (m : HH), n ≤ r → r + 1 < N → RM K m → PS K v C → mST C m.1 n → Ok (nX12_joinsAll_2 N v 1 m) (fun g => Fr sMv m g ∧ ∃ E k n', endC K v k C E ∧ mST E g.1 n') := by
  have hn := v_n hv
  intro r
  induction r with
  | zero =>
    intro N n C m hr hN hm hP q
    obtain ⟨M, rfl⟩ := fuel_s (k := 0) (show 0 < N by omega)
    obtain ⟨M, rfl⟩ := fuel_s (k := 0) (show 0 < M by omega)
    have n0 : n = 0 := by have := q.1.2.1; omega
    rw [nX12_joinsAll_2_s]
    simp only [bX12_joinsAll_2]
    refine ok_neg (by decide) ?_
    refine m_17 hv hm v0 v1 hP q (fun g x3 x4 x5 s f hb hs => ?_) 0 100000 0 (-1) (-1) 0 none m (by omega) (by rw [n0]; rfl) (by omega) fr_r (fun A B ⟨a, b, a0, _⟩ => by omega) ⟨rfl, rfl, rfl⟩
    cases s with
    | none =>
      rw [if_pos hs.1]
      simp only [nX12_joinsAll_266, bX12_joinsAll_266, nX12_joinsAll_421, bX12_joinsAll_421]
      refine ok_pos True.intro ?_
      rw [nX12_joinsAll_2_s]
      simp only [bX12_joinsAll_2]
      refine ok_pos True.intro ?_
      exact ok_some ⟨fr_m (fun c i s => Or.inl s) f, C, 1, n, Or.inl ⟨hb, rfl⟩, mST_fr q f⟩
    | some p =>
      obtain ⟨A, B⟩ := p
      have := hs.1
      omega
  | succ r ih =>
    intro N n C m hr hN hm hP q
    obtain ⟨M, rfl⟩ := fuel_s (k := 0) (show 0 < N by omega)
    have q9 := q.1
    have hnn : 0 ≤ n * n ∧ n * n ≤ 9 * 9 := mul_b ⟨q.1.2.1, q.1.2.2⟩ ⟨q.1.2.1, q.1.2.2⟩
    rw [nX12_joinsAll_2_s]
    simp only [bX12_joinsAll_2]
    refine ok_neg (by decide) ?_
    refine m_17 hv hm v0 v1 hP q (fun g x3 x4 x5 s f hb hs => ?_) (n * n).toNat 100000 0 (-1) (-1) 0 none m (by omega) (by omega) (by omega) fr_r (fun A B ⟨a, b, a0, b0, _, hlt, _⟩ => by
      have := Int.mul_nonneg a0.1 q.1.2.1
      omega) ⟨rfl, rfl, rfl⟩
    have qg := mST_fr q f
    cases s with
    | none =>
      rw [if_pos hs.1]
      obtain ⟨M, rfl⟩ := fuel_s (k := 0) (show 0 < M by omega)
      simp only [nX12_joinsAll_266, bX12_joinsAll_266, nX12_joinsAll_421, bX12_joinsAll_421]
      refine ok_pos True.intro ?_
      rw [nX12_joinsAll_2_s]
      simp only [bX12_joinsAll_2]
      refine ok_pos True.intro ?_
      exact ok_some ⟨fr_m (fun c i s => Or.inl s) f, C, 1, n, Or.inl ⟨hb, rfl⟩, qg⟩
    | some p =>
      obtain ⟨A, B⟩ := p
      obtain ⟨⟨t1, t2, t3⟩, ⟨t4, t5⟩, _⟩ := hs
      rw [if_neg (by omega)]
      simp only [nX12_joinsAll_266, bX12_joinsAll_266]
      refine ok_neg (by decide) ?_
      have e111 : g.1 111 = m.1 111 := fr_c f 111 (fun i s => by dsimp only [sJP] at s; unfold sRow sDr at s; omega)
      have e110 : g.1 110 = m.1 110 := fr_c f 110 (fun i s => by dsimp only [sJP] at s; unfold sRow sDr at s; omega)
      have epr : ∀ k, mpr g.1 k = mpr m.1 k := mpr_eq e110 e111
      obtain ⟨ra, cA⟩ := qg.2.1 x3 t1.1 t1.2
      obtain ⟨rb, cB⟩ := qg.2.1 x4 t2.1 t2.2
      have hAB : mpr g.1 x3 ≠ mpr g.1 x4 := fun z => t3 (qg.2.2.2 x3 x4 t1.1 t1.2 t2.1 t2.2 z)
      have lA := mpr_len (M := g.1) (k := x3) (by omega)
      have lB := mpr_len (M := g.1) (k := x4) (by omega)
      have l9 := PS_len hv hP cA cB hAB
      refine ok_bnd (m_joinsP (m := g) (a := x3) (b := x4) (by omega) (by omega) (by omega) (by omega) (by omega)) (fun g1 hg1 => ?_)
      obtain ⟨f1, r1, r2⟩ := hg1
      have g111 : g1.1 111 = g.1 111 := fr_c f1 111 (fun i s => by unfold sRow at s; omega)
      have g110 : g1.1 110 = g.1 110 := fr_c f1 110 (fun i s => by unfold sRow at s; omega)
      have g62 : g1.1 71 62 = n := by rw [f1.2 71 62 (by unfold sRow; omega)]; exact qg.1.1
      refine m_281 (n := n) (L := g.1 111 x3 + g.1 111 x4) (g0 := g1) (by omega) (by omega) (by omega) r1 g62 (fun g2 f2 e62 w1 w2 => ?_) (g.1 111 x3 + g.1 111 x4).toNat 100000 0 g1 (by omega) (by omega) (by omega) fr_r (fun j => by rw [if_neg (by omega)])
      rw [g110] at w1
      rw [g111] at w2
      have rn : 0 ≤ g2.1 111 (n - 1) ∧ g2.1 111 (n - 1) ≤ 9 := by
        have := (qg.2.1 (n - 1) (by omega) (by omega)).1
        rw [w2]
        split <;> omega
      refine m_338 (nn := n - 1) (L := g2.1 111 (n - 1)) (g0 := g2) (by omega) (by omega) rn rfl e62 (fun g3 f3 w3 w4 => ?_) (g2.1 111 (n - 1)).toNat 100000 0 g2 (by omega) (by omega) (by omega) fr_r (fun j => by rw [if_neg (by omega)])
      have e62' : g3.1 71 62 = n - 1 := by rw [f3.2 71 62 (by omega)]; exact e62
      have hrow : rowL (g1.1 105) 0 (g.1 111 x3 + g.1 111 x4).toNat = mpr g.1 x3 ++ mpr g.1 x4 := by rw [← r2]; unfold mrow; rw [r1]
      have q3 := mST_jo hv hP qg t1 t2 t3 hrow w1 w2 w3 w4 e62'
      have fm3 : Fr sMv m g3 := fr_t (fr_m (fun c i s => Or.inl s) f) (fr_t (fr_m (fun c i s => Or.inl (Or.inl s)) f1) (fr_t (fr_m (fun c i s => Or.inr s) f2) (fr_m (fun c i s => Or.inr (Or.inl s)) f3)))
      rw [epr, epr, t4, t5] at q3
      have hA := hb.1.1
      refine ok_mono (ih M (n - 1) (joC C A B) g3 (by omega) (by omega) (RM_fr hm fm3 (fun c i s => by dsimp only [sMv, sJP] at s; unfold sRow sDr at s; unfold rmP; omega)) (PS_jo hP hA.1 hA.2.1 hA.2.2 hb.1.2) q3) (fun g' hg' => ?_)
      obtain ⟨u1, E, kk, n', u2, u3⟩ := hg'
      exact ⟨fr_t fm3 u1, E, kk + 1, n', Or.inr ⟨A, B, hb, u2⟩, u3⟩
theorem mST_push {M M2 : Nat → Int → Int} {k : Int} (q : mST (C0 K v k) M n) (n8 : n ≤ 8) (k0 : 0 ≤ k) (hk : (K 20 k = 0 ∧ vw K k = -1) ∧ costL K v [k] ≠ -1) (e1 : ∀ j, M2 110 j = if j = 9 * n then k else M 110 j) (e2 : ∀ j, M2 111 j = if j = n then 1 else M 111 j) (e3 : M2 71 62 = n + 1) : mST (C0 K v (k + 1)) M2 (n + 1) := by
  obtain ⟨⟨q0, q1, q2⟩, q3, q4, q5⟩ := q
  have pn : mpr M2 n = [k] := by
    unfold mpr
    rw [e2, if_pos rfl]
    show [M2 110 (9 * n)] = [k]
    rw [e1, if_pos rfl]
  have po : ∀ j, 0 ≤ j → j < n → mpr M2 j = mpr M j := fun j j0 j1 => by
    have := (q3 j j0 j1).1
    unfold mpr
    rw [e2, if_neg (by omega)]
    exact rowL_ext (fun i hi => by rw [e1, if_neg (by omega)])
  have ok : ∀ l, C0 K v (k + 1) l ↔ C0 K v k l ∨ l = [k] := fun l => by
    constructor
    · rintro ⟨p, a, b, c⟩
      by_cases e : p = k
      · right; rw [b, e]
      · left; exact ⟨p, by omega, b, c⟩
    · rintro (⟨p, a, b, c⟩ | e)
      · exact ⟨p, by omega, b, c⟩
      · exact ⟨k, by omega, e, hk⟩
  have nk : ∀ l, C0 K v k l → l ≠ [k] := fun l ⟨p, a, b, _⟩ e => by
    rw [b] at e
    have := (List.cons.inj e).1
    omega
  refine ⟨⟨e3, by omega, by omega⟩, fun j j0 j1 => ?_, fun l hl => ?_, fun j j' j0 j1 j0' j1' e => ?_⟩
  · by_cases c : j = n
    · rw [c, pn, e2, if_pos rfl]
      exact ⟨by omega, (ok _).mpr (Or.inr rfl)⟩
    · rw [po j j0 (by omega), e2, if_neg c]
      have z := q3 j j0 (by omega)
      exact ⟨z.1, (ok _).mpr (Or.inl z.2)⟩
  · rcases (ok l).mp hl with z | z
    · obtain ⟨j, j0, je⟩ := q4 l z
      exact ⟨j, by omega, by rw [po j j0.1 j0.2]; exact je⟩
    · exact ⟨n, by omega, by rw [pn, z]⟩
  · by_cases c : j = n
    · by_cases c' : j' = n
      · rw [c, c']
      · rw [c, pn, po j' j0' (by omega)] at e
        exact absurd e.symm (nk _ (q3 j' j0' (by omega)).2)
    · by_cases c' : j' = n
      · rw [c', pn, po j j0 (by omega)] at e
        exact absurd e (nk _ (q3 j j0 (by omega)).2)
      · rw [po j j0 (by omega), po j' j0' (by omega)] at e
        exact q5 j j' j0 (by omega) j0' (by omega) e
theorem mST_keep {M : Nat → Int → Int} {k : Int} (q : mST (C0 K v k) M n) (hk : ¬ ((K 20 k = 0 ∧ vw K k = -1) ∧ costL K v [k] ≠ -1)) : mST (C0 K v (k + 1)) M n := by
  have ok : ∀ l, C0 K v (k + 1) l ↔ C0 K v k l := fun l => by
    constructor
    · rintro ⟨p, a, b, c⟩
      by_cases e : p = k
      · rw [e] at c; exact absurd c hk
      · exact ⟨p, by omega, b, c⟩
    · rintro ⟨p, a, b, c⟩
      exact ⟨p, by omega, b, c⟩
  unfold mST at q ⊢
  simp only [ok]
  exact q
/-- the chosen piece becomes the row -/
theorem m_222 {P : Int × HH → Prop} {b L : Int} {g0 : HH} (hb : L = 0 ∨ (0 ≤ b ∧ b < 9)) (hb2 : -1 ≤ b ∧ b < 9) (hL : 0 ≤ L ∧ L ≤ 9) (h51 : g0.1 71 51 = L) (hk : ∀ g, Fr sRow g0 g → g.1 71 51 = L → (∀ j, 0 ≤ j → j < L → g.1 105 j = g0.1 110 (9 * b + j)) → Ok (bnd (nX12_keeps g) fun r1 => bnd (nX12_lays v r1) fun r2 => bnd (nX12_told (r2.1 71 51) r2) fun r3 => some (r3.1, r3.2)) P) : ∀ (r N : Nat) (i : Int) (m : HH), r < N → i + r = L → 0 ≤ i → Fr (sA 105) g0 m → (∀ j, 0 ≤ j → j < i → m.1 105 j = g0.1 110 (9 * b + j)) → Ok (nX12_savings_222 N v b i m) P := by
  intro r
  induction r with
  | zero =>
    intro N i m hN hi i0 f hj
    obtain ⟨M, rfl⟩ := fuel_s hN
    have e51 : m.1 71 51 = L := by rw [f.2 71 51 (sA_n (by decide) _)]; exact h51
    rw [nX12_savings_222_s]
    simp only [bX12_savings_222]
    refine ok_neg (by omega) ?_
    exact hk m (fr_m (fun c i s => Or.inl s) f) e51 (fun j j0 j1 => hj j j0 (by omega))
  | succ r ih =>
    intro N i m hN hi i0 f hj
    obtain ⟨M, rfl⟩ := fuel_s hN
    have e51 : m.1 71 51 = L := by rw [f.2 71 51 (sA_n (by decide) _)]; exact h51
    have e110 : m.1 110 = g0.1 110 := fr_c f 110 (fun i => sA_n (by decide) i)
    rw [nX12_savings_222_s]
    simp only [bX12_savings_222]
    refine ok_pos (by omega) ?_
    refine ok_gd (by omega) ?_
    refine ok_gd (by omega) ?_
    refine ok_gd (by omega) ?_
    refine ok_gd (by omega) ?_
    refine ok_bs ?_
    refine ok_gd (by omega) ?_
    refine ih M (i + 1) _ (by omega) (by omega) (by omega) (fr_I f rfl) (fun j j0 j1 => ?_)
    rw [rI_s, updI_at, e110]
    by_cases c : j = i
    · rw [if_pos c, c]
    · rw [if_neg c]; exact hj j j0 (by omega)
theorem m_121 {P : Int × HH → Prop} {E : List Int → Prop} {g0 : HH} (hP : PS K v E) (q : mST E g0.1 n) (hk : ∀ g L, Fr sRow g0 g → loP E L → g.1 71 51 = L.length → mrow g = L → Ok (bnd (nX12_keeps g) fun r1 => bnd (nX12_lays v r1) fun r2 => bnd (nX12_told (r2.1 71 51) r2) fun r3 => some (r3.1, r3.2)) P) : ∀ (r N : Nat) (b k : Int), r < N → k + r = n → 0 ≤ k → ((b = -1 ∧ k = 0) ∨ ((0 ≤ b ∧ b < k) ∧ ∀ j, 0 ≤ j → j < k → g0.1 111 j < g0.1 111 b ∨ (g0.1 111 j = g0.1 111 b ∧ hdL (mpr g0.1 b) ≤ hdL (mpr g0.1 j)))) → Ok (nX12_savings_121 N v b k g0) P := by
  obtain ⟨⟨q0, q1, q2⟩, q3, q4, q5⟩ := q
  have eHd : ∀ a, 0 ≤ a → a < n → nX12_firstOf g0 a = some (hdL (mpr g0.1 a)) := fun a a0 a1 => by
    have z := (q3 a a0 a1).1
    unfold nX12_firstOf bX12_firstOf
    rw [gd_t (by omega), gd_t (by omega)]
    unfold mpr
    rw [hdL_row (by omega)]
  intro r
  induction r with
  | zero =>
    intro N b k hN hkr k0 hb
    obtain ⟨M, rfl⟩ := fuel_s hN
    rw [nX12_savings_121_s]
    simp only [bX12_savings_121, nX12_savings_217, bX12_savings_217]
    refine ok_neg (by omega) ?_
    have fin : ∀ L : List Int, loP E L → (-1 ≤ b ∧ b < 9) → (L = [] ∨ ((0 ≤ b ∧ b < 9) ∧ L = mpr g0.1 b)) → L.length ≤ 9 → Ok (nX12_savings_222 100000 v b 0 (hI g0 71 51 L.length)) P := fun L hL hb2 hbL h9 => by
      refine m_222 (L := L.length) (g0 := hI g0 71 51 L.length) (by
        rcases hbL with z | z
        · exact Or.inl (by rw [z]; rfl)
        · exact Or.inr z.1) hb2 (by omega) (by rw [rI_s, updI_s]) (fun g f e51 ej => ?_) L.length 100000 0 _ (by omega) (by omega) (by omega) fr_r (fun j j0 j1 => by omega)
      refine hk g L (fr_t (fr_I fr_r (Or.inr ⟨rfl, rfl⟩)) f) hL e51 ?_
      unfold mrow
      rw [e51, show ((L.length : Nat) : Int).toNat = L.length by omega]
      rcases hbL with z | ⟨z0, z⟩
      · rw [z]; rfl
      · have : L = rowL (g0.1 110) (9 * b) L.length := by
          conv => lhs; rw [z]
          unfold mpr
          congr 1
          have := mpr_len (M := g0.1) (k := b)
          by_cases c : 0 ≤ g0.1 111 b
          · have := this c
            rw [← z] at this
            omega
          · rw [z]; unfold mpr; rw [rowL_len]
        conv => rhs; rw [this]
        refine rowL_ext (fun j hj => ?_)
        rw [ej _ (by omega) (by omega), rI_n (by decide)]
        exact ca (by omega)
    rcases hb with ⟨hb, hk0⟩ | ⟨hb0, hbj⟩
    · refine ok_pos hb ?_
      refine ok_bs ?_
      exact fin [] (Or.inl ⟨rfl, fun l hl => by obtain ⟨x, x0, _⟩ := q4 l hl; omega⟩) (by omega) (Or.inl rfl) (by simp)
    · refine ok_neg (by omega) ?_
      refine ok_gd (by omega) ?_
      refine ok_bs ?_
      have zb := q3 b hb0.1 (by omega)
      have lb := mpr_len (M := g0.1) (k := b) (by omega)
      rw [← lb]
      refine fin (mpr g0.1 b) (Or.inr ⟨zb.2, fun l hl => ?_⟩) (by omega) (Or.inr ⟨by omega, rfl⟩) (by omega)
      obtain ⟨x, x0, xe⟩ := q4 l hl
      have zx := q3 x x0.1 x0.2
      have lx := mpr_len (M := g0.1) (k := x) (by omega)
      have := hbj x x0.1 (by omega)
      rw [← xe]
      omega
  | succ r ih =>
    intro N b k hN hkr k0 hb
    obtain ⟨M, rfl⟩ := fuel_s hN
    have at182 : ∀ y : Int, ((y = 1 ∧ ∀ j, 0 ≤ j → j < k + 1 → g0.1 111 j < g0.1 111 k ∨ (g0.1 111 j = g0.1 111 k ∧ hdL (mpr g0.1 k) ≤ hdL (mpr g0.1 j))) ∨ (y = 0 ∧ (0 ≤ b ∧ b < k + 1) ∧ ∀ j, 0 ≤ j → j < k + 1 → g0.1 111 j < g0.1 111 b ∨ (g0.1 111 j = g0.1 111 b ∧ hdL (mpr g0.1 b) ≤ hdL (mpr g0.1 j)))) → Ok (nX12_savings_182 (nX12_savings_121 M) v b k y g0) P := fun y hy => by
      simp only [nX12_savings_182, bX12_savings_182, nX12_savings_194, bX12_savings_194]
      rcases hy with ⟨z, w⟩ | ⟨z, w⟩
      · refine ok_neg (by omega) ?_
        refine ok_gd (by omega) ?_
        exact ih M k (k + 1) (by omega) (by omega) (by omega) (Or.inr ⟨by omega, w⟩)
      · refine ok_pos z ?_
        refine ok_gd (by omega) ?_
        exact ih M b (k + 1) (by omega) (by omega) (by omega) (Or.inr w)
    rw [nX12_savings_121_s]
    simp only [bX12_savings_121, nX12_savings_177, bX12_savings_177, nX12_savings_181, bX12_savings_181]
    refine ok_pos (by omega) ?_
    rcases hb with ⟨hb, hk0⟩ | ⟨hb0, hbj⟩
    · refine ok_pos hb ?_
      exact at182 1 (Or.inl ⟨rfl, fun j j0 j1 => by rw [show j = k by omega]; exact Or.inr ⟨rfl, Int.le_refl _⟩⟩)
    · refine ok_neg (by omega) ?_
      refine ok_gd (by omega) ?_
      refine ok_gd (by omega) ?_
      by_cases c1 : g0.1 111 b < g0.1 111 k
      · refine ok_pos c1 ?_
        refine at182 1 (Or.inl ⟨rfl, fun j j0 j1 => ?_⟩)
        by_cases e : j = k
        · rw [e]; exact Or.inr ⟨rfl, Int.le_refl _⟩
        · have := hbj j j0 (by omega)
          omega
      · refine ok_neg c1 ?_
        refine ok_gd (by omega) ?_
        refine ok_gd (by omega) ?_
        by_cases c2 : g0.1 111 k = g0.1 111 b
        · refine ok_pos c2 ?_
          refine ok_be (eHd k k0 (by omega)) ?_
          refine ok_be (eHd b hb0.1 (by omega)) ?_
          by_cases c3 : hdL (mpr g0.1 k) < hdL (mpr g0.1 b)
          · refine ok_pos c3 ?_
            refine at182 1 (Or.inl ⟨rfl, fun j j0 j1 => ?_⟩)
            by_cases e : j = k
            · rw [e]; exact Or.inr ⟨rfl, Int.le_refl _⟩
            · have := hbj j j0 (by omega)
              omega
          · refine ok_neg c3 ?_
            refine at182 0 (Or.inr ⟨rfl, by omega, fun j j0 j1 => ?_⟩)
            by_cases e : j = k
            · rw [e]; omega
            · exact hbj j j0 (by omega)
        · refine ok_neg c2 ?_
          refine at182 0 (Or.inr ⟨rfl, by omega, fun j j0 j1 => ?_⟩)
          by_cases e : j = k
          · rw [e]; omega
          · exact hbj j j0 (by omega)
theorem m_36 (hv : VAL K) (hm : RM K m) (hq : ∀ p, 0 ≤ p → p < K 13 10 → m.1 90 p = vw K p) (v0 : 0 ≤ v) (v1 : v < K 13 14) {P : Int × HH → Prop} (hk : ∀ g L E k, Fr sMv m g → endC K v k (C0 K v (K 13 10)) E → loP E L → g.1 71 51 = L.length → mrow g = L → Ok (bnd (nX12_keeps g) fun r1 => bnd (nX12_lays v r1) fun r2 => bnd (nX12_told (r2.1 71 51) r2) fun r3 => some (r3.1, r3.2)) P) : ∀ (r N : Nat) (k n : Int) (g : HH), r < N → k + r = K 13 10 → 0 ≤ k → n ≤ k → Fr sMv m g → mST (C0 K v k) g.1 n → Ok (nX12_savings_36 N v k g) P := by
  have hn := v_n hv
  intro r
  induction r with
  | zero =>
    intro N k n g hN hkr k0 nk f q
    obtain ⟨M, rfl⟩ := fuel_s hN
    have hmg : RM K g := RM_fr hm f (fun c i s => by dsimp only [sMv, sJP] at s; unfold sRow sDr at s; unfold rmP; omega)
    have e21 := hmg.1.1
    rw [nX12_savings_36_s]
    simp only [bX12_savings_36]
    refine ok_neg (by omega) ?_
    rw [show k = K 13 10 by omega] at q
    have q9 := q.1
    refine ok_bnd (m_joins hv v0 v1 9 100000 n _ g (by omega) (by omega) hmg PS_0 q) (fun g1 hg1 => ?_)
    obtain ⟨f1, E, kk, n', he, qe⟩ := hg1
    have q9' := qe.1
    refine m_121 (endC_P PS_0 he) qe (fun g2 L f2 hL e51 er => ?_) n'.toNat 100000 (-1) 0 (by omega) (by omega) (by omega) (Or.inl ⟨rfl, rfl⟩)
    exact hk g2 L E kk (fr_t f (fr_t f1 (fr_m (fun c i s => Or.inl (Or.inl s)) f2))) he hL e51 er
  | succ r ih =>
    intro N k n g hN hkr k0 nk f q
    obtain ⟨M, rfl⟩ := fuel_s hN
    have hmg : RM K g := RM_fr hm f (fun c i s => by dsimp only [sMv, sJP] at s; unfold sRow sDr at s; unfold rmP; omega)
    have e21 := hmg.1.1
    rw [nX12_savings_36_s]
    simp only [bX12_savings_36, nX12_savings_106, bX12_savings_106]
    have nx : ∀ g' n', n' ≤ k + 1 → Fr sMv m g' → mST (C0 K v (k + 1)) g'.1 n' → Ok (gd (R32 (k + 1)) (nX12_savings_36 M v (k + 1) g')) P := fun g' n' hn' f' q' => by
      refine ok_gd (by omega) ?_
      exact ih M (k + 1) n' g' (by omega) (by omega) (by omega) hn' f' q'
    refine ok_pos (by omega) ?_
    refine ok_bs ?_
    refine ok_gd (by omega) ?_
    refine ok_bs ?_
    have f1 : Fr sJP g (hI (hI g 71 51 1) 105 0 k) := fr_I (fr_I fr_r (Or.inl (Or.inr ⟨rfl, rfl⟩))) (Or.inl (Or.inl rfl))
    have e51 : (hI (hI g 71 51 1) 105 0 k).1 71 51 = 1 := by rw [rI_n (by decide), rI_s, updI_s]
    have e105 : (hI (hI g 71 51 1) 105 0 k).1 105 0 = k := by rw [rI_s, updI_s]
    generalize hI (hI g 71 51 1) 105 0 k = g1 at *
    have q1 := mST_fr q f1
    have f01 : Fr sMv m g1 := fr_t f (fr_m (fun c i s => Or.inl s) f1)
    have hm1 : RM K g1 := RM_fr hm f01 (fun c i s => by dsimp only [sMv, sJP] at s; unfold sRow sDr at s; unfold rmP; omega)
    have e90 : ∀ p, 0 ≤ p → p < K 13 10 → g1.1 90 p = vw K p := fun p p0 p1 => by
      rw [f01.2 90 p (by dsimp only [sMv, sJP]; unfold sRow sDr; omega)]
      exact hq p p0 p1
    refine ok_be (sX12_canBePut hm1 e90 (p := k) k0 (by omega) (by omega)) ?_
    by_cases c1 : K 20 k = 0 ∧ vw K k = -1
    · rw [b2i, if_pos c1]
      refine ok_neg (by decide) ?_
      have er : rowL (g1.1 105) 0 (g1.1 71 51).toNat = [k] := by
        rw [e51]
        show [g1.1 105 0] = [k]
        rw [e105]
      refine ok_bnd (sX12_drives hv hm1 (v := v) v0 v1 (by omega) (by omega) (by rw [er]; exact fun p hp => by rw [List.mem_singleton.mp hp]; omega)) (fun x hx => ?_)
      obtain ⟨x1, f2, _⟩ := hx
      rw [er] at x1
      rw [x1]
      have fg2 : Fr sMv m x.2 := fr_t f01 (fr_m (fun c i s => Or.inl (Or.inr s)) f2)
      have q2 := mST_fr q1 (fr_m (fun c i s => Or.inr s) f2)
      by_cases c2 : costL K v [k] = -1
      · refine ok_pos c2 ?_
        exact nx x.2 n (by omega) fg2 (mST_keep q2 (fun z => z.2 c2))
      · refine ok_neg c2 ?_
        have q62 := q2.1.1
        have qn := q2.1.2
        rw [q62]
        refine ok_gd (by omega) ?_
        refine ok_gd (by omega) ?_
        refine ok_bs ?_
        have e62a : (hI x.2 110 (9 * n) k).1 71 62 = n := by rw [rI_n (by decide)]; exact q62
        rw [e62a]
        refine ok_gd (by omega) ?_
        refine ok_bs ?_
        have e62b : (hI (hI x.2 110 (9 * n) k) 111 n 1).1 71 62 = n := by rw [rI_n (by decide)]; exact e62a
        rw [e62b]
        refine ok_gd (by omega) ?_
        refine ok_bs ?_
        refine nx _ (n + 1) (by omega) (fr_I (fr_I (fr_I fg2 (Or.inr (Or.inl (Or.inl rfl)))) (Or.inr (Or.inl (Or.inr rfl)))) (Or.inr (Or.inr ⟨rfl, rfl⟩))) (mST_push q2 (by omega) k0 ⟨c1, c2⟩ (fun j => ?_) (fun j => ?_) ?_)
        · rw [rI_n (by decide), rI_n (by decide), rI_s, updI_at]
        · rw [rI_n (by decide), rI_s, updI_at, rI_n (by decide)]
        · rw [rI_s, updI_s]
    · rw [b2i, if_neg c1]
      refine ok_pos rfl ?_
      exact nx g1 n (by omega) f01 (mST_keep q1 (fun z => c1 z.1))
theorem op_savings (i : INV h h') (x1 : Int) : both (nX11_savings x1 h) (nX12_savings x1 h') (cdX 1 0 2 0) := by
  have i0 := i
  have hv := i.1.1.1
  have hm := i.1.1.2
  have hn := inv_n i
  simp only [nX11_savings, bX11_savings, nX11_savings_22, bX11_savings_22, nX12_savings, bX12_savings, both]
  by_cases p1 : 0 ≤ x1 ∧ x1 < h.1 13 14
  · have v0 := p1.1
    have v1 := p1.2
    have v3 : x1 < 3 := by omega
    have hr0 := inv_RV i
    have hb31 := (hr0 x1 v0 v3).1
    have e95 := (i.2.1.1.2.1 x1 v0 v3).2.1
    by_cases p2 : h.1 31 x1 = 0
    · repeat (first | with_reducible refine ok_gd (by first | omega | decide) ?_ | with_reducible refine ok_bs ?_ | with_reducible refine ok_be (sX12_refuse _ _) ?_ | with_reducible refine ok_be (sX12_told _ _) ?_ | with_reducible refine ok_ndt (sX11_needVan hv) (by omega) ?_ | with_reducible refine ok_ndf (sX11_needVan hv) (by omega) ?_ | with_reducible refine ok_ndt (sX11_needParcel hv) (by omega) ?_ | with_reducible refine ok_ndf (sX11_needParcel hv) (by omega) ?_ | with_reducible refine ok_ndt (sX11_needIndex _ _ _ _) (by omega) ?_ | with_reducible refine ok_ndf (sX11_needIndex _ _ _ _) (by omega) ?_ | with_reducible refine ok_ndt (sX11_needRange _ _ _ _) (by omega) ?_ | with_reducible refine ok_ndf (sX11_needRange _ _ _ _) (by omega) ?_ | with_reducible refine ok_ndt (sX11_needThat2 _ _) (by omega) ?_ | with_reducible refine ok_ndf (sX11_needThat2 _ _) (by omega) ?_ | with_reducible refine ok_ndt (sX11_needState2 _ _) (by omega) ?_ | with_reducible refine ok_ndf (sX11_needState2 _ _) (by omega) ?_ | with_reducible refine ok_ndt (sX11_needElement _ _) (by omega) ?_ | with_reducible refine ok_ndf (sX11_needElement _ _) (by omega) ?_ | with_reducible refine ok_ndt (sX11_needPlace _ _) (by omega) ?_ | with_reducible refine ok_ndf (sX11_needPlace _ _) (by omega) ?_ | with_reducible refine ok_ndt (sX11_needSender _ _) (by omega) ?_ | with_reducible refine ok_ndf (sX11_needSender _ _) (by omega) ?_ | with_reducible refine ok_b2t (sX12_isVan hm hv) (by omega) ?_ | with_reducible refine ok_b2f (sX12_isVan hm hv) (by omega) ?_ | with_reducible refine ok_b2t (sX12_isParcel hm hv) (by omega) ?_ | with_reducible refine ok_b2f (sX12_isParcel hm hv) (by omega) ?_ | with_reducible refine ok_b2t (sX12_in _ _ _ _) (by omega) ?_ | with_reducible refine ok_b2f (sX12_in _ _ _ _) (by omega) ?_ | with_reducible refine ok_b2t (sX12_isPlace _ _) (by omega) ?_ | with_reducible refine ok_b2f (sX12_isPlace _ _) (by omega) ?_ | with_reducible refine ok_pos (by omega) ?_ | with_reducible refine ok_neg (by omega) ?_ | with_reducible refine ok_tl ?_ | with_reducible refine ok_tr ?_ | dsimp only)
      refine ok_bnd (inv_rem i) (fun g1 q1 => ?_)
      have r1 := rem_31 q1
      have e13 : g1.1 13 = h.1 13 := r1.1 13 (by omega)
      have hv1 : VAL g1.1 := VAL_eq hv (fun c hc => r1.1 c (by omega)) (by rw [e13]; exact ⟨rfl, rfl⟩)
      have hr1 : RV g1.1 := RV_eq hr0 (fun c c1 c2 => r1.1 c (by omega)) (by rw [e13])
      have evw : ∀ p, vw g1.1 p = vw h.1 p := fun p => vw_eq (fun c c1 c2 => r1.1 c (by omega))
      have v11 : x1 < g1.1 13 14 := by rw [e13]; exact v1
      refine ok_gd (by decide) ?_
      refine ok_bnd (c_make hv1 hr1 v0 v11) (fun g5 q5 => ?_)
      obtain ⟨f5, L, E, kk, he, hl, ⟨l31, lr⟩, lo⟩ := q5
      have hPE := endC_P PS_0 he
      have eK : ∀ c, c < 32 → g1.1 c = h.1 c := r1.1
      have Lp : (∀ p ∈ L, (0 ≤ p ∧ p < h.1 13 10) ∧ h.1 20 p = 0) ∧ L.Nodup ∧ (∀ p ∈ L, vw h.1 p = -1) ∧ costL h.1 x1 L ≠ -1 := by
        rcases hl with ⟨z, _⟩ | ⟨z, _⟩
        · rw [z]
          exact ⟨fun p hp => absurd hp List.not_mem_nil, List.nodup_nil, fun p hp => absurd hp List.not_mem_nil, by rw [costL_nil hv v0 v1]; decide⟩
        · obtain ⟨⟨_, w1, w2⟩, w3, w4⟩ := hPE.1 L z
          refine ⟨fun p hp => ⟨by have := w1 p hp; rw [e13] at this; exact this, by rw [← eK 20 (by omega)]; exact (w3 p hp).1⟩, w2, fun p hp => by rw [← evw]; exact (w3 p hp).2, ?_⟩
          have ec : costL g1.1 x1 L = costL h.1 x1 L := costL_eq (eK 7 (by omega)) (by rw [eK 23 (by omega), eK 24 (by omega), eK 25 (by omega)]; exact ⟨rfl, rfl, rfl⟩) (fun p _ => by
            rw [eK 14 (by omega), eK 15 (by omega), eK 17 (by omega), eK 18 (by omega), eK 19 (by omega)]
            exact ⟨⟨rfl, rfl⟩, rfl, rfl, rfl⟩)
          rw [← ec]; exact w4
      have hG : GR h.1 (setR (rnd h.1) x1 L) := GR_set i.2.1.1.1 v0 v1 Lp.1 Lp.2.1 (fun p hp w w0 w3 hw => vwR_no (Lp.2.2.1 p hp) w0 w3) Lp.2.2.2
      have L9 : L.length ≤ 9 := nodup_len (m := 9) Lp.2.1 (fun p hp => by have := (Lp.1 p hp).1; omega)
      have f15 : Fr (fun c j => scC c j ∨ (28 ≤ c ∧ c ≤ 31)) g1 g5 := fr_m (fun c j s => by
        have := rwK_r v0 v3
        dsimp only [sSw, sSv] at s
        unfold sRw at s
        unfold scC
        omega) f5
      have r31 : ∀ w, 0 ≤ w → w < 3 → (0 ≤ g5.1 31 w ∧ g5.1 31 w ≤ 9) ∧ rnd g5.1 w = setR (rnd h.1) x1 L w := fun w w0 w3 => by
        unfold setR
        by_cases cw : w = x1
        · rw [if_pos cw, cw, l31]
          exact ⟨by omega, lr⟩
        · rw [if_neg cw, (lo w w0 w3 cw).1, (lo w w0 w3 cw).2, eK 31 (by omega)]
          exact ⟨(hr0 w w0 w3).1, rnd_eq (fun c c1 c2 => eK c (by omega)) w0 w3⟩
      refine ok_gd (by omega) ?_
      refine ok_gd (by decide) ?_
      refine ok_some ?_
      -- the model
      have hm1 : RM g1.1 h' := RM_K hm (fun c hc => eK c (by omega)) (by rw [e13]; exact ⟨rfl, rfl⟩)
      repeat (first | with_reducible refine ok_gd (by first | omega | decide) ?_ | with_reducible refine ok_bs ?_ | with_reducible refine ok_be (sX12_refuse _ _) ?_ | with_reducible refine ok_be (sX12_told _ _) ?_ | with_reducible refine ok_ndt (sX11_needVan hv) (by omega) ?_ | with_reducible refine ok_ndf (sX11_needVan hv) (by omega) ?_ | with_reducible refine ok_ndt (sX11_needParcel hv) (by omega) ?_ | with_reducible refine ok_ndf (sX11_needParcel hv) (by omega) ?_ | with_reducible refine ok_ndt (sX11_needIndex _ _ _ _) (by omega) ?_ | with_reducible refine ok_ndf (sX11_needIndex _ _ _ _) (by omega) ?_ | with_reducible refine ok_ndt (sX11_needRange _ _ _ _) (by omega) ?_ | with_reducible refine ok_ndf (sX11_needRange _ _ _ _) (by omega) ?_ | with_reducible refine ok_ndt (sX11_needThat2 _ _) (by omega) ?_ | with_reducible refine ok_ndf (sX11_needThat2 _ _) (by omega) ?_ | with_reducible refine ok_ndt (sX11_needState2 _ _) (by omega) ?_ | with_reducible refine ok_ndf (sX11_needState2 _ _) (by omega) ?_ | with_reducible refine ok_ndt (sX11_needElement _ _) (by omega) ?_ | with_reducible refine ok_ndf (sX11_needElement _ _) (by omega) ?_ | with_reducible refine ok_ndt (sX11_needPlace _ _) (by omega) ?_ | with_reducible refine ok_ndf (sX11_needPlace _ _) (by omega) ?_ | with_reducible refine ok_ndt (sX11_needSender _ _) (by omega) ?_ | with_reducible refine ok_ndf (sX11_needSender _ _) (by omega) ?_ | with_reducible refine ok_b2t (sX12_isVan hm hv) (by omega) ?_ | with_reducible refine ok_b2f (sX12_isVan hm hv) (by omega) ?_ | with_reducible refine ok_b2t (sX12_isParcel hm hv) (by omega) ?_ | with_reducible refine ok_b2f (sX12_isParcel hm hv) (by omega) ?_ | with_reducible refine ok_b2t (sX12_in _ _ _ _) (by omega) ?_ | with_reducible refine ok_b2f (sX12_in _ _ _ _) (by omega) ?_ | with_reducible refine ok_b2t (sX12_isPlace _ _) (by omega) ?_ | with_reducible refine ok_b2f (sX12_isPlace _ _) (by omega) ?_ | with_reducible refine ok_pos (by omega) ?_ | with_reducible refine ok_neg (by omega) ?_ | with_reducible refine ok_tl ?_ | with_reducible refine ok_tr ?_ | dsimp only)
      refine m_36 (m := h') (K := g1.1) hv1 hm1 (fun p p0 p1 => by rw [evw]; exact i.2.1.1.2.2 p p0 (by rw [e13] at p1; exact p1)) v0 v11 (fun g L' E' k' fg he' hl' g51 gr => ?_) (g1.1 13 10).toNat 100000 0 0 _ (by rw [e13]; omega) (by rw [e13]; omega) (by omega) (by omega) (fr_I fr_r (Or.inr (Or.inr ⟨rfl, rfl⟩))) ⟨⟨by rw [rI_s, updI_s], by omega, by omega⟩, fun k a b => by omega, fun l ⟨p, a, _⟩ => by omega, fun k k' a b => by omega⟩
      have eE := endC_u PS_0 he he'
      rw [← eE] at hl'
      have eL := loP_u hPE hl hl'
      rw [← eL] at g51 gr
      have i3 : INV h g := INV_scr i fr_r (sMv_sc fg)
      obtain ⟨m4, em4, k4⟩ := inv_kp i3
      have kf := kp_fr k4
      have a4 : RS h.1 m4 := RS_fr (inv_RS i3) kf.2.2.2 (fun c j s => by unfold sKp at s; omega)
      have a51 : m4.1 71 51 = L.length := by rw [kf.2.2.1 51 (by omega)]; exact g51
      have ar : mrow m4 = L := by
        rw [← gr]
        unfold mrow
        rw [kf.2.2.1 51 (by omega), kf.2.1 105 (by omega)]
      obtain ⟨m6, em6, wB⟩ := rs_lays hn.1.1 hn.1.2 a4 v0 v1 (n := L.length) (by omega) hG a51 ar
      have i6 : INV g5 m6 := INV_late (R := setR (rnd h.1) x1 L) i3 q1 f15 (fun c j s => s) k4 (fr_m (fun c j s => s) wB.1) (fun c j s => Or.inr (by unfold sLy at s; exact s)) hG r31 (fun w w0 w3 => by
        refine ⟨?_, (wB.2.1 w w0 w3).2⟩
        rw [(wB.2.1 w w0 w3).1]
        by_cases cw : w = x1
        · rw [if_pos cw, cw, l31]
        · rw [if_neg cw, (lo w w0 w3 cw).1, eK 31 (by omega)]) wB.2.2
      refine ok_be em4 ?_
      refine ok_be em6 ?_
      have e651 : m6.1 71 51 = L.length := by rw [wB.1.2 71 51 (by unfold sLy; omega)]; exact a51
      rw [e651]
      refine ok_be (sX12_told _ _) ?_
      exact both_ok l31.symm (INV_thr i6)
    · repeat (first | with_reducible refine ok_gd (by first | omega | decide) ?_ | with_reducible refine ok_bs ?_ | with_reducible refine ok_be (sX12_refuse _ _) ?_ | with_reducible refine ok_be (sX12_told _ _) ?_ | with_reducible refine ok_ndt (sX11_needVan hv) (by omega) ?_ | with_reducible refine ok_ndf (sX11_needVan hv) (by omega) ?_ | with_reducible refine ok_ndt (sX11_needParcel hv) (by omega) ?_ | with_reducible refine ok_ndf (sX11_needParcel hv) (by omega) ?_ | with_reducible refine ok_ndt (sX11_needIndex _ _ _ _) (by omega) ?_ | with_reducible refine ok_ndf (sX11_needIndex _ _ _ _) (by omega) ?_ | with_reducible refine ok_ndt (sX11_needRange _ _ _ _) (by omega) ?_ | with_reducible refine ok_ndf (sX11_needRange _ _ _ _) (by omega) ?_ | with_reducible refine ok_ndt (sX11_needThat2 _ _) (by omega) ?_ | with_reducible refine ok_ndf (sX11_needThat2 _ _) (by omega) ?_ | with_reducible refine ok_ndt (sX11_needState2 _ _) (by omega) ?_ | with_reducible refine ok_ndf (sX11_needState2 _ _) (by omega) ?_ | with_reducible refine ok_ndt (sX11_needElement _ _) (by omega) ?_ | with_reducible refine ok_ndf (sX11_needElement _ _) (by omega) ?_ | with_reducible refine ok_ndt (sX11_needPlace _ _) (by omega) ?_ | with_reducible refine ok_ndf (sX11_needPlace _ _) (by omega) ?_ | with_reducible refine ok_ndt (sX11_needSender _ _) (by omega) ?_ | with_reducible refine ok_ndf (sX11_needSender _ _) (by omega) ?_ | with_reducible refine ok_b2t (sX12_isVan hm hv) (by omega) ?_ | with_reducible refine ok_b2f (sX12_isVan hm hv) (by omega) ?_ | with_reducible refine ok_b2t (sX12_isParcel hm hv) (by omega) ?_ | with_reducible refine ok_b2f (sX12_isParcel hm hv) (by omega) ?_ | with_reducible refine ok_b2t (sX12_in _ _ _ _) (by omega) ?_ | with_reducible refine ok_b2f (sX12_in _ _ _ _) (by omega) ?_ | with_reducible refine ok_b2t (sX12_isPlace _ _) (by omega) ?_ | with_reducible refine ok_b2f (sX12_isPlace _ _) (by omega) ?_ | with_reducible refine ok_pos (by omega) ?_ | with_reducible refine ok_neg (by omega) ?_ | with_reducible refine ok_tl ?_ | with_reducible refine ok_tr ?_ | dsimp only)
      refine ok_some ?_
      repeat (first | with_reducible refine ok_gd (by first | omega | decide) ?_ | with_reducible refine ok_bs ?_ | with_reducible refine ok_be (sX12_refuse _ _) ?_ | with_reducible refine ok_be (sX12_told _ _) ?_ | with_reducible refine ok_ndt (sX11_needVan hv) (by omega) ?_ | with_reducible refine ok_ndf (sX11_needVan hv) (by omega) ?_ | with_reducible refine ok_ndt (sX11_needParcel hv) (by omega) ?_ | with_reducible refine ok_ndf (sX11_needParcel hv) (by omega) ?_ | with_reducible refine ok_ndt (sX11_needIndex _ _ _ _) (by omega) ?_ | with_reducible refine ok_ndf (sX11_needIndex _ _ _ _) (by omega) ?_ | with_reducible refine ok_ndt (sX11_needRange _ _ _ _) (by omega) ?_ | with_reducible refine ok_ndf (sX11_needRange _ _ _ _) (by omega) ?_ | with_reducible refine ok_ndt (sX11_needThat2 _ _) (by omega) ?_ | with_reducible refine ok_ndf (sX11_needThat2 _ _) (by omega) ?_ | with_reducible refine ok_ndt (sX11_needState2 _ _) (by omega) ?_ | with_reducible refine ok_ndf (sX11_needState2 _ _) (by omega) ?_ | with_reducible refine ok_ndt (sX11_needElement _ _) (by omega) ?_ | with_reducible refine ok_ndf (sX11_needElement _ _) (by omega) ?_ | with_reducible refine ok_ndt (sX11_needPlace _ _) (by omega) ?_ | with_reducible refine ok_ndf (sX11_needPlace _ _) (by omega) ?_ | with_reducible refine ok_ndt (sX11_needSender _ _) (by omega) ?_ | with_reducible refine ok_ndf (sX11_needSender _ _) (by omega) ?_ | with_reducible refine ok_b2t (sX12_isVan hm hv) (by omega) ?_ | with_reducible refine ok_b2f (sX12_isVan hm hv) (by omega) ?_ | with_reducible refine ok_b2t (sX12_isParcel hm hv) (by omega) ?_ | with_reducible refine ok_b2f (sX12_isParcel hm hv) (by omega) ?_ | with_reducible refine ok_b2t (sX12_in _ _ _ _) (by omega) ?_ | with_reducible refine ok_b2f (sX12_in _ _ _ _) (by omega) ?_ | with_reducible refine ok_b2t (sX12_isPlace _ _) (by omega) ?_ | with_reducible refine ok_b2f (sX12_isPlace _ _) (by omega) ?_ | with_reducible refine ok_pos (by omega) ?_ | with_reducible refine ok_neg (by omega) ?_ | with_reducible refine ok_tl ?_ | with_reducible refine ok_tr ?_ | dsimp only)
      exact both_thr i0 (by decide) rfl
  · repeat (first | with_reducible refine ok_gd (by first | omega | decide) ?_ | with_reducible refine ok_bs ?_ | with_reducible refine ok_be (sX12_refuse _ _) ?_ | with_reducible refine ok_be (sX12_told _ _) ?_ | with_reducible refine ok_ndt (sX11_needVan hv) (by omega) ?_ | with_reducible refine ok_ndf (sX11_needVan hv) (by omega) ?_ | with_reducible refine ok_ndt (sX11_needParcel hv) (by omega) ?_ | with_reducible refine ok_ndf (sX11_needParcel hv) (by omega) ?_ | with_reducible refine ok_ndt (sX11_needIndex _ _ _ _) (by omega) ?_ | with_reducible refine ok_ndf (sX11_needIndex _ _ _ _) (by omega) ?_ | with_reducible refine ok_ndt (sX11_needRange _ _ _ _) (by omega) ?_ | with_reducible refine ok_ndf (sX11_needRange _ _ _ _) (by omega) ?_ | with_reducible refine ok_ndt (sX11_needThat2 _ _) (by omega) ?_ | with_reducible refine ok_ndf (sX11_needThat2 _ _) (by omega) ?_ | with_reducible refine ok_ndt (sX11_needState2 _ _) (by omega) ?_ | with_reducible refine ok_ndf (sX11_needState2 _ _) (by omega) ?_ | with_reducible refine ok_ndt (sX11_needElement _ _) (by omega) ?_ | with_reducible refine ok_ndf (sX11_needElement _ _) (by omega) ?_ | with_reducible refine ok_ndt (sX11_needPlace _ _) (by omega) ?_ | with_reducible refine ok_ndf (sX11_needPlace _ _) (by omega) ?_ | with_reducible refine ok_ndt (sX11_needSender _ _) (by omega) ?_ | with_reducible refine ok_ndf (sX11_needSender _ _) (by omega) ?_ | with_reducible refine ok_b2t (sX12_isVan hm hv) (by omega) ?_ | with_reducible refine ok_b2f (sX12_isVan hm hv) (by omega) ?_ | with_reducible refine ok_b2t (sX12_isParcel hm hv) (by omega) ?_ | with_reducible refine ok_b2f (sX12_isParcel hm hv) (by omega) ?_ | with_reducible refine ok_b2t (sX12_in _ _ _ _) (by omega) ?_ | with_reducible refine ok_b2f (sX12_in _ _ _ _) (by omega) ?_ | with_reducible refine ok_b2t (sX12_isPlace _ _) (by omega) ?_ | with_reducible refine ok_b2f (sX12_isPlace _ _) (by omega) ?_ | with_reducible refine ok_pos (by omega) ?_ | with_reducible refine ok_neg (by omega) ?_ | with_reducible refine ok_tl ?_ | with_reducible refine ok_tr ?_ | dsimp only)
    refine ok_some ?_
    repeat (first | with_reducible refine ok_gd (by first | omega | decide) ?_ | with_reducible refine ok_bs ?_ | with_reducible refine ok_be (sX12_refuse _ _) ?_ | with_reducible refine ok_be (sX12_told _ _) ?_ | with_reducible refine ok_ndt (sX11_needVan hv) (by omega) ?_ | with_reducible refine ok_ndf (sX11_needVan hv) (by omega) ?_ | with_reducible refine ok_ndt (sX11_needParcel hv) (by omega) ?_ | with_reducible refine ok_ndf (sX11_needParcel hv) (by omega) ?_ | with_reducible refine ok_ndt (sX11_needIndex _ _ _ _) (by omega) ?_ | with_reducible refine ok_ndf (sX11_needIndex _ _ _ _) (by omega) ?_ | with_reducible refine ok_ndt (sX11_needRange _ _ _ _) (by omega) ?_ | with_reducible refine ok_ndf (sX11_needRange _ _ _ _) (by omega) ?_ | with_reducible refine ok_ndt (sX11_needThat2 _ _) (by omega) ?_ | with_reducible refine ok_ndf (sX11_needThat2 _ _) (by omega) ?_ | with_reducible refine ok_ndt (sX11_needState2 _ _) (by omega) ?_ | with_reducible refine ok_ndf (sX11_needState2 _ _) (by omega) ?_ | with_reducible refine ok_ndt (sX11_needElement _ _) (by omega) ?_ | with_reducible refine ok_ndf (sX11_needElement _ _) (by omega) ?_ | with_reducible refine ok_ndt (sX11_needPlace _ _) (by omega) ?_ | with_reducible refine ok_ndf (sX11_needPlace _ _) (by omega) ?_ | with_reducible refine ok_ndt (sX11_needSender _ _) (by omega) ?_ | with_reducible refine ok_ndf (sX11_needSender _ _) (by omega) ?_ | with_reducible refine ok_b2t (sX12_isVan hm hv) (by omega) ?_ | with_reducible refine ok_b2f (sX12_isVan hm hv) (by omega) ?_ | with_reducible refine ok_b2t (sX12_isParcel hm hv) (by omega) ?_ | with_reducible refine ok_b2f (sX12_isParcel hm hv) (by omega) ?_ | with_reducible refine ok_b2t (sX12_in _ _ _ _) (by omega) ?_ | with_reducible refine ok_b2f (sX12_in _ _ _ _) (by omega) ?_ | with_reducible refine ok_b2t (sX12_isPlace _ _) (by omega) ?_ | with_reducible refine ok_b2f (sX12_isPlace _ _) (by omega) ?_ | with_reducible refine ok_pos (by omega) ?_ | with_reducible refine ok_neg (by omega) ?_ | with_reducible refine ok_tl ?_ | with_reducible refine ok_tr ?_ | dsimp only)
    exact both_thr i0 (by decide) rfl
end SAVB
