/-! SAVINGS: the model -/
section SAVM
variable {h h' m : HH} {K K1 : Nat → Int → Int} {v n : Int} {C : List Int → Prop}
def mpr (M : Nat → Int → Int) (k : Int) : List Int := rowL (M 110) (9 * k) (M 111 k).toNat
def mST (C : List Int → Prop) (M : Nat → Int → Int) (n : Int) : Prop := (M 71 62 = n ∧ 0 ≤ n ∧ n ≤ 9) ∧ (∀ k, 0 ≤ k → k < n → (1 ≤ M 111 k ∧ M 111 k ≤ 9) ∧ C (mpr M k)) ∧ (∀ l, C l → ∃ k, (0 ≤ k ∧ k < n) ∧ mpr M k = l) ∧ ∀ k k', 0 ≤ k → k < n → 0 ≤ k' → k' < n → mpr M k = mpr M k' → k = k'
abbrev sJP : Nat → Int → Prop := fun c i => sRow c i ∨ sDr c i
abbrev sMv : Nat → Int → Prop := fun c i => sJP c i ∨ ((c = 110 ∨ c = 111) ∨ (c = 71 ∧ i = 62))
theorem sMv_sc {g : HH} (f : Fr sMv h g) : Fr scM h g := fr_m (fun c i s => by dsimp only [sMv, sJP] at s; unfold sRow sDr at s; unfold scM; omega) f
theorem mpr_eq {M M1 : Nat → Int → Int} (a : M1 110 = M 110) (b : M1 111 = M 111) (k : Int) : mpr M1 k = mpr M k := by unfold mpr; rw [a, b]
theorem mST_fr {g : HH} (q : mST C m.1 n) (f : Fr sJP m g) : mST C g.1 n := by
  have a : g.1 110 = m.1 110 := fr_c f 110 (fun i s => by dsimp only [sJP] at s; unfold sRow sDr at s; omega)
  have b : g.1 111 = m.1 111 := fr_c f 111 (fun i s => by dsimp only [sJP] at s; unfold sRow sDr at s; omega)
  have c := f.2 71 62 (by dsimp only [sJP]; unfold sRow sDr; omega)
  have e : ∀ k, mpr g.1 k = mpr m.1 k := mpr_eq a b
  unfold mST at q ⊢
  simp only [e, b, c]
  exact q
theorem mpr_len {M : Nat → Int → Int} {k : Int} (h : 0 ≤ M 111 k) : ((mpr M k).length : Int) = M 111 k := by
  unfold mpr
  rw [rowL_len]
  omega
theorem m_55 {b o : Int} (b0 : 0 ≤ b ∧ b < 9) {L : Int} (hL : 0 ≤ L ∧ L ≤ 9) (ho : 0 ≤ o ∧ o + L ≤ 9) : ∀ (r N : Nat) (i : Int) (m : HH), r < N → i + r = L → 0 ≤ i → m.1 111 b = L → m.1 71 51 = o + i → Ok (nX12_joinsPieces_55 N b i m) (fun g => Fr sRow m g ∧ g.1 71 51 = o + L ∧ (∀ j, g.1 105 j = if o + i ≤ j ∧ j < o + L then m.1 110 (9 * b + (j - o)) else m.1 105 j)) := by
  intro r
  induction r with
  | zero =>
    intro N i m hN hi i0 hl hm
    obtain ⟨M, rfl⟩ := fuel_s hN
    rw [nX12_joinsPieces_55_s]
    simp only [bX12_joinsPieces_55]
    refine ok_gd (by omega) ?_
    refine ok_neg (by omega) ?_
    exact ok_some ⟨fr_r, by omega, fun j => by rw [if_neg (by omega)]⟩
  | succ r ih =>
    intro N i m hN hi i0 hl hm
    obtain ⟨M, rfl⟩ := fuel_s hN
    rw [nX12_joinsPieces_55_s]
    simp only [bX12_joinsPieces_55]
    refine ok_gd (by omega) ?_
    refine ok_pos (by omega) ?_
    refine ok_gd (by omega) ?_
    refine ok_gd (by omega) ?_
    refine ok_gd (by omega) ?_
    refine ok_gd (by omega) ?_
    refine ok_bs ?_
    have e51 : (hI m 105 (m.1 71 51) (m.1 110 (9 * b + i))).1 71 51 = o + i := by rw [rI_n (by decide)]; exact hm
    rw [e51]
    refine ok_gd (by omega) ?_
    refine ok_bs ?_
    refine ok_gd (by omega) ?_
    have f0 : Fr sRow m (hI (hI m 105 (m.1 71 51) (m.1 110 (9 * b + i))) 71 51 (o + i + 1)) := fr_I (fr_I fr_r (Or.inl rfl)) (Or.inr ⟨rfl, rfl⟩)
    refine ok_mono (ih M (i + 1) _ (by omega) (by omega) (by omega) (by rw [rI_n (by decide), rI_n (by decide)]; exact hl) (by rw [rI_s, updI_s]; omega)) (fun g q => ⟨fr_t f0 q.1, q.2.1, fun j => ?_⟩)
    rw [q.2.2 j, rI_n (show 110 ≠ 71 by decide), rI_n (show 110 ≠ 105 by decide), rI_n (show 105 ≠ 71 by decide), rI_s, updI_at, hm]
    by_cases c : j = o + i
    · rw [if_neg (by omega), if_pos c, if_pos (by omega)]
      exact ca (by omega)
    · rw [if_neg c]
      by_cases c2 : o + (i + 1) ≤ j ∧ j < o + L
      · rw [if_pos c2, if_pos (by omega)]
      · rw [if_neg c2, if_neg (by omega)]
theorem m_joinsP {a b : Int} (a0 : 0 ≤ a ∧ a < 9) (b0 : 0 ≤ b ∧ b < 9) (ha : 0 ≤ m.1 111 a) (hb : 0 ≤ m.1 111 b) (h9 : m.1 111 a + m.1 111 b ≤ 9) : Ok (nX12_joinsPieces a b m) (fun g => Fr sRow m g ∧ g.1 71 51 = m.1 111 a + m.1 111 b ∧ mrow g = mpr m.1 a ++ mpr m.1 b) := by
  have key : ∀ (r N : Nat) (i : Int) (g : HH), r < N → i + r = m.1 111 a → 0 ≤ i → Fr sRow m g → g.1 71 51 = i → (∀ j, 0 ≤ j → j < i → g.1 105 j = m.1 110 (9 * a + j)) → Ok (nX12_joinsPieces_7 N a b i g) (fun g => Fr sRow m g ∧ g.1 71 51 = m.1 111 a + m.1 111 b ∧ mrow g = mpr m.1 a ++ mpr m.1 b) := by
    intro r
    induction r with
    | zero =>
      intro N i g hN hi i0 f hm hj
      obtain ⟨M, rfl⟩ := fuel_s hN
      have e111 : g.1 111 = m.1 111 := fr_c f 111 (fun i s => by unfold sRow at s; omega)
      have e110 : g.1 110 = m.1 110 := fr_c f 110 (fun i s => by unfold sRow at s; omega)
      rw [nX12_joinsPieces_7_s]
      simp only [bX12_joinsPieces_7]
      refine ok_gd (by omega) ?_
      refine ok_neg (by rw [e111]; omega) ?_
      refine ok_mono (m_55 (o := m.1 111 a) b0 (L := m.1 111 b) (by omega) (by omega) (m.1 111 b).toNat 100000 0 g (by omega) (by omega) (by omega) (by rw [e111]) (by omega)) (fun g' q => ⟨fr_t f q.1, q.2.1, ?_⟩)
      unfold mrow
      rw [q.2.1, show (m.1 111 a + m.1 111 b).toNat = (m.1 111 a).toNat + (m.1 111 b).toNat by omega, rowL_add]
      unfold mpr
      congr 1
      · refine rowL_ext (fun j hj2 => ?_)
        rw [q.2.2, if_neg (by omega), hj _ (by omega) (by omega)]
        exact ca (by omega)
      · refine rowL_ext (fun j hj2 => ?_)
        rw [q.2.2, if_pos (by omega), e110]
        exact ca (by omega)
    | succ r ih =>
      intro N i g hN hi i0 f hm hj
      obtain ⟨M, rfl⟩ := fuel_s hN
      have e111 : g.1 111 = m.1 111 := fr_c f 111 (fun i s => by unfold sRow at s; omega)
      have e110 : g.1 110 = m.1 110 := fr_c f 110 (fun i s => by unfold sRow at s; omega)
      rw [nX12_joinsPieces_7_s]
      simp only [bX12_joinsPieces_7]
      refine ok_gd (by omega) ?_
      refine ok_pos (by rw [e111]; omega) ?_
      refine ok_gd (by omega) ?_
      refine ok_gd (by omega) ?_
      refine ok_gd (by omega) ?_
      refine ok_gd (by omega) ?_
      refine ok_bs ?_
      have e51 : (hI g 105 (g.1 71 51) (g.1 110 (9 * a + i))).1 71 51 = i := by rw [rI_n (by decide)]; exact hm
      rw [e51]
      refine ok_gd (by omega) ?_
      refine ok_bs ?_
      refine ok_gd (by omega) ?_
      refine ih M (i + 1) _ (by omega) (by omega) (by omega) (fr_I (fr_I f (Or.inl rfl)) (Or.inr ⟨rfl, rfl⟩)) (by rw [rI_s, updI_s]) (fun j j0 j1 => ?_)
      rw [rI_n (show 105 ≠ 71 by decide), rI_s, updI_at, hm, e110]
      by_cases c : j = i
      · rw [if_pos c, c]
      · rw [if_neg c]
        exact hj j j0 (by omega)
  unfold nX12_joinsPieces bX12_joinsPieces
  refine ok_bs ?_
  exact key (m.1 111 a).toNat 100000 0 _ (by omega) (by omega) (by omega) (fr_I fr_r (Or.inr ⟨rfl, rfl⟩)) (by rw [rI_s, updI_s]) (fun j j0 j1 => by omega)
/-! ways of kept rows -/
theorem cost_hd {A : List Int} (hn : A ≠ []) {mn pl sz : Int} (c : cst K v A mn pl sz ≠ -1) : dK K pl (K 14 (hdL A)) ≠ -1 := by
  cases A with
  | nil => exact absurd rfl hn
  | cons p l =>
    show dK K pl (K 14 p) ≠ -1
    intro z
    rw [cst, if_pos (by unfold srv; rw [if_pos z])] at c
    exact c rfl
theorem cost_app : ∀ {A B : List Int} {mn pl sz : Int}, cst K v (A ++ B) mn pl sz ≠ -1 → ∃ m' s', cst K v B m' (lPl K A pl) s' ≠ -1
  | [], B, mn, pl, sz, c => ⟨mn, sz, c⟩
  | p :: A, B, mn, pl, sz, c => by
    rw [List.cons_append, cst] at c
    by_cases z : srv K p pl mn = -1
    · rw [if_pos z] at c; exact absurd rfl c
    · rw [if_neg z] at c
      exact cost_app (A := A) c
theorem cost_la {A : List Int} {mn pl sz : Int} (c : cst K v A mn pl sz ≠ -1) : dK K (lPl K A pl) 0 ≠ -1 := by
  obtain ⟨m', s', c'⟩ := cost_app (A := A) (B := []) (by rw [List.append_nil]; exact c)
  intro z
  rw [cst, if_pos (Or.inl z)] at c'
  exact c' rfl
theorem lPl_la : ∀ {A : List Int} {pl : Int}, A ≠ [] → lPl K A pl = K 14 (laL A)
  | [], _, h => absurd rfl h
  | [p], _, _ => rfl
  | p :: q :: t, pl, _ => by
    have := lPl_la (A := q :: t) (pl := K 14 p) (List.cons_ne_nil _ _)
    exact this
/-! the best pair -/
def pIx (M : Nat → Int → Int) (n k : Int) (A B : List Int) : Prop := ∃ a b, (0 ≤ a ∧ a < n) ∧ (0 ≤ b ∧ b < n) ∧ a ≠ b ∧ a * n + b < k ∧ A = mpr M a ∧ B = mpr M b
def stV (K M : Nat → Int → Int) (n x3 x4 x5 : Int) : Option (List Int × List Int) → Prop
  | none => x3 = -1 ∧ x4 = -1 ∧ x5 = 0
  | some (A, B) => ((0 ≤ x3 ∧ x3 < n) ∧ (0 ≤ x4 ∧ x4 < n) ∧ x3 ≠ x4) ∧ (mpr M x3 = A ∧ mpr M x4 = B) ∧ x5 = svL K A B
theorem pIx_all (q : mST C m.1 n) : ∀ A B, pIx m.1 n (n * n) A B ↔ pAll C A B := fun A B => by
  obtain ⟨⟨q0, q1, q2⟩, q3, q4, q5⟩ := q
  constructor
  · rintro ⟨a, b, a0, b0, hne, _, e1, e2⟩
    rw [e1, e2]
    exact ⟨(q3 a a0.1 a0.2).2, (q3 b b0.1 b0.2).2, fun z => hne (q5 a b a0.1 a0.2 b0.1 b0.2 z)⟩
  · rintro ⟨w1, w2, w3⟩
    obtain ⟨a, a0, ea⟩ := q4 A w1
    obtain ⟨b, b0, eb⟩ := q4 B w2
    refine ⟨a, b, a0, b0, fun z => w3 (by rw [← ea, ← eb, z]), ?_, ea.symm, eb.symm⟩
    have h1 : (a + 1) * n ≤ n * n := Int.mul_le_mul_of_nonneg_right (by omega) q1
    rw [Int.add_mul, Int.one_mul] at h1
    omega
theorem pIx_s {M : Nat → Int → Int} {n k a b : Int} (hn : 0 < n) (a0 : 0 ≤ a ∧ a < n) (b0 : 0 ≤ b ∧ b < n) (hk : k = a * n + b) (A B : List Int) : pIx M n (k + 1) A B ↔ pIx M n k A B ∨ (a ≠ b ∧ A = mpr M a ∧ B = mpr M b) := by
  constructor
  · rintro ⟨x, y, x0, y0, hne, hlt, e1, e2⟩
    by_cases c : x * n + y = k
    · right
      have u1 := (Int.ediv_emod_unique (a := k) (b := n) (r := b) (q := a) hn).mpr ⟨by rw [hk, Int.mul_comm]; omega, b0.1, b0.2⟩
      have u2 := (Int.ediv_emod_unique (a := k) (b := n) (r := y) (q := x) hn).mpr ⟨by rw [← c, Int.mul_comm]; omega, y0.1, y0.2⟩
      have ex : x = a := u2.1.symm.trans u1.1
      have ey : y = b := u2.2.symm.trans u1.2
      exact ⟨by rw [← ex, ← ey]; exact hne, by rw [e1, ex], by rw [e2, ey]⟩
    · left
      exact ⟨x, y, x0, y0, hne, by omega, e1, e2⟩
  · rintro (⟨x, y, x0, y0, hne, hlt, e1, e2⟩ | ⟨hne, e1, e2⟩)
    · exact ⟨x, y, x0, y0, hne, by omega, e1, e2⟩
    · exact ⟨a, b, a0, b0, hne, by omega, e1, e2⟩
theorem m_17 (hv : VAL K) (hm : RM K m) (v0 : 0 ≤ v) (v1 : v < K 13 14) (hP : PS K v C) (q : mST C m.1 n) {c2 : Int → Int → HH → Option HH} {P : HH → Prop} (hk : ∀ g x3 x4 x5 s, Fr sJP m g → bpS K v (pAll C) s → stV K m.1 n x3 x4 x5 s → Ok (nX12_joinsAll_266 c2 v x3 x4 (if x3 = -1 then 0 else 1) g) P) : ∀ (r N : Nat) (k x3 x4 x5 : Int) (s : Option (List Int × List Int)) (g : HH), r < N → k + r = n * n → 0 ≤ k → Fr sJP m g → bpS K v (pIx m.1 n k) s → stV K m.1 n x3 x4 x5 s → Ok (nX12_joinsAll_17 c2 N v x3 x4 x5 k g) P := by
  have hn := v_n hv
  have hnn : 0 ≤ n * n ∧ n * n ≤ 9 * 9 := mul_b ⟨q.1.2.1, q.1.2.2⟩ ⟨q.1.2.1, q.1.2.2⟩
  intro r
  induction r with
  | zero =>
    intro N k x3 x4 x5 s g hN hkr k0 f hb hs
    obtain ⟨M, rfl⟩ := fuel_s hN
    have qg := mST_fr q f
    have e62 := qg.1.1
    rw [nX12_joinsAll_17_s]
    simp only [bX12_joinsAll_17]
    rw [e62]
    refine ok_gd (by omega) ?_
    refine ok_neg (by omega) ?_
    have fin := hk g x3 x4 x5 s f (bpS_cg (pIx_all q) (by rw [show n * n = k by omega]; exact hb)) hs
    by_cases c : x3 = -1
    · refine ok_pos c ?_
      rw [if_pos c] at fin
      exact fin
    · refine ok_neg c ?_
      rw [if_neg c] at fin
      exact fin
  | succ r ih =>
    intro N k x3 x4 x5 s g hN hkr k0 f hb hs
    obtain ⟨M, rfl⟩ := fuel_s hN
    have qg := mST_fr q f
    have e62 := qg.1.1
    have n0 : 0 < n := by
      rcases (by have := q.1.2.1; omega : n = 0 ∨ 0 < n) with z | z
      · rw [z] at hkr; simp at hkr; omega
      · exact z
    have d0 := Int.ediv_nonneg k0 (show 0 ≤ n by omega)
    have d1 := Int.ediv_lt_of_lt_mul n0 (show k < n * n by omega)
    have m0 := Int.emod_nonneg k (show n ≠ 0 by omega)
    have m1 := Int.emod_lt_of_pos k n0
    have ek : k = (k / n) * n + k % n := by have := Int.emod_add_mul_ediv k n; rw [Int.mul_comm] at this; omega
    rw [nX12_joinsAll_17_s]
    simp only [bX12_joinsAll_17]
    rw [e62]
    refine ok_gd (by omega) ?_
    refine ok_pos (by omega) ?_
    refine ok_gd (by omega) ?_
    refine ok_gd (by omega) ?_
    generalize k / n = a at *
    generalize k % n = b at *
    have n9 := q.1.2.2
    have a0 : 0 ≤ a ∧ a < n := ⟨d0, d1⟩
    have b0 : 0 ≤ b ∧ b < n := ⟨m0, m1⟩
    have e111 : g.1 111 = m.1 111 := fr_c f 111 (fun i s => by dsimp only [sJP] at s; unfold sRow sDr at s; omega)
    have e110 : g.1 110 = m.1 110 := fr_c f 110 (fun i s => by dsimp only [sJP] at s; unfold sRow sDr at s; omega)
    have epr : ∀ k, mpr g.1 k = mpr m.1 k := mpr_eq e110 e111
    have nx : ∀ g' y3 y4 y5 s', Fr sJP m g' → bpS K v (pIx m.1 n (k + 1)) s' → stV K m.1 n y3 y4 y5 s' → Ok (nX12_joinsAll_250 c2 (nX12_joinsAll_17 c2 M) v y3 y4 y5 k g') P := fun g' y3 y4 y5 s' f' hb' hs' => by
      simp only [nX12_joinsAll_250, bX12_joinsAll_250]
      refine ok_gd (by omega) ?_
      exact ih M (k + 1) y3 y4 y5 s' g' (by omega) (by omega) (by omega) f' hb' hs'
    have es := pIx_s (M := m.1) n0 a0 b0 ek
    by_cases c1 : a = b
    · refine ok_pos c1 ?_
      exact nx g x3 x4 x5 s f (bpS_cg (fun A B => by rw [es]; exact ⟨Or.inl, fun z => z.elim id (fun w => absurd c1 w.1)⟩) hb) hs
    · refine ok_neg c1 ?_
      have esD : ∀ A B, (pIx m.1 n k A B ∨ (A = mpr m.1 a ∧ B = mpr m.1 b)) ↔ pIx m.1 n (k + 1) A B := fun A B => by
        rw [es]
        exact ⟨fun z => z.elim Or.inl (fun w => Or.inr ⟨c1, w⟩), fun z => z.elim Or.inl (fun w => Or.inr w.2)⟩
      obtain ⟨qa1, cA⟩ := q.2.1 a a0.1 a0.2
      obtain ⟨qb1, cB⟩ := q.2.1 b b0.1 b0.2
      have hAB : mpr m.1 a ≠ mpr m.1 b := fun z => c1 (q.2.2.2 a b a0.1 a0.2 b0.1 b0.2 z)
      have pA := hP.1 _ cA
      have pB := hP.1 _ cB
      have lA := mpr_len (M := m.1) (k := a) (by omega)
      have lB := mpr_len (M := m.1) (k := b) (by omega)
      have l9 := PS_len hv hP cA cB hAB
      refine ok_bnd (m_joinsP (m := g) (a := a) (b := b) (by omega) (by omega) (by rw [e111]; omega) (by rw [e111]; omega) (by rw [e111]; omega)) (fun g1 hg1 => ?_)
      obtain ⟨f1, r1, r2⟩ := hg1
      rw [epr, epr] at r2
      rw [e111] at r1
      have fg1 : Fr sJP m g1 := fr_t f (fr_m (fun c i s => Or.inl s) f1)
      have hm1 : RM K g1 := RM_fr hm fg1 (fun c i s => by dsimp only [sJP] at s; unfold sRow sDr at s; unfold rmP; omega)
      have er : rowL (g1.1 105) 0 (g1.1 71 51).toNat = mpr m.1 a ++ mpr m.1 b := r2
      refine ok_bnd (sX12_drives hv hm1 (v := v) v0 v1 (by omega) (by omega) (by rw [er]; exact fun p hp => (List.mem_append.mp hp).elim (pA.1.2.1 p) (pB.1.2.1 p))) (fun x hx => ?_)
      obtain ⟨x1, f2, _⟩ := hx
      rw [er] at x1
      have fg2 : Fr sJP m x.2 := fr_t fg1 (fr_m (fun c i s => Or.inr s) f2)
      have hm2 : RM K x.2 := RM_fr hm fg2 (fun c i s => by dsimp only [sJP] at s; unfold sRow sDr at s; unfold rmP; omega)
      rw [x1]
      by_cases cz : costL K v (mpr m.1 a ++ mpr m.1 b) = -1
      · refine ok_pos cz ?_
        exact nx x.2 x3 x4 x5 s fg2 (bpS_cg esD (bpS_no cz hb)) hs
      · refine ok_neg cz ?_
        have g111 : x.2.1 111 = m.1 111 := fr_c fg2 111 (fun i s => by dsimp only [sJP] at s; unfold sRow sDr at s; omega)
        have g110 : x.2.1 110 = m.1 110 := fr_c fg2 110 (fun i s => by dsimp only [sJP] at s; unfold sRow sDr at s; omega)
        have eLa : ∀ a, 0 ≤ a → a < n → nX12_lastOf x.2 a = some (laL (mpr m.1 a)) := fun a a0 a1 => by
          have z := (q.2.1 a a0 a1).1
          unfold nX12_lastOf bX12_lastOf
          rw [g111, g110, gd_t (by omega), gd_t (by omega), gd_t (by omega), gd_t (by omega), gd_t (by omega)]
          unfold mpr
          rw [laL_row (by omega)]
          congr 1
          exact ca (by omega)
        have eHd : ∀ a, 0 ≤ a → a < n → nX12_firstOf x.2 a = some (hdL (mpr m.1 a)) := fun a a0 a1 => by
          have z := (q.2.1 a a0 a1).1
          unfold nX12_firstOf bX12_firstOf
          rw [g110, gd_t (by omega), gd_t (by omega)]
          unfold mpr
          rw [hdL_row (by omega)]
        have rl := pA.1.2.1 _ (laL_m pA.1.1)
        have rh := pB.1.2.1 _ (hdL_m pB.1.1)
        have vl := v_p hv rl.1 rl.2
        have vh := v_p hv rh.1 rh.2
        have k1 : dK K (K 14 (laL (mpr m.1 a))) 0 ≠ -1 := by rw [← lPl_la (K := K) (pl := 0) pA.1.1]; exact cost_la pA.2.2
        have k2 : dK K 0 (K 14 (hdL (mpr m.1 b))) ≠ -1 := cost_hd pB.1.1 pB.2.2
        have k3 : dK K (K 14 (laL (mpr m.1 a))) (K 14 (hdL (mpr m.1 b))) ≠ -1 := by
          obtain ⟨m', s', z⟩ := cost_app (show cst K v (mpr m.1 a ++ mpr m.1 b) (K 24 v) 0 0 ≠ -1 from cz)
          rw [lPl_la pA.1.1] at z
          exact cost_hd pB.1.1 z
        have w1 := v_D hv (a := K 14 (laL (mpr m.1 a))) (b := 0) (by omega) (by omega) (by omega) (by omega)
        have w2 := v_D hv (a := 0) (b := K 14 (hdL (mpr m.1 b))) (by omega) (by omega) (by omega) (by omega)
        have w3 := v_D hv (a := K 14 (laL (mpr m.1 a))) (b := K 14 (hdL (mpr m.1 b))) (by omega) (by omega) (by omega) (by omega)
        have s1 := sX12_d hm2 (a := K 14 (laL (mpr m.1 a))) (b := 0) (by omega) (by omega) (by omega) (by omega)
        have s2 := sX12_d hm2 (a := 0) (b := K 14 (hdL (mpr m.1 b))) (by omega) (by omega) (by omega) (by omega)
        have s3 := sX12_d hm2 (a := K 14 (laL (mpr m.1 a))) (b := K 14 (hdL (mpr m.1 b))) (by omega) (by omega) (by omega) (by omega)
        have gr1 : ∀ y : Int, y ≠ -1 → gr y = y := fun y hy => by unfold gr; rw [if_neg hy]
        rw [gr1 _ k1] at s1
        rw [gr1 _ k2] at s2
        rw [gr1 _ k3] at s3
        refine ok_be (eLa a a0.1 a0.2) ?_
        simp only [nX12_joinsAll_87, bX12_joinsAll_87]
        refine ok_be (eHd b b0.1 b0.2) ?_
        refine ok_gd (by omega) ?_
        rw [(rm_p hm2 rl.1 rl.2).1.1, (rm_p hm2 rh.1 rh.2).1.1]
        refine ok_be s1 ?_
        refine ok_gd (by omega) ?_
        refine ok_be s2 ?_
        refine ok_gd (by omega) ?_
        refine ok_gd (by omega) ?_
        refine ok_gd (by omega) ?_
        refine ok_be s3 ?_
        refine ok_gd (by omega) ?_
        have esv : dK K (K 14 (laL (mpr m.1 a))) 0 + dK K 0 (K 14 (hdL (mpr m.1 b))) - dK K (K 14 (laL (mpr m.1 a))) (K 14 (hdL (mpr m.1 b))) = svL K (mpr m.1 a) (mpr m.1 b) := rfl
        rw [esv]
        -- what is kept, what is taken
        have at210 : ∀ x12 : Int, ((x12 = 0 ∧ ¬ btr K (mpr m.1 a) (mpr m.1 b) s) ∨ (x12 = 1 ∧ btr K (mpr m.1 a) (mpr m.1 b) s)) → Ok (nX12_joinsAll_210 c2 (nX12_joinsAll_17 c2 M) v x3 x4 x5 k a b (svL K (mpr m.1 a) (mpr m.1 b)) x12 x.2) P := fun x12 hx12 => by
          simp only [nX12_joinsAll_210, bX12_joinsAll_210, nX12_joinsAll_221, bX12_joinsAll_221, nX12_joinsAll_234, bX12_joinsAll_234, nX12_joinsAll_248, bX12_joinsAll_248]
          rcases hx12 with ⟨z, zb⟩ | ⟨z, zb⟩
          · refine ok_pos z ?_
            refine ok_pos z ?_
            refine ok_pos z ?_
            exact nx x.2 x3 x4 x5 s fg2 (bpS_cg esD (bpS_old hb zb)) hs
          · refine ok_neg (by omega) ?_
            refine ok_neg (by omega) ?_
            refine ok_neg (by omega) ?_
            exact nx x.2 a b _ (some (mpr m.1 a, mpr m.1 b)) fg2 (bpS_cg esD (bpS_yes cz hb zb)) ⟨⟨a0, b0, c1⟩, ⟨rfl, rfl⟩, rfl⟩
        have at158 : ∀ y0 : Int, ((s = none ∧ y0 = 1) ∨ (∃ A B, s = some (A, B) ∧ ((svL K A B < svL K (mpr m.1 a) (mpr m.1 b) ∧ y0 = 1) ∨ (svL K (mpr m.1 a) (mpr m.1 b) ≤ svL K A B ∧ y0 = 0)))) → Ok (nX12_joinsAll_158 c2 (nX12_joinsAll_17 c2 M) v x3 x4 x5 k a b (laL (mpr m.1 a)) (hdL (mpr m.1 b)) (svL K (mpr m.1 a) (mpr m.1 b)) y0 x.2) P := fun y0 hy => by
          simp only [nX12_joinsAll_158, bX12_joinsAll_158, nX12_joinsAll_203, bX12_joinsAll_203, nX12_joinsAll_207, bX12_joinsAll_207, nX12_joinsAll_208, bX12_joinsAll_208]
          rcases hy with ⟨hsn, hy⟩ | ⟨A, B, hsn, hy⟩
          · rw [hsn] at hs
            refine ok_pos hs.1 ?_
            exact at210 y0 (Or.inr ⟨hy, by rw [hsn]; exact True.intro⟩)
          · rw [hsn] at hs
            obtain ⟨⟨t1, t2, t3⟩, ⟨t4, t5⟩, t6⟩ := hs
            have eb : ∀ {Q : Prop}, (btr K (mpr m.1 a) (mpr m.1 b) s ↔ (svL K A B < svL K (mpr m.1 a) (mpr m.1 b) ∨ (svL K (mpr m.1 a) (mpr m.1 b) = svL K A B ∧ (laL (mpr m.1 a) < laL A ∨ (laL (mpr m.1 a) = laL A ∧ hdL (mpr m.1 b) < hdL B))))) := by
              intro Q
              rw [hsn]
              exact Iff.rfl
            have ebt := eb (Q := True)
            refine ok_neg (by omega) ?_
            by_cases d1 : svL K (mpr m.1 a) (mpr m.1 b) = x5
            · refine ok_pos d1 ?_
              have el3 := eLa x3 t1.1 t1.2
              rw [t4] at el3
              have eh4 := eHd x4 t2.1 t2.2
              rw [t5] at eh4
              refine ok_be el3 ?_
              by_cases d2 : laL (mpr m.1 a) < laL A
              · refine ok_pos d2 ?_
                exact at210 1 (Or.inr ⟨rfl, ebt.mpr (Or.inr ⟨by omega, Or.inl d2⟩)⟩)
              · refine ok_neg d2 ?_
                refine ok_be el3 ?_
                by_cases d3 : laL (mpr m.1 a) = laL A
                · refine ok_pos d3 ?_
                  refine ok_be eh4 ?_
                  by_cases d4 : hdL (mpr m.1 b) < hdL B
                  · refine ok_pos d4 ?_
                    exact at210 1 (Or.inr ⟨rfl, ebt.mpr (Or.inr ⟨by omega, Or.inr ⟨d3, d4⟩⟩)⟩)
                  · refine ok_neg d4 ?_
                    exact at210 0 (Or.inl ⟨rfl, fun z => by have := ebt.mp z; omega⟩)
                · refine ok_neg d3 ?_
                  exact at210 0 (Or.inl ⟨rfl, fun z => by have := ebt.mp z; omega⟩)
            · refine ok_neg d1 ?_
              refine at210 y0 ?_
              rcases hy with ⟨u, w⟩ | ⟨u, w⟩
              · exact Or.inr ⟨w, ebt.mpr (Or.inl u)⟩
              · exact Or.inl ⟨w, fun z => by have := ebt.mp z; omega⟩
        cases hsc : s with
        | none =>
          rw [hsc] at hs
          refine ok_pos hs.1 ?_
          simp only [nX12_joinsAll_153, bX12_joinsAll_153]
          exact at158 1 (Or.inl ⟨hsc, rfl⟩)
        | some p =>
          obtain ⟨A, B⟩ := p
          have hs2 := hs
          rw [hsc] at hs2
          obtain ⟨⟨t1, t2, t3⟩, ⟨t4, t5⟩, t6⟩ := hs2
          refine ok_neg (by omega) ?_
          by_cases d1 : x5 < svL K (mpr m.1 a) (mpr m.1 b)
          · refine ok_pos d1 ?_
            simp only [nX12_joinsAll_153, bX12_joinsAll_153]
            exact at158 1 (Or.inr ⟨A, B, hsc, Or.inl ⟨by omega, rfl⟩⟩)
          · refine ok_neg d1 ?_
            exact at158 0 (Or.inr ⟨A, B, hsc, Or.inr ⟨by omega, rfl⟩⟩)
end SAVM
