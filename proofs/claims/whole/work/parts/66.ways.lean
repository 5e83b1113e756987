/-! WAYS: the model makes ways shorter until none becomes so -/
section WAYS
variable {m : HH} {M K0 K1 K2 : Nat → Int → Int} {n : Int}
def GG : Int := enc 1000000000 0 0
def fcnt (K : Nat → Int → Int) (a : Int) : Int := sumS (fun b => if K 78 (16 * a + b) < 1000000000 then 1 else 0) 16
theorem fcnt_b (K : Nat → Int → Int) (a : Int) : 0 ≤ fcnt K a ∧ fcnt K a ≤ 16 := sumS_1 (fun j _ => by
  show 0 ≤ (if K 78 (16 * a + (j : Int)) < 1000000000 then (1 : Int) else 0) ∧ (if K 78 (16 * a + (j : Int)) < 1000000000 then (1 : Int) else 0) ≤ 1
  split <;> omega)
/-- a label: none yet, or that of a walk -/
def lbOK (M : Nat → Int → Int) (n : Int) (K : Nat → Int → Int) (a b : Int) : Prop := (K 78 (16 * a + b) = 1000000000 ∧ K 79 (16 * a + b) = 0 ∧ K 80 (16 * a + b) = 0) ∨ ((0 ≤ K 78 (16 * a + b) ∧ K 78 (16 * a + b) ≤ 120 * (fcnt K a - 1)) ∧ (0 ≤ K 79 (16 * a + b) ∧ K 79 (16 * a + b) ≤ 50000 * K 78 (16 * a + b)) ∧ (0 ≤ K 80 (16 * a + b) ∧ K 80 (16 * a + b) ≤ 9999 * K 78 (16 * a + b)) ∧ ∃ es, wlk (M 72) (M 73) n a es b ∧ wvl (fw (wE M)) 0 es = enc (K 78 (16 * a + b)) (K 79 (16 * a + b)) (K 80 (16 * a + b)))
def lbA (M : Nat → Int → Int) (n : Int) (K : Nat → Int → Int) : Prop := ∀ a b, 0 ≤ a → a ≤ 15 → 0 ≤ b → b ≤ 15 → lbOK M n K a b
def ecl (K : Nat → Int → Int) (a b : Int) : Int := enc (K 78 (16 * a + b)) (K 79 (16 * a + b)) (K 80 (16 * a + b))
theorem lbOK_c {a b : Int} (h : lbOK M n K1 a b) : (K1 78 (16 * a + b) = 1000000000 ∧ K1 79 (16 * a + b) = 0 ∧ K1 80 (16 * a + b) = 0 ∧ ecl K1 a b = GG) ∨ (eB (K1 78 (16 * a + b)) (K1 79 (16 * a + b)) (K1 80 (16 * a + b)) ∧ K1 78 (16 * a + b) ≤ 1800 ∧ (0 ≤ ecl K1 a b ∧ ecl K1 a b < GG)) := by
  have hf := fcnt_b K1 a
  rcases h with h | h
  · refine Or.inl ⟨h.1, h.2.1, h.2.2, ?_⟩
    unfold ecl GG
    rw [h.1, h.2.1, h.2.2]
  · obtain ⟨h1, h2, h3, _⟩ := h
    refine Or.inr ⟨⟨by omega, h2, h3⟩, by omega, ?_⟩
    unfold ecl GG enc
    omega
theorem ecl_lt {a b x y z : Int} (h : lbOK M n K1 a b) (hc : eB x y z) : enc x y z < ecl K1 a b ↔ (x < K1 78 (16 * a + b) ∨ (x = K1 78 (16 * a + b) ∧ (y < K1 79 (16 * a + b) ∨ (y = K1 79 (16 * a + b) ∧ z < K1 80 (16 * a + b))))) := by
  rcases lbOK_c h with ⟨e1, e2, e3, e4⟩ | ⟨e1, _⟩
  · rw [e4]
    unfold eB at hc
    unfold GG enc
    constructor
    · intro _; left; omega
    · intro _; omega
  · exact enc_lt hc e1
/-- one street more of a walk makes a label less -/
theorem rlx (hS : SB M n) (hA : lbA M n K1) {a s : Int} (a0 : 0 ≤ a ∧ a ≤ 15) (s0 : 0 ≤ s ∧ s < n) (hu : K1 78 (16 * a + M 72 s) < 1000000000) (hlt : enc (K1 78 (16 * a + M 72 s) + M 74 s) (K1 79 (16 * a + M 72 s) + M 75 s) (K1 80 (16 * a + M 72 s) + M 76 s) < ecl K1 a (M 73 s)) (e78 : K2 78 = updI (K1 78) (16 * a + M 73 s) (K1 78 (16 * a + M 72 s) + M 74 s)) (e79 : K2 79 = updI (K1 79) (16 * a + M 73 s) (K1 79 (16 * a + M 72 s) + M 75 s)) (e80 : K2 80 = updI (K1 80) (16 * a + M 73 s) (K1 80 (16 * a + M 72 s) + M 76 s)) : lbA M n K2 := by
  have hs := hS s s0.1 s0.2
  have lu := hA a (M 72 s) a0.1 a0.2 hs.1.1.1 hs.1.1.2
  have lv := hA a (M 73 s) a0.1 a0.2 hs.1.2.1 hs.1.2.2
  have cu := (lbOK_c lu).resolve_left (fun q => by omega)
  have hcand : eB (K1 78 (16 * a + M 72 s) + M 74 s) (K1 79 (16 * a + M 72 s) + M 75 s) (K1 80 (16 * a + M 72 s) + M 76 s) := by
    have := cu.1
    unfold eB at this ⊢
    omega
  have hlx := (ecl_lt lv hcand).mp hlt
  have fa : fcnt K2 a = fcnt K1 a + if K1 78 (16 * a + M 73 s) < 1000000000 then 0 else 1 := by
    have hk : (((M 73 s).toNat : Nat) : Int) = M 73 s := by omega
    have hu2 := sumS_upd (g := fun b => if K1 78 (16 * a + b) < 1000000000 then 1 else 0) (g' := fun b => if K2 78 (16 * a + b) < 1000000000 then 1 else 0) (k := (M 73 s).toNat) (n := 16) (by omega) (fun j h1 h2 => by
      show (if K2 78 (16 * a + (j : Int)) < 1000000000 then (1 : Int) else 0) = if K1 78 (16 * a + (j : Int)) < 1000000000 then (1 : Int) else 0
      rw [e78, updI_n (by omega)])
    rw [hk] at hu2
    have hu3 : fcnt K2 a = fcnt K1 a + ((if K2 78 (16 * a + M 73 s) < 1000000000 then (1 : Int) else 0) - if K1 78 (16 * a + M 73 s) < 1000000000 then (1 : Int) else 0) := hu2
    rw [e78, updI_s, if_pos (show K1 78 (16 * a + M 72 s) + M 74 s < 1000000000 by omega)] at hu3
    rw [hu3]
    split <;> omega
  have fo : ∀ a', a' ≠ a → fcnt K2 a' = fcnt K1 a' := fun a' ha => sumS_cg (fun j hj => by
    show (if K2 78 (16 * a' + (j : Int)) < 1000000000 then (1 : Int) else 0) = if K1 78 (16 * a' + (j : Int)) < 1000000000 then (1 : Int) else 0
    rw [e78, updI_n (by omega)])
  intro a' b' a0' a1' b0' b1'
  have lo := hA a' b' a0' a1' b0' b1'
  unfold lbOK at lo ⊢
  rw [e78, e79, e80]
  by_cases c : a' = a ∧ b' = M 73 s
  · rw [c.1, c.2, updI_s, updI_s, updI_s]
    have lu' := lu
    unfold lbOK at lu' lv
    rcases lu' with q | ⟨q1, q2, q3, es, q4, q5⟩
    · omega
    · refine Or.inr ⟨⟨by omega, ?_⟩, by omega, by omega, es ++ [s], wlk_snoc q4 s0.1 s0.2, ?_⟩
      · rw [fa]
        by_cases c2 : K1 78 (16 * a + M 73 s) < 1000000000
        · rw [if_pos c2]
          rcases lv with w | w
          · omega
          · omega
        · rw [if_neg c2]
          omega
      · rw [wvl_snoc, q5, enc_add]
        rfl
  · have ne : 16 * a' + b' ≠ 16 * a + M 73 s := fun q => c (by omega)
    rw [updI_n ne, updI_n ne, updI_n ne]
    rcases lo with lo | ⟨q1, q2, q3, q4⟩
    · exact Or.inl lo
    · refine Or.inr ⟨⟨q1.1, ?_⟩, q2, q3, q4⟩
      by_cases ca : a' = a
      · rw [ca] at q1 ⊢
        rw [fa]
        split <;> omega
      · rw [fo a' ca]; exact q1.2
theorem sX12_goesAhead {a b x y z : Int} (ha : (0 ≤ a ∧ a ≤ 15) ∧ (0 ≤ b ∧ b ≤ 15)) (h : lbOK M n m.1 a b) (hc : eB x y z) : nX12_goesAhead m x y z (16 * a + b) = some (if enc x y z < ecl m.1 a b then 1 else 0) := by
  have e := ecl_lt h hc
  have hi : 0 ≤ 16 * a + b ∧ 16 * a + b < 256 := by omega
  unfold nX12_goesAhead bX12_goesAhead
  rw [gd_t hi]
  by_cases c1 : x = m.1 78 (16 * a + b)
  · rw [if_pos c1, gd_t hi]
    by_cases c2 : y < m.1 79 (16 * a + b)
    · rw [if_pos c2, gd_t (by omega), if_pos (e.mpr (Or.inr ⟨c1, Or.inl c2⟩))]
    · rw [if_neg c2, gd_t hi]
      by_cases c3 : y = m.1 79 (16 * a + b)
      · rw [if_pos c3, gd_t hi]
        by_cases c4 : z < m.1 80 (16 * a + b)
        · rw [if_pos c4, gd_t (by omega), if_pos (e.mpr (Or.inr ⟨c1, Or.inr ⟨c3, c4⟩⟩))]
        · rw [if_neg c4, gd_t (by omega), if_neg (fun q => by have := e.mp q; omega)]
      · rw [if_neg c3, gd_t (by omega), if_neg (fun q => by have := e.mp q; omega)]
  · rw [if_neg c1, gd_t hi]
    by_cases c2 : x < m.1 78 (16 * a + b)
    · rw [if_pos c2, gd_t (by omega), if_pos (e.mpr (Or.inl c2))]
    · rw [if_neg c2, gd_t (by omega), if_neg (fun q => by have := e.mp q; omega)]
/-- labels of all places -/
def lab (K : Nat → Int → Int) (a b : Int) : Int := if 0 ≤ b ∧ b ≤ 15 then ecl K a b else GG
theorem lab_0 (hA : lbA M n K1) {a : Int} (a0 : 0 ≤ a ∧ a ≤ 15) (b : Int) : 0 ≤ lab K1 a b := by
  unfold lab
  by_cases c : 0 ≤ b ∧ b ≤ 15
  · rw [if_pos c]
    rcases lbOK_c (hA a b a0.1 a0.2 c.1 c.2) with q | q
    · rw [q.2.2.2]; decide
    · exact q.2.2.1
  · rw [if_neg c]; decide
abbrev sWm : Nat → Int → Prop := fun c _ => 78 ≤ c ∧ c ≤ 80
/-- what a round has done so far -/
def rdI (M : Nat → Int → Int) (n : Int) (K0 : Nat → Int → Int) (k x : Int) (K1 : Nat → Int → Int) : Prop := (lbA M n K1 ∧ ∀ a b, 0 ≤ a → a ≤ 15 → 0 ≤ b → b ≤ 15 → ecl K1 a b ≤ ecl K0 a b) ∧ (∀ a s, 0 ≤ a → a ≤ 15 → 0 ≤ s → s < n → s + n * a < k → ecl K0 a (M 72 s) < GG → ecl K1 a (M 73 s) < GG ∧ ecl K1 a (M 73 s) ≤ ecl K0 a (M 72 s) + wE M s) ∧ (x = 0 ∨ x = 1) ∧ (x = 0 → K1 78 = K0 78 ∧ K1 79 = K0 79 ∧ K1 80 = K0 80) ∧ ((∀ a, 0 ≤ a → a ≤ 15 → rndOk (M 72) (M 73) (fw (wE M)) n GG a 0 15 (lab K0 a)) → x = 0)
theorem m_ways62 {H : HH} (hS : SB H.1 (H.1 71 9)) (hn : 0 ≤ H.1 71 9 ∧ H.1 71 9 ≤ 60) (h0 : lbA H.1 (H.1 71 9) K0) {c54 : Int → HH → Option HH} {P : HH → Prop} : ∀ (r N : Nat) (k x : Int) (m : HH), r < N → k + r = 16 * H.1 71 9 → 0 ≤ k → Fr sWm H m → rdI H.1 (H.1 71 9) K0 k x m.1 → (∀ x' m', Fr sWm H m' → rdI H.1 (H.1 71 9) K0 (16 * H.1 71 9) x' m'.1 → Ok (c54 x' m') P) → Ok (nX12_ways_62 c54 N x k m) P := by
  intro r
  induction r with
  | zero =>
    intro N k x m hN hk k0 f ri hK
    obtain ⟨M, rfl⟩ := fuel_s hN
    have e9 : m.1 71 9 = H.1 71 9 := f.2 71 9 (by dsimp only [sWm]; omega)
    rw [nX12_ways_62_s]
    simp only [bX12_ways_62]
    refine ok_gd (by omega) ?_
    refine ok_neg (by omega) ?_
    exact hK x m f (by rw [show 16 * H.1 71 9 = k by omega]; exact ri)
  | succ r ih =>
    intro N k x m hN hk k0 f ri hK
    obtain ⟨M, rfl⟩ := fuel_s hN
    have eR : ∀ c, ¬ (78 ≤ c ∧ c ≤ 80) → m.1 c = H.1 c := fun c hc => fr_c f c (fun i s => hc s)
    have npos : 0 < H.1 71 9 := by omega
    obtain ⟨a, ha⟩ : ∃ a, a = k / H.1 71 9 := ⟨_, rfl⟩
    obtain ⟨s, hs⟩ : ∃ s, s = k % H.1 71 9 := ⟨_, rfl⟩
    have s0 : 0 ≤ s ∧ s < H.1 71 9 := by rw [hs]; exact ⟨Int.emod_nonneg k (by omega), Int.emod_lt_of_pos k npos⟩
    have a0 : 0 ≤ a ∧ a < 16 := by rw [ha]; exact ⟨Int.ediv_nonneg k0 (by omega), Int.ediv_lt_of_lt_mul npos (by omega)⟩
    have ek : s + H.1 71 9 * a = k := by rw [hs, ha]; exact Int.emod_add_mul_ediv k _
    obtain ⟨⟨r1, r2⟩, r3, r4, r5, r6⟩ := ri
    have hst := hS s s0.1 s0.2
    have lu := r1 a (H.1 72 s) a0.1 (by omega) hst.1.1.1 hst.1.1.2
    have lv := r1 a (H.1 73 s) a0.1 (by omega) hst.1.2.1 hst.1.2.2
    have nxt : ∀ (x' : Int) (m' : HH), Fr sWm H m' → (lbA H.1 (H.1 71 9) m'.1 ∧ ∀ a b, 0 ≤ a → a ≤ 15 → 0 ≤ b → b ≤ 15 → ecl m'.1 a b ≤ ecl m.1 a b) → (ecl K0 a (H.1 72 s) < GG → ecl m'.1 a (H.1 73 s) < GG ∧ ecl m'.1 a (H.1 73 s) ≤ ecl K0 a (H.1 72 s) + wE H.1 s) → (x' = 0 ∨ x' = 1) → (x' = 0 → m'.1 78 = K0 78 ∧ m'.1 79 = K0 79 ∧ m'.1 80 = K0 80) → ((∀ a, 0 ≤ a → a ≤ 15 → rndOk (H.1 72) (H.1 73) (fw (wE H.1)) (H.1 71 9) GG a 0 15 (lab K0 a)) → x' = 0) → Ok (nX12_ways_250 c54 (nX12_ways_62 c54 M) x' k m') P := fun x' m' f' l1 l2 l3 l4 l5 => by
      simp only [nX12_ways_250, bX12_ways_250]
      refine ok_gd (by omega) ?_
      refine ih M (k + 1) x' m' (by omega) (by omega) (by omega) f' ⟨⟨l1.1, fun a b p1 p2 p3 p4 => Int.le_trans (l1.2 a b p1 p2 p3 p4) (r2 a b p1 p2 p3 p4)⟩, fun a' s' p1 p2 p3 p4 p5 p6 => ?_, l3, l4, l5⟩ hK
      by_cases c : s' + H.1 71 9 * a' < k
      · have z := r3 a' s' p1 p2 p3 p4 c p6
        have hst' := hS s' p3 p4
        have := l1.2 a' (H.1 73 s') p1 p2 hst'.1.2.1 hst'.1.2.2
        omega
      · have u := (Int.ediv_emod_unique (a := k) (b := H.1 71 9) (r := s') (q := a') npos).mpr ⟨by omega, p3, p4⟩
        rw [← ha, ← hs] at u
        rw [← u.1, ← u.2] at p6 ⊢
        exact l2 p6
    rw [nX12_ways_62_s]
    simp only [bX12_ways_62]
    rw [eR 71 (by omega), eR 72 (by omega), eR 73 (by omega), ← ha, ← hs]
    refine ok_gd (by omega) ?_
    refine ok_pos (by omega) ?_
    refine ok_gd (by omega) ?_
    refine ok_gd (by omega) ?_
    refine ok_gd (by omega) ?_
    refine ok_gd (by omega) ?_
    refine ok_gd (by omega) ?_
    refine ok_gd (by omega) ?_
    refine ok_gd (by omega) ?_
    refine ok_gd (by omega) ?_
    refine ok_gd (by omega) ?_
    have hle := r2 a (H.1 72 s) a0.1 (by omega) hst.1.1.1 hst.1.1.2
    by_cases cu : m.1 78 (16 * a + H.1 72 s) < 1000000000
    · refine ok_pos cu ?_
      have lc := (lbOK_c lu).resolve_left (fun q => by omega)
      have hcand : eB (m.1 78 (16 * a + H.1 72 s) + H.1 74 s) (m.1 79 (16 * a + H.1 72 s) + H.1 75 s) (m.1 80 (16 * a + H.1 72 s) + H.1 76 s) := by
        have := lc.1
        unfold eB at this ⊢
        omega
      have hcd := hcand
      unfold eB at hcd
      have ecand : enc (m.1 78 (16 * a + H.1 72 s) + H.1 74 s) (m.1 79 (16 * a + H.1 72 s) + H.1 75 s) (m.1 80 (16 * a + H.1 72 s) + H.1 76 s) = ecl m.1 a (H.1 72 s) + wE H.1 s := enc_add
      have ecG : enc (m.1 78 (16 * a + H.1 72 s) + H.1 74 s) (m.1 79 (16 * a + H.1 72 s) + H.1 75 s) (m.1 80 (16 * a + H.1 72 s) + H.1 76 s) < GG := by
        unfold GG enc
        omega
      simp only [nX12_ways_128, bX12_ways_128]
      rw [eR 74 (by omega), eR 75 (by omega), eR 76 (by omega)]
      refine ok_gd (by omega) ?_
      refine ok_gd (by omega) ?_
      refine ok_gd (by omega) ?_
      refine ok_gd (by omega) ?_
      refine ok_gd (by omega) ?_
      refine ok_gd (by omega) ?_
      refine ok_gd (by omega) ?_
      refine ok_gd (by omega) ?_
      refine ok_gd (by omega) ?_
      refine ok_be (sX12_goesAhead (M := H.1) (n := H.1 71 9) ⟨by omega, hst.1.2⟩ lv hcand) ?_
      by_cases cl : enc (m.1 78 (16 * a + H.1 72 s) + H.1 74 s) (m.1 79 (16 * a + H.1 72 s) + H.1 75 s) (m.1 80 (16 * a + H.1 72 s) + H.1 76 s) < ecl m.1 a (H.1 73 s)
      · rw [if_pos cl]
        refine ok_neg (by decide) ?_
        have cuv : 16 * a + H.1 73 s ≠ 16 * a + H.1 72 s := fun q => by
          have ev : H.1 73 s = H.1 72 s := by omega
          rw [ev, ecand] at cl
          have := SB_w hS s s0.1 s0.2
          omega
        simp only [nX12_ways_182, bX12_ways_182]
        refine ok_gd (by omega) ?_
        refine ok_gd (by omega) ?_
        rw [eR 74 (by omega)]
        refine ok_gd (by omega) ?_
        refine ok_gd (by omega) ?_
        refine ok_bs ?_
        have q79 : (hI m 78 (16 * a + H.1 73 s) (m.1 78 (16 * a + H.1 72 s) + H.1 74 s)).1 79 (16 * a + H.1 72 s) = m.1 79 (16 * a + H.1 72 s) := by rw [rI_n (by decide)]
        have q75 : (hI m 78 (16 * a + H.1 73 s) (m.1 78 (16 * a + H.1 72 s) + H.1 74 s)).1 75 s = H.1 75 s := by rw [rI_n (by decide), eR 75 (by omega)]
        rw [q79, q75]
        refine ok_gd (by omega) ?_
        refine ok_gd (by omega) ?_
        refine ok_gd (by omega) ?_
        refine ok_gd (by omega) ?_
        refine ok_bs ?_
        have q80 : (hI (hI m 78 (16 * a + H.1 73 s) (m.1 78 (16 * a + H.1 72 s) + H.1 74 s)) 79 (16 * a + H.1 73 s) (m.1 79 (16 * a + H.1 72 s) + H.1 75 s)).1 80 (16 * a + H.1 72 s) = m.1 80 (16 * a + H.1 72 s) := by rw [rI_n (by decide), rI_n (by decide)]
        have q76 : (hI (hI m 78 (16 * a + H.1 73 s) (m.1 78 (16 * a + H.1 72 s) + H.1 74 s)) 79 (16 * a + H.1 73 s) (m.1 79 (16 * a + H.1 72 s) + H.1 75 s)).1 76 s = H.1 76 s := by rw [rI_n (by decide), rI_n (by decide), eR 76 (by omega)]
        rw [q80, q76]
        refine ok_gd (by omega) ?_
        refine ok_gd (by omega) ?_
        refine ok_gd (by omega) ?_
        refine ok_gd (by omega) ?_
        refine ok_bs ?_
        obtain ⟨g, hg⟩ : ∃ g, g = hI (hI (hI m 78 (16 * a + H.1 73 s) (m.1 78 (16 * a + H.1 72 s) + H.1 74 s)) 79 (16 * a + H.1 73 s) (m.1 79 (16 * a + H.1 72 s) + H.1 75 s)) 80 (16 * a + H.1 73 s) (m.1 80 (16 * a + H.1 72 s) + H.1 76 s) := ⟨_, rfl⟩
        rw [← hg]
        have g78 : g.1 78 = updI (m.1 78) (16 * a + H.1 73 s) (m.1 78 (16 * a + H.1 72 s) + H.1 74 s) := by rw [hg, rI_n (by decide), rI_n (by decide), rI_s]
        have g79 : g.1 79 = updI (m.1 79) (16 * a + H.1 73 s) (m.1 79 (16 * a + H.1 72 s) + H.1 75 s) := by rw [hg, rI_n (by decide), rI_s, rI_n (by decide)]
        have g80 : g.1 80 = updI (m.1 80) (16 * a + H.1 73 s) (m.1 80 (16 * a + H.1 72 s) + H.1 76 s) := by rw [hg, rI_s, rI_n (by decide), rI_n (by decide)]
        have fg : Fr sWm H g := by
          rw [hg]
          exact fr_I (fr_I (fr_I f (by dsimp only [sWm]; omega)) (by dsimp only [sWm]; omega)) (by dsimp only [sWm]; omega)
        have eg : ecl g.1 a (H.1 73 s) = ecl m.1 a (H.1 72 s) + wE H.1 s := by
          rw [← ecand]
          unfold ecl
          rw [g78, g79, g80, updI_s, updI_s, updI_s]
        have lo : ∀ a' b, 0 ≤ a' → a' ≤ 15 → 0 ≤ b → b ≤ 15 → ecl g.1 a' b ≤ ecl m.1 a' b := fun a' b p1 p2 p3 p4 => by
          by_cases c : a' = a ∧ b = H.1 73 s
          · rw [c.1, c.2, eg, ← ecand]; exact Int.le_of_lt cl
          · have ne : 16 * a' + b ≠ 16 * a + H.1 73 s := fun q => c (by omega)
            unfold ecl
            rw [g78, g79, g80, updI_n ne, updI_n ne, updI_n ne]
            exact Int.le_refl _
        refine nxt 1 g fg ⟨rlx hS r1 (by omega) s0 cu cl g78 g79 g80, lo⟩ (fun _ => ?_) (Or.inr rfl) (fun q => by omega) (fun q => ?_)
        · rw [eg, ← ecand]
          refine ⟨ecG, ?_⟩
          rw [ecand]
          omega
        · -- labels that are least can't become less
          exfalso
          have x0 := r6 q
          obtain ⟨k1, k2, k3⟩ := r5 x0
          have lu' := lu
          unfold lbOK at lu'
          rcases lu' with w | ⟨_, _, _, es, w1, w2⟩
          · omega
          · have w3 := wlk_snoc w1 s0.1 s0.2
            have w4 := rnd_15 fw_mon (fw_inf (SB_w hS)) (SB_e hS) (q a a0.1 (by omega)) (Nat.le_refl _) (Int.le_refl 0) a0.1 a0.2 w3
            rw [wvl_snoc, w2] at w4
            have e1 : lab K0 a (H.1 73 s) = ecl m.1 a (H.1 73 s) := by
              unfold lab ecl
              rw [if_pos hst.1.2, k1, k2, k3]
            have e2 : fw (wE H.1) s (enc (m.1 78 (16 * a + H.1 72 s)) (m.1 79 (16 * a + H.1 72 s)) (m.1 80 (16 * a + H.1 72 s))) = ecl m.1 a (H.1 72 s) + wE H.1 s := rfl
            rw [e1, e2, ← ecand] at w4
            omega
      · rw [if_neg cl]
        refine ok_pos rfl ?_
        refine nxt x m f ⟨r1, fun _ _ _ _ _ _ => Int.le_refl _⟩ (fun _ => ?_) r4 r5 r6
        rw [ecand] at cl ecG
        omega
    · refine ok_neg cu ?_
      refine nxt x m f ⟨r1, fun _ _ _ _ _ _ => Int.le_refl _⟩ (fun q => ?_) r4 r5 r6
      rcases lbOK_c lu with w | w
      · rw [w.2.2.2] at hle; omega
      · omega
/-- the model's tables -/
abbrev gD (K : Nat → Int → Int) : Int → Int → Int := fun a b => if K 78 (16 * a + b) = 1000000000 then -1 else K 78 (16 * a + b)
abbrev gT (K : Nat → Int → Int) : Int → Int → Int := fun a b => K 79 (16 * a + b)
abbrev gL (K : Nat → Int → Int) : Int → Int → Int := fun a b => K 80 (16 * a + b)
theorem sumS_ge {g : Int → Int} {k : Nat} : ∀ {n : Nat}, (∀ j : Nat, j < n → 0 ≤ g j) → k < n → g k ≤ sumS g n
  | 0, _, h => absurd h (Nat.not_lt_zero _)
  | n + 1, hj, h => by
    rw [sumS]
    have h1 := hj n (by omega)
    by_cases c : k = n
    · have h0 : 0 ≤ sumS g n := by
        have : ∀ m : Nat, m ≤ n → 0 ≤ sumS g m := fun m => by
          induction m with
          | zero => intro _; exact Int.le_refl _
          | succ m ih =>
            intro q
            have := ih (by omega)
            have := hj m (by omega)
            rw [sumS]
            omega
        exact this n (Nat.le_refl _)
      rw [c]; omega
    · have := sumS_ge (g := g) (k := k) (n := n) (fun j q => hj j (by omega)) (by omega)
      omega
/-- labels that are least -/
theorem lab_fin {K : Nat → Int → Int} (hS : SB M n) (hA : lbA M n K) (hd : ∀ a, 0 ≤ a → a ≤ 15 → ecl K a a = 0) (hc : ∀ a s, 0 ≤ a → a ≤ 15 → 0 ≤ s → s < n → ecl K a (M 72 s) < GG → ecl K a (M 73 s) < GG ∧ ecl K a (M 73 s) ≤ ecl K a (M 72 s) + wE M s) : WY (gD K) (gT K) (gL K) M n ∧ TB (gD K) (gT K) (gL K) ∧ ∀ a b, 0 ≤ a → a ≤ 15 → 0 ≤ b → b ≤ 15 → 0 ≤ K 78 (16 * a + b) := by
  have hG : (0 : Int) < GG := by decide
  have low : ∀ a b es, 0 ≤ a → a ≤ 15 → 0 ≤ b → b ≤ 15 → wlk (M 72) (M 73) n a es b → ecl K a b < GG ∧ ecl K a b ≤ wvl (fw (wE M)) 0 es := fun a b es a0 a1 b0 b1 w => by
    have laba : lab K a a = 0 := by unfold lab; rw [if_pos ⟨a0, a1⟩, hd a a0 a1]
    have labb : lab K a b = ecl K a b := by unfold lab; rw [if_pos ⟨b0, b1⟩]
    have := lab_le (A := lab K a) (G := GG) (f := fw (wE M)) fw_mon (fw_inf (SB_w hS)) (fun s s0 s1 q => by
      have hs := hS s s0 s1
      have e1 : lab K a (M 72 s) = ecl K a (M 72 s) := by unfold lab; rw [if_pos hs.1.1]
      have e2 : lab K a (M 73 s) = ecl K a (M 73 s) := by unfold lab; rw [if_pos hs.1.2]
      rw [e1] at q
      rw [e1, e2]
      exact hc a s a0 a1 s0 s1 q) (lab_0 hA ⟨a0, a1⟩) w (t := 0) (by rw [laba]; exact hG) (by rw [laba]; exact Int.le_refl _)
    rw [labb] at this
    exact this
  refine ⟨fun a b a0 a1 b0 b1 => ?_, fun a b a0 a1 b0 b1 => ?_, fun a b a0 a1 b0 b1 => by
    rcases lbOK_c (hA a b a0 a1 b0 b1) with z | z
    · omega
    · have z1 := z.1
      unfold eB at z1
      omega⟩
  · have lo := hA a b a0 a1 b0 b1
    have lc := lbOK_c lo
    unfold lbOK at lo
    rcases lo with q | ⟨q1, q2, q3, es, q4, q5⟩
    · refine Or.inl ⟨if_pos q.1, fun es w => ?_⟩
      have := low a b es a0 a1 b0 b1 w
      rcases lc with z | z
      · rw [z.2.2.2] at this; omega
      · omega
    · have hf := fcnt_b K a
      have ne : ¬ K 78 (16 * a + b) = 1000000000 := by omega
      refine Or.inr ⟨?_, ?_⟩
      · show (if K 78 (16 * a + b) = 1000000000 then -1 else K 78 (16 * a + b)) ≠ -1
        rw [if_neg ne]; omega
      · show lst _ _ _ _ _ _ _ (enc (if K 78 (16 * a + b) = 1000000000 then -1 else K 78 (16 * a + b)) (K 79 (16 * a + b)) (K 80 (16 * a + b)))
        rw [if_neg ne]
        exact ⟨⟨es, q4, q5⟩, fun es' w => (low a b es' a0 a1 b0 b1 w).2⟩
  · have lc := lbOK_c (hA a b a0 a1 b0 b1)
    rcases lc with z | z
    · exact Or.inl (if_pos z.1)
    · have ne : ¬ K 78 (16 * a + b) = 1000000000 := by omega
      have z1 := z.1
      unfold eB at z1
      refine Or.inr ?_
      show (0 ≤ (if K 78 (16 * a + b) = 1000000000 then -1 else K 78 (16 * a + b)) ∧ (if K 78 (16 * a + b) = 1000000000 then -1 else K 78 (16 * a + b)) ≤ 1800) ∧ (0 ≤ K 79 (16 * a + b) ∧ K 79 (16 * a + b) ≤ 50000 * (if K 78 (16 * a + b) = 1000000000 then -1 else K 78 (16 * a + b))) ∧ (0 ≤ K 80 (16 * a + b) ∧ K 80 (16 * a + b) ≤ 9999 * (if K 78 (16 * a + b) = 1000000000 then -1 else K 78 (16 * a + b)))
      rw [if_neg ne]
      omega
theorem m_ways54 {H : HH} (hS : SB H.1 (H.1 71 9)) (hn : 0 ≤ H.1 71 9 ∧ H.1 71 9 ≤ 60) : ∀ (R N r : Nat) (m : HH), R + 1 < N → r + R = 15 → Fr sWm H m → lbA H.1 (H.1 71 9) m.1 → (∀ a, 0 ≤ a → a ≤ 15 → ecl m.1 a a = 0) → (∀ a, 0 ≤ a → a ≤ 15 → rndOk (H.1 72) (H.1 73) (fw (wE H.1)) (H.1 71 9) GG a 0 r (lab m.1 a)) → Ok (nX12_ways_54 N 1 m) (fun g => Fr sWm H g ∧ WY (gD g.1) (gT g.1) (gL g.1) H.1 (H.1 71 9) ∧ TB (gD g.1) (gT g.1) (gL g.1) ∧ ∀ a b, 0 ≤ a → a ≤ 15 → 0 ≤ b → b ≤ 15 → 0 ≤ g.1 78 (16 * a + b)) := by
  intro R
  induction R with
  | zero =>
    intro N r m hN hr f hA hd hR
    obtain ⟨M, rfl⟩ := fuel_s hN
    obtain ⟨M, rfl⟩ : ∃ M', M = M' + 1 := fuel_s (show 0 < M by omega)
    rw [nX12_ways_54_s]
    simp only [bX12_ways_54]
    refine ok_neg (by decide) ?_
    refine m_ways62 hS hn hA (16 * H.1 71 9).toNat 100000 0 0 m (by omega) (by omega) (by omega) f ⟨⟨hA, fun _ _ _ _ _ _ => Int.le_refl _⟩, fun a s p1 p2 p3 p4 p5 => ?_, Or.inl rfl, fun _ => ⟨rfl, rfl, rfl⟩, fun _ => rfl⟩ (fun x' m' f' ri => ?_)
    · have := Int.mul_nonneg hn.1 p1
      omega
    · obtain ⟨⟨r1, r2⟩, r3, r4, r5, r6⟩ := ri
      have x0 := r6 (by rw [show r = 15 by omega] at hR; exact hR)
      obtain ⟨k1, k2, k3⟩ := r5 x0
      rw [x0, nX12_ways_54_s]
      simp only [bX12_ways_54]
      refine ok_pos True.intro ?_
      have ee : ∀ a b, ecl m'.1 a b = ecl m.1 a b := fun a b => by unfold ecl; rw [k1, k2, k3]
      refine ok_some ⟨f', lab_fin hS r1 (fun a p1 p2 => by rw [ee]; exact hd a p1 p2) (fun a s p1 p2 p3 p4 q => ?_)⟩
      have := r3 a s p1 p2 p3 p4 (by
        have : H.1 71 9 * a ≤ H.1 71 9 * 15 := Int.mul_le_mul_of_nonneg_left p2 hn.1
        omega) (by rw [← ee]; exact q)
      rw [← ee a (H.1 72 s)] at this
      exact this
  | succ R ih =>
    intro N r m hN hr f hA hd hR
    obtain ⟨M, rfl⟩ := fuel_s hN
    rw [nX12_ways_54_s]
    simp only [bX12_ways_54]
    refine ok_neg (by decide) ?_
    refine m_ways62 hS hn hA (16 * H.1 71 9).toNat 100000 0 0 m (by omega) (by omega) (by omega) f ⟨⟨hA, fun _ _ _ _ _ _ => Int.le_refl _⟩, fun a s p1 p2 p3 p4 p5 => ?_, Or.inl rfl, fun _ => ⟨rfl, rfl, rfl⟩, fun _ => rfl⟩ (fun x' m' f' ri => ?_)
    · have := Int.mul_nonneg hn.1 p1
      omega
    · obtain ⟨⟨r1, r2⟩, r3, r4, r5, r6⟩ := ri
      have hall : ∀ a s, 0 ≤ a → a ≤ 15 → 0 ≤ s → s < H.1 71 9 → ecl m.1 a (H.1 72 s) < GG → ecl m'.1 a (H.1 73 s) < GG ∧ ecl m'.1 a (H.1 73 s) ≤ ecl m.1 a (H.1 72 s) + wE H.1 s := fun a s p1 p2 p3 p4 q => r3 a s p1 p2 p3 p4 (by
        have : H.1 71 9 * a ≤ H.1 71 9 * 15 := Int.mul_le_mul_of_nonneg_left p2 hn.1
        omega) q
      rcases r4 with x0 | x1
      · obtain ⟨k1, k2, k3⟩ := r5 x0
        obtain ⟨M, rfl⟩ : ∃ M', M = M' + 1 := fuel_s (show 0 < M by omega)
        rw [x0, nX12_ways_54_s]
        simp only [bX12_ways_54]
        refine ok_pos True.intro ?_
        have ee : ∀ a b, ecl m'.1 a b = ecl m.1 a b := fun a b => by unfold ecl; rw [k1, k2, k3]
        refine ok_some ⟨f', lab_fin hS r1 (fun a p1 p2 => by rw [ee]; exact hd a p1 p2) (fun a s p1 p2 p3 p4 q => ?_)⟩
        have := hall a s p1 p2 p3 p4 (by rw [← ee]; exact q)
        rw [← ee a (H.1 72 s)] at this
        exact this
      · rw [x1]
        refine ih M (r + 1) m' (by omega) (by omega) f' r1 (fun a p1 p2 => ?_) (fun a p1 p2 => ?_)
        · have h1 := r2 a a p1 p2 p1 p2
          rw [hd a p1 p2] at h1
          have hG : (0 : Int) < GG := by decide
          rcases lbOK_c (r1 a a p1 p2 p1 p2) with z | z
          · rw [z.2.2.2] at h1; omega
          · omega
        · refine rnd_s fw_mon (lab_0 hA ⟨p1, p2⟩) (hR a p1 p2) (fun b => ?_) (fun s s0 s1 q => ?_)
          · unfold lab
            by_cases c : 0 ≤ b ∧ b ≤ 15
            · rw [if_pos c, if_pos c]; exact r2 a b p1 p2 c.1 c.2
            · rw [if_neg c, if_neg c]; exact Int.le_refl _
          · have hs := hS s s0 s1
            have e1 : lab m.1 a (H.1 72 s) = ecl m.1 a (H.1 72 s) := by unfold lab; rw [if_pos hs.1.1]
            have e2 : lab m'.1 a (H.1 73 s) = ecl m'.1 a (H.1 73 s) := by unfold lab; rw [if_pos hs.1.2]
            rw [e1] at q
            rw [e1, e2]
            exact hall a s p1 p2 s0 s1 q
theorem m_ways {H : HH} (hS : SB H.1 (H.1 71 9)) (hn : 0 ≤ H.1 71 9 ∧ H.1 71 9 ≤ 60) : Ok (nX12_ways H) (fun g => Fr sWm H g ∧ WY (gD g.1) (gT g.1) (gL g.1) H.1 (H.1 71 9) ∧ TB (gD g.1) (gT g.1) (gL g.1) ∧ ∀ a b, 0 ≤ a → a ≤ 15 → 0 ≤ b → b ≤ 15 → 0 ≤ g.1 78 (16 * a + b)) := by
  have key : ∀ (r N : Nat) (k : Int) (m : HH), r < N → k + r = 256 → 0 ≤ k → Fr sWm H m → (∀ j, 0 ≤ j → j < k → m.1 78 j = (if j / 16 = j % 16 then 0 else 1000000000) ∧ m.1 79 j = 0 ∧ m.1 80 j = 0) → Ok (nX12_ways_2 N k m) (fun g => Fr sWm H g ∧ WY (gD g.1) (gT g.1) (gL g.1) H.1 (H.1 71 9) ∧ TB (gD g.1) (gT g.1) (gL g.1) ∧ ∀ a b, 0 ≤ a → a ≤ 15 → 0 ≤ b → b ≤ 15 → 0 ≤ g.1 78 (16 * a + b)) := by
    intro r
    induction r with
    | zero =>
      intro N k m hN hk k0 f hj
      obtain ⟨M, rfl⟩ := fuel_s hN
      rw [nX12_ways_2_s]
      simp only [bX12_ways_2]
      refine ok_neg (by omega) ?_
      have hj' : ∀ a b, 0 ≤ a → a ≤ 15 → 0 ≤ b → b ≤ 15 → m.1 78 (16 * a + b) = (if a = b then 0 else 1000000000) ∧ m.1 79 (16 * a + b) = 0 ∧ m.1 80 (16 * a + b) = 0 := fun a b a0 a1 b0 b1 => by
        have z := hj (16 * a + b) (by omega) (by omega)
        rw [show (16 * a + b) / 16 = a by omega, show (16 * a + b) % 16 = b by omega] at z
        exact z
      have hd : ∀ a, 0 ≤ a → a ≤ 15 → ecl m.1 a a = 0 := fun a a0 a1 => by
        have z := hj' a a a0 a1 a0 a1
        rw [if_pos rfl] at z
        unfold ecl
        rw [z.1, z.2.1, z.2.2]
        decide
      refine m_ways54 hS hn 15 100000 0 m (by omega) (by omega) f (fun a b a0 a1 b0 b1 => ?_) hd (fun a a0 a1 => rnd_0 ?_ ?_)
      · have z := hj' a b a0 a1 b0 b1
        unfold lbOK
        by_cases c : a = b
        · rw [if_pos c] at z
          have h1 : 1 ≤ fcnt m.1 a := by
            have := sumS_ge (g := fun b => if m.1 78 (16 * a + b) < 1000000000 then 1 else 0) (k := b.toNat) (n := 16) (fun j _ => by
              show 0 ≤ (if m.1 78 (16 * a + (j : Int)) < 1000000000 then (1 : Int) else 0)
              split <;> omega) (by omega)
            have e : (if m.1 78 (16 * a + (b.toNat : Int)) < 1000000000 then (1 : Int) else 0) = 1 := by
              rw [show ((b.toNat : Nat) : Int) = b by omega, z.1, if_pos (by decide)]
            rw [← e]
            exact this
          rw [z.1, z.2.1, z.2.2]
          refine Or.inr ⟨by omega, by omega, by omega, [], c ▸ wlk_nil, ?_⟩
          rfl
        · rw [if_neg c] at z
          exact Or.inl z
      · unfold lab
        rw [if_pos ⟨a0, a1⟩, hd a a0 a1]
        decide
      · unfold lab
        rw [if_pos ⟨a0, a1⟩, hd a a0 a1]
        exact Int.le_refl _
    | succ r ih =>
      intro N k m hN hk k0 f hj
      obtain ⟨M, rfl⟩ := fuel_s hN
      rw [nX12_ways_2_s]
      simp only [bX12_ways_2, nX12_ways_31, bX12_ways_31]
      refine ok_pos (by omega) ?_
      refine ok_gd (by omega) ?_
      refine ok_gd (by omega) ?_
      have step : ∀ y : Int, y = (if k / 16 = k % 16 then 0 else 1000000000) → Ok (gd ((0 : Int) ≤ k ∧ k < (256 : Int)) <| bnd (some (hI m 78 k y)) fun h1 => gd ((0 : Int) ≤ k ∧ k < (256 : Int)) <| bnd (some (hI h1 79 k 0)) fun h2 => gd ((0 : Int) ≤ k ∧ k < (256 : Int)) <| bnd (some (hI h2 80 k 0)) fun h3 => gd (R32 (k + 1)) <| nX12_ways_2 M (k + 1) h3) (fun g => Fr sWm H g ∧ WY (gD g.1) (gT g.1) (gL g.1) H.1 (H.1 71 9) ∧ TB (gD g.1) (gT g.1) (gL g.1) ∧ ∀ a b, 0 ≤ a → a ≤ 15 → 0 ≤ b → b ≤ 15 → 0 ≤ g.1 78 (16 * a + b)) := fun y hy => by
        refine ok_gd (by omega) ?_
        refine ok_bs ?_
        refine ok_gd (by omega) ?_
        refine ok_bs ?_
        refine ok_gd (by omega) ?_
        refine ok_bs ?_
        refine ok_gd (by omega) ?_
        refine ih M (k + 1) _ (by omega) (by omega) (by omega) (fr_I (fr_I (fr_I f (by dsimp only [sWm]; omega)) (by dsimp only [sWm]; omega)) (by dsimp only [sWm]; omega)) (fun j j0 j1 => ?_)
        simp (disch := decide) only [rI_s, rI_n, rI_2, rC_s, rC_n, rC_2, rJ_1, rJ_s, rJ_n, updI_at, if_pos, if_neg]
        by_cases c : j = k
        · rw [if_pos c, if_pos c, if_pos c, c]; exact ⟨hy, rfl, rfl⟩
        · rw [if_neg c, if_neg c, if_neg c]; exact hj j j0 (by omega)
      by_cases c : k / 16 = k % 16
      · refine ok_pos c ?_
        exact step 0 (if_pos c).symm
      · refine ok_neg c ?_
        exact step 1000000000 (if_neg c).symm
  unfold nX12_ways bX12_ways
  exact key 256 100000 0 H (by omega) (by omega) (by omega) fr_r (fun j j0 j1 => by omega)
end WAYS
