/-! PICTURES: pure words on a store of the class, read as K; the class' rounds -/
/-- minutes from a to b; -1: none lead there -/
abbrev dK (K : Nat → Int → Int) (a b : Int) : Int := K 7 (a * 16 + b)
/-- the minute at which the service of p begins for one who leaves a place at a minute; -1: it can't -/
def srv (K : Nat → Int → Int) (p pl mn : Int) : Int := if dK K pl (K 14 p) = -1 then -1 else if K 18 p < max (mn + dK K pl (K 14 p)) (K 17 p) then -1 else max (mn + dK K pl (K 14 p)) (K 17 p)
/-- the cost of what is left of a row -/
def cst (K : Nat → Int → Int) (v : Int) : List Int → Int → Int → Int → Int
  | [], m, pl, sz => if dK K pl 0 = -1 ∨ K 25 v < m + dK K pl 0 ∨ K 23 v < sz then -1 else m + dK K pl 0 - K 24 v
  | p :: l, m, pl, sz => if srv K p pl m = -1 then -1 else cst K v l (srv K p pl m + K 19 p) (K 14 p) (sz + K 15 p)
def costL (K : Nat → Int → Int) (v : Int) (l : List Int) : Int := cst K v l (K 24 v) 0 0
/-- what parcels, vans and ways hold -/
def VAL (K : Nat → Int → Int) : Prop := ((0 ≤ K 13 10 ∧ K 13 10 ≤ 9) ∧ (0 ≤ K 13 14 ∧ K 13 14 ≤ 3)) ∧ (∀ a b : Int, 0 ≤ a → a ≤ 15 → 0 ≤ b → b ≤ 15 → -1 ≤ dK K a b ∧ dK K a b ≤ 1800 ∧ (dK K a b = -1 ∨ ((0 ≤ K 8 (a * 16 + b) ∧ K 8 (a * 16 + b) ≤ 50000 * dK K a b) ∧ (0 ≤ K 9 (a * 16 + b) ∧ K 9 (a * 16 + b) ≤ 9999 * dK K a b)))) ∧ (∀ a : Int, 0 ≤ a → a ≤ 15 → dK K a a = 0) ∧ (∀ p : Int, 0 ≤ p → p < K 13 10 → (1 ≤ K 14 p ∧ K 14 p ≤ 15) ∧ (1 ≤ K 15 p ∧ K 15 p ≤ 100) ∧ (0 ≤ K 16 p ∧ K 16 p ≤ 2) ∧ (0 ≤ K 17 p ∧ K 17 p ≤ K 18 p ∧ K 18 p ≤ 1439) ∧ (0 ≤ K 19 p ∧ K 19 p ≤ 60)) ∧ (∀ v : Int, 0 ≤ v → v < K 13 14 → (1 ≤ K 23 v ∧ K 23 v ≤ 900) ∧ (0 ≤ K 24 v ∧ K 24 v ≤ 1439) ∧ (K 24 v ≤ K 25 v ∧ K 25 v ≤ 2000))
section V
variable {K : Nat → Int → Int}
theorem v_n (h : VAL K) : ((0 ≤ K 13 10 ∧ K 13 10 ≤ 9) ∧ (0 ≤ K 13 14 ∧ K 13 14 ≤ 3)) := h.1
theorem v_D (h : VAL K) {a b : Int} (h1 : 0 ≤ a) (h2 : a ≤ 15) (h3 : 0 ≤ b) (h4 : b ≤ 15) : -1 ≤ dK K a b ∧ dK K a b ≤ 1800 ∧ (dK K a b = -1 ∨ ((0 ≤ K 8 (a * 16 + b) ∧ K 8 (a * 16 + b) ≤ 50000 * dK K a b) ∧ (0 ≤ K 9 (a * 16 + b) ∧ K 9 (a * 16 + b) ≤ 9999 * dK K a b))) := h.2.1 a b h1 h2 h3 h4
theorem v_0 (h : VAL K) {a : Int} (h1 : 0 ≤ a) (h2 : a ≤ 15) : dK K a a = 0 := h.2.2.1 a h1 h2
theorem v_p (h : VAL K) {p : Int} (h1 : 0 ≤ p) (h2 : p < K 13 10) : (1 ≤ K 14 p ∧ K 14 p ≤ 15) ∧ (1 ≤ K 15 p ∧ K 15 p ≤ 100) ∧ (0 ≤ K 16 p ∧ K 16 p ≤ 2) ∧ (0 ≤ K 17 p ∧ K 17 p ≤ K 18 p ∧ K 18 p ≤ 1439) ∧ (0 ≤ K 19 p ∧ K 19 p ≤ 60) := h.2.2.2.1 p h1 h2
theorem v_v (h : VAL K) {v : Int} (h1 : 0 ≤ v) (h2 : v < K 13 14) : (1 ≤ K 23 v ∧ K 23 v ≤ 900) ∧ (0 ≤ K 24 v ∧ K 24 v ≤ 1439) ∧ (K 24 v ≤ K 25 v ∧ K 25 v ≤ 2000) := h.2.2.2.2 v h1 h2
end V
/-- an array of nine ints of the class -/
def A9 (c : Nat) : Prop := (okS 2 70 c 0 = true ∧ inS 2 70 c = true) ∧ lnK c = 9
theorem a9_rw {v : Int} (h : 0 ≤ v) (h' : v < 3) : A9 (rwK 3 28 v) := by
  rcases (by omega : v = 0 ∨ v = 1 ∨ v = 2) with rfl | rfl | rfl <;> exact ⟨⟨rfl, rfl⟩, rfl⟩
theorem rwK_0 {v : Int} (h : 0 ≤ v) (h' : v < 3) : Nat.beq (rwK 3 28 v) 0 = false := by
  rcases (by omega : v = 0 ∨ v = 1 ∨ v = 2) with rfl | rfl | rfl <;> rfl
theorem rwK_r {v : Int} (h : 0 ≤ v) (h' : v < 3) : 28 ≤ rwK 3 28 v ∧ rwK 3 28 v ≤ 30 := by
  rcases (by omega : v = 0 ∨ v = 1 ∨ v = 2) with rfl | rfl | rfl <;> decide
theorem rwK_i {v w : Int} (h : 0 ≤ v) (h' : v < 3) (h1 : 0 ≤ w) (h1' : w < 3) (e : rwK 3 28 v = rwK 3 28 w) : v = w := by
  rcases (by omega : v = 0 ∨ v = 1 ∨ v = 2) with rfl | rfl | rfl <;> rcases (by omega : w = 0 ∨ w = 1 ∨ w = 2) with rfl | rfl | rfl <;> first | rfl | exact absurd e (by decide)
theorem a9_ok {c : Nat} (h : A9 c) : (okS 2 70 c 0 || okS 2 70 c 9) = true := by rw [h.1.1]; rfl
theorem a9_ok2 {c d : Nat} (h : A9 c) (h' : A9 d) : ((okS 2 70 c 0 && okS 2 70 d 0) && true) = true := by rw [h.1.1, h'.1.1]; rfl
/-- the round of a van -/
abbrev rnd (K : Nat → Int → Int) (v : Int) : List Int := rowL (K (rwK 3 28 v)) 0 (K 31 v).toNat
def inR (K : Nat → Int → Int) (l : List Int) : Prop := ∀ p ∈ l, 0 ≤ p ∧ p < K 13 10
theorem inR_c {K : Nat → Int → Int} {p : Int} {l : List Int} (h : inR K (p :: l)) : (0 ≤ p ∧ p < K 13 10) ∧ inR K l := ⟨h p List.mem_cons_self, fun q hq => h q (List.mem_cons_of_mem _ hq)⟩
section X
variable {h : HH}
theorem sX9_minutesOf {a b : Int} (h1 : 0 ≤ a) (h2 : a ≤ 15) (h3 : 0 ≤ b) (h4 : b ≤ 15) : nX9_minutesOf h a b = some (dK h.1 a b) := by
  unfold nX9_minutesOf bX9_minutesOf
  rw [gd_t (by omega), gd_t (by omega), gd_t (by omega)]
theorem srv_r (hv : VAL h.1) {p pl m : Int} (h1 : 0 ≤ p) (h2 : p < h.1 13 10) : srv h.1 p pl m = -1 ∨ (0 ≤ srv h.1 p pl m ∧ srv h.1 p pl m ≤ 1439 ∧ m + dK h.1 pl (h.1 14 p) ≤ srv h.1 p pl m ∧ dK h.1 pl (h.1 14 p) ≠ -1) := by
  have := v_p hv h1 h2
  unfold srv
  by_cases c1 : dK h.1 pl (h.1 14 p) = -1
  · rw [if_pos c1]; exact Or.inl rfl
  · rw [if_neg c1]
    by_cases c2 : h.1 18 p < max (m + dK h.1 pl (h.1 14 p)) (h.1 17 p)
    · rw [if_pos c2]; exact Or.inl rfl
    · rw [if_neg c2]
      exact Or.inr (by omega)
theorem sX2_serveAt (hv : VAL h.1) {p pl m : Int} (h1 : 0 ≤ p) (h2 : p < h.1 13 10) (h3 : 0 ≤ pl) (h4 : pl ≤ 15) (h5 : -10000 ≤ m) (h6 : m ≤ 1000000) : nX2_serveAt h p pl m = some (srv h.1 p pl m) := by
  have hp := v_p hv h1 h2
  have hn := v_n hv
  have hd := v_D hv h3 h4 (b := h.1 14 p) (by omega) (by omega)
  simp only [bX2_serveAt, nX2_serveAt]
  refine ok_is ?_
  repeat (first | with_reducible refine ok_gd (by first | omega | decide) ?_ | with_reducible refine ok_bs ?_ | with_reducible refine ok_be (sX9_minutesOf (by omega) (by omega) (by omega) (by omega)) ?_ | with_reducible refine ok_pos (by omega) ?_ | with_reducible refine ok_neg (by omega) ?_ | with_reducible refine ok_tl ?_ | with_reducible refine ok_tr ?_)
  with_reducible refine ok_ite (fun c1 => ?_) (fun c1 => ?_)
  · exact ok_some (by rw [srv, if_pos c1])
  · repeat (first | with_reducible refine ok_gd (by first | omega | decide) ?_ | with_reducible refine ok_bs ?_ | with_reducible refine ok_pos (by omega) ?_ | with_reducible refine ok_neg (by omega) ?_ | with_reducible refine ok_tl ?_ | with_reducible refine ok_tr ?_)
    with_reducible refine ok_ite (fun c2 => ?_) (fun c2 => ?_)
    · exact ok_some (by rw [srv, if_neg c1, if_pos c2])
    · exact ok_some (by rw [srv, if_neg c1, if_neg c2])
theorem sX2_costOf_17 (hv : VAL h.1) {c : Nat} (hc : A9 c) {v : Int} (hv0 : 0 ≤ v) (hv1 : v < h.1 13 14) : ∀ (k N : Nat) (n i m pl sz : Int), k < N → i + k = n → 0 ≤ i → n ≤ 9 → 0 ≤ m → m ≤ 1499 → 0 ≤ pl → pl ≤ 15 → 0 ≤ sz → sz ≤ 100 * i → inR h.1 (rowL (h.1 c) i k) → nX2_costOf_17 h N v c n m pl sz i = some (cst h.1 v (rowL (h.1 c) i k) m pl sz) := by
  have hn := v_n hv
  have hvv := v_v hv hv0 hv1
  intro k
  induction k with
  | zero =>
    intro N n i m pl sz hN hi h0 h9 hm0 hm1 hp0 hp1 hs0 hs1 hr
    obtain ⟨M, rfl⟩ := fuel_s hN
    have hd := v_D hv hp0 hp1 (b := 0) (by omega) (by omega)
    rw [nX2_costOf_17_s]
    simp only [bX2_costOf_136, nX2_costOf_136, bX2_costOf_135, nX2_costOf_135, bX2_costOf_29, nX2_costOf_29, bX2_costOf_17, bX2_costOf, nX2_costOf]
    refine ok_is ?_
    repeat (first | with_reducible refine ok_gd (by first | omega | decide) ?_ | with_reducible refine ok_bs ?_ | with_reducible refine ok_be (sX9_minutesOf (by omega) (by omega) (by omega) (by omega)) ?_ | with_reducible refine ok_pos (by omega) ?_ | with_reducible refine ok_neg (by omega) ?_ | with_reducible refine ok_tl ?_ | with_reducible refine ok_tr ?_)
    rw [rowL, cst]
    with_reducible refine ok_ite (fun c1 => ?_) (fun c1 => ?_)
    · repeat (first | with_reducible refine ok_gd (by first | omega | decide) ?_ | with_reducible refine ok_bs ?_ | with_reducible refine ok_pos (by omega) ?_ | with_reducible refine ok_neg (by omega) ?_ | with_reducible refine ok_tl ?_ | with_reducible refine ok_tr ?_)
      exact ok_some (by rw [if_pos (Or.inl c1)])
    · repeat (first | with_reducible refine ok_gd (by first | omega | decide) ?_ | with_reducible refine ok_bs ?_ | with_reducible refine ok_pos (by omega) ?_ | with_reducible refine ok_neg (by omega) ?_ | with_reducible refine ok_tl ?_ | with_reducible refine ok_tr ?_)
      with_reducible refine ok_ite (fun c2 => ?_) (fun c2 => ?_)
      · repeat (first | with_reducible refine ok_gd (by first | omega | decide) ?_ | with_reducible refine ok_bs ?_ | with_reducible refine ok_pos (by omega) ?_ | with_reducible refine ok_neg (by omega) ?_ | with_reducible refine ok_tl ?_ | with_reducible refine ok_tr ?_)
        exact ok_some (by rw [if_pos (Or.inr (Or.inl c2))])
      · repeat (first | with_reducible refine ok_gd (by first | omega | decide) ?_ | with_reducible refine ok_bs ?_ | with_reducible refine ok_pos (by omega) ?_ | with_reducible refine ok_neg (by omega) ?_ | with_reducible refine ok_tl ?_ | with_reducible refine ok_tr ?_)
        with_reducible refine ok_ite (fun c3 => ?_) (fun c3 => ?_)
        · repeat (first | with_reducible refine ok_gd (by first | omega | decide) ?_ | with_reducible refine ok_bs ?_ | with_reducible refine ok_pos (by omega) ?_ | with_reducible refine ok_neg (by omega) ?_ | with_reducible refine ok_tl ?_ | with_reducible refine ok_tr ?_)
          exact ok_some (by rw [if_pos (Or.inr (Or.inr c3))])
        · repeat (first | with_reducible refine ok_gd (by first | omega | decide) ?_ | with_reducible refine ok_bs ?_ | with_reducible refine ok_pos (by omega) ?_ | with_reducible refine ok_neg (by omega) ?_ | with_reducible refine ok_tl ?_ | with_reducible refine ok_tr ?_)
          exact ok_some (by rw [if_neg (by omega)])
  | succ k ih =>
    intro N n i m pl sz hN hi h0 h9 hm0 hm1 hp0 hp1 hs0 hs1 hr
    obtain ⟨M, rfl⟩ := fuel_s hN
    rw [rowL] at hr
    obtain ⟨hp, hr⟩ := inR_c hr
    have hpp := v_p hv hp.1 hp.2
    have hd := v_D hv hp0 hp1 (b := h.1 14 (h.1 c i)) (by omega) (by omega)
    have hsr := srv_r hv (pl := pl) (m := m) hp.1 hp.2
    rw [nX2_costOf_17_s]
    simp only [bX2_costOf_136, nX2_costOf_136, bX2_costOf_135, nX2_costOf_135, bX2_costOf_29, nX2_costOf_29, bX2_costOf_17, bX2_costOf, nX2_costOf]
    refine ok_is ?_
    refine ok_pos (by omega) ?_
    refine ok_bt (a9_ok hc) ?_
    refine ok_gd (by rw [hc.2]; omega) ?_
    repeat (first | with_reducible refine ok_gd (by first | omega | decide) ?_ | with_reducible refine ok_bs ?_ | with_reducible refine ok_be (sX2_serveAt hv hp.1 hp.2 hp0 hp1 (by omega) (by omega)) ?_ | with_reducible refine ok_pos (by omega) ?_ | with_reducible refine ok_neg (by omega) ?_ | with_reducible refine ok_tl ?_ | with_reducible refine ok_tr ?_)
    rw [rowL, cst]
    with_reducible refine ok_ite (fun c1 => ?_) (fun c1 => ?_)
    · exact ok_some (by rw [if_pos c1])
    · repeat (first | with_reducible refine ok_gd (by first | omega | decide) ?_ | with_reducible refine ok_bs ?_ | with_reducible refine ok_pos (by omega) ?_ | with_reducible refine ok_neg (by omega) ?_ | with_reducible refine ok_tl ?_ | with_reducible refine ok_tr ?_)
      rw [if_neg c1]
      exact ok_of (ih M n (i + 1) _ _ _ (by omega) (by omega) (by omega) h9 (by omega) (by omega) (by omega) (by omega) (by omega) (by omega) hr) rfl
theorem sX2_costOf (hv : VAL h.1) {c : Nat} (hc : A9 c) {v n : Int} (hv0 : 0 ≤ v) (hv1 : v < h.1 13 14) (h0 : 0 ≤ n) (h9 : n ≤ 9) (hr : inR h.1 (rowL (h.1 c) 0 n.toNat)) : nX2_costOf h v c n = some (costL h.1 v (rowL (h.1 c) 0 n.toNat)) := by
  have hn := v_n hv
  have hvv := v_v hv hv0 hv1
  unfold nX2_costOf bX2_costOf
  rw [gd_t (by omega)]
  exact sX2_costOf_17 hv hc hv0 hv1 n.toNat 100000 n 0 _ 0 0 (by omega) (by omega) (by omega) h9 (by omega) (by omega) (by omega) (by omega) (by omega) (by omega) hr
/-- the lengths of the rounds, and their parcels' numbers -/
def RV (K : Nat → Int → Int) : Prop := ∀ v : Int, 0 ≤ v → v < 3 → (0 ≤ K 31 v ∧ K 31 v ≤ 9) ∧ inR K (rnd K v)
theorem sX6_costNow (hv : VAL h.1) (hr : RV h.1) {v : Int} (hv0 : 0 ≤ v) (hv1 : v < h.1 13 14) : nX6_costNow h v = some (costL h.1 v (rnd h.1 v)) := by
  have hn := v_n hv
  obtain ⟨h1, h2⟩ := hr v hv0 (by omega)
  simp only [bX6_costNow, nX6_costNow]
  refine ok_is ?_
  refine ok_gd (by omega) ?_
  refine ok_bf (rwK_0 hv0 (by omega)) ?_
  repeat (first | with_reducible refine ok_gd (by first | omega | decide) ?_ | with_reducible refine ok_bs ?_ | with_reducible refine ok_be (sX2_costOf hv (a9_rw hv0 (by omega)) hv0 hv1 (by omega) (by omega) h2) ?_ | with_reducible refine ok_pos (by omega) ?_ | with_reducible refine ok_neg (by omega) ?_ | with_reducible refine ok_tl ?_ | with_reducible refine ok_tr ?_)
  exact ok_some rfl
/-- where a parcel stands in a row -/
def ixL (p : Int) : List Int → Int → Int
  | [], _ => -1
  | x :: l, i => if x = p then i else ixL p l (i + 1)
theorem sX6_indexIn_2 {v p : Int} (hv0 : 0 ≤ v) (hv1 : v < 3) (h9 : h.1 31 v ≤ 9) : ∀ (k N : Nat) (i : Int), k < N → i + k = h.1 31 v → 0 ≤ i → nX6_indexIn_2 h N v p i = some (ixL p (rowL (h.1 (rwK 3 28 v)) i k) i) := by
  intro k
  have hc := a9_rw hv0 hv1
  induction k with
  | zero =>
    intro N i hN hi h0
    obtain ⟨M, rfl⟩ := fuel_s hN
    rw [nX6_indexIn_2_s]
    simp only [bX6_indexIn_2, bX6_indexIn, nX6_indexIn]
    refine ok_is ?_
    repeat (first | with_reducible refine ok_gd (by first | omega | decide) ?_ | with_reducible refine ok_bs ?_ | with_reducible refine ok_pos (by omega) ?_ | with_reducible refine ok_neg (by omega) ?_ | with_reducible refine ok_tl ?_ | with_reducible refine ok_tr ?_)
    exact ok_some rfl
  | succ k ih =>
    intro N i hN hi h0
    obtain ⟨M, rfl⟩ := fuel_s hN
    rw [nX6_indexIn_2_s]
    simp only [bX6_indexIn_2, bX6_indexIn, nX6_indexIn]
    refine ok_is ?_
    refine ok_gd (by omega) ?_
    refine ok_pos (by omega) ?_
    refine ok_gd (by omega) ?_
    refine ok_bf (rwK_0 hv0 (by omega)) ?_
    refine ok_bt (a9_ok hc) ?_
    refine ok_gd (by rw [hc.2]; omega) ?_
    rw [rowL, ixL]
    with_reducible refine ok_ite (fun c1 => ?_) (fun c1 => ?_)
    · exact ok_some (by rw [if_pos c1])
    · repeat (first | with_reducible refine ok_gd (by first | omega | decide) ?_ | with_reducible refine ok_bs ?_ | with_reducible refine ok_pos (by omega) ?_ | with_reducible refine ok_neg (by omega) ?_ | with_reducible refine ok_tl ?_ | with_reducible refine ok_tr ?_)
      rw [if_neg c1]
      exact ok_of (ih M (i + 1) (by omega) (by omega) (by omega)) rfl
theorem sX6_indexIn (hr : RV h.1) {v p : Int} (hv0 : 0 ≤ v) (hv1 : v < 3) : nX6_indexIn h v p = some (ixL p (rnd h.1 v) 0) := by
  obtain ⟨h1, h2⟩ := hr v hv0 hv1
  unfold nX6_indexIn bX6_indexIn
  exact sX6_indexIn_2 hv0 hv1 (by omega) (h.1 31 v).toNat 100000 0 (by omega) (by omega) (by omega)
/-- the van in whose round a parcel is -/
def vw (K : Nat → Int → Int) (p : Int) : Int := if p ∈ rnd K 0 then 0 else if p ∈ rnd K 1 then 1 else if p ∈ rnd K 2 then 2 else -1
theorem ixL_m {p : Int} : ∀ {l : List Int} {i : Int}, 0 ≤ i → (p ∈ l ↔ ixL p l i ≠ -1)
  | [], i, _ => by simp [ixL]
  | x :: l, i, hi => by
    rw [ixL]
    by_cases c : x = p
    · rw [if_pos c, c]
      exact ⟨fun _ => by omega, fun _ => List.mem_cons_self⟩
    · rw [if_neg c, ← ixL_m (l := l) (i := i + 1) (by omega), List.mem_cons]
      exact ⟨fun q => q.elim (fun e => absurd e.symm c) id, Or.inr⟩
theorem sX6_vanWith (hr : RV h.1) {p : Int} : nX6_vanWith h p = some (vw h.1 p) := by
  unfold nX6_vanWith bX6_vanWith
  rw [show (100000 : Nat) = 99996 + 1 + 1 + 1 + 1 by rfl, nX6_vanWith_2_s, nX6_vanWith_2_s, nX6_vanWith_2_s, nX6_vanWith_2_s]
  simp only [bX6_vanWith_2, vw, Int.reduceAdd]
  refine ok_is ?_
  repeat (first | with_reducible refine ok_gd (by first | omega | decide) ?_ | with_reducible refine ok_bs ?_ | with_reducible refine ok_be (sX6_indexIn hr (by omega) (by omega)) ?_ | with_reducible refine ok_pos (by omega) ?_ | with_reducible refine ok_neg (by omega) ?_ | with_reducible refine ok_tl ?_ | with_reducible refine ok_tr ?_)
  with_reducible refine ok_ite (fun c1 => ?_) (fun c1 => ?_)
  · rw [if_neg (fun q => (ixL_m (by omega)).mp q c1)]
    repeat (first | with_reducible refine ok_gd (by first | omega | decide) ?_ | with_reducible refine ok_bs ?_ | with_reducible refine ok_be (sX6_indexIn hr (by omega) (by omega)) ?_ | with_reducible refine ok_pos (by omega) ?_ | with_reducible refine ok_neg (by omega) ?_ | with_reducible refine ok_tl ?_ | with_reducible refine ok_tr ?_)
    with_reducible refine ok_ite (fun c1 => ?_) (fun c1 => ?_)
    · rw [if_neg (fun q => (ixL_m (by omega)).mp q c1)]
      repeat (first | with_reducible refine ok_gd (by first | omega | decide) ?_ | with_reducible refine ok_bs ?_ | with_reducible refine ok_be (sX6_indexIn hr (by omega) (by omega)) ?_ | with_reducible refine ok_pos (by omega) ?_ | with_reducible refine ok_neg (by omega) ?_ | with_reducible refine ok_tl ?_ | with_reducible refine ok_tr ?_)
      with_reducible refine ok_ite (fun c1 => ?_) (fun c1 => ?_)
      · rw [if_neg (fun q => (ixL_m (by omega)).mp q c1)]
        repeat (first | with_reducible refine ok_gd (by first | omega | decide) ?_ | with_reducible refine ok_bs ?_ | with_reducible refine ok_pos (by omega) ?_ | with_reducible refine ok_neg (by omega) ?_ | with_reducible refine ok_tl ?_ | with_reducible refine ok_tr ?_)
        exact ok_some rfl
      · rw [if_pos ((ixL_m (by omega)).mpr c1)]
        exact ok_some rfl
    · rw [if_pos ((ixL_m (by omega)).mpr c1)]
      exact ok_some rfl
  · rw [if_pos ((ixL_m (by omega)).mpr c1)]
    exact ok_some rfl
theorem sX6_canTake (hr : RV h.1) {p : Int} (h1 : 0 ≤ p) (h2 : p < 9) : nX6_canTake h p = some (b2i (h.1 20 p = 0 ∧ vw h.1 p = -1)) := by
  simp only [bX6_canTake, nX6_canTake]
  refine ok_is ?_
  repeat (first | with_reducible refine ok_gd (by first | omega | decide) ?_ | with_reducible refine ok_bs ?_ | with_reducible refine ok_pos (by omega) ?_ | with_reducible refine ok_neg (by omega) ?_ | with_reducible refine ok_tl ?_ | with_reducible refine ok_tr ?_)
  with_reducible refine ok_ite (fun c1 => ?_) (fun c1 => ?_)
  · repeat (first | with_reducible refine ok_gd (by first | omega | decide) ?_ | with_reducible refine ok_bs ?_ | with_reducible refine ok_be (sX6_vanWith hr) ?_ | with_reducible refine ok_pos (by omega) ?_ | with_reducible refine ok_neg (by omega) ?_ | with_reducible refine ok_tl ?_ | with_reducible refine ok_tr ?_)
    with_reducible refine ok_ite (fun c2 => ?_) (fun c2 => ?_)
    · repeat (first | with_reducible refine ok_gd (by first | omega | decide) ?_ | with_reducible refine ok_bs ?_ | with_reducible refine ok_pos (by omega) ?_ | with_reducible refine ok_neg (by omega) ?_ | with_reducible refine ok_tl ?_ | with_reducible refine ok_tr ?_)
      exact ok_some (by rw [b2i, if_pos ⟨c1, c2⟩])
    · repeat (first | with_reducible refine ok_gd (by first | omega | decide) ?_ | with_reducible refine ok_bs ?_ | with_reducible refine ok_pos (by omega) ?_ | with_reducible refine ok_neg (by omega) ?_ | with_reducible refine ok_tl ?_ | with_reducible refine ok_tr ?_)
      exact ok_some (by rw [b2i, if_neg (fun q => c2 q.2)])
  · repeat (first | with_reducible refine ok_gd (by first | omega | decide) ?_ | with_reducible refine ok_bs ?_ | with_reducible refine ok_pos (by omega) ?_ | with_reducible refine ok_neg (by omega) ?_ | with_reducible refine ok_tl ?_ | with_reducible refine ok_tr ?_)
    exact ok_some (by rw [b2i, if_neg (fun q => c1 q.1)])
theorem sX6_areEmpty : nX6_areEmpty h = some (b2i (h.1 31 0 = 0 ∧ h.1 31 1 = 0 ∧ h.1 31 2 = 0)) := by
  simp only [bX6_areEmpty, nX6_areEmpty]
  refine ok_is ?_
  repeat (first | with_reducible refine ok_gd (by first | omega | decide) ?_ | with_reducible refine ok_bs ?_ | with_reducible refine ok_pos (by omega) ?_ | with_reducible refine ok_neg (by omega) ?_ | with_reducible refine ok_tl ?_ | with_reducible refine ok_tr ?_)
  with_reducible refine ok_ite (fun c1 => ?_) (fun c1 => ?_)
  · repeat (first | with_reducible refine ok_gd (by first | omega | decide) ?_ | with_reducible refine ok_bs ?_ | with_reducible refine ok_pos (by omega) ?_ | with_reducible refine ok_neg (by omega) ?_ | with_reducible refine ok_tl ?_ | with_reducible refine ok_tr ?_)
    with_reducible refine ok_ite (fun c2 => ?_) (fun c2 => ?_)
    · repeat (first | with_reducible refine ok_gd (by first | omega | decide) ?_ | with_reducible refine ok_bs ?_ | with_reducible refine ok_pos (by omega) ?_ | with_reducible refine ok_neg (by omega) ?_ | with_reducible refine ok_tl ?_ | with_reducible refine ok_tr ?_)
      with_reducible refine ok_ite (fun c3 => ?_) (fun c3 => ?_)
      · repeat (first | with_reducible refine ok_gd (by first | omega | decide) ?_ | with_reducible refine ok_bs ?_ | with_reducible refine ok_pos (by omega) ?_ | with_reducible refine ok_neg (by omega) ?_ | with_reducible refine ok_tl ?_ | with_reducible refine ok_tr ?_)
        exact ok_some (by rw [b2i, if_pos ⟨c1, c2, c3⟩])
      · repeat (first | with_reducible refine ok_gd (by first | omega | decide) ?_ | with_reducible refine ok_bs ?_ | with_reducible refine ok_pos (by omega) ?_ | with_reducible refine ok_neg (by omega) ?_ | with_reducible refine ok_tl ?_ | with_reducible refine ok_tr ?_)
        exact ok_some (by rw [b2i, if_neg (fun q => c3 q.2.2)])
    · repeat (first | with_reducible refine ok_gd (by first | omega | decide) ?_ | with_reducible refine ok_bs ?_ | with_reducible refine ok_pos (by omega) ?_ | with_reducible refine ok_neg (by omega) ?_ | with_reducible refine ok_tl ?_ | with_reducible refine ok_tr ?_)
      exact ok_some (by rw [b2i, if_neg (fun q => c2 q.2.1)])
  · repeat (first | with_reducible refine ok_gd (by first | omega | decide) ?_ | with_reducible refine ok_bs ?_ | with_reducible refine ok_pos (by omega) ?_ | with_reducible refine ok_neg (by omega) ?_ | with_reducible refine ok_tl ?_ | with_reducible refine ok_tr ?_)
    exact ok_some (by rw [b2i, if_neg (fun q => c1 q.1)])
end X
