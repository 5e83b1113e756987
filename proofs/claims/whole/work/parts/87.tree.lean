/-! THE LEAST TREE as it is grown, pair by pair -/
section TREE
variable {w : Int → Int → Int} {n : Int} {g : Int → Int}
def bsT (w : Int → Int → Int) (n : Int) (g : Int → Int) (i j : Int) : Prop := (0 ≤ i ∧ i < j ∧ j < n) ∧ g i ≠ g j ∧ ∀ x y, 0 ≤ x → x < y → y < n → g x ≠ g y → w i j < w x y ∨ (w i j = w x y ∧ (i < x ∨ (i = x ∧ j ≤ y)))
theorem bsT_u {i j i' j' : Int} (a : bsT w n g i j) (b : bsT w n g i' j') : i = i' ∧ j = j' := by
  have p := a.2.2 i' j' b.1.1 b.1.2.1 b.1.2.2 b.2.1
  have q := b.2.2 i j a.1.1 a.1.2.1 a.1.2.2 a.2.1
  omega
def mgG (g : Int → Int) (i j : Int) : Int → Int := fun k => if g k = g j then g i else g k
abbrev dgU (dg : Int → Int) (i j : Int) : Int → Int := updI (updI dg i (dg i + 1)) j (dg j + 1)
abbrev TST : Type := (Int → Int) × (Int → Int) × Int × List (Int × Int)
def trR (w : Int → Int → Int) (n : Int) : Nat → (Int → Int) → (Int → Int) → Int → List (Int × Int) → TST → Prop
  | 0, g, dg, S, E, o => o = (g, dg, S, E)
  | k + 1, g, dg, S, E, o => ∃ i j, bsT w n g i j ∧ trR w n k (mgG g i j) (dgU dg i j) (S + w i j) (E ++ [(i, j)]) o
theorem trR_u : ∀ {k : Nat} {g dg : Int → Int} {S : Int} {E : List (Int × Int)} {o o' : TST}, trR w n k g dg S E o → trR w n k g dg S E o' → o = o'
  | 0, _, _, _, _, _, _, a, b => a.trans b.symm
  | k + 1, _, _, _, _, _, _, ⟨i, j, a, a'⟩, ⟨i', j', b, b'⟩ => by
    obtain ⟨e1, e2⟩ := bsT_u a b
    rw [← e1, ← e2] at b'
    exact trR_u a' b'
def rts (g : Int → Int) (n : Int) : Int := sumS (fun k => if g k = k then 1 else 0) n.toNat
def gOK (g : Int → Int) (n : Int) : Prop := ∀ k, 0 ≤ k → k < n → (0 ≤ g k ∧ g k < n) ∧ g (g k) = g k
theorem sumS_0 : ∀ m : Nat, sumS (fun _ => (0 : Int)) m = 0
  | 0 => rfl
  | m + 1 => by rw [sumS, sumS_0 m]; rfl
theorem rts_1 (hg : gOK g n) (hs : ∀ x y, 0 ≤ x → x < y → y < n → g x = g y) : rts g n ≤ 1 := by
  by_cases hn : n ≤ 0
  · unfold rts
    rw [show n.toNat = 0 by omega]
    show (0 : Int) ≤ 1
    omega
  · have h0 := hg 0 (by omega) (by omega)
    have same : ∀ x, 0 ≤ x → x < n → g x = g 0 := fun x x0 x1 => by
      by_cases c : x = 0
      · rw [c]
      · exact (hs 0 x (by omega) (by omega) x1).symm
    have hu := sumS_upd (g := fun _ => (0 : Int)) (g' := fun k => if g k = k then 1 else 0) (k := (g 0).toNat) (n := n.toNat) (by omega) (fun j h1 h2 => by
      show (if g (j : Int) = (j : Int) then (1 : Int) else 0) = 0
      rw [if_neg]
      intro z
      have := same j (by omega) (by omega)
      omega)
    rw [sumS_0] at hu
    have : rts g n = 0 + ((if g (((g 0).toNat : Nat) : Int) = (((g 0).toNat : Nat) : Int) then (1 : Int) else 0) - 0) := hu
    rw [this]
    split <;> omega
theorem rts_2 {x y : Int} (x0 : 0 ≤ x ∧ x < n) (y0 : 0 ≤ y ∧ y < n) (hx : g x = x) (hy : g y = y) (hne : x ≠ y) : 2 ≤ rts g n := by
  have hu := sumS_upd (g := fun k => if g k = k then 1 else 0) (g' := fun k => if k = x then 0 else if g k = k then 1 else 0) (k := x.toNat) (n := n.toNat) (by omega) (fun j h1 h2 => by
    show (if (j : Int) = x then (0 : Int) else if g (j : Int) = (j : Int) then 1 else 0) = if g (j : Int) = (j : Int) then 1 else 0
    rw [if_neg (by omega)])
  have hu2 : sumS (fun k => if k = x then 0 else if g k = k then 1 else 0) n.toNat = rts g n + ((if ((x.toNat : Nat) : Int) = x then (0 : Int) else if g ((x.toNat : Nat) : Int) = ((x.toNat : Nat) : Int) then 1 else 0) - if g ((x.toNat : Nat) : Int) = ((x.toNat : Nat) : Int) then 1 else 0) := hu
  rw [show ((x.toNat : Nat) : Int) = x by omega, if_pos rfl, if_pos hx] at hu2
  have ge := sumS_ge (g := fun k => if k = x then 0 else if g k = k then 1 else 0) (k := y.toNat) (n := n.toNat) (fun j _ => by
    show 0 ≤ (if (j : Int) = x then (0 : Int) else if g (j : Int) = (j : Int) then 1 else 0)
    split
    · omega
    · split <;> omega) (by omega)
  have ge2 : (if ((y.toNat : Nat) : Int) = x then (0 : Int) else if g ((y.toNat : Nat) : Int) = ((y.toNat : Nat) : Int) then 1 else 0) ≤ sumS (fun k => if k = x then 0 else if g k = k then 1 else 0) n.toNat := ge
  rw [show ((y.toNat : Nat) : Int) = y by omega, if_neg (fun z => hne z.symm), if_pos hy] at ge2
  omega
theorem rts_m (hg : gOK g n) {i j : Int} (i0 : 0 ≤ i ∧ i < n) (j0 : 0 ≤ j ∧ j < n) (hne : g i ≠ g j) : rts (mgG g i j) n = rts g n - 1 := by
  have hi := hg i i0.1 i0.2
  have hj := hg j j0.1 j0.2
  have hu := sumS_upd (g := fun k => if g k = k then 1 else 0) (g' := fun k => if mgG g i j k = k then 1 else 0) (k := (g j).toNat) (n := n.toNat) (by omega) (fun k h1 h2 => by
    show (if mgG g i j (k : Int) = (k : Int) then (1 : Int) else 0) = if g (k : Int) = (k : Int) then 1 else 0
    unfold mgG
    by_cases c : g (k : Int) = g j
    · rw [if_pos c]
      have a : ¬ g i = (k : Int) := fun z => by
        have := hi.2
        rw [z, c] at this
        omega
      rw [if_neg a, if_neg (by omega)]
    · rw [if_neg c])
  have hu2 : rts (mgG g i j) n = rts g n + ((if mgG g i j (((g j).toNat : Nat) : Int) = (((g j).toNat : Nat) : Int) then (1 : Int) else 0) - if g (((g j).toNat : Nat) : Int) = (((g j).toNat : Nat) : Int) then 1 else 0) := hu
  rw [show (((g j).toNat : Nat) : Int) = g j by omega, if_pos hj.2, if_neg (by unfold mgG; rw [if_pos hj.2]; exact hne)] at hu2
  omega
theorem gOK_m (hg : gOK g n) {i j : Int} (i0 : 0 ≤ i ∧ i < n) (j0 : 0 ≤ j ∧ j < n) (hne : g i ≠ g j) : gOK (mgG g i j) n := fun k k0 k1 => by
  have hi := hg i i0.1 i0.2
  have hk := hg k k0 k1
  have e : mgG g i j (g i) = g i := by unfold mgG; rw [hi.2, if_neg hne]
  by_cases c : g k = g j
  · have : mgG g i j k = g i := by unfold mgG; rw [if_pos c]
    rw [this, e]
    exact ⟨hi.1, rfl⟩
  · have : mgG g i j k = g k := by unfold mgG; rw [if_neg c]
    rw [this]
    refine ⟨hk.1, ?_⟩
    unfold mgG
    rw [hk.2, if_neg c]
theorem rts_id {n : Int} (hn : 0 ≤ n) : rts (fun k => k) n = n := by
  have : ∀ m : Nat, sumS (fun k => if k = k then (1 : Int) else 0) m = m := fun m => by
    induction m with
    | zero => rfl
    | succ m ih => rw [sumS, ih, if_pos rfl]; omega
  have e := this n.toNat
  unfold rts
  rw [e]
  omega
theorem pair_ex (hg : gOK g n) (h2 : 2 ≤ rts g n) : ∃ x y, (0 ≤ x ∧ x < y ∧ y < n) ∧ g x ≠ g y := by
  by_cases c : ∃ x y, (0 ≤ x ∧ x < y ∧ y < n) ∧ g x ≠ g y
  · exact c
  · have := rts_1 hg (fun x y x0 xy y1 => by
      by_cases z : g x = g y
      · exact z
      · exact absurd ⟨x, y, ⟨x0, xy, y1⟩, z⟩ c)
    omega
/-- what is grown -/
def trI (w : Int → Int → Int) (n : Int) (g dg : Int → Int) (S : Int) (E : List (Int × Int)) : Prop := (gOK g n ∧ (∀ x y, cn Eq E x y → g x = g y) ∧ ∀ x y, (0 ≤ x ∧ x < n) → (0 ≤ y ∧ y < n) → g x = g y → cn Eq E x y) ∧ (∀ e ∈ E, (0 ≤ e.1 ∧ e.1 < n) ∧ (0 ≤ e.2 ∧ e.2 < n)) ∧ S = wsum w E ∧ ∀ z, dg z = dgP z E
theorem trI_0 : trI w n (fun k => k) (fun _ => 0) 0 [] := ⟨⟨fun k k0 k1 => ⟨⟨k0, k1⟩, rfl⟩, fun x y h => cn_nil ⟨fun _ => rfl, fun _ _ => Eq.symm, fun _ _ _ => Eq.trans⟩ h, fun x y _ _ e => by
  have e' : x = y := e
  rw [e']
  exact cn_rfl⟩, fun e he => absurd he List.not_mem_nil, rfl, fun z => rfl⟩
theorem dgP_1 {z i j : Int} : dgP z [(i, j)] = (if i = z then 1 else 0) + (if j = z then 1 else 0) := by
  simp [dgP]
theorem trI_s {dg : Int → Int} {S : Int} {E : List (Int × Int)} {i j : Int} (q : trI w n g dg S E) (hb : bsT w n g i j) : trI w n (mgG g i j) (dgU dg i j) (S + w i j) (E ++ [(i, j)]) := by
  obtain ⟨⟨q1, q2, q3⟩, q4, q5, q6⟩ := q
  obtain ⟨⟨b0, b1, b2⟩, b3, _⟩ := hb
  have ed : cn Eq (E ++ [(i, j)]) i j := cn_e (e := (i, j)) (List.mem_append_right _ List.mem_cons_self)
  have up : ∀ {x y}, cn Eq E x y → cn Eq (E ++ [(i, j)]) x y := fun h => cn_sub (fun e he => List.mem_append_left _ he) h
  have mi : mgG g i j i = g i := by unfold mgG; rw [if_neg b3]
  have mj : mgG g i j j = g i := by unfold mgG; rw [if_pos rfl]
  refine ⟨⟨gOK_m q1 (by omega) (by omega) b3, fun x y h => ?_, fun x y x0 y0 e => ?_⟩, fun e he => ?_, ?_, fun z => ?_⟩
  · refine cn_le (T := fun x y => mgG g i j x = mgG g i j y) ⟨fun _ => rfl, fun _ _ => Eq.symm, fun _ _ _ => Eq.trans⟩ (fun x y e => by rw [e]) (fun e he => ?_) h
    rcases List.mem_append.mp he with z | z
    · have : g e.1 = g e.2 := q2 _ _ (cn_e z)
      unfold mgG
      rw [this]
    · rw [List.mem_singleton.mp z]
      exact mi.trans mj.symm
  · have fix : ∀ x, (0 ≤ x ∧ x < n) → ∃ x', (0 ≤ x' ∧ x' < n) ∧ cn Eq (E ++ [(i, j)]) x x' ∧ g x' = mgG g i j x := fun x x0 => by
      by_cases c : g x = g j
      · refine ⟨i, by omega, cn_trans (up (q3 x j x0 (by omega) c)) (cn_sym ed), ?_⟩
        unfold mgG
        rw [if_pos c]
      · refine ⟨x, x0, cn_rfl, ?_⟩
        unfold mgG
        rw [if_neg c]
    obtain ⟨x', a1, a2, a3⟩ := fix x x0
    obtain ⟨y', c1, c2, c3⟩ := fix y y0
    exact cn_trans a2 (cn_trans (up (q3 x' y' a1 c1 (by rw [a3, c3]; exact e))) (cn_sym c2))
  · rcases List.mem_append.mp he with z | z
    · exact q4 e z
    · rw [List.mem_singleton.mp z]
      exact ⟨⟨b0, by show i < n; omega⟩, ⟨by show 0 ≤ j; omega, b2⟩⟩
  · rw [wsum_app, q5]
    congr 1
    show w i j = w i j + 0
    omega
  · rw [dgP_app, dgP_1]
    show updI (updI dg i (dg i + 1)) j (dg j + 1) z = _
    rw [updI_at, updI_at, ← q6 z]
    by_cases c : z = j
    · rw [if_pos c, if_neg (by omega), if_pos c.symm, c]
      omega
    · rw [if_neg c]
      by_cases c2 : z = i
      · rw [if_pos c2, if_pos c2.symm, if_neg (by omega), c2]
        omega
      · rw [if_neg c2, if_neg (by omega), if_neg (by omega)]
        omega
theorem trR_I : ∀ {k : Nat} {g dg : Int → Int} {S : Int} {E : List (Int × Int)} {g' dg' : Int → Int} {S' : Int} {E' : List (Int × Int)}, (∀ x y, w x y = w y x) → trI w n g dg S E → trR w n k g dg S E (g', dg', S', E') → trI w n g' dg' S' E' ∧ rts g' n = rts g n - k ∧ ∃ F, E' = E ++ F ∧ grd (fun x => 0 ≤ x ∧ x < n) w (cn Eq E) F
  | 0, g, dg, S, E, g', dg', S', E', _, q, h => by
    have e : (g', dg', S', E') = (g, dg, S, E) := h
    cases e
    exact ⟨q, by omega, [], by rw [List.append_nil], True.intro⟩
  | k + 1, g, dg, S, E, g', dg', S', E', hw, q, ⟨i, j, hb, h⟩ => by
    have q' := trI_s q hb
    obtain ⟨a, b, F, c, d⟩ := trR_I hw q' h
    have hr := rts_m q.1.1 (i := i) (j := j) (by have := hb.1; omega) (by have := hb.1; omega) hb.2.1
    refine ⟨a, by omega, (i, j) :: F, by rw [c, List.append_assoc]; rfl, ⟨fun x => decide (g x = g i), fun x y hxy => ?_, ?_, ?_, ?_, fun x y x0 y0 hx hy => ?_⟩, ?_⟩
    · show decide (g x = g i) = decide (g y = g i)
      rw [q.1.2.1 x y hxy]
    · exact decide_eq_true rfl
    · exact decide_eq_false (fun z => hb.2.1 z.symm)
    · exact ⟨⟨hb.1.1, by show i < n; have := hb.1; omega⟩, ⟨by show 0 ≤ j; have := hb.1; omega, hb.1.2.2⟩⟩
    · have ex := of_decide_eq_true hx
      have ey := of_decide_eq_false hy
      have hne : g x ≠ g y := fun z => ey (z.symm.trans ex)
      show w i j ≤ w x y
      rcases (by have : x ≠ y := fun z => hne (by rw [z])
                 omega : x < y ∨ y < x) with c | c
      · have := hb.2.2 x y x0.1 c y0.2 hne
        omega
      · have := hb.2.2 y x y0.1 c x0.2 (fun z => hne z.symm)
        rw [hw x y]
        omega
    · have e : cn (cn Eq E) [(i, j)] = cn Eq (E ++ [(i, j)]) := by
        funext x y
        exact propext ⟨cn_cn, cn_split⟩
      rw [e]
      exact d
/-- the whole tree -/
theorem tree_ok {g' dg' : Int → Int} {S' : Int} {E' : List (Int × Int)} (hn : 1 ≤ n) (hw : ∀ x y, w x y = w y x) (h : trR w n (n - 1).toNat (fun k => k) (fun _ => 0) 0 [] (g', dg', S', E')) : grd (fun x => 0 ≤ x ∧ x < n) w Eq E' ∧ S' = wsum w E' ∧ (∀ z, dg' z = dgP z E') ∧ (∀ e ∈ E', (0 ≤ e.1 ∧ e.1 < n) ∧ (0 ≤ e.2 ∧ e.2 < n)) ∧ ∀ x y, (0 ≤ x ∧ x < n) → (0 ≤ y ∧ y < n) → cn Eq E' x y := by
  obtain ⟨⟨⟨a1, a2, a3⟩, a4, a5, a6⟩, b, F, c, d⟩ := trR_I hw trI_0 h
  rw [rts_id (by omega)] at b
  have e : cn Eq ([] : List (Int × Int)) = Eq := by
    funext x y
    exact propext ⟨fun z => cn_nil ⟨fun _ => rfl, fun _ _ => Eq.symm, fun _ _ _ => Eq.trans⟩ z, fun z => by rw [z]; exact cn_rfl⟩
  rw [e] at d
  rw [List.nil_append] at c
  refine ⟨by rw [c]; exact d, a5, a6, a4, fun x y x0 y0 => a3 x y x0 y0 ?_⟩
  by_cases z : g' x = g' y
  · exact z
  · have hx := a1 x x0.1 x0.2
    have hy := a1 y y0.1 y0.2
    have := rts_2 (g := g') (n := n) hx.1 hy.1 hx.2 hy.2 z
    omega
/-- looked through as far as a pair -/
def bsQ (w : Int → Int → Int) (n : Int) (g : Int → Int) (a b : Int) : Option (Int × Int) → Prop
  | none => ∀ x y, 0 ≤ x → x < y → y < n → (x < a ∨ (x = a ∧ y < b)) → g x = g y
  | some (i, j) => ((0 ≤ i ∧ i < j ∧ j < n) ∧ g i ≠ g j ∧ (i < a ∨ (i = a ∧ j < b))) ∧ ∀ x y, 0 ≤ x → x < y → y < n → (x < a ∨ (x = a ∧ y < b)) → g x ≠ g y → w i j < w x y ∨ (w i j = w x y ∧ (i < x ∨ (i = x ∧ j ≤ y)))
theorem bsQ_same {a b : Int} (e : g a = g b ∨ ¬ a < b) : ∀ {s : Option (Int × Int)}, bsQ w n g a b s → bsQ w n g a (b + 1) s
  | none, q => fun x y x0 xy yn hb => by
    by_cases c : x = a ∧ y = b
    · rcases e with e | e
      · rw [c.1, c.2]; exact e
      · omega
    · exact q x y x0 xy yn (by omega)
  | some (i, j), q => ⟨⟨q.1.1, q.1.2.1, by have := q.1.2.2; omega⟩, fun x y x0 xy yn hb hne => by
    by_cases c : x = a ∧ y = b
    · rcases e with e | e
      · rw [c.1, c.2] at hne; exact absurd e hne
      · omega
    · exact q.2 x y x0 xy yn (by omega) hne⟩
theorem bsQ_old {a b i j : Int} (q : bsQ w n g a b (some (i, j))) (hw : w i j ≤ w a b) : bsQ w n g a (b + 1) (some (i, j)) := ⟨⟨q.1.1, q.1.2.1, by have := q.1.2.2; omega⟩, fun x y x0 xy yn hb hne => by
  by_cases c : x = a ∧ y = b
  · rw [c.1, c.2]
    have := q.1.2.2
    omega
  · exact q.2 x y x0 xy yn (by omega) hne⟩
theorem bsQ_new {a b : Int} (h0 : 0 ≤ a ∧ a < b ∧ b < n) (hne : g a ≠ g b) : ∀ {s : Option (Int × Int)}, bsQ w n g a b s → (∀ i j, s = some (i, j) → w a b < w i j) → bsQ w n g a (b + 1) (some (a, b))
  | none, q, _ => ⟨⟨h0, hne, by omega⟩, fun x y x0 xy yn hb hxy => by
    by_cases c : x = a ∧ y = b
    · rw [c.1, c.2]; omega
    · exact absurd (q x y x0 xy yn (by omega)) hxy⟩
  | some (i, j), q, hs => ⟨⟨h0, hne, by omega⟩, fun x y x0 xy yn hb hxy => by
    have := hs i j rfl
    by_cases c : x = a ∧ y = b
    · rw [c.1, c.2]; omega
    · have := q.2 x y x0 xy yn (by omega) hxy
      omega⟩
theorem bsQ_row {a b a' b' : Int} (e : ∀ x y, 0 ≤ x → x < y → y < n → ((x < a ∨ (x = a ∧ y < b)) ↔ (x < a' ∨ (x = a' ∧ y < b')))) : ∀ {s : Option (Int × Int)}, bsQ w n g a b s → bsQ w n g a' b' s
  | none, q => fun x y x0 xy yn hb => q x y x0 xy yn ((e x y x0 xy yn).mpr hb)
  | some (i, j), q => ⟨⟨q.1.1, q.1.2.1, (e i j q.1.1.1 q.1.1.2.1 q.1.1.2.2).mp q.1.2.2⟩, fun x y x0 xy yn hb hne => q.2 x y x0 xy yn ((e x y x0 xy yn).mpr hb) hne⟩
theorem bsQ_end (hg : gOK g n) (h2 : 2 ≤ rts g n) : ∀ {s : Option (Int × Int)}, bsQ w n g n 0 s → ∃ i j, s = some (i, j) ∧ bsT w n g i j
  | none, q => by
    obtain ⟨x, y, ⟨x0, xy, yn⟩, hne⟩ := pair_ex hg h2
    exact absurd (q x y x0 xy yn (Or.inl (by omega))) hne
  | some (i, j), q => ⟨i, j, rfl, q.1.1, q.1.2.1, fun x y x0 xy yn hne => q.2 x y x0 xy yn (Or.inl (by omega)) hne⟩
end TREE
