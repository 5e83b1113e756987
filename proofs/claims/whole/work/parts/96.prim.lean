/-! ERRORS: the class' sum from the depot, and whether ways take the same both ways -/
section PRIM
variable {h h' m : HH} {K : Nat → Int → Int} {v n : Int} {w : Int → Int → Int} {L : List Int}
theorem c_same (hv : VAL m.1) (hn : 1 ≤ n ∧ n ≤ 10) (h53 : m.1 53 2 = n) (hF : ∀ i, 0 ≤ i → i < n → 0 ≤ m.1 54 i ∧ m.1 54 i ≤ 15) : Ok (nX10_isSameBothWays m) (fun r => (r = 0 ∨ r = 1) ∧ (r ≠ 0 → ∀ i j, 0 ≤ i → i < j → j < n → dK m.1 (m.1 54 i) (m.1 54 j) = dK m.1 (m.1 54 j) (m.1 54 i))) := by
  have inner : ∀ {c2 : Int → Option Int} {P : Int → Prop} {a : Int}, 0 ≤ a → a < n → P 0 → ((∀ j, a < j → j < n → dK m.1 (m.1 54 a) (m.1 54 j) = dK m.1 (m.1 54 j) (m.1 54 a)) → Ok (c2 (a + 1)) P) → ∀ (r N : Nat) (b : Int), r < N → b + r = n → a < b → (∀ j, a < j → j < b → dK m.1 (m.1 54 a) (m.1 54 j) = dK m.1 (m.1 54 j) (m.1 54 a)) → Ok (nX10_isSameBothWays_14 m c2 N a b) P := by
    intro c2 P a a0 a1 hP0 hk r
    induction r with
    | zero =>
      intro N b hN hb hab hj
      obtain ⟨M, rfl⟩ := fuel_s hN
      rw [nX10_isSameBothWays_14_s]
      simp only [bX10_isSameBothWays_14]
      refine ok_neg (by omega) ?_
      refine ok_gd (by omega) ?_
      exact hk (fun j j0 j1 => hj j j0 (by omega))
    | succ r ih =>
      intro N b hN hb hab hj
      obtain ⟨M, rfl⟩ := fuel_s hN
      have fa := hF a a0 a1
      have fb := hF b (by omega) (by omega)
      rw [nX10_isSameBothWays_14_s]
      simp only [bX10_isSameBothWays_14]
      refine ok_pos (by omega) ?_
      refine ok_gd (by omega) ?_
      refine ok_gd (by omega) ?_
      refine ok_be (sX9_minutesOf fa.1 fa.2 fb.1 fb.2) ?_
      by_cases c1 : dK m.1 (m.1 54 a) (m.1 54 b) = -1
      · refine ok_pos c1 ?_
        refine ok_gd (by decide) ?_
        exact ok_some hP0
      · refine ok_neg c1 ?_
        refine ok_gd (by omega) ?_
        refine ok_gd (by omega) ?_
        refine ok_be (sX9_minutesOf fb.1 fb.2 fa.1 fa.2) ?_
        by_cases c2 : dK m.1 (m.1 54 a) (m.1 54 b) = dK m.1 (m.1 54 b) (m.1 54 a)
        · refine ok_pos c2 ?_
          refine ok_gd (by omega) ?_
          refine ih M (b + 1) (by omega) (by omega) (by omega) (fun j j0 j1 => ?_)
          by_cases e : j = b
          · rw [e]; exact c2
          · exact hj j j0 (by omega)
        · refine ok_neg c2 ?_
          refine ok_gd (by decide) ?_
          exact ok_some hP0
  have key : ∀ (r N : Nat) (a : Int), r < N → a + r = n → 0 ≤ a → (∀ i j, 0 ≤ i → i < a → i < j → j < n → dK m.1 (m.1 54 i) (m.1 54 j) = dK m.1 (m.1 54 j) (m.1 54 i)) → Ok (nX10_isSameBothWays_2 m N a) (fun r => (r = 0 ∨ r = 1) ∧ (r ≠ 0 → ∀ i j, 0 ≤ i → i < j → j < n → dK m.1 (m.1 54 i) (m.1 54 j) = dK m.1 (m.1 54 j) (m.1 54 i))) := by
    intro r
    induction r with
    | zero =>
      intro N a hN ha a0 hj
      obtain ⟨M, rfl⟩ := fuel_s hN
      rw [nX10_isSameBothWays_2_s]
      simp only [bX10_isSameBothWays_2]
      refine ok_neg (by omega) ?_
      refine ok_gd (by decide) ?_
      exact ok_some ⟨Or.inr rfl, fun _ i j i0 ij jn => hj i j i0 (by omega) ij jn⟩
    | succ r ih =>
      intro N a hN ha a0 hj
      obtain ⟨M, rfl⟩ := fuel_s hN
      rw [nX10_isSameBothWays_2_s]
      simp only [bX10_isSameBothWays_2]
      refine ok_pos (by omega) ?_
      refine ok_gd (by omega) ?_
      refine inner a0 (by omega) ⟨Or.inl rfl, fun z => absurd rfl z⟩ (fun hq => ih M (a + 1) (by omega) (by omega) (by omega) (fun i j i0 i1 ij jn => ?_)) (n - (a + 1)).toNat 100000 (a + 1) (by omega) (by omega) (by omega) (fun j j0 j1 => by omega)
      by_cases e : i = a
      · rw [e] at ij ⊢; exact hq j ij jn
      · exact hj i j i0 (by omega) ij jn
  unfold nX10_isSameBothWays bX10_isSameBothWays
  exact key n.toNat 100000 0 (by omega) (by omega) (by omega) (fun i j i0 i1 => by omega)
/-- the least weight from what is reached -/
def ltQ (w : Int → Int → Int) (d : Int) (D : Int → Prop) (x : Int) : Prop := (x = 10000000 ∧ ∀ f, ¬ D f) ∨ ((0 ≤ x ∧ x ≤ 1800) ∧ (∃ f, D f ∧ w f d = x) ∧ ∀ f, D f → x ≤ w f d)
theorem c_lto {R : Nat} (hn : 1 ≤ n ∧ n ≤ 10) (h53 : m.1 53 2 = n) (hR : R < 1024) (hw : ∀ i j, (0 ≤ i ∧ i < n) → (0 ≤ j ∧ j < n) → nX10_weightOf m i j = some (w i j) ∧ (0 ≤ w i j ∧ w i j ≤ 1800)) {d : Int} (d0 : 0 ≤ d ∧ d < n) : Ok (nX10_leastTo m d (R : Int)) (ltQ w d (fun f => (0 ≤ f ∧ f < n) ∧ Nat.testBit R f.toNat = true)) := by
  have key : ∀ (r N k : Nat) (x qk : Int), qk = (k : Int) → r < N → (k : Int) + r = n → ltQ w d (fun f => (0 ≤ f ∧ f < k) ∧ Nat.testBit R f.toNat = true) x → Ok (nX10_leastTo_6 m N d (R : Int) x qk) (ltQ w d (fun f => (0 ≤ f ∧ f < n) ∧ Nat.testBit R f.toNat = true)) := by
    intro r
    induction r with
    | zero =>
      intro N k x qk hqk hN hk hl
      subst hqk
      obtain ⟨M, rfl⟩ := fuel_s hN
      rw [nX10_leastTo_6_s]
      simp only [bX10_leastTo_6]
      refine ok_neg (by omega) ?_
      exact ok_some (by rw [show n = (k : Int) by omega]; exact hl)
    | succ r ih =>
      intro N k x qk hqk hN hk hl
      subst hqk
      obtain ⟨M, rfl⟩ := fuel_s hN
      have ek : (k : Int) + 1 = ((k + 1 : Nat) : Int) := by omega
      rw [nX10_leastTo_6_s]
      simp only [bX10_leastTo_6, nX10_leastTo_37, bX10_leastTo_37]
      refine ok_pos (by omega) ?_
      rw [bitA (s := R) (i := k) hR (by omega)]
      by_cases cb : Nat.testBit R k = true
      · have ww := hw k d ⟨by omega, by omega⟩ d0
        rw [if_pos cb]
        refine ok_pos rfl ?_
        refine ok_be ww.1 ?_
        refine ok_gd (by omega) ?_
        rw [ek]
        refine ih M (k + 1) _ _ rfl (by omega) (by omega) ?_
        have new : ((0 : Int) ≤ (k : Int) ∧ (k : Int) < ((k + 1 : Nat) : Int)) ∧ Nat.testBit R ((k : Int)).toNat = true := ⟨by omega, by rw [Int.toNat_natCast]; exact cb⟩
        rcases hl with ⟨h1, h2⟩ | ⟨h1, ⟨f, h2, h3⟩, h4⟩
        · refine Or.inr ⟨by omega, ⟨k, new, by omega⟩, fun f hf => ?_⟩
          by_cases c : f = k
          · rw [c]; omega
          · exact absurd ⟨⟨hf.1.1, by omega⟩, hf.2⟩ (h2 f)
        · refine Or.inr ⟨by omega, ?_, fun f hf => ?_⟩
          · by_cases c : x ≤ w k d
            · exact ⟨f, ⟨⟨h2.1.1, by have := h2.1.2; omega⟩, h2.2⟩, by omega⟩
            · exact ⟨k, new, by omega⟩
          · by_cases c : f = k
            · rw [c]; omega
            · have := h4 f ⟨⟨hf.1.1, by omega⟩, hf.2⟩
              omega
      · rw [if_neg cb]
        refine ok_neg (by decide) ?_
        refine ok_gd (by omega) ?_
        rw [ek]
        refine ih M (k + 1) x _ rfl (by omega) (by omega) ?_
        have same : ∀ f, ((0 ≤ f ∧ f < ((k + 1 : Nat) : Int)) ∧ Nat.testBit R f.toNat = true) → (0 ≤ f ∧ f < (k : Int)) ∧ Nat.testBit R f.toNat = true := fun f hf => by
          refine ⟨⟨hf.1.1, ?_⟩, hf.2⟩
          by_cases c : f = k
          · rw [c, Int.toNat_natCast] at hf; exact absurd hf.2 cb
          · omega
        rcases hl with ⟨h1, h2⟩ | ⟨h1, ⟨f, h2, h3⟩, h4⟩
        · exact Or.inl ⟨h1, fun f hf => h2 f (same f hf)⟩
        · exact Or.inr ⟨h1, ⟨f, ⟨⟨h2.1.1, by have := h2.1.2; omega⟩, h2.2⟩, h3⟩, fun f hf => h4 f (same f hf)⟩
  unfold nX10_leastTo bX10_leastTo
  exact key n.toNat 100000 0 _ _ rfl (by omega) (by omega) (Or.inl ⟨rfl, fun f hf => by have := hf.1; omega⟩)
theorem cn_add {R j : Nat} (hj : j < 10) (hb : Nat.testBit R j = false) : cnN (R ||| 2 ^ j) 10 = cnN R 10 + 1 := by
  have hz : (j : Int) ∉ mem10 R := fun z => by
    have := (mem10_m.mp z).2
    rw [Int.toNat_natCast, hb] at this
    cases this
  have p : (mem10 (R ||| 2 ^ j)).Perm ((j : Int) :: mem10 R) := perm_nd mem10_nd (List.nodup_cons.mpr ⟨hz, mem10_nd⟩) (fun x => by
    rw [List.mem_cons, mem10_m, mem10_m, Nat.testBit_or, Nat.testBit_two_pow, Bool.or_eq_true, decide_eq_true_iff]
    constructor
    · rintro ⟨a, b | b⟩
      · exact Or.inr ⟨a, b⟩
      · exact Or.inl (by omega)
    · rintro (a | ⟨a, b⟩)
      · rw [a, Int.toNat_natCast]; exact ⟨by omega, Or.inr rfl⟩
      · exact ⟨a, Or.inl b⟩)
  rw [← mem10_cn, ← mem10_cn, p.length_eq]
  rfl
/-- what is found as the next door -/
def nxQ (w : Int → Int → Int) (R : Nat) (n k next x : Int) : Prop := (next = -1 ∧ x = 10000000 ∧ ∀ d, 1 ≤ d → d < k → Nat.testBit R d.toNat = true) ∨ (((1 ≤ next ∧ next < k) ∧ Nat.testBit R next.toNat = false ∧ (0 ≤ x ∧ x ≤ 1800)) ∧ (∃ f, ((0 ≤ f ∧ f < n) ∧ Nat.testBit R f.toNat = true) ∧ w f next = x) ∧ ∀ d, 1 ≤ d → d < k → Nat.testBit R d.toNat = false → ∀ f, (0 ≤ f ∧ f < n) → Nat.testBit R f.toNat = true → x ≤ w f d)
theorem cn_1 : cnN 1 10 = 1 := by decide
theorem c_prim (hn : 1 ≤ n ∧ n ≤ 10) (h53 : m.1 53 2 = n) (hs : ∀ x y, w x y = w y x) (hw : ∀ i j, (0 ≤ i ∧ i < n) → (0 ≤ j ∧ j < n) → nX10_weightOf m i j = some (w i j) ∧ (0 ≤ w i j ∧ w i j ≤ 1800)) : Ok (nX10_sumFromDepot m) (fun x => ∃ F, grd (fun x => 0 ≤ x ∧ x < n) w Eq F ∧ x = wsum w F ∧ ∀ x y, (0 ≤ x ∧ x < n) → (0 ≤ y ∧ y < n) → cn Eq F x y) := by
  have steps : ∀ (r N R : Nat) (S s qR : Int) (E : List (Int × Int)), qR = (R : Int) → r < N → s + r = n → 1 ≤ s → R < 1024 → Nat.testBit R 0 = true → (∀ j, j < 10 → Nat.testBit R j = true → (j : Int) < n) → (cnN R 10 : Int) = s → (∀ j : Int, 0 ≤ j → j < n → Nat.testBit R j.toNat = true → cn Eq E 0 j) → (∀ e ∈ E, (0 ≤ e.1 ∧ Nat.testBit R e.1.toNat = true) ∧ (0 ≤ e.2 ∧ Nat.testBit R e.2.toNat = true)) → (0 ≤ S ∧ S ≤ 1800 * s) → Ok (nX10_sumFromDepot_6 m N qR S s) (fun x => ∃ F, grd (fun x => 0 ≤ x ∧ x < n) w (cn Eq E) F ∧ x = S + wsum w F ∧ ∀ x y, (0 ≤ x ∧ x < n) → (0 ≤ y ∧ y < n) → cn Eq (E ++ F) x y) := by
    intro r
    induction r with
    | zero =>
      intro N R S s qR E hqR hN hsn s1 hR R0 Rn Rc hE0 hEe hS
      subst hqR
      obtain ⟨M, rfl⟩ := fuel_s hN
      rw [nX10_sumFromDepot_6_s]
      simp only [bX10_sumFromDepot_6]
      refine ok_neg (by omega) ?_
      have all : ∀ j : Int, 0 ≤ j → j < n → Nat.testBit R j.toNat = true := fun j j0 j1 => by
        cases z : Nat.testBit R j.toNat
        · exfalso
          have hz : j ∉ mem10 R := fun q => by
            have := (mem10_m.mp q).2
            rw [z] at this
            cases this
          have hnd : (j :: mem10 R).Nodup := List.nodup_cons.mpr ⟨hz, mem10_nd⟩
          have := nodup_len (m := n.toNat) hnd (fun x hx => by
            rcases List.mem_cons.mp hx with q | q
            · omega
            · have q2 := mem10_m.mp q
              have := Rn x.toNat (by omega) q2.2
              omega)
          rw [List.length_cons, mem10_cn] at this
          omega
        · rfl
      refine ok_some ⟨[], True.intro, by show S = S + 0; omega, fun x y x0 y0 => ?_⟩
      rw [List.append_nil]
      exact cn_trans (cn_sym (hE0 x x0.1 x0.2 (all x x0.1 x0.2))) (hE0 y y0.1 y0.2 (all y y0.1 y0.2))
    | succ r ih =>
      intro N R S s qR E hqR hN hsn s1 hR R0 Rn Rc hE0 hEe hS
      subst hqR
      obtain ⟨M, rfl⟩ := fuel_s hN
      have fin : ∀ next x, nxQ w R n n next x → Ok (if next = ((-1 : Int)) then nX10_sumFromDepot_96 m (nX10_sumFromDepot_6 m M) (R : Int) S s else gd (R32 (S + x)) (nX10_sumFromDepot_96 m (nX10_sumFromDepot_6 m M) (orI (R : Int) (shlI 1 next)) (S + x) s)) (fun x => ∃ F, grd (fun x => 0 ≤ x ∧ x < n) w (cn Eq E) F ∧ x = S + wsum w F ∧ ∀ x y, (0 ≤ x ∧ x < n) → (0 ≤ y ∧ y < n) → cn Eq (E ++ F) x y) := fun next x hx => by
        rcases hx with ⟨_, _, h3⟩ | ⟨⟨h1, h2, h3⟩, ⟨f, ⟨f0, fb⟩, f1⟩, h4⟩
        · exfalso
          -- all are reached, but they are too few
          have hl := sub_len (l := chL (fun _ => true) n.toNat) (l' := mem10 R) chL_nd (fun z hz => by
            have q := (chL_m.mp hz).1
            refine mem10_m.mpr ⟨by omega, ?_⟩
            by_cases c : z = 0
            · rw [c]; exact R0
            · exact h3 z (by omega) (by omega))
          have e : ∀ q : Nat, (chL (fun _ => true) q).length = q := fun q => by
            induction q with
            | zero => rfl
            | succ q ihq => rw [chL, if_pos rfl, List.length_append, ihq]; rfl
          rw [e, mem10_cn] at hl
          omega
        · obtain ⟨j, rfl⟩ : ∃ j : Nat, next = j := ⟨next.toNat, by omega⟩
          rw [Int.toNat_natCast] at h2
          refine ok_neg (by omega) ?_
          refine ok_gd (by omega) ?_
          simp only [nX10_sumFromDepot_96, bX10_sumFromDepot_96]
          refine ok_gd (by omega) ?_
          have pj := pow10 (show j < 11 by omega)
          have hlt : R ||| 2 ^ j < 2 ^ 10 := Nat.or_lt_two_pow (by omega) (Nat.pow_lt_pow_right (by omega) (by omega))
          have hbit : ∀ k, Nat.testBit (R ||| 2 ^ j) k = true ↔ Nat.testBit R k = true ∨ k = j := fun k => by
            rw [Nat.testBit_or, Nat.testBit_two_pow, Bool.or_eq_true, decide_eq_true_iff]
            exact ⟨fun z => z.imp id Eq.symm, fun z => z.imp id Eq.symm⟩
          rw [shlN (show j < 11 by omega), orN (by omega) (by omega)]
          have up : ∀ {x y}, cn Eq E x y → cn Eq (E ++ [(f, (j : Int))]) x y := fun h => cn_sub (fun e he => List.mem_append_left _ he) h
          have ed : cn Eq (E ++ [(f, (j : Int))]) f j := cn_e (e := (f, (j : Int))) (List.mem_append_right _ List.mem_cons_self)
          have hEe' : ∀ e ∈ E ++ [(f, (j : Int))], (0 ≤ e.1 ∧ Nat.testBit (R ||| 2 ^ j) e.1.toNat = true) ∧ (0 ≤ e.2 ∧ Nat.testBit (R ||| 2 ^ j) e.2.toNat = true) := fun e he => by
            rcases List.mem_append.mp he with z | z
            · have := hEe e z
              exact ⟨⟨this.1.1, (hbit _).mpr (Or.inl this.1.2)⟩, ⟨this.2.1, (hbit _).mpr (Or.inl this.2.2)⟩⟩
            · rw [List.mem_singleton.mp z]
              refine ⟨⟨f0.1, (hbit _).mpr (Or.inl fb)⟩, ⟨by show (0 : Int) ≤ (j : Int); omega, (hbit _).mpr (Or.inr ?_)⟩⟩
              show ((j : Int)).toNat = j
              rw [Int.toNat_natCast]
          refine ok_mono (ih M (R ||| 2 ^ j) (S + x) (s + 1) _ (E ++ [(f, (j : Int))]) rfl (by omega) (by omega) (by omega) (by omega) ((hbit 0).mpr (Or.inl R0)) (fun k hk hb => ?_) (by rw [cn_add (by omega) h2]; omega) (fun k k0 k1 hb => ?_) hEe' (by omega)) (fun y hy => ?_)
          · rcases (hbit k).mp hb with z | z
            · exact Rn k hk z
            · omega
          · rcases (hbit k.toNat).mp hb with z | z
            · exact up (hE0 k k0 k1 z)
            · rw [show k = (j : Int) by omega]
              exact cn_trans (up (hE0 f f0.1 f0.2 fb)) ed
          · obtain ⟨F, y1, y2, y3⟩ := hy
            have e : cn (cn Eq E) [(f, (j : Int))] = cn Eq (E ++ [(f, (j : Int))]) := by
              funext x y
              exact propext ⟨cn_cn, cn_split⟩
            refine ⟨(f, (j : Int)) :: F, ⟨⟨fun x => Nat.testBit R x.toNat && decide (0 ≤ x), fun x y hxy => ?_, ?_, ?_, ⟨f0, ⟨by omega, h1.2⟩⟩, fun x y x0 y0 hx hy => ?_⟩, by rw [e]; exact y1⟩, ?_, fun x y x0 y0 => ?_⟩
            · -- pairs of E hold just reached doors
              refine cn_le (T := fun x y => (Nat.testBit R x.toNat && decide (0 ≤ x)) = (Nat.testBit R y.toNat && decide (0 ≤ y))) ⟨fun _ => rfl, fun _ _ => Eq.symm, fun _ _ _ => Eq.trans⟩ (fun x y e => by rw [e]) (fun e he => ?_) hxy
              have z := hEe e he
              show (Nat.testBit R e.1.toNat && decide (0 ≤ e.1)) = (Nat.testBit R e.2.toNat && decide (0 ≤ e.2))
              rw [z.1.2, z.2.2, decide_eq_true z.1.1, decide_eq_true z.2.1]
            · show (Nat.testBit R f.toNat && decide (0 ≤ f)) = true
              rw [fb, decide_eq_true f0.1]; rfl
            · show (Nat.testBit R ((j : Int)).toNat && decide (0 ≤ (j : Int))) = false
              rw [Int.toNat_natCast, h2]; rfl
            · have hx' : (Nat.testBit R x.toNat && decide (0 ≤ x)) = true := hx
              have hy' : (Nat.testBit R y.toNat && decide (0 ≤ y)) = false := hy
              rw [Bool.and_eq_true] at hx'
              have hyb : Nat.testBit R y.toNat = false := by
                rw [decide_eq_true y0.1, Bool.and_true] at hy'
                exact hy'
              have y1' : 1 ≤ y := by
                by_cases c : y = 0
                · rw [c] at hyb
                  have : Nat.testBit R 0 = false := hyb
                  rw [R0] at this
                  cases this
                · have := y0.1; omega
              have := h4 y y1' y0.2 hyb x x0 hx'.1
              show w f j ≤ w x y
              omega
            · show y = S + (w f j + wsum w F)
              omega
            · have := y3 x y x0 y0
              rw [List.append_assoc] at this
              exact this
      have scan : ∀ (r N k : Nat) (next x qk : Int), qk = (k : Int) → r < N → (k : Int) + r = n → 1 ≤ k → nxQ w R n k next x → Ok (nX10_sumFromDepot_24 m (nX10_sumFromDepot_6 m M) N (R : Int) S s next x qk) (fun x => ∃ F, grd (fun x => 0 ≤ x ∧ x < n) w (cn Eq E) F ∧ x = S + wsum w F ∧ ∀ x y, (0 ≤ x ∧ x < n) → (0 ≤ y ∧ y < n) → cn Eq (E ++ F) x y) := by
        intro r
        induction r with
        | zero =>
          intro N k next x qk hqk hN hk k1 hx
          subst hqk
          obtain ⟨M2, rfl⟩ := fuel_s hN
          rw [nX10_sumFromDepot_24_s]
          simp only [bX10_sumFromDepot_24]
          refine ok_neg (by omega) ?_
          exact fin next x (by rw [show (k : Int) = n by omega] at hx; exact hx)
        | succ r ih2 =>
          intro N k next x qk hqk hN hk k1 hx
          subst hqk
          obtain ⟨M2, rfl⟩ := fuel_s hN
          have ek : (k : Int) + 1 = ((k + 1 : Nat) : Int) := by omega
          have e55 : ∀ y : Int, nX10_sumFromDepot_55 m (nX10_sumFromDepot_6 m M) (nX10_sumFromDepot_24 m (nX10_sumFromDepot_6 m M) M2) (R : Int) S s next x (k : Int) y = if y < x then gd (R32 ((k : Int) + 1)) (nX10_sumFromDepot_24 m (nX10_sumFromDepot_6 m M) M2 (R : Int) S s (k : Int) y ((k : Int) + 1)) else gd (R32 ((k : Int) + 1)) (nX10_sumFromDepot_24 m (nX10_sumFromDepot_6 m M) M2 (R : Int) S s next x ((k : Int) + 1)) := fun _ => rfl
          rw [nX10_sumFromDepot_24_s]
          simp only [bX10_sumFromDepot_24]
          refine ok_pos (by omega) ?_
          rw [bitA (s := R) (i := k) hR (by omega)]
          by_cases cb : Nat.testBit R k = true
          · rw [if_pos cb]
            refine ok_pos rfl ?_
            rw [e55]
            refine ok_neg (by rcases hx with z | z <;> omega) ?_
            refine ok_gd (by omega) ?_
            rw [ek]
            refine ih2 M2 (k + 1) next x _ rfl (by omega) (by omega) (by omega) ?_
            rcases hx with ⟨h1, h2, h3⟩ | ⟨h1, h2, h3⟩
            · refine Or.inl ⟨h1, h2, fun d d1 d2 => ?_⟩
              by_cases c : d = k
              · rw [c, Int.toNat_natCast]; exact cb
              · exact h3 d d1 (by omega)
            · refine Or.inr ⟨⟨by have := h1.1; omega, h1.2⟩, h2, fun d d1 d2 db => ?_⟩
              by_cases c : d = k
              · rw [c, Int.toNat_natCast, cb] at db; cases db
              · exact h3 d d1 (by omega) db
          · have cb' : Nat.testBit R k = false := by
              cases z : Nat.testBit R k
              · rfl
              · exact absurd z cb
            rw [if_neg cb]
            refine ok_neg (by decide) ?_
            refine ok_bnd (c_lto (m := m) hn h53 hR hw (d := (k : Int)) ⟨by omega, by omega⟩) (fun y hy => ?_)
            have hy2 : (0 ≤ y ∧ y ≤ 1800) ∧ (∃ f, ((0 ≤ f ∧ f < n) ∧ Nat.testBit R f.toNat = true) ∧ w f k = y) ∧ ∀ f, ((0 ≤ f ∧ f < n) ∧ Nat.testBit R f.toNat = true) → y ≤ w f k := by
              rcases hy with ⟨_, z⟩ | z
              · exact absurd ⟨⟨by omega, by omega⟩, R0⟩ (z 0)
              · exact z
            rw [e55]
            by_cases c : y < x
            · refine ok_pos c ?_
              refine ok_gd (by omega) ?_
              rw [ek]
              refine ih2 M2 (k + 1) k y _ rfl (by omega) (by omega) (by omega) (Or.inr ⟨⟨by omega, by rw [Int.toNat_natCast]; exact cb', hy2.1⟩, hy2.2.1, fun d d1 d2 db f f0 fb => ?_⟩)
              by_cases e : d = k
              · rw [e]; exact hy2.2.2 f ⟨f0, fb⟩
              · rcases hx with ⟨h1, h2, h3⟩ | ⟨h1, h2, h3⟩
                · rw [h3 d d1 (by omega)] at db; cases db
                · have := h3 d d1 (by omega) db f f0 fb
                  omega
            · refine ok_neg c ?_
              refine ok_gd (by omega) ?_
              rw [ek]
              refine ih2 M2 (k + 1) next x _ rfl (by omega) (by omega) (by omega) ?_
              rcases hx with ⟨h1, h2, h3⟩ | ⟨h1, h2, h3⟩
              · have := hy2.1
                omega
              · refine Or.inr ⟨⟨by have := h1.1; omega, h1.2⟩, h2, fun d d1 d2 db f f0 fb => ?_⟩
                by_cases e : d = k
                · rw [e]
                  have := hy2.2.2 f ⟨f0, fb⟩
                  omega
                · exact h3 d d1 (by omega) db f f0 fb
      rw [nX10_sumFromDepot_6_s]
      simp only [bX10_sumFromDepot_6]
      refine ok_pos (by omega) ?_
      exact scan (n - 1).toNat 100000 1 (-1) 10000000 1 rfl (by omega) (by omega) (by omega) (Or.inl ⟨rfl, rfl, fun d d1 d2 => by omega⟩)
  have e : cn Eq ([] : List (Int × Int)) = Eq := by
    funext x y
    exact propext ⟨fun z => cn_nil ⟨fun _ => rfl, fun _ _ => Eq.symm, fun _ _ _ => Eq.trans⟩ z, fun z => by rw [z]; exact cn_rfl⟩
  have b1 : ∀ j, Nat.testBit 1 j = true → j = 0 := fun j hj => by
    have := Nat.testBit_two_pow (n := 0) (m := j)
    rw [Nat.pow_zero, hj] at this
    have := (decide_eq_true_iff).mp this.symm
    omega
  unfold nX10_sumFromDepot bX10_sumFromDepot
  refine ok_mono (steps (n - 1).toNat 100000 1 0 1 1 [] rfl (by omega) (by omega) (by omega) (by omega) (by decide) (fun j _ hb => by have := b1 j hb; omega) (by rw [cn_1]; rfl) (fun j j0 j1 hb => by
    have := b1 _ hb
    rw [show j = 0 by omega]
    exact cn_rfl) (fun e he => absurd he List.not_mem_nil) (by omega)) (fun x hx => ?_)
  obtain ⟨F, h1, h2, h3⟩ := hx
  rw [e] at h1
  refine ⟨F, h1, by omega, fun x y x0 y0 => ?_⟩
  have := h3 x y x0 y0
  rw [List.nil_append] at this
  exact this
end PRIM
