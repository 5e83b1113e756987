/-! THE LEAST TREE, both sides -/
section TREEB
variable {h h' m : HH} {K : Nat → Int → Int} {v n : Int} {w : Int → Int → Int} {L : List Int}
abbrev sJL : Nat → Int → Prop := fun c _ => c = 55 ∨ c = 56
def sQ (w : Int → Int → Int) (x1 x2 x3 : Int) : Option (Int × Int) → Prop
  | none => x1 = 10000000 ∧ x2 = -1
  | some (i, j) => x1 = w i j ∧ x2 = i ∧ x3 = j
theorem c_merge {x1 x2 : Int} (hn : 1 ≤ n ∧ n ≤ 10) (h53 : m.1 53 2 = n) : Ok (nX10_merge x1 x2 m) (fun g => Fr (sA 55) m g ∧ ∀ k, 0 ≤ k → k < n → g.1 55 k = if m.1 55 k = x2 then x1 else m.1 55 k) := by
  have key : ∀ (r N : Nat) (i : Int) (g : HH), r < N → i + r = n → 0 ≤ i → Fr (sA 55) m g → (∀ k, 0 ≤ k → k < n → g.1 55 k = if k < i then (if m.1 55 k = x2 then x1 else m.1 55 k) else m.1 55 k) → Ok (nX10_merge_2 N x1 x2 i g) (fun g => Fr (sA 55) m g ∧ ∀ k, 0 ≤ k → k < n → g.1 55 k = if m.1 55 k = x2 then x1 else m.1 55 k) := by
    intro r
    induction r with
    | zero =>
      intro N i g hN hi i0 f hj
      obtain ⟨M, rfl⟩ := fuel_s hN
      have e53 : g.1 53 2 = n := by rw [f.2 53 2 (sA_n (by decide) _)]; exact h53
      rw [nX10_merge_2_s]
      simp only [bX10_merge_2]
      refine ok_neg (by omega) ?_
      exact ok_some ⟨f, fun k k0 k1 => by rw [hj k k0 k1, if_pos (by omega)]⟩
    | succ r ih =>
      intro N i g hN hi i0 f hj
      obtain ⟨M, rfl⟩ := fuel_s hN
      have e53 : g.1 53 2 = n := by rw [f.2 53 2 (sA_n (by decide) _)]; exact h53
      have ei := hj i i0 (by omega)
      rw [if_neg (by omega)] at ei
      rw [nX10_merge_2_s]
      simp only [bX10_merge_2, nX10_merge_27, bX10_merge_27]
      refine ok_pos (by omega) ?_
      refine ok_gd (by omega) ?_
      rw [ei]
      by_cases c : m.1 55 i = x2
      · refine ok_pos c ?_
        refine ok_gd (by omega) ?_
        refine ok_bs ?_
        refine ok_gd (by omega) ?_
        refine ih M (i + 1) _ (by omega) (by omega) (by omega) (fr_I f rfl) (fun k k0 k1 => ?_)
        rw [rI_s, updI_at]
        by_cases e : k = i
        · rw [if_pos e, e, if_pos (by omega), if_pos c]
        · rw [if_neg e, hj k k0 k1]
          by_cases e2 : k < i
          · rw [if_pos e2, if_pos (show k < i + 1 by omega)]
          · rw [if_neg e2, if_neg (show ¬ k < i + 1 by omega)]
      · refine ok_neg c ?_
        refine ok_gd (by omega) ?_
        refine ih M (i + 1) _ (by omega) (by omega) (by omega) f (fun k k0 k1 => ?_)
        rw [hj k k0 k1]
        by_cases e : k = i
        · rw [e, if_neg (by omega), if_pos (by omega), if_neg c]
        · by_cases e2 : k < i
          · rw [if_pos e2, if_pos (show k < i + 1 by omega)]
          · rw [if_neg e2, if_neg (show ¬ k < i + 1 by omega)]
  unfold nX10_merge bX10_merge
  exact key n.toNat 100000 0 m (by omega) (by omega) (by omega) fr_r (fun k k0 k1 => by rw [if_neg (by omega)])
theorem c_jl {g dg : Int → Int} (hn : 1 ≤ n ∧ n ≤ 10) (h53 : m.1 53 2 = n) (hw : ∀ i j, (0 ≤ i ∧ i < n) → (0 ≤ j ∧ j < n) → nX10_weightOf m i j = some (w i j) ∧ (0 ≤ w i j ∧ w i j ≤ 1800)) (e55 : ∀ k, 0 ≤ k → k < n → m.1 55 k = g k) (e56 : ∀ k, 0 ≤ k → k < n → m.1 56 k = dg k) (hg : gOK g n) (h2 : 2 ≤ rts g n) (hd : ∀ k, 0 ≤ dg k ∧ dg k ≤ 100) : Ok (nX10_joinLeast m) (fun r => ∃ i j, bsT w n g i j ∧ r.1 = w i j ∧ (∀ k, 0 ≤ k → k < n → r.2.1 55 k = mgG g i j k) ∧ (∀ k, 0 ≤ k → k < n → r.2.1 56 k = dgU dg i j k) ∧ Fr sJL m r.2) := by
  have inner : ∀ {c10 : Int → Int → Int → Int → HH → Option (Int × HH)} {P : Int × HH → Prop} {a : Int}, 0 ≤ a → a < n → (∀ x1 x2 x3 s, sQ w x1 x2 x3 s → bsQ w n g (a + 1) 0 s → Ok (c10 x1 x2 x3 (a + 1) m) P) → ∀ (r N : Nat) (x1 x2 x3 b : Int) (s : Option (Int × Int)), r < N → b + r = n → a < b → sQ w x1 x2 x3 s → bsQ w n g a b s → Ok (nX10_joinLeast_25 c10 N x1 x2 x3 a b m) P := by
    intro c10 P a a0 a1 hk r
    induction r with
    | zero =>
      intro N x1 x2 x3 b s hN hb hab hs hq
      obtain ⟨M, rfl⟩ := fuel_s hN
      rw [nX10_joinLeast_25_s]
      simp only [bX10_joinLeast_25]
      refine ok_neg (by omega) ?_
      refine ok_gd (by omega) ?_
      exact hk x1 x2 x3 s hs (bsQ_row (fun x y x0 xy yn => by omega) hq)
    | succ r ih =>
      intro N x1 x2 x3 b s hN hb hab hs hq
      obtain ⟨M, rfl⟩ := fuel_s hN
      have ew := hw a b ⟨a0, a1⟩ ⟨by omega, by omega⟩
      rw [nX10_joinLeast_25_s]
      simp only [bX10_joinLeast_25, nX10_joinLeast_78, bX10_joinLeast_78]
      have nx : ∀ x1 x2 x3 s, sQ w x1 x2 x3 s → bsQ w n g a (b + 1) s → Ok (gd (R32 (b + 1)) (nX10_joinLeast_25 c10 M x1 x2 x3 a (b + 1) m)) P := fun x1 x2 x3 s hs hq => by
        refine ok_gd (by omega) ?_
        exact ih M x1 x2 x3 (b + 1) s (by omega) (by omega) (by omega) hs hq
      refine ok_pos (by omega) ?_
      refine ok_gd (by omega) ?_
      refine ok_gd (by omega) ?_
      rw [e55 a a0 a1, e55 b (by omega) (by omega)]
      by_cases c : g a = g b
      · refine ok_pos c ?_
        exact nx x1 x2 x3 s hs (bsQ_same (Or.inl c) hq)
      · refine ok_neg c ?_
        refine ok_be ew.1 ?_
        by_cases c2 : w a b < x1
        · refine ok_pos c2 ?_
          refine ok_be ew.1 ?_
          exact nx _ a b (some (a, b)) ⟨rfl, rfl, rfl⟩ (bsQ_new ⟨a0, hab, by omega⟩ c hq (fun i j e => by
            rw [e] at hs
            have := hs.1
            omega))
        · refine ok_neg c2 ?_
          cases s with
          | none => have := hs.1; omega
          | some p =>
            obtain ⟨i, j⟩ := p
            exact nx x1 x2 x3 (some (i, j)) hs (bsQ_old hq (by have := hs.1; omega))
  have key : ∀ (r N : Nat) (x1 x2 x3 a : Int) (s : Option (Int × Int)), r < N → a + r = n → 0 ≤ a → sQ w x1 x2 x3 s → bsQ w n g a 0 s → Ok (nX10_joinLeast_10 N x1 x2 x3 a m) (fun r => ∃ i j, bsT w n g i j ∧ r.1 = w i j ∧ (∀ k, 0 ≤ k → k < n → r.2.1 55 k = mgG g i j k) ∧ (∀ k, 0 ≤ k → k < n → r.2.1 56 k = dgU dg i j k) ∧ Fr sJL m r.2) := by
    intro r
    induction r with
    | zero =>
      intro N x1 x2 x3 a s hN ha a0 hs hq
      obtain ⟨M, rfl⟩ := fuel_s hN
      rw [show a = n by omega] at hq
      obtain ⟨i, j, es, hb⟩ := bsQ_end hg h2 hq
      rw [es] at hs
      obtain ⟨s1, s2, s3⟩ := hs
      have hb0 := hb.1
      have hdi := hd i
      have hdj := hd j
      rw [nX10_joinLeast_10_s]
      simp only [bX10_joinLeast_10]
      rw [s2, s3]
      refine ok_neg (by omega) ?_
      refine ok_neg (by omega) ?_
      refine ok_gd (by omega) ?_
      rw [e56 i (by omega) (by omega)]
      refine ok_gd (by omega) ?_
      refine ok_gd (by omega) ?_
      refine ok_bs ?_
      refine ok_gd (by omega) ?_
      have ej : (hI m 56 i (dg i + 1)).1 56 j = dg j := by rw [rI_s, updI_n (by omega)]; exact e56 j (by omega) (by omega)
      rw [ej]
      refine ok_gd (by omega) ?_
      refine ok_gd (by omega) ?_
      refine ok_bs ?_
      refine ok_gd (by omega) ?_
      refine ok_gd (by omega) ?_
      have f2 : Fr (sA 56) m (hI (hI m 56 i (dg i + 1)) 56 j (dg j + 1)) := fr_I (fr_I fr_r rfl) rfl
      have e56' : ∀ k, 0 ≤ k → k < n → (hI (hI m 56 i (dg i + 1)) 56 j (dg j + 1)).1 56 k = dgU dg i j k := fun k k0 k1 => by
        rw [rI_s, rI_s]
        show updI (updI (m.1 56) i (dg i + 1)) j (dg j + 1) k = updI (updI dg i (dg i + 1)) j (dg j + 1) k
        rw [updI_at, updI_at, updI_at, updI_at, e56 k k0 k1]
      generalize hI (hI m 56 i (dg i + 1)) 56 j (dg j + 1) = m2 at *
      have e55' : ∀ k, 0 ≤ k → k < n → m2.1 55 k = g k := fun k k0 k1 => by rw [f2.2 55 _ (sA_n (by decide) _)]; exact e55 k k0 k1
      rw [e55' i (by omega) (by omega), e55' j (by omega) (by omega)]
      refine ok_bnd (c_merge (m := m2) hn (by rw [f2.2 53 _ (sA_n (by decide) _)]; exact h53)) (fun m3 h3 => ?_)
      refine ok_some ⟨i, j, hb, s1, fun k k0 k1 => ?_, fun k k0 k1 => ?_, fr_t (fr_m (fun c i s => Or.inr s) f2) (fr_m (fun c i s => Or.inl s) h3.1)⟩
      · rw [h3.2 k k0 k1, e55' k k0 k1]; rfl
      · rw [h3.1.2 56 _ (sA_n (by decide) _)]; exact e56' k k0 k1
    | succ r ih =>
      intro N x1 x2 x3 a s hN ha a0 hs hq
      obtain ⟨M, rfl⟩ := fuel_s hN
      rw [nX10_joinLeast_10_s]
      simp only [bX10_joinLeast_10]
      refine ok_pos (by omega) ?_
      refine ok_gd (by omega) ?_
      refine inner a0 (by omega) (fun x1 x2 x3 s hs hq => ih M x1 x2 x3 (a + 1) s (by omega) (by omega) (by omega) hs hq) (n - (a + 1)).toNat 100000 x1 x2 x3 (a + 1) s (by omega) (by omega) (by omega) hs (bsQ_row (fun x y x0 xy yn => by omega) hq)
  unfold nX10_joinLeast bX10_joinLeast
  exact key n.toNat 100000 _ _ _ 0 none (by omega) (by omega) (by omega) ⟨rfl, rfl⟩ (fun x y x0 xy yn hb => by omega)
abbrev sGr : Nat → Int → Prop := fun c i => sGd c i ∨ sJL c i
theorem sGr_sc {g : HH} (f : Fr sGr h g) : Fr scC h g := fr_m (fun c i s => by dsimp only [sGr, sGd, sJL] at s; unfold scC; omega) f
/-- what a grown tree is -/
def TREE (K : Nat → Int → Int) (L : List Int) (S : Int) (dg : Int → Int) : Prop := ∃ g' E', trR (wD K L) (nD K L) (nD K L - 1).toNat (fun k => k) (fun _ => 0) 0 [] (g', dg, S, E')
theorem TREE_u {S S' : Int} {dg dg' : Int → Int} (a : TREE K L S dg) (b : TREE K L S' dg') : S = S' ∧ dg = dg' := by
  obtain ⟨g, E, a⟩ := a
  obtain ⟨g', E', b⟩ := b
  have e := trR_u a b
  cases e
  exact ⟨rfl, rfl⟩
theorem c_grow (hv : VAL h.1) {c : Nat} (ha : A9 c) (hc : 28 ≤ c ∧ c ≤ 30) {len : Int} (hl : 0 ≤ len ∧ len ≤ 9) (eL : rowL (h.1 c) 0 len.toNat = L) (hin : inR h.1 L) (hC : CON h.1 L) : Ok (nX10_grow c len h) (fun r => Fr sGr h r.2 ∧ (r.2.1 53 2 = nD h.1 L ∧ ∀ i, 0 ≤ i → i < nD h.1 L → r.2.1 54 i = drF h.1 L i) ∧ ∃ dg, TREE h.1 L r.1 dg ∧ ∀ k, 0 ≤ k → k < nD h.1 L → r.2.1 56 k = dg k) := by
  have hn := v_n hv
  have L9 : L.length ≤ 9 := by rw [← eL, rowL_len]; omega
  have nb := nD_b (K := h.1) L9
  unfold nX10_grow bX10_grow
  refine ok_bnd (c_gather ha (by omega) hl (by rw [eL]; exact hin) hn.1.2) (fun g1 hg1 => ?_)
  obtain ⟨f1, ci⟩ := hg1
  rw [eL] at ci
  obtain ⟨en, ed⟩ := chI_F ci
  rw [en] at ed
  generalize hnn : nD h.1 L = n at *
  -- weights everywhere behind
  have hw : ∀ m', Fr sGr h m' → m'.1 54 = g1.1 54 → ∀ i j, (0 ≤ i ∧ i < n) → (0 ≤ j ∧ j < n) → nX10_weightOf m' i j = some (wD h.1 L i j) ∧ (0 ≤ wD h.1 L i j ∧ wD h.1 L i j ≤ 1800) := fun m' f' e54 i j i0 j0 => by
    have fs := sGr_sc f'
    have e7 : m'.1 7 = h.1 7 := sc_c fs 7 (by unfold scC; omega)
    have e14 : m'.1 14 = h.1 14 := sc_c fs 14 (by unfold scC; omega)
    have edr : drL m'.1 L = drL h.1 L := by unfold drL Qd; rw [e14]
    have eF : ∀ i, drF m'.1 L i = drF h.1 L i := fun i => by unfold drF; rw [edr]
    have eN : nD m'.1 L = n := by rw [← hnn]; unfold nD; rw [edr]
    have eD : ∀ a b, dK m'.1 a b = dK h.1 a b := fun a b => by unfold dK; rw [e7]
    have hC' : CON m'.1 L := fun a ha b hb => by rw [eD]; rw [edr] at ha hb; exact hC a ha b hb
    have eW : wD m'.1 L i j = wD h.1 L i j := by unfold wD; rw [eF, eF, eD, eD]
    have z := c_weight (sc_VAL fs hv) hC' (fun i i0 i1 => by rw [e54, eF]; exact ed i i0 (by omega)) L9 (i := i) (j := j) (by omega) (by omega)
    rw [eW] at z
    exact ⟨z, wD_b hv hC (by omega) (by omega)⟩
  have fG : Fr sGr h g1 := fr_m (fun c i s => Or.inl s) f1
  -- steps
  have steps : ∀ (r N : Nat) (s S : Int) (g dg : Int → Int) (E : List (Int × Int)) (m : HH), r < N → s + r = n → 1 ≤ s → Fr sGr h m → m.1 54 = g1.1 54 → m.1 53 2 = n → (∀ k, 0 ≤ k → k < n → m.1 55 k = g k) → (∀ k, 0 ≤ k → k < n → m.1 56 k = dg k) → gOK g n → rts g n = n - (s - 1) → (∀ k, 0 ≤ dg k ∧ dg k ≤ s) → (0 ≤ S ∧ S ≤ 1800 * s) → Ok (nX10_grow_48 N S s m) (fun r' => ∃ g' dg' E', trR (wD h.1 L) n r g dg S E (g', dg', r'.1, E') ∧ (∀ k, 0 ≤ k → k < n → r'.2.1 56 k = dg' k) ∧ Fr sGr h r'.2 ∧ r'.2.1 54 = g1.1 54 ∧ r'.2.1 53 2 = n) := by
    intro r
    induction r with
    | zero =>
      intro N s S g dg E m hN hs s1 f e54 e53 e55 e56 hg hr hd hS
      obtain ⟨M, rfl⟩ := fuel_s hN
      rw [nX10_grow_48_s]
      simp only [bX10_grow_48]
      refine ok_neg (by omega) ?_
      exact ok_some ⟨g, dg, E, rfl, e56, f, e54, e53⟩
    | succ r ih =>
      intro N s S g dg E m hN hs s1 f e54 e53 e55 e56 hg hr hd hS
      obtain ⟨M, rfl⟩ := fuel_s hN
      rw [nX10_grow_48_s]
      simp only [bX10_grow_48]
      refine ok_pos (by omega) ?_
      refine ok_bnd (c_jl (w := wD h.1 L) (g := g) (dg := dg) nb e53 (hw m f e54) e55 e56 hg (by omega) (fun k => by have := hd k; omega)) (fun x hx => ?_)
      obtain ⟨i, j, hb, x1, x55, x56, fx⟩ := hx
      have hb0 := hb.1
      have hwb := (hw m f e54 i j (by omega) (by omega)).2
      rw [x1]
      refine ok_gd (by omega) ?_
      refine ok_gd (by omega) ?_
      refine ok_mono (ih M (s + 1) (S + wD h.1 L i j) (mgG g i j) (dgU dg i j) (E ++ [(i, j)]) x.2 (by omega) (by omega) (by omega) (fr_t f (fr_m (fun c i s => Or.inr s) fx)) (by rw [fr_c fx 54 (fun i s => by dsimp only [sJL] at s; omega)]; exact e54) (by rw [fx.2 53 2 (by dsimp only [sJL]; omega)]; exact e53) x55 x56 (gOK_m hg (by omega) (by omega) hb.2.1) (by rw [rts_m hg (by omega) (by omega) hb.2.1]; omega) (fun k => ?_) (by omega)) (fun y hy => ?_)
      · have := hd k
        have := hd i
        have := hd j
        show 0 ≤ updI (updI dg i (dg i + 1)) j (dg j + 1) k ∧ updI (updI dg i (dg i + 1)) j (dg j + 1) k ≤ s + 1
        rw [updI_at, updI_at]
        split
        · omega
        · split <;> omega
      · obtain ⟨g', dg', E', y1, y2⟩ := hy
        exact ⟨g', dg', E', ⟨i, j, hb, y1⟩, y2⟩
  have key : ∀ (r N : Nat) (k : Int) (m : HH), r < N → k + r = n → 0 ≤ k → Fr sJL g1 m → (∀ j, 0 ≤ j → j < k → m.1 55 j = j ∧ m.1 56 j = 0) → Ok (nX10_grow_10 N k m) (fun r => Fr sGr h r.2 ∧ (r.2.1 53 2 = n ∧ ∀ i, 0 ≤ i → i < n → r.2.1 54 i = drF h.1 L i) ∧ ∃ dg, TREE h.1 L r.1 dg ∧ ∀ k, 0 ≤ k → k < n → r.2.1 56 k = dg k) := by
    intro r
    induction r with
    | zero =>
      intro N k m hN hk k0 f hj
      obtain ⟨M, rfl⟩ := fuel_s hN
      have e54 : m.1 54 = g1.1 54 := fr_c f 54 (fun i s => by dsimp only [sJL] at s; omega)
      have e53 : m.1 53 2 = n := by rw [f.2 53 2 (by dsimp only [sJL]; omega)]; exact en
      rw [nX10_grow_10_s]
      simp only [bX10_grow_10]
      refine ok_neg (by omega) ?_
      refine ok_mono (steps (n - 1).toNat 100000 1 0 (fun k => k) (fun _ => 0) [] m (by omega) (by omega) (by omega) (fr_t fG (fr_m (fun c i s => Or.inr s) f)) e54 e53 (fun k k0 k1 => (hj k k0 (by omega)).1) (fun k k0 k1 => (hj k k0 (by omega)).2) (fun k k0 k1 => ⟨⟨k0, k1⟩, rfl⟩) (by rw [rts_id (by omega)]; omega) (fun k => by omega) (by omega)) (fun x hx => ?_)
      obtain ⟨g', dg', E', y1, y2, y3, y4, y5⟩ := hx
      refine ⟨y3, ⟨y5, fun i i0 i1 => by rw [y4]; exact ed i i0 i1⟩, dg', ⟨g', E', ?_⟩, y2⟩
      rw [hnn]
      exact y1
    | succ r ih =>
      intro N k m hN hk k0 f hj
      obtain ⟨M, rfl⟩ := fuel_s hN
      have e53 : m.1 53 2 = n := by rw [f.2 53 2 (by dsimp only [sJL]; omega)]; exact en
      rw [nX10_grow_10_s]
      simp only [bX10_grow_10]
      refine ok_pos (by omega) ?_
      refine ok_gd (by omega) ?_
      refine ok_bs ?_
      refine ok_gd (by omega) ?_
      refine ok_bs ?_
      refine ok_gd (by omega) ?_
      refine ih M (k + 1) _ (by omega) (by omega) (by omega) (fr_I (fr_I f (Or.inl rfl)) (Or.inr rfl)) (fun j j0 j1 => ?_)
      rw [rI_n (by decide), rI_s, rI_s, rI_n (by decide), updI_at, updI_at]
      by_cases c : j = k
      · rw [if_pos c, if_pos c]; exact ⟨c.symm, rfl⟩
      · rw [if_neg c, if_neg c]; exact hj j j0 (by omega)
  exact key n.toNat 100000 0 g1 (by omega) (by omega) (by omega) fr_r (fun j j0 j1 => by omega)
/-! the model -/
abbrev sJM : Nat → Int → Prop := fun c i => (c = 115 ∨ c = 116) ∨ (c = 71 ∧ i = 73)
abbrev sTM : Nat → Int → Prop := fun c i => sGm c i ∨ sJM c i
theorem sTM_sc {g : HH} (f : Fr sTM m g) : Fr scM m g := fr_m (fun c i s => by dsimp only [sTM, sGm, sJM] at s; unfold scM; omega) f
theorem m_199 {c42 : Int → HH → Option HH} {P : HH → Prop} {g : Int → Int} {i j s : Int} (hn : 1 ≤ n ∧ n ≤ 10) (hs : 0 ≤ s ∧ s < n) (i0 : 0 ≤ i ∧ i < n) (hne : g i ≠ g j) {g0 : HH} (h72 : g0.1 71 72 = n) (e115 : ∀ k, 0 ≤ k → k < n → g0.1 115 k = g k) (hk : ∀ g', Fr (sA 115) g0 g' → (∀ k, 0 ≤ k → k < n → g'.1 115 k = mgG g i j k) → Ok (c42 (s + 1) g') P) : ∀ (r N : Nat) (x : Int) (m : HH), r < N → x + r = n → 0 ≤ x → Fr (sA 115) g0 m → (∀ k, 0 ≤ k → k < n → m.1 115 k = if k < x then mgG g i j k else g k) → Ok (nX12_laysTree_199 c42 N s i (g j) x m) P := by
  have mi : mgG g i j i = g i := by unfold mgG; rw [if_neg hne]
  intro r
  induction r with
  | zero =>
    intro N x m hN hx x0 f hj
    obtain ⟨M, rfl⟩ := fuel_s hN
    have e72 : m.1 71 72 = n := by rw [f.2 71 72 (sA_n (by decide) _)]; exact h72
    rw [nX12_laysTree_199_s]
    simp only [bX12_laysTree_199]
    refine ok_neg (by omega) ?_
    refine ok_gd (by omega) ?_
    exact hk m f (fun k k0 k1 => by rw [hj k k0 k1, if_pos (by omega)])
  | succ r ih =>
    intro N x m hN hx x0 f hj
    obtain ⟨M, rfl⟩ := fuel_s hN
    have e72 : m.1 71 72 = n := by rw [f.2 71 72 (sA_n (by decide) _)]; exact h72
    have ex := hj x x0 (by omega)
    rw [if_neg (by omega)] at ex
    have ei : m.1 115 i = g i := by rw [hj i i0.1 i0.2]; split; exact mi; rfl
    have nx : ∀ y, y = mgG g i j x → Ok (nX12_laysTree_242 c42 (nX12_laysTree_199 c42 M) s i (g j) x y x m) P := fun y hy => by
      simp only [nX12_laysTree_242, bX12_laysTree_242]
      refine ok_gd (by omega) ?_
      refine ok_bs ?_
      refine ok_gd (by omega) ?_
      refine ih M (x + 1) _ (by omega) (by omega) (by omega) (fr_I f rfl) (fun k k0 k1 => ?_)
      rw [rI_s, updI_at]
      by_cases e : k = x
      · rw [if_pos e, if_pos (by omega), hy, e]
      · rw [if_neg e, hj k k0 k1]
        by_cases e2 : k < x
        · rw [if_pos e2, if_pos (by omega)]
        · rw [if_neg e2, if_neg (by omega)]
    rw [nX12_laysTree_199_s]
    simp only [bX12_laysTree_199]
    refine ok_pos (by omega) ?_
    refine ok_gd (by omega) ?_
    rw [ex, ei]
    by_cases c : g x = g j
    · refine ok_pos c ?_
      refine ok_gd (by omega) ?_
      exact nx _ (by unfold mgG; rw [if_pos c])
    · refine ok_neg c ?_
      refine ok_gd (by omega) ?_
      exact nx _ (by unfold mgG; rw [if_neg c])
def sQm (x3 x4 : Int) : Option (Int × Int) → Prop
  | none => x3 = -1
  | some (i, j) => x3 = i ∧ x4 = j
theorem m_58 {c42 : Int → HH → Option HH} {P : HH → Prop} {g dg : Int → Int} {s S : Int} (hn : 1 ≤ n ∧ n ≤ 10) (hs : 0 ≤ s ∧ s < n) (h72 : m.1 71 72 = n) (h73 : m.1 71 73 = S) (hS : 0 ≤ S ∧ S ≤ 100000) (hw : ∀ m', Fr sJM m m' → ∀ i j, (0 ≤ i ∧ i < n) → (0 ≤ j ∧ j < n) → nX12_weight m' i j = some (w i j) ∧ (0 ≤ w i j ∧ w i j ≤ 1800)) (e115 : ∀ k, 0 ≤ k → k < n → m.1 115 k = g k) (e116 : ∀ k, 0 ≤ k → k < n → m.1 116 k = dg k) (hg : gOK g n) (h2 : 2 ≤ rts g n) (hd : ∀ k, 0 ≤ dg k ∧ dg k ≤ 100) (hk : ∀ g' i j, bsT w n g i j → Fr sJM m g' → g'.1 71 73 = S + w i j → (∀ k, 0 ≤ k → k < n → g'.1 115 k = mgG g i j k) → (∀ k, 0 ≤ k → k < n → g'.1 116 k = dgU dg i j k) → Ok (c42 (s + 1) g') P) : ∀ (r N : Nat) (k a b x3 x4 : Int) (t : Option (Int × Int)), r < N → k + r = n * n → k = a * n + b → (0 ≤ a ∧ a ≤ n) → (0 ≤ b ∧ b < n) → sQm x3 x4 t → bsQ w n g a b t → Ok (nX12_laysTree_58 c42 N s x3 x4 k m) P := by
  have hnn : 0 ≤ n * n ∧ n * n ≤ 10 * 10 := mul_b ⟨by omega, hn.2⟩ ⟨by omega, hn.2⟩
  intro r
  induction r with
  | zero =>
    intro N k a b x3 x4 t hN hkr hka a0 b0 ht hq
    obtain ⟨M, rfl⟩ := fuel_s hN
    have ea : a = n := by
      by_cases c : a = n
      · exact c
      · have : (a + 1) * n ≤ n * n := Int.mul_le_mul_of_nonneg_right (by omega) (by omega)
        rw [Int.add_mul, Int.one_mul] at this
        omega
    have eb : b = 0 := by rw [ea] at hka; omega
    rw [ea, eb] at hq
    obtain ⟨i, j, es, hb⟩ := bsQ_end hg h2 hq
    rw [es] at ht
    obtain ⟨t1, t2⟩ := ht
    have hb0 := hb.1
    have hdi := hd i
    have hdj := hd j
    have ew := hw m fr_r i j (by omega) (by omega)
    rw [nX12_laysTree_58_s]
    simp only [bX12_laysTree_58]
    rw [h72, t1, t2]
    refine ok_gd (by omega) ?_
    refine ok_neg (by omega) ?_
    refine ok_be ew.1 ?_
    rw [h73]
    refine ok_gd (by omega) ?_
    refine ok_bs ?_
    refine ok_gd (by omega) ?_
    have ei : (hI m 71 73 (S + w i j)).1 116 i = dg i := by rw [rI_n (by decide)]; exact e116 i (by omega) (by omega)
    rw [ei]
    refine ok_gd (by omega) ?_
    refine ok_gd (by omega) ?_
    refine ok_bs ?_
    refine ok_gd (by omega) ?_
    have ej : (hI (hI m 71 73 (S + w i j)) 116 i (dg i + 1)).1 116 j = dg j := by rw [rI_s, updI_n (by omega), rI_n (by decide)]; exact e116 j (by omega) (by omega)
    rw [ej]
    refine ok_gd (by omega) ?_
    refine ok_gd (by omega) ?_
    refine ok_bs ?_
    refine ok_gd (by omega) ?_
    have f2 : Fr sJM m (hI (hI (hI m 71 73 (S + w i j)) 116 i (dg i + 1)) 116 j (dg j + 1)) := fr_I (fr_I (fr_I fr_r (Or.inr ⟨rfl, rfl⟩)) (Or.inl (Or.inr rfl))) (Or.inl (Or.inr rfl))
    have e116' : ∀ k, 0 ≤ k → k < n → (hI (hI (hI m 71 73 (S + w i j)) 116 i (dg i + 1)) 116 j (dg j + 1)).1 116 k = dgU dg i j k := fun k k0 k1 => by
      rw [rI_s, rI_s, rI_n (by decide)]
      show updI (updI (m.1 116) i (dg i + 1)) j (dg j + 1) k = updI (updI dg i (dg i + 1)) j (dg j + 1) k
      rw [updI_at, updI_at, updI_at, updI_at, e116 k k0 k1]
    have e115' : ∀ k, 0 ≤ k → k < n → (hI (hI (hI m 71 73 (S + w i j)) 116 i (dg i + 1)) 116 j (dg j + 1)).1 115 k = g k := fun k k0 k1 => by
      rw [rI_n (by decide), rI_n (by decide), rI_n (by decide)]; exact e115 k k0 k1
    have e72' : (hI (hI (hI m 71 73 (S + w i j)) 116 i (dg i + 1)) 116 j (dg j + 1)).1 71 72 = n := by rw [rI_n (by decide), rI_n (by decide), rI_s, updI_n (by decide)]; exact h72
    have e73' : (hI (hI (hI m 71 73 (S + w i j)) 116 i (dg i + 1)) 116 j (dg j + 1)).1 71 73 = S + w i j := by rw [rI_n (by decide), rI_n (by decide), rI_s, updI_s]
    generalize hI (hI (hI m 71 73 (S + w i j)) 116 i (dg i + 1)) 116 j (dg j + 1) = m2 at *
    rw [e115' j (by omega) (by omega)]
    refine m_199 (g := g) (i := i) (j := j) hn hs (by omega) hb.2.1 e72' e115' (fun g' f' e' => ?_) n.toNat 100000 0 m2 (by omega) (by omega) (by omega) fr_r (fun k k0 k1 => by rw [if_neg (by omega)]; exact e115' k k0 k1)
    exact hk g' i j hb (fr_t f2 (fr_m (fun c i s => Or.inl (Or.inl s)) f')) (by rw [f'.2 71 73 (sA_n (by decide) _)]; exact e73') e' (fun k k0 k1 => by rw [f'.2 116 _ (sA_n (by decide) _)]; exact e116' k k0 k1)
  | succ r ih =>
    intro N k a b x3 x4 t hN hkr hka a0 b0 ht hq
    obtain ⟨M, rfl⟩ := fuel_s hN
    have an : a < n := by
      by_cases c : a = n
      · rw [c] at hka; omega
      · omega
    have k0 : 0 ≤ k := by
      have := Int.mul_nonneg a0.1 (show 0 ≤ n by omega)
      omega
    have u := (Int.ediv_emod_unique (a := k) (b := n) (r := b) (q := a) (by omega)).mpr ⟨by rw [hka, Int.mul_comm]; omega, b0.1, b0.2⟩
    rw [nX12_laysTree_58_s]
    simp only [bX12_laysTree_58, nX12_laysTree_72, bX12_laysTree_72, nX12_laysTree_137, bX12_laysTree_137, nX12_laysTree_144, bX12_laysTree_144]
    rw [h72, u.1, u.2]
    have nx : ∀ x3 x4 t, sQm x3 x4 t → bsQ w n g a (b + 1) t → Ok (gd (R32 (k + 1)) (nX12_laysTree_58 c42 M s x3 x4 (k + 1) m)) P := fun x3 x4 t ht hq => by
      refine ok_gd (by omega) ?_
      by_cases c : b + 1 < n
      · exact ih M (k + 1) a (b + 1) x3 x4 t (by omega) (by omega) (by omega) a0 (by omega) ht hq
      · have e : (a + 1) * n = a * n + n := by rw [Int.add_mul, Int.one_mul]
        exact ih M (k + 1) (a + 1) 0 x3 x4 t (by omega) (by omega) (by omega) (by omega) (by omega) ht (bsQ_row (fun x y x0 xy yn => by omega) hq)
    refine ok_gd (by omega) ?_
    refine ok_pos (by omega) ?_
    refine ok_gd (by omega) ?_
    refine ok_gd (by omega) ?_
    by_cases c : a < b
    · refine ok_pos c ?_
      refine ok_gd (by omega) ?_
      refine ok_gd (by omega) ?_
      rw [e115 a a0.1 an, e115 b b0.1 b0.2]
      by_cases c2 : g a = g b
      · refine ok_pos c2 ?_
        exact nx x3 x4 t ht (bsQ_same (Or.inl c2) hq)
      · refine ok_neg c2 ?_
        cases t with
        | none =>
          refine ok_pos ht ?_
          exact nx a b (some (a, b)) ⟨rfl, rfl⟩ (bsQ_new ⟨a0.1, c, b0.2⟩ c2 hq (fun i j e => by cases e))
        | some p =>
          obtain ⟨i, j⟩ := p
          obtain ⟨t1, t2⟩ := ht
          have hq0 := hq.1.1
          refine ok_neg (by omega) ?_
          refine ok_be (hw m fr_r a b ⟨a0.1, an⟩ b0).1 ?_
          rw [t1, t2]
          refine ok_be (hw m fr_r i j (by omega) (by omega)).1 ?_
          by_cases c3 : w a b < w i j
          · refine ok_pos c3 ?_
            exact nx a b (some (a, b)) ⟨rfl, rfl⟩ (bsQ_new ⟨a0.1, c, b0.2⟩ c2 hq (fun i' j' e => by
              have e' := Option.some.inj e
              cases e'
              exact c3))
          · refine ok_neg c3 ?_
            exact nx i j (some (i, j)) ⟨rfl, rfl⟩ (bsQ_old hq (by omega))
    · refine ok_neg c ?_
      exact nx x3 x4 t ht (bsQ_same (Or.inr c) hq)
theorem m_tree (hm : RM K m) (hv : VAL K) (v0 : 0 ≤ v) (v3 : v < 3) (e95 : m.1 95 v = K 31 v) (er : mrd m v = rnd K v) (h9 : 0 ≤ K 31 v ∧ K 31 v ≤ 9) (hin : inR K (rnd K v)) (hC : CON K (rnd K v)) : Ok (nX12_laysTree v m) (fun g => Fr sTM m g ∧ (g.1 71 72 = nD K (rnd K v) ∧ ∀ i, 0 ≤ i → i < nD K (rnd K v) → g.1 114 i = drF K (rnd K v) i) ∧ ∃ dg, TREE K (rnd K v) (g.1 71 73) dg ∧ ∀ k, 0 ≤ k → k < nD K (rnd K v) → g.1 116 k = dg k) := by
  have hn := v_n hv
  have L9 : (rnd K v).length ≤ 9 := by rw [rnd_len]; omega
  have nb := nD_b (K := K) L9
  unfold nX12_laysTree bX12_laysTree
  refine ok_bnd (m_doors hm hv v0 v3 e95 er h9 hin) (fun g1 hg1 => ?_)
  obtain ⟨f1, ci⟩ := hg1
  obtain ⟨en, ed⟩ := chI_F ci
  rw [en] at ed
  refine ok_bs ?_
  generalize hnn : nD K (rnd K v) = n at *
  have fG : Fr sTM m (hI g1 71 73 0) := fr_I (fr_m (fun c i s => Or.inl s) f1) (Or.inr (Or.inr ⟨rfl, rfl⟩))
  have e72 : (hI g1 71 73 0).1 71 72 = n := by rw [rI_s, updI_n (by decide)]; exact en
  have e73 : (hI g1 71 73 0).1 71 73 = 0 := by rw [rI_s, updI_s]
  have e114 : (hI g1 71 73 0).1 114 = g1.1 114 := rI_n (by decide)
  generalize hI g1 71 73 0 = g2 at *
  have hw : ∀ m', Fr sJM g2 m' → ∀ i j, (0 ≤ i ∧ i < n) → (0 ≤ j ∧ j < n) → nX12_weight m' i j = some (wD K (rnd K v) i j) ∧ (0 ≤ wD K (rnd K v) i j ∧ wD K (rnd K v) i j ≤ 1800) := fun m' f' i j i0 j0 => by
    have f2 : Fr sTM m m' := fr_t fG (fr_m (fun c i s => Or.inr s) f')
    have hm' : RM K m' := RM_fr hm f2 (fun c i s => by dsimp only [sTM, sGm, sJM] at s; unfold rmP; omega)
    refine ⟨m_weight hm' hv hC (fun i i0 i1 => ?_) L9 (by omega) (by omega), wD_b hv hC (by omega) (by omega)⟩
    rw [fr_c f' 114 (fun i s => by dsimp only [sJM] at s; omega), e114]
    exact ed i i0 (by omega)
  have steps : ∀ (r N : Nat) (s S : Int) (g dg : Int → Int) (E : List (Int × Int)) (q : HH), r < N → s + r = n → 1 ≤ s → Fr sJM g2 q → q.1 71 73 = S → (∀ k, 0 ≤ k → k < n → q.1 115 k = g k) → (∀ k, 0 ≤ k → k < n → q.1 116 k = dg k) → gOK g n → rts g n = n - (s - 1) → (∀ k, 0 ≤ dg k ∧ dg k ≤ s) → (0 ≤ S ∧ S ≤ 1800 * s) → Ok (nX12_laysTree_42 N s q) (fun q' => ∃ g' dg' E', trR (wD K (rnd K v)) n r g dg S E (g', dg', q'.1 71 73, E') ∧ (∀ k, 0 ≤ k → k < n → q'.1 116 k = dg' k) ∧ Fr sJM g2 q') := by
    intro r
    induction r with
    | zero =>
      intro N s S g dg E q hN hs s1 f e73 e115 e116 hg hr hd hS
      obtain ⟨M, rfl⟩ := fuel_s hN
      have q72 : q.1 71 72 = n := by rw [f.2 71 72 (by dsimp only [sJM]; omega)]; exact e72
      rw [nX12_laysTree_42_s]
      simp only [bX12_laysTree_42]
      refine ok_neg (by omega) ?_
      exact ok_some ⟨g, dg, E, by rw [e73]; rfl, e116, f⟩
    | succ r ih =>
      intro N s S g dg E q hN hs s1 f e73 e115 e116 hg hr hd hS
      obtain ⟨M, rfl⟩ := fuel_s hN
      have q72 : q.1 71 72 = n := by rw [f.2 71 72 (by dsimp only [sJM]; omega)]; exact e72
      have hnn : 0 ≤ n * n ∧ n * n ≤ 10 * 10 := mul_b ⟨by omega, nb.2⟩ ⟨by omega, nb.2⟩
      rw [nX12_laysTree_42_s]
      simp only [bX12_laysTree_42]
      refine ok_pos (by omega) ?_
      refine m_58 (m := q) (w := wD K (rnd K v)) (g := g) (dg := dg) (S := S) nb (by omega) q72 e73 (by omega) (fun m' f' => hw m' (fr_t f f')) e115 e116 hg (by omega) (fun k => by have := hd k; omega) (fun g' i j hb f' e73' e115' e116' => ?_) (n * n).toNat 100000 0 0 0 (-1) (-1) none (by omega) (by omega) (by omega) (by omega) (by omega) rfl (fun x y x0 xy yn hb => by omega)
      have hb0 := hb.1
      have hwb := (hw q f i j (by omega) (by omega)).2
      refine ok_mono (ih M (s + 1) (S + wD K (rnd K v) i j) (mgG g i j) (dgU dg i j) (E ++ [(i, j)]) g' (by omega) (by omega) (by omega) (fr_t f f') e73' e115' e116' (gOK_m hg (by omega) (by omega) hb.2.1) (by rw [rts_m hg (by omega) (by omega) hb.2.1]; omega) (fun k => ?_) (by omega)) (fun y hy => ?_)
      · have := hd k
        have := hd i
        have := hd j
        show 0 ≤ updI (updI dg i (dg i + 1)) j (dg j + 1) k ∧ updI (updI dg i (dg i + 1)) j (dg j + 1) k ≤ s + 1
        rw [updI_at, updI_at]
        split
        · omega
        · split <;> omega
      · obtain ⟨g', dg', E', y1, y2⟩ := hy
        exact ⟨g', dg', E', ⟨i, j, hb, y1⟩, y2⟩
  have key : ∀ (r N : Nat) (k : Int) (q : HH), r < N → k + r = n → 0 ≤ k → Fr sJM g2 q → q.1 71 73 = 0 → (∀ j, 0 ≤ j → j < k → q.1 115 j = j ∧ q.1 116 j = 0) → Ok (nX12_laysTree_12 N k q) (fun g => Fr sTM m g ∧ (g.1 71 72 = n ∧ ∀ i, 0 ≤ i → i < n → g.1 114 i = drF K (rnd K v) i) ∧ ∃ dg, TREE K (rnd K v) (g.1 71 73) dg ∧ ∀ k, 0 ≤ k → k < n → g.1 116 k = dg k) := by
    intro r
    induction r with
    | zero =>
      intro N k q hN hk k0 f q73 hj
      obtain ⟨M, rfl⟩ := fuel_s hN
      have q72 : q.1 71 72 = n := by rw [f.2 71 72 (by dsimp only [sJM]; omega)]; exact e72
      rw [nX12_laysTree_12_s]
      simp only [bX12_laysTree_12]
      refine ok_neg (by omega) ?_
      refine ok_mono (steps (n - 1).toNat 100000 1 0 (fun k => k) (fun _ => 0) [] q (by omega) (by omega) (by omega) f q73 (fun k k0 k1 => (hj k k0 (by omega)).1) (fun k k0 k1 => (hj k k0 (by omega)).2) (fun k k0 k1 => ⟨⟨k0, k1⟩, rfl⟩) (by rw [rts_id (by omega)]; omega) (fun k => by omega) (by omega)) (fun x hx => ?_)
      obtain ⟨g', dg', E', y1, y2, y3⟩ := hx
      refine ⟨fr_t fG (fr_m (fun c i s => Or.inr s) y3), ⟨by rw [y3.2 71 72 (by dsimp only [sJM]; omega)]; exact e72, fun i i0 i1 => by rw [fr_c y3 114 (fun i s => by dsimp only [sJM] at s; omega), e114]; exact ed i i0 i1⟩, dg', ⟨g', E', ?_⟩, y2⟩
      rw [hnn]
      exact y1
    | succ r ih =>
      intro N k q hN hk k0 f q73 hj
      obtain ⟨M, rfl⟩ := fuel_s hN
      have q72 : q.1 71 72 = n := by rw [f.2 71 72 (by dsimp only [sJM]; omega)]; exact e72
      rw [nX12_laysTree_12_s]
      simp only [bX12_laysTree_12]
      refine ok_pos (by omega) ?_
      refine ok_gd (by omega) ?_
      refine ok_bs ?_
      refine ok_gd (by omega) ?_
      refine ok_bs ?_
      refine ok_gd (by omega) ?_
      refine ih M (k + 1) _ (by omega) (by omega) (by omega) (fr_I (fr_I f (Or.inl (Or.inl rfl))) (Or.inl (Or.inr rfl))) (by rw [rI_n (by decide), rI_n (by decide)]; exact q73) (fun j j0 j1 => ?_)
      rw [rI_n (by decide), rI_s, rI_s, rI_n (by decide), updI_at, updI_at]
      by_cases c : j = k
      · rw [if_pos c, if_pos c]; exact ⟨c.symm, rfl⟩
      · rw [if_neg c, if_neg c]; exact hj j j0 (by omega)
  exact key n.toNat 100000 0 g2 (by omega) (by omega) (by omega) fr_r e73 (fun j j0 j1 => by omega)
end TREEB
