/-! ERRORS: rounds as walks over doors; trees and pairings below them -/
section ERRW
variable {h h' m : HH} {K : Nat → Int → Int} {v n : Int} {L : List Int}
theorem drF_inj {i j : Int} (i0 : 0 ≤ i ∧ i < nD K L) (j0 : 0 ≤ j ∧ j < nD K L) (e : drF K L i = drF K L j) : i = j := by
  have nd : (drL K L).Nodup := chL_nd
  have lt : ∀ {a b : Nat}, a < b → (hb : b < (drL K L).length) → (drL K L).getD a 0 ≠ (drL K L).getD b 0 := fun {a b} hab hb => by
    rw [getD_get (show a < (drL K L).length by omega), getD_get hb]
    exact (List.pairwise_iff_getElem.mp nd) a b (by omega) hb hab
  unfold nD at i0 j0
  rcases (by omega : i = j ∨ i.toNat < j.toNat ∨ j.toNat < i.toNat) with c | c | c
  · exact c
  · exact absurd e (lt c (by omega))
  · exact absurd e.symm (lt c (by omega))
theorem drF_ex {p : Int} (hp : p ∈ drL K L) : ∃ i, (0 ≤ i ∧ i < nD K L) ∧ drF K L i = p := by
  obtain ⟨a, ha, e⟩ := List.getElem_of_mem hp
  refine ⟨a, by unfold nD; omega, ?_⟩
  unfold drF
  rw [Int.toNat_natCast, getD_get ha, e]
abbrev dmD (K : Nat → Int → Int) (L : List Int) : Int → Prop := fun x => 0 ≤ x ∧ x < nD K L
abbrev dD (K : Nat → Int → Int) (L : List Int) : Int → Int → Int := fun x y => dK K (drF K L x) (drF K L y)
/-- a row as a walk over doors -/
theorem walk_ex (hp : ∀ q ∈ L, 1 ≤ K 14 q ∧ K 14 q ≤ 15) : ∀ {l : List Int}, (∀ q ∈ l, q ∈ L) → ∃ t : List Int, (∀ z ∈ t, dmD K L z) ∧ t.map (drF K L) = l.map (K 14)
  | [], _ => ⟨[], fun z hz => absurd hz List.not_mem_nil, rfl⟩
  | q :: l, h => by
    obtain ⟨t, a, b⟩ := walk_ex hp (l := l) (fun x hx => h x (List.mem_cons_of_mem _ hx))
    have hq := h q List.mem_cons_self
    obtain ⟨i, i0, e⟩ := drF_ex (K := K) (L := L) (p := K 14 q) (dr_m.mpr ⟨by have := hp q hq; omega, Or.inr ⟨q, hq, rfl⟩⟩)
    refine ⟨i :: t, fun z hz => ?_, by rw [List.map_cons, List.map_cons, e, b]⟩
    rcases List.mem_cons.mp hz with c | c
    · rw [c]; exact i0
    · exact a z c
theorem pcs_sw : ∀ {l t : List Int} {x pl : Int}, t.map (drF K L) = l.map (K 14) → drF K L x = pl → pcs (dD K L) x (t ++ [0]) = swL K 7 l pl
  | [], [], x, pl, _, e => by
    show dK K (drF K L x) (drF K L 0) + 0 = K 7 (pl * 16 + 0)
    rw [e, drF_0]
    show dK K pl 0 + 0 = dK K pl 0
    omega
  | [], y :: t, x, pl, h, _ => by cases h
  | q :: l, [], x, pl, h, _ => by cases h
  | q :: l, y :: t, x, pl, h, e => by
    have h1 : drF K L y = K 14 q := (List.cons.inj h).1
    have h2 : t.map (drF K L) = l.map (K 14) := (List.cons.inj h).2
    have ih := pcs_sw (x := y) h2 h1
    show dK K (drF K L x) (drF K L y) + pcs (dD K L) y (t ++ [0]) = K 7 (pl * 16 + K 14 q) + swL K 7 l (K 14 q)
    rw [ih, e, h1]
theorem walk_cov {t : List Int} (h : t.map (drF K L) = L.map (K 14)) (ht : ∀ z ∈ t, dmD K L z) {z : Int} (hz : dmD K L z) : z = 0 ∨ z ∈ t := by
  rcases (dr_m.mp (drF_m hz.1 hz.2)).2 with e | ⟨q, hq, e⟩
  · left
    refine drF_inj hz ⟨by omega, ?_⟩ (by rw [e, drF_0])
    have := hz.1
    have := hz.2
    omega
  · right
    have : drF K L z ∈ t.map (drF K L) := by rw [h, ← e]; exact List.mem_map.mpr ⟨q, hq, rfl⟩
    obtain ⟨y, y1, y2⟩ := List.mem_map.mp this
    rw [← drF_inj (ht y y1) hz y2]
    exact y1
/-- the tree is no longer than the driving -/
theorem tree_le (hv : VAL K) (hC : CON K L) (hl : L.length ≤ 9) (hp : ∀ q ∈ L, 1 ≤ K 14 q ∧ K 14 q ≤ 15) {S : Int} {dg : Int → Int} (t : TREE K L S dg) : S ≤ swL K 7 L 0 := by
  have nb := nD_b (K := K) hl
  obtain ⟨g', E', t⟩ := t
  obtain ⟨a1, a2, _, a4, a5⟩ := tree_ok nb.1 wD_s t
  obtain ⟨r, r1, r2⟩ := walk_ex hp (l := L) (fun q hq => hq)
  have e := pcs_sw (K := K) (L := L) (x := 0) r2 drF_0
  rw [← e, a2]
  refine tree_walk (dm := dmD K L) (w := wD K L) (d := dD K L) (fun x y x0 y0 => (wD_b hv hC x0 y0).1) wD_s (fun x y x0 y0 => by unfold wD dD; omega) a1 (a := 0) (l := r ++ [0]) ⟨by omega, by omega⟩ (fun z hz => ?_) (fun z hz => ?_)
  · rcases List.mem_append.mp hz with c | c
    · exact r1 z c
    · rw [List.mem_singleton.mp c]; exact ⟨by omega, by omega⟩
  · rcases walk_cov r2 r1 hz with c | c
    · exact Or.inl c
    · exact Or.inr (List.mem_append_left _ c)
/-- costs hold driving and services -/
theorem cst_sum (hv : VAL K) : ∀ {l : List Int} {mn pl sz : Int}, inR K l → cst K v l mn pl sz ≠ -1 → swL K 7 l pl + sumL (K 19) l ≤ cst K v l mn pl sz + K 24 v - mn
  | [], mn, pl, sz, _, c => by
    have e : swL K 7 [] pl = dK K pl 0 := rfl
    have e2 : sumL (K 19) [] = 0 := rfl
    rw [e, e2]
    rw [cst] at c ⊢
    by_cases z : dK K pl 0 = -1 ∨ K 25 v < mn + dK K pl 0 ∨ K 23 v < sz
    · rw [if_pos z] at c; exact absurd rfl c
    · rw [if_neg z]; omega
  | p :: l, mn, pl, sz, hi, c => by
    obtain ⟨hx, hi⟩ := inR_c hi
    obtain ⟨c1, c2⟩ := cst_c c
    have ih := cst_sum hv (l := l) hi c2
    have hs := (srv_K hv (p := p) (pl := pl) (m := mn) hx.1 hx.2).resolve_left c1
    have e : swL K 7 (p :: l) pl = dK K pl (K 14 p) + swL K 7 l (K 14 p) := rfl
    have e2 : sumL (K 19) (p :: l) = K 19 p + sumL (K 19) l := rfl
    rw [e, e2]
    rw [cst, if_neg c1]
    omega
theorem cost_sum (hv : VAL K) {l : List Int} (hi : inR K l) (c : costL K v l ≠ -1) : swL K 7 l 0 + sumL (K 19) l ≤ costL K v l := by
  have := cst_sum hv (v := v) hi c
  unfold costL
  omega
/-- ways that take the same both ways -/
def SYM (K : Nat → Int → Int) (L : List Int) : Prop := ∀ i j, 0 ≤ i → i < j → j < nD K L → dK K (drF K L i) (drF K L j) = dK K (drF K L j) (drF K L i)
theorem sym_w (hS : SYM K L) {x y : Int} (x0 : dmD K L x) (y0 : dmD K L y) : wD K L x y = dD K L x y := by
  unfold wD dD
  rcases (by omega : x = y ∨ x < y ∨ y < x) with c | c | c
  · rw [c]; omega
  · have := hS x y x0.1 c y0.2; omega
  · have := hS y x y0.1 c x0.2; omega
theorem pcs_cg {d d' : Int → Int → Int} {dm : Int → Prop} (e : ∀ x y, dm x → dm y → d x y = d' x y) : ∀ {l : List Int} {x : Int}, dm x → (∀ z ∈ l, dm z) → pcs d x l = pcs d' x l
  | [], _, _, _ => rfl
  | y :: l, x, hx, hl => by
    have hy := hl y List.mem_cons_self
    rw [pcs, pcs, e x y hx hy, pcs_cg e hy (fun z hz => hl z (List.mem_cons_of_mem _ hz))]
theorem sym_tri (tri : ∀ a b c, (0 ≤ a ∧ a ≤ 15) → (0 ≤ b ∧ b ≤ 15) → (0 ≤ c ∧ c ≤ 15) → dK K a b ≠ -1 → dK K b c ≠ -1 → dK K a c ≤ dK K a b + dK K b c) (hC : CON K L) (hS : SYM K L) {x y z : Int} (x0 : dmD K L x) (y0 : dmD K L y) (z0 : dmD K L z) : wD K L x z ≤ wD K L x y + wD K L y z := by
  rw [sym_w hS x0 z0, sym_w hS x0 y0, sym_w hS y0 z0]
  exact tri _ _ _ (drF_b x0.1 x0.2) (drF_b y0.1 y0.2) (drF_b z0.1 z0.2) (con_d hC x0 y0) (con_d hC y0 z0)
/-- the pairing twice is no longer than a closed walk over all doors -/
theorem pair_le (hv : VAL K) (tri : ∀ a b c, (0 ≤ a ∧ a ≤ 15) → (0 ≤ b ∧ b ≤ 15) → (0 ≤ c ∧ c ≤ 15) → dK K a b ≠ -1 → dK K b c ≠ -1 → dK K a c ≤ dK K a b + dK K b c) (hC : CON K L) (hl : L.length ≤ 9) (hS : SYM K L) {S x : Int} {dg : Int → Int} (t : TREE K L S dg) (hx : isLP (wD K L) (oddL dg (nD K L)) x) {r : List Int} (r1 : ∀ z ∈ r, dmD K L z) (rc : ∀ z, dmD K L z → z = 0 ∨ z ∈ r) : 2 * x ≤ pcs (dD K L) 0 (r ++ [0]) := by
  have nb := nD_b (K := K) hl
  have d0 : dmD K L 0 := ⟨by omega, by omega⟩
  have e := pcs_cg (d := dD K L) (d' := wD K L) (dm := dmD K L) (fun x y x0 y0 => (sym_w hS x0 y0).symm) (l := r ++ [0]) d0 (fun z hz => by
    rcases List.mem_append.mp hz with c | c
    · exact r1 z c
    · rw [List.mem_singleton.mp c]; exact d0)
  rw [e]
  refine lp_tour (dm := dmD K L) (fun x y _ _ => wD_s x y) (fun x y z x0 y0 z0 => sym_tri tri hC hS x0 y0 z0) (fun x y x0 y0 => (wD_b hv hC x0 y0).1) hx chL_nd (oddL_even nb.1 t) d0 r1 (fun z hz => ?_)
  rcases rc z (oddL_m.mp hz).1 with c | c
  · rw [c]; exact List.mem_cons_self
  · exact List.mem_cons_of_mem _ c
/-- a tour that is no longer than tree and pairing -/
theorem tour_ex (hv : VAL K) (tri : ∀ a b c, (0 ≤ a ∧ a ≤ 15) → (0 ≤ b ∧ b ≤ 15) → (0 ≤ c ∧ c ≤ 15) → dK K a b ≠ -1 → dK K b c ≠ -1 → dK K a c ≤ dK K a b + dK K b c) (hC : CON K L) (hl : L.length ≤ 9) (hS : SYM K L) {S x : Int} {dg : Int → Int} (t : TREE K L S dg) (hx : isLP (wD K L) (oddL dg (nD K L)) x) : ∃ l' : List Int, l'.Nodup ∧ (∀ z, z ∈ l' ↔ dmD K L z ∧ z ≠ 0) ∧ pcs (dD K L) 0 (l' ++ [0]) ≤ S + x := by
  have nb := nD_b (K := K) hl
  have d0 : dmD K L 0 := ⟨by omega, by omega⟩
  obtain ⟨g', E', t⟩ := t
  obtain ⟨a1, a2, a3, a4, a5⟩ := tree_ok nb.1 wD_s t
  obtain ⟨l, l1, l2, l3, l4⟩ := christ (dm := dmD K L) (d := wD K L) (fun x y _ _ => wD_s x y) (T := E') a4 a5 (o := oddL dg (nD K L)) chL_nd (fun z => by
    rw [oddL_m, a3 z]) hx d0
  obtain ⟨l', k1, k2, k3⟩ := ham (dm := dmD K L) (d := wD K L) (fun x y z x0 y0 z0 => sym_tri tri hC hS x0 y0 z0) (fun x x0 => by
    have := drF_b (K := K) (L := L) x0.1 x0.2
    have z := v_0 hv this.1 this.2
    unfold wD
    rw [z]
    rfl) d0 l1 l3 l2
  refine ⟨l', k1, k2, ?_⟩
  have e := pcs_cg (d := dD K L) (d' := wD K L) (dm := dmD K L) (fun x y x0 y0 => (sym_w hS x0 y0).symm) (l := l' ++ [0]) d0 (fun z hz => by
    rcases List.mem_append.mp hz with c | c
    · exact ((k2 z).mp c).1
    · rw [List.mem_singleton.mp c]; exact d0)
  rw [e, a2]
  omega
end ERRW
