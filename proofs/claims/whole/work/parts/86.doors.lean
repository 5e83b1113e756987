/-! DOORS of a round, both sides -/
section DOORS
variable {h h' m : HH} {K K1 : Nat → Int → Int} {v n : Int} {L : List Int}
def Qd (K : Nat → Int → Int) (L : List Int) (p : Int) : Bool := decide (p = 0) || L.any (fun q => decide (K 14 q = p))
def drL (K : Nat → Int → Int) (L : List Int) : List Int := chL (Qd K L) 16
def nD (K : Nat → Int → Int) (L : List Int) : Int := (drL K L).length
def drF (K : Nat → Int → Int) (L : List Int) (i : Int) : Int := (drL K L).getD i.toNat 0
def wD (K : Nat → Int → Int) (L : List Int) (i j : Int) : Int := min (dK K (drF K L i) (drF K L j)) (dK K (drF K L j) (drF K L i))
theorem Qd_0 : Qd K L 0 = true := rfl
theorem Qd_p {p : Int} (hp : p ≠ 0) : Qd K L p = true ↔ ∃ q ∈ L, K 14 q = p := by
  unfold Qd
  rw [Bool.or_eq_true, decide_eq_true_iff, List.any_eq_true]
  constructor
  · rintro (z | ⟨q, a, b⟩)
    · exact absurd z hp
    · exact ⟨q, a, of_decide_eq_true b⟩
  · rintro ⟨q, a, b⟩
    exact Or.inr ⟨q, a, decide_eq_true b⟩
theorem Qd_row {f : Int → Int} {o : Int} {k : Nat} {p : Int} (hp : p ≠ 0) : Qd K (rowL f o k) p = true ↔ ∃ j : Nat, j < k ∧ K 14 (f (o + (j : Int))) = p := by
  rw [Qd_p hp]
  constructor
  · rintro ⟨q, a, b⟩
    obtain ⟨j, j1, j2⟩ := rowL_mem a
    exact ⟨j, j1, by rw [← j2]; exact b⟩
  · rintro ⟨j, j1, j2⟩
    exact ⟨_, rowL_of j1, j2⟩
theorem dr_len {k : Nat} : (chL (Qd K L) k).length ≤ 1 + L.length := by
  have := sub_len (l := chL (Qd K L) k) (l' := 0 :: L.map (K 14)) chL_nd (fun x hx => by
    have z := (chL_m.mp hx).2
    by_cases c : x = 0
    · rw [c]; exact List.mem_cons_self
    · obtain ⟨q, a, b⟩ := (Qd_p c).mp z
      exact List.mem_cons_of_mem _ (List.mem_map.mpr ⟨q, a, b⟩))
  rw [List.length_cons, List.length_map] at this
  omega
theorem dr_m {p : Int} : p ∈ drL K L ↔ (0 ≤ p ∧ p ≤ 15) ∧ (p = 0 ∨ ∃ q ∈ L, K 14 q = p) := by
  unfold drL
  rw [chL_m]
  by_cases c : p = 0
  · rw [c]
    exact ⟨fun _ => ⟨by omega, Or.inl rfl⟩, fun _ => ⟨by omega, Qd_0⟩⟩
  · rw [Qd_p c]
    constructor
    · rintro ⟨a, b⟩
      exact ⟨by omega, Or.inr b⟩
    · rintro ⟨a, b⟩
      exact ⟨by omega, b.resolve_left c⟩
theorem chL_1 {k : Nat} : 1 ≤ (chL (Qd K L) (k + 1)).length := by
  have : (0 : Int) ∈ chL (Qd K L) (k + 1) := chL_m.mpr ⟨by omega, Qd_0⟩
  exact List.length_pos_of_mem this
theorem nD_b (hl : L.length ≤ 9) : 1 ≤ nD K L ∧ nD K L ≤ 10 := by
  have a := dr_len (K := K) (L := L) (k := 16)
  have b : 1 ≤ (chL (Qd K L) 16).length := chL_1 (k := 15)
  unfold nD drL
  omega
theorem drF_m {i : Int} (i0 : 0 ≤ i) (i1 : i < nD K L) : drF K L i ∈ drL K L := getD_mem (by unfold nD at i1; omega)
theorem drF_b {i : Int} (i0 : 0 ≤ i) (i1 : i < nD K L) : 0 ≤ drF K L i ∧ drF K L i ≤ 15 := (dr_m.mp (drF_m i0 i1)).1
theorem chL_0h {k : Nat} : (chL (Qd K L) (k + 1)).getD 0 0 = 0 := by
  induction k with
  | zero =>
    show (if Qd K L 0 = true then [] ++ [(0 : Int)] else []).getD 0 0 = 0
    rw [if_pos Qd_0]
    rfl
  | succ k ih =>
    rw [chL]
    have b := chL_1 (K := K) (L := L) (k := k)
    by_cases c : Qd K L ((k + 1 : Nat) : Int) = true
    · rw [if_pos c, List.getD_eq_getElem?_getD, List.getElem?_append_left (by omega), ← List.getD_eq_getElem?_getD]
      exact ih
    · rw [if_neg c]; exact ih
theorem drF_0 : drF K L 0 = 0 := chL_0h
theorem chI_F {f : Int → Int} (ci : chI (Qd K L) 16 f n) : n = nD K L ∧ ∀ i, 0 ≤ i → i < n → f i = drF K L i := by
  obtain ⟨a, b⟩ := ci
  refine ⟨a, fun i i0 i1 => ?_⟩
  have z := rowL_getD (f := f) (o := 0) (n := (chL (Qd K L) 16).length) (i := i.toNat) (by omega)
  rw [b] at z
  have e : drF K L i = f (0 + (i.toNat : Int)) := z
  rw [e]
  exact ca (by omega)
/-- all doors can be reached from all -/
def CON (K : Nat → Int → Int) (L : List Int) : Prop := ∀ a ∈ drL K L, ∀ b ∈ drL K L, dK K a b ≠ -1
theorem con_d (hC : CON K L) {i j : Int} (i0 : 0 ≤ i ∧ i < nD K L) (j0 : 0 ≤ j ∧ j < nD K L) : dK K (drF K L i) (drF K L j) ≠ -1 := hC _ (drF_m i0.1 i0.2) _ (drF_m j0.1 j0.2)
theorem wD_b (hv : VAL K) (hC : CON K L) {i j : Int} (i0 : 0 ≤ i ∧ i < nD K L) (j0 : 0 ≤ j ∧ j < nD K L) : 0 ≤ wD K L i j ∧ wD K L i j ≤ 1800 := by
  have a := drF_b (K := K) (L := L) i0.1 i0.2
  have b := drF_b (K := K) (L := L) j0.1 j0.2
  have c := con_d hC i0 j0
  have d := con_d hC j0 i0
  have e := v_D hv a.1 a.2 b.1 b.2
  have f := v_D hv b.1 b.2 a.1 a.2
  unfold wD
  omega
theorem wD_s (i j : Int) : wD K L i j = wD K L j i := by unfold wD; omega
/-- kept rows connect their doors -/
theorem cst_con (tri : ∀ a b c, (0 ≤ a ∧ a ≤ 15) → (0 ≤ b ∧ b ≤ 15) → (0 ≤ c ∧ c ≤ 15) → dK K a b ≠ -1 → dK K b c ≠ -1 → dK K a c ≠ -1) (hp : ∀ q ∈ L, 1 ≤ K 14 q ∧ K 14 q ≤ 15) : ∀ {m pl sz : Int}, (0 ≤ pl ∧ pl ≤ 15) → cst K v L m pl sz ≠ -1 → dK K pl 0 ≠ -1 ∧ ∀ q ∈ L, dK K pl (K 14 q) ≠ -1 ∧ dK K (K 14 q) 0 ≠ -1 := by
  induction L with
  | nil =>
    intro m pl sz hpl hc
    exact ⟨cst_n hc, fun q hq => absurd hq List.not_mem_nil⟩
  | cons p l ih =>
    intro m pl sz hpl hc
    have hpp := hp p List.mem_cons_self
    have h1 : dK K pl (K 14 p) ≠ -1 := cost_hd (A := p :: l) (List.cons_ne_nil _ _) hc
    obtain ⟨c1, c2⟩ := cst_c hc
    obtain ⟨d1, d2⟩ := ih (fun q hq => hp q (List.mem_cons_of_mem _ hq)) (pl := K 14 p) (by omega) c2
    refine ⟨tri pl (K 14 p) 0 hpl (by omega) (by omega) h1 d1, fun q hq => ?_⟩
    rcases List.mem_cons.mp hq with e | e
    · rw [e]; exact ⟨h1, d1⟩
    · have hq2 := hp q (List.mem_cons_of_mem _ e)
      exact ⟨tri pl (K 14 p) (K 14 q) hpl (by omega) (by omega) h1 (d2 q e).1, (d2 q e).2⟩
theorem inv_con (i : INV h h') {v : Int} (v0 : 0 ≤ v) (v1 : v < h.1 13 14) : CON h.1 (rnd h.1 v) := by
  have hv := i.1.1.1
  have hn := inv_n i
  have tri : ∀ a b c, (0 ≤ a ∧ a ≤ 15) → (0 ≤ b ∧ b ≤ 15) → (0 ≤ c ∧ c ≤ 15) → dK h.1 a b ≠ -1 → dK h.1 b c ≠ -1 → dK h.1 a c ≠ -1 := fun a b c a0 b0 c0 e1 e2 => (inv_tri i a0 b0 c0 e1 e2).1
  have hin := (inv_RV i v v0 (by omega)).2
  have hGR := (i.2.1.1.1.1 v v0 (by omega)).2.2.2 v1
  have hp : ∀ q ∈ rnd h.1 v, 1 ≤ h.1 14 q ∧ h.1 14 q ≤ 15 := fun q hq => (v_p hv (hin q hq).1 (hin q hq).2).1
  obtain ⟨_, c2⟩ := cst_con tri hp (m := h.1 24 v) (pl := 0) (sz := 0) (by omega) hGR
  have z0 := v_0 hv (a := 0) (by omega) (by omega)
  have go : ∀ a, a ∈ drL h.1 (rnd h.1 v) → dK h.1 0 a ≠ -1 ∧ dK h.1 a 0 ≠ -1 := fun a ha => by
    rcases (dr_m.mp ha).2 with e | ⟨q, hq, e⟩
    · rw [e, z0]; exact ⟨by decide, by decide⟩
    · rw [← e]; exact c2 q hq
  intro a ha b hb
  have a1 := (dr_m.mp ha).1
  have b1 := (dr_m.mp hb).1
  exact tri a 0 b a1 (by omega) b1 (go a ha).2 (go b hb).1
/-! the class -/
abbrev sGd : Nat → Int → Prop := fun c i => c = 54 ∨ (c = 53 ∧ i = 2)
theorem c_gather {c : Nat} (ha : A9 c) (hc : c ≠ 54 ∧ c ≠ 53) {len : Int} (hl : 0 ≤ len ∧ len ≤ 9) (hin : inR h.1 (rowL (h.1 c) 0 len.toNat)) (hn : h.1 13 10 ≤ 9) : Ok (nX10_gatherDoors c len h) (fun g => Fr sGd h g ∧ chI (Qd h.1 (rowL (h.1 c) 0 len.toNat)) 16 (g.1 54) (g.1 53 2)) := by
  have llen : (rowL (h.1 c) 0 len.toNat).length = len.toNat := rowL_len
  have inner : ∀ {c15 : Nat → Int → Int → HH → Option HH} {P : HH → Prop} {p : Nat}, 1 ≤ p → p < 16 → ∀ {g : HH}, Fr sGd h g → chI (Qd h.1 (rowL (h.1 c) 0 len.toNat)) p (g.1 54) (g.1 53 2) → (∀ g', Fr sGd h g' → chI (Qd h.1 (rowL (h.1 c) 0 len.toNat)) (p + 1) (g'.1 54) (g'.1 53 2) → Ok (c15 c len ((p + 1 : Nat) : Int) g') P) → ∀ (r N : Nat) (x5 : Int) (i : Nat) (qi : Int), qi = (i : Int) → r < N → (i : Int) + r = len → (x5 = 0 ∨ x5 = 1) → (x5 = 1 ↔ ∃ j : Nat, j < i ∧ h.1 14 (h.1 c (0 + (j : Int))) = p) → Ok (nX10_gatherDoors_28 c15 N c len (p : Int) x5 qi g) P := by
    intro c15 P p p1 p16 g f ci hk r
    have ec : g.1 c = h.1 c := fr_c f c (fun i s => by dsimp only [sGd] at s; omega)
    have e14 : g.1 14 = h.1 14 := fr_c f 14 (fun i s => by dsimp only [sGd] at s; omega)
    have ep : (p : Int) + 1 = ((p + 1 : Nat) : Int) := by omega
    induction r with
    | zero =>
      intro N x5 i qi hqi hN hi hx hxi
      subst hqi
      obtain ⟨M, rfl⟩ := fuel_s hN
      rw [nX10_gatherDoors_28_s]
      simp only [bX10_gatherDoors_28, nX10_gatherDoors_101, bX10_gatherDoors_101]
      have p0 : (p : Int) ≠ 0 := by clear hxi; omega
      have hli : len.toNat = i := by clear hxi; omega
      have hQ : Qd h.1 (rowL (h.1 c) 0 len.toNat) (p : Int) = true ↔ x5 = 1 := by
        rw [Qd_row p0, hxi, hli]
      refine ok_neg (by omega) ?_
      by_cases c1 : x5 = 0
      · refine ok_pos c1 ?_
        refine ok_gd (by omega) ?_
        rw [ep]
        exact hk g f (chI_n ci (fun z => absurd (hQ.mp z) (by rw [c1]; decide)))
      · refine ok_neg c1 ?_
        have q1 := hQ.mpr (hx.resolve_left c1)
        have l1 := dr_len (K := h.1) (L := rowL (h.1 c) 0 len.toNat) (k := p + 1)
        have l2 : (chL (Qd h.1 (rowL (h.1 c) 0 len.toNat)) (p + 1)).length = (chL (Qd h.1 (rowL (h.1 c) 0 len.toNat)) p).length + 1 := by
          rw [chL, if_pos q1, List.length_append]; rfl
        have c53 := ci.1
        refine ok_pos (by omega) ?_
        refine ok_gd (by omega) ?_
        refine ok_bs ?_
        have e53 : (hI g 54 (g.1 53 2) p).1 53 2 = g.1 53 2 := by rw [rI_n (by decide)]
        rw [e53]
        refine ok_gd (by omega) ?_
        refine ok_bs ?_
        refine ok_gd (by omega) ?_
        rw [ep]
        refine hk _ (fr_I (fr_I f (Or.inl rfl)) (Or.inr ⟨rfl, rfl⟩)) ?_
        have := chI_s ci q1
        rw [rI_n (by decide), rI_s, rI_s, updI_s]
        exact this
    | succ r ih =>
      intro N x5 i qi hqi hN hi hx hxi
      subst hqi
      obtain ⟨M, rfl⟩ := fuel_s hN
      have ei : (i : Int) + 1 = ((i + 1 : Nat) : Int) := by omega
      have hmem := hin _ (rowL_of (f := h.1 c) (o := 0) (n := len.toNat) (i := i) (by omega))
      rw [nX10_gatherDoors_28_s]
      have e53 : ∀ (x6 : Int) (q : HH), nX10_gatherDoors_53 c15 (nX10_gatherDoors_28 c15 M) c len (p : Int) x6 q = gd (R32 (x6 + 1)) (nX10_gatherDoors_28 c15 M c len (p : Int) 1 (x6 + 1) q) := fun _ _ => rfl
      have e58 : ∀ (x6 y : Int) (q : HH), nX10_gatherDoors_58 c15 (nX10_gatherDoors_28 c15 M) c len (p : Int) x6 y q = gd (R32 (x6 + 1)) (nX10_gatherDoors_28 c15 M c len (p : Int) y (x6 + 1) q) := fun _ _ _ => rfl
      simp only [bX10_gatherDoors_28]
      have e0 : (0 : Int) + (i : Int) = i := by omega
      rw [e0] at hmem
      have yes : (∃ j : Nat, j < i + 1 ∧ h.1 14 (h.1 c (0 + (j : Int))) = p) → Ok (gd (R32 ((i : Int) + 1)) (nX10_gatherDoors_28 c15 M c len (p : Int) 1 ((i : Int) + 1) g)) P := fun z => by
        refine ok_gd (by omega) ?_
        rw [ei]
        exact ih M 1 (i + 1) _ rfl (by omega) (by omega) (Or.inr rfl) ⟨fun _ => z, fun _ => rfl⟩
      refine ok_pos (by omega) ?_
      by_cases c1 : x5 = 0
      · refine ok_pos c1 ?_
        refine ok_bt (a9_ok ha) ?_
        refine ok_gd (by rw [ha.2]; omega) ?_
        rw [ec, e14]
        refine ok_gd (by omega) ?_
        by_cases c2 : h.1 14 (h.1 c i) = p
        · refine ok_pos c2 ?_
          rw [e53]
          exact yes ⟨i, by omega, by rw [e0]; exact c2⟩
        · refine ok_neg c2 ?_
          rw [e58]
          refine ok_gd (by omega) ?_
          rw [ei]
          refine ih M 0 (i + 1) _ rfl (by omega) (by omega) (Or.inl rfl) ⟨fun z => absurd z (by decide), fun ⟨j, j1, j2⟩ => ?_⟩
          exfalso
          by_cases c3 : j = i
          · rw [c3, e0] at j2; exact c2 j2
          · exact absurd (c1.symm.trans (hxi.mpr ⟨j, by omega, j2⟩)) (by decide)
      · refine ok_neg c1 ?_
        obtain ⟨j, j1, j2⟩ := hxi.mp (hx.resolve_left c1)
        rw [e53]
        exact yes ⟨j, by omega, j2⟩
  have key : ∀ (r N p : Nat) (qp : Int) (g : HH), qp = (p : Int) → r < N → p + r = 16 → 1 ≤ p → Fr sGd h g → chI (Qd h.1 (rowL (h.1 c) 0 len.toNat)) p (g.1 54) (g.1 53 2) → Ok (nX10_gatherDoors_15 N c len qp g) (fun g => Fr sGd h g ∧ chI (Qd h.1 (rowL (h.1 c) 0 len.toNat)) 16 (g.1 54) (g.1 53 2)) := by
    intro r
    induction r with
    | zero =>
      intro N p qp g hqp hN hp p1 f ci
      subst hqp
      obtain ⟨M, rfl⟩ := fuel_s hN
      rw [nX10_gatherDoors_15_s]
      simp only [bX10_gatherDoors_15]
      refine ok_neg (by omega) ?_
      have e16 : p = 16 := by omega
      rw [e16] at ci
      exact ok_some ⟨f, ci⟩
    | succ r ih =>
      intro N p qp g hqp hN hp p1 f ci
      subst hqp
      obtain ⟨M, rfl⟩ := fuel_s hN
      rw [nX10_gatherDoors_15_s]
      simp only [bX10_gatherDoors_15]
      refine ok_pos (by omega) ?_
      exact inner p1 (by omega) f ci (fun g' f' ci' => ih M (p + 1) _ g' rfl (by omega) (by omega) (by omega) f' ci') len.toNat 100000 0 0 0 rfl (by omega) (by omega) (Or.inl rfl) ⟨fun z => absurd z (by decide), fun ⟨j, j1, _⟩ => absurd j1 (Nat.not_lt_zero _)⟩
  unfold nX10_gatherDoors bX10_gatherDoors
  refine ok_gd (by decide) ?_
  refine ok_bs ?_
  refine ok_bs ?_
  refine key 15 100000 1 1 _ rfl (by omega) (by omega) (by omega) (fr_I (fr_I fr_r (Or.inl rfl)) (Or.inr ⟨rfl, rfl⟩)) ?_
  have e : chL (Qd h.1 (rowL (h.1 c) 0 len.toNat)) 1 = [0] := by
    show (if Qd h.1 (rowL (h.1 c) 0 len.toNat) 0 = true then [] ++ [(0 : Int)] else []) = [0]
    rw [if_pos Qd_0]; rfl
  unfold chI
  rw [e, rI_s, updI_s, rI_n (by decide), rI_s]
  exact ⟨rfl, by show [updI (h.1 54) 0 0 0] = [0]; rw [updI_s]⟩
/-- a weight of the class -/
theorem c_weight (hv : VAL h.1) (hC : CON h.1 L) (hF : ∀ i, 0 ≤ i → i < nD h.1 L → h.1 54 i = drF h.1 L i) (hl : L.length ≤ 9) {i j : Int} (i0 : 0 ≤ i ∧ i < nD h.1 L) (j0 : 0 ≤ j ∧ j < nD h.1 L) : nX10_weightOf h i j = some (wD h.1 L i j) := by
  have nb := nD_b (K := h.1) hl
  have a := drF_b (K := h.1) (L := L) i0.1 i0.2
  have b := drF_b (K := h.1) (L := L) j0.1 j0.2
  unfold nX10_weightOf bX10_weightOf
  rw [gd_t (by omega), gd_t (by omega), hF i i0.1 i0.2, hF j j0.1 j0.2, sX9_minutesOf a.1 a.2 b.1 b.2, bnd_some, gd_t (by omega), gd_t (by omega), sX9_minutesOf b.1 b.2 a.1 a.2, bnd_some, if_neg (con_d hC i0 j0), if_neg (con_d hC j0 i0)]
  rfl
/-! the model -/
abbrev sGm : Nat → Int → Prop := fun c i => c = 114 ∨ (c = 71 ∧ i = 72)
theorem m_doors (hm : RM K m) (hv : VAL K) (v0 : 0 ≤ v) (v3 : v < 3) (e95 : m.1 95 v = K 31 v) (er : mrd m v = rnd K v) (h9 : 0 ≤ K 31 v ∧ K 31 v ≤ 9) (hin : inR K (rnd K v)) : Ok (nX12_laysDoors v m) (fun g => Fr sGm m g ∧ chI (Qd K (rnd K v)) 16 (g.1 114) (g.1 71 72)) := by
  have hn := v_n hv
  have llen : (rnd K v).length = (K 31 v).toNat := rnd_len
  have e94 : ∀ j : Nat, j < (K 31 v).toNat → m.1 94 (9 * v + (j : Int)) = (K (rwK 3 28 v)) (0 + (j : Int)) := fun j hj => by
    have a := rowL_getD (f := m.1 94) (o := 9 * v) (n := (m.1 95 v).toNat) (i := j) (by rw [e95]; exact hj)
    have b := rowL_getD (f := K (rwK 3 28 v)) (o := 0) (n := (K 31 v).toNat) (i := j) hj
    have e : (mrd m v).getD j 0 = (rnd K v).getD j 0 := by rw [er]
    exact a.symm.trans (e.trans b)
  have inner : ∀ {c14 : Int → Int → HH → Option HH} {P : HH → Prop} {p : Nat}, 1 ≤ p → p < 16 → ∀ {g : HH}, Fr sGm m g → chI (Qd K (rnd K v)) p (g.1 114) (g.1 71 72) → (∀ g', Fr sGm m g' → chI (Qd K (rnd K v)) (p + 1) (g'.1 114) (g'.1 71 72) → Ok (c14 v ((p + 1 : Nat) : Int) g') P) → ∀ (r N : Nat) (x5 : Int) (i : Nat) (qi : Int), qi = (i : Int) → r < N → (i : Int) + r = K 31 v → (x5 = 0 ∨ x5 = 1) → (x5 = 1 ↔ ∃ j : Nat, j < i ∧ K 14 (K (rwK 3 28 v) (0 + (j : Int))) = p) → Ok (nX12_laysDoors_25 c14 N v (p : Int) x5 qi g) P := by
    intro c14 P p p1 p16 g f ci hk r
    have g94 : g.1 94 = m.1 94 := fr_c f 94 (fun i s => by dsimp only [sGm] at s; omega)
    have g95 : g.1 95 = m.1 95 := fr_c f 95 (fun i s => by dsimp only [sGm] at s; omega)
    have g81 : g.1 81 = m.1 81 := fr_c f 81 (fun i s => by dsimp only [sGm] at s; omega)
    have ep : (p : Int) + 1 = ((p + 1 : Nat) : Int) := by omega
    induction r with
    | zero =>
      intro N x5 i qi hqi hN hi hx hxi
      subst hqi
      obtain ⟨M, rfl⟩ := fuel_s hN
      rw [nX12_laysDoors_25_s]
      simp only [bX12_laysDoors_25, nX12_laysDoors_97, bX12_laysDoors_97]
      have hQ : Qd K (rnd K v) (p : Int) = true ↔ x5 = 1 := by
        have p0 : (p : Int) ≠ 0 := by clear hxi; omega
        have hli : (K 31 v).toNat = i := by clear hxi; omega
        unfold rnd
        rw [Qd_row p0, hxi, hli]
      refine ok_gd (by omega) ?_
      refine ok_neg (by rw [g95]; omega) ?_
      by_cases c1 : x5 = 0
      · refine ok_pos c1 ?_
        refine ok_gd (by omega) ?_
        rw [ep]
        exact hk g f (chI_n ci (fun z => absurd (hQ.mp z) (by rw [c1]; decide)))
      · refine ok_neg c1 ?_
        have q1 := hQ.mpr (hx.resolve_left c1)
        have l1 := dr_len (K := K) (L := rnd K v) (k := p + 1)
        have l2 : (chL (Qd K (rnd K v)) (p + 1)).length = (chL (Qd K (rnd K v)) p).length + 1 := by
          rw [chL, if_pos q1, List.length_append]; rfl
        have c53 := ci.1
        refine ok_gd (by omega) ?_
        refine ok_bs ?_
        have e53 : (hI g 114 (g.1 71 72) p).1 71 72 = g.1 71 72 := by rw [rI_n (by decide)]
        rw [e53]
        refine ok_gd (by omega) ?_
        refine ok_bs ?_
        refine ok_gd (by omega) ?_
        rw [ep]
        refine hk _ (fr_I (fr_I f (Or.inl rfl)) (Or.inr ⟨rfl, rfl⟩)) ?_
        have := chI_s ci q1
        rw [rI_n (by decide), rI_s, rI_s, updI_s]
        exact this
    | succ r ih =>
      intro N x5 i qi hqi hN hi hx hxi
      subst hqi
      obtain ⟨M, rfl⟩ := fuel_s hN
      have ei : (i : Int) + 1 = ((i + 1 : Nat) : Int) := by omega
      have hmem := hin _ (rowL_of (f := K (rwK 3 28 v)) (o := 0) (n := (K 31 v).toNat) (i := i) (by omega))
      have hpl := (rm_p hm hmem.1 hmem.2).1.1
      have e1 := e94 i (by omega)
      rw [nX12_laysDoors_25_s]
      have e53 : ∀ (x6 : Int) (q : HH), nX12_laysDoors_61 c14 (nX12_laysDoors_25 c14 M) v (p : Int) x6 q = gd (R32 (x6 + 1)) (nX12_laysDoors_25 c14 M v (p : Int) 1 (x6 + 1) q) := fun _ _ => rfl
      have e58 : ∀ (x6 y : Int) (q : HH), nX12_laysDoors_66 c14 (nX12_laysDoors_25 c14 M) v (p : Int) x6 y q = gd (R32 (x6 + 1)) (nX12_laysDoors_25 c14 M v (p : Int) y (x6 + 1) q) := fun _ _ _ => rfl
      simp only [bX12_laysDoors_25]
      have yes : (∃ j : Nat, j < i + 1 ∧ K 14 (K (rwK 3 28 v) (0 + (j : Int))) = p) → Ok (gd (R32 ((i : Int) + 1)) (nX12_laysDoors_25 c14 M v (p : Int) 1 ((i : Int) + 1) g)) P := fun z => by
        refine ok_gd (by omega) ?_
        rw [ei]
        exact ih M 1 (i + 1) _ rfl (by omega) (by omega) (Or.inr rfl) ⟨fun _ => z, fun _ => rfl⟩
      refine ok_gd (by omega) ?_
      refine ok_pos (by rw [g95]; omega) ?_
      by_cases c1 : x5 = 0
      · refine ok_pos c1 ?_
        refine ok_gd (by omega) ?_
        refine ok_gd (by omega) ?_
        refine ok_gd (by omega) ?_
        rw [g94, e1, g81, hpl]
        refine ok_gd (by omega) ?_
        by_cases c2 : K 14 (K (rwK 3 28 v) (0 + (i : Int))) = p
        · refine ok_pos c2 ?_
          rw [e53]
          exact yes ⟨i, by omega, c2⟩
        · refine ok_neg c2 ?_
          rw [e58]
          refine ok_gd (by omega) ?_
          rw [ei]
          refine ih M 0 (i + 1) _ rfl (by omega) (by omega) (Or.inl rfl) ⟨fun z => absurd z (by decide), fun ⟨j, j1, j2⟩ => ?_⟩
          exfalso
          by_cases c3 : j = i
          · rw [c3] at j2; exact c2 j2
          · exact absurd (c1.symm.trans (hxi.mpr ⟨j, by omega, j2⟩)) (by decide)
      · refine ok_neg c1 ?_
        obtain ⟨j, j1, j2⟩ := hxi.mp (hx.resolve_left c1)
        rw [e53]
        exact yes ⟨j, by omega, j2⟩
  have key : ∀ (r N p : Nat) (qp : Int) (g : HH), qp = (p : Int) → r < N → p + r = 16 → 1 ≤ p → Fr sGm m g → chI (Qd K (rnd K v)) p (g.1 114) (g.1 71 72) → Ok (nX12_laysDoors_14 N v qp g) (fun g => Fr sGm m g ∧ chI (Qd K (rnd K v)) 16 (g.1 114) (g.1 71 72)) := by
    intro r
    induction r with
    | zero =>
      intro N p qp g hqp hN hp p1 f ci
      subst hqp
      obtain ⟨M, rfl⟩ := fuel_s hN
      rw [nX12_laysDoors_14_s]
      simp only [bX12_laysDoors_14]
      refine ok_neg (by omega) ?_
      have e16 : p = 16 := by omega
      rw [e16] at ci
      exact ok_some ⟨f, ci⟩
    | succ r ih =>
      intro N p qp g hqp hN hp p1 f ci
      subst hqp
      obtain ⟨M, rfl⟩ := fuel_s hN
      rw [nX12_laysDoors_14_s]
      simp only [bX12_laysDoors_14]
      refine ok_pos (by omega) ?_
      exact inner p1 (by omega) f ci (fun g' f' ci' => ih M (p + 1) _ g' rfl (by omega) (by omega) (by omega) f' ci') (K 31 v).toNat 100000 0 0 0 rfl (by omega) (by omega) (Or.inl rfl) ⟨fun z => absurd z (by decide), fun ⟨j, j1, _⟩ => absurd j1 (Nat.not_lt_zero _)⟩
  unfold nX12_laysDoors bX12_laysDoors
  refine ok_bs ?_
  refine ok_gd (by decide) ?_
  refine ok_bs ?_
  refine key 15 100000 1 1 _ rfl (by omega) (by omega) (by omega) (fr_I (fr_I fr_r (Or.inr ⟨rfl, rfl⟩)) (Or.inl rfl)) ?_
  have e : chL (Qd K (rnd K v)) 1 = [0] := by
    show (if Qd K (rnd K v) 0 = true then [] ++ [(0 : Int)] else []) = [0]
    rw [if_pos Qd_0]; rfl
  unfold chI
  rw [e, rI_s, rI_n (show (71 : Nat) ≠ 114 by decide), rI_s, updI_s]
  exact ⟨rfl, by show [updI _ 0 0 0] = [0]; rw [updI_s]⟩
theorem m_weight (hm : RM K m) (hv : VAL K) (hC : CON K L) (hF : ∀ i, 0 ≤ i → i < nD K L → m.1 114 i = drF K L i) (hl : L.length ≤ 9) {i j : Int} (i0 : 0 ≤ i ∧ i < nD K L) (j0 : 0 ≤ j ∧ j < nD K L) : nX12_weight m i j = some (wD K L i j) := by
  have nb := nD_b (K := K) hl
  have a := drF_b (K := K) (L := L) i0.1 i0.2
  have b := drF_b (K := K) (L := L) j0.1 j0.2
  have gr1 : ∀ y : Int, y ≠ -1 → gr y = y := fun y hy => by unfold gr; rw [if_neg hy]
  have s1 := sX12_d hm a.1 a.2 b.1 b.2
  have s2 := sX12_d hm b.1 b.2 a.1 a.2
  rw [gr1 _ (con_d hC i0 j0)] at s1
  rw [gr1 _ (con_d hC j0 i0)] at s2
  unfold nX12_weight bX12_weight
  rw [gd_t (by omega), gd_t (by omega), hF i i0.1 i0.2, hF j j0.1 j0.2, s1, bnd_some, gd_t (by omega), gd_t (by omega), s2, bnd_some, sX12_less, bnd_some]
  rfl
end DOORS
