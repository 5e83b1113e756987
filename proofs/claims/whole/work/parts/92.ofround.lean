/-! OF A ROUND, both sides -/
section OFR
variable {h h' m : HH} {K : Nat → Int → Int} {v n : Int} {L : List Int}
theorem mrd_i (i : INV h h') {v : Int} (v0 : 0 ≤ v) (v3 : v < 3) : h'.1 95 v = h.1 31 v ∧ mrd h' v = rnd h.1 v := ⟨(i.2.1.1.2.1 v v0 v3).2.1, (i.2.1.1.2.1 v v0 v3).2.2⟩
theorem oddL_even {S : Int} {dg : Int → Int} (hn : 1 ≤ nD K L) (t : TREE K L S dg) : (oddL dg (nD K L)).length % 2 = 0 := by
  obtain ⟨g', E', t⟩ := t
  obtain ⟨_, _, a3, a4, _⟩ := tree_ok hn wD_s t
  have rg : ∀ q : Nat, (chL (fun _ => true) q).Nodup ∧ ∀ z, z ∈ chL (fun _ => true) q ↔ 0 ≤ z ∧ z < q := fun q => ⟨chL_nd, fun z => by
    rw [chL_m]
    exact ⟨fun w => w.1, fun w => ⟨w, rfl⟩⟩⟩
  have e := odd_even (l := E') (o := chL (fun _ => true) (nD K L).toNat) (sdg_even (rg _).1 (fun e he => by
    have := a4 e he
    rw [(rg _).2, (rg _).2]
    omega))
  have p : ((chL (fun _ => true) (nD K L).toNat).filter (fun z => dgP z E' % 2 == 1)).Perm (oddL dg (nD K L)) := perm_nd (List.Sublist.nodup List.filter_sublist (rg _).1) chL_nd (fun z => by
    rw [List.mem_filter, oddL_m, (rg _).2, beq_iff_eq, a3 z]
    constructor
    · rintro ⟨a, b⟩; exact ⟨by omega, b⟩
    · rintro ⟨a, b⟩; exact ⟨by omega, b⟩)
  rw [p.length_eq] at e
  exact e
theorem TREE_d {S : Int} {dg : Int → Int} (hn : 1 ≤ nD K L) (t : TREE K L S dg) : ∀ k, 0 ≤ dg k := fun k => by
  obtain ⟨g', E', t⟩ := t
  obtain ⟨_, _, a3, _, _⟩ := tree_ok hn wD_s t
  rw [a3 k]
  have : ∀ E : List (Int × Int), 0 ≤ dgP k E := fun E => by
    induction E with
    | nil => exact Int.le_refl _
    | cons e E ih =>
      rw [dgP]
      split <;> split <;> omega
  exact this E'
theorem dgP_b {k : Int} : ∀ E : List (Int × Int), 0 ≤ dgP k E := fun E => by
  induction E with
  | nil => exact Int.le_refl _
  | cons e E ih =>
    rw [dgP]
    split <;> split <;> omega
/-- how many pairs -/
theorem trR_len {w : Int → Int → Int} : ∀ {k : Nat} {g dg : Int → Int} {S : Int} {E : List (Int × Int)} {g' dg' : Int → Int} {S' : Int} {E' : List (Int × Int)}, trR w n k g dg S E (g', dg', S', E') → E'.length = E.length + k
  | 0, g, dg, S, E, g', dg', S', E', h => by
    have e : (g', dg', S', E') = (g, dg, S, E) := h
    cases e
    rfl
  | k + 1, g, dg, S, E, g', dg', S', E', ⟨i, j, hb, h⟩ => by
    have := trR_len h
    rw [List.length_append] at this
    simp only [List.length_cons, List.length_nil] at this
    omega
theorem wsum_b {w : Int → Int → Int} {B : Int} (hB : 0 ≤ B) : ∀ {E : List (Int × Int)}, (∀ e ∈ E, 0 ≤ w e.1 e.2 ∧ w e.1 e.2 ≤ B) → 0 ≤ wsum w E ∧ wsum w E ≤ B * E.length
  | [], _ => by simp [wsum]
  | e :: E, h => by
    have a := wsum_b hB (E := E) (fun e he => h e (List.mem_cons_of_mem _ he))
    have b := h e List.mem_cons_self
    have e1 : B * ((e :: E).length : Int) = B * (E.length : Int) + B := by rw [List.length_cons, show ((E.length + 1 : Nat) : Int) = (E.length : Int) + 1 by omega, Int.mul_add, Int.mul_one]
    rw [wsum, e1]
    generalize B * (E.length : Int) = y at *
    omega
theorem TREE_b (hv : VAL K) (hC : CON K L) (hl : L.length ≤ 9) {S : Int} {dg : Int → Int} (t : TREE K L S dg) : 0 ≤ S ∧ S ≤ 16200 := by
  have nb := nD_b (K := K) hl
  obtain ⟨g', E', t⟩ := t
  have hlen := trR_len t
  obtain ⟨_, a2, _, a4, _⟩ := tree_ok nb.1 wD_s t
  have b := wsum_b (w := wD K L) (B := 1800) (by omega) (E := E') (fun e he => by
    have := a4 e he
    exact wD_b hv hC this.1 this.2)
  rw [a2]
  simp only [List.length_nil] at hlen
  omega
theorem inv_L9 (i : INV h h') {v : Int} (v0 : 0 ≤ v) (v3 : v < 3) : (rnd h.1 v).length ≤ 9 := by
  have := (inv_RV i v v0 v3).1
  rw [rnd_len]
  omega
theorem inv_grow (i : INV h h') {v : Int} (v0 : 0 ≤ v) (v1 : v < h.1 13 14) : Ok (nX10_grow (rwK 3 28 v) (h.1 31 v) h) (fun r => Fr sGr h r.2 ∧ (r.2.1 53 2 = nD h.1 (rnd h.1 v) ∧ ∀ i, 0 ≤ i → i < nD h.1 (rnd h.1 v) → r.2.1 54 i = drF h.1 (rnd h.1 v) i) ∧ ∃ dg, TREE h.1 (rnd h.1 v) r.1 dg ∧ ∀ k, 0 ≤ k → k < nD h.1 (rnd h.1 v) → r.2.1 56 k = dg k) := by
  have hn := inv_n i
  have v3 : v < 3 := by omega
  exact c_grow i.1.1.1 (a9_rw v0 v3) (rwK_r v0 v3) (inv_RV i v v0 v3).1 rfl (inv_RV i v v0 v3).2 (inv_con i v0 v1)
theorem inv_tree (i : INV h h') (f : Fr scM h' m) {v : Int} (v0 : 0 ≤ v) (v1 : v < h.1 13 14) : Ok (nX12_laysTree v m) (fun g => Fr sTM m g ∧ (g.1 71 72 = nD h.1 (rnd h.1 v) ∧ ∀ i, 0 ≤ i → i < nD h.1 (rnd h.1 v) → g.1 114 i = drF h.1 (rnd h.1 v) i) ∧ ∃ dg, TREE h.1 (rnd h.1 v) (g.1 71 73) dg ∧ ∀ k, 0 ≤ k → k < nD h.1 (rnd h.1 v) → g.1 116 k = dg k) := by
  have i2 : INV h m := INV_scr i fr_r f
  have hn := inv_n i2
  have v3 : v < 3 := by omega
  obtain ⟨a, b⟩ := mrd_i i2 v0 v3
  exact m_tree i2.1.1.2 i2.1.1.1 v0 v3 a b (inv_RV i2 v v0 v3).1 (inv_RV i2 v v0 v3).2 (inv_con i2 v0 v1)
/-- weights of the class behind the growing -/
theorem c_wts (hv : VAL h.1) (hC : CON h.1 L) (hl : L.length ≤ 9) {g : HH} (f : Fr scC h g) (e54 : ∀ i, 0 ≤ i → i < nD h.1 L → g.1 54 i = drF h.1 L i) : ∀ i j, (0 ≤ i ∧ i < nD h.1 L) → (0 ≤ j ∧ j < nD h.1 L) → nX10_weightOf g i j = some (wD h.1 L i j) ∧ (0 ≤ wD h.1 L i j ∧ wD h.1 L i j ≤ 1800) := fun i j i0 j0 => by
  have e7 : g.1 7 = h.1 7 := sc_c f 7 (by unfold scC; omega)
  have e14 : g.1 14 = h.1 14 := sc_c f 14 (by unfold scC; omega)
  have edr : drL g.1 L = drL h.1 L := by unfold drL Qd; rw [e14]
  have eF : ∀ i, drF g.1 L i = drF h.1 L i := fun i => by unfold drF; rw [edr]
  have eN : nD g.1 L = nD h.1 L := by unfold nD; rw [edr]
  have eD : ∀ a b, dK g.1 a b = dK h.1 a b := fun a b => by unfold dK; rw [e7]
  have hC' : CON g.1 L := fun a ha b hb => by rw [eD]; rw [edr] at ha hb; exact hC a ha b hb
  have eW : wD g.1 L i j = wD h.1 L i j := by unfold wD; rw [eF, eF, eD, eD]
  have z := c_weight (sc_VAL f hv) hC' (fun i i0 i1 => by rw [eF]; exact e54 i i0 (by omega)) hl (i := i) (j := j) (by omega) (by omega)
  rw [eW] at z
  exact ⟨z, wD_b hv hC i0 j0⟩
theorem m_wts (i : INV h h') {v : Int} (v0 : 0 ≤ v) (v1 : v < h.1 13 14) (f : Fr scM h' m) (e114 : ∀ i, 0 ≤ i → i < nD h.1 (rnd h.1 v) → m.1 114 i = drF h.1 (rnd h.1 v) i) : ∀ i j, (0 ≤ i ∧ i < nD h.1 (rnd h.1 v)) → (0 ≤ j ∧ j < nD h.1 (rnd h.1 v)) → nX12_weight m i j = some (wD h.1 (rnd h.1 v) i j) ∧ (0 ≤ wD h.1 (rnd h.1 v) i j ∧ wD h.1 (rnd h.1 v) i j ≤ 1800) := fun a b a0 b0 => by
  have i2 : INV h m := INV_scr i fr_r f
  have hn := inv_n i
  exact ⟨m_weight i2.1.1.2 i2.1.1.1 (inv_con i v0 v1) e114 (inv_L9 i v0 (by omega)) a0 b0, wD_b i.1.1.1 (inv_con i v0 v1) a0 b0⟩
/-- pairings behind the tree -/
theorem inv_pairC (i : INV h h') {v S : Int} (v0 : 0 ≤ v) (v1 : v < h.1 13 14) {dg : Int → Int} (t : TREE h.1 (rnd h.1 v) S dg) {g : HH} (f : Fr sGr h g) (e53 : g.1 53 2 = nD h.1 (rnd h.1 v)) (e54 : ∀ i, 0 ≤ i → i < nD h.1 (rnd h.1 v) → g.1 54 i = drF h.1 (rnd h.1 v) i) (e56 : ∀ k, 0 ≤ k → k < nD h.1 (rnd h.1 v) → g.1 56 k = dg k) : Ok (nX10_leastPairing g) (fun r => Fr s578 g r.2 ∧ isLP (wD h.1 (rnd h.1 v)) (oddL dg (nD h.1 (rnd h.1 v))) r.1 ∧ 0 ≤ r.1 ∧ r.1 ≤ 1843200) := by
  have hn := inv_n i
  have L9 := inv_L9 i v0 (show v < 3 by omega)
  have nb := nD_b (K := h.1) L9
  refine c_pair nb e53 wD_s (fun m' f' => c_wts i.1.1.1 (inv_con i v0 v1) L9 (fr_t (sGr_sc f) (fr_m (fun c i s => by dsimp only [s578] at s; unfold scC; omega) f')) (fun a a0 a1 => ?_)) e56 (TREE_d nb.1 t) (oddL_even nb.1 t)
  rw [fr_c f' 54 (fun i s => by dsimp only [s578] at s; omega)]
  exact e54 a a0 a1
theorem inv_pairM (i : INV h h') {v S : Int} (v0 : 0 ≤ v) (v1 : v < h.1 13 14) {dg : Int → Int} (t : TREE h.1 (rnd h.1 v) S dg) (f : Fr scM h' m) (e72 : m.1 71 72 = nD h.1 (rnd h.1 v)) (e114 : ∀ i, 0 ≤ i → i < nD h.1 (rnd h.1 v) → m.1 114 i = drF h.1 (rnd h.1 v) i) (e116 : ∀ k, 0 ≤ k → k < nD h.1 (rnd h.1 v) → m.1 116 k = dg k) : Ok (nX12_pairing m) (fun r => Fr s117 m r.2 ∧ isLP (wD h.1 (rnd h.1 v)) (oddL dg (nD h.1 (rnd h.1 v))) r.1 ∧ 0 ≤ r.1 ∧ r.1 ≤ 1843200) := by
  have hn := inv_n i
  have L9 := inv_L9 i v0 (show v < 3 by omega)
  have nb := nD_b (K := h.1) L9
  refine m_pair nb e72 wD_s (fun m' f' => m_wts i v0 v1 (fr_t f (fr_m (fun c i s => by dsimp only [s117] at s; unfold scM; omega) f')) (fun a a0 a1 => ?_)) e116 (TREE_d nb.1 t) (oddL_even nb.1 t)
  rw [fr_c f' 114 (fun i s => by dsimp only [s117] at s; omega)]
  exact e114 a a0 a1
theorem s117_sc {g : HH} (f : Fr s117 m g) : Fr scM m g := fr_m (fun c i s => by dsimp only [s117] at s; unfold scM; omega) f
theorem s578_sc {g : HH} (f : Fr s578 m g) : Fr scC m g := fr_m (fun c i s => by dsimp only [s578] at s; unfold scC; omega) f
/-- services of a round, the model's -/
theorem inv_services (i : INV h h') {v : Int} (v0 : 0 ≤ v) (v1 : v < h.1 13 14) : nX12_services h' v = some (sumL (h.1 19) (rnd h.1 v)) := by
  have hn := inv_n i
  have v3 : v < 3 := by omega
  have hb := inv_RV i v v0 v3
  obtain ⟨e95, er⟩ := mrd_i i v0 v3
  have e94 : ∀ j : Nat, j < (h.1 31 v).toNat → h'.1 94 (9 * v + (j : Int)) = h.1 (rwK 3 28 v) (0 + (j : Int)) := fun j hj => by
    have a := rowL_getD (f := h'.1 94) (o := 9 * v) (n := (h'.1 95 v).toNat) (i := j) (by rw [e95]; exact hj)
    have b := rowL_getD (f := h.1 (rwK 3 28 v)) (o := 0) (n := (h.1 31 v).toNat) (i := j) hj
    have e : (mrd h' v).getD j 0 = (rnd h.1 v).getD j 0 := by rw [er]
    exact a.symm.trans (e.trans b)
  have key : ∀ (r N k : Nat) (s qk : Int), qk = (k : Int) → r < N → (k : Int) + r = h.1 31 v → s = sumL (h.1 19) (rowL (h.1 (rwK 3 28 v)) 0 k) → (0 ≤ s ∧ s ≤ 60 * k) → nX12_services_4 h' N v s qk = some (sumL (h.1 19) (rnd h.1 v)) := by
    intro r
    induction r with
    | zero =>
      intro N k s qk hqk hN hk hs hb2
      subst hqk
      obtain ⟨M, rfl⟩ := fuel_s hN
      rw [nX12_services_4_s]
      simp only [bX12_services_4]
      rw [gd_t (by omega), if_neg (by omega), hs]
      unfold rnd
      rw [show (h.1 31 v).toNat = k by omega]
    | succ r ih =>
      intro N k s qk hqk hN hk hs hb2
      subst hqk
      obtain ⟨M, rfl⟩ := fuel_s hN
      have ek : (k : Int) + 1 = ((k + 1 : Nat) : Int) := by omega
      have hmem := hb.2 _ (rowL_of (f := h.1 (rwK 3 28 v)) (o := 0) (n := (h.1 31 v).toNat) (i := k) (by omega))
      have hpp := v_p i.1.1.1 hmem.1 hmem.2
      have hrp := (rm_p i.1.1.2 hmem.1 hmem.2).2.2.1
      have e1 := e94 k (by omega)
      rw [nX12_services_4_s]
      simp only [bX12_services_4]
      rw [gd_t (by omega), if_pos (by omega), gd_t (by omega), gd_t (by omega), gd_t (by omega), e1, gd_t (by omega), hrp, gd_t (by omega), gd_t (by omega), ek]
      refine ih M (k + 1) _ _ rfl (by omega) (by omega) ?_ (by omega)
      rw [rowL_snoc, sumL_app, ← hs]
      show _ = s + (h.1 19 _ + 0)
      omega
  unfold nX12_services bX12_services
  exact key (h.1 31 v).toNat 100000 0 0 0 rfl (by omega) (by omega) rfl (by omega)
theorem inv_sv_b (i : INV h h') {v : Int} (v0 : 0 ≤ v) (v1 : v < h.1 13 14) : 0 ≤ sumL (h.1 19) (rnd h.1 v) ∧ sumL (h.1 19) (rnd h.1 v) ≤ 540 := by
  have hn := inv_n i
  have L9 := inv_L9 i v0 (show v < 3 by omega)
  have := sumL_b (g := h.1 19) (c := 60) (l := rnd h.1 v) (fun p hp => by
    have := (inv_RV i v v0 (by omega)).2 p hp
    have := v_p i.1.1.1 this.1 this.2
    omega)
  omega
end OFR
