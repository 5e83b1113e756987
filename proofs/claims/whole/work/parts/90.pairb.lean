/-! PAIRINGS, both sides -/
section PAIRB
variable {h h' m : HH} {K : Nat → Int → Int} {v n : Int} {w : Int → Int → Int} {L : List Int}
def oddL (dg : Int → Int) (n : Int) : List Int := chL (fun k => decide (dg k % 2 = 1)) n.toNat
theorem oddL_m {dg : Int → Int} {i : Int} : i ∈ oddL dg n ↔ (0 ≤ i ∧ i < n) ∧ dg i % 2 = 1 := by
  unfold oddL
  rw [chL_m, decide_eq_true_iff]
  constructor
  · rintro ⟨a, b⟩; exact ⟨by omega, b⟩
  · rintro ⟨a, b⟩; exact ⟨by omega, b⟩
theorem all_map {od : Int → Int} {q : Nat} (hq : q ≤ 10) : (mem10 (2 ^ q - 1)).map od = rowL od 0 q := by
  have key : ∀ k : Nat, (canS ((2 ^ q - 1 : Nat) : Int) k).map od = rowL od 0 (min k q) := fun k => by
    induction k with
    | zero => rw [Nat.zero_min]; rfl
    | succ k ih =>
      have e : bt ((2 ^ q - 1 : Nat) : Int) (k : Int) = decide (k < q) := by
        unfold bt
        rw [Int.toNat_natCast, Int.toNat_natCast, Nat.testBit_two_pow_sub_one]
      rw [canS, e]
      by_cases c : k < q
      · rw [if_pos (decide_eq_true c), List.map_append, ih, show min k q = k by omega, show min (k + 1) q = k + 1 by omega, rowL_snoc, Int.zero_add]
        rfl
      · rw [if_neg (by rw [decide_eq_false c]; decide), ih, show min k q = q by omega, show min (k + 1) q = q by omega]
  have := key 10
  rw [show min 10 q = q by omega] at this
  exact this
theorem bt_ex {S : Nat} (hS : S ≠ 0) {q : Nat} (hq : S < 2 ^ q) : ∃ j, j < q ∧ Nat.testBit S j = true := by
  by_cases c : ∃ j, j < q ∧ Nat.testBit S j = true
  · exact c
  · exfalso
    apply hS
    refine Nat.eq_of_testBit_eq (fun j => ?_)
    rw [Nat.zero_testBit]
    by_cases cj : j < q
    · cases z : Nat.testBit S j
      · rfl
      · exact absurd ⟨j, cj, z⟩ c
    · exact Nat.testBit_lt_two_pow (Nat.lt_of_lt_of_le hq (Nat.pow_le_pow_right (by omega) (by omega)))
theorem bt_lt {S q j : Nat} (hq : S < 2 ^ q) (hb : Nat.testBit S j = true) : j < q := by
  by_cases c : j < q
  · exact c
  · rw [Nat.testBit_lt_two_pow (Nat.lt_of_lt_of_le hq (Nat.pow_le_pow_right (by omega) (by omega)))] at hb
    cases hb
def sLv (x : Int) : Option Int → Prop
  | none => x = 10000000
  | some y => x = y ∧ 0 ≤ y ∧ y ≤ 1843200
/-- even sets have their least pairing -/
def tbE (w : Int → Int → Int) (T : Int → Int) (S : Nat) : Prop := ∀ S' : Nat, S' < S → cnN S' 10 % 2 = 0 → tpP w T S'
theorem c_los {od : Int → Int} {q S : Nat} (hq : q ≤ 10) (hS : S < 2 ^ q) (hS0 : S ≠ 0) (he : cnN S 10 % 2 = 0) (hs : ∀ x y, w x y = w y x) (hw : ∀ i j : Int, (0 ≤ i ∧ i < q) → (0 ≤ j ∧ j < q) → nX10_weightOf m (m.1 57 i) (m.1 57 j) = some (w i j) ∧ (0 ≤ w i j ∧ w i j ≤ 1800)) (tb : tbE w (m.1 58) S) : Ok (nX10_leastOfSet m (S : Int) (q : Int)) (fun x => isLP w (mem10 S) x ∧ 0 ≤ x ∧ x ≤ 1800 * (S : Int)) := by
  have p10 := pow10 (show q < 11 by omega)
  have S1024 : S < 1024 := by omega
  obtain ⟨j0, j0q, j0b⟩ := bt_ex hS0 hS
  -- behind the first
  have second : ∀ f : Nat, f < q → Nat.testBit S f = true → (∀ j, j < f → Nat.testBit S j = false) → Ok (nX10_leastOfSet_23 m (S : Int) (q : Int) (f : Int)) (fun x => isLP w (mem10 S) x ∧ 0 ≤ x ∧ x ≤ 1800 * (S : Int)) := fun f fq fb flow => by
    obtain ⟨l, lp, lm, lj⟩ := mem10_f (S := S) (f := f) (by omega) fb
    have key : ∀ (r N k : Nat) (x : Int) (s : Option Int) (qk : Int), qk = (k : Int) → r < N → k + r = q → f < k → (s = none ∧ x = 10000000 ∨ ∃ y, s = some y ∧ x = y ∧ 0 ≤ y ∧ y ≤ 1800 * (S : Int)) → lpQ w (f : Int) l (fun b => b < k) s → Ok (nX10_leastOfSet_32 m N (S : Int) (q : Int) (f : Int) x qk) (fun x => isLP w (mem10 S) x ∧ 0 ≤ x ∧ x ≤ 1800 * (S : Int)) := by
      intro r
      induction r with
      | zero =>
        intro N k x s qk hqk hN hk fk hx hl
        subst hqk
        obtain ⟨M, rfl⟩ := fuel_s hN
        rw [nX10_leastOfSet_32_s]
        simp only [bX10_leastOfSet_32]
        refine ok_neg (by omega) ?_
        have hl2 := lpQ_cg (D' := fun _ => True) (fun b hb => ⟨fun _ => True.intro, fun _ => by
          have z := lm b hb
          have := bt_lt hS z.2.1
          show b < (k : Int)
          omega⟩) hl
        cases s with
        | none =>
          exfalso
          have l0 : l = [] := List.eq_nil_iff_forall_not_mem.mpr (fun b hb => hl2 b hb True.intro)
          have := lp.length_eq
          rw [l0, mem10_cn] at this
          have e1 : cnN S 10 = 1 := this
          omega
        | some y =>
          rcases hx with ⟨hx, _⟩ | ⟨y', hy, hx, b1, b2⟩
          · cases hx
          · have : y = y' := Option.some.inj hy
            subst this
            refine ok_some ⟨?_, by omega, by omega⟩
            rw [hx]
            refine lp_perm lp.symm (lpQ_end hs (fun b hb => ?_) hl2)
            have z := lm b hb
            have hbq := bt_lt hS z.2.1
            have pj := lj b.toNat (by omega) (by omega) z.2.1
            rw [show ((b.toNat : Nat) : Int) = b by omega] at pj
            have hlt := rm2_lt (S := S) (i := f) (j := b.toNat) (by omega) fb
            have hc := cn_rm2 (S := S) (i := f) (j := b.toNat) (by omega) (by omega) (by omega) fb z.2.1
            exact ⟨_, _, pj, (tb _ hlt (by omega)).1⟩
      | succ r ih =>
        intro N k x s qk hqk hN hk fk hx hl
        subst hqk
        obtain ⟨M, rfl⟩ := fuel_s hN
        have ek : (k : Int) + 1 = ((k + 1 : Nat) : Int) := by omega
        rw [nX10_leastOfSet_32_s]
        simp only [bX10_leastOfSet_32, nX10_leastOfSet_92, bX10_leastOfSet_92]
        refine ok_pos (by omega) ?_
        rw [bitA (s := S) (i := k) S1024 (by omega)]
        by_cases cb : Nat.testBit S k = true
        · rw [if_pos cb]
          refine ok_pos rfl ?_
          have hne : f ≠ k := by omega
          have ex := xor2 S1024 (show f < 10 by omega) (show k < 10 by omega) hne fb cb
          have hlt := rm2_lt (S := S) (i := f) (j := k) (by omega) fb
          have hc := cn_rm2 (S := S) (i := f) (j := k) (by omega) (by omega) hne fb cb
          obtain ⟨t1, t2, t3⟩ := tb _ hlt (by omega)
          have ww := hw f k ⟨by omega, by omega⟩ ⟨by omega, by omega⟩
          have pk := lj k (by omega) (fun z => hne z.symm) cb
          rw [ex]
          refine ok_gd (by omega) ?_
          refine ok_gd (by omega) ?_
          refine ok_gd (by omega) ?_
          refine ok_be ww.1 ?_
          refine ok_gd (by omega) ?_
          refine ok_gd (by omega) ?_
          rw [ek]
          have hl2 := lpQ_cg (D' := fun b => b < ((k + 1 : Nat) : Int)) (fun b hb => by
            show (b < (k : Int) ∨ b = k) ↔ b < ((k + 1 : Nat) : Int)
            omega) (lpQ_s pk t1 hl)
          generalize m.1 58 ((rm2 S f k : Nat) : Int) = y at *
          generalize w (f : Int) (k : Int) = wf at *
          refine ih M (k + 1) _ _ _ rfl (by omega) (by omega) (by omega) (Or.inr ⟨_, rfl, ?_, ?_, ?_⟩) hl2
          · cases s with
            | none =>
              rcases hx with ⟨_, hx⟩ | ⟨_, hx, _⟩
              · show min x (y + wf) = wf + y
                omega
              · cases hx
            | some z =>
              rcases hx with ⟨hx, _⟩ | ⟨z', hz, hx, _⟩
              · cases hx
              · have : z = z' := Option.some.inj hz
                show min x (y + wf) = min z (wf + y)
                omega
          · cases s with
            | none => show 0 ≤ wf + y; omega
            | some z =>
              rcases hx with ⟨hx, _⟩ | ⟨z', hz, hx, b1, b2⟩
              · cases hx
              · have : z = z' := Option.some.inj hz
                show 0 ≤ min z (wf + y)
                omega
          · cases s with
            | none => show wf + y ≤ 1800 * (S : Int); omega
            | some z =>
              show min z (wf + y) ≤ 1800 * (S : Int)
              omega
        · rw [if_neg cb]
          refine ok_neg (by decide) ?_
          refine ok_gd (by omega) ?_
          rw [ek]
          refine ih M (k + 1) x s _ rfl (by omega) (by omega) (by omega) hx (lpQ_cg (fun b hb => ?_) hl)
          have z := lm b hb
          have : b ≠ k := fun e => cb (by rw [e, Int.toNat_natCast] at z; exact z.2.1)
          show b < (k : Int) ↔ b < ((k + 1 : Nat) : Int)
          omega
    simp only [nX10_leastOfSet_23, bX10_leastOfSet_23]
    refine ok_gd (by omega) ?_
    refine key (q - (f + 1)) 100000 (f + 1) 10000000 none _ (by omega) (by omega) (by omega) (by omega) (Or.inl ⟨rfl, rfl⟩) (fun b hb => ?_)
    have z := lm b hb
    show ¬ b < ((f + 1 : Nat) : Int)
    intro z2
    by_cases c : b.toNat < f
    · have := flow _ c
      rw [z.2.1] at this
      cases this
    · have := z.2.2
      omega
  have key : ∀ (r N i : Nat) (qi : Int), qi = (i : Int) → r < N → i + r + 1 = q → (∀ j, j < i → Nat.testBit S j = false) → Ok (nX10_leastOfSet_2 m N (S : Int) (q : Int) qi) (fun x => isLP w (mem10 S) x ∧ 0 ≤ x ∧ x ≤ 1800 * (S : Int)) := by
    intro r
    induction r with
    | zero =>
      intro N i qi hqi hN hi hlow
      subst hqi
      obtain ⟨M, rfl⟩ := fuel_s hN
      rw [nX10_leastOfSet_2_s]
      simp only [bX10_leastOfSet_2]
      refine ok_gd (by omega) ?_
      refine ok_neg (by omega) ?_
      refine second i (by omega) ?_ hlow
      by_cases c : j0 = i
      · rw [← c]; exact j0b
      · have := hlow j0 (by omega)
        rw [j0b] at this
        cases this
    | succ r ih =>
      intro N i qi hqi hN hi hlow
      subst hqi
      obtain ⟨M, rfl⟩ := fuel_s hN
      have ei : (i : Int) + 1 = ((i + 1 : Nat) : Int) := by omega
      rw [nX10_leastOfSet_2_s]
      simp only [bX10_leastOfSet_2]
      refine ok_gd (by omega) ?_
      refine ok_pos (by omega) ?_
      rw [bitA (s := S) (i := i) S1024 (by omega)]
      by_cases cb : Nat.testBit S i = true
      · rw [if_pos cb]
        refine ok_neg (by decide) ?_
        exact second i (by omega) cb hlow
      · rw [if_neg cb]
        refine ok_pos rfl ?_
        refine ok_gd (by omega) ?_
        rw [ei]
        refine ih M (i + 1) _ rfl (by omega) (by omega) (fun j hj => ?_)
        by_cases c : j = i
        · rw [c]
          cases z : Nat.testBit S i
          · rfl
          · exact absurd z cb
        · exact hlow j (by omega)
  unfold nX10_leastOfSet bX10_leastOfSet
  exact key (q - 1) 100000 0 0 rfl (by omega) (by omega) (fun j hj => absurd hj (Nat.not_lt_zero _))
abbrev s578 : Nat → Int → Prop := fun c _ => c = 57 ∨ c = 58
theorem c_pair {dg : Int → Int} (hn : 1 ≤ n ∧ n ≤ 10) (h53 : m.1 53 2 = n) (hs : ∀ x y, w x y = w y x) (hw : ∀ m', Fr s578 m m' → ∀ i j, (0 ≤ i ∧ i < n) → (0 ≤ j ∧ j < n) → nX10_weightOf m' i j = some (w i j) ∧ (0 ≤ w i j ∧ w i j ≤ 1800)) (e56 : ∀ k, 0 ≤ k → k < n → m.1 56 k = dg k) (hd : ∀ k, 0 ≤ dg k) (he : (oddL dg n).length % 2 = 0) : Ok (nX10_leastPairing m) (fun r => Fr s578 m r.2 ∧ isLP w (oddL dg n) r.1 ∧ 0 ≤ r.1 ∧ r.1 ≤ 1843200) := by
  have ollen : (oddL dg n).length ≤ n.toNat := chL_len
  -- sets
  have sets : ∀ {q : Nat} {g0 : HH}, q ≤ 10 → (q : Int) = (oddL dg n).length → Fr s578 m g0 → rowL (g0.1 57) 0 q = oddL dg n → ∀ (r N S : Nat) (g : HH) (qS qA : Int), qS = (S : Int) → qA = ((2 ^ q - 1 : Nat) : Int) → r < N → S + r = 2 ^ q → 1 ≤ S → Fr (sA 58) g0 g → tbE (fun i j => w (g0.1 57 i) (g0.1 57 j)) (g.1 58) S → Ok (nX10_leastPairing_55 N (q : Int) qA qS g) (fun r => Fr s578 m r.2 ∧ isLP w (oddL dg n) r.1 ∧ 0 ≤ r.1 ∧ r.1 ≤ 1843200) := by
    intro q g0 hq hql f0 hrow r
    have p10 := pow10 (show q < 11 by omega)
    have od : ∀ i : Int, 0 ≤ i → i < q → 0 ≤ g0.1 57 i ∧ g0.1 57 i < n := fun i i0 i1 => by
      have := rowL_of (f := g0.1 57) (o := 0) (n := q) (i := i.toNat) (by omega)
      rw [hrow, show (0 : Int) + (i.toNat : Int) = i by omega] at this
      exact (oddL_m.mp this).1
    induction r with
    | zero =>
      intro N S g qS qA hqS hqA hN hS S1 f tb
      subst hqS
      subst hqA
      obtain ⟨M, rfl⟩ := fuel_s hN
      rw [nX10_leastPairing_55_s]
      simp only [bX10_leastPairing_55]
      refine ok_pos (by omega) ?_
      refine ok_gd (by omega) ?_
      have ecn : cnN (2 ^ q - 1) 10 = q := by
        have := all_map (od := fun i => i) hq
        have := congrArg List.length this
        rw [List.length_map, rowL_len, mem10_cn] at this
        exact this
      obtain ⟨t1, t2, t3⟩ := tb (2 ^ q - 1) (by omega) (by rw [ecn]; omega)
      have z := lp_map t1
      rw [all_map hq, hrow] at z
      exact ok_some ⟨fr_t f0 (fr_m (fun c i s => Or.inr s) f), z, t2, by omega⟩
    | succ r ih =>
      intro N S g qS qA hqS hqA hN hS S1 f tb
      subst hqS
      subst hqA
      obtain ⟨M, rfl⟩ := fuel_s hN
      have eS : (S : Int) + 1 = ((S + 1 : Nat) : Int) := by omega
      have e57 : g.1 57 = g0.1 57 := fr_c f 57 (fun i => sA_n (by decide) i)
      have e85 : ∀ (y y1 : Int), nX10_leastPairing_85 (nX10_leastPairing_55 M) (q : Int) ((2 ^ q - 1 : Nat) : Int) (S : Int) y y1 g = gd ((0 : Int) ≤ y1 ∧ y1 < (1024 : Int)) (bnd (some (hI g 58 y1 y)) fun h1 => gd (R32 ((S : Int) + 1)) (nX10_leastPairing_55 M (q : Int) ((2 ^ q - 1 : Nat) : Int) ((S : Int) + 1) h1)) := fun _ _ => rfl
      have nx : ∀ y, (cnN S 10 % 2 = 0 → isLP (fun i j => w (g0.1 57 i) (g0.1 57 j)) (mem10 S) y ∧ 0 ≤ y ∧ y ≤ 1800 * (S : Int)) → Ok (nX10_leastPairing_85 (nX10_leastPairing_55 M) (q : Int) ((2 ^ q - 1 : Nat) : Int) (S : Int) y (S : Int) g) (fun r => Fr s578 m r.2 ∧ isLP w (oddL dg n) r.1 ∧ 0 ≤ r.1 ∧ r.1 ≤ 1843200) := fun y hy => by
        rw [e85]
        refine ok_gd (by omega) ?_
        refine ok_bs ?_
        refine ok_gd (by omega) ?_
        rw [eS]
        refine ih M (S + 1) _ _ _ rfl rfl (by omega) (by omega) (by omega) (fr_I f rfl) (fun S' hS' hc => ?_)
        unfold tpP
        rw [rI_s, updI_at]
        by_cases c : S' = S
        · rw [if_pos (by rw [c]), c]
          rw [c] at hc
          exact hy hc
        · rw [if_neg (by omega)]
          exact tb S' (by omega) hc
      rw [nX10_leastPairing_55_s]
      simp only [bX10_leastPairing_55]
      refine ok_neg (by omega) ?_
      refine ok_be (bitC (show S < 1024 by omega)) ?_
      refine ok_gd (by omega) ?_
      by_cases c : cnN S 10 % 2 = 0
      · refine ok_pos (by omega) ?_
        refine ok_bnd (c_los (m := g) (w := fun i j => w (g0.1 57 i) (g0.1 57 j)) (od := g0.1 57) hq (show S < 2 ^ q by omega) (by omega) c (fun x y => hs _ _) (fun i j i0 j0 => ?_) tb) (fun y hy => ?_)
        · rw [e57]
          have o1 := od i i0.1 i0.2
          have o2 := od j j0.1 j0.2
          exact hw g (fr_t f0 (fr_m (fun c i s => Or.inr s) f)) _ _ o1 o2
        · exact nx y (fun _ => hy)
      · refine ok_neg (by omega) ?_
        exact nx _ (fun z => absurd z c)
  have key : ∀ (r N k : Nat) (x qk : Int) (g : HH), qk = (k : Int) → r < N → (k : Int) + r = n → Fr (sA 57) m g → chI (fun k => decide (dg k % 2 = 1)) k (g.1 57) x → Ok (nX10_leastPairing_4 N x qk g) (fun r => Fr s578 m r.2 ∧ isLP w (oddL dg n) r.1 ∧ 0 ≤ r.1 ∧ r.1 ≤ 1843200) := by
    intro r
    induction r with
    | zero =>
      intro N k x qk g hqk hN hk f ci
      subst hqk
      obtain ⟨M, rfl⟩ := fuel_s hN
      have e53 : g.1 53 2 = n := by rw [f.2 53 2 (sA_n (by decide) _)]; exact h53
      rw [nX10_leastPairing_4_s]
      simp only [bX10_leastPairing_4]
      refine ok_neg (by omega) ?_
      refine ok_gd (by omega) ?_
      refine ok_bs ?_
      rw [show k = n.toNat by omega] at ci
      obtain ⟨c1, c2⟩ := ci
      have c1' : x = (oddL dg n).length := c1
      have c2' : rowL (g.1 57) 0 (oddL dg n).length = oddL dg n := c2
      have p10 := pow10 (show (oddL dg n).length < 11 by omega)
      have ex := shlN (show (oddL dg n).length < 11 by omega)
      rw [c1', ex]
      refine ok_gd (by omega) ?_
      refine sets (q := (oddL dg n).length) (g0 := hI g 58 0 0) (by omega) rfl (fr_I (fr_m (fun c i s => Or.inl s) f) (Or.inr rfl)) (by rw [rI_n (by decide)]; exact c2') (2 ^ (oddL dg n).length - 1) 100000 1 _ _ _ rfl (by omega) (by omega) (by omega) (by omega) fr_r (fun S' hS' _ => ?_)
      have : S' = 0 := by omega
      rw [this]
      exact tp_0 (by rw [rI_s, updI_s])
    | succ r ih =>
      intro N k x qk g hqk hN hk f ci
      subst hqk
      obtain ⟨M, rfl⟩ := fuel_s hN
      have e53 : g.1 53 2 = n := by rw [f.2 53 2 (sA_n (by decide) _)]; exact h53
      have e56' : g.1 56 k = dg k := by rw [f.2 56 _ (sA_n (by decide) _)]; exact e56 k (by omega) (by omega)
      have hdk := hd k
      have hl := chL_len (Q := fun k => decide (dg k % 2 = 1)) (k := k)
      have hc1 := ci.1
      have ek : (k : Int) + 1 = ((k + 1 : Nat) : Int) := by omega
      rw [nX10_leastPairing_4_s]
      simp only [bX10_leastPairing_4, nX10_leastPairing_34, bX10_leastPairing_34]
      refine ok_pos (by omega) ?_
      refine ok_gd (by omega) ?_
      rw [e56']
      refine ok_gd (by omega) ?_
      by_cases c : dg k % 2 = 1
      · refine ok_pos c ?_
        refine ok_gd (by omega) ?_
        refine ok_bs ?_
        refine ok_gd (by omega) ?_
        refine ok_gd (by omega) ?_
        rw [ek]
        refine ih M (k + 1) _ _ _ rfl (by omega) (by omega) (fr_I f rfl) ?_
        have := chI_s ci (show (fun k => decide (dg k % 2 = 1)) (k : Int) = true from decide_eq_true c)
        rw [rI_s]
        exact this
      · refine ok_neg c ?_
        refine ok_gd (by omega) ?_
        rw [ek]
        exact ih M (k + 1) _ _ g rfl (by omega) (by omega) f (chI_n ci (fun z => c (of_decide_eq_true z)))
  unfold nX10_leastPairing bX10_leastPairing
  exact key n.toNat 100000 0 0 0 m rfl (by omega) (by omega) fr_r ⟨rfl, rfl⟩
end PAIRB
