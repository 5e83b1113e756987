/-! BETTER: the least of some rows, ties by the rows themselves -/
section LEAST
variable {h h' m : HH} {K : Nat → Int → Int} {l : List Int}
def lx : List Int → List Int → Bool
  | a :: l, b :: k => if a < b then true else if b < a then false else lx l k
  | _, _ => false
theorem lx_irr : ∀ l : List Int, lx l l = false
  | [] => rfl
  | a :: l => by rw [lx, if_neg (by omega), if_neg (by omega)]; exact lx_irr l
theorem lx_tr : ∀ {a b c : List Int}, lx a b = true → lx b c = true → lx a c = true
  | [], _, _, h1, _ => by cases h1
  | _ :: _, [], _, h1, _ => by cases h1
  | _ :: _, _ :: _, [], _, h2 => by cases h2
  | x :: a, y :: b, z :: c, h1, h2 => by
    rw [lx] at h1 h2 ⊢
    by_cases c1 : x < y
    · by_cases c2 : y < z
      · rw [if_pos (by omega)]
      · rw [if_neg c2] at h2
        by_cases c3 : z < y
        · rw [if_pos c3] at h2; cases h2
        · rw [if_pos (by omega)]
    · rw [if_neg c1] at h1
      by_cases c4 : y < x
      · rw [if_pos c4] at h1; cases h1
      · rw [if_neg c4] at h1
        by_cases c2 : y < z
        · rw [if_pos (by omega)]
        · rw [if_neg c2] at h2
          by_cases c3 : z < y
          · rw [if_pos c3] at h2; cases h2
          · rw [if_neg c3] at h2
            rw [if_neg (by omega), if_neg (by omega)]
            exact lx_tr h1 h2
theorem lx_eq : ∀ {a b : List Int}, a.length = b.length → lx a b = false → lx b a = false → a = b
  | [], [], _, _, _ => rfl
  | [], _ :: _, h, _, _ => by cases h
  | _ :: _, [], h, _, _ => by cases h
  | x :: a, y :: b, h, h1, h2 => by
    rw [lx] at h1 h2
    by_cases c1 : x < y
    · rw [if_pos c1] at h1; cases h1
    · by_cases c2 : y < x
      · rw [if_pos c2] at h2; cases h2
      · rw [if_neg c1, if_neg c2] at h1
        rw [if_neg c2, if_neg c1] at h2
        rw [show x = y by omega, lx_eq (Nat.succ.inj h) h1 h2]
/-- the least of the rows that C names, below a cost -/
def mvS (K : Nat → Int → Int) (v base : Int) (C : List Int → Prop) : Option (Int × List Int) → Prop
  | none => ∀ x, C x → costL K v x = -1 ∨ base ≤ costL K v x
  | some (c, l) => (C l ∧ c = costL K v l ∧ c ≠ -1 ∧ c < base) ∧ ∀ x, C x → costL K v x = -1 ∨ c < costL K v x ∨ (c = costL K v x ∧ lx x l = false)
def mvU (K : Nat → Int → Int) (v base : Int) (l : List Int) : Option (Int × List Int) → Option (Int × List Int)
  | none => if costL K v l ≠ -1 ∧ costL K v l < base then some (costL K v l, l) else none
  | some (c, b) => if costL K v l ≠ -1 ∧ (costL K v l < c ∨ (costL K v l = c ∧ lx l b = true)) then some (costL K v l, l) else some (c, b)
theorem mvS_cg {v base : Int} {C D : List Int → Prop} (e : ∀ x, C x ↔ D x) : ∀ {s : Option (Int × List Int)}, mvS K v base C s → mvS K v base D s
  | none, h => fun x hx => h x ((e x).mpr hx)
  | some (c, l), h => ⟨⟨(e l).mp h.1.1, h.1.2⟩, fun x hx => h.2 x ((e x).mpr hx)⟩
theorem mvS_s {v base : Int} {C : List Int → Prop} {l : List Int} : ∀ {s : Option (Int × List Int)}, mvS K v base C s → mvS K v base (fun x => C x ∨ x = l) (mvU K v base l s)
  | none, h => by
    rw [mvU]
    by_cases c : costL K v l ≠ -1 ∧ costL K v l < base
    · rw [if_pos c]
      refine ⟨⟨Or.inr rfl, rfl, c.1, c.2⟩, fun x hx => ?_⟩
      rcases hx with hx | hx
      · rcases h x hx with q | q
        · exact Or.inl q
        · exact Or.inr (Or.inl (by omega))
      · rw [hx]; exact Or.inr (Or.inr ⟨rfl, lx_irr l⟩)
    · rw [if_neg c]
      intro x hx
      rcases hx with hx | hx
      · exact h x hx
      · rw [hx]
        by_cases q : costL K v l = -1
        · exact Or.inl q
        · exact Or.inr (by
            by_cases q2 : costL K v l < base
            · exact absurd ⟨q, q2⟩ c
            · omega)
  | some (d, b), h => by
    rw [mvU]
    obtain ⟨⟨h1, h2, h3, h4⟩, h5⟩ := h
    by_cases c : costL K v l ≠ -1 ∧ (costL K v l < d ∨ (costL K v l = d ∧ lx l b = true))
    · rw [if_pos c]
      obtain ⟨c1, c2⟩ := c
      refine ⟨⟨Or.inr rfl, rfl, c1, by rcases c2 with c2 | c2 <;> omega⟩, fun x hx => ?_⟩
      rcases hx with hx | hx
      · rcases h5 x hx with q | q | q
        · exact Or.inl q
        · exact Or.inr (Or.inl (by rcases c2 with c2 | c2 <;> omega))
        · rcases c2 with c2 | c2
          · exact Or.inr (Or.inl (by omega))
          · refine Or.inr (Or.inr ⟨by omega, ?_⟩)
            cases z : lx x l
            · rfl
            · have := lx_tr z c2.2
              rw [q.2] at this
              cases this
      · rw [hx]; exact Or.inr (Or.inr ⟨rfl, lx_irr l⟩)
    · rw [if_neg c]
      refine ⟨⟨Or.inl h1, h2, h3, h4⟩, fun x hx => ?_⟩
      rcases hx with hx | hx
      · exact h5 x hx
      · rw [hx]
        by_cases q : costL K v l = -1
        · exact Or.inl q
        · by_cases q2 : costL K v l < d
          · exact absurd ⟨q, Or.inl q2⟩ c
          · by_cases q3 : costL K v l = d
            · refine Or.inr (Or.inr ⟨q3.symm, ?_⟩)
              cases z : lx l b
              · rfl
              · exact absurd ⟨q, Or.inr ⟨q3, z⟩⟩ c
            · exact Or.inr (Or.inl (by omega))
theorem mvS_u {v base : Int} {C : List Int → Prop} {n : Nat} (hn : ∀ x, C x → x.length = n) : ∀ {s t : Option (Int × List Int)}, mvS K v base C s → mvS K v base C t → s = t
  | none, none, _, _ => rfl
  | none, some (c, l), h, k => by
    have := h l k.1.1
    have := k.1
    omega
  | some (c, l), none, h, k => by
    have := k l h.1.1
    have := h.1
    omega
  | some (c, l), some (d, b), ⟨⟨h1, h2, h3, h4⟩, h5⟩, ⟨⟨k1, k2, k3, k4⟩, k5⟩ => by
    have e : c = d ∧ lx b l = false ∧ lx l b = false := by
      rcases h5 b k1 with q | q | q <;> rcases k5 l h1 with w | w | w <;> first | omega | exact ⟨by omega, q.2, w.2⟩
    rw [e.1, lx_eq ((hn l h1).trans (hn b k1).symm) e.2.2 e.2.1]
theorem getD_get {L : List Int} {a : Nat} (ha : a < L.length) : L.getD a 0 = L[a] := by
  rw [List.getD_eq_getElem?_getD, List.getElem?_eq_getElem ha]
  rfl
theorem rowL_getD {f : Int → Int} {o : Int} {n i : Nat} (hi : i < n) : (rowL f o n).getD i 0 = f (o + (i : Int)) := by
  have hl : i < (rowL f o n).length := by rw [rowL_len]; exact hi
  rw [getD_get hl, rowL_get hl]
/-- the rows to which a move leads -/
def cTn (L : List Int) (n : Int) (x : List Int) : Prop := ∃ a b : Int, (0 ≤ a ∧ a < b ∧ b < n) ∧ x = trnL L a.toNat (b + 1).toNat
def cMv (L : List Int) (n : Int) (x : List Int) : Prop := ∃ a b : Int, ((0 ≤ a ∧ a < n) ∧ (0 ≤ b ∧ b < n) ∧ a ≠ b) ∧ x = insL (remL L a.toNat) b.toNat (L.getD a.toNat 0)
def cAll (L : List Int) (n : Int) (x : List Int) : Prop := cTn L n x ∨ cMv L n x
theorem getD_mem {L : List Int} {a : Nat} (ha : a < L.length) : L.getD a 0 ∈ L := by
  rw [getD_get ha]
  exact List.getElem_mem ha
theorem cAll_perm {L : List Int} {n : Int} (hn : n = L.length) {x : List Int} (hx : cAll L n x) : x.Perm L := by
  rcases hx with ⟨a, b, hab, e⟩ | ⟨a, b, hab, e⟩
  · rw [e]; exact trnL_perm (by omega)
  · rw [e]
    have ha : a.toNat < L.length := by omega
    refine insL_perm.trans ?_
    rw [getD_get ha]
    exact (remL_perm ha).symm
/-! the class -/
abbrev sBM : Nat → Int → Prop := fun c _ => 34 ≤ c ∧ c ≤ 37
theorem sBM_sc (f : Fr sBM h m) : Fr scC h m := fr_m (fun c i s => by unfold scC; dsimp only [sBM] at s; omega) f
def stB (base n : Int) (m : HH) : Option (Int × List Int) → Prop
  | none => m.1 34 6 = 0 ∧ m.1 34 5 = base
  | some (c, l) => m.1 34 6 = 1 ∧ m.1 34 5 = c ∧ rowL (m.1 36) 0 n.toNat = l
theorem sX7_isTriedFirst {n : Int} (hn : 0 ≤ n ∧ n ≤ 9) : nX7_isTriedFirst h n = some (if lx (rowL (h.1 35) 0 n.toNat) (rowL (h.1 36) 0 n.toNat) = true then 1 else 0) := by
  have key : ∀ (r N : Nat) (i : Int), r < N → i + r = n → 0 ≤ i → nX7_isTriedFirst_2 h N n i = some (if lx (rowL (h.1 35) i r) (rowL (h.1 36) i r) = true then 1 else 0) := by
    intro r
    induction r with
    | zero =>
      intro N i hN hi h0
      obtain ⟨M, rfl⟩ := fuel_s hN
      rw [nX7_isTriedFirst_2_s]
      simp only [bX7_isTriedFirst_2]
      rw [if_neg (by omega), gd_t (by omega)]
      rfl
    | succ r ih =>
      intro N i hN hi h0
      obtain ⟨M, rfl⟩ := fuel_s hN
      have e := ih M (i + 1) (by omega) (by omega) (by omega)
      rw [nX7_isTriedFirst_2_s]
      simp only [bX7_isTriedFirst_2]
      rw [if_pos (by omega), gd_t (by omega), gd_t (by omega), rowL, rowL, lx]
      by_cases c : h.1 35 i = h.1 36 i
      · rw [if_pos c, gd_t (by omega), if_neg (show ¬ h.1 35 i < h.1 36 i by omega), if_neg (show ¬ h.1 36 i < h.1 35 i by omega)]
        exact e
      · rw [if_neg c, gd_t (by omega), gd_t (by omega)]
        by_cases c1 : h.1 35 i < h.1 36 i
        · rw [if_pos c1, if_pos c1, if_pos rfl, gd_t (by omega)]
        · rw [if_neg c1, if_neg c1, if_pos (show h.1 36 i < h.1 35 i by omega), gd_t (by omega), if_neg (by decide)]
  unfold nX7_isTriedFirst bX7_isTriedFirst
  exact key n.toNat 100000 0 (by omega) (by omega) (by omega)
theorem a9_36 : A9 36 := ⟨⟨rfl, rfl⟩, rfl⟩
theorem a9_37 : A9 37 := ⟨⟨rfl, rfl⟩, rfl⟩
theorem c_take (i : INV h h') (f : Fr sBM h m) {v n base : Int} (v0 : 0 ≤ v) (v1 : v < h.1 13 14) (hn : 0 ≤ n ∧ n ≤ 9) (hl : rowL (m.1 35) 0 n.toNat = l) (hin : inR h.1 l) {s : Option (Int × List Int)} (hs : stB base n m s) : Ok (nX7_takeIfLeast v n m) (fun g => Fr (fun c _ => c = 34 ∨ c = 36) m g ∧ stB base n g (mvU h.1 v base l s)) := by
  have fs := sBM_sc f
  have im : INV m h' := INV_scr i fs fr_r
  have ec := sX2_costOf im.1.1.1 a9_35 (v := v) (n := n) v0 (by rw [sc_13 fs]; exact v1) (by omega) (by omega) (by rw [hl]; exact sc_inR fs hin)
  rw [hl, sc_cost fs] at ec
  have take : Ok (nX7_takeIfLeast_51 n (costL h.1 v l) m) (fun g => Fr (fun c _ => c = 34 ∨ c = 36) m g ∧ stB base n g (some (costL h.1 v l, l))) := by
    simp only [nX7_takeIfLeast_51, bX7_takeIfLeast_51]
    refine ok_bs ?_
    refine ok_gd (by decide) ?_
    refine ok_bs ?_
    refine ok_gd (by omega) ?_
    refine ok_bs ?_
    refine ok_some ⟨fr_C (fr_I (fr_I fr_r (Or.inl rfl)) (Or.inl rfl)) (fun _ => Or.inr rfl), ?_, ?_, ?_⟩
    · rw [rC_n (by decide), rI_s, updI_s]
    · rw [rC_n (by decide), rI_s, updI_n (by decide), rI_s, updI_s]
    · rw [rC_s, ← hl]
      refine rowL_ext (fun j hj => ?_)
      rw [if_pos (by omega), rI_n (by decide), rI_n (by decide), show (0 : Int) + (0 + (j : Int) - 0) = 0 + (j : Int) by omega]
  have keep : ∀ {t}, t = s → Ok (some m) (fun g => Fr (fun c _ => c = 34 ∨ c = 36) m g ∧ stB base n g t) := fun e => ok_some ⟨fr_r, by rw [e]; exact hs⟩
  simp only [nX7_takeIfLeast, bX7_takeIfLeast]
  refine ok_be ec ?_
  cases s with
  | none =>
    obtain ⟨s1, s2⟩ := hs
    by_cases c1 : costL h.1 v l = -1
    · refine ok_pos c1 ?_
      exact keep (by rw [mvU, if_neg (fun q => q.1 c1)])
    · refine ok_neg c1 ?_
      by_cases c2 : base < costL h.1 v l
      · refine ok_pos (by omega) ?_
        exact keep (by rw [mvU, if_neg (fun q => by have := q.2; omega)])
      · refine ok_neg (by omega) ?_
        by_cases c3 : costL h.1 v l < base
        · refine ok_pos (by omega) ?_
          rw [mvU, if_pos ⟨c1, c3⟩]
          exact take
        · refine ok_neg (by omega) ?_
          refine ok_pos s1 ?_
          exact keep (by rw [mvU, if_neg (fun q => c3 q.2)])
  | some p =>
    obtain ⟨d, b⟩ := p
    obtain ⟨s1, s2, s3⟩ := hs
    by_cases c1 : costL h.1 v l = -1
    · refine ok_pos c1 ?_
      exact keep (by rw [mvU, if_neg (fun q => q.1 c1)])
    · refine ok_neg c1 ?_
      by_cases c2 : d < costL h.1 v l
      · refine ok_pos (by omega) ?_
        exact keep (by rw [mvU, if_neg (fun q => by have := q.2; omega)])
      · refine ok_neg (by omega) ?_
        by_cases c3 : costL h.1 v l < d
        · refine ok_pos (by omega) ?_
          rw [mvU, if_pos ⟨c1, Or.inl c3⟩]
          exact take
        · refine ok_neg (by omega) ?_
          refine ok_neg (by omega) ?_
          refine ok_be (sX7_isTriedFirst hn) ?_
          rw [hl, s3]
          by_cases c4 : lx l b = true
          · rw [if_pos c4]
            refine ok_neg (by decide) ?_
            rw [mvU, if_pos ⟨c1, Or.inr ⟨by omega, c4⟩⟩]
            exact take
          · rw [if_neg c4]
            refine ok_pos rfl ?_
            refine keep ?_
            rw [mvU, if_neg]
            rintro ⟨_, q | q⟩
            · omega
            · exact c4 q.2
end LEAST
