/-! ORDERS looked through: the model -/
section DFS
variable {H m : HH} {K : Nat → Int → Int} {v n : Int}
abbrev sDF : Nat → Int → Prop := fun c i => c = 112 ∨ c = 113 ∨ c = 106 ∨ (c = 71 ∧ i = 52)
/-- what the search knows -/
def DH (K : Nat → Int → Int) (v n : Int) (H : HH) : Prop := (VAL K ∧ RM K H) ∧ CH K n ∧ (1 ≤ n ∧ (0 ≤ v ∧ v < K 13 14)) ∧ (∀ k, 0 ≤ k → k < n → H.1 107 k = K 50 k) ∧ ∀ l, ofS (allS n) l → ¬ K 23 v < sumL (K 15) (l.map (K 50))
def bsM (K : Nat → Int → Int) (n : Int) (m : HH) : Option (List Int) → Prop
  | none => m.1 71 52 = 0
  | some b => m.1 71 52 = n ∧ mbest m n = b.map (K 50)
theorem bsM_fr {S : Nat → Int → Prop} {g : HH} (f : Fr S m g) (q : ∀ c i, S c i → c ≠ 106 ∧ (c = 71 → i ≠ 52)) : ∀ {s : Option (List Int)}, bsM K n m s → bsM K n g s
  | none, hs => by
    have e2 := f.2 71 52 (fun z => (q _ _ z).2 rfl rfl)
    unfold bsM at hs ⊢
    rw [e2]; exact hs
  | some b, hs => by
    have e := fr_c f 106 (fun i z => (q _ _ z).1 rfl)
    have e2 := f.2 71 52 (fun z => (q _ _ z).2 rfl rfl)
    unfold bsM mbest at hs ⊢
    rw [e, e2]; exact hs
theorem bsS_E {C : List Int → Prop} {E : Int} : ∀ {s : Option (List Int)}, bsS K v n C E s → E ≤ K 25 v + 1
  | none, h => by have := h.1; omega
  | some b, h => by have := h.1.2.2.2.2; omega
theorem ext_c (hv : VAL K) (hvv : 0 ≤ K 24 v ∧ K 24 v ≤ 1439) {p t : List Int} {k : Int} (hi : inR K ((p ++ k :: t).map (K 50))) : cE K v (p ++ k :: t) = -1 ∨ (vE K v (p ++ [k]) ≠ -1 ∧ vE K v (p ++ [k]) ≤ cE K v (p ++ k :: t) + K 24 v) := by
  have e : p ++ k :: t = (p ++ [k]) ++ t := by rw [List.append_assoc]; rfl
  have hi1 : inR K ((p ++ [k]).map (K 50)) := fun x hx => hi x (by rw [e, List.map_append]; exact List.mem_append_left _ hx)
  have hi2 : inR K (t.map (K 50)) := fun x hx => hi x (by rw [e, List.map_append]; exact List.mem_append_right _ hx)
  have hpe := pE_b hv hi
  have hdv := v_D hv (a := pE K (p ++ k :: t)) (b := 0) hpe.1 hpe.2 (by omega) (by omega)
  rw [cE_v hv hvv.1 hi]
  by_cases c : vE K v (p ++ k :: t) = -1 ∨ dK K (pE K (p ++ k :: t)) 0 = -1 ∨ K 25 v < vE K v (p ++ k :: t) + dK K (pE K (p ++ k :: t)) 0 ∨ K 23 v < sumL (K 15) ((p ++ k :: t).map (K 50))
  · rw [if_pos c]; exact Or.inl rfl
  · rw [if_neg c]
    refine Or.inr ?_
    have c1 : vE K v (p ++ k :: t) ≠ -1 := fun q => c (Or.inl q)
    have c2 : dK K (pE K (p ++ k :: t)) 0 ≠ -1 := fun q => c (Or.inr (Or.inl q))
    have ev : vE K v (p ++ k :: t) = if vE K v (p ++ [k]) = -1 then -1 else gE K (t.map (K 50)) (vE K v (p ++ [k])) (pE K (p ++ [k])) := by
      rw [e]
      unfold vE pE
      rw [List.map_append, gE_app hvv.1 (srv_s hv hi1)]
    rw [ev] at c1 ⊢
    by_cases c3 : vE K v (p ++ [k]) = -1
    · rw [if_pos c3] at c1; exact absurd rfl c1
    · rw [if_neg c3] at c1 ⊢
      refine ⟨c3, ?_⟩
      have hb := (vE_b hv hvv hi1).resolve_left c3
      have hp1 := pE_b hv hi1
      rcases gE_b hv (m := vE K v (p ++ [k])) (pl := pE K (p ++ [k])) hi2 (by omega) with q | q | q
      · exact absurd q c1
      · omega
      · exact absurd hp1 q
theorem bt_clr {S q : Int} (hS : 0 ≤ S ∧ S < 512) (hq : 0 ≤ q ∧ q < 9) : (0 ≤ andI S (xorI (shlI 1 q) (-1)) ∧ andI S (xorI (shlI 1 q) (-1)) < 512) ∧ ∀ j, 0 ≤ j → j < 9 → (bt (andI S (xorI (shlI 1 q) (-1))) j = true ↔ bt S j = true ∧ j ≠ q) := by
  have e := bit_clr ⟨S.toNat, by omega⟩ ⟨q.toNat, by omega⟩
  dsimp only at e
  rw [show ((S.toNat : Nat) : Int) = S by omega, show ((q.toNat : Nat) : Int) = q by omega] at e
  rw [e]
  have hle : S.toNat &&& (511 ^^^ 2 ^ q.toNat) ≤ S.toNat := Nat.and_le_left
  refine ⟨by omega, fun j j0 j1 => ?_⟩
  unfold bt
  rw [Int.toNat_natCast, Nat.testBit_and, Nat.testBit_xor, Nat.testBit_two_pow]
  have h511 : Nat.testBit 511 j.toNat = true := by
    have : ∀ i : Fin 9, Nat.testBit 511 i.val = true := by decide
    exact this ⟨j.toNat, by omega⟩
  rw [h511]
  by_cases c : j = q
  · rw [c]; simp
  · rw [decide_eq_false (by omega)]; simp [c]
theorem bt_self {S : Int} (hS : 0 ≤ S ∧ S < 512) : andI S S = S := by
  have e := bit_self ⟨S.toNat, by omega⟩
  dsimp only at e
  rw [show ((S.toNat : Nat) : Int) = S by omega] at e
  exact e
theorem bt_or {S q : Int} (hS : 0 ≤ S ∧ S < 512) (hq : 0 ≤ q ∧ q < 9) : (0 ≤ orI S (shlI 1 q) ∧ orI S (shlI 1 q) < 512) ∧ ∀ j, 0 ≤ j → j < 9 → (bt (orI S (shlI 1 q)) j = true ↔ bt S j = true ∨ j = q) := by
  have e := bit_or ⟨S.toNat, by omega⟩ ⟨q.toNat, by omega⟩
  dsimp only at e
  rw [show ((S.toNat : Nat) : Int) = S by omega, show ((q.toNat : Nat) : Int) = q by omega] at e
  rw [e]
  have hlt : S.toNat ||| 2 ^ q.toNat < 2 ^ 9 := Nat.or_lt_two_pow (by omega) (Nat.pow_lt_pow_right (by omega) (by omega))
  refine ⟨by omega, fun j j0 j1 => ?_⟩
  unfold bt
  rw [Int.toNat_natCast, Nat.testBit_or, Nat.testBit_two_pow]
  by_cases c : j = q
  · rw [c]; simp
  · rw [decide_eq_false (by omega)]; simp [c]
/-- a set that holds just what p names -/
def usP (p : List Int) (U : Int) : Prop := (0 ≤ U ∧ U < 512) ∧ ∀ j, 0 ≤ j → j < 9 → (bt U j = true ↔ j ∈ p)
theorem m_144 {c96 : Int → Int → Int → Int → Int → HH → Option (Int × HH)} {P : Int × HH → Prop} {x1 x4 d U q : Int} {p : List Int} (hn : 0 ≤ n ∧ n ≤ 9) (hu : usP p U) (hk : ∀ k, q < k → k ≤ n → (∀ j, q < j → j < k → j ∈ p) → (k = n ∨ k ∉ p) → Ok (nX12_exactOf_167 c96 x1 n x4 U d k m) P) (hq : -1 ≤ q) : ∀ (r N : Nat) (k : Int), r < N → k + r = n → q < k → (∀ j, q < j → j < k → j ∈ p) → Ok (nX12_exactOf_144 c96 N x1 n x4 U d k m) P := by
  intro r
  induction r with
  | zero =>
    intro N k hN hkr h0 hj
    obtain ⟨M, rfl⟩ := fuel_s hN
    rw [nX12_exactOf_144_s]
    simp only [bX12_exactOf_144]
    refine ok_neg (by omega) ?_
    exact hk k h0 (by omega) hj (Or.inl (by omega))
  | succ r ih =>
    intro N k hN hkr h0 hj
    obtain ⟨M, rfl⟩ := fuel_s hN
    rw [nX12_exactOf_144_s]
    simp only [bX12_exactOf_144]
    refine ok_pos (by omega) ?_
    rw [bt_has hu.1 (show 0 ≤ k ∧ k < 9 by omega)]
    have hb := hu.2 k (by omega) (by omega)
    by_cases c : bt U k = true
    · rw [if_pos c]
      refine ok_pos rfl ?_
      refine ok_gd (by omega) ?_
      refine ih M (k + 1) (by omega) (by omega) (by omega) (fun j j0 j1 => ?_)
      by_cases e : j = k
      · rw [e]; exact hb.mp c
      · exact hj j j0 (by omega)
    · rw [if_neg c]
      refine ok_neg (by decide) ?_
      exact hk k h0 (by omega) hj (Or.inr (fun z => c (hb.mpr z)))
/-- the best row is kept -/
theorem m_386 {c96 : Int → Int → Int → Int → Int → HH → Option (Int × HH)} {P : Int × HH → Prop} {x1 x4 x5 d : Int} {g : HH} {b : List Int} (hn : 0 ≤ n ∧ n ≤ 9) (hb : rowL (g.1 112) 0 n.toNat = b) (hr : ∀ x ∈ b, 0 ≤ x ∧ x < n) (ho : ∀ k, 0 ≤ k → k < n → g.1 107 k = K 50 k) (hK : ∀ k, 0 ≤ k → k < n → 0 ≤ K 50 k ∧ K 50 k < 9) (hk : ∀ g', Fr (fun c _ => c = 106) g g' → mbest g' n = b.map (K 50) → Ok (nX12_exactOf_417 c96 x1 n x4 x5 d g') P) : ∀ (r N : Nat) (i : Int) (m : HH), r < N → i + r = n → 0 ≤ i → Fr (fun c _ => c = 106) g m → (∀ j, 0 ≤ j → j < i → m.1 106 j = K 50 (g.1 112 j)) → Ok (nX12_exactOf_386 c96 N x1 n x4 x5 d i m) P := by
  have h112 : ∀ i, 0 ≤ i → i < n → 0 ≤ g.1 112 i ∧ g.1 112 i < n := fun i i0 i1 => by
    refine hr _ ?_
    rw [← hb]
    have := rowL_of (f := g.1 112) (o := 0) (n := n.toNat) (i := i.toNat) (by omega)
    rw [show (0 : Int) + (i.toNat : Int) = i by omega] at this
    exact this
  intro r
  induction r with
  | zero =>
    intro N i m hN hi i0 f hj
    obtain ⟨M, rfl⟩ := fuel_s hN
    rw [nX12_exactOf_386_s]
    simp only [bX12_exactOf_386]
    refine ok_neg (by omega) ?_
    refine hk m f ?_
    unfold mbest
    rw [← hb]
    refine rowL_eq (by rw [List.length_map, rowL_len]) (fun k q => ?_)
    rw [List.getElem_map, rowL_get]
    rw [List.length_map, rowL_len] at q
    rw [hj _ (by omega) (by omega)]
  | succ r ih =>
    intro N i m hN hi i0 f hj
    obtain ⟨M, rfl⟩ := fuel_s hN
    have e112 : m.1 112 = g.1 112 := fr_c f 112 (fun i s => by omega)
    have e107 : m.1 107 = g.1 107 := fr_c f 107 (fun i s => by omega)
    have hg := h112 i i0 (by omega)
    rw [nX12_exactOf_386_s]
    simp only [bX12_exactOf_386]
    refine ok_pos (by omega) ?_
    refine ok_gd (by omega) ?_
    rw [e112]
    refine ok_gd (by omega) ?_
    refine ok_gd (by omega) ?_
    refine ok_bs ?_
    refine ok_gd (by omega) ?_
    refine ih M (i + 1) _ (by omega) (by omega) (by omega) (fr_I f rfl) (fun j j0 j1 => ?_)
    rw [rI_s, updI_at, e107]
    by_cases c : j = i
    · rw [if_pos c, c]; exact ho _ hg.1 hg.2
    · rw [if_neg c]; exact hj j j0 (by omega)
end DFS
