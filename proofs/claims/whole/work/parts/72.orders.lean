/-! ORDERS of parcels: their ends -/
section ORDERS
variable {K : Nat → Int → Int} {v : Int}
def gE (K : Nat → Int → Int) : List Int → Int → Int → Int
  | [], m, _ => m
  | p :: l, m, pl => if srv K p pl m = -1 then -1 else gE K l (srv K p pl m + K 19 p) (K 14 p)
def lPl (K : Nat → Int → Int) : List Int → Int → Int
  | [], pl => pl
  | p :: l, _ => lPl K l (K 14 p)
theorem lPl_snoc {p : Int} : ∀ {l : List Int} {pl : Int}, lPl K (l ++ [p]) pl = K 14 p
  | [], _ => rfl
  | x :: l, pl => by
    show lPl K (l ++ [p]) (K 14 x) = K 14 p
    exact lPl_snoc
theorem lPl_b (hv : VAL K) : ∀ {l : List Int} {pl : Int}, inR K l → (0 ≤ pl ∧ pl ≤ 15) → 0 ≤ lPl K l pl ∧ lPl K l pl ≤ 15
  | [], _, _, h => h
  | x :: l, pl, hi, _ => by
    obtain ⟨hx, hi⟩ := inR_c hi
    have := v_p hv hx.1 hx.2
    exact lPl_b hv hi (pl := K 14 x) (by omega)
theorem gE_b (hv : VAL K) : ∀ {l : List Int} {m pl : Int}, inR K l → (0 ≤ m ∧ m ≤ 1499) → gE K l m pl = -1 ∨ (m ≤ gE K l m pl ∧ gE K l m pl ≤ 1499) ∨ ¬ (0 ≤ pl ∧ pl ≤ 15)
  | [], m, pl, _, hm => Or.inr (Or.inl ⟨Int.le_refl _, hm.2⟩)
  | p :: l, m, pl, hi, hm => by
    obtain ⟨hp, hi⟩ := inR_c hi
    have hpp := v_p hv hp.1 hp.2
    rw [gE]
    by_cases c : srv K p pl m = -1
    · rw [if_pos c]; exact Or.inl rfl
    · rw [if_neg c]
      by_cases cp : 0 ≤ pl ∧ pl ≤ 15
      · have hs := (srv_K hv (p := p) (pl := pl) (m := m) hp.1 hp.2).resolve_left c
        have hd := v_D hv cp.1 cp.2 (b := K 14 p) (by omega) (by omega)
        rcases gE_b hv (l := l) (m := srv K p pl m + K 19 p) (pl := K 14 p) hi (by omega) with q | q | q
        · exact Or.inl q
        · exact Or.inr (Or.inl (by omega))
        · omega
      · exact Or.inr (Or.inr cp)
theorem gE_app : ∀ {l l' : List Int} {m pl : Int}, 0 ≤ m → (∀ p ∈ l, ∀ x y, srv K p x y = -1 ∨ 0 ≤ srv K p x y + K 19 p) → gE K (l ++ l') m pl = if gE K l m pl = -1 then -1 else gE K l' (gE K l m pl) (lPl K l pl)
  | [], l', m, pl, hm, _ => by
    have e : gE K [] m pl = m := rfl
    rw [e, if_neg (by omega)]
    rfl
  | p :: l, l', m, pl, hm, hs => by
    rw [List.cons_append, gE, gE]
    by_cases c : srv K p pl m = -1
    · rw [if_pos c, if_pos c, if_pos rfl]
    · rw [if_neg c, if_neg c]
      have := (hs p List.mem_cons_self pl m).resolve_left c
      exact gE_app this (fun q hq => hs q (List.mem_cons_of_mem _ hq))
theorem srv_s (hv : VAL K) {l : List Int} (hi : inR K l) : ∀ p ∈ l, ∀ x y, srv K p x y = -1 ∨ 0 ≤ srv K p x y + K 19 p := fun p hp x y => by
  have h := hi p hp
  have hpp := v_p hv h.1 h.2
  rcases srv_K hv (p := p) (pl := x) (m := y) h.1 h.2 with q | q
  · exact Or.inl q
  · exact Or.inr (by omega)
theorem srv_m (hv : VAL K) {p pl m m' : Int} (hp : 0 ≤ p ∧ p < K 13 10) (h : m ≤ m') (hs : srv K p pl m' ≠ -1) : srv K p pl m ≠ -1 ∧ srv K p pl m ≤ srv K p pl m' := by
  have hpp := v_p hv hp.1 hp.2
  unfold srv at hs ⊢
  by_cases c1 : dK K pl (K 14 p) = -1
  · rw [if_pos c1] at hs; exact absurd rfl hs
  · rw [if_neg c1] at hs ⊢
    by_cases c2 : K 18 p < max (m' + dK K pl (K 14 p)) (K 17 p)
    · rw [if_pos c2] at hs; exact absurd rfl hs
    · rw [if_neg c2, if_neg c1, if_neg (by omega)]
      omega
theorem gE_m (hv : VAL K) : ∀ {l : List Int} {m m' pl : Int}, inR K l → 0 ≤ m → m ≤ m' → gE K l m' pl ≠ -1 → gE K l m pl ≠ -1 ∧ gE K l m pl ≤ gE K l m' pl
  | [], m, m', pl, _, h0, h, _ => by
    show m ≠ -1 ∧ m ≤ m'
    omega
  | p :: l, m, m', pl, hi, h0, h, hg => by
    obtain ⟨hp, hi'⟩ := inR_c hi
    rw [gE] at hg ⊢
    rw [gE]
    by_cases c : srv K p pl m' = -1
    · rw [if_pos c] at hg; exact absurd rfl hg
    · rw [if_neg c] at hg ⊢
      have z := srv_m hv hp h c
      have zs := (srv_s hv hi p List.mem_cons_self pl m).resolve_left z.1
      rw [if_neg z.1]
      exact gE_m hv hi' zs (by omega) hg
theorem sumL_app {g : Int → Int} : ∀ {l l' : List Int}, sumL g (l ++ l') = sumL g l + sumL g l'
  | [], l' => by simp [sumL]
  | x :: l, l' => by
    show sumL g (x :: (l ++ l')) = _
    rw [sumL, sumL, sumL_app]
    omega
theorem sumL_perm {g : Int → Int} {l l' : List Int} (h : l.Perm l') : sumL g l = sumL g l' := by
  induction h with
  | nil => rfl
  | cons x _ ih => rw [sumL, sumL, ih]
  | swap x y l => rw [sumL, sumL, sumL, sumL]; omega
  | trans _ _ h1 h2 => rw [h1, h2]
theorem cst_gE : ∀ {l : List Int} {m pl sz : Int}, 0 ≤ m → (∀ p ∈ l, ∀ x y, srv K p x y = -1 ∨ 0 ≤ srv K p x y + K 19 p) → cst K v l m pl sz = if gE K l m pl = -1 ∨ dK K (lPl K l pl) 0 = -1 ∨ K 25 v < gE K l m pl + dK K (lPl K l pl) 0 ∨ K 23 v < sz + sumL (K 15) l then -1 else gE K l m pl + dK K (lPl K l pl) 0 - K 24 v
  | [], m, pl, sz, h0, _ => by
    have e : gE K [] m pl = m := rfl
    have e2 : lPl K [] pl = pl := rfl
    have e3 : sumL (K 15) [] = 0 := rfl
    rw [cst, e, e2, e3, Int.add_zero]
    by_cases c : dK K pl 0 = -1 ∨ K 25 v < m + dK K pl 0 ∨ K 23 v < sz
    · rw [if_pos c, if_pos (Or.inr c)]
    · rw [if_neg c, if_neg]
      rintro (q | q)
      · omega
      · exact c q
  | p :: l, m, pl, sz, h0, hs => by
    rw [cst, gE, sumL]
    by_cases c : srv K p pl m = -1
    · rw [if_pos c, if_pos c, if_pos (Or.inl rfl)]
    · rw [if_neg c, if_neg c]
      have z := (hs p List.mem_cons_self pl m).resolve_left c
      rw [cst_gE z (fun q hq => hs q (List.mem_cons_of_mem _ hq)), show sz + K 15 p + sumL (K 15) l = sz + (K 15 p + sumL (K 15) l) by omega]
      rfl
/-- chosen parcels by their numbers -/
def vE (K : Nat → Int → Int) (v : Int) (l : List Int) : Int := gE K (l.map (K 50)) (K 24 v) 0
def pE (K : Nat → Int → Int) (l : List Int) : Int := lPl K (l.map (K 50)) 0
def cE (K : Nat → Int → Int) (v : Int) (l : List Int) : Int := costL K v (l.map (K 50))
/-- chosen parcels are there -/
def CH (K : Nat → Int → Int) (n : Int) : Prop := (0 ≤ n ∧ n ≤ 9) ∧ ∀ i, 0 ≤ i → i < n → 0 ≤ K 50 i ∧ K 50 i < K 13 10
theorem ofS_in {n S : Int} (hc : CH K n) (hS : 0 ≤ S ∧ S ≤ allS n) {l : List Int} (h : ofS S l) : inR K (l.map (K 50)) := fun p hp => by
  obtain ⟨i, h1, h2⟩ := List.mem_map.mp hp
  have z := (h.2 i).mp h1
  rw [← h2]
  exact hc.2 i z.1.1 (bt_le hc.1 hS z.1 z.2)
theorem vE_snoc (hv : VAL K) (hvv : 0 ≤ K 24 v) {l : List Int} {i : Int} (hi : inR K (l.map (K 50))) : vE K v (l ++ [i]) = if vE K v l = -1 then -1 else if srv K (K 50 i) (pE K l) (vE K v l) = -1 then -1 else srv K (K 50 i) (pE K l) (vE K v l) + K 19 (K 50 i) := by
  unfold vE pE
  rw [List.map_append, gE_app hvv (srv_s hv hi)]
  rfl
theorem pE_snoc {l : List Int} {i : Int} : pE K (l ++ [i]) = K 14 (K 50 i) := by
  unfold pE
  rw [List.map_append]
  exact lPl_snoc
theorem cE_v (hv : VAL K) (hvv : 0 ≤ K 24 v) {l : List Int} (hi : inR K (l.map (K 50))) : cE K v l = if vE K v l = -1 ∨ dK K (pE K l) 0 = -1 ∨ K 25 v < vE K v l + dK K (pE K l) 0 ∨ K 23 v < sumL (K 15) (l.map (K 50)) then -1 else vE K v l + dK K (pE K l) 0 - K 24 v := by
  unfold cE costL
  rw [cst_gE hvv (srv_s hv hi), Int.zero_add]
  rfl
theorem vE_b (hv : VAL K) (hvv : 0 ≤ K 24 v ∧ K 24 v ≤ 1439) {l : List Int} (hi : inR K (l.map (K 50))) : vE K v l = -1 ∨ (K 24 v ≤ vE K v l ∧ vE K v l ≤ 1499) := by
  rcases gE_b hv (m := K 24 v) (pl := 0) hi (by omega) with q | q | q
  · exact Or.inl q
  · exact Or.inr q
  · omega
theorem pE_b (hv : VAL K) {l : List Int} (hi : inR K (l.map (K 50))) : 0 ≤ pE K l ∧ pE K l ≤ 15 := lPl_b hv hi (by omega)
end ORDERS
