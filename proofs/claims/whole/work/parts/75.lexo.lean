/-! ORDERS looked through one after another -/
section LEXO
variable {K : Nat → Int → Int} {v n : Int}
/-- what stands ahead of the rows that begin with p and go on above q -/
def exq : List Int → Int → List Int → Prop
  | [], q, l => ∃ x t, l = x :: t ∧ x ≤ q
  | a :: p, q, l => ∃ x t, l = x :: t ∧ (x < a ∨ (x = a ∧ exq p q t))
theorem exq_lx : ∀ {p b : List Int} {k : Int} {t : List Int}, exq p (k - 1) b → lx b (p ++ k :: t) = true
  | [], b, k, t, ⟨x, u, e, h⟩ => by
    rw [e, List.nil_append, lx, if_pos (by omega)]
  | a :: p, b, k, t, ⟨x, u, e, h⟩ => by
    rw [e, List.cons_append, lx]
    rcases h with h | ⟨h, h'⟩
    · rw [if_pos h]
    · rw [if_neg (by omega), if_neg (by omega)]
      exact exq_lx h'
theorem exq_k : ∀ {p : List Int} {q k : Int} {l : List Int}, q ≤ k → (exq p k l ↔ exq p q l ∨ ∃ j t, (q < j ∧ j ≤ k) ∧ l = p ++ j :: t)
  | [], q, k, l, hq => by
    constructor
    · rintro ⟨x, t, e, h⟩
      by_cases c : x ≤ q
      · exact Or.inl ⟨x, t, e, c⟩
      · exact Or.inr ⟨x, t, by omega, e⟩
    · rintro (⟨x, t, e, h⟩ | ⟨j, t, h, e⟩)
      · exact ⟨x, t, e, by omega⟩
      · exact ⟨j, t, e, h.2⟩
  | a :: p, q, k, l, hq => by
    constructor
    · rintro ⟨x, t, e, h | ⟨h, h'⟩⟩
      · exact Or.inl ⟨x, t, e, Or.inl h⟩
      · rcases (exq_k hq).mp h' with w | ⟨j, u, w1, w2⟩
        · exact Or.inl ⟨x, t, e, Or.inr ⟨h, w⟩⟩
        · exact Or.inr ⟨j, u, w1, by rw [e, h, w2]; rfl⟩
    · rintro (⟨x, t, e, h | ⟨h, h'⟩⟩ | ⟨j, t, h, e⟩)
      · exact ⟨x, t, e, Or.inl h⟩
      · exact ⟨x, t, e, Or.inr ⟨h, (exq_k hq).mpr (Or.inl h')⟩⟩
      · exact ⟨a, p ++ j :: t, e, Or.inr ⟨rfl, (exq_k hq).mpr (Or.inr ⟨j, t, h, rfl⟩)⟩⟩
theorem exq_dn : ∀ {p : List Int} {k : Int} {l : List Int}, (∀ x ∈ l, 0 ≤ x) → (exq (p ++ [k]) (-1) l ↔ exq p (k - 1) l)
  | [], k, l, hl => by
    constructor
    · rintro ⟨x, t, e, h | ⟨h, y, u, e2, h2⟩⟩
      · exact ⟨x, t, e, by omega⟩
      · have := hl y (by rw [e, e2]; exact List.mem_cons_of_mem _ List.mem_cons_self)
        omega
    · rintro ⟨x, t, e, h⟩
      exact ⟨x, t, e, Or.inl (by omega)⟩
  | a :: p, k, l, hl => by
    constructor
    · rintro ⟨x, t, e, h | ⟨h, h'⟩⟩
      · exact ⟨x, t, e, Or.inl h⟩
      · exact ⟨x, t, e, Or.inr ⟨h, (exq_dn (fun y hy => hl y (by rw [e]; exact List.mem_cons_of_mem _ hy))).mp h'⟩⟩
    · rintro ⟨x, t, e, h | ⟨h, h'⟩⟩
      · exact ⟨x, t, e, Or.inl h⟩
      · exact ⟨x, t, e, Or.inr ⟨h, (exq_dn (fun y hy => hl y (by rw [e]; exact List.mem_cons_of_mem _ hy))).mpr h'⟩⟩
theorem exq_up : ∀ {p : List Int} {k : Int} {l : List Int}, (∀ x ∈ l, x < n) → p.length + 1 < l.length → (exq (p ++ [k]) (n - 1) l ↔ exq p k l)
  | [], k, l, hl, hlen => by
    constructor
    · rintro ⟨x, t, e, h | ⟨h, _⟩⟩
      · exact ⟨x, t, e, by omega⟩
      · exact ⟨x, t, e, by omega⟩
    · rintro ⟨x, t, e, h⟩
      refine ⟨x, t, e, ?_⟩
      by_cases c : x < k
      · exact Or.inl c
      · refine Or.inr ⟨by omega, ?_⟩
        cases t with
        | nil => rw [e] at hlen; exact absurd hlen (by simp)
        | cons y u => exact ⟨y, u, rfl, by have := hl y (by rw [e]; exact List.mem_cons_of_mem _ List.mem_cons_self); omega⟩
  | a :: p, k, l, hl, hlen => by
    have go : ∀ x t, l = x :: t → (exq (p ++ [k]) (n - 1) t ↔ exq p k t) := fun x t e => exq_up (fun y hy => hl y (by rw [e]; exact List.mem_cons_of_mem _ hy)) (by rw [e] at hlen; simp only [List.length_cons] at hlen; omega)
    constructor
    · rintro ⟨x, t, e, h | ⟨h, h'⟩⟩
      · exact ⟨x, t, e, Or.inl h⟩
      · exact ⟨x, t, e, Or.inr ⟨h, (go x t e).mp h'⟩⟩
    · rintro ⟨x, t, e, h | ⟨h, h'⟩⟩
      · exact ⟨x, t, e, Or.inl h⟩
      · exact ⟨x, t, e, Or.inr ⟨h, (go x t e).mpr h'⟩⟩
theorem lx_as {a b : List Int} (h : lx a b = true) : lx b a = false := by
  cases z : lx b a
  · rfl
  · have := lx_tr h z
    rw [lx_irr] at this
    cases this
/-- orders of all -/
theorem all_len (hn : 0 ≤ n ∧ n ≤ 9) {l : List Int} (h : ofS (allS n) l) : l.length = n.toNat := by
  have hall := allS_b hn
  have h1 : l.Perm (canS (allS n) n.toNat) := by
    rw [canS_le hn ⟨hall.1, Int.le_refl _⟩]
    exact ofS_p h canS_of
  rw [h1.length_eq]
  have : ∀ k : Nat, (k : Int) ≤ n → (canS (allS n) k).length = k := fun k => by
    induction k with
    | zero => intro _; rfl
    | succ k ih =>
      intro hk
      rw [canS, if_pos ((allS_bt hn (by omega)).mpr (by omega)), List.length_append, ih (by omega)]
      rfl
  exact this n.toNat (by omega)
theorem all_m (hn : 0 ≤ n ∧ n ≤ 9) {l : List Int} (h : ofS (allS n) l) {i : Int} (hi : i ∈ l) : 0 ≤ i ∧ i < n := by
  have z := (h.2 i).mp hi
  exact ⟨z.1.1, (allS_bt hn z.1).mp z.2⟩
/-- the least order so far -/
def bsS (K : Nat → Int → Int) (v n : Int) (C : List Int → Prop) (E : Int) : Option (List Int) → Prop
  | none => E = K 25 v + 1 ∧ ∀ l, ofS (allS n) l → C l → cE K v l = -1
  | some b => (ofS (allS n) b ∧ C b ∧ cE K v b ≠ -1 ∧ E = cE K v b + K 24 v ∧ E ≤ K 25 v) ∧ ∀ l, ofS (allS n) l → C l → cE K v l = -1 ∨ cE K v b < cE K v l ∨ (cE K v b = cE K v l ∧ lx l b = false)
theorem bsS_cg {C D : List Int → Prop} {E : Int} (e : ∀ l, ofS (allS n) l → (C l ↔ D l)) : ∀ {s : Option (List Int)}, bsS K v n C E s → bsS K v n D E s
  | none, h => ⟨h.1, fun l hl hd => h.2 l hl ((e l hl).mpr hd)⟩
  | some b, h => ⟨⟨h.1.1, (e b h.1.1).mp h.1.2.1, h.1.2.2⟩, fun l hl hd => h.2 l hl ((e l hl).mpr hd)⟩
/-- costs are within the van's time -/
theorem cE_le (hv : VAL K) (hvv : 0 ≤ K 24 v) {l : List Int} (hi : inR K (l.map (K 50))) : cE K v l = -1 ∨ cE K v l + K 24 v ≤ K 25 v := by
  rw [cE_v hv hvv hi]
  by_cases c : vE K v l = -1 ∨ dK K (pE K l) 0 = -1 ∨ K 25 v < vE K v l + dK K (pE K l) 0 ∨ K 23 v < sumL (K 15) (l.map (K 50))
  · rw [if_pos c]; exact Or.inl rfl
  · rw [if_neg c]
    refine Or.inr ?_
    have : ¬ K 25 v < vE K v l + dK K (pE K l) 0 := fun q => c (Or.inr (Or.inr (Or.inl q)))
    omega
/-- rows that can't be less -/
theorem bsS_skip (hc : CH K n) (hv : VAL K) (hvv : 0 ≤ K 24 v) {p : List Int} {k E : Int} (hk : ∀ l t, ofS (allS n) l → l = p ++ k :: t → cE K v l = -1 ∨ E ≤ cE K v l + K 24 v) : ∀ {s : Option (List Int)}, bsS K v n (exq p (k - 1)) E s → bsS K v n (exq p k) E s
  | none, h => ⟨h.1, fun l hl hd => by
    have hall := allS_b hc.1
    rcases (exq_k (show k - 1 ≤ k by omega)).mp hd with q | ⟨j, t, w1, w2⟩
    · exact h.2 l hl q
    · rw [show j = k by omega] at w2
      rcases hk l t hl w2 with q | q
      · exact q
      · have e := h.1
        rcases cE_le (v := v) hv hvv (ofS_in hc ⟨hall.1, Int.le_refl _⟩ hl) with z | z
        · exact z
        · omega⟩
  | some b, h => by
    refine ⟨⟨h.1.1, (exq_k (show k - 1 ≤ k by omega)).mpr (Or.inl h.1.2.1), h.1.2.2⟩, fun l hl hd => ?_⟩
    rcases (exq_k (show k - 1 ≤ k by omega)).mp hd with q | ⟨j, t, w1, w2⟩
    · exact h.2 l hl q
    · rw [show j = k by omega] at w2
      rcases hk l t hl w2 with q | q
      · exact Or.inl q
      · have e := h.1.2.2.2.1
        by_cases c : cE K v b < cE K v l
        · exact Or.inr (Or.inl c)
        · refine Or.inr (Or.inr ⟨by omega, ?_⟩)
          rw [w2]
          exact lx_as (exq_lx h.1.2.1)
/-- a row that is less -/
theorem bsS_take (hc : CH K n) {p : List Int} {k E E' : Int} (ho : ofS (allS n) (p ++ [k])) (h1 : cE K v (p ++ [k]) ≠ -1) (h2 : E' = cE K v (p ++ [k]) + K 24 v) (h3 : E' < E) (h4 : E' ≤ K 25 v) : ∀ {s : Option (List Int)}, bsS K v n (exq p (k - 1)) E s → bsS K v n (exq p k) E' (some (p ++ [k])) := fun {s} h => by
  have hlen := all_len hc.1 ho
  refine ⟨⟨ho, (exq_k (show k - 1 ≤ k by omega)).mpr (Or.inr ⟨k, [], by omega, rfl⟩), h1, h2, h4⟩, fun l hl hd => ?_⟩
  rcases (exq_k (show k - 1 ≤ k by omega)).mp hd with q | ⟨j, t, w1, w2⟩
  · cases s with
    | none => exact Or.inl (h.2 l hl q)
    | some b =>
      have e := h.1.2.2.2.1
      rcases h.2 l hl q with z | z | z
      · exact Or.inl z
      · exact Or.inr (Or.inl (by omega))
      · exact Or.inr (Or.inl (by omega))
  · rw [show j = k by omega] at w2
    have hl2 := all_len hc.1 hl
    have ht : t = [] := by
      rw [w2] at hl2
      simp only [List.length_append, List.length_cons, List.length_nil] at hl2 hlen
      cases t with
      | nil => rfl
      | cons y u => simp only [List.length_cons] at hl2; omega
    rw [w2, ht]
    exact Or.inr (Or.inr ⟨rfl, lx_irr _⟩)
/-- what is left to be tried -/
def cuT (n : Int) (p : List Int) (q : Int) : Int := sumS (fun j => if q < j ∧ j ∉ p then 1 else 0) n.toNat
theorem cuT_b (p : List Int) (q : Int) : 0 ≤ cuT n p q := (sumS_1 (fun j _ => by
  show 0 ≤ (if q < (j : Int) ∧ (j : Int) ∉ p then (1 : Int) else 0) ∧ (if q < (j : Int) ∧ (j : Int) ∉ p then (1 : Int) else 0) ≤ 1
  split <;> omega)).1
theorem cuT_step {p : List Int} {q k : Int} (hq : -1 ≤ q ∧ q < k) (hk : k < n) (hkp : k ∉ p) (hj : ∀ j, q < j → j < k → j ∈ p) : cuT n p k = cuT n p q - 1 := by
  have e : ((k.toNat : Nat) : Int) = k := by omega
  have hu := sumS_upd (g := fun j => if q < j ∧ j ∉ p then 1 else 0) (g' := fun j => if k < j ∧ j ∉ p then 1 else 0) (k := k.toNat) (n := n.toNat) (by omega) (fun j h1 h2 => by
    show (if k < (j : Int) ∧ (j : Int) ∉ p then (1 : Int) else 0) = if q < (j : Int) ∧ (j : Int) ∉ p then (1 : Int) else 0
    by_cases c : k < (j : Int) ∧ (j : Int) ∉ p
    · rw [if_pos c, if_pos ⟨by omega, c.2⟩]
    · rw [if_neg c, if_neg]
      rintro ⟨d1, d2⟩
      by_cases c2 : (j : Int) < k
      · exact d2 (hj _ d1 c2)
      · exact c ⟨by omega, d2⟩)
  rw [e] at hu
  have hu2 : cuT n p k = cuT n p q + ((if k < k ∧ k ∉ p then (1 : Int) else 0) - if q < k ∧ k ∉ p then (1 : Int) else 0) := hu
  rw [if_neg (fun z => by omega), if_pos ⟨hq.2, hkp⟩] at hu2
  omega
theorem cuT_down {p : List Int} {k : Int} (hk : 0 ≤ k ∧ k < n) (hkp : k ∉ p) : cuT n (p ++ [k]) (-1) = cuT n p (-1) - 1 := by
  have e : ((k.toNat : Nat) : Int) = k := by omega
  have hu := sumS_upd (g := fun j => if -1 < j ∧ j ∉ p then 1 else 0) (g' := fun j => if -1 < j ∧ j ∉ p ++ [k] then 1 else 0) (k := k.toNat) (n := n.toNat) (by omega) (fun j h1 h2 => by
    show (if -1 < (j : Int) ∧ (j : Int) ∉ p ++ [k] then (1 : Int) else 0) = if -1 < (j : Int) ∧ (j : Int) ∉ p then (1 : Int) else 0
    have : ((j : Int) ∉ p ++ [k]) ↔ (j : Int) ∉ p := by
      rw [List.mem_append, List.mem_singleton]
      constructor
      · exact fun w z => w (Or.inl z)
      · rintro w (z | z)
        · exact w z
        · omega
    simp only [this])
  rw [e] at hu
  have hu2 : cuT n (p ++ [k]) (-1) = cuT n p (-1) + ((if -1 < k ∧ k ∉ p ++ [k] then (1 : Int) else 0) - if -1 < k ∧ k ∉ p then (1 : Int) else 0) := hu
  rw [if_neg (fun z => z.2 (List.mem_append_right _ List.mem_cons_self)), if_pos ⟨by omega, hkp⟩] at hu2
  omega
theorem cuT_0 {p : List Int} {q : Int} (h : ∀ j, q < j → j < n → j ∈ p) : cuT n p q = 0 := by
  have : cuT n p q = sumS (fun _ => 0) n.toNat := sumS_cg (fun j hj => by
    show (if q < (j : Int) ∧ (j : Int) ∉ p then (1 : Int) else 0) = 0
    rw [if_neg]
    rintro ⟨d1, d2⟩
    exact d2 (h _ d1 (by omega)))
  rw [this]
  have : ∀ m : Nat, sumS (fun _ => (0 : Int)) m = 0 := fun m => by
    induction m with
    | zero => rfl
    | succ m ih => rw [sumS, ih]; rfl
  exact this _
/-- steps of the search -/
def TT : Nat → Nat
  | 0 => 0
  | r + 1 => 1 + (r + 1) * (1 + TT r)
end LEXO
