/-! A CALCULUS for the plain functions: they come to an end with a result such that ..; what stores hold behind writes; frames; rows of arrays as lists -/
def Ok {α : Type} (x : Option α) (P : α → Prop) : Prop := ∃ a, x = some a ∧ P a
section OK
variable {α γ : Type} {P Q : α → Prop}
theorem ok_some {a : α} (h : P a) : Ok (some a) P := ⟨a, rfl, h⟩
theorem ok_of {x : Option α} {a : α} (e : x = some a) (h : P a) : Ok x P := ⟨a, e, h⟩
theorem ok_gd {c : Prop} [Decidable c] {k : Option α} (hc : c) (h : Ok k P) : Ok (gd c k) P := by rw [gd_t hc]; exact h
theorem ok_bs {a : γ} {f : γ → Option α} (h : Ok (f a) P) : Ok (bnd (some a) f) P := h
theorem ok_be {x : Option γ} {a : γ} {f : γ → Option α} (e : x = some a) (h : Ok (f a) P) : Ok (bnd x f) P := by rw [e]; exact h
theorem ok_bnd {x : Option γ} {f : γ → Option α} {R : γ → Prop} (hx : Ok x R) (h : ∀ a, R a → Ok (f a) P) : Ok (bnd x f) P := by
  obtain ⟨a, e, ha⟩ := hx
  exact ok_be e (h a ha)
theorem ok_bc {x : Option γ} {c : Prop} [Decidable c] {a b : γ} {f : γ → Option α} (e : x = some (if c then a else b)) (h1 : c → Ok (f a) P) (h2 : ¬ c → Ok (f b) P) : Ok (bnd x f) P := by
  refine ok_be e ?_
  by_cases hc : c
  · rw [if_pos hc]; exact h1 hc
  · rw [if_neg hc]; exact h2 hc
theorem ok_ite {c : Prop} [Decidable c] {a b : Option α} (h1 : c → Ok a P) (h2 : ¬ c → Ok b P) : Ok (if c then a else b) P := by
  by_cases hc : c
  · rw [if_pos hc]; exact h1 hc
  · rw [if_neg hc]; exact h2 hc
theorem ok_pos {c : Prop} [Decidable c] {a b : Option α} (hc : c) (h : Ok a P) : Ok (if c then a else b) P := by rw [if_pos hc]; exact h
theorem ok_neg {c : Prop} [Decidable c] {a b : Option α} (hc : ¬ c) (h : Ok b P) : Ok (if c then a else b) P := by rw [if_neg hc]; exact h
theorem ok_bt {b : Bool} {x y : Option α} (hb : b = true) (h : Ok x P) : Ok (bif b then x else y) P := by rw [hb]; exact h
theorem ok_bf {b : Bool} {x y : Option α} (hb : b = false) (h : Ok y P) : Ok (bif b then x else y) P := by rw [hb]; exact h
theorem ok_mono {x : Option α} (h : Ok x P) (hp : ∀ a, P a → Q a) : Ok x Q := by
  obtain ⟨a, e, ha⟩ := h
  exact ⟨a, e, hp a ha⟩
theorem ok_is {x : Option α} {b : α} (h : Ok x (fun a => a = b)) : x = some b := by
  obtain ⟨a, e, ha⟩ := h
  rw [e, ha]
theorem ok_tl {R : Type} {r : R} {A : R → Option α} {B : Nat → Option α} (h : Ok (A r) P) : Ok (tcase (.inl r) A B) P := h
theorem ok_tr {R : Type} {e : Nat} {A : R → Option α} {B : Nat → Option α} (h : Ok (B e) P) : Ok (tcase (.inr e) A B) P := h
end OK
section RD
theorem ca {f : Int → Int} {x y : Int} (e : x = y) : f x = f y := congrArg f e
def updI (f : Int → Int) (i x : Int) : Int → Int := fun j => if j = i then x else f j
theorem updI_s {f : Int → Int} {i x : Int} : updI f i x i = x := if_pos rfl
theorem updI_n {f : Int → Int} {i j x : Int} (h : j ≠ i) : updI f i x j = f j := if_neg h
theorem updI_at {f : Int → Int} {i j x : Int} : updI f i x j = if j = i then x else f j := rfl
variable {h : HH} {k k' : Nat} {i x : Int} {g : Int → Int}
theorem rI_s : (hI h k i x).1 k = updI (h.1 k) i x := by
  funext j
  show up2 h.1 k i x k j = _
  unfold up2 updI
  by_cases hj : j = i
  · rw [if_pos ⟨rfl, hj⟩, if_pos hj]
  · rw [if_neg (fun q => hj q.2), if_neg hj]
theorem rI_n (e : k' ≠ k) : (hI h k i x).1 k' = h.1 k' := by
  funext j
  exact if_neg (fun q => e q.1)
theorem rI_2 : (hI h k i x).2 = h.2 := rfl
theorem rC_s : (hC h k g).1 k = g := by
  funext j
  exact if_pos rfl
theorem rC_n (e : k' ≠ k) : (hC h k g).1 k' = h.1 k' := by
  funext j
  exact if_neg e
theorem rC_2 : (hC h k g).2 = h.2 := rfl
theorem rJ_1 : (hJ h k i x).1 = h.1 := rfl
theorem rJ_s : (hJ h k i x).2 k = updI (h.2 k) i x := by
  funext j
  show up2 h.2 k i x k j = _
  unfold up2 updI
  by_cases hj : j = i
  · rw [if_pos ⟨rfl, hj⟩, if_pos hj]
  · rw [if_neg (fun q => hj q.2), if_neg hj]
theorem rJ_n (e : k' ≠ k) : (hJ h k i x).2 k' = h.2 k' := by
  funext j
  exact if_neg (fun q => e q.1)
end RD
section FR
/-- all but what S says stays -/
def Fr (S : Nat → Int → Prop) (h h1 : HH) : Prop := h1.2 = h.2 ∧ ∀ c i, ¬ S c i → h1.1 c i = h.1 c i
variable {S T : Nat → Int → Prop} {h h1 h2 : HH}
theorem fr_r : Fr S h h := ⟨rfl, fun _ _ _ => rfl⟩
theorem fr_t (a : Fr S h h1) (b : Fr S h1 h2) : Fr S h h2 := ⟨b.1.trans a.1, fun c i q => (b.2 c i q).trans (a.2 c i q)⟩
theorem fr_m (m : ∀ c i, S c i → T c i) (a : Fr S h h1) : Fr T h h1 := ⟨a.1, fun c i q => a.2 c i (fun z => q (m c i z))⟩
theorem fr_c (a : Fr S h h1) (c : Nat) (q : ∀ i, ¬ S c i) : h1.1 c = h.1 c := funext fun i => a.2 c i (q i)
theorem fr_I (a : Fr S h h1) {c : Nat} {i x : Int} (q : S c i) : Fr S h (hI h1 c i x) := ⟨a.1, fun c' i' q' => by
  refine Eq.trans (if_neg ?_) (a.2 c' i' q')
  rintro ⟨rfl, rfl⟩
  exact q' q⟩
theorem fr_C (a : Fr S h h1) {c : Nat} {g : Int → Int} (q : ∀ i, S c i) : Fr S h (hC h1 c g) := ⟨a.1, fun c' i' q' => by
  refine Eq.trans (if_neg ?_) (a.2 c' i' q')
  rintro rfl
  exact q' (q i')⟩
end FR
section ROWL
/-- the row of n words of an array from o on -/
def rowL (f : Int → Int) (o : Int) : Nat → List Int
  | 0 => []
  | n + 1 => f o :: rowL f (o + 1) n
theorem rowL_len {f : Int → Int} : ∀ {n : Nat} {o : Int}, (rowL f o n).length = n
  | 0, _ => rfl
  | n + 1, o => by rw [rowL, List.length_cons, rowL_len]
theorem rowL_get {f : Int → Int} : ∀ {n : Nat} {o : Int} {i : Nat} (h : i < (rowL f o n).length), (rowL f o n)[i] = f (o + (i : Int))
  | 0, _, _, h => absurd h (Nat.not_lt_zero _)
  | n + 1, o, 0, _ => by simp only [rowL, List.getElem_cons_zero, Int.natCast_zero, Int.add_zero]
  | n + 1, o, i + 1, h => by
    simp only [rowL, List.getElem_cons_succ]
    rw [rowL_get]
    congr 1
    omega
theorem rowL_eq {f : Int → Int} {o : Int} {n : Nat} {l : List Int} (hl : l.length = n) (h : ∀ (i : Nat) (q : i < l.length), l[i] = f (o + (i : Int))) : rowL f o n = l :=
  List.ext_getElem (by rw [rowL_len, hl]) (fun i h1 h2 => by rw [rowL_get, h i h2])
theorem rowL_ext {f g : Int → Int} {o o' : Int} : ∀ {n : Nat}, (∀ i : Nat, i < n → f (o + (i : Int)) = g (o' + (i : Int))) → rowL f o n = rowL g o' n := fun {n} h =>
  rowL_eq rowL_len (fun i q => by
    rw [rowL_get, h i (by rw [rowL_len] at q; exact q)])
theorem rowL_mem {f : Int → Int} {o : Int} {n : Nat} {x : Int} (h : x ∈ rowL f o n) : ∃ i : Nat, i < n ∧ x = f (o + (i : Int)) := by
  obtain ⟨i, hi, e⟩ := List.getElem_of_mem h
  rw [rowL_get] at e
  rw [rowL_len] at hi
  exact ⟨i, hi, e.symm⟩
theorem rowL_of {f : Int → Int} {o : Int} {n : Nat} {i : Nat} (h : i < n) : f (o + (i : Int)) ∈ rowL f o n := by
  have e := rowL_get (f := f) (n := n) (o := o) (i := i) (by rw [rowL_len]; exact h)
  rw [← e]
  exact List.getElem_mem _
theorem rowL_snoc {f : Int → Int} : ∀ {n : Nat} {o : Int}, rowL f o (n + 1) = rowL f o n ++ [f (o + (n : Int))]
  | 0, o => by simp [rowL]
  | n + 1, o => by
    rw [rowL, rowL_snoc, rowL, List.cons_append]
    congr 3
    congr 1
    omega
theorem rowL_add {f : Int → Int} : ∀ {m n : Nat} {o : Int}, rowL f o (m + n) = rowL f o m ++ rowL f (o + (m : Int)) n
  | 0, n, o => by simp [rowL]
  | m + 1, n, o => by
    rw [show m + 1 + n = (m + n) + 1 by omega, rowL, rowL_add, rowL, List.cons_append]
    congr 3
    omega
/-- what stands in an array of a row's place -/
theorem rowL_upd {f : Int → Int} {o i x : Int} {n : Nat} (h : i < o ∨ o + (n : Int) ≤ i) : rowL (updI f i x) o n = rowL f o n :=
  rowL_ext (fun j hj => updI_n (by omega))
end ROWL
/-- a loop that goes on makes a round less -/
theorem fuel_s {N : Nat} {k : Nat} (h : k < N) : ∃ M, N = M + 1 := ⟨N - 1, by omega⟩
