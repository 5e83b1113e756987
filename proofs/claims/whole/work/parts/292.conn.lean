/-! WHAT PAIRS CONNECT; greedy choices of least pairs across a cut are least of all that connects -/
section CONN
def EQV (R : Int → Int → Prop) : Prop := (∀ x, R x x) ∧ (∀ x y, R x y → R y x) ∧ (∀ x y z, R x y → R y z → R x z)
/-- the least equivalence with R and the pairs -/
def cn (R : Int → Int → Prop) (l : List (Int × Int)) (x y : Int) : Prop := ∀ S : Int → Int → Prop, EQV S → (∀ x y, R x y → S x y) → (∀ e ∈ l, S e.1 e.2) → S x y
variable {R T : Int → Int → Prop} {l l' : List (Int × Int)} {a b x y z : Int} {e : Int × Int}
theorem cn_R (h : R x y) : cn R l x y := fun S _ hR _ => hR x y h
theorem cn_e (h : e ∈ l) : cn R l e.1 e.2 := fun S _ _ hl => hl e h
theorem cn_eqv : EQV (cn R l) := ⟨fun x S hS _ _ => hS.1 x, fun x y h S hS hR hl => hS.2.1 x y (h S hS hR hl), fun x y z h k S hS hR hl => hS.2.2 x y z (h S hS hR hl) (k S hS hR hl)⟩
theorem cn_le (hT : EQV T) (hR : ∀ x y, R x y → T x y) (hl : ∀ e ∈ l, T e.1 e.2) (h : cn R l x y) : T x y := h T hT hR hl
theorem cn_sub (hs : ∀ e ∈ l, e ∈ l') (h : cn R l x y) : cn R l' x y := cn_le cn_eqv (fun _ _ q => cn_R q) (fun e he => cn_e (hs e he)) h
theorem cn_nil (hR : EQV R) (h : cn R [] x y) : R x y := h R hR (fun _ _ q => q) (fun e he => absurd he List.not_mem_nil)
theorem cn_cn (h : cn (cn R l) l' x y) : cn R (l ++ l') x y := cn_le cn_eqv (fun _ _ q => cn_sub (fun e he => List.mem_append_left _ he) q) (fun e he => cn_e (List.mem_append_right _ he)) h
theorem cn_split (h : cn R (l ++ l') x y) : cn (cn R l) l' x y := cn_le cn_eqv (fun _ _ q => cn_R (cn_R q)) (fun e he => (List.mem_append.mp he).elim (fun k => cn_R (cn_e k)) (fun k => cn_e k)) h
theorem cn_rfl : cn R l x x := cn_eqv.1 x
theorem cn_sym (h : cn R l x y) : cn R l y x := cn_eqv.2.1 _ _ h
theorem cn_trans (h : cn R l x y) (k : cn R l y z) : cn R l x z := cn_eqv.2.2 _ _ _ h k
/-- one pair more -/
theorem cn_one (hR : EQV R) (h : cn R [e] x y) : R x y ∨ (R x e.1 ∧ R e.2 y) ∨ (R x e.2 ∧ R e.1 y) := by
  obtain ⟨r, s, t⟩ := hR
  refine cn_le (T := fun x y => R x y ∨ (R x e.1 ∧ R e.2 y) ∨ (R x e.2 ∧ R e.1 y)) ⟨fun x => Or.inl (r x), fun x y h => ?_, fun x y z h k => ?_⟩ (fun x y h => Or.inl h) (fun e' he => ?_) h
  · rcases h with h | ⟨h, k⟩ | ⟨h, k⟩
    · exact Or.inl (s _ _ h)
    · exact Or.inr (Or.inr ⟨s _ _ k, s _ _ h⟩)
    · exact Or.inr (Or.inl ⟨s _ _ k, s _ _ h⟩)
  · rcases h with h | ⟨h, h'⟩ | ⟨h, h'⟩ <;> rcases k with k | ⟨k, k'⟩ | ⟨k, k'⟩
    · exact Or.inl (t _ _ _ h k)
    · exact Or.inr (Or.inl ⟨t _ _ _ h k, k'⟩)
    · exact Or.inr (Or.inr ⟨t _ _ _ h k, k'⟩)
    · exact Or.inr (Or.inl ⟨h, t _ _ _ h' k⟩)
    · exact Or.inr (Or.inl ⟨h, k'⟩)
    · exact Or.inl (t _ _ _ h k')
    · exact Or.inr (Or.inr ⟨h, t _ _ _ h' k⟩)
    · exact Or.inl (t _ _ _ h k')
    · exact Or.inr (Or.inr ⟨h, k'⟩)
  · rw [List.mem_singleton] at he
    rw [he]
    exact Or.inr (Or.inl ⟨r _, r _⟩)
/-- the first pair at which two come together -/
theorem cn_first : ∀ {l l0 : List (Int × Int)}, ¬ cn R l0 a b → cn R (l0 ++ l) a b → ∃ l1 f l2, l = l1 ++ f :: l2 ∧ ¬ cn R (l0 ++ l1) a b ∧ cn R (l0 ++ l1 ++ [f]) a b
  | [], l0, h, k => by rw [List.append_nil] at k; exact absurd k h
  | f :: l, l0, h, k => by
    by_cases c : cn R (l0 ++ [f]) a b
    · exact ⟨[], f, l, rfl, by rw [List.append_nil]; exact h, by rw [List.append_nil]; exact c⟩
    · obtain ⟨l1, f', l2, e1, e2, e3⟩ := cn_first (l := l) c (by rw [List.append_assoc]; exact k)
      refine ⟨f :: l1, f', l2, by rw [e1]; rfl, ?_, ?_⟩
      · rw [List.append_assoc] at e2; exact e2
      · rw [List.append_assoc, List.append_assoc] at e3; rw [List.append_assoc]; exact e3
/-- a pair instead of another one -/
theorem cn_swap {l1 l2 : List (Int × Int)} {f : Int × Int} (h : ¬ cn R l1 a b) (k : cn R (l1 ++ [f]) a b) (hl : ∀ g ∈ l, g ∈ l1 ∨ g = f ∨ g ∈ l2) (q : cn R l x y) : cn (cn R [(a, b)]) (l1 ++ l2) x y := by
  have m := cn_one cn_eqv (cn_split k)
  have m2 : ∀ {x y}, cn R l1 x y → cn (cn R [(a, b)]) (l1 ++ l2) x y := fun z => cn_le cn_eqv (fun _ _ q => cn_R (cn_R q)) (fun e he => cn_e (List.mem_append_left _ he)) z
  have m3 : cn (cn R [(a, b)]) (l1 ++ l2) a b := cn_R (cn_e (e := (a, b)) (List.mem_singleton.mpr rfl))
  have m4 : cn (cn R [(a, b)]) (l1 ++ l2) f.1 f.2 := by
    rcases m with m | ⟨m, m'⟩ | ⟨m, m'⟩
    · exact absurd m h
    · exact cn_trans (cn_sym (m2 m)) (cn_trans m3 (cn_sym (m2 m')))
    · exact cn_trans (m2 m') (cn_trans (cn_sym m3) (m2 m))
  refine cn_le cn_eqv (fun _ _ q => cn_R (cn_R q)) (fun g hg => ?_) q
  rcases hl g hg with c | c | c
  · exact cn_e (List.mem_append_left _ c)
  · rw [c]; exact m4
  · exact cn_e (List.mem_append_right _ c)
def wsum (w : Int → Int → Int) : List (Int × Int) → Int
  | [] => 0
  | e :: l => w e.1 e.2 + wsum w l
theorem wsum_app {w : Int → Int → Int} : ∀ {l l' : List (Int × Int)}, wsum w (l ++ l') = wsum w l + wsum w l'
  | [], l' => by simp [wsum]
  | e :: l, l' => by rw [List.cons_append, wsum, wsum, wsum_app]; omega
theorem wsum_perm {w : Int → Int → Int} (h : l.Perm l') : wsum w l = wsum w l' := by
  induction h with
  | nil => rfl
  | cons x _ ih => rw [wsum, wsum, ih]
  | swap x y l => simp only [wsum]; omega
  | trans _ _ ih1 ih2 => exact ih1.trans ih2
theorem wsum_0 {w : Int → Int → Int} : ∀ {l : List (Int × Int)}, (∀ e ∈ l, 0 ≤ w e.1 e.2) → 0 ≤ wsum w l
  | [], _ => Int.le_refl 0
  | e :: l, h => by
    have := h e List.mem_cons_self
    have := wsum_0 (fun e' he => h e' (List.mem_cons_of_mem _ he))
    rw [wsum]; omega
/-- pairs chosen one behind the other, each the least across a cut that what was chosen doesn't cross -/
def grd (dm : Int → Prop) (w : Int → Int → Int) : (Int → Int → Prop) → List (Int × Int) → Prop
  | _, [] => True
  | R, e :: l => (∃ P : Int → Bool, (∀ x y, R x y → P x = P y) ∧ P e.1 = true ∧ P e.2 = false ∧ (dm e.1 ∧ dm e.2) ∧ (∀ x y, dm x → dm y → P x = true → P y = false → w e.1 e.2 ≤ w x y)) ∧ grd dm w (cn R [e]) l
theorem grd_le {dm : Int → Prop} {w : Int → Int → Int} (h0 : ∀ x y, dm x → dm y → 0 ≤ w x y) (hw : ∀ x y, w x y = w y x) : ∀ {es : List (Int × Int)} {R : Int → Int → Prop} {F : List (Int × Int)}, EQV R → grd dm w R es → (∀ e ∈ F, dm e.1 ∧ dm e.2) → (∀ x y, dm x → dm y → cn R F x y) → wsum w es ≤ wsum w F
  | [], R, F, _, _, hF, _ => wsum_0 (fun e he => h0 _ _ (hF e he).1 (hF e he).2)
  | e :: es, R, F, hR, hg, hF, ht => by
    obtain ⟨⟨P, p1, p2, p3, ⟨d1, d2⟩, p4⟩, hg⟩ := hg
    have pm := List.filter_append_perm (fun e : Int × Int => P e.1 == P e.2) F
    have hN : ¬ cn R (F.filter (fun e => P e.1 == P e.2)) e.1 e.2 := fun q => by
      have := cn_le (T := fun x y => P x = P y) ⟨fun _ => rfl, fun _ _ h => h.symm, fun _ _ _ h k => h.trans k⟩ p1 (fun e' he => by
        have := (List.mem_filter.mp he).2
        exact eq_of_beq this) q
      rw [p2, p3] at this
      exact absurd this (by decide)
    have hC : cn R (F.filter (fun e => P e.1 == P e.2) ++ F.filter (fun e => !(P e.1 == P e.2))) e.1 e.2 := cn_sub (fun g hg => pm.mem_iff.mpr hg) (ht _ _ d1 d2)
    obtain ⟨l1, f, l2, e1, e2, e3⟩ := cn_first hN hC
    have hf : f ∈ F.filter (fun e => !(P e.1 == P e.2)) := by rw [e1]; exact List.mem_append_right _ List.mem_cons_self
    obtain ⟨hfF, hfc⟩ := List.mem_filter.mp hf
    have hwf : w e.1 e.2 ≤ w f.1 f.2 := by
      cases c1 : P f.1 <;> cases c2 : P f.2
      · rw [c1, c2] at hfc; exact absurd hfc (by decide)
      · rw [hw f.1 f.2]; exact p4 _ _ (hF f hfF).2 (hF f hfF).1 c2 c1
      · exact p4 _ _ (hF f hfF).1 (hF f hfF).2 c1 c2
      · rw [c1, c2] at hfc; exact absurd hfc (by decide)
    have hsub : ∀ g ∈ (F.filter (fun e => P e.1 == P e.2) ++ l1) ++ l2, g ∈ F := fun g hg => pm.mem_iff.mp (by
      rw [e1]
      simp only [List.mem_append, List.mem_cons] at hg ⊢
      rcases hg with (h | h) | h
      · exact Or.inl h
      · exact Or.inr (Or.inl h)
      · exact Or.inr (Or.inr (Or.inr h)))
    have q := grd_le h0 hw (es := es) (R := cn R [e]) (F := (F.filter (fun e => P e.1 == P e.2) ++ l1) ++ l2) cn_eqv hg (fun g hg => hF g (hsub g hg)) (fun x y hx hy => by
      refine cn_swap e2 e3 (fun g hg => ?_) (ht x y hx hy)
      have := pm.mem_iff.mpr hg
      rw [e1] at this
      simp only [List.mem_append, List.mem_cons] at this ⊢
      rcases this with h | h | h | h
      · exact Or.inl (Or.inl h)
      · exact Or.inl (Or.inr h)
      · exact Or.inr (Or.inl h)
      · exact Or.inr (Or.inr h))
    have q2 := wsum_perm (w := w) pm
    rw [e1, wsum_app, wsum_app, wsum] at q2
    rw [wsum_app, wsum_app] at q
    rw [wsum]
    omega
/-- what was chosen, as pairs that connect -/
theorem cn_cons : cn (cn R [e]) l x y ↔ cn R (e :: l) x y := ⟨fun h => cn_cn (l := [e]) h, fun h => cn_split (l := [e]) h⟩
end CONN
