/-! BOTH SIDES of a call -/
section OK2
variable {α γ : Type} {P : α → Prop}
theorem ok_ndt {c : Prop} [Decidable c] {e n : Nat} {h : HH} {x : Option ((Unit ⊕ Nat) × HU)} {f : (Unit ⊕ Nat) × HU → Option α} (hx : x = some (if c then .inl () else .inr e, (h, n))) (hc : c) (k : Ok (f (.inl (), (h, n))) P) : Ok (bnd x f) P := by
  rw [if_pos hc] at hx
  exact ok_be hx k
theorem ok_ndf {c : Prop} [Decidable c] {e n : Nat} {h : HH} {x : Option ((Unit ⊕ Nat) × HU)} {f : (Unit ⊕ Nat) × HU → Option α} (hx : x = some (if c then .inl () else .inr e, (h, n))) (hc : ¬ c) (k : Ok (f (.inr e, (h, n))) P) : Ok (bnd x f) P := by
  rw [if_neg hc] at hx
  exact ok_be hx k
theorem ok_b2t {c : Prop} [Decidable c] {x : Option Int} {f : Int → Option α} (hx : x = some (b2i c)) (hc : c) (k : Ok (f 1) P) : Ok (bnd x f) P := by
  rw [b2i, if_pos hc] at hx
  exact ok_be hx k
theorem ok_b2f {c : Prop} [Decidable c] {x : Option Int} {f : Int → Option α} (hx : x = some (b2i c)) (hc : ¬ c) (k : Ok (f 0) P) : Ok (bnd x f) P := by
  rw [b2i, if_neg hc] at hx
  exact ok_be hx k
end OK2
/-- what both sides' answers are to each other -/
def RES (cd : Nat → Int) (o : Int ⊕ Nat) (r : Int × HH) : Prop := Sum.elim (fun z => r.2.1 71 10 = 0 ∧ r.1 = z) (fun e => cd e ≠ 0 ∧ r.2.1 71 10 = cd e) o
def both (x : Option ((Int ⊕ Nat) × HU)) (y : Option (Int × HH)) (cd : Nat → Int) : Prop := Ok x (fun r => Ok y (fun r' => RES cd r.1 r' ∧ INV r.2.1 r'.2))
/-- a refused call -/
theorem both_thr {cd : Nat → Int} {h h' : HH} {e : Nat} {x : Int} (i : INV h h') (h0 : cd e ≠ 0) (hx : cd e = x) : Ok (some ((0 : Int), hI h' 71 10 x)) (fun r' => RES cd (.inr e) r' ∧ INV h r'.2) := ok_some ⟨⟨h0, by rw [hx]; exact rI_s ▸ updI_s⟩, INV_thr i⟩
def cd12 : Nat → Int := fun e => if e = 0 then 1 else if e = 1 then 2 else 0
def cd123 : Nat → Int := fun e => if e = 0 then 1 else if e = 1 then 2 else if e = 2 then 3 else 0
def cdX (a b c d : Int) : Nat → Int := fun e => if e = 0 then a else if e = 1 then b else if e = 2 then c else if e = 3 then d else 0
theorem sX11_needParcel {h : HH} (hv : VAL h.1) {v : Int} : nX11_needParcel v h = some (if 0 ≤ v ∧ v < h.1 13 10 then .inl () else .inr 0, (h, 1)) := by
  have hn := v_n hv
  unfold nX11_needParcel bX11_needParcel
  rw [gd_t (by omega), sX11_needIndex, bnd_some]
  by_cases h1 : 0 ≤ v ∧ v ≤ h.1 13 10 - 1
  · rw [if_pos h1, if_pos (by omega)]; rfl
  · rw [if_neg h1, if_neg (by omega)]; rfl
theorem sX11_needVan {h : HH} (hv : VAL h.1) {v : Int} : nX11_needVan v h = some (if 0 ≤ v ∧ v < h.1 13 14 then .inl () else .inr 0, (h, 1)) := by
  have hn := v_n hv
  unfold nX11_needVan bX11_needVan
  rw [gd_t (by omega), sX11_needIndex, bnd_some]
  by_cases h1 : 0 ≤ v ∧ v ≤ h.1 13 14 - 1
  · rw [if_pos h1, if_pos (by omega)]; rfl
  · rw [if_neg h1, if_neg (by omega)]; rfl
theorem sX11_needElement (x : Int) (h : HH) : nX11_needElement x h = some (if x ≠ 0 then .inl () else .inr 3, (h, 0)) := by
  unfold nX11_needElement bX11_needElement
  rw [gd_t (by omega), gd_t (by omega)]
  by_cases h1 : x = 0
  · simp [h1]
  · simp [h1]
theorem sX12_canBePut {K : Nat → Int → Int} {h : HH} (hm : RM K h) (hq : ∀ p, 0 ≤ p → p < K 13 10 → h.1 90 p = vw K p) {p : Int} (h1 : 0 ≤ p) (h2 : p < K 13 10) (h9 : K 13 10 ≤ 9) : nX12_canBePut h p = some (b2i (K 20 p = 0 ∧ vw K p = -1)) := by
  have e1 := (rm_p hm h1 h2).2.2.2.1
  have e2 := hq p h1 h2
  simp only [bX12_canBePut, nX12_canBePut]
  refine ok_is ?_
  repeat (first | with_reducible refine ok_gd (by first | omega | decide) ?_ | with_reducible refine ok_bs ?_ | with_reducible refine ok_pos (by omega) ?_ | with_reducible refine ok_neg (by omega) ?_ | with_reducible refine ok_tl ?_ | with_reducible refine ok_tr ?_)
  with_reducible refine ok_ite (fun c1 => ?_) (fun c1 => ?_)
  · repeat (first | with_reducible refine ok_gd (by first | omega | decide) ?_ | with_reducible refine ok_bs ?_ | with_reducible refine ok_pos (by omega) ?_ | with_reducible refine ok_neg (by omega) ?_ | with_reducible refine ok_tl ?_ | with_reducible refine ok_tr ?_)
    with_reducible refine ok_ite (fun c2 => ?_) (fun c2 => ?_)
    · repeat (first | with_reducible refine ok_gd (by first | omega | decide) ?_ | with_reducible refine ok_bs ?_ | with_reducible refine ok_pos (by omega) ?_ | with_reducible refine ok_neg (by omega) ?_ | with_reducible refine ok_tl ?_ | with_reducible refine ok_tr ?_)
      exact ok_some (by rw [b2i, if_pos (by omega)])
    · repeat (first | with_reducible refine ok_gd (by first | omega | decide) ?_ | with_reducible refine ok_bs ?_ | with_reducible refine ok_pos (by omega) ?_ | with_reducible refine ok_neg (by omega) ?_ | with_reducible refine ok_tl ?_ | with_reducible refine ok_tr ?_)
      exact ok_some (by rw [b2i, if_neg (by omega)])
  · repeat (first | with_reducible refine ok_gd (by first | omega | decide) ?_ | with_reducible refine ok_bs ?_ | with_reducible refine ok_pos (by omega) ?_ | with_reducible refine ok_neg (by omega) ?_ | with_reducible refine ok_tl ?_ | with_reducible refine ok_tr ?_)
    exact ok_some (by rw [b2i, if_neg (by omega)])
theorem sX11_needThat2 (x : Int) (h : HH) : nX11_needThat x h = some (if x ≠ 0 then .inl () else .inr 1, (h, 0)) := by
  rw [sX11_needThat]
  by_cases h1 : x = 0
  · rw [if_pos h1, if_neg (fun q => q h1)]
  · rw [if_neg h1, if_pos h1]
theorem sX11_needState2 (x : Int) (h : HH) : nX11_needState x h = some (if x ≠ 0 then .inl () else .inr 2, (h, 0)) := by
  rw [sX11_needState]
  by_cases h1 : x = 0
  · rw [if_pos h1, if_neg (fun q => q h1)]
  · rw [if_neg h1, if_pos h1]
