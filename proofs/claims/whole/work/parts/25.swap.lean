/-! THE REFERENCES, as built, for the references as the layout has them -/
section SWAP
variable {p : Program} {l : Launch} {e : Env} {R : Room} {s : State} {m : MethodId} {args : Array Value} {below : List Frame} {meth : Method} {c : Code} {A : Nat → Prop} {nL : Nat} {D : va_G} {cy : Nat → ClassId} {Q : State → Prop} {ad0 : Nat → Nat} {K0 pc : Nat} {lc : AL} {st : AS} {σ : SG} {cells slots : Nat}
/-- the same references wherever a cell has some -/
def sameR (K : Nat) (r r2 : Nat → Int → Nat) : Prop := ∀ k, 2 ≤ k → k ≤ K → (tgK k = 3 → ∀ j : Nat, j < (lnK k).toNat → r2 k (j : Int) = r k (j : Int)) ∧ (16 ≤ tgK k → ∀ j : Nat, j < nFK (tgK k - 16) → r2 k (j : Int) = r k (j : Int))
theorem arrV_congr {cI : ClassId} {N : Nat} {f g : Nat → Value} (h : ∀ j, j < N → f j = g j) : arrV cI N f = arrV cI N g := by
  unfold arrV
  congr 2
  funext j
  exact h j.val j.isLt
theorem va_at_swap {r2 : Nat → Int → Nat} {ad : Nat → Nat} {k x : Nat} {cl : List vw_C} {H : Heap} (hk : (tgK k = 3 → ∀ j : Nat, j < (lnK k).toNat → r2 k (j : Int) = σ.2.1 k (j : Int)) ∧ (16 ≤ tgK k → ∀ j : Nat, j < nFK (tgK k - 16) → r2 k (j : Int) = σ.2.1 k (j : Int))) (ht : tgK k ≤ 4 ∨ 16 ≤ tgK k) (h : va_at D cl (x, ent cy ad σ k) H) : va_at D cl (x, ent cy ad (σ.1, r2, σ.2.2) k) H := by
  by_cases h3 : tgK k = 3
  · have e1 : ∀ σ9 : SG, ent cy ad σ9 k = .inl (cy 3, (lnK k).toNat, .inr (.inr (.inr (.inr (fun j => rfO ad (σ9.2.1 k (j : Int))))))) := fun σ9 => by
      unfold ent
      rw [if_neg (by omega), if_neg (by omega), if_neg (by omega), if_pos h3]
    rw [e1] at h ⊢
    unfold va_at at h ⊢
    refine h.trans (congrArg some ?_)
    show arrV (cy 3) (lnK k).toNat (fun j => va_rf (rfO ad (σ.2.1 k (j : Int)))) = arrV (cy 3) (lnK k).toNat (fun j => va_rf (rfO ad (r2 k (j : Int))))
    refine arrV_congr (fun j hj => ?_)
    show va_rf (rfO ad (σ.2.1 k (j : Int))) = va_rf (rfO ad (r2 k (j : Int)))
    rw [hk.1 h3 j hj]
  · have e1 : ent cy ad (σ.1, r2, σ.2.2) k = ent cy ad σ k := by
      unfold ent
      rcases ht with ht | ht
      · rcases (show tgK k = 0 ∨ tgK k = 1 ∨ tgK k = 2 ∨ tgK k = 4 by omega) with h | h | h | h <;> rw [h] <;> rfl
      · rw [if_neg (by omega), if_neg (by omega), if_neg (by omega), if_neg (by omega), if_neg (by omega), if_neg (by omega), if_neg (by omega), if_neg (by omega), if_neg (by omega), if_neg (by omega)]
        congr 2
        apply List.map_congr_left
        intro j hj
        unfold fval
        show (if ftK (tgK k - 16) j = 1 then _ else if ftK (tgK k - 16) j = 2 then va_rf (rfO ad (r2 k (j : Int))) else _) = _
        rw [hk.2 ht j (List.mem_range.mp hj)]
    rw [e1]
    exact h
theorem g_swap {r2 : Nat → Int → Nat} (hs : sameR σ.1 σ.2.1 r2) (hw : ∀ k i, r2 k i ≤ σ.1) (ht : ∀ k, 2 ≤ k → k ≤ σ.1 → tgK k ≤ 4 ∨ 16 ≤ tgK k) (kk : GW p l e R s m args below meth c A nL D cy Q ad0 K0 pc lc st (σ.1, r2, σ.2.2) cells slots) : GW p l e R s m args below meth c A nL D cy Q ad0 K0 pc lc st σ cells slots := by
  intro ad H locs ls hW hP hD hS hl hwl hws hr
  have hlen : (WS cy ad (σ.1, r2, σ.2.2)).length = (WS cy ad σ).length := by unfold WS; simp
  have hget : ∀ (cy : Nat → ClassId) (σ9 : SG) (k : Nat) (q : Nat × va_E), (WS cy ad σ9)[k]? = some q → k < σ9.1 - 1 ∧ q = (ad (k + 2), ent cy ad σ9 (k + 2)) := fun cy σ9 k q h => by
    unfold WS at h
    rw [List.getElem?_map] at h
    by_cases hk : k < σ9.1 - 1
    · rw [List.getElem?_range hk] at h
      exact ⟨hk, (Option.some.inj h).symm⟩
    · rw [List.getElem?_eq_none (by rw [List.length_range]; omega)] at h
      cases h
  have hput : ∀ (σ9 : SG) (k : Nat), k < σ9.1 - 1 → (WS cy ad σ9)[k]? = some (ad (k + 2), ent cy ad σ9 (k + 2)) := fun σ9 k h => by
    have := WS_get (cy := cy) (ad := ad) (σ := σ9) (k := k + 2) (by omega) (by omega)
    exact this
  refine kk ad H locs ls ⟨⟨hW.1.1, fun a b => ⟨(hW.1.2 a b).1, (hW.1.2 a b).2.1, hw a b⟩⟩, hW.2.1, hW.2.2.1, hW.2.2.2⟩ (fun k q hq => ?_) ⟨fun i j a b ha hb hab => ?_, fun k q hq => ?_⟩ hS hl hwl hws hr
  · obtain ⟨h1, rfl⟩ := hget cy _ k q hq
    have h1 : k < σ.1 - 1 := h1
    exact va_at_swap (hs (k + 2) (by omega) (by omega)) (ht (k + 2) (by omega) (by omega)) (hP k _ (hput σ k h1))
  · obtain ⟨h1, rfl⟩ := hget cy _ i a ha
    obtain ⟨h2, rfl⟩ := hget cy _ j b hb
    exact hD.1 i j _ _ (hput σ i h1) (hput σ j h2) hab
  · obtain ⟨h1, rfl⟩ := hget cy _ k q hq
    have h9 := hD.2 k _ (hput σ k h1)
    exact h9
end SWAP
