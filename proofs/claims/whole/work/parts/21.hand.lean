/-! HANDLERS: the law's helpers; a dictionary of the whole world -/
def cIx (i : Nat) : Nat := bif Nat.beq i 13 then 0 else bif Nat.beq i 15 then 1 else bif Nat.beq i 17 then 2 else bif Nat.beq i 62 then 3 else 9
theorem cIx_WG {i : Nat} (h : cIx i < 4) : i ≠ 0 ∧ Cond.classLink (oN 13) i (exN (cIx i)) ∈ WG := by
  unfold cIx at h ⊢
  cases h1 : Nat.beq i 13 with
  | true =>
    have e := Nat.eq_of_beq_eq_true h1
    subst e
    exact ⟨by decide, wg4 (i := 13) rfl rfl⟩
  | false =>
    cases h2 : Nat.beq i 15 with
    | true =>
      have e := Nat.eq_of_beq_eq_true h2
      subst e
      exact ⟨by decide, wg4 (i := 14) rfl rfl⟩
    | false =>
      cases h3 : Nat.beq i 17 with
      | true =>
        have e := Nat.eq_of_beq_eq_true h3
        subst e
        exact ⟨by decide, wg4 (i := 15) rfl rfl⟩
      | false =>
        cases h4 : Nat.beq i 62 with
        | true =>
          have e := Nat.eq_of_beq_eq_true h4
          subst e
          exact ⟨by decide, wg5 (i := 114) rfl rfl⟩
        | false =>
          rw [h1, h2, h3, h4] at h
          exact absurd h (by decide)
/-- the exception x, thrown at pc, is stored by its handler into the local q.2; on goes q.1 -/
def HND (cc : ByteArray) (nL : Nat) (hh : List (Nat × Nat × Nat × Nat)) (pc x : Nat) (q : Nat × Nat) : Prop := ∃ hh1 r hh2, hh = hh1 ++ r :: hh2 ∧ (∀ z ∈ hh1, cIx z.2.2.2 < 4 ∧ cIx z.2.2.2 ≠ x) ∧ r.1 ≤ pc ∧ pc < r.2.1 ∧ x < 4 ∧ cIx r.2.2.2 = x ∧ q.2 < nL ∧ ((decode cc r.2.2.1 = .ok (.astore q.2, 2) ∧ q.1 = r.2.2.1 + 2) ∨ (∃ i : Fin 4, i.val = q.2 ∧ decode cc r.2.2.1 = .ok (.astore_n i, 1) ∧ q.1 = r.2.2.1 + 1))
section HND
variable {p : Program} {l : Launch} {e : Env} {R : Room} {s : State} {m : MethodId} {args : Array Value} {below : List Frame} {meth : Method} {c : Code} {A : Nat → Prop} {cc : ByteArray} {own nL : Nat} {ini : Bool} {fr lo : Nat} {D : va_G} {cy : Nat → ClassId} {Q : State → Prop} {ad0 : Nat → Nat} {K0 pc : Nat} {lc : AL} {st : AS} {σ : SG} {cells slots : Nat}
theorem cvl_del (ad : Nat → Nat) (i : Nat) (l : AL) : cvl ad (delL i l) = (cvl ad l).filter (fun q => !(q.1 == i) && !(q.1 + 1 == i && q.2.category == 2)) := (cvl_filter ad (fun a b => !(a == i) && !(a + 1 == i && b == 2)) l).symm
theorem wfL_del {K i : Nat} {l : AL} (h : wfL K l) : wfL K (delL i l) := fun q hq => h q (List.mem_filter.mp hq).1
theorem g_hand (hC : CX p l R s m args meth c A cc own nL ini fr lo D cy) (h13 : own = 13) {hh : List (Nat × Nat × Nat × Nat)} (ht : c.exceptionTable.toList = tableOf hh) {x : Nat} {q : Nat × Nat} (hq : HND cc nL hh pc x q) (k : GW p l e R s m args below meth c A nL D cy Q ad0 K0 q.1 (delL q.2 lc) [] σ cells slots) (hr2 : cells ≤ R.cells ∧ slots ≤ R.slots) : XW p l e R s m args below meth c A nL D cy Q ad0 K0 x pc lc st σ cells slots := by
  intro ad H locs ls ce q9 hx4 hW hP hD hS hl hwl h1 h2 h3
  subst h13
  obtain ⟨hx, hb, -, hown, hts, hlocks, hst9, hA, hK, hV, -⟩ := id hC
  obtain ⟨hh1, r, hh2, e1, e2, e3, e4, e5, e6, e7, e8⟩ := hq
  have hrw := cIx_WG (i := r.2.2.2) (by omega)
  refine vx_catch (own := oN 13) (name := exN x) (E := exN x) (ce := ce) hown (tableOf hh1) ⟨r.1, r.2.1, r.2.2.1, r.2.2.2⟩ (tableOf hh2) (by rw [ht, e1]; unfold tableOf; rw [List.map_append, List.map_cons]) ?_ ?_ hrw.1 (by have h := hts _ hrw.2; rw [e6] at h; exact h) (va_Nw.use rfl (hV.1 x e5)) h1 h2 h3 ?_
  · intro z hz
    unfold tableOf at hz
    obtain ⟨y, hy, rfl⟩ := List.mem_map.mp hz
    obtain ⟨a, b⟩ := e2 y hy
    have hyw := cIx_WG a
    exact Or.inr ⟨hyw.1, exN (cIx y.2.2.2), hts _ hyw.2, hV.2.1 x _ e5 a (fun h => b h.symm)⟩
  · show (decide (r.1 ≤ pc) && decide (pc < r.2.1)) = true
    simp [e3, e4]
  · have hk : ∀ ls', lv_has ls' nL ((q.2, Value.ref q9) :: (cvl ad lc).filter (fun z => !(z.1 == q.2) && !(z.1 + 1 == q.2 && z.2.category == 2))) → W p l e R s m args below meth c H locs cells slots Q (F0 m q.1 ls' []) := fun ls' hl' => k ad H locs ls' hW hP hD hS (by rw [cvl_del]; exact lv_less hl' (fun z hz => List.mem_cons_of_mem _ hz)) (wfL_del hwl) (fun _ h => by cases h) hr2
    rcases e8 with ⟨d, e9⟩ | ⟨i, ei, d, e9⟩
    · rw [e9] at hk
      exact lv_astore hx hb d hl e7 rfl hk
    · rw [e9] at hk
      rw [← ei] at hk e7
      exact lv_astore_n hx hb d rfl hl e7 rfl hk
end HND
