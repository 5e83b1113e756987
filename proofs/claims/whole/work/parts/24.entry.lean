/-! THE LAW'S ENTRY: what the abstract machine asks of its context -/
section ENTRY
variable {p : Program} {l : Launch} {e : Env} {s : State} {m : MethodId} {args : Array Value} {meth : Method} {c : Code}
theorem law_nt (h : l.flags = flags0) : l.stackTraces = false := by
  unfold Launch.stackTraces
  rw [h]
  decide +kernel
theorem arr_ra {ty : FieldType} (h : (Cond.arrayClass ty).before args s = true) : ∃ cA, ArrOfT s cA ty ∧ s.vm.findClass ("[" ++ ty.toString) = some cA := by
  obtain ⟨c, k, comp, h1, h2, h3⟩ := Cond.arrayClass_spec h
  exact ⟨c, fun N z => ⟨(fun q hq => by cases hq), k, h2, comp, h3⟩, h1⟩
theorem arr_ra2 (h : (Cond.arrayOver (.array .int)).before args s = true) : ∃ cA, ArrOfT s cA (.array .int) ∧ s.vm.findClass ("[" ++ (FieldType.array .int).toString) = some cA := by
  obtain ⟨comp, cA, kA, -, hk, hkind, hn⟩ := Cond.arrayOver_specA h
  exact ⟨cA, fun N z => ⟨(fun q hq => by cases hq), kA, hk, comp, hkind⟩, hn⟩
theorem law_WG (hts : ∀ w ∈ lw_tbl, w.before args s = true) : ∀ w ∈ WG, w.before args s = true := fun w hw => hts w (List.mem_filter.mp hw).1
theorem law_K (hts : ∀ w ∈ lw_tbl, w.before args s = true) : ∃ (D : va_G) (cy : Nat → ClassId), va_K D vwCl (tysL cy) s := by
  obtain ⟨a0, r0, f0⟩ := arr_ra (ty := .int) (hts _ (List.mem_of_getElem? (i := 176) (by decide +kernel)))
  obtain ⟨a1, r1, f1⟩ := arr_ra (ty := .long) (hts _ (List.mem_of_getElem? (i := 526) (by decide +kernel)))
  obtain ⟨a2, r2, f2⟩ := arr_ra (ty := .boolean) (hts _ (List.mem_of_getElem? (i := 177) (by decide +kernel)))
  obtain ⟨a3, r3, f3⟩ := arr_ra2 (hts _ (List.mem_of_getElem? (i := 277) (by decide +kernel)))
  obtain ⟨a4, r4, f4⟩ := arr_ra (ty := .double) (hts _ (List.mem_of_getElem? (i := 2135) (by decide +kernel)))
  have hc : ∀ k, ∃ q : ClassId × (Nat → Nat), k < 13 → u_Kn s (vcN k).1 (vcN k).2.1 (vcN k).2.2 q.1 q.2 := by
    intro k
    by_cases hk : k < 13
    · obtain ⟨h1, h2, h3⟩ := vcN_at k hk
      obtain ⟨cC, iS, h⟩ := u_known (C := (vcN k).1) (T := (vcN k).2.1) (N := (vcN k).2.2) (n := nFK k) (law_WG hts) (uwN k hk) (by rw [h3]; exact law_WG hts _ (insN k hk).1)
      exact ⟨(cC, iS), fun _ => h⟩
    · exact ⟨(a0, fun _ => 0), fun h => absurd h hk⟩
  refine ⟨(fun k => (Classical.choose (hc k)).1, fun k => (Classical.choose (hc k)).2), fun k => if k = 0 then a0 else if k = 1 then a1 else if k = 2 then a2 else if k = 3 then a3 else a4, ?_, ?_⟩
  · intro k q hq
    have hk : k < 13 := (List.getElem?_eq_some_iff.mp hq).1
    rw [(vcN_at k hk).1] at hq
    cases hq
    exact Classical.choose_spec (hc k) hk
  · intro k q hq
    match k, hq with
    | 0, hq => cases hq; exact ⟨r0, f0⟩
    | 1, hq => cases hq; exact ⟨r1, f1⟩
    | 2, hq => cases hq; exact ⟨r2, f2⟩
    | 3, hq => cases hq; exact ⟨r3, f3⟩
    | 4, hq => cases hq; exact ⟨r4, f4⟩
    | k + 5, hq => cases hq
theorem law_VB (hts : ∀ w ∈ lw_tbl, w.before args s = true) (hg : (Jvm.Cond.and given_1 narrow_1).before args s = true) : VB s := by
  have hf := flat_of_before _ hg
  refine ⟨fun x hx => ?_, fun x y hx hy hn => ?_, va_AOA.of (hts _ (List.mem_of_getElem? (i := 277) (by decide +kernel))), fun y hy => ?_, fun q hq => ?_⟩
  · match x, hx with
    | 0, _ => exact va_Nw.of rfl (hts _ (List.mem_of_getElem? (i := 849) (by decide +kernel)))
    | 1, _ => exact va_Nw.of rfl (hts _ (List.mem_of_getElem? (i := 916) (by decide +kernel)))
    | 2, _ => exact va_Nw.of rfl (hts _ (List.mem_of_getElem? (i := 942) (by decide +kernel)))
    | 3, _ => exact va_Nw.of rfl (hts _ (List.mem_of_getElem? (i := 1191) (by decide +kernel)))
    | k + 4, h => omega
  · refine va_Nc.of (args := args) (hf _ ?_)
    match x, y, hx, hy, hn with
    | 0, 1, _, _, _ => decide +kernel
    | 0, 2, _, _, _ => decide +kernel
    | 0, 3, _, _, _ => decide +kernel
    | 1, 0, _, _, _ => decide +kernel
    | 1, 2, _, _, _ => decide +kernel
    | 1, 3, _, _, _ => decide +kernel
    | 2, 0, _, _, _ => decide +kernel
    | 2, 1, _, _, _ => decide +kernel
    | 2, 3, _, _, _ => decide +kernel
    | 3, 0, _, _, _ => decide +kernel
    | 3, 1, _, _, _ => decide +kernel
    | 3, 2, _, _, _ => decide +kernel
    | 0, 0, _, _, h => exact absurd rfl h
    | 1, 1, _, _, h => exact absurd rfl h
    | 2, 2, _, _, h => exact absurd rfl h
    | 3, 3, _, _, h => exact absurd rfl h
    | k + 4, _, h, _, _ => omega
    | _, k + 4, _, h, _ => omega
  · simp only [List.mem_cons, List.not_mem_nil, or_false] at hy
    rcases hy with rfl | rfl | rfl
    · exact va_Nw.of rfl (hts _ (List.mem_of_getElem? (i := 850) (by decide +kernel)))
    · exact va_Nw.of rfl (hts _ (List.mem_of_getElem? (i := 852) (by decide +kernel)))
    · exact va_Nw.of rfl (hts _ (List.mem_of_getElem? (i := 854) (by decide +kernel)))
  · unfold nestL at hq
    simp only [List.mem_cons, List.not_mem_nil, or_false] at hq
    rcases hq with rfl | rfl | rfl
    · exact va_Nw.of rfl (hts _ (List.mem_of_getElem? (i := 296) (by decide +kernel)))
    · exact va_Nw.of rfl (hts _ (List.mem_of_getElem? (i := 419) (by decide +kernel)))
    · exact va_Nw.of rfl (hts _ (List.mem_of_getElem? (i := 497) (by decide +kernel)))
theorem law_Zq (hts : ∀ w ∈ lw_tbl, w.before args s = true) (hg : (Jvm.Cond.and given_1 narrow_1).before args s = true) : vx_Zq Bundle.tN "UNASSIGNED_STACK" Bundle.steD (fun q => s.heap.size ≤ q) s s.heap ∧ vx_Zq Bundle.tN "SUPPRESSED_SENTINEL" Bundle.listD (fun q => s.heap.size ≤ q) s s.heap := by
  have hf := flat_of_before _ hg
  exact ⟨vx_Zqof (hts _ (List.mem_of_getElem? (i := 874) (by decide +kernel))) (hts _ (List.mem_of_getElem? (i := 116) (by decide +kernel))) (hf _ (by decide +kernel)) (fun a h => Nat.not_le.mpr h), vx_Zqof (hts _ (List.mem_of_getElem? (i := 876) (by decide +kernel))) (hts _ (List.mem_of_getElem? (i := 116) (by decide +kernel))) (hf _ (by decide +kernel)) (fun a h => Nat.not_le.mpr h)⟩
theorem law_CX {b L : Nat} {xs : Nat → Int32} (hfl : l.flags = flags0) (C0 : lw_At p s m meth c b L xs) : ∃ (D : va_G) (cy : Nat → ClassId), CX p l room_1 s m #[Value.ref b] meth c (fun q => s.heap.size ≤ q) code 13 10 false 10 191 D cy := by
  obtain ⟨hx, hb, hr, hml, hown, hts, hX, hbl, hlocks, hgv⟩ := C0
  obtain ⟨D, cy, hK⟩ := law_K hts
  exact ⟨D, cy, hx, hb, hml, hown, law_WG hts, hlocks, law_nt hfl, fun _ h => h, hK, law_VB hts hgv, (law_Zq hts hgv).1, (law_Zq hts hgv).2, (fun h => absurd h (by decide)), Nat.le_of_ble_eq_true rfl, Nat.le_of_ble_eq_true rfl⟩
end ENTRY
