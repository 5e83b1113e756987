/-! NEW ARRAYS -/
section ALLOC
variable {p : Program} {l : Launch} {e : Env} {R : Room} {s : State} {m : MethodId} {args : Array Value} {below : List Frame} {meth : Method} {c : Code} {A : Nat → Prop} {cc : ByteArray} {own nL : Nat} {ini : Bool} {fr lo : Nat} {D : va_G} {cy : Nat → ClassId} {Q : State → Prop} {ad0 : Nat → Nat} {K0 pc : Nat} {lc : AL} {st : AS} {σ σ0 : SG} {cells slots mc ms : Nat}
/-- behind a new cell -/
theorem newa_end {n : Int} {N : Nat} (hn : n.toNat = N) {ad : Nat → Nat} {H1 : Heap} {locs : List Loc} {ls : Array Slot} {q : Nat} {en : va_E} (hent : ent cy (adN ad (σ.1 + 1) q) (uN σ) (σ.1 + 1) = en) (hW : WD ad0 K0 ad σ) (hP1 : va_P D vwCl (WS cy ad σ ++ [(q, en)]) H1) (hD1 : va_D A (WS cy ad σ ++ [(q, en)])) (hS1 : va_S A s.heap H1 locs) (hl : lv_has ls nL (cvl ad lc)) (hwl : wfL σ.1 lc) (hws : wfS σ.1 st) (hr2 : cells + 1 ≤ R.cells ∧ slots + N ≤ R.slots)
    (k : GW p l e R s m args below meth c A nL D cy Q ad0 K0 (pc + 2) lc (aR (σ.1 + 1) :: st) (uN σ) (cells + 1) (slots + N)) : W p l e R s m args below meth c H1 locs (cells + 1) (slots + N) Q (F0 m (pc + 2) ls (.ref q :: cvs ad st)) := by
  rw [WS_uN hW.1 hent] at hP1 hD1
  have h9 := k (adN ad (σ.1 + 1) q) H1 locs ls (WD_uN hW) hP1 hD1 hS1 (by
    rw [cvl_eq (K := σ.1) (fun j hj => adN_ne (by omega)) hwl]; exact hl) (wfL_mono (Nat.le_succ _) hwl) (wfS_cons (Nat.le_refl _) (wfS_mono (Nat.le_succ _) hws)) ⟨hr2.1, hr2.2⟩
  have e9 : cvs (adN ad (σ.1 + 1) q) (aR (σ.1 + 1) :: st) = .ref q :: cvs ad st := by
    rw [← cvs_eq (K := σ.1) (ad' := adN ad (σ.1 + 1) q) (fun j hj => adN_ne (by omega)) hws]
    show Value.ref (adN ad (σ.1 + 1) q (σ.1 + 1)) :: _ = _
    rw [adN_same]
    rfl
  rw [e9] at h9
  exact h9
theorem o_nneg {n : Int} (hn : R32 n) (h : 0 ≤ n) : ¬ Int32.ofInt n < 0 := fun w => by
  have := (o_lt hn r0).mp w
  omega
theorem cls_same {cA cB : ClassId} {ty : FieldType} (h1 : s.vm.findClass ("[" ++ ty.toString) = some cA) (h2 : s.vm.findClass ("[" ++ ty.toString) = some cB) : cA = cB := Option.some.inj (h1.symm.trans h2)
theorem g_newI (hC : CX p l R s m args meth c A cc own nL ini fr lo D cy) {n : Int} (hd : decode cc pc = .ok (.newarray .int, 2)) (ht : tgK (σ.1 + 1) = 0) (hn : n = lnK (σ.1 + 1)) (h0 : 0 ≤ n ∧ n ≤ 100000) (hr2 : cells + 1 ≤ R.cells ∧ slots + n.toNat ≤ R.slots) (k : GW p l e R s m args below meth c A nL D cy Q ad0 K0 (pc + 2) lc (aR (σ.1 + 1) :: st) (uN σ) (cells + 1) (slots + n.toNat)) : GW p l e R s m args below meth c A nL D cy Q ad0 K0 pc lc (aI n :: st) σ cells slots := by
  intro ad H locs ls hW hP hD hS hl hwl hws hr9
  obtain ⟨hx, hb, -, hown, hts, -, -, hA, hK, -⟩ := hC
  have hnr : R32 n := wfS_hd hws
  refine va_newa (atype := .int) (D := D) (a0 := (n.toNat, .inl (fun _ => 0))) hx hb (hts _ aclI) rfl hK hP hD hS hA (fun cA => rfl) (o_nneg hnr h0.1) (o_nat hnr) (by show n.toNat * 4 ≤ _; omega) hr2.1 hr2.2 hd (fun q cA H1 hK1 hP1 hD1 hS1 => ?_)
  have ec : cA = cy 0 := cls_same (ty := .int) (hK1.2 5 _ rfl).2 (hK.2 0 _ rfl).2
  subst ec
  refine newa_end (n := n) rfl ?_ hW hP1 hD1 hS1 hl hwl (wfS_tl hws) hr2 k
  rw [ent0 ht, ← hn]
  congr 4
  funext j
  show Int32.ofInt (upC σ.2.2.1 (σ.1 + 1) (fun _ => 0) (σ.1 + 1) (j : Int)) = 0
  rw [upC_same]; rfl
theorem g_newZ (hC : CX p l R s m args meth c A cc own nL ini fr lo D cy) {n : Int} (hd : decode cc pc = .ok (.newarray .boolean, 2)) (ht : tgK (σ.1 + 1) = 2) (hn : n = lnK (σ.1 + 1)) (h0 : 0 ≤ n ∧ n ≤ 100000) (hr2 : cells + 1 ≤ R.cells ∧ slots + n.toNat ≤ R.slots) (k : GW p l e R s m args below meth c A nL D cy Q ad0 K0 (pc + 2) lc (aR (σ.1 + 1) :: st) (uN σ) (cells + 1) (slots + n.toNat)) : GW p l e R s m args below meth c A nL D cy Q ad0 K0 pc lc (aI n :: st) σ cells slots := by
  intro ad H locs ls hW hP hD hS hl hwl hws hr9
  obtain ⟨hx, hb, -, hown, hts, -, -, hA, hK, -⟩ := hC
  have hnr : R32 n := wfS_hd hws
  refine va_newa (atype := .boolean) (D := D) (a0 := (n.toNat, .inl (fun _ => 0))) hx hb (hts _ aclZ) rfl hK hP hD hS hA (fun cA => rfl) (o_nneg hnr h0.1) (o_nat hnr) (by show n.toNat * 1 ≤ _; omega) hr2.1 hr2.2 hd (fun q cA H1 hK1 hP1 hD1 hS1 => ?_)
  have ec : cA = cy 2 := cls_same (ty := .boolean) (hK1.2 5 _ rfl).2 (hK.2 2 _ rfl).2
  subst ec
  refine newa_end (n := n) rfl ?_ hW hP1 hD1 hS1 hl hwl (wfS_tl hws) hr2 k
  rw [ent2 ht, ← hn]
  congr 4
  funext j
  show Int32.ofInt (upC σ.2.2.1 (σ.1 + 1) (fun _ => 0) (σ.1 + 1) (j : Int)) = 0
  rw [upC_same]; rfl
theorem g_newJ (hC : CX p l R s m args meth c A cc own nL ini fr lo D cy) {n : Int} (hd : decode cc pc = .ok (.newarray .long, 2)) (ht : tgK (σ.1 + 1) = 1) (hn : n = lnK (σ.1 + 1)) (h0 : 0 ≤ n ∧ n ≤ 100000) (hr2 : cells + 1 ≤ R.cells ∧ slots + n.toNat ≤ R.slots) (k : GW p l e R s m args below meth c A nL D cy Q ad0 K0 (pc + 2) lc (aR (σ.1 + 1) :: st) (uN σ) (cells + 1) (slots + n.toNat)) : GW p l e R s m args below meth c A nL D cy Q ad0 K0 pc lc (aI n :: st) σ cells slots := by
  intro ad H locs ls hW hP hD hS hl hwl hws hr9
  obtain ⟨hx, hb, -, hown, hts, -, -, hA, hK, -⟩ := hC
  have hnr : R32 n := wfS_hd hws
  refine va_newa (atype := .long) (D := D) (a0 := (n.toNat, .inr (.inl (fun _ => 0)))) hx hb (hts _ aclJ) rfl hK hP hD hS hA (fun cA => rfl) (o_nneg hnr h0.1) (o_nat hnr) (by show n.toNat * 8 ≤ _; omega) hr2.1 hr2.2 hd (fun q cA H1 hK1 hP1 hD1 hS1 => ?_)
  have ec : cA = cy 1 := cls_same (ty := .long) (hK1.2 5 _ rfl).2 (hK.2 1 _ rfl).2
  subst ec
  refine newa_end (n := n) rfl ?_ hW hP1 hD1 hS1 hl hwl (wfS_tl hws) hr2 k
  rw [ent1 ht, ← hn]
  congr 5
  funext j
  show Int64.ofInt (upC σ.2.2.2.1 (σ.1 + 1) (fun _ => 0) (σ.1 + 1) (j : Int)) = 0
  rw [upC_same]; rfl
theorem g_newD (hC : CX p l R s m args meth c A cc own nL ini fr lo D cy) {n : Int} (hd : decode cc pc = .ok (.newarray .double, 2)) (ht : tgK (σ.1 + 1) = 4) (hn : n = lnK (σ.1 + 1)) (h0 : 0 ≤ n ∧ n ≤ 100000) (hr2 : cells + 1 ≤ R.cells ∧ slots + n.toNat ≤ R.slots) (k : GW p l e R s m args below meth c A nL D cy Q ad0 K0 (pc + 2) lc (aR (σ.1 + 1) :: st) (uN σ) (cells + 1) (slots + n.toNat)) : GW p l e R s m args below meth c A nL D cy Q ad0 K0 pc lc (aI n :: st) σ cells slots := by
  intro ad H locs ls hW hP hD hS hl hwl hws hr9
  obtain ⟨hx, hb, -, hown, hts, -, -, hA, hK, -⟩ := hC
  have hnr : R32 n := wfS_hd hws
  refine va_newa (atype := .double) (D := D) (a0 := (n.toNat, .inr (.inr (.inr (.inl (fun _ => 0)))))) hx hb (hts _ aclD) rfl hK hP hD hS hA (fun cA => rfl) (o_nneg hnr h0.1) (o_nat hnr) (by show n.toNat * 8 ≤ _; omega) hr2.1 hr2.2 hd (fun q cA H1 hK1 hP1 hD1 hS1 => ?_)
  have ec : cA = cy 4 := cls_same (ty := .double) (hK1.2 5 _ rfl).2 (hK.2 4 _ rfl).2
  subst ec
  refine newa_end (n := n) rfl ?_ hW hP1 hD1 hS1 hl hwl (wfS_tl hws) hr2 k
  rw [ent4 ht, ← hn]
  congr 7
  funext j
  show upC σ.2.2.2.2 (σ.1 + 1) (fun _ => 0) (σ.1 + 1) (j : Int) = 0
  rw [upC_same]
-- new int[n][k]
def zC {α : Type} (f : Nat → Int → α) (K : Nat) (z : α) : Nat → Int → α := fun a b => if K < a then z else f a b
theorem zC_le {α : Type} {f : Nat → Int → α} {K a : Nat} {z : α} {b : Int} (h : a ≤ K) : zC f K z a b = f a b := if_neg (by omega)
theorem zC_gt {α : Type} {f : Nat → Int → α} {K a : Nat} {z : α} {b : Int} (h : K < a) : zC f K z a b = z := if_pos h
def uM (σ : SG) (n : Nat) : SG := (σ.1 + 1 + n, upC (zC σ.2.1 σ.1 0) (σ.1 + 1) (fun i => if 0 ≤ i ∧ i < (n : Int) then σ.1 + 2 + i.toNat else 0), zC σ.2.2.1 σ.1 0, zC σ.2.2.2.1 σ.1 0, zC σ.2.2.2.2 σ.1 0)
theorem uM_R (σ : SG) (n a : Nat) (b : Int) : (uM σ n).2.1 a b = upC (zC σ.2.1 σ.1 0) (σ.1 + 1) (fun i => if 0 ≤ i ∧ i < (n : Int) then σ.1 + 2 + i.toNat else 0) a b := rfl
theorem uM_I (σ : SG) (n a : Nat) (b : Int) : (uM σ n).2.2.1 a b = zC σ.2.2.1 σ.1 0 a b := rfl
theorem WF_uM {n : Nat} (h : WF σ) : WF (uM σ n) := ⟨by show 1 ≤ σ.1 + 1 + n; omega, fun a b => by
  obtain ⟨h1, h2, h3⟩ := h.2 a b
  refine ⟨?_, ?_, ?_⟩
  · show R32 (zC σ.2.2.1 σ.1 0 a b)
    unfold zC
    split
    · exact (show R32 0 from ⟨by omega, by omega⟩)
    · exact h1
  · show R64 (zC σ.2.2.2.1 σ.1 0 a b)
    unfold zC
    split
    · exact (show R64 0 from ⟨by omega, by omega⟩)
    · exact h2
  · show upC (zC σ.2.1 σ.1 0) (σ.1 + 1) (fun i => if 0 ≤ i ∧ i < (n : Int) then σ.1 + 2 + i.toNat else 0) a b ≤ σ.1 + 1 + n
    unfold upC zC
    split
    · show (if 0 ≤ b ∧ b < (n : Int) then σ.1 + 2 + b.toNat else 0) ≤ _
      split <;> omega
    · split
      · exact Nat.zero_le _
      · omega⟩
def adM (ad : Nat → Nat) (K q : Nat) (r : Nat → Nat) : Nat → Nat := fun j => if j = K + 1 then q else if K + 2 ≤ j then r (j - (K + 2)) else ad j
theorem adM_le {ad : Nat → Nat} {K q : Nat} {r : Nat → Nat} {j : Nat} (h : j ≤ K) : adM ad K q r j = ad j := by unfold adM; rw [if_neg (by omega), if_neg (by omega)]
theorem adM_1 {ad : Nat → Nat} {K q : Nat} {r : Nat → Nat} : adM ad K q r (K + 1) = q := by unfold adM; rw [if_pos rfl]
theorem adM_2 {ad : Nat → Nat} {K q : Nat} {r : Nat → Nat} {i : Nat} : adM ad K q r (K + 2 + i) = r i := by unfold adM; rw [if_neg (by omega), if_pos (by omega)]; congr 1; omega
theorem WS_uM {ad : Nat → Nat} {q n k : Nat} {r : Nat → Nat} (hw : WF σ) (ht : tgK (σ.1 + 1) = 3) (hl : (lnK (σ.1 + 1)).toNat = n) (hr : ∀ i, i < n → tgK (σ.1 + 2 + i) = 0 ∧ (lnK (σ.1 + 2 + i)).toNat = k) :
    (WS cy ad σ ++ [(q, .inl (cy 3, n, .inr (.inr (.inr (.inr (fun i => if i < n then some (r i) else none))))))]) ++ (List.range n).map (fun i => (r i, (.inl (cy 0, k, .inl (fun _ => 0)) : va_E))) = WS cy (adM ad σ.1 q r) (uM σ n) := by
  have hK := hw.1
  have e1 : (uM σ n).1 - 1 = (σ.1 - 1) + 1 + n := by show σ.1 + 1 + n - 1 = _; omega
  unfold WS
  rw [e1, List.range_add, List.map_append, List.range_succ, List.map_append]
  congr 1
  · congr 1
    · apply List.map_congr_left
      intro i hi
      rw [List.mem_range] at hi
      rw [adM_le (by omega)]
      congr 1
      symm
      refine ent_congr (fun z => ?_) (fun z => (zC_le (by omega) : zC σ.2.2.1 σ.1 0 (i + 2) z = _)) (fun z => (zC_le (by omega) : zC σ.2.2.2.1 σ.1 0 (i + 2) z = _)) (fun z => (zC_le (by omega) : zC σ.2.2.2.2 σ.1 0 (i + 2) z = _))
      have e7 : (uM σ n).2.1 (i + 2) z = σ.2.1 (i + 2) z := by rw [uM_R, upC_ne (by omega), zC_le (by omega)]
      rw [e7]
      unfold rfO
      have := (hw.2 (i + 2) z).2.2
      rw [adM_le (by omega)]
    · simp only [List.map_cons, List.map_nil]
      rw [show σ.1 - 1 + 2 = σ.1 + 1 by omega, adM_1, ent3 ht, hl]
      congr 9
      funext i
      have e7 : (uM σ n).2.1 (σ.1 + 1) (i : Int) = if 0 ≤ (i : Int) ∧ (i : Int) < (n : Int) then σ.1 + 2 + (i : Int).toNat else 0 := by rw [uM_R, upC_same]
      rw [e7]
      unfold rfO
      by_cases h : i < n
      · rw [if_pos h, if_pos (show 0 ≤ (i : Int) ∧ (i : Int) < (n : Int) by omega), if_neg (by omega), Int.toNat_natCast, adM_2]
      · rw [if_neg h, if_neg (show ¬ (0 ≤ (i : Int) ∧ (i : Int) < (n : Int)) by omega), if_pos rfl]
  · rw [List.map_map]
    apply List.map_congr_left
    intro i hi
    rw [List.mem_range] at hi
    obtain ⟨h1, h2⟩ := hr i hi
    show _ = (adM ad σ.1 q r (σ.1 - 1 + 1 + i + 2), ent cy (adM ad σ.1 q r) (uM σ n) (σ.1 - 1 + 1 + i + 2))
    rw [show σ.1 - 1 + 1 + i + 2 = σ.1 + 2 + i by omega, adM_2, ent0 h1, h2]
    have e7 : (fun j : Nat => Int32.ofInt ((uM σ n).2.2.1 (σ.1 + 2 + i) (j : Int))) = (fun _ => 0) := by
      funext j
      have e8 : (uM σ n).2.2.1 (σ.1 + 2 + i) (j : Int) = 0 := by rw [uM_I, zC_gt (by omega)]
      rw [e8]
      rfl
    rw [e7]
theorem g_newM (hC : CX p l R s m args meth c A cc own nL ini fr lo D cy) {idx n k : Nat} (hd : decode cc pc = .ok (.multianewarray idx 2, 4)) (hw : Cond.classLink (oN own) idx ("[" ++ (FieldType.array .int).toString) ∈ WG) (ht : tgK (σ.1 + 1) = 3) (hl9 : (lnK (σ.1 + 1)).toNat = n) (hr : ∀ i, i < n → tgK (σ.1 + 2 + i) = 0 ∧ (lnK (σ.1 + 2 + i)).toNat = k) (hn : n ≤ 1000 ∧ k ≤ 1000) (hr2 : cells + 1 + n ≤ R.cells ∧ slots + n + n * k ≤ R.slots)
    (kk : GW p l e R s m args below meth c A nL D cy Q ad0 K0 (pc + 4) lc (aR (σ.1 + 1) :: st) (uM σ n) (cells + 1 + n) (slots + n + n * k)) : GW p l e R s m args below meth c A nL D cy Q ad0 K0 pc lc (aI (k : Int) :: aI (n : Int) :: st) σ cells slots := by
  intro ad H locs ls hW hP hD hS hl hwl hws hr9
  obtain ⟨hx, hb, -, hown, hts, -, -, hA, hK, hV, -⟩ := hC
  have hkr : R32 (k : Int) := wfS_hd hws
  have hnr : R32 (n : Int) := wfS_hd (wfS_tl hws)
  have hPe : va_P D vwCl (WS cy ad σ ++ va_pl [] (fun _ => (.inr (0, []) : va_E))) H := by
    show va_P D vwCl (WS cy ad σ ++ []) H
    rw [List.append_nil]; exact hP
  have hDe : va_D A (WS cy ad σ ++ va_pl [] (fun _ => (.inr (0, []) : va_E))) := by
    show va_D A (WS cy ad σ ++ [])
    rw [List.append_nil]; exact hD
  refine va_mna (ty := .int) (cy := cy 0) (z := (k, .inl (fun _ => 0))) hx hb hown (hts _ hw) hV.2.2.1 (hts _ aclI) (hK.2 0 _ rfl).2 hK hPe hDe hS hA (o_nneg hnr (by omega)) (o_nneg hkr (by omega)) (N' := n) (K' := k) (by rw [o_nat hnr]; omega) (by rw [o_nat hkr]; omega) (by omega) (by show k * 4 ≤ _; omega) (by omega) rfl rfl (by omega) (by omega) (fun cA => ?_) hd (fun q r cA H1 hinj hnot hK1 hP1 hD1 hS1 => ?_)
  · show ({ cls := cA, slots := Array.replicate k (.int 0), vm := .none } : Cell) = _
    rw [arrV_new]
    rfl
  · have ec : cA = cy 3 := cls_same (ty := .array .int) (hK1.2 5 _ rfl).2 (hK.2 3 _ rfl).2
    subst ec
    have e9 : va_pl ([] ++ (List.range n).map r) (vr_up (fun _ => (.inr (0, []) : va_E)) ((List.range n).map r) (.inl (cy 0, (k, .inl (fun _ => 0))))) = (List.range n).map (fun i => (r i, (.inl (cy 0, k, .inl (fun _ => 0)) : va_E))) := by
      unfold va_pl
      rw [List.nil_append, List.map_map]
      apply List.map_congr_left
      intro i hi
      show (r i, vr_up _ ((List.range n).map r) _ (r i)) = _
      rw [vr_up_in (List.mem_map.mpr ⟨i, hi, rfl⟩)]
    rw [e9, WS_uM hW.1 ht hl9 hr] at hP1 hD1
    have hag : ∀ j, j ≤ σ.1 → adM ad σ.1 q r j = ad j := fun j hj => adM_le hj
    have h9 := kk (adM ad σ.1 q r) H1 locs ls ⟨WF_uM hW.1, by show K0 ≤ σ.1 + 1 + n; have := hW.2.1; omega, fun j hj => by
      rw [adM_le (Nat.le_trans hj hW.2.1)]; exact hW.2.2.1 j hj, fun e => by
      have e9 : σ.1 + 1 + n = K0 := e
      have := hW.2.1
      omega⟩ hP1 hD1 hS1 (by rw [cvl_eq hag hwl]; exact hl) (wfL_mono (by show σ.1 ≤ σ.1 + 1 + n; omega) hwl) (wfS_cons (by show σ.1 + 1 ≤ σ.1 + 1 + n; omega) (wfS_mono (by show σ.1 ≤ σ.1 + 1 + n; omega) (wfS_tl (wfS_tl hws)))) hr2
    have e8 : cvs (adM ad σ.1 q r) (aR (σ.1 + 1) :: st) = .ref q :: cvs ad st := by
      rw [← cvs_eq hag (wfS_tl (wfS_tl hws))]
      show Value.ref (adM ad σ.1 q r (σ.1 + 1)) :: _ = _
      rw [adM_1]
      rfl
    rw [e8] at h9
    exact h9
end ALLOC
