/-! SAVINGS: pieces; what joins best; the class -/
section PIECES
variable {h h' m : HH} {K K1 : Nat → Int → Int} {v n : Int} {C : List Int → Prop} {D D' : List Int → List Int → Prop}
def hdL (l : List Int) : Int := l.getD 0 0
def laL (l : List Int) : Int := l.getD (l.length - 1) 0
theorem ne_len {l : List Int} (h : l ≠ []) : 0 < l.length := by
  cases l with
  | nil => exact absurd rfl h
  | cons x t => simp only [List.length_cons]; omega
theorem hdL_m {l : List Int} (h : l ≠ []) : hdL l ∈ l := getD_mem (ne_len h)
theorem laL_m {l : List Int} (h : l ≠ []) : laL l ∈ l := getD_mem (by have := ne_len h; omega)
theorem hdL_row {f : Int → Int} {o : Int} {k : Nat} (hk : 0 < k) : hdL (rowL f o k) = f o := by
  unfold hdL
  rw [rowL_getD hk]
  exact ca (by omega)
theorem laL_row {f : Int → Int} {o : Int} {k : Nat} (hk : 0 < k) : laL (rowL f o k) = f (o + ((k : Int) - 1)) := by
  unfold laL
  rw [rowL_len, rowL_getD (by omega)]
  exact ca (by omega)
theorem hdL_app {A B : List Int} (h : A ≠ []) : hdL (A ++ B) = hdL A := by
  cases A with
  | nil => exact absurd rfl h
  | cons x t => rfl
def svL (K : Nat → Int → Int) (A B : List Int) : Int := dK K (K 14 (laL A)) 0 + dK K 0 (K 14 (hdL B)) - dK K (K 14 (laL A)) (K 14 (hdL B))
def PS (K : Nat → Int → Int) (v : Int) (C : List Int → Prop) : Prop := (∀ l, C l → (l ≠ [] ∧ inR K l ∧ l.Nodup) ∧ (∀ p ∈ l, K 20 p = 0 ∧ vw K p = -1) ∧ costL K v l ≠ -1) ∧ ∀ l l' p, C l → C l' → p ∈ l → p ∈ l' → l = l'
/-- the best of the pairs that D names -/
def bpS (K : Nat → Int → Int) (v : Int) (D : List Int → List Int → Prop) : Option (List Int × List Int) → Prop
  | none => ∀ A B, D A B → costL K v (A ++ B) = -1
  | some (A, B) => (D A B ∧ costL K v (A ++ B) ≠ -1) ∧ ∀ X Y, D X Y → costL K v (X ++ Y) = -1 ∨ svL K X Y < svL K A B ∨ (svL K X Y = svL K A B ∧ (laL A < laL X ∨ (laL A = laL X ∧ hdL B ≤ hdL Y)))
/-- better than what is there -/
def btr (K : Nat → Int → Int) (A B : List Int) : Option (List Int × List Int) → Prop
  | none => True
  | some (A0, B0) => svL K A0 B0 < svL K A B ∨ (svL K A B = svL K A0 B0 ∧ (laL A < laL A0 ∨ (laL A = laL A0 ∧ hdL B < hdL B0)))
theorem bpS_cg (e : ∀ A B, D A B ↔ D' A B) : ∀ {s : Option (List Int × List Int)}, bpS K v D s → bpS K v D' s
  | none, q => fun A B d => q A B ((e A B).mpr d)
  | some (A, B), q => ⟨⟨(e A B).mp q.1.1, q.1.2⟩, fun X Y d => q.2 X Y ((e X Y).mpr d)⟩
theorem bpS_no {A B : List Int} (c : costL K v (A ++ B) = -1) : ∀ {s : Option (List Int × List Int)}, bpS K v D s → bpS K v (fun X Y => D X Y ∨ (X = A ∧ Y = B)) s
  | none, q => fun X Y d => by
    rcases d with d | ⟨d1, d2⟩
    · exact q X Y d
    · rw [d1, d2]; exact c
  | some (A0, B0), q => ⟨⟨Or.inl q.1.1, q.1.2⟩, fun X Y d => by
    rcases d with d | ⟨d1, d2⟩
    · exact q.2 X Y d
    · rw [d1, d2]; exact Or.inl c⟩
theorem bpS_old {A B : List Int} : ∀ {s : Option (List Int × List Int)}, bpS K v D s → ¬ btr K A B s → bpS K v (fun X Y => D X Y ∨ (X = A ∧ Y = B)) s
  | none, _, b => absurd True.intro b
  | some (A0, B0), q, b => ⟨⟨Or.inl q.1.1, q.1.2⟩, fun X Y d => by
    rcases d with d | ⟨d1, d2⟩
    · exact q.2 X Y d
    · rw [d1, d2]
      refine Or.inr ?_
      have b' : ¬ (svL K A0 B0 < svL K A B ∨ (svL K A B = svL K A0 B0 ∧ (laL A < laL A0 ∨ (laL A = laL A0 ∧ hdL B < hdL B0)))) := b
      omega⟩
theorem bpS_yes {A B : List Int} (c : costL K v (A ++ B) ≠ -1) : ∀ {s : Option (List Int × List Int)}, bpS K v D s → btr K A B s → bpS K v (fun X Y => D X Y ∨ (X = A ∧ Y = B)) (some (A, B))
  | none, q, _ => ⟨⟨Or.inr ⟨rfl, rfl⟩, c⟩, fun X Y d => by
    rcases d with d | ⟨d1, d2⟩
    · exact Or.inl (q X Y d)
    · rw [d1, d2]; exact Or.inr (by omega)⟩
  | some (A0, B0), q, b => ⟨⟨Or.inr ⟨rfl, rfl⟩, c⟩, fun X Y d => by
    have b' : svL K A0 B0 < svL K A B ∨ (svL K A B = svL K A0 B0 ∧ (laL A < laL A0 ∨ (laL A = laL A0 ∧ hdL B < hdL B0))) := b
    rcases d with d | ⟨d1, d2⟩
    · rcases q.2 X Y d with w | w
      · exact Or.inl w
      · exact Or.inr (by omega)
    · rw [d1, d2]; exact Or.inr (by omega)⟩
theorem bpS_u (hP : PS K v C) (hD : ∀ A B, D A B → C A ∧ C B) : ∀ {s t : Option (List Int × List Int)}, bpS K v D s → bpS K v D t → s = t
  | none, none, _, _ => rfl
  | none, some (A, B), q, w => absurd (q A B w.1.1) w.1.2
  | some (A, B), none, q, w => absurd (w A B q.1.1) q.1.2
  | some (A, B), some (X, Y), q, w => by
    have a := q.2 X Y w.1.1
    have b := w.2 A B q.1.1
    have e1 := hD A B q.1.1
    have e2 := hD X Y w.1.1
    have ca := q.1.2
    have cb := w.1.2
    have z : laL A = laL X ∧ hdL B = hdL Y := by
      clear e1 e2 q w hD hP
      rcases a with a | a
      · exact absurd a cb
      · rcases b with b | b
        · exact absurd b ca
        · omega
    have n1 := (hP.1 A e1.1).1.1
    have n2 := (hP.1 X e2.1).1.1
    have n3 := (hP.1 B e1.2).1.1
    have n4 := (hP.1 Y e2.2).1.1
    rw [hP.2 A X (laL A) e1.1 e2.1 (laL_m n1) (by rw [z.1]; exact laL_m n2), hP.2 B Y (hdL B) e1.2 e2.2 (hdL_m n3) (by rw [z.2]; exact hdL_m n4)]
/-- pieces joined -/
def joC (C : List Int → Prop) (A B : List Int) (l : List Int) : Prop := (C l ∧ l ≠ A ∧ l ≠ B) ∨ l = A ++ B
theorem PS_dis (hP : PS K v C) {A B : List Int} (hA : C A) (hB : C B) (hne : A ≠ B) : (A ++ B).Nodup := by
  rw [List.nodup_append]
  exact ⟨(hP.1 A hA).1.2.2, (hP.1 B hB).1.2.2, fun a ha b hb e => hne (hP.2 A B a hA hB ha (e ▸ hb))⟩
theorem PS_jo (hP : PS K v C) {A B : List Int} (hA : C A) (hB : C B) (hne : A ≠ B) (hc : costL K v (A ++ B) ≠ -1) : PS K v (joC C A B) := by
  have a := hP.1 A hA
  have b := hP.1 B hB
  refine ⟨fun l hl => ?_, fun l l' p hl hl' hp hp' => ?_⟩
  · rcases hl with hl | hl
    · exact hP.1 l hl.1
    · rw [hl]
      refine ⟨⟨fun z => a.1.1 (List.append_eq_nil_iff.mp z).1, fun p hp => ?_, PS_dis hP hA hB hne⟩, fun p hp => ?_, hc⟩
      · exact (List.mem_append.mp hp).elim (a.1.2.1 p) (b.1.2.1 p)
      · exact (List.mem_append.mp hp).elim (a.2.1 p) (b.2.1 p)
  · rcases hl with hl | hl <;> rcases hl' with hl' | hl'
    · exact hP.2 l l' p hl.1 hl'.1 hp hp'
    · rw [hl'] at hp'
      rcases List.mem_append.mp hp' with z | z
      · exact absurd (hP.2 l A p hl.1 hA hp z) hl.2.1
      · exact absurd (hP.2 l B p hl.1 hB hp z) hl.2.2
    · rw [hl] at hp
      rcases List.mem_append.mp hp with z | z
      · exact absurd (hP.2 l' A p hl'.1 hA hp' z) hl'.2.1
      · exact absurd (hP.2 l' B p hl'.1 hB hp' z) hl'.2.2
    · rw [hl, hl']
theorem PS_len (hv : VAL K) (hP : PS K v C) {A B : List Int} (hA : C A) (hB : C B) (hne : A ≠ B) : A.length + B.length ≤ 9 := by
  have hn := v_n hv
  have := nodup_len (m := 9) (PS_dis hP hA hB hne) (fun p hp => by
    rcases List.mem_append.mp hp with z | z
    · have := (hP.1 A hA).1.2.1 p z; omega
    · have := (hP.1 B hB).1.2.1 p z; omega)
  rw [List.length_append] at this
  exact this
/-- the longest piece -/
def loP (C : List Int → Prop) (L : List Int) : Prop := (L = [] ∧ ∀ l, ¬ C l) ∨ (C L ∧ ∀ l, C l → l.length < L.length ∨ (l.length = L.length ∧ hdL L ≤ hdL l))
theorem loP_u (hP : PS K v C) {L L' : List Int} (a : loP C L) (b : loP C L') : L = L' := by
  rcases a with a | a <;> rcases b with b | b
  · rw [a.1, b.1]
  · exact absurd b.1 (a.2 L')
  · exact absurd a.1 (b.2 L)
  · have z1 := a.2 L' b.1
    have z2 := b.2 L a.1
    have e : hdL L = hdL L' := by omega
    exact hP.2 L L' (hdL L) a.1 b.1 (hdL_m (hP.1 L a.1).1.1) (by rw [e]; exact hdL_m (hP.1 L' b.1).1.1)
/-! the class -/
theorem rw9 {x : Int} (h : 0 ≤ x) (h' : x < 9) : rwK 9 39 x = 39 + x.toNat := by
  rcases (by omega : x = 0 ∨ x = 1 ∨ x = 2 ∨ x = 3 ∨ x = 4 ∨ x = 5 ∨ x = 6 ∨ x = 7 ∨ x = 8) with rfl | rfl | rfl | rfl | rfl | rfl | rfl | rfl | rfl <;> rfl
theorem a9_pc {x : Int} (h : 0 ≤ x) (h' : x < 9) : A9 (rwK 9 39 x) := by
  rcases (by omega : x = 0 ∨ x = 1 ∨ x = 2 ∨ x = 3 ∨ x = 4 ∨ x = 5 ∨ x = 6 ∨ x = 7 ∨ x = 8) with rfl | rfl | rfl | rfl | rfl | rfl | rfl | rfl | rfl <;> exact ⟨⟨rfl, rfl⟩, rfl⟩
theorem rw9_0 {x : Int} (h : 0 ≤ x) (h' : x < 9) : Nat.beq (rwK 9 39 x) 0 = false := by
  rcases (by omega : x = 0 ∨ x = 1 ∨ x = 2 ∨ x = 3 ∨ x = 4 ∨ x = 5 ∨ x = 6 ∨ x = 7 ∨ x = 8) with rfl | rfl | rfl | rfl | rfl | rfl | rfl | rfl | rfl <;> rfl
theorem rw9_i {x y : Int} (h : 0 ≤ x) (h' : x < 9) (g : 0 ≤ y) (g' : y < 9) (e : rwK 9 39 x = rwK 9 39 y) : x = y := by
  rw [rw9 h h', rw9 g g'] at e
  omega
def prow (M : Nat → Int → Int) (f : Int) : List Int := rowL (M (rwK 9 39 f)) 0 (M 48 f).toNat
def cST (C : List Int → Prop) (M : Nat → Int → Int) : Prop := ∀ f, 0 ≤ f → f < 9 → (0 ≤ M 48 f ∧ M 48 f ≤ 9) ∧ (M 48 f ≠ 0 → C (prow M f) ∧ hdL (prow M f) = f) ∧ ∀ l, C l → hdL l = f → M 48 f ≠ 0 ∧ prow M f = l
def C0 (K : Nat → Int → Int) (v k : Int) (l : List Int) : Prop := ∃ p, (0 ≤ p ∧ p < k) ∧ l = [p] ∧ (K 20 p = 0 ∧ vw K p = -1) ∧ costL K v [p] ≠ -1
theorem PS_0 : PS K v (C0 K v (K 13 10)) := by
  refine ⟨fun l ⟨p, a, b, c, d⟩ => ?_, fun l l' q ⟨p, a, b, c, d⟩ ⟨p', a', b', c', d'⟩ hq hq' => ?_⟩
  · rw [b]
    exact ⟨⟨List.cons_ne_nil _ _, fun q hq => by rw [List.mem_singleton.mp hq]; exact a, List.nodup_cons.mpr ⟨List.not_mem_nil, List.nodup_nil⟩⟩, fun q hq => by rw [List.mem_singleton.mp hq]; exact c, d⟩
  · rw [b] at hq ⊢
    rw [b'] at hq' ⊢
    rw [← List.mem_singleton.mp hq, ← List.mem_singleton.mp hq']
abbrev sSv : Nat → Int → Prop := fun c _ => (c = 34 ∨ c = 35) ∨ (39 ≤ c ∧ c ≤ 48)
theorem sSv_sc {g : HH} (f : Fr sSv h g) : Fr scC h g := fr_m (fun c i s => by dsimp only [sSv] at s; unfold scC; omega) f
theorem sc_RV {g : HH} (f : Fr scC h g) (a : RV h.1) : RV g.1 := RV_eq a (fun c c1 c2 => sc_c f c (by unfold scC; omega)) (by rw [sc_13 f])
theorem sc_vw {g : HH} (f : Fr scC h g) (p : Int) : vw g.1 p = vw h.1 p := vw_eq (fun c c1 c2 => sc_c f c (by unfold scC; omega))
theorem sc_VAL {g : HH} (f : Fr scC h g) (a : VAL h.1) : VAL g.1 := VAL_eq a (fun c hc => sc_c f c (by unfold scC; omega)) (by rw [sc_13 f]; exact ⟨rfl, rfl⟩)
theorem c_begin (hv : VAL h.1) (hr : RV h.1) (v0 : 0 ≤ v) (v1 : v < h.1 13 14) : Ok (nX7_beginPieces v h) (fun g => Fr sSv h g ∧ cST (C0 h.1 v (h.1 13 10)) g.1) := by
  have hn := v_n hv
  have key : ∀ (r N : Nat) (k : Int) (m : HH), r < N → k + r = 9 → 0 ≤ k → Fr sSv h m → (∀ f, 0 ≤ f → f < k → (m.1 48 f = 0 ∨ m.1 48 f = 1) ∧ (m.1 48 f = 1 ↔ C0 h.1 v (h.1 13 10) [f]) ∧ m.1 (rwK 9 39 f) 0 = f) → Ok (nX7_beginPieces_2 N v k m) (fun g => Fr sSv h g ∧ cST (C0 h.1 v (h.1 13 10)) g.1) := by
    intro r
    induction r with
    | zero =>
      intro N k m hN hk k0 f ci
      obtain ⟨M, rfl⟩ := fuel_s hN
      rw [nX7_beginPieces_2_s]
      simp only [bX7_beginPieces_2]
      refine ok_neg (by omega) ?_
      refine ok_some ⟨f, fun f0 f1 f2 => ?_⟩
      obtain ⟨c1, c2, c3⟩ := ci f0 f1 (by omega)
      have one : m.1 48 f0 = 1 → prow m.1 f0 = [f0] := fun z => by
        unfold prow
        rw [z]
        show [m.1 (rwK 9 39 f0) 0] = [f0]
        rw [c3]
      refine ⟨by clear c2; omega, fun z => ?_, fun l hl hf => ?_⟩
      · have z1 : m.1 48 f0 = 1 := c1.resolve_left z
        rw [one z1]
        exact ⟨c2.mp z1, rfl⟩
      · obtain ⟨p, a, b, d, e⟩ := hl
        have hpf : p = f0 := by rw [b] at hf; exact hf
        have z1 : m.1 48 f0 = 1 := c2.mpr (by rw [← hpf]; exact ⟨p, a, rfl, d, e⟩)
        exact ⟨by omega, by rw [one z1, b, hpf]⟩
    | succ r ih =>
      intro N k m hN hk k0 f ci
      obtain ⟨M, rfl⟩ := fuel_s hN
      have ha := a9_pc k0 (show k < 9 by omega)
      have hrw := rw9 k0 (show k < 9 by omega)
      rw [nX7_beginPieces_2_s]
      simp only [bX7_beginPieces_2]
      refine ok_pos (by omega) ?_
      refine ok_gd (by omega) ?_
      refine ok_bf (rw9_0 k0 (by omega)) ?_
      refine ok_bt ha.1.1 ?_
      refine ok_gd (by rw [ha.2]; omega) ?_
      rw [ha.1.2]
      refine ok_bs ?_
      have f1 : Fr sSv h (hI m (rwK 9 39 k) 0 k) := fr_I f (by dsimp only [sSv]; omega)
      have fs := sSv_sc f1
      have e13 := sc_13 fs
      have e0 : (hI m (rwK 9 39 k) 0 k).1 (rwK 9 39 k) 0 = k := by rw [rI_s, updI_s]
      have e48 : (hI m (rwK 9 39 k) 0 k).1 48 = m.1 48 := rI_n (by omega)
      have eo : ∀ f0, 0 ≤ f0 → f0 < k → (hI m (rwK 9 39 k) 0 k).1 (rwK 9 39 f0) = m.1 (rwK 9 39 f0) := fun f0 a b => rI_n (fun z => by have := rw9_i a (by omega) k0 (by omega) z; omega)
      generalize hI m (rwK 9 39 k) 0 k = m1 at *
      have done : ∀ y, (y = 0 ∨ y = 1) → (y = 1 ↔ C0 h.1 v (h.1 13 10) [k]) → Ok (nX7_beginPieces_63 (nX7_beginPieces_2 M) v k y m1) (fun g => Fr sSv h g ∧ cST (C0 h.1 v (h.1 13 10)) g.1) := fun y hy hyc => by
        have go : Ok (nX7_beginPieces_78 (nX7_beginPieces_2 M) v k y k m1) (fun g => Fr sSv h g ∧ cST (C0 h.1 v (h.1 13 10)) g.1) := by
          simp only [nX7_beginPieces_78, bX7_beginPieces_78]
          refine ok_gd (by omega) ?_
          refine ok_bs ?_
          refine ok_gd (by omega) ?_
          refine ih M (k + 1) _ (by omega) (by omega) (by omega) (fr_I f1 (by dsimp only [sSv]; omega)) (fun f0 a b => ?_)
          have hr0 := rw9 a (show f0 < 9 by omega)
          rw [rI_s, rI_n (show rwK 9 39 f0 ≠ 48 by omega), updI_at, e48]
          by_cases c : f0 = k
          · rw [if_pos c, c]
            exact ⟨hy, hyc, e0⟩
          · rw [if_neg c, eo f0 a (by omega)]
            exact ci f0 a (by omega)
        simp only [nX7_beginPieces_63, bX7_beginPieces_63]
        rcases hy with hy | hy
        · refine ok_pos hy ?_
          rw [hy] at go; exact go
        · refine ok_neg (by omega) ?_
          rw [hy] at go; exact go
      have no : ¬ C0 h.1 v (h.1 13 10) [k] → Ok (nX7_beginPieces_62 (nX7_beginPieces_2 M) v k m1) (fun g => Fr sSv h g ∧ cST (C0 h.1 v (h.1 13 10)) g.1) := fun q => by
        simp only [nX7_beginPieces_62, bX7_beginPieces_62]
        exact done 0 (Or.inl rfl) ⟨fun z => by omega, fun z => absurd z q⟩
      have pk : ∀ {p : Int}, [k] = [p] → k = p := fun e => (List.cons.inj e).1
      rw [e13]
      by_cases c1 : k < h.1 13 10
      · refine ok_pos c1 ?_
        refine ok_be (sX6_canTake (sc_RV fs hr) k0 (by omega)) ?_
        rw [sc_c fs 20 (by unfold scC; omega), sc_vw fs]
        by_cases c2 : h.1 20 k = 0 ∧ vw h.1 k = -1
        · rw [b2i, if_pos c2]
          refine ok_neg (by decide) ?_
          refine ok_gd (by omega) ?_
          refine ok_bf (rw9_0 k0 (by omega)) ?_
          have er : rowL (m1.1 (rwK 9 39 k)) 0 (1 : Int).toNat = [k] := by
            show [m1.1 (rwK 9 39 k) 0] = [k]
            rw [e0]
          have ec := sX2_costOf (sc_VAL fs hv) ha (v := v) (n := 1) v0 (by rw [e13]; exact v1) (by omega) (by omega) (by rw [er]; exact fun q hq => by rw [List.mem_singleton.mp hq, e13]; omega)
          rw [er, sc_cost fs] at ec
          refine ok_be ec ?_
          by_cases c3 : costL h.1 v [k] = -1
          · refine ok_pos c3 ?_
            refine no ?_
            rintro ⟨p, a, b, d, e⟩
            rw [← pk b] at e
            exact e c3
          · refine ok_neg c3 ?_
            exact done 1 (Or.inr rfl) ⟨fun _ => ⟨k, ⟨k0, c1⟩, rfl, c2, c3⟩, fun _ => rfl⟩
        · rw [b2i, if_neg c2]
          refine ok_pos rfl ?_
          refine no ?_
          rintro ⟨p, a, b, d, e⟩
          rw [← pk b] at d
          exact c2 d
      · refine ok_neg c1 ?_
        refine no ?_
        rintro ⟨p, a, b, d, e⟩
        rw [← pk b] at a
        exact c1 a.2
  unfold nX7_beginPieces bX7_beginPieces
  exact key 9 100000 0 h (by omega) (by omega) (by omega) fr_r (fun f0 a b => by omega)
theorem cST_len {M : Nat → Int → Int} (q : cST C M) {f : Int} (f0 : 0 ≤ f) (f9 : f < 9) : ((prow M f).length : Int) = M 48 f := by
  have := (q f f0 f9).1
  unfold prow
  rw [rowL_len]
  omega
theorem c_ends (hv : VAL K) (hP : PS K v C) (q : cST C m.1) (a : Int) : Ok (nX7_pieceThatEndsWith m a) (fun r => (r = -1 ∧ ∀ l, C l → laL l ≠ a) ∨ ((0 ≤ r ∧ r < 9) ∧ m.1 48 r ≠ 0 ∧ laL (prow m.1 r) = a)) := by
  have hn := v_n hv
  have key : ∀ (r N : Nat) (k : Int), r < N → k + r = 9 → 0 ≤ k → (∀ f, 0 ≤ f → f < k → m.1 48 f ≠ 0 → laL (prow m.1 f) ≠ a) → Ok (nX7_pieceThatEndsWith_2 m N a k) (fun r => (r = -1 ∧ ∀ l, C l → laL l ≠ a) ∨ ((0 ≤ r ∧ r < 9) ∧ m.1 48 r ≠ 0 ∧ laL (prow m.1 r) = a)) := by
    intro r
    induction r with
    | zero =>
      intro N k hN hk k0 hj
      obtain ⟨M, rfl⟩ := fuel_s hN
      rw [nX7_pieceThatEndsWith_2_s]
      simp only [bX7_pieceThatEndsWith_2]
      refine ok_neg (by omega) ?_
      refine ok_some (Or.inl ⟨rfl, fun l hl => ?_⟩)
      have hl2 := (hP.1 l hl).1
      have hh := hl2.2.1 _ (hdL_m hl2.1)
      have z := (q (hdL l) hh.1 (by omega)).2.2 l hl rfl
      have := hj (hdL l) hh.1 (by omega) z.1
      rw [z.2] at this
      exact this
    | succ r ih =>
      intro N k hN hk k0 hj
      obtain ⟨M, rfl⟩ := fuel_s hN
      have ha := a9_pc k0 (show k < 9 by omega)
      have hb := (q k k0 (by omega)).1
      rw [nX7_pieceThatEndsWith_2_s]
      simp only [bX7_pieceThatEndsWith_2, nX7_pieceThatEndsWith_38, bX7_pieceThatEndsWith_38]
      have nx : (m.1 48 k ≠ 0 → laL (prow m.1 k) ≠ a) → Ok (gd (R32 (k + 1)) (nX7_pieceThatEndsWith_2 m M a (k + 1))) (fun r => (r = -1 ∧ ∀ l, C l → laL l ≠ a) ∨ ((0 ≤ r ∧ r < 9) ∧ m.1 48 r ≠ 0 ∧ laL (prow m.1 r) = a)) := fun w => by
        refine ok_gd (by omega) ?_
        refine ih M (k + 1) (by omega) (by omega) (by omega) (fun f f0 f1 fz => ?_)
        by_cases c : f = k
        · rw [c] at fz ⊢; exact w fz
        · exact hj f f0 (by omega) fz
      refine ok_pos (by omega) ?_
      refine ok_gd (by omega) ?_
      by_cases c1 : 0 < m.1 48 k
      · refine ok_pos c1 ?_
        refine ok_gd (by omega) ?_
        refine ok_bf (rw9_0 k0 (by omega)) ?_
        refine ok_gd (by omega) ?_
        refine ok_gd (by omega) ?_
        refine ok_bt (a9_ok ha) ?_
        refine ok_gd (by rw [ha.2]; omega) ?_
        have el : laL (prow m.1 k) = m.1 (rwK 9 39 k) (m.1 48 k - 1) := by
          unfold prow
          rw [laL_row (by omega)]
          exact ca (by omega)
        by_cases c2 : m.1 (rwK 9 39 k) (m.1 48 k - 1) = a
        · refine ok_pos c2 ?_
          exact ok_some (Or.inr ⟨⟨k0, by omega⟩, by omega, by rw [el]; exact c2⟩)
        · refine ok_neg c2 ?_
          exact nx (fun _ => by rw [el]; exact c2)
      · refine ok_neg c1 ?_
        exact nx (fun z => by omega)
  unfold nX7_pieceThatEndsWith bX7_pieceThatEndsWith
  exact key 9 100000 0 (by omega) (by omega) (by omega) (fun f f0 f1 => by omega)
theorem c_join {x1 x2 : Int} {c : Nat} (ha : A9 c) (a0 : 0 ≤ x1) (a1 : x1 < 9) (b0 : 0 ≤ x2) (b1 : x2 < 9) (hc2 : rwK 9 39 x2 ≠ c) (h48 : 48 ≠ c) (hl : 0 ≤ m.1 48 x1 ∧ 0 ≤ m.1 48 x2 ∧ m.1 48 x1 + m.1 48 x2 ≤ 9) : Ok (nX7_join x1 x2 c m) (fun r => (r.1 = m.1 48 x1 + m.1 48 x2 ∧ rowL (r.2.1 c) 0 (m.1 48 x1 + m.1 48 x2).toNat = prow m.1 x1 ++ prow m.1 x2) ∧ Fr (sA c) m r.2) := by
  have h1 := a9_pc a0 a1
  have h2 := a9_pc b0 b1
  simp only [nX7_join, bX7_join]
  refine ok_gd (by omega) ?_
  refine ok_bf (rw9_0 a0 a1) ?_
  refine ok_gd (by omega) ?_
  refine ok_bt (a9_ok2 h1 ha) ?_
  refine ok_gd (by rw [h1.2, ha.2]; omega) ?_
  simp only [ha.1.2, cond_true]
  refine ok_bs ?_
  simp only [rC_n h48]
  refine ok_gd (by omega) ?_
  refine ok_bf (rw9_0 b0 b1) ?_
  refine ok_gd (by omega) ?_
  refine ok_gd (by omega) ?_
  refine ok_bt (a9_ok2 h2 ha) ?_
  refine ok_gd (by rw [h2.2, ha.2]; omega) ?_
  refine ok_bs ?_
  simp only [rC_n h48]
  refine ok_gd (by omega) ?_
  refine ok_gd (by omega) ?_
  refine ok_gd (by omega) ?_
  refine ok_some ⟨⟨rfl, ?_⟩, fr_C (fr_C fr_r (fun _ => sA_s)) (fun _ => sA_s)⟩
  rw [show (m.1 48 x1 + m.1 48 x2).toNat = (m.1 48 x1).toNat + (m.1 48 x2).toNat by omega, rowL_add]
  unfold prow
  congr 1
  · refine rowL_ext (fun j hj => ?_)
    simp only [rC_s]
    rw [if_neg (by omega), if_pos (by omega)]
    exact ca (by omega)
  · refine rowL_ext (fun j hj => ?_)
    simp only [rC_s, rC_n hc2]
    rw [if_pos (by omega)]
    exact ca (by omega)
theorem sX2_savingOf (hv : VAL h.1) {x1 x2 : Int} (a : 0 ≤ x1 ∧ x1 < h.1 13 10) (b : 0 ≤ x2 ∧ x2 < h.1 13 10) : nX2_savingOf h x1 x2 = some (dK h.1 (h.1 14 x1) 0 + dK h.1 0 (h.1 14 x2) - dK h.1 (h.1 14 x1) (h.1 14 x2)) := by
  have hn := v_n hv
  have p1 := v_p hv a.1 a.2
  have p2 := v_p hv b.1 b.2
  have d1 := v_D hv (a := h.1 14 x1) (b := 0) (by omega) (by omega) (by omega) (by omega)
  have d2 := v_D hv (a := 0) (b := h.1 14 x2) (by omega) (by omega) (by omega) (by omega)
  have d3 := v_D hv (a := h.1 14 x1) (b := h.1 14 x2) (by omega) (by omega) (by omega) (by omega)
  simp only [nX2_savingOf, bX2_savingOf]
  refine ok_is ?_
  refine ok_gd (by omega) ?_
  refine ok_be (sX9_minutesOf (by omega) (by omega) (by omega) (by omega)) ?_
  refine ok_gd (by omega) ?_
  refine ok_be (sX9_minutesOf (by omega) (by omega) (by omega) (by omega)) ?_
  refine ok_gd (by omega) ?_
  refine ok_gd (by omega) ?_
  refine ok_gd (by omega) ?_
  refine ok_be (sX9_minutesOf (by omega) (by omega) (by omega) (by omega)) ?_
  refine ok_gd (by omega) ?_
  exact ok_some rfl
abbrev sFJ : Nat → Int → Prop := fun c _ => c = 34 ∨ c = 35
def stJ (K : Nat → Int → Int) (M : Nat → Int → Int) : Option (List Int × List Int) → Prop
  | none => M 34 6 = 0
  | some (A, B) => M 34 6 = 1 ∧ M 34 12 = svL K A B ∧ (M 34 13 = hdL A ∧ M 34 14 = hdL B)
theorem stJ_34 {M M1 : Nat → Int → Int} (e : M1 34 = M 34) : ∀ {s : Option (List Int × List Int)}, stJ K M s → stJ K M1 s
  | none, q => by unfold stJ at q ⊢; rw [e]; exact q
  | some (A, B), q => by unfold stJ at q ⊢; rw [e]; exact q
theorem cST_fr {g : HH} (q : cST C m.1) (f : Fr sFJ m g) : cST C g.1 := by
  have e : ∀ c, 39 ≤ c → c ≤ 48 → g.1 c = m.1 c := fun c c1 c2 => fr_c f c (fun i s => by dsimp only [sFJ] at s; omega)
  have ep : ∀ f0, 0 ≤ f0 → f0 < 9 → prow g.1 f0 = prow m.1 f0 := fun f0 a b => by
    have := rw9 a b
    unfold prow
    rw [e 48 (by omega) (by omega), e _ (by omega) (by omega)]
  intro f0 a b
  rw [ep f0 a b, e 48 (by omega) (by omega)]
  exact q f0 a b
theorem c_try (hv : VAL h.1) (f : Fr sSv h m) (v0 : 0 ≤ v) (v1 : v < h.1 13 14) (hP : PS h.1 v C) (q : cST C m.1) {f1 f2 : Int} (a0 : 0 ≤ f1 ∧ f1 < 9) (b0 : 0 ≤ f2 ∧ f2 < 9) (hne : f1 ≠ f2) (z1 : m.1 48 f1 ≠ 0) (z2 : m.1 48 f2 ≠ 0) {s : Option (List Int × List Int)} (hs : stJ h.1 m.1 s) (hb : bpS h.1 v D s) (ho : ∀ A0 B0, s = some (A0, B0) → laL A0 < laL (prow m.1 f1) ∨ (laL A0 = laL (prow m.1 f1) ∧ hdL B0 < f2)) : Ok (nX7_tryJoin v f1 f2 m) (fun g => Fr sFJ m g ∧ ∃ s', stJ h.1 g.1 s' ∧ bpS h.1 v (fun X Y => D X Y ∨ (X = prow m.1 f1 ∧ Y = prow m.1 f2)) s') := by
  have fs := sSv_sc f
  have hn := v_n hv
  have hvm := sc_VAL fs hv
  have e13 := sc_13 fs
  obtain ⟨q1, q2, q3⟩ := q f1 a0.1 a0.2
  obtain ⟨w1, w2, w3⟩ := q f2 b0.1 b0.2
  obtain ⟨cA, hA⟩ := q2 z1
  obtain ⟨cB, hB⟩ := w2 z2
  have lA := cST_len q a0.1 a0.2
  have lB := cST_len q b0.1 b0.2
  have pA := hP.1 _ cA
  have pB := hP.1 _ cB
  have neAB : prow m.1 f1 ≠ prow m.1 f2 := fun z => hne (by rw [← hA, ← hB, z])
  have h9 := PS_len hv hP cA cB neAB
  have ha1 := a9_pc a0.1 a0.2
  have el : m.1 (rwK 9 39 f1) (m.1 48 f1 - 1) = laL (prow m.1 f1) := by
    unfold prow
    rw [laL_row (by omega)]
    exact ca (by omega)
  have rl := pA.1.2.1 _ (laL_m pA.1.1)
  have rh := pB.1.2.1 _ (hdL_m pB.1.1)
  rw [hB] at rh
  have esv : dK m.1 (m.1 14 (laL (prow m.1 f1))) 0 + dK m.1 0 (m.1 14 f2) - dK m.1 (m.1 14 (laL (prow m.1 f1))) (m.1 14 f2) = svL h.1 (prow m.1 f1) (prow m.1 f2) := by
    unfold svL dK
    rw [hB, sc_c fs 7 (by unfold scC; omega), sc_c fs 14 (by unfold scC; omega)]
  simp only [nX7_tryJoin, bX7_tryJoin]
  refine ok_gd (by omega) ?_
  refine ok_bf (rw9_0 a0.1 a0.2) ?_
  refine ok_gd (by omega) ?_
  refine ok_gd (by omega) ?_
  refine ok_bt (a9_ok ha1) ?_
  refine ok_gd (by rw [ha1.2]; omega) ?_
  rw [el]
  refine ok_be (sX2_savingOf hvm (by rw [e13]; exact rl) (by rw [e13]; exact rh)) ?_
  rw [esv]
  have hrw2 := rw9 b0.1 b0.2
  have try_ : btr h.1 (prow m.1 f1) (prow m.1 f2) s → Ok (nX7_tryJoin_42 v f1 f2 (svL h.1 (prow m.1 f1) (prow m.1 f2)) m) (fun g => Fr sFJ m g ∧ ∃ s', stJ h.1 g.1 s' ∧ bpS h.1 v (fun X Y => D X Y ∨ (X = prow m.1 f1 ∧ Y = prow m.1 f2)) s') := fun hbt => by
    simp only [nX7_tryJoin_42, bX7_tryJoin_42]
    refine ok_bnd (c_join (m := m) a9_35 a0.1 a0.2 b0.1 b0.2 (by omega) (by decide) ⟨q1.1, w1.1, by omega⟩) (fun r hr => ?_)
    obtain ⟨⟨r1, r2⟩, r3⟩ := hr
    have fr3 : Fr sFJ m r.2 := fr_m (fun c i s => Or.inr s) r3
    have fr2 : Fr sSv h r.2 := fr_t f (fr_m (fun c i s => Or.inl s) fr3)
    have fs2 := sSv_sc fr2
    have hin : inR h.1 (prow m.1 f1 ++ prow m.1 f2) := fun p hp => (List.mem_append.mp hp).elim (pA.1.2.1 p) (pB.1.2.1 p)
    have ec := sX2_costOf (sc_VAL fs2 hv) a9_35 (v := v) (n := m.1 48 f1 + m.1 48 f2) v0 (by rw [sc_13 fs2]; exact v1) (by omega) (by omega) (by rw [r2]; exact sc_inR fs2 hin)
    rw [r2, sc_cost fs2] at ec
    rw [r1]
    refine ok_be ec ?_
    by_cases c : costL h.1 v (prow m.1 f1 ++ prow m.1 f2) = -1
    · refine ok_pos c ?_
      exact ok_some ⟨fr3, s, stJ_34 (fr_c r3 34 (fun i s => sA_n (by decide) i s)) hs, bpS_no c hb⟩
    · refine ok_neg c ?_
      refine ok_gd (by decide) ?_
      refine ok_bs ?_
      refine ok_bs ?_
      refine ok_bs ?_
      refine ok_bs ?_
      refine ok_some ⟨fr_I (fr_I (fr_I (fr_I fr3 (Or.inl rfl)) (Or.inl rfl)) (Or.inl rfl)) (Or.inl rfl), some (prow m.1 f1, prow m.1 f2), ?_, bpS_yes c hb hbt⟩
      unfold stJ
      simp (disch := decide) only [rI_s, rI_n, rI_2, rC_s, rC_n, rC_2, rJ_1, rJ_s, rJ_n, updI_at, if_pos, if_neg]
      exact ⟨trivial, trivial, hA.symm, hB.symm⟩
  cases s with
  | none =>
    refine ok_pos hs ?_
    exact try_ True.intro
  | some p =>
    obtain ⟨A0, B0⟩ := p
    obtain ⟨s1, s2, s3⟩ := hs
    have ho' := ho A0 B0 rfl
    refine ok_neg (by omega) ?_
    by_cases c : m.1 34 12 < svL h.1 (prow m.1 f1) (prow m.1 f2)
    · refine ok_pos c ?_
      exact try_ (Or.inl (by omega))
    · refine ok_neg c ?_
      refine ok_some ⟨fr_r, some (A0, B0), ⟨s1, s2, s3⟩, bpS_old hb (fun z => ?_)⟩
      have z' : svL h.1 A0 B0 < svL h.1 (prow m.1 f1) (prow m.1 f2) ∨ (svL h.1 (prow m.1 f1) (prow m.1 f2) = svL h.1 A0 B0 ∧ (laL (prow m.1 f1) < laL A0 ∨ (laL (prow m.1 f1) = laL A0 ∧ hdL (prow m.1 f2) < hdL B0))) := z
      rw [hB] at z'
      omega
def pAll (C : List Int → Prop) (A B : List Int) : Prop := C A ∧ C B ∧ A ≠ B
def pTo (C : List Int → Prop) (a b : Int) (A B : List Int) : Prop := pAll C A B ∧ (laL A < a ∨ (laL A = a ∧ hdL B < b))
theorem c_find (hv : VAL h.1) (f : Fr sSv h m) (v0 : 0 ≤ v) (v1 : v < h.1 13 14) (hP : PS h.1 v C) (q : cST C m.1) : Ok (nX7_findJoin v m) (fun r => Fr sFJ m r.2 ∧ r.1 = r.2.1 34 6 ∧ ∃ s, bpS h.1 v (pAll C) s ∧ stJ h.1 r.2.1 s) := by
  have hn := v_n hv
  have rng : ∀ l, C l → (0 ≤ hdL l ∧ hdL l < h.1 13 10) ∧ (0 ≤ laL l ∧ laL l < h.1 13 10) := fun l hl => by
    have := (hP.1 l hl).1
    exact ⟨this.2.1 _ (hdL_m this.1), this.2.1 _ (laL_m this.1)⟩
  have inner : ∀ {c12 : Int → Int → HH → Option (Int × HH)} {P : Int × HH → Prop} {a x : Int}, 0 ≤ a → a < h.1 13 10 → ((0 ≤ x ∧ x < 9) ∧ m.1 48 x ≠ 0 ∧ laL (prow m.1 x) = a) → ∀ (r N : Nat) (b : Int) (g : HH) (s : Option (List Int × List Int)), r < N → b + r = h.1 13 10 → 0 ≤ b → Fr sFJ m g → stJ h.1 g.1 s → bpS h.1 v (pTo C a b) s → (∀ g' s', Fr sFJ m g' → stJ h.1 g'.1 s' → bpS h.1 v (pTo C (a + 1) 0) s' → Ok (c12 v (a + 1) g') P) → Ok (nX7_findJoin_32 c12 N v a x b g) P := by
    intro c12 P a x a0 a1 hx r
    obtain ⟨x0, xz, xl⟩ := hx
    induction r with
    | zero =>
      intro N b g s hN hb b0 fg hs hbp hk
      obtain ⟨M, rfl⟩ := fuel_s hN
      have fs := sSv_sc (fr_t f (fr_m (fun c i s => Or.inl s) fg))
      have e13 := sc_13 fs
      rw [nX7_findJoin_32_s]
      simp only [bX7_findJoin_32, nX7_findJoin_79, bX7_findJoin_79]
      refine ok_neg (by rw [e13]; omega) ?_
      refine ok_gd (by omega) ?_
      refine hk g s fg hs (bpS_cg (fun A B => ?_) hbp)
      unfold pTo pAll
      constructor
      · rintro ⟨w, w2⟩
        have := rng A w.1
        exact ⟨w, by omega⟩
      · rintro ⟨w, w2⟩
        have := rng A w.1
        have := rng B w.2.1
        exact ⟨w, by omega⟩
    | succ r ih =>
      intro N b g s hN hb b0 fg hs hbp hk
      obtain ⟨M, rfl⟩ := fuel_s hN
      have fg2 := fr_t f (fr_m (fun c i s => Or.inl s) fg)
      have fs := sSv_sc fg2
      have e13 := sc_13 fs
      have qg := cST_fr q fg
      have eg48 : g.1 48 = m.1 48 := fr_c fg 48 (fun i s => by dsimp only [sFJ] at s; omega)
      have egp : prow g.1 x = prow m.1 x := by
        have := rw9 x0.1 x0.2
        unfold prow
        rw [eg48, fr_c fg _ (fun i s => by dsimp only [sFJ] at s; omega)]
      have cx := (q x x0.1 x0.2).2.1 xz
      rw [nX7_findJoin_32_s]
      simp only [bX7_findJoin_32]
      refine ok_pos (by rw [e13]; omega) ?_
      refine ok_neg (by omega) ?_
      have nx : ∀ g' s', Fr sFJ m g' → stJ h.1 g'.1 s' → bpS h.1 v (pTo C a (b + 1)) s' → Ok (nX7_findJoin_73 c12 (nX7_findJoin_32 c12 M) v a x b g') P := fun g' s' f' hs' hb' => by
        simp only [nX7_findJoin_73, bX7_findJoin_73]
        refine ok_gd (by omega) ?_
        exact ih M (b + 1) g' s' (by omega) (by omega) (by omega) f' hs' hb' hk
      by_cases c1 : b = x
      · refine ok_pos c1 ?_
        refine nx g s fg hs (bpS_cg (fun A B => ?_) hbp)
        unfold pTo pAll
        constructor
        · rintro ⟨w, w2⟩
          exact ⟨w, by omega⟩
        · rintro ⟨w, w2⟩
          refine ⟨w, ?_⟩
          by_cases c2 : laL A = a ∧ hdL B = b
          · exfalso
            have eA := hP.2 A (prow m.1 x) (laL A) w.1 cx.1 (laL_m (hP.1 A w.1).1.1) (by rw [c2.1, ← xl]; exact laL_m (hP.1 _ cx.1).1.1)
            have eB := hP.2 B (prow m.1 x) (hdL B) w.2.1 cx.1 (hdL_m (hP.1 B w.2.1).1.1) (by
              rw [c2.2, c1]
              have z := hdL_m (hP.1 _ cx.1).1.1
              rw [cx.2] at z
              exact z)
            exact w.2.2 (eA.trans eB.symm)
          · omega
      · refine ok_neg c1 ?_
        refine ok_gd (by omega) ?_
        rw [eg48]
        have hb48 := (q b b0 (by omega)).1
        by_cases c2 : 0 < m.1 48 b
        · refine ok_pos c2 ?_
          have cb := (q b b0 (by omega)).2.1 (by omega)
          have egb : prow g.1 b = prow m.1 b := by
            have := rw9 b0 (show b < 9 by omega)
            unfold prow
            rw [eg48, fr_c fg _ (fun i s => by dsimp only [sFJ] at s; omega)]
          refine ok_bnd (c_try hv fg2 v0 v1 hP qg (f1 := x) (f2 := b) x0 ⟨b0, by omega⟩ (fun z => c1 z.symm) (by rw [eg48]; exact xz) (by rw [eg48]; omega) hs hbp (fun A0 B0 es => ?_)) (fun g' hg' => ?_)
          · rw [es] at hbp
            have := hbp.1.1.2
            rw [egp, xl]
            exact this
          · obtain ⟨f', s', hs', hb'⟩ := hg'
            refine nx g' s' (fr_t fg f') hs' (bpS_cg (fun A B => ?_) hb')
            rw [egp, egb]
            unfold pTo
            constructor
            · rintro (w | ⟨w1, w2⟩)
              · exact ⟨w.1, by have := w.2; omega⟩
              · rw [w1, w2]
                refine ⟨⟨cx.1, cb.1, fun z => c1 ?_⟩, Or.inr ⟨xl, by rw [cb.2]; omega⟩⟩
                rw [← cb.2, ← z, cx.2]
            · rintro ⟨w1, w2⟩
              by_cases c3 : laL A = a ∧ hdL B = b
              · right
                refine ⟨hP.2 A (prow m.1 x) (laL A) w1.1 cx.1 (laL_m (hP.1 A w1.1).1.1) (by rw [c3.1, ← xl]; exact laL_m (hP.1 _ cx.1).1.1), ?_⟩
                have := ((q b b0 (by omega)).2.2 B w1.2.1 c3.2).2
                exact this.symm
              · exact Or.inl ⟨w1, by omega⟩
        · refine ok_neg c2 ?_
          refine nx g s fg hs (bpS_cg (fun A B => ?_) hbp)
          unfold pTo pAll
          constructor
          · rintro ⟨w, w2⟩
            exact ⟨w, by omega⟩
          · rintro ⟨w, w2⟩
            refine ⟨w, ?_⟩
            by_cases c3 : hdL B = b
            · have := ((q b b0 (by omega)).2.2 B w.2.1 c3).1
              omega
            · omega
  have key : ∀ (r N : Nat) (a : Int) (g : HH) (s : Option (List Int × List Int)), r < N → a + r = h.1 13 10 → 0 ≤ a → Fr sFJ m g → stJ h.1 g.1 s → bpS h.1 v (pTo C a 0) s → Ok (nX7_findJoin_12 N v a g) (fun r => Fr sFJ m r.2 ∧ r.1 = r.2.1 34 6 ∧ ∃ s, bpS h.1 v (pAll C) s ∧ stJ h.1 r.2.1 s) := by
    intro r
    induction r with
    | zero =>
      intro N a g s hN ha a0 fg hs hbp
      obtain ⟨M, rfl⟩ := fuel_s hN
      have fs := sSv_sc (fr_t f (fr_m (fun c i s => Or.inl s) fg))
      have e13 := sc_13 fs
      rw [nX7_findJoin_12_s]
      simp only [bX7_findJoin_12]
      refine ok_neg (by rw [e13]; omega) ?_
      refine ok_gd ?_ ?_
      · cases s with
        | none => have z : g.1 34 6 = 0 := hs; omega
        | some p => have z := hs.1; omega
      · refine ok_some ⟨fg, rfl, s, bpS_cg (fun A B => ?_) hbp, hs⟩
        unfold pTo
        exact ⟨fun w => w.1, fun w => ⟨w, Or.inl (by have := rng A w.1; omega)⟩⟩
    | succ r ih =>
      intro N a g s hN ha a0 fg hs hbp
      obtain ⟨M, rfl⟩ := fuel_s hN
      have fg2 := fr_t f (fr_m (fun c i s => Or.inl s) fg)
      have fs := sSv_sc fg2
      have e13 := sc_13 fs
      have qg := cST_fr q fg
      rw [nX7_findJoin_12_s]
      simp only [bX7_findJoin_12]
      refine ok_pos (by rw [e13]; omega) ?_
      refine ok_bnd (c_ends hv hP qg a) (fun x hx => ?_)
      rcases hx with ⟨hx, hno⟩ | hx
      · rw [show (100000 : Nat) = 99999 + 1 from rfl, nX7_findJoin_32_s]
        simp only [bX7_findJoin_32, nX7_findJoin_79, bX7_findJoin_79]
        refine ok_pos (by rw [e13]; omega) ?_
        refine ok_pos hx ?_
        refine ok_gd (by omega) ?_
        refine ih M (a + 1) g s (by omega) (by omega) (by omega) fg hs (bpS_cg (fun A B => ?_) hbp)
        unfold pTo pAll
        constructor
        · rintro ⟨w, w2⟩
          have := rng B w.2.1
          exact ⟨w, by omega⟩
        · rintro ⟨w, w2⟩
          have := rng B w.2.1
          have := hno A w.1
          exact ⟨w, by omega⟩
      · have eg48 : g.1 48 = m.1 48 := fr_c fg 48 (fun i s => by dsimp only [sFJ] at s; omega)
        have egp : prow g.1 x = prow m.1 x := by
          have := rw9 hx.1.1 hx.1.2
          unfold prow
          rw [eg48, fr_c fg _ (fun i s => by dsimp only [sFJ] at s; omega)]
        rw [eg48, egp] at hx
        refine inner a0 (by omega) hx (h.1 13 10).toNat 100000 0 g s (by omega) (by omega) (by omega) fg hs hbp (fun g' s' f' hs' hb' => ?_)
        exact ih M (a + 1) g' s' (by omega) (by omega) (by omega) f' hs' hb'
  simp only [nX7_findJoin, bX7_findJoin]
  refine ok_gd (by decide) ?_
  refine ok_bs ?_
  refine ok_bs ?_
  refine key (h.1 13 10).toNat 100000 0 _ none (by omega) (by omega) (by omega) (fr_I (fr_I fr_r (Or.inl rfl)) (Or.inl rfl)) (by unfold stJ; simp (disch := decide) only [rI_s, rI_n, rI_2, rC_s, rC_n, rC_2, rJ_1, rJ_s, rJ_n, updI_at, if_pos, if_neg]) (fun A B d => ?_)
  have a := rng A d.1.1
  have b := rng B d.1.2.1
  have := d.2
  omega
end PIECES
