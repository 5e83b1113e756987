/-! SAVINGS: the class joins what joins best, as long as it can -/
section SAVC
variable {h h' m : HH} {K K1 : Nat → Int → Int} {v n : Int} {C : List Int → Prop}
/-- the pieces at the end -/
def endC (K : Nat → Int → Int) (v : Int) : Nat → (List Int → Prop) → (List Int → Prop) → Prop
  | 0, _, _ => False
  | k + 1, C, E => (bpS K v (pAll C) none ∧ E = C) ∨ ∃ A B, bpS K v (pAll C) (some (A, B)) ∧ endC K v k (joC C A B) E
theorem endC_P : ∀ {k : Nat} {C E : List Int → Prop}, PS K v C → endC K v k C E → PS K v E
  | 0, _, _, _, h => h.elim
  | k + 1, C, E, hP, h => by
    rcases h with ⟨_, e⟩ | ⟨A, B, a, b⟩
    · rw [e]; exact hP
    · exact endC_P (PS_jo hP a.1.1.1 a.1.1.2.1 a.1.1.2.2 a.1.2) b
theorem endC_u : ∀ {k k' : Nat} {C E E' : List Int → Prop}, PS K v C → endC K v k C E → endC K v k' C E' → E = E'
  | 0, _, _, _, _, _, h, _ => h.elim
  | k + 1, 0, _, _, _, _, _, h' => h'.elim
  | k + 1, k' + 1, C, E, E', hP, h, h' => by
    have hD : ∀ A B, pAll C A B → C A ∧ C B := fun A B q => ⟨q.1, q.2.1⟩
    rcases h with ⟨a, e⟩ | ⟨A, B, a, b⟩ <;> rcases h' with ⟨a', e'⟩ | ⟨A', B', a', b'⟩
    · rw [e, e']
    · have := bpS_u hP hD a a'; cases this
    · have := bpS_u hP hD a a'; cases this
    · have e := bpS_u hP hD a a'
      cases e
      exact endC_u (PS_jo hP a.1.1.1 a.1.1.2.1 a.1.1.2.2 a.1.2) b b'
def cntP (M : Nat → Int → Int) : Int := sumS (fun f => if M 48 f = 0 then 0 else 1) 9
theorem cntP_b {M : Nat → Int → Int} : 0 ≤ cntP M ∧ cntP M ≤ 9 := by
  have := sumS_1 (g := fun f => if M 48 f = 0 then 0 else 1) (n := 9) (fun j _ => by
    show 0 ≤ (if M 48 (j : Int) = 0 then (0 : Int) else 1) ∧ (if M 48 (j : Int) = 0 then (0 : Int) else 1) ≤ 1
    split <;> omega)
  exact this
theorem cntP_0 {M : Nat → Int → Int} (h : cntP M = 0) {f : Int} (f0 : 0 ≤ f) (f9 : f < 9) : M 48 f = 0 := by
  have := sumS_ge (g := fun f => if M 48 f = 0 then 0 else 1) (k := f.toNat) (n := 9) (fun j _ => by
    show 0 ≤ (if M 48 (j : Int) = 0 then (0 : Int) else 1)
    split <;> omega) (by omega)
  have e : (if M 48 ((f.toNat : Nat) : Int) = 0 then (0 : Int) else 1) ≤ cntP M := this
  rw [show ((f.toNat : Nat) : Int) = f by omega, h] at e
  by_cases c : M 48 f = 0
  · exact c
  · rw [if_neg c] at e; omega
theorem c_long (q : cST C m.1) (hv : VAL K) (hP : PS K v C) : Ok (nX7_longestPiece m) (fun r => (0 ≤ r ∧ r < 9) ∧ loP C (prow m.1 r)) := by
  have hn := v_n hv
  have key : ∀ (r N : Nat) (b k : Int), r < N → k + r = 9 → (0 ≤ b ∧ b < k) → (∀ f, 0 ≤ f → f < k → m.1 48 f < m.1 48 b ∨ (m.1 48 f = m.1 48 b ∧ b ≤ f)) → Ok (nX7_longestPiece_4 m N b k) (fun r => (0 ≤ r ∧ r < 9) ∧ loP C (prow m.1 r)) := by
    intro r
    induction r with
    | zero =>
      intro N b k hN hk hb hj
      obtain ⟨M, rfl⟩ := fuel_s hN
      rw [nX7_longestPiece_4_s]
      simp only [bX7_longestPiece_4]
      refine ok_neg (by omega) ?_
      refine ok_some ⟨⟨hb.1, by omega⟩, ?_⟩
      have qb := q b hb.1 (by omega)
      by_cases c : m.1 48 b = 0
      · refine Or.inl ⟨?_, fun l hl => ?_⟩
        · unfold prow
          rw [c]
          rfl
        · have hl2 := (hP.1 l hl).1
          have hh := hl2.2.1 _ (hdL_m hl2.1)
          have z := (q (hdL l) hh.1 (by omega)).2.2 l hl rfl
          have y := (q (hdL l) hh.1 (by omega)).1
          have := hj (hdL l) hh.1 (by omega)
          omega
      · obtain ⟨cb, hbh⟩ := qb.2.1 c
        refine Or.inr ⟨cb, fun l hl => ?_⟩
        have hl2 := (hP.1 l hl).1
        have hh := hl2.2.1 _ (hdL_m hl2.1)
        have z := (q (hdL l) hh.1 (by omega)).2.2 l hl rfl
        have e1 := cST_len q hh.1 (show hdL l < 9 by omega)
        have e2 := cST_len q hb.1 (show b < 9 by omega)
        rw [z.2] at e1
        have := hj (hdL l) hh.1 (by omega)
        rw [hbh]
        omega
    | succ r ih =>
      intro N b k hN hk hb hj
      obtain ⟨M, rfl⟩ := fuel_s hN
      rw [nX7_longestPiece_4_s]
      simp only [bX7_longestPiece_4, nX7_longestPiece_27, bX7_longestPiece_27]
      refine ok_pos (by omega) ?_
      refine ok_gd (by omega) ?_
      refine ok_gd (by omega) ?_
      by_cases c : m.1 48 b < m.1 48 k
      · refine ok_pos c ?_
        refine ok_gd (by omega) ?_
        refine ih M k (k + 1) (by omega) (by omega) (by omega) (fun f f0 f1 => ?_)
        by_cases e : f = k
        · rw [e]; exact Or.inr ⟨rfl, Int.le_refl _⟩
        · have := hj f f0 (by omega)
          omega
      · refine ok_neg c ?_
        refine ok_gd (by omega) ?_
        refine ih M b (k + 1) (by omega) (by omega) (by omega) (fun f f0 f1 => ?_)
        by_cases e : f = k
        · rw [e]; omega
        · exact hj f f0 (by omega)
  unfold nX7_longestPiece bX7_longestPiece
  exact key 8 100000 0 1 (by omega) (by omega) (by omega) (fun f f0 f1 => Or.inr ⟨by rw [show f = 0 by omega], by omega⟩)
abbrev sSw (v : Int) : Nat → Int → Prop := fun c i => sSv c i ∨ sRw v c i
theorem c_make (hv : VAL h.1) (hr : RV h.1) (v0 : 0 ≤ v) (v1 : v < h.1 13 14) : Ok (nX7_makeBySavings v h) (fun g => Fr (sSw v) h g ∧ ∃ L E k, endC h.1 v k (C0 h.1 v (h.1 13 10)) E ∧ loP E L ∧ (g.1 31 v = L.length ∧ rnd g.1 v = L) ∧ ∀ w, 0 ≤ w → w < 3 → w ≠ v → g.1 31 w = h.1 31 w ∧ rnd g.1 w = rnd h.1 w) := by
  have hn := v_n hv
  -- the end
  have fin : ∀ {C : List Int → Prop} {g : HH}, PS h.1 v C → Fr sSv h g → cST C g.1 → ∀ {C' : List Int → Prop} {k : Nat}, endC h.1 v k C' C → Ok (nX7_makeBySavings_67 v g) (fun g => Fr (sSw v) h g ∧ ∃ L E k, endC h.1 v k C' E ∧ loP E L ∧ (g.1 31 v = L.length ∧ rnd g.1 v = L) ∧ ∀ w, 0 ≤ w → w < 3 → w ≠ v → g.1 31 w = h.1 31 w ∧ rnd g.1 w = rnd h.1 w) := fun {C g} hP f q {C' k} he => by
    have fs := sSv_sc f
    simp only [nX7_makeBySavings_67, bX7_makeBySavings_67]
    refine ok_bnd (c_long q hv hP) (fun x hx => ?_)
    obtain ⟨x0, xl⟩ := hx
    have hb := (q x x0.1 x0.2).1
    have hrw := rw9 x0.1 x0.2
    have hrv := rwK_r v0 (show v < 3 by omega)
    refine ok_gd (by omega) ?_
    refine ok_bf (rw9_0 x0.1 x0.2) ?_
    refine ok_gd (by omega) ?_
    refine ok_bnd (sX6_replace (h := g) v0 (show v < 3 by omega) (a9_pc x0.1 x0.2) (by omega) hb.1 hb.2) (fun g2 hg2 => ?_)
    obtain ⟨⟨r1, r2, r3⟩, r4⟩ := hg2
    refine ok_some ⟨fr_t (fr_m (fun c i s => Or.inl s) f) (fr_m (fun c i s => Or.inr s) r4), prow g.1 x, C, k, he, xl, ⟨?_, ?_⟩, fun w w0 w3 hw => ?_⟩
    · rw [r1, cST_len q x0.1 x0.2]
    · rw [r2]; rfl
    · obtain ⟨a, b⟩ := r3 w w0 w3 hw
      rw [a, b, sc_31 fs, sc_rnd fs w0 w3]
      exact ⟨rfl, rfl⟩
  have key : ∀ (r N : Nat) (k : Int) (C : List Int → Prop) (g : HH), r < N → k + r = 9 → 0 ≤ k → PS h.1 v C → Fr sSv h g → cST C g.1 → k + cntP g.1 ≤ 9 → Ok (nX7_makeBySavings_7 N v k g) (fun g => Fr (sSw v) h g ∧ ∃ L E k, endC h.1 v k C E ∧ loP E L ∧ (g.1 31 v = L.length ∧ rnd g.1 v = L) ∧ ∀ w, 0 ≤ w → w < 3 → w ≠ v → g.1 31 w = h.1 31 w ∧ rnd g.1 w = rnd h.1 w) := by
    intro r
    induction r with
    | zero =>
      intro N k C g hN hk k0 hP f q hc
      obtain ⟨M, rfl⟩ := fuel_s hN
      rw [nX7_makeBySavings_7_s]
      simp only [bX7_makeBySavings_7]
      refine ok_neg (by omega) ?_
      have cb := cntP_b (M := g.1)
      have no : ∀ l, ¬ C l := fun l hl => by
        have hl2 := (hP.1 l hl).1
        have hh := hl2.2.1 _ (hdL_m hl2.1)
        exact ((q (hdL l) hh.1 (by omega)).2.2 l hl rfl).1 (cntP_0 (by omega) hh.1 (by omega))
      exact fin hP f q (k := 1) (Or.inl ⟨fun A B d => absurd d.1 (no A), rfl⟩)
    | succ r ih =>
      intro N k C g hN hk k0 hP f q hc
      obtain ⟨M, rfl⟩ := fuel_s hN
      rw [nX7_makeBySavings_7_s]
      simp only [bX7_makeBySavings_7]
      refine ok_pos (by omega) ?_
      refine ok_bnd (c_find hv f v0 v1 hP q) (fun x hx => ?_)
      obtain ⟨fx, x6, s, hb, hs⟩ := hx
      have f1 : Fr sSv h x.2 := fr_t f (fr_m (fun c i s => Or.inl s) fx)
      have q1 := cST_fr q fx
      cases s with
      | none =>
        refine ok_pos (x6.trans hs) ?_
        exact fin hP f1 q1 (k := 1) (Or.inl ⟨hb, rfl⟩)
      | some p =>
        obtain ⟨A, B⟩ := p
        obtain ⟨s1, s2, s3, s4⟩ := hs
        have hA := hb.1.1.1
        have hB := hb.1.1.2.1
        have hAB := hb.1.1.2.2
        have nA := (hP.1 A hA).1
        have nB := (hP.1 B hB).1
        have rA := nA.2.1 _ (hdL_m nA.1)
        have rB := nB.2.1 _ (hdL_m nB.1)
        obtain ⟨zA, pA⟩ := (q1 (hdL A) rA.1 (by omega)).2.2 A hA rfl
        obtain ⟨zB, pB⟩ := (q1 (hdL B) rB.1 (by omega)).2.2 B hB rfl
        have bA := (q1 (hdL A) rA.1 (by omega)).1
        have bB := (q1 (hdL B) rB.1 (by omega)).1
        have lA := cST_len q1 rA.1 (show hdL A < 9 by omega)
        have lB := cST_len q1 rB.1 (show hdL B < 9 by omega)
        rw [pA] at lA
        rw [pB] at lB
        have l9 := PS_len hv hP hA hB hAB
        have hne : hdL A ≠ hdL B := fun z => hAB (hP.2 A B (hdL A) hA hB (hdL_m nA.1) (by rw [z]; exact hdL_m nB.1))
        have hwA := rw9 rA.1 (show hdL A < 9 by omega)
        have hwB := rw9 rB.1 (show hdL B < 9 by omega)
        refine ok_neg (by omega) ?_
        rw [s3, s4]
        refine ok_gd (by omega) ?_
        refine ok_bf (rw9_0 rA.1 (by omega)) ?_
        refine ok_bnd (c_join (m := x.2) (c := rwK 9 39 (hdL A)) (a9_pc rA.1 (by omega)) rA.1 (by omega) rB.1 (by omega) (by omega) (by omega) ⟨bA.1, bB.1, by omega⟩) (fun y hy => ?_)
        obtain ⟨⟨y1, y2⟩, fy⟩ := hy
        rw [pA, pB] at y2
        refine ok_gd (by omega) ?_
        refine ok_bs ?_
        have e34 : (hI y.2 48 (hdL A) y.1).1 34 14 = hdL B := by rw [rI_n (by decide), fr_c fy 34 (fun i => sA_n (by omega) i)]; exact s4
        rw [e34]
        refine ok_gd (by omega) ?_
        refine ok_bs ?_
        refine ok_gd (by omega) ?_
        have fz : Fr sSv h (hI (hI y.2 48 (hdL A) y.1) 48 (hdL B) 0) := fr_I (fr_I (fr_t f1 (fr_m (fun c i s => by unfold sA at s; dsimp only [sSv]; omega) fy)) (by dsimp only [sSv]; omega)) (by dsimp only [sSv]; omega)
        have e48 : ∀ j, (hI (hI y.2 48 (hdL A) y.1) 48 (hdL B) 0).1 48 j = if j = hdL B then 0 else if j = hdL A then y.1 else x.2.1 48 j := fun j => by
          rw [rI_s, updI_at, rI_s, updI_at, fr_c fy 48 (fun i => sA_n (by omega) i)]
        have eR : ∀ j, 0 ≤ j → j < 9 → (hI (hI y.2 48 (hdL A) y.1) 48 (hdL B) 0).1 (rwK 9 39 j) = y.2.1 (rwK 9 39 j) := fun j a b => by
          have := rw9 a b
          rw [rI_n (by omega), rI_n (by omega)]
        generalize hI (hI y.2 48 (hdL A) y.1) 48 (hdL B) 0 = z at *
        have q2 : cST (joC C A B) z.1 := fun j j0 j9 => by
          have qj := q1 j j0 j9
          by_cases cB : j = hdL B
          · have e0 : z.1 48 j = 0 := by rw [e48, if_pos cB]
            refine ⟨by omega, fun w => absurd e0 w, fun l hl hlj => ?_⟩
            exfalso
            rcases hl with hl | hl
            · exact hl.2.2 (hP.2 l B (hdL l) hl.1 hB (hdL_m (hP.1 l hl.1).1.1) (by rw [hlj, cB]; exact hdL_m nB.1))
            · rw [hl, hdL_app nA.1] at hlj
              exact hne (hlj.trans cB)
          · by_cases cA : j = hdL A
            · have e0 : z.1 48 j = x.2.1 48 (hdL A) + x.2.1 48 (hdL B) := by rw [e48, if_neg cB, if_pos cA, y1]
              have ep : prow z.1 j = A ++ B := by
                unfold prow
                rw [e0, eR j j0 j9, cA]
                exact y2
              rw [ep]
              refine ⟨by omega, fun _ => ⟨Or.inr rfl, by rw [hdL_app nA.1, cA]⟩, fun l hl hlj => ⟨by omega, ?_⟩⟩
              rcases hl with hl | hl
              · exfalso
                exact hl.2.1 (hP.2 l A (hdL l) hl.1 hA (hdL_m (hP.1 l hl.1).1.1) (by rw [hlj, cA]; exact hdL_m nA.1))
              · exact hl.symm
            · have e0 : z.1 48 j = x.2.1 48 j := by rw [e48, if_neg cB, if_neg cA]
              have ep : prow z.1 j = prow x.2.1 j := by
                have := rw9 j0 j9
                unfold prow
                rw [e0, eR j j0 j9, fr_c fy _ (fun i => sA_n (by omega) i)]
              rw [ep, e0]
              refine ⟨qj.1, fun w => ?_, fun l hl hlj => ?_⟩
              · obtain ⟨w1, w2⟩ := qj.2.1 w
                exact ⟨Or.inl ⟨w1, fun u => cA (by rw [← w2, u]), fun u => cB (by rw [← w2, u])⟩, w2⟩
              · rcases hl with hl | hl
                · exact qj.2.2 l hl.1 hlj
                · exfalso
                  rw [hl, hdL_app nA.1] at hlj
                  exact cA hlj.symm
        have hcnt : cntP z.1 = cntP x.2.1 - 1 := by
          have hu := sumS_upd (g := fun f => if x.2.1 48 f = 0 then 0 else 1) (g' := fun f => if z.1 48 f = 0 then 0 else 1) (k := (hdL B).toNat) (n := 9) (by omega) (fun j h1 h2 => by
            show (if z.1 48 (j : Int) = 0 then (0 : Int) else 1) = if x.2.1 48 (j : Int) = 0 then (0 : Int) else 1
            have ez : z.1 48 (j : Int) = if (j : Int) = hdL A then y.1 else x.2.1 48 (j : Int) := by
              rw [e48]; exact if_neg (by omega)
            rw [ez]
            by_cases cA : (j : Int) = hdL A
            · rw [if_pos cA, cA, if_neg (by omega), if_neg (by omega)]
            · rw [if_neg cA])
          have hu2 : cntP z.1 = cntP x.2.1 + ((if z.1 48 (((hdL B).toNat : Nat) : Int) = 0 then (0 : Int) else 1) - if x.2.1 48 (((hdL B).toNat : Nat) : Int) = 0 then (0 : Int) else 1) := hu
          rw [show (((hdL B).toNat : Nat) : Int) = hdL B by omega, e48, if_pos rfl, if_pos rfl, if_neg (by omega)] at hu2
          omega
        have ec : cntP x.2.1 = cntP g.1 := by
          unfold cntP
          rw [fr_c fx 48 (fun i s => by dsimp only [sFJ] at s; omega)]
        refine ok_mono (ih M (k + 1) (joC C A B) z (by omega) (by omega) (by omega) (PS_jo hP hA hB hAB hb.1.2) fz q2 (by omega)) (fun g' hg' => ?_)
        obtain ⟨w1, L, E, kk, w2, w3⟩ := hg'
        exact ⟨w1, L, E, kk + 1, Or.inr ⟨A, B, hb, w2⟩, w3⟩
  unfold nX7_makeBySavings bX7_makeBySavings
  refine ok_bnd (c_begin hv hr v0 v1) (fun g hg => ?_)
  have cb := cntP_b (M := g.1)
  exact key 9 100000 0 _ g (by omega) (by omega) (by omega) PS_0 hg.1 hg.2 (by omega)
end SAVC
