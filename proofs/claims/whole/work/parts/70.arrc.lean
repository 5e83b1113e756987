/-! ARRIVAL: the class, both sides -/
section ARRC
variable {h h' m : HH} {M : Nat → Int → Int} {n a t0 : Int}
theorem tmE_cg {sg : Int} {fac fac' : Int → Int} (e : ∀ i, 0 ≤ i → i ≤ 23 → fac' i = fac i) (t : Int) : tmE sg fac' t = tmE sg fac t := by
  unfold tmE
  rw [e _ (by omega) (by omega)]
theorem mnE_cg {sg : Int} {fac fac' : Int → Int} (e : ∀ i, 0 ≤ i → i ≤ 23 → fac' i = fac i) : ∀ (k : Nat) (t : Int), mnE sg fac' k t = mnE sg fac k t
  | 0, t => by rw [mnE, mnE, ftE, ftE, tmE_cg e]
  | k + 1, t => by rw [mnE, mnE, ftE, ftE, tmE_cg e, mnE_cg e k]
theorem eoE_cg {sg : Int} {fac fac' : Int → Int} (e : ∀ i, 0 ≤ i → i ≤ 23 → fac' i = fac i) (t : Int) : eoE sg fac' t = eoE sg fac t := mnE_cg e 360 t
/-- the class' streets are the model's -/
def cSt (K M : Nat → Int → Int) (n : Int) : Prop := (K 3 3 = n ∧ 0 ≤ n ∧ n ≤ 60) ∧ (∀ s, 0 ≤ s → s < n → K 4 s = M 72 s ∧ K 5 s = M 73 s ∧ K 6 s = M 74 s) ∧ (∀ i, 0 ≤ i → i ≤ 23 → K 10 i = M 77 i) ∧ SB M n ∧ fcB (M 77)
theorem cSt_e {K : Nat → Int → Int} (c : cSt K M n) {s : Int} (s0 : 0 ≤ s) (s1 : s < n) (x : Int) : eoE (K 6 s) (K 10) x = fS M s x := by
  rw [(c.2.1 s s0 s1).2.2]
  exact eoE_cg c.2.2.1 x
def ftlP (K : Nat → Int → Int) (k p : Int) : Prop := (p = -1 ∧ ∀ b, 0 ≤ b → b < k → K 12 b = 0 → K 11 b = -1) ∨ ((0 ≤ p ∧ p < k) ∧ (K 12 p = 0 ∧ K 11 p ≠ -1) ∧ ∀ b, 0 ≤ b → b < k → K 12 b = 0 → K 11 b ≠ -1 → K 11 p ≤ K 11 b)
theorem sX9_firstToLeave : Ok (nX9_firstToLeave m) (ftlP m.1 16) := by
  have key : ∀ (r N : Nat) (k p : Int), r < N → k + r = 16 → 0 ≤ k → ftlP m.1 k p → Ok (nX9_firstToLeave_4 m N p k) (ftlP m.1 16) := by
    intro r
    induction r with
    | zero =>
      intro N k p hN hk k0 hp
      obtain ⟨M, rfl⟩ := fuel_s hN
      rw [nX9_firstToLeave_4_s]
      simp only [bX9_firstToLeave_4]
      refine ok_neg (by omega) ?_
      exact ok_some (by rw [show (16 : Int) = k by omega]; exact hp)
    | succ r ih =>
      intro N k p hN hk k0 hp
      obtain ⟨M, rfl⟩ := fuel_s hN
      rw [nX9_firstToLeave_4_s]
      simp only [bX9_firstToLeave_4, nX9_firstToLeave_49, bX9_firstToLeave_49, nX9_firstToLeave_51, bX9_firstToLeave_51]
      have keep : (m.1 12 k = 0 → m.1 11 k ≠ -1 → p ≠ -1 ∧ m.1 11 p ≤ m.1 11 k) → Ok (gd (R32 (k + 1)) (nX9_firstToLeave_4 m M p (k + 1))) (ftlP m.1 16) := fun hq => by
        refine ok_gd (by omega) ?_
        refine ih M (k + 1) p (by omega) (by omega) (by omega) ?_
        rcases hp with ⟨p1, p2⟩ | ⟨p1, p2, p3⟩
        · refine Or.inl ⟨p1, fun b b0 b1 b2 => ?_⟩
          by_cases c : b = k
          · rw [c] at b2 ⊢
            by_cases c2 : m.1 11 k = -1
            · exact c2
            · exact absurd p1 (hq b2 c2).1
          · exact p2 b b0 (by omega) b2
        · refine Or.inr ⟨by omega, p2, fun b b0 b1 b2 b3 => ?_⟩
          by_cases c : b = k
          · rw [c] at b2 b3 ⊢
            exact (hq b2 b3).2
          · exact p3 b b0 (by omega) b2 b3
      have take : m.1 12 k = 0 → m.1 11 k ≠ -1 → (p ≠ -1 → m.1 11 k < m.1 11 p) → Ok (gd (R32 (k + 1)) (nX9_firstToLeave_4 m M k (k + 1))) (ftlP m.1 16) := fun h1 h2 h3 => by
        refine ok_gd (by omega) ?_
        refine ih M (k + 1) k (by omega) (by omega) (by omega) (Or.inr ⟨by omega, ⟨h1, h2⟩, fun b b0 b1 b2 b3 => ?_⟩)
        by_cases c : b = k
        · rw [c]; exact Int.le_refl _
        · rcases hp with ⟨p1, p2⟩ | ⟨p1, p2, p3⟩
          · exact absurd (p2 b b0 (by omega) b2) b3
          · have := p3 b b0 (by omega) b2 b3
            have := h3 (by omega)
            omega
      refine ok_pos (by omega) ?_
      refine ok_gd (by omega) ?_
      by_cases c1 : m.1 12 k = 0
      · refine ok_pos c1 ?_
        refine ok_gd (by omega) ?_
        by_cases c2 : m.1 11 k = -1
        · refine ok_pos c2 ?_
          exact keep (fun _ q => absurd c2 q)
        · refine ok_neg c2 ?_
          by_cases c3 : p = -1
          · refine ok_pos c3 ?_
            exact take c1 c2 (fun q => absurd c3 q)
          · have hp' : 0 ≤ p ∧ p < k := by
              rcases hp with q | q
              · exact absurd q.1 c3
              · exact q.1
            refine ok_neg c3 ?_
            refine ok_gd (by omega) ?_
            refine ok_gd (by omega) ?_
            by_cases c4 : m.1 11 k < m.1 11 p
            · refine ok_pos c4 ?_
              exact take c1 c2 (fun _ => c4)
            · refine ok_neg c4 ?_
              exact keep (fun _ _ => ⟨c3, by omega⟩)
      · refine ok_neg c1 ?_
        exact keep (fun q => absurd q c1)
  unfold nX9_firstToLeave bX9_firstToLeave
  exact key 16 100000 0 (-1) (by omega) (by omega) (by omega) (Or.inl ⟨rfl, fun b b0 b1 => by omega⟩)
/-- what leaving a place has done so far -/
def lvI (M : Nat → Int → Int) (n a t0 p d : Int) (K0 : Nat → Int → Int) (k : Int) (K1 : Nat → Int → Int) : Prop := (∀ b, 0 ≤ b → b ≤ 15 → K1 11 b = K0 11 b ∨ ((d < K1 11 b ∧ K1 11 b ≤ d + 360) ∧ (K0 11 b = -1 ∨ K1 11 b < K0 11 b) ∧ ∃ es, wlk (M 72) (M 73) n a es b ∧ wvl (fS M) t0 es = K1 11 b)) ∧ ∀ s, 0 ≤ s → s < n → s < k → M 72 s = p → K1 11 (M 73 s) ≠ -1 ∧ K1 11 (M 73 s) ≤ fS M s d
theorem c_leave {H : HH} (c : cSt H.1 M n) (ht : 0 ≤ t0) {p d : Int} (hp : 0 ≤ p ∧ p ≤ 15) (hd : H.1 11 p = d ∧ t0 ≤ d ∧ d ≤ 99999) (hw : ∃ es, wlk (M 72) (M 73) n a es p ∧ wvl (fS M) t0 es = d) : Ok (nX9_leave p H) (fun g => Fr (fun c _ => c = 11) H g ∧ lvI M n a t0 p d H.1 n g.1) := by
  obtain ⟨⟨c3, n0, n60⟩, cs, cf, hS, hf⟩ := c
  have key : ∀ (r N : Nat) (k : Int) (m : HH), r < N → k + r = n → 0 ≤ k → Fr (fun c _ => c = 11) H m → lvI M n a t0 p d H.1 k m.1 → Ok (nX9_leave_2 N p k m) (fun g => Fr (fun c _ => c = 11) H g ∧ lvI M n a t0 p d H.1 n g.1) := by
    intro r
    induction r with
    | zero =>
      intro N k m hN hk k0 f li
      obtain ⟨M', rfl⟩ := fuel_s hN
      have e3 : m.1 3 3 = H.1 3 3 := f.2 3 3 (by omega)
      rw [nX9_leave_2_s]
      simp only [bX9_leave_2]
      refine ok_neg (by omega) ?_
      exact ok_some ⟨f, by rw [show n = k by omega] at li ⊢; exact li⟩
    | succ r ih =>
      intro N k m hN hk k0 f li
      obtain ⟨M', rfl⟩ := fuel_s hN
      have eR : ∀ c, c ≠ 11 → m.1 c = H.1 c := fun c hc => fr_c f c (fun i s => hc s)
      have hst := hS k k0 (by omega)
      have ck := cs k k0 (by omega)
      have mp : m.1 11 p = d := by
        rcases li.1 p hp.1 hp.2 with q | q
        · omega
        · omega
      rw [nX9_leave_2_s]
      simp only [bX9_leave_2, nX9_leave_62, bX9_leave_62, nX9_leave_74, bX9_leave_74]
      rw [eR 3 (by decide), eR 4 (by decide), eR 5 (by decide), ck.1, ck.2.1]
      refine ok_pos (by omega) ?_
      refine ok_gd (by omega) ?_
      by_cases cu : M 72 k = p
      · refine ok_pos cu ?_
        refine ok_gd (by omega) ?_
        have ee := sX9_endOf (h := m) (s := k) (x := d) (by omega) (by rw [eR 6 (by decide), ck.2.2]; exact hst.2.1) (by rw [eR 10 (by decide)]; exact fun i i0 i1 => by rw [cf i i0 i1]; exact hf i i0 i1) (by omega)
        rw [eR 6 (by decide), eR 10 (by decide), ck.2.2, eoE_cg cf] at ee
        rw [mp]
        refine ok_be ee ?_
        have hb : d < fS M k d ∧ fS M k d ≤ d + 360 := eoE_b hst.2.1 hf (by omega)
        have fold : eoE (M 74 k) (M 77) d = fS M k d := rfl
        rw [fold]
        refine ok_gd (by omega) ?_
        refine ok_gd (by omega) ?_
        have lv := li.1 (M 73 k) hst.1.2.1 hst.1.2.2
        have take : (m.1 11 (M 73 k) = -1 ∨ fS M k d < m.1 11 (M 73 k)) → Ok (gd ((0 : Int) ≤ k ∧ k < (60 : Int)) <| gd ((0 : Int) ≤ M 73 k ∧ M 73 k < (16 : Int)) <| bnd (some (hI m 11 (M 73 k) (fS M k d))) fun h1 => gd (R32 (k + 1)) (nX9_leave_2 M' p (k + 1) h1)) (fun g => Fr (fun c _ => c = 11) H g ∧ lvI M n a t0 p d H.1 n g.1) := fun hq => by
          refine ok_gd (by omega) ?_
          refine ok_gd (by omega) ?_
          refine ok_bs ?_
          refine ok_gd (by omega) ?_
          refine ih M' (k + 1) _ (by omega) (by omega) (by omega) (fr_I f rfl) ⟨fun b b0 b1 => ?_, fun s s0 s1 s2 s3 => ?_⟩
          · rw [rI_s, updI_at]
            by_cases cb : b = M 73 k
            · rw [if_pos cb, cb]
              obtain ⟨es, w1, w2⟩ := hw
              refine Or.inr ⟨hb, ?_, es ++ [k], wlk_snoc (by rw [cu]; exact w1) k0 (by omega), by rw [wvl_snoc, w2]⟩
              rcases lv with q | q
              · rcases hq with z | z <;> omega
              · rcases hq with z | z <;> omega
            · rw [if_neg cb]; exact li.1 b b0 b1
          · rw [rI_s, updI_at]
            by_cases ce : s = k
            · rw [ce, if_pos rfl]; omega
            · have z := li.2 s s0 s1 (by omega) s3
              by_cases cb : M 73 s = M 73 k
              · rw [if_pos cb]
                rw [cb] at z
                rcases hq with w | w
                · exact absurd w z.1
                · omega
              · rw [if_neg cb]; exact z
        by_cases c1 : m.1 11 (M 73 k) = -1
        · refine ok_pos c1 ?_
          exact take (Or.inl c1)
        · refine ok_neg c1 ?_
          refine ok_gd (by omega) ?_
          refine ok_gd (by omega) ?_
          by_cases c2 : fS M k d < m.1 11 (M 73 k)
          · refine ok_pos c2 ?_
            exact take (Or.inr c2)
          · refine ok_neg c2 ?_
            refine ok_gd (by omega) ?_
            refine ih M' (k + 1) m (by omega) (by omega) (by omega) f ⟨li.1, fun s s0 s1 s2 s3 => ?_⟩
            by_cases ce : s = k
            · rw [ce]; exact ⟨c1, by omega⟩
            · exact li.2 s s0 s1 (by omega) s3
      · refine ok_neg cu ?_
        refine ok_gd (by omega) ?_
        refine ih M' (k + 1) m (by omega) (by omega) (by omega) f ⟨li.1, fun s s0 s1 s2 s3 => ?_⟩
        by_cases ce : s = k
        · rw [ce] at s3; exact absurd s3 cu
        · exact li.2 s s0 s1 (by omega) s3
  unfold nX9_leave bX9_leave
  exact key n.toNat 100000 0 H (by omega) (by omega) (by omega) fr_r ⟨fun b b0 b1 => Or.inl rfl, fun s s0 s1 s2 => by omega⟩
/-- places that are left, and their labels -/
def dkI (M : Nat → Int → Int) (n a t0 j : Int) (K : Nat → Int → Int) : Prop := (∀ b, 0 ≤ b → b ≤ 15 → K 11 b = -1 ∨ ((t0 ≤ K 11 b ∧ K 11 b ≤ t0 + 360 * j) ∧ ∃ es, wlk (M 72) (M 73) n a es b ∧ wvl (fS M) t0 es = K 11 b)) ∧ (∀ b, 0 ≤ b → b ≤ 15 → (K 12 b = 0 ∨ K 12 b = 1) ∧ (K 12 b = 1 → K 11 b ≠ -1)) ∧ (∀ x y, 0 ≤ x → x ≤ 15 → 0 ≤ y → y ≤ 15 → K 12 x = 1 → K 12 y = 0 → K 11 y ≠ -1 → K 11 x ≤ K 11 y) ∧ (∀ s, 0 ≤ s → s < n → K 12 (M 72 s) = 1 → K 11 (M 73 s) ≠ -1 ∧ K 11 (M 73 s) ≤ fS M s (K 11 (M 72 s))) ∧ K 11 a = t0 ∧ sumS (K 12) 16 = j
theorem wvl_cons {f : Int → Int → Int} {t s : Int} {l : List Int} : wvl f t (s :: l) = wvl f (f s t) l := rfl
theorem dk_walk {K : Nat → Int → Int} {j : Int} (hS : SB M n) (hf : fcB (M 77)) (ht : 0 ≤ t0) (d : dkI M n a t0 j K) : ∀ {l : List Int} {x b t : Int}, wlk (M 72) (M 73) n x l b → (0 ≤ x ∧ x ≤ 15) → K 12 x = 1 → K 11 x ≤ t → (K 12 b = 1 ∧ K 11 b ≤ wvl (fS M) t l) ∨ ∃ y, (0 ≤ y ∧ y ≤ 15) ∧ (K 12 y = 0 ∧ K 11 y ≠ -1) ∧ K 11 y ≤ wvl (fS M) t l
  | [], x, b, t, w, x0, hx, hle => by
    have e : x = b := w.1
    rw [← e]
    exact Or.inl ⟨hx, hle⟩
  | s :: l, x, b, t, w, x0, hx, hle => by
    obtain ⟨⟨w1, w2, w3⟩, w4⟩ := wlk_cons.mp w
    have hst := hS s w2 w3
    rw [← w1] at hx hle
    have z := d.2.2.2.1 s w2 w3 hx
    have lx := d.1 (M 72 s) hst.1.1.1 hst.1.1.2
    have nx := (d.2.1 (M 72 s) hst.1.1.1 hst.1.1.2).2 hx
    have lx := lx.resolve_left nx
    have mo := fS_mon hS hf s w2 w3 (K 11 (M 72 s)) t (by omega) hle
    rw [wvl_cons]
    rcases (d.2.1 (M 73 s) hst.1.2.1 hst.1.2.2).1 with c | c
    · have i1 := fS_inf hS hf s w2 w3 t (by omega)
      have := wvl_inf (fS_inf hS hf) w4 (show 0 ≤ fS M s t by omega)
      exact Or.inr ⟨M 73 s, hst.1.2, ⟨c, z.1⟩, by omega⟩
    · exact dk_walk hS hf ht d w4 hst.1.2 c (by omega)
theorem sumS_all {g : Int → Int} : ∀ {n : Nat}, (∀ j : Nat, j < n → g j ≤ 1) → sumS g n = n → ∀ j : Nat, j < n → g j = 1
  | 0, _, _, j, hj => absurd hj (Nat.not_lt_zero _)
  | n + 1, h1, hs, j, hj => by
    have le : ∀ m : Nat, m ≤ n → sumS g m ≤ m := fun m => by
      induction m with
      | zero => intro _; exact Int.le_refl _
      | succ m ih =>
        intro q
        have := ih (by omega)
        have := h1 m (by omega)
        rw [sumS]
        omega
    rw [sumS] at hs
    have a1 := le n (Nat.le_refl _)
    have a2 := h1 n (by omega)
    by_cases c : j = n
    · rw [c]; omega
    · exact sumS_all (g := g) (n := n) (fun j q => h1 j (by omega)) (by omega) j (by omega)
abbrev sDk : Nat → Int → Prop := fun c _ => c = 11 ∨ c = 12
def caP (M : Nat → Int → Int) (n : Int) (H : HH) (a t0 b : Int) (r : Int × HH) : Prop := Fr sDk H r.2 ∧ ((r.1 = -1 ∧ ∀ es, ¬ wlk (M 72) (M 73) n a es b) ∨ (r.1 ≠ -1 ∧ lst (M 72) (M 73) (fS M) n a t0 b r.1))
theorem c_earliest {H : HH} (c : cSt H.1 M n) (ht : 0 ≤ t0 ∧ t0 ≤ 1439) (ha : 0 ≤ a ∧ a ≤ 15) {x2 : Int} (hx : 0 ≤ x2 ∧ x2 ≤ 15) : Ok (nX9_earliest a x2 t0 H) (caP M n H a t0 x2) := by
  have c' := c
  obtain ⟨⟨c3, n0, n60⟩, cs, cf, hS, hf⟩ := c'
  -- no place that is not left is reached
  have ex1 : ∀ {m : HH} {j : Int}, Fr sDk H m → dkI M n a t0 j m.1 → (∀ b, 0 ≤ b → b ≤ 15 → m.1 12 b = 0 → m.1 11 b = -1) → caP M n H a t0 x2 (m.1 11 x2, m) := fun {m j} f d hq => by
    refine ⟨f, ?_⟩
    have la : m.1 12 a = 1 := by
      rcases (d.2.1 a ha.1 ha.2).1 with q | q
      · have := hq a ha.1 ha.2 q
        have := d.2.2.2.2.1
        omega
      · exact q
    have wk := fun es (w : wlk (M 72) (M 73) n a es x2) => dk_walk hS hf ht.1 d w ha la (t := t0) (by rw [d.2.2.2.2.1]; exact Int.le_refl _)
    rcases (d.2.1 x2 hx.1 hx.2).1 with q | q
    · refine Or.inl ⟨hq x2 hx.1 hx.2 q, fun es w => ?_⟩
      rcases wk es w with z | ⟨y, y0, y1, _⟩
      · omega
      · exact y1.2 (hq y y0.1 y0.2 y1.1)
    · have nx := (d.2.1 x2 hx.1 hx.2).2 q
      obtain ⟨_, es, w1, w2⟩ := (d.1 x2 hx.1 hx.2).resolve_left nx
      refine Or.inr ⟨nx, ⟨es, w1, w2⟩, fun es' w => ?_⟩
      rcases wk es' w with z | ⟨y, y0, y1, _⟩
      · exact z.2
      · exact absurd (hq y y0.1 y0.2 y1.1) y1.2
  have key : ∀ (r N : Nat) (j : Int) (m : HH), r < N → j + r = 16 → 0 ≤ j → Fr sDk H m → dkI M n a t0 j m.1 → Ok (nX9_earliest_42 N x2 j m) (caP M n H a t0 x2) := by
    intro r
    induction r with
    | zero =>
      intro N j m hN hj j0 f d
      obtain ⟨M', rfl⟩ := fuel_s hN
      rw [nX9_earliest_42_s]
      simp only [bX9_earliest_42]
      refine ok_neg (by omega) ?_
      refine ok_gd (by omega) ?_
      refine ok_some (ex1 f d (fun b b0 b1 q => ?_))
      have := sumS_all (g := m.1 12) (n := 16) (fun k hk => by have := (d.2.1 k (by omega) (by omega)).1; omega) (by rw [d.2.2.2.2.2]; omega) b.toNat (by omega)
      rw [show ((b.toNat : Nat) : Int) = b by omega] at this
      omega
    | succ r ih =>
      intro N j m hN hj j0 f d
      obtain ⟨M', rfl⟩ := fuel_s hN
      rw [nX9_earliest_42_s]
      simp only [bX9_earliest_42]
      refine ok_pos (by omega) ?_
      refine ok_bnd sX9_firstToLeave (fun p hp => ?_)
      rcases hp with ⟨p1, p2⟩ | ⟨p0, ⟨p1, p2⟩, p3⟩
      · refine ok_pos p1 ?_
        refine ok_gd (by omega) ?_
        exact ok_some (ex1 f d (fun b b0 b1 q => p2 b b0 (by omega) q))
      · refine ok_neg (by omega) ?_
        by_cases cg : p = x2
        · refine ok_pos cg ?_
          refine ok_gd (by omega) ?_
          rw [cg] at p1 p2 p3
          refine ok_some ⟨f, Or.inr ⟨p2, ?_⟩⟩
          obtain ⟨_, es, w1, w2⟩ := (d.1 x2 hx.1 hx.2).resolve_left p2
          refine ⟨⟨es, w1, w2⟩, fun es' w => ?_⟩
          show m.1 11 x2 ≤ _
          rcases (d.2.1 a ha.1 ha.2).1 with q | q
          · have z := p3 a ha.1 (by omega) q (by rw [d.2.2.2.2.1]; omega)
            have := wvl_inf (fS_inf hS hf) w ht.1
            rw [d.2.2.2.2.1] at z
            omega
          · rcases dk_walk hS hf ht.1 d w ha q (t := t0) (by rw [d.2.2.2.2.1]; exact Int.le_refl _) with z | ⟨y, y0, y1, y2⟩
            · omega
            · have := p3 y y0.1 (by omega) y1.1 y1.2
              omega
        · refine ok_neg cg ?_
          refine ok_gd (by omega) ?_
          refine ok_gd (by decide) ?_
          refine ok_bs ?_
          obtain ⟨q1, wp⟩ := (d.1 p p0.1 (by omega)).resolve_left p2
          have f1 : Fr sDk H (hI m 12 p 1) := fr_I f (Or.inr rfl)
          have e11 : (hI m 12 p 1).1 11 = m.1 11 := rI_n (by decide)
          have c1 : cSt (hI m 12 p 1).1 M n := by
            have e : ∀ k, k ≠ 11 → k ≠ 12 → (hI m 12 p 1).1 k = H.1 k := fun k h1 h2 => fr_c f1 k (fun i s => by dsimp only [sDk] at s; omega)
            unfold cSt
            rw [e 3 (by decide) (by decide), e 4 (by decide) (by decide), e 5 (by decide) (by decide), e 6 (by decide) (by decide), e 10 (by decide) (by decide)]
            exact c
          refine ok_bnd (c_leave (H := hI m 12 p 1) (a := a) (p := p) (d := m.1 11 p) c1 ht.1 (by omega) ⟨by rw [e11], by omega, by omega⟩ wp) (fun g hg => ?_)
          obtain ⟨fg, li⟩ := hg
          refine ok_gd (by omega) ?_
          have g12 : g.1 12 = updI (m.1 12) p 1 := by rw [fr_c fg 12 (fun i s => by omega), rI_s]
          unfold lvI at li
          rw [e11] at li
          have lft : ∀ x, 0 ≤ x → x ≤ 15 → (m.1 12 x = 1 ∨ x = p) → g.1 11 x = m.1 11 x ∧ m.1 11 x ≤ m.1 11 p := fun x x0 x1 hl => by
            have le : m.1 11 x ≤ m.1 11 p ∧ m.1 11 x ≠ -1 := by
              rcases hl with q | q
              · exact ⟨d.2.2.1 x p x0 x1 p0.1 (by omega) q p1 p2, (d.2.1 x x0 x1).2 q⟩
              · rw [q]; exact ⟨Int.le_refl _, p2⟩
            rcases li.1 x x0 x1 with q | ⟨q1, q2, _⟩
            · exact ⟨q, le.1⟩
            · rcases q2 with w | w
              · exact absurd w le.2
              · omega
          refine ih M' (j + 1) g (by omega) (by omega) (by omega) (fr_t f1 (fr_m (fun c i s => Or.inl s) fg)) ⟨fun b b0 b1 => ?_, fun b b0 b1 => ?_, fun x y x0 x1 y0 y1 hxl hy hyr => ?_, fun s s0 s1 hl => ?_, ?_, ?_⟩
          · rcases li.1 b b0 b1 with q | ⟨w1, w2, w3⟩
            · rw [q]
              rcases d.1 b b0 b1 with z | z
              · exact Or.inl z
              · exact Or.inr ⟨by omega, z.2⟩
            · exact Or.inr ⟨by omega, w3⟩
          · rw [g12, updI_at]
            by_cases cb : b = p
            · rw [if_pos cb, cb]
              exact ⟨Or.inr rfl, fun _ => by rw [(lft p p0.1 (by omega) (Or.inr rfl)).1]; exact p2⟩
            · rw [if_neg cb]
              refine ⟨(d.2.1 b b0 b1).1, fun q => ?_⟩
              rw [(lft b b0 b1 (Or.inl q)).1]
              exact (d.2.1 b b0 b1).2 q
          · have hxl' : m.1 12 x = 1 ∨ x = p := by
              rw [g12, updI_at] at hxl
              by_cases cx : x = p
              · exact Or.inr cx
              · rw [if_neg cx] at hxl; exact Or.inl hxl
            have hy' : y ≠ p ∧ m.1 12 y = 0 := by
              rw [g12, updI_at] at hy
              by_cases cy : y = p
              · rw [if_pos cy] at hy; omega
              · rw [if_neg cy] at hy; exact ⟨cy, hy⟩
            have lx := lft x x0 x1 hxl'
            rw [lx.1]
            rcases li.1 y y0 y1 with q | ⟨w1, _, _⟩
            · rw [q] at hyr ⊢
              have := p3 y y0 (by omega) hy'.2 hyr
              omega
            · omega
          · have hst := hS s s0 s1
            have hl' : m.1 12 (M 72 s) = 1 ∨ M 72 s = p := by
              rw [g12, updI_at] at hl
              by_cases cx : M 72 s = p
              · exact Or.inr cx
              · rw [if_neg cx] at hl; exact Or.inl hl
            have lx := lft (M 72 s) hst.1.1.1 hst.1.1.2 hl'
            rw [lx.1]
            by_cases cp : M 72 s = p
            · rw [cp]
              exact li.2 s s0 s1 s1 cp
            · have z := d.2.2.2.1 s s0 s1 (hl'.resolve_right cp)
              rcases li.1 (M 73 s) hst.1.2.1 hst.1.2.2 with q | ⟨w1, w2, _⟩
              · rw [q]; exact z
              · rcases w2 with w | w
                · exact absurd w z.1
                · omega
          · rcases li.1 a ha.1 ha.2 with q | ⟨w1, w2, _⟩
            · rw [q]; exact d.2.2.2.2.1
            · have := d.2.2.2.2.1
              rcases w2 with w | w <;> omega
          · have hk : ((p.toNat : Nat) : Int) = p := by omega
            have hu := sumS_upd (g := m.1 12) (g' := g.1 12) (k := p.toNat) (n := 16) (by omega) (fun i h1 h2 => by rw [g12, updI_n (by omega)])
            rw [hk, g12, updI_s, p1, d.2.2.2.2.2] at hu
            rw [g12, hu]
            omega
  have fill : ∀ (r N : Nat) (k : Int) (m : HH), r < N → k + r = 16 → 0 ≤ k → Fr sDk H m → (∀ b, 0 ≤ b → b < k → m.1 11 b = -1 ∧ m.1 12 b = 0) → Ok (nX9_earliest_3 N a x2 t0 k m) (caP M n H a t0 x2) := by
    intro r
    induction r with
    | zero =>
      intro N k m hN hk k0 f hb
      obtain ⟨M', rfl⟩ := fuel_s hN
      rw [nX9_earliest_3_s]
      simp only [bX9_earliest_3]
      refine ok_neg (by omega) ?_
      refine ok_gd (by omega) ?_
      refine ok_bs ?_
      have e11 : ∀ b, 0 ≤ b → b ≤ 15 → (hI m 11 a t0).1 11 b = if b = a then t0 else -1 := fun b b0 b1 => by
        rw [rI_s, updI_at, (hb b b0 (by omega)).1]
      have e12 : ∀ b, 0 ≤ b → b ≤ 15 → (hI m 11 a t0).1 12 b = 0 := fun b b0 b1 => by
        rw [rI_n (by decide)]; exact (hb b b0 (by omega)).2
      refine key 16 100000 0 _ (by omega) (by omega) (by omega) (fr_I f (Or.inl rfl)) ⟨fun b b0 b1 => ?_, fun b b0 b1 => ?_, fun x y x0 x1 y0 y1 hx => ?_, fun s s0 s1 hl => ?_, ?_, ?_⟩
      · rw [e11 b b0 b1]
        by_cases c : b = a
        · rw [if_pos c, c]
          exact Or.inr ⟨by omega, [], wlk_nil, rfl⟩
        · rw [if_neg c]; exact Or.inl rfl
      · rw [e12 b b0 b1]
        exact ⟨Or.inl rfl, fun q => by omega⟩
      · rw [e12 x x0 x1] at hx; omega
      · have hst := hS s s0 s1
        rw [e12 _ hst.1.1.1 hst.1.1.2] at hl; omega
      · rw [e11 a ha.1 ha.2, if_pos rfl]
      · have : sumS ((hI m 11 a t0).1 12) 16 = sumS (fun _ => 0) 16 := sumS_cg (fun j hj => e12 j (by omega) (by omega))
        rw [this]
        rfl
    | succ r ih =>
      intro N k m hN hk k0 f hb
      obtain ⟨M', rfl⟩ := fuel_s hN
      rw [nX9_earliest_3_s]
      simp only [bX9_earliest_3]
      refine ok_pos (by omega) ?_
      refine ok_gd (by omega) ?_
      refine ok_bs ?_
      refine ok_gd (by omega) ?_
      refine ok_gd (by decide) ?_
      refine ok_bs ?_
      refine ok_gd (by omega) ?_
      refine ih M' (k + 1) _ (by omega) (by omega) (by omega) (fr_I (fr_I f (Or.inl rfl)) (Or.inr rfl)) (fun b b0 b1 => ?_)
      simp (disch := decide) only [rI_s, rI_n, rI_2, rC_s, rC_n, rC_2, rJ_1, rJ_s, rJ_n, updI_at, if_pos, if_neg]
      by_cases c : b = k
      · rw [if_pos c, if_pos c]; exact ⟨rfl, rfl⟩
      · rw [if_neg c, if_neg c]; exact hb b b0 (by omega)
  unfold nX9_earliest bX9_earliest
  exact fill 16 100000 0 H (by omega) (by omega) (by omega) fr_r (fun b b0 b1 => by omega)
theorem op_arrival (i : INV h h') (x1 x2 x3 : Int) : both (nX11_arrival x1 x2 x3 h) (nX12_arrival x1 x2 x3 h') (cdX 1 2 0 0) := by
  have i0 := i
  have hS := i.1.2.1
  have hF := i.1.2.2.2
  have hSB : SB h'.1 (h.1 3 3) := fun s s0 s1 => (hS.2 s s0 s1).2
  have hfB : fcB (h'.1 77) := fun k k0 k1 => by
    have := hF k k0 k1
    rw [← this.1]; exact this.2
  have c : cSt h.1 h'.1 (h.1 3 3) := ⟨⟨rfl, hS.1.1⟩, fun s s0 s1 => (hS.2 s s0 s1).1, fun k k0 k1 => (hF k k0 k1).1, hSB, hfB⟩
  have n9 := hS.1.2
  have n0 := hS.1.1
  simp only [nX11_arrival, bX11_arrival, nX12_arrival, bX12_arrival, nX12_arrival_14, bX12_arrival_14, both]
  by_cases p1 : 0 ≤ x1 ∧ x1 ≤ 15
  · by_cases p2 : 0 ≤ x2 ∧ x2 ≤ 15
    · by_cases p3 : 0 ≤ x3 ∧ x3 ≤ 1439
      · repeat (first | with_reducible refine ok_gd (by first | omega | decide) ?_ | with_reducible refine ok_bs ?_ | with_reducible refine ok_be (sX12_refuse _ _) ?_ | with_reducible refine ok_be (sX12_told _ _) ?_ | with_reducible refine ok_ndt (sX11_needIndex _ _ _ _) (by omega) ?_ | with_reducible refine ok_ndf (sX11_needIndex _ _ _ _) (by omega) ?_ | with_reducible refine ok_ndt (sX11_needRange _ _ _ _) (by omega) ?_ | with_reducible refine ok_ndf (sX11_needRange _ _ _ _) (by omega) ?_ | with_reducible refine ok_ndt (sX11_needThat2 _ _) (by omega) ?_ | with_reducible refine ok_ndf (sX11_needThat2 _ _) (by omega) ?_ | with_reducible refine ok_ndt (sX11_needState2 _ _) (by omega) ?_ | with_reducible refine ok_ndf (sX11_needState2 _ _) (by omega) ?_ | with_reducible refine ok_ndt (sX11_needElement _ _) (by omega) ?_ | with_reducible refine ok_ndf (sX11_needElement _ _) (by omega) ?_ | with_reducible refine ok_ndt (sX11_needPlace _ _) (by omega) ?_ | with_reducible refine ok_ndf (sX11_needPlace _ _) (by omega) ?_ | with_reducible refine ok_ndt (sX11_needSender _ _) (by omega) ?_ | with_reducible refine ok_ndf (sX11_needSender _ _) (by omega) ?_ | with_reducible refine ok_b2t (sX12_in _ _ _ _) (by omega) ?_ | with_reducible refine ok_b2f (sX12_in _ _ _ _) (by omega) ?_ | with_reducible refine ok_b2t (sX12_isPlace _ _) (by omega) ?_ | with_reducible refine ok_b2f (sX12_isPlace _ _) (by omega) ?_ | with_reducible refine ok_pos (by omega) ?_ | with_reducible refine ok_neg (by omega) ?_ | with_reducible refine ok_tl ?_ | with_reducible refine ok_tr ?_ | dsimp only)
        refine ok_bnd (c_earliest c p3 p1 p2) (fun r hr => ?_)
        obtain ⟨r1, r2⟩ := hr
        repeat (first | with_reducible refine ok_gd (by first | omega | decide) ?_ | with_reducible refine ok_bs ?_ | with_reducible refine ok_be (sX12_refuse _ _) ?_ | with_reducible refine ok_be (sX12_told _ _) ?_ | with_reducible refine ok_ndt (sX11_needIndex _ _ _ _) (by omega) ?_ | with_reducible refine ok_ndf (sX11_needIndex _ _ _ _) (by omega) ?_ | with_reducible refine ok_ndt (sX11_needRange _ _ _ _) (by omega) ?_ | with_reducible refine ok_ndf (sX11_needRange _ _ _ _) (by omega) ?_ | with_reducible refine ok_ndt (sX11_needThat2 _ _) (by omega) ?_ | with_reducible refine ok_ndf (sX11_needThat2 _ _) (by omega) ?_ | with_reducible refine ok_ndt (sX11_needState2 _ _) (by omega) ?_ | with_reducible refine ok_ndf (sX11_needState2 _ _) (by omega) ?_ | with_reducible refine ok_ndt (sX11_needElement _ _) (by omega) ?_ | with_reducible refine ok_ndf (sX11_needElement _ _) (by omega) ?_ | with_reducible refine ok_ndt (sX11_needPlace _ _) (by omega) ?_ | with_reducible refine ok_ndf (sX11_needPlace _ _) (by omega) ?_ | with_reducible refine ok_ndt (sX11_needSender _ _) (by omega) ?_ | with_reducible refine ok_ndf (sX11_needSender _ _) (by omega) ?_ | with_reducible refine ok_b2t (sX12_in _ _ _ _) (by omega) ?_ | with_reducible refine ok_b2f (sX12_in _ _ _ _) (by omega) ?_ | with_reducible refine ok_b2t (sX12_isPlace _ _) (by omega) ?_ | with_reducible refine ok_b2f (sX12_isPlace _ _) (by omega) ?_ | with_reducible refine ok_pos (by omega) ?_ | with_reducible refine ok_neg (by omega) ?_ | with_reducible refine ok_tl ?_ | with_reducible refine ok_tr ?_ | dsimp only)
        refine ok_some ?_
        repeat (first | with_reducible refine ok_gd (by first | omega | decide) ?_ | with_reducible refine ok_bs ?_ | with_reducible refine ok_be (sX12_refuse _ _) ?_ | with_reducible refine ok_be (sX12_told _ _) ?_ | with_reducible refine ok_ndt (sX11_needIndex _ _ _ _) (by omega) ?_ | with_reducible refine ok_ndf (sX11_needIndex _ _ _ _) (by omega) ?_ | with_reducible refine ok_ndt (sX11_needRange _ _ _ _) (by omega) ?_ | with_reducible refine ok_ndf (sX11_needRange _ _ _ _) (by omega) ?_ | with_reducible refine ok_ndt (sX11_needThat2 _ _) (by omega) ?_ | with_reducible refine ok_ndf (sX11_needThat2 _ _) (by omega) ?_ | with_reducible refine ok_ndt (sX11_needState2 _ _) (by omega) ?_ | with_reducible refine ok_ndf (sX11_needState2 _ _) (by omega) ?_ | with_reducible refine ok_ndt (sX11_needElement _ _) (by omega) ?_ | with_reducible refine ok_ndf (sX11_needElement _ _) (by omega) ?_ | with_reducible refine ok_ndt (sX11_needPlace _ _) (by omega) ?_ | with_reducible refine ok_ndf (sX11_needPlace _ _) (by omega) ?_ | with_reducible refine ok_ndt (sX11_needSender _ _) (by omega) ?_ | with_reducible refine ok_ndf (sX11_needSender _ _) (by omega) ?_ | with_reducible refine ok_b2t (sX12_in _ _ _ _) (by omega) ?_ | with_reducible refine ok_b2f (sX12_in _ _ _ _) (by omega) ?_ | with_reducible refine ok_b2t (sX12_isPlace _ _) (by omega) ?_ | with_reducible refine ok_b2f (sX12_isPlace _ _) (by omega) ?_ | with_reducible refine ok_pos (by omega) ?_ | with_reducible refine ok_neg (by omega) ?_ | with_reducible refine ok_tl ?_ | with_reducible refine ok_tr ?_ | dsimp only)
        refine ok_mono (m_arr40 (H := h') (by rw [n9]; exact hSB) hfB p3 p1 (by omega) p2) (fun b hb => ?_)
        obtain ⟨g, g1, g2, g3⟩ := hb
        rw [n9] at g3
        have e : b.1 = r.1 := by
          rcases r2 with ⟨q, q2⟩ | ⟨q, q2⟩
          · rcases g3 with ⟨w, w2⟩ | ⟨w, ⟨es, w2, _⟩, _⟩
            · rw [q, w]
            · exact absurd w2 (q2 es)
          · rcases g3 with ⟨w, w2⟩ | ⟨w, w2⟩
            · obtain ⟨⟨es, z, _⟩, _⟩ := q2
              exact absurd z (w2 es)
            · exact lst_u w2 q2
        rw [g2]
        refine ⟨⟨by rw [g2]; exact rI_s ▸ updI_s, e⟩, INV_thr (INV_scr i0 (fr_m (fun c i s => by dsimp only [sDk] at s; unfold scC; omega) r1) (fr_m (fun c i s => by dsimp only [sAr] at s; unfold scM; omega) g1))⟩
      · repeat (first | with_reducible refine ok_gd (by first | omega | decide) ?_ | with_reducible refine ok_bs ?_ | with_reducible refine ok_be (sX12_refuse _ _) ?_ | with_reducible refine ok_be (sX12_told _ _) ?_ | with_reducible refine ok_ndt (sX11_needIndex _ _ _ _) (by omega) ?_ | with_reducible refine ok_ndf (sX11_needIndex _ _ _ _) (by omega) ?_ | with_reducible refine ok_ndt (sX11_needRange _ _ _ _) (by omega) ?_ | with_reducible refine ok_ndf (sX11_needRange _ _ _ _) (by omega) ?_ | with_reducible refine ok_ndt (sX11_needThat2 _ _) (by omega) ?_ | with_reducible refine ok_ndf (sX11_needThat2 _ _) (by omega) ?_ | with_reducible refine ok_ndt (sX11_needState2 _ _) (by omega) ?_ | with_reducible refine ok_ndf (sX11_needState2 _ _) (by omega) ?_ | with_reducible refine ok_ndt (sX11_needElement _ _) (by omega) ?_ | with_reducible refine ok_ndf (sX11_needElement _ _) (by omega) ?_ | with_reducible refine ok_ndt (sX11_needPlace _ _) (by omega) ?_ | with_reducible refine ok_ndf (sX11_needPlace _ _) (by omega) ?_ | with_reducible refine ok_ndt (sX11_needSender _ _) (by omega) ?_ | with_reducible refine ok_ndf (sX11_needSender _ _) (by omega) ?_ | with_reducible refine ok_b2t (sX12_in _ _ _ _) (by omega) ?_ | with_reducible refine ok_b2f (sX12_in _ _ _ _) (by omega) ?_ | with_reducible refine ok_b2t (sX12_isPlace _ _) (by omega) ?_ | with_reducible refine ok_b2f (sX12_isPlace _ _) (by omega) ?_ | with_reducible refine ok_pos (by omega) ?_ | with_reducible refine ok_neg (by omega) ?_ | with_reducible refine ok_tl ?_ | with_reducible refine ok_tr ?_ | dsimp only)
        refine ok_some ?_
        repeat (first | with_reducible refine ok_gd (by first | omega | decide) ?_ | with_reducible refine ok_bs ?_ | with_reducible refine ok_be (sX12_refuse _ _) ?_ | with_reducible refine ok_be (sX12_told _ _) ?_ | with_reducible refine ok_ndt (sX11_needIndex _ _ _ _) (by omega) ?_ | with_reducible refine ok_ndf (sX11_needIndex _ _ _ _) (by omega) ?_ | with_reducible refine ok_ndt (sX11_needRange _ _ _ _) (by omega) ?_ | with_reducible refine ok_ndf (sX11_needRange _ _ _ _) (by omega) ?_ | with_reducible refine ok_ndt (sX11_needThat2 _ _) (by omega) ?_ | with_reducible refine ok_ndf (sX11_needThat2 _ _) (by omega) ?_ | with_reducible refine ok_ndt (sX11_needState2 _ _) (by omega) ?_ | with_reducible refine ok_ndf (sX11_needState2 _ _) (by omega) ?_ | with_reducible refine ok_ndt (sX11_needElement _ _) (by omega) ?_ | with_reducible refine ok_ndf (sX11_needElement _ _) (by omega) ?_ | with_reducible refine ok_ndt (sX11_needPlace _ _) (by omega) ?_ | with_reducible refine ok_ndf (sX11_needPlace _ _) (by omega) ?_ | with_reducible refine ok_ndt (sX11_needSender _ _) (by omega) ?_ | with_reducible refine ok_ndf (sX11_needSender _ _) (by omega) ?_ | with_reducible refine ok_b2t (sX12_in _ _ _ _) (by omega) ?_ | with_reducible refine ok_b2f (sX12_in _ _ _ _) (by omega) ?_ | with_reducible refine ok_b2t (sX12_isPlace _ _) (by omega) ?_ | with_reducible refine ok_b2f (sX12_isPlace _ _) (by omega) ?_ | with_reducible refine ok_pos (by omega) ?_ | with_reducible refine ok_neg (by omega) ?_ | with_reducible refine ok_tl ?_ | with_reducible refine ok_tr ?_ | dsimp only)
        exact both_thr i0 (by decide) rfl
    · repeat (first | with_reducible refine ok_gd (by first | omega | decide) ?_ | with_reducible refine ok_bs ?_ | with_reducible refine ok_be (sX12_refuse _ _) ?_ | with_reducible refine ok_be (sX12_told _ _) ?_ | with_reducible refine ok_ndt (sX11_needIndex _ _ _ _) (by omega) ?_ | with_reducible refine ok_ndf (sX11_needIndex _ _ _ _) (by omega) ?_ | with_reducible refine ok_ndt (sX11_needRange _ _ _ _) (by omega) ?_ | with_reducible refine ok_ndf (sX11_needRange _ _ _ _) (by omega) ?_ | with_reducible refine ok_ndt (sX11_needThat2 _ _) (by omega) ?_ | with_reducible refine ok_ndf (sX11_needThat2 _ _) (by omega) ?_ | with_reducible refine ok_ndt (sX11_needState2 _ _) (by omega) ?_ | with_reducible refine ok_ndf (sX11_needState2 _ _) (by omega) ?_ | with_reducible refine ok_ndt (sX11_needElement _ _) (by omega) ?_ | with_reducible refine ok_ndf (sX11_needElement _ _) (by omega) ?_ | with_reducible refine ok_ndt (sX11_needPlace _ _) (by omega) ?_ | with_reducible refine ok_ndf (sX11_needPlace _ _) (by omega) ?_ | with_reducible refine ok_ndt (sX11_needSender _ _) (by omega) ?_ | with_reducible refine ok_ndf (sX11_needSender _ _) (by omega) ?_ | with_reducible refine ok_b2t (sX12_in _ _ _ _) (by omega) ?_ | with_reducible refine ok_b2f (sX12_in _ _ _ _) (by omega) ?_ | with_reducible refine ok_b2t (sX12_isPlace _ _) (by omega) ?_ | with_reducible refine ok_b2f (sX12_isPlace _ _) (by omega) ?_ | with_reducible refine ok_pos (by omega) ?_ | with_reducible refine ok_neg (by omega) ?_ | with_reducible refine ok_tl ?_ | with_reducible refine ok_tr ?_ | dsimp only)
      refine ok_some ?_
      repeat (first | with_reducible refine ok_gd (by first | omega | decide) ?_ | with_reducible refine ok_bs ?_ | with_reducible refine ok_be (sX12_refuse _ _) ?_ | with_reducible refine ok_be (sX12_told _ _) ?_ | with_reducible refine ok_ndt (sX11_needIndex _ _ _ _) (by omega) ?_ | with_reducible refine ok_ndf (sX11_needIndex _ _ _ _) (by omega) ?_ | with_reducible refine ok_ndt (sX11_needRange _ _ _ _) (by omega) ?_ | with_reducible refine ok_ndf (sX11_needRange _ _ _ _) (by omega) ?_ | with_reducible refine ok_ndt (sX11_needThat2 _ _) (by omega) ?_ | with_reducible refine ok_ndf (sX11_needThat2 _ _) (by omega) ?_ | with_reducible refine ok_ndt (sX11_needState2 _ _) (by omega) ?_ | with_reducible refine ok_ndf (sX11_needState2 _ _) (by omega) ?_ | with_reducible refine ok_ndt (sX11_needElement _ _) (by omega) ?_ | with_reducible refine ok_ndf (sX11_needElement _ _) (by omega) ?_ | with_reducible refine ok_ndt (sX11_needPlace _ _) (by omega) ?_ | with_reducible refine ok_ndf (sX11_needPlace _ _) (by omega) ?_ | with_reducible refine ok_ndt (sX11_needSender _ _) (by omega) ?_ | with_reducible refine ok_ndf (sX11_needSender _ _) (by omega) ?_ | with_reducible refine ok_b2t (sX12_in _ _ _ _) (by omega) ?_ | with_reducible refine ok_b2f (sX12_in _ _ _ _) (by omega) ?_ | with_reducible refine ok_b2t (sX12_isPlace _ _) (by omega) ?_ | with_reducible refine ok_b2f (sX12_isPlace _ _) (by omega) ?_ | with_reducible refine ok_pos (by omega) ?_ | with_reducible refine ok_neg (by omega) ?_ | with_reducible refine ok_tl ?_ | with_reducible refine ok_tr ?_ | dsimp only)
      exact both_thr i0 (by decide) rfl
  · repeat (first | with_reducible refine ok_gd (by first | omega | decide) ?_ | with_reducible refine ok_bs ?_ | with_reducible refine ok_be (sX12_refuse _ _) ?_ | with_reducible refine ok_be (sX12_told _ _) ?_ | with_reducible refine ok_ndt (sX11_needIndex _ _ _ _) (by omega) ?_ | with_reducible refine ok_ndf (sX11_needIndex _ _ _ _) (by omega) ?_ | with_reducible refine ok_ndt (sX11_needRange _ _ _ _) (by omega) ?_ | with_reducible refine ok_ndf (sX11_needRange _ _ _ _) (by omega) ?_ | with_reducible refine ok_ndt (sX11_needThat2 _ _) (by omega) ?_ | with_reducible refine ok_ndf (sX11_needThat2 _ _) (by omega) ?_ | with_reducible refine ok_ndt (sX11_needState2 _ _) (by omega) ?_ | with_reducible refine ok_ndf (sX11_needState2 _ _) (by omega) ?_ | with_reducible refine ok_ndt (sX11_needElement _ _) (by omega) ?_ | with_reducible refine ok_ndf (sX11_needElement _ _) (by omega) ?_ | with_reducible refine ok_ndt (sX11_needPlace _ _) (by omega) ?_ | with_reducible refine ok_ndf (sX11_needPlace _ _) (by omega) ?_ | with_reducible refine ok_ndt (sX11_needSender _ _) (by omega) ?_ | with_reducible refine ok_ndf (sX11_needSender _ _) (by omega) ?_ | with_reducible refine ok_b2t (sX12_in _ _ _ _) (by omega) ?_ | with_reducible refine ok_b2f (sX12_in _ _ _ _) (by omega) ?_ | with_reducible refine ok_b2t (sX12_isPlace _ _) (by omega) ?_ | with_reducible refine ok_b2f (sX12_isPlace _ _) (by omega) ?_ | with_reducible refine ok_pos (by omega) ?_ | with_reducible refine ok_neg (by omega) ?_ | with_reducible refine ok_tl ?_ | with_reducible refine ok_tr ?_ | dsimp only)
    refine ok_some ?_
    repeat (first | with_reducible refine ok_gd (by first | omega | decide) ?_ | with_reducible refine ok_bs ?_ | with_reducible refine ok_be (sX12_refuse _ _) ?_ | with_reducible refine ok_be (sX12_told _ _) ?_ | with_reducible refine ok_ndt (sX11_needIndex _ _ _ _) (by omega) ?_ | with_reducible refine ok_ndf (sX11_needIndex _ _ _ _) (by omega) ?_ | with_reducible refine ok_ndt (sX11_needRange _ _ _ _) (by omega) ?_ | with_reducible refine ok_ndf (sX11_needRange _ _ _ _) (by omega) ?_ | with_reducible refine ok_ndt (sX11_needThat2 _ _) (by omega) ?_ | with_reducible refine ok_ndf (sX11_needThat2 _ _) (by omega) ?_ | with_reducible refine ok_ndt (sX11_needState2 _ _) (by omega) ?_ | with_reducible refine ok_ndf (sX11_needState2 _ _) (by omega) ?_ | with_reducible refine ok_ndt (sX11_needElement _ _) (by omega) ?_ | with_reducible refine ok_ndf (sX11_needElement _ _) (by omega) ?_ | with_reducible refine ok_ndt (sX11_needPlace _ _) (by omega) ?_ | with_reducible refine ok_ndf (sX11_needPlace _ _) (by omega) ?_ | with_reducible refine ok_ndt (sX11_needSender _ _) (by omega) ?_ | with_reducible refine ok_ndf (sX11_needSender _ _) (by omega) ?_ | with_reducible refine ok_b2t (sX12_in _ _ _ _) (by omega) ?_ | with_reducible refine ok_b2f (sX12_in _ _ _ _) (by omega) ?_ | with_reducible refine ok_b2t (sX12_isPlace _ _) (by omega) ?_ | with_reducible refine ok_b2f (sX12_isPlace _ _) (by omega) ?_ | with_reducible refine ok_pos (by omega) ?_ | with_reducible refine ok_neg (by omega) ?_ | with_reducible refine ok_tl ?_ | with_reducible refine ok_tr ?_ | dsimp only)
    exact both_thr i0 (by decide) rfl
end ARRC
