/-! ERRORS: the model's least tour -/
section TOUR
variable {h h' m : HH} {K : Nat → Int → Int} {v n : Int} {d : Int → Int → Int} {L : List Int}
theorem m_same (hm : RM K m) (hv : VAL K) (v0 : 0 ≤ v) (v3 : v < 3) (e95 : m.1 95 v = K 31 v) (er : mrd m v = rnd K v) (h9 : 0 ≤ K 31 v ∧ K 31 v ≤ 9) (hin : inR K (rnd K v)) (hC : CON K (rnd K v)) : Ok (nX12_isSame v m) (fun r => Fr sGm m r.2 ∧ (r.2.1 71 72 = nD K (rnd K v) ∧ ∀ i, 0 ≤ i → i < nD K (rnd K v) → r.2.1 114 i = drF K (rnd K v) i) ∧ (r.1 ≠ 0 → SYM K (rnd K v))) := by
  have L9 : (rnd K v).length ≤ 9 := by rw [rnd_len]; omega
  have nb := nD_b (K := K) L9
  unfold nX12_isSame bX12_isSame
  refine ok_bnd (m_doors hm hv v0 v3 e95 er h9 hin) (fun g1 hg1 => ?_)
  obtain ⟨f1, ci⟩ := hg1
  obtain ⟨en, ed⟩ := chI_F ci
  rw [en] at ed
  generalize hnn : nD K (rnd K v) = n at *
  have hnn2 : 0 ≤ n * n ∧ n * n ≤ 10 * 10 := mul_b ⟨by omega, nb.2⟩ ⟨by omega, nb.2⟩
  have hm1 : RM K g1 := RM_fr hm f1 (fun c i s => by dsimp only [sGm] at s; unfold rmP; omega)
  have gr1 : ∀ y : Int, y ≠ -1 → gr y = y := fun y hy => by unfold gr; rw [if_neg hy]
  have key : ∀ (r N : Nat) (x k : Int), (x = 0 ∨ x = 1) → r < N → k + r = n * n → 0 ≤ k → (x ≠ 0 → ∀ i j, (0 ≤ i ∧ i < n) → (0 ≤ j ∧ j < n) → i * n + j < k → dK K (drF K (rnd K v) i) (drF K (rnd K v) j) = dK K (drF K (rnd K v) j) (drF K (rnd K v) i)) → Ok (nX12_isSame_9 N x k g1) (fun r => Fr sGm m r.2 ∧ (r.2.1 71 72 = n ∧ ∀ i, 0 ≤ i → i < n → r.2.1 114 i = drF K (rnd K v) i) ∧ (r.1 ≠ 0 → SYM K (rnd K v))) := by
    intro r
    induction r with
    | zero =>
      intro N x k hx hN hk k0 hs
      obtain ⟨M, rfl⟩ := fuel_s hN
      rw [nX12_isSame_9_s]
      simp only [bX12_isSame_9]
      rw [en]
      refine ok_gd (by omega) ?_
      refine ok_neg (by omega) ?_
      refine ok_gd (by omega) ?_
      refine ok_some ⟨f1, ⟨en, ed⟩, fun hx0 i j i0 ij jn => ?_⟩
      rw [hnn] at jn
      refine hs hx0 i j ⟨i0, by omega⟩ ⟨by omega, jn⟩ ?_
      have h1 : (i + 1) * n ≤ n * n := Int.mul_le_mul_of_nonneg_right (by omega) (by omega)
      rw [Int.add_mul, Int.one_mul] at h1
      omega
    | succ r ih =>
      intro N x k hx hN hk k0 hs
      obtain ⟨M, rfl⟩ := fuel_s hN
      have d0 := Int.ediv_nonneg k0 (show 0 ≤ n by omega)
      have d1 := Int.ediv_lt_of_lt_mul (show 0 < n by omega) (show k < n * n by omega)
      have m0 := Int.emod_nonneg k (show n ≠ 0 by omega)
      have m1 := Int.emod_lt_of_pos k (show 0 < n by omega)
      have ek : k = (k / n) * n + k % n := by have := Int.emod_add_mul_ediv k n; rw [Int.mul_comm] at this; omega
      have e97 : ∀ y : Int, nX12_isSame_97 (nX12_isSame_9 M) k y g1 = gd (R32 (k + 1)) (nX12_isSame_9 M y (k + 1) g1) := fun _ => rfl
      have e96 : nX12_isSame_96 (nX12_isSame_9 M) k g1 = gd (R32 (k + 1)) (nX12_isSame_9 M 0 (k + 1) g1) := rfl
      rw [nX12_isSame_9_s]
      simp only [bX12_isSame_9]
      rw [en]
      refine ok_gd (by omega) ?_
      refine ok_pos (by omega) ?_
      generalize k / n = a at *
      generalize k % n = b at *
      refine ok_gd (by omega) ?_
      refine ok_gd (by omega) ?_
      refine ok_gd (by omega) ?_
      refine ok_gd (by omega) ?_
      rw [ed a d0 d1, ed b m0 m1]
      have fa := drF_b (K := K) (L := rnd K v) (i := a) d0 (by omega)
      have fb := drF_b (K := K) (L := rnd K v) (i := b) m0 (by omega)
      have ca := con_d hC (i := a) (j := b) ⟨d0, by omega⟩ ⟨m0, by omega⟩
      have cb := con_d hC (i := b) (j := a) ⟨m0, by omega⟩ ⟨d0, by omega⟩
      have s1 := sX12_d hm1 fa.1 fa.2 fb.1 fb.2
      have s2 := sX12_d hm1 fb.1 fb.2 fa.1 fa.2
      have v1 := v_D hv fa.1 fa.2 fb.1 fb.2
      rw [gr1 _ ca] at s1
      rw [gr1 _ cb] at s2
      have no : Ok (nX12_isSame_96 (nX12_isSame_9 M) k g1) (fun r => Fr sGm m r.2 ∧ (r.2.1 71 72 = n ∧ ∀ i, 0 ≤ i → i < n → r.2.1 114 i = drF K (rnd K v) i) ∧ (r.1 ≠ 0 → SYM K (rnd K v))) := by
        rw [e96]
        refine ok_gd (by omega) ?_
        exact ih M 0 (k + 1) (Or.inl rfl) (by omega) (by omega) (by omega) (fun z => absurd rfl z)
      refine ok_be s1 ?_
      by_cases c : x = 0
      · refine ok_pos c ?_
        exact no
      · refine ok_neg c ?_
        refine ok_pos (by omega) ?_
        refine ok_gd (by omega) ?_
        refine ok_gd (by omega) ?_
        refine ok_gd (by omega) ?_
        refine ok_gd (by omega) ?_
        refine ok_be s2 ?_
        by_cases c2 : dK K (drF K (rnd K v) a) (drF K (rnd K v) b) = dK K (drF K (rnd K v) b) (drF K (rnd K v) a)
        · refine ok_pos c2 ?_
          rw [e97]
          refine ok_gd (by omega) ?_
          refine ih M 1 (k + 1) (Or.inr rfl) (by omega) (by omega) (by omega) (fun _ i j i0 j0 hij => ?_)
          by_cases c3 : i * n + j = k
          · have u1 := (Int.ediv_emod_unique (a := k) (b := n) (r := b) (q := a) (by omega)).mpr ⟨by rw [ek, Int.mul_comm]; omega, m0, m1⟩
            have u2 := (Int.ediv_emod_unique (a := k) (b := n) (r := j) (q := i) (by omega)).mpr ⟨by rw [← c3, Int.mul_comm]; omega, j0.1, j0.2⟩
            have ex : i = a := u2.1.symm.trans u1.1
            have ey : j = b := u2.2.symm.trans u1.2
            rw [ex, ey]
            exact c2
          · exact hs c i j i0 j0 (by omega)
        · refine ok_neg c2 ?_
          exact no
  exact key (n * n).toNat 100000 1 0 (Or.inr rfl) (by omega) (by omega) (by omega) (fun _ i j i0 j0 hij => by
    have := Int.mul_nonneg i0.1 (show 0 ≤ n by omega)
    omega)
/-! least tours by sets -/
def PTt (S : Nat) (l : List Int) : Prop := l.Nodup ∧ ∀ z, z ∈ l ↔ (1 ≤ z ∧ z < 10) ∧ Nat.testBit S z.toNat = true
theorem pcs_b {dm : Int → Prop} (hd : ∀ x y, dm x → dm y → 0 ≤ d x y ∧ d x y ≤ 1800) : ∀ {l : List Int} {x : Int}, dm x → (∀ z ∈ l, dm z) → 0 ≤ pcs d x l ∧ pcs d x l ≤ 1800 * l.length
  | [], x, _, _ => by simp [pcs]
  | y :: l, x, hx, hl => by
    have hy := hl y List.mem_cons_self
    have a := hd x y hx hy
    have b := pcs_b hd hy (fun z hz => hl z (List.mem_cons_of_mem _ hz))
    rw [pcs, List.length_cons]
    omega
theorem PTt_len {S : Nat} {l : List Int} (h : PTt S l) : l.length ≤ 10 := nodup_len (m := 10) h.1 (fun x hx => by
  have := ((h.2 x).mp hx).1
  omega)
theorem PTt_dm {S : Nat} {l : List Int} {nn : Nat} (hS : S < 2 ^ nn) (h : PTt S l) : ∀ z ∈ l, 0 ≤ z ∧ z < (nn : Int) := fun z hz => by
  have q := (h.2 z).mp hz
  have := bt_lt hS q.2
  omega
theorem PTt_snoc {S b : Nat} {l : List Int} (h : PTt S l) (hb : 1 ≤ b ∧ b < 10) (hn : Nat.testBit S b = false) : PTt (S ||| 2 ^ b) (l ++ [(b : Int)]) := by
  refine ⟨?_, fun z => ?_⟩
  · rw [List.nodup_append]
    refine ⟨h.1, List.nodup_cons.mpr ⟨List.not_mem_nil, List.nodup_nil⟩, fun x hx y hy e => ?_⟩
    rw [List.mem_singleton.mp hy] at e
    rw [e] at hx
    have := ((h.2 _).mp hx).2
    rw [Int.toNat_natCast, hn] at this
    cases this
  · rw [List.mem_append, List.mem_singleton, h.2 z, Nat.testBit_or, Nat.testBit_two_pow, Bool.or_eq_true, decide_eq_true_iff]
    constructor
    · rintro (⟨a, b⟩ | a)
      · exact ⟨a, Or.inl b⟩
      · rw [a]; exact ⟨by omega, Or.inr (by omega)⟩
    · rintro ⟨a, b | b⟩
      · exact Or.inl ⟨a, b⟩
      · exact Or.inr (by omega)
/-- a path but its last -/
theorem PTt_init {S : Nat} {l : List Int} {e : Int} (h : PTt S (l ++ [e])) (h0 : Nat.testBit S 0 = true) : ∃ S0 b : Nat, (e = b ∧ (1 ≤ b ∧ b < 10)) ∧ S0 < S ∧ Nat.testBit S0 0 = true ∧ PTt S0 l ∧ Nat.testBit S0 b = false ∧ S0 ||| 2 ^ b = S := by
  have he := (h.2 e).mp (List.mem_append_right _ List.mem_cons_self)
  obtain ⟨b, rfl⟩ : ∃ b : Nat, e = b := ⟨e.toNat, by omega⟩
  have hb := he.2
  rw [Int.toNat_natCast] at hb
  have hxb : ∀ k, Nat.testBit (S ^^^ 2 ^ b) k = (Nat.testBit S k ^^ decide (b = k)) := fun k => by rw [Nat.testBit_xor, Nat.testBit_two_pow]
  have nd := h.1
  rw [List.nodup_append] at nd
  have hbb : Nat.testBit (S ^^^ 2 ^ b) b = false := by rw [hxb, hb, decide_eq_true rfl]; rfl
  have hor : (S ^^^ 2 ^ b) ||| 2 ^ b = S := by
    refine Nat.eq_of_testBit_eq (fun k => ?_)
    rw [Nat.testBit_or, hxb, Nat.testBit_two_pow]
    by_cases c : b = k
    · rw [decide_eq_true c, ← c, hb]; rfl
    · rw [decide_eq_false c]; simp
  refine ⟨S ^^^ 2 ^ b, b, ⟨rfl, by omega⟩, ?_, ?_, ⟨nd.1, fun z => ?_⟩, hbb, hor⟩
  · have h1 : S ^^^ 2 ^ b ≤ S := by
      conv => rhs; rw [← hor]
      exact Nat.left_le_or
    rcases Nat.lt_or_eq_of_le h1 with z | z
    · exact z
    · rw [z, hb] at hbb; cases hbb
  · rw [hxb, h0, decide_eq_false (by omega)]; rfl
  · rw [hxb]
    constructor
    · intro hz
      have q := (h.2 z).mp (List.mem_append_left _ hz)
      have hne : z ≠ b := fun e => nd.2.2 z hz z (by rw [e]; exact List.mem_cons_self) rfl
      rw [q.2, decide_eq_false (by omega)]
      exact ⟨q.1, rfl⟩
    · rintro ⟨q1, q2⟩
      by_cases c : b = z.toNat
      · rw [decide_eq_true c, ← c, hb] at q2; cases q2
      · rw [decide_eq_false c, Bool.xor_false] at q2
        rcases List.mem_append.mp ((h.2 z).mpr ⟨q1, q2⟩) with y | y
        · exact y
        · have := List.mem_singleton.mp y
          omega
abbrev s119 : Nat → Int → Prop := fun c _ => c = 119
/-- values are those of paths -/
def tuU (d : Int → Int → Int) (nn : Nat) (A : Int → Int) : Prop := ∀ (S : Nat) (e : Int), S < 2 ^ nn → Nat.testBit S 0 = true → 0 ≤ e → e < 10 → A (10 * (S : Int) + e) = 1000000000 ∨ ∃ l, PTt S l ∧ la 0 l = e ∧ pcs d 0 l = A (10 * (S : Int) + e)
/-- no path of the sets below is shorter -/
def tuL (d : Int → Int → Int) (nn : Nat) (A : Int → Int) (S : Nat) : Prop := A 10 ≤ 0 ∧ ∀ (S0 b : Nat) (l : List Int), S0 < S → S0 < 2 ^ nn → Nat.testBit S0 0 = true → PTt S0 l → (1 ≤ b ∧ b < nn) → Nat.testBit S0 b = false → A (10 * ((S0 ||| 2 ^ b : Nat) : Int) + b) ≤ pcs d 0 (l ++ [(b : Int)])
theorem tuL_main {nn S : Nat} {A : Int → Int} (hS1 : S < 1024) (hS : S < 2 ^ nn) (hL : tuL d nn A S) (h0 : Nat.testBit S 0 = true) {l : List Int} (hl : PTt S l) : A (10 * (S : Int) + la 0 l) ≤ pcs d 0 l := by
  rcases List.eq_nil_or_concat l with c | ⟨l1, e, c⟩
  · rw [c] at hl ⊢
    have S1 : S = 1 := by
      refine Nat.eq_of_testBit_eq (fun k => ?_)
      by_cases ck : k = 0
      · rw [ck, h0]; rfl
      · have e1 : Nat.testBit 1 k = false := by
          have := Nat.testBit_two_pow (n := 0) (m := k)
          rw [Nat.pow_zero] at this
          rw [this, decide_eq_false (by omega)]
        rw [e1]
        cases z : Nat.testBit S k
        · rfl
        · exfalso
          have hk := bt_lt hS z
          by_cases c10 : k < 10
          · have := (hl.2 (k : Int)).mpr ⟨by omega, by rw [Int.toNat_natCast]; exact z⟩
            exact List.not_mem_nil this
          · rw [bt_out hS1 (by omega)] at z; cases z
    rw [S1]
    exact hL.1
  · rw [List.concat_eq_append] at c
    rw [c] at hl ⊢
    obtain ⟨S0, b, ⟨eb, b0⟩, s1, s2, s3, s4, s5⟩ := PTt_init hl h0
    have hbS : Nat.testBit S b = true := by
      have := (hl.2 e).mp (List.mem_append_right _ List.mem_cons_self)
      rw [eb, Int.toNat_natCast] at this
      exact this.2
    have := hL.2 S0 b l1 s1 (by omega) s2 s3 ⟨b0.1, bt_lt hS hbS⟩ s4
    rw [s5] at this
    rw [la_app, eb]
    exact this
theorem m_tour (hv : VAL K) (hm : RM K m) (hC : CON K L) (hl9 : L.length ≤ 9) (h72 : m.1 71 72 = nD K L) (h114 : ∀ i, 0 ≤ i → i < nD K L → m.1 114 i = drF K L i) : Ok (nX12_tour m) (fun r => Fr s119 m r.2 ∧ (0 ≤ r.1 ∧ r.1 ≤ 20000) ∧ (∃ l : List Int, (l.Nodup ∧ ∀ z, z ∈ l ↔ dmD K L z ∧ z ≠ 0) ∧ pcs (dD K L) 0 (l ++ [0]) = r.1) ∧ ∀ l : List Int, l.Nodup → (∀ z, z ∈ l ↔ dmD K L z ∧ z ≠ 0) → r.1 ≤ pcs (dD K L) 0 (l ++ [0])) := by
  have nb := nD_b (K := K) hl9
  obtain ⟨nn, hnn⟩ : ∃ nn : Nat, nD K L = nn := ⟨(nD K L).toNat, by omega⟩
  have p10 := pow10 (show nn < 11 by omega)
  have p2 : 2 ≤ 2 ^ nn := by
    have : 2 ^ 1 ≤ 2 ^ nn := Nat.pow_le_pow_right (by omega) (by omega)
    omega
  have hn2 : 0 ≤ (nn : Int) * nn ∧ (nn : Int) * nn ≤ 10 * 10 := mul_b ⟨by omega, by omega⟩ ⟨by omega, by omega⟩
  have hsh := shlN (show nn < 11 by omega)
  have dmn : ∀ x, dmD K L x ↔ 0 ≤ x ∧ x < (nn : Int) := fun x => by unfold dmD; rw [hnn]
  have hdb : ∀ x y, (0 ≤ x ∧ x < (nn : Int)) → (0 ≤ y ∧ y < (nn : Int)) → 0 ≤ dD K L x y ∧ dD K L x y ≤ 1800 := fun x y x0 y0 => by
    have a := drF_b (K := K) (L := L) (i := x) x0.1 (by omega)
    have b := drF_b (K := K) (L := L) (i := y) y0.1 (by omega)
    have c := con_d hC (i := x) (j := y) (by omega) (by omega)
    have e := v_D hv a.1 a.2 b.1 b.2
    unfold dD
    omega
  have hd : ∀ g, Fr s119 m g → ∀ x y, (0 ≤ x ∧ x < (nn : Int)) → (0 ≤ y ∧ y < (nn : Int)) → g.1 114 x = drF K L x ∧ nX12_d g (drF K L x) (drF K L y) = some (dD K L x y) := fun g f x y x0 y0 => by
    have hmg : RM K g := RM_fr hm f (fun c i s => by dsimp only [s119] at s; unfold rmP; omega)
    have a := drF_b (K := K) (L := L) (i := x) x0.1 (by omega)
    have b := drF_b (K := K) (L := L) (i := y) y0.1 (by omega)
    have c := con_d hC (i := x) (j := y) (by omega) (by omega)
    have s := sX12_d hmg a.1 a.2 b.1 b.2
    have gr1 : gr (dK K (drF K L x) (drF K L y)) = dK K (drF K L x) (drF K L y) := by unfold gr; rw [if_neg c]
    rw [gr1] at s
    exact ⟨by rw [fr_c f 114 (fun i s => by dsimp only [s119] at s; omega)]; exact h114 x x0.1 (by omega), s⟩
  have h72' : ∀ g, Fr s119 m g → g.1 71 72 = (nn : Int) := fun g f => by rw [f.2 71 72 (by dsimp only [s119]; omega), h72, hnn]
  have d00 : (0 : Int) ≤ 0 ∧ (0 : Int) < (nn : Int) := by omega
  have pb : ∀ {S : Nat} {l : List Int}, S < 2 ^ nn → PTt S l → 0 ≤ pcs (dD K L) 0 l ∧ pcs (dD K L) 0 l ≤ 18000 := fun {S l} hS hl => by
    have := pcs_b (d := dD K L) (dm := fun x => 0 ≤ x ∧ x < (nn : Int)) (fun x y x0 y0 => hdb x y x0 y0) (l := l) (x := 0) d00 (PTt_dm hS hl)
    have := PTt_len hl
    omega
  have lan : ∀ {S : Nat} {l : List Int}, S < 2 ^ nn → PTt S l → 0 ≤ la 0 l ∧ la 0 l < (nn : Int) := fun {S l} hS hl => by
    rcases la_mem (l := l) (x := 0) with c | c
    · rw [c]; omega
    · exact PTt_dm hS hl _ c
  -- the end: back to the depot
  have full : ∀ l : List Int, PTt (2 ^ nn - 1) l ↔ l.Nodup ∧ ∀ z, z ∈ l ↔ dmD K L z ∧ z ≠ 0 := fun l => by
    unfold PTt
    have e : ∀ z : Int, ((1 ≤ z ∧ z < 10) ∧ Nat.testBit (2 ^ nn - 1) z.toNat = true) ↔ dmD K L z ∧ z ≠ 0 := fun z => by
      rw [Nat.testBit_two_pow_sub_one, decide_eq_true_iff, dmn]
      omega
    simp only [e]
  have fin : ∀ {g : HH}, Fr s119 m g → tuU (dD K L) nn (g.1 119) → tuL (dD K L) nn (g.1 119) (2 ^ nn) → ∀ (r N : Nat) (x k : Int), r < N → k + r = nn → 0 ≤ k → (x = 1000000000 ∨ ∃ l, PTt (2 ^ nn - 1) l ∧ pcs (dD K L) 0 (l ++ [0]) = x) → (∀ l, PTt (2 ^ nn - 1) l → la 0 l < k → x ≤ pcs (dD K L) 0 (l ++ [0])) → Ok (nX12_tour_182 N ((2 ^ nn : Nat) : Int) x k g) (fun r => Fr s119 m r.2 ∧ (0 ≤ r.1 ∧ r.1 ≤ 20000) ∧ (∃ l : List Int, (l.Nodup ∧ ∀ z, z ∈ l ↔ dmD K L z ∧ z ≠ 0) ∧ pcs (dD K L) 0 (l ++ [0]) = r.1) ∧ ∀ l : List Int, l.Nodup → (∀ z, z ∈ l ↔ dmD K L z ∧ z ≠ 0) → r.1 ≤ pcs (dD K L) 0 (l ++ [0])) := by
    intro g f hU hL r
    have F0 : Nat.testBit (2 ^ nn - 1) 0 = true := by rw [Nat.testBit_two_pow_sub_one, decide_eq_true (by omega)]
    have pb2 : ∀ {l : List Int}, PTt (2 ^ nn - 1) l → 0 ≤ pcs (dD K L) 0 (l ++ [0]) ∧ pcs (dD K L) 0 (l ++ [0]) ≤ 20000 := fun {l} hl => by
      have a := pb (show 2 ^ nn - 1 < 2 ^ nn by omega) hl
      have b := lan (show 2 ^ nn - 1 < 2 ^ nn by omega) hl
      have c := hdb (la 0 l) 0 b d00
      rw [pcs_app]
      show 0 ≤ pcs (dD K L) 0 l + (dD K L (la 0 l) 0 + 0) ∧ pcs (dD K L) 0 l + (dD K L (la 0 l) 0 + 0) ≤ 20000
      omega
    induction r with
    | zero =>
      intro N x k hN hk k0 hx hlow
      obtain ⟨M, rfl⟩ := fuel_s hN
      rw [nX12_tour_182_s]
      simp only [bX12_tour_182]
      rw [h72' g f]
      refine ok_neg (by omega) ?_
      -- there is a path
      have pex : PTt (2 ^ nn - 1) (chL (fun z => decide (1 ≤ z)) nn) := (full _).mpr ⟨chL_nd, fun z => by
        rw [chL_m, decide_eq_true_iff, dmn]
        omega⟩
      have hle := hlow _ pex (by
        have := lan (show 2 ^ nn - 1 < 2 ^ nn by omega) pex
        omega)
      have hpb := pb2 pex
      rcases hx with hx | ⟨l, hl, hx⟩
      · omega
      · have := pb2 hl
        refine ok_some ⟨f, by omega, ⟨l, (full l).mp hl, hx⟩, fun l' h1 h2 => hlow l' ((full l').mpr ⟨h1, h2⟩) ?_⟩
        have := lan (show 2 ^ nn - 1 < 2 ^ nn by omega) ((full l').mpr ⟨h1, h2⟩)
        omega
    | succ r ih =>
      intro N x k hN hk k0 hx hlow
      obtain ⟨M, rfl⟩ := fuel_s hN
      have e234 : ∀ y : Int, nX12_tour_234 (nX12_tour_182 M) ((2 ^ nn : Nat) : Int) k y g = gd (R32 (k + 1)) (nX12_tour_182 M ((2 ^ nn : Nat) : Int) y (k + 1) g) := fun _ => rfl
      have hxb : 0 ≤ x ∧ x ≤ 1000000000 := by
        rcases hx with hx | ⟨l, hl, hx⟩
        · omega
        · have := pb2 hl
          omega
      have eF : ((2 ^ nn : Nat) : Int) - 1 = ((2 ^ nn - 1 : Nat) : Int) := by omega
      have mainF : ∀ l, PTt (2 ^ nn - 1) l → g.1 119 (10 * ((2 ^ nn - 1 : Nat) : Int) + la 0 l) ≤ pcs (dD K L) 0 l := fun l hl => tuL_main (by omega) (show 2 ^ nn - 1 < 2 ^ nn by omega) ⟨hL.1, fun S0 b l z1 z2 => hL.2 S0 b l z2 z2⟩ F0 hl
      rw [nX12_tour_182_s]
      simp only [bX12_tour_182]
      rw [h72' g f, eF]
      refine ok_pos (by omega) ?_
      refine ok_gd (by omega) ?_
      refine ok_gd (by omega) ?_
      refine ok_gd (by omega) ?_
      refine ok_gd (by omega) ?_
      have hUk := hU (2 ^ nn - 1) k (by omega) F0 k0 (by omega)
      by_cases c : g.1 119 (10 * ((2 ^ nn - 1 : Nat) : Int) + k) < 1000000000
      · obtain ⟨l, hl, l1, l2⟩ := hUk.resolve_left (by omega)
        have dk := hd g f k 0 ⟨k0, by omega⟩ d00
        have dk2 := dk.2
        rw [drF_0] at dk2
        have pbl := pb (show 2 ^ nn - 1 < 2 ^ nn by omega) hl
        have ddb := hdb k 0 ⟨k0, by omega⟩ d00
        have epl : pcs (dD K L) 0 (l ++ [0]) = g.1 119 (10 * ((2 ^ nn - 1 : Nat) : Int) + k) + dD K L k 0 := by
          rw [pcs_app, l1, l2]
          show _ + (dD K L k 0 + 0) = _
          omega
        refine ok_pos c ?_
        refine ok_gd (by omega) ?_
        rw [dk.1]
        refine ok_be dk2 ?_
        refine ok_gd (by omega) ?_
        refine ok_be sX12_less ?_
        rw [e234]
        refine ok_gd (by omega) ?_
        refine ih M _ (k + 1) (by omega) (by omega) (by omega) ?_ (fun l' hl' hk' => ?_)
        · by_cases c2 : x ≤ g.1 119 (10 * ((2 ^ nn - 1 : Nat) : Int) + k) + dD K L k 0
          · rw [show min x (g.1 119 (10 * ((2 ^ nn - 1 : Nat) : Int) + k) + dD K L k 0) = x by omega]
            exact hx
          · exact Or.inr ⟨l, hl, by omega⟩
        · by_cases c2 : la 0 l' = k
          · have z := mainF l' hl'
            rw [c2] at z
            have e2 : pcs (dD K L) 0 (l' ++ [0]) = pcs (dD K L) 0 l' + (dD K L k 0 + 0) := by
              rw [pcs_app, c2]; rfl
            omega
          · have := hlow l' hl' (by omega)
            omega
      · refine ok_neg c ?_
        rw [e234]
        refine ok_gd (by omega) ?_
        refine ih M x (k + 1) (by omega) (by omega) (by omega) hx (fun l' hl' hk' => ?_)
        by_cases c2 : la 0 l' = k
        · have z := mainF l' hl'
          rw [c2] at z
          have := pb (show 2 ^ nn - 1 < 2 ^ nn by omega) hl'
          omega
        · exact hlow l' hl' (by omega)
  -- one set
  have one : ∀ {c41 : Int → Int → HH → Option (Int × HH)} {P : Int × HH → Prop} {S : Nat}, S < 2 ^ nn → Nat.testBit S 0 = true → (∀ (q : Int) (g : HH), q = ((S + 2 : Nat) : Int) → Fr s119 m g → tuU (dD K L) nn (g.1 119) → tuL (dD K L) nn (g.1 119) (S + 2) → Ok (c41 ((2 ^ nn : Nat) : Int) q g) P) → ∀ (r N k : Nat) (qk : Int) (g : HH), qk = (k : Int) → r < N → k + r = nn * nn → Fr s119 m g → tuU (dD K L) nn (g.1 119) → tuL (dD K L) nn (g.1 119) S → (∀ (a b : Nat) (l : List Int), a * nn + b < k → (1 ≤ b ∧ b < nn) → PTt S l → la 0 l = (a : Int) → Nat.testBit S b = false → g.1 119 (10 * ((S ||| 2 ^ b : Nat) : Int) + b) ≤ pcs (dD K L) 0 (l ++ [(b : Int)])) → Ok (nX12_tour_48 c41 N ((2 ^ nn : Nat) : Int) (S : Int) qk g) P := by
    intro c41 P S hS S0 hk41 r
    have S1024 : S < 1024 := by omega
    induction r with
    | zero =>
      intro N k qk g hqk hN hk f hU hL hp
      subst hqk
      obtain ⟨M, rfl⟩ := fuel_s hN
      have ekk : (nn : Int) * nn = (k : Int) := by rw [show k = nn * nn by omega, Int.natCast_mul]
      rw [nX12_tour_48_s]
      simp only [bX12_tour_48]
      rw [h72' g f, ekk]
      refine ok_gd (by omega) ?_
      refine ok_neg (by omega) ?_
      refine ok_gd (by omega) ?_
      refine hk41 _ g (by omega) f hU ⟨hL.1, fun S1 b l z1 z2 z3 z4 z5 z6 => ?_⟩
      rcases (by omega : S1 < S ∨ S1 = S ∨ S1 = S + 1) with c | c | c
      · exact hL.2 S1 b l c z2 z3 z4 z5 z6
      · subst c
        have hla := lan hS z4
        obtain ⟨a, ea⟩ : ∃ a : Nat, la 0 l = (a : Int) := ⟨(la 0 l).toNat, by omega⟩
        refine hp a b l ?_ z5 z4 ea z6
        have h1 : (a + 1) * nn ≤ nn * nn := Nat.mul_le_mul_right nn (by omega)
        rw [Nat.add_mul, Nat.one_mul] at h1
        omega
      · exfalso
        rw [Nat.testBit_zero, decide_eq_true_iff] at S0 z3
        omega
    | succ r ih =>
      intro N k qk g hqk hN hk f hU hL hp
      subst hqk
      obtain ⟨M, rfl⟩ := fuel_s hN
      have ekk : (nn : Int) * nn = ((nn * nn : Nat) : Int) := by rw [Int.natCast_mul]
      have knn : nn * nn ≤ 100 := by omega
      have ek1 : (k : Int) + 1 = ((k + 1 : Nat) : Int) := by omega
      obtain ⟨a, ea⟩ : ∃ a : Nat, k / nn = a := ⟨_, rfl⟩
      obtain ⟨b, eb⟩ : ∃ b : Nat, k % nn = b := ⟨_, rfl⟩
      have ha : a < nn := by rw [← ea]; exact Nat.div_lt_of_lt_mul (by omega)
      have hb : b < nn := by rw [← eb]; exact Nat.mod_lt _ (by omega)
      have ek : k = a * nn + b := by
        have := Nat.div_add_mod k nn
        rw [ea, eb, Nat.mul_comm] at this
        omega
      have eda : (k : Int) / (nn : Int) = (a : Int) := by rw [← ea]; rfl
      have edb : (k : Int) % (nn : Int) = (b : Int) := by rw [← eb]; rfl
      have e165 : ∀ g', nX12_tour_165 c41 (nX12_tour_48 c41 M) ((2 ^ nn : Nat) : Int) (S : Int) (k : Int) g' = gd (R32 ((k : Int) + 1)) (nX12_tour_48 c41 M ((2 ^ nn : Nat) : Int) (S : Int) ((k : Int) + 1) g') := fun _ => rfl
      have e103 : nX12_tour_103 c41 (nX12_tour_48 c41 M) ((2 ^ nn : Nat) : Int) (S : Int) (k : Int) (a : Int) (b : Int) g = bX12_tour_103 nX12_d nX12_less (nX12_tour_165 c41 (nX12_tour_48 c41 M)) ((2 ^ nn : Nat) : Int) (S : Int) (k : Int) (a : Int) (b : Int) g := rfl
      -- the pair of k
      have uq : ∀ {a' b' : Nat}, a' * nn + b' < k + 1 → b' < nn → a' * nn + b' < k ∨ (a' = a ∧ b' = b) := fun {a' b'} h1 h2 => by
        by_cases c : a' * nn + b' = k
        · right
          have u1 : k / nn = a' := by
            rw [← c, Nat.mul_comm, Nat.mul_add_div (by omega), Nat.div_eq_of_lt h2, Nat.add_zero]
          have u2 : k % nn = b' := by
            rw [← c, Nat.mul_comm, Nat.mul_add_mod, Nat.mod_eq_of_lt h2]
          exact ⟨by rw [← u1, ea], by rw [← u2, eb]⟩
        · left; omega
      have skip : (∀ l, 1 ≤ b → PTt S l → la 0 l = (a : Int) → Nat.testBit S b = false → g.1 119 (10 * ((S ||| 2 ^ b : Nat) : Int) + b) ≤ pcs (dD K L) 0 (l ++ [(b : Int)])) → Ok (nX12_tour_165 c41 (nX12_tour_48 c41 M) ((2 ^ nn : Nat) : Int) (S : Int) (k : Int) g) P := fun hnew => by
        rw [e165]
        refine ok_gd (by omega) ?_
        rw [ek1]
        refine ih M (k + 1) _ g rfl (by omega) (by omega) f hU hL (fun a' b' l z1 z2 z3 z4 z5 => ?_)
        rcases uq z1 z2.2 with c | ⟨c1, c2⟩
        · exact hp a' b' l c z2 z3 z4 z5
        · rw [c1] at z4
          rw [c2] at z2 z5 ⊢
          exact hnew l z2.1 z3 z4 z5
      have Ub := hU S a hS S0 (by omega) (by omega)
      rw [nX12_tour_48_s]
      simp only [bX12_tour_48]
      rw [h72' g f, ekk]
      refine ok_gd (by omega) ?_
      refine ok_pos (by omega) ?_
      refine ok_gd (by omega) ?_
      refine ok_gd (by omega) ?_
      rw [eda, edb]
      refine ok_gd (by omega) ?_
      refine ok_gd (by omega) ?_
      refine ok_gd (by omega) ?_
      by_cases c : g.1 119 (10 * (S : Int) + a) < 1000000000
      · refine ok_pos c ?_
        obtain ⟨l0, p0, p1, p2'⟩ := Ub.resolve_left (by omega)
        have b0 := pb hS p0
        rw [bitA (s := S) (i := b) S1024 (by omega)]
        by_cases cb : Nat.testBit S b = true
        · rw [if_pos cb]
          refine ok_neg (by decide) ?_
          exact skip (fun l _ _ _ z => by rw [cb] at z; cases z)
        · rw [if_neg cb]
          refine ok_pos rfl ?_
          have cb' : Nat.testBit S b = false := by
            cases z : Nat.testBit S b
            · rfl
            · exact absurd z cb
          have b1 : 1 ≤ b := by
            rcases Nat.eq_zero_or_pos b with z | z
            · rw [z] at cb; exact absurd S0 cb
            · exact z
          have pbb := pow10 (show b < 11 by omega)
          have pbn : 2 ^ b < 2 ^ nn := Nat.pow_lt_pow_right (by omega) hb
          have S' : S ||| 2 ^ b < 2 ^ nn := Nat.or_lt_two_pow hS pbn
          have Sne : S ||| 2 ^ b ≠ S := fun z => by
            have : Nat.testBit (S ||| 2 ^ b) b = true := by rw [Nat.testBit_or, Nat.testBit_two_pow, decide_eq_true rfl]; simp
            rw [z] at this
            exact cb this
          have S'0 : Nat.testBit (S ||| 2 ^ b) 0 = true := by rw [Nat.testBit_or, S0]; rfl
          have hd1 := hd g f a b ⟨by omega, by omega⟩ ⟨by omega, by omega⟩
          have hd2 := hd g f b a ⟨by omega, by omega⟩ ⟨by omega, by omega⟩
          have db := hdb a b ⟨by omega, by omega⟩ ⟨by omega, by omega⟩
          rw [e103]
          simp only [bX12_tour_103]
          rw [shlN (show b < 11 by omega), orN (by omega) (by omega), hd1.1, hd2.1]
          generalize hT : S ||| 2 ^ b = T at *
          refine ok_gd (by omega) ?_
          refine ok_gd (by omega) ?_
          refine ok_gd (by omega) ?_
          refine ok_gd (by omega) ?_
          refine ok_gd (by omega) ?_
          refine ok_gd (by omega) ?_
          refine ok_gd (by omega) ?_
          refine ok_gd (by omega) ?_
          refine ok_be hd1.2 ?_
          refine ok_gd (by omega) ?_
          refine ok_be sX12_less ?_
          refine ok_gd (by omega) ?_
          refine ok_bs ?_
          rw [e165]
          refine ok_gd (by omega) ?_
          rw [ek1]
          -- the row only falls
          have eA : ∀ z g', g' = hI g 119 (10 * (T : Int) + b) z → g'.1 119 = updI (g.1 119) (10 * (T : Int) + b) z := fun z g' e => by rw [e]; exact rI_s
          have fN : ∀ z, Fr s119 m (hI g 119 (10 * (T : Int) + b) z) := fun z => fr_I f rfl
          generalize hz : min (g.1 119 (10 * (T : Int) + b)) (g.1 119 (10 * (S : Int) + a) + dD K L a b) = z at *
          have eA' := eA z _ rfl
          have f' := fN z
          generalize hI g 119 (10 * (T : Int) + b) z = g' at *
          have low : ∀ i, g'.1 119 i ≤ g.1 119 i := fun i => by
            rw [eA']
            by_cases ci : i = 10 * (T : Int) + b
            · rw [ci, updI_s]; omega
            · rw [updI_n ci]; omega
          have at' : g'.1 119 (10 * (T : Int) + b) = z := by rw [eA', updI_s]
          refine ih M (k + 1) _ g' rfl (by omega) (by omega) f' ?_ ⟨?_, ?_⟩ ?_
          · intro S1 e h1 h2 h3 h4
            by_cases ci : 10 * (S1 : Int) + e = 10 * (T : Int) + b
            · have e1 : S1 = T := by omega
              have e2 : e = b := by omega
              rw [e1, e2, at']
              by_cases cz : g.1 119 (10 * (T : Int) + b) ≤ g.1 119 (10 * (S : Int) + a) + dD K L a b
              · have ez : g.1 119 (10 * (T : Int) + b) = z := by omega
                have := hU T b (by omega) S'0 (by omega) (by omega)
                rw [ez] at this
                exact this
              · right
                refine ⟨l0 ++ [(b : Int)], by rw [← hT]; exact PTt_snoc p0 ⟨b1, by omega⟩ cb', by rw [la_app]; rfl, ?_⟩
                rw [pcs_app, p1, p2']
                show _ + (dD K L a b + 0) = _
                omega
            · rw [eA', updI_n ci]
              exact hU S1 e h1 h2 h3 h4
          · have := low 10
            have := hL.1
            omega
          · intro S1 b1 l z1 z2 z3 z4 z5 z6
            have := low (10 * ((S1 ||| 2 ^ b1 : Nat) : Int) + b1)
            have := hL.2 S1 b1 l z1 z2 z3 z4 z5 z6
            omega
          · intro a' b' l z1 z2 z3 z4 z5
            rcases uq z1 z2.2 with c5 | ⟨c1, c2⟩
            · have := low (10 * ((S ||| 2 ^ b' : Nat) : Int) + b')
              have := hp a' b' l c5 z2 z3 z4 z5
              omega
            · rw [c1] at z4
              rw [c2, hT, at', pcs_app, z4]
              have := tuL_main (d := dD K L) S1024 hS hL S0 z3
              rw [z4] at this
              show z ≤ pcs (dD K L) 0 l + (dD K L a b + 0)
              omega
      · refine ok_neg c ?_
        refine skip (fun l _ z3 z4 _ => ?_)
        have h1 := tuL_main (d := dD K L) S1024 hS hL S0 z3
        have h2 := pb hS z3
        rw [z4] at h1
        omega
  -- all sets
  have sets : ∀ (r N S : Nat) (qS : Int) (g : HH), qS = (S : Int) → r < N → 2 ^ nn ≤ S + 2 * r → S ≤ 2 ^ nn + 1 → Nat.testBit S 0 = true → Fr s119 m g → tuU (dD K L) nn (g.1 119) → tuL (dD K L) nn (g.1 119) S → Ok (nX12_tour_41 N ((2 ^ nn : Nat) : Int) qS g) (fun r => Fr s119 m r.2 ∧ (0 ≤ r.1 ∧ r.1 ≤ 20000) ∧ (∃ l : List Int, (l.Nodup ∧ ∀ z, z ∈ l ↔ dmD K L z ∧ z ≠ 0) ∧ pcs (dD K L) 0 (l ++ [0]) = r.1) ∧ ∀ l : List Int, l.Nodup → (∀ z, z ∈ l ↔ dmD K L z ∧ z ≠ 0) → r.1 ≤ pcs (dD K L) 0 (l ++ [0])) := by
    intro r
    have ende : ∀ (M S : Nat) (g : HH), 2 ^ nn ≤ S → Fr s119 m g → tuU (dD K L) nn (g.1 119) → tuL (dD K L) nn (g.1 119) S → Ok (nX12_tour_41 (M + 1) ((2 ^ nn : Nat) : Int) (S : Int) g) (fun r => Fr s119 m r.2 ∧ (0 ≤ r.1 ∧ r.1 ≤ 20000) ∧ (∃ l : List Int, (l.Nodup ∧ ∀ z, z ∈ l ↔ dmD K L z ∧ z ≠ 0) ∧ pcs (dD K L) 0 (l ++ [0]) = r.1) ∧ ∀ l : List Int, l.Nodup → (∀ z, z ∈ l ↔ dmD K L z ∧ z ≠ 0) → r.1 ≤ pcs (dD K L) 0 (l ++ [0])) := fun M S g hS f hU hL => by
      rw [nX12_tour_41_s]
      simp only [bX12_tour_41]
      refine ok_neg (by omega) ?_
      refine fin f hU ⟨hL.1, fun S1 b l z1 z2 => hL.2 S1 b l (by omega) z2⟩ nn 100000 1000000000 0 (by omega) (by omega) (by omega) (Or.inl rfl) (fun l hl z => ?_)
      have := lan (show 2 ^ nn - 1 < 2 ^ nn by omega) hl
      omega
    induction r with
    | zero =>
      intro N S qS g hqS hN hr hS S0 f hU hL
      subst hqS
      obtain ⟨M, rfl⟩ := fuel_s hN
      exact ende M S g (by omega) f hU hL
    | succ r ih =>
      intro N S qS g hqS hN hr hS S0 f hU hL
      subst hqS
      obtain ⟨M, rfl⟩ := fuel_s hN
      by_cases c : S < 2 ^ nn
      · have knn : nn * nn ≤ 100 := by have := Int.natCast_mul nn nn; omega
        have S20 : Nat.testBit (S + 2) 0 = true := by
          rw [Nat.testBit_zero, decide_eq_true_iff] at S0 ⊢
          omega
        rw [nX12_tour_41_s]
        simp only [bX12_tour_41]
        refine ok_pos (by omega) ?_
        exact one c S0 (fun q g' hq f' hU' hL' => ih M (S + 2) q g' hq (by omega) (by omega) (by omega) S20 f' hU' hL') (nn * nn) 100000 0 0 g rfl (by omega) (by omega) f hU hL (fun a b l z => absurd z (Nat.not_lt_zero _))
      · exact ende M S g (by omega) f hU hL
  -- the table
  have init : ∀ (r N x : Nat) (qx : Int) (g : HH), qx = (x : Int) → r < N → x + r = 10 * 2 ^ nn → Fr s119 m g → (∀ i, 0 ≤ i → i < (x : Int) → g.1 119 i = 1000000000) → Ok (nX12_tour_9 N ((2 ^ nn : Nat) : Int) qx g) (fun r => Fr s119 m r.2 ∧ (0 ≤ r.1 ∧ r.1 ≤ 20000) ∧ (∃ l : List Int, (l.Nodup ∧ ∀ z, z ∈ l ↔ dmD K L z ∧ z ≠ 0) ∧ pcs (dD K L) 0 (l ++ [0]) = r.1) ∧ ∀ l : List Int, l.Nodup → (∀ z, z ∈ l ↔ dmD K L z ∧ z ≠ 0) → r.1 ≤ pcs (dD K L) 0 (l ++ [0])) := by
    intro r
    induction r with
    | zero =>
      intro N x qx g hqx hN hx f hA
      subst hqx
      obtain ⟨M, rfl⟩ := fuel_s hN
      rw [nX12_tour_9_s]
      simp only [bX12_tour_9]
      refine ok_gd (by omega) ?_
      refine ok_neg (by omega) ?_
      refine ok_gd (by omega) ?_
      refine ok_bs ?_
      have f' : Fr s119 m (hI g 119 10 0) := fr_I f rfl
      have eA : (hI g 119 10 0).1 119 = updI (g.1 119) 10 0 := rI_s
      generalize hI g 119 10 0 = g' at *
      refine sets (2 ^ nn) 100000 1 1 g' rfl (by omega) (by omega) (by omega) (by decide) f' (fun S e h1 h2 h3 h4 => ?_) ⟨?_, ?_⟩
      · by_cases ci : 10 * (S : Int) + e = 10
        · right
          have e1 : S = 1 := by
            rcases (by omega : S = 1 ∨ S = 0) with z | z
            · exact z
            · rw [z] at h2; exact absurd h2 (by decide)
          have e2 : e = 0 := by omega
          refine ⟨[], ⟨List.nodup_nil, fun z => ⟨fun hz => absurd hz List.not_mem_nil, ?_⟩⟩, e2.symm, by rw [ci, eA, updI_s]; rfl⟩
          rintro ⟨z1, z2⟩
          rw [e1] at z2
          have := Nat.testBit_two_pow (n := 0) (m := z.toNat)
          rw [Nat.pow_zero] at this
          rw [this, decide_eq_true_iff] at z2
          omega
        · left
          rw [eA, updI_n ci]
          exact hA _ (by omega) (by omega)
      · rw [eA, updI_s]; omega
      · intro S1 b l z1 z2 z3
        have e0 : S1 = 0 := by omega
        rw [e0] at z3
        exact absurd z3 (by decide)
    | succ r ih =>
      intro N x qx g hqx hN hx f hA
      subst hqx
      obtain ⟨M, rfl⟩ := fuel_s hN
      have ex : (x : Int) + 1 = ((x + 1 : Nat) : Int) := by omega
      rw [nX12_tour_9_s]
      simp only [bX12_tour_9]
      refine ok_gd (by omega) ?_
      refine ok_pos (by omega) ?_
      refine ok_gd (by omega) ?_
      refine ok_bs ?_
      refine ok_gd (by omega) ?_
      rw [ex]
      refine ih M (x + 1) _ _ rfl (by omega) (by omega) (fr_I f rfl) (fun i i0 i1 => ?_)
      rw [rI_s]
      by_cases ci : i = (x : Int)
      · rw [ci, updI_s]
      · rw [updI_n ci]
        exact hA i i0 (by omega)
  unfold nX12_tour bX12_tour
  rw [h72, hnn, hsh]
  exact init (10 * 2 ^ nn) 100000 0 0 m rfl (by omega) (by omega) fr_r (fun i i0 i1 => by omega)
end TOUR
