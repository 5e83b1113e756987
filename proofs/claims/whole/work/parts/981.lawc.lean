/-! THE LAW'S LOOP: what all of its cases share -/
section LAWC
variable {p : Program} {l : Launch} {e : Env} {s : State} {m : MethodId} {below : List Frame} {meth : Method} {c : Code} {D : va_G} {cy : Nat → ClassId} {b L : Nat} {xs : Nat → Int32} {pc : Nat} {lc : AL} {st : AS} {σ : SG} {cells slots : Nat}
/-- the world in the loop: both stores; what is left of longs and doubles -/
def wW (d : Nat → Int → UInt64) (i9 j9 : Nat → Int → Int) (h h' : HH) : SG := abH 71 119 (abH 2 70 (121, rRK, i9, j9, d) h) h'
def gcW (d : Nat → Int → UInt64) (i9 j9 : Nat → Int → Int) (h' : HH) : SG := abH 71 119 (121, rRK, i9, j9, d) h'
theorem mrg_cm {f f' g : Nat → Int → Int} : mrg 71 119 f' (mrg 2 70 f g) = mrg 2 70 f (mrg 71 119 f' g) := by
  funext k i
  unfold mrg
  by_cases c1 : 71 ≤ k ∧ k ≤ 119
  · rw [if_pos c1, if_neg (by omega), if_pos c1]
  · rw [if_neg c1, if_neg c1]
variable {d : Nat → Int → UInt64} {i9 j9 : Nat → Int → Int} {h h' h1 : HH} {k : Int}
theorem wWc : wW d i9 j9 h h' = abH 2 70 (gcW d i9 j9 h') h := by
  unfold wW gcW abH
  simp only [mrg_cm]
theorem gc_ok : GOK (gcW d i9 j9 h') := ⟨by show 119 ≤ 121; omega, rfl⟩
theorem gm_ok : GOK (abH 2 70 (121, rRK, i9, j9, d) h) := ⟨by show 119 ≤ 121; omega, rfl⟩
theorem mrg_up9 {lo hi k : Nat} {f g : Nat → Int → Int} {i x : Int} (q : ¬ (lo ≤ k ∧ k ≤ hi)) : mrg lo hi f (up2 g k i x) = up2 (mrg lo hi f g) k i x := by
  funext a b
  by_cases c1 : lo ≤ a ∧ a ≤ hi
  · rw [mrg_in c1, up2_ne (fun z => q (by rw [← z]; exact c1)), mrg_in c1]
  · show (if lo ≤ a ∧ a ≤ hi then f a b else up2 g k i x a b) = (if a = k ∧ b = i then x else (if lo ≤ a ∧ a ≤ hi then f a b else g a b))
    rw [if_neg c1, if_neg c1]
    rfl
theorem wWj {y : Int} : uJ (wW d i9 j9 h h') 120 0 y = wW d i9 (up2 j9 120 0 y) h h' := by
  unfold wW uJ abH
  rw [mrg_up9 (k := 120) (by omega), mrg_up9 (k := 120) (by omega)]
theorem wWd {y : UInt64} : uD (wW d i9 j9 h h') 121 0 y = wW (up2 d 121 0 y) i9 j9 h h' := rfl
theorem wWj0 : (wW d i9 j9 h h').2.2.2.1 120 0 = j9 120 0 := by
  show mrg 71 119 h'.2 (mrg 2 70 h.2 j9) 120 0 = j9 120 0
  unfold mrg
  rw [if_neg (by omega), if_neg (by omega)]
/-- contracts in that world -/
theorem mct_c {n : Nat} {as : AS} {o : AO} (q : MCT n [] as (abH 2 70 (gcW d i9 j9 h') h) o (abH 2 70 (gcW d i9 j9 h') h1)) : MCT n [] as (wW d i9 j9 h h') o (wW d i9 j9 h1 h') := by
  rw [wWc, wWc]
  exact q
theorem mct_j {n : Nat} {hh : List (Nat × Nat × Nat × Nat)} {as : AS} {o : AO} {y : Int} (q : MCT n hh as (wW d i9 j9 h h') o (uJ (wW d i9 j9 h1 h') 120 0 y)) : MCT n hh as (wW d i9 j9 h h') o (wW d i9 (up2 j9 120 0 y) h1 h') := by
  rw [wWj] at q
  exact q
theorem LG_less {lc' : AL} (hh : LG p l e s m b below meth c D cy pc lc' st σ cells slots) (hs : ∀ q ∈ lc', q ∈ lc) : LG p l e s m b below meth c D cy pc lc st σ cells slots := by
  intro ad H locs ls hW hP hD hS hl hwl hws hr9
  exact hh ad H locs ls hW hP hD hS (lv_less hl (fun q hq => by
    obtain ⟨x, hx, rfl⟩ := List.mem_map.mp hq
    exact List.mem_map.mpr ⟨x, hs x hx, rfl⟩)) (fun q hq => hwl q (hs q hq)) hws hr9
theorem LG_wid {c' s' : Nat} (hh : LG p l e s m b below meth c D cy pc lc st σ c' s') (h1 : cells ≤ c' ∧ slots ≤ s') (h2 : c' ≤ 601024 ∧ s' ≤ 7293034) : LG p l e s m b below meth c D cy pc lc st σ cells slots := by
  intro ad H locs ls hW hP hD hS hl hwl hws hr9
  exact W.widen h1.1 h1.2 (hh ad H locs ls hW hP hD hS hl hwl hws h2)
/-- a call that comes back -/
theorem callV_lg (hLC : LC p l s m b meth c D cy L xs) {n idx a : Nat} {v : AV} {σ1 : SG} {as rest : AS} (hk : mK n = 1) (hd : decode code pc = .ok (.invokevirtual idx, 3)) (hcb : callB 13 idx n 10 191 = true) (hnum : as.length = mN n) (h2 : 2 ≤ a ∧ a ≤ σ.1) (ht : tgK a = 16 + mO n) (h13 : mO n < 13) (hrest : sumc rest ≤ 8) (hct : MCT n [] (aR a :: as) σ (.inl (some v)) σ1) (hr2 : cells + mC n ≤ 601024 ∧ slots + mS n ≤ 7293034)
    (kk : LG p l e s m b below meth c D cy (pc + 3) lc (v :: rest) σ1 (cells + mC n) (slots + mS n)) : LG p l e s m b below meth c D cy pc lc (as.reverse ++ aR a :: rest) σ cells slots :=
  g_callV hLC.1 hk hd (callB_ok hcb) hnum h2 ht h13 hrest hct hr2 (fun x z => by cases z) (fun w z => by cases z; exact kk)
def lcE (k : Int) : AL := [(0, aR 1), (1, aR 2), (2, aR 71), (3, aR 120), (4, aR 121), (5, aI k)]
def xa (xs : Nat → Int32) (k : Int) (j : Int) : Int := (xs (k + j).toNat).toInt
theorem xa_R {j : Int} : R32 (xa xs k j) := ⟨Int32.le_toInt _, by have := Int32.toInt_lt (xs (k + j).toNat); unfold xa; omega⟩
/-- the next round -/
def NX (p : Program) (l : Launch) (e : Env) (s : State) (m : MethodId) (b : Nat) (below : List Frame) (meth : Method) (c : Code) (D : va_G) (cy : Nat → ClassId) (k : Int) (cells slots : Nat) : Prop := ∀ (d : Nat → Int → UInt64) (i9 j9 : Nat → Int → Int) (h h' : HH) (lc : AL), INV h h' → (∀ q ∈ lcE (k + 6), q ∈ lc) → LG p l e s m b below meth c D cy 28 lc [] (wW d i9 j9 h h') (cells + 20) (slots + 100)
/-- a segment up to a point -/
theorem segQ (hLC : LC p l s m b meth c D cy L xs) {pc2 N : Nat} {l0 : AL} {st0 : AS} (q : LG p l e s m b below meth c D cy pc2 l0 st0 σ cells slots) (hs : segL L xs clN csL_law (cuC pc2 (cuQ l0 st0 (σ, cells, slots) ()) cuN) N pc lc st (σ, cells, slots) = some ()) : LG p l e s m b below meth c D cy pc lc st σ cells slots :=
  seg_lg hLC CLK_N rwL_law (ct_C (fun lc st s1 z => by
    obtain ⟨rfl, rfl, rfl⟩ := cuQ_of z
    exact q) ct_N) N pc lc st (σ, cells, slots) hs
theorem lcN_s {x y : Nat × AV} : ∀ q ∈ lcE k, q ∈ (5, aI k) :: x :: y :: [(0, aR 1), (1, aR 2), (2, aR 71), (3, aR 120), (4, aR 121)] := fun q hq => by
  unfold lcE at hq
  simp only [List.mem_cons, List.not_mem_nil, or_false] at hq ⊢
  rcases hq with z | z | z | z | z | z
  · exact Or.inr (Or.inr (Or.inr (Or.inl z)))
  · exact Or.inr (Or.inr (Or.inr (Or.inr (Or.inl z))))
  · exact Or.inr (Or.inr (Or.inr (Or.inr (Or.inr (Or.inl z)))))
  · exact Or.inr (Or.inr (Or.inr (Or.inr (Or.inr (Or.inr (Or.inl z))))))
  · exact Or.inr (Or.inr (Or.inr (Or.inr (Or.inr (Or.inr (Or.inr z))))))
  · exact Or.inl z
theorem roomC {a b c x n : Nat} (q : a + b + c ≤ n) : x + a + b + c ≤ x + n := by omega
theorem roomA {a x n t : Nat} (q : a ≤ n) (r : x + n ≤ t) : x + a ≤ t := by omega
theorem roomB {a c x n t : Nat} (q : a + c ≤ n) (r : x + n ≤ t) : x + a ≤ t := by omega
theorem roomD {a b x n : Nat} (q : a + b ≤ n) : x + a + b ≤ x + n := by omega
theorem lcN0_s : ∀ q ∈ lcE k, q ∈ [(5, aI k), (0, aR 1), (1, aR 2), (2, aR 71), (3, aR 120), (4, aR 121)] := fun q hq => by
  unfold lcE at hq
  simp only [List.mem_cons, List.not_mem_nil, or_false] at hq ⊢
  rcases hq with z | z | z | z | z | z
  · exact Or.inr (Or.inl z)
  · exact Or.inr (Or.inr (Or.inl z))
  · exact Or.inr (Or.inr (Or.inr (Or.inl z)))
  · exact Or.inr (Or.inr (Or.inr (Or.inr (Or.inl z))))
  · exact Or.inr (Or.inr (Or.inr (Or.inr (Or.inr z))))
  · exact Or.inl z
theorem mct_d {n : Nat} {hh : List (Nat × Nat × Nat × Nat)} {as : AS} {o : AO} {y : UInt64} (q : MCT n hh as (wW d i9 j9 h h') o (uD (wW d i9 j9 h1 h') 121 0 y)) : MCT n hh as (wW d i9 j9 h h') o (wW (up2 d 121 0 y) i9 j9 h1 h') := q
theorem cmp_self {x : Int} : cmpI x x = 0 := by
  unfold cmpI
  rw [if_neg (by omega), if_pos rfl]
end LAWC
