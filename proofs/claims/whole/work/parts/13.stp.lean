/-! ONE STEP of the abstract machine is sound -/
section STP
variable {S β : Type} {rI rJ : S → Nat → Int → Int} {rD : S → Nat → Int → UInt64} {rR : S → Nat → Int → Nat} {wI wJ : S → Nat → Int → Int → Option S} {wD : S → Nat → Int → UInt64 → Option S} {wR : S → Nat → Int → Nat → Option S} {wC : S → Nat → (Int → Int) → Option S} {ok : S → Nat → Nat → Bool} {ln : Nat → Int} {nO : S → Nat → Option (Nat × S)} {nA : S → Nat → Int → Option (Nat × S)} {nM : S → Int → Int → Option (Nat × S)}
variable {hd : Nat → Nat → Option (Nat × Nat)} {kr : Option AV → S → Option β} {kx : Nat → S → Option β} {cl : Nat → AS → S → (AO → S → Option β) → Option β}
variable {p : Program} {l : Launch} {e : Env} {R : Room} {s : State} {m : MethodId} {args : Array Value} {below : List Frame} {meth : Method} {c : Code} {A : Nat → Prop} {cc : ByteArray} {own nL : Nat} {ini : Bool} {fr lo : Nat} {D : va_G} {cy : Nat → ClassId} {Q : State → Prop} {ad0 : Nat → Nat} {K0 : Nat} {ab : S → SG} {cn : S → Nat × Nat} {rc rs : Nat} {rt : Option FieldType}
theorem dcl {ins : Instr} {len n pc : Nat} (h : decode cc pc = .ok (ins, len)) (hl : lenI ins ≠ 0 → len = lenI ins) (hn : lenI ins = n) (h0 : n ≠ 0) : decode cc pc = .ok (ins, n) := by
  rw [h, hl (by rw [hn]; exact h0), hn]
theorem getL_ex {α : Type} {v : Option AV} {f : Int → Option α} {b : α} (h : (match v with | some (.inl x) => f x | _ => none) = some b) : ∃ x, v = some (aI x) ∧ f x = some b := by
  split at h
  · exact ⟨_, rfl, h⟩
  · cases h
theorem cond_some {α : Type} {c : Bool} {k : Option α} {b : α} (h : (bif c then k else none) = some b) : c = true ∧ k = some b := by
  cases c
  · cases h
  · exact ⟨rfl, h⟩
/-- what the end rows, the handlers and the script owe -/
def ENDS9 (kr : Option AV → S → Option β) (kx : Nat → S → Option β) (hd : Nat → Nat → Option (Nat × Nat)) (ok : S → Nat → Nat → Bool) (ln : Nat → Int) (rI : S → Nat → Int → Int) (ab : S → SG) (cn : S → Nat × Nat) (b : β) (cc : ByteArray) (own fr lo : Nat) (rt : Option FieldType) (G : Nat → AL → AS → SG → Nat → Nat → Prop) (X : Nat → Nat → AL → AS → SG → Nat → Nat → Prop) : Prop :=
  (∀ v s0, kr v s0 = some b → retOk v rt → ∀ pc lc, decode cc pc = .ok (retI v, 1) → G pc lc v.toList (ab s0) (cn s0).1 (cn s0).2) ∧
  (∀ x s0, kx x s0 = some b → ∀ pc lc st, X x pc lc st (ab s0) (cn s0).1 (cn s0).2) ∧
  (∀ x s0, kx x s0 = some b → x < 4 → own = 11 → 6 ≤ fr → 89 ≤ lo → ∀ pc lc st, sumc st ≤ 8 → decode cc pc = .ok (.new (thI x).1, 3) → decode cc (pc + 3) = .ok (.dup, 1) → decode cc (pc + 4) = .ok (.invokespecial (thI x).2, 3) → decode cc (pc + 7) = .ok (.athrow, 1) → G pc lc st (ab s0) (cn s0).1 (cn s0).2) ∧
  (∀ pc x q, hd pc x = some q → ∀ lc st σ cells slots, G q.1 (delL q.2 lc) [] σ cells slots → X x pc lc st σ cells slots) ∧
  (∀ s0 k, ok s0 k 9 = true → (∀ pc lc st i, decode cc pc = .ok (.iaload, 1) → 0 ≤ i ∧ i < ln k → G (pc + 1) lc (aI (rI s0 k i) :: st) (ab s0) (cn s0).1 (cn s0).2 → G pc lc (aI i :: aR k :: st) (ab s0) (cn s0).1 (cn s0).2) ∧ (∀ pc lc st, decode cc pc = .ok (.arraylength, 1) → G (pc + 1) lc (aI (ln k) :: st) (ab s0) (cn s0).1 (cn s0).2 → G pc lc (aR k :: st) (ab s0) (cn s0).1 (cn s0).2))
theorem tree_rng {c : Bool} {x y : Int} (hx : 0 ≤ x ∧ x ≤ 100000) (hy : 0 ≤ y ∧ y ≤ 100000) : 0 ≤ (bif c then x else y) ∧ (bif c then x else y) ≤ 100000 := by
  cases c
  · exact hy
  · exact hx
theorem lnK_rng (k : Nat) : 0 ≤ lnK k ∧ lnK k ≤ 100000 := by
  unfold lnK
  repeat' (first | exact ⟨by decide, by decide⟩ | apply tree_rng)
theorem call_ex (hcl : CLK cl ab cn rc rs) {b : β} {len a b2 b3 pc : Nat} {ins : Instr} {lc : AL} {st : AS} {s0 : S} {k : Nat → AL → AS → S → Option β} (h : stp.call hd kx cl (len, ins, a, b2, b3) pc lc st s0 k = some b) :
    ∃ (as rest : AS) (o : AO) (s1 : S), st = as.reverse ++ rest ∧ as.length = b2 ∧ sumc rest ≤ 8 ∧ mK a ≠ 4 ∧ MCT a [] as (ab s0) o (ab s1) ∧ cn s1 = ((cn s0).1 + mC a, (cn s0).2 + mS a) ∧ ((cn s0).1 + mC a ≤ rc ∧ (cn s0).2 + mS a ≤ rs) ∧ (mK a = 2 ∨ mK a = 3 → o = .inl none) ∧ (∀ v, o = .inl v → k (pc + 3) lc (v.toList ++ rest) s1 = some b) ∧ (∀ x, o = .inr x → (∃ q, hd pc x = some q ∧ k q.1 (delL q.2 lc) [] s1 = some b) ∨ kx x s1 = some b) := by
  unfold stp.call at h
  dsimp only at h
  obtain ⟨h1, h2⟩ := cond_some h
  simp only [Bool.and_eq_true, Nat.beq_eq] at h1
  obtain ⟨o, s1, g1, g2, g3, g4, g5, g6, g7⟩ := hcl _ _ _ _ _ h2
  refine ⟨(st.take b2).reverse, st.drop b2, o, s1, ?_, ?_, Nat.le_of_ble_eq_true h1.1, g2, g3, g4, ⟨g5, g6⟩, g7, ?_, ?_⟩
  · rw [List.reverse_reverse, List.take_append_drop]
  · rw [List.length_reverse]; exact h1.2
  · intro v hv
    subst hv
    cases v with
    | none => exact g1
    | some w => exact g1
  · intro x hx
    subst hx
    dsimp only at g1
    split at g1
    · exact Or.inl ⟨_, by assumption, g1⟩
    · exact Or.inr g1
set_option maxHeartbeats 4000000 in
theorem stp_sound (hDK : DOK rI rJ rD rR wI wJ wD wR wC ok ln nO nA nM ab cn rc rs) (hC : CX p l R s m args meth c A cc own nL ini fr lo D cy) (hcap : rc ≤ R.cells ∧ rs ≤ R.slots) (hcl : CLK cl ab cn rc rs) {b : β} (hE : ENDS9 kr kx hd ok ln rI ab cn b cc own fr lo rt (GW p l e R s m args below meth c A nL D cy Q ad0 K0) (XW p l e R s m args below meth c A nL D cy Q ad0 K0))
    {r : ARow} {pc : Nat} {lc : AL} {st : AS} {s0 : S} {k : Nat → AL → AS → S → Option β} (hdec : decode cc pc = .ok (r.2.1, r.1)) (hlen : lenI r.2.1 ≠ 0 → r.1 = lenI r.2.1) (haux : auxB cc own nL ini fr lo rt pc r = true)
    (hb : stp rI rJ rD rR wI wJ wD wR wC ok ln nO nA nM hd kr kx cl r pc lc st s0 k = some b) (hk : ∀ pc lc st s1, k pc lc st s1 = some b → GW p l e R s m args below meth c A nL D cy Q ad0 K0 pc lc st (ab s1) (cn s1).1 (cn s1).2) : GW p l e R s m args below meth c A nL D cy Q ad0 K0 pc lc st (ab s0) (cn s0).1 (cn s0).2 := by
  obtain ⟨hok, hwI, hwJ, hwD, hwR, hwC, hnO, hnA, hnM⟩ := hDK
  obtain ⟨hret, hxo, hth, hhd, hscr⟩ := hE
  have hxw : ∀ {pc x : Nat} {lc : AL} {rest : AS} {s1 : S}, ((∃ q, hd pc x = some q ∧ k q.1 (delL q.2 lc) [] s1 = some b) ∨ kx x s1 = some b) → XW p l e R s m args below meth c A nL D cy Q ad0 K0 x pc lc rest (ab s1) (cn s1).1 (cn s1).2 := by
    intro pc x lc rest s1 h
    rcases h with ⟨q, h1, h2⟩ | h
    · exact hhd pc x q h1 _ _ _ _ _ (hk _ _ _ _ h2)
    · exact hxo x s1 h _ _ _
  obtain ⟨len, ins, a, b2, b3⟩ := r
  dsimp only at hdec hlen
  unfold auxB at haux
  unfold stp at hb
  cases ins <;> dsimp only at hb haux hdec hlen
  case iload_n i =>
    split at hb
    · rename_i hg
      exact g_iload_n hC (dcl (n := 1) hdec hlen rfl (by decide)) hg (hk _ _ _ _ hb)
    · cases hb
  case iload i =>
    split at hb
    · rename_i hg
      exact g_iload hC (dcl (n := 2) hdec hlen rfl (by decide)) hg (hk _ _ _ _ hb)
    · cases hb
  case lload_n i =>
    split at hb
    · rename_i hg
      exact g_lload_n hC (dcl (n := 1) hdec hlen rfl (by decide)) hg (hk _ _ _ _ hb)
    · cases hb
  case lload i =>
    split at hb
    · rename_i hg
      exact g_lload hC (dcl (n := 2) hdec hlen rfl (by decide)) hg (hk _ _ _ _ hb)
    · cases hb
  case aload_n i =>
    split at hb
    · rename_i hg
      exact g_aload_n hC (dcl (n := 1) hdec hlen rfl (by decide)) hg (hk _ _ _ _ hb)
    · cases hb
  case aload i =>
    split at hb
    · rename_i hg
      exact g_aload hC (dcl (n := 2) hdec hlen rfl (by decide)) hg (hk _ _ _ _ hb)
    · cases hb
  case fload i =>
    split at hb
    · rename_i hg
      exact g_fload hC (dcl (n := 2) hdec hlen rfl (by decide)) hg (hk _ _ _ _ hb)
    · cases hb
  case dload i =>
    split at hb
    · rename_i hg
      exact g_dload hC (dcl (n := 2) hdec hlen rfl (by decide)) hg (hk _ _ _ _ hb)
    · cases hb
  case istore_n i =>
    split at hb
    · exact g_istore_n hC (dcl (n := 1) hdec hlen rfl (by decide)) (Nat.le_of_ble_eq_true haux) (hk _ _ _ _ hb)
    · cases hb
  case istore i =>
    split at hb
    · exact g_istore hC (dcl (n := 2) hdec hlen rfl (by decide)) (Nat.le_of_ble_eq_true haux) (hk _ _ _ _ hb)
    · cases hb
  case lstore_n i =>
    split at hb
    · exact g_lstore_n hC (dcl (n := 1) hdec hlen rfl (by decide)) (Nat.le_of_ble_eq_true haux) (hk _ _ _ _ hb)
    · cases hb
  case lstore i =>
    split at hb
    · exact g_lstore hC (dcl (n := 2) hdec hlen rfl (by decide)) (Nat.le_of_ble_eq_true haux) (hk _ _ _ _ hb)
    · cases hb
  case astore_n i =>
    split at hb
    · exact g_astore_n hC (dcl (n := 1) hdec hlen rfl (by decide)) (Nat.le_of_ble_eq_true haux) (hk _ _ _ _ hb)
    · cases hb
  case astore i =>
    split at hb
    · exact g_astore hC (dcl (n := 2) hdec hlen rfl (by decide)) (Nat.le_of_ble_eq_true haux) (hk _ _ _ _ hb)
    · cases hb
  case fstore i =>
    split at hb
    · exact g_fstore hC (dcl (n := 2) hdec hlen rfl (by decide)) (Nat.le_of_ble_eq_true haux) (hk _ _ _ _ hb)
    · cases hb
  case dstore i =>
    split at hb
    · exact g_dstore hC (dcl (n := 2) hdec hlen rfl (by decide)) (Nat.le_of_ble_eq_true haux) (hk _ _ _ _ hb)
    · cases hb
  case iconst i =>
    exact g_iconst hC (dcl (n := 1) hdec hlen rfl (by decide)) (of_decide_eq_true haux) (hk _ _ _ _ hb)
  case bipush i =>
    exact g_bipush hC (dcl (n := 2) hdec hlen rfl (by decide)) (of_decide_eq_true haux) (hk _ _ _ _ hb)
  case sipush i =>
    exact g_sipush hC (dcl (n := 3) hdec hlen rfl (by decide)) (of_decide_eq_true haux) (hk _ _ _ _ hb)
  case ldc i =>
    obtain ⟨x1, x2⟩ := Bool.and_eq_true_iff.mp haux
    exact g_ldc hC (dcl (n := 2) hdec hlen rfl (by decide)) (cstF (w := fun o i v => Cond.constant o i (Int32.ofNat v)) CTok x1) (Nat.le_of_ble_eq_true x2) (hk _ _ _ _ hb)
  case ldc_w i =>
    obtain ⟨x1, x2⟩ := Bool.and_eq_true_iff.mp haux
    exact g_ldcw hC (dcl (n := 3) hdec hlen rfl (by decide)) (cstF (w := fun o i v => Cond.constant o i (Int32.ofNat v)) CTok x1) (Nat.le_of_ble_eq_true x2) (hk _ _ _ _ hb)
  case ldc2_w i =>
    obtain ⟨x1, x2⟩ := Bool.and_eq_true_iff.mp haux
    exact g_ldc2 hC (dcl (n := 3) hdec hlen rfl (by decide)) (cstF (w := fun o i v => Cond.constantLong o i (Int64.ofNat v)) CTLok x1) (Nat.le_of_ble_eq_true x2) (hk _ _ _ _ hb)
  case lconst i =>
    exact g_lconst hC (dcl (n := 1) hdec hlen rfl (by decide)) (hk _ _ _ _ hb)
  case fconst i =>
    have e : i = 0 := Fin.ext (Nat.eq_of_beq_eq_true haux)
    subst e
    exact g_fconst0 hC (dcl (n := 1) hdec hlen rfl (by decide)) (hk _ _ _ _ hb)
  case dconst i =>
    have e : i = 0 := Fin.ext (Nat.eq_of_beq_eq_true haux)
    subst e
    exact g_dconst0 hC (dcl (n := 1) hdec hlen rfl (by decide)) (hk _ _ _ _ hb)
  case iadd =>
    split at hb
    · obtain ⟨h1, h2⟩ := gd_some hb
      exact g_iadd hC (dcl (n := 1) hdec hlen rfl (by decide)) h1 (hk _ _ _ _ h2)
    · cases hb
  case isub =>
    split at hb
    · obtain ⟨h1, h2⟩ := gd_some hb
      exact g_isub hC (dcl (n := 1) hdec hlen rfl (by decide)) h1 (hk _ _ _ _ h2)
    · cases hb
  case imul =>
    split at hb
    · obtain ⟨h1, h2⟩ := gd_some hb
      exact g_imul hC (dcl (n := 1) hdec hlen rfl (by decide)) h1 (hk _ _ _ _ h2)
    · cases hb
  case idiv =>
    split at hb
    · obtain ⟨h1, h2⟩ := gd_some hb
      exact g_idiv hC (dcl (n := 1) hdec hlen rfl (by decide)) h1 (hk _ _ _ _ h2)
    · cases hb
  case irem =>
    split at hb
    · obtain ⟨h1, h2⟩ := gd_some hb
      exact g_irem hC (dcl (n := 1) hdec hlen rfl (by decide)) h1 (hk _ _ _ _ h2)
    · cases hb
  case ladd =>
    split at hb
    · obtain ⟨h1, h2⟩ := gd_some hb
      exact g_ladd hC (dcl (n := 1) hdec hlen rfl (by decide)) h1 (hk _ _ _ _ h2)
    · cases hb
  case lmul =>
    split at hb
    · obtain ⟨h1, h2⟩ := gd_some hb
      exact g_lmul hC (dcl (n := 1) hdec hlen rfl (by decide)) h1 (hk _ _ _ _ h2)
    · cases hb
  case ldiv =>
    split at hb
    · obtain ⟨h1, h2⟩ := gd_some hb
      exact g_ldiv hC (dcl (n := 1) hdec hlen rfl (by decide)) h1 (hk _ _ _ _ h2)
    · cases hb
  case fdiv =>
    split at hb
    · obtain ⟨h1, h2⟩ := gd_some hb
      exact g_fdiv hC (dcl (n := 1) hdec hlen rfl (by decide)) h1 (hk _ _ _ _ h2)
    · cases hb
  case ddiv =>
    split at hb
    · obtain ⟨h1, h2⟩ := gd_some hb
      exact g_ddiv hC (dcl (n := 1) hdec hlen rfl (by decide)) h1 (hk _ _ _ _ h2)
    · cases hb
  case f2d =>
    split at hb
    · obtain ⟨h1, h2⟩ := gd_some hb
      exact g_f2d hC (dcl (n := 1) hdec hlen rfl (by decide)) h1 (hk _ _ _ _ h2)
    · cases hb
  case iand =>
    split at hb
    · exact g_iand hC (dcl (n := 1) hdec hlen rfl (by decide)) (hk _ _ _ _ hb)
    · cases hb
  case ior =>
    split at hb
    · exact g_ior hC (dcl (n := 1) hdec hlen rfl (by decide)) (hk _ _ _ _ hb)
    · cases hb
  case ixor =>
    split at hb
    · exact g_ixor hC (dcl (n := 1) hdec hlen rfl (by decide)) (hk _ _ _ _ hb)
    · cases hb
  case ishl =>
    split at hb
    · exact g_ishl hC (dcl (n := 1) hdec hlen rfl (by decide)) (hk _ _ _ _ hb)
    · cases hb
  case ishr =>
    split at hb
    · exact g_ishr hC (dcl (n := 1) hdec hlen rfl (by decide)) (hk _ _ _ _ hb)
    · cases hb
  case iushr =>
    split at hb
    · exact g_iushr hC (dcl (n := 1) hdec hlen rfl (by decide)) (hk _ _ _ _ hb)
    · cases hb
  case lcmp =>
    split at hb
    · exact g_lcmp hC (dcl (n := 1) hdec hlen rfl (by decide)) (hk _ _ _ _ hb)
    · cases hb
  case i2l =>
    split at hb
    · exact g_i2l hC (dcl (n := 1) hdec hlen rfl (by decide)) (hk _ _ _ _ hb)
    · cases hb
  case i2f =>
    split at hb
    · exact g_i2f hC (dcl (n := 1) hdec hlen rfl (by decide)) (hk _ _ _ _ hb)
    · cases hb
  case i2d =>
    split at hb
    · exact g_i2d hC (dcl (n := 1) hdec hlen rfl (by decide)) (hk _ _ _ _ hb)
    · cases hb
  case l2d =>
    split at hb
    · exact g_l2d hC (dcl (n := 1) hdec hlen rfl (by decide)) (hk _ _ _ _ hb)
    · cases hb
  case fcmp o =>
    split at hb
    · exact g_fcmp hC (dcl (n := 1) hdec hlen rfl (by decide)) (hk _ _ _ _ hb)
    · cases hb
  case dcmp o =>
    split at hb
    · exact g_dcmp hC (dcl (n := 1) hdec hlen rfl (by decide)) (hk _ _ _ _ hb)
    · cases hb
  case dup =>
    split at hb
    · obtain ⟨h1, h2⟩ := cond_some hb
      exact g_dup hC (dcl (n := 1) hdec hlen rfl (by decide)) (Nat.eq_of_beq_eq_true h1) (hk _ _ _ _ h2)
    · cases hb
  case pop =>
    split at hb
    · obtain ⟨h1, h2⟩ := cond_some hb
      exact g_pop hC (dcl (n := 1) hdec hlen rfl (by decide)) (Nat.eq_of_beq_eq_true h1) (hk _ _ _ _ h2)
    · cases hb
  case dup2 =>
    split at hb
    · obtain ⟨h1, h2⟩ := cond_some hb
      obtain ⟨x1, x2⟩ := Bool.and_eq_true_iff.mp h1
      exact g_dup2 hC (dcl (n := 1) hdec hlen rfl (by decide)) (Nat.eq_of_beq_eq_true x1) (Nat.eq_of_beq_eq_true x2) (hk _ _ _ _ h2)
    · cases hb
  case iinc i n =>
    split at hb
    · rename_i hg
      obtain ⟨h1, h2⟩ := gd_some hb
      exact g_iinc hC (dcl (n := 3) hdec hlen rfl (by decide)) (Nat.le_of_ble_eq_true haux) hg h1 (hk _ _ _ _ h2)
    · cases hb
  case goto o =>
    exact g_goto hC (dcl (n := 3) hdec hlen rfl (by decide)) (of_decide_eq_true haux) (hk _ _ _ _ hb)
  case ifCond cd o =>
    split at hb
    · exact g_ifCond hC (dcl (n := 3) hdec hlen rfl (by decide)) (of_decide_eq_true haux) hb (fun h => hk _ _ _ _ h) (fun h => hk _ _ _ _ h)
    · cases hb
  case if_icmp cd o =>
    split at hb
    · exact g_if_icmp hC (dcl (n := 3) hdec hlen rfl (by decide)) (of_decide_eq_true haux) hb (fun h => hk _ _ _ _ h) (fun h => hk _ _ _ _ h)
    · cases hb
  case tableswitch df lw hi os =>
    simp only [Bool.and_eq_true, decide_eq_true_eq, List.all_eq_true] at haux
    split at hb
    · exact g_tsw hC hdec haux.1.1 ⟨haux.1.2, haux.2⟩ hb (fun h => hk _ _ _ _ h) (fun t h => hk _ _ _ _ h)
    · cases hb
  case getfield i =>
    simp only [Bool.and_eq_true] at haux
    obtain ⟨⟨⟨x1, x2⟩, x3⟩, x4⟩ := haux
    have hw := fldF x1
    have hci : a < 13 := Nat.le_of_ble_eq_true x2
    have hf : b2 < nFK a := Nat.le_of_ble_eq_true x3
    have hty : ftK a b2 = b3 := Nat.eq_of_beq_eq_true x4
    have h4 := (tyN_ft a hci b2 hf).2.2.2.2
    have d := dcl (n := 3) hdec hlen rfl (by decide)
    split at hb
    · rename_i ar t
      obtain ⟨h1, h2⟩ := cond_some hb
      obtain ⟨k1, k2, k3, k4, k5, k6, k7, k8⟩ := hok _ _ _ (by omega) h1
      split at h2
      · refine g_getfield (v := aI (rI s0 ar (b2 : Int))) hC d hw hci hf ⟨k1, k2⟩ k3 (fun ad => ?_) (fun hw9 => ?_) (hk _ _ _ _ h2)
        · unfold fval
          rw [hty, if_neg (by decide), if_neg (by decide), k5]; rfl
        · rw [k5]; exact (hw9.2 _ _).1
      · refine g_getfield (v := aJ (rJ s0 ar (b2 : Int))) hC d hw hci hf ⟨k1, k2⟩ k3 (fun ad => ?_) (fun hw9 => ?_) (hk _ _ _ _ h2)
        · unfold fval
          rw [hty, if_pos rfl, k6]; rfl
        · rw [k6]; exact (hw9.2 _ _).2.1
      · cases hz : Nat.beq (rR s0 ar (b2 : Int)) 0 with
        | true => rw [hz] at h2; cases h2
        | false =>
          rw [hz] at h2
          refine g_getfield (v := aR (rR s0 ar (b2 : Int))) hC d hw hci hf ⟨k1, k2⟩ k3 (fun ad => ?_) (fun hw9 => ?_) (hk _ _ _ _ h2)
          · unfold fval
            rw [hty, if_neg (by decide), if_pos rfl, ← k8]
            unfold rfO
            rw [if_neg (Nat.ne_of_beq_eq_false hz)]; rfl
          · rw [k8]; exact (hw9.2 _ _).2.2
      · rename_i n1 n2 n3
        refine g_getfield (v := aI (rI s0 ar (b2 : Int))) hC d hw hci hf ⟨k1, k2⟩ k3 (fun ad => ?_) (fun hw9 => ?_) (hk _ _ _ _ h2)
        · unfold fval
          rw [hty, if_neg (by omega), if_neg (by omega), k5]; rfl
        · rw [k5]; exact (hw9.2 _ _).1
    · cases hb
  case putfield i =>
    simp only [Bool.and_eq_true] at haux
    obtain ⟨⟨⟨⟨x1, x2⟩, x3⟩, x4⟩, x5⟩ := haux
    have hw := fldF x1
    have hci : a < 13 := Nat.le_of_ble_eq_true x2
    have hf : b2 < nFK a := Nat.le_of_ble_eq_true x3
    have hty : ftK a b2 = b3 := Nat.eq_of_beq_eq_true x4
    obtain ⟨t0, t1, t3, t2, -⟩ := tyN_ft a hci b2 hf
    have d := dcl (n := 3) hdec hlen rfl (by decide)
    have hfin : (fN a b2).2.2.2 = false ∨ (ini = true ∧ own = a) := by
      simp only [Bool.or_eq_true, Bool.and_eq_true, Bool.not_eq_true', Nat.beq_eq] at x5
      exact x5
    have upf : ∀ (q : Nat → Int → Int) (ar : Nat) (x : Int) (j : Nat), up2 q ar (b2 : Int) x ar (j : Int) = if j = b2 then x else q ar (j : Int) := fun q ar x j => by
      rw [up2_at]
      by_cases h : j = b2
      · rw [if_pos (by omega), if_pos h]
      · rw [if_neg (by omega), if_neg h]
    have upr : ∀ (q : Nat → Int → Nat) (ar : Nat) (x : Nat) (j : Nat), up2 q ar (b2 : Int) x ar (j : Int) = if j = b2 then x else q ar (j : Int) := fun q ar x j => by
      rw [up2_at]
      by_cases h : j = b2
      · rw [if_pos (by omega), if_pos h]
      · rw [if_neg (by omega), if_neg h]
    split at hb
    · rename_i x ar t
      obtain ⟨h1, h2⟩ := cond_some hb
      obtain ⟨s1, g1, g2⟩ := bnd_of h2
      obtain ⟨k1, k2, k3, -⟩ := hok _ _ _ (by omega) h1
      obtain ⟨e1, e2⟩ := hwI _ _ _ _ _ g1
      have g9 := hk _ _ _ _ g2
      rw [e1, e2] at g9
      intro ad H locs ls hW hP hD hS hl hwl hws hr
      have hxr : R32 x := wfS_hd hws
      refine g_putfield (v := aI x) (σ' := uI (ab s0) ar (b2 : Int) x) hC d hw hci hf ⟨k1, k2⟩ k3 hfin (fun ad => ?_) (fun ad => ?_) rfl (fun h => WF_uI h hxr) (fun ad j => ?_) (fun ad j hj => ent_uI hj) g9 ad H locs ls hW hP hD hS hl hwl hws hr
      · rw [t0 hty]; rfl
      · rw [t0 hty]; rfl
      · unfold fval
        show (if ftK a j = 1 then _ else if ftK a j = 2 then _ else Value.int (Int32.ofInt (up2 (ab s0).2.2.1 ar (b2 : Int) x ar (j : Int)))) = _
        rw [upf]
        by_cases h : j = b2
        · subst h
          rw [hty, if_neg (by decide), if_neg (by decide), if_pos rfl, if_pos rfl]; rfl
        · rw [if_neg h, if_neg h]; rfl
    · rename_i x ar t
      obtain ⟨h1, h2⟩ := cond_some hb
      obtain ⟨s1, g1, g2⟩ := bnd_of h2
      obtain ⟨k1, k2, k3, -⟩ := hok _ _ _ (by omega) h1
      obtain ⟨e1, e2⟩ := hwJ _ _ _ _ _ g1
      have g9 := hk _ _ _ _ g2
      rw [e1, e2] at g9
      intro ad H locs ls hW hP hD hS hl hwl hws hr
      have hxr : R64 x := wfS_hd hws
      refine g_putfield (v := aJ x) (σ' := uJ (ab s0) ar (b2 : Int) x) hC d hw hci hf ⟨k1, k2⟩ k3 hfin (fun ad => ?_) (fun ad => ?_) rfl (fun h => WF_uJ h hxr) (fun ad j => ?_) (fun ad j hj => ent_uJ hj) g9 ad H locs ls hW hP hD hS hl hwl hws hr
      · rw [t1 hty]; rfl
      · rw [t1 hty]; rfl
      · unfold fval
        show (if ftK a j = 1 then Value.long (Int64.ofInt (up2 (ab s0).2.2.2.1 ar (b2 : Int) x ar (j : Int))) else if ftK a j = 2 then _ else _) = _
        rw [upf]
        by_cases h : j = b2
        · subst h
          rw [hty, if_pos rfl, if_pos rfl, if_pos rfl]; rfl
        · rw [if_neg h, if_neg h]; rfl
    · rename_i x ar t
      obtain ⟨h1, h2⟩ := cond_some hb
      obtain ⟨h1, hx0⟩ := Bool.and_eq_true_iff.mp h1
      have hx0 : x ≠ 0 := fun q => by rw [q] at hx0; cases hx0
      obtain ⟨s1, g1, g2⟩ := bnd_of h2
      obtain ⟨k1, k2, k3, -⟩ := hok _ _ _ (by omega) h1
      obtain ⟨e1, e2⟩ := hwR _ _ _ _ _ g1
      have g9 := hk _ _ _ _ g2
      rw [e1, e2] at g9
      intro ad H locs ls hW hP hD hS hl hwl hws hr
      have hxr : x ≤ (ab s0).1 := wfS_hd hws
      have hty9 := t2 hty
      refine g_putfield (v := aR x) (σ' := uR (ab s0) ar (b2 : Int) x) hC d hw hci hf ⟨k1, k2⟩ k3 hfin (fun ad => ?_) (fun ad => ?_) rfl (fun h => WF_uR h hxr) (fun ad j => ?_) (fun ad j hj => ent_uR hj) g9 ad H locs ls hW hP hD hS hl hwl hws hr
      · cases hq : tyN a b2 <;> rw [hq] at hty9 <;> first | rfl | (exact absurd hty9 (by decide))
      · cases hq : tyN a b2 <;> rw [hq] at hty9 <;> first | rfl | (exact absurd hty9 (by decide))
      · unfold fval
        show (if ftK a j = 1 then _ else if ftK a j = 2 then va_rf (rfO ad (up2 (ab s0).2.1 ar (b2 : Int) x ar (j : Int))) else _) = _
        rw [upr]
        by_cases h : j = b2
        · subst h
          rw [hty, if_neg (by decide), if_pos rfl, if_pos rfl, if_pos rfl]
          unfold rfO
          rw [if_neg hx0]; rfl
        · rw [if_neg h, if_neg h]; rfl
    · rename_i x ar t
      obtain ⟨h1, h2⟩ := cond_some hb
      obtain ⟨h01, h2⟩ := gd_some h2
      obtain ⟨s1, g1, g2⟩ := bnd_of h2
      obtain ⟨k1, k2, k3, -⟩ := hok _ _ _ (by omega) h1
      obtain ⟨e1, e2⟩ := hwI _ _ _ _ _ g1
      have g9 := hk _ _ _ _ g2
      rw [e1, e2] at g9
      intro ad H locs ls hW hP hD hS hl hwl hws hr
      have hxr : R32 x := wfS_hd hws
      refine g_putfield (v := aI x) (σ' := uI (ab s0) ar (b2 : Int) x) hC d hw hci hf ⟨k1, k2⟩ k3 hfin (fun ad => ?_) (fun ad => ?_) rfl (fun h => WF_uI h hxr) (fun ad j => ?_) (fun ad j hj => ent_uI hj) g9 ad H locs ls hW hP hD hS hl hwl hws hr
      · rw [t3 hty]; exact nar_bool h01
      · rw [t3 hty]; exact fit_bool h01
      · unfold fval
        show (if ftK a j = 1 then _ else if ftK a j = 2 then _ else Value.int (Int32.ofInt (up2 (ab s0).2.2.1 ar (b2 : Int) x ar (j : Int)))) = _
        rw [upf]
        by_cases h : j = b2
        · subst h
          rw [hty, if_neg (by decide), if_neg (by decide), if_pos rfl, if_pos rfl]; rfl
        · rw [if_neg h, if_neg h]; rfl
    · cases hb
  case baload =>
    split at hb
    · obtain ⟨h1, h2⟩ := cond_some hb
      obtain ⟨h3, h4⟩ := gd_some h2
      obtain ⟨k1, k2, k3, k4, k5, k6, k7, k8⟩ := hok _ _ _ (by decide) h1
      have g9 := hk _ _ _ _ h4
      rw [k5] at g9
      rw [k4] at h3
      exact g_baload hC (dcl (n := 1) hdec hlen rfl (by decide)) ⟨k1, k2⟩ k3 h3 g9
    · cases hb
  case laload =>
    split at hb
    · obtain ⟨h1, h2⟩ := cond_some hb
      obtain ⟨h3, h4⟩ := gd_some h2
      obtain ⟨k1, k2, k3, k4, k5, k6, k7, k8⟩ := hok _ _ _ (by decide) h1
      have g9 := hk _ _ _ _ h4
      rw [k6] at g9
      rw [k4] at h3
      exact g_laload hC (dcl (n := 1) hdec hlen rfl (by decide)) ⟨k1, k2⟩ k3 h3 g9
    · cases hb
  case daload =>
    split at hb
    · obtain ⟨h1, h2⟩ := cond_some hb
      obtain ⟨h3, h4⟩ := gd_some h2
      obtain ⟨k1, k2, k3, k4, k5, k6, k7, k8⟩ := hok _ _ _ (by decide) h1
      have g9 := hk _ _ _ _ h4
      rw [k7] at g9
      rw [k4] at h3
      exact g_daload hC (dcl (n := 1) hdec hlen rfl (by decide)) ⟨k1, k2⟩ k3 h3 g9
    · cases hb
  case iaload =>
    split at hb
    · rename_i i ar t
      obtain ⟨h1, h2⟩ := cond_some hb
      obtain ⟨h3, h4⟩ := gd_some h2
      have g9 := hk _ _ _ _ h4
      rcases Bool.or_eq_true_iff.mp h1 with h1 | h1
      · obtain ⟨k1, k2, k3, k4, k5, k6, k7, k8⟩ := hok _ _ _ (by decide) h1
        rw [k5] at g9
        rw [k4] at h3
        exact g_iaload hC (dcl (n := 1) hdec hlen rfl (by decide)) ⟨k1, k2⟩ k3 h3 g9
      · exact (hscr _ _ h1).1 _ _ _ _ (dcl (n := 1) hdec hlen rfl (by decide)) h3 g9
    · cases hb
  case arraylength =>
    split at hb
    · obtain ⟨h1, h2⟩ := cond_some hb
      have g9 := hk _ _ _ _ h2
      rcases Bool.or_eq_true_iff.mp h1 with h1 | h1
      · obtain ⟨k1, k2, k3, k4, k5, k6, k7, k8⟩ := hok _ _ _ (by decide) h1
        rw [k4] at g9
        exact g_alen hC (dcl (n := 1) hdec hlen rfl (by decide)) ⟨k1, k2⟩ k3 (lnK_rng _) g9
      · exact (hscr _ _ h1).2 _ _ _ (dcl (n := 1) hdec hlen rfl (by decide)) g9
    · cases hb
  case aaload =>
    split at hb
    · rename_i i ar t
      obtain ⟨h1, h2⟩ := cond_some hb
      obtain ⟨h3, h4⟩ := gd_some h2
      obtain ⟨k1, k2, k3, k4, k5, k6, k7, k8⟩ := hok _ _ _ (by decide) h1
      cases hz : Nat.beq (rR s0 ar i) 0 with
      | true => rw [hz] at h4; cases h4
      | false =>
        rw [hz] at h4
        have g9 := hk _ _ _ _ h4
        rw [k8] at g9
        rw [k4] at h3
        exact g_aaload hC (dcl (n := 1) hdec hlen rfl (by decide)) ⟨k1, k2⟩ k3 h3 (by rw [← k8]; exact Nat.ne_of_beq_eq_false hz) g9
    · cases hb
  case iastore =>
    split at hb
    · obtain ⟨h1, h2⟩ := cond_some hb
      obtain ⟨h3, h4⟩ := gd_some h2
      obtain ⟨s1, g1, g2⟩ := bnd_of h4
      obtain ⟨k1, k2, k3, k4, -⟩ := hok _ _ _ (by decide) h1
      obtain ⟨e1, e2⟩ := hwI _ _ _ _ _ g1
      have g9 := hk _ _ _ _ g2
      rw [e1, e2] at g9
      rw [k4] at h3
      exact g_iastore hC (dcl (n := 1) hdec hlen rfl (by decide)) ⟨k1, k2⟩ k3 h3 g9
    · cases hb
  case lastore =>
    split at hb
    · obtain ⟨h1, h2⟩ := cond_some hb
      obtain ⟨h3, h4⟩ := gd_some h2
      obtain ⟨s1, g1, g2⟩ := bnd_of h4
      obtain ⟨k1, k2, k3, k4, -⟩ := hok _ _ _ (by decide) h1
      obtain ⟨e1, e2⟩ := hwJ _ _ _ _ _ g1
      have g9 := hk _ _ _ _ g2
      rw [e1, e2] at g9
      rw [k4] at h3
      exact g_lastore hC (dcl (n := 1) hdec hlen rfl (by decide)) ⟨k1, k2⟩ k3 h3 g9
    · cases hb
  case dastore =>
    split at hb
    · obtain ⟨h1, h2⟩ := cond_some hb
      obtain ⟨h3, h4⟩ := gd_some h2
      obtain ⟨s1, g1, g2⟩ := bnd_of h4
      obtain ⟨k1, k2, k3, k4, -⟩ := hok _ _ _ (by decide) h1
      obtain ⟨e1, e2⟩ := hwD _ _ _ _ _ g1
      have g9 := hk _ _ _ _ g2
      rw [e1, e2] at g9
      rw [k4] at h3
      exact g_dastore hC (dcl (n := 1) hdec hlen rfl (by decide)) ⟨k1, k2⟩ k3 h3 g9
    · cases hb
  case bastore =>
    split at hb
    · obtain ⟨h1, h2⟩ := cond_some hb
      obtain ⟨h3, h4⟩ := gd_some h2
      obtain ⟨h5, h4⟩ := gd_some h4
      obtain ⟨s1, g1, g2⟩ := bnd_of h4
      obtain ⟨k1, k2, k3, k4, -⟩ := hok _ _ _ (by decide) h1
      obtain ⟨e1, e2⟩ := hwI _ _ _ _ _ g1
      have g9 := hk _ _ _ _ g2
      rw [e1, e2] at g9
      rw [k4] at h3
      exact g_bastore hC (dcl (n := 1) hdec hlen rfl (by decide)) ⟨k1, k2⟩ k3 h3 h5 g9
    · cases hb
  case invokevirtual i =>
    simp only [Bool.and_eq_true, Nat.beq_eq] at haux
    obtain ⟨⟨⟨⟨x1, x2⟩, x3⟩, x4⟩, x5⟩ := haux
    have d := dcl (n := 3) hdec hlen rfl (by decide)
    split at hb
    · rename_i x tl hdrop
      obtain ⟨hokx, hb⟩ := cond_some hb
      obtain ⟨as, rest, o, s1, e1, e2, e3, e4, e5, e6, e7, e8, e9, e10⟩ := call_ex hcl hb
      obtain ⟨v, as', rfl⟩ : ∃ v as', as = v :: as' := by
        cases as with
        | nil => simp only [List.length_nil] at e2; omega
        | cons v as' => exact ⟨v, as', rfl⟩
      have el : b2 - 1 = as'.reverse.length := by rw [List.length_reverse]; simp only [List.length_cons] at e2; omega
      have est : st = as'.reverse ++ v :: rest := by rw [e1, List.reverse_cons, List.append_assoc]; rfl
      have hv : v = aR x ∧ rest = tl := by
        rw [est, el, List.drop_left] at hdrop
        exact ⟨(List.cons.inj hdrop).1, (List.cons.inj hdrop).2⟩
      obtain ⟨rfl, rfl⟩ := hv
      obtain ⟨k1, k2, k3, -⟩ := hok _ _ _ (by omega) hokx
      rw [est]
      rw [x5] at k3
      exact g_callV hC x2 d (callB_ok x1) (by simp only [List.length_cons] at e2; omega) ⟨k1, k2⟩ k3 (Nat.le_of_ble_eq_true x3) e3 e5 ⟨Nat.le_trans e7.1 hcap.1, Nat.le_trans e7.2 hcap.2⟩ (fun z hz => by
        have h9 := hxw (pc := pc) (lc := lc) (rest := rest) (e10 z hz)
        rw [e6] at h9; exact h9) (fun w hw => by
        have h9 := hk _ _ _ _ (e9 w hw)
        rw [e6] at h9; exact h9)
    · cases hb
  case invokestatic i =>
    split at hb
    · simp only [Bool.and_eq_true] at haux
      obtain ⟨⟨x1, x2⟩, x3⟩ := haux
      split at hb
      · obtain ⟨h1, h2⟩ := cond_some hb
        exact g_max hC (dcl (n := 3) hdec hlen rfl (by decide)) (lnkF (w := fun o i => Cond.methodLink o i Lib.Math.max.name) LMaxok x1) wMax (Nat.le_of_ble_eq_true x2) (Nat.le_of_ble_eq_true x3) (Nat.le_of_ble_eq_true h1) (hk _ _ _ _ h2)
      · cases hb
    · simp only [Bool.and_eq_true] at haux
      obtain ⟨⟨x1, x2⟩, x3⟩ := haux
      split at hb
      · obtain ⟨h1, h2⟩ := cond_some hb
        exact g_min hC (dcl (n := 3) hdec hlen rfl (by decide)) (lnkF (w := fun o i => Cond.methodLink o i Lib.Math.min.name) LMinok x1) wMin (Nat.le_of_ble_eq_true x2) (Nat.le_of_ble_eq_true x3) (Nat.le_of_ble_eq_true h1) (hk _ _ _ _ h2)
      · cases hb
    · simp only [Bool.and_eq_true] at haux
      obtain ⟨⟨x1, x2⟩, x3⟩ := haux
      split at hb
      · obtain ⟨h1, h2⟩ := cond_some hb
        obtain ⟨h3, h4⟩ := gd_some h2
        obtain ⟨s1, g1, g2⟩ := bnd_of h4
        simp only [Bool.and_eq_true] at h1
        obtain ⟨⟨ha, hb9⟩, hsm⟩ := h1
        obtain ⟨k1, k2, k3, k4, k5, -⟩ := hok _ _ _ (by decide) ha
        obtain ⟨j1, j2, j3, j4, j5, -⟩ := hok _ _ _ (by decide) hb9
        obtain ⟨q1, q2⟩ := hwC _ _ _ _ g1
        have g9 := hk _ _ _ _ g2
        rw [q1, q2] at g9
        simp only [k5, j5] at g9
        rw [k4, j4] at h3
        exact g_copy hC (dcl (n := 3) hdec hlen rfl (by decide)) (lnkF (w := fun o i => Cond.methodLink o i arraycopyName) LCpyok x1) wCpy ⟨k1, k2⟩ k3 ⟨j1, j2⟩ j3 h3 (Nat.le_of_ble_eq_true x2) (Nat.le_of_ble_eq_true x3) (Nat.le_of_ble_eq_true hsm) g9
      · cases hb
    · rename_i n1 n2 n3
      have haux9 : (callB own i a fr lo && (Nat.beq (mK a) 0 || Nat.beq (mK a) 4) && Nat.beq b2 (mN a)) = true := by
        split at haux
        · exact absurd rfl n1
        · exact absurd rfl n2
        · exact absurd rfl n3
        · exact haux
      simp only [Bool.and_eq_true, Bool.or_eq_true, Nat.beq_eq] at haux9
      obtain ⟨⟨x1, x2⟩, x3⟩ := haux9
      obtain ⟨as, rest, o, s1, e1, e2, e3, e4, e5, e6, e7, e8, e9, e10⟩ := call_ex hcl hb
      rw [e1]
      exact g_callS hC (x2.resolve_right e4) (dcl (n := 3) hdec hlen rfl (by decide)) (callB_ok x1) (e2.trans x3) e3 e5 ⟨Nat.le_trans e7.1 hcap.1, Nat.le_trans e7.2 hcap.2⟩ (fun z hz => by
        have h9 := hxw (pc := pc) (lc := lc) (rest := rest) (e10 z hz)
        rw [e6] at h9; exact h9) (fun w hw => by
        have h9 := hk _ _ _ _ (e9 w hw)
        rw [e6] at h9; exact h9)
  case invokespecial i =>
    split at hb
    · simp only [Bool.and_eq_true] at haux
      obtain ⟨⟨x1, x2⟩, x3⟩ := haux
      split at hb
      · obtain ⟨h1, h2⟩ := cond_some hb
        exact g_objInit hC (dcl (n := 3) hdec hlen rfl (by decide)) (lnkF (w := fun o i => Cond.methodLink o i objectInit) LObjok x1) wObj (Nat.le_of_ble_eq_true x2) (Nat.le_of_ble_eq_true x3) (Nat.le_of_ble_eq_true h1) (hk _ _ _ _ h2)
      · cases hb
    · rename_i n1
      have d := dcl (n := 3) hdec hlen rfl (by decide)
      have haux9 : (((Nat.beq (mK a) 2 && callB own i a fr lo) || (Nat.beq (mK a) 3 && Nat.beq own 11 && nestL.any (fun x => Nat.beq x.1 i && Nat.beq x.2 a) && MF.contains a && Nat.ble (mFr a + 1) fr && Nat.ble (8 + (mX a + 11) + mLo a) lo)) && decide (mT a = none) && Nat.beq b2 (mN a + 1)) = true := by
        split at haux
        · exact absurd rfl n1
        · exact haux
      simp only [Bool.and_eq_true, Bool.or_eq_true, Nat.beq_eq, decide_eq_true_eq] at haux9
      obtain ⟨⟨x1, x2⟩, x3⟩ := haux9
      split at hb
      · rename_i x tl hdrop
        obtain ⟨hokx, hb⟩ := cond_some hb
        obtain ⟨as, rest, o, s1, e1, e2, e3, e4, e5, e6, e7, e8, e9, e10⟩ := call_ex hcl hb
        obtain ⟨v, as', rfl⟩ : ∃ v as', as = v :: as' := by
          cases as with
          | nil => simp only [List.length_nil] at e2; omega
          | cons v as' => exact ⟨v, as', rfl⟩
        have el : b2 - 1 = as'.reverse.length := by rw [List.length_reverse]; simp only [List.length_cons] at e2; omega
        have est : st = as'.reverse ++ v :: rest := by rw [e1, List.reverse_cons, List.append_assoc]; rfl
        have hv : v = aR x ∧ rest = tl := by
          rw [est, el, List.drop_left] at hdrop
          exact ⟨(List.cons.inj hdrop).1, (List.cons.inj hdrop).2⟩
        obtain ⟨rfl, rfl⟩ := hv
        have ho := e8 (by rcases x1 with x1 | x1; exact Or.inl x1.1; exact Or.inr x1.1.1.1.1.1)
        subst ho
        rw [est]
        refine g_callI hC ?_ x2 d (by simp only [List.length_cons] at e2; omega) e3 e5 ⟨Nat.le_trans e7.1 hcap.1, Nat.le_trans e7.2 hcap.2⟩ ?_
        · rcases x1 with x1 | ⟨⟨⟨⟨⟨y1, y2⟩, y3⟩, y4⟩, y5⟩, y6⟩
          · exact Or.inl ⟨x1.1, callB_ok x1.2⟩
          · refine Or.inr ⟨y1, y2, ?_, MFok a (by simpa using y4), Nat.le_of_ble_eq_true y5, Nat.le_of_ble_eq_true y6⟩
            obtain ⟨q, hq, hq2⟩ := List.any_eq_true.mp y3
            simp only [Bool.and_eq_true, Nat.beq_eq] at hq2
            rw [← hq2.1, ← hq2.2]
            exact hq
        · have h9 := hk _ _ _ _ (e9 none rfl)
          rw [e6] at h9; exact h9
      · cases hb
  case new i =>
    cases h100 : Nat.ble 100 a with
    | true =>
      rw [h100] at hb
      obtain ⟨h1, h2⟩ := cond_some hb
      simp only [Bool.or_eq_true, Bool.and_eq_true, Nat.beq_eq, decide_eq_true_eq] at haux
      rcases haux with ⟨x1, -⟩ | ⟨⟨⟨⟨⟨⟨⟨⟨x1, x2⟩, x3⟩, x4⟩, x5⟩, x6⟩, x7⟩, x8⟩, x9⟩
      · have := Nat.le_of_ble_eq_true h100
        have : a < 13 := Nat.le_of_ble_eq_true x1
        omega
      · have d := dcl (n := 3) hdec hlen rfl (by decide)
        rw [x4] at d
        exact hth _ _ h2 (Nat.le_of_ble_eq_true x2) x3 (Nat.le_of_ble_eq_true x5) (Nat.le_of_ble_eq_true x6) _ _ _ (Nat.le_of_ble_eq_true h1) d x7 x8 x9
    | false =>
      rw [h100] at hb
      obtain ⟨q, g1, g2⟩ := bnd_of hb
      obtain ⟨qk, qs⟩ := q
      obtain ⟨n1, n2, n3, n4, n5, n6⟩ := hnO _ _ _ _ g1
      simp only [Bool.or_eq_true, Bool.and_eq_true] at haux
      rcases haux with ⟨x1, x2⟩ | ⟨⟨⟨⟨⟨⟨⟨⟨x1, -⟩, -⟩, -⟩, -⟩, -⟩, -⟩, -⟩, -⟩
      · have g9 := hk _ _ _ _ g2
        dsimp only at g9
        rw [n3, n4, n1] at g9
        rw [n1] at n2
        exact g_new hC (dcl (n := 3) hdec hlen rfl (by decide)) (cstF (w := fun o i v => Cond.classLink o i (oN v)) CLok x2) (Nat.le_of_ble_eq_true x1) n2 ⟨Nat.le_trans n5 hcap.1, Nat.le_trans n6 hcap.2⟩ g9
      · rw [h100] at x1; cases x1
  case newarray ty =>
    split at hb
    · rename_i n t
      obtain ⟨q, g1, g2⟩ := bnd_of hb
      obtain ⟨qk, qs⟩ := q
      obtain ⟨n1, n2, n3, n4, n5, n6, n7, n8, n9⟩ := hnA _ _ _ _ _ g1
      have g9 := hk _ _ _ _ g2
      dsimp only at g9
      rw [n6, n7, n1] at g9
      rw [n1] at n2 n3
      cases ty <;> first | (exact absurd haux Bool.false_ne_true) | skip
      case int =>
        have e9 : a = 0 := Nat.eq_of_beq_eq_true haux
        rw [e9] at n2
        exact g_newI hC (dcl (n := 2) hdec hlen rfl (by decide)) n2 n3 ⟨n4, n5⟩ ⟨Nat.le_trans n8 hcap.1, Nat.le_trans n9 hcap.2⟩ g9
      case long =>
        have e9 : a = 1 := Nat.eq_of_beq_eq_true haux
        rw [e9] at n2
        exact g_newJ hC (dcl (n := 2) hdec hlen rfl (by decide)) n2 n3 ⟨n4, n5⟩ ⟨Nat.le_trans n8 hcap.1, Nat.le_trans n9 hcap.2⟩ g9
      case boolean =>
        have e9 : a = 2 := Nat.eq_of_beq_eq_true haux
        rw [e9] at n2
        exact g_newZ hC (dcl (n := 2) hdec hlen rfl (by decide)) n2 n3 ⟨n4, n5⟩ ⟨Nat.le_trans n8 hcap.1, Nat.le_trans n9 hcap.2⟩ g9
      case double =>
        have e9 : a = 4 := Nat.eq_of_beq_eq_true haux
        rw [e9] at n2
        exact g_newD hC (dcl (n := 2) hdec hlen rfl (by decide)) n2 n3 ⟨n4, n5⟩ ⟨Nat.le_trans n8 hcap.1, Nat.le_trans n9 hcap.2⟩ g9
    · cases hb
  case multianewarray i d =>
    obtain ⟨x1, x2⟩ := Bool.and_eq_true_iff.mp haux
    have e9 : d = 2 := Nat.eq_of_beq_eq_true x1
    subst e9
    split at hb
    · rename_i q9 n t
      obtain ⟨q, g1, g2⟩ := bnd_of hb
      obtain ⟨qk, qs⟩ := q
      obtain ⟨n1, n2, n3, n4, n5, n6, n7, n8, n9, n10, n11, n12⟩ := hnM _ _ _ _ _ g1
      have g9 := hk _ _ _ _ g2
      dsimp only at g9
      rw [n9, n10, n5] at g9
      rw [n5] at n6 n7
      have z := g_newM (n := n.toNat) (k := q9.toNat) hC (dcl (n := 4) hdec hlen rfl (by decide)) (lnkF (w := fun o i => Cond.classLink o i ("[" ++ (FieldType.array .int).toString)) CLAok x2) n6 n7 n8 ⟨by omega, by omega⟩ ⟨Nat.le_trans n11 hcap.1, Nat.le_trans n12 hcap.2⟩ g9
      rw [Int.toNat_of_nonneg n1, Int.toNat_of_nonneg n2] at z
      exact z
    · cases hb
  case ireturn =>
    split at hb
    · rename_i x
      simp only [Bool.or_eq_true, Bool.and_eq_true, Nat.beq_eq, decide_eq_true_eq] at haux
      have d := dcl (n := 1) hdec hlen rfl (by decide)
      rcases haux with ⟨x1, x2⟩ | ⟨x1, x2⟩
      · rw [x1] at hb
        obtain ⟨h1, h2⟩ := gd_some hb
        exact hret (some (aI x)) s0 h2 (Or.inr ⟨x2, h1⟩) _ _ d
      · rw [x1] at hb
        exact hret (some (aI x)) s0 hb (Or.inl x2) _ _ d
    · cases hb
  case lreturn =>
    split at hb
    · rename_i x
      exact hret (some (aJ x)) s0 hb (show rt = some .long from of_decide_eq_true haux) _ _ (dcl (n := 1) hdec hlen rfl (by decide))
    · cases hb
  case freturn =>
    split at hb
    · rename_i x
      exact hret (some (aF x)) s0 hb (show rt = some .float from of_decide_eq_true haux) _ _ (dcl (n := 1) hdec hlen rfl (by decide))
    · cases hb
  case dreturn =>
    split at hb
    · rename_i x
      exact hret (some (aD x)) s0 hb (show rt = some .double from of_decide_eq_true haux) _ _ (dcl (n := 1) hdec hlen rfl (by decide))
    · cases hb
  case return_ =>
    split at hb
    · exact hret none s0 hb (show rt = none from of_decide_eq_true haux) _ _ (dcl (n := 1) hdec hlen rfl (by decide))
    · cases hb
  all_goals cases hb
end STP
