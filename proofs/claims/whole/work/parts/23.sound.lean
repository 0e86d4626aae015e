/-! ===== all together: what our machine runs, the Java machine does ===== -/
def jok (pc : Nat) (off : Int) : Prop := (pc : Int) + off = (jmp pc off : Int)
/-- what is checked of an instruction at its place -/
def VO (T : Tab) (M : MData) (E : Env4) (xn : Nat → String) (k0 mt pc : Nat) (i : Instr) : Prop := match i with
  | .bipush v => decode (mC M mt) pc = .ok (.bipush v, 2) ∧ (Int8.ofInt v).toInt32 = Int32.ofInt v
  | .sipush v => decode (mC M mt) pc = .ok (.sipush v, 3) ∧ (Int16.ofInt v).toInt32 = Int32.ofInt v
  | .ldc ix => decode (mC M mt) pc = .ok (.ldc ix, 2) ∧ (∀ v, tCO T mt ix = some v → Cond.constant (mY M mt).cls ix (Int32.ofInt v) ∈ AW) ∧ (tCO T mt ix = none → ∀ q, tCL T mt ix = some q → ∃ tx, ((mY M mt).cls, ix, tx, q) ∈ E.2.2.2)
  | .ldc_w ix => decode (mC M mt) pc = .ok (.ldc_w ix, 3) ∧ ∀ v, tCO T mt ix = some v → Cond.constant (mY M mt).cls ix (Int32.ofInt v) ∈ AW
  | .ldc2_w ix => decode (mC M mt) pc = .ok (.ldc2_w ix, 3) ∧ ∀ v, tCO T mt ix = some v → Cond.constantLong (mY M mt).cls ix (Int64.ofInt v) ∈ AW
  | .goto off => decode (mC M mt) pc = .ok (.goto off, 3) ∧ jok pc off
  | .if_icmp c off => decode (mC M mt) pc = .ok (.if_icmp c off, 3) ∧ jok pc off
  | .ifCond c off => decode (mC M mt) pc = .ok (.ifCond c off, 3) ∧ jok pc off
  | .tableswitch df lo hi offs => ∃ len, decode (mC M mt) pc = .ok (.tableswitch df lo hi offs, len) ∧ jok pc df ∧ ∀ (i : Nat) (off : Int), offs[i]? = some off → jok pc off
  | .getfield ix => decode (mC M mt) pc = .ok (.getfield ix, 3) ∧ ∀ ci j tag, tFL T mt ix = some (ci, j, tag) → (∃ C Tt N, VF M mt ix ci j tag C Tt N) ∨ (ci = 18 ∧ ((j = 0 ∧ tag % 8 = 2 ∧ Cond.fieldLink (mY M mt).cls ix "java/lang/String" "value" "[B" ∈ AW) ∨ (j = 1 ∧ tag % 8 = 0 ∧ Cond.fieldLink (mY M mt).cls ix "java/lang/String" "coder" "B" ∈ AW)))
  | .putfield ix => decode (mC M mt) pc = .ok (.putfield ix, 3) ∧ ∀ ci j tag, tFL T mt ix = some (ci, j, tag) → ∃ C Tt N, VF M mt ix ci j tag C Tt N ∧ ((Tt j).2.2.2 = false ∨ ((mY M mt).name = "<init>" ∧ (Tt j).1 = (mY M mt).cls))
  | .getstatic ix => decode (mC M mt) pc = .ok (.getstatic ix, 3) ∧ (tCL T mt ix = some 0 → Cond.fieldLink (mY M mt).cls ix "java/lang/String" "COMPACT_STRINGS" "Z" ∈ AW) ∧ ∀ q, tCL T mt ix = some q → q ≠ 0 → Cond.fieldLink (mY M mt).cls ix "jdk/internal/util/Preconditions" "SIOOBE_FORMATTER" "Ljava/util/function/BiFunction;" ∈ AW
  | .newarray ty => decode (mC M mt) pc = .ok (.newarray ty, 2) ∧ (ty = .int → Cond.arrayClass .int ∈ AW) ∧ (ty = .long → Cond.arrayClass .long ∈ AW) ∧ (ty = .boolean → Cond.arrayClass .boolean ∈ AW)
  | .anewarray ix => decode (mC M mt) pc = .ok (.anewarray ix, 3) ∧ Cond.classLink (mY M mt).cls ix "GorgeDay$Rule" ∈ AW
  | .multianewarray ix dm => dm = 2 ∧ decode (mC M mt) pc = .ok (.multianewarray ix 2, 4) ∧ Cond.classLink (mY M mt).cls ix "[[I" ∈ AW ∧ Cond.arrayClass .int ∈ AW
  | .new ix => decode (mC M mt) pc = .ok (.new ix, 3) ∧ ∀ q, tCL T mt ix = some q → (q < 100 → ∃ C Tt N, VC q C Tt N ∧ Cond.classLink (mY M mt).cls ix C ∈ AW) ∧ (¬ q < 100 → ∃ ix2 ic tx q2, VX M E k0 mt ix ix2 ic (xn (q - 100)) tx q2 ∧ decode (mC M mt) (pc + 3) = .ok (.dup, 1) ∧
      ((decode (mC M mt) (pc + 4) = .ok (.ldc ix2, 2) ∧ decode (mC M mt) (pc + 6) = .ok (.invokespecial ic, 3) ∧ decode (mC M mt) (pc + 9) = .ok (.athrow, 1)) ∨ (decode (mC M mt) (pc + 4) = .ok (.ldc_w ix2, 3) ∧ decode (mC M mt) (pc + 7) = .ok (.invokespecial ic, 3) ∧ decode (mC M mt) (pc + 10) = .ok (.athrow, 1))))
  | .invokestatic ix => decode (mC M mt) pc = .ok (.invokestatic ix, 3) ∧ ∀ m2 ck, tMH T mt ix = some (m2, ck) → (ck = 6 → Cond.methodLink (mY M mt).cls ix arraycopyName ∈ AW ∧ Cond.native arraycopyName ∈ AW ∧ Cond.static arraycopyName ∈ AW ∧ Cond.initialized "java/lang/System" ∈ AW) ∧ (10 ≤ ck → ∀ w ∈ mathw (mY M mt).cls ix ck, w ∈ AW) ∧ (¬ ck = 6 → ¬ 10 ≤ ck → VL T M E mt ix m2 ck ∧ (ck ≤ 1 → ∀ ex, ex < 3 → VH T M E xn mt pc ex))
  | .invokevirtual ix => decode (mC M mt) pc = .ok (.invokevirtual ix, 3) ∧ ∀ m2 ck, tMH T mt ix = some (m2, ck) → (ck = 8 → (Cond.methodLink (mY M mt).cls ix ⟨"[I", "clone", "()Ljava/lang/Object;"⟩ ∈ AW ∧ Cond.sameMethod "[I" "java/lang/Object" "clone" "()Ljava/lang/Object;" ∈ AW ∧ Cond.native ⟨"java/lang/Object", "clone", "()Ljava/lang/Object;"⟩ ∈ AW ∧ Cond.instanceMethod ⟨"java/lang/Object", "clone", "()Ljava/lang/Object;"⟩ ∈ AW ∧ Cond.selects "[I" ⟨"[I", "clone", "()Ljava/lang/Object;"⟩ ⟨"java/lang/Object", "clone", "()Ljava/lang/Object;"⟩ ∈ AW) ∧ ("[I", "java/lang/Cloneable") ∈ E.2.1) ∧ (¬ ck = 8 → VL T M E mt ix m2 ck ∧ (ck ≤ 1 → ∀ ex, ex < 3 → VH T M E xn mt pc ex))
  | .invokespecial ix => decode (mC M mt) pc = .ok (.invokespecial ix, 3) ∧ ∀ m2 ck, tMH T mt ix = some (m2, ck) → (ck = 7 → Cond.methodLink (mY M mt).cls ix objectInit ∈ AW ∧ Cond.instanceMethod objectInit ∈ AW ∧ Cond.code objectInit ⟨#[0xb1]⟩ 1 none ∈ AW) ∧ (¬ ck = 7 → VL T M E mt ix m2 ck ∧ (ck ≤ 1 → ∀ ex, ex < 3 → VH T M E xn mt pc ex))
  | .checkcast ix => decode (mC M mt) pc = .ok (.checkcast ix, 3) ∧ Cond.classLink (mY M mt).cls ix "[I" ∈ AW
  | .lreturn => decode (mC M mt) pc = .ok (.lreturn, 1) ∧ tRT T mt = some .long
  | .areturn => decode (mC M mt) pc = .ok (.areturn, 1) ∧ ∃ rt, tRT T mt = some rt ∧ ((∃ n, rt = .object n) ∨ ∃ t, rt = .array t)
  | .return_ => decode (mC M mt) pc = .ok (.return_, 1) ∧ tRT T mt = none
  | i => decode (mC M mt) pc = .ok (i, ilen i)
/-- the program as it is checked -/
def VT (T : Tab) (M : MData) (E : Env4) (xn : Nat → String) (k0 : Nat) : Prop := (∀ q ∈ E.2.2.2, q.2.2.2 < k0) ∧ ∀ mt pc i, tOp T mt pc = some i → VO T M E xn k0 mt pc i
section ALL
variable {T : Tab} {M : MData} {E : Env4} {G : GW} {xn : Nat → String} {k0 base : Nat}
theorem x_mono : wx_mono (X0 T M E G xn k0 base) := by
  intro d B mt pc ls st σ Q Q' hQ h p l e R s m args below meth c H locs cells slots lsM ad adB σB mc ms F hR hX hL hbl hbs hrm
  intro T9 hT X
  obtain ⟨t, h1, o, h2, h3, h4⟩ := h p l e R s m args below meth c H locs cells slots lsM ad adB σB mc ms F hR hX hL hbl hbs hrm T9 hT X
  refine ⟨t, h1, o, h2, h3, ?_⟩
  rcases h4 with ⟨⟨⟨v, ad', σ', q1, q2, q3⟩, q4⟩, q5⟩ | ⟨q, q1, E9, ce, L, ⟨⟨ex, ad', σ', z1, z2, z3⟩, z4⟩, z5⟩
  · exact Or.inl ⟨⟨⟨v, ad', σ', q1, hQ _ _ q2, q3⟩, q4⟩, q5⟩
  · exact Or.inr ⟨q, q1, E9, ce, L, ⟨⟨ex, ad', σ', z1, hQ _ _ z2, z3⟩, z4⟩, z5⟩
theorem put_fin {σ : Sto} {d : Nat} {B : Nat × Nat} {mt pc ix ci j tag o : Nat} {ls st : List Value} {v : Value} {Q : Out → Sto → Prop} {C : String} {Tt : u_T} {N : Nat} (hE : ∀ q ∈ E.2.2.2, q.2.2.2 < k0) (hd : decode (mC M mt) pc = .ok (.putfield ix, 3)) (hf : VF M mt ix ci j tag C Tt N) (hfin : (Tt j).2.2.2 = false ∨ ((mY M mt).name = "<init>" ∧ (Tt j).1 = (mY M mt).cls)) (hk : sK σ o = ci + 1)
    (h : fput σ (tag % 8) o j v (fun σ' => X0 T M E G xn k0 base d B mt (pc + 3) ls st σ' Q)) : X0 T M E G xn k0 base d B mt pc ls (v :: .ref o :: st) σ Q := by
  have hI : ∀ (x : Int32) (ad : Nat → Nat) (i : Nat), i ≠ j → ∀ t, fval ad (setI σ o j x) t o i = fval ad σ t o i := by
    intro x ad i hi t
    unfold fval
    rw [show sI (setI σ o j x) o = up (sI σ o) j x from up_eq, up_ne hi]
    rfl
  have hLl : ∀ (x : Int64) (ad : Nat → Nat) (i : Nat), i ≠ j → ∀ t, fval ad (setL σ o j x) t o i = fval ad σ t o i := by
    intro x ad i hi t
    unfold fval
    rw [show sL (setL σ o j x) o = up (sL σ o) j x from up_eq, up_ne hi]
    rfl
  have hPp : ∀ (x : Option Nat) (ad : Nat → Nat) (i : Nat), i ≠ j → ∀ t, fval ad (setP σ o j x) t o i = fval ad σ t o i := by
    intro x ad i hi t
    unfold fval
    rw [show sP (setP σ o j x) o = up (sP σ o) j x from up_eq, up_ne hi]
    rfl
  have hbP : ∀ (x : Option Nat), ShR k0 σ → (∀ q, x = some q → q < sN σ) → ∀ i q, sP (setP σ o j x) o i = some q → q < sN σ := by
    intro x hs hx i q hq
    rw [show sP (setP σ o j x) o = up (sP σ o) j x from up_eq] at hq
    unfold up at hq
    split at hq
    · exact hx q hq
    · exact hs.2.2.2.2 _ _ _ hq
  unfold fput at h
  generalize htg : tag % 8 = tg at h
  split at h
  · split at h
    · exact x_put hE hd hf hfin hk At1.i (fun hs _ i q hq => hs.2.2.2.2 _ _ _ hq) (fun ad => by rw [htg]; show _ = Value.int (sI (setI σ o j _) o j); rw [show sI (setI σ o j _) o = up (sI σ o) j _ from up_eq, up_eq]; rfl) (hI _) (fun ad ty ht => by rw [htg] at ht; rw [show ty = .int from ht]; exact ⟨rfl, rfl⟩) h
    · exact h.elim
  · split at h
    · exact x_put hE hd hf hfin hk At1.l (fun hs _ i q hq => hs.2.2.2.2 _ _ _ hq) (fun ad => by rw [htg]; show _ = Value.long (sL (setL σ o j _) o j); rw [show sL (setL σ o j _) o = up (sL σ o) j _ from up_eq, up_eq]; rfl) (hLl _) (fun ad ty ht => by rw [htg] at ht; rw [show ty = .long from ht]; exact ⟨rfl, rfl⟩) h
    · exact h.elim
  · split at h
    · exact x_put hE hd hf hfin hk At1.p (fun hs hb => hbP _ hs (fun q e => by cases e; exact hb)) (fun ad => by rw [htg]; show _ = va_rf ((sP (setP σ o j _) o j).map ad); rw [show sP (setP σ o j _) o = up (sP σ o) j _ from up_eq, up_eq]; rfl) (hPp _) (fun ad ty ht => by rw [htg] at ht; rcases ht with ⟨n, e⟩ | ⟨n, e⟩ <;> rw [e] <;> exact ⟨rfl, rfl⟩) h
    · exact x_put hE hd hf hfin hk At1.p (fun hs hb => hbP _ hs (fun q e => by cases e)) (fun ad => by rw [htg]; show _ = va_rf ((sP (setP σ o j _) o j).map ad); rw [show sP (setP σ o j _) o = up (sP σ o) j _ from up_eq, up_eq]; rfl) (hPp _) (fun ad ty ht => by rw [htg] at ht; rcases ht with ⟨n, e⟩ | ⟨n, e⟩ <;> rw [e] <;> exact ⟨rfl, rfl⟩) h
    · exact h.elim
  · rename_i h0 h1 h2
    split at h
    · obtain ⟨hx, h⟩ := h
      refine x_put hE hd hf hfin hk At1.i (fun hs _ i q hq => hs.2.2.2.2 _ _ _ hq) (fun ad => ?_) (hI _) (fun ad ty ht => ?_) h
      · rw [htg]
        unfold fval
        split
        · exact absurd rfl h1
        · exact absurd rfl h2
        · rw [show sI (setI σ o j _) o = up (sI σ o) j _ from up_eq, up_eq]; rfl
      · rw [htg] at ht
        match tg, h0, h1, h2, ht with
        | 3, _, _, _, ht => rw [show ty = .boolean from ht]; rcases hx with q | q <;> subst q <;> exact ⟨rfl, rfl⟩
        | 0, h0, _, _, _ => exact absurd rfl h0
        | 1, _, h1, _, _ => exact absurd rfl h1
        | 2, _, _, h2, _ => exact absurd rfl h2
        | n + 4, _, _, _, ht => exact ht.elim
    · exact h.elim
set_option maxHeartbeats 4000000 in
theorem x_closed (hV : VT T M E xn k0) : wx_closed T (X0 T M E G xn k0 base) := by
  obtain ⟨hE, hV⟩ := hV
  intro d B mt pc ls st σ Q h
  unfold stp at h
  cases hop : tOp T mt pc with
  | none => rw [hop] at h; exact h.elim
  | some i =>
    have hv := hV mt pc i hop
    rw [hop] at h
    cases i with
    | iconst v =>
      dsimp only at h
      exact x_iconst hv h
    | bipush v =>
      dsimp only at h
      exact x_bipush hv.1 hv.2 h
    | sipush v =>
      dsimp only at h
      exact x_sipush hv.1 hv.2 h
    | lconst v =>
      dsimp only at h
      exact x_lconst hv h
    | ldc ix =>
      dsimp only at h
      cases hc : tCO T mt ix with
      | some v => rw [hc] at h; exact x_ldc hv.1 (hv.2.1 v hc) h
      | none =>
        rw [hc] at h
        dsimp only at h
        cases hq : tCL T mt ix with
        | none => rw [hq] at h; exact h.elim
        | some q => rw [hq] at h; obtain ⟨tx, ht⟩ := hv.2.2 hc q hq; exact x_ldcS hE hv.1 ht h
    | ldc_w ix =>
      dsimp only at h
      cases hc : tCO T mt ix with
      | some v => rw [hc] at h; exact x_ldcw hv.1 (hv.2 v hc) h
      | none => rw [hc] at h; exact h.elim
    | ldc2_w ix =>
      dsimp only at h
      cases hc : tCO T mt ix with
      | some v => rw [hc] at h; exact x_ldc2 hv.1 (hv.2 v hc) h
      | none => rw [hc] at h; exact h.elim
    | iload i =>
      dsimp only at h
      split at h
      · rename_i hg; exact x_iload hv hg h
      · exact h.elim
    | iload_n i =>
      dsimp only at h
      split at h
      · rename_i hg; exact x_iloadn hv hg h
      · exact h.elim
    | lload i =>
      dsimp only at h
      split at h
      · rename_i hg; exact x_lload hv hg h
      · exact h.elim
    | lload_n i =>
      dsimp only at h
      split at h
      · rename_i hg; exact x_lloadn hv hg h
      · exact h.elim
    | aload i =>
      dsimp only at h
      split at h
      · rename_i hg; exact x_aload hv hg h
      · rename_i hg; exact x_aloadN hv hg h
      · exact h.elim
    | aload_n i =>
      dsimp only at h
      split at h
      · rename_i hg; exact x_aloadn hv hg h
      · rename_i hg; exact x_aloadnN hv hg h
      · exact h.elim
    | istore i =>
      dsimp only at h
      split at h
      · exact x_istore hv h.1 h.2
      · exact h.elim
    | istore_n i =>
      dsimp only at h
      split at h
      · exact x_istoren hv h.1 h.2
      · exact h.elim
    | lstore i =>
      dsimp only at h
      split at h
      · exact x_lstore hv h.1 h.2
      · exact h.elim
    | lstore_n i =>
      dsimp only at h
      split at h
      · exact x_lstoren hv h.1 h.2
      · exact h.elim
    | astore i =>
      dsimp only at h
      split at h
      · exact x_astore hv h.1 h.2
      · exact x_astoreN hv h.1 h.2
      · exact h.elim
    | astore_n i =>
      dsimp only at h
      split at h
      · exact x_astoren hv h.1 h.2
      · exact x_astorenN hv h.1 h.2
      · exact h.elim
    | iinc i v =>
      dsimp only at h
      split at h
      · rename_i hg; exact x_iinc hv hg h.1 h.2
      · exact h.elim
    | iadd =>
      dsimp only at h
      split at h
      · exact x_iadd hv h
      · exact h.elim
    | isub =>
      dsimp only at h
      split at h
      · exact x_isub hv h
      · exact h.elim
    | imul =>
      dsimp only at h
      split at h
      · exact x_imul hv h
      · exact h.elim
    | iand =>
      dsimp only at h
      split at h
      · exact x_iand hv h
      · exact h.elim
    | ior =>
      dsimp only at h
      split at h
      · exact x_ior hv h
      · exact h.elim
    | ishl =>
      dsimp only at h
      split at h
      · exact x_ishl hv h
      · exact h.elim
    | ishr =>
      dsimp only at h
      split at h
      · exact x_ishr hv h
      · exact h.elim
    | iushr =>
      dsimp only at h
      split at h
      · exact x_iushr hv h
      · exact h.elim
    | ineg =>
      dsimp only at h
      split at h
      · exact x_ineg hv h
      · exact h.elim
    | ladd =>
      dsimp only at h
      split at h
      · exact x_ladd hv h
      · exact h.elim
    | lmul =>
      dsimp only at h
      split at h
      · exact x_lmul hv h
      · exact h.elim
    | lcmp =>
      dsimp only at h
      split at h
      · exact x_lcmp hv h
      · exact h.elim
    | i2l =>
      dsimp only at h
      split at h
      · exact x_i2l hv h
      · exact h.elim
    | l2i =>
      dsimp only at h
      split at h
      · exact x_l2i hv h
      · exact h.elim
    | i2c =>
      dsimp only at h
      split at h
      · exact x_i2c hv h
      · exact h.elim
    | dup2 =>
      dsimp only at h
      split at h
      · exact x_dup2 hv h
      · exact h.elim
    | idiv =>
      dsimp only at h
      split at h
      · exact x_idiv hv h.1 h.2
      · exact h.elim
    | irem =>
      dsimp only at h
      split at h
      · exact x_irem hv h.1 h.2
      · exact h.elim
    | ldiv =>
      dsimp only at h
      split at h
      · exact x_ldiv hv h.1 h.2
      · exact h.elim
    | dup =>
      dsimp only at h
      split at h
      · exact x_dupi hv h
      · exact x_dupr hv h
      · exact h.elim
    | pop =>
      dsimp only at h
      split at h
      · exact x_popi hv h
      · exact x_popr hv h
      · exact h.elim
    | goto off =>
      dsimp only at h
      exact x_goto hv.1 hv.2 h
    | if_icmp c off =>
      dsimp only at h
      split at h
      · exact x_icmp hv.1 hv.2 h
      · exact h.elim
    | ifCond c off =>
      dsimp only at h
      split at h
      · exact x_ifc hv.1 hv.2 h
      · exact h.elim
    | tableswitch df lo hi offs =>
      dsimp only at h
      obtain ⟨len, v1, v2, v3⟩ := hv
      split at h
      · exact x_tsw v1 v2 v3 h
      · exact h.elim
    | getfield ix =>
      dsimp only at h
      cases hf : tFL T mt ix with
      | none => rw [hf] at h; exact h.elim
      | some q =>
        obtain ⟨ci, j, tag⟩ := q
        rw [hf] at h
        dsimp only at h
        split at h
        · rename_i o st
          obtain ⟨hk, h⟩ := h
          rcases hv.2 ci j tag hf with ⟨C, Tt, N, w⟩ | ⟨w0, w⟩
          · generalize htg : tag % 8 = tg at h
            split at h
            · exact x_get (v := .long (sL σ o j)) hv.1 w hk (fun ad => by rw [htg]; rfl) (fun _ => ⟨trivial, trivial⟩) h
            · obtain ⟨q, hq, h⟩ := h
              exact x_get (v := .ref q) hv.1 w hk (fun ad => by rw [htg]; show _ = va_rf ((sP σ o j).map ad); rw [hq]; rfl) (fun hs => ⟨hs.2.2.2.2 _ _ _ hq, trivial⟩) h
            · rename_i h1 h2
              refine x_get (v := .int (sI σ o j)) hv.1 w hk (fun ad => ?_) (fun _ => ⟨trivial, trivial⟩) h
              rw [htg]
              unfold fval
              split
              · exact absurd rfl h1
              · exact absurd rfl h2
              · rfl
          · subst w0
            rcases w with ⟨w1, w2, w3⟩ | ⟨w1, w2, w3⟩
            · subst w1
              rw [w2] at h
              obtain ⟨q, hq, h⟩ := h
              exact x_getS (v := .ref q) hv.1 w3 hk (fun ad s ho hlt => by have := (ho.1 o hlt hk).2.2; rw [hq] at this; exact this) (fun hs => ⟨hs.2.2.2.2 _ _ _ hq, trivial⟩) h
            · subst w1
              rw [w2] at h
              exact x_getS (v := .int (sI σ o 1)) hv.1 w3 hk (fun ad s ho hlt => (ho.1 o hlt hk).2.1) (fun hs => ⟨trivial, trivial⟩) h
        · exact h.elim
    | putfield ix =>
      dsimp only at h
      cases hf : tFL T mt ix with
      | none => rw [hf] at h; exact h.elim
      | some q =>
        obtain ⟨ci, j, tag⟩ := q
        rw [hf] at h
        dsimp only at h
        split at h
        · obtain ⟨hk, h⟩ := h
          obtain ⟨C, Tt, N, w, wf⟩ := hv.2 ci j tag hf
          exact put_fin hE hv.1 w wf hk h
        · exact h.elim
    | getstatic ix =>
      dsimp only at h
      cases hq : tCL T mt ix with
      | none => rw [hq] at h; exact h.elim
      | some q =>
        rw [hq] at h
        cases q with
        | zero => exact x_gets0 hv.1 (hv.2.1 hq) h
        | succ q => obtain ⟨r, hr, h⟩ := h; exact x_gets1 hv.1 (hv.2.2 _ hq (by omega)) hr h
    | iaload =>
      dsimp only at h
      split at h
      · exact x_iald hv h.1 h.2
      · exact h.elim
    | laload =>
      dsimp only at h
      split at h
      · exact x_lald hv h.1 h.2
      · exact h.elim
    | baload =>
      dsimp only at h
      split at h
      · exact x_bald hv h.1 h.2
      · exact h.elim
    | aaload =>
      dsimp only at h
      split at h
      · obtain ⟨h1, r, hr, h⟩ := h; exact x_aald hv h1 hr h
      · exact h.elim
    | iastore =>
      dsimp only at h
      split at h
      · exact x_iast hE hv h.1 h.2
      · exact h.elim
    | lastore =>
      dsimp only at h
      split at h
      · exact x_last hE hv h.1 h.2
      · exact h.elim
    | bastore =>
      dsimp only at h
      split at h
      · exact x_bast hE hv h.1 h.2
      · exact h.elim
    | aastore =>
      dsimp only at h
      split at h
      · exact x_aast hE hv h.1 h.2
      · exact x_aastN hE hv h.1 h.2
      · exact h.elim
    | arraylength =>
      dsimp only at h
      split at h
      · exact x_alen hv h.1 h.2
      · exact h.elim
    | newarray ty =>
      dsimp only at h
      split at h
      · obtain ⟨h1, h⟩ := h
        cases ty with
        | int => exact x_newI hE hv.1 (hv.2.1 rfl) h1 h
        | long => exact x_newJ hE hv.1 (hv.2.2.1 rfl) h1 h
        | boolean => exact x_newZ hE hv.1 (hv.2.2.2 rfl) h1 h
        | _ => exact h.elim
      · exact h.elim
    | anewarray ix =>
      dsimp only at h
      split at h
      · exact x_newR hE hv.1 hv.2 h.1 h.2
      · exact h.elim
    | multianewarray ix dm =>
      dsimp only at h
      obtain ⟨rfl, v2, v3⟩ := hv
      split at h
      · exact x_mna hE v2 v3 h.1 h.2
      · exact h.elim
    | new ix =>
      dsimp only at h
      cases hq : tCL T mt ix with
      | none => rw [hq] at h; exact h.elim
      | some q =>
        rw [hq] at h
        dsimp only at h
        by_cases c : q < 100
        · rw [if_pos c] at h
          obtain ⟨C, Tt, N, w1, w2⟩ := (hv.2 q hq).1 c
          exact x_new hE hv.1 w1 w2 h.1 h.2
        · rw [if_neg c] at h
          obtain ⟨ix2, ic, tx, q2, w1, w2, w3 | w3⟩ := (hv.2 q hq).2 c
          · exact x_throw w1 hv.1 w2 w3.1 w3.2.1 w3.2.2 h.1 h.2
          · exact x_throwW w1 hv.1 w2 w3.1 w3.2.1 w3.2.2 h.1 h.2
    | invokestatic ix =>
      dsimp only at h
      cases hf : tMH T mt ix with
      | none => rw [hf] at h; exact h.elim
      | some q =>
        obtain ⟨m2, ck⟩ := q
        rw [hf] at h
        dsimp only at h
        by_cases c : ck = 6
        · rw [if_pos c] at h
          split at h
          · exact x_copy hE hv.1 ((hv.2 m2 ck hf).1 c) h.1 h.2
          · exact h.elim
        · rw [if_neg c] at h
          by_cases c2 : 10 ≤ ck
          · rw [if_pos c2] at h; exact x_math hv.1 ((hv.2 m2 ck hf).2.1 c2) h
          rw [if_neg c2] at h
          obtain ⟨w1, w2⟩ := (hv.2 m2 ck hf).2.2 c c2
          obtain ⟨hck, h⟩ := h
          exact x_call hE w1 (by rcases hck with e | e <;> subst e <;> exact hv.1) w2 h
    | invokevirtual ix =>
      dsimp only at h
      cases hf : tMH T mt ix with
      | none => rw [hf] at h; exact h.elim
      | some q =>
        obtain ⟨m2, ck⟩ := q
        rw [hf] at h
        dsimp only at h
        by_cases c : ck = 8
        · rw [if_pos c] at h
          split at h
          · obtain ⟨w1, w2⟩ := (hv.2 m2 ck hf).1 c; exact x_clone hE hv.1 w1 w2 h.1 h.2
          · exact h.elim
        · rw [if_neg c] at h
          obtain ⟨w1, w2⟩ := (hv.2 m2 ck hf).2 c
          obtain ⟨hck, h⟩ := h
          exact x_call hE w1 (by subst hck; exact hv.1) w2 h
    | invokespecial ix =>
      dsimp only at h
      cases hf : tMH T mt ix with
      | none => rw [hf] at h; exact h.elim
      | some q =>
        obtain ⟨m2, ck⟩ := q
        rw [hf] at h
        dsimp only at h
        by_cases c : ck = 7
        · rw [if_pos c] at h
          split at h
          · exact x_oini hv.1 ((hv.2 m2 ck hf).1 c) h.1 h.2
          · exact h.elim
        · rw [if_neg c] at h
          obtain ⟨w1, w2⟩ := (hv.2 m2 ck hf).2 c
          obtain ⟨hck, h⟩ := h
          exact x_call hE w1 (by rcases hck with e | e <;> subst e <;> exact hv.1) w2 h
    | checkcast ix =>
      dsimp only at h
      split at h
      · exact x_cast hv.1 hv.2 h.1 h.2
      · exact h.elim
    | ireturn =>
      dsimp only at h
      split at h
      · exact x_iret hv h.1 h.2
      · exact h.elim
    | lreturn =>
      dsimp only at h
      split at h
      · exact x_lret hv.1 hv.2 h
      · exact h.elim
    | areturn =>
      dsimp only at h
      obtain ⟨v1, rt, v2, v3⟩ := hv
      split at h
      · exact x_aret v1 v2 v3 h
      · exact h.elim
    | return_ =>
      dsimp only at h
      split at h
      · exact x_vret hv.1 hv.2 h
      · exact h.elim
    | _ => exact h.elim
/-- THE BRIDGE: a run of ours is a run of the machine -/
theorem x_sound (hV : VT T M E xn k0) {d : Nat} {B : Nat × Nat} {mt pc : Nat} {ls st : List Value} {σ : Sto} {Q : Out → Sto → Prop} (h : WP T d B mt pc ls st σ Q) : X0 T M E G xn k0 base d B mt pc ls st σ Q := h _ x_mono (x_closed hV)
end ALL
