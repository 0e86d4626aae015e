/-! ===== a frame of the machine, and ours ===== -/
def ab (base : Nat) : Nat → Prop := fun q => base ≤ q
theorem aoa_spec {args : Array Value} {s : State} {t : FieldType} (h : (Cond.arrayOver (.array t)).before args s = true) :
    ∃ comp c k, s.vm.findClass (FieldType.array t).toString = some comp ∧ (s.vm.classes.findIdx? fun (x : Class) => match x.kind with | .array component _ => component == comp | _ => false) = some c ∧ s.vm.classes[c]? = some k ∧ k.kind = .array comp (.array t) ∧ s.vm.findClass ("[" ++ (FieldType.array t).toString) = some c := by
  have h : (Cond.arrayOver (.array t)).holds args s none s [] = true := h
  simp only [Cond.holds, Cond.value, beq_iff_eq] at h
  cases hc : s.vm.findClass (FieldType.array t).toString with
  | none => simp [hc] at h
  | some comp =>
    simp only [hc, Option.bind_some, Option.bind_eq_some_iff, Option.map_eq_some_iff] at h
    obtain ⟨c, hi, k, hk, hb⟩ := h
    obtain ⟨hlt, hp, -⟩ := Array.findIdx?_eq_some_iff_getElem.mp hi
    have hkk : s.vm.classes[c] = k := (Array.getElem?_eq_some_iff.mp hk).2
    rw [hkk] at hp
    cases hkind : k.kind with
    | array component ty =>
      rw [hkind] at hb hp
      simp at hb hp
      exact ⟨comp, c, k, rfl, hi, hk, by rw [hkind, hp, hb.1], hb.2⟩
    | _ => rw [hkind] at hb; simp at hb
theorem va_AOA.moved {ty : FieldType} {u U : State} (hvm : u.vm.Alike U.vm) (h : va_AOA ty u) : va_AOA ty U := by
  intro a
  obtain ⟨comp, c, k, h1, h2, h3, h4, h5⟩ := aoa_spec (h a)
  obtain ⟨k', hk', he⟩ := hvm.2.2 _ _ h3
  have hi : (U.vm.classes.findIdx? fun (x : Class) => match x.kind with | .array component _ => component == comp | _ => false) = some c := by
    have b1 := va_idx_bare U.vm comp
    have b2 := va_idx_bare u.vm comp
    have h2' := b2.trans h2
    first | rw [hvm.bare_eq] at h2' | rw [← hvm.bare_eq] at h2'
    exact b1.symm.trans h2'
  have hkind : k'.kind = .array comp (.array ty) := by rw [he]; exact h4
  have f1 : U.vm.findClass (FieldType.array ty).toString = some comp := by rw [hvm.findClass]; exact h1
  have f2 : U.vm.findClass ("[" ++ (FieldType.array ty).toString) = some c := by rw [hvm.findClass]; exact h5
  unfold Cond.before Cond.holds
  simp only [Cond.value]
  rw [f1, Option.bind_some]
  refine (congrArg (fun o : Option Nat => (o.bind (fun c => (U.vm.classes[c]?).map fun (k : Class) => match k.kind with | .array _ ty' => decide (ty' = FieldType.array ty) && decide (U.vm.findClass ("[" ++ (FieldType.array ty).toString) = some c) | _ => false) == some true)) hi).trans ?_
  simp [hk', hkind, f2]
/-- lists of words that are kept beside the good ones: nest mates' methods, classes that are castable, that aren't, texts at their places -/
abbrev Env4 : Type := List (String × Nat × MethodName × String) × List (String × String) × List (String × String) × List (String × Nat × String × Nat)
/-- the constructors that an exception's constructor goes up through -/
def dclN : List MethodName := [Bundle.initS "java/lang/RuntimeException", Bundle.initS "java/lang/Exception", Bundle.initS Bundle.tN]
/-- what was there before: texts, the script, statics, words -/
def OldR (E : Env4) (k0 base : Nat) (ad : Nat → Nat) (σ : Sto) (s : State) : Prop :=
  (∀ o, o < k0 → sK σ o = 19 → va_O "java/lang/String" (ad o) (ab base) s s.heap ∧ va_OF "java/lang/String" "coder" "B" (.int (sI σ o 1)) (ad o) (ab base) s s.heap ∧ va_OF "java/lang/String" "value" "[B" (va_rf ((sP σ o 0).map ad)) (ad o) (ab base) s s.heap) ∧
  (∀ o, o < k0 → sK σ o = 20 → va_T .byte (ad o) (sZ σ o) (fun j => .int (sI σ o j)) (ab base) s s.heap) ∧
  (∀ o, o < k0 → sK σ o = 21 → va_X (ad o) (sZ σ o) (sI σ o) s s.heap ∧ ad o < base) ∧
  va_Z "jdk/internal/util/Preconditions" "SIOOBE_FORMATTER" "Ljava/util/function/BiFunction;" (va_rf ((sP σ 0 0).map ad)) (ab base) s s.heap ∧
  va_Z "java/lang/String" "COMPACT_STRINGS" "Z" (.int 1) (ab base) s s.heap ∧
  vx_Zq Bundle.tN "UNASSIGNED_STACK" Bundle.steD (ab base) s s.heap ∧ vx_Zq Bundle.tN "SUPPRESSED_SENTINEL" Bundle.listD (ab base) s s.heap ∧
  va_AO "GorgeDay$Rule" s ∧ va_AOA .int s ∧ (∀ q ∈ E.1, va_Nw (.methodLinkNest q.1 q.2.1 q.2.2.1 q.2.2.2) s) ∧ ((∀ q ∈ E.2.1, va_Nw (.castable q.1 q.2) s) ∧ ∀ y ∈ dclN, va_Nw (.declares y) s) ∧ (∀ q ∈ E.2.2.1, va_Nc q.1 q.2 s) ∧
  (∀ q ∈ E.2.2.2, vk_R q.1 q.2.1 q.2.2.1 (ad q.2.2.2) s)
theorem OldR.warm {E : Env4} {k0 base : Nat} {ad : Nat → Nat} {σ : Sto} {s U : State} (hW : s.WarmedH U.vm) (hb : base ≤ s.heap.size) (hq : ∀ a : Nat, a < s.heap.size → ¬ ab base a → U.heap[a]? = s.heap[a]?) (h : OldR E k0 base ad σ s) : OldR E k0 base ad σ U := by
  obtain ⟨h1, h2, h3, h4, h5, h6, h7, h8, h9, h10, h11, h12, h13⟩ := h
  have hv := hW.alike
  refine ⟨fun o ho hk => ?_, fun o ho hk => ?_, fun o ho hk => ?_, va_Z.moved hv (h4.kept hq), va_Z.moved hv (h5.kept hq), vx_Zq.moved hv (h6.kept hq), vx_Zq.moved hv (h7.kept hq), va_AO.moved hv h8, va_AOA.moved hv h9, fun q m => va_Nw.warmM hW (h10 q m), ⟨fun q m => va_Nw.warmC hW (h11.1 q m), fun y m => va_Nw.warmD hW (h11.2 y m)⟩, fun q m => va_Nc.moved hv (h12 q m), fun q m => vk_R.warm hW (h13 q m)⟩
  · obtain ⟨a, b, c⟩ := h1 o ho hk
    exact ⟨va_O.moved hv (a.kept hq), va_OF.moved hv (b.kept hq), va_OF.moved hv (c.kept hq)⟩
  · exact va_T.moved hv ((h2 o ho hk).kept hq)
  · obtain ⟨a, b⟩ := h3 o ho hk
    exact ⟨va_X.moved hv (a.kept (hq _ (Nat.lt_of_lt_of_le b hb) (Nat.not_le.mpr b))), b⟩
/-- the old places' rows stay -/
def OldSame (k0 : Nat) (σ σ' : Sto) : Prop := ∀ o, o < k0 → sK σ' o = sK σ o ∧ sZ σ' o = sZ σ o ∧ sI σ' o = sI σ o ∧ sP σ' o = sP σ o
theorem OldSame.rf {k0 : Nat} {σ : Sto} : OldSame k0 σ σ := fun _ _ => ⟨rfl, rfl, rfl, rfl⟩
theorem OldSame.trans {k0 : Nat} {a b c : Sto} (h1 : OldSame k0 a b) (h2 : OldSame k0 b c) : OldSame k0 a c := fun o ho => ⟨(h2 o ho).1.trans (h1 o ho).1, (h2 o ho).2.1.trans (h1 o ho).2.1, (h2 o ho).2.2.1.trans (h1 o ho).2.2.1, (h2 o ho).2.2.2.trans (h1 o ho).2.2.2⟩
/-- the shape -/
def ShR (k0 : Nat) (σ : Sto) : Prop := (0 < k0 ∧ k0 ≤ sN σ) ∧ (∀ o, sN σ ≤ o → sK σ o = 0) ∧ (∀ o, o < k0 → 19 ≤ sK σ o) ∧ (∀ o, k0 ≤ o → o < sN σ → 1 ≤ sK σ o ∧ sK σ o ≤ 18) ∧ ∀ k j q, sP σ k j = some q → q < sN σ
theorem ShR.new {k0 : Nat} {σ : Sto} (h : ShR k0 σ) {o kd : Nat} (hk : sK σ o = kd) (h1 : 1 ≤ kd) (h2 : kd ≤ 18) : k0 ≤ o ∧ o < sN σ := by
  obtain ⟨-, h3, h4, h5, -⟩ := h
  constructor
  · by_cases c : k0 ≤ o
    · exact c
    · have := h4 o (by omega); omega
  · by_cases c : sN σ ≤ o
    · have := h3 o c; omega
    · omega
theorem ShR.old {k0 : Nat} {σ : Sto} (h : ShR k0 σ) {o kd : Nat} (hk : sK σ o = kd) (h1 : 19 ≤ kd) : o < k0 := by
  obtain ⟨-, h3, h4, h5, -⟩ := h
  by_cases c : k0 ≤ o
  · by_cases c2 : o < sN σ
    · have := h5 o c c2; omega
    · have := h3 o (by omega); omega
  · omega
/-- the later store and addresses go on from the earlier -/
def Ext (k0 : Nat) (ad : Nat → Nat) (σ : Sto) (ad' : Nat → Nat) (σ' : Sto) : Prop := sN σ ≤ sN σ' ∧ (∀ k, k < sN σ → ad' k = ad k) ∧ OldSame k0 σ σ'
theorem Ext.rf {k0 : Nat} {ad : Nat → Nat} {σ : Sto} : Ext k0 ad σ ad σ := ⟨Nat.le_refl _, fun _ _ => rfl, OldSame.rf⟩
theorem Ext.trans {k0 : Nat} {a b c : Nat → Nat} {σ τ υ : Sto} (h1 : Ext k0 a σ b τ) (h2 : Ext k0 b τ c υ) : Ext k0 a σ c υ := ⟨Nat.le_trans h1.1 h2.1, fun k hk => (h2.2.1 k (Nat.lt_of_lt_of_le hk h1.1)).trans (h1.2.1 k hk), h1.2.2.trans h2.2.2⟩
theorem OldR.ext {E : Env4} {k0 base : Nat} {ad ad' : Nat → Nat} {σ σ' : Sto} {s : State} (hs : ShR k0 σ) (hx : Ext k0 ad σ ad' σ') (hE : ∀ q ∈ E.2.2.2, q.2.2.2 < k0) (h : OldR E k0 base ad σ s) : OldR E k0 base ad' σ' s := by
  obtain ⟨h1, h2, h3, h4, h5, h6, h7, h8, h9, h10, h11, h12, h13⟩ := h
  obtain ⟨hn, ha, ho⟩ := hx
  have hk : k0 ≤ sN σ := hs.1.2
  have had : ∀ o, o < k0 → ad' o = ad o := fun o h => ha o (Nat.lt_of_lt_of_le h hk)
  have hm : ∀ o j, o < k0 → (sP σ' o j).map ad' = (sP σ o j).map ad := fun o j h => by
    rw [(ho o h).2.2.2]
    cases e : sP σ o j with
    | none => rfl
    | some q => exact congrArg some (ha q (hs.2.2.2.2 o j q e))
  refine ⟨fun o hl hk' => ?_, fun o hl hk' => ?_, fun o hl hk' => ?_, ?_, h5, h6, h7, h8, h9, h10, h11, h12, fun q m => ?_⟩
  · rw [(ho o hl).1] at hk'
    rw [had o hl, (ho o hl).2.2.1, hm o 0 hl]
    exact h1 o hl hk'
  · rw [(ho o hl).1] at hk'
    rw [had o hl, (ho o hl).2.2.1, (ho o hl).2.1]
    exact h2 o hl hk'
  · rw [(ho o hl).1] at hk'
    rw [had o hl, (ho o hl).2.2.1, (ho o hl).2.1]
    exact h3 o hl hk'
  · rw [hm 0 0 hs.1.1]; exact h4
  · rw [had _ (hE q m)]; exact h13 q m
/-- what a frame begun at s knows of the heap H -/
def Rel (E : Env4) (G : GW) (k0 base : Nat) (ad : Nat → Nat) (σ : Sto) (s : State) (H : Heap) (locs : List Loc) : Prop :=
  va_K G.1 vwCl (gty G) s ∧ va_P G.1 vwCl (wl G k0 ad σ) H ∧ va_D (ab base) (wl G k0 ad σ) ∧ va_S (ab base) s.heap H locs ∧ base ≤ s.heap.size ∧ OldR E k0 base ad σ s ∧ ShR k0 σ
/-- what a method leaves -/
def PQ (G : GW) (k0 base : Nat) (ad : Nat → Nat) (σ : Sto) (Q : Out → Sto → Prop) : Array Value → State → Outcome → State → Prop := fun _ s o t =>
  (∃ (v : Option Value) (ad' : Nat → Nat) (σ' : Sto), o = .returned (v.map (tr ad')) ∧ Q (.inl v) σ' ∧ Ext k0 ad σ ad' σ' ∧ va_P G.1 vwCl (wl G k0 ad' σ') t.heap ∧ va_D (ab base) (wl G k0 ad' σ') ∧ ShR k0 σ' ∧ ∀ x, v = some x → vb (sN σ') x ∧ okv x) ∧ va_F (ab base) s t
def PX (xn : Nat → String) (G : GW) (k0 base : Nat) (ad : Nat → Nat) (σ : Sto) (Q : Out → Sto → Prop) : String → State → State → Prop := fun E s t =>
  (∃ (e : Nat) (ad' : Nat → Nat) (σ' : Sto), E = xn e ∧ Q (.inr e) σ' ∧ Ext k0 ad σ ad' σ' ∧ va_P G.1 vwCl (wl G k0 ad' σ') t.heap ∧ va_D (ab base) (wl G k0 ad' σ') ∧ ShR k0 σ') ∧ va_F (ab base) s t
