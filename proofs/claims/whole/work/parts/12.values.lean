/-! ===== values, locals and worlds: what the machine's own state is to ours ===== -/
def tr (ad : Nat → Nat) (v : Value) : Value := match v with
  | .ref k => .ref (ad k)
  | v => v
theorem tr_int (ad : Nat → Nat) (x : Int32) : tr ad (.int x) = .int x := rfl
theorem tr_long (ad : Nat → Nat) (x : Int64) : tr ad (.long x) = .long x := rfl
theorem tr_ref (ad : Nat → Nat) (k : Nat) : tr ad (.ref k) = .ref (ad k) := rfl
theorem tr_null (ad : Nat → Nat) : tr ad .null = .null := rfl
theorem tr_rf (ad : Nat → Nat) (r : Option Nat) : tr ad (va_rf r) = va_rf (r.map ad) := by cases r <;> rfl
theorem tr_cat (ad : Nat → Nat) (v : Value) : (tr ad v).category = v.category := by cases v <;> rfl
theorem vcat_cat (v : Value) : vcat v = v.category := by cases v <;> rfl
theorem tr_sum (ad : Nat → Nat) (st : List Value) : ((st.map (tr ad)).map fun v => v.category).sum = (st.map vcat).sum := by
  induction st with
  | nil => rfl
  | cons v st ih => simp only [List.map_cons, List.sum_cons, ih, tr_cat, vcat_cat]
/-- a reference is of a place below n -/
def vb (n : Nat) (v : Value) : Prop := match v with
  | .ref k => k < n
  | _ => True
theorem vb.mono {n m : Nat} (h : n ≤ m) {v : Value} (hv : vb n v) : vb m v := by
  cases v <;> first | exact trivial | exact Nat.lt_of_lt_of_le hv h
theorem vb_rf {n : Nat} {r : Option Nat} (h : ∀ q, r = some q → q < n) : vb n (va_rf r) := by
  cases r with
  | none => exact trivial
  | some q => exact h q rfl
theorem tr_ext {ad ad' : Nat → Nat} {n : Nat} (h : ∀ k, k < n → ad' k = ad k) {v : Value} (hv : vb n v) : tr ad' v = tr ad v := by
  cases v <;> first | rfl | exact congrArg Value.ref (h _ hv)
theorem tr_exts {ad ad' : Nat → Nat} {n : Nat} (h : ∀ k, k < n → ad' k = ad k) {st : List Value} (hv : ∀ v ∈ st, vb n v) : st.map (tr ad') = st.map (tr ad) := List.map_congr_left fun v m => tr_ext h (hv v m)
/-- the locals -/
def LV (ad : Nat → Nat) (lsM : Array Slot) (nL : Nat) (ls : List Value) : Prop := lsM.size = nL ∧ ls.length ≤ nL ∧ lv_wf lsM ∧ ∀ (i : Nat) (v : Value), ls[i]? = some v → v ≠ .retAddr 0 → lsM[i]? = some (.val (tr ad v))
theorem LV.get {ad : Nat → Nat} {lsM : Array Slot} {nL : Nat} {ls : List Value} (h : LV ad lsM nL ls) {i : Nat} {v : Value} (hv : lget ls i = v) (hn : v ≠ .retAddr 0) : lsM[i]? = some (.val (tr ad v)) := by
  unfold lget at hv
  rw [List.getD_eq_getElem?_getD] at hv
  cases hl : ls[i]? with
  | none => rw [hl] at hv; exact absurd hv.symm hn
  | some w => rw [hl] at hv; cases hv; exact h.2.2.2 i _ hl hn
theorem lget_vb {n : Nat} {ls : List Value} (h : ∀ v ∈ ls, vb n v) (i : Nat) : vb n (lget ls i) := by
  unfold lget
  rw [List.getD_eq_getElem?_getD]
  cases hl : ls[i]? with
  | none => exact trivial
  | some w => exact h w (List.mem_of_getElem? hl)
/-- as the kit's list of pairs -/
def lp (ad : Nat → Nat) (ls : List Value) : List (Nat × Value) := (List.range ls.length).filterMap fun i => match ls[i]? with
  | some v => if v = Value.retAddr 0 then none else some (i, tr ad v)
  | none => none
theorem lp_mem {ad : Nat → Nat} {ls : List Value} {i : Nat} {v : Value} (h : ls[i]? = some v) (hn : v ≠ .retAddr 0) : (i, tr ad v) ∈ lp ad ls := by
  unfold lp
  refine List.mem_filterMap.mpr ⟨i, List.mem_range.mpr (List.getElem?_eq_some_iff.mp h).1, ?_⟩
  rw [h]
  exact if_neg hn
theorem lp_of {ad : Nat → Nat} {ls : List Value} {q : Nat × Value} (h : q ∈ lp ad ls) : ∃ v, ls[q.1]? = some v ∧ v ≠ .retAddr 0 ∧ q.2 = tr ad v := by
  unfold lp at h
  obtain ⟨i, -, hi⟩ := List.mem_filterMap.mp h
  cases e : ls[i]? with
  | none => rw [e] at hi; cases hi
  | some v =>
    rw [e] at hi
    dsimp only at hi
    by_cases hne : v = Value.retAddr 0
    · rw [if_pos hne] at hi; cases hi
    · rw [if_neg hne] at hi; cases hi; exact ⟨_, e, hne, rfl⟩
theorem LV.has {ad : Nat → Nat} {lsM : Array Slot} {nL : Nat} {ls : List Value} (h : LV ad lsM nL ls) : lv_has lsM nL (lp ad ls) := by
  refine ⟨h.1, h.2.2.1, fun q hq => ?_⟩
  obtain ⟨v, h1, h2, h3⟩ := lp_of hq
  rw [h3]
  exact h.2.2.2 _ _ h1 h2
theorem lclr_len (ls : List Value) (i : Nat) : (lclr ls i).length = ls.length := by
  cases i with
  | zero => rfl
  | succ i => unfold lclr; dsimp only; split <;> simp
theorem lset_len (ls : List Value) (i : Nat) (v : Value) : (lset ls i v).length = ls.length := by unfold lset; rw [List.length_set, lclr_len]
theorem lset2_len (ls : List Value) (i : Nat) (v : Value) : (lset2 ls i v).length = ls.length := by unfold lset2; rw [List.length_set, List.length_set, lclr_len]
theorem lclr_get {ls : List Value} {i j : Nat} {v : Value} (h : (lclr ls i)[j]? = some v) (hn : v ≠ .retAddr 0) : ls[j]? = some v ∧ ¬ (j + 1 = i ∧ v.category = 2) := by
  cases i with
  | zero => exact ⟨h, fun q => by omega⟩
  | succ i =>
    unfold lclr at h
    dsimp only at h
    have key : ∀ w : List Value, w = ls.set i (.retAddr 0) → w[j]? = some v → ls[j]? = some v ∧ ¬ (j + 1 = i + 1 ∧ v.category = 2) := by
      intro w e h
      rw [e, List.getElem?_set] at h
      split at h
      · split at h
        · cases h; exact absurd rfl hn
        · cases h
      · rename_i hne
        exact ⟨h, fun q => hne (by omega)⟩
    split at h
    · exact key _ rfl h
    · exact key _ rfl h
    · rename_i hx hy
      refine ⟨h, fun q => ?_⟩
      have e : j = i := by omega
      subst e
      have hg : lget ls j = v := by unfold lget; rw [List.getD_eq_getElem?_getD, h]; rfl
      cases v with
      | long x => exact hx x hg
      | double x => exact hy x hg
      | _ => simp [Value.category] at q
/-- a store of one word -/
theorem LV.set1 {ad : Nat → Nat} {lsM : Array Slot} {nL : Nat} {ls : List Value} {i : Nat} {v : Value} (hl : ls.length ≤ nL) (hi : i < ls.length) (hc : v.category = 1)
    (h : lv_has lsM nL ((i, tr ad v) :: (lp ad ls).filter (fun q => !(q.1 == i) && !(q.1 + 1 == i && q.2.category == 2)))) : LV ad lsM nL (lset ls i v) := by
  refine ⟨h.1, by rw [lset_len]; exact hl, h.2.1, fun j w hj hn => ?_⟩
  unfold lset at hj
  rw [List.getElem?_set] at hj
  split at hj
  · rename_i e
    subst e
    split at hj
    · cases hj; exact h.2.2 _ List.mem_cons_self
    · cases hj
  · rename_i hne
    obtain ⟨h1, h2⟩ := lclr_get hj hn
    refine h.2.2 (j, tr ad w) (List.mem_cons_of_mem _ (List.mem_filter.mpr ⟨lp_mem h1 hn, ?_⟩))
    have e1 : (j == i) = false := by simp; exact fun e => hne e.symm
    dsimp only
    rw [e1, tr_cat]
    by_cases q1 : j + 1 = i
    · have q2 : ¬ w.category = 2 := fun q => h2 ⟨q1, q⟩
      simp [q2]
    · simp [q1]
/-- a store of two words -/
theorem LV.set2 {ad : Nat → Nat} {lsM : Array Slot} {nL : Nat} {ls : List Value} {i : Nat} {v : Value} (hl : ls.length ≤ nL) (hi : i + 1 < ls.length)
    (h : lv_has lsM nL ((i, tr ad v) :: (lp ad ls).filter (fun q => !(q.1 == i) && (!(q.1 == i + 1) && !(q.1 + 1 == i && q.2.category == 2))))) : LV ad lsM nL (lset2 ls i v) := by
  refine ⟨h.1, by rw [lset2_len]; exact hl, h.2.1, fun j w hj hn => ?_⟩
  unfold lset2 at hj
  rw [List.getElem?_set] at hj
  split at hj
  · split at hj
    · cases hj; exact absurd rfl hn
    · cases hj
  · rename_i hne2
    rw [List.getElem?_set] at hj
    split at hj
    · rename_i e
      subst e
      split at hj
      · cases hj; exact h.2.2 _ List.mem_cons_self
      · cases hj
    · rename_i hne
      obtain ⟨h1, h2⟩ := lclr_get hj hn
      refine h.2.2 (j, tr ad w) (List.mem_cons_of_mem _ (List.mem_filter.mpr ⟨lp_mem h1 hn, ?_⟩))
      have e1 : (j == i) = false := by simp; exact fun e => hne e.symm
      have e2 : (j == i + 1) = false := by simp; exact fun e => hne2 e.symm
      dsimp only
      rw [e1, e2, tr_cat]
      by_cases q1 : j + 1 = i
      · have q2 : ¬ w.category = 2 := fun q => h2 ⟨q1, q⟩
        simp [q2]
      · simp [q1]
theorem lset_vb {n : Nat} {ls : List Value} {i : Nat} {v : Value} (h : ∀ w ∈ ls, vb n w) (hv : vb n v) : ∀ w ∈ lset ls i v, vb n w := by
  have hc : ∀ w ∈ lclr ls i, vb n w := by
    intro w hw
    cases i with
    | zero => exact h w hw
    | succ i =>
      unfold lclr at hw
      dsimp only at hw
      split at hw <;> first | exact h w hw | (rcases List.mem_or_eq_of_mem_set hw with q | q; exact h w q; rw [q]; exact trivial)
  intro w hw
  rcases List.mem_or_eq_of_mem_set hw with q | q
  · exact hc w q
  · rw [q]; exact hv
theorem lset2_vb {n : Nat} {ls : List Value} {i : Nat} {v : Value} (h : ∀ w ∈ ls, vb n w) (hv : vb n v) : ∀ w ∈ lset2 ls i v, vb n w := by
  intro w hw
  rcases List.mem_or_eq_of_mem_set hw with q | q
  · exact lset_vb h hv w q
  · rw [q]; exact trivial
/-- a method's entry -/
theorem lsl_sl (ad : Nat → Nat) (vs : List Value) (hv : ∀ v ∈ vs, okv v) : ∀ (i : Nat) (v : Value), (lsl vs)[i]? = some v → v ≠ .retAddr 0 → (lg_sl (vs.map (tr ad)))[i]? = some (.val (tr ad v)) := by
  induction vs with
  | nil => intro i v h; cases i <;> cases h
  | cons x r ih =>
    intro i v h hn
    have hr := ih fun v m => hv v (List.mem_cons_of_mem _ m)
    have hx := hv x List.mem_cons_self
    cases x with
    | long x =>
      match i, h with
      | 0, h => cases h; rfl
      | 1, h => cases h; exact absurd rfl hn
      | i + 2, h => exact hr i v h hn
    | int x =>
      match i, h with
      | 0, h => cases h; rfl
      | i + 1, h => exact hr i v h hn
    | ref x =>
      match i, h with
      | 0, h => cases h; rfl
      | i + 1, h => exact hr i v h hn
    | null =>
      match i, h with
      | 0, h => cases h; rfl
      | i + 1, h => exact hr i v h hn
    | _ => exact hx.elim
theorem lsl_len (ad : Nat → Nat) (vs : List Value) (hv : ∀ v ∈ vs, okv v) : (lg_sl (vs.map (tr ad))).length = (lsl vs).length := by
  induction vs with
  | nil => rfl
  | cons x r ih =>
    have hr := ih fun v m => hv v (List.mem_cons_of_mem _ m)
    have hx := hv x List.mem_cons_self
    have e : (lg_sl ((x :: r).map (tr ad))) = (if (tr ad x).category = 2 then [Slot.val (tr ad x), .second] else [.val (tr ad x)]) ++ lg_sl (r.map (tr ad)) := rfl
    cases x with
    | long x => rw [e]; simp [tr, Value.category, lsl, hr]
    | int x => rw [e]; simp [tr, Value.category, lsl, hr]
    | ref x => rw [e]; simp [tr, Value.category, lsl, hr]
    | null => rw [e]; simp [tr, Value.category, lsl, hr]
    | _ => exact hx.elim
theorem LV.entry (ad : Nat → Nat) {vs : List Value} {n : Nat} (hv : ∀ v ∈ vs, okv v) (h : (lsl vs).length ≤ n) : LV ad ((lg_sl (vs.map (tr ad)) ++ List.replicate (n - (lg_sl (vs.map (tr ad))).length) Slot.unset).toArray) n (lent vs n) := by
  have hl := lsl_len ad vs hv
  obtain ⟨h1, h2, -⟩ := lv_entry (vs.map (tr ad)) (n := n) (by rw [hl]; exact h)
  refine ⟨h1, by unfold lent; simp; omega, h2, fun i v hi hn => ?_⟩
  unfold lent at hi
  by_cases hlt : i < (lsl vs).length
  · rw [List.getElem?_append_left hlt] at hi
    have := lsl_sl ad vs hv i v hi hn
    rw [List.getElem?_toArray, List.getElem?_append_left (by rw [hl]; exact hlt)]
    exact this
  · rw [List.getElem?_append_right (by omega), List.getElem?_replicate] at hi
    split at hi
    · cases hi; exact absurd rfl hn
    · cases hi
theorem lent_vb {n m : Nat} {vs : List Value} (h : ∀ v ∈ vs, vb m v) : ∀ v ∈ lent vs n, vb m v := by
  have hs : ∀ v ∈ lsl vs, vb m v := by
    induction vs with
    | nil => intro v hv; cases hv
    | cons x r ih =>
      have hr := ih fun v k => h v (List.mem_cons_of_mem _ k)
      have hx := h x List.mem_cons_self
      intro v hv
      cases x with
      | long x =>
        rcases List.mem_cons.mp hv with q | q
        · rw [q]; exact trivial
        · rcases List.mem_cons.mp q with q | q
          · rw [q]; exact trivial
          · exact hr v q
      | _ =>
        rcases List.mem_cons.mp hv with q | q
        · rw [q]; exact hx
        · exact hr v q
  intro v hv
  unfold lent at hv
  rcases List.mem_append.mp hv with q | q
  · exact hs v q
  · rw [(List.mem_replicate.mp q).2]; exact trivial
