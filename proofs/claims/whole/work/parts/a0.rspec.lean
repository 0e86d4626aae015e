/-! ===== rules: what is read, how long, and what it says ===== -/
variable {tx : Mem} {n p q : Nat}
theorem rPart_b {b : Nat × Nat} (hp : p ≤ n) (h : rPart tx n p = .inr (b, q)) : p < q ∧ q ≤ n ∧ b.1 ≤ 6 ∧ b.2 ≤ 999999 := by
  have W : ∀ {w : List Nat}, isW tx n p w = true → 0 < w.length → p < aftW tx n p ∧ aftW tx n p ≤ n := fun h hw => ⟨(isW_aft hp h hw).1, (aftW_b hp).2⟩
  unfold rPart at h
  split at h
  · have := W ‹isW tx n p _ = true› (by decide); cases h; exact ⟨this.1, this.2, by dsimp only; omega, by dsimp only; omega⟩
  split at h
  · have := W ‹isW tx n p _ = true› (by decide); cases h; exact ⟨this.1, this.2, by dsimp only; omega, by dsimp only; omega⟩
  split at h
  · have := W ‹isW tx n p _ = true› (by decide); cases h; exact ⟨this.1, this.2, by dsimp only; omega, by dsimp only; omega⟩
  split at h
  · have := W ‹isW tx n p _ = true› (by decide); cases h; exact ⟨this.1, this.2, by dsimp only; omega, by dsimp only; omega⟩
  split at h
  · have := W ‹isW tx n p _ = true› (by decide)
    obtain ⟨v, q1, t, h⟩ := bnd_i h
    have b := tN_b this.2 t
    cases h; exact ⟨by omega, by omega, by dsimp only; omega, by dsimp only; omega⟩
  split at h
  · have := W ‹isW tx n p _ = true› (by decide)
    obtain ⟨v, q1, t, h⟩ := bnd_i h
    have b := tN_b this.2 t
    cases h; exact ⟨by omega, by omega, by dsimp only; omega, by dsimp only; omega⟩
  · obtain ⟨v, q1, t, h⟩ := bnd_i h
    have b := tN_b hp t
    cases h; exact ⟨by omega, by omega, by dsimp only; omega, by dsimp only; omega⟩
theorem isS_lt {c : Nat} (h : isS tx n p c = true) : p < n := by unfold isS at h; simp at h; exact h.1
/-- stack machine: how the parts are joined -/
def stC (e : Env) (c : Nat × Nat) (st : List Int32) : Option (List Int32) :=
  if c.1 < 8 then (if st.length < 24 then some (e c.1 c.2 :: st) else none)
  else if c.1 = 8 then (match st with | x :: s => some ((J 1 - x) :: s) | _ => none)
  else match st with
    | y :: x :: s => some ((if c.1 = 9 then x + y else if c.1 = 10 then (if x < y then J 1 else J 0) else if c.1 = 11 then (if y < x then J 1 else J 0) else if c.1 = 12 then x &&& y else x ||| y) :: s)
    | _ => none
def rnC (e : Env) : List (Nat × Nat) → List Int32 → Option (List Int32)
  | [], st => some st
  | c :: r, st => (stC e c st).bind (rnC e r)
theorem rnC_app {e : Env} {b : List (Nat × Nat)} : ∀ (a : List (Nat × Nat)) (st : List Int32), rnC e (a ++ b) st = (rnC e a st).bind (rnC e b) := by
  intro a
  induction a with
  | nil => intro st; rfl
  | cons c r ih =>
    intro st
    show (stC e c st).bind (rnC e (r ++ b)) = ((stC e c st).bind (rnC e r)).bind (rnC e b)
    cases stC e c st with
    | none => rfl
    | some s => exact ih s
/-- the codes say v, and want so many places of the stack -/
def SAY (a : CVl) (m : Nat) : Prop := ∀ e st, st.length + m ≤ 24 → rnC e a.1 st = some (a.2 e :: st)
theorem SAY.up {a : CVl} {m m2 : Nat} (h : SAY a m) (hm : m ≤ m2) : SAY a m2 := fun e st k => h e st (by omega)
def COK (a : CVl) (p q n : Nat) : Prop := p + a.1.length ≤ q ∧ q ≤ n ∧ p < q ∧ ∀ c, c ∈ a.1 → c.1 < 16 ∧ c.2 ≤ 999999
theorem two_codes {a b : CVl} {k m m2 : Nat} {f : Int32 → Int32 → Int32} (hk : 9 ≤ k ∧ k ≤ 13) (hf : ∀ x y, f x y = (if k = 9 then x + y else if k = 10 then (if x < y then J 1 else J 0) else if k = 11 then (if y < x then J 1 else J 0) else if k = 12 then x &&& y else x ||| y)) (ha : SAY a m) (hb : SAY b m2) (hm : m ≤ 24) (h1 : m2 + 1 ≤ m) : SAY (a.1 ++ b.1 ++ [(k, 0)], fun e => f (a.2 e) (b.2 e)) m := by
  intro e st hst
  show rnC e (a.1 ++ b.1 ++ [(k, 0)]) st = _
  rw [rnC_app, rnC_app, ha e st hst]
  show ((rnC e b.1 (a.2 e :: st))).bind (rnC e [(k, 0)]) = _
  rw [hb e (a.2 e :: st) (by show st.length + 1 + m2 ≤ 24; omega)]
  show (stC e (k, 0) (b.2 e :: a.2 e :: st)).bind (rnC e []) = _
  unfold stC
  rw [if_neg (by show ¬ k < 8; omega), if_neg (by show ¬ k = 8; omega)]
  show some _ = some (f (a.2 e) (b.2 e) :: st)
  rw [hf]
theorem rSumL_s {b0 : Nat × Nat} : ∀ f (a : CVl) p (x : CVl) q, p ≤ n → SAY a 2 → rSumL tx n f a p = .inr (x, q) → SAY x 2 ∧ (p + x.1.length ≤ q + a.1.length) ∧ q ≤ n ∧ p ≤ q ∧ ((∀ c, c ∈ a.1 → c.1 < 16 ∧ c.2 ≤ 999999) → ∀ c, c ∈ x.1 → c.1 < 16 ∧ c.2 ≤ 999999) := by
  intro f
  induction f with
  | zero => intro a p x q _ _ h; cases h
  | succ f ih =>
    intro a p x q hp ha h
    unfold rSumL at h
    split at h
    · rename_i c
      have hb := aftS_b (tx := tx) (isS_lt c)
      obtain ⟨b, q1, t, h⟩ := bnd_i h
      have b1 := rPart_b hb.2 t
      have hb1 : SAY ([b], fun e => e b.1 b.2) 1 := fun e st hst => by
        show (stC e b st).bind (rnC e []) = _
        unfold stC
        rw [if_pos (by omega), if_pos (by omega)]; rfl
      have e2 : a.1 ++ [b, (9, 0)] = a.1 ++ [b] ++ [(9, 0)] := by rw [List.append_assoc]; rfl
      have h2 := ih _ _ _ _ b1.2.1 (by rw [e2]; exact two_codes (f := fun x y => x + y) (by omega) (fun x y => rfl) ha hb1 (by omega) (by omega)) h
      refine ⟨h2.1, ?_, h2.2.2.1, by omega, fun hc => h2.2.2.2.2 (fun c hm => ?_)⟩
      · have := h2.2.1
        rw [List.length_append] at this
        have e3 : ([b, (9, 0)] : List (Nat × Nat)).length = 2 := rfl
        omega
      · rcases List.mem_append.mp hm with k | k
        · exact hc c k
        · rcases List.mem_cons.mp k with k | k
          · rw [k]; omega
          · rw [List.mem_singleton.mp k]; exact ⟨by decide, by decide⟩
    · cases h; exact ⟨ha, Nat.le_refl _, hp, Nat.le_refl _, fun hc => hc⟩
theorem rSum_s {x : CVl} (hp : p ≤ n) (h : rSum tx n p = .inr (x, q)) : SAY x 2 ∧ COK x p q n := by
  unfold rSum at h
  obtain ⟨b, q1, t, h⟩ := bnd_i h
  have b1 := rPart_b hp t
  have hb1 : SAY ([b], fun e => e b.1 b.2) 2 := fun e st hst => by
    show (stC e b st).bind (rnC e []) = _
    unfold stC
    rw [if_pos (by omega), if_pos (by omega)]; rfl
  have h2 := rSumL_s (b0 := b) _ _ _ _ _ b1.2.1 hb1 h
  refine ⟨h2.1, ?_, h2.2.2.1, by omega, h2.2.2.2.2 (fun c hm => by rw [List.mem_singleton.mp hm]; omega)⟩
  have := h2.2.1
  have e3 : ([b] : List (Nat × Nat)).length = 1 := rfl
  dsimp only at this
  omega
theorem cod_app {a b : List (Nat × Nat)} {k : Nat} (hk : k < 16) (ha : ∀ c, c ∈ a → c.1 < 16 ∧ c.2 ≤ 999999) (hb : ∀ c, c ∈ b → c.1 < 16 ∧ c.2 ≤ 999999) : ∀ c, c ∈ a ++ b ++ [(k, 0)] → c.1 < 16 ∧ c.2 ≤ 999999 := by
  intro c hm
  rcases List.mem_append.mp hm with h | h
  · rcases List.mem_append.mp h with h | h
    · exact ha c h
    · exact hb c h
  · rw [List.mem_singleton.mp h]; exact ⟨hk, Nat.zero_le _⟩
theorem len3 {a b : List (Nat × Nat)} {c : Nat × Nat} : (a ++ b ++ [c]).length = a.length + b.length + 1 := by rw [List.length_append, List.length_append]; rfl
theorem rCmp_s {x : CVl} (hp : p ≤ n) (h : rCmp tx n p = .inr (x, q)) : SAY x 3 ∧ COK x p q n := by
  unfold rCmp at h
  obtain ⟨a, q1, t, h⟩ := bnd_i h
  have a1 := rSum_s hp t
  split at h
  · rename_i c
    have hb := aftS_b (tx := tx) (isS_lt c)
    obtain ⟨b, q2, t2, h⟩ := bnd_i h
    have b1 := rSum_s hb.2 t2
    cases h
    refine ⟨two_codes (f := fun x y => if x < y then J 1 else J 0) (by omega) (fun x y => rfl) (a1.1.up (by omega)) b1.1 (by omega) (by omega), ?_, b1.2.2.1, ?_, cod_app (by omega) a1.2.2.2.2 b1.2.2.2.2⟩
    · have := a1.2.1; have := b1.2.1; rw [len3]; omega
    · have := a1.2.2.2.1; have := b1.2.2.2.1; omega
  split at h
  · rename_i c
    have hb := aftS_b (tx := tx) (isS_lt c)
    obtain ⟨b, q2, t2, h⟩ := bnd_i h
    have b1 := rSum_s hb.2 t2
    cases h
    refine ⟨two_codes (f := fun x y => if y < x then J 1 else J 0) (by omega) (fun x y => rfl) (a1.1.up (by omega)) b1.1 (by omega) (by omega), ?_, b1.2.2.1, ?_, cod_app (by omega) a1.2.2.2.2 b1.2.2.2.2⟩
    · have := a1.2.1; have := b1.2.1; rw [len3]; omega
    · have := a1.2.2.2.1; have := b1.2.2.2.1; omega
  · cases h
/-- numbers that are truth values, where what a part says of 'wet' is one -/
def BOO (a : CVl) : Prop := ∀ e : Env, (∀ k, e 7 k = J 0 ∨ e 7 k = J 1) → a.2 e = J 0 ∨ a.2 e = J 1
theorem ite01 {c : Prop} [Decidable c] : (if c then J 1 else J 0) = J 0 ∨ (if c then J 1 else J 0) = J 1 := by
  by_cases h : c
  · rw [if_pos h]; exact Or.inr rfl
  · rw [if_neg h]; exact Or.inl rfl
theorem rPlain_s {x : CVl} (hp : p ≤ n) (h : rPlain tx n p = .inr (x, q)) : SAY x 3 ∧ COK x p q n ∧ BOO x := by
  unfold rPlain at h
  split at h
  · rename_i c
    have hw := isW_aft hp c (by decide)
    have hw2 := aftW_b (tx := tx) hp
    obtain ⟨v, q1, t, h⟩ := bnd_i h
    have b := tN_b hw2.2 t
    cases h
    refine ⟨fun e st hst => ?_, ⟨?_, by omega, by omega, fun c hm => ?_⟩, fun e he => he v⟩
    · show (stC e (7, v) st).bind (rnC e []) = _
      unfold stC
      rw [if_pos (by show 7 < 8; omega), if_pos (by omega)]; rfl
    · show p + 1 ≤ q; omega
    · rw [List.mem_singleton.mp hm]; exact ⟨by show 7 < 16; omega, by show v ≤ 999999; omega⟩
  · have := rCmp_s hp h
    refine ⟨this.1, this.2, ?_⟩
    unfold rCmp at h
    obtain ⟨a, q1, t, h⟩ := bnd_i h
    split at h
    · obtain ⟨b, q2, t2, h⟩ := bnd_i h
      cases h; exact fun e _ => ite01
    split at h
    · obtain ⟨b, q2, t2, h⟩ := bnd_i h
      cases h; exact fun e _ => ite01
    · cases h
/-- an atom's promise -/
def ATM (tx : Mem) (n : Nat) (atom : Nat → Rs CVl) (m : Nat) : Prop := ∀ p x q, p ≤ n → atom p = .inr (x, q) → SAY x m ∧ COK x p q n ∧ BOO x
theorem and01 {x y : Int32} (hx : x = J 0 ∨ x = J 1) (hy : y = J 0 ∨ y = J 1) : (x &&& y = J 0 ∨ x &&& y = J 1) ∧ (x ||| y = J 0 ∨ x ||| y = J 1) := by
  rcases hx with rfl | rfl <;> rcases hy with rfl | rfl <;> exact ⟨by decide, by decide⟩
theorem rEvL_s {atom : Nat → Rs CVl} {m : Nat} (hm : m + 1 ≤ 24) (hA : ATM tx n atom m) : ∀ f (a : CVl) p (x : CVl) q, p ≤ n → SAY a (m + 1) → BOO a → (∀ c, c ∈ a.1 → c.1 < 16 ∧ c.2 ≤ 999999) → rEvL tx n atom f a p = .inr (x, q) → SAY x (m + 1) ∧ BOO x ∧ p + x.1.length ≤ q + a.1.length ∧ q ≤ n ∧ p ≤ q ∧ ∀ c, c ∈ x.1 → c.1 < 16 ∧ c.2 ≤ 999999 := by
  intro f
  induction f with
  | zero => intro a p x q _ _ _ _ h; cases h
  | succ f ih =>
    intro a p x q hp ha hbo hc h
    unfold rEvL at h
    split at h
    · rename_i c
      have hw := isW_aft hp c (by decide)
      have hw2 := aftW_b (tx := tx) hp
      obtain ⟨b, q1, t, h⟩ := bnd_i h
      have b1 := hA _ _ _ hw2.2 t
      have h2 := ih _ _ _ _ b1.2.1.2.1 (two_codes (f := fun x y => x &&& y) (by omega) (fun x y => rfl) ha b1.1 hm (by omega)) (fun e he => (and01 (hbo e he) (b1.2.2 e he)).1) (cod_app (by omega) hc b1.2.1.2.2.2) h
      refine ⟨h2.1, h2.2.1, ?_, h2.2.2.2.1, ?_, h2.2.2.2.2.2⟩
      · have := h2.2.2.1; have := b1.2.1.1; rw [len3] at *; omega
      · have := h2.2.2.2.2.1; have := b1.2.1.2.2.1; omega
    · cases h; exact ⟨ha, hbo, Nat.le_refl _, hp, Nat.le_refl _, hc⟩
theorem rEv_s {atom : Nat → Rs CVl} {m : Nat} (hm : m + 1 ≤ 24) (hA : ATM tx n atom m) : ATM tx n (rEv tx n atom) (m + 1) := by
  intro p x q hp h
  unfold rEv at h
  obtain ⟨b, q1, t, h⟩ := bnd_i h
  have b1 := hA _ _ _ hp t
  have h2 := rEvL_s hm hA _ _ _ _ _ b1.2.1.2.1 (b1.1.up (by omega)) b1.2.2 b1.2.1.2.2.2 h
  refine ⟨h2.1, ⟨?_, h2.2.2.2.1, ?_, h2.2.2.2.2.2⟩, h2.2.1⟩
  · have := h2.2.2.1; have := b1.2.1.1; omega
  · have := h2.2.2.2.2.1; have := b1.2.1.2.2.1; omega
theorem rSoL_s {atom : Nat → Rs CVl} {m : Nat} (hm : m + 2 ≤ 24) (hA : ATM tx n atom m) : ∀ f (a : CVl) p (x : CVl) q, p ≤ n → SAY a (m + 2) → BOO a → (∀ c, c ∈ a.1 → c.1 < 16 ∧ c.2 ≤ 999999) → rSoL tx n atom f a p = .inr (x, q) → SAY x (m + 2) ∧ BOO x ∧ p + x.1.length ≤ q + a.1.length ∧ q ≤ n ∧ p ≤ q ∧ ∀ c, c ∈ x.1 → c.1 < 16 ∧ c.2 ≤ 999999 := by
  intro f
  induction f with
  | zero => intro a p x q _ _ _ _ h; cases h
  | succ f ih =>
    intro a p x q hp ha hbo hc h
    unfold rSoL at h
    split at h
    · rename_i c
      have hw := isW_aft hp c (by decide)
      have hw2 := aftW_b (tx := tx) hp
      obtain ⟨b, q1, t, h⟩ := bnd_i h
      have b1 := rEv_s (by omega) hA _ _ _ hw2.2 t
      have h2 := ih _ _ _ _ b1.2.1.2.1 (two_codes (f := fun x y => x ||| y) (by omega) (fun x y => rfl) ha b1.1 hm (by omega)) (fun e he => (and01 (hbo e he) (b1.2.2 e he)).2) (cod_app (by omega) hc b1.2.1.2.2.2) h
      refine ⟨h2.1, h2.2.1, ?_, h2.2.2.2.1, ?_, h2.2.2.2.2.2⟩
      · have := h2.2.2.1; have := b1.2.1.1; rw [len3] at *; omega
      · have := h2.2.2.2.2.1; have := b1.2.1.2.2.1; omega
    · cases h; exact ⟨ha, hbo, Nat.le_refl _, hp, Nat.le_refl _, hc⟩
theorem rAny_s {atom : Nat → Rs CVl} {m : Nat} (hm : m + 2 ≤ 24) (hA : ATM tx n atom m) : ATM tx n (rAny tx n atom) (m + 2) := by
  intro p x q hp h
  unfold rAny at h
  obtain ⟨b, q1, t, h⟩ := bnd_i h
  have b1 := rEv_s (by omega) hA _ _ _ hp t
  have h2 := rSoL_s hm hA _ _ _ _ _ b1.2.1.2.1 (b1.1.up (by omega)) b1.2.2 b1.2.1.2.2.2 h
  refine ⟨h2.1, ⟨?_, h2.2.2.2.1, ?_, h2.2.2.2.2.2⟩, h2.2.1⟩
  · have := h2.2.2.1; have := b1.2.1.1; omega
  · have := h2.2.2.2.2.1; have := b1.2.1.2.2.1; omega
theorem rAtom_s : ∀ k, k ≤ 6 → ATM tx n (rAtom tx n k) (3 + 2 * k) := by
  intro k
  induction k with
  | zero =>
    intro _ p x q hp h
    unfold rAtom at h
    split at h
    · cases h
    · exact rPlain_s hp h
  | succ k ih =>
    intro hk p x q hp h
    have ih := ih (by omega)
    unfold rAtom at h
    split at h
    · rename_i c
      have hw := isW_aft hp c (by decide)
      have hw2 := aftW_b (tx := tx) hp
      obtain ⟨a, q1, t, h⟩ := bnd_i h
      have a1 := ih _ _ _ hw2.2 t
      cases h
      refine ⟨fun e st hst => ?_, ⟨?_, a1.2.1.2.1, ?_, fun c hm => ?_⟩, fun e he => ?_⟩
      · show rnC e (a.1 ++ [(8, 0)]) st = _
        rw [rnC_app, a1.1 e st (by omega)]; rfl
      · have := a1.2.1.1
        show p + (a.1 ++ [(8, 0)]).length ≤ q
        rw [List.length_append]
        show p + (a.1.length + 1) ≤ q
        omega
      · have := a1.2.1.2.2.1; omega
      · rcases List.mem_append.mp hm with h | h
        · exact a1.2.1.2.2.2 c h
        · rw [List.mem_singleton.mp h]; exact ⟨by decide, by decide⟩
      · show J 1 - a.2 e = J 0 ∨ J 1 - a.2 e = J 1
        rcases a1.2.2 e he with h | h <;> rw [h]
        · exact Or.inr (by decide)
        · exact Or.inl (by decide)
    split at h
    · rename_i c
      have hb := aftS_b (tx := tx) (isS_lt c)
      obtain ⟨a, q1, t, h⟩ := bnd_i h
      have a1 := rAny_s (by omega) ih _ _ _ hb.2 t
      split at h
      · rename_i c2
        have hb2 := aftS_b (tx := tx) (isS_lt c2)
        cases h
        refine ⟨a1.1.up (by omega), ⟨?_, hb2.2, ?_, a1.2.1.2.2.2⟩, a1.2.2⟩
        · have := a1.2.1.1; omega
        · have := a1.2.1.2.2.1; omega
      · cases h
    · have := rPlain_s hp h
      exact ⟨this.1.up (by omega), this.2.1, this.2.2⟩
theorem rTop_s : ATM tx n (rAny tx n (rAtom tx n 6)) 17 := rAny_s (by omega) (rAtom_s 6 (by omega))
