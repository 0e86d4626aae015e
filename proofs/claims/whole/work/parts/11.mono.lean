theorem wcall_mono {T : Tab} {k k' : Nat → List Value → List Value → Nat × Nat → Sto → Prop} {call call' : Nat → Nat × Nat → List Value → (Out → Sto → Prop) → Sto → Prop} {B : Nat × Nat} {mt pc : Nat} {ls st : List Value} {σ : Sto} {Q Q' : Out → Sto → Prop} {m2 ck : Nat}
    (hk : ∀ pc ls st B σ, k pc ls st B σ → k' pc ls st B σ) (hc : ∀ m2 B2 l2 Q2 Q2' σ, (∀ o σ, Q2 o σ → Q2' o σ) → call m2 B2 l2 Q2 σ → call' m2 B2 l2 Q2' σ) (hQ : ∀ o σ, Q o σ → Q' o σ)
    (h : wcall T k call B mt pc ls st σ Q m2 ck) : wcall T k' call' B mt pc ls st σ Q' m2 ck := by
  obtain ⟨h0, mc, ms, h1, h2, h3⟩ := h
  refine ⟨h0, mc, ms, h1, h2, hc _ _ _ _ _ _ (fun o σ' h => ?_) h3⟩
  rcases o with (_ | v) | e
  · exact hk _ _ _ _ _ h
  · exact hk _ _ _ _ _ h
  · refine ⟨h.1, ?_⟩
    have h := h.2
    split at h
    · exact hQ _ _ h
    · exact hQ _ _ h
theorem fput_mono {σ : Sto} {tag o j : Nat} {v : Value} {k k' : Sto → Prop} (hk : ∀ σ, k σ → k' σ) (h : fput σ tag o j v k) : fput σ tag o j v k' := by
  unfold fput at h ⊢
  repeat' split at h
  all_goals first | exact h.elim | exact hk _ h | exact ⟨h.1, hk _ h.2⟩
theorem wmath_mono {k k' : Nat → List Value → List Value → Nat × Nat → Sto → Prop} {d : Nat} {B : Nat × Nat} {pc : Nat} {ls st : List Value} {σ : Sto} {ck : Nat} (hk : ∀ pc ls st B σ, k pc ls st B σ → k' pc ls st B σ) (h : wmath k d B pc ls st σ ck) : wmath k' d B pc ls st σ ck := by
  unfold wmath at h ⊢
  split at h
  all_goals first
    | exact h.elim
    | (split at h <;> first | exact h.elim | exact ⟨h.1, hk _ _ _ _ _ h.2⟩)
set_option maxHeartbeats 4000000 in
theorem stp_mono {T : Tab} {k k' : Nat → List Value → List Value → Nat × Nat → Sto → Prop} {call call' : Nat → Nat × Nat → List Value → (Out → Sto → Prop) → Sto → Prop} {d : Nat} {B : Nat × Nat} {mt pc : Nat} {ls st : List Value} {σ : Sto} {Q Q' : Out → Sto → Prop}
    (hk : ∀ pc ls st B σ, k pc ls st B σ → k' pc ls st B σ) (hc : ∀ m2 B2 l2 Q2 Q2' σ, (∀ o σ, Q2 o σ → Q2' o σ) → call m2 B2 l2 Q2 σ → call' m2 B2 l2 Q2' σ) (hQ : ∀ o σ, Q o σ → Q' o σ)
    (h : stp T k call d B mt pc ls st σ Q) : stp T k' call' d B mt pc ls st σ Q' := by
  unfold stp at h ⊢
  cases hop : tOp T mt pc with
  | none => rw [hop] at h; exact h
  | some i =>
    rw [hop] at h
    cases i
    all_goals dsimp only at h ⊢
    all_goals first
      | exact h.elim
      | exact hk _ _ _ _ _ h
      | skip
    all_goals repeat' split at h
    all_goals first
      | exact h.elim
      | exact hk _ _ _ _ _ h
      | exact hQ _ _ h
      | exact ⟨h.1, hk _ _ _ _ _ h.2⟩
      | exact ⟨h.1, hQ _ _ h.2⟩
      | exact ⟨fun c => hk _ _ _ _ _ (h.1 c), fun c => hk _ _ _ _ _ (h.2 c)⟩
      | exact ⟨h.1, fput_mono (fun σ h => hk _ _ _ _ _ h) h.2⟩
      | exact ⟨h.1, wcall_mono hk hc hQ h.2⟩
      | (rw [if_pos (by assumption)]; exact ⟨h.1, hk _ _ _ _ _ h.2⟩)
      | (rw [if_neg (by assumption)]; exact ⟨h.1, hQ _ _ h.2⟩)
      | (rw [if_neg (by assumption)]; exact ⟨h.1, wcall_mono hk hc hQ h.2⟩)
      | (rw [if_neg (by assumption), if_pos (by assumption)]; exact wmath_mono hk h)
      | (rw [if_neg (by assumption), if_neg (by assumption)]; exact ⟨h.1, wcall_mono hk hc hQ h.2⟩)
      | exact ⟨fun c => hk _ _ _ _ _ (h.1 c), fun c => (h.2 c).elim⟩
      | exact h.2.elim
      | (obtain ⟨h1, q, h2, h3⟩ := h; exact ⟨h1, q, h2, hk _ _ _ _ _ h3⟩)
      | (obtain ⟨q, h2, h3⟩ := h; exact ⟨q, h2, hk _ _ _ _ _ h3⟩)
      | (refine ⟨h.1, ?_⟩; have h := h.2; split at h <;> first | exact hk _ _ _ _ _ h | (obtain ⟨q, h2, h3⟩ := h; exact ⟨q, h2, hk _ _ _ _ _ h3⟩))
      | (refine ⟨h.1, ?_⟩; have h := h.2; split at h <;> first | exact hk _ _ _ _ _ h | exact h.elim | (cases h))
/-- the machine's runs: the least predicate that its steps close -/
abbrev WX : Type := Nat → Nat × Nat → Nat → Nat → List Value → List Value → Sto → (Out → Sto → Prop) → Prop
def wx_call (X : WX) (d : Nat) : Nat → Nat × Nat → List Value → (Out → Sto → Prop) → Sto → Prop := fun m2 B2 l2 Q2 σ => match d with
  | 0 => False
  | d' + 1 => X d' B2 m2 0 l2 [] σ Q2
def wx_mono (X : WX) : Prop := ∀ d B mt pc ls st σ Q Q', (∀ o σ, Q o σ → Q' o σ) → X d B mt pc ls st σ Q → X d B mt pc ls st σ Q'
def wx_closed (T : Tab) (X : WX) : Prop := ∀ d B mt pc ls st σ Q, stp T (fun pc ls st B σ => X d B mt pc ls st σ Q) (wx_call X d) d B mt pc ls st σ Q → X d B mt pc ls st σ Q
def WP (T : Tab) (d : Nat) (B : Nat × Nat) (mt pc : Nat) (ls st : List Value) (σ : Sto) (Q : Out → Sto → Prop) : Prop := ∀ X : WX, wx_mono X → wx_closed T X → X d B mt pc ls st σ Q
theorem WP.mono {T : Tab} {d : Nat} {B : Nat × Nat} {mt pc : Nat} {ls st : List Value} {σ : Sto} {Q Q' : Out → Sto → Prop} (hQ : ∀ o σ, Q o σ → Q' o σ) (h : WP T d B mt pc ls st σ Q) : WP T d B mt pc ls st σ Q' := fun X hm hc => hm _ _ _ _ _ _ _ _ _ hQ (h X hm hc)
theorem wx_call_mono {X X' : WX} (h : ∀ d B mt pc ls st σ Q, X d B mt pc ls st σ Q → X' d B mt pc ls st σ Q) (hm : wx_mono X') (d : Nat) : ∀ m2 B2 l2 Q2 Q2' σ, (∀ o σ, Q2 o σ → Q2' o σ) → wx_call X d m2 B2 l2 Q2 σ → wx_call X' d m2 B2 l2 Q2' σ := by
  intro m2 B2 l2 Q2 Q2' σ hQ h0
  cases d with
  | zero => exact h0
  | succ d => exact hm _ _ _ _ _ _ _ _ _ hQ (h _ _ _ _ _ _ _ _ h0)
/-- a step -/
theorem WP.step {T : Tab} {d : Nat} {B : Nat × Nat} {mt pc : Nat} {ls st : List Value} {σ : Sto} {Q : Out → Sto → Prop}
    (h : stp T (fun pc ls st B σ => WP T d B mt pc ls st σ Q) (wx_call (WP T) d) d B mt pc ls st σ Q) : WP T d B mt pc ls st σ Q := by
  intro X hm hc
  exact hc _ _ _ _ _ _ _ _ (stp_mono (fun pc ls st B σ h => h X hm hc) (wx_call_mono (fun d B mt pc ls st σ Q h => h X hm hc) hm d) (fun _ _ h => h) h)
/-- n steps, calls left standing -/
def run (T : Tab) (d : Nat) (mt : Nat) (Q : Out → Sto → Prop) : Nat → Nat → List Value → List Value → Nat × Nat → Sto → Prop
  | 0 => fun pc ls st B σ => WP T d B mt pc ls st σ Q
  | n + 1 => fun pc ls st B σ => stp T (run T d mt Q n) (wx_call (WP T) d) d B mt pc ls st σ Q
theorem WP.run {T : Tab} {d : Nat} {mt : Nat} {Q : Out → Sto → Prop} (n : Nat) : ∀ {pc : Nat} {ls st : List Value} {B : Nat × Nat} {σ : Sto}, run T d mt Q n pc ls st B σ → WP T d B mt pc ls st σ Q := by
  induction n with
  | zero => intro pc ls st B σ h; exact h
  | succ n ih =>
    intro pc ls st B σ h
    exact WP.step (stp_mono (fun pc ls st B σ h => ih h) (wx_call_mono (X := WP T) (X' := WP T) (fun d B mt pc ls st σ Q h => h) (fun d B mt pc ls st σ Q Q' hQ h => WP.mono hQ h) d) (fun _ _ h => h) h)
