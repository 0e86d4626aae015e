/-! ===== lines, in the reference ===== -/
variable {d : Nat} {B : Nat × Nat} {Q : Out → Sto → Prop} {P : Nat → Nat → Prop} {σ τ : Sto} {X y0 g : Nat} {mv mv' kv tx : Mem} {img : Bool} {tp : Mem} {n p f0 : Nat} {fl fl' : Option Nat} {w : List Nat} {bs : Option Nat}
theorem gNums_V {q : Nat} {a : Mem × Nat} : ∀ f k (mk : Mem) p, f + k = 6 → 1 ≤ k → mk 1 ≤ 3 → (∀ s, 1 ≤ s → s ≤ k → mk (308 + 7 * mk 1 + s) ≤ 9999) → gNums tx n f mk k p = .inr (a, q) → 1 ≤ a.2 ∧ a.2 ≤ 6 ∧ a.1 1 = mk 1 ∧ (∀ s, 1 ≤ s → s ≤ a.2 → a.1 (308 + 7 * mk 1 + s) ≤ 9999) ∧ ∀ j, ¬ (308 + 7 * mk 1 ≤ j ∧ j < 315 + 7 * mk 1) → a.1 j = mk j := by
  intro f
  induction f with
  | zero =>
    intro k mk p hk k1 h1 hb h
    by_cases c : p < n ∧ isD tx p = true
    · rw [gNums_0 c] at h; cases h
    · rw [gNums_n c] at h; cases h; exact ⟨k1, by dsimp only; omega, rfl, hb, fun _ _ => rfl⟩
  | succ f ih =>
    intro k mk p hk k1 h1 hb h
    by_cases c : p < n ∧ isD tx p = true
    · rw [gNums_y c] at h
      unfold gNum1 at h
      obtain ⟨v, q2, t, h3⟩ := bnd_i h
      have bv := tN_v t
      have e1 : up mk (309 + 7 * mk 1 + k) v 1 = mk 1 := up_ne (by omega)
      have h4 := ih (k + 1) _ _ (by omega) (by omega) (by rw [e1]; exact h1) (fun s h5 h6 => ?_) h3
      · rw [e1] at h4
        exact ⟨h4.1, h4.2.1, h4.2.2.1, h4.2.2.2.1, fun j hj => (h4.2.2.2.2 j hj).trans (up_ne (by omega))⟩
      · rw [e1]
        by_cases e : s = k + 1
        · rw [e, show 308 + 7 * mk 1 + (k + 1) = 309 + 7 * mk 1 + k by omega, up_eq]; omega
        · rw [up_ne (by omega)]; exact hb s h5 (by omega)
    · rw [gNums_n c] at h; cases h; exact ⟨k1, by dsimp only; omega, rfl, hb, fun _ _ => rfl⟩
theorem gLine_V {q : Nat} (hv : VG mv) (h : gLine tx n mv p = .inr (mv', q)) : VG mv' := by
  have hs := hv.s
  unfold gLine at h
  have sp : ∀ {i hi p : Nat}, i < 3 → hi = (if i = 0 then 10000 else if i = 1 then 10 else 100) → gSpan tx n mv (20 + 96 * i) hi p = .inr (mv', q) → VG mv' := by
    intro i hi p h1 h2 h
    unfold gSpan at h
    obtain ⟨v1, q1, t1, h⟩ := bnd_i h
    obtain ⟨v2, q2, t2, h⟩ := bnd_i h
    obtain ⟨v3, q3, t3, h⟩ := bnd_i h
    have b1 := tN_v t1
    have b2 := tN_v t2
    have b3 := tN_v t3
    cases h
    refine hv.span h1 (fun k hk => if_neg (by omega)) (fun q hq => ?_)
    unfold fillM
    by_cases c : 20 + 96 * i + v1 ≤ 20 + 96 * i + q ∧ 20 + 96 * i + q ≤ 20 + 96 * i + v2
    · rw [if_pos c]
      match i, h1, h2 with
      | 0, _, hh => rw [if_pos rfl] at hh ⊢; omega
      | 1, _, hh => rw [if_neg (by omega), if_pos rfl] at hh ⊢; omega
      | 2, _, hh => rw [if_neg (by omega), if_neg (by omega)] at hh ⊢; omega
    · rw [if_neg c]
      have hvq := hv.q hq
      match i, h1 with
      | 0, _ => rw [if_pos rfl]; exact hvq.1
      | 1, _ => rw [if_neg (by omega), if_pos rfl]; exact hvq.2.1
      | 2, _ => rw [if_neg (by omega), if_neg (by omega)]; exact hvq.2.2
  split at h
  · unfold gLake at h
    obtain ⟨v1, q1, t1, h⟩ := bnd_i h
    obtain ⟨v2, q2, t2, h⟩ := bnd_i h
    obtain ⟨v3, q3, t3, h⟩ := bnd_i h
    obtain ⟨v4, q4, t4, h⟩ := bnd_i h
    have b1 := tN_v t1
    have b2 := tN_v t2
    have b3 := tN_v t3
    have b4 := tN_v t4
    cases h
    refine hv.lake (fun k hk => by rw [up_ne (by omega), up_ne (by omega), up_ne (by omega), up_ne (by omega)]) ?_
    rw [up_ne (by omega), up_ne (by omega), up_ne (by omega), up_eq, up_ne (by omega), up_ne (by omega), up_eq, up_ne (by omega), up_eq, up_eq]; omega
  split at h
  · exact sp (i := 0) (by omega) (by decide) h
  split at h
  · exact sp (i := 1) (by omega) (by decide) h
  split at h
  · exact sp (i := 2) (by omega) (by decide) h
  split at h
  · split at h
    · cases h
    · rename_i c4
      unfold gGate at h
      obtain ⟨v1, q1, t1, h⟩ := bnd_i h
      obtain ⟨a, q2, t2, h⟩ := bnd_i h
      have b1 := tN_v t1
      have e0 : up mv (309 + 7 * mv 1) v1 1 = mv 1 := up_ne (by omega)
      have hx := gNums_V 5 1 _ _ (by omega) (by omega) (by rw [e0]; omega) (fun s h1 h2 => by
        rw [e0, show s = 1 by omega, show 308 + 7 * mv 1 + 1 = 309 + 7 * mv 1 by omega, up_eq]; omega) t2
      rw [e0] at hx
      obtain ⟨x1, x2, x3, x4, x5⟩ := hx
      cases h
      rw [x3]
      refine hv.gate (by omega) (fun k h1 h2 => ?_) up_eq ?_ (fun s h1 h2 => ?_)
      · rw [up_ne h1, up_ne (by omega), x5 k h2, up_ne (by omega)]
      · rw [up_ne (by omega), up_eq]; omega
      · rw [up_ne (by omega), up_eq] at h2
        rw [up_ne (by omega), up_ne (by omega)]; exact x4 s h1 h2
  split at h
  · split at h
    · cases h
    · rename_i c8
      unfold gReach at h
      obtain ⟨v1, q1, t1, h⟩ := bnd_i h
      obtain ⟨v2, q2, t2, h⟩ := bnd_i h
      obtain ⟨v3, q3, t3, h⟩ := bnd_i h
      obtain ⟨v4, q4, t4, h⟩ := bnd_i h
      obtain ⟨v5, q5, t5, h⟩ := bnd_i h
      have b1 := tN_v t1
      have b2 := tN_v t2
      have b3 := tN_v t3
      have b4 := tN_v t4
      have b5 := tN_v t5
      cases h
      refine hv.reach (by omega) (fun k hk h2 => by rw [up_ne (by omega), up_ne (by omega), up_ne (by omega), up_ne (by omega), up_ne (by omega), up_ne (by omega)]) up_eq ?_
      have y1 : (up (up (up (up (up (up mv (336 + 5 * mv 2) v1) (336 + 5 * mv 2 + 1) v2) (336 + 5 * mv 2 + 2) v3) (336 + 5 * mv 2 + 3) v4) (336 + 5 * mv 2 + 4) v5) 2 (mv 2 + 1)) (336 + 5 * mv 2) = v1 := by rw [up_ne (by omega), up_ne (by omega), up_ne (by omega), up_ne (by omega), up_ne (by omega), up_eq]
      have y2 : (up (up (up (up (up (up mv (336 + 5 * mv 2) v1) (336 + 5 * mv 2 + 1) v2) (336 + 5 * mv 2 + 2) v3) (336 + 5 * mv 2 + 3) v4) (336 + 5 * mv 2 + 4) v5) 2 (mv 2 + 1)) (336 + 5 * mv 2 + 1) = v2 := by rw [up_ne (by omega), up_ne (by omega), up_ne (by omega), up_ne (by omega), up_eq]
      have y3 : (up (up (up (up (up (up mv (336 + 5 * mv 2) v1) (336 + 5 * mv 2 + 1) v2) (336 + 5 * mv 2 + 2) v3) (336 + 5 * mv 2 + 3) v4) (336 + 5 * mv 2 + 4) v5) 2 (mv 2 + 1)) (336 + 5 * mv 2 + 2) = v3 := by rw [up_ne (by omega), up_ne (by omega), up_ne (by omega), up_eq]
      have y4 : (up (up (up (up (up (up mv (336 + 5 * mv 2) v1) (336 + 5 * mv 2 + 1) v2) (336 + 5 * mv 2 + 2) v3) (336 + 5 * mv 2 + 3) v4) (336 + 5 * mv 2 + 4) v5) 2 (mv 2 + 1)) (336 + 5 * mv 2 + 3) = v4 := by rw [up_ne (by omega), up_ne (by omega), up_eq]
      have y5 : (up (up (up (up (up (up mv (336 + 5 * mv 2) v1) (336 + 5 * mv 2 + 1) v2) (336 + 5 * mv 2 + 2) v3) (336 + 5 * mv 2 + 3) v4) (336 + 5 * mv 2 + 4) v5) 2 (mv 2 + 1)) (336 + 5 * mv 2 + 4) = v5 := by rw [up_ne (by omega), up_eq]
      rw [y1, y2, y3, y4, y5]; omega
  split at h
  · split at h
    · cases h
    · rename_i c12
      unfold gPlace at h
      obtain ⟨v1, q1, t1, h⟩ := bnd_i h
      obtain ⟨v2, q2, t2, h⟩ := bnd_i h
      obtain ⟨v3, q3, t3, h⟩ := bnd_i h
      obtain ⟨v4, q4, t4, h⟩ := bnd_i h
      have b1 := tN_v t1
      have b2 := tN_v t2
      have b3 := tN_v t3
      have b4 := tN_v t4
      cases h
      refine hv.place (by omega) (fun k hk h2 => by rw [up_ne (by omega), up_ne (by omega), up_ne (by omega), up_ne (by omega), up_ne (by omega)]) up_eq ?_
      have y1 : (up (up (up (up (up mv (376 + 4 * mv 3) v1) (376 + 4 * mv 3 + 1) v2) (376 + 4 * mv 3 + 2) v3) (376 + 4 * mv 3 + 3) v4) 3 (mv 3 + 1)) (376 + 4 * mv 3) = v1 := by rw [up_ne (by omega), up_ne (by omega), up_ne (by omega), up_ne (by omega), up_eq]
      have y2 : (up (up (up (up (up mv (376 + 4 * mv 3) v1) (376 + 4 * mv 3 + 1) v2) (376 + 4 * mv 3 + 2) v3) (376 + 4 * mv 3 + 3) v4) 3 (mv 3 + 1)) (376 + 4 * mv 3 + 1) = v2 := by rw [up_ne (by omega), up_ne (by omega), up_ne (by omega), up_eq]
      have y3 : (up (up (up (up (up mv (376 + 4 * mv 3) v1) (376 + 4 * mv 3 + 1) v2) (376 + 4 * mv 3 + 2) v3) (376 + 4 * mv 3 + 3) v4) 3 (mv 3 + 1)) (376 + 4 * mv 3 + 2) = v3 := by rw [up_ne (by omega), up_ne (by omega), up_eq]
      have y4 : (up (up (up (up (up mv (376 + 4 * mv 3) v1) (376 + 4 * mv 3 + 1) v2) (376 + 4 * mv 3 + 2) v3) (376 + 4 * mv 3 + 3) v4) 3 (mv 3 + 1)) (376 + 4 * mv 3 + 3) = v4 := by rw [up_ne (by omega), up_eq]
      rw [y1, y2, y3, y4]; omega
  · cases h
theorem r_line (hy : y0 = 260) (h : RTg σ y0 tx n bs p) (hm : RMm σ y0 mv) (hv : VG mv) (hw : WRD σ) (hQ : ∀ τ, Fr (Pgr y0) σ τ → LR τ y0 tx n bs (gLine tx n mv p) → Q (.inl none) τ) : WP gT (d + 5) B 183 0 [.ref y0, .retAddr 0, .retAddr 0] [] σ Q := by
  have hs := hv.s
  have hl := h.le
  have P9r : ∀ p j, P9 y0 p j → Pgr y0 p j := fun p j k => PY_gr p j (P9_Y p j k)
  have mf : ∀ {τ : Sto}, Fr (P9 y0) σ τ → RMm τ y0 mv := fun f => hm.t (f.mono P9_Y)
  have wf : ∀ {τ : Sto}, Fr (P9 y0) σ τ → WRD τ := fun f => hw.fr f (fun p j k => by unfold P9 at k; omega)
  have fin : ∀ {R : Rs Mem} {τ τ2 : Sto}, gLine tx n mv p = R → Fr (P9 y0) σ τ → Fr (Pgr y0) τ τ2 → LR τ2 y0 tx n bs R → Q (.inl none) τ2 := fun e f f2 L => hQ _ ((f.mono P9r).tr f2) (by rw [e]; exact L)
  refine g_183_0 h.1.1 (r_skip h (fun τ2 F2 k2 => ⟨k2.1.1, ?_⟩))
  rw [k2.2.2.1]
  refine r_has k2.g hy (wf F2 86 w_lake (by decide)) (fun e τ f k => ⟨k.1.1, fun c => absurd c (by decide), fun _ => ?_⟩) (fun e3 τ3 f3 k3 => ⟨k3.1.1, fun _ => ?_, fun c => absurd rfl c⟩)
  · exact r_lake k (mf (F2.tr f)) hv (fun τ2 f2 L => fin (by unfold gLine; rw [if_pos e]) (F2.tr f) f2 L)
  have F3 : Fr (P9 y0) σ τ3 := F2.tr f3
  refine r_has k3.g hy (wf F3 88 w_into (by decide)) (fun e τ f k => ⟨k.1.1, fun c => absurd c (by decide), fun _ => ?_⟩) (fun e4 τ4 f4 k4 => ⟨k4.1.1, fun _ => ?_, fun c => absurd rfl c⟩)
  · exact r_span (hi1 := 10000) (by omega) (by omega) (by decide) k (mf (F3.tr f)) (fun τ2 f2 L => fin (by unfold gLine; rw [if_neg (by rw [e3]; decide), if_pos e]) (F3.tr f) f2 L)
  have F4 : Fr (P9 y0) σ τ4 := F3.tr f4
  refine r_has k4.g hy (wf F4 76 w_rain (by decide)) (fun e τ f k => ⟨k.1.1, fun c => absurd c (by decide), fun _ => ?_⟩) (fun e5 τ5 f5 k5 => ⟨k5.1.1, fun _ => ?_, fun c => absurd rfl c⟩)
  · exact r_span (hi1 := 10) (by omega) (by omega) (by decide) k (mf (F4.tr f)) (fun τ2 f2 L => fin (by unfold gLine; rw [if_neg (by rw [e3]; decide), if_neg (by rw [e4]; decide), if_pos e]) (F4.tr f) f2 L)
  have F5 : Fr (P9 y0) σ τ5 := F4.tr f5
  refine r_has k5.g hy (wf F5 90 w_price (by decide)) (fun e τ f k => ⟨k.1.1, fun c => absurd c (by decide), fun _ => ?_⟩) (fun e6 τ6 f6 k6 => ⟨k6.1.1, fun _ => ?_, fun c => absurd rfl c⟩)
  · exact r_span (hi1 := 100) (by omega) (by omega) (by decide) k (mf (F5.tr f)) (fun τ2 f2 L => fin (by unfold gLine; rw [if_neg (by rw [e3]; decide), if_neg (by rw [e4]; decide), if_neg (by rw [e5]; decide), if_pos e]) (F5.tr f) f2 L)
  have F6 : Fr (P9 y0) σ τ6 := F5.tr f6
  refine r_has k6.g hy (wf F6 80 w_gate (by decide)) (fun e τ f k => ⟨k.1.1, fun c => absurd c (by decide), fun _ => ?_⟩) (fun e7 τ7 f7 k7 => ⟨k7.1.1, fun _ => ?_, fun c => absurd rfl c⟩)
  · exact r_gate k (mf (F6.tr f)) hv hl.1 (fun τ2 f2 L => fin (by unfold gLine; rw [if_neg (by rw [e3]; decide), if_neg (by rw [e4]; decide), if_neg (by rw [e5]; decide), if_neg (by rw [e6]; decide), if_pos e]) (F6.tr f) f2 L)
  have F7 : Fr (P9 y0) σ τ7 := F6.tr f7
  refine r_has k7.g hy (wf F7 92 w_reach (by decide)) (fun e τ f k => ⟨k.1.1, fun c => absurd c (by decide), fun _ => ?_⟩) (fun e8 τ8 f8 k8 => ⟨k8.1.1, fun _ => ?_, fun c => absurd rfl c⟩)
  · have rc : sI τ (y0 + 1) 2 = J (mv 2) := (mf (F7.tr f)).at (by omega)
    rw [rc]
    refine ⟨fun c => ?_, fun c => ⟨fun _ => ?_, fun c2 => absurd k.2.1 c2⟩⟩
    · rw [J_eq (by omega) (by omega)] at c
      refine r_wrong_g k hl.1 (fun τ2 f2 k3 => ⟨k3.1.1, fun c3 => absurd c3 k3.bad, fun _ => ?_⟩)
      exact fin (R := .inl p) (by unfold gLine; rw [if_neg (by rw [e3]; decide), if_neg (by rw [e4]; decide), if_neg (by rw [e5]; decide), if_neg (by rw [e6]; decide), if_neg (by rw [e7]; decide), if_pos e, if_pos c]) (F7.tr f) (f2.mono PY_gr) k3
    · rw [J_eq (by omega) (by omega)] at c
      have hr := r_reach (d := d) k (mf (F7.tr f)) hv (by omega) (fun τ2 f2 L => fin (by unfold gLine; rw [if_neg (by rw [e3]; decide), if_neg (by rw [e4]; decide), if_neg (by rw [e5]; decide), if_neg (by rw [e6]; decide), if_neg (by rw [e7]; decide), if_pos e, if_neg c]) (F7.tr f) f2 L)
      rw [rc] at hr
      exact hr
  have F8 : Fr (P9 y0) σ τ8 := F7.tr f8
  refine r_has k8.g hy (wf F8 94 w_place (by decide)) (fun e τ f k => ⟨k.1.1, fun c => absurd c (by decide), fun _ => ?_⟩) (fun e9 τ9 f9 k9 => ⟨k9.1.1, fun _ => ?_, fun c => absurd rfl c⟩)
  · have rc : sI τ (y0 + 1) 3 = J (mv 3) := (mf (F8.tr f)).at (by omega)
    rw [rc]
    refine ⟨fun c => ?_, fun c => ⟨fun _ => ?_, fun c2 => absurd k.2.1 c2⟩⟩
    · rw [J_eq (by omega) (by omega)] at c
      refine r_wrong_g k hl.1 (fun τ2 f2 k3 => ⟨k3.1.1, fun c3 => absurd c3 k3.bad, fun _ => ?_⟩)
      exact fin (R := .inl p) (by unfold gLine; rw [if_neg (by rw [e3]; decide), if_neg (by rw [e4]; decide), if_neg (by rw [e5]; decide), if_neg (by rw [e6]; decide), if_neg (by rw [e7]; decide), if_neg (by rw [e8]; decide), if_pos e, if_pos c]) (F8.tr f) (f2.mono PY_gr) k3
    · rw [J_eq (by omega) (by omega)] at c
      have hr := r_place (d := d) k (mf (F8.tr f)) hv (by omega) (fun τ2 f2 L => fin (by unfold gLine; rw [if_neg (by rw [e3]; decide), if_neg (by rw [e4]; decide), if_neg (by rw [e5]; decide), if_neg (by rw [e6]; decide), if_neg (by rw [e7]; decide), if_neg (by rw [e8]; decide), if_pos e, if_neg c]) (F8.tr f) f2 L)
      rw [rc] at hr
      exact hr
  have F9 : Fr (P9 y0) σ τ9 := F8.tr f9
  rw [k9.2.2.1]
  refine r_wrong_g k9.g hl.1 (fun τ2 f2 k3 => ?_)
  exact fin (R := .inl p) (by unfold gLine; rw [if_neg (by rw [e3]; decide), if_neg (by rw [e4]; decide), if_neg (by rw [e5]; decide), if_neg (by rw [e6]; decide), if_neg (by rw [e7]; decide), if_neg (by rw [e8]; decide), if_neg (by rw [e9]; decide)]) F9 (f2.mono PY_gr) k3
/-! lines of any kind -/
def LRK {α : Type} (τ : Sto) (y0 : Nat) (tx : Mem) (n : Nat) (bs : Option Nat) (K : α → Sto → Prop) (r : Rs α) : Prop := match r with
  | .inl f => RTb τ y0 tx n bs f 10
  | .inr (a, q) => RTg τ y0 tx n bs q ∧ K a τ
theorem RTg.inc (h : RTg σ y0 tx n bs p) (h9 : sI σ y0 9 = J p) {c : Nat} (hc : isS tx n p c = true) : Fr (P9 y0) σ (setI σ y0 9 (J (p + 1))) ∧ RTg (setI σ y0 9 (J (p + 1))) y0 tx n bs (aftS tx n p) := by
  have hl := h.le
  have f : Fr (P9 y0) σ (setI σ y0 9 (J (p + 1))) := Fr.rf.setI ⟨rfl, rfl⟩
  have hp : p < n := by unfold isS at hc; simp at hc; exact hc.1
  exact ⟨f, h.1.y (f.mono P9_Y), by rw [sI_any (by omega)]; exact h.2.1, p + 1, sI_same, by omega, rfl⟩
theorem r_linesL {α : Type} {K : α → Sto → Prop} {line : α → Nat → Rs α} {FP : Nat → Nat → Prop} {x1 : Int32} {R : Rs α} (hFP : ∀ p j, PYt y0 p j → FP p j) (hK : ∀ a τ τ', K a τ → Fr (PYt y0) τ τ' → K a τ')
    (hline : ∀ a p τ (k : Sto → Prop), RTg τ y0 tx n bs p → K a τ → Fr FP σ τ → (∀ τ', Fr FP σ τ' → LRK τ' y0 tx n bs K (line a p) → k τ') →
      ((x1 = J 0 → WP gT (d + 6) (0, 0) 183 0 [.ref y0, .retAddr 0, .retAddr 0] [] τ (oV k (fun _ _ => False))) ∧ (¬ (x1 = J 0) → WP gT (d + 6) (0, 0) 192 0 [.ref y0, .retAddr 0, .retAddr 0, .retAddr 0, .retAddr 0] [] τ (oV k (fun _ _ => False)))))
    (hQ : ∀ τ, Fr FP σ τ → LRK τ y0 tx n bs K R → Q (.inl none) τ) : ∀ f k, f + k = 12 → ∀ a p τ, Fr FP σ τ → RTg τ y0 tx n bs p → K a τ → R = gLs tx n line f a p → WP gT (d + 7) B 184 33 [.ref y0, .int x1, .int (J 1), .int (J k)] [] τ Q := by
  have P9f : ∀ p j, P9 y0 p j → FP p j := fun p j k => hFP p j (P9_Y p j k)
  have Z : ∀ τ k, Fr FP σ τ → S_12 τ y0 → LRK τ y0 tx n bs K R → WP gT (d + 7) B 184 33 [.ref y0, .int x1, .int (J 0), .int k] [] τ Q := fun τ k F s L => g_184_33 s ⟨fun _ => hQ τ F L, fun c => absurd rfl c⟩
  have Zb : ∀ τ k f0, Fr FP σ τ → RTb τ y0 tx n bs f0 10 → R = .inl f0 → WP gT (d + 7) B 184 33 [.ref y0, .int x1, .int (J 1), .int k] [] τ Q := fun τ k f0 F h hR => g_184_33 h.1.1 ⟨fun c => absurd c (by decide), fun _ => ⟨fun c => absurd c h.bad, fun _ => hQ τ F (by rw [hR]; exact h)⟩⟩
  intro f
  induction f with
  | zero =>
    intro k hk a p τ F h hKa hR
    have hk : k = 12 := by omega
    subst hk
    have hl := h.le
    refine g_184_33 h.1.1 ⟨fun c => absurd c (by decide), fun _ => ⟨fun _ => r_skip h (fun τ2 f2 k2 => ⟨k2.1.1, fun _ => ?_, fun c => absurd rfl c⟩), fun c => absurd h.2.1 c⟩⟩
    rw [k2.2.2.1]
    refine r_wrong_g k2.g hl.1 (fun τ3 f3 k3 => ⟨k3.1.1, r_skip_b k3 (by omega) (fun τ4 f4 k4 => ⟨k4.1.1, fun c => absurd c k4.bad, fun _ => ?_⟩)⟩)
    rw [J_add]
    exact Z τ4 _ (((F.tr (f2.mono P9f)).tr (f3.mono hFP)).tr (f4.mono P9f)) k4.1.1 (by rw [hR]; exact k4.up (by omega))
  | succ f ih =>
    intro k hk a p τ F h hKa hR
    rw [gLs_s] at hR
    refine g_184_33 h.1.1 ⟨fun c => absurd c (by decide), fun _ => ⟨fun _ => r_skip h (fun τ2 f2 k2 => ⟨k2.1.1, fun c => ?_, fun _ => ?_⟩), fun c => absurd h.2.1 c⟩⟩
    · exfalso; rw [J_eq (by omega) (by omega)] at c; omega
    refine hline a p τ2 _ k2.g (hK _ _ _ hKa (f2.mono P9_Y)) (F.tr (f2.mono P9f)) (fun τ3 F3 L => ?_)
    cases e : line a p with
    | inl f0 =>
      rw [e] at L
      rw [bnd_l e] at hR
      have L : RTb τ3 y0 tx n bs f0 10 := L
      refine ⟨L.1.1, r_skip_b L (by omega) (fun τ4 f4 k4 => ⟨k4.1.1, fun c => absurd c k4.bad, fun _ => ?_⟩)⟩
      rw [J_add]
      exact Z τ4 _ (F3.tr (f4.mono P9f)) k4.1.1 (by rw [hR]; exact k4)
    | inr b =>
      obtain ⟨a2, q⟩ := b
      rw [e] at L
      rw [bnd_r e] at hR
      obtain ⟨L1, L2⟩ := L
      have hl := L1.le
      refine ⟨L1.1.1, r_skip L1 (fun τ4 f4 k4 => ⟨k4.1.1, fun _ => ?_, fun c => absurd k4.2.1 c⟩)⟩
      have F4 := F3.tr (f4.mono P9f)
      have K4 := hK _ _ _ L2 (f4.mono P9_Y)
      rw [k4.2.2.1, k4.1.2.1, J_eq (by omega) (by omega), J_add]
      unfold gNext at hR
      refine ⟨fun c => ?_, fun c => r_isSign k4.g (c := 59) (by omega) (fun τ5 f5 k5 => ⟨k5.1.1, fun c2 => ?_, fun c2 => ?_⟩)⟩
      · rw [if_pos c] at hR
        exact Z τ4 _ F4 k4.1.1 (by rw [hR]; exact ⟨k4.g, K4⟩)
      · have c2 : isS tx n q 59 = false := by rw [b01] at c2; exact c2
        rw [if_neg c, if_neg (by rw [c2]; decide)] at hR
        rw [k5.2.2.1]
        refine r_wrong_g k5.g hl.1 (fun τ6 f6 k6 => ?_)
        exact Zb τ6 _ q ((F4.tr (f5.mono P9f)).tr (f6.mono hFP)) (k6.up (by omega)) hR
      · have c2 : isS tx n q 59 = true := by cases h2 : isS tx n q 59 with | true => rfl | false => rw [h2] at c2; exact absurd rfl c2
        rw [if_neg c, if_pos c2] at hR
        rw [k5.2.2.1, J_add]
        have hi := k5.g.inc k5.2.2.1 c2
        exact ih (k + 1) (by omega) a2 _ _ ((F4.tr (f5.mono P9f)).tr (hi.1.mono P9f)) hi.2 (hK _ _ _ (hK _ _ _ K4 (f5.mono P9_Y)) (hi.1.mono P9_Y)) hR
theorem r_lines {α : Type} {K : α → Sto → Prop} {line : α → Nat → Rs α} {FP : Nat → Nat → Prop} {x1 : Int32} {a : α} (h : RBy σ y0 tx n bs) (h10 : sI σ y0 10 = -J 1) (hFP : ∀ p j, PYt y0 p j ∨ (p = y0 ∧ j = 11) → FP p j) (hK : ∀ a τ τ', K a τ → Fr (PYt y0) τ τ' → K a τ') (hKa : K a (setI (setI σ y0 9 (J 0)) y0 11 (J 0)))
    (hline : ∀ a p τ (k : Sto → Prop), RTg τ y0 tx n bs p → K a τ → Fr FP σ τ → (∀ τ', Fr FP σ τ' → LRK τ' y0 tx n bs K (line a p) → k τ') →
      ((x1 = J 0 → WP gT (d + 6) (0, 0) 183 0 [.ref y0, .retAddr 0, .retAddr 0] [] τ (oV k (fun _ _ => False))) ∧ (¬ (x1 = J 0) → WP gT (d + 6) (0, 0) 192 0 [.ref y0, .retAddr 0, .retAddr 0, .retAddr 0, .retAddr 0] [] τ (oV k (fun _ _ => False)))))
    (hQ : ∀ τ, Fr FP σ τ → LRK τ y0 tx n bs K (gAll tx n line a) → Q (.inl none) τ) : WP gT (d + 7) B 184 0 [.ref y0, .int x1, .retAddr 0, .retAddr 0] [] σ Q := by
  have hn := h.2.2.1
  have f0 : Fr (fun p j => p = y0 ∧ (j = 9 ∨ j = 11)) σ (setI (setI σ y0 9 (J 0)) y0 11 (J 0)) := (Fr.rf.setI ⟨rfl, Or.inl rfl⟩).setI ⟨rfl, Or.inr rfl⟩
  refine g_184_0 h.1 ?_
  generalize e0 : setI (setI σ y0 9 (J 0)) y0 11 (J 0) = σ1 at *
  have h1 : RTg σ1 y0 tx n bs (skp tx n 0) := by
    refine ⟨h.fr f0 (fun p j k => by omega), ?_, 0, ?_, Nat.zero_le _, rfl⟩
    · rw [f0.i (by omega)]; exact h10
    · rw [← e0, sI_any (by omega), sI_same]
  have F0 : Fr FP σ σ1 := f0.mono (fun p j k => hFP p j (by unfold PYt; omega))
  have hl := h1.le
  refine r_skip h1 (fun τ f k => ⟨k.1.1, ?_⟩)
  have F1 := F0.tr (f.mono (fun p j k => hFP p j (Or.inl (P9_Y p j k))))
  have K1 := hK _ _ _ hKa (f.mono P9_Y)
  rw [k.1.2.1, k.2.2.1]
  by_cases c : skp tx n 0 = n
  · rw [if_pos (by rw [J_le (by omega) (by omega)]; omega)]
    refine g_184_33 k.1.1 ⟨fun _ => hQ τ F1 ?_, fun c => absurd rfl c⟩
    unfold gAll
    rw [if_pos c]
    have k2 := k.g
    rw [c] at k2
    exact ⟨k2, K1⟩
  · rw [if_neg (by rw [J_le (by omega) (by omega)]; omega)]
    exact r_linesL (fun p j k => hFP p j (Or.inl k)) hK hline hQ 12 0 rfl a _ τ F1 k.g K1 (by unfold gAll; rw [if_neg c])
/-! the call gorge, in the reference -/
def Kg (y0 : Nat) (mw : Mem) : Mem → Sto → Prop := fun mv τ => RMm τ y0 mv ∧ VG mv ∧ GX mw mv
theorem r_tellG (hy : y0 = 260) (h : RBy σ y0 tx n bs) (h10 : sI σ y0 10 = -J 1) (hm : RMm σ y0 mv) (hv : VG mv) (hw : WRD σ) (hQ : ∀ τ, Fr (fun p j => Pgr y0 p j ∨ (p = y0 ∧ j = 11)) σ τ → LRK τ y0 tx n bs (Kg y0 mv) (gTell tx n mv) → Q (.inl none) τ) : WP gT (d + 7) B 184 0 [.ref y0, .int (J 0), .retAddr 0, .retAddr 0] [] σ Q := by
  refine r_lines (K := Kg y0 mv) (line := gLine tx n) (FP := fun p j => Pgr y0 p j ∨ (p = y0 ∧ j = 11)) h h10 (fun p j k => k.elim (fun k => Or.inl (PY_gr p j k)) Or.inr) (fun a τ τ' k f => ⟨k.1.t f, k.2⟩) ⟨hm.th.th, hv, GX.rf⟩ (fun a p τ k hg hk F hq => ⟨fun _ => ?_, fun c => absurd rfl c⟩) hQ
  obtain ⟨k1, k2, k3⟩ := hk
  refine r_line hy hg k1 k2 (hw.fr F (fun p j k => by unfold Pgr at k; omega)) (fun τ2 f2 L => hq τ2 (F.tr (f2.mono (fun _ _ k => Or.inl k))) ?_)
  cases e : gLine tx n a p with
  | inl f => rw [e] at L; exact RTb.up L (by omega)
  | inr b => obtain ⟨a2, q⟩ := b; rw [e] at L; exact ⟨L.1, L.2, gLine_V k2 e, k3.tr (gLine_x k2 e)⟩
