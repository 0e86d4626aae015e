/-! ===== a line of a gorge, in the class ===== -/
variable {d : Nat} {B : Nat × Nat} {Q : Out → Sto → Prop} {P : Nat → Nat → Prop} {σ τ : Sto} {X y0 g : Nat} {mv mv' tx : Mem} {n p f0 : Nat} {w : List Nat} {bs : Option Nat}
def wTab : List (Nat × List Nat) := [(2, w_lake), (4, w_into), (6, w_rain), (8, w_price), (10, w_gate), (12, w_reach), (14, w_place), (20, w_open), (22, w_shut), (24, w_if), (26, w_not), (28, w_wet), (30, w_level), (32, w_goal), (34, w_quarter), (36, w_rain), (38, w_depth), (40, w_gate), (42, w_and), (44, w_or), (60, w_open), (62, w_shut), (64, w_if), (66, w_not), (68, w_wet), (70, w_level), (72, w_goal), (74, w_quarter), (76, w_rain), (78, w_depth), (80, w_gate), (82, w_and), (84, w_or), (86, w_lake), (88, w_into), (90, w_price), (92, w_reach), (94, w_place)]
/-- the words of the program -/
def WRD (σ : Sto) : Prop := ∀ i w, (i, w) ∈ wTab → SW σ i w
theorem WRD.fr (h : WRD σ) (f : Fr P σ τ) (hP : ∀ p j, P p j → 96 ≤ p) : WRD τ := fun i w k => (h i w k).fr f hP
theorem isW_0 (h : isW tx n p w = true) (hw : 0 < w.length) : tx p = w.getD 0 0 := by
  apply Classical.byContradiction
  intro c
  rw [isW_F ⟨0, hw, c⟩] at h
  exact absurd h (by decide)
theorem isW_x {w2 : List Nat} (h : isW tx n p w = true) (hw : 0 < w.length ∧ 0 < w2.length ∧ w.getD 0 0 ≠ w2.getD 0 0) : isW tx n p w2 = false := by
  cases h2 : isW tx n p w2 with
  | false => rfl
  | true => exact absurd ((isW_0 h hw.1).symm.trans (isW_0 h2 hw.2.1)) hw.2.2
theorem c_line (h : CTg σ X tx n p) (n4 : S_4 σ g) (hd : X + 1 < g) (hX : 97 ≤ X) (hG : RGg σ g mv) (hv : VG mv) (hw : WRD σ) (hQ : ∀ τ, Fr (Pgl X g) σ τ → LN τ X g tx n (gLine tx n mv p) → Q (.inl none) τ) : WP gT (d + 6) B 38 0 [.ref g, .ref X] [] σ Q := by
  have hs := hv.s
  have gf : ∀ {τ : Sto}, Fr (PtX X) σ τ → RGg τ g mv := fun f => hG.fr f (fun i j hi k => by unfold PtX at k; omega)
  have fin : ∀ {R : Rs Mem} {τ τ2 : Sto}, gLine tx n mv p = R → Fr (PtX X) σ τ → Fr (Pgl X g) τ τ2 → LN τ2 X g tx n R → Q (.inl none) τ2 := fun e f f2 L => hQ _ ((f.mono PtX_gl).tr f2) (by rw [e]; exact L)
  have bad : gLine tx n mv p = .inl p → WP gT (d + 5) (0, 0) 75 0 [.ref X] [] σ (oV (fun τ10 => Q (.inl none) τ10) (fun _ _ => False)) := fun e => c_fail h (fun τ f k => hQ τ (f.mono PtX_gl) (by rw [e]; exact Or.inl k))
  refine g_38_0 h.1 (c_tw h (hw 2 w_lake (by decide)) (fun e τ f k => ⟨k.1, f.sh n4, fun c => absurd c (by decide), fun _ => c_lake k (f.sh n4) hd (gf f) hv (fun τ2 f2 L => fin (by unfold gLine; simp [e]) f f2 L)⟩) (fun e1 => ⟨h.1, n4, fun _ => ?_, fun c => absurd rfl c⟩))
  refine c_tw h (hw 4 w_into (by decide)) (fun e τ f k => ⟨k.1, f.sh n4, fun c => absurd c (by decide), fun _ => c_span (i := 0) (hi1 := 10000) (by omega) (by decide) (by decide) k (f.sh n4) hd (gf f) hv (fun τ2 f2 L => fin (by unfold gLine; simp [e, e1]) f f2 L)⟩) (fun e2 => ⟨h.1, n4, fun _ => ?_, fun c => absurd rfl c⟩)
  refine c_tw h (hw 6 w_rain (by decide)) (fun e τ f k => ⟨k.1, f.sh n4, fun c => absurd c (by decide), fun _ => c_span (i := 1) (hi1 := 10) (by omega) (by decide) (by decide) k (f.sh n4) hd (gf f) hv (fun τ2 f2 L => fin (by unfold gLine; simp [e, e1, e2]) f f2 L)⟩) (fun e3 => ⟨h.1, n4, fun _ => ?_, fun c => absurd rfl c⟩)
  refine c_tw h (hw 8 w_price (by decide)) (fun e τ f k => ⟨f.sh n4, k.1, fun c => absurd c (by decide), fun _ => c_span (i := 2) (hi1 := 100) (by omega) (by decide) (by decide) k (f.sh n4) hd (gf f) hv (fun τ2 f2 L => fin (by unfold gLine; simp [e, e1, e2, e3]) f f2 L)⟩) (fun e4 => ⟨n4, h.1, fun _ => ?_, fun c => absurd rfl c⟩)
  have r5 : sI σ g 5 = J (mv 1) := hG.s.2.2.2.2.1
  have r8 : sI σ g 8 = J (mv 2) := hG.s.2.2.2.2.2.1
  have r14 : sI σ g 14 = J (mv 3) := hG.s.2.2.2.2.2.2
  have LP : (mv 1 = 4 ∨ isW tx n p w_gate = false) → (mv 2 = 8 ∨ isW tx n p w_reach = false) → (((J 12) ≤ (sI σ g 14) → WP gT (d + 5) (0, 0) 75 0 [.ref X] [] σ (oV (fun τ10 => Q (.inl none) τ10) (fun _ _ => False))) ∧ (¬ ((J 12) ≤ (sI σ g 14)) → WP gT (d + 5) (0, 0) 80 0 [.ref X, .ref 14] [] σ (oI (fun v11 τ12 => (S_9 τ12 X ∧ (S_4 τ12 g ∧ ((v11 = (J 0) → WP gT (d + 5) (0, 0) 75 0 [.ref X] [] τ12 (oV (fun τ14 => Q (.inl none) τ14) (fun _ _ => False))) ∧ (¬ (v11 = (J 0)) → WP gT (d + 5) (0, 0) 43 0 [.ref g, .ref X] [] τ12 (oV (fun τ16 => Q (.inl none) τ16) (fun _ _ => False))))))) (fun _ _ => False)))) := by
    intro eg er
    rw [r14, J_le (by omega) (by omega)]
    have no : (mv 3 = 12 ∨ isW tx n p w_place = false) → gLine tx n mv p = .inl p := by
      intro ep
      unfold gLine
      rw [if_neg (by rw [e1]; decide), if_neg (by rw [e2]; decide), if_neg (by rw [e3]; decide), if_neg (by rw [e4]; decide)]
      by_cases c5 : isW tx n p w_gate = true
      · rw [if_pos c5, if_pos (eg.resolve_right (by rw [c5]; decide))]
      · rw [if_neg c5]
        by_cases c6 : isW tx n p w_reach = true
        · rw [if_pos c6, if_pos (er.resolve_right (by rw [c6]; decide))]
        · rw [if_neg c6]
          by_cases c7 : isW tx n p w_place = true
          · rw [if_pos c7, if_pos (ep.resolve_right (by rw [c7]; decide))]
          · rw [if_neg c7]
    refine ⟨fun c => bad (no (Or.inl (by omega))), fun c => ?_⟩
    refine c_tw h (hw 14 w_place (by decide)) (fun e τ f k => ⟨k.1, f.sh n4, fun c => absurd c (by decide), fun _ => c_place k (f.sh n4) hd (gf f) hv (by omega) (fun τ2 f2 L => fin ?_ f f2 L)⟩) (fun e7 => ⟨h.1, n4, fun _ => bad (no (Or.inr e7)), fun c => absurd rfl c⟩)
    have x5 : isW tx n p w_gate = false := isW_x e (by decide)
    have x6 : isW tx n p w_reach = false := isW_x e (by decide)
    unfold gLine
    rw [if_neg (by rw [e1]; decide), if_neg (by rw [e2]; decide), if_neg (by rw [e3]; decide), if_neg (by rw [e4]; decide), if_neg (by rw [x5]; decide), if_neg (by rw [x6]; decide), if_pos e, if_neg (by omega)]
  have LQ : (mv 1 = 4 ∨ isW tx n p w_gate = false) → (((J 8) ≤ (sI σ g 8) → (((J 12) ≤ (sI σ g 14) → WP gT (d + 5) (0, 0) 75 0 [.ref X] [] σ (oV (fun τ10 => Q (.inl none) τ10) (fun _ _ => False))) ∧ (¬ ((J 12) ≤ (sI σ g 14)) → WP gT (d + 5) (0, 0) 80 0 [.ref X, .ref 14] [] σ (oI (fun v11 τ12 => (S_9 τ12 X ∧ (S_4 τ12 g ∧ ((v11 = (J 0) → WP gT (d + 5) (0, 0) 75 0 [.ref X] [] τ12 (oV (fun τ14 => Q (.inl none) τ14) (fun _ _ => False))) ∧ (¬ (v11 = (J 0)) → WP gT (d + 5) (0, 0) 43 0 [.ref g, .ref X] [] τ12 (oV (fun τ16 => Q (.inl none) τ16) (fun _ _ => False))))))) (fun _ _ => False))))) ∧ (¬ ((J 8) ≤ (sI σ g 8)) → WP gT (d + 5) (0, 0) 80 0 [.ref X, .ref 12] [] σ (oI (fun v17 τ18 => (S_4 τ18 g ∧ (S_9 τ18 X ∧ ((v17 = (J 0) → (((J 12) ≤ (sI τ18 g 14) → WP gT (d + 5) (0, 0) 75 0 [.ref X] [] τ18 (oV (fun τ20 => Q (.inl none) τ20) (fun _ _ => False))) ∧ (¬ ((J 12) ≤ (sI τ18 g 14)) → WP gT (d + 5) (0, 0) 80 0 [.ref X, .ref 14] [] τ18 (oI (fun v21 τ22 => (S_9 τ22 X ∧ (S_4 τ22 g ∧ ((v21 = (J 0) → WP gT (d + 5) (0, 0) 75 0 [.ref X] [] τ22 (oV (fun τ24 => Q (.inl none) τ24) (fun _ _ => False))) ∧ (¬ (v21 = (J 0)) → WP gT (d + 5) (0, 0) 43 0 [.ref g, .ref X] [] τ22 (oV (fun τ26 => Q (.inl none) τ26) (fun _ _ => False))))))) (fun _ _ => False))))) ∧ (¬ (v17 = (J 0)) → WP gT (d + 5) (0, 0) 42 0 [.ref g, .ref X] [] τ18 (oV (fun τ28 => Q (.inl none) τ28) (fun _ _ => False))))))) (fun _ _ => False)))) := by
    intro eg
    rw [r8, J_le (by omega) (by omega)]
    refine ⟨fun c => LP eg (Or.inl (by omega)), fun c => ?_⟩
    refine c_tw h (hw 12 w_reach (by decide)) (fun e τ f k => ⟨f.sh n4, k.1, fun c => absurd c (by decide), fun _ => c_reach k (f.sh n4) hd (gf f) hv (by omega) (fun τ2 f2 L => fin ?_ f f2 L)⟩) (fun e6 => ⟨n4, h.1, fun _ => LP eg (Or.inr e6), fun c => absurd rfl c⟩)
    have x5 : isW tx n p w_gate = false := isW_x e (by decide)
    unfold gLine
    rw [if_neg (by rw [e1]; decide), if_neg (by rw [e2]; decide), if_neg (by rw [e3]; decide), if_neg (by rw [e4]; decide), if_neg (by rw [x5]; decide), if_pos e, if_neg (by omega)]
  rw [r5, J_le (by omega) (by omega)]
  refine ⟨fun c => LQ (Or.inl (by omega)), fun c => ?_⟩
  refine c_tw h (hw 10 w_gate (by decide)) (fun e τ f k => ⟨f.sh n4, k.1, fun c => absurd c (by decide), fun _ => c_gate k (f.sh n4) hd (gf f) hv (by omega) (fun τ2 f2 L => fin ?_ f f2 L)⟩) (fun e5 => ⟨n4, h.1, fun _ => LQ (Or.inr e5), fun c => absurd rfl c⟩)
  unfold gLine
  rw [if_neg (by rw [e1]; decide), if_neg (by rw [e2]; decide), if_neg (by rw [e3]; decide), if_neg (by rw [e4]; decide), if_pos e, if_neg (by omega)]
/-! the lines, one by one -/
theorem c_lb0 (h : CTg σ X tx n p) (he : p = n → Q (.inl (some (.int (J 0)))) σ) (hg : p < n → Q (.inl (some (.int (J 1)))) σ) : WP gT (d + 2) B 83 0 [.ref X, .int (J 0)] [] σ Q := by
  have hl := h.le
  refine g_83_0 h.1 ⟨fun c => absurd (h.r.symm.trans c) (by decide), fun _ => ⟨fun c => he (h.end_.mp c), fun c => ⟨fun _ => ⟨fun _ => ?_, fun c => absurd (by decide) c⟩, fun c => absurd (by decide) c⟩⟩⟩
  rw [h.r]
  exact hg (Nat.lt_of_le_of_ne hl.1 (fun e => c (h.end_.mpr e)))
theorem c_lb_b (h : CTb σ X tx n f0) {x1 : Int32} (h0 : Q (.inl (some (.int (J 0)))) σ) : WP gT (d + 2) B 83 0 [.ref X, .int x1] [] σ Q :=
  g_83_0 h.1 ⟨fun _ => h0, fun c => absurd h.r c⟩
theorem c_lb (h : CTg σ X tx n p) {k : Nat} (hk : 1 ≤ k ∧ k ≤ 12) (he : p = n → Q (.inl (some (.int (J 0)))) σ) (hn : p < n → isS tx n p 59 = false → ∀ τ, Fr (PtX X) σ τ → CTb τ X tx n p → Q (.inl (some (.int (J 0)))) τ)
    (hg : p < n → isS tx n p 59 = true → k < 12 → ∀ τ, Fr (PtX X) σ τ → CTg τ X tx n (aftS tx n p) → Q (.inl (some (.int (J 1)))) τ) (h12 : p < n → isS tx n p 59 = true → k = 12 → ∀ τ, Fr (PtX X) σ τ → CTb τ X tx n (aftS tx n p) → Q (.inl (some (.int (J 0)))) τ) : WP gT (d + 2) B 83 0 [.ref X, .int (J k)] [] σ Q := by
  have hl := h.le
  refine g_83_0 h.1 ⟨fun c => absurd (h.r.symm.trans c) (by decide), fun _ => ⟨fun c => he (h.end_.mp c), fun c => ⟨fun c2 => ?_, fun _ => ?_⟩⟩⟩
  · exfalso; rw [J_le (by omega) (by omega)] at c2; omega
  · have hp : p < n := Nat.lt_of_le_of_ne hl.1 (fun e => c (h.end_.mpr e))
    refine c_ts h (c := 59) (by omega) (fun e _ τ f k1 => ⟨k1.1, fun c => absurd c (by decide), fun _ => ⟨fun c3 => ?_, fun c3 => ?_⟩⟩) (fun e => ⟨h.1, fun _ => c_fail h (fun τ f k1 => ⟨k1.1, ?_⟩), fun c => absurd rfl c⟩)
    · rw [J_lt (by omega) (by omega)] at c3
      rw [k1.r]; exact hg hp e c3 τ f k1
    · rw [J_lt (by omega) (by omega)] at c3
      refine c_fail k1 (fun τ2 f2 k2 => ⟨k2.1, ?_⟩)
      rw [k2.r]; exact h12 hp e (by omega) τ2 (f.tr f2) k2
    · rw [k1.r]; exact hn hp e τ f k1
/-- what a line leaves; besides, which numbers it does not touch -/
def GX (mv mv' : Mem) : Prop := (∀ k, k = 0 ∨ (4 ≤ k ∧ k ≤ 8) ∨ (13 ≤ k ∧ k < 20) ∨ 424 ≤ k → mv' k = mv k) ∧ mv 3 ≤ mv' 3
theorem bnd_i {α β : Type} {r : Rs α} {k : α → Nat → Rs β} {x : β × Nat} (h : bnd r k = .inr x) : ∃ a q, r = .inr (a, q) ∧ k a q = .inr x := by
  cases r with
  | inl f => cases h
  | inr a => exact ⟨a.1, a.2, rfl, h⟩
theorem gNums_x {q : Nat} {a : Mem × Nat} : ∀ f k (mk : Mem) p, f + k = 6 → mk 1 ≤ 3 → gNums tx n f mk k p = .inr (a, q) → a.1 1 = mk 1 ∧ (∀ j, ¬ (308 ≤ j ∧ j < 336) → a.1 j = mk j) := by
  intro f
  induction f with
  | zero =>
    intro k mk p hk h1 h
    by_cases c : p < n ∧ isD tx p = true
    · rw [gNums_0 c] at h; cases h
    · rw [gNums_n c] at h; cases h; exact ⟨rfl, fun _ _ => rfl⟩
  | succ f ih =>
    intro k mk p hk h1 h
    by_cases c : p < n ∧ isD tx p = true
    · rw [gNums_y c] at h
      unfold gNum1 at h
      obtain ⟨v, q2, _, h3⟩ := bnd_i h
      have h4 := ih (k + 1) _ _ (by omega) (by rw [up_ne (by omega)]; exact h1) h3
      refine ⟨by rw [h4.1, up_ne (by omega)], fun j hj => ?_⟩
      rw [h4.2 j hj, up_ne (by omega)]
    · rw [gNums_n c] at h; cases h; exact ⟨rfl, fun _ _ => rfl⟩
theorem gLine_x {q : Nat} (hv : VG mv) (h : gLine tx n mv p = .inr (mv', q)) : GX mv mv' := by
  have hs := hv.s
  unfold gLine at h
  have sp : ∀ {fr hi p : Nat}, 20 ≤ fr → fr ≤ 212 → gSpan tx n mv fr hi p = .inr (mv', q) → GX mv mv' := by
    intro fr hi p h1 h2 h
    unfold gSpan at h
    obtain ⟨v1, q1, t1, h⟩ := bnd_i h
    obtain ⟨v2, q2, t2, h⟩ := bnd_i h
    obtain ⟨v3, q3, t3, h⟩ := bnd_i h
    have b1 := tN_v t1
    have b2 := tN_v t2
    cases h
    have e : ∀ k, k < 20 ∨ 424 ≤ k → fillM mv fr v1 v2 v3 k = mv k := fun k hk => if_neg (by omega)
    exact ⟨fun k hk => e k (by omega), by rw [e 3 (by omega)]; exact Nat.le_refl _⟩
  split at h
  · unfold gLake at h
    obtain ⟨v1, q1, t1, h⟩ := bnd_i h
    obtain ⟨v2, q2, t2, h⟩ := bnd_i h
    obtain ⟨v3, q3, t3, h⟩ := bnd_i h
    obtain ⟨v4, q4, t4, h⟩ := bnd_i h
    cases h
    exact ⟨fun k hk => by rw [up_ne (by omega), up_ne (by omega), up_ne (by omega), up_ne (by omega)], by rw [up_ne (by omega), up_ne (by omega), up_ne (by omega), up_ne (by omega)]; exact Nat.le_refl _⟩
  split at h
  · exact sp (by omega) (by omega) h
  split at h
  · exact sp (by omega) (by omega) h
  split at h
  · exact sp (by omega) (by omega) h
  split at h
  · split at h
    · cases h
    · unfold gGate at h
      obtain ⟨v1, q1, t1, h⟩ := bnd_i h
      obtain ⟨a, q2, t2, h⟩ := bnd_i h
      have hx := gNums_x 5 1 _ _ (by omega) (by rw [up_ne (by omega)]; omega) t2
      have e1 : a.1 1 = mv 1 := by rw [hx.1, up_ne (by omega)]
      cases h
      have e : ∀ k, ¬ k = 1 → ¬ (308 ≤ k ∧ k < 336) → up (up a.1 (308 + 7 * a.1 1) a.2) 1 (a.1 1 + 1) k = mv k := fun k hk hk2 => by rw [up_ne hk, up_ne (by omega), hx.2 k hk2, up_ne (by omega)]
      exact ⟨fun k hk => e k (by omega) (by omega), by rw [e 3 (by omega) (by omega)]; exact Nat.le_refl _⟩
  split at h
  · split at h
    · cases h
    · unfold gReach at h
      obtain ⟨v1, q1, t1, h⟩ := bnd_i h
      obtain ⟨v2, q2, t2, h⟩ := bnd_i h
      obtain ⟨v3, q3, t3, h⟩ := bnd_i h
      obtain ⟨v4, q4, t4, h⟩ := bnd_i h
      obtain ⟨v5, q5, t5, h⟩ := bnd_i h
      cases h
      exact ⟨fun k hk => by rw [up_ne (by omega), up_ne (by omega), up_ne (by omega), up_ne (by omega), up_ne (by omega), up_ne (by omega)], by rw [up_ne (by omega), up_ne (by omega), up_ne (by omega), up_ne (by omega), up_ne (by omega), up_ne (by omega)]; exact Nat.le_refl _⟩
  split at h
  · split at h
    · cases h
    · unfold gPlace at h
      obtain ⟨v1, q1, t1, h⟩ := bnd_i h
      obtain ⟨v2, q2, t2, h⟩ := bnd_i h
      obtain ⟨v3, q3, t3, h⟩ := bnd_i h
      obtain ⟨v4, q4, t4, h⟩ := bnd_i h
      cases h
      exact ⟨fun k hk => by rw [up_ne (by omega), up_ne (by omega), up_ne (by omega), up_ne (by omega), up_ne (by omega)], by rw [up_eq]; omega⟩
  · cases h
theorem GX.rf : GX mv mv := ⟨fun _ _ => rfl, Nat.le_refl _⟩
theorem GX.tr {mv2 : Mem} (h : GX mv mv') (k : GX mv' mv2) : GX mv mv2 := ⟨fun j hj => (k.1 j hj).trans (h.1 j hj), Nat.le_trans h.2 k.2⟩
/-- behind a line: what is still to come -/
def gNext {α : Type} (tx : Mem) (n : Nat) (line : α → Nat → Rs α) (f : Nat) (a : α) (p : Nat) : Rs α := if p = n then .inr (a, p) else if isS tx n p 59 = true then gLs tx n line f a (aftS tx n p) else .inl p
theorem gLs_s {α : Type} {line : α → Nat → Rs α} {f : Nat} {a : α} : gLs tx n line (f + 1) a p = bnd (line a p) (gNext tx n line f) := rfl
/-- what the lines leave, in the class -/
def LN2 (τ : Sto) (X g : Nat) (tx : Mem) (n : Nat) (mv : Mem) (r : Rs Mem) : Prop := match r with
  | .inl f => CTb τ X tx n f
  | .inr (mv', q) => CTg τ X tx n q ∧ RGg τ g mv' ∧ VG mv' ∧ GX mv mv'
theorem c_tellL (hd : X + 1 < g) (hX : 97 ≤ X) {mw : Mem} (n4 : S_4 σ g) (hw : WRD σ) {R : Rs Mem} (hQ : ∀ τ, Fr (Pgl X g) σ τ → LN2 τ X g tx n mw R → Q (.inl none) τ) : ∀ f k, f + k = 12 →
    (∀ mv p τ, Fr (Pgl X g) σ τ → CTg τ X tx n p → RGg τ g mv → VG mv → GX mw mv → 1 ≤ k → R = gNext tx n (gLine tx n) f mv p → WP gT (d + 7) B 37 2 [.ref g, .ref X, .int (J k)] [] τ Q) ∧
    (∀ mv p τ, Fr (Pgl X g) σ τ → CTg τ X tx n p → RGg τ g mv → VG mv → GX mw mv → k + 1 ≤ 12 → R = gLs tx n (gLine tx n) f mv p → WP gT (d + 6) (0, 0) 38 0 [.ref g, .ref X] [] τ (oV (fun τ8 => WP gT (d + 7) B 37 2 [.ref g, .ref X, .int (J k + J 1)] [] τ8 Q) (fun _ _ => False))) ∧
    (∀ f0 τ, Fr (Pgl X g) σ τ → CTb τ X tx n f0 → R = .inl f0 → WP gT (d + 7) B 37 2 [.ref g, .ref X, .int (J k)] [] τ Q) ∧
    (∀ f0 τ, Fr (Pgl X g) σ τ → CTg τ X tx n f0 → f0 < n → isD tx f0 = true → 1 ≤ k → R = .inl f0 → WP gT (d + 7) B 37 2 [.ref g, .ref X, .int (J k)] [] τ Q) := by
  intro f
  /- behind the last -/
  have Eb : ∀ f0 τ, Fr (Pgl X g) σ τ → CTb τ X tx n f0 → R = .inl f0 → WP gT (d + 6) (0, 0) 83 0 [.ref X, .int (J 12)] [] τ (oI (fun v1 τ2 => Q (.inl none) τ2) (fun _ _ => False)) := fun f0 τ F h hR => c_lb_b h (hQ τ F (by rw [hR]; exact h))
  have Eg : ∀ mv τ, Fr (Pgl X g) σ τ → CTg τ X tx n n → RGg τ g mv → VG mv → GX mw mv → R = .inr (mv, n) → WP gT (d + 6) (0, 0) 83 0 [.ref X, .int (J 12)] [] τ (oI (fun v1 τ2 => Q (.inl none) τ2) (fun _ _ => False)) := fun mv τ F h hG hv hx hR => c_lb h (by omega) (fun _ => hQ τ F (by rw [hR]; exact ⟨h, hG, hv, hx⟩)) (fun c => absurd c (Nat.lt_irrefl _)) (fun c => absurd c (Nat.lt_irrefl _)) (fun c => absurd c (Nat.lt_irrefl _))
  have Bad : ∀ k f0 τ, k ≤ 12 → Fr (Pgl X g) σ τ → CTb τ X tx n f0 → R = .inl f0 → WP gT (d + 7) B 37 2 [.ref g, .ref X, .int (J k)] [] τ Q := fun k f0 τ hk F h hR =>
    g_37_2 h.1 ⟨fun _ => Eb f0 τ F h hR, fun _ => c_lb_b h ⟨h.1, F.sh n4, fun _ => Eb f0 τ F h hR, fun c => absurd rfl c⟩⟩
  have nod : ∀ f0, isD tx f0 = true → isS tx n f0 59 = false := fun f0 h => by
    have h1 := isD_iff.mp h
    unfold isS
    have : ¬ tx f0 = 59 := by omega
    simp [this]
  have Dig : ∀ k f0 τ, 1 ≤ k → k ≤ 12 → Fr (Pgl X g) σ τ → CTg τ X tx n f0 → f0 < n → isD tx f0 = true → R = .inl f0 → WP gT (d + 7) B 37 2 [.ref g, .ref X, .int (J k)] [] τ Q := by
    intro k f0 τ h1 h2 F h hlt hdig hR
    refine g_37_2 h.1 ⟨fun c => ?_, fun _ => ?_⟩
    · exact c_lb h (by omega) (fun e => by omega) (fun _ _ τ2 f2 k2 => hQ τ2 (F.tr (f2.mono PtX_gl)) (by rw [hR]; exact k2)) (fun _ e => by rw [nod f0 hdig] at e; exact absurd e (by decide)) (fun _ e => by rw [nod f0 hdig] at e; exact absurd e (by decide))
    · exact c_lb h (by omega) (fun e => by omega) (fun _ _ τ2 f2 k2 => ⟨k2.1, (F.tr (f2.mono PtX_gl)).sh n4, fun _ => Eb f0 τ2 (F.tr (f2.mono PtX_gl)) k2 hR, fun c => absurd rfl c⟩) (fun _ e => by rw [nod f0 hdig] at e; exact absurd e (by decide)) (fun _ e => by rw [nod f0 hdig] at e; exact absurd e (by decide))
  induction f with
  | zero =>
    intro k hk
    have hk : k = 12 := by omega
    subst hk
    refine ⟨fun mv p τ F h hG hv hx _ hR => ?_, fun mv p τ F h hG hv hx hk _ => by omega, fun f0 τ F h hR => Bad 12 f0 τ (by omega) F h hR, fun f0 τ F h a b _ hR => Dig 12 f0 τ (by omega) (by omega) F h a b hR⟩
    refine g_37_2 h.1 ⟨fun _ => c_lb h (by omega) (fun e => ?_) (fun hlt hno τ2 f2 k2 => ?_) (fun _ _ c => absurd c (by omega)) (fun hlt hyes _ τ2 f2 k2 => ?_), fun c => absurd (by decide) c⟩
    · subst e
      exact hQ τ F (by rw [hR]; unfold gNext; rw [if_pos rfl]; exact ⟨h, hG, hv, hx⟩)
    · exact hQ τ2 (F.tr (f2.mono PtX_gl)) (by rw [hR]; unfold gNext; rw [if_neg (by omega), if_neg (by rw [hno]; decide)]; exact k2)
    · exact hQ τ2 (F.tr (f2.mono PtX_gl)) (by rw [hR]; unfold gNext; rw [if_neg (by omega), if_pos hyes]; exact k2)
  | succ f ih =>
    intro k hk
    have LINE : ∀ mv p τ, Fr (Pgl X g) σ τ → CTg τ X tx n p → RGg τ g mv → VG mv → GX mw mv → k + 1 ≤ 12 → R = gLs tx n (gLine tx n) (f + 1) mv p → WP gT (d + 6) (0, 0) 38 0 [.ref g, .ref X] [] τ (oV (fun τ8 => WP gT (d + 7) B 37 2 [.ref g, .ref X, .int (J k + J 1)] [] τ8 Q) (fun _ _ => False)) := by
      intro mv p τ F h hG hv hx hk2 hR
      rw [gLs_s] at hR
      refine c_line h (F.sh n4) hd hX hG hv (hw.fr F (fun p j k => by unfold Pgl at k; omega)) (fun τ2 f2 L => ?_)
      dsimp only [oV]
      rw [J_add]
      have ih := ih (k + 1) (by omega)
      cases e : gLine tx n mv p with
      | inl f0 =>
        rw [e] at L
        rw [bnd_l e] at hR
        rcases L with L | ⟨L1, L2, L3⟩
        · exact ih.2.2.1 f0 τ2 (F.tr f2) L hR
        · exact ih.2.2.2 f0 τ2 (F.tr f2) L1 L2 L3 (by omega) hR
      | inr a =>
        obtain ⟨mv', q⟩ := a
        rw [e] at L
        rw [bnd_r e] at hR
        exact ih.1 mv' q τ2 (F.tr f2) L.1 L.2.1 L.2.2 (hx.tr (gLine_x hv e)) (by omega) hR
    refine ⟨fun mv p τ F h hG hv hx h1 hR => ?_, LINE, fun f0 τ F h hR => Bad k f0 τ (by omega) F h hR, fun f0 τ F h a b c hR => Dig k f0 τ c (by omega) F h a b hR⟩
    refine g_37_2 h.1 ⟨fun c => ?_, fun _ => c_lb h (by omega) (fun e => ⟨h.1, F.sh n4, fun _ => ?_, fun c => absurd rfl c⟩) (fun hlt hno τ2 f2 k2 => ⟨k2.1, (F.tr (f2.mono PtX_gl)).sh n4, fun _ => ?_, fun c => absurd rfl c⟩) (fun hlt hyes _ τ2 f2 k2 => ⟨k2.1, (F.tr (f2.mono PtX_gl)).sh n4, fun c => absurd c (by decide), fun _ => ?_⟩) (fun _ _ c => by omega)⟩
    · exfalso; rw [J_le (by omega) (by omega)] at c; omega
    · subst e
      exact Eg mv τ F h hG hv hx (by rw [hR]; unfold gNext; rw [if_pos rfl])
    · exact Eb p τ2 (F.tr (f2.mono PtX_gl)) k2 (by rw [hR]; unfold gNext; rw [if_neg (by omega), if_neg (by rw [hno]; decide)])
    · exact LINE mv _ τ2 (F.tr (f2.mono PtX_gl)) k2 (hG.fr f2 (fun i j hi k => by unfold PtX at k; omega)) hv hx (by omega) (by rw [hR]; unfold gNext; rw [if_neg (by omega), if_pos hyes])
theorem c_tellG (h : CTg σ X tx n (skp tx n 0)) (n4 : S_4 σ g) (hd : X + 1 < g) (hX : 97 ≤ X) (hG : RGg σ g mv) (hv : VG mv) (hw : WRD σ) (hQ : ∀ τ, Fr (Pgl X g) σ τ → LN2 τ X g tx n mv (gTell tx n mv) → Q (.inl none) τ) : WP gT (d + 7) B 37 0 [.ref g, .ref X, .retAddr 0] [] σ Q := by
  refine g_37_0 (g_37_2 h.1 ⟨fun c => absurd c (by decide), fun _ => c_lb0 h (fun e => ⟨h.1, n4, fun _ => ?_, fun c => absurd rfl c⟩) (fun hlt => ⟨h.1, n4, fun c => absurd c (by decide), fun _ => ?_⟩)⟩)
  · have h2 := h
    rw [e] at h2
    exact c_lb h2 (by omega) (fun _ => hQ σ Fr.rf (by unfold gTell gAll; rw [if_pos e]; exact ⟨h2, hG, hv, GX.rf⟩)) (fun c => absurd c (Nat.lt_irrefl _)) (fun c => absurd c (Nat.lt_irrefl _)) (fun c => absurd c (Nat.lt_irrefl _))
  · exact (c_tellL hd hX n4 hw hQ 12 0 rfl).2.1 mv _ σ Fr.rf h hG hv GX.rf (by omega) (by unfold gTell gAll; rw [if_neg (by omega)])
