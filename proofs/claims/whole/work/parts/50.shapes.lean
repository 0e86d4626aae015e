/-! ===== shapes: the kinds and sizes of an object with all that it holds, by places from its own on; its references ===== -/
def Shp (n np : Nat) (zs : List (Nat × Nat)) (ps : List (Nat × Nat × Nat)) (σ : Sto) (o : Nat) : Prop := (∀ i, i < n → sK σ (o + i) = (zs.getD i (0, 0)).1 ∧ sZ σ (o + i) = (zs.getD i (0, 0)).2) ∧ ∀ k, k < np → sP σ (o + (ps.getD k (0, 0, 0)).1) (ps.getD k (0, 0, 0)).2.1 = some (o + (ps.getD k (0, 0, 0)).2.2)
def zs_0 : List (Nat × Nat) := [(1, 0), (14, 6), (14, 6), (14, 12)]
def ps_0 : List (Nat × Nat × Nat) := [(0, 2, 1), (0, 3, 2), (0, 4, 3)]
abbrev S_0 : Sto → Nat → Prop := Shp 4 3 zs_0 ps_0
def zs_1 : List (Nat × Nat) := [(2, 0), (14, 10), (14, 10), (14, 10), (16, 10), (14, 10)]
def ps_1 : List (Nat × Nat × Nat) := [(0, 0, 1), (0, 1, 2), (0, 2, 3), (0, 3, 4), (0, 4, 5)]
abbrev S_1 : Sto → Nat → Prop := Shp 6 5 zs_1 ps_1
def zs_2 : List (Nat × Nat) := [(3, 0), (5, 0), (18, 3), (14, 96), (14, 96), (14, 96), (14, 4), (14, 28), (14, 8), (14, 8), (14, 8), (14, 8), (14, 8), (14, 12), (14, 12), (14, 12), (14, 12), (18, 6), (14, 384), (14, 384), (14, 384), (14, 384), (14, 384), (14, 384), (7, 0), (14, 10), (14, 10), (14, 10), (14, 10), (14, 10), (14, 10), (14, 24), (14, 24), (17, 4), (14, 16), (14, 16), (16, 16)]
def ps_2 : List (Nat × Nat × Nat) := [(0, 1, 1), (1, 4, 2), (2, 0, 3), (2, 1, 4), (2, 2, 5), (1, 6, 6), (1, 7, 7), (1, 9, 8), (1, 10, 9), (1, 11, 10), (1, 12, 11), (1, 13, 12), (1, 15, 13), (1, 16, 14), (1, 17, 15), (1, 18, 16), (0, 3, 17), (17, 0, 18), (17, 1, 19), (17, 2, 20), (17, 3, 21), (17, 4, 22), (17, 5, 23), (0, 4, 24), (24, 1, 25), (24, 2, 26), (24, 3, 27), (24, 4, 28), (24, 5, 29), (24, 6, 30), (24, 8, 31), (24, 9, 32), (0, 10, 33), (0, 12, 34), (0, 13, 35), (0, 14, 36)]
abbrev S_2 : Sto → Nat → Prop := Shp 37 36 zs_2 ps_2
def zs_3 : List (Nat × Nat) := [(4, 0), (14, 96), (14, 96), (14, 96), (18, 8), (14, 96), (14, 96), (14, 96), (14, 96), (14, 96), (14, 96), (14, 96), (14, 96), (18, 8), (14, 96), (14, 96), (14, 96), (14, 96), (14, 96), (14, 96), (14, 96), (14, 96)]
def ps_3 : List (Nat × Nat × Nat) := [(0, 0, 1), (0, 1, 2), (0, 2, 3), (0, 3, 4), (4, 0, 5), (4, 1, 6), (4, 2, 7), (4, 3, 8), (4, 4, 9), (4, 5, 10), (4, 6, 11), (4, 7, 12), (0, 4, 13), (13, 0, 14), (13, 1, 15), (13, 2, 16), (13, 3, 17), (13, 4, 18), (13, 5, 19), (13, 6, 20), (13, 7, 21)]
abbrev S_3 : Sto → Nat → Prop := Shp 22 21 zs_3 ps_3
def zs_4 : List (Nat × Nat) := [(5, 0), (18, 3), (14, 96), (14, 96), (14, 96), (14, 4), (14, 28), (14, 8), (14, 8), (14, 8), (14, 8), (14, 8), (14, 12), (14, 12), (14, 12), (14, 12)]
def ps_4 : List (Nat × Nat × Nat) := [(0, 4, 1), (1, 0, 2), (1, 1, 3), (1, 2, 4), (0, 6, 5), (0, 7, 6), (0, 9, 7), (0, 10, 8), (0, 11, 9), (0, 12, 10), (0, 13, 11), (0, 15, 12), (0, 16, 13), (0, 17, 14), (0, 18, 15)]
abbrev S_4 : Sto → Nat → Prop := Shp 16 15 zs_4 ps_4
def zs_5 : List (Nat × Nat) := [(6, 0), (14, 97), (14, 9409)]
def ps_5 : List (Nat × Nat × Nat) := [(0, 2, 1), (0, 3, 2)]
abbrev S_5 : Sto → Nat → Prop := Shp 3 2 zs_5 ps_5
def zs_6 : List (Nat × Nat) := [(7, 0), (14, 10), (14, 10), (14, 10), (14, 10), (14, 10), (14, 10), (14, 24), (14, 24)]
def ps_6 : List (Nat × Nat × Nat) := [(0, 1, 1), (0, 2, 2), (0, 3, 3), (0, 4, 4), (0, 5, 5), (0, 6, 6), (0, 8, 7), (0, 9, 8)]
abbrev S_6 : Sto → Nat → Prop := Shp 9 8 zs_6 ps_6
def zs_8 : List (Nat × Nat) := [(9, 0), (14, 12), (14, 12), (14, 12), (14, 400)]
def ps_8 : List (Nat × Nat × Nat) := [(0, 1, 1), (0, 2, 2), (0, 3, 3), (0, 5, 4)]
abbrev S_8 : Sto → Nat → Prop := Shp 5 4 zs_8 ps_8
def zs_9 : List (Nat × Nat) := [(10, 0), (14, 400)]
def ps_9 : List (Nat × Nat × Nat) := [(0, 0, 1)]
abbrev S_9 : Sto → Nat → Prop := Shp 2 1 zs_9 ps_9
def zs_10 : List (Nat × Nat) := [(11, 0), (4, 0), (14, 96), (14, 96), (14, 96), (18, 8), (14, 96), (14, 96), (14, 96), (14, 96), (14, 96), (14, 96), (14, 96), (14, 96), (18, 8), (14, 96), (14, 96), (14, 96), (14, 96), (14, 96), (14, 96), (14, 96), (14, 96), (2, 0), (14, 10), (14, 10), (14, 10), (16, 10), (14, 10), (14, 384), (14, 5)]
def ps_10 : List (Nat × Nat × Nat) := [(0, 0, 1), (1, 0, 2), (1, 1, 3), (1, 2, 4), (1, 3, 5), (5, 0, 6), (5, 1, 7), (5, 2, 8), (5, 3, 9), (5, 4, 10), (5, 5, 11), (5, 6, 12), (5, 7, 13), (1, 4, 14), (14, 0, 15), (14, 1, 16), (14, 2, 17), (14, 3, 18), (14, 4, 19), (14, 5, 20), (14, 6, 21), (14, 7, 22), (0, 1, 23), (23, 0, 24), (23, 1, 25), (23, 2, 26), (23, 3, 27), (23, 4, 28), (0, 2, 29), (0, 4, 30)]
abbrev S_10 : Sto → Nat → Prop := Shp 31 30 zs_10 ps_10
def zs_11 : List (Nat × Nat) := [(12, 0), (10, 0), (14, 400), (5, 0), (18, 3), (14, 96), (14, 96), (14, 96), (14, 4), (14, 28), (14, 8), (14, 8), (14, 8), (14, 8), (14, 8), (14, 12), (14, 12), (14, 12), (14, 12), (9, 0), (14, 12), (14, 12), (14, 12), (14, 400), (3, 0), (5, 0), (18, 3), (14, 96), (14, 96), (14, 96), (14, 4), (14, 28), (14, 8), (14, 8), (14, 8), (14, 8), (14, 8), (14, 12), (14, 12), (14, 12), (14, 12), (18, 6), (14, 384), (14, 384), (14, 384), (14, 384), (14, 384), (14, 384), (7, 0), (14, 10), (14, 10), (14, 10), (14, 10), (14, 10), (14, 10), (14, 24), (14, 24), (17, 4), (14, 16), (14, 16), (16, 16), (3, 0), (5, 0), (18, 3), (14, 96), (14, 96), (14, 96), (14, 4), (14, 28), (14, 8), (14, 8), (14, 8), (14, 8), (14, 8), (14, 12), (14, 12), (14, 12), (14, 12), (18, 6), (14, 384), (14, 384), (14, 384), (14, 384), (14, 384), (14, 384), (7, 0), (14, 10), (14, 10), (14, 10), (14, 10), (14, 10), (14, 10), (14, 24), (14, 24), (17, 4), (14, 16), (14, 16), (16, 16), (4, 0), (14, 96), (14, 96), (14, 96), (18, 8), (14, 96), (14, 96), (14, 96), (14, 96), (14, 96), (14, 96), (14, 96), (14, 96), (18, 8), (14, 96), (14, 96), (14, 96), (14, 96), (14, 96), (14, 96), (14, 96), (14, 96), (2, 0), (14, 10), (14, 10), (14, 10), (16, 10), (14, 10), (1, 0), (14, 6), (14, 6), (14, 12), (11, 0), (4, 0), (14, 96), (14, 96), (14, 96), (18, 8), (14, 96), (14, 96), (14, 96), (14, 96), (14, 96), (14, 96), (14, 96), (14, 96), (18, 8), (14, 96), (14, 96), (14, 96), (14, 96), (14, 96), (14, 96), (14, 96), (14, 96), (2, 0), (14, 10), (14, 10), (14, 10), (16, 10), (14, 10), (14, 384), (14, 5), (6, 0), (14, 97), (14, 9409)]
def ps_11 : List (Nat × Nat × Nat) := [(0, 0, 1), (1, 0, 2), (0, 1, 3), (3, 4, 4), (4, 0, 5), (4, 1, 6), (4, 2, 7), (3, 6, 8), (3, 7, 9), (3, 9, 10), (3, 10, 11), (3, 11, 12), (3, 12, 13), (3, 13, 14), (3, 15, 15), (3, 16, 16), (3, 17, 17), (3, 18, 18), (0, 2, 19), (19, 1, 20), (19, 2, 21), (19, 3, 22), (19, 5, 23), (0, 3, 24), (24, 1, 25), (25, 4, 26), (26, 0, 27), (26, 1, 28), (26, 2, 29), (25, 6, 30), (25, 7, 31), (25, 9, 32), (25, 10, 33), (25, 11, 34), (25, 12, 35), (25, 13, 36), (25, 15, 37), (25, 16, 38), (25, 17, 39), (25, 18, 40), (24, 3, 41), (41, 0, 42), (41, 1, 43), (41, 2, 44), (41, 3, 45), (41, 4, 46), (41, 5, 47), (24, 4, 48), (48, 1, 49), (48, 2, 50), (48, 3, 51), (48, 4, 52), (48, 5, 53), (48, 6, 54), (48, 8, 55), (48, 9, 56), (24, 10, 57), (24, 12, 58), (24, 13, 59), (24, 14, 60), (0, 4, 61), (61, 1, 62), (62, 4, 63), (63, 0, 64), (63, 1, 65), (63, 2, 66), (62, 6, 67), (62, 7, 68), (62, 9, 69), (62, 10, 70), (62, 11, 71), (62, 12, 72), (62, 13, 73), (62, 15, 74), (62, 16, 75), (62, 17, 76), (62, 18, 77), (61, 3, 78), (78, 0, 79), (78, 1, 80), (78, 2, 81), (78, 3, 82), (78, 4, 83), (78, 5, 84), (61, 4, 85), (85, 1, 86), (85, 2, 87), (85, 3, 88), (85, 4, 89), (85, 5, 90), (85, 6, 91), (85, 8, 92), (85, 9, 93), (61, 10, 94), (61, 12, 95), (61, 13, 96), (61, 14, 97), (0, 5, 98), (98, 0, 99), (98, 1, 100), (98, 2, 101), (98, 3, 102), (102, 0, 103), (102, 1, 104), (102, 2, 105), (102, 3, 106), (102, 4, 107), (102, 5, 108), (102, 6, 109), (102, 7, 110), (98, 4, 111), (111, 0, 112), (111, 1, 113), (111, 2, 114), (111, 3, 115), (111, 4, 116), (111, 5, 117), (111, 6, 118), (111, 7, 119), (0, 6, 120), (120, 0, 121), (120, 1, 122), (120, 2, 123), (120, 3, 124), (120, 4, 125), (0, 7, 126), (126, 2, 127), (126, 3, 128), (126, 4, 129), (0, 8, 130), (130, 0, 131), (131, 0, 132), (131, 1, 133), (131, 2, 134), (131, 3, 135), (135, 0, 136), (135, 1, 137), (135, 2, 138), (135, 3, 139), (135, 4, 140), (135, 5, 141), (135, 6, 142), (135, 7, 143), (131, 4, 144), (144, 0, 145), (144, 1, 146), (144, 2, 147), (144, 3, 148), (144, 4, 149), (144, 5, 150), (144, 6, 151), (144, 7, 152), (130, 1, 153), (153, 0, 154), (153, 1, 155), (153, 2, 156), (153, 3, 157), (153, 4, 158), (130, 2, 159), (130, 4, 160), (0, 9, 161), (161, 2, 162), (161, 3, 163)]
abbrev S_11 : Sto → Nat → Prop := Shp 164 163 zs_11 ps_11
def zs_12 : List (Nat × Nat) := [(13, 0), (14, 4488), (14, 4488), (14, 424), (14, 400), (14, 384), (14, 97), (14, 776), (14, 96), (14, 96), (14, 32), (14, 32), (14, 6), (14, 6), (14, 5), (15, 9409), (15, 9409)]
def ps_12 : List (Nat × Nat × Nat) := [(0, 1, 1), (0, 2, 2), (0, 4, 3), (0, 5, 4), (0, 15, 5), (0, 16, 6), (0, 17, 7), (0, 18, 8), (0, 19, 9), (0, 21, 10), (0, 22, 11), (0, 24, 12), (0, 25, 13), (0, 26, 14), (0, 27, 15), (0, 28, 16)]
abbrev S_12 : Sto → Nat → Prop := Shp 17 16 zs_12 ps_12
def oV (k : Sto → Prop) (x : Nat → Sto → Prop) : Out → Sto → Prop := fun r τ => match r with
  | .inl none => k τ
  | .inr e => x e τ
  | _ => False
def oI (k : Int32 → Sto → Prop) (x : Nat → Sto → Prop) : Out → Sto → Prop := fun r τ => match r with
  | .inl (some (.int v)) => k v τ
  | .inr e => x e τ
  | _ => False
def oL (k : Int64 → Sto → Prop) (x : Nat → Sto → Prop) : Out → Sto → Prop := fun r τ => match r with
  | .inl (some (.long v)) => k v τ
  | .inr e => x e τ
  | _ => False
def oR (k : Nat → Sto → Prop) (x : Nat → Sto → Prop) : Out → Sto → Prop := fun r τ => match r with
  | .inl (some (.ref v)) => k v τ
  | .inr e => x e τ
  | _ => False
theorem oV_use {T : Tab} {d : Nat} {B : Nat × Nat} {mt pc : Nat} {ls st : List Value} {σ : Sto} {k : Sto → Prop} {x : Nat → Sto → Prop} {Q : Out → Sto → Prop} (h : WP T d B mt pc ls st σ (oV k x)) (h1 : ∀ τ, k τ → Q (.inl none) τ := by exact fun _ h => h) (h2 : ∀ e τ, x e τ → Q (.inr e) τ := by exact fun _ _ h => h) : WP T d B mt pc ls st σ Q := WP.mono (fun o τ h => by
  rcases o with (_ | v) | e
  · exact h1 _ h
  · exact h.elim
  · exact h2 _ _ h) h
theorem oI_use {T : Tab} {d : Nat} {B : Nat × Nat} {mt pc : Nat} {ls st : List Value} {σ : Sto} {k : Int32 → Sto → Prop} {x : Nat → Sto → Prop} {Q : Out → Sto → Prop} (h : WP T d B mt pc ls st σ (oI k x)) (h1 : ∀ v τ, k v τ → Q (.inl (some (.int v))) τ := by exact fun _ _ h => h) (h2 : ∀ e τ, x e τ → Q (.inr e) τ := by exact fun _ _ h => h) : WP T d B mt pc ls st σ Q := WP.mono (fun o τ h => by
  rcases o with (_ | v) | e
  · exact h.elim
  · cases v <;> first | exact h.elim | exact h1 _ _ h
  · exact h2 _ _ h) h
theorem oL_use {T : Tab} {d : Nat} {B : Nat × Nat} {mt pc : Nat} {ls st : List Value} {σ : Sto} {k : Int64 → Sto → Prop} {x : Nat → Sto → Prop} {Q : Out → Sto → Prop} (h : WP T d B mt pc ls st σ (oL k x)) (h1 : ∀ v τ, k v τ → Q (.inl (some (.long v))) τ := by exact fun _ _ h => h) (h2 : ∀ e τ, x e τ → Q (.inr e) τ := by exact fun _ _ h => h) : WP T d B mt pc ls st σ Q := WP.mono (fun o τ h => by
  rcases o with (_ | v) | e
  · exact h.elim
  · cases v <;> first | exact h.elim | exact h1 _ _ h
  · exact h2 _ _ h) h
theorem oR_use {T : Tab} {d : Nat} {B : Nat × Nat} {mt pc : Nat} {ls st : List Value} {σ : Sto} {k : Nat → Sto → Prop} {x : Nat → Sto → Prop} {Q : Out → Sto → Prop} (h : WP T d B mt pc ls st σ (oR k x)) (h1 : ∀ v τ, k v τ → Q (.inl (some (.ref v))) τ := by exact fun _ _ h => h) (h2 : ∀ e τ, x e τ → Q (.inr e) τ := by exact fun _ _ h => h) : WP T d B mt pc ls st σ Q := WP.mono (fun o τ h => by
  rcases o with (_ | v) | e
  · exact h.elim
  · cases v <;> first | exact h.elim | exact h1 _ _ h
  · exact h2 _ _ h) h
theorem nar_z {x : Int32} (h : x = 0 ∨ x = 1) : narrow .boolean (.int x) = .int x := by rcases h with e | e <;> subst e <;> rfl
theorem vpc_ {i : Int32} {a b : Nat} (h : a = b) (hi : vp_in i b) : vp_in i a := by rw [h]; exact hi
def J (n : Nat) : Int32 := Int32.ofNat n
theorem sI_same {σ : Sto} {p j : Nat} {v : Int32} : sI (setI σ p j v) p j = v := by show (up (sI σ) p (up (sI σ p) j v)) p j = v; rw [up_eq, up_eq]
theorem sI_idx {σ : Sto} {p j i : Nat} {v : Int32} (h : i ≠ j) : sI (setI σ p j v) p i = sI σ p i := by show (up (sI σ) p (up (sI σ p) j v)) p i = _; rw [up_eq, up_ne h]
theorem sI_pl {σ : Sto} {p q j i : Nat} {v : Int32} (h : q ≠ p) : sI (setI σ p j v) q i = sI σ q i := by show (up (sI σ) p (up (sI σ p) j v)) q i = _; rw [up_ne h]
theorem sL_same {σ : Sto} {p j : Nat} {v : Int64} : sL (setL σ p j v) p j = v := by show (up (sL σ) p (up (sL σ p) j v)) p j = v; rw [up_eq, up_eq]
theorem sL_idx {σ : Sto} {p j i : Nat} {v : Int64} (h : i ≠ j) : sL (setL σ p j v) p i = sL σ p i := by show (up (sL σ) p (up (sL σ p) j v)) p i = _; rw [up_eq, up_ne h]
theorem sL_pl {σ : Sto} {p q j i : Nat} {v : Int64} (h : q ≠ p) : sL (setL σ p j v) q i = sL σ q i := by show (up (sL σ) p (up (sL σ p) j v)) q i = _; rw [up_ne h]
theorem ctopI {T : Tab} {d : Nat} {B : Nat × Nat} {mt pc : Nat} {ls st : List Value} {σ : Sto} {Q : Out → Sto → Prop} {x y : Int32} (e : x = y) (h : WP T d B mt pc ls (.int y :: st) σ Q) : WP T d B mt pc ls (.int x :: st) σ Q := e ▸ h
theorem ctopL {T : Tab} {d : Nat} {B : Nat × Nat} {mt pc : Nat} {ls st : List Value} {σ : Sto} {Q : Out → Sto → Prop} {x y : Int64} (e : x = y) (h : WP T d B mt pc ls (.long y :: st) σ Q) : WP T d B mt pc ls (.long x :: st) σ Q := e ▸ h
theorem z_ite {c : Prop} [Decidable c] {x y : Int32} (h1 : x = J 0 ∨ x = J 1) (h2 : y = J 0 ∨ y = J 1) : (if c then x else y) = J 0 ∨ (if c then x else y) = J 1 := by split <;> assumption
theorem dl {a b : Nat} (h : Nat.ble a b = true := by rfl) : a ≤ b := Nat.le_of_ble_eq_true h
theorem vi_lit {i : Int32} {n : Nat} (h : vp_in i n) : vp_in i n := h
theorem len14 {n : Nat} (h : n = 14) : (14 ≤ n ∧ n ≤ 18) ∨ n = 20 ∨ n = 21 := by omega
theorem len20 {n : Nat} (h : n = 20) : (14 ≤ n ∧ n ≤ 18) ∨ n = 20 ∨ n = 21 := by omega
theorem vp_lt {i : Int32} {n : Nat} (h : vp_in i n) : i.toNatClampNeg < n := by
  unfold vp_in at h; omega
theorem q2_2_2 {σ : Sto} {o : Nat} (h : S_2 σ o) : ∀ r, r < 3 → sP σ (o + 2) r = some (o + 3 + r) ∧ sK σ (o + 3 + r) = 14 ∧ sZ σ (o + 3 + r) = 96 := by
  intro r hl
  have hm : r ∈ List.range 3 := List.mem_range.mpr hl
  simp only [show List.range 3 = [0, 1, 2] from rfl, List.mem_cons, List.not_mem_nil, or_false] at hm
  rcases hm with rfl | rfl | rfl
  · exact ⟨h.2 2 (by decide), (h.1 3 (by decide)).1, (h.1 3 (by decide)).2⟩
  · exact ⟨h.2 3 (by decide), (h.1 4 (by decide)).1, (h.1 4 (by decide)).2⟩
  · exact ⟨h.2 4 (by decide), (h.1 5 (by decide)).1, (h.1 5 (by decide)).2⟩
theorem r2_2_2 {σ : Sto} {o : Nat} (h : S_2 σ o) {i : Int32} (hi : vp_in i 3) : sP σ (o + 2) i.toNatClampNeg = some (o + 3 + i.toNatClampNeg) ∧ sK σ (o + 3 + i.toNatClampNeg) = 14 ∧ sZ σ (o + 3 + i.toNatClampNeg) = 96 := q2_2_2 h _ (vp_lt hi)
theorem q2_2_17 {σ : Sto} {o : Nat} (h : S_2 σ o) : ∀ r, r < 6 → sP σ (o + 17) r = some (o + 18 + r) ∧ sK σ (o + 18 + r) = 14 ∧ sZ σ (o + 18 + r) = 384 := by
  intro r hl
  have hm : r ∈ List.range 6 := List.mem_range.mpr hl
  simp only [show List.range 6 = [0, 1, 2, 3, 4, 5] from rfl, List.mem_cons, List.not_mem_nil, or_false] at hm
  rcases hm with rfl | rfl | rfl | rfl | rfl | rfl
  · exact ⟨h.2 17 (by decide), (h.1 18 (by decide)).1, (h.1 18 (by decide)).2⟩
  · exact ⟨h.2 18 (by decide), (h.1 19 (by decide)).1, (h.1 19 (by decide)).2⟩
  · exact ⟨h.2 19 (by decide), (h.1 20 (by decide)).1, (h.1 20 (by decide)).2⟩
  · exact ⟨h.2 20 (by decide), (h.1 21 (by decide)).1, (h.1 21 (by decide)).2⟩
  · exact ⟨h.2 21 (by decide), (h.1 22 (by decide)).1, (h.1 22 (by decide)).2⟩
  · exact ⟨h.2 22 (by decide), (h.1 23 (by decide)).1, (h.1 23 (by decide)).2⟩
theorem r2_2_17 {σ : Sto} {o : Nat} (h : S_2 σ o) {i : Int32} (hi : vp_in i 6) : sP σ (o + 17) i.toNatClampNeg = some (o + 18 + i.toNatClampNeg) ∧ sK σ (o + 18 + i.toNatClampNeg) = 14 ∧ sZ σ (o + 18 + i.toNatClampNeg) = 384 := q2_2_17 h _ (vp_lt hi)
theorem q2_3_4 {σ : Sto} {o : Nat} (h : S_3 σ o) : ∀ r, r < 8 → sP σ (o + 4) r = some (o + 5 + r) ∧ sK σ (o + 5 + r) = 14 ∧ sZ σ (o + 5 + r) = 96 := by
  intro r hl
  have hm : r ∈ List.range 8 := List.mem_range.mpr hl
  simp only [show List.range 8 = [0, 1, 2, 3, 4, 5, 6, 7] from rfl, List.mem_cons, List.not_mem_nil, or_false] at hm
  rcases hm with rfl | rfl | rfl | rfl | rfl | rfl | rfl | rfl
  · exact ⟨h.2 4 (by decide), (h.1 5 (by decide)).1, (h.1 5 (by decide)).2⟩
  · exact ⟨h.2 5 (by decide), (h.1 6 (by decide)).1, (h.1 6 (by decide)).2⟩
  · exact ⟨h.2 6 (by decide), (h.1 7 (by decide)).1, (h.1 7 (by decide)).2⟩
  · exact ⟨h.2 7 (by decide), (h.1 8 (by decide)).1, (h.1 8 (by decide)).2⟩
  · exact ⟨h.2 8 (by decide), (h.1 9 (by decide)).1, (h.1 9 (by decide)).2⟩
  · exact ⟨h.2 9 (by decide), (h.1 10 (by decide)).1, (h.1 10 (by decide)).2⟩
  · exact ⟨h.2 10 (by decide), (h.1 11 (by decide)).1, (h.1 11 (by decide)).2⟩
  · exact ⟨h.2 11 (by decide), (h.1 12 (by decide)).1, (h.1 12 (by decide)).2⟩
theorem r2_3_4 {σ : Sto} {o : Nat} (h : S_3 σ o) {i : Int32} (hi : vp_in i 8) : sP σ (o + 4) i.toNatClampNeg = some (o + 5 + i.toNatClampNeg) ∧ sK σ (o + 5 + i.toNatClampNeg) = 14 ∧ sZ σ (o + 5 + i.toNatClampNeg) = 96 := q2_3_4 h _ (vp_lt hi)
theorem q2_3_13 {σ : Sto} {o : Nat} (h : S_3 σ o) : ∀ r, r < 8 → sP σ (o + 13) r = some (o + 14 + r) ∧ sK σ (o + 14 + r) = 14 ∧ sZ σ (o + 14 + r) = 96 := by
  intro r hl
  have hm : r ∈ List.range 8 := List.mem_range.mpr hl
  simp only [show List.range 8 = [0, 1, 2, 3, 4, 5, 6, 7] from rfl, List.mem_cons, List.not_mem_nil, or_false] at hm
  rcases hm with rfl | rfl | rfl | rfl | rfl | rfl | rfl | rfl
  · exact ⟨h.2 13 (by decide), (h.1 14 (by decide)).1, (h.1 14 (by decide)).2⟩
  · exact ⟨h.2 14 (by decide), (h.1 15 (by decide)).1, (h.1 15 (by decide)).2⟩
  · exact ⟨h.2 15 (by decide), (h.1 16 (by decide)).1, (h.1 16 (by decide)).2⟩
  · exact ⟨h.2 16 (by decide), (h.1 17 (by decide)).1, (h.1 17 (by decide)).2⟩
  · exact ⟨h.2 17 (by decide), (h.1 18 (by decide)).1, (h.1 18 (by decide)).2⟩
  · exact ⟨h.2 18 (by decide), (h.1 19 (by decide)).1, (h.1 19 (by decide)).2⟩
  · exact ⟨h.2 19 (by decide), (h.1 20 (by decide)).1, (h.1 20 (by decide)).2⟩
  · exact ⟨h.2 20 (by decide), (h.1 21 (by decide)).1, (h.1 21 (by decide)).2⟩
theorem r2_3_13 {σ : Sto} {o : Nat} (h : S_3 σ o) {i : Int32} (hi : vp_in i 8) : sP σ (o + 13) i.toNatClampNeg = some (o + 14 + i.toNatClampNeg) ∧ sK σ (o + 14 + i.toNatClampNeg) = 14 ∧ sZ σ (o + 14 + i.toNatClampNeg) = 96 := q2_3_13 h _ (vp_lt hi)
theorem q2_4_1 {σ : Sto} {o : Nat} (h : S_4 σ o) : ∀ r, r < 3 → sP σ (o + 1) r = some (o + 2 + r) ∧ sK σ (o + 2 + r) = 14 ∧ sZ σ (o + 2 + r) = 96 := by
  intro r hl
  have hm : r ∈ List.range 3 := List.mem_range.mpr hl
  simp only [show List.range 3 = [0, 1, 2] from rfl, List.mem_cons, List.not_mem_nil, or_false] at hm
  rcases hm with rfl | rfl | rfl
  · exact ⟨h.2 1 (by decide), (h.1 2 (by decide)).1, (h.1 2 (by decide)).2⟩
  · exact ⟨h.2 2 (by decide), (h.1 3 (by decide)).1, (h.1 3 (by decide)).2⟩
  · exact ⟨h.2 3 (by decide), (h.1 4 (by decide)).1, (h.1 4 (by decide)).2⟩
theorem r2_4_1 {σ : Sto} {o : Nat} (h : S_4 σ o) {i : Int32} (hi : vp_in i 3) : sP σ (o + 1) i.toNatClampNeg = some (o + 2 + i.toNatClampNeg) ∧ sK σ (o + 2 + i.toNatClampNeg) = 14 ∧ sZ σ (o + 2 + i.toNatClampNeg) = 96 := q2_4_1 h _ (vp_lt hi)
theorem q2_10_5 {σ : Sto} {o : Nat} (h : S_10 σ o) : ∀ r, r < 8 → sP σ (o + 5) r = some (o + 6 + r) ∧ sK σ (o + 6 + r) = 14 ∧ sZ σ (o + 6 + r) = 96 := by
  intro r hl
  have hm : r ∈ List.range 8 := List.mem_range.mpr hl
  simp only [show List.range 8 = [0, 1, 2, 3, 4, 5, 6, 7] from rfl, List.mem_cons, List.not_mem_nil, or_false] at hm
  rcases hm with rfl | rfl | rfl | rfl | rfl | rfl | rfl | rfl
  · exact ⟨h.2 5 (by decide), (h.1 6 (by decide)).1, (h.1 6 (by decide)).2⟩
  · exact ⟨h.2 6 (by decide), (h.1 7 (by decide)).1, (h.1 7 (by decide)).2⟩
  · exact ⟨h.2 7 (by decide), (h.1 8 (by decide)).1, (h.1 8 (by decide)).2⟩
  · exact ⟨h.2 8 (by decide), (h.1 9 (by decide)).1, (h.1 9 (by decide)).2⟩
  · exact ⟨h.2 9 (by decide), (h.1 10 (by decide)).1, (h.1 10 (by decide)).2⟩
  · exact ⟨h.2 10 (by decide), (h.1 11 (by decide)).1, (h.1 11 (by decide)).2⟩
  · exact ⟨h.2 11 (by decide), (h.1 12 (by decide)).1, (h.1 12 (by decide)).2⟩
  · exact ⟨h.2 12 (by decide), (h.1 13 (by decide)).1, (h.1 13 (by decide)).2⟩
theorem r2_10_5 {σ : Sto} {o : Nat} (h : S_10 σ o) {i : Int32} (hi : vp_in i 8) : sP σ (o + 5) i.toNatClampNeg = some (o + 6 + i.toNatClampNeg) ∧ sK σ (o + 6 + i.toNatClampNeg) = 14 ∧ sZ σ (o + 6 + i.toNatClampNeg) = 96 := q2_10_5 h _ (vp_lt hi)
theorem q2_10_14 {σ : Sto} {o : Nat} (h : S_10 σ o) : ∀ r, r < 8 → sP σ (o + 14) r = some (o + 15 + r) ∧ sK σ (o + 15 + r) = 14 ∧ sZ σ (o + 15 + r) = 96 := by
  intro r hl
  have hm : r ∈ List.range 8 := List.mem_range.mpr hl
  simp only [show List.range 8 = [0, 1, 2, 3, 4, 5, 6, 7] from rfl, List.mem_cons, List.not_mem_nil, or_false] at hm
  rcases hm with rfl | rfl | rfl | rfl | rfl | rfl | rfl | rfl
  · exact ⟨h.2 14 (by decide), (h.1 15 (by decide)).1, (h.1 15 (by decide)).2⟩
  · exact ⟨h.2 15 (by decide), (h.1 16 (by decide)).1, (h.1 16 (by decide)).2⟩
  · exact ⟨h.2 16 (by decide), (h.1 17 (by decide)).1, (h.1 17 (by decide)).2⟩
  · exact ⟨h.2 17 (by decide), (h.1 18 (by decide)).1, (h.1 18 (by decide)).2⟩
  · exact ⟨h.2 18 (by decide), (h.1 19 (by decide)).1, (h.1 19 (by decide)).2⟩
  · exact ⟨h.2 19 (by decide), (h.1 20 (by decide)).1, (h.1 20 (by decide)).2⟩
  · exact ⟨h.2 20 (by decide), (h.1 21 (by decide)).1, (h.1 21 (by decide)).2⟩
  · exact ⟨h.2 21 (by decide), (h.1 22 (by decide)).1, (h.1 22 (by decide)).2⟩
theorem r2_10_14 {σ : Sto} {o : Nat} (h : S_10 σ o) {i : Int32} (hi : vp_in i 8) : sP σ (o + 14) i.toNatClampNeg = some (o + 15 + i.toNatClampNeg) ∧ sK σ (o + 15 + i.toNatClampNeg) = 14 ∧ sZ σ (o + 15 + i.toNatClampNeg) = 96 := q2_10_14 h _ (vp_lt hi)
theorem q2_11_4 {σ : Sto} {o : Nat} (h : S_11 σ o) : ∀ r, r < 3 → sP σ (o + 4) r = some (o + 5 + r) ∧ sK σ (o + 5 + r) = 14 ∧ sZ σ (o + 5 + r) = 96 := by
  intro r hl
  have hm : r ∈ List.range 3 := List.mem_range.mpr hl
  simp only [show List.range 3 = [0, 1, 2] from rfl, List.mem_cons, List.not_mem_nil, or_false] at hm
  rcases hm with rfl | rfl | rfl
  · exact ⟨h.2 4 (by decide), (h.1 5 (by decide)).1, (h.1 5 (by decide)).2⟩
  · exact ⟨h.2 5 (by decide), (h.1 6 (by decide)).1, (h.1 6 (by decide)).2⟩
  · exact ⟨h.2 6 (by decide), (h.1 7 (by decide)).1, (h.1 7 (by decide)).2⟩
theorem r2_11_4 {σ : Sto} {o : Nat} (h : S_11 σ o) {i : Int32} (hi : vp_in i 3) : sP σ (o + 4) i.toNatClampNeg = some (o + 5 + i.toNatClampNeg) ∧ sK σ (o + 5 + i.toNatClampNeg) = 14 ∧ sZ σ (o + 5 + i.toNatClampNeg) = 96 := q2_11_4 h _ (vp_lt hi)
theorem q2_11_26 {σ : Sto} {o : Nat} (h : S_11 σ o) : ∀ r, r < 3 → sP σ (o + 26) r = some (o + 27 + r) ∧ sK σ (o + 27 + r) = 14 ∧ sZ σ (o + 27 + r) = 96 := by
  intro r hl
  have hm : r ∈ List.range 3 := List.mem_range.mpr hl
  simp only [show List.range 3 = [0, 1, 2] from rfl, List.mem_cons, List.not_mem_nil, or_false] at hm
  rcases hm with rfl | rfl | rfl
  · exact ⟨h.2 26 (by decide), (h.1 27 (by decide)).1, (h.1 27 (by decide)).2⟩
  · exact ⟨h.2 27 (by decide), (h.1 28 (by decide)).1, (h.1 28 (by decide)).2⟩
  · exact ⟨h.2 28 (by decide), (h.1 29 (by decide)).1, (h.1 29 (by decide)).2⟩
theorem r2_11_26 {σ : Sto} {o : Nat} (h : S_11 σ o) {i : Int32} (hi : vp_in i 3) : sP σ (o + 26) i.toNatClampNeg = some (o + 27 + i.toNatClampNeg) ∧ sK σ (o + 27 + i.toNatClampNeg) = 14 ∧ sZ σ (o + 27 + i.toNatClampNeg) = 96 := q2_11_26 h _ (vp_lt hi)
theorem q2_11_41 {σ : Sto} {o : Nat} (h : S_11 σ o) : ∀ r, r < 6 → sP σ (o + 41) r = some (o + 42 + r) ∧ sK σ (o + 42 + r) = 14 ∧ sZ σ (o + 42 + r) = 384 := by
  intro r hl
  have hm : r ∈ List.range 6 := List.mem_range.mpr hl
  simp only [show List.range 6 = [0, 1, 2, 3, 4, 5] from rfl, List.mem_cons, List.not_mem_nil, or_false] at hm
  rcases hm with rfl | rfl | rfl | rfl | rfl | rfl
  · exact ⟨h.2 41 (by decide), (h.1 42 (by decide)).1, (h.1 42 (by decide)).2⟩
  · exact ⟨h.2 42 (by decide), (h.1 43 (by decide)).1, (h.1 43 (by decide)).2⟩
  · exact ⟨h.2 43 (by decide), (h.1 44 (by decide)).1, (h.1 44 (by decide)).2⟩
  · exact ⟨h.2 44 (by decide), (h.1 45 (by decide)).1, (h.1 45 (by decide)).2⟩
  · exact ⟨h.2 45 (by decide), (h.1 46 (by decide)).1, (h.1 46 (by decide)).2⟩
  · exact ⟨h.2 46 (by decide), (h.1 47 (by decide)).1, (h.1 47 (by decide)).2⟩
theorem r2_11_41 {σ : Sto} {o : Nat} (h : S_11 σ o) {i : Int32} (hi : vp_in i 6) : sP σ (o + 41) i.toNatClampNeg = some (o + 42 + i.toNatClampNeg) ∧ sK σ (o + 42 + i.toNatClampNeg) = 14 ∧ sZ σ (o + 42 + i.toNatClampNeg) = 384 := q2_11_41 h _ (vp_lt hi)
theorem q2_11_63 {σ : Sto} {o : Nat} (h : S_11 σ o) : ∀ r, r < 3 → sP σ (o + 63) r = some (o + 64 + r) ∧ sK σ (o + 64 + r) = 14 ∧ sZ σ (o + 64 + r) = 96 := by
  intro r hl
  have hm : r ∈ List.range 3 := List.mem_range.mpr hl
  simp only [show List.range 3 = [0, 1, 2] from rfl, List.mem_cons, List.not_mem_nil, or_false] at hm
  rcases hm with rfl | rfl | rfl
  · exact ⟨h.2 63 (by decide), (h.1 64 (by decide)).1, (h.1 64 (by decide)).2⟩
  · exact ⟨h.2 64 (by decide), (h.1 65 (by decide)).1, (h.1 65 (by decide)).2⟩
  · exact ⟨h.2 65 (by decide), (h.1 66 (by decide)).1, (h.1 66 (by decide)).2⟩
theorem r2_11_63 {σ : Sto} {o : Nat} (h : S_11 σ o) {i : Int32} (hi : vp_in i 3) : sP σ (o + 63) i.toNatClampNeg = some (o + 64 + i.toNatClampNeg) ∧ sK σ (o + 64 + i.toNatClampNeg) = 14 ∧ sZ σ (o + 64 + i.toNatClampNeg) = 96 := q2_11_63 h _ (vp_lt hi)
theorem q2_11_78 {σ : Sto} {o : Nat} (h : S_11 σ o) : ∀ r, r < 6 → sP σ (o + 78) r = some (o + 79 + r) ∧ sK σ (o + 79 + r) = 14 ∧ sZ σ (o + 79 + r) = 384 := by
  intro r hl
  have hm : r ∈ List.range 6 := List.mem_range.mpr hl
  simp only [show List.range 6 = [0, 1, 2, 3, 4, 5] from rfl, List.mem_cons, List.not_mem_nil, or_false] at hm
  rcases hm with rfl | rfl | rfl | rfl | rfl | rfl
  · exact ⟨h.2 78 (by decide), (h.1 79 (by decide)).1, (h.1 79 (by decide)).2⟩
  · exact ⟨h.2 79 (by decide), (h.1 80 (by decide)).1, (h.1 80 (by decide)).2⟩
  · exact ⟨h.2 80 (by decide), (h.1 81 (by decide)).1, (h.1 81 (by decide)).2⟩
  · exact ⟨h.2 81 (by decide), (h.1 82 (by decide)).1, (h.1 82 (by decide)).2⟩
  · exact ⟨h.2 82 (by decide), (h.1 83 (by decide)).1, (h.1 83 (by decide)).2⟩
  · exact ⟨h.2 83 (by decide), (h.1 84 (by decide)).1, (h.1 84 (by decide)).2⟩
theorem r2_11_78 {σ : Sto} {o : Nat} (h : S_11 σ o) {i : Int32} (hi : vp_in i 6) : sP σ (o + 78) i.toNatClampNeg = some (o + 79 + i.toNatClampNeg) ∧ sK σ (o + 79 + i.toNatClampNeg) = 14 ∧ sZ σ (o + 79 + i.toNatClampNeg) = 384 := q2_11_78 h _ (vp_lt hi)
theorem q2_11_102 {σ : Sto} {o : Nat} (h : S_11 σ o) : ∀ r, r < 8 → sP σ (o + 102) r = some (o + 103 + r) ∧ sK σ (o + 103 + r) = 14 ∧ sZ σ (o + 103 + r) = 96 := by
  intro r hl
  have hm : r ∈ List.range 8 := List.mem_range.mpr hl
  simp only [show List.range 8 = [0, 1, 2, 3, 4, 5, 6, 7] from rfl, List.mem_cons, List.not_mem_nil, or_false] at hm
  rcases hm with rfl | rfl | rfl | rfl | rfl | rfl | rfl | rfl
  · exact ⟨h.2 102 (by decide), (h.1 103 (by decide)).1, (h.1 103 (by decide)).2⟩
  · exact ⟨h.2 103 (by decide), (h.1 104 (by decide)).1, (h.1 104 (by decide)).2⟩
  · exact ⟨h.2 104 (by decide), (h.1 105 (by decide)).1, (h.1 105 (by decide)).2⟩
  · exact ⟨h.2 105 (by decide), (h.1 106 (by decide)).1, (h.1 106 (by decide)).2⟩
  · exact ⟨h.2 106 (by decide), (h.1 107 (by decide)).1, (h.1 107 (by decide)).2⟩
  · exact ⟨h.2 107 (by decide), (h.1 108 (by decide)).1, (h.1 108 (by decide)).2⟩
  · exact ⟨h.2 108 (by decide), (h.1 109 (by decide)).1, (h.1 109 (by decide)).2⟩
  · exact ⟨h.2 109 (by decide), (h.1 110 (by decide)).1, (h.1 110 (by decide)).2⟩
theorem r2_11_102 {σ : Sto} {o : Nat} (h : S_11 σ o) {i : Int32} (hi : vp_in i 8) : sP σ (o + 102) i.toNatClampNeg = some (o + 103 + i.toNatClampNeg) ∧ sK σ (o + 103 + i.toNatClampNeg) = 14 ∧ sZ σ (o + 103 + i.toNatClampNeg) = 96 := q2_11_102 h _ (vp_lt hi)
theorem q2_11_111 {σ : Sto} {o : Nat} (h : S_11 σ o) : ∀ r, r < 8 → sP σ (o + 111) r = some (o + 112 + r) ∧ sK σ (o + 112 + r) = 14 ∧ sZ σ (o + 112 + r) = 96 := by
  intro r hl
  have hm : r ∈ List.range 8 := List.mem_range.mpr hl
  simp only [show List.range 8 = [0, 1, 2, 3, 4, 5, 6, 7] from rfl, List.mem_cons, List.not_mem_nil, or_false] at hm
  rcases hm with rfl | rfl | rfl | rfl | rfl | rfl | rfl | rfl
  · exact ⟨h.2 111 (by decide), (h.1 112 (by decide)).1, (h.1 112 (by decide)).2⟩
  · exact ⟨h.2 112 (by decide), (h.1 113 (by decide)).1, (h.1 113 (by decide)).2⟩
  · exact ⟨h.2 113 (by decide), (h.1 114 (by decide)).1, (h.1 114 (by decide)).2⟩
  · exact ⟨h.2 114 (by decide), (h.1 115 (by decide)).1, (h.1 115 (by decide)).2⟩
  · exact ⟨h.2 115 (by decide), (h.1 116 (by decide)).1, (h.1 116 (by decide)).2⟩
  · exact ⟨h.2 116 (by decide), (h.1 117 (by decide)).1, (h.1 117 (by decide)).2⟩
  · exact ⟨h.2 117 (by decide), (h.1 118 (by decide)).1, (h.1 118 (by decide)).2⟩
  · exact ⟨h.2 118 (by decide), (h.1 119 (by decide)).1, (h.1 119 (by decide)).2⟩
theorem r2_11_111 {σ : Sto} {o : Nat} (h : S_11 σ o) {i : Int32} (hi : vp_in i 8) : sP σ (o + 111) i.toNatClampNeg = some (o + 112 + i.toNatClampNeg) ∧ sK σ (o + 112 + i.toNatClampNeg) = 14 ∧ sZ σ (o + 112 + i.toNatClampNeg) = 96 := q2_11_111 h _ (vp_lt hi)
theorem q2_11_135 {σ : Sto} {o : Nat} (h : S_11 σ o) : ∀ r, r < 8 → sP σ (o + 135) r = some (o + 136 + r) ∧ sK σ (o + 136 + r) = 14 ∧ sZ σ (o + 136 + r) = 96 := by
  intro r hl
  have hm : r ∈ List.range 8 := List.mem_range.mpr hl
  simp only [show List.range 8 = [0, 1, 2, 3, 4, 5, 6, 7] from rfl, List.mem_cons, List.not_mem_nil, or_false] at hm
  rcases hm with rfl | rfl | rfl | rfl | rfl | rfl | rfl | rfl
  · exact ⟨h.2 135 (by decide), (h.1 136 (by decide)).1, (h.1 136 (by decide)).2⟩
  · exact ⟨h.2 136 (by decide), (h.1 137 (by decide)).1, (h.1 137 (by decide)).2⟩
  · exact ⟨h.2 137 (by decide), (h.1 138 (by decide)).1, (h.1 138 (by decide)).2⟩
  · exact ⟨h.2 138 (by decide), (h.1 139 (by decide)).1, (h.1 139 (by decide)).2⟩
  · exact ⟨h.2 139 (by decide), (h.1 140 (by decide)).1, (h.1 140 (by decide)).2⟩
  · exact ⟨h.2 140 (by decide), (h.1 141 (by decide)).1, (h.1 141 (by decide)).2⟩
  · exact ⟨h.2 141 (by decide), (h.1 142 (by decide)).1, (h.1 142 (by decide)).2⟩
  · exact ⟨h.2 142 (by decide), (h.1 143 (by decide)).1, (h.1 143 (by decide)).2⟩
theorem r2_11_135 {σ : Sto} {o : Nat} (h : S_11 σ o) {i : Int32} (hi : vp_in i 8) : sP σ (o + 135) i.toNatClampNeg = some (o + 136 + i.toNatClampNeg) ∧ sK σ (o + 136 + i.toNatClampNeg) = 14 ∧ sZ σ (o + 136 + i.toNatClampNeg) = 96 := q2_11_135 h _ (vp_lt hi)
theorem q2_11_144 {σ : Sto} {o : Nat} (h : S_11 σ o) : ∀ r, r < 8 → sP σ (o + 144) r = some (o + 145 + r) ∧ sK σ (o + 145 + r) = 14 ∧ sZ σ (o + 145 + r) = 96 := by
  intro r hl
  have hm : r ∈ List.range 8 := List.mem_range.mpr hl
  simp only [show List.range 8 = [0, 1, 2, 3, 4, 5, 6, 7] from rfl, List.mem_cons, List.not_mem_nil, or_false] at hm
  rcases hm with rfl | rfl | rfl | rfl | rfl | rfl | rfl | rfl
  · exact ⟨h.2 144 (by decide), (h.1 145 (by decide)).1, (h.1 145 (by decide)).2⟩
  · exact ⟨h.2 145 (by decide), (h.1 146 (by decide)).1, (h.1 146 (by decide)).2⟩
  · exact ⟨h.2 146 (by decide), (h.1 147 (by decide)).1, (h.1 147 (by decide)).2⟩
  · exact ⟨h.2 147 (by decide), (h.1 148 (by decide)).1, (h.1 148 (by decide)).2⟩
  · exact ⟨h.2 148 (by decide), (h.1 149 (by decide)).1, (h.1 149 (by decide)).2⟩
  · exact ⟨h.2 149 (by decide), (h.1 150 (by decide)).1, (h.1 150 (by decide)).2⟩
  · exact ⟨h.2 150 (by decide), (h.1 151 (by decide)).1, (h.1 151 (by decide)).2⟩
  · exact ⟨h.2 151 (by decide), (h.1 152 (by decide)).1, (h.1 152 (by decide)).2⟩
theorem r2_11_144 {σ : Sto} {o : Nat} (h : S_11 σ o) {i : Int32} (hi : vp_in i 8) : sP σ (o + 144) i.toNatClampNeg = some (o + 145 + i.toNatClampNeg) ∧ sK σ (o + 145 + i.toNatClampNeg) = 14 ∧ sZ σ (o + 145 + i.toNatClampNeg) = 96 := q2_11_144 h _ (vp_lt hi)
theorem sub_shp {n np n2 np2 : Nat} {zs zs2 : List (Nat × Nat)} {ps ps2 : List (Nat × Nat × Nat)} {σ : Sto} {o k pk : Nat} (h1 : k + n2 ≤ n) (h1' : pk + np2 ≤ np) (h2 : ∀ i, i < n2 → zs.getD (k + i) (0, 0) = zs2.getD i (0, 0)) (h3 : ∀ i, i < np2 → ps.getD (pk + i) (0, 0, 0) = (k + (ps2.getD i (0, 0, 0)).1, (ps2.getD i (0, 0, 0)).2.1, k + (ps2.getD i (0, 0, 0)).2.2)) (h : Shp n np zs ps σ o) : Shp n2 np2 zs2 ps2 σ (o + k) := by
  constructor
  · intro i hi
    have h4 := h.1 (k + i) (by omega)
    rw [h2 i hi, ← Nat.add_assoc] at h4
    exact h4
  · intro e he
    have h4 := h.2 (pk + e) (by omega)
    rw [h3 e he] at h4
    dsimp only at h4
    rw [← Nat.add_assoc, ← Nat.add_assoc] at h4
    exact h4
theorem sub_2_1_4 {σ : Sto} {o : Nat} (h : S_2 σ o) : S_4 σ (o + 1) :=
  sub_shp (k := 1) (pk := 1) (by decide) (by decide) (by decide +kernel) (by decide +kernel) h
theorem sub_2_24_6 {σ : Sto} {o : Nat} (h : S_2 σ o) : S_6 σ (o + 24) :=
  sub_shp (k := 24) (pk := 24) (by decide) (by decide) (by decide +kernel) (by decide +kernel) h
theorem sub_10_1_3 {σ : Sto} {o : Nat} (h : S_10 σ o) : S_3 σ (o + 1) :=
  sub_shp (k := 1) (pk := 1) (by decide) (by decide) (by decide +kernel) (by decide +kernel) h
theorem sub_10_23_1 {σ : Sto} {o : Nat} (h : S_10 σ o) : S_1 σ (o + 23) :=
  sub_shp (k := 23) (pk := 23) (by decide) (by decide) (by decide +kernel) (by decide +kernel) h
theorem sub_11_1_9 {σ : Sto} {o : Nat} (h : S_11 σ o) : S_9 σ (o + 1) :=
  sub_shp (k := 1) (pk := 1) (by decide) (by decide) (by decide +kernel) (by decide +kernel) h
theorem sub_11_3_4 {σ : Sto} {o : Nat} (h : S_11 σ o) : S_4 σ (o + 3) :=
  sub_shp (k := 3) (pk := 3) (by decide) (by decide) (by decide +kernel) (by decide +kernel) h
theorem sub_11_19_8 {σ : Sto} {o : Nat} (h : S_11 σ o) : S_8 σ (o + 19) :=
  sub_shp (k := 19) (pk := 19) (by decide) (by decide) (by decide +kernel) (by decide +kernel) h
theorem sub_11_24_2 {σ : Sto} {o : Nat} (h : S_11 σ o) : S_2 σ (o + 24) :=
  sub_shp (k := 24) (pk := 24) (by decide) (by decide) (by decide +kernel) (by decide +kernel) h
theorem sub_11_25_4 {σ : Sto} {o : Nat} (h : S_11 σ o) : S_4 σ (o + 25) :=
  sub_shp (k := 25) (pk := 25) (by decide) (by decide) (by decide +kernel) (by decide +kernel) h
theorem sub_11_48_6 {σ : Sto} {o : Nat} (h : S_11 σ o) : S_6 σ (o + 48) :=
  sub_shp (k := 48) (pk := 48) (by decide) (by decide) (by decide +kernel) (by decide +kernel) h
theorem sub_11_61_2 {σ : Sto} {o : Nat} (h : S_11 σ o) : S_2 σ (o + 61) :=
  sub_shp (k := 61) (pk := 61) (by decide) (by decide) (by decide +kernel) (by decide +kernel) h
theorem sub_11_62_4 {σ : Sto} {o : Nat} (h : S_11 σ o) : S_4 σ (o + 62) :=
  sub_shp (k := 62) (pk := 62) (by decide) (by decide) (by decide +kernel) (by decide +kernel) h
theorem sub_11_85_6 {σ : Sto} {o : Nat} (h : S_11 σ o) : S_6 σ (o + 85) :=
  sub_shp (k := 85) (pk := 85) (by decide) (by decide) (by decide +kernel) (by decide +kernel) h
theorem sub_11_98_3 {σ : Sto} {o : Nat} (h : S_11 σ o) : S_3 σ (o + 98) :=
  sub_shp (k := 98) (pk := 98) (by decide) (by decide) (by decide +kernel) (by decide +kernel) h
theorem sub_11_120_1 {σ : Sto} {o : Nat} (h : S_11 σ o) : S_1 σ (o + 120) :=
  sub_shp (k := 120) (pk := 120) (by decide) (by decide) (by decide +kernel) (by decide +kernel) h
theorem sub_11_126_0 {σ : Sto} {o : Nat} (h : S_11 σ o) : S_0 σ (o + 126) :=
  sub_shp (k := 126) (pk := 126) (by decide) (by decide) (by decide +kernel) (by decide +kernel) h
theorem sub_11_130_10 {σ : Sto} {o : Nat} (h : S_11 σ o) : S_10 σ (o + 130) :=
  sub_shp (k := 130) (pk := 130) (by decide) (by decide) (by decide +kernel) (by decide +kernel) h
theorem sub_11_131_3 {σ : Sto} {o : Nat} (h : S_11 σ o) : S_3 σ (o + 131) :=
  sub_shp (k := 131) (pk := 131) (by decide) (by decide) (by decide +kernel) (by decide +kernel) h
theorem sub_11_153_1 {σ : Sto} {o : Nat} (h : S_11 σ o) : S_1 σ (o + 153) :=
  sub_shp (k := 153) (pk := 153) (by decide) (by decide) (by decide +kernel) (by decide +kernel) h
theorem sub_11_161_5 {σ : Sto} {o : Nat} (h : S_11 σ o) : S_5 σ (o + 161) :=
  sub_shp (k := 161) (pk := 161) (by decide) (by decide) (by decide +kernel) (by decide +kernel) h
