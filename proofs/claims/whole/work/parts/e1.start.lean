/-! ===== the law's beginning ===== -/
variable {Q : Out → Sto → Prop} {L : Nat} {xs : Nat → Int32} {fm : Option Nat}
def z1 (L : Nat) (xs : Nat → Int32) (fm : Option Nat) : Sto := newA (σ0 L xs fm) 96 12 0
def z2 (L : Nat) (xs : Nat → Int32) (fm : Option Nat) : Sto := t93_13 (z1 L xs fm) 96
def z3 (L : Nat) (xs : Nat → Int32) (fm : Option Nat) : Sto := newA (z2 L xs fm) 260 13 0
def z4 (L : Nat) (xs : Nat → Int32) (fm : Option Nat) : Sto := t160_21 (z3 L xs fm) 260
def z5 (L : Nat) (xs : Nat → Int32) (fm : Option Nat) : Sto := newA (z4 L xs fm) 277 15 1
theorem z2_n : sN (z2 L xs fm) = 260 := t93_n (σ := z1 L xs fm) (o := 96) rfl
theorem z4_n : sN (z4 L xs fm) = 277 := t160_n (σ := z3 L xs fm) (o := 260) rfl
theorem law_start (hQ : WP gT 100 (600842, 7241600) 307 23 [.ref 0, .ref 96, .ref 260, .ref 277, .int (J 0), .retAddr 0, .retAddr 0, .retAddr 0] [] (z5 L xs fm) Q) : WP gT 100 (601024, 7293033) 307 0 [.ref 0, .retAddr 0, .retAddr 0, .retAddr 0, .retAddr 0, .retAddr 0, .retAddr 0, .retAddr 0] [] (σ0 L xs fm) Q := by
  refine WP.run 2 (And.intro ⟨by decide, by decide⟩ ?_)
  show WP gT 100 (601023, 7293001) 307 4 [.ref 0, .retAddr 0, .retAddr 0, .retAddr 0, .retAddr 0, .retAddr 0, .retAddr 0, .retAddr 0] [.ref 96, .ref 96] (newO (σ0 L xs fm) 12 0) Q
  rw [oA (N := 96) rfl]
  have ha : sK (z1 L xs fm) 96 = 12 := kS
  refine WP.run 1 (And.intro (by decide) (And.intro ⟨dl, dl, dl, ha⟩ ⟨163, 21220, dl, dl, i_93 (d := 95) (o := 96) ha rfl ?_⟩))
  show WP gT 100 (600860, 7271781) 307 7 [.ref 0, .retAddr 0, .retAddr 0, .retAddr 0, .retAddr 0, .retAddr 0, .retAddr 0, .retAddr 0] [.ref 96] (z2 L xs fm) Q
  refine WP.run 3 (And.intro dl (And.intro ⟨by decide, by decide⟩ ?_))
  show WP gT 100 (600859, 7271749) 307 12 [.ref 0, .ref 96, .retAddr 0, .retAddr 0, .retAddr 0, .retAddr 0, .retAddr 0, .retAddr 0] [.ref (sN (z2 L xs fm)), .ref (sN (z2 L xs fm))] (newO (z2 L xs fm) 13 0) Q
  rw [oA z2_n, z2_n]
  have hb : sK (z3 L xs fm) 260 = 13 := kS
  refine WP.run 1 (And.intro (by decide) (And.intro ⟨dl, dl, dl, hb⟩ ⟨16, 30148, dl, dl, i_160 (d := 97) hb rfl ?_⟩))
  show WP gT 100 (600843, 7241601) 307 15 [.ref 0, .ref 96, .retAddr 0, .retAddr 0, .retAddr 0, .retAddr 0, .retAddr 0, .retAddr 0] [.ref 260] (z4 L xs fm) Q
  refine WP.run 3 (And.intro dl (And.intro ⟨by decide, by decide, by decide, by decide⟩ ?_))
  show WP gT 100 (600842, 7241600) 307 19 [.ref 0, .ref 96, .ref 260, .retAddr 0, .retAddr 0, .retAddr 0, .retAddr 0, .retAddr 0] [.ref (sN (z4 L xs fm))] (newO (z4 L xs fm) 15 1) Q
  rw [oA z4_n, z4_n]
  exact WP.run 3 (And.intro dl (And.intro dl hQ))
