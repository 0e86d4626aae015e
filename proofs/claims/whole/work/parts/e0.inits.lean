/-! ===== the constructors ===== -/
variable {d : Nat} {B : Nat × Nat} {Q : Out → Sto → Prop} {σ τ : Sto} {o p : Nat}
/-- a new object or array at the place N (the next one) -/
def newA (σ : Sto) (N kd z : Nat) : Sto := (N + 1, up (sK σ) N kd, up (sZ σ) N z, up (sI σ) N (fun _ => 0), up (sL σ) N (fun _ => 0), up (sP σ) N (fun _ => none))
theorem oA {N kd z : Nat} (h : sN σ = N) : newO σ kd z = newA σ N kd z := by unfold newO newA; rw [h]
def newH (σ : Sto) (N n m : Nat) : Sto :=
  (N + 1 + n, (fun a => if a = N then 18 else if N < a ∧ a ≤ N + n then 14 else sK σ a), (fun a => if a = N then n else if N < a ∧ a ≤ N + n then m else sZ σ a),
    (fun a => if N ≤ a ∧ a ≤ N + n then (fun _ => 0) else sI σ a), (fun a => if N ≤ a ∧ a ≤ N + n then (fun _ => 0) else sL σ a),
    (fun a => if a = N then (fun j => if j < n then some (N + 1 + j) else none) else if N < a ∧ a ≤ N + n then (fun _ => none) else sP σ a))
theorem oG {N n m : Nat} (h : sN σ = N) : newG σ n m = newH σ N n m := by unfold newG newH; rw [h]
theorem kA {N kd z : Nat} (h : p ≠ N) : sK (newA σ N kd z) p = sK σ p := up_ne h
theorem kS {N kd z : Nat} : sK (newA σ N kd z) N = kd := up_eq
theorem kH {N n m : Nat} (h : p < N) : sK (newH σ N n m) p = sK σ p := by
  show (if p = N then 18 else if N < p ∧ p ≤ N + n then 14 else sK σ p) = _
  rw [if_neg (by omega), if_neg (by omega)]
theorem kpI {q j : Nat} {v : Int32} : sK (setI σ q j v) p = sK σ p := rfl
theorem kpL {q j : Nat} {v : Int64} : sK (setL σ q j v) p = sK σ p := rfl
theorem kpP {q j : Nat} {v : Option Nat} : sK (setP σ q j v) p = sK σ p := rfl
theorem npI {q j : Nat} {v : Int32} : sN (setI σ q j v) = sN σ := rfl
theorem npL {q j : Nat} {v : Int64} : sN (setL σ q j v) = sN σ := rfl
theorem npP {q j : Nat} {v : Option Nat} : sN (setP σ q j v) = sN σ := rfl
theorem nGK {n m : Nat} (h : p < sN σ) : sK (newG σ n m) p = sK σ p := by rw [oG rfl]; exact kH h

def t0_1 (σ : Sto) (o : Nat) : Sto := setL (σ) o 0 0
def t0_2 (σ : Sto) (o : Nat) : Sto := setI (t0_1 σ o) o 1 0
def t0_3 (σ : Sto) (o : Nat) : Sto := setP (newA (t0_2 σ o) (o + 1) 14 6) o 2 (some (o + 1))
def t0_4 (σ : Sto) (o : Nat) : Sto := setP (newA (t0_3 σ o) (o + 2) 14 6) o 3 (some (o + 2))
def t0_5 (σ : Sto) (o : Nat) : Sto := setP (newA (t0_4 σ o) (o + 3) 14 12) o 4 (some (o + 3))
def t0_6 (σ : Sto) (o : Nat) : Sto := setI (t0_5 σ o) o 5 0
def t0_7 (σ : Sto) (o : Nat) : Sto := setI (t0_6 σ o) o 6 0
def t0_8 (σ : Sto) (o : Nat) : Sto := setI (t0_7 σ o) o 7 0
theorem t0_k (h : p < o) : sK (t0_8 σ o) p = sK σ p := by
  have h0 : sK σ p = sK σ p := rfl
  have h1 : sK (t0_1 σ o) p = sK σ p := kpL.trans h0
  have h2 : sK (t0_2 σ o) p = sK σ p := kpI.trans h1
  have h3 : sK (t0_3 σ o) p = sK σ p := kpP.trans ((kA (z := 6) (by omega)).trans h2)
  have h4 : sK (t0_4 σ o) p = sK σ p := kpP.trans ((kA (z := 6) (by omega)).trans h3)
  have h5 : sK (t0_5 σ o) p = sK σ p := kpP.trans ((kA (z := 12) (by omega)).trans h4)
  have h6 : sK (t0_6 σ o) p = sK σ p := kpI.trans h5
  have h7 : sK (t0_7 σ o) p = sK σ p := kpI.trans h6
  have h8 : sK (t0_8 σ o) p = sK σ p := kpI.trans h7
  exact h8
theorem t0_n (hN : sN σ = o + 1) : sN (t0_8 σ o) = o + 4 := by
  have hN0 := hN
  have hN1 : sN (t0_1 σ o) = o + 1 := npL.trans hN0
  have hN2 : sN (t0_2 σ o) = o + 1 := npI.trans hN1
  have hN3 : sN (t0_3 σ o) = o + 2 := npP
  have hN4 : sN (t0_4 σ o) = o + 3 := npP
  have hN5 : sN (t0_5 σ o) = o + 4 := npP
  have hN6 : sN (t0_6 σ o) = o + 4 := npI.trans hN5
  have hN7 : sN (t0_7 σ o) = o + 4 := npI.trans hN6
  have hN8 : sN (t0_8 σ o) = o + 4 := npI.trans hN7
  exact hN8
theorem i_0 (hk : sK σ o = 1) (hN : sN σ = o + 1) (hQ : Q (.inl none) (t0_8 σ o)) : WP gT (d + 2) (3, 24) 0 0 [.ref o] [] σ Q := by
  have hN0 : sN σ = o + 1 := hN
  have hk0 : sK σ o = 1 := hk
  refine WP.run 2 (And.intro ⟨by omega, dl⟩ ?_)
  show WP gT (d + 2) (3, 24) 0 4 [.ref o] [] (σ) Q
  refine WP.run 3 (And.intro hk0 ?_)
  have hN1 : sN (t0_1 σ o) = o + 1 := npL.trans hN0
  have hk1 : sK (t0_1 σ o) o = 1 := kpL.trans hk0
  show WP gT (d + 2) (3, 24) 0 9 [.ref o] [] (t0_1 σ o) Q
  refine WP.run 3 (And.intro hk1 ?_)
  have hN2 : sN (t0_2 σ o) = o + 1 := npI.trans hN1
  have hk2 : sK (t0_2 σ o) o = 1 := kpI.trans hk1
  show WP gT (d + 2) (3, 24) 0 14 [.ref o] [] (t0_2 σ o) Q
  refine WP.run 4 (And.intro ⟨by decide, by decide, by decide, by decide⟩ (And.intro ((nK_o (by rw [hN2]; omega)).trans hk2) ?_))
  show WP gT (d + 2) (2, 18) 0 22 [.ref o] [] (setP (newO (t0_2 σ o) 14 6) o 2 (some (sN (t0_2 σ o)))) Q
  rw [oA hN2, hN2]
  have hN3 : sN (t0_3 σ o) = o + 2 := npP
  have hk3 : sK (t0_3 σ o) o = 1 := kpP.trans ((kA (z := 6) (by omega)).trans hk2)
  show WP gT (d + 2) (2, 18) 0 22 [.ref o] [] (t0_3 σ o) Q
  refine WP.run 4 (And.intro ⟨by decide, by decide, by decide, by decide⟩ (And.intro ((nK_o (by rw [hN3]; omega)).trans hk3) ?_))
  show WP gT (d + 2) (1, 12) 0 30 [.ref o] [] (setP (newO (t0_3 σ o) 14 6) o 3 (some (sN (t0_3 σ o)))) Q
  rw [oA hN3, hN3]
  have hN4 : sN (t0_4 σ o) = o + 3 := npP
  have hk4 : sK (t0_4 σ o) o = 1 := kpP.trans ((kA (z := 6) (by omega)).trans hk3)
  show WP gT (d + 2) (1, 12) 0 30 [.ref o] [] (t0_4 σ o) Q
  refine WP.run 4 (And.intro ⟨by decide, by decide, by decide, by decide⟩ (And.intro ((nK_o (by rw [hN4]; omega)).trans hk4) ?_))
  show WP gT (d + 2) (0, 0) 0 38 [.ref o] [] (setP (newO (t0_4 σ o) 14 12) o 4 (some (sN (t0_4 σ o)))) Q
  rw [oA hN4, hN4]
  have hN5 : sN (t0_5 σ o) = o + 4 := npP
  have hk5 : sK (t0_5 σ o) o = 1 := kpP.trans ((kA (z := 12) (by omega)).trans hk4)
  show WP gT (d + 2) (0, 0) 0 38 [.ref o] [] (t0_5 σ o) Q
  refine WP.run 3 (And.intro hk5 ?_)
  have hN6 : sN (t0_6 σ o) = o + 4 := npI.trans hN5
  have hk6 : sK (t0_6 σ o) o = 1 := kpI.trans hk5
  show WP gT (d + 2) (0, 0) 0 43 [.ref o] [] (t0_6 σ o) Q
  refine WP.run 3 (And.intro hk6 ?_)
  have hN7 : sN (t0_7 σ o) = o + 4 := npI.trans hN6
  have hk7 : sK (t0_7 σ o) o = 1 := kpI.trans hk6
  show WP gT (d + 2) (0, 0) 0 48 [.ref o] [] (t0_7 σ o) Q
  refine WP.run 3 (And.intro hk7 ?_)
  have hN8 : sN (t0_8 σ o) = o + 4 := npI.trans hN7
  have hk8 : sK (t0_8 σ o) o = 1 := kpI.trans hk7
  show WP gT (d + 2) (0, 0) 0 53 [.ref o] [] (t0_8 σ o) Q
  exact WP.run 1 hQ
def t9_1 (σ : Sto) (o : Nat) : Sto := setP (newA (σ) (o + 1) 14 10) o 0 (some (o + 1))
def t9_2 (σ : Sto) (o : Nat) : Sto := setP (newA (t9_1 σ o) (o + 2) 14 10) o 1 (some (o + 2))
def t9_3 (σ : Sto) (o : Nat) : Sto := setP (newA (t9_2 σ o) (o + 3) 14 10) o 2 (some (o + 3))
def t9_4 (σ : Sto) (o : Nat) : Sto := setP (newA (t9_3 σ o) (o + 4) 16 10) o 3 (some (o + 4))
def t9_5 (σ : Sto) (o : Nat) : Sto := setP (newA (t9_4 σ o) (o + 5) 14 10) o 4 (some (o + 5))
theorem t9_k (h : p < o) : sK (t9_5 σ o) p = sK σ p := by
  have h0 : sK σ p = sK σ p := rfl
  have h1 : sK (t9_1 σ o) p = sK σ p := kpP.trans ((kA (z := 10) (by omega)).trans h0)
  have h2 : sK (t9_2 σ o) p = sK σ p := kpP.trans ((kA (z := 10) (by omega)).trans h1)
  have h3 : sK (t9_3 σ o) p = sK σ p := kpP.trans ((kA (z := 10) (by omega)).trans h2)
  have h4 : sK (t9_4 σ o) p = sK σ p := kpP.trans ((kA (z := 10) (by omega)).trans h3)
  have h5 : sK (t9_5 σ o) p = sK σ p := kpP.trans ((kA (z := 10) (by omega)).trans h4)
  exact h5
theorem t9_n (hN : sN σ = o + 1) : sN (t9_5 σ o) = o + 6 := by
  have hN0 := hN
  have hN1 : sN (t9_1 σ o) = o + 2 := npP
  have hN2 : sN (t9_2 σ o) = o + 3 := npP
  have hN3 : sN (t9_3 σ o) = o + 4 := npP
  have hN4 : sN (t9_4 σ o) = o + 5 := npP
  have hN5 : sN (t9_5 σ o) = o + 6 := npP
  exact hN5
theorem i_9 (hk : sK σ o = 2) (hN : sN σ = o + 1) (hQ : Q (.inl none) (t9_5 σ o)) : WP gT (d + 2) (5, 50) 9 0 [.ref o] [] σ Q := by
  have hN0 : sN σ = o + 1 := hN
  have hk0 : sK σ o = 2 := hk
  refine WP.run 2 (And.intro ⟨by omega, dl⟩ ?_)
  show WP gT (d + 2) (5, 50) 9 4 [.ref o] [] (σ) Q
  refine WP.run 4 (And.intro ⟨by decide, by decide, by decide, by decide⟩ (And.intro ((nK_o (by rw [hN0]; omega)).trans hk0) ?_))
  show WP gT (d + 2) (4, 40) 9 12 [.ref o] [] (setP (newO (σ) 14 10) o 0 (some (sN (σ)))) Q
  rw [oA hN0, hN0]
  have hN1 : sN (t9_1 σ o) = o + 2 := npP
  have hk1 : sK (t9_1 σ o) o = 2 := kpP.trans ((kA (z := 10) (by omega)).trans hk0)
  show WP gT (d + 2) (4, 40) 9 12 [.ref o] [] (t9_1 σ o) Q
  refine WP.run 4 (And.intro ⟨by decide, by decide, by decide, by decide⟩ (And.intro ((nK_o (by rw [hN1]; omega)).trans hk1) ?_))
  show WP gT (d + 2) (3, 30) 9 20 [.ref o] [] (setP (newO (t9_1 σ o) 14 10) o 1 (some (sN (t9_1 σ o)))) Q
  rw [oA hN1, hN1]
  have hN2 : sN (t9_2 σ o) = o + 3 := npP
  have hk2 : sK (t9_2 σ o) o = 2 := kpP.trans ((kA (z := 10) (by omega)).trans hk1)
  show WP gT (d + 2) (3, 30) 9 20 [.ref o] [] (t9_2 σ o) Q
  refine WP.run 4 (And.intro ⟨by decide, by decide, by decide, by decide⟩ (And.intro ((nK_o (by rw [hN2]; omega)).trans hk2) ?_))
  show WP gT (d + 2) (2, 20) 9 28 [.ref o] [] (setP (newO (t9_2 σ o) 14 10) o 2 (some (sN (t9_2 σ o)))) Q
  rw [oA hN2, hN2]
  have hN3 : sN (t9_3 σ o) = o + 4 := npP
  have hk3 : sK (t9_3 σ o) o = 2 := kpP.trans ((kA (z := 10) (by omega)).trans hk2)
  show WP gT (d + 2) (2, 20) 9 28 [.ref o] [] (t9_3 σ o) Q
  refine WP.run 4 (And.intro ⟨by decide, by decide, by decide, by decide⟩ (And.intro ((nK_o (by rw [hN3]; omega)).trans hk3) ?_))
  show WP gT (d + 2) (1, 10) 9 36 [.ref o] [] (setP (newO (t9_3 σ o) 16 10) o 3 (some (sN (t9_3 σ o)))) Q
  rw [oA hN3, hN3]
  have hN4 : sN (t9_4 σ o) = o + 5 := npP
  have hk4 : sK (t9_4 σ o) o = 2 := kpP.trans ((kA (z := 10) (by omega)).trans hk3)
  show WP gT (d + 2) (1, 10) 9 36 [.ref o] [] (t9_4 σ o) Q
  refine WP.run 4 (And.intro ⟨by decide, by decide, by decide, by decide⟩ (And.intro ((nK_o (by rw [hN4]; omega)).trans hk4) ?_))
  show WP gT (d + 2) (0, 0) 9 44 [.ref o] [] (setP (newO (t9_4 σ o) 14 10) o 4 (some (sN (t9_4 σ o)))) Q
  rw [oA hN4, hN4]
  have hN5 : sN (t9_5 σ o) = o + 6 := npP
  have hk5 : sK (t9_5 σ o) o = 2 := kpP.trans ((kA (z := 10) (by omega)).trans hk4)
  show WP gT (d + 2) (0, 0) 9 44 [.ref o] [] (t9_5 σ o) Q
  exact WP.run 1 hQ
def t24_1 (σ : Sto) (o : Nat) : Sto := setP (newA (σ) (o + 1) 14 96) o 0 (some (o + 1))
def t24_2 (σ : Sto) (o : Nat) : Sto := setP (newA (t24_1 σ o) (o + 2) 14 96) o 1 (some (o + 2))
def t24_3 (σ : Sto) (o : Nat) : Sto := setP (newA (t24_2 σ o) (o + 3) 14 96) o 2 (some (o + 3))
def t24_4 (σ : Sto) (o : Nat) : Sto := setP (newH (t24_3 σ o) (o + 4) 8 96) o 3 (some (o + 4))
def t24_5 (σ : Sto) (o : Nat) : Sto := setP (newH (t24_4 σ o) (o + 13) 8 96) o 4 (some (o + 13))
theorem t24_k (h : p < o) : sK (t24_5 σ o) p = sK σ p := by
  have h0 : sK σ p = sK σ p := rfl
  have h1 : sK (t24_1 σ o) p = sK σ p := kpP.trans ((kA (z := 96) (by omega)).trans h0)
  have h2 : sK (t24_2 σ o) p = sK σ p := kpP.trans ((kA (z := 96) (by omega)).trans h1)
  have h3 : sK (t24_3 σ o) p = sK σ p := kpP.trans ((kA (z := 96) (by omega)).trans h2)
  have h4 : sK (t24_4 σ o) p = sK σ p := kpP.trans ((kH (m := 96) (by omega)).trans h3)
  have h5 : sK (t24_5 σ o) p = sK σ p := kpP.trans ((kH (m := 96) (by omega)).trans h4)
  exact h5
theorem t24_n (hN : sN σ = o + 1) : sN (t24_5 σ o) = o + 22 := by
  have hN0 := hN
  have hN1 : sN (t24_1 σ o) = o + 2 := npP
  have hN2 : sN (t24_2 σ o) = o + 3 := npP
  have hN3 : sN (t24_3 σ o) = o + 4 := npP
  have hN4 : sN (t24_4 σ o) = o + 13 := npP
  have hN5 : sN (t24_5 σ o) = o + 22 := npP
  exact hN5
theorem i_24 (hk : sK σ o = 4) (hN : sN σ = o + 1) (hQ : Q (.inl none) (t24_5 σ o)) : WP gT (d + 2) (21, 1840) 24 0 [.ref o] [] σ Q := by
  have hN0 : sN σ = o + 1 := hN
  have hk0 : sK σ o = 4 := hk
  refine WP.run 2 (And.intro ⟨by omega, dl⟩ ?_)
  show WP gT (d + 2) (21, 1840) 24 4 [.ref o] [] (σ) Q
  refine WP.run 4 (And.intro ⟨by decide, by decide, by decide, by decide⟩ (And.intro ((nK_o (by rw [hN0]; omega)).trans hk0) ?_))
  show WP gT (d + 2) (20, 1744) 24 12 [.ref o] [] (setP (newO (σ) 14 96) o 0 (some (sN (σ)))) Q
  rw [oA hN0, hN0]
  have hN1 : sN (t24_1 σ o) = o + 2 := npP
  have hk1 : sK (t24_1 σ o) o = 4 := kpP.trans ((kA (z := 96) (by omega)).trans hk0)
  show WP gT (d + 2) (20, 1744) 24 12 [.ref o] [] (t24_1 σ o) Q
  refine WP.run 4 (And.intro ⟨by decide, by decide, by decide, by decide⟩ (And.intro ((nK_o (by rw [hN1]; omega)).trans hk1) ?_))
  show WP gT (d + 2) (19, 1648) 24 20 [.ref o] [] (setP (newO (t24_1 σ o) 14 96) o 1 (some (sN (t24_1 σ o)))) Q
  rw [oA hN1, hN1]
  have hN2 : sN (t24_2 σ o) = o + 3 := npP
  have hk2 : sK (t24_2 σ o) o = 4 := kpP.trans ((kA (z := 96) (by omega)).trans hk1)
  show WP gT (d + 2) (19, 1648) 24 20 [.ref o] [] (t24_2 σ o) Q
  refine WP.run 4 (And.intro ⟨by decide, by decide, by decide, by decide⟩ (And.intro ((nK_o (by rw [hN2]; omega)).trans hk2) ?_))
  show WP gT (d + 2) (18, 1552) 24 28 [.ref o] [] (setP (newO (t24_2 σ o) 14 96) o 2 (some (sN (t24_2 σ o)))) Q
  rw [oA hN2, hN2]
  have hN3 : sN (t24_3 σ o) = o + 4 := npP
  have hk3 : sK (t24_3 σ o) o = 4 := kpP.trans ((kA (z := 96) (by omega)).trans hk2)
  show WP gT (d + 2) (18, 1552) 24 28 [.ref o] [] (t24_3 σ o) Q
  refine WP.run 5 (And.intro ⟨by decide, by decide, by decide, by decide, by decide, by decide⟩ (And.intro ((nGK (by rw [hN3]; omega)).trans hk3) ?_))
  show WP gT (d + 2) (9, 776) 24 40 [.ref o] [] (setP (newG (t24_3 σ o) 8 96) o 3 (some (sN (t24_3 σ o)))) Q
  rw [oG hN3, hN3]
  have hN4 : sN (t24_4 σ o) = o + 13 := npP
  have hk4 : sK (t24_4 σ o) o = 4 := kpP.trans ((kH (m := 96) (by omega)).trans hk3)
  show WP gT (d + 2) (9, 776) 24 40 [.ref o] [] (t24_4 σ o) Q
  refine WP.run 5 (And.intro ⟨by decide, by decide, by decide, by decide, by decide, by decide⟩ (And.intro ((nGK (by rw [hN4]; omega)).trans hk4) ?_))
  show WP gT (d + 2) (0, 0) 24 52 [.ref o] [] (setP (newG (t24_4 σ o) 8 96) o 4 (some (sN (t24_4 σ o)))) Q
  rw [oG hN4, hN4]
  have hN5 : sN (t24_5 σ o) = o + 22 := npP
  have hk5 : sK (t24_5 σ o) o = 4 := kpP.trans ((kH (m := 96) (by omega)).trans hk4)
  show WP gT (d + 2) (0, 0) 24 52 [.ref o] [] (t24_5 σ o) Q
  exact WP.run 1 hQ
def t35_1 (σ : Sto) (o : Nat) : Sto := setI (σ) o 0 1
def t35_2 (σ : Sto) (o : Nat) : Sto := setI (t35_1 σ o) o 1 0
def t35_3 (σ : Sto) (o : Nat) : Sto := setI (t35_2 σ o) o 2 0
def t35_4 (σ : Sto) (o : Nat) : Sto := setI (t35_3 σ o) o 3 95
def t35_5 (σ : Sto) (o : Nat) : Sto := setP (newH (t35_4 σ o) (o + 1) 3 96) o 4 (some (o + 1))
def t35_6 (σ : Sto) (o : Nat) : Sto := setI (t35_5 σ o) o 5 0
def t35_7 (σ : Sto) (o : Nat) : Sto := setP (newA (t35_6 σ o) (o + 5) 14 4) o 6 (some (o + 5))
def t35_8 (σ : Sto) (o : Nat) : Sto := setP (newA (t35_7 σ o) (o + 6) 14 28) o 7 (some (o + 6))
def t35_9 (σ : Sto) (o : Nat) : Sto := setI (t35_8 σ o) o 8 0
def t35_10 (σ : Sto) (o : Nat) : Sto := setP (newA (t35_9 σ o) (o + 7) 14 8) o 9 (some (o + 7))
def t35_11 (σ : Sto) (o : Nat) : Sto := setP (newA (t35_10 σ o) (o + 8) 14 8) o 10 (some (o + 8))
def t35_12 (σ : Sto) (o : Nat) : Sto := setP (newA (t35_11 σ o) (o + 9) 14 8) o 11 (some (o + 9))
def t35_13 (σ : Sto) (o : Nat) : Sto := setP (newA (t35_12 σ o) (o + 10) 14 8) o 12 (some (o + 10))
def t35_14 (σ : Sto) (o : Nat) : Sto := setP (newA (t35_13 σ o) (o + 11) 14 8) o 13 (some (o + 11))
def t35_15 (σ : Sto) (o : Nat) : Sto := setI (t35_14 σ o) o 14 0
def t35_16 (σ : Sto) (o : Nat) : Sto := setP (newA (t35_15 σ o) (o + 12) 14 12) o 15 (some (o + 12))
def t35_17 (σ : Sto) (o : Nat) : Sto := setP (newA (t35_16 σ o) (o + 13) 14 12) o 16 (some (o + 13))
def t35_18 (σ : Sto) (o : Nat) : Sto := setP (newA (t35_17 σ o) (o + 14) 14 12) o 17 (some (o + 14))
def t35_19 (σ : Sto) (o : Nat) : Sto := setP (newA (t35_18 σ o) (o + 15) 14 12) o 18 (some (o + 15))
theorem t35_k (h : p < o) : sK (t35_19 σ o) p = sK σ p := by
  have h0 : sK σ p = sK σ p := rfl
  have h1 : sK (t35_1 σ o) p = sK σ p := kpI.trans h0
  have h2 : sK (t35_2 σ o) p = sK σ p := kpI.trans h1
  have h3 : sK (t35_3 σ o) p = sK σ p := kpI.trans h2
  have h4 : sK (t35_4 σ o) p = sK σ p := kpI.trans h3
  have h5 : sK (t35_5 σ o) p = sK σ p := kpP.trans ((kH (m := 96) (by omega)).trans h4)
  have h6 : sK (t35_6 σ o) p = sK σ p := kpI.trans h5
  have h7 : sK (t35_7 σ o) p = sK σ p := kpP.trans ((kA (z := 4) (by omega)).trans h6)
  have h8 : sK (t35_8 σ o) p = sK σ p := kpP.trans ((kA (z := 28) (by omega)).trans h7)
  have h9 : sK (t35_9 σ o) p = sK σ p := kpI.trans h8
  have h10 : sK (t35_10 σ o) p = sK σ p := kpP.trans ((kA (z := 8) (by omega)).trans h9)
  have h11 : sK (t35_11 σ o) p = sK σ p := kpP.trans ((kA (z := 8) (by omega)).trans h10)
  have h12 : sK (t35_12 σ o) p = sK σ p := kpP.trans ((kA (z := 8) (by omega)).trans h11)
  have h13 : sK (t35_13 σ o) p = sK σ p := kpP.trans ((kA (z := 8) (by omega)).trans h12)
  have h14 : sK (t35_14 σ o) p = sK σ p := kpP.trans ((kA (z := 8) (by omega)).trans h13)
  have h15 : sK (t35_15 σ o) p = sK σ p := kpI.trans h14
  have h16 : sK (t35_16 σ o) p = sK σ p := kpP.trans ((kA (z := 12) (by omega)).trans h15)
  have h17 : sK (t35_17 σ o) p = sK σ p := kpP.trans ((kA (z := 12) (by omega)).trans h16)
  have h18 : sK (t35_18 σ o) p = sK σ p := kpP.trans ((kA (z := 12) (by omega)).trans h17)
  have h19 : sK (t35_19 σ o) p = sK σ p := kpP.trans ((kA (z := 12) (by omega)).trans h18)
  exact h19
theorem t35_n (hN : sN σ = o + 1) : sN (t35_19 σ o) = o + 16 := by
  have hN0 := hN
  have hN1 : sN (t35_1 σ o) = o + 1 := npI.trans hN0
  have hN2 : sN (t35_2 σ o) = o + 1 := npI.trans hN1
  have hN3 : sN (t35_3 σ o) = o + 1 := npI.trans hN2
  have hN4 : sN (t35_4 σ o) = o + 1 := npI.trans hN3
  have hN5 : sN (t35_5 σ o) = o + 5 := npP
  have hN6 : sN (t35_6 σ o) = o + 5 := npI.trans hN5
  have hN7 : sN (t35_7 σ o) = o + 6 := npP
  have hN8 : sN (t35_8 σ o) = o + 7 := npP
  have hN9 : sN (t35_9 σ o) = o + 7 := npI.trans hN8
  have hN10 : sN (t35_10 σ o) = o + 8 := npP
  have hN11 : sN (t35_11 σ o) = o + 9 := npP
  have hN12 : sN (t35_12 σ o) = o + 10 := npP
  have hN13 : sN (t35_13 σ o) = o + 11 := npP
  have hN14 : sN (t35_14 σ o) = o + 12 := npP
  have hN15 : sN (t35_15 σ o) = o + 12 := npI.trans hN14
  have hN16 : sN (t35_16 σ o) = o + 13 := npP
  have hN17 : sN (t35_17 σ o) = o + 14 := npP
  have hN18 : sN (t35_18 σ o) = o + 15 := npP
  have hN19 : sN (t35_19 σ o) = o + 16 := npP
  exact hN19
theorem i_35 (hk : sK σ o = 5) (hN : sN σ = o + 1) (hQ : Q (.inl none) (t35_19 σ o)) : WP gT (d + 2) (15, 411) 35 0 [.ref o] [] σ Q := by
  have hN0 : sN σ = o + 1 := hN
  have hk0 : sK σ o = 5 := hk
  refine WP.run 2 (And.intro ⟨by omega, dl⟩ ?_)
  show WP gT (d + 2) (15, 411) 35 4 [.ref o] [] (σ) Q
  refine WP.run 3 (And.intro hk0 ?_)
  have hN1 : sN (t35_1 σ o) = o + 1 := npI.trans hN0
  have hk1 : sK (t35_1 σ o) o = 5 := kpI.trans hk0
  show WP gT (d + 2) (15, 411) 35 9 [.ref o] [] (t35_1 σ o) Q
  refine WP.run 3 (And.intro hk1 ?_)
  have hN2 : sN (t35_2 σ o) = o + 1 := npI.trans hN1
  have hk2 : sK (t35_2 σ o) o = 5 := kpI.trans hk1
  show WP gT (d + 2) (15, 411) 35 14 [.ref o] [] (t35_2 σ o) Q
  refine WP.run 3 (And.intro hk2 ?_)
  have hN3 : sN (t35_3 σ o) = o + 1 := npI.trans hN2
  have hk3 : sK (t35_3 σ o) o = 5 := kpI.trans hk2
  show WP gT (d + 2) (15, 411) 35 19 [.ref o] [] (t35_3 σ o) Q
  refine WP.run 3 (And.intro hk3 ?_)
  have hN4 : sN (t35_4 σ o) = o + 1 := npI.trans hN3
  have hk4 : sK (t35_4 σ o) o = 5 := kpI.trans hk3
  show WP gT (d + 2) (15, 411) 35 25 [.ref o] [] (t35_4 σ o) Q
  refine WP.run 5 (And.intro ⟨by decide, by decide, by decide, by decide, by decide, by decide⟩ (And.intro ((nGK (by rw [hN4]; omega)).trans hk4) ?_))
  show WP gT (d + 2) (11, 120) 35 36 [.ref o] [] (setP (newG (t35_4 σ o) 3 96) o 4 (some (sN (t35_4 σ o)))) Q
  rw [oG hN4, hN4]
  have hN5 : sN (t35_5 σ o) = o + 5 := npP
  have hk5 : sK (t35_5 σ o) o = 5 := kpP.trans ((kH (m := 96) (by omega)).trans hk4)
  show WP gT (d + 2) (11, 120) 35 36 [.ref o] [] (t35_5 σ o) Q
  refine WP.run 3 (And.intro hk5 ?_)
  have hN6 : sN (t35_6 σ o) = o + 5 := npI.trans hN5
  have hk6 : sK (t35_6 σ o) o = 5 := kpI.trans hk5
  show WP gT (d + 2) (11, 120) 35 41 [.ref o] [] (t35_6 σ o) Q
  refine WP.run 4 (And.intro ⟨by decide, by decide, by decide, by decide⟩ (And.intro ((nK_o (by rw [hN6]; omega)).trans hk6) ?_))
  show WP gT (d + 2) (10, 116) 35 48 [.ref o] [] (setP (newO (t35_6 σ o) 14 4) o 6 (some (sN (t35_6 σ o)))) Q
  rw [oA hN6, hN6]
  have hN7 : sN (t35_7 σ o) = o + 6 := npP
  have hk7 : sK (t35_7 σ o) o = 5 := kpP.trans ((kA (z := 4) (by omega)).trans hk6)
  show WP gT (d + 2) (10, 116) 35 48 [.ref o] [] (t35_7 σ o) Q
  refine WP.run 4 (And.intro ⟨by decide, by decide, by decide, by decide⟩ (And.intro ((nK_o (by rw [hN7]; omega)).trans hk7) ?_))
  show WP gT (d + 2) (9, 88) 35 56 [.ref o] [] (setP (newO (t35_7 σ o) 14 28) o 7 (some (sN (t35_7 σ o)))) Q
  rw [oA hN7, hN7]
  have hN8 : sN (t35_8 σ o) = o + 7 := npP
  have hk8 : sK (t35_8 σ o) o = 5 := kpP.trans ((kA (z := 28) (by omega)).trans hk7)
  show WP gT (d + 2) (9, 88) 35 56 [.ref o] [] (t35_8 σ o) Q
  refine WP.run 3 (And.intro hk8 ?_)
  have hN9 : sN (t35_9 σ o) = o + 7 := npI.trans hN8
  have hk9 : sK (t35_9 σ o) o = 5 := kpI.trans hk8
  show WP gT (d + 2) (9, 88) 35 61 [.ref o] [] (t35_9 σ o) Q
  refine WP.run 4 (And.intro ⟨by decide, by decide, by decide, by decide⟩ (And.intro ((nK_o (by rw [hN9]; omega)).trans hk9) ?_))
  show WP gT (d + 2) (8, 80) 35 69 [.ref o] [] (setP (newO (t35_9 σ o) 14 8) o 9 (some (sN (t35_9 σ o)))) Q
  rw [oA hN9, hN9]
  have hN10 : sN (t35_10 σ o) = o + 8 := npP
  have hk10 : sK (t35_10 σ o) o = 5 := kpP.trans ((kA (z := 8) (by omega)).trans hk9)
  show WP gT (d + 2) (8, 80) 35 69 [.ref o] [] (t35_10 σ o) Q
  refine WP.run 4 (And.intro ⟨by decide, by decide, by decide, by decide⟩ (And.intro ((nK_o (by rw [hN10]; omega)).trans hk10) ?_))
  show WP gT (d + 2) (7, 72) 35 77 [.ref o] [] (setP (newO (t35_10 σ o) 14 8) o 10 (some (sN (t35_10 σ o)))) Q
  rw [oA hN10, hN10]
  have hN11 : sN (t35_11 σ o) = o + 9 := npP
  have hk11 : sK (t35_11 σ o) o = 5 := kpP.trans ((kA (z := 8) (by omega)).trans hk10)
  show WP gT (d + 2) (7, 72) 35 77 [.ref o] [] (t35_11 σ o) Q
  refine WP.run 4 (And.intro ⟨by decide, by decide, by decide, by decide⟩ (And.intro ((nK_o (by rw [hN11]; omega)).trans hk11) ?_))
  show WP gT (d + 2) (6, 64) 35 85 [.ref o] [] (setP (newO (t35_11 σ o) 14 8) o 11 (some (sN (t35_11 σ o)))) Q
  rw [oA hN11, hN11]
  have hN12 : sN (t35_12 σ o) = o + 10 := npP
  have hk12 : sK (t35_12 σ o) o = 5 := kpP.trans ((kA (z := 8) (by omega)).trans hk11)
  show WP gT (d + 2) (6, 64) 35 85 [.ref o] [] (t35_12 σ o) Q
  refine WP.run 4 (And.intro ⟨by decide, by decide, by decide, by decide⟩ (And.intro ((nK_o (by rw [hN12]; omega)).trans hk12) ?_))
  show WP gT (d + 2) (5, 56) 35 93 [.ref o] [] (setP (newO (t35_12 σ o) 14 8) o 12 (some (sN (t35_12 σ o)))) Q
  rw [oA hN12, hN12]
  have hN13 : sN (t35_13 σ o) = o + 11 := npP
  have hk13 : sK (t35_13 σ o) o = 5 := kpP.trans ((kA (z := 8) (by omega)).trans hk12)
  show WP gT (d + 2) (5, 56) 35 93 [.ref o] [] (t35_13 σ o) Q
  refine WP.run 4 (And.intro ⟨by decide, by decide, by decide, by decide⟩ (And.intro ((nK_o (by rw [hN13]; omega)).trans hk13) ?_))
  show WP gT (d + 2) (4, 48) 35 101 [.ref o] [] (setP (newO (t35_13 σ o) 14 8) o 13 (some (sN (t35_13 σ o)))) Q
  rw [oA hN13, hN13]
  have hN14 : sN (t35_14 σ o) = o + 12 := npP
  have hk14 : sK (t35_14 σ o) o = 5 := kpP.trans ((kA (z := 8) (by omega)).trans hk13)
  show WP gT (d + 2) (4, 48) 35 101 [.ref o] [] (t35_14 σ o) Q
  refine WP.run 3 (And.intro hk14 ?_)
  have hN15 : sN (t35_15 σ o) = o + 12 := npI.trans hN14
  have hk15 : sK (t35_15 σ o) o = 5 := kpI.trans hk14
  show WP gT (d + 2) (4, 48) 35 106 [.ref o] [] (t35_15 σ o) Q
  refine WP.run 4 (And.intro ⟨by decide, by decide, by decide, by decide⟩ (And.intro ((nK_o (by rw [hN15]; omega)).trans hk15) ?_))
  show WP gT (d + 2) (3, 36) 35 114 [.ref o] [] (setP (newO (t35_15 σ o) 14 12) o 15 (some (sN (t35_15 σ o)))) Q
  rw [oA hN15, hN15]
  have hN16 : sN (t35_16 σ o) = o + 13 := npP
  have hk16 : sK (t35_16 σ o) o = 5 := kpP.trans ((kA (z := 12) (by omega)).trans hk15)
  show WP gT (d + 2) (3, 36) 35 114 [.ref o] [] (t35_16 σ o) Q
  refine WP.run 4 (And.intro ⟨by decide, by decide, by decide, by decide⟩ (And.intro ((nK_o (by rw [hN16]; omega)).trans hk16) ?_))
  show WP gT (d + 2) (2, 24) 35 122 [.ref o] [] (setP (newO (t35_16 σ o) 14 12) o 16 (some (sN (t35_16 σ o)))) Q
  rw [oA hN16, hN16]
  have hN17 : sN (t35_17 σ o) = o + 14 := npP
  have hk17 : sK (t35_17 σ o) o = 5 := kpP.trans ((kA (z := 12) (by omega)).trans hk16)
  show WP gT (d + 2) (2, 24) 35 122 [.ref o] [] (t35_17 σ o) Q
  refine WP.run 4 (And.intro ⟨by decide, by decide, by decide, by decide⟩ (And.intro ((nK_o (by rw [hN17]; omega)).trans hk17) ?_))
  show WP gT (d + 2) (1, 12) 35 130 [.ref o] [] (setP (newO (t35_17 σ o) 14 12) o 17 (some (sN (t35_17 σ o)))) Q
  rw [oA hN17, hN17]
  have hN18 : sN (t35_18 σ o) = o + 15 := npP
  have hk18 : sK (t35_18 σ o) o = 5 := kpP.trans ((kA (z := 12) (by omega)).trans hk17)
  show WP gT (d + 2) (1, 12) 35 130 [.ref o] [] (t35_18 σ o) Q
  refine WP.run 4 (And.intro ⟨by decide, by decide, by decide, by decide⟩ (And.intro ((nK_o (by rw [hN18]; omega)).trans hk18) ?_))
  show WP gT (d + 2) (0, 0) 35 138 [.ref o] [] (setP (newO (t35_18 σ o) 14 12) o 18 (some (sN (t35_18 σ o)))) Q
  rw [oA hN18, hN18]
  have hN19 : sN (t35_19 σ o) = o + 16 := npP
  have hk19 : sK (t35_19 σ o) o = 5 := kpP.trans ((kA (z := 12) (by omega)).trans hk18)
  show WP gT (d + 2) (0, 0) 35 138 [.ref o] [] (t35_19 σ o) Q
  exact WP.run 1 hQ
def t47_1 (σ : Sto) (o : Nat) : Sto := setI (σ) o 0 (-1)
def t47_2 (σ : Sto) (o : Nat) : Sto := setI (t47_1 σ o) o 1 (-1)
def t47_3 (σ : Sto) (o : Nat) : Sto := setP (newA (t47_2 σ o) (o + 1) 14 97) o 2 (some (o + 1))
def t47_4 (σ : Sto) (o : Nat) : Sto := setP (newA (t47_3 σ o) (o + 2) 14 9409) o 3 (some (o + 2))
theorem t47_k (h : p < o) : sK (t47_4 σ o) p = sK σ p := by
  have h0 : sK σ p = sK σ p := rfl
  have h1 : sK (t47_1 σ o) p = sK σ p := kpI.trans h0
  have h2 : sK (t47_2 σ o) p = sK σ p := kpI.trans h1
  have h3 : sK (t47_3 σ o) p = sK σ p := kpP.trans ((kA (z := 97) (by omega)).trans h2)
  have h4 : sK (t47_4 σ o) p = sK σ p := kpP.trans ((kA (z := 9409) (by omega)).trans h3)
  exact h4
theorem t47_n (hN : sN σ = o + 1) : sN (t47_4 σ o) = o + 3 := by
  have hN0 := hN
  have hN1 : sN (t47_1 σ o) = o + 1 := npI.trans hN0
  have hN2 : sN (t47_2 σ o) = o + 1 := npI.trans hN1
  have hN3 : sN (t47_3 σ o) = o + 2 := npP
  have hN4 : sN (t47_4 σ o) = o + 3 := npP
  exact hN4
theorem i_47 (hk : sK σ o = 6) (hN : sN σ = o + 1) (hQ : Q (.inl none) (t47_4 σ o)) : WP gT (d + 2) (2, 9506) 47 0 [.ref o] [] σ Q := by
  have hN0 : sN σ = o + 1 := hN
  have hk0 : sK σ o = 6 := hk
  refine WP.run 2 (And.intro ⟨by omega, dl⟩ ?_)
  show WP gT (d + 2) (2, 9506) 47 4 [.ref o] [] (σ) Q
  refine WP.run 3 (And.intro hk0 ?_)
  have hN1 : sN (t47_1 σ o) = o + 1 := npI.trans hN0
  have hk1 : sK (t47_1 σ o) o = 6 := kpI.trans hk0
  show WP gT (d + 2) (2, 9506) 47 9 [.ref o] [] (t47_1 σ o) Q
  refine WP.run 3 (And.intro hk1 ?_)
  have hN2 : sN (t47_2 σ o) = o + 1 := npI.trans hN1
  have hk2 : sK (t47_2 σ o) o = 6 := kpI.trans hk1
  show WP gT (d + 2) (2, 9506) 47 14 [.ref o] [] (t47_2 σ o) Q
  refine WP.run 4 (And.intro ⟨by decide, by decide, by decide, by decide⟩ (And.intro ((nK_o (by rw [hN2]; omega)).trans hk2) ?_))
  show WP gT (d + 2) (1, 9409) 47 22 [.ref o] [] (setP (newO (t47_2 σ o) 14 97) o 2 (some (sN (t47_2 σ o)))) Q
  rw [oA hN2, hN2]
  have hN3 : sN (t47_3 σ o) = o + 2 := npP
  have hk3 : sK (t47_3 σ o) o = 6 := kpP.trans ((kA (z := 97) (by omega)).trans hk2)
  show WP gT (d + 2) (1, 9409) 47 22 [.ref o] [] (t47_3 σ o) Q
  refine WP.run 4 (And.intro ⟨by decide, by decide, by decide, by decide⟩ (And.intro ((nK_o (by rw [hN3]; omega)).trans hk3) ?_))
  show WP gT (d + 2) (0, 0) 47 31 [.ref o] [] (setP (newO (t47_3 σ o) 14 9409) o 3 (some (sN (t47_3 σ o)))) Q
  rw [oA hN3, hN3]
  have hN4 : sN (t47_4 σ o) = o + 3 := npP
  have hk4 : sK (t47_4 σ o) o = 6 := kpP.trans ((kA (z := 9409) (by omega)).trans hk3)
  show WP gT (d + 2) (0, 0) 47 31 [.ref o] [] (t47_4 σ o) Q
  exact WP.run 1 hQ
def t51_1 (σ : Sto) (o : Nat) : Sto := setI (σ) o 0 0
def t51_2 (σ : Sto) (o : Nat) : Sto := setP (newA (t51_1 σ o) (o + 1) 14 10) o 1 (some (o + 1))
def t51_3 (σ : Sto) (o : Nat) : Sto := setP (newA (t51_2 σ o) (o + 2) 14 10) o 2 (some (o + 2))
def t51_4 (σ : Sto) (o : Nat) : Sto := setP (newA (t51_3 σ o) (o + 3) 14 10) o 3 (some (o + 3))
def t51_5 (σ : Sto) (o : Nat) : Sto := setP (newA (t51_4 σ o) (o + 4) 14 10) o 4 (some (o + 4))
def t51_6 (σ : Sto) (o : Nat) : Sto := setP (newA (t51_5 σ o) (o + 5) 14 10) o 5 (some (o + 5))
def t51_7 (σ : Sto) (o : Nat) : Sto := setP (newA (t51_6 σ o) (o + 6) 14 10) o 6 (some (o + 6))
def t51_8 (σ : Sto) (o : Nat) : Sto := setI (t51_7 σ o) o 7 0
def t51_9 (σ : Sto) (o : Nat) : Sto := setP (newA (t51_8 σ o) (o + 7) 14 24) o 8 (some (o + 7))
def t51_10 (σ : Sto) (o : Nat) : Sto := setP (newA (t51_9 σ o) (o + 8) 14 24) o 9 (some (o + 8))
theorem t51_k (h : p < o) : sK (t51_10 σ o) p = sK σ p := by
  have h0 : sK σ p = sK σ p := rfl
  have h1 : sK (t51_1 σ o) p = sK σ p := kpI.trans h0
  have h2 : sK (t51_2 σ o) p = sK σ p := kpP.trans ((kA (z := 10) (by omega)).trans h1)
  have h3 : sK (t51_3 σ o) p = sK σ p := kpP.trans ((kA (z := 10) (by omega)).trans h2)
  have h4 : sK (t51_4 σ o) p = sK σ p := kpP.trans ((kA (z := 10) (by omega)).trans h3)
  have h5 : sK (t51_5 σ o) p = sK σ p := kpP.trans ((kA (z := 10) (by omega)).trans h4)
  have h6 : sK (t51_6 σ o) p = sK σ p := kpP.trans ((kA (z := 10) (by omega)).trans h5)
  have h7 : sK (t51_7 σ o) p = sK σ p := kpP.trans ((kA (z := 10) (by omega)).trans h6)
  have h8 : sK (t51_8 σ o) p = sK σ p := kpI.trans h7
  have h9 : sK (t51_9 σ o) p = sK σ p := kpP.trans ((kA (z := 24) (by omega)).trans h8)
  have h10 : sK (t51_10 σ o) p = sK σ p := kpP.trans ((kA (z := 24) (by omega)).trans h9)
  exact h10
theorem t51_n (hN : sN σ = o + 1) : sN (t51_10 σ o) = o + 9 := by
  have hN0 := hN
  have hN1 : sN (t51_1 σ o) = o + 1 := npI.trans hN0
  have hN2 : sN (t51_2 σ o) = o + 2 := npP
  have hN3 : sN (t51_3 σ o) = o + 3 := npP
  have hN4 : sN (t51_4 σ o) = o + 4 := npP
  have hN5 : sN (t51_5 σ o) = o + 5 := npP
  have hN6 : sN (t51_6 σ o) = o + 6 := npP
  have hN7 : sN (t51_7 σ o) = o + 7 := npP
  have hN8 : sN (t51_8 σ o) = o + 7 := npI.trans hN7
  have hN9 : sN (t51_9 σ o) = o + 8 := npP
  have hN10 : sN (t51_10 σ o) = o + 9 := npP
  exact hN10
theorem i_51 (hk : sK σ o = 7) (hN : sN σ = o + 1) (hQ : Q (.inl none) (t51_10 σ o)) : WP gT (d + 2) (8, 108) 51 0 [.ref o] [] σ Q := by
  have hN0 : sN σ = o + 1 := hN
  have hk0 : sK σ o = 7 := hk
  refine WP.run 2 (And.intro ⟨by omega, dl⟩ ?_)
  show WP gT (d + 2) (8, 108) 51 4 [.ref o] [] (σ) Q
  refine WP.run 3 (And.intro hk0 ?_)
  have hN1 : sN (t51_1 σ o) = o + 1 := npI.trans hN0
  have hk1 : sK (t51_1 σ o) o = 7 := kpI.trans hk0
  show WP gT (d + 2) (8, 108) 51 9 [.ref o] [] (t51_1 σ o) Q
  refine WP.run 4 (And.intro ⟨by decide, by decide, by decide, by decide⟩ (And.intro ((nK_o (by rw [hN1]; omega)).trans hk1) ?_))
  show WP gT (d + 2) (7, 98) 51 17 [.ref o] [] (setP (newO (t51_1 σ o) 14 10) o 1 (some (sN (t51_1 σ o)))) Q
  rw [oA hN1, hN1]
  have hN2 : sN (t51_2 σ o) = o + 2 := npP
  have hk2 : sK (t51_2 σ o) o = 7 := kpP.trans ((kA (z := 10) (by omega)).trans hk1)
  show WP gT (d + 2) (7, 98) 51 17 [.ref o] [] (t51_2 σ o) Q
  refine WP.run 4 (And.intro ⟨by decide, by decide, by decide, by decide⟩ (And.intro ((nK_o (by rw [hN2]; omega)).trans hk2) ?_))
  show WP gT (d + 2) (6, 88) 51 25 [.ref o] [] (setP (newO (t51_2 σ o) 14 10) o 2 (some (sN (t51_2 σ o)))) Q
  rw [oA hN2, hN2]
  have hN3 : sN (t51_3 σ o) = o + 3 := npP
  have hk3 : sK (t51_3 σ o) o = 7 := kpP.trans ((kA (z := 10) (by omega)).trans hk2)
  show WP gT (d + 2) (6, 88) 51 25 [.ref o] [] (t51_3 σ o) Q
  refine WP.run 4 (And.intro ⟨by decide, by decide, by decide, by decide⟩ (And.intro ((nK_o (by rw [hN3]; omega)).trans hk3) ?_))
  show WP gT (d + 2) (5, 78) 51 33 [.ref o] [] (setP (newO (t51_3 σ o) 14 10) o 3 (some (sN (t51_3 σ o)))) Q
  rw [oA hN3, hN3]
  have hN4 : sN (t51_4 σ o) = o + 4 := npP
  have hk4 : sK (t51_4 σ o) o = 7 := kpP.trans ((kA (z := 10) (by omega)).trans hk3)
  show WP gT (d + 2) (5, 78) 51 33 [.ref o] [] (t51_4 σ o) Q
  refine WP.run 4 (And.intro ⟨by decide, by decide, by decide, by decide⟩ (And.intro ((nK_o (by rw [hN4]; omega)).trans hk4) ?_))
  show WP gT (d + 2) (4, 68) 51 41 [.ref o] [] (setP (newO (t51_4 σ o) 14 10) o 4 (some (sN (t51_4 σ o)))) Q
  rw [oA hN4, hN4]
  have hN5 : sN (t51_5 σ o) = o + 5 := npP
  have hk5 : sK (t51_5 σ o) o = 7 := kpP.trans ((kA (z := 10) (by omega)).trans hk4)
  show WP gT (d + 2) (4, 68) 51 41 [.ref o] [] (t51_5 σ o) Q
  refine WP.run 4 (And.intro ⟨by decide, by decide, by decide, by decide⟩ (And.intro ((nK_o (by rw [hN5]; omega)).trans hk5) ?_))
  show WP gT (d + 2) (3, 58) 51 49 [.ref o] [] (setP (newO (t51_5 σ o) 14 10) o 5 (some (sN (t51_5 σ o)))) Q
  rw [oA hN5, hN5]
  have hN6 : sN (t51_6 σ o) = o + 6 := npP
  have hk6 : sK (t51_6 σ o) o = 7 := kpP.trans ((kA (z := 10) (by omega)).trans hk5)
  show WP gT (d + 2) (3, 58) 51 49 [.ref o] [] (t51_6 σ o) Q
  refine WP.run 4 (And.intro ⟨by decide, by decide, by decide, by decide⟩ (And.intro ((nK_o (by rw [hN6]; omega)).trans hk6) ?_))
  show WP gT (d + 2) (2, 48) 51 57 [.ref o] [] (setP (newO (t51_6 σ o) 14 10) o 6 (some (sN (t51_6 σ o)))) Q
  rw [oA hN6, hN6]
  have hN7 : sN (t51_7 σ o) = o + 7 := npP
  have hk7 : sK (t51_7 σ o) o = 7 := kpP.trans ((kA (z := 10) (by omega)).trans hk6)
  show WP gT (d + 2) (2, 48) 51 57 [.ref o] [] (t51_7 σ o) Q
  refine WP.run 3 (And.intro hk7 ?_)
  have hN8 : sN (t51_8 σ o) = o + 7 := npI.trans hN7
  have hk8 : sK (t51_8 σ o) o = 7 := kpI.trans hk7
  show WP gT (d + 2) (2, 48) 51 62 [.ref o] [] (t51_8 σ o) Q
  refine WP.run 4 (And.intro ⟨by decide, by decide, by decide, by decide⟩ (And.intro ((nK_o (by rw [hN8]; omega)).trans hk8) ?_))
  show WP gT (d + 2) (1, 24) 51 70 [.ref o] [] (setP (newO (t51_8 σ o) 14 24) o 8 (some (sN (t51_8 σ o)))) Q
  rw [oA hN8, hN8]
  have hN9 : sN (t51_9 σ o) = o + 8 := npP
  have hk9 : sK (t51_9 σ o) o = 7 := kpP.trans ((kA (z := 24) (by omega)).trans hk8)
  show WP gT (d + 2) (1, 24) 51 70 [.ref o] [] (t51_9 σ o) Q
  refine WP.run 4 (And.intro ⟨by decide, by decide, by decide, by decide⟩ (And.intro ((nK_o (by rw [hN9]; omega)).trans hk9) ?_))
  show WP gT (d + 2) (0, 0) 51 78 [.ref o] [] (setP (newO (t51_9 σ o) 14 24) o 9 (some (sN (t51_9 σ o)))) Q
  rw [oA hN9, hN9]
  have hN10 : sN (t51_10 σ o) = o + 9 := npP
  have hk10 : sK (t51_10 σ o) o = 7 := kpP.trans ((kA (z := 24) (by omega)).trans hk9)
  show WP gT (d + 2) (0, 0) 51 78 [.ref o] [] (t51_10 σ o) Q
  exact WP.run 1 hQ
def t63_1 (σ : Sto) (o : Nat) : Sto := setI (σ) o 0 0
def t63_2 (σ : Sto) (o : Nat) : Sto := setP (newA (t63_1 σ o) (o + 1) 14 12) o 1 (some (o + 1))
def t63_3 (σ : Sto) (o : Nat) : Sto := setP (newA (t63_2 σ o) (o + 2) 14 12) o 2 (some (o + 2))
def t63_4 (σ : Sto) (o : Nat) : Sto := setP (newA (t63_3 σ o) (o + 3) 14 12) o 3 (some (o + 3))
def t63_5 (σ : Sto) (o : Nat) : Sto := setI (t63_4 σ o) o 4 0
def t63_6 (σ : Sto) (o : Nat) : Sto := setP (newA (t63_5 σ o) (o + 4) 14 400) o 5 (some (o + 4))
theorem t63_k (h : p < o) : sK (t63_6 σ o) p = sK σ p := by
  have h0 : sK σ p = sK σ p := rfl
  have h1 : sK (t63_1 σ o) p = sK σ p := kpI.trans h0
  have h2 : sK (t63_2 σ o) p = sK σ p := kpP.trans ((kA (z := 12) (by omega)).trans h1)
  have h3 : sK (t63_3 σ o) p = sK σ p := kpP.trans ((kA (z := 12) (by omega)).trans h2)
  have h4 : sK (t63_4 σ o) p = sK σ p := kpP.trans ((kA (z := 12) (by omega)).trans h3)
  have h5 : sK (t63_5 σ o) p = sK σ p := kpI.trans h4
  have h6 : sK (t63_6 σ o) p = sK σ p := kpP.trans ((kA (z := 400) (by omega)).trans h5)
  exact h6
theorem t63_n (hN : sN σ = o + 1) : sN (t63_6 σ o) = o + 5 := by
  have hN0 := hN
  have hN1 : sN (t63_1 σ o) = o + 1 := npI.trans hN0
  have hN2 : sN (t63_2 σ o) = o + 2 := npP
  have hN3 : sN (t63_3 σ o) = o + 3 := npP
  have hN4 : sN (t63_4 σ o) = o + 4 := npP
  have hN5 : sN (t63_5 σ o) = o + 4 := npI.trans hN4
  have hN6 : sN (t63_6 σ o) = o + 5 := npP
  exact hN6
theorem i_63 (hk : sK σ o = 9) (hN : sN σ = o + 1) (hQ : Q (.inl none) (t63_6 σ o)) : WP gT (d + 2) (4, 436) 63 0 [.ref o] [] σ Q := by
  have hN0 : sN σ = o + 1 := hN
  have hk0 : sK σ o = 9 := hk
  refine WP.run 2 (And.intro ⟨by omega, dl⟩ ?_)
  show WP gT (d + 2) (4, 436) 63 4 [.ref o] [] (σ) Q
  refine WP.run 3 (And.intro hk0 ?_)
  have hN1 : sN (t63_1 σ o) = o + 1 := npI.trans hN0
  have hk1 : sK (t63_1 σ o) o = 9 := kpI.trans hk0
  show WP gT (d + 2) (4, 436) 63 9 [.ref o] [] (t63_1 σ o) Q
  refine WP.run 4 (And.intro ⟨by decide, by decide, by decide, by decide⟩ (And.intro ((nK_o (by rw [hN1]; omega)).trans hk1) ?_))
  show WP gT (d + 2) (3, 424) 63 17 [.ref o] [] (setP (newO (t63_1 σ o) 14 12) o 1 (some (sN (t63_1 σ o)))) Q
  rw [oA hN1, hN1]
  have hN2 : sN (t63_2 σ o) = o + 2 := npP
  have hk2 : sK (t63_2 σ o) o = 9 := kpP.trans ((kA (z := 12) (by omega)).trans hk1)
  show WP gT (d + 2) (3, 424) 63 17 [.ref o] [] (t63_2 σ o) Q
  refine WP.run 4 (And.intro ⟨by decide, by decide, by decide, by decide⟩ (And.intro ((nK_o (by rw [hN2]; omega)).trans hk2) ?_))
  show WP gT (d + 2) (2, 412) 63 25 [.ref o] [] (setP (newO (t63_2 σ o) 14 12) o 2 (some (sN (t63_2 σ o)))) Q
  rw [oA hN2, hN2]
  have hN3 : sN (t63_3 σ o) = o + 3 := npP
  have hk3 : sK (t63_3 σ o) o = 9 := kpP.trans ((kA (z := 12) (by omega)).trans hk2)
  show WP gT (d + 2) (2, 412) 63 25 [.ref o] [] (t63_3 σ o) Q
  refine WP.run 4 (And.intro ⟨by decide, by decide, by decide, by decide⟩ (And.intro ((nK_o (by rw [hN3]; omega)).trans hk3) ?_))
  show WP gT (d + 2) (1, 400) 63 33 [.ref o] [] (setP (newO (t63_3 σ o) 14 12) o 3 (some (sN (t63_3 σ o)))) Q
  rw [oA hN3, hN3]
  have hN4 : sN (t63_4 σ o) = o + 4 := npP
  have hk4 : sK (t63_4 σ o) o = 9 := kpP.trans ((kA (z := 12) (by omega)).trans hk3)
  show WP gT (d + 2) (1, 400) 63 33 [.ref o] [] (t63_4 σ o) Q
  refine WP.run 3 (And.intro hk4 ?_)
  have hN5 : sN (t63_5 σ o) = o + 4 := npI.trans hN4
  have hk5 : sK (t63_5 σ o) o = 9 := kpI.trans hk4
  show WP gT (d + 2) (1, 400) 63 38 [.ref o] [] (t63_5 σ o) Q
  refine WP.run 4 (And.intro ⟨by decide, by decide, by decide, by decide⟩ (And.intro ((nK_o (by rw [hN5]; omega)).trans hk5) ?_))
  show WP gT (d + 2) (0, 0) 63 47 [.ref o] [] (setP (newO (t63_5 σ o) 14 400) o 5 (some (sN (t63_5 σ o)))) Q
  rw [oA hN5, hN5]
  have hN6 : sN (t63_6 σ o) = o + 5 := npP
  have hk6 : sK (t63_6 σ o) o = 9 := kpP.trans ((kA (z := 400) (by omega)).trans hk5)
  show WP gT (d + 2) (0, 0) 63 47 [.ref o] [] (t63_6 σ o) Q
  exact WP.run 1 hQ
def t71_1 (σ : Sto) (o : Nat) : Sto := setP (newA (σ) (o + 1) 14 400) o 0 (some (o + 1))
def t71_2 (σ : Sto) (o : Nat) : Sto := setI (t71_1 σ o) o 1 0
def t71_3 (σ : Sto) (o : Nat) : Sto := setI (t71_2 σ o) o 2 (-1)
def t71_4 (σ : Sto) (o : Nat) : Sto := setI (t71_3 σ o) o 3 0
def t71_5 (σ : Sto) (o : Nat) : Sto := setI (t71_4 σ o) o 4 0
def t71_6 (σ : Sto) (o : Nat) : Sto := setI (t71_5 σ o) o 5 0
def t71_7 (σ : Sto) (o : Nat) : Sto := setI (t71_6 σ o) o 6 0
theorem t71_k (h : p < o) : sK (t71_7 σ o) p = sK σ p := by
  have h0 : sK σ p = sK σ p := rfl
  have h1 : sK (t71_1 σ o) p = sK σ p := kpP.trans ((kA (z := 400) (by omega)).trans h0)
  have h2 : sK (t71_2 σ o) p = sK σ p := kpI.trans h1
  have h3 : sK (t71_3 σ o) p = sK σ p := kpI.trans h2
  have h4 : sK (t71_4 σ o) p = sK σ p := kpI.trans h3
  have h5 : sK (t71_5 σ o) p = sK σ p := kpI.trans h4
  have h6 : sK (t71_6 σ o) p = sK σ p := kpI.trans h5
  have h7 : sK (t71_7 σ o) p = sK σ p := kpI.trans h6
  exact h7
theorem t71_n (hN : sN σ = o + 1) : sN (t71_7 σ o) = o + 2 := by
  have hN0 := hN
  have hN1 : sN (t71_1 σ o) = o + 2 := npP
  have hN2 : sN (t71_2 σ o) = o + 2 := npI.trans hN1
  have hN3 : sN (t71_3 σ o) = o + 2 := npI.trans hN2
  have hN4 : sN (t71_4 σ o) = o + 2 := npI.trans hN3
  have hN5 : sN (t71_5 σ o) = o + 2 := npI.trans hN4
  have hN6 : sN (t71_6 σ o) = o + 2 := npI.trans hN5
  have hN7 : sN (t71_7 σ o) = o + 2 := npI.trans hN6
  exact hN7
theorem i_71 (hk : sK σ o = 10) (hN : sN σ = o + 1) (hQ : Q (.inl none) (t71_7 σ o)) : WP gT (d + 2) (1, 400) 71 0 [.ref o] [] σ Q := by
  have hN0 : sN σ = o + 1 := hN
  have hk0 : sK σ o = 10 := hk
  refine WP.run 2 (And.intro ⟨by omega, dl⟩ ?_)
  show WP gT (d + 2) (1, 400) 71 4 [.ref o] [] (σ) Q
  refine WP.run 4 (And.intro ⟨by decide, by decide, by decide, by decide⟩ (And.intro ((nK_o (by rw [hN0]; omega)).trans hk0) ?_))
  show WP gT (d + 2) (0, 0) 71 13 [.ref o] [] (setP (newO (σ) 14 400) o 0 (some (sN (σ)))) Q
  rw [oA hN0, hN0]
  have hN1 : sN (t71_1 σ o) = o + 2 := npP
  have hk1 : sK (t71_1 σ o) o = 10 := kpP.trans ((kA (z := 400) (by omega)).trans hk0)
  show WP gT (d + 2) (0, 0) 71 13 [.ref o] [] (t71_1 σ o) Q
  refine WP.run 3 (And.intro hk1 ?_)
  have hN2 : sN (t71_2 σ o) = o + 2 := npI.trans hN1
  have hk2 : sK (t71_2 σ o) o = 10 := kpI.trans hk1
  show WP gT (d + 2) (0, 0) 71 18 [.ref o] [] (t71_2 σ o) Q
  refine WP.run 3 (And.intro hk2 ?_)
  have hN3 : sN (t71_3 σ o) = o + 2 := npI.trans hN2
  have hk3 : sK (t71_3 σ o) o = 10 := kpI.trans hk2
  show WP gT (d + 2) (0, 0) 71 23 [.ref o] [] (t71_3 σ o) Q
  refine WP.run 3 (And.intro hk3 ?_)
  have hN4 : sN (t71_4 σ o) = o + 2 := npI.trans hN3
  have hk4 : sK (t71_4 σ o) o = 10 := kpI.trans hk3
  show WP gT (d + 2) (0, 0) 71 28 [.ref o] [] (t71_4 σ o) Q
  refine WP.run 3 (And.intro hk4 ?_)
  have hN5 : sN (t71_5 σ o) = o + 2 := npI.trans hN4
  have hk5 : sK (t71_5 σ o) o = 10 := kpI.trans hk4
  show WP gT (d + 2) (0, 0) 71 33 [.ref o] [] (t71_5 σ o) Q
  refine WP.run 3 (And.intro hk5 ?_)
  have hN6 : sN (t71_6 σ o) = o + 2 := npI.trans hN5
  have hk6 : sK (t71_6 σ o) o = 10 := kpI.trans hk5
  show WP gT (d + 2) (0, 0) 71 38 [.ref o] [] (t71_6 σ o) Q
  refine WP.run 3 (And.intro hk6 ?_)
  have hN7 : sN (t71_7 σ o) = o + 2 := npI.trans hN6
  have hk7 : sK (t71_7 σ o) o = 10 := kpI.trans hk6
  show WP gT (d + 2) (0, 0) 71 43 [.ref o] [] (t71_7 σ o) Q
  exact WP.run 1 hQ
def t19_1 (σ : Sto) (o : Nat) : Sto := setI (σ) o 0 0
def t19_2 (σ : Sto) (o : Nat) : Sto := setP (t35_19 (newA (t19_1 σ o) (o + 1) 5 0) (o + 1)) o 1 (some (o + 1))
def t19_3 (σ : Sto) (o : Nat) : Sto := setI (t19_2 σ o) o 2 0
def t19_4 (σ : Sto) (o : Nat) : Sto := setP (newH (t19_3 σ o) (o + 17) 6 384) o 3 (some (o + 17))
def t19_5 (σ : Sto) (o : Nat) : Sto := setP (t51_10 (newA (t19_4 σ o) (o + 24) 7 0) (o + 24)) o 4 (some (o + 24))
def t19_6 (σ : Sto) (o : Nat) : Sto := setI (t19_5 σ o) o 5 0
def t19_7 (σ : Sto) (o : Nat) : Sto := setI (t19_6 σ o) o 6 999
def t19_8 (σ : Sto) (o : Nat) : Sto := setI (t19_7 σ o) o 7 99999
def t19_9 (σ : Sto) (o : Nat) : Sto := setI (t19_8 σ o) o 8 0
def t19_10 (σ : Sto) (o : Nat) : Sto := setI (t19_9 σ o) o 9 0
def t19_11 (σ : Sto) (o : Nat) : Sto := setP (newA (t19_10 σ o) (o + 33) 17 4) o 10 (some (o + 33))
def t19_12 (σ : Sto) (o : Nat) : Sto := setI (t19_11 σ o) o 11 0
def t19_13 (σ : Sto) (o : Nat) : Sto := setP (newA (t19_12 σ o) (o + 34) 14 16) o 12 (some (o + 34))
def t19_14 (σ : Sto) (o : Nat) : Sto := setP (newA (t19_13 σ o) (o + 35) 14 16) o 13 (some (o + 35))
def t19_15 (σ : Sto) (o : Nat) : Sto := setP (newA (t19_14 σ o) (o + 36) 16 16) o 14 (some (o + 36))
theorem t19_k (h : p < o) : sK (t19_15 σ o) p = sK σ p := by
  have h0 : sK σ p = sK σ p := rfl
  have h1 : sK (t19_1 σ o) p = sK σ p := kpI.trans h0
  have h2 : sK (t19_2 σ o) p = sK σ p := kpP.trans ((t35_k (by omega)).trans ((kA (z := 0) (by omega)).trans h1))
  have h3 : sK (t19_3 σ o) p = sK σ p := kpI.trans h2
  have h4 : sK (t19_4 σ o) p = sK σ p := kpP.trans ((kH (m := 384) (by omega)).trans h3)
  have h5 : sK (t19_5 σ o) p = sK σ p := kpP.trans ((t51_k (by omega)).trans ((kA (z := 0) (by omega)).trans h4))
  have h6 : sK (t19_6 σ o) p = sK σ p := kpI.trans h5
  have h7 : sK (t19_7 σ o) p = sK σ p := kpI.trans h6
  have h8 : sK (t19_8 σ o) p = sK σ p := kpI.trans h7
  have h9 : sK (t19_9 σ o) p = sK σ p := kpI.trans h8
  have h10 : sK (t19_10 σ o) p = sK σ p := kpI.trans h9
  have h11 : sK (t19_11 σ o) p = sK σ p := kpP.trans ((kA (z := 4) (by omega)).trans h10)
  have h12 : sK (t19_12 σ o) p = sK σ p := kpI.trans h11
  have h13 : sK (t19_13 σ o) p = sK σ p := kpP.trans ((kA (z := 16) (by omega)).trans h12)
  have h14 : sK (t19_14 σ o) p = sK σ p := kpP.trans ((kA (z := 16) (by omega)).trans h13)
  have h15 : sK (t19_15 σ o) p = sK σ p := kpP.trans ((kA (z := 16) (by omega)).trans h14)
  exact h15
theorem t19_n (hN : sN σ = o + 1) : sN (t19_15 σ o) = o + 37 := by
  have hN0 := hN
  have hN1 : sN (t19_1 σ o) = o + 1 := npI.trans hN0
  have hN2 : sN (t19_2 σ o) = o + 17 := npP.trans (t35_n (σ := newA (t19_1 σ o) (o + 1) 5 0) (o := o + 1) rfl)
  have hN3 : sN (t19_3 σ o) = o + 17 := npI.trans hN2
  have hN4 : sN (t19_4 σ o) = o + 24 := npP
  have hN5 : sN (t19_5 σ o) = o + 33 := npP.trans (t51_n (σ := newA (t19_4 σ o) (o + 24) 7 0) (o := o + 24) rfl)
  have hN6 : sN (t19_6 σ o) = o + 33 := npI.trans hN5
  have hN7 : sN (t19_7 σ o) = o + 33 := npI.trans hN6
  have hN8 : sN (t19_8 σ o) = o + 33 := npI.trans hN7
  have hN9 : sN (t19_9 σ o) = o + 33 := npI.trans hN8
  have hN10 : sN (t19_10 σ o) = o + 33 := npI.trans hN9
  have hN11 : sN (t19_11 σ o) = o + 34 := npP
  have hN12 : sN (t19_12 σ o) = o + 34 := npI.trans hN11
  have hN13 : sN (t19_13 σ o) = o + 35 := npP
  have hN14 : sN (t19_14 σ o) = o + 36 := npP
  have hN15 : sN (t19_15 σ o) = o + 37 := npP
  exact hN15
theorem i_19 (hk : sK σ o = 3) (hN : sN σ = o + 1) (hQ : Q (.inl none) (t19_15 σ o)) : WP gT (d + 3) (36, 2945) 19 0 [.ref o] [] σ Q := by
  have hN0 : sN σ = o + 1 := hN
  have hk0 : sK σ o = 3 := hk
  refine WP.run 2 (And.intro ⟨by omega, dl⟩ ?_)
  show WP gT (d + 3) (36, 2945) 19 4 [.ref o] [] (σ) Q
  refine WP.run 3 (And.intro hk0 ?_)
  have hN1 : sN (t19_1 σ o) = o + 1 := npI.trans hN0
  have hk1 : sK (t19_1 σ o) o = 3 := kpI.trans hk0
  show WP gT (d + 3) (36, 2945) 19 9 [.ref o] [] (t19_1 σ o) Q
  refine WP.run 3 (And.intro ⟨by decide, by decide⟩ ?_)
  show WP gT (d + 3) (35, 2913) 19 14 [.ref o] [.ref (sN (t19_1 σ o)), .ref (sN (t19_1 σ o)), .ref o] (newO (t19_1 σ o) 5 0) Q
  rw [oA hN1, hN1]
  have ha1 : sK (newA (t19_1 σ o) (o + 1) 5 0) (o + 1) = 5 := kS
  refine WP.run 1 (And.intro (by decide) (And.intro ⟨dl, dl, dl, ha1⟩ ⟨15, 411, dl, dl, i_35 (d := d + 0) (o := o + 1) ha1 rfl ?_⟩))
  show WP gT (d + 3) (20, 2502) 19 17 [.ref o] [.ref (o + 1), .ref o] (t35_19 (newA (t19_1 σ o) (o + 1) 5 0) (o + 1)) Q
  refine WP.run 1 (And.intro ((t35_k (o := o + 1) (p := o) (by omega)).trans ((kA (z := 0) (by omega)).trans hk1)) ?_)
  have hN2 : sN (t19_2 σ o) = o + 17 := npP.trans (t35_n (σ := newA (t19_1 σ o) (o + 1) 5 0) (o := o + 1) rfl)
  have hk2 : sK (t19_2 σ o) o = 3 := kpP.trans ((t35_k (o := o + 1) (p := o) (by omega)).trans ((kA (z := 0) (by omega)).trans hk1))
  show WP gT (d + 3) (20, 2502) 19 20 [.ref o] [] (t19_2 σ o) Q
  refine WP.run 3 (And.intro hk2 ?_)
  have hN3 : sN (t19_3 σ o) = o + 17 := npI.trans hN2
  have hk3 : sK (t19_3 σ o) o = 3 := kpI.trans hk2
  show WP gT (d + 3) (20, 2502) 19 25 [.ref o] [] (t19_3 σ o) Q
  refine WP.run 5 (And.intro ⟨by decide, by decide, by decide, by decide, by decide, by decide⟩ (And.intro ((nGK (by rw [hN3]; omega)).trans hk3) ?_))
  show WP gT (d + 3) (13, 192) 19 38 [.ref o] [] (setP (newG (t19_3 σ o) 6 384) o 3 (some (sN (t19_3 σ o)))) Q
  rw [oG hN3, hN3]
  have hN4 : sN (t19_4 σ o) = o + 24 := npP
  have hk4 : sK (t19_4 σ o) o = 3 := kpP.trans ((kH (m := 384) (by omega)).trans hk3)
  show WP gT (d + 3) (13, 192) 19 38 [.ref o] [] (t19_4 σ o) Q
  refine WP.run 3 (And.intro ⟨by decide, by decide⟩ ?_)
  show WP gT (d + 3) (12, 160) 19 43 [.ref o] [.ref (sN (t19_4 σ o)), .ref (sN (t19_4 σ o)), .ref o] (newO (t19_4 σ o) 7 0) Q
  rw [oA hN4, hN4]
  have ha4 : sK (newA (t19_4 σ o) (o + 24) 7 0) (o + 24) = 7 := kS
  refine WP.run 1 (And.intro (by decide) (And.intro ⟨dl, dl, dl, ha4⟩ ⟨8, 108, dl, dl, i_51 (d := d + 0) (o := o + 24) ha4 rfl ?_⟩))
  show WP gT (d + 3) (4, 52) 19 46 [.ref o] [.ref (o + 24), .ref o] (t51_10 (newA (t19_4 σ o) (o + 24) 7 0) (o + 24)) Q
  refine WP.run 1 (And.intro ((t51_k (o := o + 24) (p := o) (by omega)).trans ((kA (z := 0) (by omega)).trans hk4)) ?_)
  have hN5 : sN (t19_5 σ o) = o + 33 := npP.trans (t51_n (σ := newA (t19_4 σ o) (o + 24) 7 0) (o := o + 24) rfl)
  have hk5 : sK (t19_5 σ o) o = 3 := kpP.trans ((t51_k (o := o + 24) (p := o) (by omega)).trans ((kA (z := 0) (by omega)).trans hk4))
  show WP gT (d + 3) (4, 52) 19 49 [.ref o] [] (t19_5 σ o) Q
  refine WP.run 3 (And.intro hk5 ?_)
  have hN6 : sN (t19_6 σ o) = o + 33 := npI.trans hN5
  have hk6 : sK (t19_6 σ o) o = 3 := kpI.trans hk5
  show WP gT (d + 3) (4, 52) 19 54 [.ref o] [] (t19_6 σ o) Q
  refine WP.run 3 (And.intro hk6 ?_)
  have hN7 : sN (t19_7 σ o) = o + 33 := npI.trans hN6
  have hk7 : sK (t19_7 σ o) o = 3 := kpI.trans hk6
  show WP gT (d + 3) (4, 52) 19 61 [.ref o] [] (t19_7 σ o) Q
  refine WP.run 3 (And.intro hk7 ?_)
  have hN8 : sN (t19_8 σ o) = o + 33 := npI.trans hN7
  have hk8 : sK (t19_8 σ o) o = 3 := kpI.trans hk7
  show WP gT (d + 3) (4, 52) 19 67 [.ref o] [] (t19_8 σ o) Q
  refine WP.run 3 (And.intro hk8 ?_)
  have hN9 : sN (t19_9 σ o) = o + 33 := npI.trans hN8
  have hk9 : sK (t19_9 σ o) o = 3 := kpI.trans hk8
  show WP gT (d + 3) (4, 52) 19 72 [.ref o] [] (t19_9 σ o) Q
  refine WP.run 3 (And.intro hk9 ?_)
  have hN10 : sN (t19_10 σ o) = o + 33 := npI.trans hN9
  have hk10 : sK (t19_10 σ o) o = 3 := kpI.trans hk9
  show WP gT (d + 3) (4, 52) 19 77 [.ref o] [] (t19_10 σ o) Q
  refine WP.run 4 (And.intro ⟨by decide, by decide, by decide, by decide⟩ (And.intro ((nK_o (by rw [hN10]; omega)).trans hk10) ?_))
  show WP gT (d + 3) (3, 48) 19 85 [.ref o] [] (setP (newO (t19_10 σ o) 17 4) o 10 (some (sN (t19_10 σ o)))) Q
  rw [oA hN10, hN10]
  have hN11 : sN (t19_11 σ o) = o + 34 := npP
  have hk11 : sK (t19_11 σ o) o = 3 := kpP.trans ((kA (z := 4) (by omega)).trans hk10)
  show WP gT (d + 3) (3, 48) 19 85 [.ref o] [] (t19_11 σ o) Q
  refine WP.run 3 (And.intro hk11 ?_)
  have hN12 : sN (t19_12 σ o) = o + 34 := npI.trans hN11
  have hk12 : sK (t19_12 σ o) o = 3 := kpI.trans hk11
  show WP gT (d + 3) (3, 48) 19 90 [.ref o] [] (t19_12 σ o) Q
  refine WP.run 4 (And.intro ⟨by decide, by decide, by decide, by decide⟩ (And.intro ((nK_o (by rw [hN12]; omega)).trans hk12) ?_))
  show WP gT (d + 3) (2, 32) 19 98 [.ref o] [] (setP (newO (t19_12 σ o) 14 16) o 12 (some (sN (t19_12 σ o)))) Q
  rw [oA hN12, hN12]
  have hN13 : sN (t19_13 σ o) = o + 35 := npP
  have hk13 : sK (t19_13 σ o) o = 3 := kpP.trans ((kA (z := 16) (by omega)).trans hk12)
  show WP gT (d + 3) (2, 32) 19 98 [.ref o] [] (t19_13 σ o) Q
  refine WP.run 4 (And.intro ⟨by decide, by decide, by decide, by decide⟩ (And.intro ((nK_o (by rw [hN13]; omega)).trans hk13) ?_))
  show WP gT (d + 3) (1, 16) 19 106 [.ref o] [] (setP (newO (t19_13 σ o) 14 16) o 13 (some (sN (t19_13 σ o)))) Q
  rw [oA hN13, hN13]
  have hN14 : sN (t19_14 σ o) = o + 36 := npP
  have hk14 : sK (t19_14 σ o) o = 3 := kpP.trans ((kA (z := 16) (by omega)).trans hk13)
  show WP gT (d + 3) (1, 16) 19 106 [.ref o] [] (t19_14 σ o) Q
  refine WP.run 4 (And.intro ⟨by decide, by decide, by decide, by decide⟩ (And.intro ((nK_o (by rw [hN14]; omega)).trans hk14) ?_))
  show WP gT (d + 3) (0, 0) 19 114 [.ref o] [] (setP (newO (t19_14 σ o) 16 16) o 14 (some (sN (t19_14 σ o)))) Q
  rw [oA hN14, hN14]
  have hN15 : sN (t19_15 σ o) = o + 37 := npP
  have hk15 : sK (t19_15 σ o) o = 3 := kpP.trans ((kA (z := 16) (by omega)).trans hk14)
  show WP gT (d + 3) (0, 0) 19 114 [.ref o] [] (t19_15 σ o) Q
  exact WP.run 1 hQ
def t84_1 (σ : Sto) (o : Nat) : Sto := setP (t24_5 (newA (σ) (o + 1) 4 0) (o + 1)) o 0 (some (o + 1))
def t84_2 (σ : Sto) (o : Nat) : Sto := setP (t9_5 (newA (t84_1 σ o) (o + 23) 2 0) (o + 23)) o 1 (some (o + 23))
def t84_3 (σ : Sto) (o : Nat) : Sto := setP (newA (t84_2 σ o) (o + 29) 14 384) o 2 (some (o + 29))
def t84_4 (σ : Sto) (o : Nat) : Sto := setI (t84_3 σ o) o 3 (-1)
def t84_5 (σ : Sto) (o : Nat) : Sto := setP (newA (t84_4 σ o) (o + 30) 14 5) o 4 (some (o + 30))
theorem t84_k (h : p < o) : sK (t84_5 σ o) p = sK σ p := by
  have h0 : sK σ p = sK σ p := rfl
  have h1 : sK (t84_1 σ o) p = sK σ p := kpP.trans ((t24_k (by omega)).trans ((kA (z := 0) (by omega)).trans h0))
  have h2 : sK (t84_2 σ o) p = sK σ p := kpP.trans ((t9_k (by omega)).trans ((kA (z := 0) (by omega)).trans h1))
  have h3 : sK (t84_3 σ o) p = sK σ p := kpP.trans ((kA (z := 384) (by omega)).trans h2)
  have h4 : sK (t84_4 σ o) p = sK σ p := kpI.trans h3
  have h5 : sK (t84_5 σ o) p = sK σ p := kpP.trans ((kA (z := 5) (by omega)).trans h4)
  exact h5
theorem t84_n (hN : sN σ = o + 1) : sN (t84_5 σ o) = o + 31 := by
  have hN0 := hN
  have hN1 : sN (t84_1 σ o) = o + 23 := npP.trans (t24_n (σ := newA (σ) (o + 1) 4 0) (o := o + 1) rfl)
  have hN2 : sN (t84_2 σ o) = o + 29 := npP.trans (t9_n (σ := newA (t84_1 σ o) (o + 23) 2 0) (o := o + 23) rfl)
  have hN3 : sN (t84_3 σ o) = o + 30 := npP
  have hN4 : sN (t84_4 σ o) = o + 30 := npI.trans hN3
  have hN5 : sN (t84_5 σ o) = o + 31 := npP
  exact hN5
theorem i_84 (hk : sK σ o = 11) (hN : sN σ = o + 1) (hQ : Q (.inl none) (t84_5 σ o)) : WP gT (d + 3) (30, 2343) 84 0 [.ref o] [] σ Q := by
  have hN0 : sN σ = o + 1 := hN
  have hk0 : sK σ o = 11 := hk
  refine WP.run 2 (And.intro ⟨by omega, dl⟩ ?_)
  show WP gT (d + 3) (30, 2343) 84 4 [.ref o] [] (σ) Q
  refine WP.run 3 (And.intro ⟨by decide, by decide⟩ ?_)
  show WP gT (d + 3) (29, 2311) 84 9 [.ref o] [.ref (sN (σ)), .ref (sN (σ)), .ref o] (newO (σ) 4 0) Q
  rw [oA hN0, hN0]
  have ha0 : sK (newA (σ) (o + 1) 4 0) (o + 1) = 4 := kS
  refine WP.run 1 (And.intro (by decide) (And.intro ⟨dl, dl, dl, ha0⟩ ⟨21, 1840, dl, dl, i_24 (d := d + 0) (o := o + 1) ha0 rfl ?_⟩))
  show WP gT (d + 3) (8, 471) 84 12 [.ref o] [.ref (o + 1), .ref o] (t24_5 (newA (σ) (o + 1) 4 0) (o + 1)) Q
  refine WP.run 1 (And.intro ((t24_k (o := o + 1) (p := o) (by omega)).trans ((kA (z := 0) (by omega)).trans hk0)) ?_)
  have hN1 : sN (t84_1 σ o) = o + 23 := npP.trans (t24_n (σ := newA (σ) (o + 1) 4 0) (o := o + 1) rfl)
  have hk1 : sK (t84_1 σ o) o = 11 := kpP.trans ((t24_k (o := o + 1) (p := o) (by omega)).trans ((kA (z := 0) (by omega)).trans hk0))
  show WP gT (d + 3) (8, 471) 84 15 [.ref o] [] (t84_1 σ o) Q
  refine WP.run 3 (And.intro ⟨by decide, by decide⟩ ?_)
  show WP gT (d + 3) (7, 439) 84 20 [.ref o] [.ref (sN (t84_1 σ o)), .ref (sN (t84_1 σ o)), .ref o] (newO (t84_1 σ o) 2 0) Q
  rw [oA hN1, hN1]
  have ha1 : sK (newA (t84_1 σ o) (o + 23) 2 0) (o + 23) = 2 := kS
  refine WP.run 1 (And.intro (by decide) (And.intro ⟨dl, dl, dl, ha1⟩ ⟨5, 50, dl, dl, i_9 (d := d + 0) (o := o + 23) ha1 rfl ?_⟩))
  show WP gT (d + 3) (2, 389) 84 23 [.ref o] [.ref (o + 23), .ref o] (t9_5 (newA (t84_1 σ o) (o + 23) 2 0) (o + 23)) Q
  refine WP.run 1 (And.intro ((t9_k (o := o + 23) (p := o) (by omega)).trans ((kA (z := 0) (by omega)).trans hk1)) ?_)
  have hN2 : sN (t84_2 σ o) = o + 29 := npP.trans (t9_n (σ := newA (t84_1 σ o) (o + 23) 2 0) (o := o + 23) rfl)
  have hk2 : sK (t84_2 σ o) o = 11 := kpP.trans ((t9_k (o := o + 23) (p := o) (by omega)).trans ((kA (z := 0) (by omega)).trans hk1))
  show WP gT (d + 3) (2, 389) 84 26 [.ref o] [] (t84_2 σ o) Q
  refine WP.run 4 (And.intro ⟨by decide, by decide, by decide, by decide⟩ (And.intro ((nK_o (by rw [hN2]; omega)).trans hk2) ?_))
  show WP gT (d + 3) (1, 5) 84 35 [.ref o] [] (setP (newO (t84_2 σ o) 14 384) o 2 (some (sN (t84_2 σ o)))) Q
  rw [oA hN2, hN2]
  have hN3 : sN (t84_3 σ o) = o + 30 := npP
  have hk3 : sK (t84_3 σ o) o = 11 := kpP.trans ((kA (z := 384) (by omega)).trans hk2)
  show WP gT (d + 3) (1, 5) 84 35 [.ref o] [] (t84_3 σ o) Q
  refine WP.run 3 (And.intro hk3 ?_)
  have hN4 : sN (t84_4 σ o) = o + 30 := npI.trans hN3
  have hk4 : sK (t84_4 σ o) o = 11 := kpI.trans hk3
  show WP gT (d + 3) (1, 5) 84 40 [.ref o] [] (t84_4 σ o) Q
  refine WP.run 4 (And.intro ⟨by decide, by decide, by decide, by decide⟩ (And.intro ((nK_o (by rw [hN4]; omega)).trans hk4) ?_))
  show WP gT (d + 3) (0, 0) 84 47 [.ref o] [] (setP (newO (t84_4 σ o) 14 5) o 4 (some (sN (t84_4 σ o)))) Q
  rw [oA hN4, hN4]
  have hN5 : sN (t84_5 σ o) = o + 31 := npP
  have hk5 : sK (t84_5 σ o) o = 11 := kpP.trans ((kA (z := 5) (by omega)).trans hk4)
  show WP gT (d + 3) (0, 0) 84 47 [.ref o] [] (t84_5 σ o) Q
  exact WP.run 1 hQ
def t93_1 (σ : Sto) (o : Nat) : Sto := setP (t71_7 (newA (σ) (o + 1) 10 0) (o + 1)) o 0 (some (o + 1))
def t93_2 (σ : Sto) (o : Nat) : Sto := setP (t35_19 (newA (t93_1 σ o) (o + 3) 5 0) (o + 3)) o 1 (some (o + 3))
def t93_3 (σ : Sto) (o : Nat) : Sto := setP (t63_6 (newA (t93_2 σ o) (o + 19) 9 0) (o + 19)) o 2 (some (o + 19))
def t93_4 (σ : Sto) (o : Nat) : Sto := setP (t19_15 (newA (t93_3 σ o) (o + 24) 3 0) (o + 24)) o 3 (some (o + 24))
def t93_5 (σ : Sto) (o : Nat) : Sto := setP (t19_15 (newA (t93_4 σ o) (o + 61) 3 0) (o + 61)) o 4 (some (o + 61))
def t93_6 (σ : Sto) (o : Nat) : Sto := setP (t24_5 (newA (t93_5 σ o) (o + 98) 4 0) (o + 98)) o 5 (some (o + 98))
def t93_7 (σ : Sto) (o : Nat) : Sto := setP (t9_5 (newA (t93_6 σ o) (o + 120) 2 0) (o + 120)) o 6 (some (o + 120))
def t93_8 (σ : Sto) (o : Nat) : Sto := setP (t0_8 (newA (t93_7 σ o) (o + 126) 1 0) (o + 126)) o 7 (some (o + 126))
def t93_9 (σ : Sto) (o : Nat) : Sto := setP (t84_5 (newA (t93_8 σ o) (o + 130) 11 0) (o + 130)) o 8 (some (o + 130))
def t93_10 (σ : Sto) (o : Nat) : Sto := setP (t47_4 (newA (t93_9 σ o) (o + 161) 6 0) (o + 161)) o 9 (some (o + 161))
def t93_11 (σ : Sto) (o : Nat) : Sto := setI (t93_10 σ o) o 10 (-1)
def t93_12 (σ : Sto) (o : Nat) : Sto := setI (t93_11 σ o) o 11 0
def t93_13 (σ : Sto) (o : Nat) : Sto := setI (t93_12 σ o) o 12 (-1)
theorem t93_k (h : p < o) : sK (t93_13 σ o) p = sK σ p := by
  have h0 : sK σ p = sK σ p := rfl
  have h1 : sK (t93_1 σ o) p = sK σ p := kpP.trans ((t71_k (by omega)).trans ((kA (z := 0) (by omega)).trans h0))
  have h2 : sK (t93_2 σ o) p = sK σ p := kpP.trans ((t35_k (by omega)).trans ((kA (z := 0) (by omega)).trans h1))
  have h3 : sK (t93_3 σ o) p = sK σ p := kpP.trans ((t63_k (by omega)).trans ((kA (z := 0) (by omega)).trans h2))
  have h4 : sK (t93_4 σ o) p = sK σ p := kpP.trans ((t19_k (by omega)).trans ((kA (z := 0) (by omega)).trans h3))
  have h5 : sK (t93_5 σ o) p = sK σ p := kpP.trans ((t19_k (by omega)).trans ((kA (z := 0) (by omega)).trans h4))
  have h6 : sK (t93_6 σ o) p = sK σ p := kpP.trans ((t24_k (by omega)).trans ((kA (z := 0) (by omega)).trans h5))
  have h7 : sK (t93_7 σ o) p = sK σ p := kpP.trans ((t9_k (by omega)).trans ((kA (z := 0) (by omega)).trans h6))
  have h8 : sK (t93_8 σ o) p = sK σ p := kpP.trans ((t0_k (by omega)).trans ((kA (z := 0) (by omega)).trans h7))
  have h9 : sK (t93_9 σ o) p = sK σ p := kpP.trans ((t84_k (by omega)).trans ((kA (z := 0) (by omega)).trans h8))
  have h10 : sK (t93_10 σ o) p = sK σ p := kpP.trans ((t47_k (by omega)).trans ((kA (z := 0) (by omega)).trans h9))
  have h11 : sK (t93_11 σ o) p = sK σ p := kpI.trans h10
  have h12 : sK (t93_12 σ o) p = sK σ p := kpI.trans h11
  have h13 : sK (t93_13 σ o) p = sK σ p := kpI.trans h12
  exact h13
theorem t93_n (hN : sN σ = o + 1) : sN (t93_13 σ o) = o + 164 := by
  have hN0 := hN
  have hN1 : sN (t93_1 σ o) = o + 3 := npP.trans (t71_n (σ := newA (σ) (o + 1) 10 0) (o := o + 1) rfl)
  have hN2 : sN (t93_2 σ o) = o + 19 := npP.trans (t35_n (σ := newA (t93_1 σ o) (o + 3) 5 0) (o := o + 3) rfl)
  have hN3 : sN (t93_3 σ o) = o + 24 := npP.trans (t63_n (σ := newA (t93_2 σ o) (o + 19) 9 0) (o := o + 19) rfl)
  have hN4 : sN (t93_4 σ o) = o + 61 := npP.trans (t19_n (σ := newA (t93_3 σ o) (o + 24) 3 0) (o := o + 24) rfl)
  have hN5 : sN (t93_5 σ o) = o + 98 := npP.trans (t19_n (σ := newA (t93_4 σ o) (o + 61) 3 0) (o := o + 61) rfl)
  have hN6 : sN (t93_6 σ o) = o + 120 := npP.trans (t24_n (σ := newA (t93_5 σ o) (o + 98) 4 0) (o := o + 98) rfl)
  have hN7 : sN (t93_7 σ o) = o + 126 := npP.trans (t9_n (σ := newA (t93_6 σ o) (o + 120) 2 0) (o := o + 120) rfl)
  have hN8 : sN (t93_8 σ o) = o + 130 := npP.trans (t0_n (σ := newA (t93_7 σ o) (o + 126) 1 0) (o := o + 126) rfl)
  have hN9 : sN (t93_9 σ o) = o + 161 := npP.trans (t84_n (σ := newA (t93_8 σ o) (o + 130) 11 0) (o := o + 130) rfl)
  have hN10 : sN (t93_10 σ o) = o + 164 := npP.trans (t47_n (σ := newA (t93_9 σ o) (o + 161) 6 0) (o := o + 161) rfl)
  have hN11 : sN (t93_11 σ o) = o + 164 := npI.trans hN10
  have hN12 : sN (t93_12 σ o) = o + 164 := npI.trans hN11
  have hN13 : sN (t93_13 σ o) = o + 164 := npI.trans hN12
  exact hN13
theorem i_93 (hk : sK σ o = 12) (hN : sN σ = o + 1) (hQ : Q (.inl none) (t93_13 σ o)) : WP gT (d + 4) (163, 21220) 93 0 [.ref o] [] σ Q := by
  have hN0 : sN σ = o + 1 := hN
  have hk0 : sK σ o = 12 := hk
  refine WP.run 2 (And.intro ⟨by omega, dl⟩ ?_)
  show WP gT (d + 4) (163, 21220) 93 4 [.ref o] [] (σ) Q
  refine WP.run 3 (And.intro ⟨by decide, by decide⟩ ?_)
  show WP gT (d + 4) (162, 21188) 93 9 [.ref o] [.ref (sN (σ)), .ref (sN (σ)), .ref o] (newO (σ) 10 0) Q
  rw [oA hN0, hN0]
  have ha0 : sK (newA (σ) (o + 1) 10 0) (o + 1) = 10 := kS
  refine WP.run 1 (And.intro (by decide) (And.intro ⟨dl, dl, dl, ha0⟩ ⟨1, 400, dl, dl, i_71 (d := d + 1) (o := o + 1) ha0 rfl ?_⟩))
  show WP gT (d + 4) (161, 20788) 93 12 [.ref o] [.ref (o + 1), .ref o] (t71_7 (newA (σ) (o + 1) 10 0) (o + 1)) Q
  refine WP.run 1 (And.intro ((t71_k (o := o + 1) (p := o) (by omega)).trans ((kA (z := 0) (by omega)).trans hk0)) ?_)
  have hN1 : sN (t93_1 σ o) = o + 3 := npP.trans (t71_n (σ := newA (σ) (o + 1) 10 0) (o := o + 1) rfl)
  have hk1 : sK (t93_1 σ o) o = 12 := kpP.trans ((t71_k (o := o + 1) (p := o) (by omega)).trans ((kA (z := 0) (by omega)).trans hk0))
  show WP gT (d + 4) (161, 20788) 93 15 [.ref o] [] (t93_1 σ o) Q
  refine WP.run 3 (And.intro ⟨by decide, by decide⟩ ?_)
  show WP gT (d + 4) (160, 20756) 93 20 [.ref o] [.ref (sN (t93_1 σ o)), .ref (sN (t93_1 σ o)), .ref o] (newO (t93_1 σ o) 5 0) Q
  rw [oA hN1, hN1]
  have ha1 : sK (newA (t93_1 σ o) (o + 3) 5 0) (o + 3) = 5 := kS
  refine WP.run 1 (And.intro (by decide) (And.intro ⟨dl, dl, dl, ha1⟩ ⟨15, 411, dl, dl, i_35 (d := d + 1) (o := o + 3) ha1 rfl ?_⟩))
  show WP gT (d + 4) (145, 20345) 93 23 [.ref o] [.ref (o + 3), .ref o] (t35_19 (newA (t93_1 σ o) (o + 3) 5 0) (o + 3)) Q
  refine WP.run 1 (And.intro ((t35_k (o := o + 3) (p := o) (by omega)).trans ((kA (z := 0) (by omega)).trans hk1)) ?_)
  have hN2 : sN (t93_2 σ o) = o + 19 := npP.trans (t35_n (σ := newA (t93_1 σ o) (o + 3) 5 0) (o := o + 3) rfl)
  have hk2 : sK (t93_2 σ o) o = 12 := kpP.trans ((t35_k (o := o + 3) (p := o) (by omega)).trans ((kA (z := 0) (by omega)).trans hk1))
  show WP gT (d + 4) (145, 20345) 93 26 [.ref o] [] (t93_2 σ o) Q
  refine WP.run 3 (And.intro ⟨by decide, by decide⟩ ?_)
  show WP gT (d + 4) (144, 20313) 93 31 [.ref o] [.ref (sN (t93_2 σ o)), .ref (sN (t93_2 σ o)), .ref o] (newO (t93_2 σ o) 9 0) Q
  rw [oA hN2, hN2]
  have ha2 : sK (newA (t93_2 σ o) (o + 19) 9 0) (o + 19) = 9 := kS
  refine WP.run 1 (And.intro (by decide) (And.intro ⟨dl, dl, dl, ha2⟩ ⟨4, 436, dl, dl, i_63 (d := d + 1) (o := o + 19) ha2 rfl ?_⟩))
  show WP gT (d + 4) (140, 19877) 93 34 [.ref o] [.ref (o + 19), .ref o] (t63_6 (newA (t93_2 σ o) (o + 19) 9 0) (o + 19)) Q
  refine WP.run 1 (And.intro ((t63_k (o := o + 19) (p := o) (by omega)).trans ((kA (z := 0) (by omega)).trans hk2)) ?_)
  have hN3 : sN (t93_3 σ o) = o + 24 := npP.trans (t63_n (σ := newA (t93_2 σ o) (o + 19) 9 0) (o := o + 19) rfl)
  have hk3 : sK (t93_3 σ o) o = 12 := kpP.trans ((t63_k (o := o + 19) (p := o) (by omega)).trans ((kA (z := 0) (by omega)).trans hk2))
  show WP gT (d + 4) (140, 19877) 93 37 [.ref o] [] (t93_3 σ o) Q
  refine WP.run 3 (And.intro ⟨by decide, by decide⟩ ?_)
  show WP gT (d + 4) (139, 19845) 93 42 [.ref o] [.ref (sN (t93_3 σ o)), .ref (sN (t93_3 σ o)), .ref o] (newO (t93_3 σ o) 3 0) Q
  rw [oA hN3, hN3]
  have ha3 : sK (newA (t93_3 σ o) (o + 24) 3 0) (o + 24) = 3 := kS
  refine WP.run 1 (And.intro (by decide) (And.intro ⟨dl, dl, dl, ha3⟩ ⟨36, 2945, dl, dl, i_19 (d := d + 0) (o := o + 24) ha3 rfl ?_⟩))
  show WP gT (d + 4) (103, 16900) 93 45 [.ref o] [.ref (o + 24), .ref o] (t19_15 (newA (t93_3 σ o) (o + 24) 3 0) (o + 24)) Q
  refine WP.run 1 (And.intro ((t19_k (o := o + 24) (p := o) (by omega)).trans ((kA (z := 0) (by omega)).trans hk3)) ?_)
  have hN4 : sN (t93_4 σ o) = o + 61 := npP.trans (t19_n (σ := newA (t93_3 σ o) (o + 24) 3 0) (o := o + 24) rfl)
  have hk4 : sK (t93_4 σ o) o = 12 := kpP.trans ((t19_k (o := o + 24) (p := o) (by omega)).trans ((kA (z := 0) (by omega)).trans hk3))
  show WP gT (d + 4) (103, 16900) 93 48 [.ref o] [] (t93_4 σ o) Q
  refine WP.run 3 (And.intro ⟨by decide, by decide⟩ ?_)
  show WP gT (d + 4) (102, 16868) 93 53 [.ref o] [.ref (sN (t93_4 σ o)), .ref (sN (t93_4 σ o)), .ref o] (newO (t93_4 σ o) 3 0) Q
  rw [oA hN4, hN4]
  have ha4 : sK (newA (t93_4 σ o) (o + 61) 3 0) (o + 61) = 3 := kS
  refine WP.run 1 (And.intro (by decide) (And.intro ⟨dl, dl, dl, ha4⟩ ⟨36, 2945, dl, dl, i_19 (d := d + 0) (o := o + 61) ha4 rfl ?_⟩))
  show WP gT (d + 4) (66, 13923) 93 56 [.ref o] [.ref (o + 61), .ref o] (t19_15 (newA (t93_4 σ o) (o + 61) 3 0) (o + 61)) Q
  refine WP.run 1 (And.intro ((t19_k (o := o + 61) (p := o) (by omega)).trans ((kA (z := 0) (by omega)).trans hk4)) ?_)
  have hN5 : sN (t93_5 σ o) = o + 98 := npP.trans (t19_n (σ := newA (t93_4 σ o) (o + 61) 3 0) (o := o + 61) rfl)
  have hk5 : sK (t93_5 σ o) o = 12 := kpP.trans ((t19_k (o := o + 61) (p := o) (by omega)).trans ((kA (z := 0) (by omega)).trans hk4))
  show WP gT (d + 4) (66, 13923) 93 59 [.ref o] [] (t93_5 σ o) Q
  refine WP.run 3 (And.intro ⟨by decide, by decide⟩ ?_)
  show WP gT (d + 4) (65, 13891) 93 64 [.ref o] [.ref (sN (t93_5 σ o)), .ref (sN (t93_5 σ o)), .ref o] (newO (t93_5 σ o) 4 0) Q
  rw [oA hN5, hN5]
  have ha5 : sK (newA (t93_5 σ o) (o + 98) 4 0) (o + 98) = 4 := kS
  refine WP.run 1 (And.intro (by decide) (And.intro ⟨dl, dl, dl, ha5⟩ ⟨21, 1840, dl, dl, i_24 (d := d + 1) (o := o + 98) ha5 rfl ?_⟩))
  show WP gT (d + 4) (44, 12051) 93 67 [.ref o] [.ref (o + 98), .ref o] (t24_5 (newA (t93_5 σ o) (o + 98) 4 0) (o + 98)) Q
  refine WP.run 1 (And.intro ((t24_k (o := o + 98) (p := o) (by omega)).trans ((kA (z := 0) (by omega)).trans hk5)) ?_)
  have hN6 : sN (t93_6 σ o) = o + 120 := npP.trans (t24_n (σ := newA (t93_5 σ o) (o + 98) 4 0) (o := o + 98) rfl)
  have hk6 : sK (t93_6 σ o) o = 12 := kpP.trans ((t24_k (o := o + 98) (p := o) (by omega)).trans ((kA (z := 0) (by omega)).trans hk5))
  show WP gT (d + 4) (44, 12051) 93 70 [.ref o] [] (t93_6 σ o) Q
  refine WP.run 3 (And.intro ⟨by decide, by decide⟩ ?_)
  show WP gT (d + 4) (43, 12019) 93 75 [.ref o] [.ref (sN (t93_6 σ o)), .ref (sN (t93_6 σ o)), .ref o] (newO (t93_6 σ o) 2 0) Q
  rw [oA hN6, hN6]
  have ha6 : sK (newA (t93_6 σ o) (o + 120) 2 0) (o + 120) = 2 := kS
  refine WP.run 1 (And.intro (by decide) (And.intro ⟨dl, dl, dl, ha6⟩ ⟨5, 50, dl, dl, i_9 (d := d + 1) (o := o + 120) ha6 rfl ?_⟩))
  show WP gT (d + 4) (38, 11969) 93 78 [.ref o] [.ref (o + 120), .ref o] (t9_5 (newA (t93_6 σ o) (o + 120) 2 0) (o + 120)) Q
  refine WP.run 1 (And.intro ((t9_k (o := o + 120) (p := o) (by omega)).trans ((kA (z := 0) (by omega)).trans hk6)) ?_)
  have hN7 : sN (t93_7 σ o) = o + 126 := npP.trans (t9_n (σ := newA (t93_6 σ o) (o + 120) 2 0) (o := o + 120) rfl)
  have hk7 : sK (t93_7 σ o) o = 12 := kpP.trans ((t9_k (o := o + 120) (p := o) (by omega)).trans ((kA (z := 0) (by omega)).trans hk6))
  show WP gT (d + 4) (38, 11969) 93 81 [.ref o] [] (t93_7 σ o) Q
  refine WP.run 3 (And.intro ⟨by decide, by decide⟩ ?_)
  show WP gT (d + 4) (37, 11937) 93 86 [.ref o] [.ref (sN (t93_7 σ o)), .ref (sN (t93_7 σ o)), .ref o] (newO (t93_7 σ o) 1 0) Q
  rw [oA hN7, hN7]
  have ha7 : sK (newA (t93_7 σ o) (o + 126) 1 0) (o + 126) = 1 := kS
  refine WP.run 1 (And.intro (by decide) (And.intro ⟨dl, dl, dl, ha7⟩ ⟨3, 24, dl, dl, i_0 (d := d + 1) (o := o + 126) ha7 rfl ?_⟩))
  show WP gT (d + 4) (34, 11913) 93 89 [.ref o] [.ref (o + 126), .ref o] (t0_8 (newA (t93_7 σ o) (o + 126) 1 0) (o + 126)) Q
  refine WP.run 1 (And.intro ((t0_k (o := o + 126) (p := o) (by omega)).trans ((kA (z := 0) (by omega)).trans hk7)) ?_)
  have hN8 : sN (t93_8 σ o) = o + 130 := npP.trans (t0_n (σ := newA (t93_7 σ o) (o + 126) 1 0) (o := o + 126) rfl)
  have hk8 : sK (t93_8 σ o) o = 12 := kpP.trans ((t0_k (o := o + 126) (p := o) (by omega)).trans ((kA (z := 0) (by omega)).trans hk7))
  show WP gT (d + 4) (34, 11913) 93 92 [.ref o] [] (t93_8 σ o) Q
  refine WP.run 3 (And.intro ⟨by decide, by decide⟩ ?_)
  show WP gT (d + 4) (33, 11881) 93 97 [.ref o] [.ref (sN (t93_8 σ o)), .ref (sN (t93_8 σ o)), .ref o] (newO (t93_8 σ o) 11 0) Q
  rw [oA hN8, hN8]
  have ha8 : sK (newA (t93_8 σ o) (o + 130) 11 0) (o + 130) = 11 := kS
  refine WP.run 1 (And.intro (by decide) (And.intro ⟨dl, dl, dl, ha8⟩ ⟨30, 2343, dl, dl, i_84 (d := d + 0) (o := o + 130) ha8 rfl ?_⟩))
  show WP gT (d + 4) (3, 9538) 93 100 [.ref o] [.ref (o + 130), .ref o] (t84_5 (newA (t93_8 σ o) (o + 130) 11 0) (o + 130)) Q
  refine WP.run 1 (And.intro ((t84_k (o := o + 130) (p := o) (by omega)).trans ((kA (z := 0) (by omega)).trans hk8)) ?_)
  have hN9 : sN (t93_9 σ o) = o + 161 := npP.trans (t84_n (σ := newA (t93_8 σ o) (o + 130) 11 0) (o := o + 130) rfl)
  have hk9 : sK (t93_9 σ o) o = 12 := kpP.trans ((t84_k (o := o + 130) (p := o) (by omega)).trans ((kA (z := 0) (by omega)).trans hk8))
  show WP gT (d + 4) (3, 9538) 93 103 [.ref o] [] (t93_9 σ o) Q
  refine WP.run 3 (And.intro ⟨by decide, by decide⟩ ?_)
  show WP gT (d + 4) (2, 9506) 93 108 [.ref o] [.ref (sN (t93_9 σ o)), .ref (sN (t93_9 σ o)), .ref o] (newO (t93_9 σ o) 6 0) Q
  rw [oA hN9, hN9]
  have ha9 : sK (newA (t93_9 σ o) (o + 161) 6 0) (o + 161) = 6 := kS
  refine WP.run 1 (And.intro (by decide) (And.intro ⟨dl, dl, dl, ha9⟩ ⟨2, 9506, dl, dl, i_47 (d := d + 1) (o := o + 161) ha9 rfl ?_⟩))
  show WP gT (d + 4) (0, 0) 93 111 [.ref o] [.ref (o + 161), .ref o] (t47_4 (newA (t93_9 σ o) (o + 161) 6 0) (o + 161)) Q
  refine WP.run 1 (And.intro ((t47_k (o := o + 161) (p := o) (by omega)).trans ((kA (z := 0) (by omega)).trans hk9)) ?_)
  have hN10 : sN (t93_10 σ o) = o + 164 := npP.trans (t47_n (σ := newA (t93_9 σ o) (o + 161) 6 0) (o := o + 161) rfl)
  have hk10 : sK (t93_10 σ o) o = 12 := kpP.trans ((t47_k (o := o + 161) (p := o) (by omega)).trans ((kA (z := 0) (by omega)).trans hk9))
  show WP gT (d + 4) (0, 0) 93 114 [.ref o] [] (t93_10 σ o) Q
  refine WP.run 3 (And.intro hk10 ?_)
  have hN11 : sN (t93_11 σ o) = o + 164 := npI.trans hN10
  have hk11 : sK (t93_11 σ o) o = 12 := kpI.trans hk10
  show WP gT (d + 4) (0, 0) 93 119 [.ref o] [] (t93_11 σ o) Q
  refine WP.run 3 (And.intro hk11 (And.intro (Or.inl rfl) ?_))
  have hN12 : sN (t93_12 σ o) = o + 164 := npI.trans hN11
  have hk12 : sK (t93_12 σ o) o = 12 := kpI.trans hk11
  show WP gT (d + 4) (0, 0) 93 124 [.ref o] [] (t93_12 σ o) Q
  refine WP.run 3 (And.intro hk12 ?_)
  have hN13 : sN (t93_13 σ o) = o + 164 := npI.trans hN12
  have hk13 : sK (t93_13 σ o) o = 12 := kpI.trans hk12
  show WP gT (d + 4) (0, 0) 93 129 [.ref o] [] (t93_13 σ o) Q
  exact WP.run 1 hQ
def t160_1 (σ : Sto) (o : Nat) : Sto := setP (newA (σ) (o + 1) 14 4488) o 1 (some (o + 1))
def t160_2 (σ : Sto) (o : Nat) : Sto := setP (newA (t160_1 σ o) (o + 2) 14 4488) o 2 (some (o + 2))
def t160_3 (σ : Sto) (o : Nat) : Sto := setP (newA (t160_2 σ o) (o + 3) 14 424) o 4 (some (o + 3))
def t160_4 (σ : Sto) (o : Nat) : Sto := setP (newA (t160_3 σ o) (o + 4) 14 400) o 5 (some (o + 4))
def t160_5 (σ : Sto) (o : Nat) : Sto := setI (t160_4 σ o) o 10 (-1)
def t160_6 (σ : Sto) (o : Nat) : Sto := setP (newA (t160_5 σ o) (o + 5) 14 384) o 15 (some (o + 5))
def t160_7 (σ : Sto) (o : Nat) : Sto := setP (newA (t160_6 σ o) (o + 6) 14 97) o 16 (some (o + 6))
def t160_8 (σ : Sto) (o : Nat) : Sto := setP (newA (t160_7 σ o) (o + 7) 14 776) o 17 (some (o + 7))
def t160_9 (σ : Sto) (o : Nat) : Sto := setP (newA (t160_8 σ o) (o + 8) 14 96) o 18 (some (o + 8))
def t160_10 (σ : Sto) (o : Nat) : Sto := setP (newA (t160_9 σ o) (o + 9) 14 96) o 19 (some (o + 9))
def t160_11 (σ : Sto) (o : Nat) : Sto := setP (newA (t160_10 σ o) (o + 10) 14 32) o 21 (some (o + 10))
def t160_12 (σ : Sto) (o : Nat) : Sto := setP (newA (t160_11 σ o) (o + 11) 14 32) o 22 (some (o + 11))
def t160_13 (σ : Sto) (o : Nat) : Sto := setP (newA (t160_12 σ o) (o + 12) 14 6) o 24 (some (o + 12))
def t160_14 (σ : Sto) (o : Nat) : Sto := setP (newA (t160_13 σ o) (o + 13) 14 6) o 25 (some (o + 13))
def t160_15 (σ : Sto) (o : Nat) : Sto := setP (newA (t160_14 σ o) (o + 14) 14 5) o 26 (some (o + 14))
def t160_16 (σ : Sto) (o : Nat) : Sto := setP (newA (t160_15 σ o) (o + 15) 15 9409) o 27 (some (o + 15))
def t160_17 (σ : Sto) (o : Nat) : Sto := setP (newA (t160_16 σ o) (o + 16) 15 9409) o 28 (some (o + 16))
def t160_18 (σ : Sto) (o : Nat) : Sto := setI (t160_17 σ o) (o + 1) 9 1
def t160_19 (σ : Sto) (o : Nat) : Sto := setI (t160_18 σ o) (o + 1) 12 95
def t160_20 (σ : Sto) (o : Nat) : Sto := setI (t160_19 σ o) (o + 1) 15 999
def t160_21 (σ : Sto) (o : Nat) : Sto := setI (t160_20 σ o) (o + 1) 16 99999
theorem t160_k (h : p < o) : sK (t160_21 σ o) p = sK σ p := by
  have h0 : sK σ p = sK σ p := rfl
  have h1 : sK (t160_1 σ o) p = sK σ p := kpP.trans ((kA (z := 4488) (by omega)).trans h0)
  have h2 : sK (t160_2 σ o) p = sK σ p := kpP.trans ((kA (z := 4488) (by omega)).trans h1)
  have h3 : sK (t160_3 σ o) p = sK σ p := kpP.trans ((kA (z := 424) (by omega)).trans h2)
  have h4 : sK (t160_4 σ o) p = sK σ p := kpP.trans ((kA (z := 400) (by omega)).trans h3)
  have h5 : sK (t160_5 σ o) p = sK σ p := kpI.trans h4
  have h6 : sK (t160_6 σ o) p = sK σ p := kpP.trans ((kA (z := 384) (by omega)).trans h5)
  have h7 : sK (t160_7 σ o) p = sK σ p := kpP.trans ((kA (z := 97) (by omega)).trans h6)
  have h8 : sK (t160_8 σ o) p = sK σ p := kpP.trans ((kA (z := 776) (by omega)).trans h7)
  have h9 : sK (t160_9 σ o) p = sK σ p := kpP.trans ((kA (z := 96) (by omega)).trans h8)
  have h10 : sK (t160_10 σ o) p = sK σ p := kpP.trans ((kA (z := 96) (by omega)).trans h9)
  have h11 : sK (t160_11 σ o) p = sK σ p := kpP.trans ((kA (z := 32) (by omega)).trans h10)
  have h12 : sK (t160_12 σ o) p = sK σ p := kpP.trans ((kA (z := 32) (by omega)).trans h11)
  have h13 : sK (t160_13 σ o) p = sK σ p := kpP.trans ((kA (z := 6) (by omega)).trans h12)
  have h14 : sK (t160_14 σ o) p = sK σ p := kpP.trans ((kA (z := 6) (by omega)).trans h13)
  have h15 : sK (t160_15 σ o) p = sK σ p := kpP.trans ((kA (z := 5) (by omega)).trans h14)
  have h16 : sK (t160_16 σ o) p = sK σ p := kpP.trans ((kA (z := 9409) (by omega)).trans h15)
  have h17 : sK (t160_17 σ o) p = sK σ p := kpP.trans ((kA (z := 9409) (by omega)).trans h16)
  have h18 : sK (t160_18 σ o) p = sK σ p := kpI.trans h17
  have h19 : sK (t160_19 σ o) p = sK σ p := kpI.trans h18
  have h20 : sK (t160_20 σ o) p = sK σ p := kpI.trans h19
  have h21 : sK (t160_21 σ o) p = sK σ p := kpI.trans h20
  exact h21
theorem t160_n (hN : sN σ = o + 1) : sN (t160_21 σ o) = o + 17 := by
  have hN0 := hN
  have hN1 : sN (t160_1 σ o) = o + 2 := npP
  have hN2 : sN (t160_2 σ o) = o + 3 := npP
  have hN3 : sN (t160_3 σ o) = o + 4 := npP
  have hN4 : sN (t160_4 σ o) = o + 5 := npP
  have hN5 : sN (t160_5 σ o) = o + 5 := npI.trans hN4
  have hN6 : sN (t160_6 σ o) = o + 6 := npP
  have hN7 : sN (t160_7 σ o) = o + 7 := npP
  have hN8 : sN (t160_8 σ o) = o + 8 := npP
  have hN9 : sN (t160_9 σ o) = o + 9 := npP
  have hN10 : sN (t160_10 σ o) = o + 10 := npP
  have hN11 : sN (t160_11 σ o) = o + 11 := npP
  have hN12 : sN (t160_12 σ o) = o + 12 := npP
  have hN13 : sN (t160_13 σ o) = o + 13 := npP
  have hN14 : sN (t160_14 σ o) = o + 14 := npP
  have hN15 : sN (t160_15 σ o) = o + 15 := npP
  have hN16 : sN (t160_16 σ o) = o + 16 := npP
  have hN17 : sN (t160_17 σ o) = o + 17 := npP
  have hN18 : sN (t160_18 σ o) = o + 17 := npI.trans hN17
  have hN19 : sN (t160_19 σ o) = o + 17 := npI.trans hN18
  have hN20 : sN (t160_20 σ o) = o + 17 := npI.trans hN19
  have hN21 : sN (t160_21 σ o) = o + 17 := npI.trans hN20
  exact hN21
theorem i_160 (hk : sK σ 260 = 13) (hN : sN σ = 260 + 1) (hQ : Q (.inl none) (t160_21 σ 260)) : WP gT (d + 2) (16, 30148) 160 0 [.ref 260] [] σ Q := by
  have hN0 : sN σ = 260 + 1 := hN
  have hk0 : sK σ 260 = 13 := hk
  refine WP.run 2 (And.intro ⟨by omega, dl⟩ ?_)
  show WP gT (d + 2) (16, 30148) 160 4 [.ref 260] [] (σ) Q
  refine WP.run 4 (And.intro ⟨by decide, by decide, by decide, by decide⟩ (And.intro ((nK_o (by rw [hN0]; omega)).trans hk0) ?_))
  show WP gT (d + 2) (15, 25660) 160 13 [.ref 260] [] (setP (newO (σ) 14 4488) 260 1 (some (sN (σ)))) Q
  rw [oA hN0, hN0]
  have hN1 : sN (t160_1 σ 260) = 260 + 2 := npP
  have hk1 : sK (t160_1 σ 260) 260 = 13 := kpP.trans ((kA (z := 4488) (by omega)).trans hk0)
  show WP gT (d + 2) (15, 25660) 160 13 [.ref 260] [] (t160_1 σ 260) Q
  refine WP.run 4 (And.intro ⟨by decide, by decide, by decide, by decide⟩ (And.intro ((nK_o (by rw [hN1]; omega)).trans hk1) ?_))
  show WP gT (d + 2) (14, 21172) 160 22 [.ref 260] [] (setP (newO (t160_1 σ 260) 14 4488) 260 2 (some (sN (t160_1 σ 260)))) Q
  rw [oA hN1, hN1]
  have hN2 : sN (t160_2 σ 260) = 260 + 3 := npP
  have hk2 : sK (t160_2 σ 260) 260 = 13 := kpP.trans ((kA (z := 4488) (by omega)).trans hk1)
  show WP gT (d + 2) (14, 21172) 160 22 [.ref 260] [] (t160_2 σ 260) Q
  refine WP.run 4 (And.intro ⟨by decide, by decide, by decide, by decide⟩ (And.intro ((nK_o (by rw [hN2]; omega)).trans hk2) ?_))
  show WP gT (d + 2) (13, 20748) 160 31 [.ref 260] [] (setP (newO (t160_2 σ 260) 14 424) 260 4 (some (sN (t160_2 σ 260)))) Q
  rw [oA hN2, hN2]
  have hN3 : sN (t160_3 σ 260) = 260 + 4 := npP
  have hk3 : sK (t160_3 σ 260) 260 = 13 := kpP.trans ((kA (z := 424) (by omega)).trans hk2)
  show WP gT (d + 2) (13, 20748) 160 31 [.ref 260] [] (t160_3 σ 260) Q
  refine WP.run 4 (And.intro ⟨by decide, by decide, by decide, by decide⟩ (And.intro ((nK_o (by rw [hN3]; omega)).trans hk3) ?_))
  show WP gT (d + 2) (12, 20348) 160 40 [.ref 260] [] (setP (newO (t160_3 σ 260) 14 400) 260 5 (some (sN (t160_3 σ 260)))) Q
  rw [oA hN3, hN3]
  have hN4 : sN (t160_4 σ 260) = 260 + 5 := npP
  have hk4 : sK (t160_4 σ 260) 260 = 13 := kpP.trans ((kA (z := 400) (by omega)).trans hk3)
  show WP gT (d + 2) (12, 20348) 160 40 [.ref 260] [] (t160_4 σ 260) Q
  refine WP.run 3 (And.intro hk4 ?_)
  have hN5 : sN (t160_5 σ 260) = 260 + 5 := npI.trans hN4
  have hk5 : sK (t160_5 σ 260) 260 = 13 := kpI.trans hk4
  show WP gT (d + 2) (12, 20348) 160 45 [.ref 260] [] (t160_5 σ 260) Q
  refine WP.run 4 (And.intro ⟨by decide, by decide, by decide, by decide⟩ (And.intro ((nK_o (by rw [hN5]; omega)).trans hk5) ?_))
  show WP gT (d + 2) (11, 19964) 160 54 [.ref 260] [] (setP (newO (t160_5 σ 260) 14 384) 260 15 (some (sN (t160_5 σ 260)))) Q
  rw [oA hN5, hN5]
  have hN6 : sN (t160_6 σ 260) = 260 + 6 := npP
  have hk6 : sK (t160_6 σ 260) 260 = 13 := kpP.trans ((kA (z := 384) (by omega)).trans hk5)
  show WP gT (d + 2) (11, 19964) 160 54 [.ref 260] [] (t160_6 σ 260) Q
  refine WP.run 4 (And.intro ⟨by decide, by decide, by decide, by decide⟩ (And.intro ((nK_o (by rw [hN6]; omega)).trans hk6) ?_))
  show WP gT (d + 2) (10, 19867) 160 62 [.ref 260] [] (setP (newO (t160_6 σ 260) 14 97) 260 16 (some (sN (t160_6 σ 260)))) Q
  rw [oA hN6, hN6]
  have hN7 : sN (t160_7 σ 260) = 260 + 7 := npP
  have hk7 : sK (t160_7 σ 260) 260 = 13 := kpP.trans ((kA (z := 97) (by omega)).trans hk6)
  show WP gT (d + 2) (10, 19867) 160 62 [.ref 260] [] (t160_7 σ 260) Q
  refine WP.run 4 (And.intro ⟨by decide, by decide, by decide, by decide⟩ (And.intro ((nK_o (by rw [hN7]; omega)).trans hk7) ?_))
  show WP gT (d + 2) (9, 19091) 160 71 [.ref 260] [] (setP (newO (t160_7 σ 260) 14 776) 260 17 (some (sN (t160_7 σ 260)))) Q
  rw [oA hN7, hN7]
  have hN8 : sN (t160_8 σ 260) = 260 + 8 := npP
  have hk8 : sK (t160_8 σ 260) 260 = 13 := kpP.trans ((kA (z := 776) (by omega)).trans hk7)
  show WP gT (d + 2) (9, 19091) 160 71 [.ref 260] [] (t160_8 σ 260) Q
  refine WP.run 4 (And.intro ⟨by decide, by decide, by decide, by decide⟩ (And.intro ((nK_o (by rw [hN8]; omega)).trans hk8) ?_))
  show WP gT (d + 2) (8, 18995) 160 79 [.ref 260] [] (setP (newO (t160_8 σ 260) 14 96) 260 18 (some (sN (t160_8 σ 260)))) Q
  rw [oA hN8, hN8]
  have hN9 : sN (t160_9 σ 260) = 260 + 9 := npP
  have hk9 : sK (t160_9 σ 260) 260 = 13 := kpP.trans ((kA (z := 96) (by omega)).trans hk8)
  show WP gT (d + 2) (8, 18995) 160 79 [.ref 260] [] (t160_9 σ 260) Q
  refine WP.run 4 (And.intro ⟨by decide, by decide, by decide, by decide⟩ (And.intro ((nK_o (by rw [hN9]; omega)).trans hk9) ?_))
  show WP gT (d + 2) (7, 18899) 160 87 [.ref 260] [] (setP (newO (t160_9 σ 260) 14 96) 260 19 (some (sN (t160_9 σ 260)))) Q
  rw [oA hN9, hN9]
  have hN10 : sN (t160_10 σ 260) = 260 + 10 := npP
  have hk10 : sK (t160_10 σ 260) 260 = 13 := kpP.trans ((kA (z := 96) (by omega)).trans hk9)
  show WP gT (d + 2) (7, 18899) 160 87 [.ref 260] [] (t160_10 σ 260) Q
  refine WP.run 4 (And.intro ⟨by decide, by decide, by decide, by decide⟩ (And.intro ((nK_o (by rw [hN10]; omega)).trans hk10) ?_))
  show WP gT (d + 2) (6, 18867) 160 95 [.ref 260] [] (setP (newO (t160_10 σ 260) 14 32) 260 21 (some (sN (t160_10 σ 260)))) Q
  rw [oA hN10, hN10]
  have hN11 : sN (t160_11 σ 260) = 260 + 11 := npP
  have hk11 : sK (t160_11 σ 260) 260 = 13 := kpP.trans ((kA (z := 32) (by omega)).trans hk10)
  show WP gT (d + 2) (6, 18867) 160 95 [.ref 260] [] (t160_11 σ 260) Q
  refine WP.run 4 (And.intro ⟨by decide, by decide, by decide, by decide⟩ (And.intro ((nK_o (by rw [hN11]; omega)).trans hk11) ?_))
  show WP gT (d + 2) (5, 18835) 160 103 [.ref 260] [] (setP (newO (t160_11 σ 260) 14 32) 260 22 (some (sN (t160_11 σ 260)))) Q
  rw [oA hN11, hN11]
  have hN12 : sN (t160_12 σ 260) = 260 + 12 := npP
  have hk12 : sK (t160_12 σ 260) 260 = 13 := kpP.trans ((kA (z := 32) (by omega)).trans hk11)
  show WP gT (d + 2) (5, 18835) 160 103 [.ref 260] [] (t160_12 σ 260) Q
  refine WP.run 4 (And.intro ⟨by decide, by decide, by decide, by decide⟩ (And.intro ((nK_o (by rw [hN12]; omega)).trans hk12) ?_))
  show WP gT (d + 2) (4, 18829) 160 111 [.ref 260] [] (setP (newO (t160_12 σ 260) 14 6) 260 24 (some (sN (t160_12 σ 260)))) Q
  rw [oA hN12, hN12]
  have hN13 : sN (t160_13 σ 260) = 260 + 13 := npP
  have hk13 : sK (t160_13 σ 260) 260 = 13 := kpP.trans ((kA (z := 6) (by omega)).trans hk12)
  show WP gT (d + 2) (4, 18829) 160 111 [.ref 260] [] (t160_13 σ 260) Q
  refine WP.run 4 (And.intro ⟨by decide, by decide, by decide, by decide⟩ (And.intro ((nK_o (by rw [hN13]; omega)).trans hk13) ?_))
  show WP gT (d + 2) (3, 18823) 160 119 [.ref 260] [] (setP (newO (t160_13 σ 260) 14 6) 260 25 (some (sN (t160_13 σ 260)))) Q
  rw [oA hN13, hN13]
  have hN14 : sN (t160_14 σ 260) = 260 + 14 := npP
  have hk14 : sK (t160_14 σ 260) 260 = 13 := kpP.trans ((kA (z := 6) (by omega)).trans hk13)
  show WP gT (d + 2) (3, 18823) 160 119 [.ref 260] [] (t160_14 σ 260) Q
  refine WP.run 4 (And.intro ⟨by decide, by decide, by decide, by decide⟩ (And.intro ((nK_o (by rw [hN14]; omega)).trans hk14) ?_))
  show WP gT (d + 2) (2, 18818) 160 126 [.ref 260] [] (setP (newO (t160_14 σ 260) 14 5) 260 26 (some (sN (t160_14 σ 260)))) Q
  rw [oA hN14, hN14]
  have hN15 : sN (t160_15 σ 260) = 260 + 15 := npP
  have hk15 : sK (t160_15 σ 260) 260 = 13 := kpP.trans ((kA (z := 5) (by omega)).trans hk14)
  show WP gT (d + 2) (2, 18818) 160 126 [.ref 260] [] (t160_15 σ 260) Q
  refine WP.run 4 (And.intro ⟨by decide, by decide, by decide, by decide⟩ (And.intro ((nK_o (by rw [hN15]; omega)).trans hk15) ?_))
  show WP gT (d + 2) (1, 9409) 160 135 [.ref 260] [] (setP (newO (t160_15 σ 260) 15 9409) 260 27 (some (sN (t160_15 σ 260)))) Q
  rw [oA hN15, hN15]
  have hN16 : sN (t160_16 σ 260) = 260 + 16 := npP
  have hk16 : sK (t160_16 σ 260) 260 = 13 := kpP.trans ((kA (z := 9409) (by omega)).trans hk15)
  show WP gT (d + 2) (1, 9409) 160 135 [.ref 260] [] (t160_16 σ 260) Q
  refine WP.run 4 (And.intro ⟨by decide, by decide, by decide, by decide⟩ (And.intro ((nK_o (by rw [hN16]; omega)).trans hk16) ?_))
  show WP gT (d + 2) (0, 0) 160 144 [.ref 260] [] (setP (newO (t160_16 σ 260) 15 9409) 260 28 (some (sN (t160_16 σ 260)))) Q
  rw [oA hN16, hN16]
  have hN17 : sN (t160_17 σ 260) = 260 + 17 := npP
  have hk17 : sK (t160_17 σ 260) 260 = 13 := kpP.trans ((kA (z := 9409) (by omega)).trans hk16)
  show WP gT (d + 2) (0, 0) 160 144 [.ref 260] [] (t160_17 σ 260) Q
  refine WP.run 5 (And.intro hk17 ⟨260 + 1, rfl, And.intro ⟨rfl, (show vp_in (J 9) 4488 from (by simp (disch := omega) only [J_add, J_mul, J_sub, J_cl, vp_J]; omega))⟩ ?_⟩)
  have hN18 : sN (t160_18 σ 260) = 260 + 17 := npI.trans hN17
  have hk18 : sK (t160_18 σ 260) 260 = 13 := kpI.trans hk17
  show WP gT (d + 2) (0, 0) 160 152 [.ref 260] [] (t160_18 σ 260) Q
  refine WP.run 5 (And.intro hk18 ⟨260 + 1, rfl, And.intro ⟨rfl, (show vp_in (J 12) 4488 from (by simp (disch := omega) only [J_add, J_mul, J_sub, J_cl, vp_J]; omega))⟩ ?_⟩)
  have hN19 : sN (t160_19 σ 260) = 260 + 17 := npI.trans hN18
  have hk19 : sK (t160_19 σ 260) 260 = 13 := kpI.trans hk18
  show WP gT (d + 2) (0, 0) 160 161 [.ref 260] [] (t160_19 σ 260) Q
  refine WP.run 5 (And.intro hk19 ⟨260 + 1, rfl, And.intro ⟨rfl, (show vp_in (J 15) 4488 from (by simp (disch := omega) only [J_add, J_mul, J_sub, J_cl, vp_J]; omega))⟩ ?_⟩)
  have hN20 : sN (t160_20 σ 260) = 260 + 17 := npI.trans hN19
  have hk20 : sK (t160_20 σ 260) 260 = 13 := kpI.trans hk19
  show WP gT (d + 2) (0, 0) 160 171 [.ref 260] [] (t160_20 σ 260) Q
  refine WP.run 5 (And.intro hk20 ⟨260 + 1, rfl, And.intro ⟨rfl, (show vp_in (J 16) 4488 from (by simp (disch := omega) only [J_add, J_mul, J_sub, J_cl, vp_J]; omega))⟩ ?_⟩)
  have hN21 : sN (t160_21 σ 260) = 260 + 17 := npI.trans hN20
  have hk21 : sK (t160_21 σ 260) 260 = 13 := kpI.trans hk20
  show WP gT (d + 2) (0, 0) 160 180 [.ref 260] [] (t160_21 σ 260) Q
  exact WP.run 1 hQ
