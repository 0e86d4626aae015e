/-! ===== the class says what a line, and a rule, says ===== -/
variable {d : Nat} {B : Nat × Nat} {Q : Out → Sto → Prop} {P : Nat → Nat → Prop} {σ τ : Sto} {r f g s : Nat} {mv stm tx : Mem} {n p q f0 : Nat} {R : List RLn} {e : Env}
/-- what every line of a rule is -/
def LNok (x : RLn) : Prop := x.1 < 4 ∧ x.2.1 ≤ 6 ∧ (x.2.2 = ([], fun _ => J 1) ∨ (SAY x.2.2 17 ∧ ∀ c, c ∈ x.2.2.1 → c.1 < 16 ∧ c.2 ≤ 999999))
theorem rLine_ok {l l2 : List RLn} (hp : p ≤ n) (h : rLine tx n l p = .inr (l2, q)) : (∃ x, l2 = l ++ [x] ∧ LNok x) ∧ q ≤ n := by
  unfold rLine at h
  split at h
  · have hw2 := aftW_b (tx := tx) hp
    obtain ⟨g, q1, t1, h⟩ := bnd_i h
    have b1 := tN_b hw2.2 t1
    obtain ⟨s, q2, t2, h⟩ := bnd_i h
    have b2 : s ≤ 6 ∧ q2 ≤ n := by
      split at t2
      · have := tN_b b1.2.2.2 t2; omega
      · cases t2; omega
    split at h
    · obtain ⟨a, q3, t3, h⟩ := bnd_i h
      have hw3 := aftW_b (tx := tx) b2.2
      have k := rTop_s _ _ _ hw3.2 t3
      cases h
      exact ⟨⟨_, rfl, b1.2.1, b2.1, Or.inr ⟨k.1, k.2.1.2.2.2⟩⟩, k.2.1.2.1⟩
    · cases h
      exact ⟨⟨_, rfl, b1.2.1, b2.1, Or.inl rfl⟩, b2.2⟩
  · cases h
theorem gLs_ok : ∀ f0 (l l2 : List RLn) p q, p ≤ n → (∀ x, x ∈ l → LNok x) → gLs tx n (rLine tx n) f0 l p = .inr (l2, q) → ∀ x, x ∈ l2 → LNok x := by
  intro f0
  induction f0 with
  | zero => intro l l2 p q _ _ h; cases h
  | succ f0 ih =>
    intro l l2 p q hp hl h
    have h : bnd (rLine tx n l p) (fun a p => if p = n then .inr (a, p) else if isS tx n p 59 = true then gLs tx n (rLine tx n) f0 a (aftS tx n p) else .inl p) = .inr (l2, q) := h
    obtain ⟨a, q1, t, h⟩ := bnd_i h
    obtain ⟨⟨x, rfl, hx⟩, hq1⟩ := rLine_ok hp t
    have ha : ∀ y, y ∈ l ++ [x] → LNok y := fun y hy => by
      rcases List.mem_append.mp hy with k | k
      · exact hl y k
      · rw [List.mem_singleton.mp k]; exact hx
    split at h
    · cases h; exact ha
    · split at h
      · rename_i c
        exact ih _ _ _ _ (aftS_b (tx := tx) (isS_lt c)).2 ha h
      · cases h
theorem rAll_ok {l : List RLn} (h : rAll tx n = .inr (l, q)) : ∀ x, x ∈ l → LNok x := by
  unfold rAll gAll at h
  split at h
  · cases h; intro x hx; cases hx
  · exact gLs_ok _ _ _ _ _ (skp_b (tx := tx) (Nat.zero_le n)).2 (fun x hx => by cases hx) h
theorem CEL.of : ∀ {c : List (Nat × Nat)} {i : Nat}, (∀ j, j < c.length → sI σ (r + 4) (i + j) = J (enc (c.getD j (0, 0)))) → (∀ x, x ∈ c → x.1 < 16 ∧ x.2 ≤ 999999) → CEL σ r i c := by
  intro c
  induction c with
  | nil => intro i _ _; trivial
  | cons x c ih =>
    intro i h hb
    refine ⟨⟨h 0 (Nat.zero_lt_succ _), hb x (List.mem_cons_self ..)⟩, ih (fun j hj => ?_) (fun y hy => hb y (List.mem_cons_of_mem _ hy))⟩
    have := h (j + 1) (by show j + 1 < c.length + 1; omega)
    rw [show i + 1 + j = i + (j + 1) by omega]
    exact this
theorem codes_ap {a b : List RLn} : codes (a ++ b) = codes a ++ codes b := by
  unfold codes
  rw [List.flatMap_append]
theorem take_s {i : Nat} (h : i < R.length) : R.take (i + 1) = R.take i ++ [R.getD i dfl] := by
  rw [List.getD_eq_getElem?_getD, List.getElem?_eq_getElem h, List.take_succ_eq_append_getElem h]; rfl
theorem codes_s {i : Nat} (h : i < R.length) : codes (R.take (i + 1)) = codes (R.take i) ++ (R.getD i dfl).2.2.1 := by
  rw [take_s h, codes_app]
theorem codes_split (i : Nat) : codes R = codes (R.take i) ++ codes (R.drop i) := by
  rw [← codes_ap, List.take_append_drop]
theorem dfl_mem {i : Nat} (h : i < R.length) : R.getD i dfl ∈ R := by
  rw [List.getD_eq_getElem?_getD, List.getElem?_eq_getElem h]
  exact List.getElem_mem h
theorem RuleAt.line {i : Nat} (h : RuleAt σ r R) (hl : ∀ x, x ∈ R → LNok x) (hi : i < R.length) : CEL σ r (codes (R.take i)).length (R.getD i dfl).2.2.1 ∧ (codes (R.take i)).length + (R.getD i dfl).2.2.1.length = (codes (R.take (i + 1))).length ∧ (codes (R.take (i + 1))).length ≤ (codes R).length := by
  have e1 := codes_s hi
  have e2 := codes_split (R := R) (i + 1)
  have l1 : (codes (R.take (i + 1))).length = (codes (R.take i)).length + (R.getD i dfl).2.2.1.length := by rw [e1, List.length_append]
  have l2 : (codes R).length = (codes (R.take (i + 1))).length + (codes (R.drop (i + 1))).length := by
    have := congrArg List.length e2
    rw [List.length_append] at this; exact this
  refine ⟨CEL.of (fun j hj => ?_) ?_, by omega, by omega⟩
  · rw [h.2.2.2.2.2.2.2 _ (by omega), e2, e1, List.getD_eq_getElem?_getD, List.append_assoc, List.getElem?_append_right (by omega), List.getElem?_append_left (by omega), Nat.add_sub_cancel_left, ← List.getD_eq_getElem?_getD]
  · rcases (hl _ (dfl_mem hi)).2.2 with k | k
    · rw [k]; intro x hx; cases hx
    · exact k.2
theorem c_holds (hR : RuleAt σ r R) (hl : ∀ x, x ∈ R → LNok x) (hv : VG mv) (hE : CEv σ f g s mv stm q) (hd : ¬ (f ≤ r + 5 ∧ r + 5 ≤ f + 21) ∧ ¬ (g ≤ r + 5 ∧ r + 5 ≤ g + 15) ∧ r + 5 ≠ s) {li : Nat} (hli : li < R.length)
    (hQ : ∀ τ, Fr (fun p _ => p = r + 5) σ τ → Q (.inl (some (.int (if (R.getD li dfl).2.2.2 (eC mv stm q) = J 0 then J 0 else J 1)))) τ) : WP gT (d + 4) B 58 0 [.ref r, .int (J li), .ref g, .ref f, .ref s, .int (J q), .retAddr 0, .retAddr 0, .retAddr 0, .retAddr 0] [] σ Q := by
  have L := hR.line hl hli
  have hlen := hR.1.2.2.2
  have go : WP gT (d + 4) B 58 21 [.ref r, .int (J li), .ref g, .ref f, .ref s, .int (J q), .int (J 0), .int (J (codes (R.take li)).length), .retAddr 0, .retAddr 0] [] σ Q := by
    have hcc : ∃ stf, rnC (eC mv stm q) (R.getD li dfl).2.2.1 [] = some stf ∧ stf.length ≤ 24 ∧ ∀ τ, STK τ r stf → topJ stf (sI τ (r + 5) 0) = (if (R.getD li dfl).2.2.2 (eC mv stm q) = J 0 then J 0 else J 1) := by
      rcases (hl _ (dfl_mem hli)).2.2 with k | k
      · rw [k]
        refine ⟨[], rfl, Nat.zero_le _, fun τ _ => ?_⟩
        show J 1 = if J 1 = J 0 then J 0 else J 1
        rw [if_neg (by decide)]
      · refine ⟨[(R.getD li dfl).2.2.2 (eC mv stm q)], k.1 _ [] (by decide), (by show 1 ≤ 24; omega), fun τ h => ?_⟩
        have h0 : sI τ (r + 5) 0 = _ := h.1
        show (if sI τ (r + 5) 0 = J 0 then J 0 else J 1) = _
        rw [h0]
    obtain ⟨stf, h1, h2, h3⟩ := hcc
    exact c_codes hR hv hE hd hli (hR.2.2.2.2.2.2.1 li hli).2.2 L.2.2 h2 (fun τ F hs => by rw [h3 τ hs]; exact hQ τ F) (R.getD li dfl).2.2.1 _ [] σ _ _ L.2.1 L.1 Fr.rf trivial (Nat.zero_le _) h1
  obtain ⟨r1, r2, r3, r4, r5, r6, r7, r8⟩ := hR
  refine g_58_0 r2 ⟨fun c => ?_, fun c => ⟨r + 3, r3.2.2.1, r4.2.2.1, ?_, ?_⟩⟩
  · have : li = 0 := J_inj (by omega) (by omega) c
    subst this
    exact go
  · have : li ≠ 0 := fun e => c (by rw [e])
    rw [r5.2.2.1, J_sub (by omega)]; exact (by simp (disch := omega) only [J_add, J_mul, J_sub, J_cl, vp_J]; omega)
  · have : li ≠ 0 := fun e => c (by rw [e])
    rw [J_sub (by omega), J_cl (by omega), (r7 (li - 1) (by omega)).2.2, show li - 1 + 1 = li by omega]
    exact go
theorem c_stepFor (hR : RuleAt σ r R) (hl : ∀ x, x ∈ R → LNok x) (hv : VG mv) (hE : CEv σ f g s mv stm q) (hd : ¬ (f ≤ r + 5 ∧ r + 5 ≤ f + 21) ∧ ¬ (g ≤ r + 5 ∧ r + 5 ≤ g + 15) ∧ r + 5 ≠ s) {gg : Nat} (hgg : gg < 100)
    (hQ : ∀ τ, Fr (fun p _ => p = r + 5) σ τ → Q (.inl (some (.int (SYf (-J 1) (saysR (eC mv stm q) gg R))))) τ) : WP gT (d + 5) B 57 0 [.ref r, .int (J gg), .ref g, .ref f, .ref s, .int (J q), .retAddr 0] [] σ Q := by
  have main : ∀ (l : List RLn) (i : Nat) (τ : Sto), l = R.drop i → i ≤ R.length → Fr (fun p _ => p = r + 5) σ τ → saysR (eC mv stm q) gg R = saysR (eC mv stm q) gg l → WP gT (d + 5) B 57 3 [.ref r, .int (J gg), .ref g, .ref f, .ref s, .int (J q), .int (J i)] [] τ Q := by
    intro l
    induction l with
    | nil =>
      intro i τ hl2 hi F hs
      have hR2 := hR.s5 F
      have : R.length ≤ i := List.drop_eq_nil_iff.mp hl2.symm
      have hlen := hR.1.2.2.2.1
      refine g_57_3 hR2.2.1 ⟨fun _ => ?_, fun c => ?_⟩
      · have := hQ τ F
        rw [hs] at this
        exact this
      · exfalso; apply c; rw [hR2.2.2.2.2.2.1, J_le (by omega) (by omega)]; exact this
    | cons x l ih =>
      intro i τ hl2 hi F hs
      have hR2 := hR.s5 F
      have E := hE.fr hv F (fun p j k => by subst k; exact hd)
      have hlen := hR.1.2.2.2.1
      have hi2 : i < R.length := by
        have := congrArg List.length hl2
        rw [List.length_drop] at this
        have this : l.length + 1 = R.length - i := this
        omega
      have hxe : x = R.getD i dfl := by
        rw [List.drop_eq_getElem_cons hi2] at hl2
        rw [List.getD_eq_getElem?_getD, List.getElem?_eq_getElem hi2]
        exact (List.cons.inj hl2).1
      have hle : l = R.drop (i + 1) := by
        rw [List.drop_eq_getElem_cons hi2] at hl2
        exact (List.cons.inj hl2).2
      have hx := hl _ (dfl_mem hi2)
      rw [← hxe] at hx
      have hx1 : x.1 < 4 := hx.1
      have r7 := hR2.2.2.2.2.2.2.1 i hi2
      rw [← hxe] at r7
      refine g_57_3 hR2.2.1 ⟨fun c => ?_, fun _ => ⟨r + 1, hR2.2.2.1.1, hR2.2.2.2.1.1, ?_, fun c => ?_, fun c => ?_⟩⟩
      · exfalso; rw [hR2.2.2.2.2.2.1, J_le (by omega) (by omega)] at c; omega
      · rw [hR2.2.2.2.2.1.1]; exact (by simp (disch := omega) only [J_add, J_mul, J_sub, J_cl, vp_J]; omega)
      · rw [J_cl (by omega), r7.1] at c
        have c : x.1 = gg := J_inj (by omega) (by omega) c
        refine c_holds hR2 hl hv E hd hi2 (fun ρ F2 => ?_)
        rw [← hxe]
        have F3 := F.tr F2
        have hR3 := hR.s5 F3
        refine ⟨hR3.2.1, fun c2 => ?_, fun c2 => ⟨r + 2, hR3.2.2.1.2.1, hR3.2.2.2.1.2.1, ?_, ?_⟩⟩
        · have c3 : x.2.2.2 (eC mv stm q) = J 0 := by
            by_cases k : x.2.2.2 (eC mv stm q) = J 0
            · exact k
            · rw [if_neg k] at c2; exact absurd c2 (by decide)
          rw [J_add]
          refine ih (i + 1) ρ hle hi2 F3 ?_
          rw [hs]
          show (if x.1 = gg ∧ ¬ x.2.2.2 (eC mv stm q) = J 0 then some x.2.1 else saysR (eC mv stm q) gg l) = _
          rw [if_neg (fun k => k.2 c3)]
        · rw [hR3.2.2.2.2.1.2.1]; exact (by simp (disch := omega) only [J_add, J_mul, J_sub, J_cl, vp_J]; omega)
        · have c3 : ¬ x.2.2.2 (eC mv stm q) = J 0 := fun k => c2 (by rw [if_pos k])
          have := hQ ρ F3
          rw [hs] at this
          have e1 : saysR (eC mv stm q) gg (x :: l) = some x.2.1 := by
            show (if x.1 = gg ∧ ¬ x.2.2.2 (eC mv stm q) = J 0 then some x.2.1 else saysR (eC mv stm q) gg l) = _
            rw [if_pos ⟨c, c3⟩]
          rw [e1] at this
          have r73 := hR3.2.2.2.2.2.2.1 i hi2
          rw [← hxe] at r73
          rw [J_cl (by omega), r73.2.1]
          exact this
      · rw [J_cl (by omega), r7.1] at c
        have c : ¬ x.1 = gg := fun k => c (by rw [k])
        rw [J_add]
        refine ih (i + 1) τ hle hi2 F ?_
        rw [hs]
        show (if x.1 = gg ∧ ¬ x.2.2.2 (eC mv stm q) = J 0 then some x.2.1 else saysR (eC mv stm q) gg l) = _
        rw [if_neg (fun k => c k.1)]
  exact g_57_0 (main R 0 σ rfl (Nat.zero_le _) Fr.rf rfl)
