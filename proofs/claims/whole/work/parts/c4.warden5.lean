/-! ===== warden: the class, pieces ===== -/
variable {d : Nat} {B : Nat × Nat} {Q : Out → Sto → Prop} {P : Nat → Nat → Prop} {σ τ : Sto} {v i j k t p q X x0 : Nat} {o s mv kv π tp : Mem} {l : List Nat} {img : Bool} {n : Nat} {fl : Option Nat} {r0 q0 pc : Nat}
theorem gth_add {b : Nat → Bool} : ∀ k, p ≤ k → ∃ r, gth b k = gth b p ++ r := by
  intro k
  induction k with
  | zero => intro h; have : p = 0 := by omega
            subst this; exact ⟨[], rfl⟩
  | succ k ih =>
    intro h
    by_cases c : p = k + 1
    · subst c; exact ⟨[], (List.append_nil _).symm⟩
    · obtain ⟨r, e⟩ := ih (by omega)
      by_cases c2 : b k = true
      · refine ⟨r ++ [k], ?_⟩
        show (if b k = true then gth b k ++ [k] else gth b k) = _
        rw [if_pos c2, e, List.append_assoc]
      · refine ⟨r, ?_⟩
        show (if b k = true then gth b k ++ [k] else gth b k) = _
        rw [if_neg c2, e]
theorem gth_1 {b : Nat → Bool} : gth b (k + 1) = if b k = true then gth b k ++ [k] else gth b k := rfl
theorem c_gather {x : Int32} (n0 : S_0 σ X) (h6 : (gth (bitO x) 12).length ≤ 6) (hQ : ∀ τ, Fr (fun p j => p = X + 1 ∨ (p = X ∧ j = 1)) σ τ → sI τ X 1 = J (gth (bitO x) 12).length → ARR τ (X + 1) (gth (bitO x) 12).length (fun k => (gth (bitO x) 12).getD k 0) → Q (.inl none) τ) : WP gT d B 5 0 [.ref X, .int x, .retAddr 0] [] σ Q := by
  refine g_5_0 n0 ?_
  have L : ∀ t p τ, p + t = 12 → Fr (fun p j => p = X + 1 ∨ (p = X ∧ j = 1)) σ τ → sI τ X 1 = J (gth (bitO x) p).length → ARR τ (X + 1) (gth (bitO x) p).length (fun k => (gth (bitO x) p).getD k 0) → WP gT d B 5 7 [.ref X, .int x, .int (J p)] [] τ Q := by
    intro t
    induction t with
    | zero =>
      intro p τ hp f h1 hA
      have hp : p = 12 := hp
      subst hp
      exact g_5_7 (f.sh n0) ⟨fun _ => hQ τ f h1 hA, fun c => absurd (by decide) c⟩
    | succ t ih =>
      intro p τ hp f h1 hA
      obtain ⟨r, hr⟩ := gth_add (p := p) (b := bitO x) 12 (by omega)
      have hl := congrArg List.length hr
      rw [List.length_append] at hl
      refine g_5_7 (f.sh n0) ⟨fun c => absurd c (by rw [J_le (by omega) (by omega)]; omega), fun _ => ⟨fun c => ?_, fun c => ?_⟩⟩
      · rw [h1, J_le (by omega) (by omega)] at c
        have : r = [] := List.eq_nil_of_length_eq_zero (by omega)
        rw [this, List.append_nil] at hr
        rw [hr] at hQ
        exact hQ τ f h1 hA
      · rw [h1, J_le (by omega) (by omega)] at c
        rw [sbit (by omega), J_add, h1, J_add, J_cl (by omega)]
        by_cases cb : bitO x p = true
        · have e1 : gth (bitO x) (p + 1) = gth (bitO x) p ++ [p] := by rw [gth_1, if_pos cb]
          have el : (gth (bitO x) (p + 1)).length = (gth (bitO x) p).length + 1 := by rw [e1, List.length_append]; rfl
          rw [if_pos cb]
          refine ⟨fun c => absurd c (by decide), fun _ => ⟨(by simp (disch := omega) only [J_add, J_mul, J_sub, J_cl, vp_J]; omega), ?_⟩⟩
          refine ih (p + 1) _ (by omega) ((f.setI (Or.inl rfl)).setI (Or.inr ⟨rfl, rfl⟩)) (by rw [sI_same, el]) (fun k hk => ?_)
          rw [el] at hk
          rw [sI_any (by omega), e1]
          by_cases ck : k = (gth (bitO x) p).length
          · rw [ck, sI_same]
            show J p = J ((gth (bitO x) p ++ [p]).getD (gth (bitO x) p).length 0)
            rw [getD_r]
          · rw [sI_any (by omega)]
            show _ = J ((gth (bitO x) p ++ [p]).getD k 0)
            rw [getD_l (by omega)]; exact hA k (by omega)
        · have e1 : gth (bitO x) (p + 1) = gth (bitO x) p := by rw [gth_1, if_neg cb]
          rw [if_neg cb]
          refine ⟨fun _ => ih (p + 1) τ (by omega) f (by rw [e1]; exact h1) (by rw [e1]; exact hA), fun c => absurd rfl c⟩
  exact L 12 0 _ (by omega) (Fr.rf.setI (Or.inr ⟨rfl, rfl⟩)) sI_same (fun k hk => absurd hk (Nat.not_lt_zero _))
theorem absJ {a b : Nat} (ha : a < 1000000) (hb : b < 1000000) : (if J 0 ≤ J a - J b then J a - J b else J 0 - (J a - J b)) = J (gapN b a) := by
  have e : (J a - J b).toInt = (a : Int) - b := by
    rw [Int32.toInt_sub, J_int (by omega), J_int (by omega)]
    exact Int.bmod_eq_of_le (by omega) (by omega)
  unfold gapN
  by_cases c : b ≤ a
  · rw [if_pos c, if_pos (by rw [Int32.le_iff_toInt_le, e, J_int (by omega)]; omega), J_sub c]
  · rw [if_neg c, if_neg (by rw [Int32.le_iff_toInt_le, e, J_int (by omega)]; omega)]
    apply Int32.toInt_inj.mp
    rw [Int32.toInt_sub, e, J_int (by omega), J_int (by omega), show ((0 : Nat) : Int) - ((a : Int) - b) = ((b - a : Nat) : Int) by omega]
    exact Int.bmod_eq_of_le (by omega) (by omega)
theorem c_goRound (h : CIv σ x0 mv kv img tp n fl) (n0 : S_0 σ (x0 + 126)) (hv6 : v ≤ 6) (ho3 : ∀ k, k < v → o k < mv 3) (hr : r0 < mv 2) (hq : q0 < 96) (hp : pc ≤ 9) (h1 : sI σ (x0 + 126) 1 = J v) (h5 : sI σ (x0 + 126) 5 = J r0) (h6 : sI σ (x0 + 126) 6 = J q0) (h7 : sI σ (x0 + 126) 7 = J pc) (hA : ARR σ (x0 + 127) v o)
    (hQ : ∀ τ, Fr (fun p _ => p = x0 + 129) σ τ → (∀ p, p < 12 → sI τ (x0 + 129) p = oJ (wkC mv o r0 q0 pc v p)) → Q (.inl none) τ) : WP gT (d + 2) B 6 0 [.ref (x0 + 126), .ref (x0 + 24), .retAddr 0, .retAddr 0, .retAddr 0, .retAddr 0] [] σ Q := by
  have hx := h.x
  have hv := h.mv_.1
  have ho := h.mv_.2.1
  have hs := hv.s
  have hka := h.sh.1 129 (by decide)
  refine g_6_0 n0 ?_
  refine c_fill (a := x0 + 126 + 3) (z := 12) hka.1 hka.2 (by omega) (fun τ f0 hz => ?_)
  dsimp only [oV]
  have f0' : Fr (fun p _ => p = x0 + 129) σ τ := f0.mono (fun p j k => by omega)
  refine ⟨f0.sh n0, ?_⟩
  rw [f0.i (by omega), f0.i (by omega), h5, h6]
  have L : ∀ t i τ x5, i + t = v → Fr (fun p _ => p = x0 + 129) σ τ → (∀ p, p < 12 → sI τ (x0 + 129) p = oJ (wkC mv o r0 q0 pc i p)) → WP gT (d + 2) B 6 21 [.ref (x0 + 126), .ref (x0 + 24), .int (J (wkA mv o r0 i)), .int (J (wkQ mv o r0 q0 pc i)), .int (J i), x5] [] τ Q := by
    intro t
    induction t with
    | zero =>
      intro i τ x5 hi f hc
      have hi : i = v := hi
      subst hi
      refine g_6_21 (f.sh n0) (sub_11_24_2 (f.sh h.sh)) ⟨fun _ => hQ τ f hc, fun c => ?_⟩
      exfalso; apply c; rw [f.i (by omega), h1]; exact Int32.le_refl _
    | succ t ih =>
      intro i τ x5 hi f hc
      have b := wkQ_b (q0 := q0) hv ho3 hr hp i (by omega)
      have b2 := wkQ_b (q0 := q0) hv ho3 hr hp (i + 1) (by omega)
      have hoi := ho3 i (by omega)
      have hpv := hv.p hoi
      have hG := h.G.fr f (fun i j hi k => by omega)
      have ec : sI τ (x0 + 126 + 1) (J i).toNatClampNeg = J (o i) := by rw [J_cl (by omega), f.i (by omega)]; exact hA i (by omega)
      have er : sI τ (x0 + 24 + 13) (J (o i)).toNatClampNeg = J (mv (376 + 4 * o i)) := by rw [J_cl (by omega)]; exact (hG.p hoi).1
      have hcn : cntP mv (o i) (mv 6) ≤ 4 := ho.c4 (o i)
      refine g_6_21 (f.sh n0) (sub_11_24_2 (f.sh h.sh)) ⟨fun c => ?_, fun _ => ?_⟩
      · exfalso; rw [f.i (by omega), h1, J_le (by omega) (by omega)] at c; omega
      rw [ec, er, absJ (by omega) (by omega), f.i (by omega), h7, J_mul, J_add]
      have eQ : wkQ mv o r0 q0 pc i + pc * gapN (wkA mv o r0 i) (mv (376 + 4 * o i)) = wkQ mv o r0 q0 pc (i + 1) := rfl
      rw [eQ]
      refine ⟨(by simp (disch := omega) only [J_add, J_mul, J_sub, J_cl, vp_J]; omega), (by simp (disch := omega) only [J_add, J_mul, J_sub, J_cl, vp_J]; omega), fun u hu => ⟨(by simp (disch := omega) only [J_add, J_mul, J_sub, J_cl, vp_J]; omega), fun c => ?_, fun c => ?_⟩⟩
      · subst hu
        rw [J_le (by omega) (by omega)] at c
        rw [J_add]
        refine ih (i + 1) τ _ (by omega) f (fun p hp => ?_)
        show _ = oJ ((if wkH mv o r0 q0 pc i then _ else wkC mv o r0 q0 pc i) p)
        rw [if_neg (fun k => by have := k.1; omega)]; exact hc p hp
      · subst hu
        rw [J_le (by omega) (by omega)] at c
        refine c_callsOf (sub_11_48_6 (f.sh h.sh)) (h.Pp.fr f (fun i j hi k => by omega)) hv ho (by omega) ?_
        dsimp only [oI]
        refine ⟨f.sh n0, fun c4 => ?_, fun c4 => ⟨(by simp (disch := omega) only [J_add, J_mul, J_sub, J_cl, vp_J]; omega), ?_⟩⟩
        · rw [J_le (by omega) (by omega)] at c4
          rw [J_add]
          refine ih (i + 1) τ _ (by omega) f (fun p hp => ?_)
          show _ = oJ ((if wkH mv o r0 q0 pc i then _ else wkC mv o r0 q0 pc i) p)
          rw [if_neg (fun k => by have := k.2; omega)]; exact hc p hp
        · rw [J_le (by omega) (by omega)] at c4
          rw [J_add, J_cl (by omega)]
          refine ih (i + 1) _ _ (by omega) (f.setI (by omega)) (fun p hp => ?_)
          show _ = oJ ((if wkH mv o r0 q0 pc i then (fun p => if p = o i then some (wkQ mv o r0 q0 pc (i + 1)) else wkC mv o r0 q0 pc i p) else wkC mv o r0 q0 pc i) p)
          rw [if_pos ⟨by omega, by omega⟩]
          show _ = oJ (if p = o i then some (wkQ mv o r0 q0 pc (i + 1)) else wkC mv o r0 q0 pc i p)
          by_cases cp : p = o i
          · rw [if_pos cp, cp]; exact sI_same
          · rw [if_neg cp, sI_any (by omega)]; exact hc p hp
  exact L v 0 τ _ (by omega) f0' (fun p hp => by
    have := hz p hp
    exact this)
