/-! ===== the law's switch and its loop ===== -/
variable {B : Nat × Nat} {Q : Out → Sto → Prop} {P : Nat → Nat → Prop} {σ τ : Sto} {L k : Nat} {mv kv mv' kv' mv2 kv2 : Mem} {img img' img2 : Bool} {tp tp' tp2 : Mem} {n n' n2 : Nat} {fl fl' fl2 : Option Nat} {xs : Nat → Int32} {x5 x6 x7 : Value}
theorem law_3230 (hI : LI2 L xs σ mv kv img tp n fl mv kv img tp n fl) (hN : NX7 80 B L xs (J k) Q) : WP gT (80 + 20) B 307 3230 [.ref 0, .ref 96, .ref 260, .ref 277, .int (J k), x5, x6, x7] [] σ Q := by
  refine g_307_3230 (d := 80) hI.1.sh ?_
  refine cc_back (d := 94) (x0 := 96) hI.1 (fun c τ hc hf => ?_) (fun c => ?_)
  · have m := hI.c hc hf
    refine ⟨m.2.1.1, rr_back (d := 99) (y0 := 260) rfl m.2.1 (fun c_r τ_r hc_r hf_r _ => ?_) (fun c_r => absurd (c.symm.trans c_r) (by decide))⟩
    exact ⟨fun _ => hN _ _ _ _ _ bl (m.r hc_r hf_r), fun c => absurd rfl c⟩
  · have m := hI
    refine ⟨m.2.1.1, rr_back (d := 99) (y0 := 260) rfl m.2.1 (fun c_r => absurd (c.symm.trans c_r) (by decide)) (fun c_r τ_r hc_r hf_r _ => ?_)⟩
    exact ⟨fun _ => hN _ _ _ _ _ bl (m.r hc_r hf_r), fun c => absurd rfl c⟩
theorem law_40 {s0 : Int32} (hI : LI2 L xs σ mv kv img tp n fl mv kv img tp n fl) (hB : 16 ≤ B.1 ∧ 1000 ≤ B.2) (hk : k + 7 ≤ L) (hL : L ≤ 3584) (hN : NX7 80 B L xs (J k) Q) : WP gT (80 + 20) B 307 40 [.ref 0, .ref 96, .ref 260, .ref 277, .int (J k), x5, x6, x7] [.int s0] σ Q :=
  g_307_40 (d := 80) ⟨fun _ => law_244 hI hk hL hN, fun _ => law_317 hI hk hL hN, fun _ => law_342 hI hB hk hL hN, fun _ => law_386 hI hB hk hL hN, fun _ => law_430 hI hN, fun _ => law_443 hI hB hk hL hN, fun _ => law_487 hI hB hk hL hN, fun _ => law_543 hI hB hk hL hN, fun _ => law_627 hI hB hk hL hN, fun _ => law_711 hI hB hk hL hN, fun _ => law_809 hI hB hk hL hN, fun _ => law_889 hI hB hk hL hN, fun _ => law_969 hI hB hk hL hN, fun _ => law_1037 hI hB hk hL hN, fun _ => law_1117 hI hB hk hL hN, fun _ => law_1213 hI hB hk hL hN, fun _ => law_1337 hI hB hk hL hN, fun _ => law_1424 hI hB hk hL hN, fun _ => law_1480 hI hB hk hL hN, fun _ => law_1536 hI hB hk hL hN, fun _ => law_1604 hI hB hk hL hN, fun _ => law_1722 hI hB hk hL hN, fun _ => law_1790 hI hN, fun _ => law_1803 hI hB hk hL hN, fun _ => law_1871 hI hB hk hL hN, fun _ => law_1938 hI hB hk hL hN, fun _ => law_1993 hI hB hk hL hN, fun _ => law_2053 hI hB hk hL hN, fun _ => law_2109 hI hB hk hL hN, fun _ => law_2193 hI hB hk hL hN, fun _ => law_2261 hI hB hk hL hN, fun _ => law_2378 hI hB hk hL hN, fun _ => law_2446 hI hB hk hL hN, fun _ => law_2502 hI hB hk hL hN, fun _ => law_2582 hI hB hk hL hN, fun _ => law_2618 hI hB hk hL hN, fun _ => law_2673 hI hB hk hL hN, fun _ => law_2806 hI hB hk hL hN, fun _ => law_2862 hI hB hk hL hN, fun _ => law_2918 hI hB hk hL hN, fun _ => law_3014 hI hB hk hL hN, fun _ => law_3070 hI hN, fun _ => law_3083 hI hB hk hL hN, fun _ => law_3151 hI hB hk hL hN, fun _ => law_3219 hI hN, fun _ => law_3230 hI hN, fun _ => law_3243 hI hk hL hN, fun _ => hN _ _ _ _ _ bl ⟨_, _, _, _, _, _, hI⟩⟩
theorem l7 (hL : L ≤ 3584) (hk : k ≤ 10000) : (J L - J 7 < J k) = (L < k + 7) := by
  have e : (J L - J 7).toInt = (L : Int) - 7 := by
    rw [Int32.toInt_sub, J_int (by omega), J_int (by omega)]
    exact Int.bmod_eq_of_le (by omega) (by omega)
  rw [Int32.lt_iff_toInt_lt, e, J_int (by omega)]; exact propext (by omega)
theorem law_loop (hL : L ≤ 3584) (hQ : ∀ τ, Q (.inl (some (.int (J 1)))) τ) : ∀ t k (B : Nat × Nat) σ x5 x6 x7, k ≤ 3584 → L ≤ k + 7 * t → 16 * t ≤ B.1 → 1000 * t ≤ B.2 → LI L xs σ → WP gT (80 + 20) B 307 23 [.ref 0, .ref 96, .ref 260, .ref 277, .int (J k), x5, x6, x7] [] σ Q := by
  intro t
  induction t with
  | zero =>
    intro k B σ x5 x6 x7 hk hf hb1 hb2 hI
    obtain ⟨mv, kv, img, tp, n, fl, hI⟩ := hI
    refine g_307_23 (d := 80) hI.2.2.2.1.1 ⟨fun _ => hQ σ, fun c => ?_⟩
    exfalso; apply c; rw [hI.2.2.2.1.2.1, l7 hL (by omega)]; omega
  | succ t ih =>
    intro k B σ x5 x6 x7 hk hf hb1 hb2 hI
    obtain ⟨mv, kv, img, tp, n, fl, hI⟩ := hI
    refine g_307_23 (d := 80) hI.2.2.2.1.1 ⟨fun _ => hQ σ, fun c => ?_⟩
    rw [hI.2.2.2.1.2.1, l7 hL (by omega)] at c
    refine ⟨by rw [hI.2.2.2.1.2.1]; exact (by simp (disch := omega) only [J_add, J_mul, J_sub, J_cl, vp_J]; omega), ?_⟩
    refine law_40 hI ⟨by omega, by omega⟩ (by omega) hL (fun ρ y5 y6 y7 B2 hB2 hI2 => ?_)
    refine g_307_3268 (d := 80) ?_
    rw [J_add]
    exact ih (k + 7) B2 ρ y5 y6 y7 (by omega) (by omega) (by omega) (by omega) hI2
