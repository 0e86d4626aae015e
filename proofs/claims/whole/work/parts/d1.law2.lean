/-! ===== the law's cases: a call of the class, the same call of the reference ===== -/
variable {B : Nat × Nat} {Q : Out → Sto → Prop} {P : Nat → Nat → Prop} {σ τ : Sto} {L : Nat} {mv kv mv' kv' mv2 kv2 : Mem} {img img' img2 : Bool} {tp tp' tp2 : Mem} {n n' n2 : Nat} {fl fl' fl2 : Option Nat} {xs : Nat → Int32}
theorem vq {k i : Nat} (h : SCt σ L xs) (hk : k + 7 ≤ L) (hL : L ≤ 3584) (hi : i ≤ 6) : vp_in (J k + J i) (sZ σ 0) := by rw [h.1.2.1, J_add]; exact vpS (by omega) (by omega)
theorem cellS {k i : Nat} (h : SCt σ L xs) (hk : k + i < 2147483648) : sI σ 0 (J k + J i).toNatClampNeg = xs (k + i) := by rw [J_add, J_cl hk]; exact h.1.2.2 _
theorem LI2.ow {w : Int64} {R : Sto → Prop} (m : LI2 L xs σ mv kv img tp n fl mv' kv' img' tp' n' fl') (h : ∀ χ, LI2 L xs χ mv kv img tp n fl mv' kv' img' tp' n' fl' → sL χ 277 0 = w → R χ) : R (setL σ 277 0 w) := h _ m.o sL_same
theorem lgs (a : Int64) : lg_cmp a a = J 0 := by
  have h1 := (lg_cmp_le a a).mpr (Int64.le_refl a)
  have h2 := (lg_cmp_ge a a).mpr (Int64.le_refl a)
  rw [Int32.le_iff_toInt_le] at h1 h2
  exact Int32.toInt_inj.mp (Int.le_antisymm h1 h2)
theorem tl0 {W1 W2 W3 W4 : Prop} {w u : Int64} (h1 : S_12 τ 260) (hS : SCt τ L xs) (ht : sI τ 260 0 = J 0) (hw : sL τ 277 0 = w) (hN : W1) : S_12 τ 260 ∧ (sK τ 277 = 15 ∧ (((f_161 τ 260) = J 0 → ((J 0 = J 0 → (vp_in (J 0) (sZ τ 277) ∧ (((lg_cmp (sL τ 277 0) w) = (J 0) → W1) ∧ (¬ ((lg_cmp (sL τ 277 0) w) = (J 0)) → W2)))) ∧ (¬ (J 0 = (J 0)) → W3))) ∧ (¬ ((f_161 τ 260) = J 0) → W4))) :=
  ⟨h1, hS.2.1, fun _ => ⟨fun _ => ⟨by rw [hS.2.2]; exact (by simp (disch := omega) only [J_add, J_mul, J_sub, J_cl, vp_J]; omega), fun _ => hN, fun c => absurd (by rw [hw]; exact lgs w) c⟩, fun c => absurd rfl c⟩, fun c => absurd ht c⟩
theorem tl1 {W1 W2 W3 W4 : Prop} {u : Int64} (h1 : S_12 τ 260) (hS : SCt τ L xs) (ht : sI τ 260 0 = J 1) (hN : W3) : S_12 τ 260 ∧ (sK τ 277 = 15 ∧ (((f_161 τ 260) = Int32.ofInt 1 → ((Int32.ofInt 1 = J 0 → (vp_in (J 0) (sZ τ 277) ∧ (((lg_cmp (sL τ 277 0) u) = (J 0) → W1) ∧ (¬ ((lg_cmp (sL τ 277 0) u) = (J 0)) → W2)))) ∧ (¬ (Int32.ofInt 1 = (J 0)) → W3))) ∧ (¬ ((f_161 τ 260) = Int32.ofInt 1) → W4))) :=
  ⟨h1, hS.2.1, fun _ => ⟨fun c => absurd c (by decide), fun _ => hN⟩, fun c => absurd (ht.trans rfl) c⟩
theorem tl2 {W1 W2 W3 W4 : Prop} {u : Int64} (h1 : S_12 τ 260) (hS : SCt τ L xs) (ht : sI τ 260 0 = J 2) (hN : W3) : S_12 τ 260 ∧ (sK τ 277 = 15 ∧ (((f_161 τ 260) = Int32.ofInt 2 → ((Int32.ofInt 2 = J 0 → (vp_in (J 0) (sZ τ 277) ∧ (((lg_cmp (sL τ 277 0) u) = (J 0) → W1) ∧ (¬ ((lg_cmp (sL τ 277 0) u) = (J 0)) → W2)))) ∧ (¬ (Int32.ofInt 2 = (J 0)) → W3))) ∧ (¬ ((f_161 τ 260) = Int32.ofInt 2) → W4))) :=
  ⟨h1, hS.2.1, fun _ => ⟨fun c => absurd c (by decide), fun _ => hN⟩, fun c => absurd (ht.trans rfl) c⟩
theorem tl3 {W1 W2 W3 W4 : Prop} {u : Int64} (h1 : S_12 τ 260) (hS : SCt τ L xs) (ht : sI τ 260 0 = J 3) (hN : W3) : S_12 τ 260 ∧ (sK τ 277 = 15 ∧ (((f_161 τ 260) = Int32.ofInt 3 → ((Int32.ofInt 3 = J 0 → (vp_in (J 0) (sZ τ 277) ∧ (((lg_cmp (sL τ 277 0) u) = (J 0) → W1) ∧ (¬ ((lg_cmp (sL τ 277 0) u) = (J 0)) → W2)))) ∧ (¬ (Int32.ofInt 3 = (J 0)) → W3))) ∧ (¬ ((f_161 τ 260) = Int32.ofInt 3) → W4))) :=
  ⟨h1, hS.2.1, fun _ => ⟨fun c => absurd c (by decide), fun _ => hN⟩, fun c => absurd (ht.trans rfl) c⟩
theorem tlv {W1 W4 : Prop} {c : Int32} (h1 : S_12 τ 260) (ht : sI τ 260 0 = c) (hN : W1) : S_12 τ 260 ∧ (((f_161 τ 260) = c → W1) ∧ (¬ ((f_161 τ 260) = c) → W4)) := ⟨h1, fun _ => hN, fun k => absurd ht k⟩
theorem law_969 {k : Nat} {x5 x6 x7 : Value} (hI : LI2 L xs σ mv kv img tp n fl mv kv img tp n fl) (hB : 16 ≤ B.1 ∧ 1000 ≤ B.2) (hk : k + 7 ≤ L) (hL : L ≤ 3584) (hN : NX7 80 B L xs (J k) Q) : WP gT (80 + 20) B 307 969 [.ref 0, .ref 96, .ref 260, .ref 277, .int (J k), x5, x6, x7] [] σ Q := by
  have hv := hI.1.mv_.1
  have ho := hI.1.mv_.2.1
  have hs := hv.s
  have hos := ho.s
  have hn := hI.1.1.2.2.2.2.2.1.2
  refine g_307_969 (d := 80) hI.2.2.2.1.1 hB ?_
  refine ⟨vq hI.2.2.2 hk hL (show 1 ≤ 6 by omega), vq hI.2.2.2 hk hL (show 2 ≤ 6 by omega), ?_⟩
  rw [cellS hI.2.2.2 (i := 1) (by omega), cellS hI.2.2.2 (i := 2) (by omega)]
  refine g_277_0 (d := 80) hI.1.sh (cc_level (d := 80) (x0 := 96) hI.1 ⟨by decide, by decide⟩ (fun k1 k2 c0 c1 ea1 ea2 τ hc hf => ?_) (fun c0 => ?_))
  · have m := hI.c hc hf.f2
    refine ⟨m.oc.1, m.oc.2, m.ow (fun χ m hout => ?_)⟩
    dsimp only [oI]
    intro B2 hB2
    subst hB2
    refine ⟨m.2.2.2.1.1, m.2.1.1, vq m.2.2.2 hk hL (show 1 ≤ 6 by omega), vq m.2.2.2 hk hL (show 2 ≤ 6 by omega), ?_⟩
    rw [cellS m.2.2.2 (i := 1) (by omega), cellS m.2.2.2 (i := 2) (by omega)]
    refine rr_level (d := 94) (y0 := 260) rfl hv ho m.2.1 (fun k1_r k2_r c0_r c1_r ea1_r ea2_r τ_r hc_r hf_r ht_r => ?_) (fun c0_r τ_r vv_r hc_r hf_r ht_r => ?_)
    · have qa1 := IX_J ea1 ea1_r (by omega) (by omega)
      subst qa1
      have qa2 := IX_J ea2 ea2_r (by omega) (by omega)
      subst qa2
      have LL := m.r hc_r hf_r
      have hS := m.2.2.2.fr hf_r (fun p j k => by omega)
      have hw := (hf_r.l (p := 277) (j := 0) (by omega)).trans hout
      exact tl0 hc_r.1 hS ht_r hw (hN _ _ _ _ _ ⟨Nat.le_refl _, Nat.le_refl _⟩ LL)
    · exfalso
      exact c0_r ⟨⟨k1, (by omega), ea1⟩, ⟨k2, (by omega), ea2⟩⟩
  · have m := hI
    refine ⟨by decide, ?_⟩
    rw [show hfind (tHD gT 277) 5 0 = some 1 from by decide +kernel]
    dsimp only [oI]
    intro B2 hB2
    subst hB2
    refine ⟨m.2.2.2.1.1, m.2.1.1, vq m.2.2.2 hk hL (show 1 ≤ 6 by omega), vq m.2.2.2 hk hL (show 2 ≤ 6 by omega), ?_⟩
    rw [cellS m.2.2.2 (i := 1) (by omega), cellS m.2.2.2 (i := 2) (by omega)]
    refine rr_level (d := 94) (y0 := 260) rfl hv ho m.2.1 (fun k1_r k2_r c0_r c1_r ea1_r ea2_r τ_r hc_r hf_r ht_r => ?_) (fun c0_r τ_r vv_r hc_r hf_r ht_r => ?_)
    · exfalso
      exact c0 ⟨⟨k1_r, (by omega), ea1_r⟩, ⟨k2_r, (by omega), ea2_r⟩⟩
    · have LL := m.r hc_r hf_r
      have hS := m.2.2.2.fr hf_r (fun p j k => by omega)
      exact tl1 hc_r.1 hS ht_r (hN _ _ _ _ _ ⟨Nat.le_refl _, Nat.le_refl _⟩ LL)
