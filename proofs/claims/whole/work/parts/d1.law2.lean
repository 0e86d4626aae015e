/-! ===== the law's cases: a call of the class, the same call of the reference ===== -/
variable {B : Nat × Nat} {Q : Out → Sto → Prop} {P : Nat → Nat → Prop} {σ τ : Sto} {L : Nat} {mv kv mv' kv' mv2 kv2 : Mem} {img img' img2 : Bool} {tp tp' tp2 : Mem} {n n' n2 : Nat} {fl fl' fl2 : Option Nat} {xs : Nat → Int32}
theorem vq {k i : Nat} (h : SCt σ L xs) (hk : k + 7 ≤ L) (hL : L ≤ 3584) (hi : i ≤ 6) : vp_in (J k + J i) (sZ σ 0) := by rw [h.1.2.1, J_add]; exact (by simp (disch := omega) only [J_add, J_mul, J_sub, J_cl, vp_J]; omega)
theorem cellS {k i : Nat} (h : SCt σ L xs) (hk : k + i < 2147483648) : sI σ 0 (J k + J i).toNatClampNeg = xs (k + i) := by rw [J_add, J_cl hk]; exact h.1.2.2 _
theorem LI2.ow {w : Int64} {R : Sto → Prop} (m : LI2 L xs σ mv kv img tp n fl mv' kv' img' tp' n' fl') (h : ∀ χ, LI2 L xs χ mv kv img tp n fl mv' kv' img' tp' n' fl' → sL χ 277 0 = w → R χ) : R (setL σ 277 0 w) := h _ m.o sL_same
theorem lgs (a : Int64) : lg_cmp a a = J 0 := by
  have h1 := (lg_cmp_le a a).mpr (Int64.le_refl a)
  have h2 := (lg_cmp_ge a a).mpr (Int64.le_refl a)
  rw [Int32.le_iff_toInt_le] at h1 h2
  exact Int32.toInt_inj.mp (Int.le_antisymm h1 h2)
theorem tl0 {W1 W2 W3 W4 : Prop} {w : Int64} (h1 : S_12 τ 260) (hS : SCt τ L xs) (ht : sI τ 260 0 = J 0) (hw : sL τ 277 0 = w) (hN : W1) : S_12 τ 260 ∧ (sK τ 277 = 15 ∧ (((f_161 τ 260) = J 0 → ((J 0 = J 0 → (vp_in (J 0) (sZ τ 277) ∧ (((lg_cmp (sL τ 277 0) w) = (J 0) → W1) ∧ (¬ ((lg_cmp (sL τ 277 0) w) = (J 0)) → W2)))) ∧ (¬ (J 0 = (J 0)) → W3))) ∧ (¬ ((f_161 τ 260) = J 0) → W4))) :=
  ⟨h1, hS.2.1, fun _ => ⟨fun _ => ⟨by rw [hS.2.2]; exact (by simp (disch := omega) only [J_add, J_mul, J_sub, J_cl, vp_J]; omega), fun _ => hN, fun c => absurd (by rw [hw]; exact lgs w) c⟩, fun c => absurd rfl c⟩, fun c => absurd ht c⟩
theorem tl1 {W1 W2 W3 W4 : Prop} {u : Int64} (h1 : S_12 τ 260) (hS : SCt τ L xs) (ht : sI τ 260 0 = J 1) (hN : W3) : S_12 τ 260 ∧ (sK τ 277 = 15 ∧ (((f_161 τ 260) = Int32.ofInt 1 → ((Int32.ofInt 1 = J 0 → (vp_in (J 0) (sZ τ 277) ∧ (((lg_cmp (sL τ 277 0) u) = (J 0) → W1) ∧ (¬ ((lg_cmp (sL τ 277 0) u) = (J 0)) → W2)))) ∧ (¬ (Int32.ofInt 1 = (J 0)) → W3))) ∧ (¬ ((f_161 τ 260) = Int32.ofInt 1) → W4))) :=
  ⟨h1, hS.2.1, fun _ => ⟨fun c => absurd c (by decide), fun _ => hN⟩, fun c => absurd (ht.trans rfl) c⟩
theorem tl2 {W1 W2 W3 W4 : Prop} {u : Int64} (h1 : S_12 τ 260) (hS : SCt τ L xs) (ht : sI τ 260 0 = J 2) (hN : W3) : S_12 τ 260 ∧ (sK τ 277 = 15 ∧ (((f_161 τ 260) = Int32.ofInt 2 → ((Int32.ofInt 2 = J 0 → (vp_in (J 0) (sZ τ 277) ∧ (((lg_cmp (sL τ 277 0) u) = (J 0) → W1) ∧ (¬ ((lg_cmp (sL τ 277 0) u) = (J 0)) → W2)))) ∧ (¬ (Int32.ofInt 2 = (J 0)) → W3))) ∧ (¬ ((f_161 τ 260) = Int32.ofInt 2) → W4))) :=
  ⟨h1, hS.2.1, fun _ => ⟨fun c => absurd c (by decide), fun _ => hN⟩, fun c => absurd (ht.trans rfl) c⟩
theorem tl3 {W1 W2 W3 W4 : Prop} {u : Int64} (h1 : S_12 τ 260) (hS : SCt τ L xs) (ht : sI τ 260 0 = J 3) (hN : W3) : S_12 τ 260 ∧ (sK τ 277 = 15 ∧ (((f_161 τ 260) = Int32.ofInt 3 → ((Int32.ofInt 3 = J 0 → (vp_in (J 0) (sZ τ 277) ∧ (((lg_cmp (sL τ 277 0) u) = (J 0) → W1) ∧ (¬ ((lg_cmp (sL τ 277 0) u) = (J 0)) → W2)))) ∧ (¬ (Int32.ofInt 3 = (J 0)) → W3))) ∧ (¬ ((f_161 τ 260) = Int32.ofInt 3) → W4))) :=
  ⟨h1, hS.2.1, fun _ => ⟨fun c => absurd c (by decide), fun _ => hN⟩, fun c => absurd (ht.trans rfl) c⟩
theorem tlv {W1 W4 : Prop} {c : Int32} (h1 : S_12 τ 260) (ht : sI τ 260 0 = c) (hN : W1) : S_12 τ 260 ∧ (((f_161 τ 260) = c → W1) ∧ (¬ ((f_161 τ 260) = c) → W4)) := ⟨h1, fun _ => hN, fun k => absurd ht k⟩
theorem law_342 {k : Nat} {x5 x6 x7 : Value} (hI : LI2 L xs σ mv kv img tp n fl mv kv img tp n fl) (hB : 16 ≤ B.1 ∧ 1000 ≤ B.2) (hk : k + 7 ≤ L) (hL : L ≤ 3584) (hN : NX7 80 B L xs (J k) Q) : WP gT (80 + 20) B 307 342 [.ref 0, .ref 96, .ref 260, .ref 277, .int (J k), x5, x6, x7] [] σ Q := by
  have hv := hI.1.mv_.1
  have ho := hI.1.mv_.2.1
  have hs := hv.s
  have hos := ho.s
  have hn := hI.1.1.2.2.2.2.2.1.2
  refine g_307_342 (d := 80) hB ?_
  refine g_268_0 (d := 82) hI.1.sh (cc_gorge (d := 82) (x0 := 96) hI.1 ⟨by decide, by decide⟩ hI.2.2.1 (fun mv'q qq c0 c1 τ hc hf => ?_) (fun fq c0 τ hc hf => ?_) (fun mv'q qq c0 c1 τ hc hf => ?_))
  · have m := hI.c hc hf.f2
    refine ⟨m.oc.1, m.oc.2, m.ow (fun χ m hout => ?_)⟩
    dsimp only [oI]
    intro B2 hB2
    subst hB2
    refine ⟨m.2.1.1, ?_⟩
    refine rr_gorge (d := 91) (y0 := 260) rfl hv ⟨hn.1, fun k hk => (hn.2 k hk).2⟩ m.2.2.1 m.2.1 (fun mv'q_r qq_r c0_r c1_r τ_r hc_r hf_r ht_r => ?_) (fun fq_r c0_r τ_r hc_r hf_r ht_r => ?_) (fun mv'q_r qq_r c0_r c1_r τ_r hc_r hf_r ht_r => ?_)
    · rw [c0] at c0_r
      cases c0_r
      have LL := m.r hc_r hf_r
      have hS := m.2.2.2.fr hf_r (fun p j k => by omega)
      have hw := (hf_r.l (p := 277) (j := 0) (by omega)).trans hout
      exact tl0 hc_r.1 hS ht_r hw (hN _ _ _ _ _ ⟨Nat.le_refl _, Nat.le_refl _⟩ LL)
    · exfalso
      first | omega | (rw [c0] at c0_r; cases c0_r)
    · exfalso
      first | omega | (rw [c0] at c0_r; cases c0_r)
  · have m := hI.c hc hf.f2
    refine ⟨by decide, ?_⟩
    rw [show hfind (tHD gT 268) 3 1 = some 1 from by decide +kernel]
    dsimp only [oI]
    intro B2 hB2
    subst hB2
    refine ⟨m.2.1.1, ?_⟩
    refine rr_gorge (d := 91) (y0 := 260) rfl hv ⟨hn.1, fun k hk => (hn.2 k hk).2⟩ m.2.2.1 m.2.1 (fun mv'q_r qq_r c0_r c1_r τ_r hc_r hf_r ht_r => ?_) (fun fq_r c0_r τ_r hc_r hf_r ht_r => ?_) (fun mv'q_r qq_r c0_r c1_r τ_r hc_r hf_r ht_r => ?_)
    · exfalso
      first | omega | (rw [c0] at c0_r; cases c0_r)
    · rw [c0] at c0_r
      cases c0_r
      have LL := m.r hc_r hf_r
      have hS := m.2.2.2.fr hf_r (fun p j k => by omega)
      exact tl1 hc_r.1 hS ht_r (hN _ _ _ _ _ ⟨Nat.le_refl _, Nat.le_refl _⟩ LL)
    · exfalso
      first | omega | (rw [c0] at c0_r; cases c0_r)
  · have m := hI.c hc hf.f2
    refine ⟨by decide, ?_⟩
    rw [show hfind (tHD gT 268) 3 2 = some 2 from by decide +kernel]
    dsimp only [oI]
    intro B2 hB2
    subst hB2
    refine ⟨m.2.1.1, ?_⟩
    refine rr_gorge (d := 91) (y0 := 260) rfl hv ⟨hn.1, fun k hk => (hn.2 k hk).2⟩ m.2.2.1 m.2.1 (fun mv'q_r qq_r c0_r c1_r τ_r hc_r hf_r ht_r => ?_) (fun fq_r c0_r τ_r hc_r hf_r ht_r => ?_) (fun mv'q_r qq_r c0_r c1_r τ_r hc_r hf_r ht_r => ?_)
    · exfalso
      first | omega | (rw [c0] at c0_r; cases c0_r)
    · exfalso
      first | omega | (rw [c0] at c0_r; cases c0_r)
    · rw [c0] at c0_r
      cases c0_r
      have LL := m.r hc_r hf_r
      have hS := m.2.2.2.fr hf_r (fun p j k => by omega)
      exact tl2 hc_r.1 hS ht_r (hN _ _ _ _ _ ⟨Nat.le_refl _, Nat.le_refl _⟩ LL)
theorem law_386 {k : Nat} {x5 x6 x7 : Value} (hI : LI2 L xs σ mv kv img tp n fl mv kv img tp n fl) (hB : 16 ≤ B.1 ∧ 1000 ≤ B.2) (hk : k + 7 ≤ L) (hL : L ≤ 3584) (hN : NX7 80 B L xs (J k) Q) : WP gT (80 + 20) B 307 386 [.ref 0, .ref 96, .ref 260, .ref 277, .int (J k), x5, x6, x7] [] σ Q := by
  have hv := hI.1.mv_.1
  have ho := hI.1.mv_.2.1
  have hs := hv.s
  have hos := ho.s
  have hn := hI.1.1.2.2.2.2.2.1.2
  refine g_307_386 (d := 80) hB ?_
  refine g_269_0 (d := 82) hI.1.sh (cc_rule (d := 74) (x0 := 96) hI.1 ⟨by decide, by decide⟩ hI.2.2.1 (fun lq qq c0 c1 τ hc hf => ?_) (fun fq c0 τ hc hf => ?_) (fun lq qq c0 c1 τ hc hf => ?_))
  · have m := hI.c hc hf
    refine ⟨m.oc.1, m.oc.2, m.ow (fun χ m hout => ?_)⟩
    dsimp only [oI]
    intro B2 hB2
    subst hB2
    refine ⟨m.2.1.1, ?_⟩
    refine rr_rule (d := 68) (y0 := 260) rfl hv ho ⟨hn.1, fun k hk => (hn.2 k hk).2⟩ m.2.2.1 m.2.1 (fun lq_r qq_r c0_r c1_r τ_r hc_r hf_r ht_r => ?_) (fun fq_r c0_r τ_r hc_r hf_r ht_r => ?_) (fun lq_r qq_r c0_r c1_r τ_r hc_r hf_r ht_r => ?_)
    · rw [c0] at c0_r
      cases c0_r
      have LL := m.r hc_r hf_r
      have hS := m.2.2.2.fr hf_r (fun p j k => by omega)
      have hw := (hf_r.l (p := 277) (j := 0) (by omega)).trans hout
      exact tl0 hc_r.1 hS ht_r hw (hN _ _ _ _ _ ⟨Nat.le_refl _, Nat.le_refl _⟩ LL)
    · exfalso
      first | omega | (rw [c0] at c0_r; cases c0_r)
    · exfalso
      first | omega | (rw [c0] at c0_r; cases c0_r)
  · have m := hI.c hc hf
    refine ⟨by decide, ?_⟩
    rw [show hfind (tHD gT 269) 3 1 = some 1 from by decide +kernel]
    dsimp only [oI]
    intro B2 hB2
    subst hB2
    refine ⟨m.2.1.1, ?_⟩
    refine rr_rule (d := 68) (y0 := 260) rfl hv ho ⟨hn.1, fun k hk => (hn.2 k hk).2⟩ m.2.2.1 m.2.1 (fun lq_r qq_r c0_r c1_r τ_r hc_r hf_r ht_r => ?_) (fun fq_r c0_r τ_r hc_r hf_r ht_r => ?_) (fun lq_r qq_r c0_r c1_r τ_r hc_r hf_r ht_r => ?_)
    · exfalso
      first | omega | (rw [c0] at c0_r; cases c0_r)
    · rw [c0] at c0_r
      cases c0_r
      have LL := m.r hc_r hf_r
      have hS := m.2.2.2.fr hf_r (fun p j k => by omega)
      exact tl1 hc_r.1 hS ht_r (hN _ _ _ _ _ ⟨Nat.le_refl _, Nat.le_refl _⟩ LL)
    · exfalso
      first | omega | (rw [c0] at c0_r; cases c0_r)
  · have m := hI.c hc hf
    refine ⟨by decide, ?_⟩
    rw [show hfind (tHD gT 269) 3 2 = some 2 from by decide +kernel]
    dsimp only [oI]
    intro B2 hB2
    subst hB2
    refine ⟨m.2.1.1, ?_⟩
    refine rr_rule (d := 68) (y0 := 260) rfl hv ho ⟨hn.1, fun k hk => (hn.2 k hk).2⟩ m.2.2.1 m.2.1 (fun lq_r qq_r c0_r c1_r τ_r hc_r hf_r ht_r => ?_) (fun fq_r c0_r τ_r hc_r hf_r ht_r => ?_) (fun lq_r qq_r c0_r c1_r τ_r hc_r hf_r ht_r => ?_)
    · exfalso
      first | omega | (rw [c0] at c0_r; cases c0_r)
    · exfalso
      first | omega | (rw [c0] at c0_r; cases c0_r)
    · rw [c0] at c0_r
      cases c0_r
      have LL := m.r hc_r hf_r
      have hS := m.2.2.2.fr hf_r (fun p j k => by omega)
      exact tl2 hc_r.1 hS ht_r (hN _ _ _ _ _ ⟨Nat.le_refl _, Nat.le_refl _⟩ LL)
theorem law_443 {k : Nat} {x5 x6 x7 : Value} (hI : LI2 L xs σ mv kv img tp n fl mv kv img tp n fl) (hB : 16 ≤ B.1 ∧ 1000 ≤ B.2) (hk : k + 7 ≤ L) (hL : L ≤ 3584) (hN : NX7 80 B L xs (J k) Q) : WP gT (80 + 20) B 307 443 [.ref 0, .ref 96, .ref 260, .ref 277, .int (J k), x5, x6, x7] [] σ Q := by
  have hv := hI.1.mv_.1
  have ho := hI.1.mv_.2.1
  have hs := hv.s
  have hos := ho.s
  have hn := hI.1.1.2.2.2.2.2.1.2
  refine g_307_443 (d := 80) hB ?_
  refine g_270_0 (d := 81) hI.1.sh (cc_open (d := 81) (x0 := 96) hI.1 ⟨by decide, by decide⟩ (fun c0 τ hc hf => ?_) (fun c0 => ?_))
  · have m := hI.c hc hf.f2
    refine ⟨m.oc.1, m.oc.2, m.ow (fun χ m hout => ?_)⟩
    dsimp only [oI]
    intro B2 hB2
    subst hB2
    refine ⟨m.2.1.1, ?_⟩
    refine rr_open (d := 99) (y0 := 260) rfl ho m.2.1 (fun c0_r τ_r hc_r hf_r ht_r => ?_) (fun c0_r τ_r vv_r hc_r hf_r ht_r => ?_)
    · have LL := m.r hc_r hf_r
      have hS := m.2.2.2.fr hf_r (fun p j k => by omega)
      have hw := (hf_r.l (p := 277) (j := 0) (by omega)).trans hout
      exact tl0 hc_r.1 hS ht_r hw (hN _ _ _ _ _ ⟨Nat.le_refl _, Nat.le_refl _⟩ LL)
    · exfalso
      exact c0_r (by first | assumption | omega)
  · have m := hI
    refine ⟨by decide, ?_⟩
    rw [show hfind (tHD gT 270) 3 2 = some 1 from by decide +kernel]
    dsimp only [oI]
    intro B2 hB2
    subst hB2
    refine ⟨m.2.1.1, ?_⟩
    refine rr_open (d := 99) (y0 := 260) rfl ho m.2.1 (fun c0_r τ_r hc_r hf_r ht_r => ?_) (fun c0_r τ_r vv_r hc_r hf_r ht_r => ?_)
    · exfalso
      exact c0 (by first | assumption | omega)
    · have LL := m.r hc_r hf_r
      have hS := m.2.2.2.fr hf_r (fun p j k => by omega)
      exact tl1 hc_r.1 hS ht_r (hN _ _ _ _ _ ⟨Nat.le_refl _, Nat.le_refl _⟩ LL)
theorem law_487 {k : Nat} {x5 x6 x7 : Value} (hI : LI2 L xs σ mv kv img tp n fl mv kv img tp n fl) (hB : 16 ≤ B.1 ∧ 1000 ≤ B.2) (hk : k + 7 ≤ L) (hL : L ≤ 3584) (hN : NX7 80 B L xs (J k) Q) : WP gT (80 + 20) B 307 487 [.ref 0, .ref 96, .ref 260, .ref 277, .int (J k), x5, x6, x7] [] σ Q := by
  have hv := hI.1.mv_.1
  have ho := hI.1.mv_.2.1
  have hs := hv.s
  have hos := ho.s
  have hn := hI.1.1.2.2.2.2.2.1.2
  refine g_307_487 (d := 80) hI.2.2.2.1.1 hB ?_
  refine ⟨vq hI.2.2.2 hk hL (show 1 ≤ 6 by omega), ?_⟩
  rw [cellS hI.2.2.2 (i := 1) (by omega)]
  refine g_271_0 (d := 80) hI.1.sh (cc_copy (d := 80) (x0 := 96) hI.1 ⟨by decide, by decide⟩ (fun k1q c0 c1 ea1 τ hc hf => ?_) (fun c0 => ?_) (fun c0 c1 => ?_))
  · have m := hI.c hc hf.f2
    refine ⟨m.oc.1, m.oc.2, m.ow (fun χ m hout => ?_)⟩
    dsimp only [oI]
    intro B2 hB2
    subst hB2
    refine ⟨m.2.2.2.1.1, m.2.1.1, vq m.2.2.2 hk hL (show 1 ≤ 6 by omega), ?_⟩
    rw [cellS m.2.2.2 (i := 1) (by omega)]
    refine rr_copy (d := 97) (y0 := 260) rfl ho m.2.1 (fun k1q_r c0_r c1_r ea1_r τ_r hc_r hf_r ht_r => ?_) (fun c0_r τ_r vv_r hc_r hf_r ht_r => ?_) (fun c0_r c1_r τ_r vv_r hc_r hf_r ht_r => ?_)
    · have qa1 := IX_J ea1 ea1_r (by omega) (by omega)
      subst qa1
      have LL := m.r hc_r hf_r
      have hS := m.2.2.2.fr hf_r (fun p j k => by omega)
      have hw := (hf_r.l (p := 277) (j := 0) (by omega)).trans hout
      exact tl0 hc_r.1 hS ht_r hw (hN _ _ _ _ _ ⟨Nat.le_refl _, Nat.le_refl _⟩ LL)
    · exfalso
      exact c0_r ⟨k1q, (by omega), ea1⟩
    · exfalso
      exact c1_r (by first | assumption | omega)
  · have m := hI
    refine ⟨by decide, ?_⟩
    rw [show hfind (tHD gT 271) 4 0 = some 1 from by decide +kernel]
    dsimp only [oI]
    intro B2 hB2
    subst hB2
    refine ⟨m.2.2.2.1.1, m.2.1.1, vq m.2.2.2 hk hL (show 1 ≤ 6 by omega), ?_⟩
    rw [cellS m.2.2.2 (i := 1) (by omega)]
    refine rr_copy (d := 97) (y0 := 260) rfl ho m.2.1 (fun k1q_r c0_r c1_r ea1_r τ_r hc_r hf_r ht_r => ?_) (fun c0_r τ_r vv_r hc_r hf_r ht_r => ?_) (fun c0_r c1_r τ_r vv_r hc_r hf_r ht_r => ?_)
    · exfalso
      exact c0 ⟨k1q_r, (by omega), ea1_r⟩
    · have LL := m.r hc_r hf_r
      have hS := m.2.2.2.fr hf_r (fun p j k => by omega)
      exact tl1 hc_r.1 hS ht_r (hN _ _ _ _ _ ⟨Nat.le_refl _, Nat.le_refl _⟩ LL)
    · exfalso
      first | omega | contradiction
  · have m := hI
    refine ⟨by decide, ?_⟩
    rw [show hfind (tHD gT 271) 4 2 = some 2 from by decide +kernel]
    dsimp only [oI]
    intro B2 hB2
    subst hB2
    refine ⟨m.2.2.2.1.1, m.2.1.1, vq m.2.2.2 hk hL (show 1 ≤ 6 by omega), ?_⟩
    rw [cellS m.2.2.2 (i := 1) (by omega)]
    refine rr_copy (d := 97) (y0 := 260) rfl ho m.2.1 (fun k1q_r c0_r c1_r ea1_r τ_r hc_r hf_r ht_r => ?_) (fun c0_r τ_r vv_r hc_r hf_r ht_r => ?_) (fun c0_r c1_r τ_r vv_r hc_r hf_r ht_r => ?_)
    · exfalso
      exact c1 (by first | assumption | omega)
    · exfalso
      first | omega | contradiction
    · have LL := m.r hc_r hf_r
      have hS := m.2.2.2.fr hf_r (fun p j k => by omega)
      exact tl2 hc_r.1 hS ht_r (hN _ _ _ _ _ ⟨Nat.le_refl _, Nat.le_refl _⟩ LL)
theorem law_543 {k : Nat} {x5 x6 x7 : Value} (hI : LI2 L xs σ mv kv img tp n fl mv kv img tp n fl) (hB : 16 ≤ B.1 ∧ 1000 ≤ B.2) (hk : k + 7 ≤ L) (hL : L ≤ 3584) (hN : NX7 80 B L xs (J k) Q) : WP gT (80 + 20) B 307 543 [.ref 0, .ref 96, .ref 260, .ref 277, .int (J k), x5, x6, x7] [] σ Q := by
  have hv := hI.1.mv_.1
  have ho := hI.1.mv_.2.1
  have hs := hv.s
  have hos := ho.s
  have hn := hI.1.1.2.2.2.2.2.1.2
  refine g_307_543 (d := 80) hI.2.2.2.1.1 hB ?_
  refine ⟨vq hI.2.2.2 hk hL (show 1 ≤ 6 by omega), vq hI.2.2.2 hk hL (show 2 ≤ 6 by omega), vq hI.2.2.2 hk hL (show 3 ≤ 6 by omega), vq hI.2.2.2 hk hL (show 4 ≤ 6 by omega), vq hI.2.2.2 hk hL (show 5 ≤ 6 by omega), ?_⟩
  rw [cellS hI.2.2.2 (i := 1) (by omega), cellS hI.2.2.2 (i := 2) (by omega), cellS hI.2.2.2 (i := 3) (by omega), cellS hI.2.2.2 (i := 4) (by omega), cellS hI.2.2.2 (i := 5) (by omega)]
  refine g_272_0 (d := 80) hI.1.sh (cc_step (d := 80) (x0 := 96) hI.1 ⟨by decide, by decide⟩ (fun k1q k2q k3q k4q k5q c0 c1 c2 c3 c4 c5 ea1 ea2 ea3 ea4 ea5 τ hc hf => ?_) (fun c0 => ?_) (fun c0 c1 => ?_))
  · have m := hI.c hc hf.f2
    dsimp only [oI]
    intro B2 hB2
    subst hB2
    refine ⟨m.2.2.2.1.1, m.2.1.1, vq m.2.2.2 hk hL (show 1 ≤ 6 by omega), vq m.2.2.2 hk hL (show 2 ≤ 6 by omega), vq m.2.2.2 hk hL (show 3 ≤ 6 by omega), vq m.2.2.2 hk hL (show 4 ≤ 6 by omega), vq m.2.2.2 hk hL (show 5 ≤ 6 by omega), ?_⟩
    rw [cellS m.2.2.2 (i := 1) (by omega), cellS m.2.2.2 (i := 2) (by omega), cellS m.2.2.2 (i := 3) (by omega), cellS m.2.2.2 (i := 4) (by omega), cellS m.2.2.2 (i := 5) (by omega)]
    refine rr_step (d := 97) (y0 := 260) rfl hv ho m.2.1 (fun k1q_r k2q_r k3q_r k4q_r k5q_r c0_r c1_r c2_r c3_r c4_r c5_r ea1_r ea2_r ea3_r ea4_r ea5_r τ_r hc_r hf_r ht_r => ?_) (fun c0_r τ_r hc_r hf_r ht_r => ?_) (fun c0_r c1_r τ_r hc_r hf_r ht_r => ?_)
    · have qa1 := IX_J ea1 ea1_r (by omega) (by omega)
      subst qa1
      have qa2 := IX_J ea2 ea2_r (by omega) (by omega)
      subst qa2
      have qa3 := IX_J ea3 ea3_r (by omega) (by omega)
      subst qa3
      have qa4 := IX_J ea4 ea4_r (by omega) (by omega)
      subst qa4
      have qa5 := IX_J ea5 ea5_r (by omega) (by omega)
      subst qa5
      have LL := m.r hc_r hf_r
      have hS := m.2.2.2.fr hf_r (fun p j k => by omega)
      exact tlv hc_r.1 (ht_r.trans rfl) (hN _ _ _ _ _ ⟨Nat.le_refl _, Nat.le_refl _⟩ LL)
    · exfalso
      exact c0_r (by unfold stpC1; exact ⟨⟨k1q, (by omega), ea1⟩, ⟨k2q, (by omega), ea2⟩, ⟨k3q, (by omega), ea3⟩, ⟨k4q, (by omega), ea4⟩⟩)
    · exfalso
      exact c1_r (by unfold stpC2; exact ⟨(by rw [ea3, ea4, J_lt (by omega) (by omega)]; omega), ⟨k5q, (by omega), (by omega), ea5⟩⟩)
  · have m := hI
    refine ⟨by decide, ?_⟩
    rw [show hfind (tHD gT 272) 8 0 = some 1 from by decide +kernel]
    dsimp only [oI]
    intro B2 hB2
    subst hB2
    refine ⟨m.2.2.2.1.1, m.2.1.1, vq m.2.2.2 hk hL (show 1 ≤ 6 by omega), vq m.2.2.2 hk hL (show 2 ≤ 6 by omega), vq m.2.2.2 hk hL (show 3 ≤ 6 by omega), vq m.2.2.2 hk hL (show 4 ≤ 6 by omega), vq m.2.2.2 hk hL (show 5 ≤ 6 by omega), ?_⟩
    rw [cellS m.2.2.2 (i := 1) (by omega), cellS m.2.2.2 (i := 2) (by omega), cellS m.2.2.2 (i := 3) (by omega), cellS m.2.2.2 (i := 4) (by omega), cellS m.2.2.2 (i := 5) (by omega)]
    refine rr_step (d := 97) (y0 := 260) rfl hv ho m.2.1 (fun k1q_r k2q_r k3q_r k4q_r k5q_r c0_r c1_r c2_r c3_r c4_r c5_r ea1_r ea2_r ea3_r ea4_r ea5_r τ_r hc_r hf_r ht_r => ?_) (fun c0_r τ_r hc_r hf_r ht_r => ?_) (fun c0_r c1_r τ_r hc_r hf_r ht_r => ?_)
    · exfalso
      exact c0 (by unfold stpC1; exact ⟨⟨k1q_r, (by omega), ea1_r⟩, ⟨k2q_r, (by omega), ea2_r⟩, ⟨k3q_r, (by omega), ea3_r⟩, ⟨k4q_r, (by omega), ea4_r⟩⟩)
    · have LL := m.r hc_r hf_r
      have hS := m.2.2.2.fr hf_r (fun p j k => by omega)
      exact tlv hc_r.1 (ht_r.trans rfl) (hN _ _ _ _ _ ⟨Nat.le_refl _, Nat.le_refl _⟩ LL)
    · exfalso
      first | omega | contradiction
  · have m := hI
    refine ⟨by decide, ?_⟩
    rw [show hfind (tHD gT 272) 8 1 = some 2 from by decide +kernel]
    dsimp only [oI]
    intro B2 hB2
    subst hB2
    refine ⟨m.2.2.2.1.1, m.2.1.1, vq m.2.2.2 hk hL (show 1 ≤ 6 by omega), vq m.2.2.2 hk hL (show 2 ≤ 6 by omega), vq m.2.2.2 hk hL (show 3 ≤ 6 by omega), vq m.2.2.2 hk hL (show 4 ≤ 6 by omega), vq m.2.2.2 hk hL (show 5 ≤ 6 by omega), ?_⟩
    rw [cellS m.2.2.2 (i := 1) (by omega), cellS m.2.2.2 (i := 2) (by omega), cellS m.2.2.2 (i := 3) (by omega), cellS m.2.2.2 (i := 4) (by omega), cellS m.2.2.2 (i := 5) (by omega)]
    refine rr_step (d := 97) (y0 := 260) rfl hv ho m.2.1 (fun k1q_r k2q_r k3q_r k4q_r k5q_r c0_r c1_r c2_r c3_r c4_r c5_r ea1_r ea2_r ea3_r ea4_r ea5_r τ_r hc_r hf_r ht_r => ?_) (fun c0_r τ_r hc_r hf_r ht_r => ?_) (fun c0_r c1_r τ_r hc_r hf_r ht_r => ?_)
    · exfalso
      exact c1 (by unfold stpC2; exact ⟨(by rw [ea3_r, ea4_r, J_lt (by omega) (by omega)]; omega), ⟨k5q_r, (by omega), (by omega), ea5_r⟩⟩)
    · exfalso
      first | omega | contradiction
    · have LL := m.r hc_r hf_r
      have hS := m.2.2.2.fr hf_r (fun p j k => by omega)
      exact tlv hc_r.1 (ht_r.trans rfl) (hN _ _ _ _ _ ⟨Nat.le_refl _, Nat.le_refl _⟩ LL)
theorem law_627 {k : Nat} {x5 x6 x7 : Value} (hI : LI2 L xs σ mv kv img tp n fl mv kv img tp n fl) (hB : 16 ≤ B.1 ∧ 1000 ≤ B.2) (hk : k + 7 ≤ L) (hL : L ≤ 3584) (hN : NX7 80 B L xs (J k) Q) : WP gT (80 + 20) B 307 627 [.ref 0, .ref 96, .ref 260, .ref 277, .int (J k), x5, x6, x7] [] σ Q := by
  have hv := hI.1.mv_.1
  have ho := hI.1.mv_.2.1
  have hs := hv.s
  have hos := ho.s
  have hn := hI.1.1.2.2.2.2.2.1.2
  refine g_307_627 (d := 80) hI.2.2.2.1.1 hB ?_
  refine ⟨vq hI.2.2.2 hk hL (show 1 ≤ 6 by omega), vq hI.2.2.2 hk hL (show 2 ≤ 6 by omega), vq hI.2.2.2 hk hL (show 3 ≤ 6 by omega), vq hI.2.2.2 hk hL (show 4 ≤ 6 by omega), vq hI.2.2.2 hk hL (show 5 ≤ 6 by omega), ?_⟩
  rw [cellS hI.2.2.2 (i := 1) (by omega), cellS hI.2.2.2 (i := 2) (by omega), cellS hI.2.2.2 (i := 3) (by omega), cellS hI.2.2.2 (i := 4) (by omega), cellS hI.2.2.2 (i := 5) (by omega)]
  refine g_273_0 (d := 80) hI.1.sh (cc_slow (d := 80) (x0 := 96) hI.1 ⟨by decide, by decide⟩ (fun k1q k2q k3q k4q k5q c0 c1 c2 c3 c4 c5 ea1 ea2 ea3 ea4 ea5 τ hc hf => ?_) (fun c0 => ?_) (fun c0 c1 => ?_))
  · have m := hI.c hc hf.f2
    dsimp only [oI]
    intro B2 hB2
    subst hB2
    refine ⟨m.2.2.2.1.1, m.2.1.1, vq m.2.2.2 hk hL (show 1 ≤ 6 by omega), vq m.2.2.2 hk hL (show 2 ≤ 6 by omega), vq m.2.2.2 hk hL (show 3 ≤ 6 by omega), vq m.2.2.2 hk hL (show 4 ≤ 6 by omega), vq m.2.2.2 hk hL (show 5 ≤ 6 by omega), ?_⟩
    rw [cellS m.2.2.2 (i := 1) (by omega), cellS m.2.2.2 (i := 2) (by omega), cellS m.2.2.2 (i := 3) (by omega), cellS m.2.2.2 (i := 4) (by omega), cellS m.2.2.2 (i := 5) (by omega)]
    refine rr_slow (d := 97) (y0 := 260) rfl hv ho m.2.1 (fun k1q_r k2q_r k3q_r k4q_r k5q_r c0_r c1_r c2_r c3_r c4_r c5_r ea1_r ea2_r ea3_r ea4_r ea5_r τ_r hc_r hf_r ht_r => ?_) (fun c0_r τ_r hc_r hf_r ht_r => ?_) (fun c0_r c1_r τ_r hc_r hf_r ht_r => ?_)
    · have qa1 := IX_J ea1 ea1_r (by omega) (by omega)
      subst qa1
      have qa2 := IX_J ea2 ea2_r (by omega) (by omega)
      subst qa2
      have qa3 := IX_J ea3 ea3_r (by omega) (by omega)
      subst qa3
      have qa4 := IX_J ea4 ea4_r (by omega) (by omega)
      subst qa4
      have qa5 := IX_J ea5 ea5_r (by omega) (by omega)
      subst qa5
      have LL := m.r hc_r hf_r
      have hS := m.2.2.2.fr hf_r (fun p j k => by omega)
      exact tlv hc_r.1 (ht_r.trans rfl) (hN _ _ _ _ _ ⟨Nat.le_refl _, Nat.le_refl _⟩ LL)
    · exfalso
      exact c0_r (by unfold slwC1; exact ⟨⟨k1q, (by omega), ea1⟩, ⟨k2q, (by omega), ea2⟩, ⟨k3q, (by omega), ea3⟩⟩)
    · exfalso
      exact c1_r (by unfold slwC2; exact ⟨⟨k4q, (by omega), (by omega), ea4⟩, ⟨k5q, (by omega), (by omega), ea5⟩⟩)
  · have m := hI
    refine ⟨by decide, ?_⟩
    rw [show hfind (tHD gT 273) 8 0 = some 1 from by decide +kernel]
    dsimp only [oI]
    intro B2 hB2
    subst hB2
    refine ⟨m.2.2.2.1.1, m.2.1.1, vq m.2.2.2 hk hL (show 1 ≤ 6 by omega), vq m.2.2.2 hk hL (show 2 ≤ 6 by omega), vq m.2.2.2 hk hL (show 3 ≤ 6 by omega), vq m.2.2.2 hk hL (show 4 ≤ 6 by omega), vq m.2.2.2 hk hL (show 5 ≤ 6 by omega), ?_⟩
    rw [cellS m.2.2.2 (i := 1) (by omega), cellS m.2.2.2 (i := 2) (by omega), cellS m.2.2.2 (i := 3) (by omega), cellS m.2.2.2 (i := 4) (by omega), cellS m.2.2.2 (i := 5) (by omega)]
    refine rr_slow (d := 97) (y0 := 260) rfl hv ho m.2.1 (fun k1q_r k2q_r k3q_r k4q_r k5q_r c0_r c1_r c2_r c3_r c4_r c5_r ea1_r ea2_r ea3_r ea4_r ea5_r τ_r hc_r hf_r ht_r => ?_) (fun c0_r τ_r hc_r hf_r ht_r => ?_) (fun c0_r c1_r τ_r hc_r hf_r ht_r => ?_)
    · exfalso
      exact c0 (by unfold slwC1; exact ⟨⟨k1q_r, (by omega), ea1_r⟩, ⟨k2q_r, (by omega), ea2_r⟩, ⟨k3q_r, (by omega), ea3_r⟩⟩)
    · have LL := m.r hc_r hf_r
      have hS := m.2.2.2.fr hf_r (fun p j k => by omega)
      exact tlv hc_r.1 (ht_r.trans rfl) (hN _ _ _ _ _ ⟨Nat.le_refl _, Nat.le_refl _⟩ LL)
    · exfalso
      first | omega | contradiction
  · have m := hI
    refine ⟨by decide, ?_⟩
    rw [show hfind (tHD gT 273) 8 1 = some 2 from by decide +kernel]
    dsimp only [oI]
    intro B2 hB2
    subst hB2
    refine ⟨m.2.2.2.1.1, m.2.1.1, vq m.2.2.2 hk hL (show 1 ≤ 6 by omega), vq m.2.2.2 hk hL (show 2 ≤ 6 by omega), vq m.2.2.2 hk hL (show 3 ≤ 6 by omega), vq m.2.2.2 hk hL (show 4 ≤ 6 by omega), vq m.2.2.2 hk hL (show 5 ≤ 6 by omega), ?_⟩
    rw [cellS m.2.2.2 (i := 1) (by omega), cellS m.2.2.2 (i := 2) (by omega), cellS m.2.2.2 (i := 3) (by omega), cellS m.2.2.2 (i := 4) (by omega), cellS m.2.2.2 (i := 5) (by omega)]
    refine rr_slow (d := 97) (y0 := 260) rfl hv ho m.2.1 (fun k1q_r k2q_r k3q_r k4q_r k5q_r c0_r c1_r c2_r c3_r c4_r c5_r ea1_r ea2_r ea3_r ea4_r ea5_r τ_r hc_r hf_r ht_r => ?_) (fun c0_r τ_r hc_r hf_r ht_r => ?_) (fun c0_r c1_r τ_r hc_r hf_r ht_r => ?_)
    · exfalso
      exact c1 (by unfold slwC2; exact ⟨⟨k4q_r, (by omega), (by omega), ea4_r⟩, ⟨k5q_r, (by omega), (by omega), ea5_r⟩⟩)
    · exfalso
      first | omega | contradiction
    · have LL := m.r hc_r hf_r
      have hS := m.2.2.2.fr hf_r (fun p j k => by omega)
      exact tlv hc_r.1 (ht_r.trans rfl) (hN _ _ _ _ _ ⟨Nat.le_refl _, Nat.le_refl _⟩ LL)
theorem law_711 {k : Nat} {x5 x6 x7 : Value} (hI : LI2 L xs σ mv kv img tp n fl mv kv img tp n fl) (hB : 16 ≤ B.1 ∧ 1000 ≤ B.2) (hk : k + 7 ≤ L) (hL : L ≤ 3584) (hN : NX7 80 B L xs (J k) Q) : WP gT (80 + 20) B 307 711 [.ref 0, .ref 96, .ref 260, .ref 277, .int (J k), x5, x6, x7] [] σ Q := by
  have hv := hI.1.mv_.1
  have ho := hI.1.mv_.2.1
  have hs := hv.s
  have hos := ho.s
  have hn := hI.1.1.2.2.2.2.2.1.2
  refine g_307_711 (d := 80) hI.2.2.2.1.1 hB ?_
  refine ⟨vq hI.2.2.2 hk hL (show 1 ≤ 6 by omega), vq hI.2.2.2 hk hL (show 2 ≤ 6 by omega), vq hI.2.2.2 hk hL (show 3 ≤ 6 by omega), vq hI.2.2.2 hk hL (show 4 ≤ 6 by omega), vq hI.2.2.2 hk hL (show 5 ≤ 6 by omega), vq hI.2.2.2 hk hL (show 6 ≤ 6 by omega), ?_⟩
  rw [cellS hI.2.2.2 (i := 1) (by omega), cellS hI.2.2.2 (i := 2) (by omega), cellS hI.2.2.2 (i := 3) (by omega), cellS hI.2.2.2 (i := 4) (by omega), cellS hI.2.2.2 (i := 5) (by omega), cellS hI.2.2.2 (i := 6) (by omega)]
  refine g_274_0 (d := 80) hI.1.sh (cc_pulse (d := 80) (x0 := 96) hI.1 ⟨by decide, by decide⟩ (fun k1q k2q k3q k4q k5q k6q c0 c1 c2 c3 c4 c5 c6 ea1 ea2 ea3 ea4 ea5 ea6 τ hc hf => ?_) (fun c0 => ?_) (fun c0 c1 => ?_))
  · have m := hI.c hc hf.f2
    dsimp only [oI]
    intro B2 hB2
    subst hB2
    refine ⟨m.2.2.2.1.1, m.2.1.1, vq m.2.2.2 hk hL (show 1 ≤ 6 by omega), vq m.2.2.2 hk hL (show 2 ≤ 6 by omega), vq m.2.2.2 hk hL (show 3 ≤ 6 by omega), vq m.2.2.2 hk hL (show 4 ≤ 6 by omega), vq m.2.2.2 hk hL (show 5 ≤ 6 by omega), vq m.2.2.2 hk hL (show 6 ≤ 6 by omega), ?_⟩
    rw [cellS m.2.2.2 (i := 1) (by omega), cellS m.2.2.2 (i := 2) (by omega), cellS m.2.2.2 (i := 3) (by omega), cellS m.2.2.2 (i := 4) (by omega), cellS m.2.2.2 (i := 5) (by omega), cellS m.2.2.2 (i := 6) (by omega)]
    refine rr_pulse (d := 97) (y0 := 260) rfl hv ho m.2.1 (fun k1q_r k2q_r k3q_r k4q_r k5q_r k6q_r c0_r c1_r c2_r c3_r c4_r c5_r c6_r ea1_r ea2_r ea3_r ea4_r ea5_r ea6_r τ_r hc_r hf_r ht_r => ?_) (fun c0_r τ_r hc_r hf_r ht_r => ?_) (fun c0_r c1_r τ_r hc_r hf_r ht_r => ?_)
    · have qa1 := IX_J ea1 ea1_r (by omega) (by omega)
      subst qa1
      have qa2 := IX_J ea2 ea2_r (by omega) (by omega)
      subst qa2
      have qa3 := IX_J ea3 ea3_r (by omega) (by omega)
      subst qa3
      have qa4 := IX_J ea4 ea4_r (by omega) (by omega)
      subst qa4
      have qa5 := IX_J ea5 ea5_r (by omega) (by omega)
      subst qa5
      have qa6 := IX_J ea6 ea6_r (by omega) (by omega)
      subst qa6
      have LL := m.r hc_r hf_r
      have hS := m.2.2.2.fr hf_r (fun p j k => by omega)
      exact tlv hc_r.1 (ht_r.trans rfl) (hN _ _ _ _ _ ⟨Nat.le_refl _, Nat.le_refl _⟩ LL)
    · exfalso
      exact c0_r (by unfold slwC1; exact ⟨⟨k1q, (by omega), ea1⟩, ⟨k2q, (by omega), ea2⟩, ⟨k3q, (by omega), ea3⟩⟩)
    · exfalso
      exact c1_r (by unfold plsC2; exact ⟨⟨k4q, (by omega), (by omega), ea4⟩, ⟨k5q, (by omega), (by omega), ea5⟩, ⟨k6q, (by omega), (by omega), ea6⟩⟩)
  · have m := hI
    refine ⟨by decide, ?_⟩
    rw [show hfind (tHD gT 274) 10 0 = some 1 from by decide +kernel]
    dsimp only [oI]
    intro B2 hB2
    subst hB2
    refine ⟨m.2.2.2.1.1, m.2.1.1, vq m.2.2.2 hk hL (show 1 ≤ 6 by omega), vq m.2.2.2 hk hL (show 2 ≤ 6 by omega), vq m.2.2.2 hk hL (show 3 ≤ 6 by omega), vq m.2.2.2 hk hL (show 4 ≤ 6 by omega), vq m.2.2.2 hk hL (show 5 ≤ 6 by omega), vq m.2.2.2 hk hL (show 6 ≤ 6 by omega), ?_⟩
    rw [cellS m.2.2.2 (i := 1) (by omega), cellS m.2.2.2 (i := 2) (by omega), cellS m.2.2.2 (i := 3) (by omega), cellS m.2.2.2 (i := 4) (by omega), cellS m.2.2.2 (i := 5) (by omega), cellS m.2.2.2 (i := 6) (by omega)]
    refine rr_pulse (d := 97) (y0 := 260) rfl hv ho m.2.1 (fun k1q_r k2q_r k3q_r k4q_r k5q_r k6q_r c0_r c1_r c2_r c3_r c4_r c5_r c6_r ea1_r ea2_r ea3_r ea4_r ea5_r ea6_r τ_r hc_r hf_r ht_r => ?_) (fun c0_r τ_r hc_r hf_r ht_r => ?_) (fun c0_r c1_r τ_r hc_r hf_r ht_r => ?_)
    · exfalso
      exact c0 (by unfold slwC1; exact ⟨⟨k1q_r, (by omega), ea1_r⟩, ⟨k2q_r, (by omega), ea2_r⟩, ⟨k3q_r, (by omega), ea3_r⟩⟩)
    · have LL := m.r hc_r hf_r
      have hS := m.2.2.2.fr hf_r (fun p j k => by omega)
      exact tlv hc_r.1 (ht_r.trans rfl) (hN _ _ _ _ _ ⟨Nat.le_refl _, Nat.le_refl _⟩ LL)
    · exfalso
      first | omega | contradiction
  · have m := hI
    refine ⟨by decide, ?_⟩
    rw [show hfind (tHD gT 274) 10 1 = some 2 from by decide +kernel]
    dsimp only [oI]
    intro B2 hB2
    subst hB2
    refine ⟨m.2.2.2.1.1, m.2.1.1, vq m.2.2.2 hk hL (show 1 ≤ 6 by omega), vq m.2.2.2 hk hL (show 2 ≤ 6 by omega), vq m.2.2.2 hk hL (show 3 ≤ 6 by omega), vq m.2.2.2 hk hL (show 4 ≤ 6 by omega), vq m.2.2.2 hk hL (show 5 ≤ 6 by omega), vq m.2.2.2 hk hL (show 6 ≤ 6 by omega), ?_⟩
    rw [cellS m.2.2.2 (i := 1) (by omega), cellS m.2.2.2 (i := 2) (by omega), cellS m.2.2.2 (i := 3) (by omega), cellS m.2.2.2 (i := 4) (by omega), cellS m.2.2.2 (i := 5) (by omega), cellS m.2.2.2 (i := 6) (by omega)]
    refine rr_pulse (d := 97) (y0 := 260) rfl hv ho m.2.1 (fun k1q_r k2q_r k3q_r k4q_r k5q_r k6q_r c0_r c1_r c2_r c3_r c4_r c5_r c6_r ea1_r ea2_r ea3_r ea4_r ea5_r ea6_r τ_r hc_r hf_r ht_r => ?_) (fun c0_r τ_r hc_r hf_r ht_r => ?_) (fun c0_r c1_r τ_r hc_r hf_r ht_r => ?_)
    · exfalso
      exact c1 (by unfold plsC2; exact ⟨⟨k4q_r, (by omega), (by omega), ea4_r⟩, ⟨k5q_r, (by omega), (by omega), ea5_r⟩, ⟨k6q_r, (by omega), (by omega), ea6_r⟩⟩)
    · exfalso
      first | omega | contradiction
    · have LL := m.r hc_r hf_r
      have hS := m.2.2.2.fr hf_r (fun p j k => by omega)
      exact tlv hc_r.1 (ht_r.trans rfl) (hN _ _ _ _ _ ⟨Nat.le_refl _, Nat.le_refl _⟩ LL)
theorem law_809 {k : Nat} {x5 x6 x7 : Value} (hI : LI2 L xs σ mv kv img tp n fl mv kv img tp n fl) (hB : 16 ≤ B.1 ∧ 1000 ≤ B.2) (hk : k + 7 ≤ L) (hL : L ≤ 3584) (hN : NX7 80 B L xs (J k) Q) : WP gT (80 + 20) B 307 809 [.ref 0, .ref 96, .ref 260, .ref 277, .int (J k), x5, x6, x7] [] σ Q := by
  have hv := hI.1.mv_.1
  have ho := hI.1.mv_.2.1
  have hs := hv.s
  have hos := ho.s
  have hn := hI.1.1.2.2.2.2.2.1.2
  refine g_307_809 (d := 80) hI.2.2.2.1.1 hB ?_
  refine ⟨vq hI.2.2.2 hk hL (show 1 ≤ 6 by omega), vq hI.2.2.2 hk hL (show 2 ≤ 6 by omega), vq hI.2.2.2 hk hL (show 3 ≤ 6 by omega), ?_⟩
  rw [cellS hI.2.2.2 (i := 1) (by omega), cellS hI.2.2.2 (i := 2) (by omega), cellS hI.2.2.2 (i := 3) (by omega)]
  refine g_275_0 (d := 80) hI.1.sh (cc_stepAt (d := 80) (x0 := 96) hI.1 ⟨by decide, by decide⟩ (fun k1q k2q k3q c0 c1 c2 ea1 ea2 ea3 τ hc hf => ?_) (fun c0 => ?_))
  · have m := hI.c hc hf.f2
    refine ⟨m.oc.1, m.oc.2, m.ow (fun χ m hout => ?_)⟩
    dsimp only [oI]
    intro B2 hB2
    subst hB2
    refine ⟨m.2.2.2.1.1, m.2.1.1, vq m.2.2.2 hk hL (show 1 ≤ 6 by omega), vq m.2.2.2 hk hL (show 2 ≤ 6 by omega), vq m.2.2.2 hk hL (show 3 ≤ 6 by omega), ?_⟩
    rw [cellS m.2.2.2 (i := 1) (by omega), cellS m.2.2.2 (i := 2) (by omega), cellS m.2.2.2 (i := 3) (by omega)]
    refine rr_stepAt (d := 97) (y0 := 260) rfl hv ho m.2.1 (fun k1q_r k2q_r k3q_r c0_r c1_r c2_r ea1_r ea2_r ea3_r τ_r hc_r hf_r ht_r => ?_) (fun c0_r τ_r vv_r hc_r hf_r ht_r => ?_)
    · have qa1 := IX_J ea1 ea1_r (by omega) (by omega)
      subst qa1
      have qa2 := IX_J ea2 ea2_r (by omega) (by omega)
      subst qa2
      have qa3 := IX_J ea3 ea3_r (by omega) (by omega)
      subst qa3
      have LL := m.r hc_r hf_r
      have hS := m.2.2.2.fr hf_r (fun p j k => by omega)
      have hw := (hf_r.l (p := 277) (j := 0) (by omega)).trans hout
      exact tl0 hc_r.1 hS ht_r hw (hN _ _ _ _ _ ⟨Nat.le_refl _, Nat.le_refl _⟩ LL)
    · exfalso
      exact c0_r ⟨⟨k1q, (by omega), ea1⟩, ⟨k2q, (by omega), ea2⟩, ⟨k3q, (by omega), ea3⟩⟩
  · have m := hI
    refine ⟨by decide, ?_⟩
    rw [show hfind (tHD gT 275) 7 0 = some 1 from by decide +kernel]
    dsimp only [oI]
    intro B2 hB2
    subst hB2
    refine ⟨m.2.2.2.1.1, m.2.1.1, vq m.2.2.2 hk hL (show 1 ≤ 6 by omega), vq m.2.2.2 hk hL (show 2 ≤ 6 by omega), vq m.2.2.2 hk hL (show 3 ≤ 6 by omega), ?_⟩
    rw [cellS m.2.2.2 (i := 1) (by omega), cellS m.2.2.2 (i := 2) (by omega), cellS m.2.2.2 (i := 3) (by omega)]
    refine rr_stepAt (d := 97) (y0 := 260) rfl hv ho m.2.1 (fun k1q_r k2q_r k3q_r c0_r c1_r c2_r ea1_r ea2_r ea3_r τ_r hc_r hf_r ht_r => ?_) (fun c0_r τ_r vv_r hc_r hf_r ht_r => ?_)
    · exfalso
      exact c0 ⟨⟨k1q_r, (by omega), ea1_r⟩, ⟨k2q_r, (by omega), ea2_r⟩, ⟨k3q_r, (by omega), ea3_r⟩⟩
    · have LL := m.r hc_r hf_r
      have hS := m.2.2.2.fr hf_r (fun p j k => by omega)
      exact tl1 hc_r.1 hS ht_r (hN _ _ _ _ _ ⟨Nat.le_refl _, Nat.le_refl _⟩ LL)
theorem law_889 {k : Nat} {x5 x6 x7 : Value} (hI : LI2 L xs σ mv kv img tp n fl mv kv img tp n fl) (hB : 16 ≤ B.1 ∧ 1000 ≤ B.2) (hk : k + 7 ≤ L) (hL : L ≤ 3584) (hN : NX7 80 B L xs (J k) Q) : WP gT (80 + 20) B 307 889 [.ref 0, .ref 96, .ref 260, .ref 277, .int (J k), x5, x6, x7] [] σ Q := by
  have hv := hI.1.mv_.1
  have ho := hI.1.mv_.2.1
  have hs := hv.s
  have hos := ho.s
  have hn := hI.1.1.2.2.2.2.2.1.2
  refine g_307_889 (d := 80) hI.2.2.2.1.1 hB ?_
  refine ⟨vq hI.2.2.2 hk hL (show 1 ≤ 6 by omega), vq hI.2.2.2 hk hL (show 2 ≤ 6 by omega), vq hI.2.2.2 hk hL (show 3 ≤ 6 by omega), ?_⟩
  rw [cellS hI.2.2.2 (i := 1) (by omega), cellS hI.2.2.2 (i := 2) (by omega), cellS hI.2.2.2 (i := 3) (by omega)]
  refine g_276_0 (d := 80) hI.1.sh (cc_water (d := 80) (x0 := 96) hI.1 ⟨by decide, by decide⟩ (fun k1q k3q c0 c1 c2 ea1 ea3 τ hc hf => ?_) (fun c0 => ?_))
  · have m := hI.c hc hf.f2
    refine ⟨m.oc.1, m.oc.2, m.ow (fun χ m hout => ?_)⟩
    dsimp only [oI]
    intro B2 hB2
    subst hB2
    refine ⟨m.2.2.2.1.1, m.2.1.1, vq m.2.2.2 hk hL (show 1 ≤ 6 by omega), vq m.2.2.2 hk hL (show 2 ≤ 6 by omega), vq m.2.2.2 hk hL (show 3 ≤ 6 by omega), ?_⟩
    rw [cellS m.2.2.2 (i := 1) (by omega), cellS m.2.2.2 (i := 2) (by omega), cellS m.2.2.2 (i := 3) (by omega)]
    refine rr_water (d := 94) (y0 := 260) rfl hv ho m.2.1 (fun k1q_r k3q_r c0_r c1_r c2_r ea1_r ea3_r τ_r hc_r hf_r ht_r => ?_) (fun c0_r τ_r vv_r hc_r hf_r ht_r => ?_)
    · have qa1 := IX_J ea1 ea1_r (by omega) (by omega)
      subst qa1
      have qa3 := IX_J ea3 ea3_r (by omega) (by omega)
      subst qa3
      have LL := m.r hc_r hf_r
      have hS := m.2.2.2.fr hf_r (fun p j k => by omega)
      have hw := (hf_r.l (p := 277) (j := 0) (by omega)).trans hout
      exact tl0 hc_r.1 hS ht_r hw (hN _ _ _ _ _ ⟨Nat.le_refl _, Nat.le_refl _⟩ LL)
    · exfalso
      exact c0_r ⟨⟨k1q, (by omega), ea1⟩, (by first | assumption | omega), ⟨k3q, (by omega), ea3⟩⟩
  · have m := hI
    refine ⟨by decide, ?_⟩
    rw [show hfind (tHD gT 276) 7 0 = some 1 from by decide +kernel]
    dsimp only [oI]
    intro B2 hB2
    subst hB2
    refine ⟨m.2.2.2.1.1, m.2.1.1, vq m.2.2.2 hk hL (show 1 ≤ 6 by omega), vq m.2.2.2 hk hL (show 2 ≤ 6 by omega), vq m.2.2.2 hk hL (show 3 ≤ 6 by omega), ?_⟩
    rw [cellS m.2.2.2 (i := 1) (by omega), cellS m.2.2.2 (i := 2) (by omega), cellS m.2.2.2 (i := 3) (by omega)]
    refine rr_water (d := 94) (y0 := 260) rfl hv ho m.2.1 (fun k1q_r k3q_r c0_r c1_r c2_r ea1_r ea3_r τ_r hc_r hf_r ht_r => ?_) (fun c0_r τ_r vv_r hc_r hf_r ht_r => ?_)
    · exfalso
      exact c0 ⟨⟨k1q_r, (by omega), ea1_r⟩, (by first | assumption | omega), ⟨k3q_r, (by omega), ea3_r⟩⟩
    · have LL := m.r hc_r hf_r
      have hS := m.2.2.2.fr hf_r (fun p j k => by omega)
      exact tl1 hc_r.1 hS ht_r (hN _ _ _ _ _ ⟨Nat.le_refl _, Nat.le_refl _⟩ LL)
theorem law_969 {k : Nat} {x5 x6 x7 : Value} (hI : LI2 L xs σ mv kv img tp n fl mv kv img tp n fl) (hB : 16 ≤ B.1 ∧ 1000 ≤ B.2) (hk : k + 7 ≤ L) (hL : L ≤ 3584) (hN : NX7 80 B L xs (J k) Q) : WP gT (80 + 20) B 307 969 [.ref 0, .ref 96, .ref 260, .ref 277, .int (J k), x5, x6, x7] [] σ Q := by
  have hv := hI.1.mv_.1
  have ho := hI.1.mv_.2.1
  have hs := hv.s
  have hos := ho.s
  have hn := hI.1.1.2.2.2.2.2.1.2
  refine g_307_969 (d := 80) hI.2.2.2.1.1 hB ?_
  refine ⟨vq hI.2.2.2 hk hL (show 1 ≤ 6 by omega), vq hI.2.2.2 hk hL (show 2 ≤ 6 by omega), ?_⟩
  rw [cellS hI.2.2.2 (i := 1) (by omega), cellS hI.2.2.2 (i := 2) (by omega)]
  refine g_277_0 (d := 80) hI.1.sh (cc_level (d := 80) (x0 := 96) hI.1 ⟨by decide, by decide⟩ (fun k1q k2q c0 c1 ea1 ea2 τ hc hf => ?_) (fun c0 => ?_))
  · have m := hI.c hc hf.f2
    refine ⟨m.oc.1, m.oc.2, m.ow (fun χ m hout => ?_)⟩
    dsimp only [oI]
    intro B2 hB2
    subst hB2
    refine ⟨m.2.2.2.1.1, m.2.1.1, vq m.2.2.2 hk hL (show 1 ≤ 6 by omega), vq m.2.2.2 hk hL (show 2 ≤ 6 by omega), ?_⟩
    rw [cellS m.2.2.2 (i := 1) (by omega), cellS m.2.2.2 (i := 2) (by omega)]
    refine rr_level (d := 94) (y0 := 260) rfl hv ho m.2.1 (fun k1q_r k2q_r c0_r c1_r ea1_r ea2_r τ_r hc_r hf_r ht_r => ?_) (fun c0_r τ_r vv_r hc_r hf_r ht_r => ?_)
    · have qa1 := IX_J ea1 ea1_r (by omega) (by omega)
      subst qa1
      have qa2 := IX_J ea2 ea2_r (by omega) (by omega)
      subst qa2
      have LL := m.r hc_r hf_r
      have hS := m.2.2.2.fr hf_r (fun p j k => by omega)
      have hw := (hf_r.l (p := 277) (j := 0) (by omega)).trans hout
      exact tl0 hc_r.1 hS ht_r hw (hN _ _ _ _ _ ⟨Nat.le_refl _, Nat.le_refl _⟩ LL)
    · exfalso
      exact c0_r ⟨⟨k1q, (by omega), ea1⟩, ⟨k2q, (by omega), ea2⟩⟩
  · have m := hI
    refine ⟨by decide, ?_⟩
    rw [show hfind (tHD gT 277) 5 0 = some 1 from by decide +kernel]
    dsimp only [oI]
    intro B2 hB2
    subst hB2
    refine ⟨m.2.2.2.1.1, m.2.1.1, vq m.2.2.2 hk hL (show 1 ≤ 6 by omega), vq m.2.2.2 hk hL (show 2 ≤ 6 by omega), ?_⟩
    rw [cellS m.2.2.2 (i := 1) (by omega), cellS m.2.2.2 (i := 2) (by omega)]
    refine rr_level (d := 94) (y0 := 260) rfl hv ho m.2.1 (fun k1q_r k2q_r c0_r c1_r ea1_r ea2_r τ_r hc_r hf_r ht_r => ?_) (fun c0_r τ_r vv_r hc_r hf_r ht_r => ?_)
    · exfalso
      exact c0 ⟨⟨k1q_r, (by omega), ea1_r⟩, ⟨k2q_r, (by omega), ea2_r⟩⟩
    · have LL := m.r hc_r hf_r
      have hS := m.2.2.2.fr hf_r (fun p j k => by omega)
      exact tl1 hc_r.1 hS ht_r (hN _ _ _ _ _ ⟨Nat.le_refl _, Nat.le_refl _⟩ LL)
theorem law_1037 {k : Nat} {x5 x6 x7 : Value} (hI : LI2 L xs σ mv kv img tp n fl mv kv img tp n fl) (hB : 16 ≤ B.1 ∧ 1000 ≤ B.2) (hk : k + 7 ≤ L) (hL : L ≤ 3584) (hN : NX7 80 B L xs (J k) Q) : WP gT (80 + 20) B 307 1037 [.ref 0, .ref 96, .ref 260, .ref 277, .int (J k), x5, x6, x7] [] σ Q := by
  have hv := hI.1.mv_.1
  have ho := hI.1.mv_.2.1
  have hs := hv.s
  have hos := ho.s
  have hn := hI.1.1.2.2.2.2.2.1.2
  refine g_307_1037 (d := 80) hI.2.2.2.1.1 hB ?_
  refine ⟨vq hI.2.2.2 hk hL (show 1 ≤ 6 by omega), vq hI.2.2.2 hk hL (show 2 ≤ 6 by omega), vq hI.2.2.2 hk hL (show 3 ≤ 6 by omega), ?_⟩
  rw [cellS hI.2.2.2 (i := 1) (by omega), cellS hI.2.2.2 (i := 2) (by omega), cellS hI.2.2.2 (i := 3) (by omega)]
  refine g_278_0 (d := 80) hI.1.sh (cc_depth (d := 80) (x0 := 96) hI.1 ⟨by decide, by decide⟩ (fun k1q k2q k3q c0 c1 c2 ea1 ea2 ea3 τ hc hf => ?_) (fun c0 => ?_))
  · have m := hI.c hc hf.f2
    refine ⟨m.oc.1, m.oc.2, m.ow (fun χ m hout => ?_)⟩
    dsimp only [oI]
    intro B2 hB2
    subst hB2
    refine ⟨m.2.2.2.1.1, m.2.1.1, vq m.2.2.2 hk hL (show 1 ≤ 6 by omega), vq m.2.2.2 hk hL (show 2 ≤ 6 by omega), vq m.2.2.2 hk hL (show 3 ≤ 6 by omega), ?_⟩
    rw [cellS m.2.2.2 (i := 1) (by omega), cellS m.2.2.2 (i := 2) (by omega), cellS m.2.2.2 (i := 3) (by omega)]
    refine rr_depth (d := 94) (y0 := 260) rfl hv ho m.2.1 (fun k1q_r k2q_r k3q_r c0_r c1_r c2_r ea1_r ea2_r ea3_r τ_r hc_r hf_r ht_r => ?_) (fun c0_r τ_r vv_r hc_r hf_r ht_r => ?_)
    · have qa1 := IX_J ea1 ea1_r (by omega) (by omega)
      subst qa1
      have qa2 := IX_J ea2 ea2_r (by omega) (by omega)
      subst qa2
      have qa3 := IX_J ea3 ea3_r (by omega) (by omega)
      subst qa3
      have LL := m.r hc_r hf_r
      have hS := m.2.2.2.fr hf_r (fun p j k => by omega)
      have hw := (hf_r.l (p := 277) (j := 0) (by omega)).trans hout
      exact tl0 hc_r.1 hS ht_r hw (hN _ _ _ _ _ ⟨Nat.le_refl _, Nat.le_refl _⟩ LL)
    · exfalso
      exact c0_r ⟨⟨k1q, (by omega), ea1⟩, ⟨k2q, (by omega), ea2⟩, ⟨k3q, (by omega), ea3⟩⟩
  · have m := hI
    refine ⟨by decide, ?_⟩
    rw [show hfind (tHD gT 278) 7 0 = some 1 from by decide +kernel]
    dsimp only [oI]
    intro B2 hB2
    subst hB2
    refine ⟨m.2.2.2.1.1, m.2.1.1, vq m.2.2.2 hk hL (show 1 ≤ 6 by omega), vq m.2.2.2 hk hL (show 2 ≤ 6 by omega), vq m.2.2.2 hk hL (show 3 ≤ 6 by omega), ?_⟩
    rw [cellS m.2.2.2 (i := 1) (by omega), cellS m.2.2.2 (i := 2) (by omega), cellS m.2.2.2 (i := 3) (by omega)]
    refine rr_depth (d := 94) (y0 := 260) rfl hv ho m.2.1 (fun k1q_r k2q_r k3q_r c0_r c1_r c2_r ea1_r ea2_r ea3_r τ_r hc_r hf_r ht_r => ?_) (fun c0_r τ_r vv_r hc_r hf_r ht_r => ?_)
    · exfalso
      exact c0 ⟨⟨k1q_r, (by omega), ea1_r⟩, ⟨k2q_r, (by omega), ea2_r⟩, ⟨k3q_r, (by omega), ea3_r⟩⟩
    · have LL := m.r hc_r hf_r
      have hS := m.2.2.2.fr hf_r (fun p j k => by omega)
      exact tl1 hc_r.1 hS ht_r (hN _ _ _ _ _ ⟨Nat.le_refl _, Nat.le_refl _⟩ LL)
theorem law_1117 {k : Nat} {x5 x6 x7 : Value} (hI : LI2 L xs σ mv kv img tp n fl mv kv img tp n fl) (hB : 16 ≤ B.1 ∧ 1000 ≤ B.2) (hk : k + 7 ≤ L) (hL : L ≤ 3584) (hN : NX7 80 B L xs (J k) Q) : WP gT (80 + 20) B 307 1117 [.ref 0, .ref 96, .ref 260, .ref 277, .int (J k), x5, x6, x7] [] σ Q := by
  have hv := hI.1.mv_.1
  have ho := hI.1.mv_.2.1
  have hs := hv.s
  have hos := ho.s
  have hn := hI.1.1.2.2.2.2.2.1.2
  refine g_307_1117 (d := 80) hI.2.2.2.1.1 hB ?_
  refine ⟨vq hI.2.2.2 hk hL (show 1 ≤ 6 by omega), vq hI.2.2.2 hk hL (show 2 ≤ 6 by omega), vq hI.2.2.2 hk hL (show 3 ≤ 6 by omega), ?_⟩
  intro u4 h4
  rw [cellS hI.2.2.2 (i := 3) (by omega)] at h4
  subst h4
  rw [cellS hI.2.2.2 (i := 1) (by omega), cellS hI.2.2.2 (i := 2) (by omega)]
  refine g_279_0 (d := 80) hI.1.sh (cc_flow (d := 80) (x0 := 96) hI.1 ⟨by decide, by decide⟩ (fun k1q k2q c0 c1 ea1 ea2 τ hc hf => ?_) (fun c0 => ?_))
  · have m := hI.c hc hf.f2
    refine ⟨m.oc.1, m.oc.2, m.ow (fun χ m hout => ?_)⟩
    dsimp only [oI]
    intro B2 hB2
    subst hB2
    refine ⟨m.2.2.2.1.1, m.2.1.1, vq m.2.2.2 hk hL (show 1 ≤ 6 by omega), vq m.2.2.2 hk hL (show 2 ≤ 6 by omega), vq m.2.2.2 hk hL (show 3 ≤ 6 by omega), ?_⟩
    intro u10 h10
    rw [cellS m.2.2.2 (i := 3) (by omega)] at h10
    subst h10
    rw [cellS m.2.2.2 (i := 1) (by omega), cellS m.2.2.2 (i := 2) (by omega)]
    refine rr_flow (d := 94) (y0 := 260) rfl hv ho m.2.1 (fun k1q_r k2q_r c0_r c1_r ea1_r ea2_r τ_r hc_r hf_r ht_r => ?_) (fun c0_r τ_r vv_r hc_r hf_r ht_r => ?_)
    · have qa1 := IX_J ea1 ea1_r (by omega) (by omega)
      subst qa1
      have qa2 := IX_J ea2 ea2_r (by omega) (by omega)
      subst qa2
      have LL := m.r hc_r hf_r
      have hS := m.2.2.2.fr hf_r (fun p j k => by omega)
      have hw := (hf_r.l (p := 277) (j := 0) (by omega)).trans hout
      exact tl0 hc_r.1 hS ht_r hw (hN _ _ _ _ _ ⟨Nat.le_refl _, Nat.le_refl _⟩ LL)
    · exfalso
      exact c0_r ⟨⟨k1q, (by omega), ea1⟩, ⟨k2q, (by omega), ea2⟩⟩
  · have m := hI
    refine ⟨by decide, ?_⟩
    rw [show hfind (tHD gT 279) 7 0 = some 1 from by decide +kernel]
    dsimp only [oI]
    intro B2 hB2
    subst hB2
    refine ⟨m.2.2.2.1.1, m.2.1.1, vq m.2.2.2 hk hL (show 1 ≤ 6 by omega), vq m.2.2.2 hk hL (show 2 ≤ 6 by omega), vq m.2.2.2 hk hL (show 3 ≤ 6 by omega), ?_⟩
    intro u10 h10
    rw [cellS m.2.2.2 (i := 3) (by omega)] at h10
    subst h10
    rw [cellS m.2.2.2 (i := 1) (by omega), cellS m.2.2.2 (i := 2) (by omega)]
    refine rr_flow (d := 94) (y0 := 260) rfl hv ho m.2.1 (fun k1q_r k2q_r c0_r c1_r ea1_r ea2_r τ_r hc_r hf_r ht_r => ?_) (fun c0_r τ_r vv_r hc_r hf_r ht_r => ?_)
    · exfalso
      exact c0 ⟨⟨k1q_r, (by omega), ea1_r⟩, ⟨k2q_r, (by omega), ea2_r⟩⟩
    · have LL := m.r hc_r hf_r
      have hS := m.2.2.2.fr hf_r (fun p j k => by omega)
      exact tl1 hc_r.1 hS ht_r (hN _ _ _ _ _ ⟨Nat.le_refl _, Nat.le_refl _⟩ LL)
theorem law_1213 {k : Nat} {x5 x6 x7 : Value} (hI : LI2 L xs σ mv kv img tp n fl mv kv img tp n fl) (hB : 16 ≤ B.1 ∧ 1000 ≤ B.2) (hk : k + 7 ≤ L) (hL : L ≤ 3584) (hN : NX7 80 B L xs (J k) Q) : WP gT (80 + 20) B 307 1213 [.ref 0, .ref 96, .ref 260, .ref 277, .int (J k), x5, x6, x7] [] σ Q := by
  have hv := hI.1.mv_.1
  have ho := hI.1.mv_.2.1
  have hs := hv.s
  have hos := ho.s
  have hn := hI.1.1.2.2.2.2.2.1.2
  refine g_307_1213 (d := 80) hI.2.2.2.1.1 hB ?_
  refine ⟨vq hI.2.2.2 hk hL (show 1 ≤ 6 by omega), vq hI.2.2.2 hk hL (show 2 ≤ 6 by omega), vq hI.2.2.2 hk hL (show 3 ≤ 6 by omega), ?_⟩
  intro u4 h4
  refine ⟨vq hI.2.2.2 hk hL (show 4 ≤ 6 by omega), ?_⟩
  intro u6 h6
  rw [cellS hI.2.2.2 (i := 3) (by omega)] at h4
  subst h4
  rw [cellS hI.2.2.2 (i := 4) (by omega)] at h6
  subst h6
  rw [cellS hI.2.2.2 (i := 1) (by omega), cellS hI.2.2.2 (i := 2) (by omega)]
  refine g_280_0 (d := 80) hI.1.sh (cc_most (d := 80) (x0 := 96) hI.1 ⟨by decide, by decide⟩ (fun k1q k2q c0 c1 ea1 ea2 τ hc hf => ?_) (fun c0 => ?_))
  · have m := hI.c hc hf.f2
    refine ⟨m.oc.1, m.oc.2, m.ow (fun χ m hout => ?_)⟩
    dsimp only [oI]
    intro B2 hB2
    subst hB2
    refine ⟨m.2.2.2.1.1, m.2.1.1, vq m.2.2.2 hk hL (show 1 ≤ 6 by omega), vq m.2.2.2 hk hL (show 2 ≤ 6 by omega), vq m.2.2.2 hk hL (show 3 ≤ 6 by omega), ?_⟩
    intro u12 h12
    refine ⟨vq m.2.2.2 hk hL (show 4 ≤ 6 by omega), ?_⟩
    intro u14 h14
    rw [cellS m.2.2.2 (i := 3) (by omega)] at h12
    subst h12
    rw [cellS m.2.2.2 (i := 4) (by omega)] at h14
    subst h14
    rw [cellS m.2.2.2 (i := 1) (by omega), cellS m.2.2.2 (i := 2) (by omega)]
    refine rr_most (d := 94) (y0 := 260) rfl hv ho m.2.1 (fun k1q_r k2q_r c0_r c1_r ea1_r ea2_r τ_r hc_r hf_r ht_r => ?_) (fun c0_r τ_r vv_r hc_r hf_r ht_r => ?_)
    · have qa1 := IX_J ea1 ea1_r (by omega) (by omega)
      subst qa1
      have qa2 := IX_J ea2 ea2_r (by omega) (by omega)
      subst qa2
      have LL := m.r hc_r hf_r
      have hS := m.2.2.2.fr hf_r (fun p j k => by omega)
      have hw := (hf_r.l (p := 277) (j := 0) (by omega)).trans hout
      exact tl0 hc_r.1 hS ht_r hw (hN _ _ _ _ _ ⟨Nat.le_refl _, Nat.le_refl _⟩ LL)
    · exfalso
      exact c0_r ⟨⟨k1q, (by omega), ea1⟩, ⟨k2q, (by omega), ea2⟩⟩
  · have m := hI
    refine ⟨by decide, ?_⟩
    rw [show hfind (tHD gT 280) 9 0 = some 1 from by decide +kernel]
    dsimp only [oI]
    intro B2 hB2
    subst hB2
    refine ⟨m.2.2.2.1.1, m.2.1.1, vq m.2.2.2 hk hL (show 1 ≤ 6 by omega), vq m.2.2.2 hk hL (show 2 ≤ 6 by omega), vq m.2.2.2 hk hL (show 3 ≤ 6 by omega), ?_⟩
    intro u12 h12
    refine ⟨vq m.2.2.2 hk hL (show 4 ≤ 6 by omega), ?_⟩
    intro u14 h14
    rw [cellS m.2.2.2 (i := 3) (by omega)] at h12
    subst h12
    rw [cellS m.2.2.2 (i := 4) (by omega)] at h14
    subst h14
    rw [cellS m.2.2.2 (i := 1) (by omega), cellS m.2.2.2 (i := 2) (by omega)]
    refine rr_most (d := 94) (y0 := 260) rfl hv ho m.2.1 (fun k1q_r k2q_r c0_r c1_r ea1_r ea2_r τ_r hc_r hf_r ht_r => ?_) (fun c0_r τ_r vv_r hc_r hf_r ht_r => ?_)
    · exfalso
      exact c0 ⟨⟨k1q_r, (by omega), ea1_r⟩, ⟨k2q_r, (by omega), ea2_r⟩⟩
    · have LL := m.r hc_r hf_r
      have hS := m.2.2.2.fr hf_r (fun p j k => by omega)
      exact tl1 hc_r.1 hS ht_r (hN _ _ _ _ _ ⟨Nat.le_refl _, Nat.le_refl _⟩ LL)
theorem law_1337 {k : Nat} {x5 x6 x7 : Value} (hI : LI2 L xs σ mv kv img tp n fl mv kv img tp n fl) (hB : 16 ≤ B.1 ∧ 1000 ≤ B.2) (hk : k + 7 ≤ L) (hL : L ≤ 3584) (hN : NX7 80 B L xs (J k) Q) : WP gT (80 + 20) B 307 1337 [.ref 0, .ref 96, .ref 260, .ref 277, .int (J k), x5, x6, x7] [] σ Q := by
  have hv := hI.1.mv_.1
  have ho := hI.1.mv_.2.1
  have hs := hv.s
  have hos := ho.s
  have hn := hI.1.1.2.2.2.2.2.1.2
  refine g_307_1337 (d := 80) hI.2.2.2.1.1 hB ?_
  refine ⟨vq hI.2.2.2 hk hL (show 1 ≤ 6 by omega), vq hI.2.2.2 hk hL (show 2 ≤ 6 by omega), vq hI.2.2.2 hk hL (show 3 ≤ 6 by omega), ?_⟩
  rw [cellS hI.2.2.2 (i := 1) (by omega), cellS hI.2.2.2 (i := 2) (by omega), cellS hI.2.2.2 (i := 3) (by omega)]
  refine g_281_0 (d := 80) hI.1.sh (cc_wet (d := 80) (x0 := 96) hI.1 ⟨by decide, by decide⟩ (fun k1q k2q k3q c0 c1 c2 ea1 ea2 ea3 τ hc hf => ?_) (fun c0 => ?_))
  · have m := hI.c hc hf.f2
    refine ⟨m.oc.1, m.oc.2, m.ow (fun χ m hout => ?_)⟩
    dsimp only [oI]
    intro B2 hB2
    subst hB2
    refine ⟨m.2.2.2.1.1, m.2.1.1, vq m.2.2.2 hk hL (show 1 ≤ 6 by omega), vq m.2.2.2 hk hL (show 2 ≤ 6 by omega), vq m.2.2.2 hk hL (show 3 ≤ 6 by omega), ?_⟩
    rw [cellS m.2.2.2 (i := 1) (by omega), cellS m.2.2.2 (i := 2) (by omega), cellS m.2.2.2 (i := 3) (by omega)]
    refine rr_wet (d := 94) (y0 := 260) rfl hv ho m.2.1 (fun k1q_r k2q_r k3q_r c0_r c1_r c2_r ea1_r ea2_r ea3_r τ_r hc_r hf_r ht_r => ?_) (fun c0_r τ_r vv_r hc_r hf_r ht_r => ?_)
    · have qa1 := IX_J ea1 ea1_r (by omega) (by omega)
      subst qa1
      have qa2 := IX_J ea2 ea2_r (by omega) (by omega)
      subst qa2
      have qa3 := IX_J ea3 ea3_r (by omega) (by omega)
      subst qa3
      have LL := m.r hc_r hf_r
      have hS := m.2.2.2.fr hf_r (fun p j k => by omega)
      have hw := (hf_r.l (p := 277) (j := 0) (by omega)).trans hout
      exact tl0 hc_r.1 hS ht_r hw (hN _ _ _ _ _ ⟨Nat.le_refl _, Nat.le_refl _⟩ LL)
    · exfalso
      exact c0_r ⟨⟨k1q, (by omega), ea1⟩, ⟨k2q, (by omega), ea2⟩, ⟨k3q, (by omega), ea3⟩⟩
  · have m := hI
    refine ⟨by decide, ?_⟩
    rw [show hfind (tHD gT 281) 7 0 = some 1 from by decide +kernel]
    dsimp only [oI]
    intro B2 hB2
    subst hB2
    refine ⟨m.2.2.2.1.1, m.2.1.1, vq m.2.2.2 hk hL (show 1 ≤ 6 by omega), vq m.2.2.2 hk hL (show 2 ≤ 6 by omega), vq m.2.2.2 hk hL (show 3 ≤ 6 by omega), ?_⟩
    rw [cellS m.2.2.2 (i := 1) (by omega), cellS m.2.2.2 (i := 2) (by omega), cellS m.2.2.2 (i := 3) (by omega)]
    refine rr_wet (d := 94) (y0 := 260) rfl hv ho m.2.1 (fun k1q_r k2q_r k3q_r c0_r c1_r c2_r ea1_r ea2_r ea3_r τ_r hc_r hf_r ht_r => ?_) (fun c0_r τ_r vv_r hc_r hf_r ht_r => ?_)
    · exfalso
      exact c0 ⟨⟨k1q_r, (by omega), ea1_r⟩, ⟨k2q_r, (by omega), ea2_r⟩, ⟨k3q_r, (by omega), ea3_r⟩⟩
    · have LL := m.r hc_r hf_r
      have hS := m.2.2.2.fr hf_r (fun p j k => by omega)
      exact tl1 hc_r.1 hS ht_r (hN _ _ _ _ _ ⟨Nat.le_refl _, Nat.le_refl _⟩ LL)
theorem law_1424 {k : Nat} {x5 x6 x7 : Value} (hI : LI2 L xs σ mv kv img tp n fl mv kv img tp n fl) (hB : 16 ≤ B.1 ∧ 1000 ≤ B.2) (hk : k + 7 ≤ L) (hL : L ≤ 3584) (hN : NX7 80 B L xs (J k) Q) : WP gT (80 + 20) B 307 1424 [.ref 0, .ref 96, .ref 260, .ref 277, .int (J k), x5, x6, x7] [] σ Q := by
  have hv := hI.1.mv_.1
  have ho := hI.1.mv_.2.1
  have hs := hv.s
  have hos := ho.s
  have hn := hI.1.1.2.2.2.2.2.1.2
  refine g_307_1424 (d := 80) hI.2.2.2.1.1 hB ?_
  refine ⟨vq hI.2.2.2 hk hL (show 1 ≤ 6 by omega), ?_⟩
  rw [cellS hI.2.2.2 (i := 1) (by omega)]
  refine g_282_0 (d := 80) hI.1.sh (cc_harm (d := 80) (x0 := 96) hI.1 ⟨by decide, by decide⟩ (fun k1q c0 ea1 τ hc hf => ?_) (fun c0 => ?_))
  · have m := hI.c hc hf.f2
    refine ⟨m.oc.1, m.oc.2, m.ow (fun χ m hout => ?_)⟩
    dsimp only [oI]
    intro B2 hB2
    subst hB2
    refine ⟨m.2.2.2.1.1, m.2.1.1, vq m.2.2.2 hk hL (show 1 ≤ 6 by omega), ?_⟩
    rw [cellS m.2.2.2 (i := 1) (by omega)]
    refine rr_harm (d := 94) (y0 := 260) rfl hv ho m.2.1 (fun k1q_r c0_r ea1_r τ_r hc_r hf_r ht_r => ?_) (fun c0_r τ_r vv_r hc_r hf_r ht_r => ?_)
    · have qa1 := IX_J ea1 ea1_r (by omega) (by omega)
      subst qa1
      have LL := m.r hc_r hf_r
      have hS := m.2.2.2.fr hf_r (fun p j k => by omega)
      have hw := (hf_r.l (p := 277) (j := 0) (by omega)).trans hout
      exact tl0 hc_r.1 hS ht_r hw (hN _ _ _ _ _ ⟨Nat.le_refl _, Nat.le_refl _⟩ LL)
    · exfalso
      exact c0_r ⟨k1q, (by omega), ea1⟩
  · have m := hI
    refine ⟨by decide, ?_⟩
    rw [show hfind (tHD gT 282) 4 0 = some 1 from by decide +kernel]
    dsimp only [oI]
    intro B2 hB2
    subst hB2
    refine ⟨m.2.2.2.1.1, m.2.1.1, vq m.2.2.2 hk hL (show 1 ≤ 6 by omega), ?_⟩
    rw [cellS m.2.2.2 (i := 1) (by omega)]
    refine rr_harm (d := 94) (y0 := 260) rfl hv ho m.2.1 (fun k1q_r c0_r ea1_r τ_r hc_r hf_r ht_r => ?_) (fun c0_r τ_r vv_r hc_r hf_r ht_r => ?_)
    · exfalso
      exact c0 ⟨k1q_r, (by omega), ea1_r⟩
    · have LL := m.r hc_r hf_r
      have hS := m.2.2.2.fr hf_r (fun p j k => by omega)
      exact tl1 hc_r.1 hS ht_r (hN _ _ _ _ _ ⟨Nat.le_refl _, Nat.le_refl _⟩ LL)
theorem law_1480 {k : Nat} {x5 x6 x7 : Value} (hI : LI2 L xs σ mv kv img tp n fl mv kv img tp n fl) (hB : 16 ≤ B.1 ∧ 1000 ≤ B.2) (hk : k + 7 ≤ L) (hL : L ≤ 3584) (hN : NX7 80 B L xs (J k) Q) : WP gT (80 + 20) B 307 1480 [.ref 0, .ref 96, .ref 260, .ref 277, .int (J k), x5, x6, x7] [] σ Q := by
  have hv := hI.1.mv_.1
  have ho := hI.1.mv_.2.1
  have hs := hv.s
  have hos := ho.s
  have hn := hI.1.1.2.2.2.2.2.1.2
  refine g_307_1480 (d := 80) hI.2.2.2.1.1 hB ?_
  refine ⟨vq hI.2.2.2 hk hL (show 1 ≤ 6 by omega), ?_⟩
  rw [cellS hI.2.2.2 (i := 1) (by omega)]
  refine g_283_0 (d := 80) hI.1.sh (cc_down (d := 80) (x0 := 96) hI.1 ⟨by decide, by decide⟩ (fun k1q c0 ea1 τ hc hf => ?_) (fun c0 => ?_))
  · have m := hI.c hc hf.f2
    refine ⟨m.oc.1, m.oc.2, m.ow (fun χ m hout => ?_)⟩
    dsimp only [oI]
    intro B2 hB2
    subst hB2
    refine ⟨m.2.2.2.1.1, m.2.1.1, vq m.2.2.2 hk hL (show 1 ≤ 6 by omega), ?_⟩
    rw [cellS m.2.2.2 (i := 1) (by omega)]
    refine rr_down (d := 94) (y0 := 260) rfl hv ho m.2.1 (fun k1q_r c0_r ea1_r τ_r hc_r hf_r ht_r => ?_) (fun c0_r τ_r vv_r hc_r hf_r ht_r => ?_)
    · have qa1 := IX_J ea1 ea1_r (by omega) (by omega)
      subst qa1
      have LL := m.r hc_r hf_r
      have hS := m.2.2.2.fr hf_r (fun p j k => by omega)
      have hw := (hf_r.l (p := 277) (j := 0) (by omega)).trans hout
      exact tl0 hc_r.1 hS ht_r hw (hN _ _ _ _ _ ⟨Nat.le_refl _, Nat.le_refl _⟩ LL)
    · exfalso
      exact c0_r ⟨k1q, (by omega), ea1⟩
  · have m := hI
    refine ⟨by decide, ?_⟩
    rw [show hfind (tHD gT 283) 4 0 = some 1 from by decide +kernel]
    dsimp only [oI]
    intro B2 hB2
    subst hB2
    refine ⟨m.2.2.2.1.1, m.2.1.1, vq m.2.2.2 hk hL (show 1 ≤ 6 by omega), ?_⟩
    rw [cellS m.2.2.2 (i := 1) (by omega)]
    refine rr_down (d := 94) (y0 := 260) rfl hv ho m.2.1 (fun k1q_r c0_r ea1_r τ_r hc_r hf_r ht_r => ?_) (fun c0_r τ_r vv_r hc_r hf_r ht_r => ?_)
    · exfalso
      exact c0 ⟨k1q_r, (by omega), ea1_r⟩
    · have LL := m.r hc_r hf_r
      have hS := m.2.2.2.fr hf_r (fun p j k => by omega)
      exact tl1 hc_r.1 hS ht_r (hN _ _ _ _ _ ⟨Nat.le_refl _, Nat.le_refl _⟩ LL)
theorem law_1536 {k : Nat} {x5 x6 x7 : Value} (hI : LI2 L xs σ mv kv img tp n fl mv kv img tp n fl) (hB : 16 ≤ B.1 ∧ 1000 ≤ B.2) (hk : k + 7 ≤ L) (hL : L ≤ 3584) (hN : NX7 80 B L xs (J k) Q) : WP gT (80 + 20) B 307 1536 [.ref 0, .ref 96, .ref 260, .ref 277, .int (J k), x5, x6, x7] [] σ Q := by
  have hv := hI.1.mv_.1
  have ho := hI.1.mv_.2.1
  have hs := hv.s
  have hos := ho.s
  have hn := hI.1.1.2.2.2.2.2.1.2
  refine g_307_1536 (d := 80) hI.2.2.2.1.1 hB ?_
  refine ⟨vq hI.2.2.2 hk hL (show 1 ≤ 6 by omega), vq hI.2.2.2 hk hL (show 2 ≤ 6 by omega), ?_⟩
  rw [cellS hI.2.2.2 (i := 1) (by omega), cellS hI.2.2.2 (i := 2) (by omega)]
  refine g_284_0 (d := 80) hI.1.sh (cc_latest (d := 80) (x0 := 96) hI.1 ⟨by decide, by decide⟩ (fun k1q k2q c0 c1 ea1 ea2 τ hc hf => ?_) (fun c0 => ?_))
  · have m := hI.c hc hf.f2
    refine ⟨m.oc.1, m.oc.2, m.ow (fun χ m hout => ?_)⟩
    dsimp only [oI]
    intro B2 hB2
    subst hB2
    refine ⟨m.2.2.2.1.1, m.2.1.1, vq m.2.2.2 hk hL (show 1 ≤ 6 by omega), vq m.2.2.2 hk hL (show 2 ≤ 6 by omega), ?_⟩
    rw [cellS m.2.2.2 (i := 1) (by omega), cellS m.2.2.2 (i := 2) (by omega)]
    refine rr_latest (d := 94) (y0 := 260) rfl hv ho m.2.1 (fun k1q_r k2q_r c0_r c1_r ea1_r ea2_r τ_r hc_r hf_r ht_r => ?_) (fun c0_r τ_r vv_r hc_r hf_r ht_r => ?_)
    · have qa1 := IX_J ea1 ea1_r (by omega) (by omega)
      subst qa1
      have qa2 := IX_J ea2 ea2_r (by omega) (by omega)
      subst qa2
      have LL := m.r hc_r hf_r
      have hS := m.2.2.2.fr hf_r (fun p j k => by omega)
      have hw := (hf_r.l (p := 277) (j := 0) (by omega)).trans hout
      exact tl0 hc_r.1 hS ht_r hw (hN _ _ _ _ _ ⟨Nat.le_refl _, Nat.le_refl _⟩ LL)
    · exfalso
      exact c0_r ⟨⟨k1q, (by omega), ea1⟩, ⟨k2q, (by omega), ea2⟩⟩
  · have m := hI
    refine ⟨by decide, ?_⟩
    rw [show hfind (tHD gT 284) 5 0 = some 1 from by decide +kernel]
    dsimp only [oI]
    intro B2 hB2
    subst hB2
    refine ⟨m.2.2.2.1.1, m.2.1.1, vq m.2.2.2 hk hL (show 1 ≤ 6 by omega), vq m.2.2.2 hk hL (show 2 ≤ 6 by omega), ?_⟩
    rw [cellS m.2.2.2 (i := 1) (by omega), cellS m.2.2.2 (i := 2) (by omega)]
    refine rr_latest (d := 94) (y0 := 260) rfl hv ho m.2.1 (fun k1q_r k2q_r c0_r c1_r ea1_r ea2_r τ_r hc_r hf_r ht_r => ?_) (fun c0_r τ_r vv_r hc_r hf_r ht_r => ?_)
    · exfalso
      exact c0 ⟨⟨k1q_r, (by omega), ea1_r⟩, ⟨k2q_r, (by omega), ea2_r⟩⟩
    · have LL := m.r hc_r hf_r
      have hS := m.2.2.2.fr hf_r (fun p j k => by omega)
      exact tl1 hc_r.1 hS ht_r (hN _ _ _ _ _ ⟨Nat.le_refl _, Nat.le_refl _⟩ LL)
theorem law_1604 {k : Nat} {x5 x6 x7 : Value} (hI : LI2 L xs σ mv kv img tp n fl mv kv img tp n fl) (hB : 16 ≤ B.1 ∧ 1000 ≤ B.2) (hk : k + 7 ≤ L) (hL : L ≤ 3584) (hN : NX7 80 B L xs (J k) Q) : WP gT (80 + 20) B 307 1604 [.ref 0, .ref 96, .ref 260, .ref 277, .int (J k), x5, x6, x7] [] σ Q := by
  have hv := hI.1.mv_.1
  have ho := hI.1.mv_.2.1
  have hs := hv.s
  have hos := ho.s
  have hn := hI.1.1.2.2.2.2.2.1.2
  refine g_307_1604 (d := 80) hI.2.2.2.1.1 hB ?_
  refine ⟨vq hI.2.2.2 hk hL (show 1 ≤ 6 by omega), vq hI.2.2.2 hk hL (show 2 ≤ 6 by omega), vq hI.2.2.2 hk hL (show 3 ≤ 6 by omega), vq hI.2.2.2 hk hL (show 4 ≤ 6 by omega), vq hI.2.2.2 hk hL (show 5 ≤ 6 by omega), vq hI.2.2.2 hk hL (show 6 ≤ 6 by omega), ?_⟩
  rw [cellS hI.2.2.2 (i := 1) (by omega), cellS hI.2.2.2 (i := 2) (by omega), cellS hI.2.2.2 (i := 3) (by omega), cellS hI.2.2.2 (i := 4) (by omega), cellS hI.2.2.2 (i := 5) (by omega), cellS hI.2.2.2 (i := 6) (by omega)]
  refine g_285_0 (d := 80) hI.1.sh (cc_person (d := 80) (x0 := 96) hI.1 ⟨by decide, by decide⟩ (fun k1q k2q k3q k4q k5q k6q c0 c1 c2 c3 c4 c5 c6 c7 ea1 ea2 ea3 ea4 ea5 ea6 τ hc hf => ?_) (fun c0 => ?_) (fun c0 c1 => ?_) (fun c0 c1 c2 => ?_))
  · have m := hI.c hc hf.f2
    refine ⟨m.oc.1, m.oc.2, m.ow (fun χ m hout => ?_)⟩
    dsimp only [oI]
    intro B2 hB2
    subst hB2
    refine ⟨m.2.2.2.1.1, m.2.1.1, vq m.2.2.2 hk hL (show 1 ≤ 6 by omega), vq m.2.2.2 hk hL (show 2 ≤ 6 by omega), vq m.2.2.2 hk hL (show 3 ≤ 6 by omega), vq m.2.2.2 hk hL (show 4 ≤ 6 by omega), vq m.2.2.2 hk hL (show 5 ≤ 6 by omega), vq m.2.2.2 hk hL (show 6 ≤ 6 by omega), ?_⟩
    rw [cellS m.2.2.2 (i := 1) (by omega), cellS m.2.2.2 (i := 2) (by omega), cellS m.2.2.2 (i := 3) (by omega), cellS m.2.2.2 (i := 4) (by omega), cellS m.2.2.2 (i := 5) (by omega), cellS m.2.2.2 (i := 6) (by omega)]
    refine rr_person (d := 97) (y0 := 260) rfl hv ho m.2.1 (fun k1q_r k2q_r k3q_r k4q_r k5q_r k6q_r c0_r c1_r c2_r c3_r c4_r c5_r c6_r c7_r ea1_r ea2_r ea3_r ea4_r ea5_r ea6_r τ_r hc_r hf_r ht_r => ?_) (fun c0_r τ_r vv_r hc_r hf_r ht_r => ?_) (fun c0_r c1_r τ_r vv_r hc_r hf_r ht_r => ?_) (fun c0_r c1_r c2_r τ_r vv_r hc_r hf_r ht_r => ?_)
    · have qa1 := IX_J ea1 ea1_r (by omega) (by omega)
      subst qa1
      have qa2 := IX_J ea2 ea2_r (by omega) (by omega)
      subst qa2
      have qa3 := IX_J ea3 ea3_r (by omega) (by omega)
      subst qa3
      have qa4 := IX_J ea4 ea4_r (by omega) (by omega)
      subst qa4
      have qa5 := IX_J ea5 ea5_r (by omega) (by omega)
      subst qa5
      have qa6 := IX_J ea6 ea6_r (by omega) (by omega)
      subst qa6
      have LL := m.r hc_r hf_r
      have hS := m.2.2.2.fr hf_r (fun p j k => by omega)
      have hw := (hf_r.l (p := 277) (j := 0) (by omega)).trans hout
      exact tl0 hc_r.1 hS ht_r hw (hN _ _ _ _ _ ⟨Nat.le_refl _, Nat.le_refl _⟩ LL)
    · exfalso
      exact c0_r (by unfold perC1; exact ⟨⟨k1q, (by omega), ea1⟩, ⟨k2q, (by omega), ea2⟩, ⟨k3q, (by omega), ea3⟩, ⟨k5q, (by omega), ea5⟩⟩)
    · exfalso
      exact c1_r (by unfold perC2; exact ⟨(by rw [ea2, ea3, J_lt (by omega) (by omega)]; omega), ⟨k4q, (by omega), (by omega), ea4⟩, ⟨k6q, (by omega), (by omega), ea6⟩⟩)
    · exfalso
      exact c2_r (by first | assumption | omega)
  · have m := hI
    refine ⟨by decide, ?_⟩
    rw [show hfind (tHD gT 285) 13 0 = some 1 from by decide +kernel]
    dsimp only [oI]
    intro B2 hB2
    subst hB2
    refine ⟨m.2.2.2.1.1, m.2.1.1, vq m.2.2.2 hk hL (show 1 ≤ 6 by omega), vq m.2.2.2 hk hL (show 2 ≤ 6 by omega), vq m.2.2.2 hk hL (show 3 ≤ 6 by omega), vq m.2.2.2 hk hL (show 4 ≤ 6 by omega), vq m.2.2.2 hk hL (show 5 ≤ 6 by omega), vq m.2.2.2 hk hL (show 6 ≤ 6 by omega), ?_⟩
    rw [cellS m.2.2.2 (i := 1) (by omega), cellS m.2.2.2 (i := 2) (by omega), cellS m.2.2.2 (i := 3) (by omega), cellS m.2.2.2 (i := 4) (by omega), cellS m.2.2.2 (i := 5) (by omega), cellS m.2.2.2 (i := 6) (by omega)]
    refine rr_person (d := 97) (y0 := 260) rfl hv ho m.2.1 (fun k1q_r k2q_r k3q_r k4q_r k5q_r k6q_r c0_r c1_r c2_r c3_r c4_r c5_r c6_r c7_r ea1_r ea2_r ea3_r ea4_r ea5_r ea6_r τ_r hc_r hf_r ht_r => ?_) (fun c0_r τ_r vv_r hc_r hf_r ht_r => ?_) (fun c0_r c1_r τ_r vv_r hc_r hf_r ht_r => ?_) (fun c0_r c1_r c2_r τ_r vv_r hc_r hf_r ht_r => ?_)
    · exfalso
      exact c0 (by unfold perC1; exact ⟨⟨k1q_r, (by omega), ea1_r⟩, ⟨k2q_r, (by omega), ea2_r⟩, ⟨k3q_r, (by omega), ea3_r⟩, ⟨k5q_r, (by omega), ea5_r⟩⟩)
    · have LL := m.r hc_r hf_r
      have hS := m.2.2.2.fr hf_r (fun p j k => by omega)
      exact tl1 hc_r.1 hS ht_r (hN _ _ _ _ _ ⟨Nat.le_refl _, Nat.le_refl _⟩ LL)
    · exfalso
      first | omega | contradiction
    · exfalso
      first | omega | contradiction
  · have m := hI
    refine ⟨by decide, ?_⟩
    rw [show hfind (tHD gT 285) 13 1 = some 2 from by decide +kernel]
    dsimp only [oI]
    intro B2 hB2
    subst hB2
    refine ⟨m.2.2.2.1.1, m.2.1.1, vq m.2.2.2 hk hL (show 1 ≤ 6 by omega), vq m.2.2.2 hk hL (show 2 ≤ 6 by omega), vq m.2.2.2 hk hL (show 3 ≤ 6 by omega), vq m.2.2.2 hk hL (show 4 ≤ 6 by omega), vq m.2.2.2 hk hL (show 5 ≤ 6 by omega), vq m.2.2.2 hk hL (show 6 ≤ 6 by omega), ?_⟩
    rw [cellS m.2.2.2 (i := 1) (by omega), cellS m.2.2.2 (i := 2) (by omega), cellS m.2.2.2 (i := 3) (by omega), cellS m.2.2.2 (i := 4) (by omega), cellS m.2.2.2 (i := 5) (by omega), cellS m.2.2.2 (i := 6) (by omega)]
    refine rr_person (d := 97) (y0 := 260) rfl hv ho m.2.1 (fun k1q_r k2q_r k3q_r k4q_r k5q_r k6q_r c0_r c1_r c2_r c3_r c4_r c5_r c6_r c7_r ea1_r ea2_r ea3_r ea4_r ea5_r ea6_r τ_r hc_r hf_r ht_r => ?_) (fun c0_r τ_r vv_r hc_r hf_r ht_r => ?_) (fun c0_r c1_r τ_r vv_r hc_r hf_r ht_r => ?_) (fun c0_r c1_r c2_r τ_r vv_r hc_r hf_r ht_r => ?_)
    · exfalso
      exact c1 (by unfold perC2; exact ⟨(by rw [ea2_r, ea3_r, J_lt (by omega) (by omega)]; omega), ⟨k4q_r, (by omega), (by omega), ea4_r⟩, ⟨k6q_r, (by omega), (by omega), ea6_r⟩⟩)
    · exfalso
      first | omega | contradiction
    · have LL := m.r hc_r hf_r
      have hS := m.2.2.2.fr hf_r (fun p j k => by omega)
      exact tl2 hc_r.1 hS ht_r (hN _ _ _ _ _ ⟨Nat.le_refl _, Nat.le_refl _⟩ LL)
    · exfalso
      first | omega | contradiction
  · have m := hI
    refine ⟨by decide, ?_⟩
    rw [show hfind (tHD gT 285) 13 2 = some 3 from by decide +kernel]
    dsimp only [oI]
    intro B2 hB2
    subst hB2
    refine ⟨m.2.2.2.1.1, m.2.1.1, vq m.2.2.2 hk hL (show 1 ≤ 6 by omega), vq m.2.2.2 hk hL (show 2 ≤ 6 by omega), vq m.2.2.2 hk hL (show 3 ≤ 6 by omega), vq m.2.2.2 hk hL (show 4 ≤ 6 by omega), vq m.2.2.2 hk hL (show 5 ≤ 6 by omega), vq m.2.2.2 hk hL (show 6 ≤ 6 by omega), ?_⟩
    rw [cellS m.2.2.2 (i := 1) (by omega), cellS m.2.2.2 (i := 2) (by omega), cellS m.2.2.2 (i := 3) (by omega), cellS m.2.2.2 (i := 4) (by omega), cellS m.2.2.2 (i := 5) (by omega), cellS m.2.2.2 (i := 6) (by omega)]
    refine rr_person (d := 97) (y0 := 260) rfl hv ho m.2.1 (fun k1q_r k2q_r k3q_r k4q_r k5q_r k6q_r c0_r c1_r c2_r c3_r c4_r c5_r c6_r c7_r ea1_r ea2_r ea3_r ea4_r ea5_r ea6_r τ_r hc_r hf_r ht_r => ?_) (fun c0_r τ_r vv_r hc_r hf_r ht_r => ?_) (fun c0_r c1_r τ_r vv_r hc_r hf_r ht_r => ?_) (fun c0_r c1_r c2_r τ_r vv_r hc_r hf_r ht_r => ?_)
    · exfalso
      exact c2 (by first | assumption | omega)
    · exfalso
      first | omega | contradiction
    · exfalso
      first | omega | contradiction
    · have LL := m.r hc_r hf_r
      have hS := m.2.2.2.fr hf_r (fun p j k => by omega)
      exact tl3 hc_r.1 hS ht_r (hN _ _ _ _ _ ⟨Nat.le_refl _, Nat.le_refl _⟩ LL)
theorem law_1722 {k : Nat} {x5 x6 x7 : Value} (hI : LI2 L xs σ mv kv img tp n fl mv kv img tp n fl) (hB : 16 ≤ B.1 ∧ 1000 ≤ B.2) (hk : k + 7 ≤ L) (hL : L ≤ 3584) (hN : NX7 80 B L xs (J k) Q) : WP gT (80 + 20) B 307 1722 [.ref 0, .ref 96, .ref 260, .ref 277, .int (J k), x5, x6, x7] [] σ Q := by
  have hv := hI.1.mv_.1
  have ho := hI.1.mv_.2.1
  have hs := hv.s
  have hos := ho.s
  have hn := hI.1.1.2.2.2.2.2.1.2
  refine g_307_1722 (d := 80) hI.2.2.2.1.1 hB ?_
  refine ⟨vq hI.2.2.2 hk hL (show 1 ≤ 6 by omega), vq hI.2.2.2 hk hL (show 2 ≤ 6 by omega), ?_⟩
  rw [cellS hI.2.2.2 (i := 1) (by omega), cellS hI.2.2.2 (i := 2) (by omega)]
  refine g_286_0 (d := 80) hI.1.sh (cc_call (d := 80) (x0 := 96) hI.1 ⟨by decide, by decide⟩ (fun k1q k2q c0 c1 c2 ea1 ea2 τ hc hf => ?_) (fun c0 => ?_) (fun c0 c1 => ?_))
  · have m := hI.c hc hf.f2
    refine ⟨m.oc.1, m.oc.2, m.ow (fun χ m hout => ?_)⟩
    dsimp only [oI]
    intro B2 hB2
    subst hB2
    refine ⟨m.2.2.2.1.1, m.2.1.1, vq m.2.2.2 hk hL (show 1 ≤ 6 by omega), vq m.2.2.2 hk hL (show 2 ≤ 6 by omega), ?_⟩
    rw [cellS m.2.2.2 (i := 1) (by omega), cellS m.2.2.2 (i := 2) (by omega)]
    refine rr_call (d := 97) (y0 := 260) rfl hv ho m.2.1 (fun k1q_r k2q_r c0_r c1_r c2_r ea1_r ea2_r τ_r hc_r hf_r ht_r => ?_) (fun c0_r τ_r vv_r hc_r hf_r ht_r => ?_) (fun c0_r c1_r τ_r vv_r hc_r hf_r ht_r => ?_)
    · have qa1 := IX_J ea1 ea1_r (by omega) (by omega)
      subst qa1
      have qa2 := IX_J ea2 ea2_r (by omega) (by omega)
      subst qa2
      have LL := m.r hc_r hf_r
      have hS := m.2.2.2.fr hf_r (fun p j k => by omega)
      have hw := (hf_r.l (p := 277) (j := 0) (by omega)).trans hout
      exact tl0 hc_r.1 hS ht_r hw (hN _ _ _ _ _ ⟨Nat.le_refl _, Nat.le_refl _⟩ LL)
    · exfalso
      exact c0_r (by unfold calC1; exact ⟨⟨k1q, (by omega), ea1⟩, ⟨k2q, (by omega), ea2⟩⟩)
    · exfalso
      exact c1_r (by first | assumption | omega)
  · have m := hI
    refine ⟨by decide, ?_⟩
    rw [show hfind (tHD gT 286) 5 0 = some 1 from by decide +kernel]
    dsimp only [oI]
    intro B2 hB2
    subst hB2
    refine ⟨m.2.2.2.1.1, m.2.1.1, vq m.2.2.2 hk hL (show 1 ≤ 6 by omega), vq m.2.2.2 hk hL (show 2 ≤ 6 by omega), ?_⟩
    rw [cellS m.2.2.2 (i := 1) (by omega), cellS m.2.2.2 (i := 2) (by omega)]
    refine rr_call (d := 97) (y0 := 260) rfl hv ho m.2.1 (fun k1q_r k2q_r c0_r c1_r c2_r ea1_r ea2_r τ_r hc_r hf_r ht_r => ?_) (fun c0_r τ_r vv_r hc_r hf_r ht_r => ?_) (fun c0_r c1_r τ_r vv_r hc_r hf_r ht_r => ?_)
    · exfalso
      exact c0 (by unfold calC1; exact ⟨⟨k1q_r, (by omega), ea1_r⟩, ⟨k2q_r, (by omega), ea2_r⟩⟩)
    · have LL := m.r hc_r hf_r
      have hS := m.2.2.2.fr hf_r (fun p j k => by omega)
      exact tl1 hc_r.1 hS ht_r (hN _ _ _ _ _ ⟨Nat.le_refl _, Nat.le_refl _⟩ LL)
    · exfalso
      first | omega | contradiction
  · have m := hI
    refine ⟨by decide, ?_⟩
    rw [show hfind (tHD gT 286) 5 2 = some 2 from by decide +kernel]
    dsimp only [oI]
    intro B2 hB2
    subst hB2
    refine ⟨m.2.2.2.1.1, m.2.1.1, vq m.2.2.2 hk hL (show 1 ≤ 6 by omega), vq m.2.2.2 hk hL (show 2 ≤ 6 by omega), ?_⟩
    rw [cellS m.2.2.2 (i := 1) (by omega), cellS m.2.2.2 (i := 2) (by omega)]
    refine rr_call (d := 97) (y0 := 260) rfl hv ho m.2.1 (fun k1q_r k2q_r c0_r c1_r c2_r ea1_r ea2_r τ_r hc_r hf_r ht_r => ?_) (fun c0_r τ_r vv_r hc_r hf_r ht_r => ?_) (fun c0_r c1_r τ_r vv_r hc_r hf_r ht_r => ?_)
    · exfalso
      exact c1 (by first | assumption | omega)
    · exfalso
      first | omega | contradiction
    · have LL := m.r hc_r hf_r
      have hS := m.2.2.2.fr hf_r (fun p j k => by omega)
      exact tl2 hc_r.1 hS ht_r (hN _ _ _ _ _ ⟨Nat.le_refl _, Nat.le_refl _⟩ LL)
theorem law_1803 {k : Nat} {x5 x6 x7 : Value} (hI : LI2 L xs σ mv kv img tp n fl mv kv img tp n fl) (hB : 16 ≤ B.1 ∧ 1000 ≤ B.2) (hk : k + 7 ≤ L) (hL : L ≤ 3584) (hN : NX7 80 B L xs (J k) Q) : WP gT (80 + 20) B 307 1803 [.ref 0, .ref 96, .ref 260, .ref 277, .int (J k), x5, x6, x7] [] σ Q := by
  have hv := hI.1.mv_.1
  have ho := hI.1.mv_.2.1
  have hs := hv.s
  have hos := ho.s
  have hn := hI.1.1.2.2.2.2.2.1.2
  refine g_307_1803 (d := 80) hI.2.2.2.1.1 hB ?_
  refine ⟨vq hI.2.2.2 hk hL (show 1 ≤ 6 by omega), vq hI.2.2.2 hk hL (show 2 ≤ 6 by omega), ?_⟩
  rw [cellS hI.2.2.2 (i := 1) (by omega), cellS hI.2.2.2 (i := 2) (by omega)]
  refine g_287_0 (d := 80) hI.1.sh (cc_caught (d := 80) (x0 := 96) hI.1 ⟨by decide, by decide⟩ (fun k1q k2q c0 c1 ea1 ea2 τ hc hf => ?_) (fun c0 => ?_))
  · have m := hI.c hc hf.f2
    refine ⟨m.oc.1, m.oc.2, m.ow (fun χ m hout => ?_)⟩
    dsimp only [oI]
    intro B2 hB2
    subst hB2
    refine ⟨m.2.2.2.1.1, m.2.1.1, vq m.2.2.2 hk hL (show 1 ≤ 6 by omega), vq m.2.2.2 hk hL (show 2 ≤ 6 by omega), ?_⟩
    rw [cellS m.2.2.2 (i := 1) (by omega), cellS m.2.2.2 (i := 2) (by omega)]
    refine rr_caught (d := 94) (y0 := 260) rfl hv ho m.2.1 (fun k1q_r k2q_r c0_r c1_r ea1_r ea2_r τ_r hc_r hf_r ht_r => ?_) (fun c0_r τ_r vv_r hc_r hf_r ht_r => ?_)
    · have qa1 := IX_J ea1 ea1_r (by omega) (by omega)
      subst qa1
      have qa2 := IX_J ea2 ea2_r (by omega) (by omega)
      subst qa2
      have LL := m.r hc_r hf_r
      have hS := m.2.2.2.fr hf_r (fun p j k => by omega)
      have hw := (hf_r.l (p := 277) (j := 0) (by omega)).trans hout
      exact tl0 hc_r.1 hS ht_r hw (hN _ _ _ _ _ ⟨Nat.le_refl _, Nat.le_refl _⟩ LL)
    · exfalso
      exact c0_r ⟨⟨k1q, (by omega), ea1⟩, ⟨k2q, (by omega), ea2⟩⟩
  · have m := hI
    refine ⟨by decide, ?_⟩
    rw [show hfind (tHD gT 287) 5 0 = some 1 from by decide +kernel]
    dsimp only [oI]
    intro B2 hB2
    subst hB2
    refine ⟨m.2.2.2.1.1, m.2.1.1, vq m.2.2.2 hk hL (show 1 ≤ 6 by omega), vq m.2.2.2 hk hL (show 2 ≤ 6 by omega), ?_⟩
    rw [cellS m.2.2.2 (i := 1) (by omega), cellS m.2.2.2 (i := 2) (by omega)]
    refine rr_caught (d := 94) (y0 := 260) rfl hv ho m.2.1 (fun k1q_r k2q_r c0_r c1_r ea1_r ea2_r τ_r hc_r hf_r ht_r => ?_) (fun c0_r τ_r vv_r hc_r hf_r ht_r => ?_)
    · exfalso
      exact c0 ⟨⟨k1q_r, (by omega), ea1_r⟩, ⟨k2q_r, (by omega), ea2_r⟩⟩
    · have LL := m.r hc_r hf_r
      have hS := m.2.2.2.fr hf_r (fun p j k => by omega)
      exact tl1 hc_r.1 hS ht_r (hN _ _ _ _ _ ⟨Nat.le_refl _, Nat.le_refl _⟩ LL)
theorem law_1871 {k : Nat} {x5 x6 x7 : Value} (hI : LI2 L xs σ mv kv img tp n fl mv kv img tp n fl) (hB : 16 ≤ B.1 ∧ 1000 ≤ B.2) (hk : k + 7 ≤ L) (hL : L ≤ 3584) (hN : NX7 80 B L xs (J k) Q) : WP gT (80 + 20) B 307 1871 [.ref 0, .ref 96, .ref 260, .ref 277, .int (J k), x5, x6, x7] [] σ Q := by
  have hv := hI.1.mv_.1
  have ho := hI.1.mv_.2.1
  have hs := hv.s
  have hos := ho.s
  have hn := hI.1.1.2.2.2.2.2.1.2
  refine g_307_1871 (d := 80) hI.2.2.2.1.1 hB ?_
  refine ⟨vq hI.2.2.2 hk hL (show 1 ≤ 6 by omega), vq hI.2.2.2 hk hL (show 2 ≤ 6 by omega), ?_⟩
  rw [cellS hI.2.2.2 (i := 1) (by omega), cellS hI.2.2.2 (i := 2) (by omega)]
  refine g_288_0 (d := 80) hI.1.sh (cc_odds (d := 80) (x0 := 96) hI.1 ⟨by decide, by decide⟩ (fun k1q k2q c0 c1 ea1 ea2 τ hc hf => ?_) (fun c0 => ?_))
  · have m := hI.c hc hf.f2
    refine ⟨m.oc.1, m.oc.2, m.ow (fun χ m hout => ?_)⟩
    dsimp only [oI]
    intro B2 hB2
    subst hB2
    refine ⟨m.2.2.2.1.1, m.2.1.1, vq m.2.2.2 hk hL (show 1 ≤ 6 by omega), vq m.2.2.2 hk hL (show 2 ≤ 6 by omega), ?_⟩
    rw [cellS m.2.2.2 (i := 1) (by omega), cellS m.2.2.2 (i := 2) (by omega)]
    refine rr_odds (d := 93) (y0 := 260) rfl hv ho m.2.1 (fun k1q_r k2q_r c0_r c1_r ea1_r ea2_r τ_r hc_r hf_r ht_r => ?_) (fun c0_r τ_r vv_r hc_r hf_r ht_r => ?_)
    · have qa1 := IX_J ea1 ea1_r (by omega) (by omega)
      subst qa1
      have qa2 := IX_J ea2 ea2_r (by omega) (by omega)
      subst qa2
      have LL := m.r hc_r hf_r
      have hS := m.2.2.2.fr hf_r (fun p j k => by omega)
      have hw := (hf_r.l (p := 277) (j := 0) (by omega)).trans hout
      exact tl0 hc_r.1 hS ht_r hw (hN _ _ _ _ _ ⟨Nat.le_refl _, Nat.le_refl _⟩ LL)
    · exfalso
      exact c0_r ⟨⟨k1q, (by omega), ea1⟩, ⟨k2q, (by omega), ea2⟩⟩
  · have m := hI
    refine ⟨by decide, ?_⟩
    rw [show hfind (tHD gT 288) 5 0 = some 1 from by decide +kernel]
    dsimp only [oI]
    intro B2 hB2
    subst hB2
    refine ⟨m.2.2.2.1.1, m.2.1.1, vq m.2.2.2 hk hL (show 1 ≤ 6 by omega), vq m.2.2.2 hk hL (show 2 ≤ 6 by omega), ?_⟩
    rw [cellS m.2.2.2 (i := 1) (by omega), cellS m.2.2.2 (i := 2) (by omega)]
    refine rr_odds (d := 93) (y0 := 260) rfl hv ho m.2.1 (fun k1q_r k2q_r c0_r c1_r ea1_r ea2_r τ_r hc_r hf_r ht_r => ?_) (fun c0_r τ_r vv_r hc_r hf_r ht_r => ?_)
    · exfalso
      exact c0 ⟨⟨k1q_r, (by omega), ea1_r⟩, ⟨k2q_r, (by omega), ea2_r⟩⟩
    · have LL := m.r hc_r hf_r
      have hS := m.2.2.2.fr hf_r (fun p j k => by omega)
      exact tl1 hc_r.1 hS ht_r (hN _ _ _ _ _ ⟨Nat.le_refl _, Nat.le_refl _⟩ LL)
theorem law_1938 {k : Nat} {x5 x6 x7 : Value} (hI : LI2 L xs σ mv kv img tp n fl mv kv img tp n fl) (hB : 16 ≤ B.1 ∧ 1000 ≤ B.2) (hk : k + 7 ≤ L) (hL : L ≤ 3584) (hN : NX7 80 B L xs (J k) Q) : WP gT (80 + 20) B 307 1938 [.ref 0, .ref 96, .ref 260, .ref 277, .int (J k), x5, x6, x7] [] σ Q := by
  have hv := hI.1.mv_.1
  have ho := hI.1.mv_.2.1
  have hs := hv.s
  have hos := ho.s
  have hn := hI.1.1.2.2.2.2.2.1.2
  refine g_307_1938 (d := 80) hI.2.2.2.1.1 hB ?_
  refine ⟨vq hI.2.2.2 hk hL (show 1 ≤ 6 by omega), ?_⟩
  rw [cellS hI.2.2.2 (i := 1) (by omega)]
  refine g_289_0 (d := 80) hI.1.sh (cc_fear (d := 80) (x0 := 96) hI.1 ⟨by decide, by decide⟩ (fun k1q c0 ea1 τ hc hf => ?_) (fun c0 => ?_))
  · have m := hI.c hc hf.f2
    refine ⟨m.oc.1, m.oc.2, m.ow (fun χ m hout => ?_)⟩
    dsimp only [oI]
    intro B2 hB2
    subst hB2
    refine ⟨m.2.2.2.1.1, m.2.1.1, vq m.2.2.2 hk hL (show 1 ≤ 6 by omega), ?_⟩
    rw [cellS m.2.2.2 (i := 1) (by omega)]
    refine rr_fear (d := 92) (y0 := 260) rfl hv ho m.2.1 (fun k1q_r c0_r ea1_r τ_r hc_r hf_r ht_r => ?_) (fun c0_r τ_r vv_r hc_r hf_r ht_r => ?_)
    · have qa1 := IX_J ea1 ea1_r (by omega) (by omega)
      subst qa1
      have LL := m.r hc_r hf_r
      have hS := m.2.2.2.fr hf_r (fun p j k => by omega)
      have hw := (hf_r.l (p := 277) (j := 0) (by omega)).trans hout
      exact tl0 hc_r.1 hS ht_r hw (hN _ _ _ _ _ ⟨Nat.le_refl _, Nat.le_refl _⟩ LL)
    · exfalso
      exact c0_r ⟨k1q, (by omega), ea1⟩
  · have m := hI
    refine ⟨by decide, ?_⟩
    rw [show hfind (tHD gT 289) 4 0 = some 1 from by decide +kernel]
    dsimp only [oI]
    intro B2 hB2
    subst hB2
    refine ⟨m.2.2.2.1.1, m.2.1.1, vq m.2.2.2 hk hL (show 1 ≤ 6 by omega), ?_⟩
    rw [cellS m.2.2.2 (i := 1) (by omega)]
    refine rr_fear (d := 92) (y0 := 260) rfl hv ho m.2.1 (fun k1q_r c0_r ea1_r τ_r hc_r hf_r ht_r => ?_) (fun c0_r τ_r vv_r hc_r hf_r ht_r => ?_)
    · exfalso
      exact c0 ⟨k1q_r, (by omega), ea1_r⟩
    · have LL := m.r hc_r hf_r
      have hS := m.2.2.2.fr hf_r (fun p j k => by omega)
      exact tl1 hc_r.1 hS ht_r (hN _ _ _ _ _ ⟨Nat.le_refl _, Nat.le_refl _⟩ LL)
theorem law_1993 {k : Nat} {x5 x6 x7 : Value} (hI : LI2 L xs σ mv kv img tp n fl mv kv img tp n fl) (hB : 16 ≤ B.1 ∧ 1000 ≤ B.2) (hk : k + 7 ≤ L) (hL : L ≤ 3584) (hN : NX7 80 B L xs (J k) Q) : WP gT (80 + 20) B 307 1993 [.ref 0, .ref 96, .ref 260, .ref 277, .int (J k), x5, x6, x7] [] σ Q := by
  have hv := hI.1.mv_.1
  have ho := hI.1.mv_.2.1
  have hs := hv.s
  have hos := ho.s
  have hn := hI.1.1.2.2.2.2.2.1.2
  refine g_307_1993 (d := 80) hI.2.2.2.1.1 hB ?_
  refine ⟨vq hI.2.2.2 hk hL (show 1 ≤ 6 by omega), vq hI.2.2.2 hk hL (show 2 ≤ 6 by omega), vq hI.2.2.2 hk hL (show 3 ≤ 6 by omega), ?_⟩
  rw [cellS hI.2.2.2 (i := 1) (by omega), cellS hI.2.2.2 (i := 2) (by omega), cellS hI.2.2.2 (i := 3) (by omega)]
  refine g_290_0 (d := 81) hI.1.sh (cc_bounds (d := 81) (x0 := 96) hI.1 ⟨by decide, by decide⟩ (fun k1q k2q k3q c0 c1 c2 ea1 ea2 ea3 τ hc hf => ?_) (fun c0 => ?_))
  · have m := hI.c hc hf.f2
    dsimp only [oI]
    intro B2 hB2
    subst hB2
    refine ⟨m.2.2.2.1.1, m.2.1.1, vq m.2.2.2 hk hL (show 1 ≤ 6 by omega), vq m.2.2.2 hk hL (show 2 ≤ 6 by omega), vq m.2.2.2 hk hL (show 3 ≤ 6 by omega), ?_⟩
    rw [cellS m.2.2.2 (i := 1) (by omega), cellS m.2.2.2 (i := 2) (by omega), cellS m.2.2.2 (i := 3) (by omega)]
    refine rr_bounds (d := 98) (y0 := 260) rfl m.2.1 (fun k1q_r k2q_r k3q_r c0_r c1_r c2_r ea1_r ea2_r ea3_r τ_r hc_r hf_r ht_r => ?_) (fun c0_r τ_r hc_r hf_r ht_r => ?_)
    · have qa1 := IX_J ea1 ea1_r (by omega) (by omega)
      subst qa1
      have qa2 := IX_J ea2 ea2_r (by omega) (by omega)
      subst qa2
      have qa3 := IX_J ea3 ea3_r (by omega) (by omega)
      subst qa3
      have LL := m.r hc_r hf_r
      have hS := m.2.2.2.fr hf_r (fun p j k => by omega)
      exact tlv hc_r.1 (ht_r.trans rfl) (hN _ _ _ _ _ ⟨Nat.le_refl _, Nat.le_refl _⟩ LL)
    · exfalso
      exact c0_r ⟨⟨k1q, (by omega), (by omega), ea1⟩, ⟨k2q, (by omega), (by omega), ea2⟩, ⟨k3q, (by omega), (by omega), ea3⟩⟩
  · have m := hI
    refine ⟨by decide, ?_⟩
    rw [show hfind (tHD gT 290) 4 1 = some 1 from by decide +kernel]
    dsimp only [oI]
    intro B2 hB2
    subst hB2
    refine ⟨m.2.2.2.1.1, m.2.1.1, vq m.2.2.2 hk hL (show 1 ≤ 6 by omega), vq m.2.2.2 hk hL (show 2 ≤ 6 by omega), vq m.2.2.2 hk hL (show 3 ≤ 6 by omega), ?_⟩
    rw [cellS m.2.2.2 (i := 1) (by omega), cellS m.2.2.2 (i := 2) (by omega), cellS m.2.2.2 (i := 3) (by omega)]
    refine rr_bounds (d := 98) (y0 := 260) rfl m.2.1 (fun k1q_r k2q_r k3q_r c0_r c1_r c2_r ea1_r ea2_r ea3_r τ_r hc_r hf_r ht_r => ?_) (fun c0_r τ_r hc_r hf_r ht_r => ?_)
    · exfalso
      exact c0 ⟨⟨k1q_r, (by omega), (by omega), ea1_r⟩, ⟨k2q_r, (by omega), (by omega), ea2_r⟩, ⟨k3q_r, (by omega), (by omega), ea3_r⟩⟩
    · have LL := m.r hc_r hf_r
      have hS := m.2.2.2.fr hf_r (fun p j k => by omega)
      exact tlv hc_r.1 (ht_r.trans rfl) (hN _ _ _ _ _ ⟨Nat.le_refl _, Nat.le_refl _⟩ LL)
theorem law_2053 {k : Nat} {x5 x6 x7 : Value} (hI : LI2 L xs σ mv kv img tp n fl mv kv img tp n fl) (hB : 16 ≤ B.1 ∧ 1000 ≤ B.2) (hk : k + 7 ≤ L) (hL : L ≤ 3584) (hN : NX7 80 B L xs (J k) Q) : WP gT (80 + 20) B 307 2053 [.ref 0, .ref 96, .ref 260, .ref 277, .int (J k), x5, x6, x7] [] σ Q := by
  have hv := hI.1.mv_.1
  have ho := hI.1.mv_.2.1
  have hs := hv.s
  have hos := ho.s
  have hn := hI.1.1.2.2.2.2.2.1.2
  refine g_307_2053 (d := 80) hI.2.2.2.1.1 hB ?_
  refine ⟨vq hI.2.2.2 hk hL (show 1 ≤ 6 by omega), ?_⟩
  rw [cellS hI.2.2.2 (i := 1) (by omega)]
  refine g_291_0 (d := 80) hI.1.sh (cc_judge (d := 80) (x0 := 96) hI.1 ⟨by decide, by decide⟩ (fun k1q c0 ea1 τ hc hf => ?_) (fun c0 => ?_))
  · have m := hI.c hc hf.f2
    refine ⟨m.oc.1, m.oc.2, m.ow (fun χ m hout => ?_)⟩
    dsimp only [oI]
    intro B2 hB2
    subst hB2
    refine ⟨m.2.2.2.1.1, m.2.1.1, vq m.2.2.2 hk hL (show 1 ≤ 6 by omega), ?_⟩
    rw [cellS m.2.2.2 (i := 1) (by omega)]
    refine rr_judge (d := 91) (y0 := 260) rfl hv ho m.2.1 (fun k1q_r c0_r ea1_r τ_r hc_r hf_r ht_r => ?_) (fun c0_r τ_r vv_r hc_r hf_r ht_r => ?_)
    · have qa1 := IX_J ea1 ea1_r (by omega) (by omega)
      subst qa1
      have LL := m.r hc_r hf_r
      have hS := m.2.2.2.fr hf_r (fun p j k => by omega)
      have hw := (hf_r.l (p := 277) (j := 0) (by omega)).trans hout
      exact tl0 hc_r.1 hS ht_r hw (hN _ _ _ _ _ ⟨Nat.le_refl _, Nat.le_refl _⟩ LL)
    · exfalso
      exact c0_r ⟨k1q, (by omega), ea1⟩
  · have m := hI
    refine ⟨by decide, ?_⟩
    rw [show hfind (tHD gT 291) 4 0 = some 1 from by decide +kernel]
    dsimp only [oI]
    intro B2 hB2
    subst hB2
    refine ⟨m.2.2.2.1.1, m.2.1.1, vq m.2.2.2 hk hL (show 1 ≤ 6 by omega), ?_⟩
    rw [cellS m.2.2.2 (i := 1) (by omega)]
    refine rr_judge (d := 91) (y0 := 260) rfl hv ho m.2.1 (fun k1q_r c0_r ea1_r τ_r hc_r hf_r ht_r => ?_) (fun c0_r τ_r vv_r hc_r hf_r ht_r => ?_)
    · exfalso
      exact c0 ⟨k1q_r, (by omega), ea1_r⟩
    · have LL := m.r hc_r hf_r
      have hS := m.2.2.2.fr hf_r (fun p j k => by omega)
      exact tl1 hc_r.1 hS ht_r (hN _ _ _ _ _ ⟨Nat.le_refl _, Nat.le_refl _⟩ LL)
theorem law_2109 {k : Nat} {x5 x6 x7 : Value} (hI : LI2 L xs σ mv kv img tp n fl mv kv img tp n fl) (hB : 16 ≤ B.1 ∧ 1000 ≤ B.2) (hk : k + 7 ≤ L) (hL : L ≤ 3584) (hN : NX7 80 B L xs (J k) Q) : WP gT (80 + 20) B 307 2109 [.ref 0, .ref 96, .ref 260, .ref 277, .int (J k), x5, x6, x7] [] σ Q := by
  have hv := hI.1.mv_.1
  have ho := hI.1.mv_.2.1
  have hs := hv.s
  have hos := ho.s
  have hn := hI.1.1.2.2.2.2.2.1.2
  refine g_307_2109 (d := 80) hI.2.2.2.1.1 hB ?_
  refine ⟨vq hI.2.2.2 hk hL (show 1 ≤ 6 by omega), vq hI.2.2.2 hk hL (show 2 ≤ 6 by omega), ?_⟩
  intro u3 h3
  rw [cellS hI.2.2.2 (i := 2) (by omega)] at h3
  subst h3
  rw [cellS hI.2.2.2 (i := 1) (by omega)]
  refine g_292_0 (d := 80) hI.1.sh (cc_best (d := 80) (x0 := 96) hI.1 ⟨by decide, by decide⟩ (fun k1q c0 ea1 τ hc hf => ?_) (fun c0 => ?_))
  · have m := hI.c hc hf.f2
    refine ⟨m.oc.1, m.oc.2, m.ow (fun χ m hout => ?_)⟩
    dsimp only [oI]
    intro B2 hB2
    subst hB2
    refine ⟨m.2.2.2.1.1, m.2.1.1, vq m.2.2.2 hk hL (show 1 ≤ 6 by omega), vq m.2.2.2 hk hL (show 2 ≤ 6 by omega), ?_⟩
    intro u8 h8
    rw [cellS m.2.2.2 (i := 2) (by omega)] at h8
    subst h8
    rw [cellS m.2.2.2 (i := 1) (by omega)]
    refine rr_best (d := 91) (y0 := 260) rfl hv ho m.2.1 (fun k1q_r c0_r ea1_r τ_r hc_r hf_r ht_r => ?_) (fun c0_r τ_r vv_r hc_r hf_r ht_r => ?_)
    · have qa1 := IX_J ea1 ea1_r (by omega) (by omega)
      subst qa1
      have LL := m.r hc_r hf_r
      have hS := m.2.2.2.fr hf_r (fun p j k => by omega)
      have hw := (hf_r.l (p := 277) (j := 0) (by omega)).trans hout
      exact tl0 hc_r.1 hS ht_r hw (hN _ _ _ _ _ ⟨Nat.le_refl _, Nat.le_refl _⟩ LL)
    · exfalso
      exact c0_r ⟨k1q, (by omega), ea1⟩
  · have m := hI
    refine ⟨by decide, ?_⟩
    rw [show hfind (tHD gT 292) 5 0 = some 1 from by decide +kernel]
    dsimp only [oI]
    intro B2 hB2
    subst hB2
    refine ⟨m.2.2.2.1.1, m.2.1.1, vq m.2.2.2 hk hL (show 1 ≤ 6 by omega), vq m.2.2.2 hk hL (show 2 ≤ 6 by omega), ?_⟩
    intro u8 h8
    rw [cellS m.2.2.2 (i := 2) (by omega)] at h8
    subst h8
    rw [cellS m.2.2.2 (i := 1) (by omega)]
    refine rr_best (d := 91) (y0 := 260) rfl hv ho m.2.1 (fun k1q_r c0_r ea1_r τ_r hc_r hf_r ht_r => ?_) (fun c0_r τ_r vv_r hc_r hf_r ht_r => ?_)
    · exfalso
      exact c0 ⟨k1q_r, (by omega), ea1_r⟩
    · have LL := m.r hc_r hf_r
      have hS := m.2.2.2.fr hf_r (fun p j k => by omega)
      exact tl1 hc_r.1 hS ht_r (hN _ _ _ _ _ ⟨Nat.le_refl _, Nat.le_refl _⟩ LL)
theorem law_2193 {k : Nat} {x5 x6 x7 : Value} (hI : LI2 L xs σ mv kv img tp n fl mv kv img tp n fl) (hB : 16 ≤ B.1 ∧ 1000 ≤ B.2) (hk : k + 7 ≤ L) (hL : L ≤ 3584) (hN : NX7 80 B L xs (J k) Q) : WP gT (80 + 20) B 307 2193 [.ref 0, .ref 96, .ref 260, .ref 277, .int (J k), x5, x6, x7] [] σ Q := by
  have hv := hI.1.mv_.1
  have ho := hI.1.mv_.2.1
  have hs := hv.s
  have hos := ho.s
  have hn := hI.1.1.2.2.2.2.2.1.2
  refine g_307_2193 (d := 80) hI.2.2.2.1.1 hB ?_
  refine ⟨vq hI.2.2.2 hk hL (show 1 ≤ 6 by omega), vq hI.2.2.2 hk hL (show 2 ≤ 6 by omega), ?_⟩
  rw [cellS hI.2.2.2 (i := 1) (by omega), cellS hI.2.2.2 (i := 2) (by omega)]
  refine g_293_0 (d := 80) hI.1.sh (cc_whom (d := 80) (x0 := 96) hI.1 ⟨by decide, by decide⟩ (fun k1q k2q c0 c1 ea1 ea2 τ hc hf => ?_) (fun c0 => ?_))
  · have m := hI.c hc hf.f2
    refine ⟨m.oc.1, m.oc.2, m.ow (fun χ m hout => ?_)⟩
    dsimp only [oI]
    intro B2 hB2
    subst hB2
    refine ⟨m.2.2.2.1.1, m.2.1.1, vq m.2.2.2 hk hL (show 1 ≤ 6 by omega), vq m.2.2.2 hk hL (show 2 ≤ 6 by omega), ?_⟩
    rw [cellS m.2.2.2 (i := 1) (by omega), cellS m.2.2.2 (i := 2) (by omega)]
    refine rr_whom (d := 92) (y0 := 260) rfl hv ho m.2.1 (fun k1q_r k2q_r c0_r c1_r ea1_r ea2_r τ_r hc_r hf_r ht_r => ?_) (fun c0_r τ_r vv_r hc_r hf_r ht_r => ?_)
    · have qa1 := IX_J ea1 ea1_r (by omega) (by omega)
      subst qa1
      have qa2 := IX_J ea2 ea2_r (by omega) (by omega)
      subst qa2
      have LL := m.r hc_r hf_r
      have hS := m.2.2.2.fr hf_r (fun p j k => by omega)
      have hw := (hf_r.l (p := 277) (j := 0) (by omega)).trans hout
      exact tl0 hc_r.1 hS ht_r hw (hN _ _ _ _ _ ⟨Nat.le_refl _, Nat.le_refl _⟩ LL)
    · exfalso
      exact c0_r ⟨⟨k1q, (by omega), ea1⟩, ⟨k2q, (by omega), ea2⟩⟩
  · have m := hI
    refine ⟨by decide, ?_⟩
    rw [show hfind (tHD gT 293) 5 0 = some 1 from by decide +kernel]
    dsimp only [oI]
    intro B2 hB2
    subst hB2
    refine ⟨m.2.2.2.1.1, m.2.1.1, vq m.2.2.2 hk hL (show 1 ≤ 6 by omega), vq m.2.2.2 hk hL (show 2 ≤ 6 by omega), ?_⟩
    rw [cellS m.2.2.2 (i := 1) (by omega), cellS m.2.2.2 (i := 2) (by omega)]
    refine rr_whom (d := 92) (y0 := 260) rfl hv ho m.2.1 (fun k1q_r k2q_r c0_r c1_r ea1_r ea2_r τ_r hc_r hf_r ht_r => ?_) (fun c0_r τ_r vv_r hc_r hf_r ht_r => ?_)
    · exfalso
      exact c0 ⟨⟨k1q_r, (by omega), ea1_r⟩, ⟨k2q_r, (by omega), ea2_r⟩⟩
    · have LL := m.r hc_r hf_r
      have hS := m.2.2.2.fr hf_r (fun p j k => by omega)
      exact tl1 hc_r.1 hS ht_r (hN _ _ _ _ _ ⟨Nat.le_refl _, Nat.le_refl _⟩ LL)
theorem law_2261 {k : Nat} {x5 x6 x7 : Value} (hI : LI2 L xs σ mv kv img tp n fl mv kv img tp n fl) (hB : 16 ≤ B.1 ∧ 1000 ≤ B.2) (hk : k + 7 ≤ L) (hL : L ≤ 3584) (hN : NX7 80 B L xs (J k) Q) : WP gT (80 + 20) B 307 2261 [.ref 0, .ref 96, .ref 260, .ref 277, .int (J k), x5, x6, x7] [] σ Q := by
  have hv := hI.1.mv_.1
  have ho := hI.1.mv_.2.1
  have hs := hv.s
  have hos := ho.s
  have hn := hI.1.1.2.2.2.2.2.1.2
  refine g_307_2261 (d := 80) hI.2.2.2.1.1 hB ?_
  refine ⟨vq hI.2.2.2 hk hL (show 1 ≤ 6 by omega), vq hI.2.2.2 hk hL (show 2 ≤ 6 by omega), vq hI.2.2.2 hk hL (show 3 ≤ 6 by omega), vq hI.2.2.2 hk hL (show 4 ≤ 6 by omega), vq hI.2.2.2 hk hL (show 5 ≤ 6 by omega), vq hI.2.2.2 hk hL (show 6 ≤ 6 by omega), ?_⟩
  rw [cellS hI.2.2.2 (i := 1) (by omega), cellS hI.2.2.2 (i := 2) (by omega), cellS hI.2.2.2 (i := 3) (by omega), cellS hI.2.2.2 (i := 4) (by omega), cellS hI.2.2.2 (i := 5) (by omega), cellS hI.2.2.2 (i := 6) (by omega)]
  refine g_294_0 (d := 80) hI.1.sh (cc_warden (d := 80) (x0 := 96) hI.1 ⟨by decide, by decide⟩ (fun k1q rq qq pcq c0 c1 c2 c3 c4 c5 ea1 ea2 ea3 ea4 τ hc hf => ?_) (fun c0 => ?_) (fun c0 c1 => ?_))
  · have m := hI.c hc hf.f2
    refine ⟨m.oc.1, m.oc.2, m.ow (fun χ m hout => ?_)⟩
    dsimp only [oI]
    intro B2 hB2
    subst hB2
    refine ⟨m.2.2.2.1.1, m.2.1.1, vq m.2.2.2 hk hL (show 1 ≤ 6 by omega), vq m.2.2.2 hk hL (show 2 ≤ 6 by omega), vq m.2.2.2 hk hL (show 3 ≤ 6 by omega), vq m.2.2.2 hk hL (show 4 ≤ 6 by omega), vq m.2.2.2 hk hL (show 5 ≤ 6 by omega), vq m.2.2.2 hk hL (show 6 ≤ 6 by omega), ?_⟩
    rw [cellS m.2.2.2 (i := 1) (by omega), cellS m.2.2.2 (i := 2) (by omega), cellS m.2.2.2 (i := 3) (by omega), cellS m.2.2.2 (i := 4) (by omega), cellS m.2.2.2 (i := 5) (by omega), cellS m.2.2.2 (i := 6) (by omega)]
    refine rr_warden (d := 91) (y0 := 260) rfl hv ho m.2.1 (fun k1q_r rq_r qq_r pcq_r c0_r c1_r c2_r c3_r c4_r c5_r ea1_r ea2_r ea3_r ea4_r τ_r hc_r hf_r ht_r => ?_) (fun c0_r τ_r vv_r hc_r hf_r ht_r => ?_) (fun c0_r c1_r τ_r vv_r hc_r hf_r ht_r => ?_)
    · have qa1 := IX_J ea1 ea1_r (by omega) (by omega)
      subst qa1
      have qa2 := IX_J ea2 ea2_r (by omega) (by omega)
      subst qa2
      have qa3 := IX_J ea3 ea3_r (by omega) (by omega)
      subst qa3
      have qa4 := IX_J ea4 ea4_r (by omega) (by omega)
      subst qa4
      have LL := m.r hc_r hf_r
      have hS := m.2.2.2.fr hf_r (fun p j k => by omega)
      have hw := (hf_r.l (p := 277) (j := 0) (by omega)).trans hout
      exact tl0 hc_r.1 hS ht_r hw (hN _ _ _ _ _ ⟨Nat.le_refl _, Nat.le_refl _⟩ LL)
    · exfalso
      exact c0_r ⟨⟨k1q, (by omega), ea1⟩, ⟨rq, (by omega), ea2⟩, ⟨qq, (by omega), ea3⟩⟩
    · exfalso
      exact c1_r ⟨⟨pcq, (by omega), (by omega), ea4⟩, (by first | assumption | omega), (by first | assumption | omega)⟩
  · have m := hI
    refine ⟨by decide, ?_⟩
    rw [show hfind (tHD gT 294) 13 0 = some 1 from by decide +kernel]
    dsimp only [oI]
    intro B2 hB2
    subst hB2
    refine ⟨m.2.2.2.1.1, m.2.1.1, vq m.2.2.2 hk hL (show 1 ≤ 6 by omega), vq m.2.2.2 hk hL (show 2 ≤ 6 by omega), vq m.2.2.2 hk hL (show 3 ≤ 6 by omega), vq m.2.2.2 hk hL (show 4 ≤ 6 by omega), vq m.2.2.2 hk hL (show 5 ≤ 6 by omega), vq m.2.2.2 hk hL (show 6 ≤ 6 by omega), ?_⟩
    rw [cellS m.2.2.2 (i := 1) (by omega), cellS m.2.2.2 (i := 2) (by omega), cellS m.2.2.2 (i := 3) (by omega), cellS m.2.2.2 (i := 4) (by omega), cellS m.2.2.2 (i := 5) (by omega), cellS m.2.2.2 (i := 6) (by omega)]
    refine rr_warden (d := 91) (y0 := 260) rfl hv ho m.2.1 (fun k1q_r rq_r qq_r pcq_r c0_r c1_r c2_r c3_r c4_r c5_r ea1_r ea2_r ea3_r ea4_r τ_r hc_r hf_r ht_r => ?_) (fun c0_r τ_r vv_r hc_r hf_r ht_r => ?_) (fun c0_r c1_r τ_r vv_r hc_r hf_r ht_r => ?_)
    · exfalso
      exact c0 ⟨⟨k1q_r, (by omega), ea1_r⟩, ⟨rq_r, (by omega), ea2_r⟩, ⟨qq_r, (by omega), ea3_r⟩⟩
    · have LL := m.r hc_r hf_r
      have hS := m.2.2.2.fr hf_r (fun p j k => by omega)
      exact tl1 hc_r.1 hS ht_r (hN _ _ _ _ _ ⟨Nat.le_refl _, Nat.le_refl _⟩ LL)
    · exfalso
      first | omega | contradiction
  · have m := hI
    refine ⟨by decide, ?_⟩
    rw [show hfind (tHD gT 294) 13 1 = some 2 from by decide +kernel]
    dsimp only [oI]
    intro B2 hB2
    subst hB2
    refine ⟨m.2.2.2.1.1, m.2.1.1, vq m.2.2.2 hk hL (show 1 ≤ 6 by omega), vq m.2.2.2 hk hL (show 2 ≤ 6 by omega), vq m.2.2.2 hk hL (show 3 ≤ 6 by omega), vq m.2.2.2 hk hL (show 4 ≤ 6 by omega), vq m.2.2.2 hk hL (show 5 ≤ 6 by omega), vq m.2.2.2 hk hL (show 6 ≤ 6 by omega), ?_⟩
    rw [cellS m.2.2.2 (i := 1) (by omega), cellS m.2.2.2 (i := 2) (by omega), cellS m.2.2.2 (i := 3) (by omega), cellS m.2.2.2 (i := 4) (by omega), cellS m.2.2.2 (i := 5) (by omega), cellS m.2.2.2 (i := 6) (by omega)]
    refine rr_warden (d := 91) (y0 := 260) rfl hv ho m.2.1 (fun k1q_r rq_r qq_r pcq_r c0_r c1_r c2_r c3_r c4_r c5_r ea1_r ea2_r ea3_r ea4_r τ_r hc_r hf_r ht_r => ?_) (fun c0_r τ_r vv_r hc_r hf_r ht_r => ?_) (fun c0_r c1_r τ_r vv_r hc_r hf_r ht_r => ?_)
    · exfalso
      exact c1 ⟨⟨pcq_r, (by omega), (by omega), ea4_r⟩, (by first | assumption | omega), (by first | assumption | omega)⟩
    · exfalso
      first | omega | contradiction
    · have LL := m.r hc_r hf_r
      have hS := m.2.2.2.fr hf_r (fun p j k => by omega)
      exact tl2 hc_r.1 hS ht_r (hN _ _ _ _ _ ⟨Nat.le_refl _, Nat.le_refl _⟩ LL)
theorem law_2378 {k : Nat} {x5 x6 x7 : Value} (hI : LI2 L xs σ mv kv img tp n fl mv kv img tp n fl) (hB : 16 ≤ B.1 ∧ 1000 ≤ B.2) (hk : k + 7 ≤ L) (hL : L ≤ 3584) (hN : NX7 80 B L xs (J k) Q) : WP gT (80 + 20) B 307 2378 [.ref 0, .ref 96, .ref 260, .ref 277, .int (J k), x5, x6, x7] [] σ Q := by
  have hv := hI.1.mv_.1
  have ho := hI.1.mv_.2.1
  have hs := hv.s
  have hos := ho.s
  have hn := hI.1.1.2.2.2.2.2.1.2
  refine g_307_2378 (d := 80) hI.2.2.2.1.1 hB ?_
  refine ⟨vq hI.2.2.2 hk hL (show 1 ≤ 6 by omega), vq hI.2.2.2 hk hL (show 2 ≤ 6 by omega), ?_⟩
  rw [cellS hI.2.2.2 (i := 1) (by omega), cellS hI.2.2.2 (i := 2) (by omega)]
  refine g_295_0 (d := 80) hI.1.sh (cc_warns (d := 80) (x0 := 96) hI.1 ⟨by decide, by decide⟩ (fun k1q k2q c0 c1 ea1 ea2 τ hc hf => ?_) (fun c0 => ?_))
  · have m := hI.c hc hf.f2
    refine ⟨m.oc.1, m.oc.2, m.ow (fun χ m hout => ?_)⟩
    dsimp only [oI]
    intro B2 hB2
    subst hB2
    refine ⟨m.2.2.2.1.1, m.2.1.1, vq m.2.2.2 hk hL (show 1 ≤ 6 by omega), vq m.2.2.2 hk hL (show 2 ≤ 6 by omega), ?_⟩
    rw [cellS m.2.2.2 (i := 1) (by omega), cellS m.2.2.2 (i := 2) (by omega)]
    refine rr_warns (d := 92) (y0 := 260) rfl hv ho m.2.1 (fun k1q_r k2q_r c0_r c1_r ea1_r ea2_r τ_r hc_r hf_r ht_r => ?_) (fun c0_r τ_r vv_r hc_r hf_r ht_r => ?_)
    · have qa1 := IX_J ea1 ea1_r (by omega) (by omega)
      subst qa1
      have qa2 := IX_J ea2 ea2_r (by omega) (by omega)
      subst qa2
      have LL := m.r hc_r hf_r
      have hS := m.2.2.2.fr hf_r (fun p j k => by omega)
      have hw := (hf_r.l (p := 277) (j := 0) (by omega)).trans hout
      exact tl0 hc_r.1 hS ht_r hw (hN _ _ _ _ _ ⟨Nat.le_refl _, Nat.le_refl _⟩ LL)
    · exfalso
      exact c0_r ⟨⟨k1q, (by omega), ea1⟩, ⟨k2q, (by omega), ea2⟩⟩
  · have m := hI
    refine ⟨by decide, ?_⟩
    rw [show hfind (tHD gT 295) 5 0 = some 1 from by decide +kernel]
    dsimp only [oI]
    intro B2 hB2
    subst hB2
    refine ⟨m.2.2.2.1.1, m.2.1.1, vq m.2.2.2 hk hL (show 1 ≤ 6 by omega), vq m.2.2.2 hk hL (show 2 ≤ 6 by omega), ?_⟩
    rw [cellS m.2.2.2 (i := 1) (by omega), cellS m.2.2.2 (i := 2) (by omega)]
    refine rr_warns (d := 92) (y0 := 260) rfl hv ho m.2.1 (fun k1q_r k2q_r c0_r c1_r ea1_r ea2_r τ_r hc_r hf_r ht_r => ?_) (fun c0_r τ_r vv_r hc_r hf_r ht_r => ?_)
    · exfalso
      exact c0 ⟨⟨k1q_r, (by omega), ea1_r⟩, ⟨k2q_r, (by omega), ea2_r⟩⟩
    · have LL := m.r hc_r hf_r
      have hS := m.2.2.2.fr hf_r (fun p j k => by omega)
      exact tl1 hc_r.1 hS ht_r (hN _ _ _ _ _ ⟨Nat.le_refl _, Nat.le_refl _⟩ LL)
theorem law_2446 {k : Nat} {x5 x6 x7 : Value} (hI : LI2 L xs σ mv kv img tp n fl mv kv img tp n fl) (hB : 16 ≤ B.1 ∧ 1000 ≤ B.2) (hk : k + 7 ≤ L) (hL : L ≤ 3584) (hN : NX7 80 B L xs (J k) Q) : WP gT (80 + 20) B 307 2446 [.ref 0, .ref 96, .ref 260, .ref 277, .int (J k), x5, x6, x7] [] σ Q := by
  have hv := hI.1.mv_.1
  have ho := hI.1.mv_.2.1
  have hs := hv.s
  have hos := ho.s
  have hn := hI.1.1.2.2.2.2.2.1.2
  refine g_307_2446 (d := 80) hI.2.2.2.1.1 hB ?_
  refine ⟨vq hI.2.2.2 hk hL (show 1 ≤ 6 by omega), ?_⟩
  rw [cellS hI.2.2.2 (i := 1) (by omega)]
  refine g_296_0 (d := 80) hI.1.sh (cc_bears (d := 80) (x0 := 96) hI.1 ⟨by decide, by decide⟩ (fun k1q c0 ea1 τ hc hf => ?_) (fun c0 => ?_))
  · have m := hI.c hc hf.f2
    refine ⟨m.oc.1, m.oc.2, m.ow (fun χ m hout => ?_)⟩
    dsimp only [oI]
    intro B2 hB2
    subst hB2
    refine ⟨m.2.2.2.1.1, m.2.1.1, vq m.2.2.2 hk hL (show 1 ≤ 6 by omega), ?_⟩
    rw [cellS m.2.2.2 (i := 1) (by omega)]
    refine rr_bears (d := 91) (y0 := 260) rfl hv ho m.2.1 (fun k1q_r c0_r ea1_r τ_r hc_r hf_r ht_r => ?_) (fun c0_r τ_r vv_r hc_r hf_r ht_r => ?_)
    · have qa1 := IX_J ea1 ea1_r (by omega) (by omega)
      subst qa1
      have LL := m.r hc_r hf_r
      have hS := m.2.2.2.fr hf_r (fun p j k => by omega)
      have hw := (hf_r.l (p := 277) (j := 0) (by omega)).trans hout
      exact tl0 hc_r.1 hS ht_r hw (hN _ _ _ _ _ ⟨Nat.le_refl _, Nat.le_refl _⟩ LL)
    · exfalso
      exact c0_r ⟨k1q, (by omega), ea1⟩
  · have m := hI
    refine ⟨by decide, ?_⟩
    rw [show hfind (tHD gT 296) 4 0 = some 1 from by decide +kernel]
    dsimp only [oI]
    intro B2 hB2
    subst hB2
    refine ⟨m.2.2.2.1.1, m.2.1.1, vq m.2.2.2 hk hL (show 1 ≤ 6 by omega), ?_⟩
    rw [cellS m.2.2.2 (i := 1) (by omega)]
    refine rr_bears (d := 91) (y0 := 260) rfl hv ho m.2.1 (fun k1q_r c0_r ea1_r τ_r hc_r hf_r ht_r => ?_) (fun c0_r τ_r vv_r hc_r hf_r ht_r => ?_)
    · exfalso
      exact c0 ⟨k1q_r, (by omega), ea1_r⟩
    · have LL := m.r hc_r hf_r
      have hS := m.2.2.2.fr hf_r (fun p j k => by omega)
      exact tl1 hc_r.1 hS ht_r (hN _ _ _ _ _ ⟨Nat.le_refl _, Nat.le_refl _⟩ LL)
theorem law_2502 {k : Nat} {x5 x6 x7 : Value} (hI : LI2 L xs σ mv kv img tp n fl mv kv img tp n fl) (hB : 16 ≤ B.1 ∧ 1000 ≤ B.2) (hk : k + 7 ≤ L) (hL : L ≤ 3584) (hN : NX7 80 B L xs (J k) Q) : WP gT (80 + 20) B 307 2502 [.ref 0, .ref 96, .ref 260, .ref 277, .int (J k), x5, x6, x7] [] σ Q := by
  have hv := hI.1.mv_.1
  have ho := hI.1.mv_.2.1
  have hs := hv.s
  have hos := ho.s
  have hn := hI.1.1.2.2.2.2.2.1.2
  refine g_307_2502 (d := 80) hI.2.2.2.1.1 hB ?_
  refine ⟨vq hI.2.2.2 hk hL (show 1 ≤ 6 by omega), vq hI.2.2.2 hk hL (show 2 ≤ 6 by omega), vq hI.2.2.2 hk hL (show 3 ≤ 6 by omega), ?_⟩
  rw [cellS hI.2.2.2 (i := 1) (by omega), cellS hI.2.2.2 (i := 2) (by omega), cellS hI.2.2.2 (i := 3) (by omega)]
  refine g_297_0 (d := 80) hI.1.sh (cc_closing (d := 80) (x0 := 96) hI.1 ⟨by decide, by decide⟩ (fun k1q k2q k3q c0 c1 c2 ea1 ea2 ea3 τ hc hf => ?_) (fun c0 => ?_))
  · have m := hI.c hc hf.f2
    refine ⟨m.oc.1, m.oc.2, m.ow (fun χ m hout => ?_)⟩
    dsimp only [oI]
    intro B2 hB2
    subst hB2
    refine ⟨m.2.2.2.1.1, m.2.1.1, vq m.2.2.2 hk hL (show 1 ≤ 6 by omega), vq m.2.2.2 hk hL (show 2 ≤ 6 by omega), vq m.2.2.2 hk hL (show 3 ≤ 6 by omega), ?_⟩
    rw [cellS m.2.2.2 (i := 1) (by omega), cellS m.2.2.2 (i := 2) (by omega), cellS m.2.2.2 (i := 3) (by omega)]
    refine rr_closing (d := 95) (y0 := 260) rfl hv ho m.2.1 (fun k1q_r k2q_r k3q_r c0_r c1_r c2_r ea1_r ea2_r ea3_r τ_r hc_r hf_r ht_r => ?_) (fun c0_r τ_r vv_r hc_r hf_r ht_r => ?_)
    · have qa1 := IX_J ea1 ea1_r (by omega) (by omega)
      subst qa1
      have qa2 := IX_J ea2 ea2_r (by omega) (by omega)
      subst qa2
      have qa3 := IX_J ea3 ea3_r (by omega) (by omega)
      subst qa3
      have LL := m.r hc_r hf_r
      have hS := m.2.2.2.fr hf_r (fun p j k => by omega)
      have hw := (hf_r.l (p := 277) (j := 0) (by omega)).trans hout
      exact tl0 hc_r.1 hS ht_r hw (hN _ _ _ _ _ ⟨Nat.le_refl _, Nat.le_refl _⟩ LL)
    · exfalso
      exact c0_r ⟨⟨k1q, (by omega), ea1⟩, ⟨k2q, (by omega), ea2⟩, ⟨k3q, (by omega), ea3⟩⟩
  · have m := hI
    refine ⟨by decide, ?_⟩
    rw [show hfind (tHD gT 297) 7 0 = some 1 from by decide +kernel]
    dsimp only [oI]
    intro B2 hB2
    subst hB2
    refine ⟨m.2.2.2.1.1, m.2.1.1, vq m.2.2.2 hk hL (show 1 ≤ 6 by omega), vq m.2.2.2 hk hL (show 2 ≤ 6 by omega), vq m.2.2.2 hk hL (show 3 ≤ 6 by omega), ?_⟩
    rw [cellS m.2.2.2 (i := 1) (by omega), cellS m.2.2.2 (i := 2) (by omega), cellS m.2.2.2 (i := 3) (by omega)]
    refine rr_closing (d := 95) (y0 := 260) rfl hv ho m.2.1 (fun k1q_r k2q_r k3q_r c0_r c1_r c2_r ea1_r ea2_r ea3_r τ_r hc_r hf_r ht_r => ?_) (fun c0_r τ_r vv_r hc_r hf_r ht_r => ?_)
    · exfalso
      exact c0 ⟨⟨k1q_r, (by omega), ea1_r⟩, ⟨k2q_r, (by omega), ea2_r⟩, ⟨k3q_r, (by omega), ea3_r⟩⟩
    · have LL := m.r hc_r hf_r
      have hS := m.2.2.2.fr hf_r (fun p j k => by omega)
      exact tl1 hc_r.1 hS ht_r (hN _ _ _ _ _ ⟨Nat.le_refl _, Nat.le_refl _⟩ LL)
theorem law_2582 {k : Nat} {x5 x6 x7 : Value} (hI : LI2 L xs σ mv kv img tp n fl mv kv img tp n fl) (hB : 16 ≤ B.1 ∧ 1000 ≤ B.2) (hk : k + 7 ≤ L) (hL : L ≤ 3584) (hN : NX7 80 B L xs (J k) Q) : WP gT (80 + 20) B 307 2582 [.ref 0, .ref 96, .ref 260, .ref 277, .int (J k), x5, x6, x7] [] σ Q := by
  have hv := hI.1.mv_.1
  have ho := hI.1.mv_.2.1
  have hs := hv.s
  have hos := ho.s
  have hn := hI.1.1.2.2.2.2.2.1.2
  refine g_307_2582 (d := 80) hI.2.2.2.1.1 hB ?_
  refine ⟨vq hI.2.2.2 hk hL (show 1 ≤ 6 by omega), ?_⟩
  rw [cellS hI.2.2.2 (i := 1) (by omega)]
  refine g_298_0 (d := 81) hI.1.sh (cc_turbine (d := 81) (x0 := 96) hI.1 ⟨by decide, by decide⟩ (fun kq c0 ea1 τ hc hf => ?_) (fun c0 => ?_))
  · have m := hI.c hc hf.f2
    dsimp only [oI]
    intro B2 hB2
    subst hB2
    refine ⟨m.2.2.2.1.1, m.2.1.1, vq m.2.2.2 hk hL (show 1 ≤ 6 by omega), ?_⟩
    rw [cellS m.2.2.2 (i := 1) (by omega)]
    refine rr_turbine (d := 98) (y0 := 260) rfl m.2.1 (fun kq_r c0_r ea1_r τ_r hc_r hf_r ht_r => ?_) (fun c0_r τ_r hc_r hf_r ht_r => ?_)
    · have qa1 := IX_J ea1 ea1_r (by omega) (by omega)
      subst qa1
      have LL := m.r hc_r hf_r
      have hS := m.2.2.2.fr hf_r (fun p j k => by omega)
      exact tlv hc_r.1 (ht_r.trans rfl) (hN _ _ _ _ _ ⟨Nat.le_refl _, Nat.le_refl _⟩ LL)
    · exfalso
      exact c0_r ⟨kq, (by omega), (by omega), ea1⟩
  · have m := hI
    refine ⟨by decide, ?_⟩
    rw [show hfind (tHD gT 298) 2 1 = some 1 from by decide +kernel]
    dsimp only [oI]
    intro B2 hB2
    subst hB2
    refine ⟨m.2.2.2.1.1, m.2.1.1, vq m.2.2.2 hk hL (show 1 ≤ 6 by omega), ?_⟩
    rw [cellS m.2.2.2 (i := 1) (by omega)]
    refine rr_turbine (d := 98) (y0 := 260) rfl m.2.1 (fun kq_r c0_r ea1_r τ_r hc_r hf_r ht_r => ?_) (fun c0_r τ_r hc_r hf_r ht_r => ?_)
    · exfalso
      exact c0 ⟨kq_r, (by omega), (by omega), ea1_r⟩
    · have LL := m.r hc_r hf_r
      have hS := m.2.2.2.fr hf_r (fun p j k => by omega)
      exact tlv hc_r.1 (ht_r.trans rfl) (hN _ _ _ _ _ ⟨Nat.le_refl _, Nat.le_refl _⟩ LL)
theorem law_2618 {k : Nat} {x5 x6 x7 : Value} (hI : LI2 L xs σ mv kv img tp n fl mv kv img tp n fl) (hB : 16 ≤ B.1 ∧ 1000 ≤ B.2) (hk : k + 7 ≤ L) (hL : L ≤ 3584) (hN : NX7 80 B L xs (J k) Q) : WP gT (80 + 20) B 307 2618 [.ref 0, .ref 96, .ref 260, .ref 277, .int (J k), x5, x6, x7] [] σ Q := by
  have hv := hI.1.mv_.1
  have ho := hI.1.mv_.2.1
  have hs := hv.s
  have hos := ho.s
  have hn := hI.1.1.2.2.2.2.2.1.2
  refine g_307_2618 (d := 80) hI.2.2.2.1.1 hB ?_
  refine ⟨vq hI.2.2.2 hk hL (show 1 ≤ 6 by omega), ?_⟩
  rw [cellS hI.2.2.2 (i := 1) (by omega)]
  refine g_299_0 (d := 80) hI.1.sh (cc_power (d := 80) (x0 := 96) hI.1 ⟨by decide, by decide⟩ (fun k1q c0 ea1 τ hc hf => ?_) (fun c0 => ?_))
  · have m := hI.c hc hf.f2
    refine ⟨m.oc.1, m.oc.2, m.ow (fun χ m hout => ?_)⟩
    dsimp only [oI]
    intro B2 hB2
    subst hB2
    refine ⟨m.2.2.2.1.1, m.2.1.1, vq m.2.2.2 hk hL (show 1 ≤ 6 by omega), ?_⟩
    rw [cellS m.2.2.2 (i := 1) (by omega)]
    refine rr_power (d := 94) (y0 := 260) rfl hv ho m.2.1 (fun k1q_r c0_r ea1_r τ_r hc_r hf_r ht_r => ?_) (fun c0_r τ_r vv_r hc_r hf_r ht_r => ?_)
    · have qa1 := IX_J ea1 ea1_r (by omega) (by omega)
      subst qa1
      have LL := m.r hc_r hf_r
      have hS := m.2.2.2.fr hf_r (fun p j k => by omega)
      have hw := (hf_r.l (p := 277) (j := 0) (by omega)).trans hout
      exact tl0 hc_r.1 hS ht_r hw (hN _ _ _ _ _ ⟨Nat.le_refl _, Nat.le_refl _⟩ LL)
    · exfalso
      exact c0_r ⟨k1q, (by omega), ea1⟩
  · have m := hI
    refine ⟨by decide, ?_⟩
    rw [show hfind (tHD gT 299) 4 0 = some 1 from by decide +kernel]
    dsimp only [oI]
    intro B2 hB2
    subst hB2
    refine ⟨m.2.2.2.1.1, m.2.1.1, vq m.2.2.2 hk hL (show 1 ≤ 6 by omega), ?_⟩
    rw [cellS m.2.2.2 (i := 1) (by omega)]
    refine rr_power (d := 94) (y0 := 260) rfl hv ho m.2.1 (fun k1q_r c0_r ea1_r τ_r hc_r hf_r ht_r => ?_) (fun c0_r τ_r vv_r hc_r hf_r ht_r => ?_)
    · exfalso
      exact c0 ⟨k1q_r, (by omega), ea1_r⟩
    · have LL := m.r hc_r hf_r
      have hS := m.2.2.2.fr hf_r (fun p j k => by omega)
      exact tl1 hc_r.1 hS ht_r (hN _ _ _ _ _ ⟨Nat.le_refl _, Nat.le_refl _⟩ LL)
theorem law_2673 {k : Nat} {x5 x6 x7 : Value} (hI : LI2 L xs σ mv kv img tp n fl mv kv img tp n fl) (hB : 16 ≤ B.1 ∧ 1000 ≤ B.2) (hk : k + 7 ≤ L) (hL : L ≤ 3584) (hN : NX7 80 B L xs (J k) Q) : WP gT (80 + 20) B 307 2673 [.ref 0, .ref 96, .ref 260, .ref 277, .int (J k), x5, x6, x7] [] σ Q := by
  have hv := hI.1.mv_.1
  have ho := hI.1.mv_.2.1
  have hs := hv.s
  have hos := ho.s
  have hn := hI.1.1.2.2.2.2.2.1.2
  refine g_307_2673 (d := 80) hI.2.2.2.1.1 hB ?_
  refine ⟨vq hI.2.2.2 hk hL (show 1 ≤ 6 by omega), vq hI.2.2.2 hk hL (show 2 ≤ 6 by omega), vq hI.2.2.2 hk hL (show 3 ≤ 6 by omega), vq hI.2.2.2 hk hL (show 4 ≤ 6 by omega), vq hI.2.2.2 hk hL (show 5 ≤ 6 by omega), vq hI.2.2.2 hk hL (show 6 ≤ 6 by omega), ?_⟩
  intro u7 h7
  rw [cellS hI.2.2.2 (i := 6) (by omega)] at h7
  subst h7
  rw [cellS hI.2.2.2 (i := 1) (by omega), cellS hI.2.2.2 (i := 2) (by omega), cellS hI.2.2.2 (i := 3) (by omega), cellS hI.2.2.2 (i := 4) (by omega), cellS hI.2.2.2 (i := 5) (by omega)]
  refine g_300_0 (d := 80) hI.1.sh (cc_hours (d := 78) (x0 := 96) hI.1 ⟨by decide, by decide⟩ (fun gq sq qq mq Lq c0 c1 c2 c3 c4 c5 ea1 ea2 ea3 ea4 ea5 τ hc hf => ?_) (fun c0 => ?_) (fun c0 c1 => ?_))
  · have m := hI.c hc hf.f2
    refine ⟨m.oc.1, m.oc.2, m.ow (fun χ m hout => ?_)⟩
    dsimp only [oI]
    intro B2 hB2
    subst hB2
    refine ⟨m.2.2.2.1.1, m.2.1.1, vq m.2.2.2 hk hL (show 1 ≤ 6 by omega), vq m.2.2.2 hk hL (show 2 ≤ 6 by omega), vq m.2.2.2 hk hL (show 3 ≤ 6 by omega), vq m.2.2.2 hk hL (show 4 ≤ 6 by omega), vq m.2.2.2 hk hL (show 5 ≤ 6 by omega), vq m.2.2.2 hk hL (show 6 ≤ 6 by omega), ?_⟩
    intro u16 h16
    rw [cellS m.2.2.2 (i := 6) (by omega)] at h16
    subst h16
    rw [cellS m.2.2.2 (i := 1) (by omega), cellS m.2.2.2 (i := 2) (by omega), cellS m.2.2.2 (i := 3) (by omega), cellS m.2.2.2 (i := 4) (by omega), cellS m.2.2.2 (i := 5) (by omega)]
    refine rr_hours (d := 96) (y0 := 260) rfl hv ho m.2.1 (fun gq_r sq_r qq_r mq_r Lq_r c0_r c1_r c2_r c3_r c4_r c5_r ea1_r ea2_r ea3_r ea4_r ea5_r τ_r hc_r hf_r ht_r => ?_) (fun c0_r τ_r vv_r hc_r hf_r ht_r => ?_) (fun c0_r c1_r τ_r vv_r hc_r hf_r ht_r => ?_)
    · have qa1 := IX_J ea1 ea1_r (by omega) (by omega)
      subst qa1
      have qa2 := IX_J ea2 ea2_r (by omega) (by omega)
      subst qa2
      have qa3 := IX_J ea3 ea3_r (by omega) (by omega)
      subst qa3
      have qa4 := IX_J ea4 ea4_r (by omega) (by omega)
      subst qa4
      have qa5 := IX_J ea5 ea5_r (by omega) (by omega)
      subst qa5
      have LL := m.r hc_r hf_r
      have hS := m.2.2.2.fr hf_r (fun p j k => by omega)
      have hw := (hf_r.l (p := 277) (j := 0) (by omega)).trans hout
      exact tl0 hc_r.1 hS ht_r hw (hN _ _ _ _ _ ⟨Nat.le_refl _, Nat.le_refl _⟩ LL)
    · exfalso
      exact c0_r ⟨⟨gq, (by omega), ea1⟩, ⟨qq, (by omega), ea3⟩⟩
    · exfalso
      exact c1_r ⟨⟨sq, (by omega), (by omega), ea2⟩, ⟨mq, (by omega), (by omega), ea4⟩, ⟨Lq, (by omega), (by omega), ea5⟩⟩
  · have m := hI
    refine ⟨by decide, ?_⟩
    rw [show hfind (tHD gT 300) 13 0 = some 1 from by decide +kernel]
    dsimp only [oI]
    intro B2 hB2
    subst hB2
    refine ⟨m.2.2.2.1.1, m.2.1.1, vq m.2.2.2 hk hL (show 1 ≤ 6 by omega), vq m.2.2.2 hk hL (show 2 ≤ 6 by omega), vq m.2.2.2 hk hL (show 3 ≤ 6 by omega), vq m.2.2.2 hk hL (show 4 ≤ 6 by omega), vq m.2.2.2 hk hL (show 5 ≤ 6 by omega), vq m.2.2.2 hk hL (show 6 ≤ 6 by omega), ?_⟩
    intro u16 h16
    rw [cellS m.2.2.2 (i := 6) (by omega)] at h16
    subst h16
    rw [cellS m.2.2.2 (i := 1) (by omega), cellS m.2.2.2 (i := 2) (by omega), cellS m.2.2.2 (i := 3) (by omega), cellS m.2.2.2 (i := 4) (by omega), cellS m.2.2.2 (i := 5) (by omega)]
    refine rr_hours (d := 96) (y0 := 260) rfl hv ho m.2.1 (fun gq_r sq_r qq_r mq_r Lq_r c0_r c1_r c2_r c3_r c4_r c5_r ea1_r ea2_r ea3_r ea4_r ea5_r τ_r hc_r hf_r ht_r => ?_) (fun c0_r τ_r vv_r hc_r hf_r ht_r => ?_) (fun c0_r c1_r τ_r vv_r hc_r hf_r ht_r => ?_)
    · exfalso
      exact c0 ⟨⟨gq_r, (by omega), ea1_r⟩, ⟨qq_r, (by omega), ea3_r⟩⟩
    · have LL := m.r hc_r hf_r
      have hS := m.2.2.2.fr hf_r (fun p j k => by omega)
      exact tl1 hc_r.1 hS ht_r (hN _ _ _ _ _ ⟨Nat.le_refl _, Nat.le_refl _⟩ LL)
    · exfalso
      first | omega | contradiction
  · have m := hI
    refine ⟨by decide, ?_⟩
    rw [show hfind (tHD gT 300) 13 1 = some 2 from by decide +kernel]
    dsimp only [oI]
    intro B2 hB2
    subst hB2
    refine ⟨m.2.2.2.1.1, m.2.1.1, vq m.2.2.2 hk hL (show 1 ≤ 6 by omega), vq m.2.2.2 hk hL (show 2 ≤ 6 by omega), vq m.2.2.2 hk hL (show 3 ≤ 6 by omega), vq m.2.2.2 hk hL (show 4 ≤ 6 by omega), vq m.2.2.2 hk hL (show 5 ≤ 6 by omega), vq m.2.2.2 hk hL (show 6 ≤ 6 by omega), ?_⟩
    intro u16 h16
    rw [cellS m.2.2.2 (i := 6) (by omega)] at h16
    subst h16
    rw [cellS m.2.2.2 (i := 1) (by omega), cellS m.2.2.2 (i := 2) (by omega), cellS m.2.2.2 (i := 3) (by omega), cellS m.2.2.2 (i := 4) (by omega), cellS m.2.2.2 (i := 5) (by omega)]
    refine rr_hours (d := 96) (y0 := 260) rfl hv ho m.2.1 (fun gq_r sq_r qq_r mq_r Lq_r c0_r c1_r c2_r c3_r c4_r c5_r ea1_r ea2_r ea3_r ea4_r ea5_r τ_r hc_r hf_r ht_r => ?_) (fun c0_r τ_r vv_r hc_r hf_r ht_r => ?_) (fun c0_r c1_r τ_r vv_r hc_r hf_r ht_r => ?_)
    · exfalso
      exact c1 ⟨⟨sq_r, (by omega), (by omega), ea2_r⟩, ⟨mq_r, (by omega), (by omega), ea4_r⟩, ⟨Lq_r, (by omega), (by omega), ea5_r⟩⟩
    · exfalso
      first | omega | contradiction
    · have LL := m.r hc_r hf_r
      have hS := m.2.2.2.fr hf_r (fun p j k => by omega)
      exact tl2 hc_r.1 hS ht_r (hN _ _ _ _ _ ⟨Nat.le_refl _, Nat.le_refl _⟩ LL)
theorem law_2806 {k : Nat} {x5 x6 x7 : Value} (hI : LI2 L xs σ mv kv img tp n fl mv kv img tp n fl) (hB : 16 ≤ B.1 ∧ 1000 ≤ B.2) (hk : k + 7 ≤ L) (hL : L ≤ 3584) (hN : NX7 80 B L xs (J k) Q) : WP gT (80 + 20) B 307 2806 [.ref 0, .ref 96, .ref 260, .ref 277, .int (J k), x5, x6, x7] [] σ Q := by
  have hv := hI.1.mv_.1
  have ho := hI.1.mv_.2.1
  have hs := hv.s
  have hos := ho.s
  have hn := hI.1.1.2.2.2.2.2.1.2
  refine g_307_2806 (d := 80) hI.2.2.2.1.1 hB ?_
  refine ⟨vq hI.2.2.2 hk hL (show 1 ≤ 6 by omega), ?_⟩
  rw [cellS hI.2.2.2 (i := 1) (by omega)]
  refine g_301_0 (d := 81) hI.1.sh (cc_follow (d := 80) (x0 := 96) hI.1 ⟨by decide, by decide⟩ (fun k1q c0 c1 ea1 τ hc hf => ?_) (fun c0 => ?_) (fun c0 c1 => ?_))
  · have m := hI.c hc hf.f2
    refine ⟨m.oc.1, m.oc.2, m.ow (fun χ m hout => ?_)⟩
    dsimp only [oI]
    intro B2 hB2
    subst hB2
    refine ⟨m.2.2.2.1.1, m.2.1.1, vq m.2.2.2 hk hL (show 1 ≤ 6 by omega), ?_⟩
    rw [cellS m.2.2.2 (i := 1) (by omega)]
    refine rr_follow (d := 67) (y0 := 260) rfl hv ho hI.1.rl m.2.2.1 m.2.1 (fun k1q_r c0_r c1_r ea1_r τ_r hc_r hf_r ht_r => ?_) (fun c0_r τ_r vv_r hc_r hf_r ht_r => ?_) (fun c0_r c1_r τ_r vv_r hc_r hf_r ht_r => ?_)
    · have qa1 := IX_J ea1 ea1_r (by omega) (by omega)
      subst qa1
      have LL := m.r hc_r hf_r
      have hS := m.2.2.2.fr hf_r (fun p j k => by omega)
      have hw := (hf_r.l (p := 277) (j := 0) (by omega)).trans hout
      exact tl0 hc_r.1 hS ht_r hw (hN _ _ _ _ _ ⟨Nat.le_refl _, Nat.le_refl _⟩ LL)
    · exfalso
      exact c0_r ⟨k1q, (by omega), ea1⟩
    · exfalso
      exact c1_r (by first | assumption | omega)
  · have m := hI
    refine ⟨by decide, ?_⟩
    rw [show hfind (tHD gT 301) 4 0 = some 1 from by decide +kernel]
    dsimp only [oI]
    intro B2 hB2
    subst hB2
    refine ⟨m.2.2.2.1.1, m.2.1.1, vq m.2.2.2 hk hL (show 1 ≤ 6 by omega), ?_⟩
    rw [cellS m.2.2.2 (i := 1) (by omega)]
    refine rr_follow (d := 67) (y0 := 260) rfl hv ho hI.1.rl m.2.2.1 m.2.1 (fun k1q_r c0_r c1_r ea1_r τ_r hc_r hf_r ht_r => ?_) (fun c0_r τ_r vv_r hc_r hf_r ht_r => ?_) (fun c0_r c1_r τ_r vv_r hc_r hf_r ht_r => ?_)
    · exfalso
      exact c0 ⟨k1q_r, (by omega), ea1_r⟩
    · have LL := m.r hc_r hf_r
      have hS := m.2.2.2.fr hf_r (fun p j k => by omega)
      exact tl1 hc_r.1 hS ht_r (hN _ _ _ _ _ ⟨Nat.le_refl _, Nat.le_refl _⟩ LL)
    · exfalso
      first | omega | contradiction
  · have m := hI
    refine ⟨by decide, ?_⟩
    rw [show hfind (tHD gT 301) 4 2 = some 2 from by decide +kernel]
    dsimp only [oI]
    intro B2 hB2
    subst hB2
    refine ⟨m.2.2.2.1.1, m.2.1.1, vq m.2.2.2 hk hL (show 1 ≤ 6 by omega), ?_⟩
    rw [cellS m.2.2.2 (i := 1) (by omega)]
    refine rr_follow (d := 67) (y0 := 260) rfl hv ho hI.1.rl m.2.2.1 m.2.1 (fun k1q_r c0_r c1_r ea1_r τ_r hc_r hf_r ht_r => ?_) (fun c0_r τ_r vv_r hc_r hf_r ht_r => ?_) (fun c0_r c1_r τ_r vv_r hc_r hf_r ht_r => ?_)
    · exfalso
      exact c1 (by first | assumption | omega)
    · exfalso
      first | omega | contradiction
    · have LL := m.r hc_r hf_r
      have hS := m.2.2.2.fr hf_r (fun p j k => by omega)
      exact tl2 hc_r.1 hS ht_r (hN _ _ _ _ _ ⟨Nat.le_refl _, Nat.le_refl _⟩ LL)
theorem law_2862 {k : Nat} {x5 x6 x7 : Value} (hI : LI2 L xs σ mv kv img tp n fl mv kv img tp n fl) (hB : 16 ≤ B.1 ∧ 1000 ≤ B.2) (hk : k + 7 ≤ L) (hL : L ≤ 3584) (hN : NX7 80 B L xs (J k) Q) : WP gT (80 + 20) B 307 2862 [.ref 0, .ref 96, .ref 260, .ref 277, .int (J k), x5, x6, x7] [] σ Q := by
  have hv := hI.1.mv_.1
  have ho := hI.1.mv_.2.1
  have hs := hv.s
  have hos := ho.s
  have hn := hI.1.1.2.2.2.2.2.1.2
  refine g_307_2862 (d := 80) hI.2.2.2.1.1 hB ?_
  refine ⟨vq hI.2.2.2 hk hL (show 1 ≤ 6 by omega), ?_⟩
  rw [cellS hI.2.2.2 (i := 1) (by omega)]
  refine g_302_0 (d := 81) hI.1.sh (cc_keeps (d := 80) (x0 := 96) hI.1 ⟨by decide, by decide⟩ (fun k1q c0 ea1 τ hc hf => ?_) (fun c0 => ?_))
  · have m := hI.c hc hf.f2
    refine ⟨m.oc.1, m.oc.2, m.ow (fun χ m hout => ?_)⟩
    dsimp only [oI]
    intro B2 hB2
    subst hB2
    refine ⟨m.2.2.2.1.1, m.2.1.1, vq m.2.2.2 hk hL (show 1 ≤ 6 by omega), ?_⟩
    rw [cellS m.2.2.2 (i := 1) (by omega)]
    refine rr_keeps (d := 67) (y0 := 260) rfl hv ho hI.1.rl m.2.2.1 m.2.1 (fun k1q_r c0_r ea1_r τ_r hc_r hf_r ht_r => ?_) (fun c0_r τ_r vv_r hc_r hf_r ht_r => ?_)
    · have qa1 := IX_J ea1 ea1_r (by omega) (by omega)
      subst qa1
      have LL := m.r hc_r hf_r
      have hS := m.2.2.2.fr hf_r (fun p j k => by omega)
      have hw := (hf_r.l (p := 277) (j := 0) (by omega)).trans hout
      exact tl0 hc_r.1 hS ht_r hw (hN _ _ _ _ _ ⟨Nat.le_refl _, Nat.le_refl _⟩ LL)
    · exfalso
      exact c0_r ⟨k1q, (by omega), ea1⟩
  · have m := hI
    refine ⟨by decide, ?_⟩
    rw [show hfind (tHD gT 302) 4 0 = some 1 from by decide +kernel]
    dsimp only [oI]
    intro B2 hB2
    subst hB2
    refine ⟨m.2.2.2.1.1, m.2.1.1, vq m.2.2.2 hk hL (show 1 ≤ 6 by omega), ?_⟩
    rw [cellS m.2.2.2 (i := 1) (by omega)]
    refine rr_keeps (d := 67) (y0 := 260) rfl hv ho hI.1.rl m.2.2.1 m.2.1 (fun k1q_r c0_r ea1_r τ_r hc_r hf_r ht_r => ?_) (fun c0_r τ_r vv_r hc_r hf_r ht_r => ?_)
    · exfalso
      exact c0 ⟨k1q_r, (by omega), ea1_r⟩
    · have LL := m.r hc_r hf_r
      have hS := m.2.2.2.fr hf_r (fun p j k => by omega)
      exact tl1 hc_r.1 hS ht_r (hN _ _ _ _ _ ⟨Nat.le_refl _, Nat.le_refl _⟩ LL)
theorem law_2918 {k : Nat} {x5 x6 x7 : Value} (hI : LI2 L xs σ mv kv img tp n fl mv kv img tp n fl) (hB : 16 ≤ B.1 ∧ 1000 ≤ B.2) (hk : k + 7 ≤ L) (hL : L ≤ 3584) (hN : NX7 80 B L xs (J k) Q) : WP gT (80 + 20) B 307 2918 [.ref 0, .ref 96, .ref 260, .ref 277, .int (J k), x5, x6, x7] [] σ Q := by
  have hv := hI.1.mv_.1
  have ho := hI.1.mv_.2.1
  have hs := hv.s
  have hos := ho.s
  have hn := hI.1.1.2.2.2.2.2.1.2
  refine g_307_2918 (d := 80) hI.2.2.2.1.1 hB ?_
  refine ⟨vq hI.2.2.2 hk hL (show 1 ≤ 6 by omega), vq hI.2.2.2 hk hL (show 2 ≤ 6 by omega), vq hI.2.2.2 hk hL (show 3 ≤ 6 by omega), ?_⟩
  intro u4 h4
  rw [cellS hI.2.2.2 (i := 3) (by omega)] at h4
  subst h4
  rw [cellS hI.2.2.2 (i := 1) (by omega), cellS hI.2.2.2 (i := 2) (by omega)]
  have h3 : (if xs (k + 3) = J 0 then J 0 else J 1) = J 0 ∨ (if xs (k + 3) = J 0 then J 0 else J 1) = J 1 := by
    by_cases c : xs (k + 3) = J 0
    · rw [if_pos c]; exact Or.inl rfl
    · rw [if_neg c]; exact Or.inr rfl
  refine g_303_0 (d := 80) hI.1.sh (cc_log (d := 80) (x0 := 96) hI.1 ⟨by decide, by decide⟩ h3 (fun k1q k2q c0 c1 c2 ea1 ea2 τ hc hf => ?_) (fun c0 => ?_) (fun c0 c1 => ?_))
  · have m := hI.c hc hf.f2
    refine ⟨m.oc.1, m.oc.2, m.ow (fun χ m hout => ?_)⟩
    dsimp only [oI]
    intro B2 hB2
    subst hB2
    refine ⟨m.2.2.2.1.1, m.2.1.1, vq m.2.2.2 hk hL (show 1 ≤ 6 by omega), vq m.2.2.2 hk hL (show 2 ≤ 6 by omega), vq m.2.2.2 hk hL (show 3 ≤ 6 by omega), ?_⟩
    intro u10 h10
    rw [cellS m.2.2.2 (i := 3) (by omega)] at h10
    subst h10
    rw [cellS m.2.2.2 (i := 1) (by omega), cellS m.2.2.2 (i := 2) (by omega)]
    refine rr_log (d := 97) (y0 := 260) rfl hv ho m.2.1 (fun k1q_r k2q_r c0_r c1_r c2_r ea1_r ea2_r τ_r hc_r hf_r ht_r => ?_) (fun c0_r τ_r vv_r hc_r hf_r ht_r => ?_) (fun c0_r c1_r τ_r vv_r hc_r hf_r ht_r => ?_)
    · have qa1 := IX_J ea1 ea1_r (by omega) (by omega)
      subst qa1
      have qa2 := IX_J ea2 ea2_r (by omega) (by omega)
      subst qa2
      have LL := m.r hc_r hf_r
      have hS := m.2.2.2.fr hf_r (fun p j k => by omega)
      have hw := (hf_r.l (p := 277) (j := 0) (by omega)).trans hout
      exact tl0 hc_r.1 hS ht_r hw (hN _ _ _ _ _ ⟨Nat.le_refl _, Nat.le_refl _⟩ LL)
    · exfalso
      exact c0_r (by unfold calC1; exact ⟨⟨k1q, (by omega), ea1⟩, ⟨k2q, (by omega), ea2⟩⟩)
    · exfalso
      exact c1_r (by first | assumption | omega)
  · have m := hI
    refine ⟨by decide, ?_⟩
    rw [show hfind (tHD gT 303) 7 0 = some 1 from by decide +kernel]
    dsimp only [oI]
    intro B2 hB2
    subst hB2
    refine ⟨m.2.2.2.1.1, m.2.1.1, vq m.2.2.2 hk hL (show 1 ≤ 6 by omega), vq m.2.2.2 hk hL (show 2 ≤ 6 by omega), vq m.2.2.2 hk hL (show 3 ≤ 6 by omega), ?_⟩
    intro u10 h10
    rw [cellS m.2.2.2 (i := 3) (by omega)] at h10
    subst h10
    rw [cellS m.2.2.2 (i := 1) (by omega), cellS m.2.2.2 (i := 2) (by omega)]
    refine rr_log (d := 97) (y0 := 260) rfl hv ho m.2.1 (fun k1q_r k2q_r c0_r c1_r c2_r ea1_r ea2_r τ_r hc_r hf_r ht_r => ?_) (fun c0_r τ_r vv_r hc_r hf_r ht_r => ?_) (fun c0_r c1_r τ_r vv_r hc_r hf_r ht_r => ?_)
    · exfalso
      exact c0 (by unfold calC1; exact ⟨⟨k1q_r, (by omega), ea1_r⟩, ⟨k2q_r, (by omega), ea2_r⟩⟩)
    · have LL := m.r hc_r hf_r
      have hS := m.2.2.2.fr hf_r (fun p j k => by omega)
      exact tl1 hc_r.1 hS ht_r (hN _ _ _ _ _ ⟨Nat.le_refl _, Nat.le_refl _⟩ LL)
    · exfalso
      first | omega | contradiction
  · have m := hI
    refine ⟨by decide, ?_⟩
    rw [show hfind (tHD gT 303) 7 2 = some 2 from by decide +kernel]
    dsimp only [oI]
    intro B2 hB2
    subst hB2
    refine ⟨m.2.2.2.1.1, m.2.1.1, vq m.2.2.2 hk hL (show 1 ≤ 6 by omega), vq m.2.2.2 hk hL (show 2 ≤ 6 by omega), vq m.2.2.2 hk hL (show 3 ≤ 6 by omega), ?_⟩
    intro u10 h10
    rw [cellS m.2.2.2 (i := 3) (by omega)] at h10
    subst h10
    rw [cellS m.2.2.2 (i := 1) (by omega), cellS m.2.2.2 (i := 2) (by omega)]
    refine rr_log (d := 97) (y0 := 260) rfl hv ho m.2.1 (fun k1q_r k2q_r c0_r c1_r c2_r ea1_r ea2_r τ_r hc_r hf_r ht_r => ?_) (fun c0_r τ_r vv_r hc_r hf_r ht_r => ?_) (fun c0_r c1_r τ_r vv_r hc_r hf_r ht_r => ?_)
    · exfalso
      exact c1 (by first | assumption | omega)
    · exfalso
      first | omega | contradiction
    · have LL := m.r hc_r hf_r
      have hS := m.2.2.2.fr hf_r (fun p j k => by omega)
      exact tl2 hc_r.1 hS ht_r (hN _ _ _ _ _ ⟨Nat.le_refl _, Nat.le_refl _⟩ LL)
theorem law_3014 {k : Nat} {x5 x6 x7 : Value} (hI : LI2 L xs σ mv kv img tp n fl mv kv img tp n fl) (hB : 16 ≤ B.1 ∧ 1000 ≤ B.2) (hk : k + 7 ≤ L) (hL : L ≤ 3584) (hN : NX7 80 B L xs (J k) Q) : WP gT (80 + 20) B 307 3014 [.ref 0, .ref 96, .ref 260, .ref 277, .int (J k), x5, x6, x7] [] σ Q := by
  have hv := hI.1.mv_.1
  have ho := hI.1.mv_.2.1
  have hs := hv.s
  have hos := ho.s
  have hn := hI.1.1.2.2.2.2.2.1.2
  refine g_307_3014 (d := 80) hI.2.2.2.1.1 hB ?_
  refine ⟨vq hI.2.2.2 hk hL (show 1 ≤ 6 by omega), ?_⟩
  rw [cellS hI.2.2.2 (i := 1) (by omega)]
  refine g_304_0 (d := 80) hI.1.sh (cc_like (d := 80) (x0 := 96) hI.1 ⟨by decide, by decide⟩ (fun k1q c0 ea1 τ hc hf => ?_) (fun c0 => ?_))
  · have m := hI.c hc hf.f2
    refine ⟨m.oc.1, m.oc.2, m.ow (fun χ m hout => ?_)⟩
    dsimp only [oI]
    intro B2 hB2
    subst hB2
    refine ⟨m.2.2.2.1.1, m.2.1.1, vq m.2.2.2 hk hL (show 1 ≤ 6 by omega), ?_⟩
    rw [cellS m.2.2.2 (i := 1) (by omega)]
    refine rr_like (d := 93) (y0 := 260) rfl hv ho m.2.1 (fun k1q_r c0_r ea1_r τ_r hc_r hf_r ht_r => ?_) (fun c0_r τ_r vv_r hc_r hf_r ht_r => ?_)
    · have qa1 := IX_J ea1 ea1_r (by omega) (by omega)
      subst qa1
      have LL := m.r hc_r hf_r
      have hS := m.2.2.2.fr hf_r (fun p j k => by omega)
      have hw := (hf_r.l (p := 277) (j := 0) (by omega)).trans hout
      exact tl0 hc_r.1 hS ht_r hw (hN _ _ _ _ _ ⟨Nat.le_refl _, Nat.le_refl _⟩ LL)
    · exfalso
      exact c0_r ⟨k1q, (by omega), ea1⟩
  · have m := hI
    refine ⟨by decide, ?_⟩
    rw [show hfind (tHD gT 304) 4 0 = some 1 from by decide +kernel]
    dsimp only [oI]
    intro B2 hB2
    subst hB2
    refine ⟨m.2.2.2.1.1, m.2.1.1, vq m.2.2.2 hk hL (show 1 ≤ 6 by omega), ?_⟩
    rw [cellS m.2.2.2 (i := 1) (by omega)]
    refine rr_like (d := 93) (y0 := 260) rfl hv ho m.2.1 (fun k1q_r c0_r ea1_r τ_r hc_r hf_r ht_r => ?_) (fun c0_r τ_r vv_r hc_r hf_r ht_r => ?_)
    · exfalso
      exact c0 ⟨k1q_r, (by omega), ea1_r⟩
    · have LL := m.r hc_r hf_r
      have hS := m.2.2.2.fr hf_r (fun p j k => by omega)
      exact tl1 hc_r.1 hS ht_r (hN _ _ _ _ _ ⟨Nat.le_refl _, Nat.le_refl _⟩ LL)
theorem law_3083 {k : Nat} {x5 x6 x7 : Value} (hI : LI2 L xs σ mv kv img tp n fl mv kv img tp n fl) (hB : 16 ≤ B.1 ∧ 1000 ≤ B.2) (hk : k + 7 ≤ L) (hL : L ≤ 3584) (hN : NX7 80 B L xs (J k) Q) : WP gT (80 + 20) B 307 3083 [.ref 0, .ref 96, .ref 260, .ref 277, .int (J k), x5, x6, x7] [] σ Q := by
  have hv := hI.1.mv_.1
  have ho := hI.1.mv_.2.1
  have hs := hv.s
  have hos := ho.s
  have hn := hI.1.1.2.2.2.2.2.1.2
  refine g_307_3083 (d := 80) hI.2.2.2.1.1 hB ?_
  refine ⟨vq hI.2.2.2 hk hL (show 1 ≤ 6 by omega), vq hI.2.2.2 hk hL (show 2 ≤ 6 by omega), ?_⟩
  rw [cellS hI.2.2.2 (i := 1) (by omega), cellS hI.2.2.2 (i := 2) (by omega)]
  refine g_305_0 (d := 80) hI.1.sh (cc_near (d := 80) (x0 := 96) hI.1 ⟨by decide, by decide⟩ (fun k1q k2q c0 c1 ea1 ea2 τ hc hf => ?_) (fun c0 => ?_))
  · have m := hI.c hc hf.f2
    refine ⟨m.oc.1, m.oc.2, m.ow (fun χ m hout => ?_)⟩
    dsimp only [oI]
    intro B2 hB2
    subst hB2
    refine ⟨m.2.2.2.1.1, m.2.1.1, vq m.2.2.2 hk hL (show 1 ≤ 6 by omega), vq m.2.2.2 hk hL (show 2 ≤ 6 by omega), ?_⟩
    rw [cellS m.2.2.2 (i := 1) (by omega), cellS m.2.2.2 (i := 2) (by omega)]
    refine rr_near (d := 94) (y0 := 260) rfl hv ho m.2.1 (fun k1q_r k2q_r c0_r c1_r ea1_r ea2_r τ_r hc_r hf_r ht_r => ?_) (fun c0_r τ_r vv_r hc_r hf_r ht_r => ?_)
    · have qa1 := IX_J ea1 ea1_r (by omega) (by omega)
      subst qa1
      have qa2 := IX_J ea2 ea2_r (by omega) (by omega)
      subst qa2
      have LL := m.r hc_r hf_r
      have hS := m.2.2.2.fr hf_r (fun p j k => by omega)
      have hw := (hf_r.l (p := 277) (j := 0) (by omega)).trans hout
      exact tl0 hc_r.1 hS ht_r hw (hN _ _ _ _ _ ⟨Nat.le_refl _, Nat.le_refl _⟩ LL)
    · exfalso
      exact c0_r ⟨⟨k1q, (by omega), ea1⟩, ⟨k2q, (by omega), ea2⟩⟩
  · have m := hI
    refine ⟨by decide, ?_⟩
    rw [show hfind (tHD gT 305) 5 0 = some 1 from by decide +kernel]
    dsimp only [oI]
    intro B2 hB2
    subst hB2
    refine ⟨m.2.2.2.1.1, m.2.1.1, vq m.2.2.2 hk hL (show 1 ≤ 6 by omega), vq m.2.2.2 hk hL (show 2 ≤ 6 by omega), ?_⟩
    rw [cellS m.2.2.2 (i := 1) (by omega), cellS m.2.2.2 (i := 2) (by omega)]
    refine rr_near (d := 94) (y0 := 260) rfl hv ho m.2.1 (fun k1q_r k2q_r c0_r c1_r ea1_r ea2_r τ_r hc_r hf_r ht_r => ?_) (fun c0_r τ_r vv_r hc_r hf_r ht_r => ?_)
    · exfalso
      exact c0 ⟨⟨k1q_r, (by omega), ea1_r⟩, ⟨k2q_r, (by omega), ea2_r⟩⟩
    · have LL := m.r hc_r hf_r
      have hS := m.2.2.2.fr hf_r (fun p j k => by omega)
      exact tl1 hc_r.1 hS ht_r (hN _ _ _ _ _ ⟨Nat.le_refl _, Nat.le_refl _⟩ LL)
theorem law_3151 {k : Nat} {x5 x6 x7 : Value} (hI : LI2 L xs σ mv kv img tp n fl mv kv img tp n fl) (hB : 16 ≤ B.1 ∧ 1000 ≤ B.2) (hk : k + 7 ≤ L) (hL : L ≤ 3584) (hN : NX7 80 B L xs (J k) Q) : WP gT (80 + 20) B 307 3151 [.ref 0, .ref 96, .ref 260, .ref 277, .int (J k), x5, x6, x7] [] σ Q := by
  have hv := hI.1.mv_.1
  have ho := hI.1.mv_.2.1
  have hs := hv.s
  have hos := ho.s
  have hn := hI.1.1.2.2.2.2.2.1.2
  refine g_307_3151 (d := 80) hI.2.2.2.1.1 hB ?_
  refine ⟨vq hI.2.2.2 hk hL (show 1 ≤ 6 by omega), vq hI.2.2.2 hk hL (show 2 ≤ 6 by omega), ?_⟩
  rw [cellS hI.2.2.2 (i := 1) (by omega), cellS hI.2.2.2 (i := 2) (by omega)]
  refine g_306_0 (d := 80) hI.1.sh (cc_play (d := 80) (x0 := 96) hI.1 ⟨by decide, by decide⟩ (fun k1q c0 ea1 τ hc hf => ?_) (fun c0 => ?_))
  · have m := hI.c hc hf.f2
    refine ⟨m.oc.1, m.oc.2, m.ow (fun χ m hout => ?_)⟩
    dsimp only [oI]
    intro B2 hB2
    subst hB2
    refine ⟨m.2.2.2.1.1, m.2.1.1, vq m.2.2.2 hk hL (show 1 ≤ 6 by omega), vq m.2.2.2 hk hL (show 2 ≤ 6 by omega), ?_⟩
    rw [cellS m.2.2.2 (i := 1) (by omega), cellS m.2.2.2 (i := 2) (by omega)]
    refine rr_play (d := 94) (y0 := 260) rfl hv ho m.2.1 (fun k1q_r c0_r ea1_r τ_r hc_r hf_r ht_r => ?_) (fun c0_r τ_r vv_r hc_r hf_r ht_r => ?_)
    · have qa1 := IX_J ea1 ea1_r (by omega) (by omega)
      subst qa1
      have LL := m.r hc_r hf_r
      have hS := m.2.2.2.fr hf_r (fun p j k => by omega)
      have hw := (hf_r.l (p := 277) (j := 0) (by omega)).trans hout
      exact tl0 hc_r.1 hS ht_r hw (hN _ _ _ _ _ ⟨Nat.le_refl _, Nat.le_refl _⟩ LL)
    · exfalso
      exact c0_r ⟨k1q, (by omega), ea1⟩
  · have m := hI
    refine ⟨by decide, ?_⟩
    rw [show hfind (tHD gT 306) 5 0 = some 1 from by decide +kernel]
    dsimp only [oI]
    intro B2 hB2
    subst hB2
    refine ⟨m.2.2.2.1.1, m.2.1.1, vq m.2.2.2 hk hL (show 1 ≤ 6 by omega), vq m.2.2.2 hk hL (show 2 ≤ 6 by omega), ?_⟩
    rw [cellS m.2.2.2 (i := 1) (by omega), cellS m.2.2.2 (i := 2) (by omega)]
    refine rr_play (d := 94) (y0 := 260) rfl hv ho m.2.1 (fun k1q_r c0_r ea1_r τ_r hc_r hf_r ht_r => ?_) (fun c0_r τ_r vv_r hc_r hf_r ht_r => ?_)
    · exfalso
      exact c0 ⟨k1q_r, (by omega), ea1_r⟩
    · have LL := m.r hc_r hf_r
      have hS := m.2.2.2.fr hf_r (fun p j k => by omega)
      exact tl1 hc_r.1 hS ht_r (hN _ _ _ _ _ ⟨Nat.le_refl _, Nat.le_refl _⟩ LL)
