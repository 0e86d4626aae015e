/-! ===== the law's cases without a wrapper, the switch, the loop ===== -/
variable {B : Nat × Nat} {Q : Out → Sto → Prop} {P : Nat → Nat → Prop} {σ τ : Sto} {L k : Nat} {mv kv mv' kv' mv2 kv2 : Mem} {img img' img2 : Bool} {tp tp' tp2 : Mem} {n n' n2 : Nat} {fl fl' fl2 : Option Nat} {xs : Nat → Int32} {x5 x6 x7 : Value}
theorem bl : B.1 - 16 ≤ B.1 ∧ B.2 - 1000 ≤ B.2 := ⟨Nat.sub_le _ _, Nat.sub_le _ _⟩
theorem law_244 (hI : LI2 L xs σ mv kv img tp n fl mv kv img tp n fl) (hk : k + 7 ≤ L) (hL : L ≤ 3584) (hN : NX7 80 B L xs (J k) Q) : WP gT (80 + 20) B 307 244 [.ref 0, .ref 96, .ref 260, .ref 277, .int (J k), x5, x6, x7] [] σ Q := by
  have hn := hI.1.1.2.2.2.2.2.1.2.1
  refine g_307_244 (d := 80) hI.2.2.2.1.1 hI.1.sh ?_
  refine ⟨vq hI.2.2.2 hk hL (show 1 ≤ 6 by omega), vq hI.2.2.2 hk hL (show 2 ≤ 6 by omega), vq hI.2.2.2 hk hL (show 3 ≤ 6 by omega), vq hI.2.2.2 hk hL (show 4 ≤ 6 by omega), vq hI.2.2.2 hk hL (show 5 ≤ 6 by omega), ?_⟩
  rw [cellS hI.2.2.2 (i := 1) (by omega), cellS hI.2.2.2 (i := 2) (by omega), cellS hI.2.2.2 (i := 3) (by omega), cellS hI.2.2.2 (i := 4) (by omega), cellS hI.2.2.2 (i := 5) (by omega)]
  refine cc_feed (d := 98) (x0 := 96) hI.1 (fun c τ hc hf => ?_) (fun c => ?_)
  · have m := hI.c hc hf.f2
    dsimp only [oI]
    refine ⟨m.2.2.2.1.1, m.2.1.1, vq m.2.2.2 hk hL (show 1 ≤ 6 by omega), vq m.2.2.2 hk hL (show 2 ≤ 6 by omega), vq m.2.2.2 hk hL (show 3 ≤ 6 by omega), vq m.2.2.2 hk hL (show 4 ≤ 6 by omega), vq m.2.2.2 hk hL (show 5 ≤ 6 by omega), ?_⟩
    rw [cellS m.2.2.2 (i := 1) (by omega), cellS m.2.2.2 (i := 2) (by omega), cellS m.2.2.2 (i := 3) (by omega), cellS m.2.2.2 (i := 4) (by omega), cellS m.2.2.2 (i := 5) (by omega)]
    refine rr_feed (d := 99) (y0 := 260) rfl hn m.2.1 (fun c_r τ_r hc_r hf_r _ => ?_) (fun c_r => absurd c c_r)
    exact ⟨fun _ => hN _ _ _ _ _ bl (m.r hc_r hf_r), fun c => absurd rfl c⟩
  · have m := hI
    dsimp only [oI]
    refine ⟨m.2.2.2.1.1, m.2.1.1, vq m.2.2.2 hk hL (show 1 ≤ 6 by omega), vq m.2.2.2 hk hL (show 2 ≤ 6 by omega), vq m.2.2.2 hk hL (show 3 ≤ 6 by omega), vq m.2.2.2 hk hL (show 4 ≤ 6 by omega), vq m.2.2.2 hk hL (show 5 ≤ 6 by omega), ?_⟩
    rw [cellS m.2.2.2 (i := 1) (by omega), cellS m.2.2.2 (i := 2) (by omega), cellS m.2.2.2 (i := 3) (by omega), cellS m.2.2.2 (i := 4) (by omega), cellS m.2.2.2 (i := 5) (by omega)]
    refine rr_feed (d := 99) (y0 := 260) rfl hn m.2.1 (fun c_r => absurd c_r c) (fun c_r τ_r hc_r hf_r _ => ?_)
    exact ⟨fun _ => hN _ _ _ _ _ bl (m.r hc_r hf_r), fun c => absurd rfl c⟩
theorem law_317 (hI : LI2 L xs σ mv kv img tp n fl mv kv img tp n fl) (hk : k + 7 ≤ L) (hL : L ≤ 3584) (hN : NX7 80 B L xs (J k) Q) : WP gT (80 + 20) B 307 317 [.ref 0, .ref 96, .ref 260, .ref 277, .int (J k), x5, x6, x7] [] σ Q := by
  have hn := hI.1.1.2.2.2.2.2.1.2.1
  refine g_307_317 (d := 80) hI.2.2.2.1.1 hI.1.sh ?_
  refine ⟨vq hI.2.2.2 hk hL (show 1 ≤ 6 by omega), ?_⟩
  rw [cellS hI.2.2.2 (i := 1) (by omega)]
  refine cc_end (d := 99) (x0 := 96) hI.1 (fun j c e τ hc hf => ?_) (fun c => ?_)
  · have m := hI.c hc hf.f2
    dsimp only [oI]
    refine ⟨m.2.2.2.1.1, m.2.1.1, vq m.2.2.2 hk hL (show 1 ≤ 6 by omega), ?_⟩
    rw [cellS m.2.2.2 (i := 1) (by omega)]
    refine rr_end (d := 98) (y0 := 260) rfl hn m.2.1 (fun j_r c_r e_r τ_r hc_r hf_r _ => ?_) (fun c_r => absurd ⟨j, by omega, c, e⟩ c_r)
    have q := IX_J e e_r (by omega) (by omega)
    subst q
    exact ⟨fun _ => hN _ _ _ _ _ bl (m.r hc_r hf_r), fun c => absurd rfl c⟩
  · have m := hI
    dsimp only [oI]
    refine ⟨m.2.2.2.1.1, m.2.1.1, vq m.2.2.2 hk hL (show 1 ≤ 6 by omega), ?_⟩
    rw [cellS m.2.2.2 (i := 1) (by omega)]
    refine rr_end (d := 98) (y0 := 260) rfl hn m.2.1 (fun j_r c_r e_r => absurd ⟨j_r, by omega, c_r, e_r⟩ c) (fun c_r τ_r hc_r hf_r _ => ?_)
    exact ⟨fun _ => hN _ _ _ _ _ bl (m.r hc_r hf_r), fun c => absurd rfl c⟩
theorem law_430 (hI : LI2 L xs σ mv kv img tp n fl mv kv img tp n fl) (hN : NX7 80 B L xs (J k) Q) : WP gT (80 + 20) B 307 430 [.ref 0, .ref 96, .ref 260, .ref 277, .int (J k), x5, x6, x7] [] σ Q := by
  refine g_307_430 (d := 80) hI.1.sh hI.2.1.1 ?_
  refine rr_fault (d := 99) (y0 := 260) rfl hI.2.1 (fun τ_r hc_r hf_r _ => ?_)
  have e : f_98 σ 96 = oJ fl := hI.1.1.2.2.2.2.2.2.1.1
  rw [e]
  exact ⟨fun _ => hN _ _ _ _ _ bl (hI.r hc_r hf_r), fun c => absurd rfl c⟩
theorem law_1790 (hI : LI2 L xs σ mv kv img tp n fl mv kv img tp n fl) (hN : NX7 80 B L xs (J k) Q) : WP gT (80 + 20) B 307 1790 [.ref 0, .ref 96, .ref 260, .ref 277, .int (J k), x5, x6, x7] [] σ Q := by
  refine g_307_1790 (d := 80) hI.1.sh ?_
  refine cc_calls (d := 99) (x0 := 96) hI.1 (fun τ hc hf => ?_)
  have m := hI.c hc hf.f2
  refine ⟨m.2.1.1, rr_calls (d := 99) (y0 := 260) rfl m.2.1 (fun τ_r hc_r hf_r => ?_)⟩
  exact ⟨fun _ => hN _ _ _ _ _ bl (m.r hc_r hf_r), fun c => absurd rfl c⟩
theorem law_3070 (hI : LI2 L xs σ mv kv img tp n fl mv kv img tp n fl) (hN : NX7 80 B L xs (J k) Q) : WP gT (80 + 20) B 307 3070 [.ref 0, .ref 96, .ref 260, .ref 277, .int (J k), x5, x6, x7] [] σ Q := by
  refine g_307_3070 (d := 80) hI.1.sh ?_
  refine cc_likest (d := 92) (x0 := 96) hI.1 (fun τ hc hf => ?_)
  have m := hI.c hc hf.f2
  refine ⟨m.2.1.1, rr_likest (d := 93) (y0 := 260) rfl hI.1.mv_.1 hI.1.mv_.2.1 m.2.1 (fun τ_r hc_r hf_r => ?_)⟩
  exact ⟨fun _ => hN _ _ _ _ _ bl (m.r hc_r hf_r), fun c => absurd rfl c⟩
theorem law_3219 (hI : LI2 L xs σ mv kv img tp n fl mv kv img tp n fl) (hN : NX7 80 B L xs (J k) Q) : WP gT (80 + 20) B 307 3219 [.ref 0, .ref 96, .ref 260, .ref 277, .int (J k), x5, x6, x7] [] σ Q := by
  refine g_307_3219 (d := 80) hI.1.sh ?_
  refine cc_image (d := 94) (x0 := 96) hI.1 (fun τ hc hf => ?_)
  have m := hI.c hc hf
  refine ⟨m.2.1.1, rr_image (d := 99) (y0 := 260) rfl m.2.1 (fun τ_r hc_r hf_r _ => ?_)⟩
  exact hN _ _ _ _ _ bl (m.r hc_r hf_r)
theorem law_3243 (hI : LI2 L xs σ mv kv img tp n fl mv kv img tp n fl) (hk : k + 7 ≤ L) (hL : L ≤ 3584) (hN : NX7 80 B L xs (J k) Q) : WP gT (80 + 20) B 307 3243 [.ref 0, .ref 96, .ref 260, .ref 277, .int (J k), x5, x6, x7] [] σ Q := by
  refine g_307_3243 (d := 80) hI.2.2.2.1.1 hI.1.sh ?_
  refine ⟨vq hI.2.2.2 hk hL (show 1 ≤ 6 by omega), ?_⟩
  rw [cellS hI.2.2.2 (i := 1) (by omega)]
  refine cc_count (d := 97) (x0 := 96) hI.1 ?_
  have m := hI
  dsimp only [oI]
  refine ⟨m.2.2.2.1.1, m.2.1.1, vq m.2.2.2 hk hL (show 1 ≤ 6 by omega), ?_⟩
  rw [cellS m.2.2.2 (i := 1) (by omega)]
  refine rr_count (d := 98) (y0 := 260) rfl hI.1.mv_.1 m.2.1 (fun τ_r hc_r hf_r _ => ?_)
  exact ⟨fun _ => hN _ _ _ _ _ bl (m.r hc_r hf_r), fun c => absurd rfl c⟩
