/-! ===== the class: odds, fear, judging ===== -/
variable {d : Nat} {B : Nat × Nat} {σ : Sto} {Q : Out → Sto → Prop} {f g pl D : Nat} {mv : Mem} {dp : Nat → Nat → Int32} {lk : Nat → Int32}
def opw (h t : Nat) : Nat → Nat
  | 0 => 1
  | i + 1 => opw h t i * (if i < t then 100 - h else 100)
theorem opw_4 {h t : Nat} (ht : t ≤ 4) : opw h t 4 = odN h t := by
  unfold odN
  simp only [opw]
  generalize 100 - h = x
  have : t = 0 ∨ t = 1 ∨ t = 2 ∨ t = 3 ∨ t = 4 := by omega
  rcases this with rfl | rfl | rfl | rfl | rfl <;> simp [Nat.pow_succ, Nat.mul_assoc]
theorem opw_le {h t : Nat} : ∀ i, opw h t i ≤ 100 ^ i := by
  intro i
  induction i with
  | zero => exact Nat.le_refl _
  | succ i ih =>
    rw [show opw h t (i + 1) = opw h t i * (if i < t then 100 - h else 100) from rfl, Nat.pow_succ]
    exact Nat.mul_le_mul ih (by split <;> omega)
def oddW (mv : Mem) (dp : Nat → Nat → Int32) (m : Nat → Nat) (k : Nat) : Nat := match sty mv dp k with
  | none => 0
  | some c => odN (mv (2728 + 6 * k + 3)) (cin mv (cpM mv) (caM mv) k c (mv 6) + m c)
theorem c_oddsWith (nD : S_1 σ D) (np : S_6 σ pl) (hP : RPp σ pl mv) (ho : VOo mv) {k : Nat} {x3 : Int32} {m : Nat → Nat} (hk : k < mv 5) (hR : DRk σ D mv dp k) (hx : ∀ c, sty mv dp k = some c → x3 = J (m c) ∧ cin mv (cpM mv) (caM mv) k c (mv 6) + m c ≤ 4)
    (hQ : Q (.inl (some (.long (N64 (oddW mv dp m k))))) σ) : WP gT d B 15 0 [.ref D, .ref pl, .int (J k), .int x3, .retAddr 0, .retAddr 0, .retAddr 0] [] σ Q := by
  have ho1 := ho.s
  have hkv := ho.k hk
  obtain ⟨h1, h2, h3, h4, h5⟩ := hR
  have hPk := hP.2.1 k hk
  refine g_15_0 nD ⟨(by simp (disch := omega) only [J_add, J_mul, J_sub, J_cl, vp_J]; omega), ?_⟩
  rw [J_cl (by omega), h4, b01]
  unfold oddW at hQ
  cases hs : sty mv dp k with
  | none => rw [hs] at hQ; exact ⟨fun _ => hQ, fun e => absurd rfl e⟩
  | some c =>
    rw [hs] at hQ
    dsimp only at hQ
    obtain ⟨hx1, hx2⟩ := hx c hs
    subst hx1
    refine ⟨fun e => (by cases e), fun _ => ?_⟩
    rw [← opw_4 hx2] at hQ
    refine upto0 (W := fun i => WP gT d B 15 17 [.ref D, .ref pl, .int (J k), .int (J (m c)), .long (N64 (opw (mv (2728 + 6 * k + 3)) (cin mv (cpM mv) (caM mv) k c (mv 6) + m c) i)), .retAddr 0, .int (J i)] [] σ Q) 4 (fun i hi ih => ?_) ?_ 0 (Nat.zero_le _)
    · refine g_15_17 nD np ⟨fun e => ?_, fun _ => ⟨(by simp (disch := omega) only [J_add, J_mul, J_sub, J_cl, vp_J]; omega), fun _ => ⟨(by simp (disch := omega) only [J_add, J_mul, J_sub, J_cl, vp_J]; omega), trivial⟩, fun u hu => ?_⟩⟩
      · exfalso; simp (disch := omega) only [J_add, J_mul, J_sub, J_cl, J_lt, J_le, J_eq, vp_J, n1_ne, n1_lt, n1_le, n1_nlt, n1_nle] at e; omega
      · rw [J_cl (by omega), h5 c hs, hPk.2.2.2.1] at hu
        simp (disch := omega) only [J_add, J_mul, J_sub, J_cl, J_lt, J_le, J_eq, vp_J, n1_ne, n1_lt, n1_le, n1_nlt, n1_nle] at hu
        have hu2 : u = N64 (if i < cin mv (cpM mv) (caM mv) k c (mv 6) + m c then 100 - mv (2728 + 6 * k + 3) else 100) := by
          rw [hu]
          by_cases e : cin mv (cpM mv) (caM mv) k c (mv 6) + m c ≤ i
          · rw [if_pos e, if_neg (by omega)]; rfl
          · rw [if_neg e, if_pos (by omega), N64_J (by omega)]
        rw [hu2, N64_mul, J_add]; exact ih
    · exact g_15_17 nD np ⟨fun _ => hQ, fun e => absurd (by decide : J 4 ≤ J 4) e⟩
theorem c_fearNow (nD : S_1 σ D) (np : S_6 σ pl) (hP : RPp σ pl mv) (ho : VOo mv) (hR : DRr σ D mv dp)
    (hQ : Q (.inl (some (.long (N64 (fea mv dp (cpM mv) (caM mv) (mv 6) (mv 5)))))) σ) : WP gT (d + 1) B 16 0 [.ref D, .ref pl, .retAddr 0, .retAddr 0, .retAddr 0] [] σ Q := by
  have ho1 := ho.s
  refine g_16_0 (upto0 (W := fun k => WP gT (d + 1) B 16 5 [.ref D, .ref pl, .long (N64 (fea mv dp (cpM mv) (caM mv) (mv 6) k)), .retAddr 0, .int (J k)] [] σ Q) (mv 5) (fun k hk ih => ?_) ?_ 0 (Nat.zero_le _))
  · refine g_16_5 np nD ⟨fun e => ?_, fun _ => c_oddsWith (m := fun _ => 0) nD np hP ho hk (hR k hk) (fun c _ => ⟨rfl, Nat.le_trans (cin_le _) (ho.c4 _)⟩) ?_⟩
    · exfalso; rw [hP.1.1] at e; simp (disch := omega) only [J_add, J_mul, J_sub, J_cl, J_lt, J_le, J_eq, vp_J, n1_ne, n1_lt, n1_le, n1_nlt, n1_nle] at e; omega
    · show WP gT (d + 1) B 16 5 [.ref D, .ref pl, .long (_ + _), .retAddr 0, .int (_ + _)] [] σ Q
      rw [N64_add, J_add]; exact ih
  · refine g_16_5 np nD ⟨fun _ => hQ, fun e => ?_⟩
    exfalso; rw [hP.1.1] at e; simp (disch := omega) only [J_add, J_mul, J_sub, J_cl, J_lt, J_le, J_eq, vp_J, n1_ne, n1_lt, n1_le, n1_nlt, n1_nle] at e; omega
/-- a call more in time, where the row ci says when each place is called -/
def mWw (mv : Mem) (ci : Nat → Option Nat) (k c : Nat) : Nat := match ci (mv (2728 + 6 * k)) with
  | none => 0
  | some q => if inT mv k q c = true then 1 else 0
def feaW (mv : Mem) (dp : Nat → Nat → Int32) (ci : Nat → Option Nat) : Nat → Nat
  | 0 => 0
  | k + 1 => feaW mv dp ci k + oddW mv dp (mWw mv ci k) k
theorem c_fearWith {a : Nat} {ci : Nat → Option Nat} (nD : S_1 σ D) (np : S_6 σ pl) (hka : sK σ a = 14) (hza : sZ σ a = 12) (hP : RPp σ pl mv) (hv : VG mv) (ho : VOo mv) (hR : DRr σ D mv dp) (hci : ∀ p, p < 12 → sI σ a p = oJ (ci p)) (hcb : ∀ p q, ci p = some q → q ≤ 1000 ∧ cntP mv p (mv 6) < 4)
    (hQ : Q (.inl (some (.long (N64 (feaW mv dp ci (mv 5)))))) σ) : WP gT (d + 1) B 17 0 [.ref D, .ref pl, .ref a, .retAddr 0, .retAddr 0, .retAddr 0, .retAddr 0] [] σ Q := by
  have ho1 := ho.s
  have hs := hv.s
  have key := upto0 (W := fun k => ∀ x6 : Value, WP gT (d + 1) B 17 5 [.ref D, .ref pl, .ref a, .long (N64 (feaW mv dp ci k)), .retAddr 0, .int (J k), x6] [] σ Q) (mv 5) (fun k hk ih x6 => ?_) (fun x6 => ?_) 0 (Nat.zero_le _)
  · exact g_17_0 (key _)
  · have hkv := ho.k hk
    have hpv := hv.p hkv.1
    have hPk := hP.2.1 k hk
    have hRk := hR k hk
    have htF : tF mv k ≤ 95 := by unfold tF; split <;> omega
    refine g_17_5 np hka nD ⟨fun e => ?_, fun _ => ⟨(by simp (disch := omega) only [J_add, J_mul, J_sub, J_cl, vp_J]; omega), ?_, fun _ => ⟨(by simp (disch := omega) only [J_add, J_mul, J_sub, J_cl, vp_J]; omega), fun _ => ⟨(by simp (disch := omega) only [J_add, J_mul, J_sub, J_cl, vp_J]; omega), trivial⟩, trivial⟩, fun u hu => ?_⟩⟩
    · exfalso; rw [hP.1.1] at e; simp (disch := omega) only [J_add, J_mul, J_sub, J_cl, J_lt, J_le, J_eq, vp_J, n1_ne, n1_lt, n1_le, n1_nlt, n1_nle] at e; omega
    · rw [J_cl (by omega), hPk.1, hza]; simp (disch := omega) only [J_add, J_mul, J_sub, J_cl, J_lt, J_le, J_eq, vp_J, n1_ne, n1_lt, n1_le, n1_nlt, n1_nle]; omega
    · simp (disch := omega) only [J_cl, hPk, hci] at hu ⊢
      refine c_oddsWith (m := mWw mv ci k) nD np hP ho hk hRk (fun c hc => ?_) ?_
      · have hca := (sty_cau hc).1
        have hcb2 := cau_lt hkv.2.1 hkv.2.2.1 hca
        unfold mWw
        cases hcp : ci (mv (2728 + 6 * k)) with
        | none =>
          rw [hcp, show oJ none = -J 1 from rfl, if_pos rfl] at hu
          exact ⟨hu, Nat.le_trans (cin_le _) (ho.c4 _)⟩
        | some q =>
          have hb := hcb _ _ hcp
          rw [hcp, show oJ (some q) = J q from rfl, if_neg (by rw [n1_ne (by omega)]; exact id), cv_14 hRk.2.1 (hRk.2.2.1 c hca) (by omega) hcb2 htF hb.1 (by omega)] at hu
          have hle := cin_le (mv := mv) (cp := cpM mv) (ca := caM mv) (k := k) (c := c) (mv 6)
          have hb2 : cntC (cpM mv) (mv (2728 + 6 * k)) (mv 6) < 4 := hb.2
          dsimp only
          by_cases e : inT mv k q c = true
          · rw [if_pos e] at hu ⊢
            rw [if_neg (by decide)] at hu
            exact ⟨hu, by omega⟩
          · rw [if_neg e] at hu ⊢
            rw [if_pos rfl] at hu
            exact ⟨hu, by omega⟩
      · show WP gT (d + 1) B 17 5 [.ref D, .ref pl, .ref a, .long (_ + _), .retAddr 0, .int (_ + _), _] [] σ Q
        rw [N64_add, J_add]; exact ih _
  · refine g_17_5 np hka nD ⟨fun _ => hQ, fun e => ?_⟩
    exfalso; rw [hP.1.1] at e; simp (disch := omega) only [J_add, J_mul, J_sub, J_cl, J_lt, J_le, J_eq, vp_J, n1_ne, n1_lt, n1_le, n1_nlt, n1_nle] at e; omega
theorem c_callsOf {p : Nat} (np : S_6 σ pl) (hP : RPp σ pl mv) (hv : VG mv) (ho : VOo mv) (hp : p < 12) (hQ : Q (.inl (some (.int (J (cntP mv p (mv 6)))))) σ) : WP gT d B 55 0 [.ref pl, .int (J p), .retAddr 0, .retAddr 0] [] σ Q := by
  have ho1 := ho.s
  have hs := hv.s
  refine g_55_0 (upto0 (W := fun i => WP gT d B 55 4 [.ref pl, .int (J p), .int (J (cntP mv p i)), .int (J i)] [] σ Q) (mv 6) (fun i hi ih => ?_) ?_ 0 (Nat.zero_le _))
  · have hcv := ho.c hi
    refine g_55_4 np ⟨fun e => ?_, fun _ => ⟨(by simp (disch := omega) only [J_add, J_mul, J_sub, J_cl, vp_J]; omega), ?_⟩⟩
    · exfalso; rw [hP.1.2] at e; simp (disch := omega) only [J_add, J_mul, J_sub, J_cl, J_lt, J_le, J_eq, vp_J, n1_ne, n1_lt, n1_le, n1_nlt, n1_nle] at e; omega
    · simp (disch := omega) only [J_cl, hP.2.2 i hi, J_eq, J_add]
      have e : (if mv (2788 + 2 * i) = p then J (cntP mv p i + 1) else J (cntP mv p i)) = J (cntP mv p (i + 1)) := by
        show _ = J (cntP mv p i + _)
        split <;> rfl
      rw [e]; exact ih
  · refine g_55_4 np ⟨fun _ => hQ, fun e => ?_⟩
    exfalso; rw [hP.1.2] at e; simp (disch := omega) only [J_add, J_mul, J_sub, J_cl, J_lt, J_le, J_eq, vp_J, n1_ne, n1_lt, n1_le, n1_nlt, n1_nle] at e; omega
theorem c_judged {x0 : Nat} (nx : S_2 σ x0) (nf : S_3 σ f) (nD : S_1 σ D) (h1 : x0 + 37 ≤ D ∨ D + 6 ≤ x0) (h3 : f + 22 ≤ D ∨ D + 6 ≤ f) (hv : VG mv) (ho : VOo mv) (hG : RGg σ (x0 + 1) mv) (hP : RPp σ (x0 + 24) mv) (hb : sI σ x0 5 = J (mv 14) ∧ sI σ x0 6 = J (mv 15) ∧ sI σ x0 7 = J (mv 16)) (h : CDd σ f mv dp lk)
    (hQ : ∀ τ, Fr (P10 D) σ τ → Q (.inl (some (.int (J (jud mv dp lk (fea mv dp (cpM mv) (caM mv) (mv 6) (mv 5))))))) τ) : WP gT (d + 4) B 23 0 [.ref x0, .ref f, .ref D] [] σ Q := by
  have hs := hv.s
  have ho1 := ho.s
  have hg := hG.s
  have hfl : fea mv dp (cpM mv) (caM mv) (mv 6) (mv 5) ≤ 100000000 * mv 5 := fea_le (mv := mv) (dp := dp) (ca := caM mv) ho.c4 (mv 5)
  have hhl := hrm_le (dp := dp) hv (mv 3) (Nat.le_refl _)
  have hne : ¬ sI σ (x0 + 1) 0 = J 0 := by rw [hg.1, J_eq (by omega) (by omega)]; omega
  unfold jud at hQ
  refine g_23_0 nx nf nD ⟨⟨fun _ => ⟨?_, fun _ => ⟨hne, trivial⟩, trivial⟩, fun _ => ⟨fun _ => ⟨hne, trivial⟩, trivial⟩⟩, ?_⟩
  · rw [hg.2.2.2.1]; simp (disch := omega) only [J_add, J_mul, J_sub, J_cl, J_lt, J_le, J_eq, vp_J, n1_ne, n1_lt, n1_le, n1_nlt, n1_nle]; omega
  · rw [hg.2.2.2.1, cv_28 h hG hv (by omega), hg.2.2.1]
    refine ⟨fun c => ?_, fun c => ?_⟩
    · simp only [if_pos c] at hQ
      refine c_look nD nf (sub_2_1_4 nx) (sub_2_24_6 nx) (by omega) (by omega) h3 hv ho hG hP h (fun τ hF hR => ⟨hF.sh nx, hF.sh nD, ?_⟩)
      have hP2 : RPp τ (x0 + 24) mv := hP.fr hF (fun i j hi k => by unfold P10 at k; omega)
      have hG2 : RGg τ (x0 + 1) mv := hG.fr hF (fun i j hi k => by unfold P10 at k; omega)
      have hC2 : CDd τ f mv dp lk := h.fr hv hF (fun i j hi k => by unfold P10 at k; omega)
      have hQ := hQ τ hF
      refine c_fearNow (hF.sh nD) (sub_2_24_6 (hF.sh nx)) hP2 ho hR ⟨hF.sh nx, hF.sh nf, ?_⟩
      rw [hF.i (by unfold P10; omega), hb.1, N64_J (by omega), show Int64.ofInt 1000000 = N64 1000000 from rfl, N64_mul, N64_cmp (by omega) (by omega), Nat.mul_comm (mv 14) 1000000]
      refine ⟨fun c2 => ?_, fun c2 => ?_⟩
      · rw [if_pos c2] at hQ
        rw [hF.i (by unfold P10; omega), hb.2.1]
        refine c_falls (hF.sh nf) (sub_2_1_4 (hF.sh nx)) hC2 hG2 hv (by omega) ⟨hF.sh nx, hF.sh nf, ?_⟩
        rw [b01]
        refine ⟨fun c3 => ?_, fun c3 => ?_⟩
        · rw [if_neg (by rw [c3]; decide)] at hQ
          refine c_harm (hF.sh nf) (sub_2_1_4 (hF.sh nx)) hC2 hG2 hv ⟨hF.sh nx, ?_⟩
          rw [hF.i (by unfold P10; omega), hb.2.2]
          simp (disch := omega) only [J_le]
          by_cases c4 : hrm mv dp (mv 3) ≤ mv 16
          · rw [if_pos c4] at hQ ⊢; exact hQ
          · rw [if_neg c4] at hQ ⊢; exact hQ
        · rw [if_pos (by simpa using c3)] at hQ; exact hQ
      · rw [if_neg c2] at hQ; exact hQ
    · simp only [if_neg c] at hQ; exact hQ σ Fr.rf
