/-! ===== whom to call ===== -/
variable {d : Nat} {B : Nat × Nat} {Q : Out → Sto → Prop} {P : Nat → Nat → Prop} {σ τ : Sto} {x0 y0 : Nat} {mv kv : Mem} {img : Bool} {tp : Mem} {n : Nat} {fl : Option Nat}
theorem up_lt {α : Type} {f : Nat → α} {k a : Nat} {v : α} (h : a < k) : up f k v a = f a := up_ne (by omega)
theorem cin_cong {cp cp' ca ca' : Mem} {k c : Nat} : ∀ m, (∀ i, i < m → cp i = cp' i ∧ ca i = ca' i) → cin mv cp ca k c m = cin mv cp' ca' k c m := by
  intro m
  induction m with
  | zero => intro _; rfl
  | succ m ih =>
    intro h
    rw [show cin mv cp ca k c (m + 1) = cin mv cp ca k c m + (if cp m = mv (2728 + 6 * k) ∧ inT mv k (ca m) c = true then 1 else 0) from rfl, show cin mv cp' ca' k c (m + 1) = cin mv cp' ca' k c m + (if cp' m = mv (2728 + 6 * k) ∧ inT mv k (ca' m) c = true then 1 else 0) from rfl, ih (fun i hi => h i (by omega)), (h m (by omega)).1, (h m (by omega)).2]
theorem cntC_cong {cp cp' : Mem} {p : Nat} : ∀ m, (∀ i, i < m → cp i = cp' i) → cntC cp p m = cntC cp' p m := by
  intro m
  induction m with
  | zero => intro _; rfl
  | succ m ih =>
    intro h
    rw [show cntC cp p (m + 1) = cntC cp p m + (if cp m = p then 1 else 0) from rfl, show cntC cp' p (m + 1) = cntC cp' p m + (if cp' m = p then 1 else 0) from rfl, ih (fun i hi => h i (by omega)), h m (by omega)]
theorem cin_ext {cp ca : Mem} {m p q k c : Nat} : cin mv (up cp m p) (up ca m q) k c (m + 1) = cin mv cp ca k c m + (if p = mv (2728 + 6 * k) ∧ inT mv k q c = true then 1 else 0) := by
  rw [show cin mv (up cp m p) (up ca m q) k c (m + 1) = cin mv (up cp m p) (up ca m q) k c m + (if up cp m p m = mv (2728 + 6 * k) ∧ inT mv k (up ca m q m) c = true then 1 else 0) from rfl, up_eq, up_eq, cin_cong m (fun i hi => ⟨up_lt hi, up_lt hi⟩)]
theorem C4_ext {cp : Mem} {m p : Nat} (h : C4 cp m) (hp : cntC cp p m < 4) : C4 (up cp m p) (m + 1) := by
  intro r
  rw [show cntC (up cp m p) r (m + 1) = cntC (up cp m p) r m + (if up cp m p m = r then 1 else 0) from rfl, up_eq, cntC_cong (cp' := cp) m (fun i hi => up_lt hi)]
  have h2 := h r
  by_cases e : p = r
  · rw [if_pos e, ← e]; omega
  · rw [if_neg e]; omega
/-- the fear of a longer list of calls -/
theorem fea_W {dp : Nat → Nat → Int32} {cp ca : Mem} {m : Nat} {ci : Nat → Option Nat} (h : ∀ k c, k < mv 5 → cin mv cp ca k c m = cin mv (cpM mv) (caM mv) k c (mv 6) + mWw mv ci k c) : ∀ k, k ≤ mv 5 → fea mv dp cp ca m k = feaW mv dp ci k := by
  intro k
  induction k with
  | zero => intro _; rfl
  | succ k ih =>
    intro hk
    rw [show fea mv dp cp ca m (k + 1) = fea mv dp cp ca m k + odd mv dp cp ca m k from rfl, show feaW mv dp ci (k + 1) = feaW mv dp ci k + oddW mv dp (mWw mv ci k) k from rfl, ih (by omega)]
    congr 1
    unfold odd oddW
    cases sty mv dp k with
    | none => rfl
    | some c => dsimp only; rw [h k c (by omega)]
def ci1 (p q : Nat) : Nat → Option Nat := fun r => if r = p then some q else none
theorem mW_1 {p q k c : Nat} : mWw mv (ci1 p q) k c = if p = mv (2728 + 6 * k) ∧ inT mv k q c = true then 1 else 0 := by
  unfold mWw ci1
  by_cases e : mv (2728 + 6 * k) = p
  · rw [if_pos e]; simp [e]
  · rw [if_neg e, if_neg (fun x => e x.1.symm)]
def whS (mv : Mem) (dp : Nat → Nat → Int32) (q : Nat) : Nat → WSt
  | 0 => (none, fea mv dp (cpM mv) (caM mv) (mv 6) (mv 5))
  | p + 1 => if cntP mv p (mv 6) = 4 then whS mv dp q p else if feaW mv dp (ci1 p q) (mv 5) < (whS mv dp q p).2 then (some p, feaW mv dp (ci1 p q) (mv 5)) else whS mv dp q p
theorem feaW_le {dp : Nat → Nat → Int32} {ci : Nat → Option Nat} (ho : VOo mv) (hc : ∀ p q, ci p = some q → cntP mv p (mv 6) < 4) : feaW mv dp ci (mv 5) ≤ 1000000000 := by
  have h0 := ho.s
  have : ∀ k, feaW mv dp ci k ≤ 100000000 * k := by
    intro k
    induction k with
    | zero => exact Nat.le_refl _
    | succ k ih =>
      rw [show feaW mv dp ci (k + 1) = feaW mv dp ci k + oddW mv dp (mWw mv ci k) k from rfl]
      have h1 : oddW mv dp (mWw mv ci k) k ≤ 100000000 := by
        unfold oddW
        cases sty mv dp k with
        | none => exact Nat.zero_le _
        | some c =>
          refine odN_le ?_
          have hle := cin_le (mv := mv) (cp := cpM mv) (ca := caM mv) (k := k) (c := c) (mv 6)
          have h4 : cntC (cpM mv) (mv (2728 + 6 * k)) (mv 6) ≤ 4 := ho.c4 _
          unfold mWw
          cases hci : ci (mv (2728 + 6 * k)) with
          | none => dsimp only; omega
          | some q =>
            have h5 : cntC (cpM mv) (mv (2728 + 6 * k)) (mv 6) < 4 := hc _ _ hci
            dsimp only; split <;> omega
      omega
  have := this (mv 5)
  omega
theorem whS_le {dp : Nat → Nat → Int32} (ho : VOo mv) (q : Nat) : ∀ p, (whS mv dp q p).2 ≤ 1000000000 := by
  intro p
  have h0 := ho.s
  induction p with
  | zero =>
    have h : fea mv dp (cpM mv) (caM mv) (mv 6) (mv 5) ≤ 100000000 * mv 5 := fea_le ho.c4 _
    show fea mv dp (cpM mv) (caM mv) (mv 6) (mv 5) ≤ _
    omega
  | succ p ih =>
    rw [show whS mv dp q (p + 1) = if cntP mv p (mv 6) = 4 then whS mv dp q p else if feaW mv dp (ci1 p q) (mv 5) < (whS mv dp q p).2 then (some p, feaW mv dp (ci1 p q) (mv 5)) else whS mv dp q p from rfl]
    split
    · exact ih
    · split
      · rename_i h1; exact Nat.le_trans (Nat.le_of_lt h1) ih
      · exact ih
theorem r_addCall {cp ca : Mem} {m p q : Nat} (nx : S_12 σ y0) (hc : RCc σ y0 cp ca m) (hm : m < 32) (hp : p < 12) (hq : q ≤ 95) (h4 : cntC cp p m < 4) (hQ : ∀ τ, Fr (P228 y0) σ τ → RCc τ y0 (up cp m p) (up ca m q) (m + 1) → Q (.inl none) τ) : WP gT d B 229 0 [.ref y0, .int (J p), .int (J q)] [] σ Q := by
  refine g_229_0 nx ?_
  rw [hc.1]
  simp (disch := omega) only [J_add, J_mul, J_sub, J_cl, J_lt, J_le, J_eq, vp_J, n1_ne, n1_lt, n1_le, n1_nlt, n1_nle]
  refine ⟨(by omega), (by omega), hQ _ (((Fr.rf.setI (by unfold P228; omega)).setI (by unfold P228; omega)).setI (by unfold P228; omega)) ⟨sI_same, by omega, C4_ext hc.2.2.1 h4, fun i hi => ?_⟩⟩
  by_cases e : i = m
  · subst e
    rw [sI_any (by omega), sI_any (by omega), sI_same, sI_any (by omega), sI_same, up_eq, up_eq]
    exact ⟨rfl, rfl, hp, hq⟩
  · rw [sI_any (by omega), sI_any (by omega), sI_any (by omega), sI_any (by omega), sI_any (by omega), sI_any (by omega), up_ne e, up_ne e]
    exact hc.2.2.2 i (by omega)
theorem cc_whom (h : CIv σ x0 mv kv img tp n fl) (hB : 16 ≤ B.1 ∧ 1000 ≤ B.2) {a1 a2 : Int32}
    (h0 : ∀ k1 k2, k1 < mv 4 → k2 < 96 → a1 = J k1 → a2 = J k2 → ∀ τ, CIv τ x0 mv kv img tp n fl → FCl σ τ → Q (.inl (some (.int (oJ (whS mv (dpF mv (stO mv k1) 0) k2 (mv 3)).1)))) τ) (h1 : ¬ (IX a1 (mv 4) ∧ IX a2 (96)) → Q (.inr 0) σ) : WP gT (d + 18) B 123 0 [.ref x0, .int a1, .int a2] [] σ Q := by
  have hx := h.x
  have hv := h.mv_.1
  have ho := h.mv_.2.1
  have hs := hv.s
  have ho1 := ho.s
  refine g_123_0 h.sh hB ⟨fun c1 => ⟨fun c2 => ?_, fun c2 => h1 (fun k => c2 (gQ.mpr k.2))⟩, fun c1 => h1 (fun k => c1 (h.gO.mpr k.1))⟩
  obtain ⟨k1, hk1, rfl⟩ := h.gO.mp c1
  obtain ⟨k2, hk2, rfl⟩ := gQ.mp c2
  have h0 := h0 k1 k2 hk1 hk2 rfl rfl
  refine c_dangerOf h hk1 (fun τ h2 hF hS hC hR => ?_)
  dsimp only [oR]
  refine ⟨hS, ?_⟩
  have n0 : S_0 τ (x0 + 126) := sub_11_126_0 hS
  have hka : sK τ (x0 + 129) = 14 ∧ sZ τ (x0 + 129) = 12 := hS.1 129 (by decide)
  refine g_1_0 n0 (c_fill (a := x0 + 129) (z := 12) hka.1 hka.2 (by omega) (fun ρ hF2 hz => ?_))
  have h3 := h2.fr hF2 (fun p j k => by unfold SCr; omega)
  have hR3 := hR.fr hF2 (fun i j a b k => by omega)
  refine ⟨sub_11_24_2 h3.sh, sub_11_120_1 h3.sh, c_fearNow (sub_11_120_1 h3.sh) (sub_11_48_6 h3.sh) h3.Pp ho hR3 ?_⟩
  dsimp only [oL]
  refine upto (I := fun _ χ => CIv χ x0 mv kv img tp n fl ∧ FCl σ χ ∧ DRr χ (x0 + 120) mv (dpF mv (stO mv k1) 0) ∧ ∀ p, p < 12 → sI χ (x0 + 129) p = -J 1) (W := fun p χ => ∀ x8 : Value, WP gT (d + 17) (0, 0) 1 24 [.ref (x0 + 126), .ref (x0 + 24), .ref (x0 + 120), .int (J k2), .long (N64 (whS mv (dpF mv (stO mv k1) 0) k2 p).2), .retAddr 0, .int (oJ (whS mv (dpF mv (stO mv k1) 0) k2 p).1), .int (J p), x8, .retAddr 0] [] χ (oI (fun v5 τ6 => Q (.inl (some (.int v5))) τ6) (fun _ _ => False))) (mv 3) ?_ ?_ 0 ρ (Nat.zero_le _) ⟨h3, hF.tr (FCl.of hx hF2 (fun p j k => by omega)), hR3, hz⟩ _
  · intro p χ hp hI ih x8
    obtain ⟨i1, i2, i3, i4⟩ := hI
    have hwl := whS_le (dp := (dpF mv (stO mv k1) 0)) ho k2 p
    have hcp : cntP mv p (mv 6) ≤ 4 := ho.c4 p
    refine g_1_24 (sub_11_24_2 i1.sh) ⟨fun e => ?_, fun _ => c_callsOf (sub_11_48_6 i1.sh) i1.Pp hv ho (by omega) ⟨sub_11_126_0 i1.sh, sub_11_24_2 i1.sh, sub_11_120_1 i1.sh, fun e => ?_, fun e => ⟨(by simp (disch := omega) only [J_add, J_mul, J_sub, J_cl, vp_J]; omega), ?_⟩⟩⟩
    · exfalso; rw [show x0 + 24 + 1 = x0 + 25 from rfl, i1.G.s.2.2.2.2.2.2] at e; simp (disch := omega) only [J_add, J_mul, J_sub, J_cl, J_lt, J_le, J_eq, vp_J, n1_ne, n1_lt, n1_le, n1_nlt, n1_nle] at e; omega
    · rw [J_le (by omega) (by omega)] at e
      have ih := ih χ ⟨i1, i2, i3, i4⟩ x8
      rw [show whS mv (dpF mv (stO mv k1) 0) k2 (p + 1) = if cntP mv p (mv 6) = 4 then whS mv (dpF mv (stO mv k1) 0) k2 p else if feaW mv (dpF mv (stO mv k1) 0) (ci1 p k2) (mv 5) < (whS mv (dpF mv (stO mv k1) 0) k2 p).2 then (some p, feaW mv (dpF mv (stO mv k1) 0) (ci1 p k2) (mv 5)) else whS mv (dpF mv (stO mv k1) 0) k2 p from rfl, if_pos (by omega)] at ih
      rw [J_add]; exact ih
    · rw [J_le (by omega) (by omega)] at e
      rw [J_cl (by omega)]
      have hF4 : Fr (fun q _ => q = x0 + 129) χ (setI χ (x0 + 129) p (J k2)) := Fr.rf.setI rfl
      have h4 := i1.fr hF4 (fun p j k => by unfold SCr; omega)
      have hR4 := i3.fr hF4 (fun i j a b k => by omega)
      have hcb : ∀ r q, ci1 p k2 r = some q → q ≤ 1000 ∧ cntP mv r (mv 6) < 4 := fun r q hr => by
        unfold ci1 at hr
        split at hr
        · rename_i e2; cases hr; subst e2; exact ⟨by omega, by omega⟩
        · cases hr
      have hka4 : sK (setI χ (x0 + 129) p (J k2)) (x0 + 129) = 14 ∧ sZ (setI χ (x0 + 129) p (J k2)) (x0 + 129) = 12 := h4.sh.1 129 (by decide)
      refine c_fearWith (ci := ci1 p k2) (sub_11_120_1 h4.sh) (sub_11_48_6 h4.sh) hka4.1 hka4.2 h4.Pp hv ho hR4 (fun r hr => ?_) hcb ⟨sub_11_126_0 h4.sh, (by simp (disch := omega) only [J_add, J_mul, J_sub, J_cl, vp_J]; omega), ?_⟩
      · unfold ci1
        by_cases e2 : r = p
        · subst e2; rw [if_pos rfl, sI_same]; rfl
        · rw [if_neg e2, sI_any (by omega)]; exact i4 r hr
      · have hfl := feaW_le (dp := (dpF mv (stO mv k1) 0)) (ci := ci1 p k2) ho (fun r q hr => (hcb r q hr).2)
        rw [ite_lg hfl hwl, ite_lg hfl hwl]
        have hF5 : Fr (fun q _ => q = x0 + 129) (setI χ (x0 + 129) p (J k2)) (setI (setI χ (x0 + 129) p (J k2)) (x0 + 129) p (-J 1)) := Fr.rf.setI rfl
        have h5 := h4.fr hF5 (fun p j k => by unfold SCr; omega)
        have ih := ih (setI (setI χ (x0 + 129) p (J k2)) (x0 + 129) p (-J 1)) ⟨h5, (i2.tr (FCl.of hx hF4 (fun p j k => by omega))).tr (FCl.of hx hF5 (fun p j k => by omega)), hR4.fr hF5 (fun i j a b k => by omega), fun r hr => by
          by_cases e2 : r = p
          · subst e2; rw [sI_same]
          · rw [sI_any (by omega), sI_any (by omega)]; exact i4 r hr⟩ (.long (N64 (feaW mv (dpF mv (stO mv k1) 0) (ci1 p k2) (mv 5))))
        rw [show whS mv (dpF mv (stO mv k1) 0) k2 (p + 1) = if cntP mv p (mv 6) = 4 then whS mv (dpF mv (stO mv k1) 0) k2 p else if feaW mv (dpF mv (stO mv k1) 0) (ci1 p k2) (mv 5) < (whS mv (dpF mv (stO mv k1) 0) k2 p).2 then (some p, feaW mv (dpF mv (stO mv k1) 0) (ci1 p k2) (mv 5)) else whS mv (dpF mv (stO mv k1) 0) k2 p from rfl, if_neg (by omega)] at ih
        rw [J_add]
        by_cases c : feaW mv (dpF mv (stO mv k1) 0) (ci1 p k2) (mv 5) < (whS mv (dpF mv (stO mv k1) 0) k2 p).2
        · rw [if_pos c] at ih; rw [if_pos c, if_pos c]; exact ih
        · rw [if_neg c] at ih; rw [if_neg c, if_neg c]; exact ih
  · intro χ hI x8
    obtain ⟨i1, i2, i3, i4⟩ := hI
    refine g_1_24 (sub_11_24_2 i1.sh) ⟨fun _ => h0 χ i1 i2, fun e => ?_⟩
    exfalso; rw [show x0 + 24 + 1 = x0 + 25 from rfl, i1.G.s.2.2.2.2.2.2] at e; simp (disch := omega) only [J_add, J_mul, J_sub, J_cl, J_lt, J_le, J_eq, vp_J, n1_ne, n1_lt, n1_le, n1_nlt, n1_nle] at e; omega
theorem rr_whom (hy : y0 = 260) (hv : VG mv) (ho : VOo mv) (h : RIv σ y0 mv kv img tp n fl) {a1 a2 : Int32}
    (h0 : ∀ k1 k2, k1 < mv 4 → k2 < 96 → a1 = J k1 → a2 = J k2 → ∀ τ, RIv τ y0 mv kv img tp n fl → FRf σ τ → sI τ y0 0 = J 0 → Q (.inl (some (.int (oJ (whS mv (dpF mv (stO mv k1) 0) k2 (mv 3)).1)))) τ) (h1 : ¬ (IX a1 (mv 4) ∧ IX a2 (96)) → ∀ τ v, RIv τ y0 mv kv img tp n fl → FRf σ τ → sI τ y0 0 = J 1 → Q (.inl (some (.int v))) τ) : WP gT (d + 7) B 243 0 [.ref y0, .int a1, .int a2, .retAddr 0, .retAddr 0, .retAddr 0, .retAddr 0, .retAddr 0, .retAddr 0, .retAddr 0] [] σ Q := by
  have hs := hv.s
  have ho1 := ho.s
  by_cases c : IX a1 (mv 4) ∧ IX a2 (96)
  · obtain ⟨⟨k1, hk1, rfl⟩, ⟨k2, hk2, rfl⟩⟩ := c
    have t1 : ¬ f_167 σ y0 (J k1) = J 0 := fun e => (r167 h.2.1 ho).mp e ⟨k1, hk1, rfl⟩
    have t2 : ¬ f_163 σ (J k2) = J 0 := fun e => (r163).mp e ⟨k2, hk2, rfl⟩
    have h0 := h0 k1 k2 hk1 hk2 rfl rfl
    refine g_243_0 h.1 (fun u hu => ?_)
    rw [if_neg t1, if_neg t2] at hu
    subst hu
    refine ⟨fun _ => ?_, fun e => absurd ret0 e⟩
    refine r_run hy hv ho h.thr hk1 (fun τ h2 hF ht hD hf hn hm => ?_)
    dsimp only [oV]
    refine ⟨h2.1, r_laysCalls h2.1 h2.2.1 ho hv (fun ρ hG hc => ?_)⟩
    have h3 := h2.fr hG (fun p j k _ _ => by unfold P228 at k; unfold SRr; omega)
    have hD3 := hD.fr hG (fun i j hi k => by unfold P228 at k; omega)
    have hFF : FRf σ ρ := ((FRf.th hy).tr hF).tr (FRf.of hy hG (fun p j k => by unfold P228 at k; omega))
    have ht3 : sI ρ y0 0 = J 0 := (hG.i (by unfold P228; omega)).trans (ht.trans sI_same)
    refine ⟨h3.1, r_fearNow h3.1 hD3 hv ho hc ?_⟩
    dsimp only [oL]
    rw [hc.1]
    refine upto (I := fun _ χ => RIv χ y0 mv kv img tp n fl ∧ FRf σ χ ∧ sI χ y0 0 = J 0 ∧ RDd χ y0 mv (dpF mv (stO mv k1) 0) (lkF mv (stO mv k1)) ∧ RCc χ y0 (cpM mv) (caM mv) (mv 6)) (W := fun p χ => ∀ x8 : Value, WP gT (d + 7) B 243 59 [.ref y0, .int (J k1), .int (J k2), .int (J (mv 6)), .long (N64 (whS mv (dpF mv (stO mv k1) 0) k2 p).2), .retAddr 0, .int (oJ (whS mv (dpF mv (stO mv k1) 0) k2 p).1), .int (J p), x8, .retAddr 0] [] χ Q) (mv 3) ?_ ?_ 0 ρ (Nat.zero_le _) ⟨h3, hFF, ht3, hD3, hc⟩ _
    · intro p χ hp hI ih x8
      obtain ⟨i1, i2, i3, i4, i5⟩ := hI
      have hwl := whS_le (dp := (dpF mv (stO mv k1) 0)) ho k2 p
      have hcp : cntP mv p (mv 6) ≤ 4 := ho.c4 p
      refine g_243_59 i1.1 ⟨fun e => ?_, fun _ => r_callsOf i1.1 i1.2.1 ho hv (by omega) ⟨i1.1, fun e => ?_, fun e => ?_⟩⟩
      · exfalso; simp (disch := omega) only [J_add, J_mul, J_sub, J_cl, J_lt, J_le, J_eq, vp_J, n1_ne, n1_lt, n1_le, n1_nlt, n1_nle, i1.2.1.at] at e; omega
      · rw [J_eq (by omega) (by omega)] at e
        have ih := ih χ ⟨i1, i2, i3, i4, i5⟩ x8
        rw [show whS mv (dpF mv (stO mv k1) 0) k2 (p + 1) = if cntP mv p (mv 6) = 4 then whS mv (dpF mv (stO mv k1) 0) k2 p else if feaW mv (dpF mv (stO mv k1) 0) (ci1 p k2) (mv 5) < (whS mv (dpF mv (stO mv k1) 0) k2 p).2 then (some p, feaW mv (dpF mv (stO mv k1) 0) (ci1 p k2) (mv 5)) else whS mv (dpF mv (stO mv k1) 0) k2 p from rfl, if_pos e] at ih
        rw [J_add]; exact ih
      · rw [J_eq (by omega) (by omega)] at e
        refine r_addCall (cp := cpM mv) (ca := caM mv) i1.1 i5 (by omega) (by omega) (by omega) (Nat.lt_of_le_of_ne hcp e) (fun φ hF4 hc4 => ?_)
        have h4 := i1.fr hF4 (fun p j k _ _ => by unfold P228 at k; unfold SRr; omega)
        have hD4 := i4.fr hF4 (fun i j hi k => by unfold P228 at k; omega)
        refine ⟨h4.1, r_fearNow h4.1 hD4 hv ho hc4 ⟨h4.1, ?_⟩⟩
        rw [fea_W (ci := ci1 p k2) (fun k c hk => by rw [cin_ext, mW_1]) (mv 5) (Nat.le_refl _)]
        have hfl := feaW_le (dp := (dpF mv (stO mv k1) 0)) (ci := ci1 p k2) ho (fun r q hr => by
          unfold ci1 at hr
          split at hr
          · rename_i e2; cases hr; subst e2; omega
          · cases hr)
        rw [ite_lg' hfl hwl, ite_lg' hfl hwl]
        have hF5 : Fr (P228 y0) φ (setI φ y0 23 (J (mv 6))) := Fr.rf.setI (by unfold P228; omega)
        have h5 := h4.fr hF5 (fun p j k _ _ => by unfold P228 at k; unfold SRr; omega)
        have ih := ih (setI φ y0 23 (J (mv 6))) ⟨h5, (i2.tr (FRf.of hy hF4 (fun p j k => by unfold P228 at k; omega))).tr (FRf.of hy hF5 (fun p j k => by unfold P228 at k; omega)), (hF5.i (by unfold P228; omega)).trans ((hF4.i (by unfold P228; omega)).trans i3), hD4.fr hF5 (fun i j hi k => by unfold P228 at k; omega), ⟨sI_same, i5.2.1, i5.2.2.1, fun i hi => by
            rw [sI_any (by omega), sI_any (by omega)]
            have := hc4.2.2.2 i (by omega)
            rw [up_lt hi, up_lt hi] at this
            exact this⟩⟩ (.long (N64 (feaW mv (dpF mv (stO mv k1) 0) (ci1 p k2) (mv 5))))
        rw [show whS mv (dpF mv (stO mv k1) 0) k2 (p + 1) = if cntP mv p (mv 6) = 4 then whS mv (dpF mv (stO mv k1) 0) k2 p else if feaW mv (dpF mv (stO mv k1) 0) (ci1 p k2) (mv 5) < (whS mv (dpF mv (stO mv k1) 0) k2 p).2 then (some p, feaW mv (dpF mv (stO mv k1) 0) (ci1 p k2) (mv 5)) else whS mv (dpF mv (stO mv k1) 0) k2 p from rfl, if_neg e] at ih
        rw [J_add]
        by_cases c : feaW mv (dpF mv (stO mv k1) 0) (ci1 p k2) (mv 5) < (whS mv (dpF mv (stO mv k1) 0) k2 p).2
        · rw [if_pos c] at ih; rw [if_pos c, if_pos c]; exact ih
        · rw [if_neg c] at ih; rw [if_neg c, if_neg c]; exact ih
    · intro χ hI x8
      obtain ⟨i1, i2, i3, i4, i5⟩ := hI
      refine g_243_59 i1.1 ⟨fun _ => h0 χ i1 i2 i3, fun e => ?_⟩
      exfalso; simp (disch := omega) only [J_add, J_mul, J_sub, J_cl, J_lt, J_le, J_eq, vp_J, n1_ne, n1_lt, n1_le, n1_nlt, n1_nle, i1.2.1.at] at e; omega
  · refine g_243_0 h.1 (fun u hu => ?_)
    have hu1 : u = J 1 := by
      rw [hu]
      by_cases q1 : f_167 σ y0 a1 = J 0
      · rw [if_pos q1]
      rw [if_neg q1]
      by_cases q2 : f_163 σ a2 = J 0
      · rw [if_pos q2]
      rw [if_neg q2]
      exact absurd ⟨Classical.not_not.mp (fun e => q1 ((r167 h.2.1 ho).mpr e)), Classical.not_not.mp (fun e => q2 ((r163).mpr e))⟩ c
    subst hu1
    exact ⟨fun e => absurd e ret1, fun _ => h1 c _ _ h.thr (FRf.th hy) sI_same⟩
