/-! ===== hours, both sides ===== -/
variable {d : Nat} {B : Nat × Nat} {Q : Out → Sto → Prop} {P : Nat → Nat → Prop} {σ τ : Sto} {x0 y0 X a m k q L : Nat} {mv kv w W : Mem} {img : Bool} {tp : Mem} {n : Nat} {fl : Option Nat}
/-- what the water of a quarter is worth -/
def wF (mv : Mem) (F : Nat) : Mem := fun q => F * mv (212 + q)
theorem wF_le (hv : VG mv) {F : Nat} (hF : F ≤ 9999) (hq : q < 96) : wF mv F q ≤ 1000000 := by
  have := (hv.q hq).2.2
  have h2 : F * mv (212 + q) ≤ 9999 * 99 := Nat.mul_le_mul hF this
  unfold wF; omega
def hoF (mv : Mem) (g s : Nat) : Nat := if mv 13 ≤ flwG mv g s then mv 13 else flwG mv g s
theorem hoF_le (ho : VOo mv) (g s : Nat) : hoF mv g s ≤ 9999 := by
  have := ho.s
  unfold hoF; split <;> omega
def hoW (mv : Mem) (g s : Nat) : Mem := HW (wF mv (hoF mv g s))
theorem hoW_b (hv : VG mv) (ho : VOo mv) (g s : Nat) : (∀ a b, a ≤ b → hoW mv g s a ≤ hoW mv g s b) ∧ hoW mv g s 96 ≤ 96000000 := by
  refine ⟨fun a b h => HW_mono h, ?_⟩
  have := HW_le (w := wF mv (hoF mv g s)) (fun q hq => wF_le hv (hoF_le ho g s) hq) 96 (Nat.le_refl _)
  unfold hoW; omega
/-- what is answered -/
def hoV (mv : Mem) (g s q m L : Nat) (x6 : Int32) : Int64 := if x6 = J 0 then VLg (PL (hoW mv g s) L q m) else VLg (BG (hoW mv g s) L m (96 - q) q)
/-- the answer's bounds -/
def HOk (a1 a2 a3 a4 a5 : Int32) (mv : Mem) : Prop := IN a2 0 6 ∧ IN a4 0 96 ∧ IN a5 1 96
theorem BG_le : ∀ t q, q + t = 96 → BG W L m t q ≤ 96 := by
  intro t
  induction t with
  | zero => intro q _; exact Nat.zero_le _
  | succ t ih =>
    intro q hq
    show (if ¬ PK W L L q m = 0 ∧ PL W L (q + 1) m ≤ PK W L L q m then q + 1 else BG W L m t (q + 1)) ≤ 96
    split
    · omega
    · exact ih (q + 1) (by omega)
theorem c_seek {F : Nat} {z : Nat} (n5 : S_5 σ X) (hz : sK σ z = 14 ∧ sZ σ z = 96) (hzX : z < X) (hp : ∀ q, q < 96 → sI σ z q = J (mv (212 + q))) (h0 : sI σ (X + 1) 0 = J 0) (hL : 1 ≤ L ∧ L ≤ 96) (hm : m ≤ 96) (ha : a < 96) (hb : HW (wF mv F) 96 ≤ 96000000)
    (hQ : ∀ τ, Fr (fun p j => p = X ∨ (p = X + 1 ∧ j ≠ 0) ∨ p = X + 2) σ τ → sI τ X 0 = VJ (PL (HW (wF mv F)) L a m) → sI τ X 1 = VJ (BG (HW (wF mv F)) L m (96 - a) a) → Q (.inl none) τ) : WP gT (d + 3) B 48 0 [.ref X, .ref z, .int (J F), .int (J a), .int (J m), .int (J L), .retAddr 0] [] σ Q := by
  have hW : ∀ a b, a ≤ b → HW (wF mv F) a ≤ HW (wF mv F) b := fun a b h => HW_mono h
  refine g_48_0 ?_
  refine upto (I := fun q τ => Fr (fun p j => p = X ∨ (p = X + 1 ∧ j ≠ 0) ∨ p = X + 2) σ τ ∧ ∀ j, j ≤ q → sI τ (X + 1) j = J (HW (wF mv F) j)) (W := fun q τ => WP gT (d + 3) B 48 3 [.ref X, .ref z, .int (J F), .int (J a), .int (J m), .int (J L), .int (J q)] [] τ Q) 96 ?_ ?_ 0 σ (by omega) ⟨Fr.rf, fun j hj => by rw [show j = 0 by omega]; exact h0⟩
  · intro q τ hq hI ih
    obtain ⟨f, hA⟩ := hI
    refine g_48_3 (f.sh n5) (by rw [f.K]; exact hz.1) ⟨fun c => ?_, fun _ => ?_⟩
    · exfalso; rw [J_le (by omega) (by omega)] at c; omega
    · rw [f.Z, hz.2, J_add, J_cl (by omega), J_cl (by omega), hA q (Nat.le_refl _), f.i (by omega), hp q hq, J_mul, J_add]
      refine ⟨(by simp (disch := omega) only [J_add, J_mul, J_sub, J_cl, vp_J]; omega), (by simp (disch := omega) only [J_add, J_mul, J_sub, J_cl, vp_J]; omega), (by simp (disch := omega) only [J_add, J_mul, J_sub, J_cl, vp_J]; omega), ih _ ⟨f.setI (by omega), fun j hj => ?_⟩⟩
      by_cases c : j = q + 1
      · subst c
        rw [sI_same]
        show J (HW (wF mv F) q + mv (212 + q) * F) = J (HW (wF mv F) q + F * mv (212 + q))
        rw [Nat.mul_comm]
      · rw [sI_any (by omega)]; exact hA j (by omega)
  · intro τ hI
    obtain ⟨f, hA⟩ := hI
    refine g_48_3 (f.sh n5) (by rw [f.K]; exact hz.1) ⟨fun _ => ?_, fun c => absurd (by decide) c⟩
    have L2 : ∀ t i ρ, i + t = m + 1 → Fr (fun p j => p = X ∨ (p = X + 1 ∧ j ≠ 0) ∨ p = X + 2) σ ρ → (∀ j, j ≤ 96 → sI ρ (X + 1) j = J (HW (wF mv F) j)) → HRw ρ X (HW (wF mv F)) L a i 97 → (i = m + 1 → sI ρ X 0 = VJ (PL (HW (wF mv F)) L a m) ∧ sI ρ X 1 = VJ (BG (HW (wF mv F)) L m (96 - a) a)) → WP gT (d + 3) B 48 42 [.ref X, .ref z, .int (J F), .int (J a), .int (J m), .int (J L), .int (J i)] [] ρ Q := by
      intro t
      induction t with
      | zero =>
        intro i ρ hi f hA hR hE
        have hi : i = m + 1 := hi
        have hE := hE hi
        exact g_48_42 (f.sh n5) ⟨fun _ => hQ ρ f hE.1 hE.2, fun c => absurd (by rw [J_lt (by omega) (by omega)]; omega) c⟩
      | succ t ih =>
        intro i ρ hi f hA hR _
        refine g_48_42 (f.sh n5) ⟨fun c => ?_, fun _ => ?_⟩
        · exfalso; rw [J_lt (by omega) (by omega)] at c; omega
        · refine c_row (f.sh n5) hL hW hb hA (by omega) ha hR (fun χ f2 hR2 e0 e1 => ?_)
          dsimp only [oV]
          rw [J_add]
          refine ih (i + 1) χ (by omega) (f.tr (f2.mono (fun p j k => by unfold P49 at k; omega))) (fun j hj => by rw [f2.i (by unfold P49; omega)]; exact hA j hj) (fun m' j h1 h2 h3 => hR2 m' j h1 h2 (by omega)) (fun hi => ?_)
          have : i = m := by omega
          subst this
          exact ⟨e0, e1⟩
    exact L2 (m + 1) 0 τ (by omega) f hA (fun m' j h1 h2 h3 => by omega) (fun h => by omega)
theorem cc_hours (h : CIv σ x0 mv kv img tp n fl) (hB : 16 ≤ B.1 ∧ 1000 ≤ B.2) {a1 a2 a3 a4 a5 a6 : Int32}
    (h0 : ∀ g s q m L, g < mv 1 → s ≤ 6 → q < 96 → m ≤ 96 → 1 ≤ L → L ≤ 96 → a1 = J g → a2 = J s → a3 = J q → a4 = J m → a5 = J L → ∀ τ, CIv τ x0 mv kv img tp n fl → FCl σ τ → Q (.inl (some (.long (hoV mv g s q m L a6)))) τ) (h1 : ¬ (IX a1 (mv 1) ∧ IX a3 96) → Q (.inr 0) σ) (h2 : IX a1 (mv 1) ∧ IX a3 96 → ¬ (IN a2 0 6 ∧ IN a4 0 96 ∧ IN a5 1 96) → Q (.inr 1) σ) : WP gT (d + 20) B 130 0 [.ref x0, .int a1, .int a2, .int a3, .int a4, .int a5, .int a6, .retAddr 0] [] σ Q := by
  have hx := h.x
  have hv := h.mv_.1
  have ho := h.mv_.2.1
  have hs := hv.s
  have ho1 := ho.s
  refine g_130_0 (d := d + 2) h.sh hB ⟨fun c1 => ⟨fun c3 => fun u hu => ?_, fun c3 => h1 (fun k => c3 (gQ.mpr k.2))⟩, fun c1 => h1 (fun k => c1 (h.gG.mpr k.1))⟩
  have i1 := h.gG.mp c1
  have i3 := gQ.mp c3
  by_cases c : IN a2 0 6 ∧ IN a4 0 96 ∧ IN a5 1 96
  · obtain ⟨⟨s, _, hs6, rfl⟩, ⟨m, _, hm, rfl⟩, ⟨L, hL1, hL, rfl⟩⟩ := c
    obtain ⟨g, hg, rfl⟩ := i1
    obtain ⟨q, hq, rfl⟩ := i3
    have hu1 : u = J 1 := by
      rw [hu, if_neg (fun e => IN_step.mp e ⟨s, by omega, hs6, rfl⟩), if_neg (by rw [J_lt (by omega) (by omega)]; omega), if_neg (by rw [J_lt (by omega) (by omega)]; omega), if_neg (by rw [J_lt (by omega) (by omega)]; omega), if_neg (by rw [J_lt (by omega) (by omega)]; omega)]
    subst hu1
    refine ⟨fun _ => ?_, fun e => absurd (by decide) e⟩
    have hgg := hv.g hg
    have e5 : sI σ (x0 + 25 + 5) (J g).toNatClampNeg = J (mv (308 + 7 * g)) := by rw [J_cl (by omega)]; exact (h.G.g hg).1
    rw [e5, cv_46 h.G hv hg hs6, h.mv_.2.2.2.2.1.2.2.2.2.2.1, min_le (x := J (mv 13))]
    have emin : (if J (mv 13) ≤ J (flwG mv g s) then J (mv 13) else J (flwG mv g s)) = J (hoF mv g s) := by
      have := flw_le (s := s) hv hg
      unfold hoF
      by_cases c : mv 13 ≤ flwG mv g s
      · rw [if_pos c, if_pos (by rw [J_le (by omega) (by omega)]; exact c)]
      · rw [if_neg c, if_neg (by rw [J_le (by omega) (by omega)]; exact c)]
    rw [emin]
    refine ⟨(by simp (disch := omega) only [J_add, J_mul, J_sub, J_cl, vp_J]; omega), ?_, fun u7 hu7 => ?_⟩
    · by_cases c : mv (308 + 7 * g) < s
      · rw [if_pos (by rw [J_lt (by omega) (by omega)]; exact c), J_mul, J_add]; exact (by simp (disch := omega) only [J_add, J_mul, J_sub, J_cl, vp_J]; omega)
      · rw [if_neg (by rw [J_lt (by omega) (by omega)]; exact c), J_mul, J_add]; exact (by simp (disch := omega) only [J_add, J_mul, J_sub, J_cl, vp_J]; omega)
    · subst hu7
      have hwb := hoW_b hv ho g s
      refine c_seek (mv := mv) (F := hoF mv g s) (sub_11_161_5 h.sh) (h.sh.1 29 (by decide)) (by omega) (fun j hj => (h.G.q hj).2.2) h.1.2.2.2.2.2.2.2.1 ⟨hL1, hL⟩ hm hq hwb.2 (fun τ f e0 e1 => ?_)
      have h3 := h.fr f (fun p j k => by unfold SCr; omega)
      refine ⟨h3.sh, fun u10 h10 => ?_⟩
      have bp := (PL_b (W := hoW mv g s) (m := m) hL1 hwb.1 96 q (by omega) (by omega)).1
      have w1 := hwb.1 q 96 (by omega)
      have bb := BG_le (W := hoW mv g s) (L := L) (m := m) (96 - q) q (by omega)
      have e0 : sI τ (x0 + 161) 0 = VJ (PL (hoW mv g s) L q m) := e0
      have e1 : sI τ (x0 + 161) 1 = VJ (BG (hoW mv g s) L m (96 - q) q) := e1
      rw [e0, e1, VJ_L (by omega), VJ_L (by omega)] at h10
      rw [h10]
      exact h0 g s q m L hg hs6 hq hm hL1 hL rfl rfl rfl rfl rfl τ h3 (FCl.of hx f (fun p j k => by omega))
  · have hu0 : u = J 0 := by
      rw [hu]
      by_cases q1 : f_155 σ a2 = J 0
      · rw [if_pos q1]
      rw [if_neg q1]
      have p1 := Classical.not_not.mp (fun e => q1 (IN_step.mpr e))
      by_cases q2 : a4 < J 0
      · rw [if_pos q2]
      rw [if_neg q2]
      by_cases q3 : J 96 < a4
      · rw [if_pos q3]
      rw [if_neg q3]
      by_cases q4 : a5 < J 1
      · rw [if_pos q4]
      rw [if_neg q4]
      by_cases q5 : J 96 < a5
      · rw [if_pos q5]
      exact absurd ⟨p1, (isIn_J (by omega) (by omega)).mp ⟨Int32.not_lt.mp q2, Int32.not_lt.mp q3⟩, (isIn_J (by omega) (by omega)).mp ⟨Int32.not_lt.mp q4, Int32.not_lt.mp q5⟩⟩ c
    subst hu0
    exact ⟨fun e => absurd rfl e, fun _ => h2 ⟨i1, i3⟩ c⟩
