/-! ===== the text that is fed ===== -/
variable {d : Nat} {B : Nat × Nat} {Q : Out → Sto → Prop} {P : Nat → Nat → Prop} {σ τ : Sto} {x0 y0 : Nat} {mv mv' kv : Mem} {img : Bool} {tp tp' : Mem} {n n' : Nat} {fl fl' : Option Nat}
theorem CIv.txt (h : CIv σ x0 mv kv img tp n fl) (f : Fr P σ τ) (hP : ∀ p j, P p j → p = x0 + 1 ∨ p = x0 + 2 ∨ (p = x0 ∧ j = 10)) (ht : sI τ (x0 + 1) 1 = J n' ∧ n' ≤ 400 ∧ ∀ k, k < n' → sI τ (x0 + 2) k = J (tp' k) ∧ tp' k ≤ 255) (hf : sI τ x0 10 = oJ fl' ∧ ∀ q, fl' = some q → q ≤ 400) : CIv τ x0 mv kv img tp' n' fl' := by
  obtain ⟨⟨a1, a2, a3, a4, a5, a6, a7, a8⟩, b⟩ := h
  have hx : x0 = 96 := a1.1
  have hn : ∀ p j, ¬ (p = x0 + 1 ∨ p = x0 + 2 ∨ (p = x0 ∧ j = 10)) → sI τ p j = sI σ p j := fun p j hh => f.i (fun k => hh (hP p j k))
  have h2 := a3.1.s
  refine ⟨⟨⟨a1.1, by rw [f.N]; exact a1.2⟩, f.sh a2, ⟨a3.1, a3.2.1, a3.2.2.fr a3.2.1.s.1 f (fun p j k => ?_)⟩, fun hi => ⟨(a4 hi).1, (a4 hi).2.1, (a4 hi).2.2.fr (a4 hi).2.1.s.1 f (fun p j k => ?_)⟩, ?_, ht, hf, ?_⟩, ?_⟩
  · have := hP _ _ k; omega
  · have := hP _ _ k; omega
  · rw [hn _ _ (by omega)]; exact a5
  · exact ⟨by rw [hn _ _ (by omega)]; exact a8.1, a8.2.1.fr f (fun j k => by have := hP _ _ k; omega), a8.2.2.fr f (fun j k => by have := hP _ _ k; omega)⟩
  · rcases b with e | ⟨o, h3, h4, h5⟩
    · exact Or.inl (by rw [hn _ _ (by omega)]; exact e)
    · refine Or.inr ⟨o, h3, by rw [hn _ _ (by omega)]; exact h4, fun q hq => ⟨?_, fun r hr => ?_⟩⟩
      · rw [hn _ _ (by omega), hn _ _ (by omega), hn _ _ (by omega)]; exact (h5 q hq).1
      · rw [hn _ _ (by omega), hn _ _ (by omega)]; exact (h5 q hq).2 r hr
theorem RIv.txt (h : RIv σ y0 mv kv img tp n fl) (f : Fr P σ τ) (hP : ∀ p j, P p j → p = y0 + 4 ∨ (p = y0 ∧ (j = 6 ∨ j = 10)) ∨ SRr y0 p j) (ht : sI τ y0 6 = J n' ∧ ∀ k, k < n' → sI τ (y0 + 4) k = J (tp' k)) (hf : sI τ y0 10 = oJ fl') : RIv τ y0 mv kv img tp' n' fl' := by
  obtain ⟨a1, a2, a3, a4, a5, a6⟩ := h
  have hn : ∀ p j, ¬ (p = y0 + 4 ∨ (p = y0 ∧ (j = 6 ∨ j = 10)) ∨ SRr y0 p j) → sI τ p j = sI σ p j := fun p j hh => f.i (fun k => hh (hP p j k))
  refine ⟨f.sh a1, fun k hk => ?_, fun hi k hk => ?_, ?_, ht, hf⟩
  · rw [hn _ _ (by unfold SRr; omega)]; exact a2 k hk
  · rw [hn _ _ (by unfold SRr; omega)]; exact a3 hi k hk
  · rw [hn _ _ (by unfold SRr; omega)]; exact a4
/-! fault -/
theorem cc_fault (h : CIv σ x0 mv kv img tp n fl) (h0 : Q (.inl (some (.int (oJ fl)))) σ) : WP gT d B 98 0 [.ref x0] [] σ Q :=
  s_98 h.sh (by rw [show f_98 σ x0 = oJ fl from h.1.2.2.2.2.2.2.1.1]; exact h0)
theorem rr_fault (hy : y0 = 260) (h : RIv σ y0 mv kv img tp n fl) (h0 : ∀ τ, RIv τ y0 mv kv img tp n fl → FRf σ τ → sI τ y0 0 = J 0 → Q (.inl (some (.int (oJ fl)))) τ) : WP gT d B 194 0 [.ref y0] [] σ Q :=
  g_194_0 h.1 (by rw [h.2.2.2.2.2]; exact h0 _ h.thr (FRf.th hy) sI_same)
/-! count -/
def infl (mv : Mem) : Nat → Int32
  | 0 => J 0
  | i + 1 => infl mv i + J (mv (20 + i))
def cntV (mv : Mem) (a : Int32) : Int32 := if a = J 0 then J (mv 0) else if a = J 1 then J (mv 1) else if a = J 2 then J (mv 2) else if a = J 3 then J (mv 3) else if a = J 4 then J (mv 4) else if a = J 5 then J (mv 5) else if a = J 6 then J (mv 6) else if a = J 7 then J (mv 7) else if a = J 8 then J (mv 8) else if a = J 9 then J (lv0 mv) else if a = J 10 then infl mv 96 else if a = J 11 then J (mv 13) else -J 1
theorem c_infl {g : Nat} (hs : S_4 σ g) (h : RGg σ g mv) (hQ : Q (.inl (some (.int (infl mv 96)))) σ) : WP gT d B 45 0 [.ref g, .retAddr 0, .retAddr 0] [] σ Q := by
  refine g_45_0 ?_
  have L : ∀ i τ, i ≤ 96 → τ = σ → WP gT d B 45 4 [.ref g, .int (infl mv i), .int (J i)] [] τ Q := by
    refine upto 96 ?_ ?_
    · intro i τ hi e ih
      subst e
      refine g_45_4 hs ⟨fun c => ?_, fun _ => ⟨(by simp (disch := omega) only [J_add, J_mul, J_sub, J_cl, vp_J]; omega), ?_⟩⟩
      · exfalso; simp (disch := omega) only [J_add, J_mul, J_sub, J_cl, J_lt, J_le, J_eq, vp_J, n1_ne, n1_lt, n1_le, n1_nlt, n1_nle] at c; omega
      · rw [J_cl (by omega), (h.q hi).1, J_add]; exact ih _ rfl
    · intro τ e
      subst e
      refine g_45_4 hs ⟨fun _ => hQ, fun c => ?_⟩
      exfalso; simp (disch := omega) only [J_add, J_mul, J_sub, J_cl, J_lt, J_le, J_eq, vp_J, n1_ne, n1_lt, n1_le, n1_nlt, n1_nle] at c; omega
  exact L 0 σ (by omega) rfl
theorem cc_count (h : CIv σ x0 mv kv img tp n fl) {a : Int32} (h0 : Q (.inl (some (.int (cntV mv a)))) σ) : WP gT (d + 2) B 140 0 [.ref x0, .int a] [] σ Q := by
  have hv := h.mv_.1
  have hs := hv.s
  have hG := h.G.s
  have hsc := h.sc
  have hp := h.Pp.1
  have cv : ∀ k v, cntV mv (J k) = v → a = J k → Q (.inl (some (.int v))) σ := fun k v e e2 => by rw [← e, ← e2]; exact h0
  refine g_140_0 h.sh ⟨?_, ?_, ?_, ?_, ?_, ?_, ?_, ?_, ?_, fun e => ⟨fun _ => ⟨?_, trivial⟩, ?_⟩, fun e => c_infl (sub_11_25_4 h.sh) h.G ?_, ?_, fun c => ?_⟩
  · rw [hsc.1]; exact cv 0 _ rfl
  · rw [hG.2.2.2.2.1]; exact cv 1 _ rfl
  · rw [hG.2.2.2.2.2.1]; exact cv 2 _ rfl
  · rw [hG.2.2.2.2.2.2]; exact cv 3 _ rfl
  · rw [hsc.2.1]; exact cv 4 _ rfl
  · rw [hp.1]; exact cv 5 _ rfl
  · rw [hp.2]; exact cv 6 _ rfl
  · rw [hsc.2.2.2.2.2.2.1]; exact cv 7 _ rfl
  · rw [hsc.2.2.2.2.2.2.2]; exact cv 8 _ rfl
  · rw [hG.1, J_eq (by omega) (by omega)]; omega
  · rw [cv_44 h.G hv]; exact cv 9 _ rfl e
  · exact cv 10 _ rfl e
  · rw [hsc.2.2.2.2.2.1]; exact cv 11 _ rfl
  · have ne : ∀ k, k < 12 → ¬ a = J k := fun k hk e => by rw [e, J_int (by omega)] at c; omega
    have e : cntV mv a = -J 1 := by
      unfold cntV
      rw [if_neg (ne 0 (by omega)), if_neg (ne 1 (by omega)), if_neg (ne 2 (by omega)), if_neg (ne 3 (by omega)), if_neg (ne 4 (by omega)), if_neg (ne 5 (by omega)), if_neg (ne 6 (by omega)), if_neg (ne 7 (by omega)), if_neg (ne 8 (by omega)), if_neg (ne 9 (by omega)), if_neg (ne 10 (by omega)), if_neg (ne 11 (by omega))]
    rw [← e]; exact h0
theorem rr_count (hy : y0 = 260) (hv : VG mv) (h : RIv σ y0 mv kv img tp n fl) {a : Int32} (h0 : ∀ τ, RIv τ y0 mv kv img tp n fl → FRf σ τ → sI τ y0 0 = J 0 → Q (.inl (some (.int (cntV mv a)))) τ) : WP gT (d + 1) B 267 0 [.ref y0, .int a, .retAddr 0, .retAddr 0] [] σ Q := by
  have hs := hv.s
  refine g_267_0 h.1 ?_
  have h1 : RIv (setI σ y0 0 (J 0)) y0 mv kv img tp n fl := h.thr
  have hq := h0 _ h1 (FRf.th hy) sI_same
  generalize setI σ y0 0 (J 0) = ρ at h1 hq ⊢
  have L : ∀ i τ, i ≤ 96 → τ = ρ → WP gT (d + 1) B 267 9 [.ref y0, .int a, .int (infl mv i), .int (J i)] [] τ Q := by
    refine upto 96 ?_ ?_
    · intro i τ hi e ih
      subst e
      refine g_267_9 h1.1 ⟨fun c => ?_, fun _ => ⟨(by simp (disch := omega) only [J_add, J_mul, J_sub, J_cl, vp_J]; omega), ?_⟩⟩
      · exfalso; simp (disch := omega) only [J_add, J_mul, J_sub, J_cl, J_lt, J_le, J_eq, vp_J, n1_ne, n1_lt, n1_le, n1_nlt, n1_nle] at c; omega
      · rw [J_add, J_cl (by omega), h1.2.1.at (by omega), J_add]; exact ih _ rfl
    · intro τ e
      subst e
      refine g_267_9 h1.1 ⟨fun _ => ⟨fun _ _ _ _ _ _ _ _ _ _ => ⟨?_, trivial⟩, fun u hu => ?_⟩, fun c => ?_⟩
      · rw [h1.2.1.at (by omega), J_eq (by omega) (by omega)]; omega
      · rw [h1.2.1.at (by omega), h1.2.1.at (by omega), h1.2.1.at (by omega), h1.2.1.at (by omega), h1.2.1.at (by omega), h1.2.1.at (by omega), h1.2.1.at (by omega), h1.2.1.at (by omega), h1.2.1.at (by omega), h1.2.1.at (by omega), rv_195 h1.2.1 hv] at hu
        rw [hu]; exact hq
      · exfalso; simp (disch := omega) only [J_add, J_mul, J_sub, J_cl, J_lt, J_le, J_eq, vp_J, n1_ne, n1_lt, n1_le, n1_nlt, n1_nle] at c; omega
  exact L 0 ρ (by omega) rfl
/-! end -/
theorem cc_end (h : CIv σ x0 mv kv img tp n fl) {a : Int32} (h0 : ∀ k, k ≤ n → a = J k → ∀ τ, CIv τ x0 mv kv img tp k fl → FCl σ τ → Q (.inl (some (.int (J 1)))) τ) (h1 : ¬ IN a 0 n → Q (.inl (some (.int (J 0)))) σ) : WP gT d B 95 0 [.ref x0, .int a] [] σ Q := by
  have hx := h.x
  obtain ⟨t1, t2, t3⟩ := h.1.2.2.2.2.2.1
  have hi : IN a 0 n ↔ ¬ a < J 0 ∧ ¬ J n < a := in_iff (by omega) (by omega)
  have hf := h.1.2.2.2.2.2.2.1
  refine g_95_0 h.sh ⟨fun c => h1 (fun k => (hi.mp k).1 c), fun c1 => ⟨fun c2 => ?_, fun c2 => h1 (fun k => (hi.mp k).2 ?_)⟩⟩
  · rw [t1] at c2
    obtain ⟨k, _, hk, rfl⟩ : IN a 0 n := hi.mpr ⟨c1, fun e => by simp only [Int32.lt_iff_toInt_lt, Int32.le_iff_toInt_le] at e c2; omega⟩
    have hF : Fr (fun p j => p = x0 + 1 ∧ j = 1) σ (setI σ (x0 + 1) 1 (J k)) := Fr.rf.setI ⟨rfl, rfl⟩
    refine h0 k hk rfl _ (h.txt hF (fun p j k => by omega) ⟨sI_same, by omega, fun i hi => ?_⟩ ⟨?_, hf.2⟩) (FCl.of hx hF (fun p j k => by omega))
    · rw [sI_any (by omega)]; exact t3 i (by omega)
    · rw [sI_any (by omega)]; exact hf.1
  · rw [t1] at c2
    simp only [Int32.lt_iff_toInt_lt, Int32.le_iff_toInt_le] at c2 ⊢; omega
theorem rr_end (hy : y0 = 260) (hn : n ≤ 400) (h : RIv σ y0 mv kv img tp n fl) {a : Int32} (h0 : ∀ k, k ≤ n → a = J k → ∀ τ, RIv τ y0 mv kv img tp k fl → FRf σ τ → sI τ y0 0 = J 0 → Q (.inl (some (.int (J 1)))) τ) (h1 : ¬ IN a 0 n → ∀ τ, RIv τ y0 mv kv img tp n fl → FRf σ τ → sI τ y0 0 = J 0 → Q (.inl (some (.int (J 0)))) τ) : WP gT (d + 1) B 173 0 [.ref y0, .int a] [] σ Q := by
  obtain ⟨t1, t3⟩ := h.2.2.2.2.1
  refine g_173_0 h.1 ?_
  rw [t1]
  refine ⟨fun c => h1 ((r162 (by omega) (by omega)).mp c) _ h.thr (FRf.th hy) sI_same, fun c => ?_⟩
  obtain ⟨k, _, hk, rfl⟩ : IN a 0 n := Classical.not_not.mp (fun e => c ((r162 (by omega) (by omega)).mpr e))
  have hF : Fr (fun p j => p = y0 ∧ (j = 0 ∨ j = 6)) σ (setI (setI σ y0 0 (J 0)) y0 6 (J k)) := (Fr.rf.setI ⟨rfl, Or.inl rfl⟩).setI ⟨rfl, Or.inr rfl⟩
  refine h0 k hk rfl _ (h.txt hF (fun p j k => by unfold SRr; omega) ⟨sI_same, fun i hi => ?_⟩ ?_) (FRf.of hy hF (fun p j k => by omega)) (by rw [sI_any (by omega), sI_same])
  · rw [sI_any (by omega), sI_any (by omega)]; exact t3 i (by omega)
  · rw [sI_any (by omega), sI_any (by omega)]; exact h.2.2.2.2.2
