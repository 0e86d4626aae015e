/-! ===== the reference: lines of a rule, and the call rule ===== -/
variable {d : Nat} {B : Nat × Nat} {Q : Out → Sto → Prop} {P : Nat → Nat → Prop} {σ τ : Sto} {y0 : Nat} {mv tx kv : Mem} {img : Bool} {tp : Mem} {n p q f0 : Nat} {fl : Option Nat} {bs : Option Nat} {qn g : Nat} {lkv s0 : Int32} {dpv nwv : Nat → Int32} {l : List RLn}
def T192g (d : Nat) (y0 : Nat) (x1 : Int32) (Q : Out → Sto → Prop) (σ : Sto) : Prop := WP gT (d + 5) (0, 0) 180 0 [.ref y0, .int (J 0), .int (J 3), .retAddr 0, .retAddr 0] [] σ (oI (fun v23 τ24 => (S_12 τ24 y0 ∧ ((x1 = (J 0) → (((sI τ24 y0 10) = (-J 1) → WP gT (d + 5) (0, 0) 178 0 [.ref y0, .ref 64, .retAddr 0, .retAddr 0] [] τ24 (oI (fun v25 τ26 => (S_12 τ26 y0 ∧ ((v25 = (J 0) → (((sI τ26 y0 10) = (-J 1) → ((v23 = (sI τ26 y0 13) → (((sI τ26 y0 14) = (-J 1) → Q (.inl none) (setI τ26 y0 14 (J 0))) ∧ (¬ ((sI τ26 y0 14) = (-J 1)) → Q (.inl none) τ26))) ∧ (¬ (v23 = (sI τ26 y0 13)) → Q (.inl none) τ26))) ∧ (¬ ((sI τ26 y0 10) = (-J 1)) → Q (.inl none) τ26))) ∧ (¬ (v25 = (J 0)) → WP gT (d + 5) (0, 0) 191 0 [.ref y0, .retAddr 0, .retAddr 0] [] τ26 (oI (fun v27 τ28 => (S_12 τ28 y0 ∧ (((if v27 = (J 0) then (J 0) else (J 1)) = (J 0) → Q (.inl none) τ28) ∧ (¬ ((if v27 = (J 0) then (J 0) else (J 1)) = (J 0)) → (((sI τ28 y0 10) = (-J 1) → ((v23 = (sI τ28 y0 13) → (((sI τ28 y0 14) = (-J 1) → Q (.inl none) (setI τ28 y0 14 (J 0))) ∧ (¬ ((sI τ28 y0 14) = (-J 1)) → Q (.inl none) τ28))) ∧ (¬ (v23 = (sI τ28 y0 13)) → Q (.inl none) τ28))) ∧ (¬ ((sI τ28 y0 10) = (-J 1)) → Q (.inl none) τ28)))))) (fun _ _ => False)))))) (fun _ _ => False))) ∧ (¬ ((sI τ24 y0 10) = (-J 1)) → Q (.inl none) τ24))) ∧ (¬ (x1 = (J 0)) → WP gT (d + 5) (0, 0) 180 0 [.ref y0, .int (J 1), .int (J 6), .retAddr 0, .retAddr 0] [] τ24 (oI (fun v31 τ32 => (S_12 τ32 y0 ∧ (((sI τ32 y0 10) = (-J 1) → WP gT (d + 5) (0, 0) 178 0 [.ref y0, .ref 64, .retAddr 0, .retAddr 0] [] τ32 (oI (fun v33 τ34 => (S_12 τ34 y0 ∧ ((v33 = (J 0) → (((sI τ34 y0 10) = (-J 1) → ((v23 = (sI τ34 y0 13) → (((sI τ34 y0 14) = (-J 1) → Q (.inl none) (setI τ34 y0 14 v31)) ∧ (¬ ((sI τ34 y0 14) = (-J 1)) → Q (.inl none) τ34))) ∧ (¬ (v23 = (sI τ34 y0 13)) → Q (.inl none) τ34))) ∧ (¬ ((sI τ34 y0 10) = (-J 1)) → Q (.inl none) τ34))) ∧ (¬ (v33 = (J 0)) → WP gT (d + 5) (0, 0) 191 0 [.ref y0, .retAddr 0, .retAddr 0] [] τ34 (oI (fun v35 τ36 => (S_12 τ36 y0 ∧ (((if v35 = (J 0) then (J 0) else (J 1)) = (J 0) → Q (.inl none) τ36) ∧ (¬ ((if v35 = (J 0) then (J 0) else (J 1)) = (J 0)) → (((sI τ36 y0 10) = (-J 1) → ((v23 = (sI τ36 y0 13) → (((sI τ36 y0 14) = (-J 1) → Q (.inl none) (setI τ36 y0 14 v31)) ∧ (¬ ((sI τ36 y0 14) = (-J 1)) → Q (.inl none) τ36))) ∧ (¬ (v23 = (sI τ36 y0 13)) → Q (.inl none) τ36))) ∧ (¬ ((sI τ36 y0 10) = (-J 1)) → Q (.inl none) τ36)))))) (fun _ _ => False)))))) (fun _ _ => False))) ∧ (¬ ((sI τ32 y0 10) = (-J 1)) → Q (.inl none) τ32)))) (fun _ _ => False)))))) (fun _ _ => False))
def P192 (y0 : Nat) : Nat → Nat → Prop := fun p j => p = y0 ∧ (j = 9 ∨ j = 10 ∨ j = 11 ∨ j = 14)
theorem PYd_2 : ∀ p j, PYd y0 p j → P192 y0 p j := fun p j h => by unfold PYd at h; unfold P192; omega
theorem PYt_2 : ∀ p j, PYt y0 p j → P192 y0 p j := fun p j h => PYd_2 p j (PY_d p j h)
theorem P9_2 : ∀ p j, P9 y0 p j → P192 y0 p j := fun p j h => PYd_2 p j (P9_d p j h)
def SYf (s0 : Int32) (o : Option Nat) : Int32 := match o with
  | none => s0
  | some v => J v
theorem saysR_app {e : Env} {x : RLn} : ∀ l, saysR e g (l ++ [x]) = match saysR e g l with | some v => some v | none => if x.1 = g ∧ ¬ x.2.2.2 e = J 0 then some x.2.1 else none := by
  intro l
  induction l with
  | nil => rfl
  | cons y r ih =>
    show (if y.1 = g ∧ ¬ y.2.2.2 e = J 0 then some y.2.1 else saysR e g (r ++ [x])) = match (if y.1 = g ∧ ¬ y.2.2.2 e = J 0 then some y.2.1 else saysR e g r) with | some v => some v | none => _
    by_cases c : y.1 = g ∧ ¬ y.2.2.2 e = J 0
    · rw [if_pos c, if_pos c]
    · rw [if_neg c, if_neg c]; exact ih
/-- what the lines that are read say -/
def Kr (y0 : Nat) (mv : Mem) (qn : Nat) (lkv : Int32) (dpv nwv : Nat → Int32) (g : Nat) (s0 : Int32) (l : List RLn) (τ : Sto) : Prop :=
  EVr τ y0 mv qn lkv dpv nwv ∧ sI τ y0 11 = J 0 ∧ sI τ y0 13 = J g ∧ sI τ y0 14 = SYf s0 (saysR (envR mv qn lkv dpv nwv) g l) ∧ WRD τ ∧ (∀ v, saysR (envR mv qn lkv dpv nwv) g l = some v → v ≤ 6) ∧ g < 100 ∧ (s0 = -J 1 ∨ 4 ≤ g)
theorem Kr.fr (h : Kr y0 mv qn lkv dpv nwv g s0 l σ) (hy : y0 = 260) (f : Fr (PYt y0) σ τ) : Kr y0 mv qn lkv dpv nwv g s0 l τ := by
  obtain ⟨h1, h2, h3, h4, h5, h6⟩ := h
  refine ⟨h1.t f, ?_, ?_, ?_, h5.fr f (fun p j k => by unfold PYt at k; omega), h6⟩
  · rw [f.i (by unfold PYt; omega)]; exact h2
  · rw [f.i (by unfold PYt; omega)]; exact h3
  · rw [f.i (by unfold PYt; omega)]; exact h4
theorem Kr.fd (h : Kr y0 mv qn lkv dpv nwv g s0 l σ) (hy : y0 = 260) (f : Fr (PYd y0) σ τ) (hd : sI τ y0 11 = J 0) : Kr y0 mv qn lkv dpv nwv g s0 l τ := by
  obtain ⟨h1, h2, h3, h4, h5, h6⟩ := h
  refine ⟨h1.dd_ f, hd, ?_, ?_, h5.fr f (fun p j k => by unfold PYd at k; omega), h6⟩
  · rw [f.i (by unfold PYd; omega)]; exact h3
  · rw [f.i (by unfold PYd; omega)]; exact h4
/-- a line more -/
theorem Kr.add {g2 s : Nat} {a : CVl} {σ1 : Sto} (h : Kr y0 mv qn lkv dpv nwv g s0 l σ) (hg : g2 < 4) (hs : s ≤ 6) (hK : (g2 = g ∧ ¬ a.2 (envR mv qn lkv dpv nwv) = J 0 ∧ sI σ y0 14 = -J 1 ∧ σ1 = setI σ y0 14 (J s)) ∨ (¬ (g2 = g ∧ ¬ a.2 (envR mv qn lkv dpv nwv) = J 0 ∧ sI σ y0 14 = -J 1) ∧ σ1 = σ)) (hy : y0 = 260) : Kr y0 mv qn lkv dpv nwv g s0 (l ++ [(g2, s, a)]) σ1 := by
  obtain ⟨h1, h2, h3, h4, h5, h6, h7, h8⟩ := h
  unfold Kr
  rw [saysR_app]
  rcases hK with ⟨k1, k2, k3, k4⟩ | ⟨k1, k2⟩
  · subst k4
    have f : Fr (fun p j => p = y0 ∧ j = 14) σ (setI σ y0 14 (J s)) := Fr.rf.setI ⟨rfl, rfl⟩
    cases e : saysR (envR mv qn lkv dpv nwv) g l with
    | some v =>
      have hv6 := h6 v e
      rw [e] at h4
      rw [h4] at k3
      exfalso
      have k3 : J v = -J 1 := k3
      rw [n1_ne (by omega)] at k3; exact k3
    | none =>
      refine ⟨h1.fr f (fun p j k => by omega), by rw [sI_any (by omega)]; exact h2, by rw [sI_any (by omega)]; exact h3, ?_, h5.fr f (fun p j k => by omega), fun v hv => ?_, h7, h8⟩
      · dsimp only
        rw [if_pos ⟨k1, k2⟩, sI_same]; rfl
      · dsimp only at hv
        rw [if_pos ⟨k1, k2⟩] at hv; cases hv; exact hs
  · subst k2
    refine ⟨h1, h2, h3, ?_, h5, fun v hv => ?_, h7, h8⟩
    · cases e : saysR (envR mv qn lkv dpv nwv) g l with
      | some v => rw [e] at h4; exact h4
      | none =>
        rw [e] at h4
        dsimp only
        have h4 : sI σ1 y0 14 = s0 := h4
        have : ¬ (g2 = g ∧ ¬ a.2 (envR mv qn lkv dpv nwv) = J 0) := fun k => by
          rcases h8 with h8 | h8
          · exact k1 ⟨k.1, k.2, h4.trans h8⟩
          · omega
        rw [if_neg this]; exact h4
    · cases e : saysR (envR mv qn lkv dpv nwv) g l with
      | some v2 => rw [e] at hv; cases hv; exact h6 _ e
      | none =>
        rw [e] at hv
        dsimp only at hv
        split at hv
        · cases hv; exact hs
        · cases hv
theorem r_ifK (hy : y0 = 260) (hv : VG mv) {s : TS} {g2 sn : Nat} {gv sv : Int32} {rest : Rs (List RLn)} (hs : RTs σ y0 tx n bs s) (hK : Kr y0 mv qn lkv dpv nwv g s0 l σ)
    (H : match s with | .inl f => rest = .inl f | .inr p => gv = J g2 ∧ sv = J sn ∧ g2 < 4 ∧ sn ≤ 6 ∧ rest = rIf tx n l g2 sn p) (hQ : ∀ τ, Fr (P192 y0) σ τ → LRK τ y0 tx n bs (Kr y0 mv qn lkv dpv nwv g s0) rest → Q (.inl none) τ) : T192i (d + 23) y0 gv sv Q σ := by
  unfold T192i
  cases s with
  | inl f =>
    exact ⟨fun c => absurd c (RTb.bad hs), fun _ => hQ σ Fr.rf (by rw [H]; exact RTb.up hs (by omega))⟩
  | inr p =>
    obtain ⟨rfl, rfl, hg, hsn, hR⟩ := H
    have hs : RTg σ y0 tx n bs p := hs
    have hl := hs.le
    refine ⟨fun _ => r_has hs hy (hK.2.2.2.2.1 64 w_if (by decide)) (fun e τ f k => ⟨k.1.1, fun c => absurd c (by decide), fun _ => ?_⟩) (fun e τ f k => ⟨k.1.1, fun _ => ⟨fun _ => ?_, fun c => absurd k.2.1 c⟩, fun c => absurd rfl c⟩), fun c => absurd hs.2.1 c⟩
    · have K := hK.fr hy (f.mono P9_Y)
      unfold rIf at hR
      rw [if_pos e] at hR
      refine r_some hy hv k K.1 K.2.2.2.2.1 K.2.1 (fun a q ea τ2 f2 k2 d2 => ⟨k2.1.1, ?_⟩) (fun f0 ea τ2 v f2 k2 => ⟨k2.1.1, ?_⟩)
      · have K2 := K.fd hy f2 d2
        have F2 : Fr (P192 y0) σ τ2 := (f.mono P9_2).tr (f2.mono PYd_2)
        have a1 := (rTop_s _ _ _ k.le.1 ea).2.2 _ (envR_7 (mv := mv) (qn := qn) (lkv := lkv) (dpv := dpv) (nwv := nwv))
        rw [bnd_r ea] at hR
        have fin : ∀ {χ : Sto}, Fr (P192 y0) τ2 χ → RTg χ y0 tx n bs q → Kr y0 mv qn lkv dpv nwv g s0 (l ++ [(g2, sn, a)]) χ → Q (.inl none) χ := fun f3 k3 K3 => hQ _ (F2.tr f3) (by rw [hR]; exact ⟨k3, K3⟩)
        refine ⟨fun c => ?_, fun c => ⟨fun _ => ⟨fun c2 => ⟨fun c3 => ?_, fun c3 => ?_⟩, fun c2 => ?_⟩, fun c2 => absurd k2.2.1 c2⟩⟩
        · have c0 : a.2 (envR mv qn lkv dpv nwv) = J 0 := Classical.byContradiction fun h => by rw [if_neg h] at c; exact absurd c (by decide)
          exact fin Fr.rf k2 (K2.add hg hsn (Or.inr ⟨fun h => h.2.1 c0, rfl⟩) hy)
        · have c0 : ¬ a.2 (envR mv qn lkv dpv nwv) = J 0 := fun h => by rw [if_pos h] at c; exact absurd rfl c
          rw [K2.2.2.1, J_eq (by omega) (by have := K2.2.2.2.2.2.2.1; omega)] at c2
          refine fin (Fr.rf.setI ⟨rfl, by omega⟩) (k2.fr (P := fun p j => p = y0 ∧ j = 14) (Fr.rf.setI ⟨rfl, rfl⟩) (fun p j k => by omega)) (K2.add hg hsn (Or.inl ⟨c2, c0, c3, rfl⟩) hy)
        · exact fin Fr.rf k2 (K2.add hg hsn (Or.inr ⟨fun h => c3 h.2.2, rfl⟩) hy)
        · rw [K2.2.2.1, J_eq (by omega) (by have := K2.2.2.2.2.2.2.1; omega)] at c2
          exact fin Fr.rf k2 (K2.add hg hsn (Or.inr ⟨fun h => c2 h.1, rfl⟩) hy)
      · rw [bnd_l ea] at hR
        have F2 : Fr (P192 y0) σ τ2 := (f.mono P9_2).tr (f2.mono PYd_2)
        exact ⟨fun _ => hQ τ2 F2 (by rw [hR]; exact k2.up (by omega)), fun _ => ⟨fun c => absurd c k2.bad, fun _ => hQ τ2 F2 (by rw [hR]; exact k2.up (by omega))⟩⟩
    · have K2 := hK.fr hy (f.mono P9_Y)
      have F2 : Fr (P192 y0) σ τ := f.mono P9_2
      unfold rIf at hR
      rw [if_neg (by rw [e]; decide)] at hR
      have fin : ∀ {χ : Sto}, Fr (P192 y0) τ χ → RTg χ y0 tx n bs p → Kr y0 mv qn lkv dpv nwv g s0 (l ++ [(g2, sn, [], fun _ => J 1)]) χ → Q (.inl none) χ := fun f3 k3 K3 => hQ _ (F2.tr f3) (by rw [hR]; exact ⟨k3, K3⟩)
      refine ⟨fun c2 => ⟨fun c3 => ?_, fun c3 => ?_⟩, fun c2 => ?_⟩
      · rw [K2.2.2.1, J_eq (by omega) (by have := K2.2.2.2.2.2.2.1; omega)] at c2
        exact fin (Fr.rf.setI ⟨rfl, by omega⟩) (k.g.fr (P := fun p j => p = y0 ∧ j = 14) (Fr.rf.setI ⟨rfl, rfl⟩) (fun p j k => by omega)) (K2.add hg hsn (Or.inl ⟨c2, by show ¬ J 1 = J 0; decide, c3, rfl⟩) hy)
      · exact fin Fr.rf k.g (K2.add hg hsn (Or.inr ⟨fun h => c3 h.2.2, rfl⟩) hy)
      · rw [K2.2.2.1, J_eq (by omega) (by have := K2.2.2.2.2.2.2.1; omega)] at c2
        exact fin Fr.rf k.g (K2.add hg hsn (Or.inr ⟨fun h => c2 h.1, rfl⟩) hy)
theorem r_gtK (hy : y0 = 260) (hv : VG mv) {op : Bool} {rest : Rs (List RLn)} (hs : RTg σ y0 tx n bs p) (hK : Kr y0 mv qn lkv dpv nwv g s0 l σ) (hR : rest = rGt tx n op l p) (hQ : ∀ τ, Fr (P192 y0) σ τ → LRK τ y0 tx n bs (Kr y0 mv qn lkv dpv nwv g s0) rest → Q (.inl none) τ) : T192g (d + 23) y0 (if op = true then J 1 else J 0) Q σ := by
  unfold T192g
  refine r_figv (s := .inr p) hs (by omega) (hi1 := 4) (by omega) (by decide) (fun τ u v s' e f k w => ⟨k.by_.1, ?_⟩)
  have K2 := hK.fr hy f
  have F2 : Fr (P192 y0) σ τ := f.mono PYt_2
  cases op with
  | false =>
    refine ⟨fun _ => ?_, fun c => absurd rfl c⟩
    have hT := r_ifK (d := d) (gv := u) (sv := J 0) (g2 := v) (sn := 0) (rest := rest) (Q := Q) hy hv k K2 ?_ (fun τ2 f2 L => hQ τ2 (F2.tr f2) L)
    · unfold T192i at hT; exact hT
    · cases s' with
      | inl f0 =>
        rcases tNu_l e with hh | ⟨q, hh, t⟩
        · cases hh
        · cases hh; dsimp only; rw [hR]; unfold rGt; rw [bnd_l t]
      | inr q =>
        obtain ⟨p', hp', t⟩ := tNu_r e
        cases hp'
        refine ⟨w _ rfl, rfl, (tN_v t).2, by omega, ?_⟩
        rw [hR]; unfold rGt; rw [bnd_r t]; rfl
  | true =>
    refine ⟨fun c => absurd c (by decide), fun _ => r_figv k (by omega) (hi1 := 7) (by omega) (by decide) (fun τ2 u2 v2 s2 e2 f2 k2 w2 => ⟨k2.by_.1, ?_⟩)⟩
    have K3 := K2.fr hy f2
    have hT := r_ifK (d := d) (gv := u) (sv := u2) (g2 := v) (sn := v2) (rest := rest) (Q := Q) hy hv k2 K3 ?_ (fun τ3 f3 L => hQ τ3 ((F2.tr (f2.mono PYt_2)).tr f3) L)
    · unfold T192i at hT; exact hT
    · cases s2 with
      | inl f0 =>
        rcases tNu_l e2 with hh | ⟨q, hh, t⟩
        · subst hh
          rcases tNu_l e with hh | ⟨q, hh, t⟩
          · cases hh
          · cases hh; dsimp only; rw [hR]; unfold rGt; rw [bnd_l t]
        · subst hh
          obtain ⟨p', hp', t0⟩ := tNu_r e
          cases hp'
          dsimp only; rw [hR]; unfold rGt; rw [bnd_r t0]; exact bnd_l t
      | inr q2 =>
        obtain ⟨q, hh, t⟩ := tNu_r e2
        subst hh
        obtain ⟨p', hp', t0⟩ := tNu_r e
        cases hp'
        have b := tN_v t
        refine ⟨w _ rfl, w2 _ rfl, (tN_v t0).2, by omega, ?_⟩
        rw [hR]; unfold rGt; rw [bnd_r t0]; exact bnd_r t
theorem r_ruleLine (hy : y0 = 260) (hv : VG mv) (hs : RTg σ y0 tx n bs p) (hK : Kr y0 mv qn lkv dpv nwv g s0 l σ) (hQ : ∀ τ, Fr (P192 y0) σ τ → LRK τ y0 tx n bs (Kr y0 mv qn lkv dpv nwv g s0) (rLine tx n l p) → Q (.inl none) τ) : WP gT (d + 23 + 6) B 192 0 [.ref y0, .retAddr 0, .retAddr 0, .retAddr 0, .retAddr 0] [] σ Q := by
  have hl := hs.le
  have G : ∀ {op : Bool} {q : Nat} {τ : Sto}, Fr (P9 y0) σ τ → RTg τ y0 tx n bs q → rLine tx n l p = rGt tx n op l q → T192g (d + 23) y0 (if op = true then J 1 else J 0) Q τ := fun f k er =>
    r_gtK hy hv k (hK.fr hy (f.mono P9_Y)) er (fun τ2 f2 L => hQ τ2 ((f.mono P9_2).tr f2) L)
  refine g_192_0 hs.1.1 (r_has hs hy (hK.2.2.2.2.1 60 w_open (by decide)) (fun e τ f k => ⟨k.1.1, fun c => absurd c (by decide), fun _ => ?_⟩) (fun e0 τ f k => ⟨k.1.1, fun _ => ?_, fun c => absurd rfl c⟩))
  · have hT := G (op := true) f k (rLine_o e)
    unfold T192g at hT
    exact hT
  · refine r_has k.g hy ((hK.fr hy (f.mono P9_Y)).2.2.2.2.1 62 w_shut (by decide)) (fun e τ2 f2 k2 => ⟨k2.1.1, fun c => absurd c (by decide), fun _ => ?_⟩) (fun e1 τ2 f2 k2 => ⟨k2.1.1, fun _ => ?_, fun c => absurd rfl c⟩)
    · have hT := G (op := false) (f.tr f2) k2 (rLine_s e0 e)
      unfold T192g at hT
      exact hT
    · rw [k2.2.2.1]
      refine r_wrong_g k2.g hl.1 (fun τ3 f3 k3 => hQ τ3 (((f.tr f2).mono P9_2).tr (f3.mono PYt_2)) ?_)
      rw [rLine_n e0 e1]; exact k3.up (by omega)
/-- all lines of a rule, as it is read for gate g -/
theorem r_tellR (hy : y0 = 260) (hv : VG mv) (h : RBy σ y0 tx n bs) (h10 : sI σ y0 10 = -J 1) (hK : Kr y0 mv qn lkv dpv nwv g s0 [] (setI σ y0 11 (J 0))) (hQ : ∀ τ, Fr (P192 y0) σ τ → LRK τ y0 tx n bs (Kr y0 mv qn lkv dpv nwv g s0) (rAll tx n) → Q (.inl none) τ) : WP gT (d + 23 + 7) B 184 0 [.ref y0, .int (J 1), .retAddr 0, .retAddr 0] [] σ Q := by
  refine r_lines (K := Kr y0 mv qn lkv dpv nwv g s0) (line := rLine tx n) (FP := P192 y0) (a := []) h h10 (fun p j k => by unfold PYt at k; unfold P192; omega) (fun a τ τ' k f => k.fr hy f) ?_ (fun a p τ k hg hk F hq => ⟨fun c => absurd c (by decide), fun _ => r_ruleLine hy hv hg hk (fun τ2 f2 L => hq τ2 (F.tr f2) L)⟩) hQ
  obtain ⟨h1, h2, h3, h4, h5, h6⟩ := hK
  have f1 : Fr (fun p j => p = y0 ∧ j = 11) σ (setI σ y0 11 (J 0)) := Fr.rf.setI ⟨rfl, rfl⟩
  have f2 : Fr (fun p j => p = y0 ∧ (j = 9 ∨ j = 11)) σ (setI (setI σ y0 9 (J 0)) y0 11 (J 0)) := (Fr.rf.setI ⟨rfl, Or.inl rfl⟩).setI ⟨rfl, Or.inr rfl⟩
  have e3 : sI σ y0 13 = J g := by rw [sI_any (by omega)] at h3; exact h3
  have e4 : sI σ y0 14 = SYf s0 (saysR (envR mv qn lkv dpv nwv) g []) := by rw [sI_any (by omega)] at h4; exact h4
  have E : EVr σ y0 mv qn lkv dpv nwv := by
    have b : Fr (fun p j => p = y0 ∧ j = 11) (setI σ y0 11 (J 0)) σ := ⟨rfl, rfl, rfl, rfl, fun p j hn => (f1.i hn).symm, fun p j hn => (f1.l hn).symm⟩
    exact h1.fr b (fun p j k => by omega)
  have W : WRD σ := by
    have b : Fr (fun p j => p = y0 ∧ j = 11) (setI σ y0 11 (J 0)) σ := ⟨rfl, rfl, rfl, rfl, fun p j hn => (f1.i hn).symm, fun p j hn => (f1.l hn).symm⟩
    exact h5.fr b (fun p j k => by omega)
  exact ⟨E.fr f2 (fun p j k => by omega), sI_same, by rw [f2.i (by omega)]; exact e3, by rw [f2.i (by omega)]; exact e4, W.fr f2 (fun p j k => by omega), h6⟩
theorem rr_rule (hy : y0 = 260) (hv : VG mv) (ho : VOo mv) (hn : n ≤ 400 ∧ ∀ k, k < n → tp k ≤ 255) (hw : WRD σ) (h : RIv σ y0 mv kv img tp n fl)
    (h0 : ∀ l q, rAll (rtx tp n) n = .inr (l, q) → mv 7 < 4 → ∀ τ, RIv τ y0 (rulM mv tp n) kv img tp 0 none → FRf σ τ → sI τ y0 0 = J 0 → Q (.inl (some (.int (J (mv 7))))) τ)
    (h1 : ∀ f, rAll (rtx tp n) n = .inl f → ∀ τ, RIv τ y0 mv kv img tp 0 (some f) → FRf σ τ → sI τ y0 0 = J 1 → Q (.inl (some (.int (J 0)))) τ)
    (h2 : ∀ l q, rAll (rtx tp n) n = .inr (l, q) → ¬ mv 7 < 4 → ∀ τ, RIv τ y0 mv kv img tp 0 none → FRf σ τ → sI τ y0 0 = J 2 → Q (.inl (some (.int (J 0)))) τ) : WP gT (d + 31) B 193 0 [.ref y0, .retAddr 0, .retAddr 0, .retAddr 0] [] σ Q := by
  have hs := hv.s
  have ho1 := ho.s
  rw [show d + 31 = d + 23 + 8 by omega]
  refine g_193_0 h.1 ?_
  have e6 : sI σ y0 6 = J n := h.2.2.2.2.1.1
  rw [e6]
  have FF : Fr (fun p j => p = y0 ∧ (j = 10 ∨ j = 7 ∨ j = 8 ∨ j = 12 ∨ j = 13)) σ (setI (setI (setI (setI (setI σ y0 10 (-J 1)) y0 7 (-J 1)) y0 8 (J n)) y0 12 (J 0)) y0 13 (J 9)) := ((((Fr.rf.setI (by omega)).setI (by omega)).setI (by omega)).setI (by omega)).setI (by omega)
  have v10 : sI (setI (setI (setI (setI (setI σ y0 10 (-J 1)) y0 7 (-J 1)) y0 8 (J n)) y0 12 (J 0)) y0 13 (J 9)) y0 10 = -J 1 := by rw [sI_any (by omega), sI_any (by omega), sI_any (by omega), sI_any (by omega), sI_same]
  have v7 : sI (setI (setI (setI (setI (setI σ y0 10 (-J 1)) y0 7 (-J 1)) y0 8 (J n)) y0 12 (J 0)) y0 13 (J 9)) y0 7 = -J 1 := by rw [sI_any (by omega), sI_any (by omega), sI_any (by omega), sI_same]
  have v8 : sI (setI (setI (setI (setI (setI σ y0 10 (-J 1)) y0 7 (-J 1)) y0 8 (J n)) y0 12 (J 0)) y0 13 (J 9)) y0 8 = J n := by rw [sI_any (by omega), sI_any (by omega), sI_same]
  have v12 : sI (setI (setI (setI (setI (setI σ y0 10 (-J 1)) y0 7 (-J 1)) y0 8 (J n)) y0 12 (J 0)) y0 13 (J 9)) y0 12 = J 0 := by rw [sI_any (by omega), sI_same]
  have v13 : sI (setI (setI (setI (setI (setI σ y0 10 (-J 1)) y0 7 (-J 1)) y0 8 (J n)) y0 12 (J 0)) y0 13 (J 9)) y0 13 = J 9 := sI_same
  generalize setI (setI (setI (setI (setI σ y0 10 (-J 1)) y0 7 (-J 1)) y0 8 (J n)) y0 12 (J 0)) y0 13 (J 9) = χ at FF v10 v7 v8 v12 v13 ⊢
  have mχ : RMm χ y0 mv := h.2.1.fr FF (fun j k => by omega)
  have by_ : RBy χ y0 (rtx tp n) n none := ⟨FF.sh h.1, v8, hn.1, fun k hk => by unfold rtx; rw [if_pos hk]; exact hn.2 k hk, v7, fun _ k hk => by unfold rtx; rw [if_pos hk, FF.i (by omega)]; exact h.2.2.2.2.1.2 k hk, fun b e => by cases e⟩
  have f11 : Fr (fun p j => p = y0 ∧ j = 11) χ (setI χ y0 11 (J 0)) := Fr.rf.setI ⟨rfl, rfl⟩
  have Eχ : EVr χ y0 mv 0 (J 0) (fun r => sI χ (y0 + 7) (97 * r + 0) / J (mv (336 + 5 * r))) (fun k => sI χ (y0 + 5) k) := ⟨mχ, ⟨v12, by omega⟩, fun c => by omega, fun r _ => rfl, fun k _ => rfl⟩
  have Kχ : Kr y0 mv 0 (J 0) (fun r => sI χ (y0 + 7) (97 * r + 0) / J (mv (336 + 5 * r))) (fun k => sI χ (y0 + 5) k) 9 (sI χ y0 14) [] (setI χ y0 11 (J 0)) := ⟨Eχ.fr f11 (fun p j k => by omega), sI_same, by rw [sI_any (by omega)]; exact v13, by rw [sI_any (by omega)]; rfl, (hw.fr FF (fun p j k => by omega)).fr f11 (fun p j k => by omega), fun v hv => (by cases hv), by omega, Or.inr (by omega)⟩
  refine r_tellR hy hv by_ v10 Kχ (fun τ2 f2 L => ?_)
  have F2 : Fr (fun p j => p = y0 ∧ j ≠ 3 ∧ j ≠ 6 ∧ j ≠ 0) σ τ2 := (FF.mono (fun p j k => by omega)).tr (f2.mono (fun p j k => by unfold P192 at k; omega))
  have m2 : RMm τ2 y0 mv := h.2.1.fr F2 (fun j k => by omega)
  have e7 : sI τ2 (y0 + 1) 7 = J (mv 7) := m2.at (by omega)
  have e62 : sI τ2 y0 6 = J n := by rw [F2.i (by omega)]; exact e6
  refine ⟨F2.sh h.1, fun u hu => ?_⟩
  have f5 : Fr (fun p j => p = y0 ∧ (j = 6 ∨ j = 0)) τ2 (setI (setI τ2 y0 6 (J 0)) y0 0 u) := (Fr.rf.setI (by omega)).setI (by omega)
  have F5 : Fr (fun p j => p = y0 ∧ j ≠ 3) σ (setI (setI τ2 y0 6 (J 0)) y0 0 u) := (F2.mono (fun p j k => by omega)).tr (f5.mono (fun p j k => by omega))
  have stop : ∀ w, sI τ2 y0 10 = oJ w → RIv (setI (setI τ2 y0 6 (J 0)) y0 0 u) y0 mv kv img tp 0 w := fun w hw2 => h.gor F5 (fun p j k => by omega) m2.th.th (by rw [sI_any (by omega), sI_same]) (by rw [f5.i (by omega)]; exact hw2)
  have e00 : sI (setI (setI τ2 y0 6 (J 0)) y0 0 u) y0 0 = u := sI_same
  have FR : FRf σ (setI (setI τ2 y0 6 (J 0)) y0 0 u) := FRf.of hy F5 (fun p j k => by omega)
  cases e : rAll (rtx tp n) n with
  | inl f =>
    rw [e] at L
    have L : RTb τ2 y0 (rtx tp n) n none f 10 := L
    have hu2 : u = J 1 := by rw [hu, if_neg L.bad]
    clear hu
    subst hu2
    exact ⟨fun c => absurd c (by decide), fun _ => h1 f e _ (stop (some f) L.2.2.1) FR e00⟩
  | inr a =>
    obtain ⟨l, q⟩ := a
    rw [e] at L
    obtain ⟨L1, _⟩ := L
    have e10 : sI τ2 y0 10 = oJ none := L1.2.1
    by_cases c4 : mv 7 < 4
    · have hu2 : u = J 0 := by
        rw [hu, if_pos L1.2.1, if_neg]
        rw [e7, J_eq (by omega) (by omega)]; omega
      clear hu
      subst hu2
      refine ⟨fun _ => ?_, fun c => absurd ret0 c⟩
      rw [e7, e62]
      simp (disch := omega) only [J_add, J_mul, J_cl]
      refine ⟨(by simp (disch := omega) only [J_add, J_mul, J_sub, J_cl, vp_J]; omega), ?_⟩
      generalize setI (setI τ2 y0 6 (J 0)) y0 0 (J 0) = φ at f5 F5 stop e00 FR
      have hφ := stop none e10
      have L1 : ∀ i ρ, i ≤ n → (Fr (fun p j => p = y0 + 1 ∧ 2884 + 401 * mv 7 ≤ j) φ ρ ∧ RMm ρ y0 (fun k => if k = 2884 + 401 * mv 7 then n else if 2885 + 401 * mv 7 ≤ k ∧ k < 2885 + 401 * mv 7 + i then tp (k - (2885 + 401 * mv 7)) else mv k)) → WP gT (d + 23 + 8) B 193 110 [.ref y0, .int (J n), .int (J (2884 + 401 * mv 7)), .int (J i)] [] ρ Q := by
        refine upto n ?_ ?_
        · intro i ρ hi hI ih
          obtain ⟨hG, g1⟩ := hI
          refine g_193_110 (hG.sh hφ.1) ⟨fun c => ?_, fun _ => ⟨(by simp (disch := omega) only [J_add, J_mul, J_sub, J_cl, vp_J]; omega), (by simp (disch := omega) only [J_add, J_mul, J_sub, J_cl, vp_J]; omega), ?_⟩⟩
          · exfalso; rw [J_le (by omega) (by omega)] at c; omega
          · have et : sI ρ (y0 + 4) (J i).toNatClampNeg = J (tp i) := by
              rw [J_cl (by omega), hG.i (by omega), F5.i (by omega)]; exact h.2.2.2.2.1.2 i hi
            rw [et]
            simp (disch := omega) only [J_add, J_cl]
            refine ih _ ⟨hG.setI ⟨rfl, by omega⟩, ?_⟩
            have em : (fun k => if k = 2884 + 401 * mv 7 then n else if 2885 + 401 * mv 7 ≤ k ∧ k < 2885 + 401 * mv 7 + (i + 1) then tp (k - (2885 + 401 * mv 7)) else mv k) = up (fun k => if k = 2884 + 401 * mv 7 then n else if 2885 + 401 * mv 7 ≤ k ∧ k < 2885 + 401 * mv 7 + i then tp (k - (2885 + 401 * mv 7)) else mv k) (2884 + 401 * mv 7 + 1 + i) (tp i) := funext fun k => by
              by_cases ek : k = 2884 + 401 * mv 7 + 1 + i
              · rw [ek, up_eq, if_neg (by omega), if_pos (by omega)]; congr 1; omega
              · rw [up_ne ek]
                by_cases c1 : k = 2884 + 401 * mv 7
                · rw [if_pos c1, if_pos c1]
                · rw [if_neg c1, if_neg c1]
                  by_cases c2 : 2885 + 401 * mv 7 ≤ k ∧ k < 2885 + 401 * mv 7 + i
                  · rw [if_pos c2, if_pos (by omega)]
                  · rw [if_neg c2, if_neg (by omega)]
            rw [em]; exact g1.up
        · intro ρ hI
          obtain ⟨hG, g1⟩ := hI
          refine g_193_110 (hG.sh hφ.1) ⟨fun _ => ?_, fun c => absurd (by rw [J_le (by omega) (by omega)]; omega) c⟩
          have e7ρ : sI ρ (y0 + 1) 7 = J (mv 7) := by rw [g1.at (by omega), if_neg (by omega), if_neg (by omega)]
          rw [e7ρ, J_add, J_sub (by omega), show mv 7 + 1 - 1 = mv 7 by omega]
          have F6 : Fr (fun p j => (p = y0 ∧ j ≠ 3) ∨ p = y0 + 1) σ (setI ρ (y0 + 1) 7 (J (mv 7 + 1))) := ((F5.mono (fun p j k => Or.inl k)).tr (hG.mono (fun p j k => Or.inr k.1))).setI (Or.inr rfl)
          have em : rulM mv tp n = up (fun k => if k = 2884 + 401 * mv 7 then n else if 2885 + 401 * mv 7 ≤ k ∧ k < 2885 + 401 * mv 7 + n then tp (k - (2885 + 401 * mv 7)) else mv k) 7 (mv 7 + 1) := funext fun k => by
            unfold rulM
            by_cases ek : k = 7
            · rw [ek, up_eq, if_pos rfl]
            · rw [up_ne ek, if_neg ek]
          refine h0 l q e c4 _ (h.gor F6 (fun p j k => by omega) (by rw [em]; exact g1.up) ?_ ?_) (FRf.of hy F6 (fun p j k => by omega)) ?_
          · rw [sI_any (by omega), hG.i (by omega)]; exact hφ.2.2.2.2.1.1
          · rw [sI_any (by omega), hG.i (by omega)]; exact hφ.2.2.2.2.2
          · rw [sI_any (by omega), hG.i (by omega)]; exact e00
      refine L1 0 _ (by omega) ⟨Fr.rf.setI ⟨rfl, Nat.le_refl _⟩, ?_⟩
      have em : (fun k => if k = 2884 + 401 * mv 7 then n else if 2885 + 401 * mv 7 ≤ k ∧ k < 2885 + 401 * mv 7 + 0 then tp (k - (2885 + 401 * mv 7)) else mv k) = up mv (2884 + 401 * mv 7) n := funext fun k => by
        by_cases ek : k = 2884 + 401 * mv 7
        · rw [ek, up_eq, if_pos rfl]
        · rw [up_ne ek, if_neg ek, if_neg (by omega)]
      rw [em]; exact hφ.2.1.up
    · have hu2 : u = J 2 := by
        rw [hu, if_pos L1.2.1, if_pos]
        rw [e7, J_eq (by omega) (by omega)]; omega
      clear hu
      subst hu2
      exact ⟨fun c => absurd c (by decide), fun _ => h2 l q e c4 _ (stop none e10) FR e00⟩
