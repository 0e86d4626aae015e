/-! ===== constants, statics, returns, what is made ===== -/
section MAK
variable {T : Tab} {M : MData} {E : Env4} {G : GW} {xn : Nat → String} {k0 base : Nat} {d : Nat} {B : Nat × Nat} {mt pc : Nat} {ls st : List Value} {σ : Sto} {Q : Out → Sto → Prop}
theorem x_ldc {ix : Nat} {v : Int32} (hd : decode (mC M mt) pc = .ok (.ldc ix, 2)) (hw : Cond.constant (mY M mt).cls ix v ∈ AW) (h : X0 T M E G xn k0 base d B mt (pc + 2) ls (.int v :: st) σ Q) : X0 T M E G xn k0 base d B mt pc ls st σ Q := by
  intro p l e R s m args below meth c H locs cells slots lsM ad adB σB mc ms F hR hX hL hbl hbs hrm
  refine lv_ldc F.1 F.2.1 F.2.2.2.1 (F.2.2.2.2.1 _ hw) hd ?_
  exact h p l e R s m args below meth c H locs cells slots lsM ad adB σB mc ms F hR hX hL hbl hbs.int hrm
theorem x_ldcw {ix : Nat} {v : Int32} (hd : decode (mC M mt) pc = .ok (.ldc_w ix, 3)) (hw : Cond.constant (mY M mt).cls ix v ∈ AW) (h : X0 T M E G xn k0 base d B mt (pc + 3) ls (.int v :: st) σ Q) : X0 T M E G xn k0 base d B mt pc ls st σ Q := by
  intro p l e R s m args below meth c H locs cells slots lsM ad adB σB mc ms F hR hX hL hbl hbs hrm
  refine lv_ldcw F.1 F.2.1 F.2.2.2.1 (F.2.2.2.2.1 _ hw) hd ?_
  exact h p l e R s m args below meth c H locs cells slots lsM ad adB σB mc ms F hR hX hL hbl hbs.int hrm
theorem x_ldc2 {ix : Nat} {v : Int64} (hd : decode (mC M mt) pc = .ok (.ldc2_w ix, 3)) (hw : Cond.constantLong (mY M mt).cls ix v ∈ AW) (h : X0 T M E G xn k0 base d B mt (pc + 3) ls (.long v :: st) σ Q) : X0 T M E G xn k0 base d B mt pc ls st σ Q := by
  intro p l e R s m args below meth c H locs cells slots lsM ad adB σB mc ms F hR hX hL hbl hbs hrm
  refine lv_ldc2 F.1 F.2.1 F.2.2.2.1 (F.2.2.2.2.1 _ hw) hd ?_
  exact h p l e R s m args below meth c H locs cells slots lsM ad adB σB mc ms F hR hX hL hbl hbs.long hrm
theorem x_ldcS {ix q : Nat} {tx : String} (hE : ∀ q ∈ E.2.2.2, q.2.2.2 < k0) (hd : decode (mC M mt) pc = .ok (.ldc ix, 2)) (hw : ((mY M mt).cls, ix, tx, q) ∈ E.2.2.2) (h : X0 T M E G xn k0 base d B mt (pc + 2) ls (.ref q :: st) σ Q) : X0 T M E G xn k0 base d B mt pc ls st σ Q := by
  intro p l e R s m args below meth c H locs cells slots lsM ad adB σB mc ms F hR hX hL hbl hbs hrm
  obtain ⟨r1, r2, r3, r4, r5, r6, r7⟩ := id hR
  refine va_ldcS (tx := tx) (q := ad q) F.1 F.2.1 F.2.2.2.1 (r6.2.2.2.2.2.2.2.2.2.2.2.2 _ hw) hd ?_
  exact h p l e R s m args below meth c H locs cells slots lsM ad adB σB mc ms F hR hX hL hbl (hbs.ref (Nat.lt_of_lt_of_le (hE _ hw) r7.1.2)) hrm
theorem x_gets0 {ix : Nat} (hd : decode (mC M mt) pc = .ok (.getstatic ix, 3)) (hw : Cond.fieldLink (mY M mt).cls ix "java/lang/String" "COMPACT_STRINGS" "Z" ∈ AW) (h : X0 T M E G xn k0 base d B mt (pc + 3) ls (.int 1 :: st) σ Q) : X0 T M E G xn k0 base d B mt pc ls st σ Q := by
  intro p l e R s m args below meth c H locs cells slots lsM ad adB σB mc ms F hR hX hL hbl hbs hrm
  obtain ⟨r1, r2, r3, r4, r5, r6, r7⟩ := id hR
  refine va_gets F.1 F.2.1 r6.2.2.2.2.1 r4 F.2.2.2.1 (F.2.2.2.2.1 _ hw) (fun x h => h) hd ?_
  exact h p l e R s m args below meth c H locs cells slots lsM ad adB σB mc ms F hR hX hL hbl hbs.int hrm
theorem x_gets1 {ix : Nat} {r : Option Nat} (hd : decode (mC M mt) pc = .ok (.getstatic ix, 3)) (hw : Cond.fieldLink (mY M mt).cls ix "jdk/internal/util/Preconditions" "SIOOBE_FORMATTER" "Ljava/util/function/BiFunction;" ∈ AW) (hr : sP σ 0 0 = r) (h : X0 T M E G xn k0 base d B mt (pc + 3) ls (va_rf r :: st) σ Q) : X0 T M E G xn k0 base d B mt pc ls st σ Q := by
  intro p l e R s m args below meth c H locs cells slots lsM ad adB σB mc ms F hR hX hL hbl hbs hrm
  obtain ⟨r1, r2, r3, r4, r5, r6, r7⟩ := id hR
  have hsb : SB (sN σ) (va_rf r :: st) := by
    cases r with
    | none => exact hbs.null
    | some q => exact hbs.ref (r7.2.2.2.2 _ _ _ hr)
  refine va_gets F.1 F.2.1 r6.2.2.2.1 r4 F.2.2.2.1 (F.2.2.2.2.1 _ hw) (fun x h => h) hd ?_
  rw [hr, ← tr_rf]
  exact h p l e R s m args below meth c H locs cells slots lsM ad adB σB mc ms F hR hX hL hbl hsb hrm
/-- the end of a frame -/
theorem x_end {p : Program} {l : Launch} {e : Env} {R : Room} {s : State} {m : MethodId} {args : Array Value} {below : List Frame} {meth : Method} {c : Code} {H : Heap} {locs : List Loc} {cells slots : Nat} {ad adB : Nat → Nat} {σB : Sto} {mc ms : Nat} {g : JFrame} {v : Option Value} (hR : Rel E G k0 base ad σ s H locs) (hX : Ext k0 adB σB ad σ) (hv : ∀ x, v = some x → vb (sN σ) x ∧ okv x) (hrm : RM d B R cells slots mc ms) (hQ : Q (.inl v) σ)
    (h : (∀ t : State, t.heap = H → s.WarmedH t.vm → PQ G k0 base adB σB Q args s (.returned (v.map (tr ad))) t) → (∀ q ∈ locs, ab base q.base) → W p l e R s m args below meth c H locs mc ms (MQ below (PQ G k0 base adB σB Q) args s mc ms (ab base)) g) :
    W p l e R s m args below meth c H locs cells slots (vx_MQ below (PQ G k0 base adB σB Q) (PX xn G k0 base adB σB Q) args s mc ms (ab base)) g := by
  obtain ⟨r1, r2, r3, r4, r5, r6, r7⟩ := hR
  obtain ⟨-, -, -, -, q1, q2⟩ := hrm
  refine W.widen (k := mc) (n := ms) (by omega) (by omega) (vx_ret (h (fun t ht _ => ?_) r4.2.2))
  exact ⟨⟨v, ad, σ, rfl, hQ, hX, by rw [ht]; exact r2, r3, r7, hv⟩, r4.F ht⟩
theorem x_iret {x : Int32} (hd : decode (mC M mt) pc = .ok (.ireturn, 1)) (hn : ∃ ty, tRT T mt = some ty ∧ narrow ty (.int x) = .int x) (hQ : Q (.inl (some (.int x))) σ) : X0 T M E G xn k0 base d B mt pc ls [.int x] σ Q := by
  intro p l e R s m args below meth c H locs cells slots lsM ad adB σB mc ms F hR hX hL hbl hbs hrm
  obtain ⟨ty, h1, h2⟩ := hn
  exact x_end hR hX (fun y hy => by cases hy; exact ⟨trivial, trivial⟩) hrm hQ (fun hq hf => W.zret F.1 F.2.1 (F.2.2.2.2.2.2.1.trans h1) h2 hq hf hd F.2.2.2.2.2.1)
theorem x_lret {x : Int64} (hd : decode (mC M mt) pc = .ok (.lreturn, 1)) (hn : tRT T mt = some .long) (hQ : Q (.inl (some (.long x))) σ) : X0 T M E G xn k0 base d B mt pc ls [.long x] σ Q := by
  intro p l e R s m args below meth c H locs cells slots lsM ad adB σB mc ms F hR hX hL hbl hbs hrm
  exact x_end hR hX (fun y hy => by cases hy; exact ⟨trivial, trivial⟩) hrm hQ (fun hq hf => W.lret F.1 F.2.1 (F.2.2.2.2.2.2.1.trans hn) hq hf hd F.2.2.2.2.2.1)
theorem x_vret (hd : decode (mC M mt) pc = .ok (.return_, 1)) (hn : tRT T mt = none) (hQ : Q (.inl none) σ) : X0 T M E G xn k0 base d B mt pc ls [] σ Q := by
  intro p l e R s m args below meth c H locs cells slots lsM ad adB σB mc ms F hR hX hL hbl hbs hrm
  exact x_end hR hX (fun y hy => by cases hy) hrm hQ (fun hq hf => W.vret F.1 F.2.1 (F.2.2.2.2.2.2.1.trans hn) hq hf hd F.2.2.2.2.2.1)
theorem x_aret {x : Nat} {rt : FieldType} (hd : decode (mC M mt) pc = .ok (.areturn, 1)) (hn : tRT T mt = some rt) (hrt : (∃ n, rt = .object n) ∨ ∃ t, rt = .array t) (hQ : Q (.inl (some (.ref x))) σ) : X0 T M E G xn k0 base d B mt pc ls [.ref x] σ Q := by
  intro p l e R s m args below meth c H locs cells slots lsM ad adB σB mc ms F hR hX hL hbl hbs hrm
  exact x_end hR hX (fun y hy => by cases hy; exact hbs.head) hrm hQ (fun hq hf => W.aret F.1 F.2.1 (F.2.2.2.2.2.2.1.trans hn) hrt (Or.inr ⟨_, rfl⟩) hq hf hd F.2.2.2.2.2.1)
/-- a new place -/
theorem LV.ext {ad ad' : Nat → Nat} {lsM : Array Slot} {nL n : Nat} {ls : List Value} (h : LV ad lsM nL ls) (hb : ∀ v ∈ ls, vb n v) (ha : ∀ k, k < n → ad' k = ad k) : LV ad' lsM nL ls := ⟨h.1, h.2.1, h.2.2.1, fun i v hi hn => by rw [tr_ext ha (hb v (List.mem_of_getElem? hi))]; exact h.2.2.2 i v hi hn⟩
theorem sN_newO {kd z : Nat} : sN (newO σ kd z) = sN σ + 1 := rfl
/-- a store with one place more -/
def Add1 (σ σ' : Sto) (kd z : Nat) : Prop := sN σ' = sN σ + 1 ∧ (∀ k, k ≠ sN σ → sK σ' k = sK σ k ∧ sZ σ' k = sZ σ k ∧ sI σ' k = sI σ k ∧ sL σ' k = sL σ k ∧ sP σ' k = sP σ k) ∧ sK σ' (sN σ) = kd ∧ sZ σ' (sN σ) = z ∧ sP σ' (sN σ) = fun _ => none
theorem Add1.o {kd z : Nat} : Add1 σ (newO σ kd z) kd z := ⟨rfl, fun k h => ⟨up_ne h, up_ne h, up_ne h, up_ne h, up_ne h⟩, up_eq, up_eq, up_eq⟩
theorem Add1.c {kd z : Nat} {f : Nat → Int32} : Add1 σ (rowI (newO σ kd z) (sN σ) f) kd z := ⟨rfl, fun k h => ⟨up_ne h, up_ne h, (up_ne h).trans (up_ne h), up_ne h, up_ne h⟩, up_eq, up_eq, up_eq⟩
theorem Rel.add1 {ad : Nat → Nat} {σ' : Sto} {s : State} {H H1 : Heap} {locs : List Loc} {a kd z : Nat} {e : va_E} (hE : ∀ q ∈ E.2.2.2, q.2.2.2 < k0) (h : Rel E G k0 base ad σ s H locs) (ha : Add1 σ σ' kd z) (h0 : 1 ≤ kd ∧ kd ≤ 18) (he : ce G (up ad (sN σ) a) σ' (sN σ) = e)
    (h1 : va_P G.1 vwCl (wl G k0 ad σ ++ [(a, e)]) H1) (h2 : va_D (ab base) (wl G k0 ad σ ++ [(a, e)])) (h3 : va_S (ab base) s.heap H1 locs) : Rel E G k0 base (up ad (sN σ) a) σ' s H1 locs ∧ Ext k0 ad σ (up ad (sN σ) a) σ' := by
  obtain ⟨r1, r2, r3, r4, r5, r6, r7⟩ := h
  obtain ⟨a1, a2, a3, a4, a5⟩ := ha
  have had : ∀ q, q < sN σ → up ad (sN σ) a q = ad q := fun q hq => up_ne (by omega)
  have hw := wl_push (G := G) (ad := ad) (σ := σ) (σ' := σ') (a := a) r7.1.2 a1 (fun k _ hk => by
    obtain ⟨b1, b2, b3, b4, b5⟩ := a2 k (by omega)
    exact ce_congr b1 b2 b3 b4 b5 (r7.2.2.2.2 k) had) he
  rw [hw] at h1 h2
  have hx : Ext k0 ad σ (up ad (sN σ) a) σ' := ⟨by omega, had, fun o ho => by
    have := r7.1.2
    obtain ⟨b1, b2, b3, b4, b5⟩ := a2 o (by omega)
    exact ⟨b1, b2, b3, b5⟩⟩
  refine ⟨⟨r1, h1, h2, h3, r5, r6.ext r7 hx hE, ⟨r7.1.1, by have := r7.1.2; omega⟩, fun o ho => ?_, fun o ho => ?_, fun o ho ho2 => ?_, fun k j q hq => ?_⟩, hx⟩
  · rw [(a2 o (by omega)).1]; exact r7.2.1 o (by omega)
  · have := r7.1.2; rw [(a2 o (by omega)).1]; exact r7.2.2.1 o ho
  · by_cases hk : o = sN σ
    · rw [hk, a3]; exact h0
    · rw [(a2 o hk).1]; exact r7.2.2.2.1 o ho (by omega)
  · by_cases hk : k = sN σ
    · rw [hk, a5] at hq; cases hq
    · rw [(a2 k hk).2.2.2.2] at hq; have := r7.2.2.2.2 k j q hq; omega
/-- going on with a new place on the stack -/
theorem x_made {p : Program} {l : Launch} {e : Env} {R : Room} {s : State} {m : MethodId} {args : Array Value} {below : List Frame} {meth : Method} {c : Code} {H1 : Heap} {locs : List Loc} {cells1 slots1 : Nat} {lsM : Array Slot} {ad adB : Nat → Nat} {σB σ' : Sto} {mc ms a pc' : Nat} {B' : Nat × Nat} (F : FRM T M p l s m args meth c mt) (hX : Ext k0 adB σB ad σ) (hL : LV ad lsM (tML T mt) ls) (hbl : ∀ v ∈ ls, vb (sN σ) v) (hbs : SB (sN σ) st) (hrm : RM d B' R cells1 slots1 mc ms)
    (hR' : Rel E G k0 base (up ad (sN σ) a) σ' s H1 locs) (hx : Ext k0 ad σ (up ad (sN σ) a) σ') (hN : sN σ < sN σ') (h : X0 T M E G xn k0 base d B' mt pc' ls (.ref (sN σ) :: st) σ' Q) :
    W p l e R s m args below meth c H1 locs cells1 slots1 (vx_MQ below (PQ G k0 base adB σB Q) (PX xn G k0 base adB σB Q) args s mc ms (ab base)) (F0 m pc' lsM (.ref a :: st.map (tr ad))) := by
  have h9 := h p l e R s m args below meth c H1 locs cells1 slots1 lsM (up ad (sN σ) a) adB σB mc ms F hR' (hX.trans hx) (hL.ext hbl hx.2.1) (fun v hv => (hbl v hv).mono (by omega)) ((hbs.mono (by omega)).ref hN) hrm
  have e1 : (.ref (sN σ) :: st).map (tr (up ad (sN σ) a)) = .ref a :: st.map (tr ad) := by
    rw [List.map_cons, tr_ref, up_eq, tr_exts hx.2.1 (fun v hv => (hbs v hv).1)]
  rw [e1] at h9
  exact h9
theorem x_new {ix ci : Nat} {C : String} {Tt : u_T} {N : Nat} (hE : ∀ q ∈ E.2.2.2, q.2.2.2 < k0) (hd : decode (mC M mt) pc = .ok (.new ix, 3)) (hc : VC ci C Tt N) (hw : Cond.classLink (mY M mt).cls ix C ∈ AW) (hB : 1 ≤ B.1 ∧ 32 ≤ B.2)
    (h : X0 T M E G xn k0 base d (B.1 - 1, B.2 - 32) mt (pc + 3) ls (.ref (sN σ) :: st) (newO σ (ci + 1) 0) Q) : X0 T M E G xn k0 base d B mt pc ls st σ Q := by
  intro p l e R s m args below meth c H locs cells slots lsM ad adB σB mc ms F hR hX hL hbl hbs hrm
  obtain ⟨r1, r2, r3, r4, r5, r6, r7⟩ := id hR
  obtain ⟨c1, c2, c3, c4, c5, c6, c7, c8, c9, c10⟩ := hc
  obtain ⟨m1, m2, m3, m4, m5, m6⟩ := id hrm
  refine va_new (C := C) (T := Tt) (N := N) (ci := ci) (fs := fvals ad (newO σ (ci + 1) 0) (sN σ) (ctag.getD ci [])) F.1 F.2.1 F.2.2.2.2.1 c4 (cty ci) c6 F.2.2.2.1 (F.2.2.2.2.1 _ hw) (F.2.2.2.2.1 _ c8) (F.2.2.2.2.1 _ c9) r1 r2 r3 r4 (fun q hq => Nat.le_trans r5 hq) c1 (fun j hj => ?_) (by omega) (by omega) hd (fun q H1 h1 h2 h3 => ?_)
  · have ht := c7 j hj
    unfold vp_V
    rw [List.getD_eq_getElem?_getD, fvals_get (by omega)]
    show _ = fval ad (newO σ (ci + 1) 0) ((ctag.getD ci []).getD j 0) (sN σ) j
    generalize (ctag.getD ci []).getD j 0 = tg at ht
    match tg, ht with
    | 0, ht => rw [show cty ci j = .int from ht]; show _ = Value.int (up (sI σ) (sN σ) (fun _ => 0) (sN σ) j); rw [up_eq]; rfl
    | 1, ht => rw [show cty ci j = .long from ht]; show _ = Value.long (up (sL σ) (sN σ) (fun _ => 0) (sN σ) j); rw [up_eq]; rfl
    | 2, ht =>
      show _ = va_rf ((up (sP σ) (sN σ) (fun _ => none) (sN σ) j).map ad)
      rw [up_eq]
      rcases ht with ⟨n, e⟩ | ⟨n, e⟩ <;> rw [e] <;> rfl
    | 3, ht => rw [show cty ci j = .boolean from ht]; show _ = Value.int (up (sI σ) (sN σ) (fun _ => 0) (sN σ) j); rw [up_eq]; rfl
    | n + 4, ht => exact ht.elim
  · have hce : ce G (up ad (sN σ) q) (newO σ (ci + 1) 0) (sN σ) = .inr (ci, fvals ad (newO σ (ci + 1) 0) (sN σ) (ctag.getD ci [])) := by
      rw [ce_ob (ci := ci) (show sK (newO σ (ci + 1) 0) (sN σ) = ci + 1 from up_eq) c2]
      refine congrArg (fun z => Sum.inr (ci, z)) ?_
      unfold fvals
      refine List.map_congr_left fun j _ => ?_
      unfold fval
      rw [show sP (newO σ (ci + 1) 0) (sN σ) = fun _ => none from up_eq]
      rfl
    obtain ⟨hR', hx⟩ := Rel.add1 hE hR Add1.o (by omega) hce h1 h2 h3
    exact x_made F hX hL hbl hbs ⟨m1, m2, by dsimp only; omega, by dsimp only; omega, by dsimp only; omega, by dsimp only; omega⟩ hR' hx (by rw [sN_newO]; omega) h
end MAK
