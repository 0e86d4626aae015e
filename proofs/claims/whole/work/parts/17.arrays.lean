/-! ===== arrays, constants, statics, returns ===== -/
section ARR
variable {T : Tab} {M : MData} {E : Env4} {G : GW} {xn : Nat → String} {k0 base : Nat} {d : Nat} {B : Nat × Nat} {mt pc : Nat} {ls st : List Value} {σ : Sto} {Q : Out → Sto → Prop}
theorem gty_0 {G : GW} : (gty G)[0]? = some (G.2.1, .int) := rfl
theorem gty_1 {G : GW} : (gty G)[1]? = some (G.2.2.1, .long) := rfl
theorem gty_2 {G : GW} : (gty G)[2]? = some (G.2.2.2.1, .boolean) := rfl
theorem gty_3 {G : GW} : (gty G)[3]? = some (G.2.2.2.2.1, .object "GorgeDay$Rule") := rfl
theorem gty_4 {G : GW} : (gty G)[4]? = some (G.2.2.2.2.2, .array .int) := rfl
theorem x_iald {i : Int32} {a : Nat} (hd : decode (mC M mt) pc = .ok (.iaload, 1)) (hi : ldI σ a i) (h : X0 T M E G xn k0 base d B mt (pc + 1) ls (.int (sI σ a i.toNatClampNeg) :: st) σ Q) : X0 T M E G xn k0 base d B mt pc ls (.int i :: .ref a :: st) σ Q := by
  intro p l e R s m args below meth c H locs cells slots lsM ad adB σB mc ms F hR hX hL hbl hbs hrm
  obtain ⟨r1, r2, r3, r4, r5, r6, r7⟩ := id hR
  obtain ⟨hk | hk, hin⟩ := hi
  · have ho := r7.new hk (by omega) (by omega)
    have he := wl_get (G := G) (ad := ad) ho.1 ho.2
    rw [ce_14 hk] at he
    refine va_iald F.1 F.2.1 r1 r2 (a - k0) 0 he gty_0 hin hd ?_
    exact h p l e R s m args below meth c H locs cells slots lsM ad adB σB mc ms F hR hX hL hbl hbs.tail.tail.int hrm
  · have ho := r7.old hk (by omega)
    obtain ⟨hx, hlt⟩ := r6.2.2.1 a ho hk
    refine va_sld F.1 F.2.1 hx (Nat.lt_of_lt_of_le hlt r5) (Nat.not_le.mpr hlt) r4 hin hd ?_
    exact h p l e R s m args below meth c H locs cells slots lsM ad adB σB mc ms F hR hX hL hbl hbs.tail.tail.int hrm
theorem x_lald {i : Int32} {a : Nat} (hd : decode (mC M mt) pc = .ok (.laload, 1)) (hi : sK σ a = 15 ∧ vp_in i (sZ σ a)) (h : X0 T M E G xn k0 base d B mt (pc + 1) ls (.long (sL σ a i.toNatClampNeg) :: st) σ Q) : X0 T M E G xn k0 base d B mt pc ls (.int i :: .ref a :: st) σ Q := by
  intro p l e R s m args below meth c H locs cells slots lsM ad adB σB mc ms F hR hX hL hbl hbs hrm
  obtain ⟨r1, r2, r3, r4, r5, r6, r7⟩ := id hR
  obtain ⟨hk, hin⟩ := hi
  have ho := r7.new hk (by omega) (by omega)
  have he := wl_get (G := G) (ad := ad) ho.1 ho.2
  rw [ce_15 hk] at he
  refine va_lald F.1 F.2.1 r1 r2 (a - k0) 1 he gty_1 hin hd ?_
  exact h p l e R s m args below meth c H locs cells slots lsM ad adB σB mc ms F hR hX hL hbl hbs.tail.tail.long hrm
theorem x_bald {i : Int32} {a : Nat} (hd : decode (mC M mt) pc = .ok (.baload, 1)) (hi : (sK σ a = 16 ∨ sK σ a = 20) ∧ vp_in i (sZ σ a)) (h : X0 T M E G xn k0 base d B mt (pc + 1) ls (.int (sI σ a i.toNatClampNeg) :: st) σ Q) : X0 T M E G xn k0 base d B mt pc ls (.int i :: .ref a :: st) σ Q := by
  intro p l e R s m args below meth c H locs cells slots lsM ad adB σB mc ms F hR hX hL hbl hbs hrm
  obtain ⟨r1, r2, r3, r4, r5, r6, r7⟩ := id hR
  obtain ⟨hk | hk, hin⟩ := hi
  · have ho := r7.new hk (by omega) (by omega)
    have he := wl_get (G := G) (ad := ad) ho.1 ho.2
    rw [ce_16 hk] at he
    refine va_zald F.1 F.2.1 r1 r2 (a - k0) 2 he gty_2 hin hd ?_
    exact h p l e R s m args below meth c H locs cells slots lsM ad adB σB mc ms F hR hX hL hbl hbs.tail.tail.int hrm
  · have ho := r7.old hk (by omega)
    have hx := r6.2.1 a ho hk
    refine va_tb F.1 F.2.1 hx r4 hin rfl hd ?_
    exact h p l e R s m args below meth c H locs cells slots lsM ad adB σB mc ms F hR hX hL hbl hbs.tail.tail.int hrm
theorem x_aald {i : Int32} {a : Nat} {r : Option Nat} (hd : decode (mC M mt) pc = .ok (.aaload, 1)) (hi : (sK σ a = 17 ∨ sK σ a = 18) ∧ vp_in i (sZ σ a)) (hr : sP σ a i.toNatClampNeg = r) (h : X0 T M E G xn k0 base d B mt (pc + 1) ls (va_rf r :: st) σ Q) : X0 T M E G xn k0 base d B mt pc ls (.int i :: .ref a :: st) σ Q := by
  intro p l e R s m args below meth c H locs cells slots lsM ad adB σB mc ms F hR hX hL hbl hbs hrm
  obtain ⟨r1, r2, r3, r4, r5, r6, r7⟩ := id hR
  have hsb : SB (sN σ) (va_rf r :: st) := by
    cases r with
    | none => exact hbs.tail.tail.null
    | some q => exact hbs.tail.tail.ref (r7.2.2.2.2 _ _ _ hr)
  have go : W p l e R s m args below meth c H locs cells slots (vx_MQ below (PQ G k0 base adB σB Q) (PX xn G k0 base adB σB Q) args s mc ms (ab base)) (F0 m (pc + 1) lsM (va_rf ((sP σ a i.toNatClampNeg).map ad) :: st.map (tr ad))) := by
    rw [hr, ← tr_rf]
    exact h p l e R s m args below meth c H locs cells slots lsM ad adB σB mc ms F hR hX hL hbl hsb hrm
  obtain ⟨hk | hk, hin⟩ := hi
  · have ho := r7.new hk (by omega) (by omega)
    have he := wl_get (G := G) (ad := ad) ho.1 ho.2
    rw [ce_17 hk] at he
    exact va_aldq F.1 F.2.1 r1 r2 (a - k0) 3 he gty_3 hin hd go
  · have ho := r7.new hk (by omega) (by omega)
    have he := wl_get (G := G) (ad := ad) ho.1 ho.2
    rw [ce_18 hk] at he
    have hlt : i.toNatClampNeg < sZ σ a := Nat.not_le.mp fun q => hin (Or.inr q)
    exact W.aald (v := va_rf ((sP σ a i.toNatClampNeg).map ad)) (ty := .array .int) F.1 F.2.1 (r2 _ _ he) ((r1.2 4 _ gty_4).1 (sZ σ a) (fun j => va_rf ((sP σ a j).map ad))) rfl (fun q => by cases q) (by show ¬ (i < 0 ∨ (arrV _ _ _).slots.size ≤ _); rw [arrV_size]; exact hin) (by show (arrV _ _ _).slots[_]? = _; rw [arrV_read _ _ hlt]) rfl rfl hd go
theorem x_iast {i x : Int32} {a : Nat} (hE : ∀ q ∈ E.2.2.2, q.2.2.2 < k0) (hd : decode (mC M mt) pc = .ok (.iastore, 1)) (hi : sK σ a = 14 ∧ vp_in i (sZ σ a)) (h : X0 T M E G xn k0 base d B mt (pc + 1) ls st (setI σ a i.toNatClampNeg x) Q) : X0 T M E G xn k0 base d B mt pc ls (.int x :: .int i :: .ref a :: st) σ Q := by
  intro p l e R s m args below meth c H locs cells slots lsM ad adB σB mc ms F hR hX hL hbl hbs hrm
  obtain ⟨r1, r2, r3, r4, r5, r6, r7⟩ := id hR
  obtain ⟨hk, hin⟩ := hi
  have ho := r7.new hk (by omega) (by omega)
  have he := wl_get (G := G) (ad := ad) ho.1 ho.2
  rw [ce_14 hk] at he
  refine va_iast F.1 F.2.1 r1 r2 r3 r4 (a - k0) 0 he gty_0 hin hd (fun H1 locs1 h1 h2 h3 => ?_)
  obtain ⟨hR', hx⟩ := Rel.at1 hE hR (At1.i (j := i.toNatClampNeg) (v := x)) ho.1 (fun j q hq => r7.2.2.2.2 _ _ _ hq) (by rw [ce_14 (show sK (setI σ a i.toNatClampNeg x) a = 14 from hk), sI_setI, up_eq, up_upd]; rfl) h1 h2 h3
  exact h p l e R s m args below meth c H1 locs1 cells slots lsM ad adB σB mc ms F hR' (hX.trans hx) hL hbl hbs.tail.tail.tail hrm
theorem x_bast {i x : Int32} {a : Nat} (hE : ∀ q ∈ E.2.2.2, q.2.2.2 < k0) (hd : decode (mC M mt) pc = .ok (.bastore, 1)) (hi : sK σ a = 16 ∧ vp_in i (sZ σ a) ∧ (x = 0 ∨ x = 1)) (h : X0 T M E G xn k0 base d B mt (pc + 1) ls st (setI σ a i.toNatClampNeg x) Q) : X0 T M E G xn k0 base d B mt pc ls (.int x :: .int i :: .ref a :: st) σ Q := by
  intro p l e R s m args below meth c H locs cells slots lsM ad adB σB mc ms F hR hX hL hbl hbs hrm
  obtain ⟨r1, r2, r3, r4, r5, r6, r7⟩ := id hR
  obtain ⟨hk, hin, hxx⟩ := hi
  have hnar : vp_nar .boolean x = x := by rcases hxx with q | q <;> subst q <;> decide
  have ho := r7.new hk (by omega) (by omega)
  have he := wl_get (G := G) (ad := ad) ho.1 ho.2
  rw [ce_16 hk] at he
  refine va_zast F.1 F.2.1 r1 r2 r3 r4 (a - k0) 2 he gty_2 hin hd (fun H1 locs1 h1 h2 h3 => ?_)
  obtain ⟨hR', hx⟩ := Rel.at1 hE hR (At1.i (j := i.toNatClampNeg) (v := x)) ho.1 (fun j q hq => r7.2.2.2.2 _ _ _ hq) (by rw [ce_16 (show sK (setI σ a i.toNatClampNeg x) a = 16 from hk), sI_setI, up_eq, hnar, up_upd]; rfl) h1 h2 h3
  exact h p l e R s m args below meth c H1 locs1 cells slots lsM ad adB σB mc ms F hR' (hX.trans hx) hL hbl hbs.tail.tail.tail hrm
theorem x_last {i : Int32} {x : Int64} {a : Nat} (hE : ∀ q ∈ E.2.2.2, q.2.2.2 < k0) (hd : decode (mC M mt) pc = .ok (.lastore, 1)) (hi : sK σ a = 15 ∧ vp_in i (sZ σ a)) (h : X0 T M E G xn k0 base d B mt (pc + 1) ls st (setL σ a i.toNatClampNeg x) Q) : X0 T M E G xn k0 base d B mt pc ls (.long x :: .int i :: .ref a :: st) σ Q := by
  intro p l e R s m args below meth c H locs cells slots lsM ad adB σB mc ms F hR hX hL hbl hbs hrm
  obtain ⟨r1, r2, r3, r4, r5, r6, r7⟩ := id hR
  obtain ⟨hk, hin⟩ := hi
  have ho := r7.new hk (by omega) (by omega)
  have he := wl_get (G := G) (ad := ad) ho.1 ho.2
  rw [ce_15 hk] at he
  refine va_last F.1 F.2.1 r1 r2 r3 r4 (a - k0) 1 he gty_1 hin hd (fun H1 locs1 h1 h2 h3 => ?_)
  obtain ⟨hR', hx⟩ := Rel.at1 hE hR (At1.l (j := i.toNatClampNeg) (v := x)) ho.1 (fun j q hq => r7.2.2.2.2 _ _ _ hq) (by rw [ce_15 (show sK (setL σ a i.toNatClampNeg x) a = 15 from hk), show sL (setL σ a i.toNatClampNeg x) a = up (sL σ a) i.toNatClampNeg x from up_eq, up_updL]; rfl) h1 h2 h3
  exact h p l e R s m args below meth c H1 locs1 cells slots lsM ad adB σB mc ms F hR' (hX.trans hx) hL hbl hbs.tail.tail.tail hrm
theorem map_up {ad : Nat → Nat} {f : Nat → Option Nat} {i : Nat} {r : Option Nat} : (fun j => (up f i r j).map ad) = va_up (fun j => (f j).map ad) i (r.map ad) := by
  funext j
  unfold up va_up
  by_cases h : j = i
  · rw [if_pos h, if_pos h]
  · rw [if_neg h, if_neg h]
theorem vwCl_7 : vwCl[7]? = some (RX7, TX7, 6) := rfl
theorem x_aast {i : Int32} {a x : Nat} (hE : ∀ q ∈ E.2.2.2, q.2.2.2 < k0) (hd : decode (mC M mt) pc = .ok (.aastore, 1)) (hi : sK σ a = 17 ∧ vp_in i (sZ σ a) ∧ sK σ x = 8) (h : X0 T M E G xn k0 base d B mt (pc + 1) ls st (setP σ a i.toNatClampNeg (some x)) Q) : X0 T M E G xn k0 base d B mt pc ls (.ref x :: .int i :: .ref a :: st) σ Q := by
  intro p l e R s m args below meth c H locs cells slots lsM ad adB σB mc ms F hR hX hL hbl hbs hrm
  obtain ⟨r1, r2, r3, r4, r5, r6, r7⟩ := id hR
  obtain ⟨hk, hin, hxk⟩ := hi
  have ho := r7.new hk (by omega) (by omega)
  have he := wl_get (G := G) (ad := ad) ho.1 ho.2
  rw [ce_17 hk] at he
  have hox := r7.new hxk (by omega) (by omega)
  have hex := wl_get (G := G) (ad := ad) hox.1 hox.2
  rw [ce_ob (ci := 7) hxk (by omega)] at hex
  refine va_astq F.1 F.2.1 r1 r2 r3 r4 (a - k0) 3 (x - k0) 7 he gty_3 hex vwCl_7 hin hd (fun H1 locs1 h1 h2 h3 => ?_)
  have hpp : ∀ (j q : Nat), sP (setP σ a i.toNatClampNeg (some x)) a j = some q → q < sN σ := by
    intro j q hq
    rw [show sP (setP σ a i.toNatClampNeg (some x)) a = up (sP σ a) i.toNatClampNeg (some x) from up_eq] at hq
    unfold up at hq
    split at hq
    · cases hq; exact hox.2
    · exact r7.2.2.2.2 _ _ _ hq
  obtain ⟨hR', hx⟩ := Rel.at1 hE hR (At1.p (j := i.toNatClampNeg) (v := some x)) ho.1 hpp (by rw [ce_17 (show sK (setP σ a i.toNatClampNeg (some x)) a = 17 from hk), show sP (setP σ a i.toNatClampNeg (some x)) a = up (sP σ a) i.toNatClampNeg (some x) from up_eq, map_up]; rfl) h1 h2 h3
  exact h p l e R s m args below meth c H1 locs1 cells slots lsM ad adB σB mc ms F hR' (hX.trans hx) hL hbl hbs.tail.tail.tail hrm
theorem x_aastN {i : Int32} {a : Nat} (hE : ∀ q ∈ E.2.2.2, q.2.2.2 < k0) (hd : decode (mC M mt) pc = .ok (.aastore, 1)) (hi : sK σ a = 17 ∧ vp_in i (sZ σ a)) (h : X0 T M E G xn k0 base d B mt (pc + 1) ls st (setP σ a i.toNatClampNeg none) Q) : X0 T M E G xn k0 base d B mt pc ls (.null :: .int i :: .ref a :: st) σ Q := by
  intro p l e R s m args below meth c H locs cells slots lsM ad adB σB mc ms F hR hX hL hbl hbs hrm
  obtain ⟨r1, r2, r3, r4, r5, r6, r7⟩ := id hR
  obtain ⟨hk, hin⟩ := hi
  have ho := r7.new hk (by omega) (by omega)
  have he := wl_get (G := G) (ad := ad) ho.1 ho.2
  rw [ce_17 hk] at he
  refine va_astqN F.1 F.2.1 r1 r2 r3 r4 (a - k0) 3 he gty_3 hin hd (fun H1 locs1 h1 h2 h3 => ?_)
  have hpp : ∀ (j q : Nat), sP (setP σ a i.toNatClampNeg none) a j = some q → q < sN σ := by
    intro j q hq
    rw [show sP (setP σ a i.toNatClampNeg none) a = up (sP σ a) i.toNatClampNeg none from up_eq] at hq
    unfold up at hq
    split at hq
    · cases hq
    · exact r7.2.2.2.2 _ _ _ hq
  obtain ⟨hR', hx⟩ := Rel.at1 hE hR (At1.p (j := i.toNatClampNeg) (v := none)) ho.1 hpp (by rw [ce_17 (show sK (setP σ a i.toNatClampNeg none) a = 17 from hk), show sP (setP σ a i.toNatClampNeg none) a = up (sP σ a) i.toNatClampNeg none from up_eq, map_up]; rfl) h1 h2 h3
  exact h p l e R s m args below meth c H1 locs1 cells slots lsM ad adB σB mc ms F hR' (hX.trans hx) hL hbl hbs.tail.tail.tail hrm
theorem x_alen {a : Nat} (hd : decode (mC M mt) pc = .ok (.arraylength, 1)) (hi : (14 ≤ sK σ a ∧ sK σ a ≤ 18) ∨ sK σ a = 20 ∨ sK σ a = 21) (h : X0 T M E G xn k0 base d B mt (pc + 1) ls (.int (Int32.ofNat (sZ σ a)) :: st) σ Q) : X0 T M E G xn k0 base d B mt pc ls (.ref a :: st) σ Q := by
  intro p l e R s m args below meth c H locs cells slots lsM ad adB σB mc ms F hR hX hL hbl hbs hrm
  obtain ⟨r1, r2, r3, r4, r5, r6, r7⟩ := id hR
  have go : W p l e R s m args below meth c H locs cells slots (vx_MQ below (PQ G k0 base adB σB Q) (PX xn G k0 base adB σB Q) args s mc ms (ab base)) (F0 m (pc + 1) lsM (.int (Int32.ofNat (sZ σ a)) :: st.map (tr ad))) :=
    h p l e R s m args below meth c H locs cells slots lsM ad adB σB mc ms F hR hX hL hbl hbs.tail.int hrm
  rcases hi with ⟨q1, q2⟩ | hk | hk
  · have ho := r7.new (o := a) rfl (by omega) (by omega)
    have he := wl_get (G := G) (ad := ad) ho.1 ho.2
    rcases (show sK σ a = 14 ∨ sK σ a = 15 ∨ sK σ a = 16 ∨ sK σ a = 17 ∨ sK σ a = 18 by omega) with hk | hk | hk | hk | hk
    · rw [ce_14 hk] at he; exact va_alen F.1 F.2.1 r1 r2 (a - k0) 0 he gty_0 rfl hd go
    · rw [ce_15 hk] at he; exact va_alen F.1 F.2.1 r1 r2 (a - k0) 1 he gty_1 rfl hd go
    · rw [ce_16 hk] at he; exact va_alen F.1 F.2.1 r1 r2 (a - k0) 2 he gty_2 rfl hd go
    · rw [ce_17 hk] at he; exact va_alen F.1 F.2.1 r1 r2 (a - k0) 3 he gty_3 rfl hd go
    · rw [ce_18 hk] at he; exact va_alen F.1 F.2.1 r1 r2 (a - k0) 4 he gty_4 rfl hd go
  · have ho := r7.old hk (by omega)
    exact va_tlen F.1 F.2.1 (r6.2.1 a ho hk) r4 rfl hd go
  · have ho := r7.old hk (by omega)
    obtain ⟨hx, hlt⟩ := r6.2.2.1 a ho hk
    exact va_slen F.1 F.2.1 hx (Nat.lt_of_lt_of_le hlt r5) (Nat.not_le.mpr hlt) r4 hd go
end ARR
