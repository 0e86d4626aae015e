/-! ===== arrays that are made, copied; texts of exceptions ===== -/
section MAK2
variable {T : Tab} {M : MData} {E : Env4} {G : GW} {xn : Nat → String} {k0 base : Nat} {d : Nat} {B : Nat × Nat} {mt pc : Nat} {ls st : List Value} {σ : Sto} {Q : Out → Sto → Prop}
/-- the class of an array by its name: the one that the tables hold -/
theorem va_same {D : va_G} {cl : List vw_C} {tys : List (ClassId × FieldType)} {U : State} {c1 c2 : ClassId} {ty : FieldType} {i : Nat} (h1 : va_K D cl (tys ++ [(c1, ty)]) U) (h2 : tys[i]? = some (c2, ty)) : c1 = c2 := by
  have a := (h1.2 tys.length (c1, ty) (by rw [List.getElem?_append_right (Nat.le_refl _)]; simp)).2
  have b := (h1.2 i (c2, ty) (by rw [List.getElem?_append_left (List.getElem?_eq_some_iff.mp h2).1]; exact h2)).2
  have key : ∀ {x : ClassId}, va_RA U x ty → U.vm.findClass ("[" ++ ty.toString) = some x := by
    intro x hx
    cases ty with
    | object C => obtain ⟨_, _, _, _, _, h⟩ := hx; exact h
    | _ => exact hx
  exact Option.some.inj ((key a).symm.trans (key b))
theorem x_newI {n : Int32} (hE : ∀ q ∈ E.2.2.2, q.2.2.2 < k0) (hd : decode (mC M mt) pc = .ok (.newarray .int, 2)) (hw : Cond.arrayClass .int ∈ AW) (hB : ¬ n < 0 ∧ n.toNatClampNeg ≤ 100000 ∧ 1 ≤ B.1 ∧ n.toNatClampNeg ≤ B.2)
    (h : X0 T M E G xn k0 base d (B.1 - 1, B.2 - n.toNatClampNeg) mt (pc + 2) ls (.ref (sN σ) :: st) (newO σ 14 n.toNatClampNeg) Q) : X0 T M E G xn k0 base d B mt pc ls (.int n :: st) σ Q := by
  intro p l e R s m args below meth c H locs cells slots lsM ad adB σB mc ms F hR hX hL hbl hbs hrm
  obtain ⟨r1, r2, r3, r4, r5, r6, r7⟩ := id hR
  obtain ⟨m1, m2, m3, m4, m5, m6⟩ := id hrm
  obtain ⟨b1, b2, b3, b4⟩ := hB
  refine va_newa (atype := .int) (ty := .int) (a0 := (n.toNatClampNeg, .inl (fun _ => 0))) F.1 F.2.1 (F.2.2.2.2.1 _ hw) rfl r1 r2 r3 r4 (fun q hq => Nat.le_trans r5 hq) (fun cA => rfl) b1 rfl (by show _ * 4 ≤ _; omega) (by omega) (by omega) hd (fun q cA H1 h0 h1 h2 h3 => ?_)
  have hc : cA = G.2.1 := va_same h0 gty_0
  subst hc
  have hce : ce G (up ad (sN σ) q) (newO σ 14 n.toNatClampNeg) (sN σ) = .inl (G.2.1, n.toNatClampNeg, .inl (fun _ => 0)) := by
    rw [ce_14 (show sK (newO σ 14 n.toNatClampNeg) (sN σ) = 14 from up_eq), show sZ (newO σ 14 n.toNatClampNeg) (sN σ) = n.toNatClampNeg from up_eq, show sI (newO σ 14 n.toNatClampNeg) (sN σ) = fun _ => 0 from up_eq]
  obtain ⟨hR', hx⟩ := Rel.add1 hE hR Add1.o (by omega) hce h1 h2 h3
  exact x_made F hX hL hbl hbs.tail ⟨m1, m2, by dsimp only; omega, by dsimp only; omega, by dsimp only; omega, by dsimp only; omega⟩ hR' hx (by rw [sN_newO]; omega) h
theorem x_newJ {n : Int32} (hE : ∀ q ∈ E.2.2.2, q.2.2.2 < k0) (hd : decode (mC M mt) pc = .ok (.newarray .long, 2)) (hw : Cond.arrayClass .long ∈ AW) (hB : ¬ n < 0 ∧ n.toNatClampNeg ≤ 100000 ∧ 1 ≤ B.1 ∧ n.toNatClampNeg ≤ B.2)
    (h : X0 T M E G xn k0 base d (B.1 - 1, B.2 - n.toNatClampNeg) mt (pc + 2) ls (.ref (sN σ) :: st) (newO σ 15 n.toNatClampNeg) Q) : X0 T M E G xn k0 base d B mt pc ls (.int n :: st) σ Q := by
  intro p l e R s m args below meth c H locs cells slots lsM ad adB σB mc ms F hR hX hL hbl hbs hrm
  obtain ⟨r1, r2, r3, r4, r5, r6, r7⟩ := id hR
  obtain ⟨m1, m2, m3, m4, m5, m6⟩ := id hrm
  obtain ⟨b1, b2, b3, b4⟩ := hB
  refine va_newa (atype := .long) (ty := .long) (a0 := (n.toNatClampNeg, .inr (.inl (fun _ => 0)))) F.1 F.2.1 (F.2.2.2.2.1 _ hw) rfl r1 r2 r3 r4 (fun q hq => Nat.le_trans r5 hq) (fun cA => rfl) b1 rfl (by show _ * 8 ≤ _; omega) (by omega) (by omega) hd (fun q cA H1 h0 h1 h2 h3 => ?_)
  have hc : cA = G.2.2.1 := va_same h0 gty_1
  subst hc
  have hce : ce G (up ad (sN σ) q) (newO σ 15 n.toNatClampNeg) (sN σ) = .inl (G.2.2.1, n.toNatClampNeg, .inr (.inl (fun _ => 0))) := by
    rw [ce_15 (show sK (newO σ 15 n.toNatClampNeg) (sN σ) = 15 from up_eq), show sZ (newO σ 15 n.toNatClampNeg) (sN σ) = n.toNatClampNeg from up_eq, show sL (newO σ 15 n.toNatClampNeg) (sN σ) = fun _ => 0 from up_eq]
  obtain ⟨hR', hx⟩ := Rel.add1 hE hR Add1.o (by omega) hce h1 h2 h3
  exact x_made F hX hL hbl hbs.tail ⟨m1, m2, by dsimp only; omega, by dsimp only; omega, by dsimp only; omega, by dsimp only; omega⟩ hR' hx (by rw [sN_newO]; omega) h
theorem x_newZ {n : Int32} (hE : ∀ q ∈ E.2.2.2, q.2.2.2 < k0) (hd : decode (mC M mt) pc = .ok (.newarray .boolean, 2)) (hw : Cond.arrayClass .boolean ∈ AW) (hB : ¬ n < 0 ∧ n.toNatClampNeg ≤ 100000 ∧ 1 ≤ B.1 ∧ n.toNatClampNeg ≤ B.2)
    (h : X0 T M E G xn k0 base d (B.1 - 1, B.2 - n.toNatClampNeg) mt (pc + 2) ls (.ref (sN σ) :: st) (newO σ 16 n.toNatClampNeg) Q) : X0 T M E G xn k0 base d B mt pc ls (.int n :: st) σ Q := by
  intro p l e R s m args below meth c H locs cells slots lsM ad adB σB mc ms F hR hX hL hbl hbs hrm
  obtain ⟨r1, r2, r3, r4, r5, r6, r7⟩ := id hR
  obtain ⟨m1, m2, m3, m4, m5, m6⟩ := id hrm
  obtain ⟨b1, b2, b3, b4⟩ := hB
  refine va_newa (atype := .boolean) (ty := .boolean) (a0 := (n.toNatClampNeg, .inl (fun _ => 0))) F.1 F.2.1 (F.2.2.2.2.1 _ hw) rfl r1 r2 r3 r4 (fun q hq => Nat.le_trans r5 hq) (fun cA => rfl) b1 rfl (by show _ * 1 ≤ _; omega) (by omega) (by omega) hd (fun q cA H1 h0 h1 h2 h3 => ?_)
  have hc : cA = G.2.2.2.1 := va_same h0 gty_2
  subst hc
  have hce : ce G (up ad (sN σ) q) (newO σ 16 n.toNatClampNeg) (sN σ) = .inl (G.2.2.2.1, n.toNatClampNeg, .inl (fun _ => 0)) := by
    rw [ce_16 (show sK (newO σ 16 n.toNatClampNeg) (sN σ) = 16 from up_eq), show sZ (newO σ 16 n.toNatClampNeg) (sN σ) = n.toNatClampNeg from up_eq, show sI (newO σ 16 n.toNatClampNeg) (sN σ) = fun _ => 0 from up_eq]
  obtain ⟨hR', hx⟩ := Rel.add1 hE hR Add1.o (by omega) hce h1 h2 h3
  exact x_made F hX hL hbl hbs.tail ⟨m1, m2, by dsimp only; omega, by dsimp only; omega, by dsimp only; omega, by dsimp only; omega⟩ hR' hx (by rw [sN_newO]; omega) h
theorem x_newR {n : Int32} {ix : Nat} (hE : ∀ q ∈ E.2.2.2, q.2.2.2 < k0) (hd : decode (mC M mt) pc = .ok (.anewarray ix, 3)) (hw : Cond.classLink (mY M mt).cls ix "GorgeDay$Rule" ∈ AW) (hB : ¬ n < 0 ∧ n.toNatClampNeg ≤ 100000 ∧ 1 ≤ B.1 ∧ n.toNatClampNeg ≤ B.2)
    (h : X0 T M E G xn k0 base d (B.1 - 1, B.2 - n.toNatClampNeg) mt (pc + 3) ls (.ref (sN σ) :: st) (newO σ 17 n.toNatClampNeg) Q) : X0 T M E G xn k0 base d B mt pc ls (.int n :: st) σ Q := by
  intro p l e R s m args below meth c H locs cells slots lsM ad adB σB mc ms F hR hX hL hbl hbs hrm
  obtain ⟨r1, r2, r3, r4, r5, r6, r7⟩ := id hR
  obtain ⟨m1, m2, m3, m4, m5, m6⟩ := id hrm
  obtain ⟨b1, b2, b3, b4⟩ := hB
  refine va_newq (C := "GorgeDay$Rule") F.1 F.2.1 F.2.2.2.1 (F.2.2.2.2.1 _ hw) r6.2.2.2.2.2.2.2.1 r1 r2 r3 r4 (fun q hq => Nat.le_trans r5 hq) b1 rfl (by omega) (by omega) (by omega) hd (fun q cA H1 h0 h1 h2 h3 => ?_)
  have hc : cA = G.2.2.2.2.1 := va_same h0 gty_3
  subst hc
  have hce : ce G (up ad (sN σ) q) (newO σ 17 n.toNatClampNeg) (sN σ) = .inl (G.2.2.2.2.1, n.toNatClampNeg, .inr (.inr (.inr (.inr (fun _ => none))))) := by
    rw [ce_17 (show sK (newO σ 17 n.toNatClampNeg) (sN σ) = 17 from up_eq), show sZ (newO σ 17 n.toNatClampNeg) (sN σ) = n.toNatClampNeg from up_eq, show sP (newO σ 17 n.toNatClampNeg) (sN σ) = fun _ => none from up_eq]
    rfl
  obtain ⟨hR', hx⟩ := Rel.add1 hE hR Add1.o (by omega) hce h1 h2 h3
  exact x_made F hX hL hbl hbs.tail ⟨m1, m2, by dsimp only; omega, by dsimp only; omega, by dsimp only; omega, by dsimp only; omega⟩ hR' hx (by rw [sN_newO]; omega) h
theorem x_copy {n dp sp : Int32} {a b ix : Nat} (hE : ∀ q ∈ E.2.2.2, q.2.2.2 < k0) (hd : decode (mC M mt) pc = .ok (.invokestatic ix, 3)) (hw : Cond.methodLink (mY M mt).cls ix arraycopyName ∈ AW ∧ Cond.native arraycopyName ∈ AW ∧ Cond.static arraycopyName ∈ AW ∧ Cond.initialized "java/lang/System" ∈ AW)
    (hi : sK σ a = 14 ∧ sK σ b = 14 ∧ ¬ sp < 0 ∧ ¬ dp < 0 ∧ ¬ n < 0 ∧ sp.toNatClampNeg + n.toNatClampNeg ≤ sZ σ b ∧ dp.toNatClampNeg + n.toNatClampNeg ≤ sZ σ a ∧ 2 ≤ d ∧ (st.map vcat).sum ≤ 8)
    (h : X0 T M E G xn k0 base d B mt (pc + 3) ls st (rowI σ a (va_cpy (sI σ b) (sI σ a) sp.toNatClampNeg dp.toNatClampNeg n.toNatClampNeg)) Q) : X0 T M E G xn k0 base d B mt pc ls (.int n :: .int dp :: .ref a :: .int sp :: .ref b :: st) σ Q := by
  intro p l e R s m args below meth c H locs cells slots lsM ad adB σB mc ms F hR hX hL hbl hbs hrm
  obtain ⟨r1, r2, r3, r4, r5, r6, r7⟩ := id hR
  obtain ⟨m1, m2, m3, m4, m5, m6⟩ := id hrm
  obtain ⟨ka, kb, i1, i2, i3, i4, i5, i6, i7⟩ := hi
  have oa := r7.new ka (by omega) (by omega)
  have ea := wl_get (G := G) (ad := ad) oa.1 oa.2
  rw [ce_14 ka] at ea
  have ob := r7.new kb (by omega) (by omega)
  have eb := wl_get (G := G) (ad := ad) ob.1 ob.2
  rw [ce_14 kb] at eb
  refine va_copyi (ty := .int) F.1 F.2.1 (F.2.2.1.trans hL.1.symm) F.2.2.2.1 (F.2.2.2.2.1 _ hw.1) (F.2.2.2.2.1 _ hw.2.1) (F.2.2.2.2.1 _ hw.2.2.1) (F.2.2.2.2.1 _ hw.2.2.2) r1 r2 r3 r4 (b - k0) (a - k0) 0 0 eb ea gty_0 gty_0 rfl i1 i2 i3 i4 i5 (fun _ _ => rfl) (by omega) ?_ hd (fun H1 locs1 h1 h2 h3 => ?_)
  · rw [tr_sum]
    have : nativeFrameWords "java/lang/System" "arraycopy" 5 + 11 ≤ 100 := by decide
    omega
  · obtain ⟨hR', hx⟩ := Rel.at1 hE hR (At1.r (f := va_cpy (sI σ b) (sI σ a) sp.toNatClampNeg dp.toNatClampNeg n.toNatClampNeg)) oa.1 (fun j q hq => r7.2.2.2.2 _ _ _ hq) (by rw [ce_14 (show sK (rowI σ a (va_cpy (sI σ b) (sI σ a) sp.toNatClampNeg dp.toNatClampNeg n.toNatClampNeg)) a = 14 from ka), show sI (rowI σ a (va_cpy (sI σ b) (sI σ a) sp.toNatClampNeg dp.toNatClampNeg n.toNatClampNeg)) a = _ from up_eq]; rfl) h1 h2 h3
    exact h p l e R s m args below meth c H1 locs1 cells slots lsM ad adB σB mc ms F hR' (hX.trans hx) hL hbl hbs.tail.tail.tail.tail.tail hrm
theorem x_oini {ix o : Nat} (hd : decode (mC M mt) pc = .ok (.invokespecial ix, 3)) (hw : Cond.methodLink (mY M mt).cls ix objectInit ∈ AW ∧ Cond.instanceMethod objectInit ∈ AW ∧ Cond.code objectInit ⟨#[0xb1]⟩ 1 none ∈ AW) (hi : 2 ≤ d ∧ (st.map vcat).sum ≤ 8)
    (h : X0 T M E G xn k0 base d B mt (pc + 3) ls st σ Q) : X0 T M E G xn k0 base d B mt pc ls (.ref o :: st) σ Q := by
  intro p l e R s m args below meth c H locs cells slots lsM ad adB σB mc ms F hR hX hL hbl hbs hrm
  obtain ⟨m1, m2, m3, m4, m5, m6⟩ := id hrm
  refine W.objInit F.1 F.2.1 F.2.2.2.1 (F.2.2.2.2.1 _ hw.1) (F.2.2.2.2.1 _ hw.2.1) (F.2.2.2.2.1 _ hw.2.2) rfl (by rw [F.2.2.1]; exact hL.1) rfl hd (by omega) ?_ ?_
  · show 2 * 0 + ((st.map (tr ad)).map fun v => v.category).sum + 12 ≤ _
    rw [tr_sum]
    omega
  · exact h p l e R s m args below meth c H locs cells slots lsM ad adB σB mc ms F hR hX hL hbl hbs.tail hrm
theorem x_cast {ix a : Nat} (hd : decode (mC M mt) pc = .ok (.checkcast ix, 3)) (hw : Cond.classLink (mY M mt).cls ix "[I" ∈ AW) (hi : sK σ a = 14) (h : X0 T M E G xn k0 base d B mt (pc + 3) ls (.ref a :: st) σ Q) : X0 T M E G xn k0 base d B mt pc ls (.ref a :: st) σ Q := by
  intro p l e R s m args below meth c H locs cells slots lsM ad adB σB mc ms F hR hX hL hbl hbs hrm
  obtain ⟨r1, r2, r3, r4, r5, r6, r7⟩ := id hR
  have oa := r7.new hi (by omega) (by omega)
  have ea := wl_get (G := G) (ad := ad) oa.1 oa.2
  rw [ce_14 hi] at ea
  refine va_castA (nm := "[I") F.1 F.2.1 F.2.2.2.1 (F.2.2.2.2.1 _ hw) r2 (a - k0) ea (r1.2 0 _ gty_0).2 hd ?_
  exact h p l e R s m args below meth c H locs cells slots lsM ad adB σB mc ms F hR hX hL hbl hbs hrm
theorem x_clone {ix a : Nat} (hE : ∀ q ∈ E.2.2.2, q.2.2.2 < k0) (hd : decode (mC M mt) pc = .ok (.invokevirtual ix, 3)) (hw : Cond.methodLink (mY M mt).cls ix ⟨"[I", "clone", "()Ljava/lang/Object;"⟩ ∈ AW ∧ Cond.sameMethod "[I" "java/lang/Object" "clone" "()Ljava/lang/Object;" ∈ AW ∧ Cond.native ⟨"java/lang/Object", "clone", "()Ljava/lang/Object;"⟩ ∈ AW ∧ Cond.instanceMethod ⟨"java/lang/Object", "clone", "()Ljava/lang/Object;"⟩ ∈ AW ∧ Cond.selects "[I" ⟨"[I", "clone", "()Ljava/lang/Object;"⟩ ⟨"java/lang/Object", "clone", "()Ljava/lang/Object;"⟩ ∈ AW) (hcl : ("[I", "java/lang/Cloneable") ∈ E.2.1)
    (hi : sK σ a = 14 ∧ 1 ≤ B.1 ∧ sZ σ a ≤ B.2 ∧ 2 ≤ d ∧ (st.map vcat).sum ≤ 8) (h : X0 T M E G xn k0 base d (B.1 - 1, B.2 - sZ σ a) mt (pc + 3) ls (.ref (sN σ) :: st) (rowI (newO σ 14 (sZ σ a)) (sN σ) (sI σ a)) Q) : X0 T M E G xn k0 base d B mt pc ls (.ref a :: st) σ Q := by
  intro p l e R s m args below meth c H locs cells slots lsM ad adB σB mc ms F hR hX hL hbl hbs hrm
  obtain ⟨r1, r2, r3, r4, r5, r6, r7⟩ := id hR
  obtain ⟨m1, m2, m3, m4, m5, m6⟩ := id hrm
  obtain ⟨ka, i1, i2, i3, i4⟩ := hi
  have oa := r7.new ka (by omega) (by omega)
  have ea := wl_get (G := G) (ad := ad) oa.1 oa.2
  rw [ce_14 ka] at ea
  refine va_clone (ad := "[I") (ty := .int) F.1 F.2.1 (F.2.2.1.trans hL.1.symm) F.2.2.2.1 (F.2.2.2.2.1 _ hw.1) (F.2.2.2.2.1 _ hw.2.1) (F.2.2.2.2.1 _ hw.2.2.1) (F.2.2.2.2.1 _ hw.2.2.2.1) (F.2.2.2.2.1 _ hw.2.2.2.2) (r6.2.2.2.2.2.2.2.2.2.2.1.1 _ hcl) r1 r2 r3 r4 (fun q hq => Nat.le_trans r5 hq) (a - k0) 0 ea gty_0 (r1.2 0 _ gty_0).2 ?_ (by omega) (by rw [tr_sum]; omega) (by omega) (by dsimp only; omega) hd (fun q H1 h0 h1 h2 h3 => ?_)
  · intro i v hv
    rw [vp_cell_i] at hv
    have hlt : i < sZ σ a := by
      have := (Array.getElem?_eq_some_iff.mp hv).1
      rwa [arrV_size] at this
    rw [arrV_read _ _ hlt] at hv
    cases hv
    rfl
  · have hce : ce G (up ad (sN σ) q) (rowI (newO σ 14 (sZ σ a)) (sN σ) (sI σ a)) (sN σ) = .inl (G.2.1, sZ σ a, .inl (sI σ a)) := by
      rw [ce_14 (show sK (rowI (newO σ 14 (sZ σ a)) (sN σ) (sI σ a)) (sN σ) = 14 from up_eq), show sZ (rowI (newO σ 14 (sZ σ a)) (sN σ) (sI σ a)) (sN σ) = sZ σ a from up_eq, show sI (rowI (newO σ 14 (sZ σ a)) (sN σ) (sI σ a)) (sN σ) = sI σ a from up_eq]
    obtain ⟨hR', hx⟩ := Rel.add1 hE hR Add1.c (by omega) hce h1 h2 h3
    exact x_made F hX hL hbl hbs.tail ⟨m1, m2, by dsimp only; omega, by dsimp only; omega, by dsimp only; omega, by dsimp only; omega⟩ hR' hx (show sN σ < sN σ + 1 by omega) h
end MAK2
