/-! ===== the law's walk out of our run ===== -/
theorem AW_tbl : ∀ w ∈ AW, w ∈ lw_tbl := fun _ h => (List.mem_filter.mp h).1
theorem tbl_1 : ∀ w ∈ tables_1, w ∈ lw_tbl := fun _ h => List.mem_append_right _ h
theorem σ0_K {L : Nat} {xs : Nat → Int32} {fm : Option Nat} (o : Nat) : sK (σ0 L xs fm) o = if o = 0 then 21 else if o = 1 then 22 else if o < 96 then (if o % 2 = 0 then 19 else 20) else 0 := rfl
theorem σ0_19 {L : Nat} {xs : Nat → Int32} {fm : Option Nat} {o : Nat} (h : sK (σ0 L xs fm) o = 19) : ∃ i, i < 47 ∧ o = 2 + 2 * i := by
  rw [σ0_K] at h
  split at h
  · omega
  · split at h
    · omega
    · split at h
      · split at h
        · exact ⟨(o - 2) / 2, by omega, by omega⟩
        · omega
      · omega
theorem σ0_20 {L : Nat} {xs : Nat → Int32} {fm : Option Nat} {o : Nat} (h : sK (σ0 L xs fm) o = 20) : ∃ i, i < 47 ∧ o = 3 + 2 * i := by
  rw [σ0_K] at h
  split at h
  · omega
  · split at h
    · omega
    · split at h
      · split at h
        · omega
        · exact ⟨(o - 3) / 2, by omega, by omega⟩
      · omega
theorem σ0_21 {L : Nat} {xs : Nat → Int32} {fm : Option Nat} {o : Nat} (h : sK (σ0 L xs fm) o = 21) : o = 0 := by
  rw [σ0_K] at h
  split at h
  · assumption
  · split at h
    · omega
    · split at h
      · split at h <;> omega
      · omega
theorem begin_of {s : State} {b L : Nat} {xs : Nat → Int32} (hts : ∀ w ∈ lw_tbl, w.before #[Value.ref b] s = true) (hX : va_X b L xs s s.heap) (hbl : b < s.heap.size) (hgv : (Jvm.Cond.and given_1 narrow_1).before #[Value.ref b] s = true) :
    ∃ (G : GW) (ad : Nat → Nat) (fm : Option Nat), (fm = none ∨ fm = some 1) ∧ ad 0 = b ∧ Rel gE G gk0 s.heap.size ad (σ0 L xs fm) s s.heap [] := by
  have hA : ∀ a : Nat, a < s.heap.size → ¬ ab s.heap.size a := fun a h => Nat.not_le.mpr h
  have hgv : TN.before #[Value.ref b] s = true := hgv
  have ht : ∀ w ∈ tables_1, w.before #[Value.ref b] s = true := fun w h => hts w (tbl_1 w h)
  -- the classes
  have h0 : ∀ k : Nat, ∃ z : ClassId × (Nat → Nat), ∀ q : vw_C, vwCl[k]? = some q → u_Kn s q.1 q.2.1 q.2.2 z.1 z.2 := by
    intro k
    cases hk : vwCl[k]? with
    | none => exact ⟨(0, fun _ => 0), fun q hq => by cases hq⟩
    | some q =>
      obtain ⟨C, Tt, N⟩ := q
      obtain ⟨-, -, -, c4, -, -, -, c8, -⟩ := vcs k C Tt N hk
      obtain ⟨c, iS, h⟩ := u_known (C := C) (T := Tt) (N := N) (n := N) hts (fun w hw => AW_tbl w (c4 w hw)) (hts _ (AW_tbl _ c8))
      exact ⟨(c, iS), fun q hq => by cases hq; exact h⟩
  obtain ⟨dz, hdz⟩ := Classical.axiomOfChoice h0
  -- the arrays
  obtain ⟨a1, a2, a3, a4, a5⟩ := tb_ao
  obtain ⟨cI, kI', coI, i1, i2, i3⟩ := Cond.arrayClass_spec (ht _ a3)
  obtain ⟨cJ, kJ', coJ, j1, j2, j3⟩ := Cond.arrayClass_spec (ht _ a4)
  obtain ⟨cZ, kZ', coZ, z1, z2, z3⟩ := Cond.arrayClass_spec (ht _ a5)
  obtain ⟨coR, cR, kR', r1, -, r3, r4, r5⟩ := Cond.arrayOver_spec (ht _ a1)
  obtain ⟨coG, cG, kG', g1, -, g3, g4, g5⟩ := aoa_spec (ht _ a2)
  have hK : va_K (fun k => (dz k).1, fun k => (dz k).2) vwCl (gty ((fun k => (dz k).1, fun k => (dz k).2), cI, cJ, cZ, cR, cG)) s := by
    refine ⟨fun k q hq => hdz k q hq, fun k q hq => ?_⟩
    match k, hq with
    | 0, hq => cases hq; exact ⟨fun N z => ⟨(fun k h => by cases h), kI', i2, coI, i3⟩, i1⟩
    | 1, hq => cases hq; exact ⟨fun N z => ⟨(fun k h => by cases h), kJ', j2, coJ, j3⟩, j1⟩
    | 2, hq => cases hq; exact ⟨fun N z => ⟨(fun k h => by cases h), kZ', z2, coZ, z3⟩, z1⟩
    | 3, hq => cases hq; exact ⟨fun N z => ⟨(fun k h => by cases h), kR', r3, coR, r4⟩, kR', coR, r3, r4, r1, r5⟩
    | 4, hq => cases hq; exact ⟨fun N z => ⟨(fun k h => by cases h), kG', g3, coG, g4⟩, g5⟩
    | k + 5, hq => cases hq
  -- the texts
  have h1 : ∀ i : Nat, ∃ q : Nat × Nat, i < 47 → (stm i).eval #[Value.ref b] s none [] s = some (.ref q.1) ∧ va_O "java/lang/String" q.1 (ab s.heap.size) s s.heap ∧ va_OF "java/lang/String" "coder" "B" (.int 0) q.1 (ab s.heap.size) s s.heap ∧ va_OF "java/lang/String" "value" "[B" (.ref q.2) q.1 (ab s.heap.size) s s.heap ∧ va_T .byte q.2 (strB.getD i []).length (fun j => .int ((strB.getD i []).getD j 0)) (ab s.heap.size) s s.heap := by
    intro i
    by_cases hi : i < 47
    · obtain ⟨a, c, cA, kA, q1, q2, q3, q4, q5, q6, -⟩ := Cond.exactly_spec (args := #[Value.ref b]) (first := s) (o := none) (s := s) (idx := []) (t := stm i) (cls := "java/lang/String") (tn_ok hgv (nc_ex i hi))
      have hlen : (strB.getD i []).length < 2 ^ 31 := by
        have : ∀ i, i < 47 → (strB.getD i []).length < 100 := by decide +kernel
        have := this i hi
        omega
      obtain ⟨t, ht9, hT⟩ := va_Tof (f := fun j => .int ((strB.getD i []).getD j 0)) (A := ab s.heap.size) hlen (tn_ok hgv (nc_ar i hi)) (va_eqt (tn_ok hgv (nc_le i hi))) (fun j hj => va_eqt (tn_ok hgv (nc_el i hi j hj))) hA
      exact ⟨(a, t), fun _ => ⟨q1, ⟨cA, q3, q5, by rw [q6]; exact q2, hA a (Array.getElem?_eq_some_iff.mp q3).1⟩, vk_OFof q1 (va_eqt (tn_ok hgv (nc_co i hi))) hA, vk_OFof q1 ht9 hA, hT⟩⟩
    · exact ⟨(0, 0), fun h => absurd h hi⟩
  obtain ⟨adS, hadS⟩ := Classical.axiomOfChoice h1
  -- the statics
  have hls := tb_ls
  have hl1 := hls ("java/lang/String", "COMPACT_STRINGS", "Z") (by simp)
  have hl2 := hls ("jdk/internal/util/Preconditions", "SIOOBE_FORMATTER", "Ljava/util/function/BiFunction;") (by simp)
  have hl3 := hls (Bundle.tN, "UNASSIGNED_STACK", Bundle.steD) (by simp)
  have hl4 := hls (Bundle.tN, "SUPPRESSED_SENTINEL", Bundle.listD) (by simp)
  have hcs : va_Z "java/lang/String" "COMPACT_STRINGS" "Z" (.int 1) (ab s.heap.size) s s.heap := va_Zof (ht _ hl1.1) (ht _ hl1.2) (va_eqt (tn_ok hgv nc_cs)) hA
  have hsf := va_Zqof (A := ab s.heap.size) (ht _ hl2.1) (ht _ hl2.2) (tn_ok hgv nc_sf) hA
  have hus : vx_Zq Bundle.tN "UNASSIGNED_STACK" Bundle.steD (ab s.heap.size) s s.heap := vx_Zqof (ht _ hl3.1) (ht _ hl3.2) (tn_ok hgv nc_us) hA
  have hss : vx_Zq Bundle.tN "SUPPRESSED_SENTINEL" Bundle.listD (ab s.heap.size) s s.heap := vx_Zqof (ht _ hl4.1) (ht _ hl4.2) (tn_ok hgv nc_ss) hA
  obtain ⟨fm, ft, hfm, hfz⟩ : ∃ (fm : Option Nat) (ft : Nat), (fm = none ∨ fm = some 1) ∧ va_Z "jdk/internal/util/Preconditions" "SIOOBE_FORMATTER" "Ljava/util/function/BiFunction;" (va_rf (fm.map fun _ => ft)) (ab s.heap.size) s s.heap := by
    rcases hsf with h | ⟨t, h⟩
    · exact ⟨none, 0, Or.inl rfl, h⟩
    · exact ⟨some 1, t, Or.inr rfl, h⟩
  refine ⟨((fun k => (dz k).1, fun k => (dz k).2), cI, cJ, cZ, cR, cG), fun k => if k = 0 then b else if k = 1 then ft else if k % 2 = 0 then (adS ((k - 2) / 2)).1 else (adS ((k - 3) / 2)).2, fm, hfm, rfl, ?_⟩
  have hadK : ∀ i, (fun k => if k = 0 then b else if k = 1 then ft else if k % 2 = 0 then (adS ((k - 2) / 2)).1 else (adS ((k - 3) / 2)).2) (2 + 2 * i) = (adS i).1 := by
    intro i
    dsimp only
    rw [if_neg (by omega), if_neg (by omega), if_pos (by omega), show (2 + 2 * i - 2) / 2 = i by omega]
  have hadV : ∀ i, (fun k => if k = 0 then b else if k = 1 then ft else if k % 2 = 0 then (adS ((k - 2) / 2)).1 else (adS ((k - 3) / 2)).2) (3 + 2 * i) = (adS i).2 := by
    intro i
    dsimp only
    rw [if_neg (by omega), if_neg (by omega), if_neg (by omega), show (3 + 2 * i - 3) / 2 = i by omega]
  have had1 : (fun k => if k = 0 then b else if k = 1 then ft else if k % 2 = 0 then (adS ((k - 2) / 2)).1 else (adS ((k - 3) / 2)).2) 1 = ft := rfl
  have had0 : (fun k => if k = 0 then b else if k = 1 then ft else if k % 2 = 0 then (adS ((k - 2) / 2)).1 else (adS ((k - 3) / 2)).2) 0 = b := rfl
  generalize (fun k => if k = 0 then b else if k = 1 then ft else if k % 2 = 0 then (adS ((k - 2) / 2)).1 else (adS ((k - 3) / 2)).2) = ad at hadK hadV had1 had0 ⊢
  have hw0 : wl ((fun k => (dz k).1, fun k => (dz k).2), cI, cJ, cZ, cR, cG) gk0 ad (σ0 L xs fm) = [] := rfl
  refine ⟨hK, by rw [hw0]; exact fun k q h => by simp at h, by rw [hw0]; exact ⟨fun i j p q h => by simp at h, fun k q h => by simp at h⟩, va_S.rf, Nat.le_refl _, ⟨?_, ?_, ?_, ?_, hcs, hus, hss, va_AO.of (ht _ a1), ?_, ?_, ⟨?_, ?_⟩, ?_, ?_⟩, σ0_sh hfm⟩
  · intro o ho hk
    obtain ⟨i, hi, rfl⟩ := σ0_19 hk
    obtain ⟨-, f1, f2, f3, -⟩ := hadS i hi
    have e1 : sI (σ0 L xs fm) (2 + 2 * i) 1 = 0 := by
      show (if 2 + 2 * i = 0 then xs 1 else if 2 + 2 * i < 96 ∧ 3 ≤ 2 + 2 * i ∧ (2 + 2 * i) % 2 = 1 then _ else 0) = 0
      rw [if_neg (by omega), if_neg (by omega)]
    have e2 : sP (σ0 L xs fm) (2 + 2 * i) 0 = some (3 + 2 * i) := by
      show (if 2 + 2 * i = 0 then _ else if 2 + 2 * i < 96 ∧ 2 ≤ 2 + 2 * i ∧ (2 + 2 * i) % 2 = 0 ∧ 0 = 0 then some (2 + 2 * i + 1) else none) = _
      rw [if_neg (by omega), if_pos (by omega)]
      exact congrArg some (by omega)
    rw [hadK i, e1, e2]
    refine ⟨f1, f2, ?_⟩
    show va_OF _ _ _ (.ref (ad (3 + 2 * i))) _ _ _ _
    rw [hadV i]
    exact f3
  · intro o ho hk
    obtain ⟨i, hi, rfl⟩ := σ0_20 hk
    obtain ⟨-, -, -, -, f4⟩ := hadS i hi
    have e1 : sZ (σ0 L xs fm) (3 + 2 * i) = (strB.getD i []).length := by
      show (if 3 + 2 * i = 0 then L else if 3 + 2 * i < 96 ∧ 3 ≤ 3 + 2 * i ∧ (3 + 2 * i) % 2 = 1 then (strB.getD ((3 + 2 * i - 3) / 2) []).length else 0) = _
      rw [if_neg (by omega), if_pos (by omega), show (3 + 2 * i - 3) / 2 = i by omega]
    have e2 : ∀ j, sI (σ0 L xs fm) (3 + 2 * i) j = (strB.getD i []).getD j 0 := by
      intro j
      show (if 3 + 2 * i = 0 then xs j else if 3 + 2 * i < 96 ∧ 3 ≤ 3 + 2 * i ∧ (3 + 2 * i) % 2 = 1 then (strB.getD ((3 + 2 * i - 3) / 2) []).getD j 0 else 0) = _
      rw [if_neg (by omega), if_pos (by omega), show (3 + 2 * i - 3) / 2 = i by omega]
    rw [hadV i, e1]
    have e3 : (fun j => Value.int (sI (σ0 L xs fm) (3 + 2 * i) j)) = fun j => .int ((strB.getD i []).getD j 0) := funext fun j => by rw [e2]
    rw [e3]
    exact f4
  · intro o ho hk
    have e := σ0_21 hk
    subst e
    rw [had0]
    exact ⟨hX, hbl⟩
  · have e : (sP (σ0 L xs fm) 0 0).map ad = fm.map fun _ => ft := by
      show fm.map ad = _
      rcases hfm with e | e
      · rw [e]; rfl
      · rw [e]; exact congrArg some had1
    rw [e]
    exact hfz
  · intro a
    exact ht _ a2
  · exact fun q hq => va_Nw.of rfl (ht _ (tb_ne q hq))
  · exact fun q hq => va_Nw.of rfl (ht _ (tb_ca q hq))
  · exact fun q hq => va_Nw.of rfl (ht _ (tb_de q hq))
  · intro q hq
    obtain ⟨i, -, e⟩ := nc_nc q hq
    exact va_Nc.of (tn_ok hgv e)
  · intro q hq
    obtain ⟨i, hi, rfl⟩ := st_in q hq
    dsimp only
    rw [hadK i]
    exact vk_R.of (ht _ (tb_st i hi)) (hadS i hi).1
/-- what our run of the law must show -/
def LawRuns : Prop := ∀ (L : Nat) (xs : Nat → Int32) (fm : Option Nat), L ≤ 3584 → (fm = none ∨ fm = some 1) → WP gT 100 (601024, 7293033) 307 0 [.ref 0, .retAddr 0, .retAddr 0, .retAddr 0, .retAddr 0, .retAddr 0, .retAddr 0, .retAddr 0] [] (σ0 L xs fm) (fun o _ => o = .inl (some (.int 1)))
def R_law : String := "GorgeDayLaw"
def lw_P (b : Addr) (xs : List Int32) (args : Array Value) (s : State) : Prop := args = #[.ref b] ∧ s.IntsAt b xs ∧ xs.length ≤ 3584 ∧ (Jvm.Cond.and given_1 narrow_1).before args s = true
def lw_Q (_ : Array Value) (s : State) (o : Outcome) (t : State) : Prop := o = .returned (some (.int 1)) ∧ Framed s o t [] 601024 7293033
def lw_Z (below : List Frame) (a : Array Value) (s : State) : State → Prop := fun t => ∃ o, t.status = .running ∧ Ended t below o ∧ lw_Q a s o t
/-- what holds at the law's entry -/
def lw_At (p : Program) (s : State) (m : MethodId) (meth : Method) (c : Code) (b L : Nat) (xs : Nat → Int32) : Prop :=
  p.tables.exec = Jvm.exec ∧ c.code = code ∧ meth.sig.returnType = ret ∧ c.maxLocals = 8 ∧ s.vm.findClass R_law = some m.cls ∧ (∀ w ∈ lw_tbl, w.before #[Value.ref b] s = true) ∧ va_X b L xs s s.heap ∧ b < s.heap.size ∧ meth.locks = false ∧ (Jvm.Cond.and given_1 narrow_1).before #[Value.ref b] s = true ∧ c.exceptionTable.toList = [] ∧ meth.name = "law"
theorem no_traces {l : Launch} (h : l.flags = flags0) : l.stackTraces = false := by
  unfold Launch.stackTraces
  rw [h]
  decide +kernel
theorem whole_start (hrun : LawRuns) {p : Program} {e : Env} {s : State} {m : MethodId} {below : List Frame} {meth : Method} {c : Code} (l : Launch) (hflags : l.flags = flags0) {b L : Nat} {xs : Nat → Int32} (hL : L ≤ 3584) (C0 : lw_At p s m meth c b L xs) : W p l e room_1 s m #[Value.ref b] below meth c s.heap [] 0 0 (lw_Z below #[Value.ref b] s) (entryFrame m ([Value.ref b] : List Value).toArray 8) := by
  obtain ⟨hx, hb, hr, hml, hown, hts, hX, hbl, hlocks, hgv, htab, hname⟩ := C0
  obtain ⟨G, ad, fm, hfm, had0, hR⟩ := begin_of hts hX hbl hgv
  have hw := x_sound (G := G) (base := s.heap.size) vt_all (hrun L xs fm hL hfm)
  rw [lg_entry_eq]
  have hLV := LV.entry ad (vs := [.ref 0]) (n := 8) (fun v hv => by rw [List.mem_singleton.mp hv]; exact trivial) (by decide)
  have hb0 : (0 : Nat) < sN (σ0 L xs fm) := by show 0 < 96; omega
  have hrun2 := hw p l e room_1 s m #[Value.ref b] below meth c s.heap [] 0 0 _ ad ad (σ0 L xs fm) 601024 7293033 ⟨hx, hb, hml, hown, fun w h => hts w (AW_tbl w h), hlocks, hr, htab, hname, no_traces hflags⟩ hR Ext.rf hLV (fun v hv => by
    simp only [List.mem_cons, List.not_mem_nil, or_false] at hv
    rcases hv with q | q | q | q | q | q | q | q <;> rw [q] <;> first | exact hb0 | exact trivial) (fun v hv => by cases hv) ⟨by show 100 ≤ 2048; omega, by show 100 * 64 + 64 ≤ 84000; omega, by show 0 + 601024 ≤ 601024; omega, by show 0 + 7293033 ≤ 7293033; omega, by show 0 + 601024 ≤ 601024; omega, by show 0 + 7293033 ≤ 7293033; omega⟩
  have e0 : ([Value.ref 0] : List Value).map (tr ad) = [Value.ref b] := by rw [List.map_cons, tr_ref, had0]; rfl
  rw [e0] at hrun2
  intro T hT X
  obtain ⟨t, h1, o, h2, h3, h4⟩ := hrun2 T hT X
  refine ⟨t, h1, o, h2, h3, ?_⟩
  rcases h4 with ⟨⟨⟨v, ad', σ', q1, q2, -⟩, -⟩, Lc, ⟨f1, f2, f3⟩, f4⟩ | ⟨q, q1, E9, ce, Lc, ⟨⟨ex, ad', σ', z1, z2, z3⟩, z4⟩, z5⟩
  · cases q2
    subst q1
    exact ⟨rfl, f1, f2, State.sameButNew.drop_fresh (L := []) f3 (fun x hx => f4 x hx)⟩
  · cases z2
