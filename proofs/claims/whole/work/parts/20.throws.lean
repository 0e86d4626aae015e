/-! ===== rows of rows; exceptions that are thrown ===== -/
abbrev xsup : List String := ["java/lang/RuntimeException", "java/lang/Exception"]
/-- what is checked of a throw: its links, its words -/
def VX (M : MData) (E : Env4) (k0 mt ik ix ic : Nat) (cls tx : String) (q : Nat) : Prop :=
  Bundle.fit cls = true ∧ (∀ n ∈ xsup, Bundle.fit n = true) ∧ Cond.classLink (mY M mt).cls ik cls ∈ AW ∧ Cond.initialized cls ∈ AW ∧ ((mY M mt).cls, ix, tx, q) ∈ E.2.2.2 ∧ (∀ w ∈ (vx_atS (mY M mt).cls ic cls xsup).filter goodWord, w ∈ AW) ∧
  (∀ w ∈ (vx_atS (mY M mt).cls ic cls xsup).filter (fun w => !goodWord w), w ∈ Cond.castable cls cls :: dclN.map .declares) ∧ (cls, cls) ∈ E.2.1 ∧ (∀ w ∈ Cond.classLink (mY M mt).cls ik cls :: Cond.initialized cls :: vx_atS (mY M mt).cls ic cls xsup, vx_ot w = true) ∧ mH M mt = []
section THR
variable {T : Tab} {M : MData} {E : Env4} {G : GW} {xn : Nat → String} {k0 base : Nat} {d : Nat} {B : Nat × Nat} {mt pc : Nat} {ls st : List Value} {σ : Sto} {Q : Out → Sto → Prop}
theorem x_thr_post {s : State} {H : Heap} {locs : List Loc} {ad adB : Nat → Nat} {σB : Sto} {ex : Nat} (hR : Rel E G k0 base ad σ s H locs) (hX : Ext k0 adB σB ad σ) (hQ : Q (.inr ex) σ) : ∀ t : State, s.vm.Alike t.vm → H.size ≤ t.heap.size → (∀ q : Nat, q < H.size → t.heap[q]? = H[q]?) → PX xn G k0 base adB σB Q (xn ex) s t := by
  intro t _ hz hq
  obtain ⟨r1, r2, r3, r4, r5, r6, r7⟩ := hR
  refine ⟨⟨ex, ad, σ, rfl, hQ, hX, r2.kept (fun k x hx => hq _ (r2 k x hx).lt), r3, r7⟩, Nat.le_trans r4.1 hz, fun q h1 h2 => ?_⟩
  rw [hq q (Nat.lt_of_lt_of_le h1 r4.1)]
  exact r4.2.1 q h1 h2
theorem x_thr_words {s : State} {args : Array Value} {x : String} (h : (∀ q ∈ E.2.1, va_Nw (.castable q.1 q.2) s) ∧ ∀ y ∈ dclN, va_Nw (.declares y) s) (hx : (x, x) ∈ E.2.1) : ∀ w ∈ Cond.castable x x :: dclN.map .declares, w.before args s = true := by
  intro w hw
  rcases List.mem_cons.mp hw with q | q
  · rw [q]; exact va_Nw.use rfl (h.1 _ hx)
  · obtain ⟨y, hy, e⟩ := List.mem_map.mp q
    rw [← e]
    exact va_Nw.use rfl (h.2 y hy)
theorem x_throw {ik ix ic ex q : Nat} {tx : String} (hv : VX M E k0 mt ik ix ic (xn ex) tx q) (d0 : decode (mC M mt) pc = .ok (.new ik, 3)) (d3 : decode (mC M mt) (pc + 3) = .ok (.dup, 1)) (d4 : decode (mC M mt) (pc + 4) = .ok (.ldc ix, 2)) (d6 : decode (mC M mt) (pc + 6) = .ok (.invokespecial ic, 3)) (d9 : decode (mC M mt) (pc + 9) = .ok (.athrow, 1))
    (hB : 1 ≤ B.1 ∧ 6 ≤ B.2 ∧ 16 ≤ d ∧ (st.map vcat).sum ≤ 8) (hQ : Q (.inr ex) σ) : X0 T M E G xn k0 base d B mt pc ls st σ Q := by
  intro p l e R s m args below meth c H locs cells slots lsM ad adB σB mc ms F hR hX hL hbl hbs hrm
  obtain ⟨r1, r2, r3, r4, r5, r6, r7⟩ := id hR
  obtain ⟨m1, m2, m3, m4, m5, m6⟩ := id hrm
  obtain ⟨v1, v2, v3, v4, v5, v6, v7, v8, v9, v10⟩ := hv
  refine vx_throwS (cls := xn ex) (text := tx) (names := xsup) (sa := ad q) (A := ab base) F.1 F.2.1 F.2.2.2.2.2.2.2.2.2 F.2.2.2.1 v1 v2 (F.2.2.2.2.1 _ v3) (F.2.2.2.2.1 _ v4) (r6.2.2.2.2.2.2.2.2.2.2.2.2 _ v5) (vx_hat (B := Cond.castable (xn ex) (xn ex) :: dclN.map .declares) (fun w hw => F.2.2.2.2.1 _ (v6 w hw)) v7 (x_thr_words r6.2.2.2.2.2.2.2.2.2.2.1 v8)) v9 r6.2.2.2.2.2.1 r6.2.2.2.2.2.2.1 r4 (hL.1.trans F.2.2.1.symm) d0 d3 d4 d6 d9 ?_ (by show 2 + 3 < _; omega) ?_ (by omega) (by omega) F.2.2.2.2.2.1 (x_thr_post hR hX hQ) r4.2.2 (by omega) (by omega)
  · rw [F.2.2.2.2.2.2.2.1, v10]
    intro x hx
    exact absurd hx List.not_mem_nil
  · rw [tr_sum]
    show _ + (13 * 3 + 43) ≤ _
    omega
theorem x_throwW {ik ix ic ex q : Nat} {tx : String} (hv : VX M E k0 mt ik ix ic (xn ex) tx q) (d0 : decode (mC M mt) pc = .ok (.new ik, 3)) (d3 : decode (mC M mt) (pc + 3) = .ok (.dup, 1)) (d4 : decode (mC M mt) (pc + 4) = .ok (.ldc_w ix, 3)) (d6 : decode (mC M mt) (pc + 7) = .ok (.invokespecial ic, 3)) (d9 : decode (mC M mt) (pc + 10) = .ok (.athrow, 1))
    (hB : 1 ≤ B.1 ∧ 6 ≤ B.2 ∧ 16 ≤ d ∧ (st.map vcat).sum ≤ 8) (hQ : Q (.inr ex) σ) : X0 T M E G xn k0 base d B mt pc ls st σ Q := by
  intro p l e R s m args below meth c H locs cells slots lsM ad adB σB mc ms F hR hX hL hbl hbs hrm
  obtain ⟨r1, r2, r3, r4, r5, r6, r7⟩ := id hR
  obtain ⟨m1, m2, m3, m4, m5, m6⟩ := id hrm
  obtain ⟨v1, v2, v3, v4, v5, v6, v7, v8, v9, v10⟩ := hv
  refine vx_throwSW (cls := xn ex) (text := tx) (names := xsup) (sa := ad q) (A := ab base) F.1 F.2.1 F.2.2.2.2.2.2.2.2.2 F.2.2.2.1 v1 v2 (F.2.2.2.2.1 _ v3) (F.2.2.2.2.1 _ v4) (r6.2.2.2.2.2.2.2.2.2.2.2.2 _ v5) (vx_hat (B := Cond.castable (xn ex) (xn ex) :: dclN.map .declares) (fun w hw => F.2.2.2.2.1 _ (v6 w hw)) v7 (x_thr_words r6.2.2.2.2.2.2.2.2.2.2.1 v8)) v9 r6.2.2.2.2.2.1 r6.2.2.2.2.2.2.1 r4 (hL.1.trans F.2.2.1.symm) d0 d3 d4 d6 d9 ?_ (by show 2 + 3 < _; omega) ?_ (by omega) (by omega) F.2.2.2.2.2.1 (x_thr_post hR hX hQ) r4.2.2 (by omega) (by omega)
  · rw [F.2.2.2.2.2.2.2.1, v10]
    intro x hx
    exact absurd hx List.not_mem_nil
  · rw [tr_sum]
    show _ + (13 * 3 + 43) ≤ _
    omega
/-- the addresses behind new rows of rows -/
def adG (ad : Nat → Nat) (n0 q : Nat) (r : Nat → Nat) (nn : Nat) : Nat → Nat := fun a => if a = n0 then q else if n0 < a ∧ a ≤ n0 + nn then r (a - n0 - 1) else ad a
theorem adG_lt {ad : Nat → Nat} {n0 q : Nat} {r : Nat → Nat} {nn a : Nat} (h : a < n0) : adG ad n0 q r nn a = ad a := by
  unfold adG
  rw [if_neg (by omega), if_neg (by omega)]
theorem adG_0 {ad : Nat → Nat} {n0 q : Nat} {r : Nat → Nat} {nn : Nat} : adG ad n0 q r nn n0 = q := if_pos rfl
theorem adG_r {ad : Nat → Nat} {n0 q : Nat} {r : Nat → Nat} {nn i : Nat} (h : i < nn) : adG ad n0 q r nn (n0 + 1 + i) = r i := by
  unfold adG
  rw [if_neg (by omega), if_pos (by omega), show n0 + 1 + i - n0 - 1 = i by omega]
theorem newG_lt {nn kk k : Nat} (h : k < sN σ) : sK (newG σ nn kk) k = sK σ k ∧ sZ (newG σ nn kk) k = sZ σ k ∧ sI (newG σ nn kk) k = sI σ k ∧ sL (newG σ nn kk) k = sL σ k ∧ sP (newG σ nn kk) k = sP σ k := by
  refine ⟨?_, ?_, ?_, ?_, ?_⟩
  · show (if k = sN σ then 18 else if sN σ < k ∧ k ≤ sN σ + nn then 14 else sK σ k) = _
    rw [if_neg (by omega), if_neg (by omega)]
  · show (if k = sN σ then nn else if sN σ < k ∧ k ≤ sN σ + nn then kk else sZ σ k) = _
    rw [if_neg (by omega), if_neg (by omega)]
  · show (if sN σ ≤ k ∧ k ≤ sN σ + nn then (fun _ => 0) else sI σ k) = _
    rw [if_neg (by omega)]
  · show (if sN σ ≤ k ∧ k ≤ sN σ + nn then (fun _ => 0) else sL σ k) = _
    rw [if_neg (by omega)]
  · show (if k = sN σ then (fun j => if j < nn then some (sN σ + 1 + j) else none) else if sN σ < k ∧ k ≤ sN σ + nn then (fun _ => none) else sP σ k) = _
    rw [if_neg (by omega), if_neg (by omega)]
theorem newG_0 {nn kk : Nat} : sK (newG σ nn kk) (sN σ) = 18 ∧ sZ (newG σ nn kk) (sN σ) = nn ∧ sP (newG σ nn kk) (sN σ) = fun j => if j < nn then some (sN σ + 1 + j) else none := ⟨if_pos rfl, if_pos rfl, if_pos rfl⟩
theorem newG_r {nn kk i : Nat} (h : i < nn) : sK (newG σ nn kk) (sN σ + 1 + i) = 14 ∧ sZ (newG σ nn kk) (sN σ + 1 + i) = kk ∧ sI (newG σ nn kk) (sN σ + 1 + i) = (fun _ => 0) ∧ sP (newG σ nn kk) (sN σ + 1 + i) = fun _ => none := by
  refine ⟨?_, ?_, ?_, ?_⟩
  · show (if sN σ + 1 + i = sN σ then 18 else if sN σ < sN σ + 1 + i ∧ sN σ + 1 + i ≤ sN σ + nn then 14 else sK σ _) = _
    rw [if_neg (by omega), if_pos (by omega)]
  · show (if sN σ + 1 + i = sN σ then nn else if sN σ < sN σ + 1 + i ∧ sN σ + 1 + i ≤ sN σ + nn then kk else sZ σ _) = _
    rw [if_neg (by omega), if_pos (by omega)]
  · show (if sN σ ≤ sN σ + 1 + i ∧ sN σ + 1 + i ≤ sN σ + nn then (fun _ => 0) else sI σ _) = _
    rw [if_pos (by omega)]
  · show (if sN σ + 1 + i = sN σ then (fun j => if j < nn then some (sN σ + 1 + j) else none) else if sN σ < sN σ + 1 + i ∧ sN σ + 1 + i ≤ sN σ + nn then (fun _ => none) else sP σ _) = _
    rw [if_neg (by omega), if_pos (by omega)]
theorem newG_gt {nn kk k : Nat} (h : sN σ + nn < k) : sK (newG σ nn kk) k = sK σ k ∧ sP (newG σ nn kk) k = sP σ k := by
  refine ⟨?_, ?_⟩
  · show (if k = sN σ then 18 else if sN σ < k ∧ k ≤ sN σ + nn then 14 else sK σ k) = _
    rw [if_neg (by omega), if_neg (by omega)]
  · show (if k = sN σ then (fun j => if j < nn then some (sN σ + 1 + j) else none) else if sN σ < k ∧ k ≤ sN σ + nn then (fun _ => none) else sP σ k) = _
    rw [if_neg (by omega), if_neg (by omega)]
theorem wl_grid {ad : Nat → Nat} {q : Nat} {r : Nat → Nat} {nn kk : Nat} {f : Nat → va_E} (h : ShR k0 σ) : (wl G k0 ad σ ++ [(q, .inl (G.2.2.2.2.2, nn, .inr (.inr (.inr (.inr (fun i => if i < nn then some (r i) else none))))))]) ++ va_pl ([] ++ (List.range nn).map r) (vr_up f ([] ++ (List.range nn).map r) (.inl (G.2.1, kk, .inl (fun _ => 0)))) = wl G k0 (adG ad (sN σ) q r nn) (newG σ nn kk) := by
  have hk := h.1.2
  rw [List.nil_append]
  unfold wl va_pl
  rw [show sN (newG σ nn kk) - k0 = (sN σ - k0 + 1) + nn by show sN σ + 1 + nn - k0 = _; omega, List.range_add, List.map_append, List.range_succ, List.map_append]
  refine congr (congrArg _ (congr (congrArg _ (List.map_congr_left fun i hi => ?_)) ?_)) ?_
  · have hi := List.mem_range.mp hi
    obtain ⟨b1, b2, b3, b4, b5⟩ := newG_lt (σ := σ) (nn := nn) (kk := kk) (k := k0 + i) (by omega)
    rw [adG_lt (by omega), ce_congr b1 b2 b3 b4 b5 (h.2.2.2.2 _) (fun q hq => adG_lt hq)]
  · show _ = [(adG ad (sN σ) q r nn (k0 + (sN σ - k0)), ce G (adG ad (sN σ) q r nn) (newG σ nn kk) (k0 + (sN σ - k0)))]
    obtain ⟨b1, b2, b3⟩ := newG_0 (σ := σ) (nn := nn) (kk := kk)
    rw [Nat.add_sub_cancel' hk, adG_0, ce_18 b1, b2, b3]
    have e9 : (fun i => if i < nn then some (r i) else none) = fun j => Option.map (adG ad (sN σ) q r nn) ((fun j => if j < nn then some (sN σ + 1 + j) else none) j) := by
      funext j
      dsimp only
      by_cases hj : j < nn
      · rw [if_pos hj, if_pos hj]
        exact congrArg some (adG_r hj).symm
      · rw [if_neg hj, if_neg hj]; rfl
    rw [e9]
  · rw [List.map_map, List.map_map]
    refine List.map_congr_left fun i hi => ?_
    have hi := List.mem_range.mp hi
    obtain ⟨b1, b2, b3, b4⟩ := newG_r (σ := σ) (nn := nn) (kk := kk) hi
    show (r i, vr_up f ((List.range nn).map r) (.inl (G.2.1, kk, .inl (fun _ => 0))) (r i)) = (adG ad (sN σ) q r nn (k0 + (sN σ - k0 + 1 + i)), ce G (adG ad (sN σ) q r nn) (newG σ nn kk) (k0 + (sN σ - k0 + 1 + i)))
    rw [show k0 + (sN σ - k0 + 1 + i) = sN σ + 1 + i by omega, adG_r hi, ce_14 b1, b2, b3, vr_up_in (List.mem_map.mpr ⟨i, List.mem_range.mpr hi, rfl⟩)]
theorem arrI_new (c : ClassId) (n : Nat) : Jvm.Free.Multi.innerC c n (defaultValue .int) = vp_cell c (n, .inl (fun _ => 0)) := by
  rw [vp_cell_i, ← arrV_new]
  rfl
theorem x_mna {n k : Int32} {ix : Nat} (hE : ∀ q ∈ E.2.2.2, q.2.2.2 < k0) (hd : decode (mC M mt) pc = .ok (.multianewarray ix 2, 4)) (hw : Cond.classLink (mY M mt).cls ix "[[I" ∈ AW ∧ Cond.arrayClass .int ∈ AW)
    (hB : ¬ n < 0 ∧ ¬ k < 0 ∧ n.toNatClampNeg ≤ 100000 ∧ k.toNatClampNeg ≤ 100000 ∧ 1 + n.toNatClampNeg ≤ B.1 ∧ n.toNatClampNeg + n.toNatClampNeg * k.toNatClampNeg ≤ B.2)
    (h : X0 T M E G xn k0 base d (B.1 - (1 + n.toNatClampNeg), B.2 - (n.toNatClampNeg + n.toNatClampNeg * k.toNatClampNeg)) mt (pc + 4) ls (.ref (sN σ) :: st) (newG σ n.toNatClampNeg k.toNatClampNeg) Q) : X0 T M E G xn k0 base d B mt pc ls (.int k :: .int n :: st) σ Q := by
  intro p l e R s m args below meth c H locs cells slots lsM ad adB σB mc ms F hR hX hL hbl hbs hrm
  obtain ⟨r1, r2, r3, r4, r5, r6, r7⟩ := id hR
  obtain ⟨m1, m2, m3, m4, m5, m6⟩ := id hrm
  obtain ⟨b1, b2, b3, b4, b5, b6⟩ := hB
  generalize hnn : n.toNatClampNeg = nn at *
  generalize hkk : k.toNatClampNeg = kk at *
  have e0 : wl G k0 ad σ ++ va_pl [] (fun _ => .inr (0, [])) = wl G k0 ad σ := List.append_nil _
  refine va_mna (ty := .int) (cy := G.2.1) (L := []) (f := fun _ => .inr (0, [])) (X := wl G k0 ad σ) (z := (kk, .inl (fun _ => 0))) F.1 F.2.1 F.2.2.2.1 (F.2.2.2.2.1 _ hw.1) r6.2.2.2.2.2.2.2.2.1 (F.2.2.2.2.1 _ hw.2) (r1.2 0 _ gty_0).2 r1 (by rw [e0]; exact r2) (by rw [e0]; exact r3) r4 (fun q hq => Nat.le_trans r5 hq) b1 b2 hnn hkk (by omega) (by show _ * 4 ≤ _; omega) (by omega) rfl rfl (by omega) (by omega) (fun c => arrI_new c kk) hd (fun q r cA H1 hinj _ h0 h1 h2 h3 => ?_)
  have hc : cA = G.2.2.2.2.2 := va_same h0 gty_4
  subst hc
  have hw9 := wl_grid (G := G) (ad := ad) (q := q) (r := r) (nn := nn) (kk := kk) (f := fun _ => .inr (0, [])) r7
  rw [List.nil_append] at hw9 h1 h2
  rw [hw9] at h1 h2
  have hN : sN (newG σ nn kk) = sN σ + 1 + nn := rfl
  have hx : Ext k0 ad σ (adG ad (sN σ) q r nn) (newG σ nn kk) := ⟨by omega, fun k hk => adG_lt hk, fun o ho => by
    have := r7.1.2
    obtain ⟨b1, b2, b3, b4, b5⟩ := newG_lt (σ := σ) (nn := nn) (kk := kk) (k := o) (by omega)
    exact ⟨b1, b2, b3, b5⟩⟩
  have hR' : Rel E G k0 base (adG ad (sN σ) q r nn) (newG σ nn kk) s H1 locs := by
    refine ⟨r1, h1, h2, h3, r5, r6.ext r7 hx hE, ⟨r7.1.1, by have := r7.1.2; omega⟩, fun o ho => ?_, fun o ho => ?_, fun o ho ho2 => ?_, fun k j z hz => ?_⟩
    · rw [(newG_gt (σ := σ) (nn := nn) (kk := kk) (k := o) (by omega)).1]; exact r7.2.1 o (by omega)
    · have := r7.1.2; rw [(newG_lt (σ := σ) (nn := nn) (kk := kk) (k := o) (by omega)).1]; exact r7.2.2.1 o ho
    · by_cases q1 : o < sN σ
      · rw [(newG_lt (σ := σ) (nn := nn) (kk := kk) (k := o) q1).1]; exact r7.2.2.2.1 o ho q1
      · by_cases q2 : o = sN σ
        · rw [q2, newG_0.1]; omega
        · have q3 : o = sN σ + 1 + (o - sN σ - 1) := by omega
          rw [q3, (newG_r (σ := σ) (nn := nn) (kk := kk) (i := o - sN σ - 1) (by omega)).1]; omega
    · by_cases q1 : k < sN σ
      · rw [(newG_lt (σ := σ) (nn := nn) (kk := kk) (k := k) q1).2.2.2.2] at hz; have := r7.2.2.2.2 k j z hz; omega
      · by_cases q2 : k = sN σ
        · rw [q2, newG_0.2.2] at hz
          dsimp only at hz
          split at hz
          · cases hz; omega
          · cases hz
        · by_cases q4 : sN σ + nn < k
          · rw [(newG_gt (σ := σ) (nn := nn) (kk := kk) (k := k) q4).2] at hz; have := r7.2.2.2.2 k j z hz; omega
          · have q3 : k = sN σ + 1 + (k - sN σ - 1) := by omega
            rw [q3, (newG_r (σ := σ) (nn := nn) (kk := kk) (i := k - sN σ - 1) (by omega)).2.2.2] at hz
            cases hz
  have h9 := h p l e R s m args below meth c H1 locs (cells + 1 + nn) (slots + nn + nn * kk) lsM (adG ad (sN σ) q r nn) adB σB mc ms F hR' (hX.trans hx) (hL.ext hbl hx.2.1) (fun v hv => (hbl v hv).mono (by omega)) ((hbs.tail.tail.mono (by omega)).ref (by omega)) ⟨m1, m2, by dsimp only; omega, by dsimp only; omega, by dsimp only; omega, by dsimp only; omega⟩
  have e1 : (.ref (sN σ) :: st).map (tr (adG ad (sN σ) q r nn)) = .ref q :: st.map (tr ad) := by
    rw [List.map_cons, tr_ref, adG_0, tr_exts hx.2.1 (fun v hv => (hbs.tail.tail v hv).1)]
  rw [e1] at h9
  exact h9
end THR
theorem tst_x : (vx_atS RX11 451 "java/lang/IndexOutOfBoundsException" xsup).all (fun w => goodWord w || decide (w ∈ Cond.castable "java/lang/IndexOutOfBoundsException" "java/lang/IndexOutOfBoundsException" :: dclN.map .declares)) = true := by decide +kernel
