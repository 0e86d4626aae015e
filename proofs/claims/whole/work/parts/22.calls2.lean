/-! ===== calls: the machine's five kinds ===== -/
/-- what is checked of a call's link -/
def VL (T : Tab) (M : MData) (E : Env4) (mt ix m2 ck : Nat) : Prop := VM T M m2 ∧ match ck with
  | 0 => Cond.methodLink (mY M mt).cls ix (mY M m2) ∈ AW ∧ Cond.instanceMethod (mY M m2) ∈ AW ∧ Cond.selects (mY M m2).cls (mY M m2) (mY M m2) ∈ AW ∧ mH M m2 = [] ∧ 1 ≤ tNA T m2 ∧ ((∃ (ci N : Nat) (Tt : u_T), tRV T m2 = some (ci + 1) ∧ vwCl[ci]? = some ((mY M m2).cls, Tt, N) ∧ ci < 13) ∨ (tRV T m2 = some 19 ∧ (mY M m2).cls = "java/lang/String"))
  | 1 => Cond.methodLink (mY M mt).cls ix (mY M m2) ∈ AW ∧ Cond.static (mY M m2) ∈ AW ∧ tRV T m2 = none
  | 2 => Cond.methodLink (mY M mt).cls ix (mY M m2) ∈ AW ∧ Cond.instanceMethod (mY M m2) ∈ AW ∧ (mY M m2).name = "<init>" ∧ mH M m2 = [] ∧ tRT T m2 = none ∧ 1 ≤ tNA T m2 ∧ (∃ k, tRV T m2 = some k)
  | 4 => (∃ host, ((mY M mt).cls, ix, mY M m2, host) ∈ E.1) ∧ Cond.static (mY M m2) ∈ AW ∧ tRV T m2 = none ∧ mH M m2 = []
  | 5 => (∃ host, ((mY M mt).cls, ix, mY M m2, host) ∈ E.1) ∧ Cond.instanceMethod (mY M m2) ∈ AW ∧ (mY M m2).name = "<init>" ∧ mH M m2 = [] ∧ tRT T m2 = none ∧ 1 ≤ tNA T m2 ∧ (∃ k, tRV T m2 = some k)
  | _ => False
def cins (ck ix : Nat) : Instr := if ck = 0 then .invokevirtual ix else if ck = 1 ∨ ck = 4 then .invokestatic ix else .invokespecial ix
section CAL2
variable {T : Tab} {M : MData} {E : Env4} {G : GW} {xn : Nat → String} {k0 base : Nat} {d : Nat} {B : Nat × Nat} {mt pc : Nat} {ls st : List Value} {σ : Sto} {Q : Out → Sto → Prop}
theorem mW_ws (h : VM T M mt) : ∀ w ∈ mW T M mt :: AW, w ∈ AW := fun w hw => by
  rcases List.mem_cons.mp hw with q | q
  · rw [q]; exact h.2.1
  · exact q
theorem st_split {st : List Value} {n : Nat} (ad : Nat → Nat) : st.map (tr ad) = (((st.take n).reverse).map (tr ad)).reverse ++ (st.drop n).map (tr ad) := by
  rw [← List.map_reverse, List.reverse_reverse, ← List.map_append, List.take_append_drop]
/-- the call itself, to its two ends -/
theorem x_run {p : Program} {l : Launch} {e : Env} {R : Room} {s : State} {m : MethodId} {args : Array Value} {below : List Frame} {meth : Method} {c : Code} {H : Heap} {locs : List Loc} {cells slots mc ms m2 ck ix : Nat} {lsM : Array Slot} {ad : Nat → Nat} {Q2 : Out → Sto → Prop} (F : FRM T M p l s m args meth c mt) (hR : Rel E G k0 base ad σ s H locs) (hLM : lsM.size = tML T mt) (hbs : SB (sN σ) st) (hv : VL T M E mt ix m2 ck) (hdec : decode (mC M mt) pc = .ok (cins ck ix, 3))
    (w1 : tNA T m2 ≤ st.length) (w2 : ((st.drop (tNA T m2)).map vcat).sum ≤ 8) (w3 : (lsl (st.take (tNA T m2)).reverse).length ≤ tML T m2) (w4 : match tRV T m2 with | none => True | some kd => (match (st.take (tNA T m2)).reverse with | .ref o :: _ => sK σ o = kd | _ => False))
    (hr : d + 1 ≤ R.frames ∧ (d + 1) * 64 + 64 ≤ R.locals ∧ cells + mc ≤ R.cells ∧ slots + ms ≤ R.slots) (hnx : 2 ≤ ck → ∀ ex σ', ¬ Q2 (.inr ex) σ') (h : X0 T M E G xn k0 base d (mc, ms) m2 0 (lent (st.take (tNA T m2)).reverse (tML T m2)) [] σ Q2) :
    vx_Run p l e R s m args below meth c H locs cells slots mc ms (F0 m pc lsM (st.map (tr ad))) ((st.drop (tNA T m2)).map (tr ad)) (PQ G k0 base ad σ Q2 (((st.take (tNA T m2)).reverse).map (tr ad)).toArray) (PX xn G k0 base ad σ Q2) (ab base) := by
  obtain ⟨hm, hv⟩ := hv
  have hAs : SB (sN σ) (st.take (tNA T m2)).reverse := fun v hv => hbs v (List.mem_of_mem_take (List.mem_reverse.mp hv))
  have met := met_of (l := l) (ad := ad) F.2.2.2.2.2.2.2.2.2 hm hAs w3 h
  have hAl : ((st.take (tNA T m2)).reverse).length = tNA T m2 := by rw [List.length_reverse, List.length_take]; omega
  have hW8 : 2 * (F0 m pc lsM (st.map (tr ad))).monitorRoom + (((st.drop (tNA T m2)).map (tr ad)).map fun v => v.category).sum ≤ 8 := by
    rw [tr_sum]; show 2 * 0 + _ ≤ 8; omega
  have hroom : (rmD d mc ms).frames + 1 ≤ R.frames ∧ 8 + (tML T m2 + 11) + (rmD d mc ms).locals ≤ R.locals := by
    have := hm.2.2.2.1
    exact ⟨hr.1, by show 8 + (tML T m2 + 11) + (d * 64 + 64) ≤ _; omega⟩
  have hfix : CallFix p m c (mC M mt) (tML T mt) s args AW (mY M mt).cls := ⟨F.1, F.2.1, F.2.2.1, F.2.2.2.1, F.2.2.2.2.1⟩
  have hws := mW_ws hm
  have hcode : mH M m2 = [] → mW T M m2 = .code (mY M m2) (mC M m2) (tML T m2) (tRT T m2) := fun hh => if_pos hh
  have hbeg : ∀ U : State, U.heap = H → s.WarmedH U.vm → Beg E G k0 base ad σ (st.take (tNA T m2)).reverse (((st.take (tNA T m2)).reverse).map (tr ad)).toArray U := fun U hU hW => Beg.of hR hU hW
  have hst := st_split (st := st) (n := tNA T m2) ad
  have hpd := hm.2.2.2.2.2
  have hinit := F.2.2.2.2.1 _ hm.2.2.1
  obtain ⟨r1, r2, r3, r4, r5, r6, r7⟩ := id hR
  match ck, hv with
  | 0, hv =>
    obtain ⟨v1, v2, v3, v4, v5, v6⟩ := hv
    have hrv : ¬ tRV T m2 = none := by rcases v6 with ⟨ci, N, Tt, q, -⟩ | ⟨q, -⟩ <;> rw [q] <;> exact fun z => by cases z
    rw [if_neg hrv] at hpd
    cases hl9 : (st.take (tNA T m2)).reverse with
    | nil => rw [hl9] at hAl; simp at hAl; omega
    | cons v0 As =>
      rw [hl9] at w4 met hbeg hst hAl
      have hrec : ∃ o, v0 = .ref o ∧ ∃ cellB : Cell, H[ad o]? = some cellB ∧ cellB.vm.isStatics = false ∧ s.vm.findClass (mY M m2).cls = some cellB.cls := by
        rcases v6 with ⟨ci, N, Tt, q1, q2, q3⟩ | ⟨q1, q2⟩
        · rw [q1] at w4
          cases v0 with
          | ref o =>
            have hk : sK σ o = ci + 1 := w4
            have ho := r7.new hk (by omega) (by omega)
            have he := wl_get (G := G) (ad := ad) ho.1 ho.2
            rw [ce_ob hk q3] at he
            exact ⟨o, rfl, va_recv r1 r2 q2 he⟩
          | _ => exact w4.elim
        · rw [q1] at w4
          cases v0 with
          | ref o =>
            have hk : sK σ o = 19 := w4
            obtain ⟨cell, g1, g2, g3, -⟩ := (r6.1 o (r7.old hk (by omega)) hk).1.kept r4.2.1
            exact ⟨o, rfl, cell, g1, g2, by rw [q2]; exact g3⟩
          | _ => exact w4.elim
      obtain ⟨o, rfl, cellB, g1, g2, g3⟩ := hrec
      rw [hcode v4] at met hws
      rw [hst]
      refine vx_runV (C := (mY M m2).cls) (b := ad o) (As := As.map (tr ad)) (rest := (st.drop (tNA T m2)).map (tr ad)) hfix met (cwV (tNA T m2 - 1) F.2.2.2.2.1 (AW_in (fun w h => h) ?_) rfl rfl rfl ⟨rfl, hm.2.2.2.2.1.1, hm.2.2.2.2.1.2, hpd⟩ hroom) ⟨Beg.blind, ⟨cellB, g1, g2, g3⟩, hbeg⟩ rfl ?_ hLM ?_ (by rw [hst] at hW8; exact hW8) hdec ⟨hr.2.2.1, hr.2.2.2⟩
      · intro w hw
        rcases List.mem_append.mp hw with q | q
        · simp only [List.mem_cons, List.not_mem_nil, or_false] at q
          rcases q with q | q | q | q <;> rw [q]
          · exact v1
          · exact v2
          · exact v3
          · exact hm.2.2.1
        · exact hws w q
      · rw [List.length_map]; simp at hAl; omega
      · show _ = (As.map (tr ad)).reverse ++ .ref (ad o) :: _
        rw [List.map_cons, List.reverse_cons, List.append_assoc]
        rfl
  | 1, hv =>
    obtain ⟨v1, v2, v3⟩ := hv
    rw [if_pos v3] at hpd
    by_cases hh : mH M m2 = []
    · rw [hcode hh] at met hws
      rw [hst]
      refine vx_runS (As := ((st.take (tNA T m2)).reverse).map (tr ad)) hfix met (va_cwS (tNA T m2) F.2.2.2.2.1 (AW_in (fun w h => h) ?_) rfl rfl rfl ⟨hm.2.2.2.2.1.1, hm.2.2.2.2.1.2, hpd⟩ hroom) ⟨Beg.blind, hbeg⟩ rfl (by rw [List.length_map]; exact hAl) hLM rfl (by rw [hst] at hW8; exact hW8) hdec ⟨hr.2.2.1, hr.2.2.2⟩
      intro w hw
      rcases List.mem_append.mp hw with q | q
      · simp only [List.mem_cons, List.not_mem_nil, or_false] at q
        rcases q with q | q | q <;> rw [q]
        · exact v1
        · exact v2
        · exact hm.2.2.1
      · exact hws w q
    · have e1 : mW T M m2 = .codeWith (mY M m2) (mC M m2) (tML T m2) (tRT T m2) (mH M m2) := if_neg hh
      rw [e1] at met hws
      rw [hst]
      refine vx_runSX (hh := mH M m2) (As := ((st.take (tNA T m2)).reverse).map (tr ad)) hfix met (vx_cwSW (tNA T m2) F.2.2.2.2.1 (AW_in (fun w h => h) ?_) rfl rfl rfl ⟨hm.2.2.2.2.1.1, hm.2.2.2.2.1.2, hpd⟩ hroom) ⟨Beg.blind, hbeg⟩ rfl (by rw [List.length_map]; exact hAl) hLM rfl (by rw [hst] at hW8; exact hW8) hdec ⟨hr.2.2.1, hr.2.2.2⟩
      intro w hw
      rcases List.mem_append.mp hw with q | q
      · simp only [List.mem_cons, List.not_mem_nil, or_false] at q
        rcases q with q | q | q <;> rw [q]
        · exact v1
        · exact v2
        · exact hm.2.2.1
      · exact hws w q
  | 2, hv =>
    obtain ⟨v1, v2, v3, v4, v5, v6, kd, v7⟩ := hv
    rw [if_neg (by rw [v7]; exact fun z => by cases z)] at hpd
    have met := met_no met (fun E9 s9 t9 hx => by obtain ⟨⟨ex, ad', σ', -, q, -⟩, -⟩ := hx; exact hnx (by omega) ex σ' q)
    cases hl9 : (st.take (tNA T m2)).reverse with
    | nil => rw [hl9] at hAl; simp at hAl; omega
    | cons v0 As =>
      rw [hl9] at w4 met hbeg hst hAl
      rw [v7] at w4
      cases v0 with
      | ref o =>
        rw [hcode v4, v5] at met hws
        rw [hst]
        refine vx_of_va (va_runI (b := ad o) (As := As.map (tr ad)) hfix met (cwI (tNA T m2 - 1) F.2.2.2.2.1 (AW_in (fun w h => h) hws) rfl rfl rfl hinit (F.2.2.2.2.1 _ v1) (F.2.2.2.2.1 _ v2) v3 ⟨hm.2.2.2.2.1.1, hm.2.2.2.2.1.2, hpd⟩ hroom) ⟨Beg.blind, hbeg⟩ rfl ?_ hLM ?_ (by rw [hst] at hW8; exact hW8) hdec ⟨hr.2.2.1, hr.2.2.2⟩)
        · rw [List.length_map]; simp at hAl; omega
        · show _ = (As.map (tr ad)).reverse ++ .ref (ad o) :: _
          rw [List.map_cons, List.reverse_cons, List.append_assoc]
          rfl
      | _ => exact w4.elim
  | 4, hv =>
    obtain ⟨⟨host, v1⟩, v2, v3, v4⟩ := hv
    rw [if_pos v3] at hpd
    have met := met_no met (fun E9 s9 t9 hx => by obtain ⟨⟨ex, ad', σ', -, q, -⟩, -⟩ := hx; exact hnx (by omega) ex σ' q)
    rw [hcode v4] at met hws
    rw [hst]
    exact vx_of_va (va_runSN (host := host) (As := ((st.take (tNA T m2)).reverse).map (tr ad)) hfix met ⟨va_cnB (tNA T m2) F.2.2.2.2.1 (AW_in (fun w h => h) hws) rfl rfl rfl (r6.2.2.2.2.2.2.2.2.2.1 _ v1) hinit ⟨hm.2.2.2.2.1.1, hm.2.2.2.2.1.2, hpd⟩ hroom, F.2.2.2.2.1 _ v2, trivial⟩ ⟨Beg.blind, hbeg⟩ rfl (by rw [List.length_map]; exact hAl) hLM rfl (by rw [hst] at hW8; exact hW8) hdec ⟨hr.2.2.1, hr.2.2.2⟩)
  | 5, hv =>
    obtain ⟨⟨host, v1⟩, v2, v3, v4, v5, v6, kd, v7⟩ := hv
    rw [if_neg (by rw [v7]; exact fun z => by cases z)] at hpd
    have met := met_no met (fun E9 s9 t9 hx => by obtain ⟨⟨ex, ad', σ', -, q, -⟩, -⟩ := hx; exact hnx (by omega) ex σ' q)
    cases hl9 : (st.take (tNA T m2)).reverse with
    | nil => rw [hl9] at hAl; simp at hAl; omega
    | cons v0 As =>
      rw [hl9] at w4 met hbeg hst hAl
      rw [v7] at w4
      cases v0 with
      | ref o =>
        rw [hcode v4, v5] at met hws
        rw [hst]
        refine vx_of_va (va_runIN (host := host) (b := ad o) (As := As.map (tr ad)) hfix met ⟨va_cnB (tNA T m2 - 1) F.2.2.2.2.1 (AW_in (fun w h => h) hws) rfl rfl rfl (r6.2.2.2.2.2.2.2.2.2.1 _ v1) hinit ⟨hm.2.2.2.2.1.1, hm.2.2.2.2.1.2, hpd⟩ hroom, v3, F.2.2.2.2.1 _ v2⟩ ⟨Beg.blind, hbeg⟩ rfl ?_ hLM ?_ (by rw [hst] at hW8; exact hW8) hdec ⟨hr.2.2.1, hr.2.2.2⟩)
        · rw [List.length_map]; simp at hAl; omega
        · show _ = (As.map (tr ad)).reverse ++ .ref (ad o) :: _
          rw [List.map_cons, List.reverse_cons, List.append_assoc]
          rfl
      | _ => exact w4.elim
  | 3, hv => exact hv.elim
  | n + 6, hv => exact hv.elim
theorem x_call {m2 ck ix : Nat} (hE : ∀ q ∈ E.2.2.2, q.2.2.2 < k0) (hv : VL T M E mt ix m2 ck) (hdec : decode (mC M mt) pc = .ok (cins ck ix, 3)) (hVH : ck ≤ 1 → ∀ ex, ex < 3 → VH T M E xn mt pc ex)
    (h : wcall T (fun pc ls st B σ => X0 T M E G xn k0 base d B mt pc ls st σ Q) (wx_call (X0 T M E G xn k0 base) d) B mt pc ls st σ Q m2 ck) : X0 T M E G xn k0 base d B mt pc ls st σ Q := by
  intro p l e R s m args below meth c H locs cells slots lsM ad adB σB mc ms F hR hX hL hbl hbs hrm
  obtain ⟨m1, m2', m3, m4, m5, m6⟩ := id hrm
  obtain ⟨⟨w1, w2, w3, w4⟩, mc2, ms2, b1, b2, hcall⟩ := h
  cases d with
  | zero => exact hcall.elim
  | succ d =>
    have hcall : X0 T M E G xn k0 base d (mc2, ms2) m2 0 (lent (st.take (tNA T m2)).reverse (tML T m2)) [] σ _ := hcall
    have hrun := x_run (e := e) (below := below) (cells := cells) (slots := slots) F hR hL.1 hbs hv hdec w1 w2 w3 w4 ⟨m1, m2', by omega, by omega⟩ (fun hck ex σ' hq => by have := hq.1.1; omega) hcall
    have hbr : SB (sN σ) (st.drop (tNA T m2)) := fun v hv => hbs v (List.mem_of_mem_drop hv)
    refine x_goes hE hR hrun (fun v ad' σ' H1 locs1 hq hx hR' hb => ?_) (fun ex ce9 q9 ad' σ' H1 locs1 hq hx hR' c1 c2 c3 => ?_)
    · have hrest : (st.drop (tNA T m2)).map (tr ad) = (st.drop (tNA T m2)).map (tr ad') := (tr_exts hx.2.1 (fun v hv => (hbr v hv).1)).symm
      have hrm' : RM (d + 1) (B.1 - mc2, B.2 - ms2) R (cells + mc2) (slots + ms2) mc ms := ⟨m1, m2', by dsimp only; omega, by dsimp only; omega, by dsimp only; omega, by dsimp only; omega⟩
      rw [hrest]
      cases v with
      | none => exact hq p l e R s m args below meth c H1 locs1 (cells + mc2) (slots + ms2) lsM ad' adB σB mc ms F hR' (hX.trans hx) (hL.ext hbl hx.2.1) (fun v hv => (hbl v hv).mono hx.1) (hbr.mono hx.1) hrm'
      | some v => exact hq p l e R s m args below meth c H1 locs1 (cells + mc2) (slots + ms2) lsM ad' adB σB mc ms F hR' (hX.trans hx) (hL.ext hbl hx.2.1) (fun v hv => (hbl v hv).mono hx.1) ((hbr.mono hx.1).cons (hb v rfl)) hrm'
    · exact x_exc F hR' (hX.trans hx) ⟨hL.1, hL.2.2.1⟩ ⟨by omega, by omega⟩ (hVH hq.1.1 ex hq.1.2) hq.2 c1 c2 c3
/-- what is checked of a call of Math -/
def mathw (own : String) (ix ck : Nat) : List Cond := match ck with
  | 10 => [.methodLink own ix Lib.Math.max.name, .static Lib.Math.max.name, .initialized "java/lang/Math", .code Lib.Math.max.name Lib.Math.max.code 2 (some .int)]
  | 11 => [.methodLink own ix Lib.Math.min.name, .static Lib.Math.min.name, .initialized "java/lang/Math", .code Lib.Math.min.name Lib.Math.min.code 2 (some .int)]
  | 12 => [.methodLink own ix Lib.Math.abs.name, .static Lib.Math.abs.name, .initialized "java/lang/Math", .code Lib.Math.abs.name Lib.Math.abs.code 1 (some .int)]
  | _ => [.methodLink own ix Lib.MathLoose.min_long.x, .static Lib.MathLoose.min_long.x, .initialized "java/lang/Math", .code Lib.MathLoose.min_long.x Lib.MathLoose.min_long.code 4 (some .long)]
theorem x_math {ck ix : Nat} (hd : decode (mC M mt) pc = .ok (.invokestatic ix, 3)) (hw : ∀ w ∈ mathw (mY M mt).cls ix ck, w ∈ AW) (h : wmath (fun pc ls st B σ => X0 T M E G xn k0 base d B mt pc ls st σ Q) d B pc ls st σ ck) : X0 T M E G xn k0 base d B mt pc ls st σ Q := by
  intro p l e R s m args below meth c H locs cells slots lsM ad adB σB mc ms F hR hX hL hbl hbs hrm
  obtain ⟨m1, m2, m3, m4, m5, m6⟩ := id hrm
  have hml : c.maxLocals = lsM.size := F.2.2.1.trans hL.1.symm
  unfold wmath at h
  split at h
  · split at h
    · obtain ⟨⟨b1, b2⟩, h⟩ := h
      refine va_mmax F.1 F.2.1 hml F.2.2.2.1 (F.2.2.2.2.1 _ (hw _ (by simp [mathw]))) (F.2.2.2.2.1 _ (hw _ (by simp [mathw]))) (F.2.2.2.2.1 _ (hw _ (by simp [mathw]))) (F.2.2.2.2.1 _ (hw _ (by simp [mathw]))) (by omega) (by rw [tr_sum]; omega) (by omega) (by omega) hd ?_
      exact h p l e R s m args below meth c H locs cells slots lsM ad adB σB mc ms F hR hX hL hbl hbs.tail.tail.int hrm
    · exact h.elim
  · split at h
    · obtain ⟨⟨b1, b2⟩, h⟩ := h
      refine va_mmin F.1 F.2.1 hml F.2.2.2.1 (F.2.2.2.2.1 _ (hw _ (by simp [mathw]))) (F.2.2.2.2.1 _ (hw _ (by simp [mathw]))) (F.2.2.2.2.1 _ (hw _ (by simp [mathw]))) (F.2.2.2.2.1 _ (hw _ (by simp [mathw]))) (by omega) (by rw [tr_sum]; omega) (by omega) (by omega) hd ?_
      exact h p l e R s m args below meth c H locs cells slots lsM ad adB σB mc ms F hR hX hL hbl hbs.tail.tail.int hrm
    · exact h.elim
  · split at h
    · obtain ⟨⟨b1, b2⟩, h⟩ := h
      refine va_mabs F.1 F.2.1 hml F.2.2.2.1 (F.2.2.2.2.1 _ (hw _ (by simp [mathw]))) (F.2.2.2.2.1 _ (hw _ (by simp [mathw]))) (F.2.2.2.2.1 _ (hw _ (by simp [mathw]))) (F.2.2.2.2.1 _ (hw _ (by simp [mathw]))) (by omega) (by rw [tr_sum]; omega) (by omega) (by omega) hd ?_
      exact h p l e R s m args below meth c H locs cells slots lsM ad adB σB mc ms F hR hX hL hbl hbs.tail.int hrm
    · exact h.elim
  · split at h
    · obtain ⟨⟨b1, b2⟩, h⟩ := h
      refine va_mmin_long F.1 F.2.1 hml F.2.2.2.1 (F.2.2.2.2.1 _ (hw _ (by simp [mathw]))) (F.2.2.2.2.1 _ (hw _ (by simp [mathw]))) (F.2.2.2.2.1 _ (hw _ (by simp [mathw]))) (F.2.2.2.2.1 _ (hw _ (by simp [mathw]))) (by omega) (by rw [tr_sum]; omega) (by omega) (by omega) hd ?_
      exact h p l e R s m args below meth c H locs cells slots lsM ad adB σB mc ms F hR hX hL hbl hbs.tail.tail.long hrm
    · exact h.elim
  · exact h.elim
end CAL2
