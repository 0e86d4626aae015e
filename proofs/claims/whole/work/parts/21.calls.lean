/-! ===== calls ===== -/
theorem AW_good {w : Cond} (h : w ∈ AW) : (w.onTables && w.keeps) = true ∨ ∃ ty, w = .arrayClass ty := good_of_word (List.mem_filter.mp h).2
theorem AW_in {Ts ws : List Cond} (hT : ∀ w ∈ AW, w ∈ Ts) (h : ∀ w ∈ ws, w ∈ AW) : GoodIn Ts ws := fun w hw => ⟨hT w (h w hw), AW_good (h w hw)⟩
/-- what a method finds at its beginning -/
def Beg (E : Env4) (G : GW) (k0 base : Nat) (ad : Nat → Nat) (σ : Sto) (As : List Value) : Array Value → State → Prop := fun a U =>
  a = (As.map (tr ad)).toArray ∧ va_K G.1 vwCl (gty G) U ∧ va_P G.1 vwCl (wl G k0 ad σ) U.heap ∧ va_D (ab base) (wl G k0 ad σ) ∧ base ≤ U.heap.size ∧ OldR E k0 base ad σ U ∧ ShR k0 σ
theorem Beg.blind {E : Env4} {G : GW} {k0 base : Nat} {ad : Nat → Nat} {σ : Sto} {As : List Value} : FrameBlind (Beg E G k0 base ad σ As) := by
  intro a U g mk h
  obtain ⟨h1, h2, h3, h4, h5, h6, h7⟩ := h
  have hW : U.WarmedH (U.calling g mk a).vm := State.WarmedH.refl U
  exact ⟨h1, va_K.moved hW.alike h2, h3, h4, h5, OldR.warm hW h5 (fun _ _ _ => rfl) h6, h7⟩
theorem Beg.of {E : Env4} {G : GW} {k0 base : Nat} {ad : Nat → Nat} {σ : Sto} {As : List Value} {s U : State} {H : Heap} {locs : List Loc} (hR : Rel E G k0 base ad σ s H locs) (hU : U.heap = H) (hW : s.WarmedH U.vm) : Beg E G k0 base ad σ As (As.map (tr ad)).toArray U := by
  obtain ⟨r1, r2, r3, r4, r5, r6, r7⟩ := hR
  subst hU
  exact ⟨rfl, va_K.moved hW.alike r1, r2, r3, Nat.le_trans r5 r4.1, OldR.warm hW r5 r4.2.1 r6, r7⟩
/-- the word of a method's code -/
def mW (T : Tab) (M : MData) (mt : Nat) : Cond := if mH M mt = [] then .code (mY M mt) (mC M mt) (tML T mt) (tRT T mt) else .codeWith (mY M mt) (mC M mt) (tML T mt) (tRT T mt) (mH M mt)
/-- what is checked of a method -/
def VM (T : Tab) (M : MData) (mt : Nat) : Prop := plainName (mY M mt).cls = true ∧ mW T M mt ∈ AW ∧ Cond.initialized (mY M mt).cls ∈ AW ∧ tML T mt ≤ 45 ∧ ((mY M mt).cls ≠ "java/lang/invoke/MethodHandle" ∧ (mY M mt).cls ≠ "java/lang/invoke/VarHandle") ∧ (parseMethodDescriptor (mY M mt).desc).map (fun d => d.parameters.length) = some (tNA T mt - if tRV T mt = none then 0 else 1)
def rmD (d : Nat) (mc ms : Nat) : Room := { frames := d, cells := mc, slots := ms, locals := d * 64 + 64 }
section CAL
variable {T : Tab} {M : MData} {E : Env4} {G : GW} {xn : Nat → String} {k0 base : Nat} {d : Nat} {B : Nat × Nat} {mt pc : Nat} {ls st : List Value} {σ : Sto} {Q : Out → Sto → Prop}
/-- our run of a method is the machine's contract -/
theorem met_of {l : Launch} (hl : l.stackTraces = false) {m2 mc ms : Nat} {As : List Value} {ad : Nat → Nat} (hm : VM T M m2) (hAs : SB (sN σ) As) (hlen : (lsl As).length ≤ tML T m2) (h : X0 T M E G xn k0 base d (mc, ms) m2 0 (lent As (tML T m2)) [] σ Q) :
    vx_Met l (mY M m2) (mW T M m2 :: AW) (rmD d mc ms) (Beg E G k0 base ad σ As) (PQ G k0 base ad σ Q) (PX xn G k0 base ad σ Q) mc ms (ab base) := by
  have go : ∀ (p : Program) (e : Env) (s : State) (m : MethodId) (args : Array Value) (below : List Frame) (meth : Method) (c : Code) (s₁ : State), BodyLoose p l (mY M m2) (headSpec (mW T M m2 :: AW) (rmD d mc ms)) (mC M m2) (tML T m2) (tRT T m2) e s m args below meth c s₁ → c.maxLocals = tML T m2 → c.exceptionTable.toList = tableOf (mH M m2) → Beg E G k0 base ad σ As args s →
      W p l e (headSpec (mW T M m2 :: AW) (rmD d mc ms)).room s m args below meth c s.heap [] 0 0 (vx_MQ below (PQ G k0 base ad σ Q) (PX xn G k0 base ad σ Q) args s mc ms (ab base)) (entryFrame m args (tML T m2)) := by
    intro p e s m args below meth c s₁ Bd hml htab hP
    obtain ⟨rfl, h2, h3, h4, h5, h6, h7⟩ := hP
    have hts := atoms_spec (ws := mW T M m2 :: AW) Bd.pre
    rw [lg_entry_eq]
    refine h p l e (rmD d mc ms) s m _ below meth c s.heap [] 0 0 _ ad ad σ mc ms ⟨Bd.exec, Bd.bytes, hml, findClass_of_methodNamed Bd.named, fun w hw => hts w (List.mem_cons_of_mem _ hw), Bd.notSynchronized, Bd.returns, htab, (name_of_methodNamed Bd.named Bd.method).1, hl⟩ ⟨h2, h3, h4, va_S.rf, h5, h6, h7⟩ Ext.rf (LV.entry ad (fun v hv => (hAs v hv).2) hlen) (lent_vb fun v hv => (hAs v hv).1) (fun v hv => by cases hv) ⟨Nat.le_refl _, Nat.le_refl _, by show 0 + mc ≤ mc; omega, by show 0 + ms ≤ ms; omega, by show 0 + mc ≤ mc; omega, by show 0 + ms ≤ ms; omega⟩
  by_cases hh : mH M m2 = []
  · have e1 : mW T M m2 = .code (mY M m2) (mC M m2) (tML T m2) (tRT T m2) := if_pos hh
    refine vx_ofW (cc := mC M m2) (maxL := tML T m2) (ret := tRT T m2) hm.1 (by rw [e1]) ?_
    intro p e s m args below meth c s₁ Bd hml hno hP
    exact go p e s m args below meth c s₁ Bd hml (by rw [hh]; exact List.eq_nil_iff_forall_not_mem.mpr hno) hP
  · have e1 : mW T M m2 = .codeWith (mY M m2) (mC M m2) (tML T m2) (tRT T m2) (mH M m2) := if_neg hh
    refine vx_ofWH (cc := mC M m2) (maxL := tML T m2) (ret := tRT T m2) (hh := mH M m2) hm.1 (by rw [e1]) ?_
    intro p e s m args below meth c s₁ Bd hml hP
    have hts := atoms_spec (ws := mW T M m2 :: AW) Bd.pre
    exact go p e s m args below meth c s₁ Bd hml (vx_table (x := mY M m2) Bd (by rw [← e1]; exact hts _ List.mem_cons_self)) hP
/-- .. and where nothing is thrown, the plain one -/
theorem met_no {l : Launch} {y : MethodName} {ws : List Cond} {rm : Room} {Pc : Array Value → State → Prop} {Qc : Array Value → State → Outcome → State → Prop} {XC : String → State → State → Prop} {mc ms : Nat} {free : Addr → Prop} (h : vx_Met l y ws rm Pc Qc XC mc ms free) (hx : ∀ E s t, ¬ XC E s t) : Met l y ws rm Pc Qc mc ms free := by
  intro p e ha hc hk s m args below hf happ hP hK
  obtain ⟨n, o, h1, h2, h3, hQ⟩ := h p e ha hc hk s m args below hf happ hP hK
  refine ⟨n, o, h1, h2, h3, ?_⟩
  rcases hQ with hQ | ⟨q, -, E, ce, L, hX, -⟩
  · exact hQ
  · exact absurd hX (hx _ _ _)
theorem vx_of_va {p : Program} {l : Launch} {e : Env} {R : Room} {s : State} {m : MethodId} {args : Array Value} {below : List Frame} {meth : Method} {c : Code} {H : Heap} {locs : List Loc} {cells slots mc ms : Nat} {g : JFrame} {rest : List Value} {Qa : State → Outcome → State → Prop} {XC : String → State → State → Prop} {free : Addr → Prop} (h : va_Run p l e R s m args below meth c H locs cells slots mc ms g rest Qa free) : vx_Run p l e R s m args below meth c H locs cells slots mc ms g rest Qa XC free := fun T hT X => Or.inl (h T hT X)
/-- behind a call -/
theorem x_goes {p : Program} {l : Launch} {e : Env} {R : Room} {s : State} {m : MethodId} {args : Array Value} {below : List Frame} {meth : Method} {c : Code} {H : Heap} {locs : List Loc} {cells slots mc ms : Nat} {lsM : Array Slot} {stM rest : List Value} {ad : Nat → Nat} {a : Array Value} {QQ : State → Prop} (hE : ∀ q ∈ E.2.2.2, q.2.2.2 < k0) (hR : Rel E G k0 base ad σ s H locs)
    (hr : vx_Run p l e R s m args below meth c H locs cells slots mc ms (F0 m pc lsM stM) rest (PQ G k0 base ad σ Q a) (PX xn G k0 base ad σ Q) (ab base))
    (kk : ∀ (v : Option Value) (ad' : Nat → Nat) (σ' : Sto) (H1 : Heap) (locs1 : List Loc), Q (.inl v) σ' → Ext k0 ad σ ad' σ' → Rel E G k0 base ad' σ' s H1 locs1 → (∀ x, v = some x → vb (sN σ') x ∧ okv x) → W p l e R s m args below meth c H1 locs1 (cells + mc) (slots + ms) QQ (F0 m (pc + 3) lsM ((v.map (tr ad')).toList ++ rest)))
    (kx : ∀ (ex : Nat) (ce : Cell) (q9 : Addr) (ad' : Nat → Nat) (σ' : Sto) (H1 : Heap) (locs1 : List Loc), Q (.inr ex) σ' → Ext k0 ad σ ad' σ' → Rel E G k0 base ad' σ' s H1 locs1 → H1[q9]? = some ce → ce.vm = .none → s.vm.findClass (xn ex) = some ce.cls → vx_W p l e R s m args below meth c H1 locs1 (cells + mc) (slots + ms) QQ (F0 m pc lsM rest) q9) :
    W p l e R s m args below meth c H locs cells slots QQ (F0 m pc lsM stM) := by
  obtain ⟨r1, r2, r3, r4, r5, r6, r7⟩ := hR
  intro T9 hT X
  rcases hr T9 hT X with ⟨v, st₀, t, T', L, h0, X', hL, e1, e2, ⟨⟨v', ad', σ', q1, q2, q3, q4, q5, q6, q7⟩, hF⟩, st9⟩ | ⟨q, st₀, t, T', L, E9, ce9, h0, X', hL, e1, e2, ⟨⟨ex, ad', σ', q1, q2, q3, q4, q5, q6⟩, hF⟩, c1, c2, c3, st9⟩
  · cases q1
    obtain ⟨-, -, hS⟩ := vx_keep h0 e1 r4 (fun q _ h => h) (fun q h => h) hL hF
    obtain ⟨t2, a1, b1⟩ := kk v' ad' σ' T'.heap (locs ++ L) q2 q3 ⟨r1, by rw [e1]; exact q4, q5, hS, r5, r6.ext r7 q3 hE, q6⟩ q7 T' rfl X'
    exact ⟨t2, st9 t2 a1, b1⟩
  · subst q1
    obtain ⟨-, -, hS⟩ := vx_keep h0 e1 r4 (fun q _ h => h) (fun q h => h) hL hF
    obtain ⟨t2, a1, b1⟩ := kx ex ce9 q ad' σ' T'.heap (locs ++ L) q2 q3 ⟨r1, by rw [e1]; exact q4, q5, hS, r5, r6.ext r7 q3 hE, q6⟩ (by rw [e1]; exact c1) c2 c3 T' rfl X'
    exact ⟨t2, st9.trans a1, b1⟩
/-- what is checked of a call that may throw: where the exception goes -/
def VH (T : Tab) (M : MData) (E : Env4) (xn : Nat → String) (mt pc ex : Nat) : Prop := match hfind (tHD T mt) pc ex with
  | some v => ∃ (pre : List ExceptionTableEntry) (x : ExceptionTableEntry) (suf : List ExceptionTableEntry) (name : String) (i : Nat) (j : Fin 4), tableOf (mH M mt) = pre ++ x :: suf ∧ (∀ z ∈ pre, covers z pc = false ∨ (z.catchType ≠ 0 ∧ ∃ nm : String, Cond.classLink (mY M mt).cls z.catchType nm ∈ AW ∧ (xn ex, nm) ∈ E.2.2.1)) ∧ covers x pc = true ∧ x.catchType ≠ 0 ∧ Cond.classLink (mY M mt).cls x.catchType name ∈ AW ∧ (xn ex, name) ∈ E.2.1 ∧ tRT T mt = some .int ∧
      ((decode (mC M mt) x.handlerPc = .ok (.astore_n j, 1) ∧ (j : Nat) < tML T mt ∧ decode (mC M mt) (x.handlerPc + 1) = .ok (.iconst v, 1) ∧ decode (mC M mt) (x.handlerPc + 1 + 1) = .ok (.ireturn, 1)) ∨ (decode (mC M mt) x.handlerPc = .ok (.astore i, 2) ∧ i < tML T mt ∧ decode (mC M mt) (x.handlerPc + 2) = .ok (.iconst v, 1) ∧ decode (mC M mt) (x.handlerPc + 2 + 1) = .ok (.ireturn, 1)))
  | none => ∀ z ∈ tableOf (mH M mt), covers z pc = false ∨ (z.catchType ≠ 0 ∧ ∃ nm : String, Cond.classLink (mY M mt).cls z.catchType nm ∈ AW ∧ (xn ex, nm) ∈ E.2.2.1)
/-- an exception that came out of a call -/
theorem x_exc {p : Program} {l : Launch} {e : Env} {R : Room} {s : State} {m : MethodId} {args : Array Value} {below : List Frame} {meth : Method} {c : Code} {H : Heap} {locs : List Loc} {cells slots mc ms ex : Nat} {lsM : Array Slot} {rest : List Value} {ad adB : Nat → Nat} {σB : Sto} {q9 : Addr} {ce9 : Cell} (F : FRM T M p l s m args meth c mt) (hR : Rel E G k0 base ad σ s H locs) (hX : Ext k0 adB σB ad σ) (hLM : lsM.size = tML T mt ∧ lv_wf lsM) (hcm : cells ≤ mc ∧ slots ≤ ms) (hv : VH T M E xn mt pc ex)
    (hQ : match hfind (tHD T mt) pc ex with | some v => Q (.inl (some (.int (Int32.ofInt v)))) σ | none => Q (.inr ex) σ) (h1 : H[q9]? = some ce9) (h2 : ce9.vm = .none) (h3 : s.vm.findClass (xn ex) = some ce9.cls) :
    vx_W p l e R s m args below meth c H locs cells slots (vx_MQ below (PQ G k0 base adB σB Q) (PX xn G k0 base adB σB Q) args s mc ms (ab base)) (F0 m pc lsM rest) q9 := by
  obtain ⟨r1, r2, r3, r4, r5, r6, r7⟩ := id hR
  have hNc : ∀ nm : String, (xn ex, nm) ∈ E.2.2.1 → va_Nc (xn ex) nm s := fun nm hm => r6.2.2.2.2.2.2.2.2.2.2.2.1 _ hm
  unfold VH at hv
  cases hf : hfind (tHD T mt) pc ex with
  | none =>
    rw [hf] at hv hQ
    refine vx_outP F.2.2.2.1 F.2.2.2.2.2.1 ?_ h1 h2 h3 (fun t ht _ => ?_) r4.2.2 hcm.1 hcm.2
    · rw [F.2.2.2.2.2.2.2.1]
      intro z hz
      rcases hv z hz with q | ⟨q1, nm, q2, q3⟩
      · exact Or.inl q
      · exact Or.inr ⟨q1, nm, F.2.2.2.2.1 _ q2, hNc nm q3⟩
    · exact ⟨⟨ex, ad, σ, rfl, hQ, hX, by rw [ht]; exact r2, r3, r7⟩, r4.F ht⟩
  | some v =>
    rw [hf] at hv hQ
    obtain ⟨pre, x, suf, name, i, j, w1, w2, w3, w4, w5, w6, w7, w8⟩ := hv
    refine vx_catch F.2.2.2.1 pre x suf (by rw [F.2.2.2.2.2.2.2.1]; exact w1) ?_ w3 w4 (F.2.2.2.2.1 _ w5) (va_Nw.use rfl (r6.2.2.2.2.2.2.2.2.2.2.1.1 _ w6)) h1 h2 h3 ?_
    · intro z hz
      rcases w2 z hz with q | ⟨q1, nm, q2, q3⟩
      · exact Or.inl q
      · exact Or.inr ⟨q1, nm, F.2.2.2.2.1 _ q2, hNc nm q3⟩
    · have hl0 : lv_has lsM (tML T mt) [] := ⟨hLM.1, hLM.2, fun q hq => by cases hq⟩
      have fin : ∀ (pc9 : Nat) (ls9 : Array Slot), decode (mC M mt) pc9 = .ok (.iconst v, 1) → decode (mC M mt) (pc9 + 1) = .ok (.ireturn, 1) → W p l e R s m args below meth c H locs cells slots (vx_MQ below (PQ G k0 base adB σB Q) (PX xn G k0 base adB σB Q) args s mc ms (ab base)) (F0 m pc9 ls9 []) := by
        intro pc9 ls9 d1 d2
        refine lv_iconst F.1 F.2.1 d1 rfl ?_
        refine W.widen (k := mc) (n := ms) hcm.1 hcm.2 (vx_ret ?_)
        refine W.zret F.1 F.2.1 (F.2.2.2.2.2.2.1.trans w7) rfl (fun t ht _ => ?_) r4.2.2 d2 F.2.2.2.2.2.1
        exact ⟨⟨some (.int (Int32.ofInt v)), ad, σ, rfl, hQ, hX, by rw [ht]; exact r2, r3, r7, fun y hy => by cases hy; exact ⟨trivial, trivial⟩⟩, r4.F ht⟩
      rcases w8 with ⟨d1, d2, d3, d4⟩ | ⟨d1, d2, d3, d4⟩
      · exact lv_astore_n F.1 F.2.1 d1 rfl hl0 d2 rfl (fun ls9 _ => fin _ ls9 d3 d4)
      · exact lv_astore F.1 F.2.1 d1 hl0 d2 rfl (fun ls9 _ => fin _ ls9 d3 d4)
end CAL
