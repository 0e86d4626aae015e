/-! ===== reads and writes of the heap ===== -/
theorem sK_setI {σ : Sto} {k j : Nat} {v : Int32} : sK (setI σ k j v) = sK σ := rfl
theorem sN_setI {σ : Sto} {k j : Nat} {v : Int32} : sN (setI σ k j v) = sN σ := rfl
theorem sZ_setI {σ : Sto} {k j : Nat} {v : Int32} : sZ (setI σ k j v) = sZ σ := rfl
theorem sL_setI {σ : Sto} {k j : Nat} {v : Int32} : sL (setI σ k j v) = sL σ := rfl
theorem sP_setI {σ : Sto} {k j : Nat} {v : Int32} : sP (setI σ k j v) = sP σ := rfl
theorem sI_setI {σ : Sto} {k j : Nat} {v : Int32} : sI (setI σ k j v) = up (sI σ) k (up (sI σ k) j v) := rfl
theorem up_upd (f : Nat → Int32) (k : Nat) (x : Int32) : upd f k x = up f k x := rfl
theorem up_updL (f : Nat → Int64) (k : Nat) (x : Int64) : vp_updL f k x = up f k x := rfl
theorem up_va {α : Type} (f : Nat → α) (k : Nat) (x : α) : va_up f k x = up f k x := rfl
/-- two stores that differ in the rows of one new place -/
def At1 (σ σ' : Sto) (o : Nat) : Prop := sN σ' = sN σ ∧ sK σ' = sK σ ∧ sZ σ' = sZ σ ∧ (∀ k, k ≠ o → sI σ' k = sI σ k ∧ sL σ' k = sL σ k ∧ sP σ' k = sP σ k)
theorem At1.i {σ : Sto} {o j : Nat} {v : Int32} : At1 σ (setI σ o j v) o := ⟨rfl, rfl, rfl, fun k h => ⟨up_ne h, rfl, rfl⟩⟩
theorem At1.l {σ : Sto} {o j : Nat} {v : Int64} : At1 σ (setL σ o j v) o := ⟨rfl, rfl, rfl, fun k h => ⟨rfl, up_ne h, rfl⟩⟩
theorem At1.p {σ : Sto} {o j : Nat} {v : Option Nat} : At1 σ (setP σ o j v) o := ⟨rfl, rfl, rfl, fun k h => ⟨rfl, rfl, up_ne h⟩⟩
theorem At1.r {σ : Sto} {o : Nat} {f : Nat → Int32} : At1 σ (rowI σ o f) o := ⟨rfl, rfl, rfl, fun k h => ⟨up_ne h, rfl, rfl⟩⟩
theorem At1.cel {G : GW} {ad : Nat → Nat} {σ σ' : Sto} {o k : Nat} (h : At1 σ σ' o) (hk : k ≠ o) : ce G ad σ' k = ce G ad σ k := by
  obtain ⟨h1, h2, h3, h4⟩ := h
  obtain ⟨a, b, c⟩ := h4 k hk
  unfold ce fvals fval
  rw [h2, h3, a, b, c]
theorem At1.old {k0 : Nat} {σ σ' : Sto} {o : Nat} (h : At1 σ σ' o) (ho : k0 ≤ o) : OldSame k0 σ σ' := fun k hk => ⟨congrFun h.2.1 k, congrFun h.2.2.1 k, (h.2.2.2 k (by omega)).1, (h.2.2.2 k (by omega)).2.2⟩
theorem At1.sh {k0 : Nat} {σ σ' : Sto} {o : Nat} (h : At1 σ σ' o) (hp : ∀ j q, sP σ' o j = some q → q < sN σ) (hs : ShR k0 σ) : ShR k0 σ' := by
  obtain ⟨h1, h2, h3, h4⟩ := h
  obtain ⟨a, b, c, d, e⟩ := hs
  refine ⟨by rw [h1]; exact a, by rw [h1, h2]; exact b, by rw [h2]; exact c, by rw [h1, h2]; exact d, fun k j q hq => ?_⟩
  rw [h1]
  by_cases hk : k = o
  · subst hk; exact hp j q hq
  · rw [(h4 k hk).2.2] at hq; exact e k j q hq
theorem Rel.at1 {E : Env4} {G : GW} {k0 base : Nat} {ad : Nat → Nat} {σ σ' : Sto} {s : State} {H H1 : Heap} {locs locs1 : List Loc} {o : Nat} {e : va_E} (hE : ∀ q ∈ E.2.2.2, q.2.2.2 < k0) (h : Rel E G k0 base ad σ s H locs) (ha : At1 σ σ' o) (ho : k0 ≤ o) (hp : ∀ j q, sP σ' o j = some q → q < sN σ) (he : ce G ad σ' o = e)
    (h1 : va_P G.1 vwCl ((wl G k0 ad σ).set (o - k0) (ad o, e)) H1) (h2 : va_D (ab base) ((wl G k0 ad σ).set (o - k0) (ad o, e))) (h3 : va_S (ab base) s.heap H1 locs1) : Rel E G k0 base ad σ' s H1 locs1 ∧ Ext k0 ad σ ad σ' := by
  obtain ⟨a, b, c, d, f, g, i⟩ := h
  have hw := wl_set (G := G) (ad := ad) (σ := σ) (σ' := σ') ho ha.1 (fun k _ hk => ha.cel hk) he
  rw [hw] at h1 h2
  have hx : Ext k0 ad σ ad σ' := ⟨Nat.le_of_eq ha.1.symm, fun _ _ => rfl, ha.old ho⟩
  exact ⟨⟨a, h1, h2, h3, f, g.ext i hx hE, ha.sh hp i⟩, hx⟩
theorem fvals_set {ad : Nat → Nat} {σ σ' : Sto} {o j : Nat} {tags : List Nat} {v : Value} (hv : fval ad σ' (tags.getD j 0) o j = v) (ho : ∀ i, i ≠ j → ∀ t, fval ad σ' t o i = fval ad σ t o i) : (fvals ad σ o tags).set j v = fvals ad σ' o tags := by
  subst hv
  apply List.ext_getElem?
  intro i
  unfold fvals
  rw [List.getElem?_set, List.getElem?_map, List.getElem?_map]
  by_cases hi : i < tags.length
  · rw [List.getElem?_range hi]
    split
    · rename_i q; subst q; rw [if_pos (by simpa using hi)]; rfl
    · rename_i q
      show some (fval ad σ (tags.getD i 0) o i) = some (fval ad σ' (tags.getD i 0) o i)
      rw [ho i (fun z => q z.symm)]
  · have hn : (List.range tags.length)[i]? = none := List.getElem?_eq_none (by rw [List.length_range]; omega)
    rw [hn]
    split
    · rename_i q; subst q; rw [if_neg (by simpa using hi)]; rfl
    · rfl
/-- the classes' tables -/
def ctyp : List (Nat → FieldType) := [tyX0, tyX1, tyX2, tyX3, tyX4, tyX5, tyX6, tyX7, tyX8, tyX9, tyX10, tyX11, tyX12]
def cty (ci : Nat) : Nat → FieldType := ctyp.getD ci (fun _ => .int)
def tagty (tag : Nat) (ty : FieldType) : Prop := match tag with
  | 0 => ty = .int
  | 1 => ty = .long
  | 2 => (∃ n, ty = .object n) ∨ ∃ t, ty = .array t
  | 3 => ty = .boolean
  | _ => False
/-- what is checked of a class -/
def VC (ci : Nat) (C : String) (Tt : u_T) (N : Nat) : Prop := vwCl[ci]? = some (C, Tt, N) ∧ ci < 13 ∧ N = (ctag.getD ci []).length ∧ (∀ w ∈ u_ws C Tt N, w ∈ AW) ∧ (∀ a, a < N → ∀ b, b < N → a ≠ b → (Tt a).2.1 ≠ (Tt b).2.1) ∧ (∀ k, k < N → parseFieldDescriptor (Tt k).2.2.1 = some (cty ci k)) ∧ (∀ k, k < N → tagty ((ctag.getD ci []).getD k 0) (cty ci k)) ∧ Cond.instantiable C N ∈ AW ∧ Cond.initialized C ∈ AW ∧ N ≤ 32
/-- what is checked of a field's link -/
def VF (M : MData) (mt ix ci j tag : Nat) (C : String) (Tt : u_T) (N : Nat) : Prop := VC ci C Tt N ∧ j < N ∧ (ctag.getD ci []).getD j 0 = tag % 8 ∧ Cond.fieldLink (mY M mt).cls ix (Tt j).1 (Tt j).2.1 (Tt j).2.2.1 ∈ AW
section MEM
variable {T : Tab} {M : MData} {E : Env4} {G : GW} {xn : Nat → String} {k0 base : Nat} {d : Nat} {B : Nat × Nat} {mt pc : Nat} {ls st : List Value} {σ : Sto} {Q : Out → Sto → Prop}
theorem x_get {ix ci j tag o : Nat} {C : String} {Tt : u_T} {N : Nat} {v : Value} (hd : decode (mC M mt) pc = .ok (.getfield ix, 3)) (hf : VF M mt ix ci j tag C Tt N) (hk : sK σ o = ci + 1) (hv : ∀ ad, tr ad v = fval ad σ (tag % 8) o j) (hb : ShR k0 σ → vb (sN σ) v ∧ okv v)
    (h : X0 T M E G xn k0 base d B mt (pc + 3) ls (v :: st) σ Q) : X0 T M E G xn k0 base d B mt pc ls (.ref o :: st) σ Q := by
  intro p l e R s m args below meth c H locs cells slots lsM ad adB σB mc ms F hR hX hL hbl hbs hrm
  obtain ⟨⟨c1, c2, c3, c4, -⟩, f2, f3, f4⟩ := hf
  obtain ⟨a, b, c', d', f, g, i⟩ := id hR
  have ho := i.new hk (by omega) (by omega)
  have he := wl_get (G := G) (ad := ad) ho.1 ho.2
  rw [ce_ob hk c2] at he
  refine va_get (C := C) (T := Tt) (N := N) (ci := ci) F.1 F.2.1 F.2.2.2.2.1 c4 F.2.2.2.1 a b (o - k0) he c1 j f2 (F.2.2.2.2.1 _ f4) (fun x h => h) (v := tr ad v) ?_ hd ?_
  · rw [fvals_get (by omega), f3, hv]
  · exact h p l e R s m args below meth c H locs cells slots lsM ad adB σB mc ms F hR hX hL hbl (hbs.tail.cons (hb i)) hrm
/-- a field of a text -/
theorem x_getS {ix o : Nat} {n de : String} {v : Value} (hd : decode (mC M mt) pc = .ok (.getfield ix, 3)) (hf : Cond.fieldLink (mY M mt).cls ix "java/lang/String" n de ∈ AW) (hk : sK σ o = 19) (hv : ∀ ad s, OldR E k0 base ad σ s → o < k0 → va_OF "java/lang/String" n de (tr ad v) (ad o) (ab base) s s.heap) (hb : ShR k0 σ → vb (sN σ) v ∧ okv v)
    (h : X0 T M E G xn k0 base d B mt (pc + 3) ls (v :: st) σ Q) : X0 T M E G xn k0 base d B mt pc ls (.ref o :: st) σ Q := by
  intro p l e R s m args below meth c H locs cells slots lsM ad adB σB mc ms F hR hX hL hbl hbs hrm
  obtain ⟨a, b, c', d', f, g, i⟩ := id hR
  have ho := i.old hk (by omega)
  refine vk_getf (v := tr ad v) F.1 F.2.1 (hv ad s g ho) d' F.2.2.2.1 (F.2.2.2.2.1 _ hf) (fun x h => h) hd ?_
  exact h p l e R s m args below meth c H locs cells slots lsM ad adB σB mc ms F hR hX hL hbl (hbs.tail.cons (hb i)) hrm
theorem x_put {ix ci j tag o : Nat} {C : String} {Tt : u_T} {N : Nat} {v : Value} {σ' : Sto} (hE : ∀ q ∈ E.2.2.2, q.2.2.2 < k0) (hd : decode (mC M mt) pc = .ok (.putfield ix, 3)) (hf : VF M mt ix ci j tag C Tt N) (hfin : (Tt j).2.2.2 = false ∨ ((mY M mt).name = "<init>" ∧ (Tt j).1 = (mY M mt).cls)) (hk : sK σ o = ci + 1)
    (ha : At1 σ σ' o) (hp : ShR k0 σ → vb (sN σ) v → ∀ i q, sP σ' o i = some q → q < sN σ) (hv : ∀ ad, tr ad v = fval ad σ' (tag % 8) o j) (ho' : ∀ ad i, i ≠ j → ∀ t, fval ad σ' t o i = fval ad σ t o i) (hn : ∀ ad ty, tagty (tag % 8) ty → narrow ty (tr ad v) = tr ad v ∧ fits ty (tr ad v) = true)
    (h : X0 T M E G xn k0 base d B mt (pc + 3) ls st σ' Q) : X0 T M E G xn k0 base d B mt pc ls (v :: .ref o :: st) σ Q := by
  intro p l e R s m args below meth c H locs cells slots lsM ad adB σB mc ms F hR hX hL hbl hbs hrm
  obtain ⟨⟨c1, c2, c3, c4, c5, c6, c7, -⟩, f2, f3, f4⟩ := hf
  obtain ⟨a, b, c', d', f, g, i⟩ := id hR
  have ho := i.new hk (by omega) (by omega)
  have he := wl_get (G := G) (ad := ad) ho.1 ho.2
  rw [ce_ob hk c2] at he
  have ht := c7 j f2
  rw [f3] at ht
  obtain ⟨n1, n2⟩ := hn ad _ ht
  have hce : ce G ad σ' o = .inr (ci, (fvals ad σ o (ctag.getD ci [])).set j (tr ad v)) := by
    rw [ce_ob (by rw [ha.2.1]; exact hk) c2, fvals_set (by rw [f3, hv ad]) (ho' ad)]
  have fin : ∀ (H1 : Heap) (locs1 : List Loc), va_P G.1 vwCl ((wl G k0 ad σ).set (o - k0) (ad o, .inr (ci, (fvals ad σ o (ctag.getD ci [])).set j (tr ad v)))) H1 → va_D (ab base) ((wl G k0 ad σ).set (o - k0) (ad o, .inr (ci, (fvals ad σ o (ctag.getD ci [])).set j (tr ad v)))) → va_S (ab base) s.heap H1 locs1 → W p l e R s m args below meth c H1 locs1 cells slots (vx_MQ below (PQ G k0 base adB σB Q) (PX xn G k0 base adB σB Q) args s mc ms (ab base)) (F0 m (pc + 3) lsM (st.map (tr ad))) := by
    intro H1 locs1 h1 h2 h3
    obtain ⟨hR', hx⟩ := Rel.at1 hE hR ha ho.1 (hp i hbs.head.1) hce h1 h2 h3
    exact h p l e R s m args below meth c H1 locs1 cells slots lsM ad adB σB mc ms F hR' (hX.trans hx) hL (by rw [ha.1]; exact hbl) (by rw [ha.1]; exact hbs.tail.tail) hrm
  by_cases hq : (Tt j).2.2.2 = false
  · exact va_put (C := C) (T := Tt) (N := N) (ci := ci) F.1 F.2.1 F.2.2.2.2.1 c4 (cty ci) c6 c5 F.2.2.2.1 a b c' d' (o - k0) he c1 j f2 (F.2.2.2.2.1 _ f4) (fun x h => h) hq (c6 j f2) n1 n2 (by rw [fvals_len]; omega) hd fin
  · rcases hfin with hq2 | ⟨q1, q2⟩
    · exact absurd hq2 hq
    · exact va_putF (C := C) (T := Tt) (N := N) (ci := ci) F.1 F.2.1 F.2.2.2.2.1 c4 (cty ci) c6 c5 F.2.2.2.1 a b c' d' (o - k0) he c1 j f2 (F.2.2.2.2.1 _ f4) (fun x h => h) (by simpa using hq) (by rw [F.2.2.2.2.2.2.2.2.1]; exact q1) q2 (c6 j f2) n1 n2 (by rw [fvals_len]; omega) hd fin
end MEM
