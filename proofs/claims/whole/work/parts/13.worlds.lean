/-! ===== the worlds of the kit, by places ===== -/
def ctag : List (List Nat) := [[1, 0, 2, 2, 2, 0, 0, 0], [2, 2, 2, 2, 2], [0, 2, 0, 2, 2, 0, 0, 0, 0, 0, 2, 0, 2, 2, 2], [2, 2, 2, 2, 2], [0, 0, 0, 0, 2, 0, 2, 2, 0, 2, 2, 2, 2, 2, 0, 2, 2, 2, 2], [0, 0, 2, 2], [0, 2, 2, 2, 2, 2, 2, 0, 2, 2], [0, 2, 2, 2, 2, 2], [0, 2, 2, 2, 0, 2], [2, 0, 0, 0, 0, 0, 0], [2, 2, 2, 0, 2], [2, 2, 2, 2, 2, 2, 2, 2, 2, 2, 0, 3, 0], [0, 2, 2, 3, 2, 2, 0, 0, 0, 0, 0, 0, 0, 0, 0, 2, 2, 2, 2, 2, 0, 2, 2, 0, 2, 2, 2, 2, 2]]
abbrev GW : Type := va_G × ClassId × ClassId × ClassId × ClassId × ClassId
def gty (G : GW) : List (ClassId × FieldType) := [(G.2.1, .int), (G.2.2.1, .long), (G.2.2.2.1, .boolean), (G.2.2.2.2.1, .object "GorgeDay$Rule"), (G.2.2.2.2.2, .array .int)]
def fval (ad : Nat → Nat) (σ : Sto) (tag k j : Nat) : Value := match tag with
  | 1 => .long (sL σ k j)
  | 2 => va_rf ((sP σ k j).map ad)
  | _ => .int (sI σ k j)
def fvals (ad : Nat → Nat) (σ : Sto) (k : Nat) (tags : List Nat) : List Value := (List.range tags.length).map fun j => fval ad σ (tags.getD j 0) k j
theorem fvals_len {ad : Nat → Nat} {σ : Sto} {k : Nat} {tags : List Nat} : (fvals ad σ k tags).length = tags.length := by simp [fvals]
theorem fvals_get {ad : Nat → Nat} {σ : Sto} {k j : Nat} {tags : List Nat} (h : j < tags.length) : (fvals ad σ k tags)[j]? = some (fval ad σ (tags.getD j 0) k j) := by
  simp [fvals, h]
/-- the cell of a place -/
def ce (G : GW) (ad : Nat → Nat) (σ : Sto) (k : Nat) : va_E :=
  if sK σ k = 14 then .inl (G.2.1, sZ σ k, .inl (sI σ k))
  else if sK σ k = 15 then .inl (G.2.2.1, sZ σ k, .inr (.inl (sL σ k)))
  else if sK σ k = 16 then .inl (G.2.2.2.1, sZ σ k, .inl (sI σ k))
  else if sK σ k = 17 then .inl (G.2.2.2.2.1, sZ σ k, .inr (.inr (.inr (.inr (fun j => (sP σ k j).map ad)))))
  else if sK σ k = 18 then .inl (G.2.2.2.2.2, sZ σ k, .inr (.inr (.inr (.inr (fun j => (sP σ k j).map ad)))))
  else .inr (sK σ k - 1, fvals ad σ k (ctag.getD (sK σ k - 1) []))
theorem ce_14 {G : GW} {ad : Nat → Nat} {σ : Sto} {k : Nat} (h : sK σ k = 14) : ce G ad σ k = .inl (G.2.1, sZ σ k, .inl (sI σ k)) := if_pos h
theorem ce_15 {G : GW} {ad : Nat → Nat} {σ : Sto} {k : Nat} (h : sK σ k = 15) : ce G ad σ k = .inl (G.2.2.1, sZ σ k, .inr (.inl (sL σ k))) := by simp [ce, h]
theorem ce_16 {G : GW} {ad : Nat → Nat} {σ : Sto} {k : Nat} (h : sK σ k = 16) : ce G ad σ k = .inl (G.2.2.2.1, sZ σ k, .inl (sI σ k)) := by simp [ce, h]
theorem ce_17 {G : GW} {ad : Nat → Nat} {σ : Sto} {k : Nat} (h : sK σ k = 17) : ce G ad σ k = .inl (G.2.2.2.2.1, sZ σ k, .inr (.inr (.inr (.inr (fun j => (sP σ k j).map ad))))) := by simp [ce, h]
theorem ce_18 {G : GW} {ad : Nat → Nat} {σ : Sto} {k : Nat} (h : sK σ k = 18) : ce G ad σ k = .inl (G.2.2.2.2.2, sZ σ k, .inr (.inr (.inr (.inr (fun j => (sP σ k j).map ad))))) := by simp [ce, h]
theorem ce_ob {G : GW} {ad : Nat → Nat} {σ : Sto} {k ci : Nat} (h : sK σ k = ci + 1) (hc : ci < 13) : ce G ad σ k = .inr (ci, fvals ad σ k (ctag.getD ci [])) := by
  unfold ce
  rw [if_neg (by omega), if_neg (by omega), if_neg (by omega), if_neg (by omega), if_neg (by omega), h]
  rfl
/-- the cell of a place depends on its own rows and on the addresses of what it names -/
theorem ce_congr {G : GW} {ad ad' : Nat → Nat} {σ σ' : Sto} {k n : Nat} (hK : sK σ' k = sK σ k) (hZ : sZ σ' k = sZ σ k) (hI : sI σ' k = sI σ k) (hL : sL σ' k = sL σ k) (hP : sP σ' k = sP σ k) (hb : ∀ j q, sP σ k j = some q → q < n) (ha : ∀ q, q < n → ad' q = ad q) : ce G ad' σ' k = ce G ad σ k := by
  have e : ∀ j, (sP σ k j).map ad' = (sP σ k j).map ad := fun j => by
    cases hq : sP σ k j with
    | none => rfl
    | some q => exact congrArg some (ha q (hb j q hq))
  have ef : (fun j => (sP σ k j).map ad') = fun j => (sP σ k j).map ad := funext e
  have ev : fvals ad' σ' k (ctag.getD (sK σ k - 1) []) = fvals ad σ k (ctag.getD (sK σ k - 1) []) := by
    unfold fvals
    refine List.map_congr_left fun j _ => ?_
    unfold fval
    rw [hL, hP, hI, e]
  unfold ce
  rw [hK, hZ, hI, hL, hP, ef, ev]
def wl (G : GW) (k0 : Nat) (ad : Nat → Nat) (σ : Sto) : va_W := (List.range (sN σ - k0)).map fun i => (ad (k0 + i), ce G ad σ (k0 + i))
theorem wl_get {G : GW} {k0 : Nat} {ad : Nat → Nat} {σ : Sto} {o : Nat} (h1 : k0 ≤ o) (h2 : o < sN σ) : (wl G k0 ad σ)[o - k0]? = some (ad o, ce G ad σ o) := by
  unfold wl
  rw [List.getElem?_map, List.getElem?_range (by omega)]
  show some (ad (k0 + (o - k0)), ce G ad σ (k0 + (o - k0))) = _
  rw [Nat.add_sub_cancel' h1]
theorem wl_set {G : GW} {k0 : Nat} {ad : Nat → Nat} {σ σ' : Sto} {o : Nat} {e : va_E} (h1 : k0 ≤ o) (hN : sN σ' = sN σ) (ho : ∀ k, k0 ≤ k → k ≠ o → ce G ad σ' k = ce G ad σ k) (he : ce G ad σ' o = e) : (wl G k0 ad σ).set (o - k0) (ad o, e) = wl G k0 ad σ' := by
  subst he
  apply List.ext_getElem?
  intro i
  unfold wl
  rw [List.getElem?_set, List.getElem?_map, List.getElem?_map, hN]
  by_cases hi : i < sN σ - k0
  · rw [List.getElem?_range hi]
    split
    · rename_i e
      subst e
      rw [if_pos (by simpa using hi)]
      show _ = some (ad (k0 + (o - k0)), ce G ad σ' (k0 + (o - k0)))
      rw [Nat.add_sub_cancel' h1]
    · rename_i hne
      show some (ad (k0 + i), ce G ad σ (k0 + i)) = some (ad (k0 + i), ce G ad σ' (k0 + i))
      rw [ho (k0 + i) (by omega) (by omega)]
  · have hn : (List.range (sN σ - k0))[i]? = none := List.getElem?_eq_none (by rw [List.length_range]; omega)
    rw [hn]
    split
    · rename_i e
      subst e
      rw [if_neg (by simpa using hi)]
      rfl
    · rfl
theorem wl_push {G : GW} {k0 : Nat} {ad : Nat → Nat} {σ σ' : Sto} {a : Nat} {e : va_E} (h1 : k0 ≤ sN σ) (hN : sN σ' = sN σ + 1) (ho : ∀ k, k0 ≤ k → k < sN σ → ce G (up ad (sN σ) a) σ' k = ce G ad σ k) (he : ce G (up ad (sN σ) a) σ' (sN σ) = e) : wl G k0 ad σ ++ [(a, e)] = wl G k0 (up ad (sN σ) a) σ' := by
  subst he
  unfold wl
  rw [hN, show sN σ + 1 - k0 = (sN σ - k0) + 1 by omega, List.range_succ, List.map_append]
  refine congr (congrArg _ (List.map_congr_left fun i hi => ?_)) ?_
  · have hi := List.mem_range.mp hi
    rw [ho (k0 + i) (by omega) (by omega), up_ne (by omega)]
  · show _ = [(up ad (sN σ) a (k0 + (sN σ - k0)), _)]
    rw [Nat.add_sub_cancel' h1, up_eq]
