/-! ===== the classes ===== -/
theorem vt_0 : ∀ j, j < 8 → tagty ((ctag.getD 0 []).getD j 0) (cty 0 j) := by
  intro j hj
  match j, hj with
  | 0, _ => exact rfl
  | 1, _ => exact rfl
  | 2, _ => exact Or.inr ⟨_, rfl⟩
  | 3, _ => exact Or.inr ⟨_, rfl⟩
  | 4, _ => exact Or.inr ⟨_, rfl⟩
  | 5, _ => exact rfl
  | 6, _ => exact rfl
  | 7, _ => exact rfl
  | n + 8, h => exact absurd h (by omega)
theorem vcl_0 : VC 0 RX0 TX0 8 := ⟨rfl, by decide, by decide, chkw_ok (ps := [(2, 146), (2, 148), (2, 150), (2, 152), (2, 154), (2, 156), (2, 158), (2, 160)]) (by decide +kernel), nmX0, tyX0_ok, vt_0, wok (k := 2) (i := 132) rfl rfl, wok (k := 1) (i := 9) rfl rfl, by decide⟩
theorem vt_1 : ∀ j, j < 5 → tagty ((ctag.getD 1 []).getD j 0) (cty 1 j) := by
  intro j hj
  match j, hj with
  | 0, _ => exact Or.inr ⟨_, rfl⟩
  | 1, _ => exact Or.inr ⟨_, rfl⟩
  | 2, _ => exact Or.inr ⟨_, rfl⟩
  | 3, _ => exact Or.inr ⟨_, rfl⟩
  | 4, _ => exact Or.inr ⟨_, rfl⟩
  | n + 5, h => exact absurd h (by omega)
theorem vcl_1 : VC 1 RX1 TX1 5 := ⟨rfl, by decide, by decide, chkw_ok (ps := [(2, 120), (2, 122), (2, 124), (2, 126), (2, 128)]) (by decide +kernel), nmX1, tyX1_ok, vt_1, wok (k := 2) (i := 109) rfl rfl, wok (k := 1) (i := 8) rfl rfl, by decide⟩
theorem vt_2 : ∀ j, j < 15 → tagty ((ctag.getD 2 []).getD j 0) (cty 2 j) := by
  intro j hj
  match j, hj with
  | 0, _ => exact rfl
  | 1, _ => exact Or.inl ⟨_, rfl⟩
  | 2, _ => exact rfl
  | 3, _ => exact Or.inr ⟨_, rfl⟩
  | 4, _ => exact Or.inl ⟨_, rfl⟩
  | 5, _ => exact rfl
  | 6, _ => exact rfl
  | 7, _ => exact rfl
  | 8, _ => exact rfl
  | 9, _ => exact rfl
  | 10, _ => exact Or.inr ⟨_, rfl⟩
  | 11, _ => exact rfl
  | 12, _ => exact Or.inr ⟨_, rfl⟩
  | 13, _ => exact Or.inr ⟨_, rfl⟩
  | 14, _ => exact Or.inr ⟨_, rfl⟩
  | n + 15, h => exact absurd h (by omega)
theorem vcl_2 : VC 2 RX2 TX2 15 := ⟨rfl, by decide, by decide, chkw_ok (ps := [(2, 47), (2, 49), (2, 51), (2, 53), (2, 55), (2, 57), (2, 59), (2, 61), (2, 63), (2, 65), (2, 67), (2, 69), (2, 71), (2, 73), (2, 75)]) (by decide +kernel), nmX2, tyX2_ok, vt_2, wok (k := 1) (i := 192) rfl rfl, wok (k := 1) (i := 5) rfl rfl, by decide⟩
theorem vt_3 : ∀ j, j < 5 → tagty ((ctag.getD 3 []).getD j 0) (cty 3 j) := by
  intro j hj
  match j, hj with
  | 0, _ => exact Or.inr ⟨_, rfl⟩
  | 1, _ => exact Or.inr ⟨_, rfl⟩
  | 2, _ => exact Or.inr ⟨_, rfl⟩
  | 3, _ => exact Or.inr ⟨_, rfl⟩
  | 4, _ => exact Or.inr ⟨_, rfl⟩
  | n + 5, h => exact absurd h (by omega)
theorem vcl_3 : VC 3 RX3 TX3 5 := ⟨rfl, by decide, by decide, chkw_ok (ps := [(2, 97), (2, 99), (2, 101), (2, 103), (2, 105)]) (by decide +kernel), nmX3, tyX3_ok, vt_3, wok (k := 2) (i := 80) rfl rfl, wok (k := 1) (i := 7) rfl rfl, by decide⟩
theorem vt_4 : ∀ j, j < 19 → tagty ((ctag.getD 4 []).getD j 0) (cty 4 j) := by
  intro j hj
  match j, hj with
  | 0, _ => exact rfl
  | 1, _ => exact rfl
  | 2, _ => exact rfl
  | 3, _ => exact rfl
  | 4, _ => exact Or.inr ⟨_, rfl⟩
  | 5, _ => exact rfl
  | 6, _ => exact Or.inr ⟨_, rfl⟩
  | 7, _ => exact Or.inr ⟨_, rfl⟩
  | 8, _ => exact rfl
  | 9, _ => exact Or.inr ⟨_, rfl⟩
  | 10, _ => exact Or.inr ⟨_, rfl⟩
  | 11, _ => exact Or.inr ⟨_, rfl⟩
  | 12, _ => exact Or.inr ⟨_, rfl⟩
  | 13, _ => exact Or.inr ⟨_, rfl⟩
  | 14, _ => exact rfl
  | 15, _ => exact Or.inr ⟨_, rfl⟩
  | 16, _ => exact Or.inr ⟨_, rfl⟩
  | 17, _ => exact Or.inr ⟨_, rfl⟩
  | 18, _ => exact Or.inr ⟨_, rfl⟩
  | n + 19, h => exact absurd h (by omega)
theorem vcl_4 : VC 4 RX4 TX4 19 := ⟨rfl, by decide, by decide, chkw_ok (ps := [(1, 127), (1, 129), (1, 131), (1, 133), (1, 135), (1, 137), (1, 139), (1, 141), (1, 143), (1, 145), (1, 147), (1, 149), (1, 151), (1, 153), (1, 155), (1, 157), (1, 159), (1, 161), (1, 163)]) (by decide +kernel), nmX4, tyX4_ok, vt_4, wok (k := 1) (i := 68) rfl rfl, wok (k := 1) (i := 3) rfl rfl, by decide⟩
theorem vt_5 : ∀ j, j < 4 → tagty ((ctag.getD 5 []).getD j 0) (cty 5 j) := by
  intro j hj
  match j, hj with
  | 0, _ => exact rfl
  | 1, _ => exact rfl
  | 2, _ => exact Or.inr ⟨_, rfl⟩
  | 3, _ => exact Or.inr ⟨_, rfl⟩
  | n + 4, h => exact absurd h (by omega)
theorem vcl_5 : VC 5 RX5 TX5 4 := ⟨rfl, by decide, by decide, chkw_ok (ps := [(2, 205), (2, 207), (2, 209), (2, 211)]) (by decide +kernel), nmX5, tyX5_ok, vt_5, wok (k := 2) (i := 194) rfl rfl, wok (k := 1) (i := 11) rfl rfl, by decide⟩
theorem vt_6 : ∀ j, j < 10 → tagty ((ctag.getD 6 []).getD j 0) (cty 6 j) := by
  intro j hj
  match j, hj with
  | 0, _ => exact rfl
  | 1, _ => exact Or.inr ⟨_, rfl⟩
  | 2, _ => exact Or.inr ⟨_, rfl⟩
  | 3, _ => exact Or.inr ⟨_, rfl⟩
  | 4, _ => exact Or.inr ⟨_, rfl⟩
  | 5, _ => exact Or.inr ⟨_, rfl⟩
  | 6, _ => exact Or.inr ⟨_, rfl⟩
  | 7, _ => exact rfl
  | 8, _ => exact Or.inr ⟨_, rfl⟩
  | 9, _ => exact Or.inr ⟨_, rfl⟩
  | n + 10, h => exact absurd h (by omega)
theorem vcl_6 : VC 6 RX6 TX6 10 := ⟨rfl, by decide, by decide, chkw_ok (ps := [(1, 231), (1, 233), (1, 235), (1, 237), (1, 239), (2, 1), (2, 3), (2, 5), (2, 7), (2, 9)]) (by decide +kernel), nmX6, tyX6_ok, vt_6, wok (k := 1) (i := 201) rfl rfl, wok (k := 1) (i := 6) rfl rfl, by decide⟩
theorem vt_7 : ∀ j, j < 6 → tagty ((ctag.getD 7 []).getD j 0) (cty 7 j) := by
  intro j hj
  match j, hj with
  | 0, _ => exact rfl
  | 1, _ => exact Or.inr ⟨_, rfl⟩
  | 2, _ => exact Or.inr ⟨_, rfl⟩
  | 3, _ => exact Or.inr ⟨_, rfl⟩
  | 4, _ => exact Or.inr ⟨_, rfl⟩
  | 5, _ => exact Or.inr ⟨_, rfl⟩
  | n + 6, h => exact absurd h (by omega)
theorem vcl_7 : VC 7 RX7 TX7 6 := ⟨rfl, by decide, by decide, chkw_ok (ps := [(4, 182), (4, 184), (4, 186), (4, 188), (4, 190), (4, 192)]) (by decide +kernel), nmX7, tyX7_ok, vt_7, wok (k := 4) (i := 159) rfl rfl, wok (k := 1) (i := 24) rfl rfl, by decide⟩
theorem vt_8 : ∀ j, j < 6 → tagty ((ctag.getD 8 []).getD j 0) (cty 8 j) := by
  intro j hj
  match j, hj with
  | 0, _ => exact rfl
  | 1, _ => exact Or.inr ⟨_, rfl⟩
  | 2, _ => exact Or.inr ⟨_, rfl⟩
  | 3, _ => exact Or.inr ⟨_, rfl⟩
  | 4, _ => exact rfl
  | 5, _ => exact Or.inr ⟨_, rfl⟩
  | n + 6, h => exact absurd h (by omega)
theorem vcl_8 : VC 8 RX8 TX8 6 := ⟨rfl, by decide, by decide, chkw_ok (ps := [(1, 178), (1, 180), (1, 182), (1, 184), (1, 186), (1, 188)]) (by decide +kernel), nmX8, tyX8_ok, vt_8, wok (k := 1) (i := 167) rfl rfl, wok (k := 1) (i := 4) rfl rfl, by decide⟩
theorem vt_9 : ∀ j, j < 7 → tagty ((ctag.getD 9 []).getD j 0) (cty 9 j) := by
  intro j hj
  match j, hj with
  | 0, _ => exact Or.inr ⟨_, rfl⟩
  | 1, _ => exact rfl
  | 2, _ => exact rfl
  | 3, _ => exact rfl
  | 4, _ => exact rfl
  | 5, _ => exact rfl
  | 6, _ => exact rfl
  | n + 7, h => exact absurd h (by omega)
theorem vcl_9 : VC 9 RX9 TX9 7 := ⟨rfl, by decide, by decide, chkw_ok (ps := [(1, 51), (1, 53), (1, 55), (1, 57), (1, 59), (1, 61), (1, 63)]) (by decide +kernel), nmX9, tyX9_ok, vt_9, wok (k := 1) (i := 37) rfl rfl, wok (k := 1) (i := 2) rfl rfl, by decide⟩
theorem vt_10 : ∀ j, j < 5 → tagty ((ctag.getD 10 []).getD j 0) (cty 10 j) := by
  intro j hj
  match j, hj with
  | 0, _ => exact Or.inl ⟨_, rfl⟩
  | 1, _ => exact Or.inl ⟨_, rfl⟩
  | 2, _ => exact Or.inr ⟨_, rfl⟩
  | 3, _ => exact rfl
  | 4, _ => exact Or.inr ⟨_, rfl⟩
  | n + 5, h => exact absurd h (by omega)
theorem vcl_10 : VC 10 RX10 TX10 5 := ⟨rfl, by decide, by decide, chkw_ok (ps := [(2, 182), (2, 184), (2, 186), (2, 188), (2, 190)]) (by decide +kernel), nmX10, tyX10_ok, vt_10, wok (k := 2) (i := 164) rfl rfl, wok (k := 1) (i := 10) rfl rfl, by decide⟩
theorem vt_11 : ∀ j, j < 13 → tagty ((ctag.getD 11 []).getD j 0) (cty 11 j) := by
  intro j hj
  match j, hj with
  | 0, _ => exact Or.inl ⟨_, rfl⟩
  | 1, _ => exact Or.inl ⟨_, rfl⟩
  | 2, _ => exact Or.inl ⟨_, rfl⟩
  | 3, _ => exact Or.inl ⟨_, rfl⟩
  | 4, _ => exact Or.inl ⟨_, rfl⟩
  | 5, _ => exact Or.inl ⟨_, rfl⟩
  | 6, _ => exact Or.inl ⟨_, rfl⟩
  | 7, _ => exact Or.inl ⟨_, rfl⟩
  | 8, _ => exact Or.inl ⟨_, rfl⟩
  | 9, _ => exact Or.inl ⟨_, rfl⟩
  | 10, _ => exact rfl
  | 11, _ => exact rfl
  | 12, _ => exact rfl
  | n + 13, h => exact absurd h (by omega)
theorem vcl_11 : VC 11 RX11 TX11 13 := ⟨rfl, by decide, by decide, chkw_ok (ps := [(2, 227), (2, 229), (2, 231), (2, 233), (2, 235), (2, 237), (2, 239), (3, 1), (3, 3), (3, 5), (3, 7), (3, 9), (3, 11)]) (by decide +kernel), nmX11, tyX11_ok, vt_11, wok (k := 1) (i := 29) rfl rfl, wok (k := 1) (i := 1) rfl rfl, by decide⟩
theorem vt_12 : ∀ j, j < 29 → tagty ((ctag.getD 12 []).getD j 0) (cty 12 j) := by
  intro j hj
  match j, hj with
  | 0, _ => exact rfl
  | 1, _ => exact Or.inr ⟨_, rfl⟩
  | 2, _ => exact Or.inr ⟨_, rfl⟩
  | 3, _ => exact rfl
  | 4, _ => exact Or.inr ⟨_, rfl⟩
  | 5, _ => exact Or.inr ⟨_, rfl⟩
  | 6, _ => exact rfl
  | 7, _ => exact rfl
  | 8, _ => exact rfl
  | 9, _ => exact rfl
  | 10, _ => exact rfl
  | 11, _ => exact rfl
  | 12, _ => exact rfl
  | 13, _ => exact rfl
  | 14, _ => exact rfl
  | 15, _ => exact Or.inr ⟨_, rfl⟩
  | 16, _ => exact Or.inr ⟨_, rfl⟩
  | 17, _ => exact Or.inr ⟨_, rfl⟩
  | 18, _ => exact Or.inr ⟨_, rfl⟩
  | 19, _ => exact Or.inr ⟨_, rfl⟩
  | 20, _ => exact rfl
  | 21, _ => exact Or.inr ⟨_, rfl⟩
  | 22, _ => exact Or.inr ⟨_, rfl⟩
  | 23, _ => exact rfl
  | 24, _ => exact Or.inr ⟨_, rfl⟩
  | 25, _ => exact Or.inr ⟨_, rfl⟩
  | 26, _ => exact Or.inr ⟨_, rfl⟩
  | 27, _ => exact Or.inr ⟨_, rfl⟩
  | 28, _ => exact Or.inr ⟨_, rfl⟩
  | n + 29, h => exact absurd h (by omega)
theorem vcl_12 : VC 12 RX12 TX12 29 := ⟨rfl, by decide, by decide, chkw_ok (ps := [(7, 77), (7, 79), (7, 81), (7, 83), (7, 85), (7, 87), (7, 89), (7, 91), (7, 93), (7, 95), (7, 97), (7, 99), (7, 101), (7, 103), (7, 105), (7, 107), (7, 109), (7, 111), (7, 113), (7, 115), (7, 117), (7, 119), (7, 121), (7, 123), (7, 125), (7, 127), (7, 129), (7, 131), (7, 133)]) (by decide +kernel), nmX12, tyX12_ok, vt_12, wok (k := 7) (i := 42) rfl rfl, wok (k := 1) (i := 12) rfl rfl, by decide⟩
theorem vcs : ∀ ci C Tt N, vwCl[ci]? = some (C, Tt, N) → VC ci C Tt N := by
  intro ci C Tt N h
  match ci, h with
  | 0, h => cases h; exact vcl_0
  | 1, h => cases h; exact vcl_1
  | 2, h => cases h; exact vcl_2
  | 3, h => cases h; exact vcl_3
  | 4, h => cases h; exact vcl_4
  | 5, h => cases h; exact vcl_5
  | 6, h => cases h; exact vcl_6
  | 7, h => cases h; exact vcl_7
  | 8, h => cases h; exact vcl_8
  | 9, h => cases h; exact vcl_9
  | 10, h => cases h; exact vcl_10
  | 11, h => cases h; exact vcl_11
  | 12, h => cases h; exact vcl_12
  | n + 13, h => cases h
def mec (q : ME) : Bool := decide (q.2.1.cls = cnf q.2.2.2.2.2.2.2.2) && decide (q.2.2.2.2.2.2.2.2 < 20)
theorem mec_all : gMeth.all (fun l => l.all mec) = true := by decide +kernel
theorem g2_all {α : Type} {P : α → Prop} {l : List (List α)} {z : α} (h : ∀ r ∈ l, ∀ x ∈ r, P x) (hz : P z) (k : Nat) : P (g2 l z k) := by
  unfold g2
  rw [List.getD_eq_getElem?_getD, List.getD_eq_getElem?_getD]
  cases e : l[k / 16]? with
  | none => exact hz
  | some r =>
    show P ((r[k % 16]?).getD z)
    cases e2 : r[k % 16]? with
    | none => exact hz
    | some x => exact h r (List.mem_of_getElem? e) x (List.mem_of_getElem? e2)
theorem mec_ok (mt : Nat) : mec (gme mt) = true := g2_all (P := fun q => mec q = true) (fun r hr x hx => List.all_eq_true.mp (List.all_eq_true.mp mec_all r hr) x hx) (by decide +kernel) mt
theorem own_eq (mt : Nat) : (mY gM mt).cls = cnf (oc mt) := by
  have h := mec_ok mt
  simp only [mec, Bool.and_eq_true, decide_eq_true_eq] at h
  exact h.1
theorem init_ok (mt : Nat) : Cond.initialized (mY gM mt).cls ∈ AW := by
  have h := mec_ok mt
  simp only [mec, Bool.and_eq_true, decide_eq_true_eq] at h
  rw [own_eq]
  refine chkw_ok iw_all _ (List.mem_map.mpr ⟨cnf (oc mt), ?_, rfl⟩)
  unfold cnf
  rw [List.getD_eq_getElem?_getD]
  have hlt : oc mt < cnm.length := h.2
  rw [List.getElem?_eq_getElem hlt]
  exact List.getElem_mem hlt
theorem fl_ok : ∀ o, ∀ e ∈ g_fl.getD o [], flw o e ∈ AW ∧ flc e = true := by
  intro o e he
  match o, he with
  | 0, he => exact ⟨chkw_ok fw_0 _ (List.mem_map.mpr ⟨e, he, rfl⟩), List.all_eq_true.mp fc_0 e he⟩
  | 1, he => exact ⟨chkw_ok fw_1 _ (List.mem_map.mpr ⟨e, he, rfl⟩), List.all_eq_true.mp fc_1 e he⟩
  | 2, he => exact ⟨chkw_ok fw_2 _ (List.mem_map.mpr ⟨e, he, rfl⟩), List.all_eq_true.mp fc_2 e he⟩
  | 3, he => exact ⟨chkw_ok fw_3 _ (List.mem_map.mpr ⟨e, he, rfl⟩), List.all_eq_true.mp fc_3 e he⟩
  | 4, he => exact ⟨chkw_ok fw_4 _ (List.mem_map.mpr ⟨e, he, rfl⟩), List.all_eq_true.mp fc_4 e he⟩
  | 5, he => exact ⟨chkw_ok fw_5 _ (List.mem_map.mpr ⟨e, he, rfl⟩), List.all_eq_true.mp fc_5 e he⟩
  | 6, he => exact ⟨chkw_ok fw_6 _ (List.mem_map.mpr ⟨e, he, rfl⟩), List.all_eq_true.mp fc_6 e he⟩
  | 7, he => exact ⟨chkw_ok fw_7 _ (List.mem_map.mpr ⟨e, he, rfl⟩), List.all_eq_true.mp fc_7 e he⟩
  | 8, he => exact ⟨chkw_ok fw_8 _ (List.mem_map.mpr ⟨e, he, rfl⟩), List.all_eq_true.mp fc_8 e he⟩
  | 9, he => exact ⟨chkw_ok fw_9 _ (List.mem_map.mpr ⟨e, he, rfl⟩), List.all_eq_true.mp fc_9 e he⟩
  | 10, he => exact ⟨chkw_ok fw_10 _ (List.mem_map.mpr ⟨e, he, rfl⟩), List.all_eq_true.mp fc_10 e he⟩
  | 11, he => exact ⟨chkw_ok fw_11 _ (List.mem_map.mpr ⟨e, he, rfl⟩), List.all_eq_true.mp fc_11 e he⟩
  | 12, he => exact ⟨chkw_ok fw_12 _ (List.mem_map.mpr ⟨e, he, rfl⟩), List.all_eq_true.mp fc_12 e he⟩
  | 13, he => exact ⟨chkw_ok fw_13 _ (List.mem_map.mpr ⟨e, he, rfl⟩), List.all_eq_true.mp fc_13 e he⟩
  | 14, he => exact ⟨chkw_ok fw_14 _ (List.mem_map.mpr ⟨e, he, rfl⟩), List.all_eq_true.mp fc_14 e he⟩
  | 15, he => exact ⟨chkw_ok fw_15 _ (List.mem_map.mpr ⟨e, he, rfl⟩), List.all_eq_true.mp fc_15 e he⟩
  | 16, he => exact ⟨chkw_ok fw_16 _ (List.mem_map.mpr ⟨e, he, rfl⟩), List.all_eq_true.mp fc_16 e he⟩
  | 17, he => exact ⟨chkw_ok fw_17 _ (List.mem_map.mpr ⟨e, he, rfl⟩), List.all_eq_true.mp fc_17 e he⟩
  | 18, he => exact ⟨chkw_ok fw_18 _ (List.mem_map.mpr ⟨e, he, rfl⟩), List.all_eq_true.mp fc_18 e he⟩
  | 19, he => exact ⟨chkw_ok fw_19 _ (List.mem_map.mpr ⟨e, he, rfl⟩), List.all_eq_true.mp fc_19 e he⟩
  | n + 20, he => cases he
theorem mh_ok : ∀ o, ∀ e ∈ g_mh.getD o [], (∀ w ∈ mhw o e, w ∈ AW) ∧ mhc o e = true := by
  intro o e he
  match o, he with
  | 0, he => exact ⟨fun w hw => chkw_ok mw_0 _ (List.mem_flatMap.mpr ⟨e, he, hw⟩), List.all_eq_true.mp mc_0 e he⟩
  | 1, he => exact ⟨fun w hw => chkw_ok mw_1 _ (List.mem_flatMap.mpr ⟨e, he, hw⟩), List.all_eq_true.mp mc_1 e he⟩
  | 2, he => exact ⟨fun w hw => chkw_ok mw_2 _ (List.mem_flatMap.mpr ⟨e, he, hw⟩), List.all_eq_true.mp mc_2 e he⟩
  | 3, he => exact ⟨fun w hw => chkw_ok mw_3 _ (List.mem_flatMap.mpr ⟨e, he, hw⟩), List.all_eq_true.mp mc_3 e he⟩
  | 4, he => exact ⟨fun w hw => chkw_ok mw_4 _ (List.mem_flatMap.mpr ⟨e, he, hw⟩), List.all_eq_true.mp mc_4 e he⟩
  | 5, he => exact ⟨fun w hw => chkw_ok mw_5 _ (List.mem_flatMap.mpr ⟨e, he, hw⟩), List.all_eq_true.mp mc_5 e he⟩
  | 6, he => exact ⟨fun w hw => chkw_ok mw_6 _ (List.mem_flatMap.mpr ⟨e, he, hw⟩), List.all_eq_true.mp mc_6 e he⟩
  | 7, he => exact ⟨fun w hw => chkw_ok mw_7 _ (List.mem_flatMap.mpr ⟨e, he, hw⟩), List.all_eq_true.mp mc_7 e he⟩
  | 8, he => exact ⟨fun w hw => chkw_ok mw_8 _ (List.mem_flatMap.mpr ⟨e, he, hw⟩), List.all_eq_true.mp mc_8 e he⟩
  | 9, he => exact ⟨fun w hw => chkw_ok mw_9 _ (List.mem_flatMap.mpr ⟨e, he, hw⟩), List.all_eq_true.mp mc_9 e he⟩
  | 10, he => exact ⟨fun w hw => chkw_ok mw_10 _ (List.mem_flatMap.mpr ⟨e, he, hw⟩), List.all_eq_true.mp mc_10 e he⟩
  | 11, he => exact ⟨fun w hw => chkw_ok mw_11 _ (List.mem_flatMap.mpr ⟨e, he, hw⟩), List.all_eq_true.mp mc_11 e he⟩
  | 12, he => exact ⟨fun w hw => chkw_ok mw_12 _ (List.mem_flatMap.mpr ⟨e, he, hw⟩), List.all_eq_true.mp mc_12 e he⟩
  | 13, he => exact ⟨fun w hw => chkw_ok mw_13 _ (List.mem_flatMap.mpr ⟨e, he, hw⟩), List.all_eq_true.mp mc_13 e he⟩
  | 14, he => exact ⟨fun w hw => chkw_ok mw_14 _ (List.mem_flatMap.mpr ⟨e, he, hw⟩), List.all_eq_true.mp mc_14 e he⟩
  | 15, he => exact ⟨fun w hw => chkw_ok mw_15 _ (List.mem_flatMap.mpr ⟨e, he, hw⟩), List.all_eq_true.mp mc_15 e he⟩
  | 16, he => exact ⟨fun w hw => chkw_ok mw_16 _ (List.mem_flatMap.mpr ⟨e, he, hw⟩), List.all_eq_true.mp mc_16 e he⟩
  | 17, he => exact ⟨fun w hw => chkw_ok mw_17 _ (List.mem_flatMap.mpr ⟨e, he, hw⟩), List.all_eq_true.mp mc_17 e he⟩
  | 18, he => exact ⟨fun w hw => chkw_ok mw_18 _ (List.mem_flatMap.mpr ⟨e, he, hw⟩), List.all_eq_true.mp mc_18 e he⟩
  | 19, he => exact ⟨fun w hw => chkw_ok mw_19 _ (List.mem_flatMap.mpr ⟨e, he, hw⟩), List.all_eq_true.mp mc_19 e he⟩
  | n + 20, he => cases he
theorem kn_ok : ∀ o, ∀ e ∈ g_kn.getD o [], (if (o, e.1) ∈ kL then Cond.constantLong (cnf o) e.1 (Int64.ofInt e.2) else Cond.constant (cnf o) e.1 (Int32.ofInt e.2)) ∈ AW := by
  intro o e he
  match o, he with
  | 0, he => exact chkw_ok kw_0 _ (List.mem_map.mpr ⟨e, he, rfl⟩)
  | 1, he => exact chkw_ok kw_1 _ (List.mem_map.mpr ⟨e, he, rfl⟩)
  | 2, he => exact chkw_ok kw_2 _ (List.mem_map.mpr ⟨e, he, rfl⟩)
  | 3, he => exact chkw_ok kw_3 _ (List.mem_map.mpr ⟨e, he, rfl⟩)
  | 4, he => exact chkw_ok kw_4 _ (List.mem_map.mpr ⟨e, he, rfl⟩)
  | 5, he => exact chkw_ok kw_5 _ (List.mem_map.mpr ⟨e, he, rfl⟩)
  | 6, he => exact chkw_ok kw_6 _ (List.mem_map.mpr ⟨e, he, rfl⟩)
  | 7, he => exact chkw_ok kw_7 _ (List.mem_map.mpr ⟨e, he, rfl⟩)
  | 8, he => exact chkw_ok kw_8 _ (List.mem_map.mpr ⟨e, he, rfl⟩)
  | 9, he => exact chkw_ok kw_9 _ (List.mem_map.mpr ⟨e, he, rfl⟩)
  | 10, he => exact chkw_ok kw_10 _ (List.mem_map.mpr ⟨e, he, rfl⟩)
  | 11, he => exact chkw_ok kw_11 _ (List.mem_map.mpr ⟨e, he, rfl⟩)
  | 12, he => exact chkw_ok kw_12 _ (List.mem_map.mpr ⟨e, he, rfl⟩)
  | 13, he => exact chkw_ok kw_13 _ (List.mem_map.mpr ⟨e, he, rfl⟩)
  | 14, he => exact chkw_ok kw_14 _ (List.mem_map.mpr ⟨e, he, rfl⟩)
  | 15, he => exact chkw_ok kw_15 _ (List.mem_map.mpr ⟨e, he, rfl⟩)
  | 16, he => exact chkw_ok kw_16 _ (List.mem_map.mpr ⟨e, he, rfl⟩)
  | 17, he => exact chkw_ok kw_17 _ (List.mem_map.mpr ⟨e, he, rfl⟩)
  | 18, he => exact chkw_ok kw_18 _ (List.mem_map.mpr ⟨e, he, rfl⟩)
  | 19, he => exact chkw_ok kw_19 _ (List.mem_map.mpr ⟨e, he, rfl⟩)
  | n + 20, he => cases he
def vl_0 : List Nat := [0, 1, 2, 3, 4, 5, 6, 7, 8, 9, 10, 11, 12, 13, 14, 15, 16, 17, 18, 19, 20, 21, 22, 23, 24, 25, 26, 27, 28, 29, 30, 31, 32, 33, 34, 35, 36, 37, 38, 39]
theorem vmx_0 : ∀ m ∈ vl_0, VM gT gM m := List.forall_mem_cons.mpr ⟨vm_of vk_0 vw_0 (init_ok 0), List.forall_mem_cons.mpr ⟨vm_of vk_1 vw_1 (init_ok 1), List.forall_mem_cons.mpr ⟨vm_of vk_2 vw_2 (init_ok 2), List.forall_mem_cons.mpr ⟨vm_of vk_3 vw_3 (init_ok 3), List.forall_mem_cons.mpr ⟨vm_of vk_4 vw_4 (init_ok 4), List.forall_mem_cons.mpr ⟨vm_of vk_5 vw_5 (init_ok 5), List.forall_mem_cons.mpr ⟨vm_of vk_6 vw_6 (init_ok 6), List.forall_mem_cons.mpr ⟨vm_of vk_7 vw_7 (init_ok 7), List.forall_mem_cons.mpr ⟨vm_of vk_8 vw_8 (init_ok 8), List.forall_mem_cons.mpr ⟨vm_of vk_9 vw_9 (init_ok 9), List.forall_mem_cons.mpr ⟨vm_of vk_10 vw_10 (init_ok 10), List.forall_mem_cons.mpr ⟨vm_of vk_11 vw_11 (init_ok 11), List.forall_mem_cons.mpr ⟨vm_of vk_12 vw_12 (init_ok 12), List.forall_mem_cons.mpr ⟨vm_of vk_13 vw_13 (init_ok 13), List.forall_mem_cons.mpr ⟨vm_of vk_14 vw_14 (init_ok 14), List.forall_mem_cons.mpr ⟨vm_of vk_15 vw_15 (init_ok 15), List.forall_mem_cons.mpr ⟨vm_of vk_16 vw_16 (init_ok 16), List.forall_mem_cons.mpr ⟨vm_of vk_17 vw_17 (init_ok 17), List.forall_mem_cons.mpr ⟨vm_of vk_18 vw_18 (init_ok 18), List.forall_mem_cons.mpr ⟨vm_of vk_19 vw_19 (init_ok 19), List.forall_mem_cons.mpr ⟨vm_of vk_20 vw_20 (init_ok 20), List.forall_mem_cons.mpr ⟨vm_of vk_21 vw_21 (init_ok 21), List.forall_mem_cons.mpr ⟨vm_of vk_22 vw_22 (init_ok 22), List.forall_mem_cons.mpr ⟨vm_of vk_23 vw_23 (init_ok 23), List.forall_mem_cons.mpr ⟨vm_of vk_24 vw_24 (init_ok 24), List.forall_mem_cons.mpr ⟨vm_of vk_25 vw_25 (init_ok 25), List.forall_mem_cons.mpr ⟨vm_of vk_26 vw_26 (init_ok 26), List.forall_mem_cons.mpr ⟨vm_of vk_27 vw_27 (init_ok 27), List.forall_mem_cons.mpr ⟨vm_of vk_28 vw_28 (init_ok 28), List.forall_mem_cons.mpr ⟨vm_of vk_29 vw_29 (init_ok 29), List.forall_mem_cons.mpr ⟨vm_of vk_30 vw_30 (init_ok 30), List.forall_mem_cons.mpr ⟨vm_of vk_31 vw_31 (init_ok 31), List.forall_mem_cons.mpr ⟨vm_of vk_32 vw_32 (init_ok 32), List.forall_mem_cons.mpr ⟨vm_of vk_33 vw_33 (init_ok 33), List.forall_mem_cons.mpr ⟨vm_of vk_34 vw_34 (init_ok 34), List.forall_mem_cons.mpr ⟨vm_of vk_35 vw_35 (init_ok 35), List.forall_mem_cons.mpr ⟨vm_of vk_36 vw_36 (init_ok 36), List.forall_mem_cons.mpr ⟨vm_of vk_37 vw_37 (init_ok 37), List.forall_mem_cons.mpr ⟨vm_of vk_38 vw_38 (init_ok 38), List.forall_mem_cons.mpr ⟨vm_of vk_39 vw_39 (init_ok 39), fun _ h => absurd h List.not_mem_nil⟩⟩⟩⟩⟩⟩⟩⟩⟩⟩⟩⟩⟩⟩⟩⟩⟩⟩⟩⟩⟩⟩⟩⟩⟩⟩⟩⟩⟩⟩⟩⟩⟩⟩⟩⟩⟩⟩⟩⟩
def vl_1 : List Nat := [40, 41, 42, 43, 44, 45, 46, 47, 48, 49, 50, 51, 52, 53, 54, 55, 56, 57, 58, 59, 60, 61, 62, 63, 64, 65, 66, 67, 68, 69, 70, 71, 72, 73, 74, 75, 76, 77, 78, 79]
theorem vmx_1 : ∀ m ∈ vl_1, VM gT gM m := List.forall_mem_cons.mpr ⟨vm_of vk_40 vw_40 (init_ok 40), List.forall_mem_cons.mpr ⟨vm_of vk_41 vw_41 (init_ok 41), List.forall_mem_cons.mpr ⟨vm_of vk_42 vw_42 (init_ok 42), List.forall_mem_cons.mpr ⟨vm_of vk_43 vw_43 (init_ok 43), List.forall_mem_cons.mpr ⟨vm_of vk_44 vw_44 (init_ok 44), List.forall_mem_cons.mpr ⟨vm_of vk_45 vw_45 (init_ok 45), List.forall_mem_cons.mpr ⟨vm_of vk_46 vw_46 (init_ok 46), List.forall_mem_cons.mpr ⟨vm_of vk_47 vw_47 (init_ok 47), List.forall_mem_cons.mpr ⟨vm_of vk_48 vw_48 (init_ok 48), List.forall_mem_cons.mpr ⟨vm_of vk_49 vw_49 (init_ok 49), List.forall_mem_cons.mpr ⟨vm_of vk_50 vw_50 (init_ok 50), List.forall_mem_cons.mpr ⟨vm_of vk_51 vw_51 (init_ok 51), List.forall_mem_cons.mpr ⟨vm_of vk_52 vw_52 (init_ok 52), List.forall_mem_cons.mpr ⟨vm_of vk_53 vw_53 (init_ok 53), List.forall_mem_cons.mpr ⟨vm_of vk_54 vw_54 (init_ok 54), List.forall_mem_cons.mpr ⟨vm_of vk_55 vw_55 (init_ok 55), List.forall_mem_cons.mpr ⟨vm_of vk_56 vw_56 (init_ok 56), List.forall_mem_cons.mpr ⟨vm_of vk_57 vw_57 (init_ok 57), List.forall_mem_cons.mpr ⟨vm_of vk_58 vw_58 (init_ok 58), List.forall_mem_cons.mpr ⟨vm_of vk_59 vw_59 (init_ok 59), List.forall_mem_cons.mpr ⟨vm_of vk_60 vw_60 (init_ok 60), List.forall_mem_cons.mpr ⟨vm_of vk_61 vw_61 (init_ok 61), List.forall_mem_cons.mpr ⟨vm_of vk_62 vw_62 (init_ok 62), List.forall_mem_cons.mpr ⟨vm_of vk_63 vw_63 (init_ok 63), List.forall_mem_cons.mpr ⟨vm_of vk_64 vw_64 (init_ok 64), List.forall_mem_cons.mpr ⟨vm_of vk_65 vw_65 (init_ok 65), List.forall_mem_cons.mpr ⟨vm_of vk_66 vw_66 (init_ok 66), List.forall_mem_cons.mpr ⟨vm_of vk_67 vw_67 (init_ok 67), List.forall_mem_cons.mpr ⟨vm_of vk_68 vw_68 (init_ok 68), List.forall_mem_cons.mpr ⟨vm_of vk_69 vw_69 (init_ok 69), List.forall_mem_cons.mpr ⟨vm_of vk_70 vw_70 (init_ok 70), List.forall_mem_cons.mpr ⟨vm_of vk_71 vw_71 (init_ok 71), List.forall_mem_cons.mpr ⟨vm_of vk_72 vw_72 (init_ok 72), List.forall_mem_cons.mpr ⟨vm_of vk_73 vw_73 (init_ok 73), List.forall_mem_cons.mpr ⟨vm_of vk_74 vw_74 (init_ok 74), List.forall_mem_cons.mpr ⟨vm_of vk_75 vw_75 (init_ok 75), List.forall_mem_cons.mpr ⟨vm_of vk_76 vw_76 (init_ok 76), List.forall_mem_cons.mpr ⟨vm_of vk_77 vw_77 (init_ok 77), List.forall_mem_cons.mpr ⟨vm_of vk_78 vw_78 (init_ok 78), List.forall_mem_cons.mpr ⟨vm_of vk_79 vw_79 (init_ok 79), fun _ h => absurd h List.not_mem_nil⟩⟩⟩⟩⟩⟩⟩⟩⟩⟩⟩⟩⟩⟩⟩⟩⟩⟩⟩⟩⟩⟩⟩⟩⟩⟩⟩⟩⟩⟩⟩⟩⟩⟩⟩⟩⟩⟩⟩⟩
def vl_2 : List Nat := [80, 81, 82, 83, 84, 85, 86, 87, 88, 89, 90, 91, 92, 93, 94, 95, 96, 97, 98, 99, 100, 101, 102, 103, 104, 105, 106, 107, 108, 109, 110, 111, 112, 113, 114, 115, 116, 117, 118, 119]
theorem vmx_2 : ∀ m ∈ vl_2, VM gT gM m := List.forall_mem_cons.mpr ⟨vm_of vk_80 vw_80 (init_ok 80), List.forall_mem_cons.mpr ⟨vm_of vk_81 vw_81 (init_ok 81), List.forall_mem_cons.mpr ⟨vm_of vk_82 vw_82 (init_ok 82), List.forall_mem_cons.mpr ⟨vm_of vk_83 vw_83 (init_ok 83), List.forall_mem_cons.mpr ⟨vm_of vk_84 vw_84 (init_ok 84), List.forall_mem_cons.mpr ⟨vm_of vk_85 vw_85 (init_ok 85), List.forall_mem_cons.mpr ⟨vm_of vk_86 vw_86 (init_ok 86), List.forall_mem_cons.mpr ⟨vm_of vk_87 vw_87 (init_ok 87), List.forall_mem_cons.mpr ⟨vm_of vk_88 vw_88 (init_ok 88), List.forall_mem_cons.mpr ⟨vm_of vk_89 vw_89 (init_ok 89), List.forall_mem_cons.mpr ⟨vm_of vk_90 vw_90 (init_ok 90), List.forall_mem_cons.mpr ⟨vm_of vk_91 vw_91 (init_ok 91), List.forall_mem_cons.mpr ⟨vm_of vk_92 vw_92 (init_ok 92), List.forall_mem_cons.mpr ⟨vm_of vk_93 vw_93 (init_ok 93), List.forall_mem_cons.mpr ⟨vm_of vk_94 vw_94 (init_ok 94), List.forall_mem_cons.mpr ⟨vm_of vk_95 vw_95 (init_ok 95), List.forall_mem_cons.mpr ⟨vm_of vk_96 vw_96 (init_ok 96), List.forall_mem_cons.mpr ⟨vm_of vk_97 vw_97 (init_ok 97), List.forall_mem_cons.mpr ⟨vm_of vk_98 vw_98 (init_ok 98), List.forall_mem_cons.mpr ⟨vm_of vk_99 vw_99 (init_ok 99), List.forall_mem_cons.mpr ⟨vm_of vk_100 vw_100 (init_ok 100), List.forall_mem_cons.mpr ⟨vm_of vk_101 vw_101 (init_ok 101), List.forall_mem_cons.mpr ⟨vm_of vk_102 vw_102 (init_ok 102), List.forall_mem_cons.mpr ⟨vm_of vk_103 vw_103 (init_ok 103), List.forall_mem_cons.mpr ⟨vm_of vk_104 vw_104 (init_ok 104), List.forall_mem_cons.mpr ⟨vm_of vk_105 vw_105 (init_ok 105), List.forall_mem_cons.mpr ⟨vm_of vk_106 vw_106 (init_ok 106), List.forall_mem_cons.mpr ⟨vm_of vk_107 vw_107 (init_ok 107), List.forall_mem_cons.mpr ⟨vm_of vk_108 vw_108 (init_ok 108), List.forall_mem_cons.mpr ⟨vm_of vk_109 vw_109 (init_ok 109), List.forall_mem_cons.mpr ⟨vm_of vk_110 vw_110 (init_ok 110), List.forall_mem_cons.mpr ⟨vm_of vk_111 vw_111 (init_ok 111), List.forall_mem_cons.mpr ⟨vm_of vk_112 vw_112 (init_ok 112), List.forall_mem_cons.mpr ⟨vm_of vk_113 vw_113 (init_ok 113), List.forall_mem_cons.mpr ⟨vm_of vk_114 vw_114 (init_ok 114), List.forall_mem_cons.mpr ⟨vm_of vk_115 vw_115 (init_ok 115), List.forall_mem_cons.mpr ⟨vm_of vk_116 vw_116 (init_ok 116), List.forall_mem_cons.mpr ⟨vm_of vk_117 vw_117 (init_ok 117), List.forall_mem_cons.mpr ⟨vm_of vk_118 vw_118 (init_ok 118), List.forall_mem_cons.mpr ⟨vm_of vk_119 vw_119 (init_ok 119), fun _ h => absurd h List.not_mem_nil⟩⟩⟩⟩⟩⟩⟩⟩⟩⟩⟩⟩⟩⟩⟩⟩⟩⟩⟩⟩⟩⟩⟩⟩⟩⟩⟩⟩⟩⟩⟩⟩⟩⟩⟩⟩⟩⟩⟩⟩
def vl_3 : List Nat := [120, 121, 122, 123, 124, 125, 126, 127, 128, 129, 130, 131, 132, 133, 134, 135, 136, 137, 138, 139, 140, 141, 142, 143, 144, 145, 146, 147, 148, 149, 150, 151, 152, 153, 154, 155, 156, 157, 158, 159]
theorem vmx_3 : ∀ m ∈ vl_3, VM gT gM m := List.forall_mem_cons.mpr ⟨vm_of vk_120 vw_120 (init_ok 120), List.forall_mem_cons.mpr ⟨vm_of vk_121 vw_121 (init_ok 121), List.forall_mem_cons.mpr ⟨vm_of vk_122 vw_122 (init_ok 122), List.forall_mem_cons.mpr ⟨vm_of vk_123 vw_123 (init_ok 123), List.forall_mem_cons.mpr ⟨vm_of vk_124 vw_124 (init_ok 124), List.forall_mem_cons.mpr ⟨vm_of vk_125 vw_125 (init_ok 125), List.forall_mem_cons.mpr ⟨vm_of vk_126 vw_126 (init_ok 126), List.forall_mem_cons.mpr ⟨vm_of vk_127 vw_127 (init_ok 127), List.forall_mem_cons.mpr ⟨vm_of vk_128 vw_128 (init_ok 128), List.forall_mem_cons.mpr ⟨vm_of vk_129 vw_129 (init_ok 129), List.forall_mem_cons.mpr ⟨vm_of vk_130 vw_130 (init_ok 130), List.forall_mem_cons.mpr ⟨vm_of vk_131 vw_131 (init_ok 131), List.forall_mem_cons.mpr ⟨vm_of vk_132 vw_132 (init_ok 132), List.forall_mem_cons.mpr ⟨vm_of vk_133 vw_133 (init_ok 133), List.forall_mem_cons.mpr ⟨vm_of vk_134 vw_134 (init_ok 134), List.forall_mem_cons.mpr ⟨vm_of vk_135 vw_135 (init_ok 135), List.forall_mem_cons.mpr ⟨vm_of vk_136 vw_136 (init_ok 136), List.forall_mem_cons.mpr ⟨vm_of vk_137 vw_137 (init_ok 137), List.forall_mem_cons.mpr ⟨vm_of vk_138 vw_138 (init_ok 138), List.forall_mem_cons.mpr ⟨vm_of vk_139 vw_139 (init_ok 139), List.forall_mem_cons.mpr ⟨vm_of vk_140 vw_140 (init_ok 140), List.forall_mem_cons.mpr ⟨vm_of vk_141 vw_141 (init_ok 141), List.forall_mem_cons.mpr ⟨vm_of vk_142 vw_142 (init_ok 142), List.forall_mem_cons.mpr ⟨vm_of vk_143 vw_143 (init_ok 143), List.forall_mem_cons.mpr ⟨vm_of vk_144 vw_144 (init_ok 144), List.forall_mem_cons.mpr ⟨vm_of vk_145 vw_145 (init_ok 145), List.forall_mem_cons.mpr ⟨vm_of vk_146 vw_146 (init_ok 146), List.forall_mem_cons.mpr ⟨vm_of vk_147 vw_147 (init_ok 147), List.forall_mem_cons.mpr ⟨vm_of vk_148 vw_148 (init_ok 148), List.forall_mem_cons.mpr ⟨vm_of vk_149 vw_149 (init_ok 149), List.forall_mem_cons.mpr ⟨vm_of vk_150 vw_150 (init_ok 150), List.forall_mem_cons.mpr ⟨vm_of vk_151 vw_151 (init_ok 151), List.forall_mem_cons.mpr ⟨vm_of vk_152 vw_152 (init_ok 152), List.forall_mem_cons.mpr ⟨vm_of vk_153 vw_153 (init_ok 153), List.forall_mem_cons.mpr ⟨vm_of vk_154 vw_154 (init_ok 154), List.forall_mem_cons.mpr ⟨vm_of vk_155 vw_155 (init_ok 155), List.forall_mem_cons.mpr ⟨vm_of vk_156 vw_156 (init_ok 156), List.forall_mem_cons.mpr ⟨vm_of vk_157 vw_157 (init_ok 157), List.forall_mem_cons.mpr ⟨vm_of vk_158 vw_158 (init_ok 158), List.forall_mem_cons.mpr ⟨vm_of vk_159 vw_159 (init_ok 159), fun _ h => absurd h List.not_mem_nil⟩⟩⟩⟩⟩⟩⟩⟩⟩⟩⟩⟩⟩⟩⟩⟩⟩⟩⟩⟩⟩⟩⟩⟩⟩⟩⟩⟩⟩⟩⟩⟩⟩⟩⟩⟩⟩⟩⟩⟩
def vl_4 : List Nat := [160, 161, 162, 163, 164, 165, 166, 167, 168, 169, 170, 171, 172, 173, 174, 175, 176, 177, 178, 179, 180, 181, 182, 183, 184, 185, 186, 187, 188, 189, 190, 191, 192, 193, 194, 195, 196, 197, 198, 199]
theorem vmx_4 : ∀ m ∈ vl_4, VM gT gM m := List.forall_mem_cons.mpr ⟨vm_of vk_160 vw_160 (init_ok 160), List.forall_mem_cons.mpr ⟨vm_of vk_161 vw_161 (init_ok 161), List.forall_mem_cons.mpr ⟨vm_of vk_162 vw_162 (init_ok 162), List.forall_mem_cons.mpr ⟨vm_of vk_163 vw_163 (init_ok 163), List.forall_mem_cons.mpr ⟨vm_of vk_164 vw_164 (init_ok 164), List.forall_mem_cons.mpr ⟨vm_of vk_165 vw_165 (init_ok 165), List.forall_mem_cons.mpr ⟨vm_of vk_166 vw_166 (init_ok 166), List.forall_mem_cons.mpr ⟨vm_of vk_167 vw_167 (init_ok 167), List.forall_mem_cons.mpr ⟨vm_of vk_168 vw_168 (init_ok 168), List.forall_mem_cons.mpr ⟨vm_of vk_169 vw_169 (init_ok 169), List.forall_mem_cons.mpr ⟨vm_of vk_170 vw_170 (init_ok 170), List.forall_mem_cons.mpr ⟨vm_of vk_171 vw_171 (init_ok 171), List.forall_mem_cons.mpr ⟨vm_of vk_172 vw_172 (init_ok 172), List.forall_mem_cons.mpr ⟨vm_of vk_173 vw_173 (init_ok 173), List.forall_mem_cons.mpr ⟨vm_of vk_174 vw_174 (init_ok 174), List.forall_mem_cons.mpr ⟨vm_of vk_175 vw_175 (init_ok 175), List.forall_mem_cons.mpr ⟨vm_of vk_176 vw_176 (init_ok 176), List.forall_mem_cons.mpr ⟨vm_of vk_177 vw_177 (init_ok 177), List.forall_mem_cons.mpr ⟨vm_of vk_178 vw_178 (init_ok 178), List.forall_mem_cons.mpr ⟨vm_of vk_179 vw_179 (init_ok 179), List.forall_mem_cons.mpr ⟨vm_of vk_180 vw_180 (init_ok 180), List.forall_mem_cons.mpr ⟨vm_of vk_181 vw_181 (init_ok 181), List.forall_mem_cons.mpr ⟨vm_of vk_182 vw_182 (init_ok 182), List.forall_mem_cons.mpr ⟨vm_of vk_183 vw_183 (init_ok 183), List.forall_mem_cons.mpr ⟨vm_of vk_184 vw_184 (init_ok 184), List.forall_mem_cons.mpr ⟨vm_of vk_185 vw_185 (init_ok 185), List.forall_mem_cons.mpr ⟨vm_of vk_186 vw_186 (init_ok 186), List.forall_mem_cons.mpr ⟨vm_of vk_187 vw_187 (init_ok 187), List.forall_mem_cons.mpr ⟨vm_of vk_188 vw_188 (init_ok 188), List.forall_mem_cons.mpr ⟨vm_of vk_189 vw_189 (init_ok 189), List.forall_mem_cons.mpr ⟨vm_of vk_190 vw_190 (init_ok 190), List.forall_mem_cons.mpr ⟨vm_of vk_191 vw_191 (init_ok 191), List.forall_mem_cons.mpr ⟨vm_of vk_192 vw_192 (init_ok 192), List.forall_mem_cons.mpr ⟨vm_of vk_193 vw_193 (init_ok 193), List.forall_mem_cons.mpr ⟨vm_of vk_194 vw_194 (init_ok 194), List.forall_mem_cons.mpr ⟨vm_of vk_195 vw_195 (init_ok 195), List.forall_mem_cons.mpr ⟨vm_of vk_196 vw_196 (init_ok 196), List.forall_mem_cons.mpr ⟨vm_of vk_197 vw_197 (init_ok 197), List.forall_mem_cons.mpr ⟨vm_of vk_198 vw_198 (init_ok 198), List.forall_mem_cons.mpr ⟨vm_of vk_199 vw_199 (init_ok 199), fun _ h => absurd h List.not_mem_nil⟩⟩⟩⟩⟩⟩⟩⟩⟩⟩⟩⟩⟩⟩⟩⟩⟩⟩⟩⟩⟩⟩⟩⟩⟩⟩⟩⟩⟩⟩⟩⟩⟩⟩⟩⟩⟩⟩⟩⟩
def vl_5 : List Nat := [200, 201, 202, 203, 204, 205, 206, 207, 208, 209, 210, 211, 212, 213, 214, 215, 216, 217, 218, 219, 220, 221, 222, 223, 224, 225, 226, 227, 228, 229, 230, 231, 232, 233, 234, 235, 236, 237, 238, 239]
theorem vmx_5 : ∀ m ∈ vl_5, VM gT gM m := List.forall_mem_cons.mpr ⟨vm_of vk_200 vw_200 (init_ok 200), List.forall_mem_cons.mpr ⟨vm_of vk_201 vw_201 (init_ok 201), List.forall_mem_cons.mpr ⟨vm_of vk_202 vw_202 (init_ok 202), List.forall_mem_cons.mpr ⟨vm_of vk_203 vw_203 (init_ok 203), List.forall_mem_cons.mpr ⟨vm_of vk_204 vw_204 (init_ok 204), List.forall_mem_cons.mpr ⟨vm_of vk_205 vw_205 (init_ok 205), List.forall_mem_cons.mpr ⟨vm_of vk_206 vw_206 (init_ok 206), List.forall_mem_cons.mpr ⟨vm_of vk_207 vw_207 (init_ok 207), List.forall_mem_cons.mpr ⟨vm_of vk_208 vw_208 (init_ok 208), List.forall_mem_cons.mpr ⟨vm_of vk_209 vw_209 (init_ok 209), List.forall_mem_cons.mpr ⟨vm_of vk_210 vw_210 (init_ok 210), List.forall_mem_cons.mpr ⟨vm_of vk_211 vw_211 (init_ok 211), List.forall_mem_cons.mpr ⟨vm_of vk_212 vw_212 (init_ok 212), List.forall_mem_cons.mpr ⟨vm_of vk_213 vw_213 (init_ok 213), List.forall_mem_cons.mpr ⟨vm_of vk_214 vw_214 (init_ok 214), List.forall_mem_cons.mpr ⟨vm_of vk_215 vw_215 (init_ok 215), List.forall_mem_cons.mpr ⟨vm_of vk_216 vw_216 (init_ok 216), List.forall_mem_cons.mpr ⟨vm_of vk_217 vw_217 (init_ok 217), List.forall_mem_cons.mpr ⟨vm_of vk_218 vw_218 (init_ok 218), List.forall_mem_cons.mpr ⟨vm_of vk_219 vw_219 (init_ok 219), List.forall_mem_cons.mpr ⟨vm_of vk_220 vw_220 (init_ok 220), List.forall_mem_cons.mpr ⟨vm_of vk_221 vw_221 (init_ok 221), List.forall_mem_cons.mpr ⟨vm_of vk_222 vw_222 (init_ok 222), List.forall_mem_cons.mpr ⟨vm_of vk_223 vw_223 (init_ok 223), List.forall_mem_cons.mpr ⟨vm_of vk_224 vw_224 (init_ok 224), List.forall_mem_cons.mpr ⟨vm_of vk_225 vw_225 (init_ok 225), List.forall_mem_cons.mpr ⟨vm_of vk_226 vw_226 (init_ok 226), List.forall_mem_cons.mpr ⟨vm_of vk_227 vw_227 (init_ok 227), List.forall_mem_cons.mpr ⟨vm_of vk_228 vw_228 (init_ok 228), List.forall_mem_cons.mpr ⟨vm_of vk_229 vw_229 (init_ok 229), List.forall_mem_cons.mpr ⟨vm_of vk_230 vw_230 (init_ok 230), List.forall_mem_cons.mpr ⟨vm_of vk_231 vw_231 (init_ok 231), List.forall_mem_cons.mpr ⟨vm_of vk_232 vw_232 (init_ok 232), List.forall_mem_cons.mpr ⟨vm_of vk_233 vw_233 (init_ok 233), List.forall_mem_cons.mpr ⟨vm_of vk_234 vw_234 (init_ok 234), List.forall_mem_cons.mpr ⟨vm_of vk_235 vw_235 (init_ok 235), List.forall_mem_cons.mpr ⟨vm_of vk_236 vw_236 (init_ok 236), List.forall_mem_cons.mpr ⟨vm_of vk_237 vw_237 (init_ok 237), List.forall_mem_cons.mpr ⟨vm_of vk_238 vw_238 (init_ok 238), List.forall_mem_cons.mpr ⟨vm_of vk_239 vw_239 (init_ok 239), fun _ h => absurd h List.not_mem_nil⟩⟩⟩⟩⟩⟩⟩⟩⟩⟩⟩⟩⟩⟩⟩⟩⟩⟩⟩⟩⟩⟩⟩⟩⟩⟩⟩⟩⟩⟩⟩⟩⟩⟩⟩⟩⟩⟩⟩⟩
def vl_6 : List Nat := [240, 241, 242, 243, 244, 245, 246, 247, 248, 249, 250, 251, 252, 253, 254, 255, 256, 257, 258, 259, 260, 261, 262, 263, 264, 265, 266, 267, 268, 269, 270, 271, 272, 273, 274, 275, 276, 277, 278, 279]
theorem vmx_6 : ∀ m ∈ vl_6, VM gT gM m := List.forall_mem_cons.mpr ⟨vm_of vk_240 vw_240 (init_ok 240), List.forall_mem_cons.mpr ⟨vm_of vk_241 vw_241 (init_ok 241), List.forall_mem_cons.mpr ⟨vm_of vk_242 vw_242 (init_ok 242), List.forall_mem_cons.mpr ⟨vm_of vk_243 vw_243 (init_ok 243), List.forall_mem_cons.mpr ⟨vm_of vk_244 vw_244 (init_ok 244), List.forall_mem_cons.mpr ⟨vm_of vk_245 vw_245 (init_ok 245), List.forall_mem_cons.mpr ⟨vm_of vk_246 vw_246 (init_ok 246), List.forall_mem_cons.mpr ⟨vm_of vk_247 vw_247 (init_ok 247), List.forall_mem_cons.mpr ⟨vm_of vk_248 vw_248 (init_ok 248), List.forall_mem_cons.mpr ⟨vm_of vk_249 vw_249 (init_ok 249), List.forall_mem_cons.mpr ⟨vm_of vk_250 vw_250 (init_ok 250), List.forall_mem_cons.mpr ⟨vm_of vk_251 vw_251 (init_ok 251), List.forall_mem_cons.mpr ⟨vm_of vk_252 vw_252 (init_ok 252), List.forall_mem_cons.mpr ⟨vm_of vk_253 vw_253 (init_ok 253), List.forall_mem_cons.mpr ⟨vm_of vk_254 vw_254 (init_ok 254), List.forall_mem_cons.mpr ⟨vm_of vk_255 vw_255 (init_ok 255), List.forall_mem_cons.mpr ⟨vm_of vk_256 vw_256 (init_ok 256), List.forall_mem_cons.mpr ⟨vm_of vk_257 vw_257 (init_ok 257), List.forall_mem_cons.mpr ⟨vm_of vk_258 vw_258 (init_ok 258), List.forall_mem_cons.mpr ⟨vm_of vk_259 vw_259 (init_ok 259), List.forall_mem_cons.mpr ⟨vm_of vk_260 vw_260 (init_ok 260), List.forall_mem_cons.mpr ⟨vm_of vk_261 vw_261 (init_ok 261), List.forall_mem_cons.mpr ⟨vm_of vk_262 vw_262 (init_ok 262), List.forall_mem_cons.mpr ⟨vm_of vk_263 vw_263 (init_ok 263), List.forall_mem_cons.mpr ⟨vm_of vk_264 vw_264 (init_ok 264), List.forall_mem_cons.mpr ⟨vm_of vk_265 vw_265 (init_ok 265), List.forall_mem_cons.mpr ⟨vm_of vk_266 vw_266 (init_ok 266), List.forall_mem_cons.mpr ⟨vm_of vk_267 vw_267 (init_ok 267), List.forall_mem_cons.mpr ⟨vm_of vk_268 vw_268 (init_ok 268), List.forall_mem_cons.mpr ⟨vm_of vk_269 vw_269 (init_ok 269), List.forall_mem_cons.mpr ⟨vm_of vk_270 vw_270 (init_ok 270), List.forall_mem_cons.mpr ⟨vm_of vk_271 vw_271 (init_ok 271), List.forall_mem_cons.mpr ⟨vm_of vk_272 vw_272 (init_ok 272), List.forall_mem_cons.mpr ⟨vm_of vk_273 vw_273 (init_ok 273), List.forall_mem_cons.mpr ⟨vm_of vk_274 vw_274 (init_ok 274), List.forall_mem_cons.mpr ⟨vm_of vk_275 vw_275 (init_ok 275), List.forall_mem_cons.mpr ⟨vm_of vk_276 vw_276 (init_ok 276), List.forall_mem_cons.mpr ⟨vm_of vk_277 vw_277 (init_ok 277), List.forall_mem_cons.mpr ⟨vm_of vk_278 vw_278 (init_ok 278), List.forall_mem_cons.mpr ⟨vm_of vk_279 vw_279 (init_ok 279), fun _ h => absurd h List.not_mem_nil⟩⟩⟩⟩⟩⟩⟩⟩⟩⟩⟩⟩⟩⟩⟩⟩⟩⟩⟩⟩⟩⟩⟩⟩⟩⟩⟩⟩⟩⟩⟩⟩⟩⟩⟩⟩⟩⟩⟩⟩
def vl_7 : List Nat := [280, 281, 282, 283, 284, 285, 286, 287, 288, 289, 290, 291, 292, 293, 294, 295, 296, 297, 298, 299, 300, 301, 302, 303, 304, 305, 306, 308, 309, 310, 311, 312, 313, 314, 315, 316, 321]
theorem vmx_7 : ∀ m ∈ vl_7, VM gT gM m := List.forall_mem_cons.mpr ⟨vm_of vk_280 vw_280 (init_ok 280), List.forall_mem_cons.mpr ⟨vm_of vk_281 vw_281 (init_ok 281), List.forall_mem_cons.mpr ⟨vm_of vk_282 vw_282 (init_ok 282), List.forall_mem_cons.mpr ⟨vm_of vk_283 vw_283 (init_ok 283), List.forall_mem_cons.mpr ⟨vm_of vk_284 vw_284 (init_ok 284), List.forall_mem_cons.mpr ⟨vm_of vk_285 vw_285 (init_ok 285), List.forall_mem_cons.mpr ⟨vm_of vk_286 vw_286 (init_ok 286), List.forall_mem_cons.mpr ⟨vm_of vk_287 vw_287 (init_ok 287), List.forall_mem_cons.mpr ⟨vm_of vk_288 vw_288 (init_ok 288), List.forall_mem_cons.mpr ⟨vm_of vk_289 vw_289 (init_ok 289), List.forall_mem_cons.mpr ⟨vm_of vk_290 vw_290 (init_ok 290), List.forall_mem_cons.mpr ⟨vm_of vk_291 vw_291 (init_ok 291), List.forall_mem_cons.mpr ⟨vm_of vk_292 vw_292 (init_ok 292), List.forall_mem_cons.mpr ⟨vm_of vk_293 vw_293 (init_ok 293), List.forall_mem_cons.mpr ⟨vm_of vk_294 vw_294 (init_ok 294), List.forall_mem_cons.mpr ⟨vm_of vk_295 vw_295 (init_ok 295), List.forall_mem_cons.mpr ⟨vm_of vk_296 vw_296 (init_ok 296), List.forall_mem_cons.mpr ⟨vm_of vk_297 vw_297 (init_ok 297), List.forall_mem_cons.mpr ⟨vm_of vk_298 vw_298 (init_ok 298), List.forall_mem_cons.mpr ⟨vm_of vk_299 vw_299 (init_ok 299), List.forall_mem_cons.mpr ⟨vm_of vk_300 vw_300 (init_ok 300), List.forall_mem_cons.mpr ⟨vm_of vk_301 vw_301 (init_ok 301), List.forall_mem_cons.mpr ⟨vm_of vk_302 vw_302 (init_ok 302), List.forall_mem_cons.mpr ⟨vm_of vk_303 vw_303 (init_ok 303), List.forall_mem_cons.mpr ⟨vm_of vk_304 vw_304 (init_ok 304), List.forall_mem_cons.mpr ⟨vm_of vk_305 vw_305 (init_ok 305), List.forall_mem_cons.mpr ⟨vm_of vk_306 vw_306 (init_ok 306), List.forall_mem_cons.mpr ⟨vm_of vk_308 vw_308 (init_ok 308), List.forall_mem_cons.mpr ⟨vm_of vk_309 vw_309 (init_ok 309), List.forall_mem_cons.mpr ⟨vm_of vk_310 vw_310 (init_ok 310), List.forall_mem_cons.mpr ⟨vm_of vk_311 vw_311 (init_ok 311), List.forall_mem_cons.mpr ⟨vm_of vk_312 vw_312 (init_ok 312), List.forall_mem_cons.mpr ⟨vm_of vk_313 vw_313 (init_ok 313), List.forall_mem_cons.mpr ⟨vm_of vk_314 vw_314 (init_ok 314), List.forall_mem_cons.mpr ⟨vm_of vk_315 vw_315 (init_ok 315), List.forall_mem_cons.mpr ⟨vm_of vk_316 vw_316 (init_ok 316), List.forall_mem_cons.mpr ⟨vm_of vk_321 vw_321 (init_ok 321), fun _ h => absurd h List.not_mem_nil⟩⟩⟩⟩⟩⟩⟩⟩⟩⟩⟩⟩⟩⟩⟩⟩⟩⟩⟩⟩⟩⟩⟩⟩⟩⟩⟩⟩⟩⟩⟩⟩⟩⟩⟩⟩⟩
def vmL : List Nat := vl_0 ++ (vl_1 ++ (vl_2 ++ (vl_3 ++ (vl_4 ++ (vl_5 ++ (vl_6 ++ (vl_7)))))))
theorem vmall : ∀ m ∈ vmL, VM gT gM m := List.forall_mem_append.mpr ⟨vmx_0, List.forall_mem_append.mpr ⟨vmx_1, List.forall_mem_append.mpr ⟨vmx_2, List.forall_mem_append.mpr ⟨vmx_3, List.forall_mem_append.mpr ⟨vmx_4, List.forall_mem_append.mpr ⟨vmx_5, List.forall_mem_append.mpr ⟨vmx_6, vmx_7⟩⟩⟩⟩⟩⟩⟩
theorem mv_all : (g_mh.all fun l => l.all fun e => decide (6 ≤ e.2.2) || decide (e.2.1 ∈ vmL)) = true := by decide +kernel
