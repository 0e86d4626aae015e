/-! ===== the program is what its tables say ===== -/
theorem dec_ok {mt pc : Nat} {i : Instr} (h : dec mt pc i = true) : decode (mC gM mt) pc = .ok (i, ilen i) := of_decide_eq_true h
theorem jok_ok {pc : Nat} {off : Int} (h : jokb pc off = true) : jok pc off := show (pc : Int) + off = (jmp pc off : Int) from of_decide_eq_true h
theorem fl_VF {mt ix ci j tag : Nat} (h : tFL gT mt ix = some (ci, j, tag)) : (∃ C Tt N, VF gM mt ix ci j tag C Tt N ∧ ((Tt j).2.2.2 = decide (8 ≤ tag)) ∧ (Tt j).1 = cnf ci) ∨ (vwCl[ci]? = none ∧ ci = 18 ∧ ((j = 0 ∧ tag % 8 = 2 ∧ Cond.fieldLink (mY gM mt).cls ix "java/lang/String" "value" "[B" ∈ AW) ∨ (j = 1 ∧ tag % 8 = 0 ∧ Cond.fieldLink (mY gM mt).cls ix "java/lang/String" "coder" "B" ∈ AW))) := by
  have hm : (ix, ci, j, tag) ∈ g_fl.getD (oc mt) [] := lk_mem h
  obtain ⟨h1, h2⟩ := fl_ok _ _ hm
  unfold flw at h1
  unfold flc at h2
  dsimp only at h1 h2
  rw [own_eq]
  cases hc : vwCl[ci]? with
  | none =>
    rw [hc] at h1 h2
    right
    simp only [Bool.and_eq_true, Bool.or_eq_true, decide_eq_true_eq] at h2
    refine ⟨rfl, h2.1, ?_⟩
    rcases h2.2 with ⟨q1, q2⟩ | ⟨q1, q2⟩
    · rw [q1] at h1; exact Or.inl ⟨q1, q2, h1⟩
    · rw [q1] at h1; exact Or.inr ⟨q1, q2, h1⟩
  | some q =>
    obtain ⟨C, Tt, N⟩ := q
    rw [hc] at h1 h2
    left
    simp only [Bool.and_eq_true, beq_iff_eq, decide_eq_true_eq] at h2
    obtain ⟨⟨⟨a, b⟩, c⟩, d⟩ := h2
    exact ⟨C, Tt, N, ⟨vcs _ _ _ _ hc, a, b, by rw [own_eq]; exact h1⟩, c, d⟩
theorem mh_VL {mt ix m2 ck : Nat} (h : tMH gT mt ix = some (m2, ck)) (hck : ck < 6) : VL gT gM gE mt ix m2 ck := by
  have hm : (ix, m2, ck) ∈ g_mh.getD (oc mt) [] := lk_mem h
  obtain ⟨h1, h2⟩ := mh_ok _ _ hm
  have hv : VM gT gM m2 := by
    have h3 := List.all_eq_true.mp (List.all_eq_true.mp mv_all _ (getD_mem hm)) _ hm
    simp only [Bool.or_eq_true, decide_eq_true_eq] at h3
    rcases h3 with q | q
    · omega
    · exact vmall _ q
  have ho := own_eq mt
  refine ⟨hv, ?_⟩
  match ck, hck, h1, h2 with
  | 0, _, h1, h2 =>
    simp only [mhc, Bool.and_eq_true, decide_eq_true_eq] at h2
    obtain ⟨⟨a, b⟩, c⟩ := h2
    refine ⟨by rw [ho]; exact h1 _ (by simp [mhw]), h1 _ (by simp [mhw]), h1 _ (by simp [mhw]), a, b, ?_⟩
    cases hr : tRV gT m2 with
    | none => rw [hr] at c; cases c
    | some k =>
      rw [hr] at c
      cases k with
      | zero => cases c
      | succ ci =>
        dsimp only at c
        cases hc : vwCl[ci]? with
        | none =>
          rw [hc] at c
          simp only [Bool.and_eq_true, decide_eq_true_eq] at c
          right
          exact ⟨by rw [c.1], c.2⟩
        | some q =>
          obtain ⟨C, Tt, N⟩ := q
          rw [hc] at c
          simp only [Bool.and_eq_true, decide_eq_true_eq] at c
          left
          exact ⟨ci, N, Tt, rfl, by rw [← c.1]; exact hc, c.2⟩
  | 1, _, h1, h2 =>
    simp only [mhc, decide_eq_true_eq] at h2
    exact ⟨by rw [ho]; exact h1 _ (by simp [mhw]), h1 _ (by simp [mhw]), h2⟩
  | 2, _, h1, h2 =>
    simp only [mhc, Bool.and_eq_true, decide_eq_true_eq] at h2
    obtain ⟨⟨⟨⟨a, b⟩, c⟩, d⟩, e⟩ := h2
    exact ⟨by rw [ho]; exact h1 _ (by simp [mhw]), h1 _ (by simp [mhw]), a, b, c, d, Option.isSome_iff_exists.mp e⟩
  | 3, _, h1, h2 => simp [mhc] at h2
  | 4, _, h1, h2 =>
    simp only [mhc, Bool.and_eq_true, decide_eq_true_eq, List.any_eq_true] at h2
    obtain ⟨⟨⟨q, hq, ⟨a1, a2⟩, a3⟩, b⟩, c⟩ := h2
    refine ⟨⟨q.2.2.2, ?_⟩, h1 _ (by simp [mhw]), b, c⟩
    rw [ho, ← a1, ← a2, ← a3]
    exact hq
  | 5, _, h1, h2 =>
    simp only [mhc, Bool.and_eq_true, decide_eq_true_eq, List.any_eq_true] at h2
    obtain ⟨⟨⟨⟨⟨⟨q, hq, ⟨a1, a2⟩, a3⟩, b⟩, c⟩, d⟩, e⟩, f⟩ := h2
    refine ⟨⟨q.2.2.2, ?_⟩, h1 _ (by simp [mhw]), b, c, d, e, Option.isSome_iff_exists.mp f⟩
    rw [ho, ← a1, ← a2, ← a3]
    exact hq
  | n + 6, h, _, _ => exact absurd h (by omega)
theorem mh_ck {mt ix m2 ck : Nat} (h : tMH gT mt ix = some (m2, ck)) : mhc (oc mt) (ix, m2, ck) = true := (mh_ok _ _ (lk_mem h : (ix, m2, ck) ∈ g_mh.getD (oc mt) [])).2
theorem mh_w {mt ix m2 ck : Nat} (h : tMH gT mt ix = some (m2, ck)) : ∀ w ∈ mhw (oc mt) (ix, m2, ck), w ∈ AW := (mh_ok _ _ (lk_mem h : (ix, m2, ck) ∈ g_mh.getD (oc mt) [])).1
theorem ck_range {mt ix m2 ck : Nat} (h : tMH gT mt ix = some (m2, ck)) : ck ≤ 8 ∨ (10 ≤ ck ∧ ck ≤ 13) := by
  have := mh_ck h
  match ck, this with
  | 0, _ | 1, _ | 2, _ | 3, _ | 4, _ | 5, _ | 6, _ | 7, _ | 8, _ => left; omega
  | 9, t => simp [mhc] at t
  | 10, _ | 11, _ | 12, _ | 13, _ => right; omega
  | n + 14, t => simp [mhc] at t
/-- a call's kind fits its instruction -/
def ichk (mt : Nat) (i : Instr) : Bool := match i with
  | .invokestatic ix => (match tMH gT mt ix with | some (_, ck) => decide (ck ≠ 7 ∧ ck ≠ 8) | none => true)
  | .invokevirtual ix => (match tMH gT mt ix with | some (_, ck) => decide (ck ≠ 6 ∧ ck ≠ 7 ∧ ck < 10) | none => true)
  | .invokespecial ix => (match tMH gT mt ix with | some (_, ck) => decide (ck ≠ 6 ∧ ck ≠ 8 ∧ ck < 10) | none => true)
  | _ => true
def icall (mt : Nat) : Bool := (g2 gOps [] mt).all fun ch => ch.all fun e => ichk mt e.2
set_option maxHeartbeats 4000000 in
theorem vo_of {mt pc : Nat} {i : Instr} (hc : ochk mt pc i = true) (hi : ichk mt i = true) (hth : ∀ e ∈ thd, ∃ tx q2, VX gM gE gk0 e.1 e.2.2.2.1 e.2.2.2.2.1 e.2.2.2.2.2.1 (gxn (e.2.2.1 - 100)) tx q2)
    (hvh : (∃ ix, i = .invokevirtual ix ∨ i = .invokestatic ix ∨ i = .invokespecial ix) → ∀ ex, ex < 3 → VH gT gM gE gxn mt pc ex) : VO gT gM gE gxn gk0 mt pc i := by
  cases i with
  | bipush v => simp only [ochk, Bool.and_eq_true] at hc; exact ⟨dec_ok hc.1, of_decide_eq_true hc.2⟩
  | sipush v => simp only [ochk, Bool.and_eq_true] at hc; exact ⟨dec_ok hc.1, of_decide_eq_true hc.2⟩
  | goto off => simp only [ochk, Bool.and_eq_true] at hc; exact ⟨dec_ok hc.1, jok_ok hc.2⟩
  | if_icmp c off => simp only [ochk, Bool.and_eq_true] at hc; exact ⟨dec_ok hc.1, jok_ok hc.2⟩
  | ifCond c off => simp only [ochk, Bool.and_eq_true] at hc; exact ⟨dec_ok hc.1, jok_ok hc.2⟩
  | tableswitch df lo hi offs =>
    simp only [ochk, Bool.and_eq_true] at hc
    obtain ⟨⟨h1, h2⟩, h3⟩ := hc
    split at h1
    · rename_i a b c o len hd
      simp only [Bool.and_eq_true, decide_eq_true_eq] at h1
      obtain ⟨⟨⟨rfl, rfl⟩, rfl⟩, rfl⟩ := h1
      exact ⟨len, hd, jok_ok h2, fun i off ho => jok_ok (List.all_eq_true.mp h3 off (List.mem_of_getElem? (by rw [Array.getElem?_toList]; exact ho)))⟩
    · cases h1
  | ldc ix =>
    simp only [ochk, Bool.and_eq_true] at hc
    obtain ⟨h1, h2⟩ := hc
    refine ⟨dec_ok h1, fun v hv => ?_, fun hn q hq => ?_⟩
    · rw [hv] at h2
      have h3 := kn_ok _ _ (lk_mem hv : (ix, v) ∈ g_kn.getD (oc mt) [])
      rw [if_neg (of_decide_eq_true h2)] at h3
      rw [own_eq]; exact h3
    · rw [hn] at h2
      dsimp only at h2
      rw [hq] at h2
      simp only [List.any_eq_true, Bool.and_eq_true, decide_eq_true_eq] at h2
      obtain ⟨z, hz, ⟨a, b⟩, c⟩ := h2
      exact ⟨z.2.2.1, by rw [← a, ← b, ← c]; exact hz⟩
  | ldc_w ix =>
    simp only [ochk, Bool.and_eq_true] at hc
    refine ⟨dec_ok hc.1, fun v hv => ?_⟩
    have h3 := kn_ok _ _ (lk_mem hv : (ix, v) ∈ g_kn.getD (oc mt) [])
    rw [if_neg (of_decide_eq_true hc.2)] at h3
    rw [own_eq]; exact h3
  | ldc2_w ix =>
    simp only [ochk, Bool.and_eq_true] at hc
    refine ⟨dec_ok hc.1, fun v hv => ?_⟩
    have h3 := kn_ok _ _ (lk_mem hv : (ix, v) ∈ g_kn.getD (oc mt) [])
    rw [if_pos (of_decide_eq_true hc.2)] at h3
    rw [own_eq]; exact h3
  | getfield ix =>
    refine ⟨dec_ok hc, fun ci j tag h => ?_⟩
    rcases fl_VF h with ⟨C, Tt, N, w, -⟩ | ⟨-, w⟩
    · exact Or.inl ⟨C, Tt, N, w⟩
    · exact Or.inr w
  | putfield ix =>
    simp only [ochk, Bool.and_eq_true] at hc
    refine ⟨dec_ok hc.1, fun ci j tag h => ?_⟩
    have h2 := hc.2
    rw [h] at h2
    simp only [Bool.and_eq_true, Bool.or_eq_true, decide_eq_true_eq] at h2
    rcases fl_VF h with ⟨C, Tt, N, w, w1, w2⟩ | ⟨-, w, -⟩
    · refine ⟨C, Tt, N, w, ?_⟩
      rcases h2.2 with q | q
      · left; rw [w1]; exact decide_eq_false (by omega)
      · right; exact ⟨q.1, by rw [w2]; exact q.2⟩
    · omega
  | getstatic ix =>
    simp only [ochk, Bool.and_eq_true, Bool.or_eq_true, decide_eq_true_eq] at hc
    obtain ⟨⟨h1, h2⟩, h3⟩ := hc
    have hw := chkw_ok rw_all
    refine ⟨dec_ok h1, fun h => ?_, fun q h hq => ?_⟩
    · rcases h3 with q | q
      · rw [own_eq, h2, q.1]; exact hw _ (by simp)
      · rw [h] at q; cases q.2
    · rcases h3 with z | z
      · rw [h] at z; cases z.2; exact absurd rfl hq
      · rw [own_eq, h2, z.1]; exact hw _ (by simp)
  | newarray ty =>
    simp only [ochk, Bool.and_eq_true] at hc
    have hw := chkw_ok rw_all
    exact ⟨dec_ok hc.1, fun _ => hw _ (by simp), fun _ => hw _ (by simp), fun _ => hw _ (by simp)⟩
  | anewarray ix =>
    simp only [ochk, Bool.and_eq_true, decide_eq_true_eq, List.mem_singleton, Prod.mk.injEq] at hc
    have hw := chkw_ok rw_all
    exact ⟨dec_ok hc.1, by rw [own_eq, hc.2.1, hc.2.2]; exact hw _ (by simp)⟩
  | multianewarray ix dm =>
    simp only [ochk, Bool.and_eq_true, decide_eq_true_eq] at hc
    obtain ⟨⟨h1, rfl⟩, h3⟩ := hc
    have hw := chkw_ok gw_all
    have hw2 := chkw_ok rw_all
    exact ⟨rfl, dec_ok h1, by rw [own_eq]; exact hw _ (List.mem_map.mpr ⟨_, h3, rfl⟩), hw2 _ (by simp)⟩
  | checkcast ix =>
    simp only [ochk, Bool.and_eq_true, decide_eq_true_eq, List.mem_singleton, Prod.mk.injEq] at hc
    have hw := chkw_ok rw_all
    exact ⟨dec_ok hc.1, by rw [own_eq, hc.2.1, hc.2.2]; exact hw _ (by simp)⟩
  | lreturn => simp only [ochk, Bool.and_eq_true] at hc; exact ⟨dec_ok hc.1, of_decide_eq_true hc.2⟩
  | return_ => simp only [ochk, Bool.and_eq_true] at hc; exact ⟨dec_ok hc.1, of_decide_eq_true hc.2⟩
  | areturn =>
    simp only [ochk, Bool.and_eq_true] at hc
    obtain ⟨h1, h2⟩ := hc
    refine ⟨dec_ok h1, ?_⟩
    split at h2
    · rename_i n e; exact ⟨_, e, Or.inl ⟨n, rfl⟩⟩
    · rename_i n e; exact ⟨_, e, Or.inr ⟨n, rfl⟩⟩
    · cases h2
  | new ix =>
    simp only [ochk, Bool.and_eq_true] at hc
    obtain ⟨h1, h2⟩ := hc
    refine ⟨dec_ok h1, fun q hq => ?_⟩
    rw [hq] at h2
    simp only [Bool.or_eq_true, Bool.and_eq_true, decide_eq_true_eq, List.any_eq_true] at h2
    have hn : ∀ e ∈ ncl, e.2.2 < 13 := by decide
    refine ⟨fun c => ?_, fun c => ?_⟩
    · rcases h2 with z | ⟨z, -⟩
      · have hlt := hn _ z
        have hw := chkw_ok nw_all _ (List.mem_map.mpr ⟨_, z, rfl⟩)
        dsimp only at hw hlt
        have hcl : ∃ C Tt N, vwCl[q]? = some (C, Tt, N) ∧ C = cnf q := by
          have : ∀ k, k < 13 → ∃ C Tt N, vwCl[k]? = some (C, Tt, N) ∧ C = cnf k := by
            intro k hk
            match k, hk with
            | 0, _ | 1, _ | 2, _ | 3, _ | 4, _ | 5, _ | 6, _ | 7, _ | 8, _ | 9, _ | 10, _ | 11, _ | 12, _ => exact ⟨_, _, _, rfl, rfl⟩
            | n + 13, h => exact absurd h (by omega)
          exact this q hlt
        obtain ⟨C, Tt, N, e1, e2⟩ := hcl
        exact ⟨C, Tt, N, vcs _ _ _ _ e1, by rw [own_eq, e2]; exact hw⟩
      · omega
    · rcases h2 with z | ⟨-, e, he, ⟨⟨⟨⟨⟨a1, a2⟩, a3⟩, a4⟩, a5⟩, a6⟩⟩
      · have := hn _ z; dsimp only at this; omega
      · obtain ⟨tx, q2, hx⟩ := hth e he
        rw [a1, a3, a4] at hx
        refine ⟨e.2.2.2.2.1, e.2.2.2.2.2.1, tx, q2, hx, dec_ok a5, ?_⟩
        split at a6
        · simp only [Bool.and_eq_true] at a6; exact Or.inr ⟨dec_ok a6.1.1, dec_ok a6.1.2, dec_ok a6.2⟩
        · simp only [Bool.and_eq_true] at a6; exact Or.inl ⟨dec_ok a6.1.1, dec_ok a6.1.2, dec_ok a6.2⟩
  | invokestatic ix =>
    refine ⟨dec_ok hc, fun m2 ck h => ⟨fun e => ?_, fun e => ?_, fun e1 e2 => ⟨?_, fun _ => hvh ⟨ix, Or.inr (Or.inl rfl)⟩⟩⟩⟩
    · subst e
      have hw := mh_w h
      rw [own_eq]
      exact ⟨hw _ (by simp [mhw]), hw _ (by simp [mhw]), hw _ (by simp [mhw]), hw _ (by simp [mhw])⟩
    · have hw := mh_w h
      have hr := ck_range h
      rw [own_eq]
      match ck, e, hr, hw with
      | 10, _, _, hw | 11, _, _, hw | 12, _, _, hw | 13, _, _, hw => exact hw
      | n + 14, _, hr, _ => omega
    · have hr := ck_range h
      have hk : ck ≠ 7 ∧ ck ≠ 8 := by
        simp only [ichk, h, decide_eq_true_eq] at hi
        exact hi
      exact mh_VL h (by omega)
  | invokevirtual ix =>
    refine ⟨dec_ok hc, fun m2 ck h => ⟨fun e => ?_, fun e1 => ⟨?_, fun _ => hvh ⟨ix, Or.inl rfl⟩⟩⟩⟩
    · subst e
      have hw := mh_w h
      rw [own_eq]
      exact ⟨⟨hw _ (by simp [mhw]), hw _ (by simp [mhw]), hw _ (by simp [mhw]), hw _ (by simp [mhw]), hw _ (by simp [mhw])⟩, by decide⟩
    · have hk : ck ≠ 6 ∧ ck ≠ 7 ∧ ck < 10 := by
        simp only [ichk, h, decide_eq_true_eq] at hi
        exact hi
      have hr := ck_range h
      exact mh_VL h (by omega)
  | invokespecial ix =>
    refine ⟨dec_ok hc, fun m2 ck h => ⟨fun e => ?_, fun e1 => ⟨?_, fun _ => hvh ⟨ix, Or.inr (Or.inr rfl)⟩⟩⟩⟩
    · subst e
      have hw := mh_w h
      rw [own_eq]
      exact ⟨hw _ (by simp [mhw]), hw _ (by simp [mhw]), hw _ (by simp [mhw])⟩
    · have hk : ck ≠ 6 ∧ ck ≠ 8 ∧ ck < 10 := by
        simp only [ichk, h, decide_eq_true_eq] at hi
        exact hi
      have hr := ck_range h
      exact mh_VL h (by omega)
  | _ => exact dec_ok hc
