/-! ===== how the tables are checked ===== -/
def tsub (k : Nat) : List Cond := match k with
  | 0 => k2_sels lw_privs
  | 1 => tables_1_1 | 2 => tables_1_2 | 3 => tables_1_3 | 4 => tables_1_4 | 5 => tables_1_5 | 6 => tables_1_6 | 7 => tables_1_7 | 8 => tables_1_8
  | _ => tables_1_9
theorem tsub_in (k : Nat) : ∀ w ∈ tsub k, w ∈ lw_tbl := by
  intro w hw
  unfold lw_tbl tables_1
  unfold tsub at hw
  simp only [List.mem_append]
  split at hw <;> simp [hw]
theorem wok {k i : Nat} {w : Cond} (h : (tsub k)[i]? = some w) (g : goodWord w = true) : w ∈ AW := List.mem_filter.mpr ⟨tsub_in k w (List.mem_of_getElem? h), g⟩
def chkw (ws : List Cond) (ps : List (Nat × Nat)) : Bool := match ws, ps with
  | [], [] => true
  | w :: ws, p :: ps => decide ((tsub p.1)[p.2]? = some w) && goodWord w && chkw ws ps
  | _, _ => false
theorem chkw_ok : ∀ {ws : List Cond} {ps : List (Nat × Nat)}, chkw ws ps = true → ∀ w ∈ ws, w ∈ AW := by
  intro ws
  induction ws with
  | nil => intro ps _ w hw; cases hw
  | cons x ws ih =>
    intro ps h w hw
    cases ps with
    | nil => cases h
    | cons p ps =>
      simp only [chkw, Bool.and_eq_true, decide_eq_true_eq] at h
      rcases List.mem_cons.mp hw with q | q
      · rw [q]; exact wok h.1.1 h.1.2
      · exact ih h.2 w q
def cnf (o : Nat) : String := cnm.getD o ""
/-- the words of a field's link -/
def flw (o : Nat) (e : Nat × Nat × Nat × Nat) : Cond := match vwCl[e.2.1]? with
  | some (_, Tt, _) => .fieldLink (cnf o) e.1 (Tt e.2.2.1).1 (Tt e.2.2.1).2.1 (Tt e.2.2.1).2.2.1
  | none => if e.2.2.1 = 0 then .fieldLink (cnf o) e.1 "java/lang/String" "value" "[B" else .fieldLink (cnf o) e.1 "java/lang/String" "coder" "B"
def flc (e : Nat × Nat × Nat × Nat) : Bool := match vwCl[e.2.1]? with
  | some (_, Tt, N) => decide (e.2.2.1 < N) && decide ((ctag.getD e.2.1 []).getD e.2.2.1 0 = e.2.2.2 % 8) && ((Tt e.2.2.1).2.2.2 == decide (8 ≤ e.2.2.2)) && decide ((Tt e.2.2.1).1 = cnf e.2.1)
  | none => decide (e.2.1 = 18) && ((decide (e.2.2.1 = 0) && decide (e.2.2.2 % 8 = 2)) || (decide (e.2.2.1 = 1) && decide (e.2.2.2 % 8 = 0)))
/-- the words of a call's link -/
def mhw (o : Nat) (e : Nat × Nat × Nat) : List Cond := match e.2.2 with
  | 0 => [.methodLink (cnf o) e.1 (mY gM e.2.1), .instanceMethod (mY gM e.2.1), .selects (mY gM e.2.1).cls (mY gM e.2.1) (mY gM e.2.1)]
  | 1 => [.methodLink (cnf o) e.1 (mY gM e.2.1), .static (mY gM e.2.1)]
  | 2 => [.methodLink (cnf o) e.1 (mY gM e.2.1), .instanceMethod (mY gM e.2.1)]
  | 4 => [.static (mY gM e.2.1)]
  | 5 => [.instanceMethod (mY gM e.2.1)]
  | 6 => [.methodLink (cnf o) e.1 arraycopyName, .native arraycopyName, .static arraycopyName, .initialized "java/lang/System"]
  | 7 => [.methodLink (cnf o) e.1 objectInit, .instanceMethod objectInit, .code objectInit ⟨#[0xb1]⟩ 1 none]
  | 10 => mathw (cnf o) e.1 10
  | 11 => mathw (cnf o) e.1 11
  | 12 => mathw (cnf o) e.1 12
  | 13 => mathw (cnf o) e.1 13
  | _ => [.methodLink (cnf o) e.1 ⟨"[I", "clone", "()Ljava/lang/Object;"⟩, .sameMethod "[I" "java/lang/Object" "clone" "()Ljava/lang/Object;", .native ⟨"java/lang/Object", "clone", "()Ljava/lang/Object;"⟩, .instanceMethod ⟨"java/lang/Object", "clone", "()Ljava/lang/Object;"⟩, .selects "[I" ⟨"[I", "clone", "()Ljava/lang/Object;"⟩ ⟨"java/lang/Object", "clone", "()Ljava/lang/Object;"⟩]
def mhc (o : Nat) (e : Nat × Nat × Nat) : Bool := match e.2.2 with
  | 0 => decide (mH gM e.2.1 = []) && decide (1 ≤ tNA gT e.2.1) && (match tRV gT e.2.1 with
    | some (ci + 1) => (match vwCl[ci]? with | some (C, _, _) => decide (C = (mY gM e.2.1).cls) && decide (ci < 13) | none => decide (ci = 18) && decide ((mY gM e.2.1).cls = "java/lang/String"))
    | _ => false)
  | 1 => decide (tRV gT e.2.1 = none)
  | 2 => decide ((mY gM e.2.1).name = "<init>") && decide (mH gM e.2.1 = []) && decide (tRT gT e.2.1 = none) && decide (1 ≤ tNA gT e.2.1) && (tRV gT e.2.1).isSome
  | 4 => gE.1.any (fun q => decide (q.1 = cnf o) && decide (q.2.1 = e.1) && decide (q.2.2.1 = mY gM e.2.1)) && decide (tRV gT e.2.1 = none) && decide (mH gM e.2.1 = [])
  | 5 => gE.1.any (fun q => decide (q.1 = cnf o) && decide (q.2.1 = e.1) && decide (q.2.2.1 = mY gM e.2.1)) && decide ((mY gM e.2.1).name = "<init>") && decide (mH gM e.2.1 = []) && decide (tRT gT e.2.1 = none) && decide (1 ≤ tNA gT e.2.1) && (tRV gT e.2.1).isSome
  | 6 => true
  | 7 => true
  | 8 => true
  | 10 => true
  | 11 => true
  | 12 => true
  | 13 => true
  | _ => false
/-- a method's own words -/
def vmc (mt : Nat) : Bool := plainName (mY gM mt).cls && decide (tML gT mt ≤ 45) && decide ((mY gM mt).cls ≠ "java/lang/invoke/MethodHandle") && decide ((mY gM mt).cls ≠ "java/lang/invoke/VarHandle") && decide ((parseMethodDescriptor (mY gM mt).desc).map (fun d => d.parameters.length) = some (tNA gT mt - if tRV gT mt = none then 0 else 1))
theorem vm_of {mt : Nat} (h : vmc mt = true) (h1 : mW gT gM mt ∈ AW) (h2 : Cond.initialized (mY gM mt).cls ∈ AW) : VM gT gM mt := by
  simp only [vmc, Bool.and_eq_true, decide_eq_true_eq] at h
  obtain ⟨⟨⟨⟨a, b⟩, c⟩, d⟩, e⟩ := h
  exact ⟨a, h1, h2, b, ⟨c, d⟩, e⟩
/-- the throws: method, place, class, and the indices; 1 where the text's is wide -/
def thd : List (Nat × Nat × Nat × Nat × Nat × Nat × Nat) := [(96, 39, 101, 111, 113, 115, 0), (96, 61, 102, 121, 123, 125, 0), (97, 25, 101, 111, 113, 115, 0), (97, 46, 102, 121, 130, 125, 0), (114, 71, 102, 121, 255, 125, 0), (115, 39, 102, 121, 268, 125, 1), (133, 21, 102, 121, 393, 125, 1), (151, 12, 102, 121, 445, 125, 1), (153, 9, 100, 447, 449, 451, 1), (154, 4, 101, 111, 452, 115, 1)]
def kL : List (Nat × Nat) := [(1, 104), (2, 110), (12, 287), (12, 289), (12, 305), (12, 316)]
def ncl : List (Nat × Nat × Nat) := [(2, 15, 4), (2, 30, 6), (2, 53, 7), (8, 58, 7), (10, 9, 3), (10, 18, 1), (11, 7, 9), (11, 16, 4), (11, 23, 8), (11, 30, 2), (11, 40, 3), (11, 47, 1), (11, 54, 0), (11, 61, 10), (11, 68, 5), (13, 8, 11), (13, 150, 12)]
def mnl : List (Nat × Nat) := [(4, 24), (2, 25), (3, 21)]
def oc (mt : Nat) : Nat := (gme mt).2.2.2.2.2.2.2.2
def jokb (pc : Nat) (off : Int) : Bool := decide ((pc : Int) + off = (jmp pc off : Int))
def dec (mt pc : Nat) (i : Instr) : Bool := decide (decode (mC gM mt) pc = .ok (i, ilen i))
/-- an instruction at its place, as far as the bytes say it -/
def ochk (mt pc : Nat) (i : Instr) : Bool := match i with
  | .bipush v => dec mt pc (.bipush v) && decide ((Int8.ofInt v).toInt32 = Int32.ofInt v)
  | .sipush v => dec mt pc (.sipush v) && decide ((Int16.ofInt v).toInt32 = Int32.ofInt v)
  | .goto off => dec mt pc (.goto off) && jokb pc off
  | .if_icmp c off => dec mt pc (.if_icmp c off) && jokb pc off
  | .ifCond c off => dec mt pc (.ifCond c off) && jokb pc off
  | .tableswitch df lo hi offs => (match decode (mC gM mt) pc with | .ok (.tableswitch a b c o, _) => decide (a = df) && decide (b = lo) && decide (c = hi) && decide (o = offs) | _ => false) && jokb pc df && offs.toList.all (jokb pc)
  | .putfield ix => dec mt pc (.putfield ix) && (match tFL gT mt ix with | some (ci, _, tag) => decide (ci < 13) && (decide (tag < 8) || (decide ((mY gM mt).name = "<init>") && decide (cnf ci = (mY gM mt).cls))) | none => true)
  | .newarray ty => dec mt pc (.newarray ty) && decide (ty = .int ∨ ty = .long ∨ ty = .boolean)
  | .lreturn => dec mt pc .lreturn && decide (tRT gT mt = some .long)
  | .areturn => dec mt pc .areturn && (match tRT gT mt with | some (.object _) => true | some (.array _) => true | _ => false)
  | .return_ => dec mt pc .return_ && decide (tRT gT mt = none)
  | .new ix => dec mt pc (.new ix) && (match tCL gT mt ix with | some q => decide ((oc mt, ix, q) ∈ ncl) || (decide (100 ≤ q) && thd.any (fun e => decide (e.1 = mt) && decide (e.2.1 = pc) && decide (e.2.2.1 = q) && decide (e.2.2.2.1 = ix) && dec mt (pc + 3) .dup && (if e.2.2.2.2.2.2 = 1 then dec mt (pc + 4) (.ldc_w e.2.2.2.2.1) && dec mt (pc + 7) (.invokespecial e.2.2.2.2.2.1) && dec mt (pc + 10) .athrow else dec mt (pc + 4) (.ldc e.2.2.2.2.1) && dec mt (pc + 6) (.invokespecial e.2.2.2.2.2.1) && dec mt (pc + 9) .athrow))) | none => true)
  | .ldc ix => dec mt pc (.ldc ix) && (match tCO gT mt ix with | some _ => decide (¬ (oc mt, ix) ∈ kL) | none => (match tCL gT mt ix with | some q => gE.2.2.2.any (fun z => decide (z.1 = (mY gM mt).cls) && decide (z.2.1 = ix) && decide (z.2.2.2 = q)) | none => true))
  | .ldc_w ix => dec mt pc (.ldc_w ix) && decide (¬ (oc mt, ix) ∈ kL)
  | .ldc2_w ix => dec mt pc (.ldc2_w ix) && decide ((oc mt, ix) ∈ kL)
  | .getstatic ix => dec mt pc (.getstatic ix) && decide (oc mt = 14) && (decide (ix = 38 ∧ tCL gT mt ix = some 0) || decide (ix = 1053 ∧ tCL gT mt ix = some 1))
  | .anewarray ix => dec mt pc (.anewarray ix) && decide ((oc mt, ix) ∈ [(2, 53)])
  | .multianewarray ix dm => dec mt pc (.multianewarray ix dm) && decide (dm = 2) && decide ((oc mt, ix) ∈ mnl)
  | .checkcast ix => dec mt pc (.checkcast ix) && decide ((oc mt, ix) ∈ [(19, 317)])
  | i => dec mt pc i
def mchk (mt : Nat) : Bool := (g2 gOps [] mt).all fun ch => ch.all fun e => ochk mt e.1 e.2
theorem lk_mem {α : Type} {l : List (Nat × α)} {k : Nat} {v : α} (h : lk l k = some v) : (k, v) ∈ l := by
  induction l with
  | nil => cases h
  | cons x l ih =>
    obtain ⟨a, w⟩ := x
    unfold lk at h
    split at h
    · rename_i e; cases h; rw [e]; exact List.mem_cons_self
    · exact List.mem_cons_of_mem _ (ih h)
theorem getD_mem {α : Type} {l : List (List α)} {k : Nat} {x : α} (h : x ∈ l.getD k []) : l.getD k [] ∈ l := by
  rw [List.getD_eq_getElem?_getD] at h ⊢
  cases e : l[k]? with
  | none => rw [e] at h; cases h
  | some y => exact List.mem_of_getElem? e
theorem mchk_op {mt pc : Nat} {i : Instr} (h : mchk mt = true) (ho : tOp gT mt pc = some i) : ochk mt pc i = true := by
  have h1 : (pc, i) ∈ (g2 gOps [] mt).getD (pc / 32) [] := lk_mem ho
  have h2 := List.all_eq_true.mp h _ (getD_mem h1)
  exact List.all_eq_true.mp h2 _ h1
