/-! ===== handlers, throws ===== -/
theorem vh_268 : ∀ ex, ex < 3 → VH gT gM gE gxn 268 3 ex := by
  intro ex h
  match ex, h with
  | 0, _ => exact (List.forall_mem_cons.mpr ⟨Or.inr ⟨by decide, "java/lang/IllegalArgumentException", wok (k := 3) (i := 120) rfl rfl, by decide⟩, List.forall_mem_cons.mpr ⟨Or.inr ⟨by decide, "java/lang/UnsupportedOperationException", wok (k := 3) (i := 121) rfl rfl, by decide⟩, fun _ h => absurd h List.not_mem_nil⟩⟩ : ∀ z ∈ tableOf (mH gM 268), covers z 3 = false ∨ (z.catchType ≠ 0 ∧ ∃ nm : String, Cond.classLink (mY gM 268).cls z.catchType nm ∈ AW ∧ (gxn 0, nm) ∈ gE.2.2.1))
  | 1, _ => exact Exists.intro [] ⟨⟨0, 8, 11, 13⟩, [⟨0, 8, 14, 15⟩], "java/lang/IllegalArgumentException", 0, 2, rfl, (fun _ h => absurd h List.not_mem_nil), rfl, by decide, wok (k := 3) (i := 120) rfl rfl, by decide, rfl, Or.inl ⟨by decide +kernel, by decide, by decide +kernel, by decide +kernel⟩⟩
  | 2, _ => exact Exists.intro [⟨0, 8, 11, 13⟩] ⟨⟨0, 8, 14, 15⟩, [], "java/lang/UnsupportedOperationException", 0, 2, rfl, (List.forall_mem_cons.mpr ⟨Or.inr ⟨by decide, "java/lang/IllegalArgumentException", wok (k := 3) (i := 120) rfl rfl, by decide⟩, fun _ h => absurd h List.not_mem_nil⟩), rfl, by decide, wok (k := 3) (i := 121) rfl rfl, by decide, rfl, Or.inl ⟨by decide +kernel, by decide, by decide +kernel, by decide +kernel⟩⟩
  | n + 3, h => exact absurd h (by omega)
theorem vh_269 : ∀ ex, ex < 3 → VH gT gM gE gxn 269 3 ex := by
  intro ex h
  match ex, h with
  | 0, _ => exact (List.forall_mem_cons.mpr ⟨Or.inr ⟨by decide, "java/lang/IllegalArgumentException", wok (k := 3) (i := 120) rfl rfl, by decide⟩, List.forall_mem_cons.mpr ⟨Or.inr ⟨by decide, "java/lang/UnsupportedOperationException", wok (k := 3) (i := 121) rfl rfl, by decide⟩, fun _ h => absurd h List.not_mem_nil⟩⟩ : ∀ z ∈ tableOf (mH gM 269), covers z 3 = false ∨ (z.catchType ≠ 0 ∧ ∃ nm : String, Cond.classLink (mY gM 269).cls z.catchType nm ∈ AW ∧ (gxn 0, nm) ∈ gE.2.2.1))
  | 1, _ => exact Exists.intro [] ⟨⟨0, 8, 11, 13⟩, [⟨0, 8, 14, 15⟩], "java/lang/IllegalArgumentException", 0, 2, rfl, (fun _ h => absurd h List.not_mem_nil), rfl, by decide, wok (k := 3) (i := 120) rfl rfl, by decide, rfl, Or.inl ⟨by decide +kernel, by decide, by decide +kernel, by decide +kernel⟩⟩
  | 2, _ => exact Exists.intro [⟨0, 8, 11, 13⟩] ⟨⟨0, 8, 14, 15⟩, [], "java/lang/UnsupportedOperationException", 0, 2, rfl, (List.forall_mem_cons.mpr ⟨Or.inr ⟨by decide, "java/lang/IllegalArgumentException", wok (k := 3) (i := 120) rfl rfl, by decide⟩, fun _ h => absurd h List.not_mem_nil⟩), rfl, by decide, wok (k := 3) (i := 121) rfl rfl, by decide, rfl, Or.inl ⟨by decide +kernel, by decide, by decide +kernel, by decide +kernel⟩⟩
  | n + 3, h => exact absurd h (by omega)
theorem vh_270 : ∀ ex, ex < 3 → VH gT gM gE gxn 270 3 ex := by
  intro ex h
  match ex, h with
  | 0, _ => exact (List.forall_mem_cons.mpr ⟨Or.inr ⟨by decide, "java/lang/UnsupportedOperationException", wok (k := 3) (i := 121) rfl rfl, by decide⟩, fun _ h => absurd h List.not_mem_nil⟩ : ∀ z ∈ tableOf (mH gM 270), covers z 3 = false ∨ (z.catchType ≠ 0 ∧ ∃ nm : String, Cond.classLink (mY gM 270).cls z.catchType nm ∈ AW ∧ (gxn 0, nm) ∈ gE.2.2.1))
  | 1, _ => exact (List.forall_mem_cons.mpr ⟨Or.inr ⟨by decide, "java/lang/UnsupportedOperationException", wok (k := 3) (i := 121) rfl rfl, by decide⟩, fun _ h => absurd h List.not_mem_nil⟩ : ∀ z ∈ tableOf (mH gM 270), covers z 3 = false ∨ (z.catchType ≠ 0 ∧ ∃ nm : String, Cond.classLink (mY gM 270).cls z.catchType nm ∈ AW ∧ (gxn 1, nm) ∈ gE.2.2.1))
  | 2, _ => exact Exists.intro [] ⟨⟨0, 8, 11, 15⟩, [], "java/lang/UnsupportedOperationException", 0, 2, rfl, (fun _ h => absurd h List.not_mem_nil), rfl, by decide, wok (k := 3) (i := 121) rfl rfl, by decide, rfl, Or.inl ⟨by decide +kernel, by decide, by decide +kernel, by decide +kernel⟩⟩
  | n + 3, h => exact absurd h (by omega)
theorem vh_271 : ∀ ex, ex < 3 → VH gT gM gE gxn 271 4 ex := by
  intro ex h
  match ex, h with
  | 0, _ => exact Exists.intro [] ⟨⟨0, 9, 12, 27⟩, [⟨0, 9, 15, 15⟩], "java/lang/IndexOutOfBoundsException", 0, 3, rfl, (fun _ h => absurd h List.not_mem_nil), rfl, by decide, wok (k := 4) (i := 217) rfl rfl, by decide, rfl, Or.inl ⟨by decide +kernel, by decide, by decide +kernel, by decide +kernel⟩⟩
  | 1, _ => exact (List.forall_mem_cons.mpr ⟨Or.inr ⟨by decide, "java/lang/IndexOutOfBoundsException", wok (k := 4) (i := 217) rfl rfl, by decide⟩, List.forall_mem_cons.mpr ⟨Or.inr ⟨by decide, "java/lang/UnsupportedOperationException", wok (k := 3) (i := 121) rfl rfl, by decide⟩, fun _ h => absurd h List.not_mem_nil⟩⟩ : ∀ z ∈ tableOf (mH gM 271), covers z 4 = false ∨ (z.catchType ≠ 0 ∧ ∃ nm : String, Cond.classLink (mY gM 271).cls z.catchType nm ∈ AW ∧ (gxn 1, nm) ∈ gE.2.2.1))
  | 2, _ => exact Exists.intro [⟨0, 9, 12, 27⟩] ⟨⟨0, 9, 15, 15⟩, [], "java/lang/UnsupportedOperationException", 0, 3, rfl, (List.forall_mem_cons.mpr ⟨Or.inr ⟨by decide, "java/lang/IndexOutOfBoundsException", wok (k := 4) (i := 217) rfl rfl, by decide⟩, fun _ h => absurd h List.not_mem_nil⟩), rfl, by decide, wok (k := 3) (i := 121) rfl rfl, by decide, rfl, Or.inl ⟨by decide +kernel, by decide, by decide +kernel, by decide +kernel⟩⟩
  | n + 3, h => exact absurd h (by omega)
theorem vh_272 : ∀ ex, ex < 3 → VH gT gM gE gxn 272 8 ex := by
  intro ex h
  match ex, h with
  | 0, _ => exact Exists.intro [] ⟨⟨0, 11, 14, 27⟩, [⟨0, 11, 18, 13⟩], "java/lang/IndexOutOfBoundsException", 6, 0, rfl, (fun _ h => absurd h List.not_mem_nil), rfl, by decide, wok (k := 4) (i := 217) rfl rfl, by decide, rfl, Or.inr ⟨by decide +kernel, by decide, by decide +kernel, by decide +kernel⟩⟩
  | 1, _ => exact Exists.intro [⟨0, 11, 14, 27⟩] ⟨⟨0, 11, 18, 13⟩, [], "java/lang/IllegalArgumentException", 6, 0, rfl, (List.forall_mem_cons.mpr ⟨Or.inr ⟨by decide, "java/lang/IndexOutOfBoundsException", wok (k := 4) (i := 217) rfl rfl, by decide⟩, fun _ h => absurd h List.not_mem_nil⟩), rfl, by decide, wok (k := 3) (i := 120) rfl rfl, by decide, rfl, Or.inr ⟨by decide +kernel, by decide, by decide +kernel, by decide +kernel⟩⟩
  | 2, _ => exact (List.forall_mem_cons.mpr ⟨Or.inr ⟨by decide, "java/lang/IndexOutOfBoundsException", wok (k := 4) (i := 217) rfl rfl, by decide⟩, List.forall_mem_cons.mpr ⟨Or.inr ⟨by decide, "java/lang/IllegalArgumentException", wok (k := 3) (i := 120) rfl rfl, by decide⟩, fun _ h => absurd h List.not_mem_nil⟩⟩ : ∀ z ∈ tableOf (mH gM 272), covers z 8 = false ∨ (z.catchType ≠ 0 ∧ ∃ nm : String, Cond.classLink (mY gM 272).cls z.catchType nm ∈ AW ∧ (gxn 2, nm) ∈ gE.2.2.1))
  | n + 3, h => exact absurd h (by omega)
theorem vh_273 : ∀ ex, ex < 3 → VH gT gM gE gxn 273 8 ex := by
  intro ex h
  match ex, h with
  | 0, _ => exact Exists.intro [] ⟨⟨0, 11, 14, 27⟩, [⟨0, 11, 18, 13⟩], "java/lang/IndexOutOfBoundsException", 6, 0, rfl, (fun _ h => absurd h List.not_mem_nil), rfl, by decide, wok (k := 4) (i := 217) rfl rfl, by decide, rfl, Or.inr ⟨by decide +kernel, by decide, by decide +kernel, by decide +kernel⟩⟩
  | 1, _ => exact Exists.intro [⟨0, 11, 14, 27⟩] ⟨⟨0, 11, 18, 13⟩, [], "java/lang/IllegalArgumentException", 6, 0, rfl, (List.forall_mem_cons.mpr ⟨Or.inr ⟨by decide, "java/lang/IndexOutOfBoundsException", wok (k := 4) (i := 217) rfl rfl, by decide⟩, fun _ h => absurd h List.not_mem_nil⟩), rfl, by decide, wok (k := 3) (i := 120) rfl rfl, by decide, rfl, Or.inr ⟨by decide +kernel, by decide, by decide +kernel, by decide +kernel⟩⟩
  | 2, _ => exact (List.forall_mem_cons.mpr ⟨Or.inr ⟨by decide, "java/lang/IndexOutOfBoundsException", wok (k := 4) (i := 217) rfl rfl, by decide⟩, List.forall_mem_cons.mpr ⟨Or.inr ⟨by decide, "java/lang/IllegalArgumentException", wok (k := 3) (i := 120) rfl rfl, by decide⟩, fun _ h => absurd h List.not_mem_nil⟩⟩ : ∀ z ∈ tableOf (mH gM 273), covers z 8 = false ∨ (z.catchType ≠ 0 ∧ ∃ nm : String, Cond.classLink (mY gM 273).cls z.catchType nm ∈ AW ∧ (gxn 2, nm) ∈ gE.2.2.1))
  | n + 3, h => exact absurd h (by omega)
theorem vh_274 : ∀ ex, ex < 3 → VH gT gM gE gxn 274 10 ex := by
  intro ex h
  match ex, h with
  | 0, _ => exact Exists.intro [] ⟨⟨0, 13, 16, 27⟩, [⟨0, 13, 20, 13⟩], "java/lang/IndexOutOfBoundsException", 7, 0, rfl, (fun _ h => absurd h List.not_mem_nil), rfl, by decide, wok (k := 4) (i := 217) rfl rfl, by decide, rfl, Or.inr ⟨by decide +kernel, by decide, by decide +kernel, by decide +kernel⟩⟩
  | 1, _ => exact Exists.intro [⟨0, 13, 16, 27⟩] ⟨⟨0, 13, 20, 13⟩, [], "java/lang/IllegalArgumentException", 7, 0, rfl, (List.forall_mem_cons.mpr ⟨Or.inr ⟨by decide, "java/lang/IndexOutOfBoundsException", wok (k := 4) (i := 217) rfl rfl, by decide⟩, fun _ h => absurd h List.not_mem_nil⟩), rfl, by decide, wok (k := 3) (i := 120) rfl rfl, by decide, rfl, Or.inr ⟨by decide +kernel, by decide, by decide +kernel, by decide +kernel⟩⟩
  | 2, _ => exact (List.forall_mem_cons.mpr ⟨Or.inr ⟨by decide, "java/lang/IndexOutOfBoundsException", wok (k := 4) (i := 217) rfl rfl, by decide⟩, List.forall_mem_cons.mpr ⟨Or.inr ⟨by decide, "java/lang/IllegalArgumentException", wok (k := 3) (i := 120) rfl rfl, by decide⟩, fun _ h => absurd h List.not_mem_nil⟩⟩ : ∀ z ∈ tableOf (mH gM 274), covers z 10 = false ∨ (z.catchType ≠ 0 ∧ ∃ nm : String, Cond.classLink (mY gM 274).cls z.catchType nm ∈ AW ∧ (gxn 2, nm) ∈ gE.2.2.1))
  | n + 3, h => exact absurd h (by omega)
theorem vh_275 : ∀ ex, ex < 3 → VH gT gM gE gxn 275 7 ex := by
  intro ex h
  match ex, h with
  | 0, _ => exact Exists.intro [] ⟨⟨0, 12, 15, 27⟩, [], "java/lang/IndexOutOfBoundsException", 5, 0, rfl, (fun _ h => absurd h List.not_mem_nil), rfl, by decide, wok (k := 4) (i := 217) rfl rfl, by decide, rfl, Or.inr ⟨by decide +kernel, by decide, by decide +kernel, by decide +kernel⟩⟩
  | 1, _ => exact (List.forall_mem_cons.mpr ⟨Or.inr ⟨by decide, "java/lang/IndexOutOfBoundsException", wok (k := 4) (i := 217) rfl rfl, by decide⟩, fun _ h => absurd h List.not_mem_nil⟩ : ∀ z ∈ tableOf (mH gM 275), covers z 7 = false ∨ (z.catchType ≠ 0 ∧ ∃ nm : String, Cond.classLink (mY gM 275).cls z.catchType nm ∈ AW ∧ (gxn 1, nm) ∈ gE.2.2.1))
  | 2, _ => exact (List.forall_mem_cons.mpr ⟨Or.inr ⟨by decide, "java/lang/IndexOutOfBoundsException", wok (k := 4) (i := 217) rfl rfl, by decide⟩, fun _ h => absurd h List.not_mem_nil⟩ : ∀ z ∈ tableOf (mH gM 275), covers z 7 = false ∨ (z.catchType ≠ 0 ∧ ∃ nm : String, Cond.classLink (mY gM 275).cls z.catchType nm ∈ AW ∧ (gxn 2, nm) ∈ gE.2.2.1))
  | n + 3, h => exact absurd h (by omega)
theorem vh_276 : ∀ ex, ex < 3 → VH gT gM gE gxn 276 7 ex := by
  intro ex h
  match ex, h with
  | 0, _ => exact Exists.intro [] ⟨⟨0, 12, 15, 27⟩, [], "java/lang/IndexOutOfBoundsException", 5, 0, rfl, (fun _ h => absurd h List.not_mem_nil), rfl, by decide, wok (k := 4) (i := 217) rfl rfl, by decide, rfl, Or.inr ⟨by decide +kernel, by decide, by decide +kernel, by decide +kernel⟩⟩
  | 1, _ => exact (List.forall_mem_cons.mpr ⟨Or.inr ⟨by decide, "java/lang/IndexOutOfBoundsException", wok (k := 4) (i := 217) rfl rfl, by decide⟩, fun _ h => absurd h List.not_mem_nil⟩ : ∀ z ∈ tableOf (mH gM 276), covers z 7 = false ∨ (z.catchType ≠ 0 ∧ ∃ nm : String, Cond.classLink (mY gM 276).cls z.catchType nm ∈ AW ∧ (gxn 1, nm) ∈ gE.2.2.1))
  | 2, _ => exact (List.forall_mem_cons.mpr ⟨Or.inr ⟨by decide, "java/lang/IndexOutOfBoundsException", wok (k := 4) (i := 217) rfl rfl, by decide⟩, fun _ h => absurd h List.not_mem_nil⟩ : ∀ z ∈ tableOf (mH gM 276), covers z 7 = false ∨ (z.catchType ≠ 0 ∧ ∃ nm : String, Cond.classLink (mY gM 276).cls z.catchType nm ∈ AW ∧ (gxn 2, nm) ∈ gE.2.2.1))
  | n + 3, h => exact absurd h (by omega)
theorem vh_277 : ∀ ex, ex < 3 → VH gT gM gE gxn 277 5 ex := by
  intro ex h
  match ex, h with
  | 0, _ => exact Exists.intro [] ⟨⟨0, 10, 13, 27⟩, [], "java/lang/IndexOutOfBoundsException", 4, 0, rfl, (fun _ h => absurd h List.not_mem_nil), rfl, by decide, wok (k := 4) (i := 217) rfl rfl, by decide, rfl, Or.inr ⟨by decide +kernel, by decide, by decide +kernel, by decide +kernel⟩⟩
  | 1, _ => exact (List.forall_mem_cons.mpr ⟨Or.inr ⟨by decide, "java/lang/IndexOutOfBoundsException", wok (k := 4) (i := 217) rfl rfl, by decide⟩, fun _ h => absurd h List.not_mem_nil⟩ : ∀ z ∈ tableOf (mH gM 277), covers z 5 = false ∨ (z.catchType ≠ 0 ∧ ∃ nm : String, Cond.classLink (mY gM 277).cls z.catchType nm ∈ AW ∧ (gxn 1, nm) ∈ gE.2.2.1))
  | 2, _ => exact (List.forall_mem_cons.mpr ⟨Or.inr ⟨by decide, "java/lang/IndexOutOfBoundsException", wok (k := 4) (i := 217) rfl rfl, by decide⟩, fun _ h => absurd h List.not_mem_nil⟩ : ∀ z ∈ tableOf (mH gM 277), covers z 5 = false ∨ (z.catchType ≠ 0 ∧ ∃ nm : String, Cond.classLink (mY gM 277).cls z.catchType nm ∈ AW ∧ (gxn 2, nm) ∈ gE.2.2.1))
  | n + 3, h => exact absurd h (by omega)
theorem vh_278 : ∀ ex, ex < 3 → VH gT gM gE gxn 278 7 ex := by
  intro ex h
  match ex, h with
  | 0, _ => exact Exists.intro [] ⟨⟨0, 12, 15, 27⟩, [], "java/lang/IndexOutOfBoundsException", 5, 0, rfl, (fun _ h => absurd h List.not_mem_nil), rfl, by decide, wok (k := 4) (i := 217) rfl rfl, by decide, rfl, Or.inr ⟨by decide +kernel, by decide, by decide +kernel, by decide +kernel⟩⟩
  | 1, _ => exact (List.forall_mem_cons.mpr ⟨Or.inr ⟨by decide, "java/lang/IndexOutOfBoundsException", wok (k := 4) (i := 217) rfl rfl, by decide⟩, fun _ h => absurd h List.not_mem_nil⟩ : ∀ z ∈ tableOf (mH gM 278), covers z 7 = false ∨ (z.catchType ≠ 0 ∧ ∃ nm : String, Cond.classLink (mY gM 278).cls z.catchType nm ∈ AW ∧ (gxn 1, nm) ∈ gE.2.2.1))
  | 2, _ => exact (List.forall_mem_cons.mpr ⟨Or.inr ⟨by decide, "java/lang/IndexOutOfBoundsException", wok (k := 4) (i := 217) rfl rfl, by decide⟩, fun _ h => absurd h List.not_mem_nil⟩ : ∀ z ∈ tableOf (mH gM 278), covers z 7 = false ∨ (z.catchType ≠ 0 ∧ ∃ nm : String, Cond.classLink (mY gM 278).cls z.catchType nm ∈ AW ∧ (gxn 2, nm) ∈ gE.2.2.1))
  | n + 3, h => exact absurd h (by omega)
theorem vh_279 : ∀ ex, ex < 3 → VH gT gM gE gxn 279 7 ex := by
  intro ex h
  match ex, h with
  | 0, _ => exact Exists.intro [] ⟨⟨0, 12, 15, 27⟩, [], "java/lang/IndexOutOfBoundsException", 5, 0, rfl, (fun _ h => absurd h List.not_mem_nil), rfl, by decide, wok (k := 4) (i := 217) rfl rfl, by decide, rfl, Or.inr ⟨by decide +kernel, by decide, by decide +kernel, by decide +kernel⟩⟩
  | 1, _ => exact (List.forall_mem_cons.mpr ⟨Or.inr ⟨by decide, "java/lang/IndexOutOfBoundsException", wok (k := 4) (i := 217) rfl rfl, by decide⟩, fun _ h => absurd h List.not_mem_nil⟩ : ∀ z ∈ tableOf (mH gM 279), covers z 7 = false ∨ (z.catchType ≠ 0 ∧ ∃ nm : String, Cond.classLink (mY gM 279).cls z.catchType nm ∈ AW ∧ (gxn 1, nm) ∈ gE.2.2.1))
  | 2, _ => exact (List.forall_mem_cons.mpr ⟨Or.inr ⟨by decide, "java/lang/IndexOutOfBoundsException", wok (k := 4) (i := 217) rfl rfl, by decide⟩, fun _ h => absurd h List.not_mem_nil⟩ : ∀ z ∈ tableOf (mH gM 279), covers z 7 = false ∨ (z.catchType ≠ 0 ∧ ∃ nm : String, Cond.classLink (mY gM 279).cls z.catchType nm ∈ AW ∧ (gxn 2, nm) ∈ gE.2.2.1))
  | n + 3, h => exact absurd h (by omega)
theorem vh_280 : ∀ ex, ex < 3 → VH gT gM gE gxn 280 9 ex := by
  intro ex h
  match ex, h with
  | 0, _ => exact Exists.intro [] ⟨⟨0, 14, 17, 27⟩, [], "java/lang/IndexOutOfBoundsException", 6, 0, rfl, (fun _ h => absurd h List.not_mem_nil), rfl, by decide, wok (k := 4) (i := 217) rfl rfl, by decide, rfl, Or.inr ⟨by decide +kernel, by decide, by decide +kernel, by decide +kernel⟩⟩
  | 1, _ => exact (List.forall_mem_cons.mpr ⟨Or.inr ⟨by decide, "java/lang/IndexOutOfBoundsException", wok (k := 4) (i := 217) rfl rfl, by decide⟩, fun _ h => absurd h List.not_mem_nil⟩ : ∀ z ∈ tableOf (mH gM 280), covers z 9 = false ∨ (z.catchType ≠ 0 ∧ ∃ nm : String, Cond.classLink (mY gM 280).cls z.catchType nm ∈ AW ∧ (gxn 1, nm) ∈ gE.2.2.1))
  | 2, _ => exact (List.forall_mem_cons.mpr ⟨Or.inr ⟨by decide, "java/lang/IndexOutOfBoundsException", wok (k := 4) (i := 217) rfl rfl, by decide⟩, fun _ h => absurd h List.not_mem_nil⟩ : ∀ z ∈ tableOf (mH gM 280), covers z 9 = false ∨ (z.catchType ≠ 0 ∧ ∃ nm : String, Cond.classLink (mY gM 280).cls z.catchType nm ∈ AW ∧ (gxn 2, nm) ∈ gE.2.2.1))
  | n + 3, h => exact absurd h (by omega)
theorem vh_281 : ∀ ex, ex < 3 → VH gT gM gE gxn 281 7 ex := by
  intro ex h
  match ex, h with
  | 0, _ => exact Exists.intro [] ⟨⟨0, 19, 22, 27⟩, [], "java/lang/IndexOutOfBoundsException", 5, 0, rfl, (fun _ h => absurd h List.not_mem_nil), rfl, by decide, wok (k := 4) (i := 217) rfl rfl, by decide, rfl, Or.inr ⟨by decide +kernel, by decide, by decide +kernel, by decide +kernel⟩⟩
  | 1, _ => exact (List.forall_mem_cons.mpr ⟨Or.inr ⟨by decide, "java/lang/IndexOutOfBoundsException", wok (k := 4) (i := 217) rfl rfl, by decide⟩, fun _ h => absurd h List.not_mem_nil⟩ : ∀ z ∈ tableOf (mH gM 281), covers z 7 = false ∨ (z.catchType ≠ 0 ∧ ∃ nm : String, Cond.classLink (mY gM 281).cls z.catchType nm ∈ AW ∧ (gxn 1, nm) ∈ gE.2.2.1))
  | 2, _ => exact (List.forall_mem_cons.mpr ⟨Or.inr ⟨by decide, "java/lang/IndexOutOfBoundsException", wok (k := 4) (i := 217) rfl rfl, by decide⟩, fun _ h => absurd h List.not_mem_nil⟩ : ∀ z ∈ tableOf (mH gM 281), covers z 7 = false ∨ (z.catchType ≠ 0 ∧ ∃ nm : String, Cond.classLink (mY gM 281).cls z.catchType nm ∈ AW ∧ (gxn 2, nm) ∈ gE.2.2.1))
  | n + 3, h => exact absurd h (by omega)
theorem vh_282 : ∀ ex, ex < 3 → VH gT gM gE gxn 282 4 ex := by
  intro ex h
  match ex, h with
  | 0, _ => exact Exists.intro [] ⟨⟨0, 9, 12, 27⟩, [], "java/lang/IndexOutOfBoundsException", 0, 3, rfl, (fun _ h => absurd h List.not_mem_nil), rfl, by decide, wok (k := 4) (i := 217) rfl rfl, by decide, rfl, Or.inl ⟨by decide +kernel, by decide, by decide +kernel, by decide +kernel⟩⟩
  | 1, _ => exact (List.forall_mem_cons.mpr ⟨Or.inr ⟨by decide, "java/lang/IndexOutOfBoundsException", wok (k := 4) (i := 217) rfl rfl, by decide⟩, fun _ h => absurd h List.not_mem_nil⟩ : ∀ z ∈ tableOf (mH gM 282), covers z 4 = false ∨ (z.catchType ≠ 0 ∧ ∃ nm : String, Cond.classLink (mY gM 282).cls z.catchType nm ∈ AW ∧ (gxn 1, nm) ∈ gE.2.2.1))
  | 2, _ => exact (List.forall_mem_cons.mpr ⟨Or.inr ⟨by decide, "java/lang/IndexOutOfBoundsException", wok (k := 4) (i := 217) rfl rfl, by decide⟩, fun _ h => absurd h List.not_mem_nil⟩ : ∀ z ∈ tableOf (mH gM 282), covers z 4 = false ∨ (z.catchType ≠ 0 ∧ ∃ nm : String, Cond.classLink (mY gM 282).cls z.catchType nm ∈ AW ∧ (gxn 2, nm) ∈ gE.2.2.1))
  | n + 3, h => exact absurd h (by omega)
theorem vh_283 : ∀ ex, ex < 3 → VH gT gM gE gxn 283 4 ex := by
  intro ex h
  match ex, h with
  | 0, _ => exact Exists.intro [] ⟨⟨0, 9, 12, 27⟩, [], "java/lang/IndexOutOfBoundsException", 0, 3, rfl, (fun _ h => absurd h List.not_mem_nil), rfl, by decide, wok (k := 4) (i := 217) rfl rfl, by decide, rfl, Or.inl ⟨by decide +kernel, by decide, by decide +kernel, by decide +kernel⟩⟩
  | 1, _ => exact (List.forall_mem_cons.mpr ⟨Or.inr ⟨by decide, "java/lang/IndexOutOfBoundsException", wok (k := 4) (i := 217) rfl rfl, by decide⟩, fun _ h => absurd h List.not_mem_nil⟩ : ∀ z ∈ tableOf (mH gM 283), covers z 4 = false ∨ (z.catchType ≠ 0 ∧ ∃ nm : String, Cond.classLink (mY gM 283).cls z.catchType nm ∈ AW ∧ (gxn 1, nm) ∈ gE.2.2.1))
  | 2, _ => exact (List.forall_mem_cons.mpr ⟨Or.inr ⟨by decide, "java/lang/IndexOutOfBoundsException", wok (k := 4) (i := 217) rfl rfl, by decide⟩, fun _ h => absurd h List.not_mem_nil⟩ : ∀ z ∈ tableOf (mH gM 283), covers z 4 = false ∨ (z.catchType ≠ 0 ∧ ∃ nm : String, Cond.classLink (mY gM 283).cls z.catchType nm ∈ AW ∧ (gxn 2, nm) ∈ gE.2.2.1))
  | n + 3, h => exact absurd h (by omega)
theorem vh_284 : ∀ ex, ex < 3 → VH gT gM gE gxn 284 5 ex := by
  intro ex h
  match ex, h with
  | 0, _ => exact Exists.intro [] ⟨⟨0, 10, 13, 27⟩, [], "java/lang/IndexOutOfBoundsException", 4, 0, rfl, (fun _ h => absurd h List.not_mem_nil), rfl, by decide, wok (k := 4) (i := 217) rfl rfl, by decide, rfl, Or.inr ⟨by decide +kernel, by decide, by decide +kernel, by decide +kernel⟩⟩
  | 1, _ => exact (List.forall_mem_cons.mpr ⟨Or.inr ⟨by decide, "java/lang/IndexOutOfBoundsException", wok (k := 4) (i := 217) rfl rfl, by decide⟩, fun _ h => absurd h List.not_mem_nil⟩ : ∀ z ∈ tableOf (mH gM 284), covers z 5 = false ∨ (z.catchType ≠ 0 ∧ ∃ nm : String, Cond.classLink (mY gM 284).cls z.catchType nm ∈ AW ∧ (gxn 1, nm) ∈ gE.2.2.1))
  | 2, _ => exact (List.forall_mem_cons.mpr ⟨Or.inr ⟨by decide, "java/lang/IndexOutOfBoundsException", wok (k := 4) (i := 217) rfl rfl, by decide⟩, fun _ h => absurd h List.not_mem_nil⟩ : ∀ z ∈ tableOf (mH gM 284), covers z 5 = false ∨ (z.catchType ≠ 0 ∧ ∃ nm : String, Cond.classLink (mY gM 284).cls z.catchType nm ∈ AW ∧ (gxn 2, nm) ∈ gE.2.2.1))
  | n + 3, h => exact absurd h (by omega)
theorem vh_285 : ∀ ex, ex < 3 → VH gT gM gE gxn 285 13 ex := by
  intro ex h
  match ex, h with
  | 0, _ => exact Exists.intro [] ⟨⟨0, 18, 21, 27⟩, [⟨0, 18, 25, 13⟩, ⟨0, 18, 29, 15⟩], "java/lang/IndexOutOfBoundsException", 8, 0, rfl, (fun _ h => absurd h List.not_mem_nil), rfl, by decide, wok (k := 4) (i := 217) rfl rfl, by decide, rfl, Or.inr ⟨by decide +kernel, by decide, by decide +kernel, by decide +kernel⟩⟩
  | 1, _ => exact Exists.intro [⟨0, 18, 21, 27⟩] ⟨⟨0, 18, 25, 13⟩, [⟨0, 18, 29, 15⟩], "java/lang/IllegalArgumentException", 8, 0, rfl, (List.forall_mem_cons.mpr ⟨Or.inr ⟨by decide, "java/lang/IndexOutOfBoundsException", wok (k := 4) (i := 217) rfl rfl, by decide⟩, fun _ h => absurd h List.not_mem_nil⟩), rfl, by decide, wok (k := 3) (i := 120) rfl rfl, by decide, rfl, Or.inr ⟨by decide +kernel, by decide, by decide +kernel, by decide +kernel⟩⟩
  | 2, _ => exact Exists.intro [⟨0, 18, 21, 27⟩, ⟨0, 18, 25, 13⟩] ⟨⟨0, 18, 29, 15⟩, [], "java/lang/UnsupportedOperationException", 8, 0, rfl, (List.forall_mem_cons.mpr ⟨Or.inr ⟨by decide, "java/lang/IndexOutOfBoundsException", wok (k := 4) (i := 217) rfl rfl, by decide⟩, List.forall_mem_cons.mpr ⟨Or.inr ⟨by decide, "java/lang/IllegalArgumentException", wok (k := 3) (i := 120) rfl rfl, by decide⟩, fun _ h => absurd h List.not_mem_nil⟩⟩), rfl, by decide, wok (k := 3) (i := 121) rfl rfl, by decide, rfl, Or.inr ⟨by decide +kernel, by decide, by decide +kernel, by decide +kernel⟩⟩
  | n + 3, h => exact absurd h (by omega)
theorem vh_286 : ∀ ex, ex < 3 → VH gT gM gE gxn 286 5 ex := by
  intro ex h
  match ex, h with
  | 0, _ => exact Exists.intro [] ⟨⟨0, 10, 13, 27⟩, [⟨0, 10, 17, 15⟩], "java/lang/IndexOutOfBoundsException", 4, 0, rfl, (fun _ h => absurd h List.not_mem_nil), rfl, by decide, wok (k := 4) (i := 217) rfl rfl, by decide, rfl, Or.inr ⟨by decide +kernel, by decide, by decide +kernel, by decide +kernel⟩⟩
  | 1, _ => exact (List.forall_mem_cons.mpr ⟨Or.inr ⟨by decide, "java/lang/IndexOutOfBoundsException", wok (k := 4) (i := 217) rfl rfl, by decide⟩, List.forall_mem_cons.mpr ⟨Or.inr ⟨by decide, "java/lang/UnsupportedOperationException", wok (k := 3) (i := 121) rfl rfl, by decide⟩, fun _ h => absurd h List.not_mem_nil⟩⟩ : ∀ z ∈ tableOf (mH gM 286), covers z 5 = false ∨ (z.catchType ≠ 0 ∧ ∃ nm : String, Cond.classLink (mY gM 286).cls z.catchType nm ∈ AW ∧ (gxn 1, nm) ∈ gE.2.2.1))
  | 2, _ => exact Exists.intro [⟨0, 10, 13, 27⟩] ⟨⟨0, 10, 17, 15⟩, [], "java/lang/UnsupportedOperationException", 4, 0, rfl, (List.forall_mem_cons.mpr ⟨Or.inr ⟨by decide, "java/lang/IndexOutOfBoundsException", wok (k := 4) (i := 217) rfl rfl, by decide⟩, fun _ h => absurd h List.not_mem_nil⟩), rfl, by decide, wok (k := 3) (i := 121) rfl rfl, by decide, rfl, Or.inr ⟨by decide +kernel, by decide, by decide +kernel, by decide +kernel⟩⟩
  | n + 3, h => exact absurd h (by omega)
theorem vh_287 : ∀ ex, ex < 3 → VH gT gM gE gxn 287 5 ex := by
  intro ex h
  match ex, h with
  | 0, _ => exact Exists.intro [] ⟨⟨0, 10, 13, 27⟩, [], "java/lang/IndexOutOfBoundsException", 4, 0, rfl, (fun _ h => absurd h List.not_mem_nil), rfl, by decide, wok (k := 4) (i := 217) rfl rfl, by decide, rfl, Or.inr ⟨by decide +kernel, by decide, by decide +kernel, by decide +kernel⟩⟩
  | 1, _ => exact (List.forall_mem_cons.mpr ⟨Or.inr ⟨by decide, "java/lang/IndexOutOfBoundsException", wok (k := 4) (i := 217) rfl rfl, by decide⟩, fun _ h => absurd h List.not_mem_nil⟩ : ∀ z ∈ tableOf (mH gM 287), covers z 5 = false ∨ (z.catchType ≠ 0 ∧ ∃ nm : String, Cond.classLink (mY gM 287).cls z.catchType nm ∈ AW ∧ (gxn 1, nm) ∈ gE.2.2.1))
  | 2, _ => exact (List.forall_mem_cons.mpr ⟨Or.inr ⟨by decide, "java/lang/IndexOutOfBoundsException", wok (k := 4) (i := 217) rfl rfl, by decide⟩, fun _ h => absurd h List.not_mem_nil⟩ : ∀ z ∈ tableOf (mH gM 287), covers z 5 = false ∨ (z.catchType ≠ 0 ∧ ∃ nm : String, Cond.classLink (mY gM 287).cls z.catchType nm ∈ AW ∧ (gxn 2, nm) ∈ gE.2.2.1))
  | n + 3, h => exact absurd h (by omega)
theorem vh_288 : ∀ ex, ex < 3 → VH gT gM gE gxn 288 5 ex := by
  intro ex h
  match ex, h with
  | 0, _ => exact Exists.intro [] ⟨⟨0, 9, 12, 27⟩, [], "java/lang/IndexOutOfBoundsException", 4, 0, rfl, (fun _ h => absurd h List.not_mem_nil), rfl, by decide, wok (k := 4) (i := 217) rfl rfl, by decide, rfl, Or.inr ⟨by decide +kernel, by decide, by decide +kernel, by decide +kernel⟩⟩
  | 1, _ => exact (List.forall_mem_cons.mpr ⟨Or.inr ⟨by decide, "java/lang/IndexOutOfBoundsException", wok (k := 4) (i := 217) rfl rfl, by decide⟩, fun _ h => absurd h List.not_mem_nil⟩ : ∀ z ∈ tableOf (mH gM 288), covers z 5 = false ∨ (z.catchType ≠ 0 ∧ ∃ nm : String, Cond.classLink (mY gM 288).cls z.catchType nm ∈ AW ∧ (gxn 1, nm) ∈ gE.2.2.1))
  | 2, _ => exact (List.forall_mem_cons.mpr ⟨Or.inr ⟨by decide, "java/lang/IndexOutOfBoundsException", wok (k := 4) (i := 217) rfl rfl, by decide⟩, fun _ h => absurd h List.not_mem_nil⟩ : ∀ z ∈ tableOf (mH gM 288), covers z 5 = false ∨ (z.catchType ≠ 0 ∧ ∃ nm : String, Cond.classLink (mY gM 288).cls z.catchType nm ∈ AW ∧ (gxn 2, nm) ∈ gE.2.2.1))
  | n + 3, h => exact absurd h (by omega)
theorem vh_289 : ∀ ex, ex < 3 → VH gT gM gE gxn 289 4 ex := by
  intro ex h
  match ex, h with
  | 0, _ => exact Exists.intro [] ⟨⟨0, 8, 11, 27⟩, [], "java/lang/IndexOutOfBoundsException", 0, 3, rfl, (fun _ h => absurd h List.not_mem_nil), rfl, by decide, wok (k := 4) (i := 217) rfl rfl, by decide, rfl, Or.inl ⟨by decide +kernel, by decide, by decide +kernel, by decide +kernel⟩⟩
  | 1, _ => exact (List.forall_mem_cons.mpr ⟨Or.inr ⟨by decide, "java/lang/IndexOutOfBoundsException", wok (k := 4) (i := 217) rfl rfl, by decide⟩, fun _ h => absurd h List.not_mem_nil⟩ : ∀ z ∈ tableOf (mH gM 289), covers z 4 = false ∨ (z.catchType ≠ 0 ∧ ∃ nm : String, Cond.classLink (mY gM 289).cls z.catchType nm ∈ AW ∧ (gxn 1, nm) ∈ gE.2.2.1))
  | 2, _ => exact (List.forall_mem_cons.mpr ⟨Or.inr ⟨by decide, "java/lang/IndexOutOfBoundsException", wok (k := 4) (i := 217) rfl rfl, by decide⟩, fun _ h => absurd h List.not_mem_nil⟩ : ∀ z ∈ tableOf (mH gM 289), covers z 4 = false ∨ (z.catchType ≠ 0 ∧ ∃ nm : String, Cond.classLink (mY gM 289).cls z.catchType nm ∈ AW ∧ (gxn 2, nm) ∈ gE.2.2.1))
  | n + 3, h => exact absurd h (by omega)
theorem vh_290 : ∀ ex, ex < 3 → VH gT gM gE gxn 290 4 ex := by
  intro ex h
  match ex, h with
  | 0, _ => exact (List.forall_mem_cons.mpr ⟨Or.inr ⟨by decide, "java/lang/IllegalArgumentException", wok (k := 3) (i := 120) rfl rfl, by decide⟩, fun _ h => absurd h List.not_mem_nil⟩ : ∀ z ∈ tableOf (mH gM 290), covers z 4 = false ∨ (z.catchType ≠ 0 ∧ ∃ nm : String, Cond.classLink (mY gM 290).cls z.catchType nm ∈ AW ∧ (gxn 0, nm) ∈ gE.2.2.1))
  | 1, _ => exact Exists.intro [] ⟨⟨0, 7, 10, 13⟩, [], "java/lang/IllegalArgumentException", 4, 0, rfl, (fun _ h => absurd h List.not_mem_nil), rfl, by decide, wok (k := 3) (i := 120) rfl rfl, by decide, rfl, Or.inr ⟨by decide +kernel, by decide, by decide +kernel, by decide +kernel⟩⟩
  | 2, _ => exact (List.forall_mem_cons.mpr ⟨Or.inr ⟨by decide, "java/lang/IllegalArgumentException", wok (k := 3) (i := 120) rfl rfl, by decide⟩, fun _ h => absurd h List.not_mem_nil⟩ : ∀ z ∈ tableOf (mH gM 290), covers z 4 = false ∨ (z.catchType ≠ 0 ∧ ∃ nm : String, Cond.classLink (mY gM 290).cls z.catchType nm ∈ AW ∧ (gxn 2, nm) ∈ gE.2.2.1))
  | n + 3, h => exact absurd h (by omega)
theorem vh_291 : ∀ ex, ex < 3 → VH gT gM gE gxn 291 4 ex := by
  intro ex h
  match ex, h with
  | 0, _ => exact Exists.intro [] ⟨⟨0, 9, 12, 27⟩, [], "java/lang/IndexOutOfBoundsException", 0, 3, rfl, (fun _ h => absurd h List.not_mem_nil), rfl, by decide, wok (k := 4) (i := 217) rfl rfl, by decide, rfl, Or.inl ⟨by decide +kernel, by decide, by decide +kernel, by decide +kernel⟩⟩
  | 1, _ => exact (List.forall_mem_cons.mpr ⟨Or.inr ⟨by decide, "java/lang/IndexOutOfBoundsException", wok (k := 4) (i := 217) rfl rfl, by decide⟩, fun _ h => absurd h List.not_mem_nil⟩ : ∀ z ∈ tableOf (mH gM 291), covers z 4 = false ∨ (z.catchType ≠ 0 ∧ ∃ nm : String, Cond.classLink (mY gM 291).cls z.catchType nm ∈ AW ∧ (gxn 1, nm) ∈ gE.2.2.1))
  | 2, _ => exact (List.forall_mem_cons.mpr ⟨Or.inr ⟨by decide, "java/lang/IndexOutOfBoundsException", wok (k := 4) (i := 217) rfl rfl, by decide⟩, fun _ h => absurd h List.not_mem_nil⟩ : ∀ z ∈ tableOf (mH gM 291), covers z 4 = false ∨ (z.catchType ≠ 0 ∧ ∃ nm : String, Cond.classLink (mY gM 291).cls z.catchType nm ∈ AW ∧ (gxn 2, nm) ∈ gE.2.2.1))
  | n + 3, h => exact absurd h (by omega)
theorem vh_292 : ∀ ex, ex < 3 → VH gT gM gE gxn 292 5 ex := by
  intro ex h
  match ex, h with
  | 0, _ => exact Exists.intro [] ⟨⟨0, 10, 13, 27⟩, [], "java/lang/IndexOutOfBoundsException", 4, 0, rfl, (fun _ h => absurd h List.not_mem_nil), rfl, by decide, wok (k := 4) (i := 217) rfl rfl, by decide, rfl, Or.inr ⟨by decide +kernel, by decide, by decide +kernel, by decide +kernel⟩⟩
  | 1, _ => exact (List.forall_mem_cons.mpr ⟨Or.inr ⟨by decide, "java/lang/IndexOutOfBoundsException", wok (k := 4) (i := 217) rfl rfl, by decide⟩, fun _ h => absurd h List.not_mem_nil⟩ : ∀ z ∈ tableOf (mH gM 292), covers z 5 = false ∨ (z.catchType ≠ 0 ∧ ∃ nm : String, Cond.classLink (mY gM 292).cls z.catchType nm ∈ AW ∧ (gxn 1, nm) ∈ gE.2.2.1))
  | 2, _ => exact (List.forall_mem_cons.mpr ⟨Or.inr ⟨by decide, "java/lang/IndexOutOfBoundsException", wok (k := 4) (i := 217) rfl rfl, by decide⟩, fun _ h => absurd h List.not_mem_nil⟩ : ∀ z ∈ tableOf (mH gM 292), covers z 5 = false ∨ (z.catchType ≠ 0 ∧ ∃ nm : String, Cond.classLink (mY gM 292).cls z.catchType nm ∈ AW ∧ (gxn 2, nm) ∈ gE.2.2.1))
  | n + 3, h => exact absurd h (by omega)
theorem vh_293 : ∀ ex, ex < 3 → VH gT gM gE gxn 293 5 ex := by
  intro ex h
  match ex, h with
  | 0, _ => exact Exists.intro [] ⟨⟨0, 10, 13, 27⟩, [], "java/lang/IndexOutOfBoundsException", 4, 0, rfl, (fun _ h => absurd h List.not_mem_nil), rfl, by decide, wok (k := 4) (i := 217) rfl rfl, by decide, rfl, Or.inr ⟨by decide +kernel, by decide, by decide +kernel, by decide +kernel⟩⟩
  | 1, _ => exact (List.forall_mem_cons.mpr ⟨Or.inr ⟨by decide, "java/lang/IndexOutOfBoundsException", wok (k := 4) (i := 217) rfl rfl, by decide⟩, fun _ h => absurd h List.not_mem_nil⟩ : ∀ z ∈ tableOf (mH gM 293), covers z 5 = false ∨ (z.catchType ≠ 0 ∧ ∃ nm : String, Cond.classLink (mY gM 293).cls z.catchType nm ∈ AW ∧ (gxn 1, nm) ∈ gE.2.2.1))
  | 2, _ => exact (List.forall_mem_cons.mpr ⟨Or.inr ⟨by decide, "java/lang/IndexOutOfBoundsException", wok (k := 4) (i := 217) rfl rfl, by decide⟩, fun _ h => absurd h List.not_mem_nil⟩ : ∀ z ∈ tableOf (mH gM 293), covers z 5 = false ∨ (z.catchType ≠ 0 ∧ ∃ nm : String, Cond.classLink (mY gM 293).cls z.catchType nm ∈ AW ∧ (gxn 2, nm) ∈ gE.2.2.1))
  | n + 3, h => exact absurd h (by omega)
theorem vh_294 : ∀ ex, ex < 3 → VH gT gM gE gxn 294 13 ex := by
  intro ex h
  match ex, h with
  | 0, _ => exact Exists.intro [] ⟨⟨0, 17, 20, 27⟩, [⟨0, 17, 24, 13⟩], "java/lang/IndexOutOfBoundsException", 8, 0, rfl, (fun _ h => absurd h List.not_mem_nil), rfl, by decide, wok (k := 4) (i := 217) rfl rfl, by decide, rfl, Or.inr ⟨by decide +kernel, by decide, by decide +kernel, by decide +kernel⟩⟩
  | 1, _ => exact Exists.intro [⟨0, 17, 20, 27⟩] ⟨⟨0, 17, 24, 13⟩, [], "java/lang/IllegalArgumentException", 8, 0, rfl, (List.forall_mem_cons.mpr ⟨Or.inr ⟨by decide, "java/lang/IndexOutOfBoundsException", wok (k := 4) (i := 217) rfl rfl, by decide⟩, fun _ h => absurd h List.not_mem_nil⟩), rfl, by decide, wok (k := 3) (i := 120) rfl rfl, by decide, rfl, Or.inr ⟨by decide +kernel, by decide, by decide +kernel, by decide +kernel⟩⟩
  | 2, _ => exact (List.forall_mem_cons.mpr ⟨Or.inr ⟨by decide, "java/lang/IndexOutOfBoundsException", wok (k := 4) (i := 217) rfl rfl, by decide⟩, List.forall_mem_cons.mpr ⟨Or.inr ⟨by decide, "java/lang/IllegalArgumentException", wok (k := 3) (i := 120) rfl rfl, by decide⟩, fun _ h => absurd h List.not_mem_nil⟩⟩ : ∀ z ∈ tableOf (mH gM 294), covers z 13 = false ∨ (z.catchType ≠ 0 ∧ ∃ nm : String, Cond.classLink (mY gM 294).cls z.catchType nm ∈ AW ∧ (gxn 2, nm) ∈ gE.2.2.1))
  | n + 3, h => exact absurd h (by omega)
theorem vh_295 : ∀ ex, ex < 3 → VH gT gM gE gxn 295 5 ex := by
  intro ex h
  match ex, h with
  | 0, _ => exact Exists.intro [] ⟨⟨0, 10, 13, 27⟩, [], "java/lang/IndexOutOfBoundsException", 4, 0, rfl, (fun _ h => absurd h List.not_mem_nil), rfl, by decide, wok (k := 4) (i := 217) rfl rfl, by decide, rfl, Or.inr ⟨by decide +kernel, by decide, by decide +kernel, by decide +kernel⟩⟩
  | 1, _ => exact (List.forall_mem_cons.mpr ⟨Or.inr ⟨by decide, "java/lang/IndexOutOfBoundsException", wok (k := 4) (i := 217) rfl rfl, by decide⟩, fun _ h => absurd h List.not_mem_nil⟩ : ∀ z ∈ tableOf (mH gM 295), covers z 5 = false ∨ (z.catchType ≠ 0 ∧ ∃ nm : String, Cond.classLink (mY gM 295).cls z.catchType nm ∈ AW ∧ (gxn 1, nm) ∈ gE.2.2.1))
  | 2, _ => exact (List.forall_mem_cons.mpr ⟨Or.inr ⟨by decide, "java/lang/IndexOutOfBoundsException", wok (k := 4) (i := 217) rfl rfl, by decide⟩, fun _ h => absurd h List.not_mem_nil⟩ : ∀ z ∈ tableOf (mH gM 295), covers z 5 = false ∨ (z.catchType ≠ 0 ∧ ∃ nm : String, Cond.classLink (mY gM 295).cls z.catchType nm ∈ AW ∧ (gxn 2, nm) ∈ gE.2.2.1))
  | n + 3, h => exact absurd h (by omega)
theorem vh_296 : ∀ ex, ex < 3 → VH gT gM gE gxn 296 4 ex := by
  intro ex h
  match ex, h with
  | 0, _ => exact Exists.intro [] ⟨⟨0, 9, 12, 27⟩, [], "java/lang/IndexOutOfBoundsException", 0, 3, rfl, (fun _ h => absurd h List.not_mem_nil), rfl, by decide, wok (k := 4) (i := 217) rfl rfl, by decide, rfl, Or.inl ⟨by decide +kernel, by decide, by decide +kernel, by decide +kernel⟩⟩
  | 1, _ => exact (List.forall_mem_cons.mpr ⟨Or.inr ⟨by decide, "java/lang/IndexOutOfBoundsException", wok (k := 4) (i := 217) rfl rfl, by decide⟩, fun _ h => absurd h List.not_mem_nil⟩ : ∀ z ∈ tableOf (mH gM 296), covers z 4 = false ∨ (z.catchType ≠ 0 ∧ ∃ nm : String, Cond.classLink (mY gM 296).cls z.catchType nm ∈ AW ∧ (gxn 1, nm) ∈ gE.2.2.1))
  | 2, _ => exact (List.forall_mem_cons.mpr ⟨Or.inr ⟨by decide, "java/lang/IndexOutOfBoundsException", wok (k := 4) (i := 217) rfl rfl, by decide⟩, fun _ h => absurd h List.not_mem_nil⟩ : ∀ z ∈ tableOf (mH gM 296), covers z 4 = false ∨ (z.catchType ≠ 0 ∧ ∃ nm : String, Cond.classLink (mY gM 296).cls z.catchType nm ∈ AW ∧ (gxn 2, nm) ∈ gE.2.2.1))
  | n + 3, h => exact absurd h (by omega)
theorem vh_297 : ∀ ex, ex < 3 → VH gT gM gE gxn 297 7 ex := by
  intro ex h
  match ex, h with
  | 0, _ => exact Exists.intro [] ⟨⟨0, 12, 15, 27⟩, [], "java/lang/IndexOutOfBoundsException", 5, 0, rfl, (fun _ h => absurd h List.not_mem_nil), rfl, by decide, wok (k := 4) (i := 217) rfl rfl, by decide, rfl, Or.inr ⟨by decide +kernel, by decide, by decide +kernel, by decide +kernel⟩⟩
  | 1, _ => exact (List.forall_mem_cons.mpr ⟨Or.inr ⟨by decide, "java/lang/IndexOutOfBoundsException", wok (k := 4) (i := 217) rfl rfl, by decide⟩, fun _ h => absurd h List.not_mem_nil⟩ : ∀ z ∈ tableOf (mH gM 297), covers z 7 = false ∨ (z.catchType ≠ 0 ∧ ∃ nm : String, Cond.classLink (mY gM 297).cls z.catchType nm ∈ AW ∧ (gxn 1, nm) ∈ gE.2.2.1))
  | 2, _ => exact (List.forall_mem_cons.mpr ⟨Or.inr ⟨by decide, "java/lang/IndexOutOfBoundsException", wok (k := 4) (i := 217) rfl rfl, by decide⟩, fun _ h => absurd h List.not_mem_nil⟩ : ∀ z ∈ tableOf (mH gM 297), covers z 7 = false ∨ (z.catchType ≠ 0 ∧ ∃ nm : String, Cond.classLink (mY gM 297).cls z.catchType nm ∈ AW ∧ (gxn 2, nm) ∈ gE.2.2.1))
  | n + 3, h => exact absurd h (by omega)
theorem vh_298 : ∀ ex, ex < 3 → VH gT gM gE gxn 298 2 ex := by
  intro ex h
  match ex, h with
  | 0, _ => exact (List.forall_mem_cons.mpr ⟨Or.inr ⟨by decide, "java/lang/IllegalArgumentException", wok (k := 3) (i := 120) rfl rfl, by decide⟩, fun _ h => absurd h List.not_mem_nil⟩ : ∀ z ∈ tableOf (mH gM 298), covers z 2 = false ∨ (z.catchType ≠ 0 ∧ ∃ nm : String, Cond.classLink (mY gM 298).cls z.catchType nm ∈ AW ∧ (gxn 0, nm) ∈ gE.2.2.1))
  | 1, _ => exact Exists.intro [] ⟨⟨0, 5, 8, 13⟩, [], "java/lang/IllegalArgumentException", 0, 2, rfl, (fun _ h => absurd h List.not_mem_nil), rfl, by decide, wok (k := 3) (i := 120) rfl rfl, by decide, rfl, Or.inl ⟨by decide +kernel, by decide, by decide +kernel, by decide +kernel⟩⟩
  | 2, _ => exact (List.forall_mem_cons.mpr ⟨Or.inr ⟨by decide, "java/lang/IllegalArgumentException", wok (k := 3) (i := 120) rfl rfl, by decide⟩, fun _ h => absurd h List.not_mem_nil⟩ : ∀ z ∈ tableOf (mH gM 298), covers z 2 = false ∨ (z.catchType ≠ 0 ∧ ∃ nm : String, Cond.classLink (mY gM 298).cls z.catchType nm ∈ AW ∧ (gxn 2, nm) ∈ gE.2.2.1))
  | n + 3, h => exact absurd h (by omega)
theorem vh_299 : ∀ ex, ex < 3 → VH gT gM gE gxn 299 4 ex := by
  intro ex h
  match ex, h with
  | 0, _ => exact Exists.intro [] ⟨⟨0, 8, 11, 27⟩, [], "java/lang/IndexOutOfBoundsException", 0, 3, rfl, (fun _ h => absurd h List.not_mem_nil), rfl, by decide, wok (k := 4) (i := 217) rfl rfl, by decide, rfl, Or.inl ⟨by decide +kernel, by decide, by decide +kernel, by decide +kernel⟩⟩
  | 1, _ => exact (List.forall_mem_cons.mpr ⟨Or.inr ⟨by decide, "java/lang/IndexOutOfBoundsException", wok (k := 4) (i := 217) rfl rfl, by decide⟩, fun _ h => absurd h List.not_mem_nil⟩ : ∀ z ∈ tableOf (mH gM 299), covers z 4 = false ∨ (z.catchType ≠ 0 ∧ ∃ nm : String, Cond.classLink (mY gM 299).cls z.catchType nm ∈ AW ∧ (gxn 1, nm) ∈ gE.2.2.1))
  | 2, _ => exact (List.forall_mem_cons.mpr ⟨Or.inr ⟨by decide, "java/lang/IndexOutOfBoundsException", wok (k := 4) (i := 217) rfl rfl, by decide⟩, fun _ h => absurd h List.not_mem_nil⟩ : ∀ z ∈ tableOf (mH gM 299), covers z 4 = false ∨ (z.catchType ≠ 0 ∧ ∃ nm : String, Cond.classLink (mY gM 299).cls z.catchType nm ∈ AW ∧ (gxn 2, nm) ∈ gE.2.2.1))
  | n + 3, h => exact absurd h (by omega)
theorem vh_300 : ∀ ex, ex < 3 → VH gT gM gE gxn 300 13 ex := by
  intro ex h
  match ex, h with
  | 0, _ => exact Exists.intro [] ⟨⟨0, 17, 20, 27⟩, [⟨0, 17, 24, 13⟩], "java/lang/IndexOutOfBoundsException", 8, 0, rfl, (fun _ h => absurd h List.not_mem_nil), rfl, by decide, wok (k := 4) (i := 217) rfl rfl, by decide, rfl, Or.inr ⟨by decide +kernel, by decide, by decide +kernel, by decide +kernel⟩⟩
  | 1, _ => exact Exists.intro [⟨0, 17, 20, 27⟩] ⟨⟨0, 17, 24, 13⟩, [], "java/lang/IllegalArgumentException", 8, 0, rfl, (List.forall_mem_cons.mpr ⟨Or.inr ⟨by decide, "java/lang/IndexOutOfBoundsException", wok (k := 4) (i := 217) rfl rfl, by decide⟩, fun _ h => absurd h List.not_mem_nil⟩), rfl, by decide, wok (k := 3) (i := 120) rfl rfl, by decide, rfl, Or.inr ⟨by decide +kernel, by decide, by decide +kernel, by decide +kernel⟩⟩
  | 2, _ => exact (List.forall_mem_cons.mpr ⟨Or.inr ⟨by decide, "java/lang/IndexOutOfBoundsException", wok (k := 4) (i := 217) rfl rfl, by decide⟩, List.forall_mem_cons.mpr ⟨Or.inr ⟨by decide, "java/lang/IllegalArgumentException", wok (k := 3) (i := 120) rfl rfl, by decide⟩, fun _ h => absurd h List.not_mem_nil⟩⟩ : ∀ z ∈ tableOf (mH gM 300), covers z 13 = false ∨ (z.catchType ≠ 0 ∧ ∃ nm : String, Cond.classLink (mY gM 300).cls z.catchType nm ∈ AW ∧ (gxn 2, nm) ∈ gE.2.2.1))
  | n + 3, h => exact absurd h (by omega)
theorem vh_301 : ∀ ex, ex < 3 → VH gT gM gE gxn 301 4 ex := by
  intro ex h
  match ex, h with
  | 0, _ => exact Exists.intro [] ⟨⟨0, 9, 12, 27⟩, [⟨0, 9, 15, 15⟩], "java/lang/IndexOutOfBoundsException", 0, 3, rfl, (fun _ h => absurd h List.not_mem_nil), rfl, by decide, wok (k := 4) (i := 217) rfl rfl, by decide, rfl, Or.inl ⟨by decide +kernel, by decide, by decide +kernel, by decide +kernel⟩⟩
  | 1, _ => exact (List.forall_mem_cons.mpr ⟨Or.inr ⟨by decide, "java/lang/IndexOutOfBoundsException", wok (k := 4) (i := 217) rfl rfl, by decide⟩, List.forall_mem_cons.mpr ⟨Or.inr ⟨by decide, "java/lang/UnsupportedOperationException", wok (k := 3) (i := 121) rfl rfl, by decide⟩, fun _ h => absurd h List.not_mem_nil⟩⟩ : ∀ z ∈ tableOf (mH gM 301), covers z 4 = false ∨ (z.catchType ≠ 0 ∧ ∃ nm : String, Cond.classLink (mY gM 301).cls z.catchType nm ∈ AW ∧ (gxn 1, nm) ∈ gE.2.2.1))
  | 2, _ => exact Exists.intro [⟨0, 9, 12, 27⟩] ⟨⟨0, 9, 15, 15⟩, [], "java/lang/UnsupportedOperationException", 0, 3, rfl, (List.forall_mem_cons.mpr ⟨Or.inr ⟨by decide, "java/lang/IndexOutOfBoundsException", wok (k := 4) (i := 217) rfl rfl, by decide⟩, fun _ h => absurd h List.not_mem_nil⟩), rfl, by decide, wok (k := 3) (i := 121) rfl rfl, by decide, rfl, Or.inl ⟨by decide +kernel, by decide, by decide +kernel, by decide +kernel⟩⟩
  | n + 3, h => exact absurd h (by omega)
theorem vh_302 : ∀ ex, ex < 3 → VH gT gM gE gxn 302 4 ex := by
  intro ex h
  match ex, h with
  | 0, _ => exact Exists.intro [] ⟨⟨0, 9, 12, 27⟩, [], "java/lang/IndexOutOfBoundsException", 0, 3, rfl, (fun _ h => absurd h List.not_mem_nil), rfl, by decide, wok (k := 4) (i := 217) rfl rfl, by decide, rfl, Or.inl ⟨by decide +kernel, by decide, by decide +kernel, by decide +kernel⟩⟩
  | 1, _ => exact (List.forall_mem_cons.mpr ⟨Or.inr ⟨by decide, "java/lang/IndexOutOfBoundsException", wok (k := 4) (i := 217) rfl rfl, by decide⟩, fun _ h => absurd h List.not_mem_nil⟩ : ∀ z ∈ tableOf (mH gM 302), covers z 4 = false ∨ (z.catchType ≠ 0 ∧ ∃ nm : String, Cond.classLink (mY gM 302).cls z.catchType nm ∈ AW ∧ (gxn 1, nm) ∈ gE.2.2.1))
  | 2, _ => exact (List.forall_mem_cons.mpr ⟨Or.inr ⟨by decide, "java/lang/IndexOutOfBoundsException", wok (k := 4) (i := 217) rfl rfl, by decide⟩, fun _ h => absurd h List.not_mem_nil⟩ : ∀ z ∈ tableOf (mH gM 302), covers z 4 = false ∨ (z.catchType ≠ 0 ∧ ∃ nm : String, Cond.classLink (mY gM 302).cls z.catchType nm ∈ AW ∧ (gxn 2, nm) ∈ gE.2.2.1))
  | n + 3, h => exact absurd h (by omega)
theorem vh_303 : ∀ ex, ex < 3 → VH gT gM gE gxn 303 7 ex := by
  intro ex h
  match ex, h with
  | 0, _ => exact Exists.intro [] ⟨⟨0, 12, 15, 27⟩, [⟨0, 12, 19, 15⟩], "java/lang/IndexOutOfBoundsException", 5, 0, rfl, (fun _ h => absurd h List.not_mem_nil), rfl, by decide, wok (k := 4) (i := 217) rfl rfl, by decide, rfl, Or.inr ⟨by decide +kernel, by decide, by decide +kernel, by decide +kernel⟩⟩
  | 1, _ => exact (List.forall_mem_cons.mpr ⟨Or.inr ⟨by decide, "java/lang/IndexOutOfBoundsException", wok (k := 4) (i := 217) rfl rfl, by decide⟩, List.forall_mem_cons.mpr ⟨Or.inr ⟨by decide, "java/lang/UnsupportedOperationException", wok (k := 3) (i := 121) rfl rfl, by decide⟩, fun _ h => absurd h List.not_mem_nil⟩⟩ : ∀ z ∈ tableOf (mH gM 303), covers z 7 = false ∨ (z.catchType ≠ 0 ∧ ∃ nm : String, Cond.classLink (mY gM 303).cls z.catchType nm ∈ AW ∧ (gxn 1, nm) ∈ gE.2.2.1))
  | 2, _ => exact Exists.intro [⟨0, 12, 15, 27⟩] ⟨⟨0, 12, 19, 15⟩, [], "java/lang/UnsupportedOperationException", 5, 0, rfl, (List.forall_mem_cons.mpr ⟨Or.inr ⟨by decide, "java/lang/IndexOutOfBoundsException", wok (k := 4) (i := 217) rfl rfl, by decide⟩, fun _ h => absurd h List.not_mem_nil⟩), rfl, by decide, wok (k := 3) (i := 121) rfl rfl, by decide, rfl, Or.inr ⟨by decide +kernel, by decide, by decide +kernel, by decide +kernel⟩⟩
  | n + 3, h => exact absurd h (by omega)
theorem vh_304 : ∀ ex, ex < 3 → VH gT gM gE gxn 304 4 ex := by
  intro ex h
  match ex, h with
  | 0, _ => exact Exists.intro [] ⟨⟨0, 9, 12, 27⟩, [], "java/lang/IndexOutOfBoundsException", 0, 3, rfl, (fun _ h => absurd h List.not_mem_nil), rfl, by decide, wok (k := 4) (i := 217) rfl rfl, by decide, rfl, Or.inl ⟨by decide +kernel, by decide, by decide +kernel, by decide +kernel⟩⟩
  | 1, _ => exact (List.forall_mem_cons.mpr ⟨Or.inr ⟨by decide, "java/lang/IndexOutOfBoundsException", wok (k := 4) (i := 217) rfl rfl, by decide⟩, fun _ h => absurd h List.not_mem_nil⟩ : ∀ z ∈ tableOf (mH gM 304), covers z 4 = false ∨ (z.catchType ≠ 0 ∧ ∃ nm : String, Cond.classLink (mY gM 304).cls z.catchType nm ∈ AW ∧ (gxn 1, nm) ∈ gE.2.2.1))
  | 2, _ => exact (List.forall_mem_cons.mpr ⟨Or.inr ⟨by decide, "java/lang/IndexOutOfBoundsException", wok (k := 4) (i := 217) rfl rfl, by decide⟩, fun _ h => absurd h List.not_mem_nil⟩ : ∀ z ∈ tableOf (mH gM 304), covers z 4 = false ∨ (z.catchType ≠ 0 ∧ ∃ nm : String, Cond.classLink (mY gM 304).cls z.catchType nm ∈ AW ∧ (gxn 2, nm) ∈ gE.2.2.1))
  | n + 3, h => exact absurd h (by omega)
theorem vh_305 : ∀ ex, ex < 3 → VH gT gM gE gxn 305 5 ex := by
  intro ex h
  match ex, h with
  | 0, _ => exact Exists.intro [] ⟨⟨0, 10, 13, 27⟩, [], "java/lang/IndexOutOfBoundsException", 4, 0, rfl, (fun _ h => absurd h List.not_mem_nil), rfl, by decide, wok (k := 4) (i := 217) rfl rfl, by decide, rfl, Or.inr ⟨by decide +kernel, by decide, by decide +kernel, by decide +kernel⟩⟩
  | 1, _ => exact (List.forall_mem_cons.mpr ⟨Or.inr ⟨by decide, "java/lang/IndexOutOfBoundsException", wok (k := 4) (i := 217) rfl rfl, by decide⟩, fun _ h => absurd h List.not_mem_nil⟩ : ∀ z ∈ tableOf (mH gM 305), covers z 5 = false ∨ (z.catchType ≠ 0 ∧ ∃ nm : String, Cond.classLink (mY gM 305).cls z.catchType nm ∈ AW ∧ (gxn 1, nm) ∈ gE.2.2.1))
  | 2, _ => exact (List.forall_mem_cons.mpr ⟨Or.inr ⟨by decide, "java/lang/IndexOutOfBoundsException", wok (k := 4) (i := 217) rfl rfl, by decide⟩, fun _ h => absurd h List.not_mem_nil⟩ : ∀ z ∈ tableOf (mH gM 305), covers z 5 = false ∨ (z.catchType ≠ 0 ∧ ∃ nm : String, Cond.classLink (mY gM 305).cls z.catchType nm ∈ AW ∧ (gxn 2, nm) ∈ gE.2.2.1))
  | n + 3, h => exact absurd h (by omega)
theorem vh_306 : ∀ ex, ex < 3 → VH gT gM gE gxn 306 5 ex := by
  intro ex h
  match ex, h with
  | 0, _ => exact Exists.intro [] ⟨⟨0, 10, 13, 27⟩, [], "java/lang/IndexOutOfBoundsException", 4, 0, rfl, (fun _ h => absurd h List.not_mem_nil), rfl, by decide, wok (k := 4) (i := 217) rfl rfl, by decide, rfl, Or.inr ⟨by decide +kernel, by decide, by decide +kernel, by decide +kernel⟩⟩
  | 1, _ => exact (List.forall_mem_cons.mpr ⟨Or.inr ⟨by decide, "java/lang/IndexOutOfBoundsException", wok (k := 4) (i := 217) rfl rfl, by decide⟩, fun _ h => absurd h List.not_mem_nil⟩ : ∀ z ∈ tableOf (mH gM 306), covers z 5 = false ∨ (z.catchType ≠ 0 ∧ ∃ nm : String, Cond.classLink (mY gM 306).cls z.catchType nm ∈ AW ∧ (gxn 1, nm) ∈ gE.2.2.1))
  | 2, _ => exact (List.forall_mem_cons.mpr ⟨Or.inr ⟨by decide, "java/lang/IndexOutOfBoundsException", wok (k := 4) (i := 217) rfl rfl, by decide⟩, fun _ h => absurd h List.not_mem_nil⟩ : ∀ z ∈ tableOf (mH gM 306), covers z 5 = false ∨ (z.catchType ≠ 0 ∧ ∃ nm : String, Cond.classLink (mY gM 306).cls z.catchType nm ∈ AW ∧ (gxn 2, nm) ∈ gE.2.2.1))
  | n + 3, h => exact absurd h (by omega)
