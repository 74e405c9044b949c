set_option maxHeartbeats 4000000 in
set_option maxRecDepth 100000 in
theorem cz_X9_begin (l : Launch) (g : Geo) (sz : Nat) (h0 q1 : Nat) : Met l yX9_begin (Cond.code yX9_begin cX9_begin 1 none :: bg) ({ frames := 0, cells := 0, slots := 0, locals := 0 } : Room) (va_Pc [.ref h0] (PS g sz [(h0, .inr (9, [.ref q1, .int 0, .int 0, .int 0, .int 0, .int 0, .int 0, .int 0, .int 0, .int 0, .int 0, .int 0, .int 0, .int 0, .int 0, .int 0]))])) (va_Qv (fun _ : Unit => True) (fun _ t => va_P g.1 clz [(h0, .inr (9, [.ref q1, .int 0, .int 0, .int 5, .int 29, .int 0, .int 0, .int 0, .int 0, .int 15, .int 0, .int 0, .int 0, .int 0, .int 0, .int 0]))] t.heap ∧ va_D (va_A [(h0, .inr (9, [.ref q1, .int 0, .int 0, .int 0, .int 0, .int 0, .int 0, .int 0, .int 0, .int 0, .int 0, .int 0, .int 0, .int 0, .int 0, .int 0]))] sz) [(h0, .inr (9, [.ref q1, .int 0, .int 0, .int 5, .int 29, .int 0, .int 0, .int 0, .int 0, .int 15, .int 0, .int 0, .int 0, .int 0, .int 0, .int 0]))]) (va_A [(h0, .inr (9, [.ref q1, .int 0, .int 0, .int 0, .int 0, .int 0, .int 0, .int 0, .int 0, .int 0, .int 0, .int 0, .int 0, .int 0, .int 0, .int 0]))] sz)) 0 0 (va_A [(h0, .inr (9, [.ref q1, .int 0, .int 0, .int 0, .int 0, .int 0, .int 0, .int 0, .int 0, .int 0, .int 0, .int 0, .int 0, .int 0, .int 0, .int 0]))] sz) := by
  refine Met.ofW (cc := cX9_begin) (maxL := 1) (ret := none) (by decide +kernel) rfl ?_
  intro p e s m args below meth c s₁ B hml hv
  obtain ⟨rfl, hv⟩ := hv
  have C := CK.start (own := RX9) B hml rfl hv
  obtain ⟨hsz, hP, hD0, -, -, -⟩ := hv
  have hin : meth.name = _ := (name_of_methodNamed B.named B.method).1
  subst hsz
  have hD := hD0.self (sz := s.heap.size)
  generalize hAe : va_A [(h0, .inr (9, [.ref q1, .int 0, .int 0, .int 0, .int 0, .int 0, .int 0, .int 0, .int 0, .int 0, .int 0, .int 0, .int 0, .int 0, .int 0, .int 0]))] s.heap.size = A at hD ⊢
  have hA : ∀ q : Nat, s.heap.size ≤ q → A q := fun q h => by rw [← hAe]; exact Or.inr h
  have hS : va_S A s.heap s.heap [] := va_S.rf
  have hl := lv_entry ([.ref h0]) (n := 1) (Nat.le_of_ble_eq_true rfl)
  rw [lg_entry_eq]
  generalize (lg_sl ([.ref h0]) ++ List.replicate (1 - (lg_sl ([.ref h0])).length) Slot.unset).toArray = ls at hl ⊢
  have hl : lv_has ls 1 [(0, .ref h0)] := hl
  refine lv_aload_n C.1 C.2.1 dX9_begin_0 rfl (lv_at hl 0 rfl) ?_
  refine lv_iconst (v := 0) C.1 C.2.1 dX9_begin_1 (by decide) ?_
  refine va_put (D := g.1) (A := A) (ci := 9) (v := .int 0) (ty := .int) (C := RX9) (T := TX9) (N := 16) C.1 C.2.1 C.2.2.2.2.2.1 inb_X9 tyX9 tyX9_ok nmX9 C.2.2.2.2.1 C.2.2.2.2.2.2.2.1 hP hD hS 0 rfl rfl 1 (by decide) (C.2.2.2.2.2.1 _ (bg_of 288 (by decide +kernel) rfl)) (fun _ h => h) rfl (by decide +kernel) rfl rfl (Nat.le_of_ble_eq_true rfl) dX9_begin_2 (fun H locs hP hD hS => ?_)
  have hP : va_P g.1 clz [(h0, .inr (9, [.ref q1, .int 0, .int 0, .int 0, .int 0, .int 0, .int 0, .int 0, .int 0, .int 0, .int 0, .int 0, .int 0, .int 0, .int 0, .int 0]))] H := hP
  have hD : va_D A [(h0, .inr (9, [.ref q1, .int 0, .int 0, .int 0, .int 0, .int 0, .int 0, .int 0, .int 0, .int 0, .int 0, .int 0, .int 0, .int 0, .int 0, .int 0]))] := hD
  refine lv_aload_n C.1 C.2.1 dX9_begin_5 rfl (lv_at hl 0 rfl) ?_
  refine lv_iconst (v := 0) C.1 C.2.1 dX9_begin_6 (by decide) ?_
  refine va_put (D := g.1) (A := A) (ci := 9) (v := .int 0) (ty := .int) (C := RX9) (T := TX9) (N := 16) C.1 C.2.1 C.2.2.2.2.2.1 inb_X9 tyX9 tyX9_ok nmX9 C.2.2.2.2.1 C.2.2.2.2.2.2.2.1 hP hD hS 0 rfl rfl 2 (by decide) (C.2.2.2.2.2.1 _ (bg_of 293 (by decide +kernel) rfl)) (fun _ h => h) rfl (by decide +kernel) rfl rfl (Nat.le_of_ble_eq_true rfl) dX9_begin_7 (fun H locs hP hD hS => ?_)
  have hP : va_P g.1 clz [(h0, .inr (9, [.ref q1, .int 0, .int 0, .int 0, .int 0, .int 0, .int 0, .int 0, .int 0, .int 0, .int 0, .int 0, .int 0, .int 0, .int 0, .int 0]))] H := hP
  have hD : va_D A [(h0, .inr (9, [.ref q1, .int 0, .int 0, .int 0, .int 0, .int 0, .int 0, .int 0, .int 0, .int 0, .int 0, .int 0, .int 0, .int 0, .int 0, .int 0]))] := hD
  refine lv_aload_n C.1 C.2.1 dX9_begin_10 rfl (lv_at hl 0 rfl) ?_
  refine lv_iconst (v := 5) C.1 C.2.1 dX9_begin_11 (by decide) ?_
  refine va_put (D := g.1) (A := A) (ci := 9) (v := .int 5) (ty := .int) (C := RX9) (T := TX9) (N := 16) C.1 C.2.1 C.2.2.2.2.2.1 inb_X9 tyX9 tyX9_ok nmX9 C.2.2.2.2.1 C.2.2.2.2.2.2.2.1 hP hD hS 0 rfl rfl 3 (by decide) (C.2.2.2.2.2.1 _ (bg_of 296 (by decide +kernel) rfl)) (fun _ h => h) rfl (by decide +kernel) rfl rfl (Nat.le_of_ble_eq_true rfl) dX9_begin_12 (fun H locs hP hD hS => ?_)
  have hP : va_P g.1 clz [(h0, .inr (9, [.ref q1, .int 0, .int 0, .int 5, .int 0, .int 0, .int 0, .int 0, .int 0, .int 0, .int 0, .int 0, .int 0, .int 0, .int 0, .int 0]))] H := hP
  have hD : va_D A [(h0, .inr (9, [.ref q1, .int 0, .int 0, .int 5, .int 0, .int 0, .int 0, .int 0, .int 0, .int 0, .int 0, .int 0, .int 0, .int 0, .int 0, .int 0]))] := hD
  refine lv_aload_n C.1 C.2.1 dX9_begin_15 rfl (lv_at hl 0 rfl) ?_
  refine lv_bipush (v := 29) C.1 C.2.1 dX9_begin_16 (by decide) ?_
  refine va_put (D := g.1) (A := A) (ci := 9) (v := .int 29) (ty := .int) (C := RX9) (T := TX9) (N := 16) C.1 C.2.1 C.2.2.2.2.2.1 inb_X9 tyX9 tyX9_ok nmX9 C.2.2.2.2.1 C.2.2.2.2.2.2.2.1 hP hD hS 0 rfl rfl 4 (by decide) (C.2.2.2.2.2.1 _ (bg_of 299 (by decide +kernel) rfl)) (fun _ h => h) rfl (by decide +kernel) rfl rfl (Nat.le_of_ble_eq_true rfl) dX9_begin_18 (fun H locs hP hD hS => ?_)
  have hP : va_P g.1 clz [(h0, .inr (9, [.ref q1, .int 0, .int 0, .int 5, .int 29, .int 0, .int 0, .int 0, .int 0, .int 0, .int 0, .int 0, .int 0, .int 0, .int 0, .int 0]))] H := hP
  have hD : va_D A [(h0, .inr (9, [.ref q1, .int 0, .int 0, .int 5, .int 29, .int 0, .int 0, .int 0, .int 0, .int 0, .int 0, .int 0, .int 0, .int 0, .int 0, .int 0]))] := hD
  refine lv_aload_n C.1 C.2.1 dX9_begin_21 rfl (lv_at hl 0 rfl) ?_
  refine lv_iconst (v := 0) C.1 C.2.1 dX9_begin_22 (by decide) ?_
  refine va_put (D := g.1) (A := A) (ci := 9) (v := .int 0) (ty := .int) (C := RX9) (T := TX9) (N := 16) C.1 C.2.1 C.2.2.2.2.2.1 inb_X9 tyX9 tyX9_ok nmX9 C.2.2.2.2.1 C.2.2.2.2.2.2.2.1 hP hD hS 0 rfl rfl 7 (by decide) (C.2.2.2.2.2.1 _ (bg_of 304 (by decide +kernel) rfl)) (fun _ h => h) rfl (by decide +kernel) rfl rfl (Nat.le_of_ble_eq_true rfl) dX9_begin_23 (fun H locs hP hD hS => ?_)
  have hP : va_P g.1 clz [(h0, .inr (9, [.ref q1, .int 0, .int 0, .int 5, .int 29, .int 0, .int 0, .int 0, .int 0, .int 0, .int 0, .int 0, .int 0, .int 0, .int 0, .int 0]))] H := hP
  have hD : va_D A [(h0, .inr (9, [.ref q1, .int 0, .int 0, .int 5, .int 29, .int 0, .int 0, .int 0, .int 0, .int 0, .int 0, .int 0, .int 0, .int 0, .int 0, .int 0]))] := hD
  refine lv_aload_n C.1 C.2.1 dX9_begin_26 rfl (lv_at hl 0 rfl) ?_
  refine lv_iconst (v := 0) C.1 C.2.1 dX9_begin_27 (by decide) ?_
  refine va_put (D := g.1) (A := A) (ci := 9) (v := .int 0) (ty := .int) (C := RX9) (T := TX9) (N := 16) C.1 C.2.1 C.2.2.2.2.2.1 inb_X9 tyX9 tyX9_ok nmX9 C.2.2.2.2.1 C.2.2.2.2.2.2.2.1 hP hD hS 0 rfl rfl 8 (by decide) (C.2.2.2.2.2.1 _ (bg_of 308 (by decide +kernel) rfl)) (fun _ h => h) rfl (by decide +kernel) rfl rfl (Nat.le_of_ble_eq_true rfl) dX9_begin_28 (fun H locs hP hD hS => ?_)
  have hP : va_P g.1 clz [(h0, .inr (9, [.ref q1, .int 0, .int 0, .int 5, .int 29, .int 0, .int 0, .int 0, .int 0, .int 0, .int 0, .int 0, .int 0, .int 0, .int 0, .int 0]))] H := hP
  have hD : va_D A [(h0, .inr (9, [.ref q1, .int 0, .int 0, .int 5, .int 29, .int 0, .int 0, .int 0, .int 0, .int 0, .int 0, .int 0, .int 0, .int 0, .int 0, .int 0]))] := hD
  refine lv_aload_n C.1 C.2.1 dX9_begin_31 rfl (lv_at hl 0 rfl) ?_
  refine lv_bipush (v := 15) C.1 C.2.1 dX9_begin_32 (by decide) ?_
  refine va_put (D := g.1) (A := A) (ci := 9) (v := .int 15) (ty := .int) (C := RX9) (T := TX9) (N := 16) C.1 C.2.1 C.2.2.2.2.2.1 inb_X9 tyX9 tyX9_ok nmX9 C.2.2.2.2.1 C.2.2.2.2.2.2.2.1 hP hD hS 0 rfl rfl 9 (by decide) (C.2.2.2.2.2.1 _ (bg_of 312 (by decide +kernel) rfl)) (fun _ h => h) rfl (by decide +kernel) rfl rfl (Nat.le_of_ble_eq_true rfl) dX9_begin_34 (fun H locs hP hD hS => ?_)
  have hP : va_P g.1 clz [(h0, .inr (9, [.ref q1, .int 0, .int 0, .int 5, .int 29, .int 0, .int 0, .int 0, .int 0, .int 15, .int 0, .int 0, .int 0, .int 0, .int 0, .int 0]))] H := hP
  have hD : va_D A [(h0, .inr (9, [.ref q1, .int 0, .int 0, .int 5, .int 29, .int 0, .int 0, .int 0, .int 0, .int 15, .int 0, .int 0, .int 0, .int 0, .int 0, .int 0]))] := hD
  refine lv_aload_n C.1 C.2.1 dX9_begin_37 rfl (lv_at hl 0 rfl) ?_
  refine lv_iconst (v := 0) C.1 C.2.1 dX9_begin_38 (by decide) ?_
  refine va_put (D := g.1) (A := A) (ci := 9) (v := .int 0) (ty := .boolean) (C := RX9) (T := TX9) (N := 16) C.1 C.2.1 C.2.2.2.2.2.1 inb_X9 tyX9 tyX9_ok nmX9 C.2.2.2.2.1 C.2.2.2.2.2.2.2.1 hP hD hS 0 rfl rfl 10 (by decide) (C.2.2.2.2.2.1 _ (bg_of 315 (by decide +kernel) rfl)) (fun _ h => h) rfl (by decide +kernel) rfl rfl (Nat.le_of_ble_eq_true rfl) dX9_begin_39 (fun H locs hP hD hS => ?_)
  have hP : va_P g.1 clz [(h0, .inr (9, [.ref q1, .int 0, .int 0, .int 5, .int 29, .int 0, .int 0, .int 0, .int 0, .int 15, .int 0, .int 0, .int 0, .int 0, .int 0, .int 0]))] H := hP
  have hD : va_D A [(h0, .inr (9, [.ref q1, .int 0, .int 0, .int 5, .int 29, .int 0, .int 0, .int 0, .int 0, .int 15, .int 0, .int 0, .int 0, .int 0, .int 0, .int 0]))] := hD
  refine lv_aload_n C.1 C.2.1 dX9_begin_42 rfl (lv_at hl 0 rfl) ?_
  refine lv_iconst (v := 0) C.1 C.2.1 dX9_begin_43 (by decide) ?_
  refine va_put (D := g.1) (A := A) (ci := 9) (v := .int 0) (ty := .int) (C := RX9) (T := TX9) (N := 16) C.1 C.2.1 C.2.2.2.2.2.1 inb_X9 tyX9 tyX9_ok nmX9 C.2.2.2.2.1 C.2.2.2.2.2.2.2.1 hP hD hS 0 rfl rfl 15 (by decide) (C.2.2.2.2.2.1 _ (bg_of 326 (by decide +kernel) rfl)) (fun _ h => h) rfl (by decide +kernel) rfl rfl (Nat.le_of_ble_eq_true rfl) dX9_begin_44 (fun H locs hP hD hS => ?_)
  have hP : va_P g.1 clz [(h0, .inr (9, [.ref q1, .int 0, .int 0, .int 5, .int 29, .int 0, .int 0, .int 0, .int 0, .int 15, .int 0, .int 0, .int 0, .int 0, .int 0, .int 0]))] H := hP
  have hD : va_D A [(h0, .inr (9, [.ref q1, .int 0, .int 0, .int 5, .int 29, .int 0, .int 0, .int 0, .int 0, .int 15, .int 0, .int 0, .int 0, .int 0, .int 0, .int 0]))] := hD
  exact W.vret C.1 C.2.1 C.2.2.2.1 (fun t ht hW => ⟨⟨(), rfl, trivial, by rw [ht]; exact hP, hD⟩, hS.F ht⟩) hS.2.2 dX9_begin_47 C.2.2.2.2.2.2.1
