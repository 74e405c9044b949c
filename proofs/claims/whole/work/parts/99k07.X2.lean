def wX2 (g : Geo) (h0 : Nat) (u : Nat → Nat) : va_W := [(h0, .inr (2, [.ref (u 0), .ref (u 1), .int 0, .int 0, .int (-1), .ref (u 2), .int 0, .ref (u 3), .ref (u 4), .long 0])), ((u 0), .inl (g.2.2.1 0, 62, .inl (fun _ => 0))), ((u 1), .inl (g.2.2.1 0, 62, .inl (fun _ => 0))), ((u 2), .inl (g.2.2.1 0, 31, .inl (fun _ => 0))), ((u 3), .inl (g.2.2.1 1, 62, .inr (.inl (fun _ => 0)))), ((u 4), .inl (g.2.2.1 1, 124, .inr (.inl (fun _ => 0))))]
set_option maxHeartbeats 4000000 in
set_option maxRecDepth 100000 in
theorem c_X2_init (l : Launch) (g : Geo) (sz : Nat) (h0 : Nat) : Met l yX2_init (Cond.code yX2_init cX2_init 1 none :: bg) ({ frames := 1, cells := 5, slots := 341, locals := 12 } : Room) (va_Pc [.ref h0] (PS g sz [(h0, .inr (2, zX2))])) (va_Qv (fun _ : Nat → Nat => True) (fun u t => va_P g.1 clz (wX2 g h0 u) t.heap ∧ va_D (va_A [(h0, .inr (2, zX2))] sz) (wX2 g h0 u)) (va_A [(h0, .inr (2, zX2))] sz)) 5 341 (va_A [(h0, .inr (2, zX2))] sz) := by
  refine Met.ofW (cc := cX2_init) (maxL := 1) (ret := none) (by decide +kernel) rfl ?_
  intro p e s m args below meth c s₁ B hml hv
  obtain ⟨rfl, hv⟩ := hv
  have C := CK.start (own := RX2) B hml rfl hv
  obtain ⟨hsz, hP, hD0, -, -, -⟩ := hv
  have hin : meth.name = _ := (name_of_methodNamed B.named B.method).1
  subst hsz
  have hD := hD0.self (sz := s.heap.size)
  generalize hAe : va_A [(h0, .inr (2, zX2))] s.heap.size = A at hD ⊢
  have hA : ∀ q : Nat, s.heap.size ≤ q → A q := fun q h => by rw [← hAe]; exact Or.inr h
  have hS : va_S A s.heap s.heap [] := va_S.rf
  have hl := lv_entry ([.ref h0]) (n := 1) (Nat.le_of_ble_eq_true rfl)
  rw [lg_entry_eq]
  generalize (lg_sl ([.ref h0]) ++ List.replicate (1 - (lg_sl ([.ref h0])).length) Slot.unset).toArray = ls at hl ⊢
  have hl : lv_has ls 1 [(0, .ref h0)] := hl
  refine lv_aload_n C.1 C.2.1 dX2_init_0 rfl (lv_at hl 0 rfl) ?_
  refine W.objInit C.1 C.2.1 C.2.2.2.2.1 (C.2.2.2.2.2.1 _ (bg_of 366 (by decide +kernel) rfl)) (C.2.2.2.2.2.1 _ (bg_of 120 (by decide +kernel) rfl)) (C.2.2.2.2.2.1 _ (bg_of 121 (by decide +kernel) rfl)) rfl (by rw [C.2.2.1]; exact hl.1) rfl dX2_init_1 (Nat.le_of_ble_eq_true rfl) (Nat.le_of_ble_eq_true rfl) ?_
  refine W.eq (g2 := F0 m 4 ls []) rfl ?_
  refine lv_aload_n C.1 C.2.1 dX2_init_4 rfl (lv_at hl 0 rfl) ?_
  refine lv_bipush (v := 62) C.1 C.2.1 dX2_init_5 (by decide) ?_
  refine kn_newa C 0 (a0 := (62, .inl (fun _ => 0))) rfl rfl (bg_of 167 (by decide +kernel) rfl) hP hD hS hA (fun _ => rfl) (by decide) (by decide) (by decide) (by decide) (by decide) dX2_init_7 (fun q7 H hP hD hS => ?_)
  have hP : va_P g.1 clz [(h0, .inr (2, zX2)), (q7, .inl (g.2.2.1 0, 62, .inl (fun _ => 0)))] H := hP
  have hD : va_D A [(h0, .inr (2, zX2)), (q7, .inl (g.2.2.1 0, 62, .inl (fun _ => 0)))] := hD
  refine va_putF (D := g.1) (A := A) (ci := 2) (v := .ref q7) (ty := (.array .int)) (C := RX2) (T := TX2) (N := 10) C.1 C.2.1 C.2.2.2.2.2.1 inb_X2 tyX2 tyX2_ok nmX2 C.2.2.2.2.1 C.2.2.2.2.2.2.2.1 hP hD hS 0 rfl rfl 0 (by decide) (C.2.2.2.2.2.1 _ (bg_of 367 (by decide +kernel) rfl)) (fun _ h => h) rfl hin rfl (by decide +kernel) rfl rfl (Nat.le_of_ble_eq_true rfl) dX2_init_9 (fun H locs hP hD hS => ?_)
  have hP : va_P g.1 clz [(h0, .inr (2, [.ref q7, .null, .int 0, .int 0, .int 0, .null, .int 0, .null, .null, .long 0])), (q7, .inl (g.2.2.1 0, 62, .inl (fun _ => 0)))] H := hP
  have hD : va_D A [(h0, .inr (2, [.ref q7, .null, .int 0, .int 0, .int 0, .null, .int 0, .null, .null, .long 0])), (q7, .inl (g.2.2.1 0, 62, .inl (fun _ => 0)))] := hD
  refine lv_aload_n C.1 C.2.1 dX2_init_12 rfl (lv_at hl 0 rfl) ?_
  refine lv_bipush (v := 62) C.1 C.2.1 dX2_init_13 (by decide) ?_
  refine kn_newa C 0 (a0 := (62, .inl (fun _ => 0))) rfl rfl (bg_of 167 (by decide +kernel) rfl) hP hD hS hA (fun _ => rfl) (by decide) (by decide) (by decide) (by decide) (by decide) dX2_init_15 (fun q15 H hP hD hS => ?_)
  have hP : va_P g.1 clz [(h0, .inr (2, [.ref q7, .null, .int 0, .int 0, .int 0, .null, .int 0, .null, .null, .long 0])), (q7, .inl (g.2.2.1 0, 62, .inl (fun _ => 0))), (q15, .inl (g.2.2.1 0, 62, .inl (fun _ => 0)))] H := hP
  have hD : va_D A [(h0, .inr (2, [.ref q7, .null, .int 0, .int 0, .int 0, .null, .int 0, .null, .null, .long 0])), (q7, .inl (g.2.2.1 0, 62, .inl (fun _ => 0))), (q15, .inl (g.2.2.1 0, 62, .inl (fun _ => 0)))] := hD
  refine va_putF (D := g.1) (A := A) (ci := 2) (v := .ref q15) (ty := (.array .int)) (C := RX2) (T := TX2) (N := 10) C.1 C.2.1 C.2.2.2.2.2.1 inb_X2 tyX2 tyX2_ok nmX2 C.2.2.2.2.1 C.2.2.2.2.2.2.2.1 hP hD hS 0 rfl rfl 1 (by decide) (C.2.2.2.2.2.1 _ (bg_of 369 (by decide +kernel) rfl)) (fun _ h => h) rfl hin rfl (by decide +kernel) rfl rfl (Nat.le_of_ble_eq_true rfl) dX2_init_17 (fun H locs hP hD hS => ?_)
  have hP : va_P g.1 clz [(h0, .inr (2, [.ref q7, .ref q15, .int 0, .int 0, .int 0, .null, .int 0, .null, .null, .long 0])), (q7, .inl (g.2.2.1 0, 62, .inl (fun _ => 0))), (q15, .inl (g.2.2.1 0, 62, .inl (fun _ => 0)))] H := hP
  have hD : va_D A [(h0, .inr (2, [.ref q7, .ref q15, .int 0, .int 0, .int 0, .null, .int 0, .null, .null, .long 0])), (q7, .inl (g.2.2.1 0, 62, .inl (fun _ => 0))), (q15, .inl (g.2.2.1 0, 62, .inl (fun _ => 0)))] := hD
  refine lv_aload_n C.1 C.2.1 dX2_init_20 rfl (lv_at hl 0 rfl) ?_
  refine lv_iconst (v := (-1)) C.1 C.2.1 dX2_init_21 (by decide) ?_
  refine va_put (D := g.1) (A := A) (ci := 2) (v := .int (-1)) (ty := .int) (C := RX2) (T := TX2) (N := 10) C.1 C.2.1 C.2.2.2.2.2.1 inb_X2 tyX2 tyX2_ok nmX2 C.2.2.2.2.1 C.2.2.2.2.2.2.2.1 hP hD hS 0 rfl rfl 4 (by decide) (C.2.2.2.2.2.1 _ (bg_of 375 (by decide +kernel) rfl)) (fun _ h => h) rfl (by decide +kernel) rfl rfl (Nat.le_of_ble_eq_true rfl) dX2_init_22 (fun H locs hP hD hS => ?_)
  have hP : va_P g.1 clz [(h0, .inr (2, [.ref q7, .ref q15, .int 0, .int 0, .int (-1), .null, .int 0, .null, .null, .long 0])), (q7, .inl (g.2.2.1 0, 62, .inl (fun _ => 0))), (q15, .inl (g.2.2.1 0, 62, .inl (fun _ => 0)))] H := hP
  have hD : va_D A [(h0, .inr (2, [.ref q7, .ref q15, .int 0, .int 0, .int (-1), .null, .int 0, .null, .null, .long 0])), (q7, .inl (g.2.2.1 0, 62, .inl (fun _ => 0))), (q15, .inl (g.2.2.1 0, 62, .inl (fun _ => 0)))] := hD
  refine lv_aload_n C.1 C.2.1 dX2_init_25 rfl (lv_at hl 0 rfl) ?_
  refine lv_bipush (v := 31) C.1 C.2.1 dX2_init_26 (by decide) ?_
  refine kn_newa C 0 (a0 := (31, .inl (fun _ => 0))) rfl rfl (bg_of 167 (by decide +kernel) rfl) hP hD hS hA (fun _ => rfl) (by decide) (by decide) (by decide) (by decide) (by decide) dX2_init_28 (fun q28 H hP hD hS => ?_)
  have hP : va_P g.1 clz [(h0, .inr (2, [.ref q7, .ref q15, .int 0, .int 0, .int (-1), .null, .int 0, .null, .null, .long 0])), (q7, .inl (g.2.2.1 0, 62, .inl (fun _ => 0))), (q15, .inl (g.2.2.1 0, 62, .inl (fun _ => 0))), (q28, .inl (g.2.2.1 0, 31, .inl (fun _ => 0)))] H := hP
  have hD : va_D A [(h0, .inr (2, [.ref q7, .ref q15, .int 0, .int 0, .int (-1), .null, .int 0, .null, .null, .long 0])), (q7, .inl (g.2.2.1 0, 62, .inl (fun _ => 0))), (q15, .inl (g.2.2.1 0, 62, .inl (fun _ => 0))), (q28, .inl (g.2.2.1 0, 31, .inl (fun _ => 0)))] := hD
  refine va_putF (D := g.1) (A := A) (ci := 2) (v := .ref q28) (ty := (.array .int)) (C := RX2) (T := TX2) (N := 10) C.1 C.2.1 C.2.2.2.2.2.1 inb_X2 tyX2 tyX2_ok nmX2 C.2.2.2.2.1 C.2.2.2.2.2.2.2.1 hP hD hS 0 rfl rfl 5 (by decide) (C.2.2.2.2.2.1 _ (bg_of 376 (by decide +kernel) rfl)) (fun _ h => h) rfl hin rfl (by decide +kernel) rfl rfl (Nat.le_of_ble_eq_true rfl) dX2_init_30 (fun H locs hP hD hS => ?_)
  have hP : va_P g.1 clz [(h0, .inr (2, [.ref q7, .ref q15, .int 0, .int 0, .int (-1), .ref q28, .int 0, .null, .null, .long 0])), (q7, .inl (g.2.2.1 0, 62, .inl (fun _ => 0))), (q15, .inl (g.2.2.1 0, 62, .inl (fun _ => 0))), (q28, .inl (g.2.2.1 0, 31, .inl (fun _ => 0)))] H := hP
  have hD : va_D A [(h0, .inr (2, [.ref q7, .ref q15, .int 0, .int 0, .int (-1), .ref q28, .int 0, .null, .null, .long 0])), (q7, .inl (g.2.2.1 0, 62, .inl (fun _ => 0))), (q15, .inl (g.2.2.1 0, 62, .inl (fun _ => 0))), (q28, .inl (g.2.2.1 0, 31, .inl (fun _ => 0)))] := hD
  refine lv_aload_n C.1 C.2.1 dX2_init_33 rfl (lv_at hl 0 rfl) ?_
  refine lv_bipush (v := 62) C.1 C.2.1 dX2_init_34 (by decide) ?_
  refine kn_newa C 1 (a0 := (62, .inr (.inl (fun _ => 0)))) rfl rfl (bg_of 402 (by decide +kernel) rfl) hP hD hS hA (fun _ => rfl) (by decide) (by decide) (by decide) (by decide) (by decide) dX2_init_36 (fun q36 H hP hD hS => ?_)
  have hP : va_P g.1 clz [(h0, .inr (2, [.ref q7, .ref q15, .int 0, .int 0, .int (-1), .ref q28, .int 0, .null, .null, .long 0])), (q7, .inl (g.2.2.1 0, 62, .inl (fun _ => 0))), (q15, .inl (g.2.2.1 0, 62, .inl (fun _ => 0))), (q28, .inl (g.2.2.1 0, 31, .inl (fun _ => 0))), (q36, .inl (g.2.2.1 1, 62, .inr (.inl (fun _ => 0))))] H := hP
  have hD : va_D A [(h0, .inr (2, [.ref q7, .ref q15, .int 0, .int 0, .int (-1), .ref q28, .int 0, .null, .null, .long 0])), (q7, .inl (g.2.2.1 0, 62, .inl (fun _ => 0))), (q15, .inl (g.2.2.1 0, 62, .inl (fun _ => 0))), (q28, .inl (g.2.2.1 0, 31, .inl (fun _ => 0))), (q36, .inl (g.2.2.1 1, 62, .inr (.inl (fun _ => 0))))] := hD
  refine va_putF (D := g.1) (A := A) (ci := 2) (v := .ref q36) (ty := (.array .long)) (C := RX2) (T := TX2) (N := 10) C.1 C.2.1 C.2.2.2.2.2.1 inb_X2 tyX2 tyX2_ok nmX2 C.2.2.2.2.1 C.2.2.2.2.2.2.2.1 hP hD hS 0 rfl rfl 7 (by decide) (C.2.2.2.2.2.1 _ (bg_of 378 (by decide +kernel) rfl)) (fun _ h => h) rfl hin rfl (by decide +kernel) rfl rfl (Nat.le_of_ble_eq_true rfl) dX2_init_38 (fun H locs hP hD hS => ?_)
  have hP : va_P g.1 clz [(h0, .inr (2, [.ref q7, .ref q15, .int 0, .int 0, .int (-1), .ref q28, .int 0, .ref q36, .null, .long 0])), (q7, .inl (g.2.2.1 0, 62, .inl (fun _ => 0))), (q15, .inl (g.2.2.1 0, 62, .inl (fun _ => 0))), (q28, .inl (g.2.2.1 0, 31, .inl (fun _ => 0))), (q36, .inl (g.2.2.1 1, 62, .inr (.inl (fun _ => 0))))] H := hP
  have hD : va_D A [(h0, .inr (2, [.ref q7, .ref q15, .int 0, .int 0, .int (-1), .ref q28, .int 0, .ref q36, .null, .long 0])), (q7, .inl (g.2.2.1 0, 62, .inl (fun _ => 0))), (q15, .inl (g.2.2.1 0, 62, .inl (fun _ => 0))), (q28, .inl (g.2.2.1 0, 31, .inl (fun _ => 0))), (q36, .inl (g.2.2.1 1, 62, .inr (.inl (fun _ => 0))))] := hD
  refine lv_aload_n C.1 C.2.1 dX2_init_41 rfl (lv_at hl 0 rfl) ?_
  refine lv_bipush (v := 124) C.1 C.2.1 dX2_init_42 (by decide) ?_
  refine kn_newa C 1 (a0 := (124, .inr (.inl (fun _ => 0)))) rfl rfl (bg_of 402 (by decide +kernel) rfl) hP hD hS hA (fun _ => rfl) (by decide) (by decide) (by decide) (by decide) (by decide) dX2_init_44 (fun q44 H hP hD hS => ?_)
  have hP : va_P g.1 clz [(h0, .inr (2, [.ref q7, .ref q15, .int 0, .int 0, .int (-1), .ref q28, .int 0, .ref q36, .null, .long 0])), (q7, .inl (g.2.2.1 0, 62, .inl (fun _ => 0))), (q15, .inl (g.2.2.1 0, 62, .inl (fun _ => 0))), (q28, .inl (g.2.2.1 0, 31, .inl (fun _ => 0))), (q36, .inl (g.2.2.1 1, 62, .inr (.inl (fun _ => 0)))), (q44, .inl (g.2.2.1 1, 124, .inr (.inl (fun _ => 0))))] H := hP
  have hD : va_D A [(h0, .inr (2, [.ref q7, .ref q15, .int 0, .int 0, .int (-1), .ref q28, .int 0, .ref q36, .null, .long 0])), (q7, .inl (g.2.2.1 0, 62, .inl (fun _ => 0))), (q15, .inl (g.2.2.1 0, 62, .inl (fun _ => 0))), (q28, .inl (g.2.2.1 0, 31, .inl (fun _ => 0))), (q36, .inl (g.2.2.1 1, 62, .inr (.inl (fun _ => 0)))), (q44, .inl (g.2.2.1 1, 124, .inr (.inl (fun _ => 0))))] := hD
  refine va_putF (D := g.1) (A := A) (ci := 2) (v := .ref q44) (ty := (.array .long)) (C := RX2) (T := TX2) (N := 10) C.1 C.2.1 C.2.2.2.2.2.1 inb_X2 tyX2 tyX2_ok nmX2 C.2.2.2.2.1 C.2.2.2.2.2.2.2.1 hP hD hS 0 rfl rfl 8 (by decide) (C.2.2.2.2.2.1 _ (bg_of 379 (by decide +kernel) rfl)) (fun _ h => h) rfl hin rfl (by decide +kernel) rfl rfl (Nat.le_of_ble_eq_true rfl) dX2_init_46 (fun H locs hP hD hS => ?_)
  have hP : va_P g.1 clz [(h0, .inr (2, [.ref q7, .ref q15, .int 0, .int 0, .int (-1), .ref q28, .int 0, .ref q36, .ref q44, .long 0])), (q7, .inl (g.2.2.1 0, 62, .inl (fun _ => 0))), (q15, .inl (g.2.2.1 0, 62, .inl (fun _ => 0))), (q28, .inl (g.2.2.1 0, 31, .inl (fun _ => 0))), (q36, .inl (g.2.2.1 1, 62, .inr (.inl (fun _ => 0)))), (q44, .inl (g.2.2.1 1, 124, .inr (.inl (fun _ => 0))))] H := hP
  have hD : va_D A [(h0, .inr (2, [.ref q7, .ref q15, .int 0, .int 0, .int (-1), .ref q28, .int 0, .ref q36, .ref q44, .long 0])), (q7, .inl (g.2.2.1 0, 62, .inl (fun _ => 0))), (q15, .inl (g.2.2.1 0, 62, .inl (fun _ => 0))), (q28, .inl (g.2.2.1 0, 31, .inl (fun _ => 0))), (q36, .inl (g.2.2.1 1, 62, .inr (.inl (fun _ => 0)))), (q44, .inl (g.2.2.1 1, 124, .inr (.inl (fun _ => 0))))] := hD
  refine W.widen (k := 5) (n := 341) (by decide) (by decide) ?_
  exact W.vret C.1 C.2.1 C.2.2.2.1 (fun t ht hW => ⟨⟨(fun i => [q7, q15, q28, q36, q44].getD i 0), rfl, trivial, by rw [ht]; exact hP, hD⟩, hS.F ht⟩) hS.2.2 dX2_init_49 C.2.2.2.2.2.2.1
