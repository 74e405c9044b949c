def wX3 (g : Geo) (h0 : Nat) (u : Nat → Nat) : va_W := [(h0, .inr (3, [.int 0, .int 0, .ref (u 0), .ref (u 1), .ref (u 2)])), ((u 0), .inl (g.2.2.1 0, 4, .inl (fun _ => 0))), ((u 1), .inl (g.2.2.1 0, 4, .inl (fun _ => 0))), ((u 2), .inl (g.2.2.1 0, 4, .inl (fun _ => 0)))]
set_option maxHeartbeats 4000000 in
set_option maxRecDepth 100000 in
theorem c_X3_init (l : Launch) (g : Geo) (sz : Nat) (h0 : Nat) : Met l yX3_init (Cond.code yX3_init cX3_init 1 none :: bg) ({ frames := 1, cells := 3, slots := 12, locals := 12 } : Room) (va_Pc [.ref h0] (PS g sz [(h0, .inr (3, zX3))])) (va_Qv (fun _ : Nat → Nat => True) (fun u t => va_P g.1 clz (wX3 g h0 u) t.heap ∧ va_D (va_A [(h0, .inr (3, zX3))] sz) (wX3 g h0 u)) (va_A [(h0, .inr (3, zX3))] sz)) 3 12 (va_A [(h0, .inr (3, zX3))] sz) := by
  refine Met.ofW (cc := cX3_init) (maxL := 1) (ret := none) (by decide +kernel) rfl ?_
  intro p e s m args below meth c s₁ B hml hv
  obtain ⟨rfl, hv⟩ := hv
  have C := CK.start (own := RX3) B hml rfl hv
  obtain ⟨hsz, hP, hD0, -, -, -⟩ := hv
  have hin : meth.name = _ := (name_of_methodNamed B.named B.method).1
  subst hsz
  have hD := hD0.self (sz := s.heap.size)
  generalize hAe : va_A [(h0, .inr (3, zX3))] s.heap.size = A at hD ⊢
  have hA : ∀ q : Nat, s.heap.size ≤ q → A q := fun q h => by rw [← hAe]; exact Or.inr h
  have hS : va_S A s.heap s.heap [] := va_S.rf
  have hl := lv_entry ([.ref h0]) (n := 1) (Nat.le_of_ble_eq_true rfl)
  rw [lg_entry_eq]
  generalize (lg_sl ([.ref h0]) ++ List.replicate (1 - (lg_sl ([.ref h0])).length) Slot.unset).toArray = ls at hl ⊢
  have hl : lv_has ls 1 [(0, .ref h0)] := hl
  refine lv_aload_n C.1 C.2.1 dX3_init_0 rfl (lv_at hl 0 rfl) ?_
  refine W.objInit C.1 C.2.1 C.2.2.2.2.1 (C.2.2.2.2.2.1 _ (bg_of 518 (by decide +kernel) rfl)) (C.2.2.2.2.2.1 _ (bg_of 120 (by decide +kernel) rfl)) (C.2.2.2.2.2.1 _ (bg_of 121 (by decide +kernel) rfl)) rfl (by rw [C.2.2.1]; exact hl.1) rfl dX3_init_1 (Nat.le_of_ble_eq_true rfl) (Nat.le_of_ble_eq_true rfl) ?_
  refine W.eq (g2 := F0 m 4 ls []) rfl ?_
  refine lv_aload_n C.1 C.2.1 dX3_init_4 rfl (lv_at hl 0 rfl) ?_
  refine lv_iconst (v := 4) C.1 C.2.1 dX3_init_5 (by decide) ?_
  refine kn_newa C 0 (a0 := (4, .inl (fun _ => 0))) rfl rfl (bg_of 167 (by decide +kernel) rfl) hP hD hS hA (fun _ => rfl) (by decide) (by decide) (by decide) (by decide) (by decide) dX3_init_6 (fun q6 H hP hD hS => ?_)
  have hP : va_P g.1 clz [(h0, .inr (3, zX3)), (q6, .inl (g.2.2.1 0, 4, .inl (fun _ => 0)))] H := hP
  have hD : va_D A [(h0, .inr (3, zX3)), (q6, .inl (g.2.2.1 0, 4, .inl (fun _ => 0)))] := hD
  refine va_putF (D := g.1) (A := A) (ci := 3) (v := .ref q6) (ty := (.array .int)) (C := RX3) (T := TX3) (N := 5) C.1 C.2.1 C.2.2.2.2.2.1 inb_X3 tyX3 tyX3_ok nmX3 C.2.2.2.2.1 C.2.2.2.2.2.2.2.1 hP hD hS 0 rfl rfl 2 (by decide) (C.2.2.2.2.2.1 _ (bg_of 523 (by decide +kernel) rfl)) (fun _ h => h) rfl hin rfl (by decide +kernel) rfl rfl (Nat.le_of_ble_eq_true rfl) dX3_init_8 (fun H locs hP hD hS => ?_)
  have hP : va_P g.1 clz [(h0, .inr (3, [.int 0, .int 0, .ref q6, .null, .null])), (q6, .inl (g.2.2.1 0, 4, .inl (fun _ => 0)))] H := hP
  have hD : va_D A [(h0, .inr (3, [.int 0, .int 0, .ref q6, .null, .null])), (q6, .inl (g.2.2.1 0, 4, .inl (fun _ => 0)))] := hD
  refine lv_aload_n C.1 C.2.1 dX3_init_11 rfl (lv_at hl 0 rfl) ?_
  refine lv_iconst (v := 4) C.1 C.2.1 dX3_init_12 (by decide) ?_
  refine kn_newa C 0 (a0 := (4, .inl (fun _ => 0))) rfl rfl (bg_of 167 (by decide +kernel) rfl) hP hD hS hA (fun _ => rfl) (by decide) (by decide) (by decide) (by decide) (by decide) dX3_init_13 (fun q13 H hP hD hS => ?_)
  have hP : va_P g.1 clz [(h0, .inr (3, [.int 0, .int 0, .ref q6, .null, .null])), (q6, .inl (g.2.2.1 0, 4, .inl (fun _ => 0))), (q13, .inl (g.2.2.1 0, 4, .inl (fun _ => 0)))] H := hP
  have hD : va_D A [(h0, .inr (3, [.int 0, .int 0, .ref q6, .null, .null])), (q6, .inl (g.2.2.1 0, 4, .inl (fun _ => 0))), (q13, .inl (g.2.2.1 0, 4, .inl (fun _ => 0)))] := hD
  refine va_putF (D := g.1) (A := A) (ci := 3) (v := .ref q13) (ty := (.array .int)) (C := RX3) (T := TX3) (N := 5) C.1 C.2.1 C.2.2.2.2.2.1 inb_X3 tyX3 tyX3_ok nmX3 C.2.2.2.2.1 C.2.2.2.2.2.2.2.1 hP hD hS 0 rfl rfl 3 (by decide) (C.2.2.2.2.2.1 _ (bg_of 524 (by decide +kernel) rfl)) (fun _ h => h) rfl hin rfl (by decide +kernel) rfl rfl (Nat.le_of_ble_eq_true rfl) dX3_init_15 (fun H locs hP hD hS => ?_)
  have hP : va_P g.1 clz [(h0, .inr (3, [.int 0, .int 0, .ref q6, .ref q13, .null])), (q6, .inl (g.2.2.1 0, 4, .inl (fun _ => 0))), (q13, .inl (g.2.2.1 0, 4, .inl (fun _ => 0)))] H := hP
  have hD : va_D A [(h0, .inr (3, [.int 0, .int 0, .ref q6, .ref q13, .null])), (q6, .inl (g.2.2.1 0, 4, .inl (fun _ => 0))), (q13, .inl (g.2.2.1 0, 4, .inl (fun _ => 0)))] := hD
  refine lv_aload_n C.1 C.2.1 dX3_init_18 rfl (lv_at hl 0 rfl) ?_
  refine lv_iconst (v := 4) C.1 C.2.1 dX3_init_19 (by decide) ?_
  refine kn_newa C 0 (a0 := (4, .inl (fun _ => 0))) rfl rfl (bg_of 167 (by decide +kernel) rfl) hP hD hS hA (fun _ => rfl) (by decide) (by decide) (by decide) (by decide) (by decide) dX3_init_20 (fun q20 H hP hD hS => ?_)
  have hP : va_P g.1 clz [(h0, .inr (3, [.int 0, .int 0, .ref q6, .ref q13, .null])), (q6, .inl (g.2.2.1 0, 4, .inl (fun _ => 0))), (q13, .inl (g.2.2.1 0, 4, .inl (fun _ => 0))), (q20, .inl (g.2.2.1 0, 4, .inl (fun _ => 0)))] H := hP
  have hD : va_D A [(h0, .inr (3, [.int 0, .int 0, .ref q6, .ref q13, .null])), (q6, .inl (g.2.2.1 0, 4, .inl (fun _ => 0))), (q13, .inl (g.2.2.1 0, 4, .inl (fun _ => 0))), (q20, .inl (g.2.2.1 0, 4, .inl (fun _ => 0)))] := hD
  refine va_putF (D := g.1) (A := A) (ci := 3) (v := .ref q20) (ty := (.array .int)) (C := RX3) (T := TX3) (N := 5) C.1 C.2.1 C.2.2.2.2.2.1 inb_X3 tyX3 tyX3_ok nmX3 C.2.2.2.2.1 C.2.2.2.2.2.2.2.1 hP hD hS 0 rfl rfl 4 (by decide) (C.2.2.2.2.2.1 _ (bg_of 525 (by decide +kernel) rfl)) (fun _ h => h) rfl hin rfl (by decide +kernel) rfl rfl (Nat.le_of_ble_eq_true rfl) dX3_init_22 (fun H locs hP hD hS => ?_)
  have hP : va_P g.1 clz [(h0, .inr (3, [.int 0, .int 0, .ref q6, .ref q13, .ref q20])), (q6, .inl (g.2.2.1 0, 4, .inl (fun _ => 0))), (q13, .inl (g.2.2.1 0, 4, .inl (fun _ => 0))), (q20, .inl (g.2.2.1 0, 4, .inl (fun _ => 0)))] H := hP
  have hD : va_D A [(h0, .inr (3, [.int 0, .int 0, .ref q6, .ref q13, .ref q20])), (q6, .inl (g.2.2.1 0, 4, .inl (fun _ => 0))), (q13, .inl (g.2.2.1 0, 4, .inl (fun _ => 0))), (q20, .inl (g.2.2.1 0, 4, .inl (fun _ => 0)))] := hD
  refine W.widen (k := 3) (n := 12) (by decide) (by decide) ?_
  exact W.vret C.1 C.2.1 C.2.2.2.1 (fun t ht hW => ⟨⟨(fun i => [q6, q13, q20].getD i 0), rfl, trivial, by rw [ht]; exact hP, hD⟩, hS.F ht⟩) hS.2.2 dX3_init_25 C.2.2.2.2.2.2.1
