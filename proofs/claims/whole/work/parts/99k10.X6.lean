def wX6 (g : Geo) (h0 : Nat) (u : Nat → Nat) : va_W := [(h0, .inr (6, [.int 0, .int (-1), .ref (u 0), .int 0, .int 0, .int 0, .int 0, .int 0, .null, .int 0, .null, .ref (u 1)])), ((u 0), .inl (g.2.2.1 0, 0, .inl (fun _ => 0))), ((u 1), .inl (g.2.2.1 0, 4, .inl (fun _ => 0)))]
set_option maxHeartbeats 4000000 in
set_option maxRecDepth 100000 in
theorem c_X6_init (l : Launch) (g : Geo) (sz : Nat) (h0 : Nat) : Met l yX6_init (Cond.code yX6_init cX6_init 1 none :: bg) ({ frames := 1, cells := 2, slots := 4, locals := 12 } : Room) (va_Pc [.ref h0] (PS g sz [(h0, .inr (6, zX6))])) (va_Qv (fun _ : Nat → Nat => True) (fun u t => va_P g.1 clz (wX6 g h0 u) t.heap ∧ va_D (va_A [(h0, .inr (6, zX6))] sz) (wX6 g h0 u)) (va_A [(h0, .inr (6, zX6))] sz)) 2 4 (va_A [(h0, .inr (6, zX6))] sz) := by
  refine Met.ofW (cc := cX6_init) (maxL := 1) (ret := none) (by decide +kernel) rfl ?_
  intro p e s m args below meth c s₁ B hml hv
  obtain ⟨rfl, hv⟩ := hv
  have C := CK.start (own := RX6) B hml rfl hv
  obtain ⟨hsz, hP, hD0, -, -, -⟩ := hv
  have hin : meth.name = _ := (name_of_methodNamed B.named B.method).1
  subst hsz
  have hD := hD0.self (sz := s.heap.size)
  generalize hAe : va_A [(h0, .inr (6, zX6))] s.heap.size = A at hD ⊢
  have hA : ∀ q : Nat, s.heap.size ≤ q → A q := fun q h => by rw [← hAe]; exact Or.inr h
  have hS : va_S A s.heap s.heap [] := va_S.rf
  have hl := lv_entry ([.ref h0]) (n := 1) (Nat.le_of_ble_eq_true rfl)
  rw [lg_entry_eq]
  generalize (lg_sl ([.ref h0]) ++ List.replicate (1 - (lg_sl ([.ref h0])).length) Slot.unset).toArray = ls at hl ⊢
  have hl : lv_has ls 1 [(0, .ref h0)] := hl
  refine lv_aload_n C.1 C.2.1 dX6_init_0 rfl (lv_at hl 0 rfl) ?_
  refine W.objInit C.1 C.2.1 C.2.2.2.2.1 (C.2.2.2.2.2.1 _ (bg_of 127 (by decide +kernel) rfl)) (C.2.2.2.2.2.1 _ (bg_of 120 (by decide +kernel) rfl)) (C.2.2.2.2.2.1 _ (bg_of 121 (by decide +kernel) rfl)) rfl (by rw [C.2.2.1]; exact hl.1) rfl dX6_init_1 (Nat.le_of_ble_eq_true rfl) (Nat.le_of_ble_eq_true rfl) ?_
  refine W.eq (g2 := F0 m 4 ls []) rfl ?_
  refine lv_aload_n C.1 C.2.1 dX6_init_4 rfl (lv_at hl 0 rfl) ?_
  refine lv_iconst (v := (-1)) C.1 C.2.1 dX6_init_5 (by decide) ?_
  refine va_put (D := g.1) (A := A) (ci := 6) (v := .int (-1)) (ty := .int) (C := RX6) (T := TX6) (N := 12) C.1 C.2.1 C.2.2.2.2.2.1 inb_X6 tyX6 tyX6_ok nmX6 C.2.2.2.2.1 C.2.2.2.2.2.2.2.1 hP hD hS 0 rfl rfl 1 (by decide) (C.2.2.2.2.2.1 _ (bg_of 130 (by decide +kernel) rfl)) (fun _ h => h) rfl (by decide +kernel) rfl rfl (Nat.le_of_ble_eq_true rfl) dX6_init_6 (fun H locs hP hD hS => ?_)
  have hP : va_P g.1 clz [(h0, .inr (6, [.int 0, .int (-1), .null, .int 0, .int 0, .int 0, .int 0, .int 0, .null, .int 0, .null, .null]))] H := hP
  have hD : va_D A [(h0, .inr (6, [.int 0, .int (-1), .null, .int 0, .int 0, .int 0, .int 0, .int 0, .null, .int 0, .null, .null]))] := hD
  refine lv_aload_n C.1 C.2.1 dX6_init_9 rfl (lv_at hl 0 rfl) ?_
  refine lv_iconst (v := 0) C.1 C.2.1 dX6_init_10 (by decide) ?_
  refine kn_newa C 0 (a0 := (0, .inl (fun _ => 0))) rfl rfl (bg_of 167 (by decide +kernel) rfl) hP hD hS hA (fun _ => rfl) (by decide) (by decide) (by decide) (by decide) (by decide) dX6_init_11 (fun q11 H hP hD hS => ?_)
  have hP : va_P g.1 clz [(h0, .inr (6, [.int 0, .int (-1), .null, .int 0, .int 0, .int 0, .int 0, .int 0, .null, .int 0, .null, .null])), (q11, .inl (g.2.2.1 0, 0, .inl (fun _ => 0)))] H := hP
  have hD : va_D A [(h0, .inr (6, [.int 0, .int (-1), .null, .int 0, .int 0, .int 0, .int 0, .int 0, .null, .int 0, .null, .null])), (q11, .inl (g.2.2.1 0, 0, .inl (fun _ => 0)))] := hD
  refine va_put (D := g.1) (A := A) (ci := 6) (v := .ref q11) (ty := (.array .int)) (C := RX6) (T := TX6) (N := 12) C.1 C.2.1 C.2.2.2.2.2.1 inb_X6 tyX6 tyX6_ok nmX6 C.2.2.2.2.1 C.2.2.2.2.2.2.2.1 hP hD hS 0 rfl rfl 2 (by decide) (C.2.2.2.2.2.1 _ (bg_of 132 (by decide +kernel) rfl)) (fun _ h => h) rfl (by decide +kernel) rfl rfl (Nat.le_of_ble_eq_true rfl) dX6_init_13 (fun H locs hP hD hS => ?_)
  have hP : va_P g.1 clz [(h0, .inr (6, [.int 0, .int (-1), .ref q11, .int 0, .int 0, .int 0, .int 0, .int 0, .null, .int 0, .null, .null])), (q11, .inl (g.2.2.1 0, 0, .inl (fun _ => 0)))] H := hP
  have hD : va_D A [(h0, .inr (6, [.int 0, .int (-1), .ref q11, .int 0, .int 0, .int 0, .int 0, .int 0, .null, .int 0, .null, .null])), (q11, .inl (g.2.2.1 0, 0, .inl (fun _ => 0)))] := hD
  refine lv_aload_n C.1 C.2.1 dX6_init_16 rfl (lv_at hl 0 rfl) ?_
  refine lv_iconst (v := 4) C.1 C.2.1 dX6_init_17 (by decide) ?_
  refine kn_newa C 0 (a0 := (4, .inl (fun _ => 0))) rfl rfl (bg_of 167 (by decide +kernel) rfl) hP hD hS hA (fun _ => rfl) (by decide) (by decide) (by decide) (by decide) (by decide) dX6_init_18 (fun q18 H hP hD hS => ?_)
  have hP : va_P g.1 clz [(h0, .inr (6, [.int 0, .int (-1), .ref q11, .int 0, .int 0, .int 0, .int 0, .int 0, .null, .int 0, .null, .null])), (q11, .inl (g.2.2.1 0, 0, .inl (fun _ => 0))), (q18, .inl (g.2.2.1 0, 4, .inl (fun _ => 0)))] H := hP
  have hD : va_D A [(h0, .inr (6, [.int 0, .int (-1), .ref q11, .int 0, .int 0, .int 0, .int 0, .int 0, .null, .int 0, .null, .null])), (q11, .inl (g.2.2.1 0, 0, .inl (fun _ => 0))), (q18, .inl (g.2.2.1 0, 4, .inl (fun _ => 0)))] := hD
  refine va_putF (D := g.1) (A := A) (ci := 6) (v := .ref q18) (ty := (.array .int)) (C := RX6) (T := TX6) (N := 12) C.1 C.2.1 C.2.2.2.2.2.1 inb_X6 tyX6 tyX6_ok nmX6 C.2.2.2.2.1 C.2.2.2.2.2.2.2.1 hP hD hS 0 rfl rfl 11 (by decide) (C.2.2.2.2.2.1 _ (bg_of 141 (by decide +kernel) rfl)) (fun _ h => h) rfl hin rfl (by decide +kernel) rfl rfl (Nat.le_of_ble_eq_true rfl) dX6_init_20 (fun H locs hP hD hS => ?_)
  have hP : va_P g.1 clz [(h0, .inr (6, [.int 0, .int (-1), .ref q11, .int 0, .int 0, .int 0, .int 0, .int 0, .null, .int 0, .null, .ref q18])), (q11, .inl (g.2.2.1 0, 0, .inl (fun _ => 0))), (q18, .inl (g.2.2.1 0, 4, .inl (fun _ => 0)))] H := hP
  have hD : va_D A [(h0, .inr (6, [.int 0, .int (-1), .ref q11, .int 0, .int 0, .int 0, .int 0, .int 0, .null, .int 0, .null, .ref q18])), (q11, .inl (g.2.2.1 0, 0, .inl (fun _ => 0))), (q18, .inl (g.2.2.1 0, 4, .inl (fun _ => 0)))] := hD
  refine W.widen (k := 2) (n := 4) (by decide) (by decide) ?_
  exact W.vret C.1 C.2.1 C.2.2.2.1 (fun t ht hW => ⟨⟨(fun i => [q11, q18].getD i 0), rfl, trivial, by rw [ht]; exact hP, hD⟩, hS.F ht⟩) hS.2.2 dX6_init_23 C.2.2.2.2.2.2.1
