def wX8 (g : Geo) (h0 : Nat) (u : Nat → Nat) : va_W := [(h0, .inr (8, [.ref (u 0), .int 0, .ref (u 1)])), ((u 0), .inl (g.2.2.1 4, 4, .inr (.inr (.inr (.inr (va_up (va_up (va_up (va_up (fun _ => none) ((0 : Int32)).toNatClampNeg (some (u 2))) ((1 : Int32)).toNatClampNeg (some (u 3))) ((2 : Int32)).toNatClampNeg (some (u 4))) ((3 : Int32)).toNatClampNeg (some (u 5)))))))), ((u 1), .inl (g.2.2.1 0, 5, .inl (upd (upd (upd (upd (upd (fun _ => 0) ((0 : Int32)).toNatClampNeg (-1)) ((1 : Int32)).toNatClampNeg (-1)) ((2 : Int32)).toNatClampNeg (-1)) ((3 : Int32)).toNatClampNeg (-1)) ((4 : Int32)).toNatClampNeg (-1)))), ((u 2), .inr (1, zX1)), ((u 3), .inr (1, zX1)), ((u 4), .inr (1, zX1)), ((u 5), .inr (1, zX1))]
set_option maxHeartbeats 4000000 in
set_option maxRecDepth 100000 in
theorem c_X8_init (l : Launch) (g : Geo) (sz : Nat) (h0 : Nat) : Met l yX8_init (Cond.code yX8_init cX8_init 2 none :: bg) ({ frames := 2, cells := 6, slots := 49, locals := 32 } : Room) (va_Pc [.ref h0] (PS g sz [(h0, .inr (8, zX8))])) (va_Qv (fun _ : Nat → Nat => True) (fun u t => va_P g.1 clz (wX8 g h0 u) t.heap ∧ va_D (va_A [(h0, .inr (8, zX8))] sz) (wX8 g h0 u)) (va_A [(h0, .inr (8, zX8))] sz)) 6 49 (va_A [(h0, .inr (8, zX8))] sz) := by
  refine Met.ofW (cc := cX8_init) (maxL := 2) (ret := none) (by decide +kernel) rfl ?_
  intro p e s m args below meth c s₁ B hml hv
  obtain ⟨rfl, hv⟩ := hv
  have C := CK.start (own := RX8) B hml rfl hv
  obtain ⟨hsz, hP, hD0, -, -, -⟩ := hv
  have hin : meth.name = _ := (name_of_methodNamed B.named B.method).1
  subst hsz
  have hD := hD0.self (sz := s.heap.size)
  generalize hAe : va_A [(h0, .inr (8, zX8))] s.heap.size = A at hD ⊢
  have hA : ∀ q : Nat, s.heap.size ≤ q → A q := fun q h => by rw [← hAe]; exact Or.inr h
  have hS : va_S A s.heap s.heap [] := va_S.rf
  have hl := lv_entry ([.ref h0]) (n := 2) (Nat.le_of_ble_eq_true rfl)
  rw [lg_entry_eq]
  generalize (lg_sl ([.ref h0]) ++ List.replicate (2 - (lg_sl ([.ref h0])).length) Slot.unset).toArray = ls at hl ⊢
  have hl : lv_has ls 2 [(0, .ref h0)] := hl
  refine lv_aload_n C.1 C.2.1 dX8_init_0 rfl (lv_at hl 0 rfl) ?_
  refine W.objInit C.1 C.2.1 C.2.2.2.2.1 (C.2.2.2.2.2.1 _ (bg_of 430 (by decide +kernel) rfl)) (C.2.2.2.2.2.1 _ (bg_of 120 (by decide +kernel) rfl)) (C.2.2.2.2.2.1 _ (bg_of 121 (by decide +kernel) rfl)) rfl (by rw [C.2.2.1]; exact hl.1) rfl dX8_init_1 (Nat.le_of_ble_eq_true rfl) (Nat.le_of_ble_eq_true rfl) ?_
  refine W.eq (g2 := F0 m 4 ls []) rfl ?_
  refine lv_aload_n C.1 C.2.1 dX8_init_4 rfl (lv_at hl 0 rfl) ?_
  refine lv_iconst (v := 4) C.1 C.2.1 dX8_init_5 (by decide) ?_
  refine kn_newq C 4 rfl (bg_of 431 (by decide +kernel) rfl) C.2.2.2.2.2.2.2.2.2.2.1 hP hD hS hA (by decide) (N' := 4) (by decide) (by decide) (by decide) (by decide) dX8_init_6 (fun q6 H hP hD hS => ?_)
  have hP : va_P g.1 clz [(h0, .inr (8, zX8)), (q6, .inl (g.2.2.1 4, 4, .inr (.inr (.inr (.inr (fun _ => none))))))] H := hP
  have hD : va_D A [(h0, .inr (8, zX8)), (q6, .inl (g.2.2.1 4, 4, .inr (.inr (.inr (.inr (fun _ => none))))))] := hD
  refine va_putF (D := g.1) (A := A) (ci := 8) (v := .ref q6) (ty := (.array (.object "BirdCodes$Channel"))) (C := RX8) (T := TX8) (N := 3) C.1 C.2.1 C.2.2.2.2.2.1 inb_X8 tyX8 tyX8_ok nmX8 C.2.2.2.2.1 C.2.2.2.2.2.2.2.1 hP hD hS 0 rfl rfl 0 (by decide) (C.2.2.2.2.2.1 _ (bg_of 479 (by decide +kernel) rfl)) (fun _ h => h) rfl hin rfl (by decide +kernel) rfl rfl (Nat.le_of_ble_eq_true rfl) dX8_init_9 (fun H locs hP hD hS => ?_)
  have hP : va_P g.1 clz [(h0, .inr (8, [.ref q6, .int 0, .null])), (q6, .inl (g.2.2.1 4, 4, .inr (.inr (.inr (.inr (fun _ => none))))))] H := hP
  have hD : va_D A [(h0, .inr (8, [.ref q6, .int 0, .null])), (q6, .inl (g.2.2.1 4, 4, .inr (.inr (.inr (.inr (fun _ => none))))))] := hD
  refine lv_aload_n C.1 C.2.1 dX8_init_12 rfl (lv_at hl 0 rfl) ?_
  refine lv_iconst (v := 5) C.1 C.2.1 dX8_init_13 (by decide) ?_
  refine kn_newa C 0 (a0 := (5, .inl (fun _ => 0))) rfl rfl (bg_of 167 (by decide +kernel) rfl) hP hD hS hA (fun _ => rfl) (by decide) (by decide) (by decide) (by decide) (by decide) dX8_init_14 (fun q14 H hP hD hS => ?_)
  have hP : va_P g.1 clz [(h0, .inr (8, [.ref q6, .int 0, .null])), (q6, .inl (g.2.2.1 4, 4, .inr (.inr (.inr (.inr (fun _ => none)))))), (q14, .inl (g.2.2.1 0, 5, .inl (fun _ => 0)))] H := hP
  have hD : va_D A [(h0, .inr (8, [.ref q6, .int 0, .null])), (q6, .inl (g.2.2.1 4, 4, .inr (.inr (.inr (.inr (fun _ => none)))))), (q14, .inl (g.2.2.1 0, 5, .inl (fun _ => 0)))] := hD
  refine va_putF (D := g.1) (A := A) (ci := 8) (v := .ref q14) (ty := (.array .int)) (C := RX8) (T := TX8) (N := 3) C.1 C.2.1 C.2.2.2.2.2.1 inb_X8 tyX8 tyX8_ok nmX8 C.2.2.2.2.1 C.2.2.2.2.2.2.2.1 hP hD hS 0 rfl rfl 2 (by decide) (C.2.2.2.2.2.1 _ (bg_of 483 (by decide +kernel) rfl)) (fun _ h => h) rfl hin rfl (by decide +kernel) rfl rfl (Nat.le_of_ble_eq_true rfl) dX8_init_16 (fun H locs hP hD hS => ?_)
  have hP : va_P g.1 clz [(h0, .inr (8, [.ref q6, .int 0, .ref q14])), (q6, .inl (g.2.2.1 4, 4, .inr (.inr (.inr (.inr (fun _ => none)))))), (q14, .inl (g.2.2.1 0, 5, .inl (fun _ => 0)))] H := hP
  have hD : va_D A [(h0, .inr (8, [.ref q6, .int 0, .ref q14])), (q6, .inl (g.2.2.1 4, 4, .inr (.inr (.inr (.inr (fun _ => none)))))), (q14, .inl (g.2.2.1 0, 5, .inl (fun _ => 0)))] := hD
  refine lv_iconst (v := 0) C.1 C.2.1 dX8_init_19 (by decide) ?_
  refine lv_istore_n (lv' := [(1, .int 0), (0, .ref h0)]) C.1 C.2.1 dX8_init_20 rfl hl (by decide) rfl (fun ls hl => ?_)
  refine lv_iload_n C.1 C.2.1 dX8_init_21 rfl (lv_at hl 0 rfl) ?_
  refine lv_aload_n C.1 C.2.1 dX8_init_22 rfl (lv_at hl 1 rfl) ?_
  refine va_get (D := g.1) (ci := 8) (v := .ref q6) (C := RX8) (T := TX8) (N := 3) C.1 C.2.1 C.2.2.2.2.2.1 inb_X8 C.2.2.2.2.1 C.2.2.2.2.2.2.2.1 hP 0 rfl rfl 0 (by decide) (C.2.2.2.2.2.1 _ (bg_of 479 (by decide +kernel) rfl)) (fun _ h => h) rfl dX8_init_23 ?_
  refine va_alen (v := 4) C.1 C.2.1 C.2.2.2.2.2.2.2.1 hP 1 4 rfl rfl rfl dX8_init_26 ?_
  refine lv_icmp_ge (tgt := 49) C.1 C.2.1 dX8_init_27 (by decide) (fun z => absurd z (by decide)) (fun _ => ?_)
  refine lv_aload_n C.1 C.2.1 dX8_init_30 rfl (lv_at hl 1 rfl) ?_
  refine va_get (D := g.1) (ci := 8) (v := .ref q6) (C := RX8) (T := TX8) (N := 3) C.1 C.2.1 C.2.2.2.2.2.1 inb_X8 C.2.2.2.2.1 C.2.2.2.2.2.2.2.1 hP 0 rfl rfl 0 (by decide) (C.2.2.2.2.2.1 _ (bg_of 479 (by decide +kernel) rfl)) (fun _ h => h) rfl dX8_init_31 ?_
  refine lv_iload_n C.1 C.2.1 dX8_init_34 rfl (lv_at hl 0 rfl) ?_
  refine va_new (D := g.1) (ci := 1) (fs := zX1) (C := RX1) (T := TX1) (N := 10) C.1 C.2.1 C.2.2.2.2.2.1 inb_X1 tyX1 tyX1_ok C.2.2.2.2.1 (C.2.2.2.2.2.1 _ (bg_of 431 (by decide +kernel) rfl)) (C.2.2.2.2.2.1 _ (bg_of 433 (by decide +kernel) rfl)) (C.2.2.2.2.2.1 _ (bg_of 103 (by decide +kernel) rfl)) C.2.2.2.2.2.2.2.1 hP hD hS hA rfl zX1_ok (by decide) (by decide) dX8_init_35 (fun q35_2 H hP hD hS => ?_)
  have hP : va_P g.1 clz ([(h0, .inr (8, [.ref q6, .int 0, .ref q14])), (q6, .inl (g.2.2.1 4, 4, .inr (.inr (.inr (.inr (fun _ => none)))))), (q14, .inl (g.2.2.1 0, 5, .inl (fun _ => 0)))] ++ [(q35_2, .inr (1, zX1))]) H := hP
  have hD : va_D A ([(h0, .inr (8, [.ref q6, .int 0, .ref q14])), (q6, .inl (g.2.2.1 4, 4, .inr (.inr (.inr (.inr (fun _ => none)))))), (q14, .inl (g.2.2.1 0, 5, .inl (fun _ => 0)))] ++ [(q35_2, .inr (1, zX1))]) := hD
  refine lv_dup C.1 C.2.1 dX8_init_38 rfl ?_
  refine kgoVe (krunINe C lkX8_21 (c_X1_init l g _ q35_2) hP hD rfl rfl ⟨Nat.le_of_ble_eq_true rfl, Nat.le_of_ble_eq_true rfl⟩ hl.1 (Nat.le_of_ble_eq_true rfl) dX8_init_39 ⟨by decide, by decide⟩) hP hD hS hA (fun u39_2 H locs hP hD hS => ?_)
  have hP : va_P g.1 clz [(h0, .inr (8, [.ref q6, .int 0, .ref q14])), (q6, .inl (g.2.2.1 4, 4, .inr (.inr (.inr (.inr (fun _ => none)))))), (q14, .inl (g.2.2.1 0, 5, .inl (fun _ => 0))), (q35_2, .inr (1, zX1))] H := hP
  have hD : va_D A [(h0, .inr (8, [.ref q6, .int 0, .ref q14])), (q6, .inl (g.2.2.1 4, 4, .inr (.inr (.inr (.inr (fun _ => none)))))), (q14, .inl (g.2.2.1 0, 5, .inl (fun _ => 0))), (q35_2, .inr (1, zX1))] := hD
  refine va_astq C.1 C.2.1 C.2.2.2.2.2.2.2.1 hP hD hS 1 4 3 1 rfl rfl rfl rfl (vp_in_nI (n := 0) (N := 4) (by decide) (by decide)) dX8_init_42 (fun H locs hP hD hS => ?_)
  have hP : va_P g.1 clz [(h0, .inr (8, [.ref q6, .int 0, .ref q14])), (q6, .inl (g.2.2.1 4, 4, .inr (.inr (.inr (.inr (va_up (fun _ => none) ((0 : Int32)).toNatClampNeg (some q35_2))))))), (q14, .inl (g.2.2.1 0, 5, .inl (fun _ => 0))), (q35_2, .inr (1, zX1))] H := hP
  have hD : va_D A [(h0, .inr (8, [.ref q6, .int 0, .ref q14])), (q6, .inl (g.2.2.1 4, 4, .inr (.inr (.inr (.inr (va_up (fun _ => none) ((0 : Int32)).toNatClampNeg (some q35_2))))))), (q14, .inl (g.2.2.1 0, 5, .inl (fun _ => 0))), (q35_2, .inr (1, zX1))] := hD
  refine lv_iinc (v := 1) (lv' := [(1, .int 1), (0, .ref h0)]) C.1 C.2.1 dX8_init_43 hl (k := 0) rfl (by decide) (by decide) rfl (fun ls hl => ?_)
  refine lv_goto (tgt := 21) C.1 C.2.1 dX8_init_46 (by decide) ?_
  refine lv_iload_n C.1 C.2.1 dX8_init_21 rfl (lv_at hl 0 rfl) ?_
  refine lv_aload_n C.1 C.2.1 dX8_init_22 rfl (lv_at hl 1 rfl) ?_
  refine va_get (D := g.1) (ci := 8) (v := .ref q6) (C := RX8) (T := TX8) (N := 3) C.1 C.2.1 C.2.2.2.2.2.1 inb_X8 C.2.2.2.2.1 C.2.2.2.2.2.2.2.1 hP 0 rfl rfl 0 (by decide) (C.2.2.2.2.2.1 _ (bg_of 479 (by decide +kernel) rfl)) (fun _ h => h) rfl dX8_init_23 ?_
  refine va_alen (v := 4) C.1 C.2.1 C.2.2.2.2.2.2.2.1 hP 1 4 rfl rfl rfl dX8_init_26 ?_
  refine lv_icmp_ge (tgt := 49) C.1 C.2.1 dX8_init_27 (by decide) (fun z => absurd z (by decide)) (fun _ => ?_)
  refine lv_aload_n C.1 C.2.1 dX8_init_30 rfl (lv_at hl 1 rfl) ?_
  refine va_get (D := g.1) (ci := 8) (v := .ref q6) (C := RX8) (T := TX8) (N := 3) C.1 C.2.1 C.2.2.2.2.2.1 inb_X8 C.2.2.2.2.1 C.2.2.2.2.2.2.2.1 hP 0 rfl rfl 0 (by decide) (C.2.2.2.2.2.1 _ (bg_of 479 (by decide +kernel) rfl)) (fun _ h => h) rfl dX8_init_31 ?_
  refine lv_iload_n C.1 C.2.1 dX8_init_34 rfl (lv_at hl 0 rfl) ?_
  refine va_new (D := g.1) (ci := 1) (fs := zX1) (C := RX1) (T := TX1) (N := 10) C.1 C.2.1 C.2.2.2.2.2.1 inb_X1 tyX1 tyX1_ok C.2.2.2.2.1 (C.2.2.2.2.2.1 _ (bg_of 431 (by decide +kernel) rfl)) (C.2.2.2.2.2.1 _ (bg_of 433 (by decide +kernel) rfl)) (C.2.2.2.2.2.1 _ (bg_of 103 (by decide +kernel) rfl)) C.2.2.2.2.2.2.2.1 hP hD hS hA rfl zX1_ok (by decide) (by decide) dX8_init_35 (fun q35_3 H hP hD hS => ?_)
  have hP : va_P g.1 clz ([(h0, .inr (8, [.ref q6, .int 0, .ref q14])), (q6, .inl (g.2.2.1 4, 4, .inr (.inr (.inr (.inr (va_up (fun _ => none) ((0 : Int32)).toNatClampNeg (some q35_2))))))), (q14, .inl (g.2.2.1 0, 5, .inl (fun _ => 0))), (q35_2, .inr (1, zX1))] ++ [(q35_3, .inr (1, zX1))]) H := hP
  have hD : va_D A ([(h0, .inr (8, [.ref q6, .int 0, .ref q14])), (q6, .inl (g.2.2.1 4, 4, .inr (.inr (.inr (.inr (va_up (fun _ => none) ((0 : Int32)).toNatClampNeg (some q35_2))))))), (q14, .inl (g.2.2.1 0, 5, .inl (fun _ => 0))), (q35_2, .inr (1, zX1))] ++ [(q35_3, .inr (1, zX1))]) := hD
  refine lv_dup C.1 C.2.1 dX8_init_38 rfl ?_
  refine kgoVe (krunINe C lkX8_21 (c_X1_init l g _ q35_3) hP hD rfl rfl ⟨Nat.le_of_ble_eq_true rfl, Nat.le_of_ble_eq_true rfl⟩ hl.1 (Nat.le_of_ble_eq_true rfl) dX8_init_39 ⟨by decide, by decide⟩) hP hD hS hA (fun u39_3 H locs hP hD hS => ?_)
  have hP : va_P g.1 clz [(h0, .inr (8, [.ref q6, .int 0, .ref q14])), (q6, .inl (g.2.2.1 4, 4, .inr (.inr (.inr (.inr (va_up (fun _ => none) ((0 : Int32)).toNatClampNeg (some q35_2))))))), (q14, .inl (g.2.2.1 0, 5, .inl (fun _ => 0))), (q35_2, .inr (1, zX1)), (q35_3, .inr (1, zX1))] H := hP
  have hD : va_D A [(h0, .inr (8, [.ref q6, .int 0, .ref q14])), (q6, .inl (g.2.2.1 4, 4, .inr (.inr (.inr (.inr (va_up (fun _ => none) ((0 : Int32)).toNatClampNeg (some q35_2))))))), (q14, .inl (g.2.2.1 0, 5, .inl (fun _ => 0))), (q35_2, .inr (1, zX1)), (q35_3, .inr (1, zX1))] := hD
  refine va_astq C.1 C.2.1 C.2.2.2.2.2.2.2.1 hP hD hS 1 4 4 1 rfl rfl rfl rfl (vp_in_nI (n := 1) (N := 4) (by decide) (by decide)) dX8_init_42 (fun H locs hP hD hS => ?_)
  have hP : va_P g.1 clz [(h0, .inr (8, [.ref q6, .int 0, .ref q14])), (q6, .inl (g.2.2.1 4, 4, .inr (.inr (.inr (.inr (va_up (va_up (fun _ => none) ((0 : Int32)).toNatClampNeg (some q35_2)) ((1 : Int32)).toNatClampNeg (some q35_3))))))), (q14, .inl (g.2.2.1 0, 5, .inl (fun _ => 0))), (q35_2, .inr (1, zX1)), (q35_3, .inr (1, zX1))] H := hP
  have hD : va_D A [(h0, .inr (8, [.ref q6, .int 0, .ref q14])), (q6, .inl (g.2.2.1 4, 4, .inr (.inr (.inr (.inr (va_up (va_up (fun _ => none) ((0 : Int32)).toNatClampNeg (some q35_2)) ((1 : Int32)).toNatClampNeg (some q35_3))))))), (q14, .inl (g.2.2.1 0, 5, .inl (fun _ => 0))), (q35_2, .inr (1, zX1)), (q35_3, .inr (1, zX1))] := hD
  refine lv_iinc (v := 2) (lv' := [(1, .int 2), (0, .ref h0)]) C.1 C.2.1 dX8_init_43 hl (k := 0) rfl (by decide) (by decide) rfl (fun ls hl => ?_)
  refine lv_goto (tgt := 21) C.1 C.2.1 dX8_init_46 (by decide) ?_
  refine lv_iload_n C.1 C.2.1 dX8_init_21 rfl (lv_at hl 0 rfl) ?_
  refine lv_aload_n C.1 C.2.1 dX8_init_22 rfl (lv_at hl 1 rfl) ?_
  refine va_get (D := g.1) (ci := 8) (v := .ref q6) (C := RX8) (T := TX8) (N := 3) C.1 C.2.1 C.2.2.2.2.2.1 inb_X8 C.2.2.2.2.1 C.2.2.2.2.2.2.2.1 hP 0 rfl rfl 0 (by decide) (C.2.2.2.2.2.1 _ (bg_of 479 (by decide +kernel) rfl)) (fun _ h => h) rfl dX8_init_23 ?_
  refine va_alen (v := 4) C.1 C.2.1 C.2.2.2.2.2.2.2.1 hP 1 4 rfl rfl rfl dX8_init_26 ?_
  refine lv_icmp_ge (tgt := 49) C.1 C.2.1 dX8_init_27 (by decide) (fun z => absurd z (by decide)) (fun _ => ?_)
  refine lv_aload_n C.1 C.2.1 dX8_init_30 rfl (lv_at hl 1 rfl) ?_
  refine va_get (D := g.1) (ci := 8) (v := .ref q6) (C := RX8) (T := TX8) (N := 3) C.1 C.2.1 C.2.2.2.2.2.1 inb_X8 C.2.2.2.2.1 C.2.2.2.2.2.2.2.1 hP 0 rfl rfl 0 (by decide) (C.2.2.2.2.2.1 _ (bg_of 479 (by decide +kernel) rfl)) (fun _ h => h) rfl dX8_init_31 ?_
  refine lv_iload_n C.1 C.2.1 dX8_init_34 rfl (lv_at hl 0 rfl) ?_
  refine va_new (D := g.1) (ci := 1) (fs := zX1) (C := RX1) (T := TX1) (N := 10) C.1 C.2.1 C.2.2.2.2.2.1 inb_X1 tyX1 tyX1_ok C.2.2.2.2.1 (C.2.2.2.2.2.1 _ (bg_of 431 (by decide +kernel) rfl)) (C.2.2.2.2.2.1 _ (bg_of 433 (by decide +kernel) rfl)) (C.2.2.2.2.2.1 _ (bg_of 103 (by decide +kernel) rfl)) C.2.2.2.2.2.2.2.1 hP hD hS hA rfl zX1_ok (by decide) (by decide) dX8_init_35 (fun q35_4 H hP hD hS => ?_)
  have hP : va_P g.1 clz ([(h0, .inr (8, [.ref q6, .int 0, .ref q14])), (q6, .inl (g.2.2.1 4, 4, .inr (.inr (.inr (.inr (va_up (va_up (fun _ => none) ((0 : Int32)).toNatClampNeg (some q35_2)) ((1 : Int32)).toNatClampNeg (some q35_3))))))), (q14, .inl (g.2.2.1 0, 5, .inl (fun _ => 0))), (q35_2, .inr (1, zX1)), (q35_3, .inr (1, zX1))] ++ [(q35_4, .inr (1, zX1))]) H := hP
  have hD : va_D A ([(h0, .inr (8, [.ref q6, .int 0, .ref q14])), (q6, .inl (g.2.2.1 4, 4, .inr (.inr (.inr (.inr (va_up (va_up (fun _ => none) ((0 : Int32)).toNatClampNeg (some q35_2)) ((1 : Int32)).toNatClampNeg (some q35_3))))))), (q14, .inl (g.2.2.1 0, 5, .inl (fun _ => 0))), (q35_2, .inr (1, zX1)), (q35_3, .inr (1, zX1))] ++ [(q35_4, .inr (1, zX1))]) := hD
  refine lv_dup C.1 C.2.1 dX8_init_38 rfl ?_
  refine kgoVe (krunINe C lkX8_21 (c_X1_init l g _ q35_4) hP hD rfl rfl ⟨Nat.le_of_ble_eq_true rfl, Nat.le_of_ble_eq_true rfl⟩ hl.1 (Nat.le_of_ble_eq_true rfl) dX8_init_39 ⟨by decide, by decide⟩) hP hD hS hA (fun u39_4 H locs hP hD hS => ?_)
  have hP : va_P g.1 clz [(h0, .inr (8, [.ref q6, .int 0, .ref q14])), (q6, .inl (g.2.2.1 4, 4, .inr (.inr (.inr (.inr (va_up (va_up (fun _ => none) ((0 : Int32)).toNatClampNeg (some q35_2)) ((1 : Int32)).toNatClampNeg (some q35_3))))))), (q14, .inl (g.2.2.1 0, 5, .inl (fun _ => 0))), (q35_2, .inr (1, zX1)), (q35_3, .inr (1, zX1)), (q35_4, .inr (1, zX1))] H := hP
  have hD : va_D A [(h0, .inr (8, [.ref q6, .int 0, .ref q14])), (q6, .inl (g.2.2.1 4, 4, .inr (.inr (.inr (.inr (va_up (va_up (fun _ => none) ((0 : Int32)).toNatClampNeg (some q35_2)) ((1 : Int32)).toNatClampNeg (some q35_3))))))), (q14, .inl (g.2.2.1 0, 5, .inl (fun _ => 0))), (q35_2, .inr (1, zX1)), (q35_3, .inr (1, zX1)), (q35_4, .inr (1, zX1))] := hD
  refine va_astq C.1 C.2.1 C.2.2.2.2.2.2.2.1 hP hD hS 1 4 5 1 rfl rfl rfl rfl (vp_in_nI (n := 2) (N := 4) (by decide) (by decide)) dX8_init_42 (fun H locs hP hD hS => ?_)
  have hP : va_P g.1 clz [(h0, .inr (8, [.ref q6, .int 0, .ref q14])), (q6, .inl (g.2.2.1 4, 4, .inr (.inr (.inr (.inr (va_up (va_up (va_up (fun _ => none) ((0 : Int32)).toNatClampNeg (some q35_2)) ((1 : Int32)).toNatClampNeg (some q35_3)) ((2 : Int32)).toNatClampNeg (some q35_4))))))), (q14, .inl (g.2.2.1 0, 5, .inl (fun _ => 0))), (q35_2, .inr (1, zX1)), (q35_3, .inr (1, zX1)), (q35_4, .inr (1, zX1))] H := hP
  have hD : va_D A [(h0, .inr (8, [.ref q6, .int 0, .ref q14])), (q6, .inl (g.2.2.1 4, 4, .inr (.inr (.inr (.inr (va_up (va_up (va_up (fun _ => none) ((0 : Int32)).toNatClampNeg (some q35_2)) ((1 : Int32)).toNatClampNeg (some q35_3)) ((2 : Int32)).toNatClampNeg (some q35_4))))))), (q14, .inl (g.2.2.1 0, 5, .inl (fun _ => 0))), (q35_2, .inr (1, zX1)), (q35_3, .inr (1, zX1)), (q35_4, .inr (1, zX1))] := hD
  refine lv_iinc (v := 3) (lv' := [(1, .int 3), (0, .ref h0)]) C.1 C.2.1 dX8_init_43 hl (k := 0) rfl (by decide) (by decide) rfl (fun ls hl => ?_)
  refine lv_goto (tgt := 21) C.1 C.2.1 dX8_init_46 (by decide) ?_
  refine lv_iload_n C.1 C.2.1 dX8_init_21 rfl (lv_at hl 0 rfl) ?_
  refine lv_aload_n C.1 C.2.1 dX8_init_22 rfl (lv_at hl 1 rfl) ?_
  refine va_get (D := g.1) (ci := 8) (v := .ref q6) (C := RX8) (T := TX8) (N := 3) C.1 C.2.1 C.2.2.2.2.2.1 inb_X8 C.2.2.2.2.1 C.2.2.2.2.2.2.2.1 hP 0 rfl rfl 0 (by decide) (C.2.2.2.2.2.1 _ (bg_of 479 (by decide +kernel) rfl)) (fun _ h => h) rfl dX8_init_23 ?_
  refine va_alen (v := 4) C.1 C.2.1 C.2.2.2.2.2.2.2.1 hP 1 4 rfl rfl rfl dX8_init_26 ?_
  refine lv_icmp_ge (tgt := 49) C.1 C.2.1 dX8_init_27 (by decide) (fun z => absurd z (by decide)) (fun _ => ?_)
  refine lv_aload_n C.1 C.2.1 dX8_init_30 rfl (lv_at hl 1 rfl) ?_
  refine va_get (D := g.1) (ci := 8) (v := .ref q6) (C := RX8) (T := TX8) (N := 3) C.1 C.2.1 C.2.2.2.2.2.1 inb_X8 C.2.2.2.2.1 C.2.2.2.2.2.2.2.1 hP 0 rfl rfl 0 (by decide) (C.2.2.2.2.2.1 _ (bg_of 479 (by decide +kernel) rfl)) (fun _ h => h) rfl dX8_init_31 ?_
  refine lv_iload_n C.1 C.2.1 dX8_init_34 rfl (lv_at hl 0 rfl) ?_
  refine va_new (D := g.1) (ci := 1) (fs := zX1) (C := RX1) (T := TX1) (N := 10) C.1 C.2.1 C.2.2.2.2.2.1 inb_X1 tyX1 tyX1_ok C.2.2.2.2.1 (C.2.2.2.2.2.1 _ (bg_of 431 (by decide +kernel) rfl)) (C.2.2.2.2.2.1 _ (bg_of 433 (by decide +kernel) rfl)) (C.2.2.2.2.2.1 _ (bg_of 103 (by decide +kernel) rfl)) C.2.2.2.2.2.2.2.1 hP hD hS hA rfl zX1_ok (by decide) (by decide) dX8_init_35 (fun q35_5 H hP hD hS => ?_)
  have hP : va_P g.1 clz ([(h0, .inr (8, [.ref q6, .int 0, .ref q14])), (q6, .inl (g.2.2.1 4, 4, .inr (.inr (.inr (.inr (va_up (va_up (va_up (fun _ => none) ((0 : Int32)).toNatClampNeg (some q35_2)) ((1 : Int32)).toNatClampNeg (some q35_3)) ((2 : Int32)).toNatClampNeg (some q35_4))))))), (q14, .inl (g.2.2.1 0, 5, .inl (fun _ => 0))), (q35_2, .inr (1, zX1)), (q35_3, .inr (1, zX1)), (q35_4, .inr (1, zX1))] ++ [(q35_5, .inr (1, zX1))]) H := hP
  have hD : va_D A ([(h0, .inr (8, [.ref q6, .int 0, .ref q14])), (q6, .inl (g.2.2.1 4, 4, .inr (.inr (.inr (.inr (va_up (va_up (va_up (fun _ => none) ((0 : Int32)).toNatClampNeg (some q35_2)) ((1 : Int32)).toNatClampNeg (some q35_3)) ((2 : Int32)).toNatClampNeg (some q35_4))))))), (q14, .inl (g.2.2.1 0, 5, .inl (fun _ => 0))), (q35_2, .inr (1, zX1)), (q35_3, .inr (1, zX1)), (q35_4, .inr (1, zX1))] ++ [(q35_5, .inr (1, zX1))]) := hD
  refine lv_dup C.1 C.2.1 dX8_init_38 rfl ?_
  refine kgoVe (krunINe C lkX8_21 (c_X1_init l g _ q35_5) hP hD rfl rfl ⟨Nat.le_of_ble_eq_true rfl, Nat.le_of_ble_eq_true rfl⟩ hl.1 (Nat.le_of_ble_eq_true rfl) dX8_init_39 ⟨by decide, by decide⟩) hP hD hS hA (fun u39_5 H locs hP hD hS => ?_)
  have hP : va_P g.1 clz [(h0, .inr (8, [.ref q6, .int 0, .ref q14])), (q6, .inl (g.2.2.1 4, 4, .inr (.inr (.inr (.inr (va_up (va_up (va_up (fun _ => none) ((0 : Int32)).toNatClampNeg (some q35_2)) ((1 : Int32)).toNatClampNeg (some q35_3)) ((2 : Int32)).toNatClampNeg (some q35_4))))))), (q14, .inl (g.2.2.1 0, 5, .inl (fun _ => 0))), (q35_2, .inr (1, zX1)), (q35_3, .inr (1, zX1)), (q35_4, .inr (1, zX1)), (q35_5, .inr (1, zX1))] H := hP
  have hD : va_D A [(h0, .inr (8, [.ref q6, .int 0, .ref q14])), (q6, .inl (g.2.2.1 4, 4, .inr (.inr (.inr (.inr (va_up (va_up (va_up (fun _ => none) ((0 : Int32)).toNatClampNeg (some q35_2)) ((1 : Int32)).toNatClampNeg (some q35_3)) ((2 : Int32)).toNatClampNeg (some q35_4))))))), (q14, .inl (g.2.2.1 0, 5, .inl (fun _ => 0))), (q35_2, .inr (1, zX1)), (q35_3, .inr (1, zX1)), (q35_4, .inr (1, zX1)), (q35_5, .inr (1, zX1))] := hD
  refine va_astq C.1 C.2.1 C.2.2.2.2.2.2.2.1 hP hD hS 1 4 6 1 rfl rfl rfl rfl (vp_in_nI (n := 3) (N := 4) (by decide) (by decide)) dX8_init_42 (fun H locs hP hD hS => ?_)
  have hP : va_P g.1 clz [(h0, .inr (8, [.ref q6, .int 0, .ref q14])), (q6, .inl (g.2.2.1 4, 4, .inr (.inr (.inr (.inr (va_up (va_up (va_up (va_up (fun _ => none) ((0 : Int32)).toNatClampNeg (some q35_2)) ((1 : Int32)).toNatClampNeg (some q35_3)) ((2 : Int32)).toNatClampNeg (some q35_4)) ((3 : Int32)).toNatClampNeg (some q35_5))))))), (q14, .inl (g.2.2.1 0, 5, .inl (fun _ => 0))), (q35_2, .inr (1, zX1)), (q35_3, .inr (1, zX1)), (q35_4, .inr (1, zX1)), (q35_5, .inr (1, zX1))] H := hP
  have hD : va_D A [(h0, .inr (8, [.ref q6, .int 0, .ref q14])), (q6, .inl (g.2.2.1 4, 4, .inr (.inr (.inr (.inr (va_up (va_up (va_up (va_up (fun _ => none) ((0 : Int32)).toNatClampNeg (some q35_2)) ((1 : Int32)).toNatClampNeg (some q35_3)) ((2 : Int32)).toNatClampNeg (some q35_4)) ((3 : Int32)).toNatClampNeg (some q35_5))))))), (q14, .inl (g.2.2.1 0, 5, .inl (fun _ => 0))), (q35_2, .inr (1, zX1)), (q35_3, .inr (1, zX1)), (q35_4, .inr (1, zX1)), (q35_5, .inr (1, zX1))] := hD
  refine lv_iinc (v := 4) (lv' := [(1, .int 4), (0, .ref h0)]) C.1 C.2.1 dX8_init_43 hl (k := 0) rfl (by decide) (by decide) rfl (fun ls hl => ?_)
  refine lv_goto (tgt := 21) C.1 C.2.1 dX8_init_46 (by decide) ?_
  refine lv_iload_n C.1 C.2.1 dX8_init_21 rfl (lv_at hl 0 rfl) ?_
  refine lv_aload_n C.1 C.2.1 dX8_init_22 rfl (lv_at hl 1 rfl) ?_
  refine va_get (D := g.1) (ci := 8) (v := .ref q6) (C := RX8) (T := TX8) (N := 3) C.1 C.2.1 C.2.2.2.2.2.1 inb_X8 C.2.2.2.2.1 C.2.2.2.2.2.2.2.1 hP 0 rfl rfl 0 (by decide) (C.2.2.2.2.2.1 _ (bg_of 479 (by decide +kernel) rfl)) (fun _ h => h) rfl dX8_init_23 ?_
  refine va_alen (v := 4) C.1 C.2.1 C.2.2.2.2.2.2.2.1 hP 1 4 rfl rfl rfl dX8_init_26 ?_
  refine lv_icmp_ge (tgt := 49) C.1 C.2.1 dX8_init_27 (by decide) (fun _ => ?_) (fun z => absurd (by decide) z)
  refine lv_aload_n C.1 C.2.1 dX8_init_49 rfl (lv_at hl 1 rfl) ?_
  have hP : va_P g.1 clz ([] ++ [(h0, .inr (8, [.ref q6, .int 0, .ref q14])), (q6, .inl (g.2.2.1 4, 4, .inr (.inr (.inr (.inr (va_up (va_up (va_up (va_up (fun _ => none) ((0 : Int32)).toNatClampNeg (some q35_2)) ((1 : Int32)).toNatClampNeg (some q35_3)) ((2 : Int32)).toNatClampNeg (some q35_4)) ((3 : Int32)).toNatClampNeg (some q35_5))))))), (q14, .inl (g.2.2.1 0, 5, .inl (fun _ => 0)))] ++ [(q35_2, .inr (1, zX1)), (q35_3, .inr (1, zX1)), (q35_4, .inr (1, zX1)), (q35_5, .inr (1, zX1))]) H := hP
  have hD : va_D A ([] ++ [(h0, .inr (8, [.ref q6, .int 0, .ref q14])), (q6, .inl (g.2.2.1 4, 4, .inr (.inr (.inr (.inr (va_up (va_up (va_up (va_up (fun _ => none) ((0 : Int32)).toNatClampNeg (some q35_2)) ((1 : Int32)).toNatClampNeg (some q35_3)) ((2 : Int32)).toNatClampNeg (some q35_4)) ((3 : Int32)).toNatClampNeg (some q35_5))))))), (q14, .inl (g.2.2.1 0, 5, .inl (fun _ => 0)))] ++ [(q35_2, .inr (1, zX1)), (q35_3, .inr (1, zX1)), (q35_4, .inr (1, zX1)), (q35_5, .inr (1, zX1))]) := hD
  refine kgoV (krunV (As := []) (rest := []) C lkX8_22 (cz_X8_empty l g _ h0 q6 q14 (va_up (va_up (va_up (va_up (fun _ => none) ((0 : Int32)).toNatClampNeg (some q35_2)) ((1 : Int32)).toNatClampNeg (some q35_3)) ((2 : Int32)).toNatClampNeg (some q35_4)) ((3 : Int32)).toNatClampNeg (some q35_5))) hP hD rfl rfl ⟨Nat.le_of_ble_eq_true rfl, Nat.le_of_ble_eq_true rfl⟩ (k := 0) rfl rfl rfl hl.1 rfl (Nat.le_of_ble_eq_true rfl) dX8_init_50 ⟨by decide, by decide⟩) hP hD hS hA (fun _ H locs hP hD hS => ?_)
  have hP : va_P g.1 clz [(h0, .inr (8, [.ref q6, .int 0, .ref q14])), (q6, .inl (g.2.2.1 4, 4, .inr (.inr (.inr (.inr (va_up (va_up (va_up (va_up (fun _ => none) ((0 : Int32)).toNatClampNeg (some q35_2)) ((1 : Int32)).toNatClampNeg (some q35_3)) ((2 : Int32)).toNatClampNeg (some q35_4)) ((3 : Int32)).toNatClampNeg (some q35_5))))))), (q14, .inl (g.2.2.1 0, 5, .inl (upd (upd (upd (upd (upd (fun _ => 0) ((0 : Int32)).toNatClampNeg (-1)) ((1 : Int32)).toNatClampNeg (-1)) ((2 : Int32)).toNatClampNeg (-1)) ((3 : Int32)).toNatClampNeg (-1)) ((4 : Int32)).toNatClampNeg (-1)))), (q35_2, .inr (1, zX1)), (q35_3, .inr (1, zX1)), (q35_4, .inr (1, zX1)), (q35_5, .inr (1, zX1))] H := hP
  have hD : va_D A [(h0, .inr (8, [.ref q6, .int 0, .ref q14])), (q6, .inl (g.2.2.1 4, 4, .inr (.inr (.inr (.inr (va_up (va_up (va_up (va_up (fun _ => none) ((0 : Int32)).toNatClampNeg (some q35_2)) ((1 : Int32)).toNatClampNeg (some q35_3)) ((2 : Int32)).toNatClampNeg (some q35_4)) ((3 : Int32)).toNatClampNeg (some q35_5))))))), (q14, .inl (g.2.2.1 0, 5, .inl (upd (upd (upd (upd (upd (fun _ => 0) ((0 : Int32)).toNatClampNeg (-1)) ((1 : Int32)).toNatClampNeg (-1)) ((2 : Int32)).toNatClampNeg (-1)) ((3 : Int32)).toNatClampNeg (-1)) ((4 : Int32)).toNatClampNeg (-1)))), (q35_2, .inr (1, zX1)), (q35_3, .inr (1, zX1)), (q35_4, .inr (1, zX1)), (q35_5, .inr (1, zX1))] := hD
  refine W.widen (k := 6) (n := 49) (by decide) (by decide) ?_
  exact W.vret C.1 C.2.1 C.2.2.2.1 (fun t ht hW => ⟨⟨(fun i => [q6, q14, q35_2, q35_3, q35_4, q35_5].getD i 0), rfl, trivial, by rw [ht]; exact hP, hD⟩, hS.F ht⟩) hS.2.2 dX8_init_53 C.2.2.2.2.2.2.1
