set_option maxHeartbeats 4000000 in
set_option maxRecDepth 100000 in
theorem cz_X8_empty (l : Launch) (g : Geo) (sz : Nat) (h0 q1 q2 : Nat) (f : Nat → Option Nat) : Met l yX8_empty (Cond.code yX8_empty cX8_empty 2 none :: bg) ({ frames := 0, cells := 0, slots := 0, locals := 0 } : Room) (va_Pc [.ref h0] (PS g sz [(h0, .inr (8, [.ref q1, .int 0, .ref q2])), (q1, .inl (g.2.2.1 4, 4, .inr (.inr (.inr (.inr f))))), (q2, .inl (g.2.2.1 0, 5, .inl (fun _ => 0)))])) (va_Qv (fun _ : Unit => True) (fun _ t => va_P g.1 clz [(h0, .inr (8, [.ref q1, .int 0, .ref q2])), (q1, .inl (g.2.2.1 4, 4, .inr (.inr (.inr (.inr f))))), (q2, .inl (g.2.2.1 0, 5, .inl (upd (upd (upd (upd (upd (fun _ => 0) ((0 : Int32)).toNatClampNeg (-1)) ((1 : Int32)).toNatClampNeg (-1)) ((2 : Int32)).toNatClampNeg (-1)) ((3 : Int32)).toNatClampNeg (-1)) ((4 : Int32)).toNatClampNeg (-1))))] t.heap ∧ va_D (va_A [(h0, .inr (8, [.ref q1, .int 0, .ref q2])), (q1, .inl (g.2.2.1 4, 4, .inr (.inr (.inr (.inr f))))), (q2, .inl (g.2.2.1 0, 5, .inl (fun _ => 0)))] sz) [(h0, .inr (8, [.ref q1, .int 0, .ref q2])), (q1, .inl (g.2.2.1 4, 4, .inr (.inr (.inr (.inr f))))), (q2, .inl (g.2.2.1 0, 5, .inl (upd (upd (upd (upd (upd (fun _ => 0) ((0 : Int32)).toNatClampNeg (-1)) ((1 : Int32)).toNatClampNeg (-1)) ((2 : Int32)).toNatClampNeg (-1)) ((3 : Int32)).toNatClampNeg (-1)) ((4 : Int32)).toNatClampNeg (-1))))]) (va_A [(h0, .inr (8, [.ref q1, .int 0, .ref q2])), (q1, .inl (g.2.2.1 4, 4, .inr (.inr (.inr (.inr f))))), (q2, .inl (g.2.2.1 0, 5, .inl (fun _ => 0)))] sz)) 0 0 (va_A [(h0, .inr (8, [.ref q1, .int 0, .ref q2])), (q1, .inl (g.2.2.1 4, 4, .inr (.inr (.inr (.inr f))))), (q2, .inl (g.2.2.1 0, 5, .inl (fun _ => 0)))] sz) := by
  refine Met.ofW (cc := cX8_empty) (maxL := 2) (ret := none) (by decide +kernel) rfl ?_
  intro p e s m args below meth c s₁ B hml hv
  obtain ⟨rfl, hv⟩ := hv
  have C := CK.start (own := RX8) B hml rfl hv
  obtain ⟨hsz, hP, hD0, -, -, -⟩ := hv
  have hin : meth.name = _ := (name_of_methodNamed B.named B.method).1
  subst hsz
  have hD := hD0.self (sz := s.heap.size)
  generalize hAe : va_A [(h0, .inr (8, [.ref q1, .int 0, .ref q2])), (q1, .inl (g.2.2.1 4, 4, .inr (.inr (.inr (.inr f))))), (q2, .inl (g.2.2.1 0, 5, .inl (fun _ => 0)))] s.heap.size = A at hD ⊢
  have hA : ∀ q : Nat, s.heap.size ≤ q → A q := fun q h => by rw [← hAe]; exact Or.inr h
  have hS : va_S A s.heap s.heap [] := va_S.rf
  have hl := lv_entry ([.ref h0]) (n := 2) (Nat.le_of_ble_eq_true rfl)
  rw [lg_entry_eq]
  generalize (lg_sl ([.ref h0]) ++ List.replicate (2 - (lg_sl ([.ref h0])).length) Slot.unset).toArray = ls at hl ⊢
  have hl : lv_has ls 2 [(0, .ref h0)] := hl
  refine lv_aload_n C.1 C.2.1 dX8_empty_0 rfl (lv_at hl 0 rfl) ?_
  refine lv_iconst (v := 0) C.1 C.2.1 dX8_empty_1 (by decide) ?_
  refine va_put (D := g.1) (A := A) (ci := 8) (v := .int 0) (ty := .int) (C := RX8) (T := TX8) (N := 3) C.1 C.2.1 C.2.2.2.2.2.1 inb_X8 tyX8 tyX8_ok nmX8 C.2.2.2.2.1 C.2.2.2.2.2.2.2.1 hP hD hS 0 rfl rfl 1 (by decide) (C.2.2.2.2.2.1 _ (bg_of 481 (by decide +kernel) rfl)) (fun _ h => h) rfl (by decide +kernel) rfl rfl (Nat.le_of_ble_eq_true rfl) dX8_empty_2 (fun H locs hP hD hS => ?_)
  have hP : va_P g.1 clz [(h0, .inr (8, [.ref q1, .int 0, .ref q2])), (q1, .inl (g.2.2.1 4, 4, .inr (.inr (.inr (.inr f))))), (q2, .inl (g.2.2.1 0, 5, .inl (fun _ => 0)))] H := hP
  have hD : va_D A [(h0, .inr (8, [.ref q1, .int 0, .ref q2])), (q1, .inl (g.2.2.1 4, 4, .inr (.inr (.inr (.inr f))))), (q2, .inl (g.2.2.1 0, 5, .inl (fun _ => 0)))] := hD
  refine lv_iconst (v := 0) C.1 C.2.1 dX8_empty_5 (by decide) ?_
  refine lv_istore_n (lv' := [(1, .int 0), (0, .ref h0)]) C.1 C.2.1 dX8_empty_6 rfl hl (by decide) rfl (fun ls hl => ?_)
  refine lv_iload_n C.1 C.2.1 dX8_empty_7 rfl (lv_at hl 0 rfl) ?_
  refine lv_aload_n C.1 C.2.1 dX8_empty_8 rfl (lv_at hl 1 rfl) ?_
  refine va_get (D := g.1) (ci := 8) (v := .ref q2) (C := RX8) (T := TX8) (N := 3) C.1 C.2.1 C.2.2.2.2.2.1 inb_X8 C.2.2.2.2.1 C.2.2.2.2.2.2.2.1 hP 0 rfl rfl 2 (by decide) (C.2.2.2.2.2.1 _ (bg_of 483 (by decide +kernel) rfl)) (fun _ h => h) rfl dX8_empty_9 ?_
  refine va_alen (v := 5) C.1 C.2.1 C.2.2.2.2.2.2.2.1 hP 2 0 rfl rfl rfl dX8_empty_12 ?_
  refine lv_icmp_ge (tgt := 29) C.1 C.2.1 dX8_empty_13 (by decide) (fun z => absurd z (by decide)) (fun _ => ?_)
  refine lv_aload_n C.1 C.2.1 dX8_empty_16 rfl (lv_at hl 1 rfl) ?_
  refine va_get (D := g.1) (ci := 8) (v := .ref q2) (C := RX8) (T := TX8) (N := 3) C.1 C.2.1 C.2.2.2.2.2.1 inb_X8 C.2.2.2.2.1 C.2.2.2.2.2.2.2.1 hP 0 rfl rfl 2 (by decide) (C.2.2.2.2.2.1 _ (bg_of 483 (by decide +kernel) rfl)) (fun _ h => h) rfl dX8_empty_17 ?_
  refine lv_iload_n C.1 C.2.1 dX8_empty_20 rfl (lv_at hl 0 rfl) ?_
  refine lv_iconst (v := (-1)) C.1 C.2.1 dX8_empty_21 (by decide) ?_
  refine va_iast C.1 C.2.1 C.2.2.2.2.2.2.2.1 hP hD hS 2 0 rfl rfl (vp_in_nI (n := 0) (N := 5) (by decide) (by decide)) dX8_empty_22 (fun H locs hP hD hS => ?_)
  have hP : va_P g.1 clz [(h0, .inr (8, [.ref q1, .int 0, .ref q2])), (q1, .inl (g.2.2.1 4, 4, .inr (.inr (.inr (.inr f))))), (q2, .inl (g.2.2.1 0, 5, .inl (upd (fun _ => 0) ((0 : Int32)).toNatClampNeg (-1))))] H := hP
  have hD : va_D A [(h0, .inr (8, [.ref q1, .int 0, .ref q2])), (q1, .inl (g.2.2.1 4, 4, .inr (.inr (.inr (.inr f))))), (q2, .inl (g.2.2.1 0, 5, .inl (upd (fun _ => 0) ((0 : Int32)).toNatClampNeg (-1))))] := hD
  refine lv_iinc (v := 1) (lv' := [(1, .int 1), (0, .ref h0)]) C.1 C.2.1 dX8_empty_23 hl (k := 0) rfl (by decide) (by decide) rfl (fun ls hl => ?_)
  refine lv_goto (tgt := 7) C.1 C.2.1 dX8_empty_26 (by decide) ?_
  refine lv_iload_n C.1 C.2.1 dX8_empty_7 rfl (lv_at hl 0 rfl) ?_
  refine lv_aload_n C.1 C.2.1 dX8_empty_8 rfl (lv_at hl 1 rfl) ?_
  refine va_get (D := g.1) (ci := 8) (v := .ref q2) (C := RX8) (T := TX8) (N := 3) C.1 C.2.1 C.2.2.2.2.2.1 inb_X8 C.2.2.2.2.1 C.2.2.2.2.2.2.2.1 hP 0 rfl rfl 2 (by decide) (C.2.2.2.2.2.1 _ (bg_of 483 (by decide +kernel) rfl)) (fun _ h => h) rfl dX8_empty_9 ?_
  refine va_alen (v := 5) C.1 C.2.1 C.2.2.2.2.2.2.2.1 hP 2 0 rfl rfl rfl dX8_empty_12 ?_
  refine lv_icmp_ge (tgt := 29) C.1 C.2.1 dX8_empty_13 (by decide) (fun z => absurd z (by decide)) (fun _ => ?_)
  refine lv_aload_n C.1 C.2.1 dX8_empty_16 rfl (lv_at hl 1 rfl) ?_
  refine va_get (D := g.1) (ci := 8) (v := .ref q2) (C := RX8) (T := TX8) (N := 3) C.1 C.2.1 C.2.2.2.2.2.1 inb_X8 C.2.2.2.2.1 C.2.2.2.2.2.2.2.1 hP 0 rfl rfl 2 (by decide) (C.2.2.2.2.2.1 _ (bg_of 483 (by decide +kernel) rfl)) (fun _ h => h) rfl dX8_empty_17 ?_
  refine lv_iload_n C.1 C.2.1 dX8_empty_20 rfl (lv_at hl 0 rfl) ?_
  refine lv_iconst (v := (-1)) C.1 C.2.1 dX8_empty_21 (by decide) ?_
  refine va_iast C.1 C.2.1 C.2.2.2.2.2.2.2.1 hP hD hS 2 0 rfl rfl (vp_in_nI (n := 1) (N := 5) (by decide) (by decide)) dX8_empty_22 (fun H locs hP hD hS => ?_)
  have hP : va_P g.1 clz [(h0, .inr (8, [.ref q1, .int 0, .ref q2])), (q1, .inl (g.2.2.1 4, 4, .inr (.inr (.inr (.inr f))))), (q2, .inl (g.2.2.1 0, 5, .inl (upd (upd (fun _ => 0) ((0 : Int32)).toNatClampNeg (-1)) ((1 : Int32)).toNatClampNeg (-1))))] H := hP
  have hD : va_D A [(h0, .inr (8, [.ref q1, .int 0, .ref q2])), (q1, .inl (g.2.2.1 4, 4, .inr (.inr (.inr (.inr f))))), (q2, .inl (g.2.2.1 0, 5, .inl (upd (upd (fun _ => 0) ((0 : Int32)).toNatClampNeg (-1)) ((1 : Int32)).toNatClampNeg (-1))))] := hD
  refine lv_iinc (v := 2) (lv' := [(1, .int 2), (0, .ref h0)]) C.1 C.2.1 dX8_empty_23 hl (k := 0) rfl (by decide) (by decide) rfl (fun ls hl => ?_)
  refine lv_goto (tgt := 7) C.1 C.2.1 dX8_empty_26 (by decide) ?_
  refine lv_iload_n C.1 C.2.1 dX8_empty_7 rfl (lv_at hl 0 rfl) ?_
  refine lv_aload_n C.1 C.2.1 dX8_empty_8 rfl (lv_at hl 1 rfl) ?_
  refine va_get (D := g.1) (ci := 8) (v := .ref q2) (C := RX8) (T := TX8) (N := 3) C.1 C.2.1 C.2.2.2.2.2.1 inb_X8 C.2.2.2.2.1 C.2.2.2.2.2.2.2.1 hP 0 rfl rfl 2 (by decide) (C.2.2.2.2.2.1 _ (bg_of 483 (by decide +kernel) rfl)) (fun _ h => h) rfl dX8_empty_9 ?_
  refine va_alen (v := 5) C.1 C.2.1 C.2.2.2.2.2.2.2.1 hP 2 0 rfl rfl rfl dX8_empty_12 ?_
  refine lv_icmp_ge (tgt := 29) C.1 C.2.1 dX8_empty_13 (by decide) (fun z => absurd z (by decide)) (fun _ => ?_)
  refine lv_aload_n C.1 C.2.1 dX8_empty_16 rfl (lv_at hl 1 rfl) ?_
  refine va_get (D := g.1) (ci := 8) (v := .ref q2) (C := RX8) (T := TX8) (N := 3) C.1 C.2.1 C.2.2.2.2.2.1 inb_X8 C.2.2.2.2.1 C.2.2.2.2.2.2.2.1 hP 0 rfl rfl 2 (by decide) (C.2.2.2.2.2.1 _ (bg_of 483 (by decide +kernel) rfl)) (fun _ h => h) rfl dX8_empty_17 ?_
  refine lv_iload_n C.1 C.2.1 dX8_empty_20 rfl (lv_at hl 0 rfl) ?_
  refine lv_iconst (v := (-1)) C.1 C.2.1 dX8_empty_21 (by decide) ?_
  refine va_iast C.1 C.2.1 C.2.2.2.2.2.2.2.1 hP hD hS 2 0 rfl rfl (vp_in_nI (n := 2) (N := 5) (by decide) (by decide)) dX8_empty_22 (fun H locs hP hD hS => ?_)
  have hP : va_P g.1 clz [(h0, .inr (8, [.ref q1, .int 0, .ref q2])), (q1, .inl (g.2.2.1 4, 4, .inr (.inr (.inr (.inr f))))), (q2, .inl (g.2.2.1 0, 5, .inl (upd (upd (upd (fun _ => 0) ((0 : Int32)).toNatClampNeg (-1)) ((1 : Int32)).toNatClampNeg (-1)) ((2 : Int32)).toNatClampNeg (-1))))] H := hP
  have hD : va_D A [(h0, .inr (8, [.ref q1, .int 0, .ref q2])), (q1, .inl (g.2.2.1 4, 4, .inr (.inr (.inr (.inr f))))), (q2, .inl (g.2.2.1 0, 5, .inl (upd (upd (upd (fun _ => 0) ((0 : Int32)).toNatClampNeg (-1)) ((1 : Int32)).toNatClampNeg (-1)) ((2 : Int32)).toNatClampNeg (-1))))] := hD
  refine lv_iinc (v := 3) (lv' := [(1, .int 3), (0, .ref h0)]) C.1 C.2.1 dX8_empty_23 hl (k := 0) rfl (by decide) (by decide) rfl (fun ls hl => ?_)
  refine lv_goto (tgt := 7) C.1 C.2.1 dX8_empty_26 (by decide) ?_
  refine lv_iload_n C.1 C.2.1 dX8_empty_7 rfl (lv_at hl 0 rfl) ?_
  refine lv_aload_n C.1 C.2.1 dX8_empty_8 rfl (lv_at hl 1 rfl) ?_
  refine va_get (D := g.1) (ci := 8) (v := .ref q2) (C := RX8) (T := TX8) (N := 3) C.1 C.2.1 C.2.2.2.2.2.1 inb_X8 C.2.2.2.2.1 C.2.2.2.2.2.2.2.1 hP 0 rfl rfl 2 (by decide) (C.2.2.2.2.2.1 _ (bg_of 483 (by decide +kernel) rfl)) (fun _ h => h) rfl dX8_empty_9 ?_
  refine va_alen (v := 5) C.1 C.2.1 C.2.2.2.2.2.2.2.1 hP 2 0 rfl rfl rfl dX8_empty_12 ?_
  refine lv_icmp_ge (tgt := 29) C.1 C.2.1 dX8_empty_13 (by decide) (fun z => absurd z (by decide)) (fun _ => ?_)
  refine lv_aload_n C.1 C.2.1 dX8_empty_16 rfl (lv_at hl 1 rfl) ?_
  refine va_get (D := g.1) (ci := 8) (v := .ref q2) (C := RX8) (T := TX8) (N := 3) C.1 C.2.1 C.2.2.2.2.2.1 inb_X8 C.2.2.2.2.1 C.2.2.2.2.2.2.2.1 hP 0 rfl rfl 2 (by decide) (C.2.2.2.2.2.1 _ (bg_of 483 (by decide +kernel) rfl)) (fun _ h => h) rfl dX8_empty_17 ?_
  refine lv_iload_n C.1 C.2.1 dX8_empty_20 rfl (lv_at hl 0 rfl) ?_
  refine lv_iconst (v := (-1)) C.1 C.2.1 dX8_empty_21 (by decide) ?_
  refine va_iast C.1 C.2.1 C.2.2.2.2.2.2.2.1 hP hD hS 2 0 rfl rfl (vp_in_nI (n := 3) (N := 5) (by decide) (by decide)) dX8_empty_22 (fun H locs hP hD hS => ?_)
  have hP : va_P g.1 clz [(h0, .inr (8, [.ref q1, .int 0, .ref q2])), (q1, .inl (g.2.2.1 4, 4, .inr (.inr (.inr (.inr f))))), (q2, .inl (g.2.2.1 0, 5, .inl (upd (upd (upd (upd (fun _ => 0) ((0 : Int32)).toNatClampNeg (-1)) ((1 : Int32)).toNatClampNeg (-1)) ((2 : Int32)).toNatClampNeg (-1)) ((3 : Int32)).toNatClampNeg (-1))))] H := hP
  have hD : va_D A [(h0, .inr (8, [.ref q1, .int 0, .ref q2])), (q1, .inl (g.2.2.1 4, 4, .inr (.inr (.inr (.inr f))))), (q2, .inl (g.2.2.1 0, 5, .inl (upd (upd (upd (upd (fun _ => 0) ((0 : Int32)).toNatClampNeg (-1)) ((1 : Int32)).toNatClampNeg (-1)) ((2 : Int32)).toNatClampNeg (-1)) ((3 : Int32)).toNatClampNeg (-1))))] := hD
  refine lv_iinc (v := 4) (lv' := [(1, .int 4), (0, .ref h0)]) C.1 C.2.1 dX8_empty_23 hl (k := 0) rfl (by decide) (by decide) rfl (fun ls hl => ?_)
  refine lv_goto (tgt := 7) C.1 C.2.1 dX8_empty_26 (by decide) ?_
  refine lv_iload_n C.1 C.2.1 dX8_empty_7 rfl (lv_at hl 0 rfl) ?_
  refine lv_aload_n C.1 C.2.1 dX8_empty_8 rfl (lv_at hl 1 rfl) ?_
  refine va_get (D := g.1) (ci := 8) (v := .ref q2) (C := RX8) (T := TX8) (N := 3) C.1 C.2.1 C.2.2.2.2.2.1 inb_X8 C.2.2.2.2.1 C.2.2.2.2.2.2.2.1 hP 0 rfl rfl 2 (by decide) (C.2.2.2.2.2.1 _ (bg_of 483 (by decide +kernel) rfl)) (fun _ h => h) rfl dX8_empty_9 ?_
  refine va_alen (v := 5) C.1 C.2.1 C.2.2.2.2.2.2.2.1 hP 2 0 rfl rfl rfl dX8_empty_12 ?_
  refine lv_icmp_ge (tgt := 29) C.1 C.2.1 dX8_empty_13 (by decide) (fun z => absurd z (by decide)) (fun _ => ?_)
  refine lv_aload_n C.1 C.2.1 dX8_empty_16 rfl (lv_at hl 1 rfl) ?_
  refine va_get (D := g.1) (ci := 8) (v := .ref q2) (C := RX8) (T := TX8) (N := 3) C.1 C.2.1 C.2.2.2.2.2.1 inb_X8 C.2.2.2.2.1 C.2.2.2.2.2.2.2.1 hP 0 rfl rfl 2 (by decide) (C.2.2.2.2.2.1 _ (bg_of 483 (by decide +kernel) rfl)) (fun _ h => h) rfl dX8_empty_17 ?_
  refine lv_iload_n C.1 C.2.1 dX8_empty_20 rfl (lv_at hl 0 rfl) ?_
  refine lv_iconst (v := (-1)) C.1 C.2.1 dX8_empty_21 (by decide) ?_
  refine va_iast C.1 C.2.1 C.2.2.2.2.2.2.2.1 hP hD hS 2 0 rfl rfl (vp_in_nI (n := 4) (N := 5) (by decide) (by decide)) dX8_empty_22 (fun H locs hP hD hS => ?_)
  have hP : va_P g.1 clz [(h0, .inr (8, [.ref q1, .int 0, .ref q2])), (q1, .inl (g.2.2.1 4, 4, .inr (.inr (.inr (.inr f))))), (q2, .inl (g.2.2.1 0, 5, .inl (upd (upd (upd (upd (upd (fun _ => 0) ((0 : Int32)).toNatClampNeg (-1)) ((1 : Int32)).toNatClampNeg (-1)) ((2 : Int32)).toNatClampNeg (-1)) ((3 : Int32)).toNatClampNeg (-1)) ((4 : Int32)).toNatClampNeg (-1))))] H := hP
  have hD : va_D A [(h0, .inr (8, [.ref q1, .int 0, .ref q2])), (q1, .inl (g.2.2.1 4, 4, .inr (.inr (.inr (.inr f))))), (q2, .inl (g.2.2.1 0, 5, .inl (upd (upd (upd (upd (upd (fun _ => 0) ((0 : Int32)).toNatClampNeg (-1)) ((1 : Int32)).toNatClampNeg (-1)) ((2 : Int32)).toNatClampNeg (-1)) ((3 : Int32)).toNatClampNeg (-1)) ((4 : Int32)).toNatClampNeg (-1))))] := hD
  refine lv_iinc (v := 5) (lv' := [(1, .int 5), (0, .ref h0)]) C.1 C.2.1 dX8_empty_23 hl (k := 0) rfl (by decide) (by decide) rfl (fun ls hl => ?_)
  refine lv_goto (tgt := 7) C.1 C.2.1 dX8_empty_26 (by decide) ?_
  refine lv_iload_n C.1 C.2.1 dX8_empty_7 rfl (lv_at hl 0 rfl) ?_
  refine lv_aload_n C.1 C.2.1 dX8_empty_8 rfl (lv_at hl 1 rfl) ?_
  refine va_get (D := g.1) (ci := 8) (v := .ref q2) (C := RX8) (T := TX8) (N := 3) C.1 C.2.1 C.2.2.2.2.2.1 inb_X8 C.2.2.2.2.1 C.2.2.2.2.2.2.2.1 hP 0 rfl rfl 2 (by decide) (C.2.2.2.2.2.1 _ (bg_of 483 (by decide +kernel) rfl)) (fun _ h => h) rfl dX8_empty_9 ?_
  refine va_alen (v := 5) C.1 C.2.1 C.2.2.2.2.2.2.2.1 hP 2 0 rfl rfl rfl dX8_empty_12 ?_
  refine lv_icmp_ge (tgt := 29) C.1 C.2.1 dX8_empty_13 (by decide) (fun _ => ?_) (fun z => absurd (by decide) z)
  exact W.vret C.1 C.2.1 C.2.2.2.1 (fun t ht hW => ⟨⟨(), rfl, trivial, by rw [ht]; exact hP, hD⟩, hS.F ht⟩) hS.2.2 dX8_empty_29 C.2.2.2.2.2.2.1
