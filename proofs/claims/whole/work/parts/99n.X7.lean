set_option maxHeartbeats 4000000 in
set_option maxRecDepth 100000 in
theorem c_X7_init (l : Launch) (g : Geo) (sz : Nat) (h0 : Nat) : Met l yX7_init (Cond.code yX7_init cX7_init 3 none :: bg) ({ frames := 1, cells := 3, slots := 686, locals := 12 } : Room) (va_Pc [.ref h0] (PS g sz [(h0, .inr (7, zX7))])) (va_Qv (fun u : TM => RootF u.2) (fun u t => va_P g.1 clz (wX7 g h0 u.1 u.2) t.heap ∧ va_D (va_A [(h0, .inr (7, zX7))] sz) (wX7 g h0 u.1 u.2)) (va_A [(h0, .inr (7, zX7))] sz)) 3 686 (va_A [(h0, .inr (7, zX7))] sz) := by
  refine Met.ofW (cc := cX7_init) (maxL := 3) (ret := none) (by decide +kernel) rfl ?_
  intro p e s m args below meth c s₁ B hml hv
  obtain ⟨rfl, hv⟩ := hv
  have C := CK.start (own := RX7) B hml rfl hv
  obtain ⟨hsz, hP, hD0, -, -, -⟩ := hv
  have hin : meth.name = _ := (name_of_methodNamed B.named B.method).1
  subst hsz
  have hD := hD0.self (sz := s.heap.size)
  generalize hAe : va_A [(h0, .inr (7, zX7))] s.heap.size = A at hD ⊢
  have hA : ∀ q : Nat, s.heap.size ≤ q → A q := fun q h => by rw [← hAe]; exact Or.inr h
  have hS : va_S A s.heap s.heap [] := va_S.rf
  have hl := lv_entry ([.ref h0]) (n := 3) (Nat.le_of_ble_eq_true rfl)
  rw [lg_entry_eq]
  generalize (lg_sl ([.ref h0]) ++ List.replicate (3 - (lg_sl ([.ref h0])).length) Slot.unset).toArray = ls at hl ⊢
  have hl : lv_has ls 3 [(0, .ref h0)] := hl
  refine lv_aload_n C.1 C.2.1 dX7_init_0 rfl (lv_at hl 0 rfl) ?_
  refine W.objInit C.1 C.2.1 C.2.2.2.2.1 (C.2.2.2.2.2.1 _ (bg_of 542 (by decide +kernel) rfl)) (C.2.2.2.2.2.1 _ (bg_of 120 (by decide +kernel) rfl)) (C.2.2.2.2.2.1 _ (bg_of 121 (by decide +kernel) rfl)) rfl (by rw [C.2.2.1]; exact hl.1) rfl dX7_init_1 (Nat.le_of_ble_eq_true rfl) (Nat.le_of_ble_eq_true rfl) ?_
  refine W.eq (g2 := F0 m 4 ls []) rfl ?_
  refine lv_aload_n C.1 C.2.1 dX7_init_4 rfl (lv_at hl 0 rfl) ?_
  refine lv_iconst (v := 5) C.1 C.2.1 dX7_init_5 (by decide) ?_
  refine kn_newq C 3 rfl (bg_of 543 (by decide +kernel) rfl) C.2.2.2.2.2.2.2.2.2.1 hP hD hS hA (by decide) (N' := 5) (by decide) (by decide) (by decide) (by decide) dX7_init_6 (fun q6 H hP hD hS => ?_)
  have hP : va_P g.1 clz [(h0, .inr (7, zX7)), (q6, .inl (g.2.2.1 3, 5, .inr (.inr (.inr (.inr (fun _ => none))))))] H := hP
  have hD : va_D A [(h0, .inr (7, zX7)), (q6, .inl (g.2.2.1 3, 5, .inr (.inr (.inr (.inr (fun _ => none))))))] := hD
  refine va_putF (D := g.1) (A := A) (ci := 7) (v := .ref q6) (ty := (.array (.object "BirdCodes$Bird"))) (C := RX7) (T := TX7) (N := 10) C.1 C.2.1 C.2.2.2.2.2.1 inb_X7 tyX7 tyX7_ok nmX7 C.2.2.2.2.1 C.2.2.2.2.2.2.2.1 hP hD hS 0 rfl rfl 7 (by decide) (C.2.2.2.2.2.1 _ (bg_of 554 (by decide +kernel) rfl)) (fun _ h => h) rfl hin rfl (by decide +kernel) rfl rfl (Nat.le_of_ble_eq_true rfl) dX7_init_9 (fun H locs hP hD hS => ?_)
  have hP : va_P g.1 clz [(h0, .inr (7, [.int 0, .int 0, .int 0, .int 0, .int 0, .int 0, .int 0, .ref q6, .null, .null])), (q6, .inl (g.2.2.1 3, 5, .inr (.inr (.inr (.inr (fun _ => none))))))] H := hP
  have hD : va_D A [(h0, .inr (7, [.int 0, .int 0, .int 0, .int 0, .int 0, .int 0, .int 0, .ref q6, .null, .null])), (q6, .inl (g.2.2.1 3, 5, .inr (.inr (.inr (.inr (fun _ => none))))))] := hD
  refine lv_aload_n C.1 C.2.1 dX7_init_12 rfl (lv_at hl 0 rfl) ?_
  refine lv_iconst (v := 5) C.1 C.2.1 dX7_init_13 (by decide) ?_
  refine kn_newa C 0 (a0 := (5, .inl (fun _ => 0))) rfl rfl (bg_of 167 (by decide +kernel) rfl) hP hD hS hA (fun _ => rfl) (by decide) (by decide) (by decide) (by decide) (by decide) dX7_init_14 (fun q14 H hP hD hS => ?_)
  have hP : va_P g.1 clz [(h0, .inr (7, [.int 0, .int 0, .int 0, .int 0, .int 0, .int 0, .int 0, .ref q6, .null, .null])), (q6, .inl (g.2.2.1 3, 5, .inr (.inr (.inr (.inr (fun _ => none)))))), (q14, .inl (g.2.2.1 0, 5, .inl (fun _ => 0)))] H := hP
  have hD : va_D A [(h0, .inr (7, [.int 0, .int 0, .int 0, .int 0, .int 0, .int 0, .int 0, .ref q6, .null, .null])), (q6, .inl (g.2.2.1 3, 5, .inr (.inr (.inr (.inr (fun _ => none)))))), (q14, .inl (g.2.2.1 0, 5, .inl (fun _ => 0)))] := hD
  refine va_putF (D := g.1) (A := A) (ci := 7) (v := .ref q14) (ty := (.array .int)) (C := RX7) (T := TX7) (N := 10) C.1 C.2.1 C.2.2.2.2.2.1 inb_X7 tyX7 tyX7_ok nmX7 C.2.2.2.2.1 C.2.2.2.2.2.2.2.1 hP hD hS 0 rfl rfl 8 (by decide) (C.2.2.2.2.2.1 _ (bg_of 555 (by decide +kernel) rfl)) (fun _ h => h) rfl hin rfl (by decide +kernel) rfl rfl (Nat.le_of_ble_eq_true rfl) dX7_init_16 (fun H locs hP hD hS => ?_)
  have hP : va_P g.1 clz [(h0, .inr (7, [.int 0, .int 0, .int 0, .int 0, .int 0, .int 0, .int 0, .ref q6, .ref q14, .null])), (q6, .inl (g.2.2.1 3, 5, .inr (.inr (.inr (.inr (fun _ => none)))))), (q14, .inl (g.2.2.1 0, 5, .inl (fun _ => 0)))] H := hP
  have hD : va_D A [(h0, .inr (7, [.int 0, .int 0, .int 0, .int 0, .int 0, .int 0, .int 0, .ref q6, .ref q14, .null])), (q6, .inl (g.2.2.1 3, 5, .inr (.inr (.inr (.inr (fun _ => none)))))), (q14, .inl (g.2.2.1 0, 5, .inl (fun _ => 0)))] := hD
  refine lv_aload_n C.1 C.2.1 dX7_init_19 rfl (lv_at hl 0 rfl) ?_
  refine lv_sipush (v := 676) C.1 C.2.1 dX7_init_20 (by decide) ?_
  refine kn_newa C 0 (a0 := (676, .inl (fun _ => 0))) rfl rfl (bg_of 167 (by decide +kernel) rfl) hP hD hS hA (fun _ => rfl) (by decide) (by decide) (by decide) (by decide) (by decide) dX7_init_23 (fun q23 H hP hD hS => ?_)
  have hP : va_P g.1 clz [(h0, .inr (7, [.int 0, .int 0, .int 0, .int 0, .int 0, .int 0, .int 0, .ref q6, .ref q14, .null])), (q6, .inl (g.2.2.1 3, 5, .inr (.inr (.inr (.inr (fun _ => none)))))), (q14, .inl (g.2.2.1 0, 5, .inl (fun _ => 0))), (q23, .inl (g.2.2.1 0, 676, .inl (fun _ => 0)))] H := hP
  have hD : va_D A [(h0, .inr (7, [.int 0, .int 0, .int 0, .int 0, .int 0, .int 0, .int 0, .ref q6, .ref q14, .null])), (q6, .inl (g.2.2.1 3, 5, .inr (.inr (.inr (.inr (fun _ => none)))))), (q14, .inl (g.2.2.1 0, 5, .inl (fun _ => 0))), (q23, .inl (g.2.2.1 0, 676, .inl (fun _ => 0)))] := hD
  refine va_putF (D := g.1) (A := A) (ci := 7) (v := .ref q23) (ty := (.array .int)) (C := RX7) (T := TX7) (N := 10) C.1 C.2.1 C.2.2.2.2.2.1 inb_X7 tyX7 tyX7_ok nmX7 C.2.2.2.2.1 C.2.2.2.2.2.2.2.1 hP hD hS 0 rfl rfl 9 (by decide) (C.2.2.2.2.2.1 _ (bg_of 556 (by decide +kernel) rfl)) (fun _ h => h) rfl hin rfl (by decide +kernel) rfl rfl (Nat.le_of_ble_eq_true rfl) dX7_init_25 (fun H locs hP hD hS => ?_)
  have hP : va_P g.1 clz [(h0, .inr (7, [.int 0, .int 0, .int 0, .int 0, .int 0, .int 0, .int 0, .ref q6, .ref q14, .ref q23])), (q6, .inl (g.2.2.1 3, 5, .inr (.inr (.inr (.inr (fun _ => none)))))), (q14, .inl (g.2.2.1 0, 5, .inl (fun _ => 0))), (q23, .inl (g.2.2.1 0, 676, .inl (fun _ => 0)))] H := hP
  have hD : va_D A [(h0, .inr (7, [.int 0, .int 0, .int 0, .int 0, .int 0, .int 0, .int 0, .ref q6, .ref q14, .ref q23])), (q6, .inl (g.2.2.1 3, 5, .inr (.inr (.inr (.inr (fun _ => none)))))), (q14, .inl (g.2.2.1 0, 5, .inl (fun _ => 0))), (q23, .inl (g.2.2.1 0, 676, .inl (fun _ => 0)))] := hD
  refine lv_iconst (v := 0) C.1 C.2.1 dX7_init_28 (by decide) ?_
  refine lv_istore_n (lv' := [(1, .int 0), (0, .ref h0)]) C.1 C.2.1 dX7_init_29 rfl hl (by decide) rfl (fun ls hl => ?_)
  refine lv_iconst (v := 0) C.1 C.2.1 dX7_init_30 (by decide) ?_
  refine lv_istore_n (lv' := [(2, .int 0), (1, .int 0), (0, .ref h0)]) C.1 C.2.1 dX7_init_31 rfl hl (by decide) rfl (fun ls hl => ?_)
  refine W.widen (k := 3) (n := 686) (by decide) (by decide) ?_
  refine k_X7_32 (qa := q6) (qb := q14) (qc := q23) C 676 0 0 (fun _ => 0) (by decide) (by decide) (fun k hk => absurd hk (Nat.not_lt_zero k)) hl hP hD hS (fun f H locs ls hf hP hD hS => ?_)
  exact W.vret C.1 C.2.1 C.2.2.2.1 (fun t ht hW => ⟨⟨(fun i => [q6, q14, q23].getD i 0, f), rfl, hf, by rw [ht]; exact hP, hD⟩, hS.F ht⟩) hS.2.2 dX7_init_85 C.2.2.2.2.2.2.1
