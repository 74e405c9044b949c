set_option maxHeartbeats 4000000 in
set_option maxRecDepth 100000 in
theorem cz_X9_settle (l : Launch) (g : Geo) (sz : Nat) (h0 q1 : Nat) : Met l yX9_settle (Cond.code yX9_settle cX9_settle 2 none :: bg) ({ frames := 3, cells := 0, slots := 0, locals := 65 } : Room) (va_Pc [.ref h0] (PS g sz [(h0, .inr (9, [.ref q1, .int 0, .int 0, .int 5, .int 29, .int 0, .int 0, .int 0, .int 0, .int 15, .int 0, .int 0, .int 0, .int 0, .int 0, .int 0]))])) (va_Qv (fun _ : Unit => True) (fun _ t => va_P g.1 clz [(h0, .inr (9, [.ref q1, .int 0, .int 0, .int 5, .int 29, .int go5, .int go29, .int 0, .int 0, .int 15, .int 0, .int 0, .int 0, .int 0, .int 0, .int 0]))] t.heap ∧ va_D (va_A [(h0, .inr (9, [.ref q1, .int 0, .int 0, .int 5, .int 29, .int 0, .int 0, .int 0, .int 0, .int 15, .int 0, .int 0, .int 0, .int 0, .int 0, .int 0]))] sz) [(h0, .inr (9, [.ref q1, .int 0, .int 0, .int 5, .int 29, .int go5, .int go29, .int 0, .int 0, .int 15, .int 0, .int 0, .int 0, .int 0, .int 0, .int 0]))]) (va_A [(h0, .inr (9, [.ref q1, .int 0, .int 0, .int 5, .int 29, .int 0, .int 0, .int 0, .int 0, .int 15, .int 0, .int 0, .int 0, .int 0, .int 0, .int 0]))] sz)) 0 0 (va_A [(h0, .inr (9, [.ref q1, .int 0, .int 0, .int 5, .int 29, .int 0, .int 0, .int 0, .int 0, .int 15, .int 0, .int 0, .int 0, .int 0, .int 0, .int 0]))] sz) := by
  refine Met.ofW (cc := cX9_settle) (maxL := 2) (ret := none) (by decide +kernel) rfl ?_
  intro p e s m args below meth c s₁ B hml hv
  obtain ⟨rfl, hv⟩ := hv
  have C := CK.start (own := RX9) B hml rfl hv
  obtain ⟨hsz, hP, hD0, -, -, -⟩ := hv
  have hin : meth.name = _ := (name_of_methodNamed B.named B.method).1
  subst hsz
  have hD := hD0.self (sz := s.heap.size)
  generalize hAe : va_A [(h0, .inr (9, [.ref q1, .int 0, .int 0, .int 5, .int 29, .int 0, .int 0, .int 0, .int 0, .int 15, .int 0, .int 0, .int 0, .int 0, .int 0, .int 0]))] s.heap.size = A at hD ⊢
  have hA : ∀ q : Nat, s.heap.size ≤ q → A q := fun q h => by rw [← hAe]; exact Or.inr h
  have hS : va_S A s.heap s.heap [] := va_S.rf
  have hl := lv_entry ([.ref h0]) (n := 2) (Nat.le_of_ble_eq_true rfl)
  rw [lg_entry_eq]
  generalize (lg_sl ([.ref h0]) ++ List.replicate (2 - (lg_sl ([.ref h0])).length) Slot.unset).toArray = ls at hl ⊢
  have hl : lv_has ls 2 [(0, .ref h0)] := hl
  refine lv_aload_n C.1 C.2.1 dX9_settle_0 rfl (lv_at hl 0 rfl) ?_
  refine lv_aload_n C.1 C.2.1 dX9_settle_1 rfl (lv_at hl 0 rfl) ?_
  refine va_get (D := g.1) (ci := 9) (v := .int 5) (C := RX9) (T := TX9) (N := 16) C.1 C.2.1 C.2.2.2.2.2.1 inb_X9 C.2.2.2.2.1 C.2.2.2.2.2.2.2.1 hP 0 rfl rfl 3 (by decide) (C.2.2.2.2.2.1 _ (bg_of 296 (by decide +kernel) rfl)) (fun _ h => h) rfl dX9_settle_2 ?_
  refine kgoIP (krunN (As := [.int 5]) (rest := [.ref h0]) C lkX9_53 (cq_X10_goesOut l g _ 5 M0 _ k_go5) rfl rfl ⟨Nat.le_of_ble_eq_true rfl, Nat.le_of_ble_eq_true rfl⟩ hl.1 rfl (Nat.le_of_ble_eq_true rfl) dX9_settle_5 ⟨by decide, by decide⟩) hP hS (fun r5 M5 hw H locs hP hS => ?_)
  subst hw
  refine va_put (D := g.1) (A := A) (ci := 9) (v := .int go5) (ty := .int) (C := RX9) (T := TX9) (N := 16) C.1 C.2.1 C.2.2.2.2.2.1 inb_X9 tyX9 tyX9_ok nmX9 C.2.2.2.2.1 C.2.2.2.2.2.2.2.1 hP hD hS 0 rfl rfl 5 (by decide) (C.2.2.2.2.2.1 _ (bg_of 302 (by decide +kernel) rfl)) (fun _ h => h) rfl (by decide +kernel) rfl rfl (Nat.le_of_ble_eq_true rfl) dX9_settle_8 (fun H locs hP hD hS => ?_)
  have hP : va_P g.1 clz [(h0, .inr (9, [.ref q1, .int 0, .int 0, .int 5, .int 29, .int go5, .int 0, .int 0, .int 0, .int 15, .int 0, .int 0, .int 0, .int 0, .int 0, .int 0]))] H := hP
  have hD : va_D A [(h0, .inr (9, [.ref q1, .int 0, .int 0, .int 5, .int 29, .int go5, .int 0, .int 0, .int 0, .int 15, .int 0, .int 0, .int 0, .int 0, .int 0, .int 0]))] := hD
  refine lv_aload_n C.1 C.2.1 dX9_settle_11 rfl (lv_at hl 0 rfl) ?_
  refine lv_aload_n C.1 C.2.1 dX9_settle_12 rfl (lv_at hl 0 rfl) ?_
  refine va_get (D := g.1) (ci := 9) (v := .int 29) (C := RX9) (T := TX9) (N := 16) C.1 C.2.1 C.2.2.2.2.2.1 inb_X9 C.2.2.2.2.1 C.2.2.2.2.2.2.2.1 hP 0 rfl rfl 4 (by decide) (C.2.2.2.2.2.1 _ (bg_of 299 (by decide +kernel) rfl)) (fun _ h => h) rfl dX9_settle_13 ?_
  refine kgoIP (krunN (As := [.int 29]) (rest := [.ref h0]) C lkX9_53 (cq_X10_goesOut l g _ 29 M0 _ k_go29) rfl rfl ⟨Nat.le_of_ble_eq_true rfl, Nat.le_of_ble_eq_true rfl⟩ hl.1 rfl (Nat.le_of_ble_eq_true rfl) dX9_settle_16 ⟨by decide, by decide⟩) hP hS (fun r16 M16 hw H locs hP hS => ?_)
  subst hw
  refine va_put (D := g.1) (A := A) (ci := 9) (v := .int go29) (ty := .int) (C := RX9) (T := TX9) (N := 16) C.1 C.2.1 C.2.2.2.2.2.1 inb_X9 tyX9 tyX9_ok nmX9 C.2.2.2.2.1 C.2.2.2.2.2.2.2.1 hP hD hS 0 rfl rfl 6 (by decide) (C.2.2.2.2.2.1 _ (bg_of 303 (by decide +kernel) rfl)) (fun _ h => h) rfl (by decide +kernel) rfl rfl (Nat.le_of_ble_eq_true rfl) dX9_settle_19 (fun H locs hP hD hS => ?_)
  have hP : va_P g.1 clz [(h0, .inr (9, [.ref q1, .int 0, .int 0, .int 5, .int 29, .int go5, .int go29, .int 0, .int 0, .int 15, .int 0, .int 0, .int 0, .int 0, .int 0, .int 0]))] H := hP
  have hD : va_D A [(h0, .inr (9, [.ref q1, .int 0, .int 0, .int 5, .int 29, .int go5, .int go29, .int 0, .int 0, .int 15, .int 0, .int 0, .int 0, .int 0, .int 0, .int 0]))] := hD
  refine lv_iconst (v := 0) C.1 C.2.1 dX9_settle_22 (by decide) ?_
  refine lv_istore_n (lv' := [(1, .int 0), (0, .ref h0)]) C.1 C.2.1 dX9_settle_23 rfl hl (by decide) rfl (fun ls hl => ?_)
  refine lv_iload_n C.1 C.2.1 dX9_settle_24 rfl (lv_at hl 0 rfl) ?_
  refine lv_aload_n C.1 C.2.1 dX9_settle_25 rfl (lv_at hl 1 rfl) ?_
  refine va_get (D := g.1) (ci := 9) (v := .int 0) (C := RX9) (T := TX9) (N := 16) C.1 C.2.1 C.2.2.2.2.2.1 inb_X9 C.2.2.2.2.1 C.2.2.2.2.2.2.2.1 hP 0 rfl rfl 1 (by decide) (C.2.2.2.2.2.1 _ (bg_of 288 (by decide +kernel) rfl)) (fun _ h => h) rfl dX9_settle_26 ?_
  refine lv_icmp_ge (tgt := 60) C.1 C.2.1 dX9_settle_29 (by decide) (fun _ => ?_) (fun z => absurd (by decide) z)
  exact W.vret C.1 C.2.1 C.2.2.2.1 (fun t ht hW => ⟨⟨(), rfl, trivial, by rw [ht]; exact hP, hD⟩, hS.F ht⟩) hS.2.2 dX9_settle_60 C.2.2.2.2.2.2.1
