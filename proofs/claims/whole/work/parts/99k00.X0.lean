def wX0 (g : Geo) (h0 : Nat) (u : Nat → Nat) : va_W := [(h0, .inr (0, [.int 0, .int 0, .int 0, .int 0, .int 0, .int 0, .int 0, .int 0, .int 0, .int 0, .int 0, .int 0, .int 0, .ref (u 0), .int 0])), ((u 0), .inl (g.2.2.1 0, 10, .inl (fun _ => 0)))]
set_option maxHeartbeats 4000000 in
set_option maxRecDepth 100000 in
theorem c_X0_init (l : Launch) (g : Geo) (sz : Nat) (h0 : Nat) : Met l yX0_init (Cond.code yX0_init cX0_init 1 none :: bg) ({ frames := 1, cells := 1, slots := 10, locals := 12 } : Room) (va_Pc [.ref h0] (PS g sz [(h0, .inr (0, zX0))])) (va_Qv (fun _ : Nat → Nat => True) (fun u t => va_P g.1 clz (wX0 g h0 u) t.heap ∧ va_D (va_A [(h0, .inr (0, zX0))] sz) (wX0 g h0 u)) (va_A [(h0, .inr (0, zX0))] sz)) 1 10 (va_A [(h0, .inr (0, zX0))] sz) := by
  refine Met.ofW (cc := cX0_init) (maxL := 1) (ret := none) (by decide +kernel) rfl ?_
  intro p e s m args below meth c s₁ B hml hv
  obtain ⟨rfl, hv⟩ := hv
  have C := CK.start (own := RX0) B hml rfl hv
  obtain ⟨hsz, hP, hD0, -, -, -⟩ := hv
  have hin : meth.name = _ := (name_of_methodNamed B.named B.method).1
  subst hsz
  have hD := hD0.self (sz := s.heap.size)
  generalize hAe : va_A [(h0, .inr (0, zX0))] s.heap.size = A at hD ⊢
  have hA : ∀ q : Nat, s.heap.size ≤ q → A q := fun q h => by rw [← hAe]; exact Or.inr h
  have hS : va_S A s.heap s.heap [] := va_S.rf
  have hl := lv_entry ([.ref h0]) (n := 1) (Nat.le_of_ble_eq_true rfl)
  rw [lg_entry_eq]
  generalize (lg_sl ([.ref h0]) ++ List.replicate (1 - (lg_sl ([.ref h0])).length) Slot.unset).toArray = ls at hl ⊢
  have hl : lv_has ls 1 [(0, .ref h0)] := hl
  refine lv_aload_n C.1 C.2.1 dX0_init_0 rfl (lv_at hl 0 rfl) ?_
  refine W.objInit C.1 C.2.1 C.2.2.2.2.1 (C.2.2.2.2.2.1 _ (bg_of 180 (by decide +kernel) rfl)) (C.2.2.2.2.2.1 _ (bg_of 120 (by decide +kernel) rfl)) (C.2.2.2.2.2.1 _ (bg_of 121 (by decide +kernel) rfl)) rfl (by rw [C.2.2.1]; exact hl.1) rfl dX0_init_1 (Nat.le_of_ble_eq_true rfl) (Nat.le_of_ble_eq_true rfl) ?_
  refine W.eq (g2 := F0 m 4 ls []) rfl ?_
  refine lv_aload_n C.1 C.2.1 dX0_init_4 rfl (lv_at hl 0 rfl) ?_
  refine lv_bipush (v := 10) C.1 C.2.1 dX0_init_5 (by decide) ?_
  refine kn_newa C 0 (a0 := (10, .inl (fun _ => 0))) rfl rfl (bg_of 167 (by decide +kernel) rfl) hP hD hS hA (fun _ => rfl) (by decide) (by decide) (by decide) (by decide) (by decide) dX0_init_7 (fun q7 H hP hD hS => ?_)
  have hP : va_P g.1 clz [(h0, .inr (0, zX0)), (q7, .inl (g.2.2.1 0, 10, .inl (fun _ => 0)))] H := hP
  have hD : va_D A [(h0, .inr (0, zX0)), (q7, .inl (g.2.2.1 0, 10, .inl (fun _ => 0)))] := hD
  refine va_putF (D := g.1) (A := A) (ci := 0) (v := .ref q7) (ty := (.array .int)) (C := RX0) (T := TX0) (N := 15) C.1 C.2.1 C.2.2.2.2.2.1 inb_X0 tyX0 tyX0_ok nmX0 C.2.2.2.2.1 C.2.2.2.2.2.2.2.1 hP hD hS 0 rfl rfl 13 (by decide) (C.2.2.2.2.2.1 _ (bg_of 221 (by decide +kernel) rfl)) (fun _ h => h) rfl hin rfl (by decide +kernel) rfl rfl (Nat.le_of_ble_eq_true rfl) dX0_init_9 (fun H locs hP hD hS => ?_)
  have hP : va_P g.1 clz [(h0, .inr (0, [.int 0, .int 0, .int 0, .int 0, .int 0, .int 0, .int 0, .int 0, .int 0, .int 0, .int 0, .int 0, .int 0, .ref q7, .int 0])), (q7, .inl (g.2.2.1 0, 10, .inl (fun _ => 0)))] H := hP
  have hD : va_D A [(h0, .inr (0, [.int 0, .int 0, .int 0, .int 0, .int 0, .int 0, .int 0, .int 0, .int 0, .int 0, .int 0, .int 0, .int 0, .ref q7, .int 0])), (q7, .inl (g.2.2.1 0, 10, .inl (fun _ => 0)))] := hD
  refine W.widen (k := 1) (n := 10) (by decide) (by decide) ?_
  exact W.vret C.1 C.2.1 C.2.2.2.1 (fun t ht hW => ⟨⟨(fun i => [q7].getD i 0), rfl, trivial, by rw [ht]; exact hP, hD⟩, hS.F ht⟩) hS.2.2 dX0_init_12 C.2.2.2.2.2.2.1
