def p_X0_begin (a0 : Nat) (a1 : Int32) (a2 : Int32) (M : Mem) (Q : Mem → Prop) : Prop := (∀ M1 : Mem, M1 = sI M 25 a0 0 a1 → (∀ M2 : Mem, M2 = sI M1 25 a0 1 a2 → (∀ M3 : Mem, M3 = sI M2 25 a0 6 0 → (∀ M4 : Mem, M4 = sI M3 25 a0 7 0 → (∀ M5 : Mem, M5 = sI M4 25 a0 8 0 → (∀ M6 : Mem, M6 = sI M5 25 a0 9 0 → (∀ M7 : Mem, M7 = sI M6 25 a0 14 0 → (Q M7))))))))
set_option maxRecDepth 100000 in
set_option maxHeartbeats 4000000 in
theorem c_X0_begin (l : Launch) (g : Geo) (gi : GI g) (a0 : Nat) (a1 : Int32) (a2 : Int32) (ha0 : a0 < 10) (M : Mem) (Q : Mem → Prop) (hw : p_X0_begin a0 a1 a2 M Q) : Met l yX0_begin (Cond.code yX0_begin cX0_begin 3 none :: bg) ({ frames := 0, cells := 0, slots := 0, locals := 0 } : Room) (va_Pc [.ref (g.2.1 (27 + a0)), .int a1, .int a2] (PW g (xw g M))) (va_Qv Q (PB g (xw g)) (Af 0 g)) 0 0 (Af 0 g) := by
  refine Met.ofW (cc := cX0_begin) (maxL := 3) (ret := none) (by decide +kernel) rfl ?_
  intro p e s m args below meth c s₁ B hml hv
  obtain ⟨rfl, hv⟩ := hv
  have C := CX.start (own := RX0) B hml rfl gi hv
  have hP := hv.1
  have hS : va_S (Af 0 g) s.heap s.heap [] := va_S.rf
  have hl := lv_entry ([.ref (g.2.1 (27 + a0)), .int a1, .int a2]) (n := 3) (Nat.le_of_ble_eq_true rfl)
  rw [lg_entry_eq]
  generalize (lg_sl ([.ref (g.2.1 (27 + a0)), .int a1, .int a2]) ++ List.replicate (3 - (lg_sl ([.ref (g.2.1 (27 + a0)), .int a1, .int a2])).length) Slot.unset).toArray = ls at hl ⊢
  have hl : lv_has ls 3 [(0, .ref (g.2.1 (27 + a0))), (1, .int a1), (2, .int a2)] := hl
  unfold p_X0_begin at hw
  refine lv_aload_n C.1 C.2.1 dX0_begin_0 rfl (lv_at hl 0 rfl) ?_
  refine lv_iload_n C.1 C.2.1 dX0_begin_1 rfl (lv_at hl 1 rfl) ?_
  refine pX0_15 C hP hS ha0 dX0_begin_2 (fun M1 e1 H locs hP hS => ?_)
  have hw := hw M1 e1
  refine lv_aload_n C.1 C.2.1 dX0_begin_5 rfl (lv_at hl 0 rfl) ?_
  refine lv_iload_n C.1 C.2.1 dX0_begin_6 rfl (lv_at hl 2 rfl) ?_
  refine pX0_19 C hP hS ha0 dX0_begin_7 (fun M2 e2 H locs hP hS => ?_)
  have hw := hw M2 e2
  refine lv_aload_n C.1 C.2.1 dX0_begin_10 rfl (lv_at hl 0 rfl) ?_
  refine lv_iconst (v := 0) C.1 C.2.1 dX0_begin_11 (by decide) ?_
  refine pX0_22 C hP hS ha0 dX0_begin_12 (fun M3 e3 H locs hP hS => ?_)
  have hw := hw M3 e3
  refine lv_aload_n C.1 C.2.1 dX0_begin_15 rfl (lv_at hl 0 rfl) ?_
  refine lv_iconst (v := 0) C.1 C.2.1 dX0_begin_16 (by decide) ?_
  refine pX0_25 C hP hS ha0 dX0_begin_17 (fun M4 e4 H locs hP hS => ?_)
  have hw := hw M4 e4
  refine lv_aload_n C.1 C.2.1 dX0_begin_20 rfl (lv_at hl 0 rfl) ?_
  refine lv_iconst (v := 0) C.1 C.2.1 dX0_begin_21 (by decide) ?_
  refine pX0_28 C hP hS ha0 dX0_begin_22 (fun M5 e5 H locs hP hS => ?_)
  have hw := hw M5 e5
  refine lv_aload_n C.1 C.2.1 dX0_begin_25 rfl (lv_at hl 0 rfl) ?_
  refine lv_iconst (v := 0) C.1 C.2.1 dX0_begin_26 (by decide) ?_
  refine pX0_31 C hP hS ha0 rfl rfl dX0_begin_27 (fun M6 e6 H locs hP hS => ?_)
  have hw := hw M6 e6
  refine lv_aload_n C.1 C.2.1 dX0_begin_30 rfl (lv_at hl 0 rfl) ?_
  refine lv_iconst (v := 0) C.1 C.2.1 dX0_begin_31 (by decide) ?_
  refine pX0_35 C hP hS ha0 dX0_begin_32 (fun M7 e7 H locs hP hS => ?_)
  have hw := hw M7 e7
  exact retV (wf := (xw g)) C hP hS hw dX0_begin_35
def p_X0_isHeard (a0 : Nat) (M : Mem) (Q : Int32 → Mem → Prop) : Prop := (((M.1 25 a0 6) ≤ 0 → (Q 0 M)) ∧ (¬ (M.1 25 a0 6) ≤ 0 → (Q 1 M)))
set_option maxRecDepth 100000 in
set_option maxHeartbeats 4000000 in
theorem c_X0_isHeard (l : Launch) (g : Geo) (gi : GI g) (a0 : Nat) (ha0 : a0 < 10) (M : Mem) (Q : Int32 → Mem → Prop) (hw : p_X0_isHeard a0 M Q) : Met l yX0_isHeard (Cond.code yX0_isHeard cX0_isHeard 1 (some .boolean) :: bg) ({ frames := 0, cells := 0, slots := 0, locals := 0 } : Room) (va_Pc [.ref (g.2.1 (27 + a0))] (PW g (xw g M))) (va_Qi (fun r M => Q r M ∧ narrow .boolean (.int r) = .int r) (PB g (xw g)) (Af 0 g)) 0 0 (Af 0 g) := by
  refine Met.ofW (cc := cX0_isHeard) (maxL := 1) (ret := (some .boolean)) (by decide +kernel) rfl ?_
  intro p e s m args below meth c s₁ B hml hv
  obtain ⟨rfl, hv⟩ := hv
  have C := CX.start (own := RX0) B hml rfl gi hv
  have hP := hv.1
  have hS : va_S (Af 0 g) s.heap s.heap [] := va_S.rf
  have hl := lv_entry ([.ref (g.2.1 (27 + a0))]) (n := 1) (Nat.le_of_ble_eq_true rfl)
  rw [lg_entry_eq]
  generalize (lg_sl ([.ref (g.2.1 (27 + a0))]) ++ List.replicate (1 - (lg_sl ([.ref (g.2.1 (27 + a0))])).length) Slot.unset).toArray = ls at hl ⊢
  have hl : lv_has ls 1 [(0, .ref (g.2.1 (27 + a0)))] := hl
  unfold p_X0_isHeard at hw
  refine lv_aload_n C.1 C.2.1 dX0_isHeard_0 rfl (lv_at hl 0 rfl) ?_
  refine gX0_22 C hP ha0 dX0_isHeard_1 ?_
  refine lv_if_le (tgt := 11) C.1 C.2.1 dX0_isHeard_4 (by decide) (fun h1 => ?_) (fun h1 => ?_)
  · have hw := hw.1 h1
    refine lv_iconst (v := 0) C.1 C.2.1 dX0_isHeard_11 (by decide) ?_
    exact retZ (wf := (xw g)) C hP hS rfl hw dX0_isHeard_12
  · have hw := hw.2 h1
    refine lv_iconst (v := 1) C.1 C.2.1 dX0_isHeard_7 (by decide) ?_
    refine lv_goto (tgt := 12) C.1 C.2.1 dX0_isHeard_8 (by decide) ?_
    exact retZ (wf := (xw g)) C hP hS rfl hw dX0_isHeard_12
def p_X0_isHeardIn (a0 : Nat) (a1 : Int32) (M : Mem) (Q : Int32 → Mem → Prop) : Prop := (((M.1 25 a0 6) ≤ 0 → (Q 0 M)) ∧ (¬ (M.1 25 a0 6) ≤ 0 → (((M.1 25 a0 8) = 0 → (Q 1 M)) ∧ (¬ (M.1 25 a0 8) = 0 → (((M.1 25 a0 8) ≤ a1 → (Q 0 M)) ∧ (¬ (M.1 25 a0 8) ≤ a1 → (Q 1 M)))))))
set_option maxRecDepth 100000 in
set_option maxHeartbeats 4000000 in
theorem c_X0_isHeardIn (l : Launch) (g : Geo) (gi : GI g) (a0 : Nat) (a1 : Int32) (ha0 : a0 < 10) (M : Mem) (Q : Int32 → Mem → Prop) (hw : p_X0_isHeardIn a0 a1 M Q) : Met l yX0_isHeardIn (Cond.code yX0_isHeardIn cX0_isHeardIn 2 (some .boolean) :: bg) ({ frames := 0, cells := 0, slots := 0, locals := 0 } : Room) (va_Pc [.ref (g.2.1 (27 + a0)), .int a1] (PW g (xw g M))) (va_Qi (fun r M => Q r M ∧ narrow .boolean (.int r) = .int r) (PB g (xw g)) (Af 0 g)) 0 0 (Af 0 g) := by
  refine Met.ofW (cc := cX0_isHeardIn) (maxL := 2) (ret := (some .boolean)) (by decide +kernel) rfl ?_
  intro p e s m args below meth c s₁ B hml hv
  obtain ⟨rfl, hv⟩ := hv
  have C := CX.start (own := RX0) B hml rfl gi hv
  have hP := hv.1
  have hS : va_S (Af 0 g) s.heap s.heap [] := va_S.rf
  have hl := lv_entry ([.ref (g.2.1 (27 + a0)), .int a1]) (n := 2) (Nat.le_of_ble_eq_true rfl)
  rw [lg_entry_eq]
  generalize (lg_sl ([.ref (g.2.1 (27 + a0)), .int a1]) ++ List.replicate (2 - (lg_sl ([.ref (g.2.1 (27 + a0)), .int a1])).length) Slot.unset).toArray = ls at hl ⊢
  have hl : lv_has ls 2 [(0, .ref (g.2.1 (27 + a0))), (1, .int a1)] := hl
  unfold p_X0_isHeardIn at hw
  refine lv_aload_n C.1 C.2.1 dX0_isHeardIn_0 rfl (lv_at hl 0 rfl) ?_
  refine gX0_22 C hP ha0 dX0_isHeardIn_1 ?_
  refine lv_if_le (tgt := 26) C.1 C.2.1 dX0_isHeardIn_4 (by decide) (fun h1 => ?_) (fun h1 => ?_)
  · have hw := hw.1 h1
    refine lv_iconst (v := 0) C.1 C.2.1 dX0_isHeardIn_26 (by decide) ?_
    exact retZ (wf := (xw g)) C hP hS rfl hw dX0_isHeardIn_27
  · have hw := hw.2 h1
    refine lv_aload_n C.1 C.2.1 dX0_isHeardIn_7 rfl (lv_at hl 0 rfl) ?_
    refine gX0_28 C hP ha0 dX0_isHeardIn_8 ?_
    refine lv_if_eq (tgt := 22) C.1 C.2.1 dX0_isHeardIn_11 (by decide) (fun h2 => ?_) (fun h2 => ?_)
    · have hw := hw.1 h2
      refine lv_iconst (v := 1) C.1 C.2.1 dX0_isHeardIn_22 (by decide) ?_
      refine lv_goto (tgt := 27) C.1 C.2.1 dX0_isHeardIn_23 (by decide) ?_
      exact retZ (wf := (xw g)) C hP hS rfl hw dX0_isHeardIn_27
    · have hw := hw.2 h2
      refine lv_iload_n C.1 C.2.1 dX0_isHeardIn_14 rfl (lv_at hl 1 rfl) ?_
      refine lv_aload_n C.1 C.2.1 dX0_isHeardIn_15 rfl (lv_at hl 0 rfl) ?_
      refine gX0_28 C hP ha0 dX0_isHeardIn_16 ?_
      refine lv_icmp_ge (tgt := 26) C.1 C.2.1 dX0_isHeardIn_19 (by decide) (fun h3 => ?_) (fun h3 => ?_)
      · have hw := hw.1 h3
        refine lv_iconst (v := 0) C.1 C.2.1 dX0_isHeardIn_26 (by decide) ?_
        exact retZ (wf := (xw g)) C hP hS rfl hw dX0_isHeardIn_27
      · have hw := hw.2 h3
        refine lv_iconst (v := 1) C.1 C.2.1 dX0_isHeardIn_22 (by decide) ?_
        refine lv_goto (tgt := 27) C.1 C.2.1 dX0_isHeardIn_23 (by decide) ?_
        exact retZ (wf := (xw g)) C hP hS rfl hw dX0_isHeardIn_27
def p_X0_startIn (a0 : Nat) (a1 : Int32) (M : Mem) (Q : Int32 → Mem → Prop) : Prop := (((M.1 25 a0 7) ≤ 0 → (Q (M.1 25 a0 3) M)) ∧ (¬ (M.1 25 a0 7) ≤ 0 → (¬ (M.1 25 a0 7) = 0 ∧ (Q ((M.1 25 a0 3) + (a1 / (M.1 25 a0 7))) M))))
set_option maxRecDepth 100000 in
set_option maxHeartbeats 4000000 in
theorem c_X0_startIn (l : Launch) (g : Geo) (gi : GI g) (a0 : Nat) (a1 : Int32) (ha0 : a0 < 10) (M : Mem) (Q : Int32 → Mem → Prop) (hw : p_X0_startIn a0 a1 M Q) : Met l yX0_startIn (Cond.code yX0_startIn cX0_startIn 2 (some .int) :: bg) ({ frames := 0, cells := 0, slots := 0, locals := 0 } : Room) (va_Pc [.ref (g.2.1 (27 + a0)), .int a1] (PW g (xw g M))) (va_Qi Q (PB g (xw g)) (Af 0 g)) 0 0 (Af 0 g) := by
  refine Met.ofW (cc := cX0_startIn) (maxL := 2) (ret := (some .int)) (by decide +kernel) rfl ?_
  intro p e s m args below meth c s₁ B hml hv
  obtain ⟨rfl, hv⟩ := hv
  have C := CX.start (own := RX0) B hml rfl gi hv
  have hP := hv.1
  have hS : va_S (Af 0 g) s.heap s.heap [] := va_S.rf
  have hl := lv_entry ([.ref (g.2.1 (27 + a0)), .int a1]) (n := 2) (Nat.le_of_ble_eq_true rfl)
  rw [lg_entry_eq]
  generalize (lg_sl ([.ref (g.2.1 (27 + a0)), .int a1]) ++ List.replicate (2 - (lg_sl ([.ref (g.2.1 (27 + a0)), .int a1])).length) Slot.unset).toArray = ls at hl ⊢
  have hl : lv_has ls 2 [(0, .ref (g.2.1 (27 + a0))), (1, .int a1)] := hl
  unfold p_X0_startIn at hw
  refine lv_aload_n C.1 C.2.1 dX0_startIn_0 rfl (lv_at hl 0 rfl) ?_
  refine gX0_25 C hP ha0 dX0_startIn_1 ?_
  refine lv_if_le (tgt := 21) C.1 C.2.1 dX0_startIn_4 (by decide) (fun h1 => ?_) (fun h1 => ?_)
  · have hw := hw.1 h1
    refine lv_aload_n C.1 C.2.1 dX0_startIn_21 rfl (lv_at hl 0 rfl) ?_
    refine gX0_38 C hP ha0 dX0_startIn_22 ?_
    exact retI (wf := (xw g)) C hP hS hw dX0_startIn_25
  · have hw := hw.2 h1
    refine lv_aload_n C.1 C.2.1 dX0_startIn_7 rfl (lv_at hl 0 rfl) ?_
    refine gX0_38 C hP ha0 dX0_startIn_8 ?_
    refine lv_iload_n C.1 C.2.1 dX0_startIn_11 rfl (lv_at hl 1 rfl) ?_
    refine lv_aload_n C.1 C.2.1 dX0_startIn_12 rfl (lv_at hl 0 rfl) ?_
    refine gX0_25 C hP ha0 dX0_startIn_13 ?_
    obtain ⟨h2, hw⟩ := hw
    refine lv_idiv C.1 C.2.1 dX0_startIn_16 h2 ?_
    refine lv_iadd C.1 C.2.1 dX0_startIn_17 ?_
    refine lv_goto (tgt := 25) C.1 C.2.1 dX0_startIn_18 (by decide) ?_
    exact retI (wf := (xw g)) C hP hS hw dX0_startIn_25
def p_X0_bitAt (a0 : Nat) (a1 : Int32) (M : Mem) (Q : Int32 → Mem → Prop) : Prop := ((a1 < 0 → (Q 0 M)) ∧ (¬ a1 < 0 → ((0 < (M.1 25 a0 14) → (¬ (M.1 25 a0 14) = 0 ∧ (vp_in ((a1 / 16) - (a1 / 16) / (M.1 25 a0 14) * (M.1 25 a0 14)) 10 ∧ (∀ x5 : Int32, x5 = (M.1 26 a0 (((a1 / 16) - (a1 / 16) / (M.1 25 a0 14) * (M.1 25 a0 14)) : Int32).toNatClampNeg) → (Q (((x5 : Int32).toUInt32 >>> ((((15 : Int32) - (a1 - a1 / 16 * 16)) : Int32).toUInt32 &&& Int32.toUInt32 31)).toInt32 &&& 1) M))))) ∧ (¬ 0 < (M.1 25 a0 14) → (Q 0 M)))))
set_option maxRecDepth 100000 in
set_option maxHeartbeats 4000000 in
theorem c_X0_bitAt (l : Launch) (g : Geo) (gi : GI g) (a0 : Nat) (a1 : Int32) (ha0 : a0 < 10) (M : Mem) (Q : Int32 → Mem → Prop) (hw : p_X0_bitAt a0 a1 M Q) : Met l yX0_bitAt (Cond.code yX0_bitAt cX0_bitAt 3 (some .int) :: bg) ({ frames := 0, cells := 0, slots := 0, locals := 0 } : Room) (va_Pc [.ref (g.2.1 (27 + a0)), .int a1] (PW g (xw g M))) (va_Qi Q (PB g (xw g)) (Af 0 g)) 0 0 (Af 0 g) := by
  refine Met.ofW (cc := cX0_bitAt) (maxL := 3) (ret := (some .int)) (by decide +kernel) rfl ?_
  intro p e s m args below meth c s₁ B hml hv
  obtain ⟨rfl, hv⟩ := hv
  have C := CX.start (own := RX0) B hml rfl gi hv
  have hP := hv.1
  have hS : va_S (Af 0 g) s.heap s.heap [] := va_S.rf
  have hl := lv_entry ([.ref (g.2.1 (27 + a0)), .int a1]) (n := 3) (Nat.le_of_ble_eq_true rfl)
  rw [lg_entry_eq]
  generalize (lg_sl ([.ref (g.2.1 (27 + a0)), .int a1]) ++ List.replicate (3 - (lg_sl ([.ref (g.2.1 (27 + a0)), .int a1])).length) Slot.unset).toArray = ls at hl ⊢
  have hl : lv_has ls 3 [(0, .ref (g.2.1 (27 + a0))), (1, .int a1)] := hl
  unfold p_X0_bitAt at hw
  refine lv_iload_n C.1 C.2.1 dX0_bitAt_0 rfl (lv_at hl 1 rfl) ?_
  refine lv_if_lt (tgt := 11) C.1 C.2.1 dX0_bitAt_1 (by decide) (fun h1 => ?_) (fun h1 => ?_)
  · have hw := hw.1 h1
    refine lv_iconst (v := 0) C.1 C.2.1 dX0_bitAt_11 (by decide) ?_
    exact retI (wf := (xw g)) C hP hS hw dX0_bitAt_12
  · have hw := hw.2 h1
    refine lv_aload_n C.1 C.2.1 dX0_bitAt_4 rfl (lv_at hl 0 rfl) ?_
    refine gX0_35 C hP ha0 dX0_bitAt_5 ?_
    refine lv_if_gt (tgt := 13) C.1 C.2.1 dX0_bitAt_8 (by decide) (fun h2 => ?_) (fun h2 => ?_)
    · have hw := hw.1 h2
      refine lv_aload_n C.1 C.2.1 dX0_bitAt_13 rfl (lv_at hl 0 rfl) ?_
      refine gX0_9 C hP ha0 dX0_bitAt_14 ?_
      refine lv_iload_n C.1 C.2.1 dX0_bitAt_17 rfl (lv_at hl 1 rfl) ?_
      refine lv_bipush (v := 16) C.1 C.2.1 dX0_bitAt_18 (by decide) ?_
      refine lv_idiv C.1 C.2.1 dX0_bitAt_20 (by decide) ?_
      refine lv_aload_n C.1 C.2.1 dX0_bitAt_21 rfl (lv_at hl 0 rfl) ?_
      refine gX0_35 C hP ha0 dX0_bitAt_22 ?_
      obtain ⟨h3, hw⟩ := hw
      refine lv_irem C.1 C.2.1 dX0_bitAt_25 h3 ?_
      obtain ⟨h4, hw⟩ := hw
      refine al_26 C hP ha0 h4 dX0_bitAt_26 ?_
      refine lv_topi (fun x5 e5 => ?_)
      have hw := hw x5 e5
      refine lv_istore_n (lv' := [(2, .int x5), (0, .ref (g.2.1 (27 + a0))), (1, .int a1)]) C.1 C.2.1 dX0_bitAt_27 rfl hl (by decide) rfl (fun ls hl => ?_)
      refine lv_iload_n C.1 C.2.1 dX0_bitAt_28 rfl (lv_at hl 0 rfl) ?_
      refine lv_bipush (v := 15) C.1 C.2.1 dX0_bitAt_29 (by decide) ?_
      refine lv_iload_n C.1 C.2.1 dX0_bitAt_31 rfl (lv_at hl 2 rfl) ?_
      refine lv_bipush (v := 16) C.1 C.2.1 dX0_bitAt_32 (by decide) ?_
      refine lv_irem C.1 C.2.1 dX0_bitAt_34 (by decide) ?_
      refine lv_isub C.1 C.2.1 dX0_bitAt_35 ?_
      refine lv_iushr C.1 C.2.1 dX0_bitAt_36 rfl ?_
      refine lv_iconst (v := 1) C.1 C.2.1 dX0_bitAt_37 (by decide) ?_
      refine lv_iand C.1 C.2.1 dX0_bitAt_38 ?_
      exact retI (wf := (xw g)) C hP hS hw dX0_bitAt_39
    · have hw := hw.2 h2
      refine lv_iconst (v := 0) C.1 C.2.1 dX0_bitAt_11 (by decide) ?_
      exact retI (wf := (xw g)) C hP hS hw dX0_bitAt_12
def p_X0_addSubframe (a0 : Nat) (a1 : Int32) (M : Mem) (Q : Mem → Prop) : Prop := ((10 ≤ (M.1 25 a0 14) → (Q M)) ∧ (¬ 10 ≤ (M.1 25 a0 14) → (vp_in (M.1 25 a0 14) 10 ∧ (∀ M2 : Mem, M2 = sI M 26 a0 ((M.1 25 a0 14) : Int32).toNatClampNeg a1 → (∀ M3 : Mem, M3 = sI M2 25 a0 14 ((M2.1 25 a0 14) + 1) → (Q M3))))))
set_option maxRecDepth 100000 in
set_option maxHeartbeats 4000000 in
theorem c_X0_addSubframe (l : Launch) (g : Geo) (gi : GI g) (a0 : Nat) (a1 : Int32) (ha0 : a0 < 10) (M : Mem) (Q : Mem → Prop) (hw : p_X0_addSubframe a0 a1 M Q) : Met l yX0_addSubframe (Cond.code yX0_addSubframe cX0_addSubframe 2 none :: bg) ({ frames := 0, cells := 0, slots := 0, locals := 0 } : Room) (va_Pc [.ref (g.2.1 (27 + a0)), .int a1] (PW g (xw g M))) (va_Qv Q (PB g (xw g)) (Af 0 g)) 0 0 (Af 0 g) := by
  refine Met.ofW (cc := cX0_addSubframe) (maxL := 2) (ret := none) (by decide +kernel) rfl ?_
  intro p e s m args below meth c s₁ B hml hv
  obtain ⟨rfl, hv⟩ := hv
  have C := CX.start (own := RX0) B hml rfl gi hv
  have hP := hv.1
  have hS : va_S (Af 0 g) s.heap s.heap [] := va_S.rf
  have hl := lv_entry ([.ref (g.2.1 (27 + a0)), .int a1]) (n := 2) (Nat.le_of_ble_eq_true rfl)
  rw [lg_entry_eq]
  generalize (lg_sl ([.ref (g.2.1 (27 + a0)), .int a1]) ++ List.replicate (2 - (lg_sl ([.ref (g.2.1 (27 + a0)), .int a1])).length) Slot.unset).toArray = ls at hl ⊢
  have hl : lv_has ls 2 [(0, .ref (g.2.1 (27 + a0))), (1, .int a1)] := hl
  unfold p_X0_addSubframe at hw
  refine lv_aload_n C.1 C.2.1 dX0_addSubframe_0 rfl (lv_at hl 0 rfl) ?_
  refine gX0_35 C hP ha0 dX0_addSubframe_1 ?_
  refine lv_aload_n C.1 C.2.1 dX0_addSubframe_4 rfl (lv_at hl 0 rfl) ?_
  refine gX0_9 C hP ha0 dX0_addSubframe_5 ?_
  refine an_26 C hP ha0 dX0_addSubframe_8 ?_
  refine lv_icmp_ge (tgt := 32) C.1 C.2.1 dX0_addSubframe_9 (by decide) (fun h1 => ?_) (fun h1 => ?_)
  · have hw := hw.1 h1
    exact retV (wf := (xw g)) C hP hS hw dX0_addSubframe_32
  · have hw := hw.2 h1
    refine lv_aload_n C.1 C.2.1 dX0_addSubframe_12 rfl (lv_at hl 0 rfl) ?_
    refine gX0_9 C hP ha0 dX0_addSubframe_13 ?_
    refine lv_aload_n C.1 C.2.1 dX0_addSubframe_16 rfl (lv_at hl 0 rfl) ?_
    refine gX0_35 C hP ha0 dX0_addSubframe_17 ?_
    refine lv_iload_n C.1 C.2.1 dX0_addSubframe_20 rfl (lv_at hl 1 rfl) ?_
    obtain ⟨h2, hw⟩ := hw
    refine as_26 C hP hS ha0 h2 dX0_addSubframe_21 (fun M2 e2 H locs hP hS => ?_)
    have hw := hw M2 e2
    refine lv_aload_n C.1 C.2.1 dX0_addSubframe_22 rfl (lv_at hl 0 rfl) ?_
    refine lv_dup C.1 C.2.1 dX0_addSubframe_23 rfl ?_
    refine gX0_35 C hP ha0 dX0_addSubframe_24 ?_
    refine lv_iconst (v := 1) C.1 C.2.1 dX0_addSubframe_27 (by decide) ?_
    refine lv_iadd C.1 C.2.1 dX0_addSubframe_28 ?_
    refine pX0_35 C hP hS ha0 dX0_addSubframe_29 (fun M3 e3 H locs hP hS => ?_)
    have hw := hw M3 e3
    exact retV (wf := (xw g)) C hP hS hw dX0_addSubframe_32
def p_X0_told (a0 : Nat) (a1 : Int32) (M : Mem) (Q : Int32 → Mem → Prop) : Prop := ((a1 = 0 → (Q (M.1 25 a0 1) M)) ∧ (a1 = 1 → (p_X0_isHeard a0 M (fun r3 M3 => ((r3 = 0 → (Q (-2) M3)) ∧ (¬ r3 = 0 → (Q (M3.1 25 a0 3) M3)))))) ∧ (a1 = 2 → (p_X0_isHeard a0 M (fun r5 M5 => ((r5 = 0 → (Q (-2) M5)) ∧ (¬ r5 = 0 → (Q (M5.1 25 a0 4) M5)))))) ∧ (a1 = 3 → (p_X0_isHeard a0 M (fun r7 M7 => ((r7 = 0 → (Q (-2) M7)) ∧ (¬ r7 = 0 → (Q (M7.1 25 a0 5) M7)))))) ∧ (a1 = 4 → (p_X0_isHeard a0 M (fun r9 M9 => ((r9 = 0 → (Q (-2) M9)) ∧ (¬ r9 = 0 → (Q (M9.1 25 a0 6) M9)))))) ∧ (a1 = 5 → (((M.1 25 a0 7) ≤ 0 → (Q (-2) M)) ∧ (¬ (M.1 25 a0 7) ≤ 0 → (Q (M.1 25 a0 7) M)))) ∧ (a1 = 6 → (((M.1 25 a0 8) ≤ 0 → (Q (-2) M)) ∧ (¬ (M.1 25 a0 8) ≤ 0 → (Q (M.1 25 a0 8) M)))) ∧ (a1 = 7 → (Q (M.1 25 a0 14) M)) ∧ (a1 = 8 → (((M.1 25 a0 9) = 0 → (Q (-2) M)) ∧ (¬ (M.1 25 a0 9) = 0 → (Q (M.1 25 a0 10) M)))) ∧ (a1 = 9 → (((M.1 25 a0 9) = 0 → (Q (-2) M)) ∧ (¬ (M.1 25 a0 9) = 0 → (Q (M.1 25 a0 11) M)))) ∧ (¬ a1 = 0 → ¬ a1 = 1 → ¬ a1 = 2 → ¬ a1 = 3 → ¬ a1 = 4 → ¬ a1 = 5 → ¬ a1 = 6 → ¬ a1 = 7 → ¬ a1 = 8 → ¬ a1 = 9 → (((M.1 25 a0 9) = 0 → (Q (-2) M)) ∧ (¬ (M.1 25 a0 9) = 0 → (Q (M.1 25 a0 12) M)))))
set_option maxRecDepth 100000 in
set_option maxHeartbeats 4000000 in
theorem c_X0_told (l : Launch) (g : Geo) (gi : GI g) (a0 : Nat) (a1 : Int32) (ha0 : a0 < 10) (M : Mem) (Q : Int32 → Mem → Prop) (hw : p_X0_told a0 a1 M Q) : Met l yX0_told (Cond.code yX0_told cX0_told 2 (some .int) :: bg) ({ frames := 1, cells := 0, slots := 0, locals := 20 } : Room) (va_Pc [.ref (g.2.1 (27 + a0)), .int a1] (PW g (xw g M))) (va_Qi Q (PB g (xw g)) (Af 0 g)) 0 0 (Af 0 g) := by
  refine Met.ofW (cc := cX0_told) (maxL := 2) (ret := (some .int)) (by decide +kernel) rfl ?_
  intro p e s m args below meth c s₁ B hml hv
  obtain ⟨rfl, hv⟩ := hv
  have C := CX.start (own := RX0) B hml rfl gi hv
  have hP := hv.1
  have hS : va_S (Af 0 g) s.heap s.heap [] := va_S.rf
  have hl := lv_entry ([.ref (g.2.1 (27 + a0)), .int a1]) (n := 2) (Nat.le_of_ble_eq_true rfl)
  rw [lg_entry_eq]
  generalize (lg_sl ([.ref (g.2.1 (27 + a0)), .int a1]) ++ List.replicate (2 - (lg_sl ([.ref (g.2.1 (27 + a0)), .int a1])).length) Slot.unset).toArray = ls at hl ⊢
  have hl : lv_has ls 2 [(0, .ref (g.2.1 (27 + a0))), (1, .int a1)] := hl
  unfold p_X0_told at hw
  refine lv_iload_n C.1 C.2.1 dX0_told_0 rfl (lv_at hl 1 rfl) ?_
  by_cases q1_0 : a1 = 0
  · have hw := hw.1 q1_0
    refine lv_tableIn (tgt := 56) (off := 55) C.1 C.2.1 dX0_told_1 (by rw [q1_0]; decide) (by rw [q1_0]; decide) (by rw [q1_0]; decide +kernel) (by decide) ?_
    refine lv_aload_n C.1 C.2.1 dX0_told_56 rfl (lv_at hl 0 rfl) ?_
    refine gX0_19 C hP ha0 dX0_told_57 ?_
    exact retI (wf := (xw g)) C hP hS hw dX0_told_60
  by_cases q1_1 : a1 = 1
  · have hw := hw.2.1 q1_1
    refine lv_tableIn (tgt := 61) (off := 60) C.1 C.2.1 dX0_told_1 (by rw [q1_1]; decide) (by rw [q1_1]; decide) (by rw [q1_1]; decide +kernel) (by decide) ?_
    refine lv_aload_n C.1 C.2.1 dX0_told_61 rfl (lv_at hl 0 rfl) ?_
    refine goI (wf := (xw g)) (runV (w := xw g M) (As := []) (rest := []) C lkX0_41 (c_X0_isHeard l g C.2.2.2.2.2.2.2.2.2.2 a0 ha0 M _ hw) hP hS rfl rfl ⟨Nat.le_of_ble_eq_true rfl, Nat.le_of_ble_eq_true rfl⟩ (xx_25 ha0) rfl rfl hl.1 rfl (Nat.le_of_ble_eq_true rfl) dX0_told_62) hS (fun r3 M3 hw H locs hP hS => ?_)
    obtain ⟨hw, hz3⟩ := hw
    refine lv_if_eq (tgt := 75) C.1 C.2.1 dX0_told_65 (by decide) (fun h4 => ?_) (fun h4 => ?_)
    · have hw := hw.1 h4
      refine lv_bipush (v := (-2)) C.1 C.2.1 dX0_told_75 (by decide) ?_
      exact retI (wf := (xw g)) C hP hS hw dX0_told_77
    · have hw := hw.2 h4
      refine lv_aload_n C.1 C.2.1 dX0_told_68 rfl (lv_at hl 0 rfl) ?_
      refine gX0_38 C hP ha0 dX0_told_69 ?_
      refine lv_goto (tgt := 77) C.1 C.2.1 dX0_told_72 (by decide) ?_
      exact retI (wf := (xw g)) C hP hS hw dX0_told_77
  by_cases q1_2 : a1 = 2
  · have hw := hw.2.2.1 q1_2
    refine lv_tableIn (tgt := 78) (off := 77) C.1 C.2.1 dX0_told_1 (by rw [q1_2]; decide) (by rw [q1_2]; decide) (by rw [q1_2]; decide +kernel) (by decide) ?_
    refine lv_aload_n C.1 C.2.1 dX0_told_78 rfl (lv_at hl 0 rfl) ?_
    refine goI (wf := (xw g)) (runV (w := xw g M) (As := []) (rest := []) C lkX0_41 (c_X0_isHeard l g C.2.2.2.2.2.2.2.2.2.2 a0 ha0 M _ hw) hP hS rfl rfl ⟨Nat.le_of_ble_eq_true rfl, Nat.le_of_ble_eq_true rfl⟩ (xx_25 ha0) rfl rfl hl.1 rfl (Nat.le_of_ble_eq_true rfl) dX0_told_79) hS (fun r5 M5 hw H locs hP hS => ?_)
    obtain ⟨hw, hz5⟩ := hw
    refine lv_if_eq (tgt := 92) C.1 C.2.1 dX0_told_82 (by decide) (fun h6 => ?_) (fun h6 => ?_)
    · have hw := hw.1 h6
      refine lv_bipush (v := (-2)) C.1 C.2.1 dX0_told_92 (by decide) ?_
      exact retI (wf := (xw g)) C hP hS hw dX0_told_94
    · have hw := hw.2 h6
      refine lv_aload_n C.1 C.2.1 dX0_told_85 rfl (lv_at hl 0 rfl) ?_
      refine gX0_45 C hP ha0 dX0_told_86 ?_
      refine lv_goto (tgt := 94) C.1 C.2.1 dX0_told_89 (by decide) ?_
      exact retI (wf := (xw g)) C hP hS hw dX0_told_94
  by_cases q1_3 : a1 = 3
  · have hw := hw.2.2.2.1 q1_3
    refine lv_tableIn (tgt := 95) (off := 94) C.1 C.2.1 dX0_told_1 (by rw [q1_3]; decide) (by rw [q1_3]; decide) (by rw [q1_3]; decide +kernel) (by decide) ?_
    refine lv_aload_n C.1 C.2.1 dX0_told_95 rfl (lv_at hl 0 rfl) ?_
    refine goI (wf := (xw g)) (runV (w := xw g M) (As := []) (rest := []) C lkX0_41 (c_X0_isHeard l g C.2.2.2.2.2.2.2.2.2.2 a0 ha0 M _ hw) hP hS rfl rfl ⟨Nat.le_of_ble_eq_true rfl, Nat.le_of_ble_eq_true rfl⟩ (xx_25 ha0) rfl rfl hl.1 rfl (Nat.le_of_ble_eq_true rfl) dX0_told_96) hS (fun r7 M7 hw H locs hP hS => ?_)
    obtain ⟨hw, hz7⟩ := hw
    refine lv_if_eq (tgt := 109) C.1 C.2.1 dX0_told_99 (by decide) (fun h8 => ?_) (fun h8 => ?_)
    · have hw := hw.1 h8
      refine lv_bipush (v := (-2)) C.1 C.2.1 dX0_told_109 (by decide) ?_
      exact retI (wf := (xw g)) C hP hS hw dX0_told_111
    · have hw := hw.2 h8
      refine lv_aload_n C.1 C.2.1 dX0_told_102 rfl (lv_at hl 0 rfl) ?_
      refine gX0_48 C hP ha0 dX0_told_103 ?_
      refine lv_goto (tgt := 111) C.1 C.2.1 dX0_told_106 (by decide) ?_
      exact retI (wf := (xw g)) C hP hS hw dX0_told_111
  by_cases q1_4 : a1 = 4
  · have hw := hw.2.2.2.2.1 q1_4
    refine lv_tableIn (tgt := 112) (off := 111) C.1 C.2.1 dX0_told_1 (by rw [q1_4]; decide) (by rw [q1_4]; decide) (by rw [q1_4]; decide +kernel) (by decide) ?_
    refine lv_aload_n C.1 C.2.1 dX0_told_112 rfl (lv_at hl 0 rfl) ?_
    refine goI (wf := (xw g)) (runV (w := xw g M) (As := []) (rest := []) C lkX0_41 (c_X0_isHeard l g C.2.2.2.2.2.2.2.2.2.2 a0 ha0 M _ hw) hP hS rfl rfl ⟨Nat.le_of_ble_eq_true rfl, Nat.le_of_ble_eq_true rfl⟩ (xx_25 ha0) rfl rfl hl.1 rfl (Nat.le_of_ble_eq_true rfl) dX0_told_113) hS (fun r9 M9 hw H locs hP hS => ?_)
    obtain ⟨hw, hz9⟩ := hw
    refine lv_if_eq (tgt := 126) C.1 C.2.1 dX0_told_116 (by decide) (fun h10 => ?_) (fun h10 => ?_)
    · have hw := hw.1 h10
      refine lv_bipush (v := (-2)) C.1 C.2.1 dX0_told_126 (by decide) ?_
      exact retI (wf := (xw g)) C hP hS hw dX0_told_128
    · have hw := hw.2 h10
      refine lv_aload_n C.1 C.2.1 dX0_told_119 rfl (lv_at hl 0 rfl) ?_
      refine gX0_22 C hP ha0 dX0_told_120 ?_
      refine lv_goto (tgt := 128) C.1 C.2.1 dX0_told_123 (by decide) ?_
      exact retI (wf := (xw g)) C hP hS hw dX0_told_128
  by_cases q1_5 : a1 = 5
  · have hw := hw.2.2.2.2.2.1 q1_5
    refine lv_tableIn (tgt := 129) (off := 128) C.1 C.2.1 dX0_told_1 (by rw [q1_5]; decide) (by rw [q1_5]; decide) (by rw [q1_5]; decide +kernel) (by decide) ?_
    refine lv_aload_n C.1 C.2.1 dX0_told_129 rfl (lv_at hl 0 rfl) ?_
    refine gX0_25 C hP ha0 dX0_told_130 ?_
    refine lv_if_le (tgt := 143) C.1 C.2.1 dX0_told_133 (by decide) (fun h11 => ?_) (fun h11 => ?_)
    · have hw := hw.1 h11
      refine lv_bipush (v := (-2)) C.1 C.2.1 dX0_told_143 (by decide) ?_
      exact retI (wf := (xw g)) C hP hS hw dX0_told_145
    · have hw := hw.2 h11
      refine lv_aload_n C.1 C.2.1 dX0_told_136 rfl (lv_at hl 0 rfl) ?_
      refine gX0_25 C hP ha0 dX0_told_137 ?_
      refine lv_goto (tgt := 145) C.1 C.2.1 dX0_told_140 (by decide) ?_
      exact retI (wf := (xw g)) C hP hS hw dX0_told_145
  by_cases q1_6 : a1 = 6
  · have hw := hw.2.2.2.2.2.2.1 q1_6
    refine lv_tableIn (tgt := 146) (off := 145) C.1 C.2.1 dX0_told_1 (by rw [q1_6]; decide) (by rw [q1_6]; decide) (by rw [q1_6]; decide +kernel) (by decide) ?_
    refine lv_aload_n C.1 C.2.1 dX0_told_146 rfl (lv_at hl 0 rfl) ?_
    refine gX0_28 C hP ha0 dX0_told_147 ?_
    refine lv_if_le (tgt := 160) C.1 C.2.1 dX0_told_150 (by decide) (fun h12 => ?_) (fun h12 => ?_)
    · have hw := hw.1 h12
      refine lv_bipush (v := (-2)) C.1 C.2.1 dX0_told_160 (by decide) ?_
      exact retI (wf := (xw g)) C hP hS hw dX0_told_162
    · have hw := hw.2 h12
      refine lv_aload_n C.1 C.2.1 dX0_told_153 rfl (lv_at hl 0 rfl) ?_
      refine gX0_28 C hP ha0 dX0_told_154 ?_
      refine lv_goto (tgt := 162) C.1 C.2.1 dX0_told_157 (by decide) ?_
      exact retI (wf := (xw g)) C hP hS hw dX0_told_162
  by_cases q1_7 : a1 = 7
  · have hw := hw.2.2.2.2.2.2.2.1 q1_7
    refine lv_tableIn (tgt := 163) (off := 162) C.1 C.2.1 dX0_told_1 (by rw [q1_7]; decide) (by rw [q1_7]; decide) (by rw [q1_7]; decide +kernel) (by decide) ?_
    refine lv_aload_n C.1 C.2.1 dX0_told_163 rfl (lv_at hl 0 rfl) ?_
    refine gX0_35 C hP ha0 dX0_told_164 ?_
    exact retI (wf := (xw g)) C hP hS hw dX0_told_167
  by_cases q1_8 : a1 = 8
  · have hw := hw.2.2.2.2.2.2.2.2.1 q1_8
    refine lv_tableIn (tgt := 168) (off := 167) C.1 C.2.1 dX0_told_1 (by rw [q1_8]; decide) (by rw [q1_8]; decide) (by rw [q1_8]; decide +kernel) (by decide) ?_
    refine lv_aload_n C.1 C.2.1 dX0_told_168 rfl (lv_at hl 0 rfl) ?_
    refine gX0_31 C hP ha0 dX0_told_169 ?_
    refine lv_if_eq (tgt := 182) C.1 C.2.1 dX0_told_172 (by decide) (fun h13 => ?_) (fun h13 => ?_)
    · have hw := hw.1 h13
      refine lv_bipush (v := (-2)) C.1 C.2.1 dX0_told_182 (by decide) ?_
      exact retI (wf := (xw g)) C hP hS hw dX0_told_184
    · have hw := hw.2 h13
      refine lv_aload_n C.1 C.2.1 dX0_told_175 rfl (lv_at hl 0 rfl) ?_
      refine gX0_51 C hP ha0 dX0_told_176 ?_
      refine lv_goto (tgt := 184) C.1 C.2.1 dX0_told_179 (by decide) ?_
      exact retI (wf := (xw g)) C hP hS hw dX0_told_184
  by_cases q1_9 : a1 = 9
  · have hw := hw.2.2.2.2.2.2.2.2.2.1 q1_9
    refine lv_tableIn (tgt := 185) (off := 184) C.1 C.2.1 dX0_told_1 (by rw [q1_9]; decide) (by rw [q1_9]; decide) (by rw [q1_9]; decide +kernel) (by decide) ?_
    refine lv_aload_n C.1 C.2.1 dX0_told_185 rfl (lv_at hl 0 rfl) ?_
    refine gX0_31 C hP ha0 dX0_told_186 ?_
    refine lv_if_eq (tgt := 199) C.1 C.2.1 dX0_told_189 (by decide) (fun h14 => ?_) (fun h14 => ?_)
    · have hw := hw.1 h14
      refine lv_bipush (v := (-2)) C.1 C.2.1 dX0_told_199 (by decide) ?_
      exact retI (wf := (xw g)) C hP hS hw dX0_told_201
    · have hw := hw.2 h14
      refine lv_aload_n C.1 C.2.1 dX0_told_192 rfl (lv_at hl 0 rfl) ?_
      refine gX0_54 C hP ha0 dX0_told_193 ?_
      refine lv_goto (tgt := 201) C.1 C.2.1 dX0_told_196 (by decide) ?_
      exact retI (wf := (xw g)) C hP hS hw dX0_told_201
  have hw := hw.2.2.2.2.2.2.2.2.2.2 q1_0 q1_1 q1_2 q1_3 q1_4 q1_5 q1_6 q1_7 q1_8 q1_9
  have n1_0 : a1.toInt ≠ 0 := tsw q1_0
  have n1_1 : a1.toInt ≠ 1 := tsw q1_1
  have n1_2 : a1.toInt ≠ 2 := tsw q1_2
  have n1_3 : a1.toInt ≠ 3 := tsw q1_3
  have n1_4 : a1.toInt ≠ 4 := tsw q1_4
  have n1_5 : a1.toInt ≠ 5 := tsw q1_5
  have n1_6 : a1.toInt ≠ 6 := tsw q1_6
  have n1_7 : a1.toInt ≠ 7 := tsw q1_7
  have n1_8 : a1.toInt ≠ 8 := tsw q1_8
  have n1_9 : a1.toInt ≠ 9 := tsw q1_9
  refine lv_tableOut (tgt := 202) C.1 C.2.1 dX0_told_1 (by omega) (by decide) ?_
  refine lv_aload_n C.1 C.2.1 dX0_told_202 rfl (lv_at hl 0 rfl) ?_
  refine gX0_31 C hP ha0 dX0_told_203 ?_
  refine lv_if_eq (tgt := 216) C.1 C.2.1 dX0_told_206 (by decide) (fun h2 => ?_) (fun h2 => ?_)
  · have hw := hw.1 h2
    refine lv_bipush (v := (-2)) C.1 C.2.1 dX0_told_216 (by decide) ?_
    exact retI (wf := (xw g)) C hP hS hw dX0_told_218
  · have hw := hw.2 h2
    refine lv_aload_n C.1 C.2.1 dX0_told_209 rfl (lv_at hl 0 rfl) ?_
    refine gX0_57 C hP ha0 dX0_told_210 ?_
    refine lv_goto (tgt := 218) C.1 C.2.1 dX0_told_213 (by decide) ?_
    exact retI (wf := (xw g)) C hP hS hw dX0_told_218
def p_X1_begin (a0 : Nat) (a1 : Int32) (a2 : Int32) (a3 : Int32) (a4 : Int32) (M : Mem) (Q : Mem → Prop) : Prop := (∀ M1 : Mem, M1 = sI M 30 a0 0 a1 → (∀ M2 : Mem, M2 = sI M1 30 a0 1 ((a2 - a2 / 62 * 62) * 4) → (∀ M3 : Mem, M3 = sI M2 30 a0 2 (a2 / 62) → (∀ M4 : Mem, M4 = sI M3 30 a0 3 0 → (∀ M5 : Mem, M5 = sI M4 30 a0 4 a3 → (∀ M6 : Mem, M6 = sI M5 30 a0 5 a4 → (∀ M7 : Mem, M7 = sI M6 30 a0 6 0 → (∀ M8 : Mem, M8 = sI M7 30 a0 7 (-2) → (∀ M9 : Mem, M9 = sL M8 30 a0 8 0 → (∀ M10 : Mem, M10 = sI M9 30 a0 9 0 → (Q M10)))))))))))
set_option maxRecDepth 100000 in
set_option maxHeartbeats 4000000 in
theorem c_X1_begin (l : Launch) (g : Geo) (gi : GI g) (a0 : Nat) (a1 : Int32) (a2 : Int32) (a3 : Int32) (a4 : Int32) (ha0 : a0 < 52) (M : Mem) (Q : Mem → Prop) (hw : p_X1_begin a0 a1 a2 a3 a4 M Q) : Met l yX1_begin (Cond.code yX1_begin cX1_begin 5 none :: bg) ({ frames := 0, cells := 0, slots := 0, locals := 0 } : Room) (va_Pc [.ref (g.2.1 (86 + a0)), .int a1, .int a2, .int a3, .int a4] (PW g (xw g M))) (va_Qv Q (PB g (xw g)) (Af 0 g)) 0 0 (Af 0 g) := by
  refine Met.ofW (cc := cX1_begin) (maxL := 5) (ret := none) (by decide +kernel) rfl ?_
  intro p e s m args below meth c s₁ B hml hv
  obtain ⟨rfl, hv⟩ := hv
  have C := CX.start (own := RX1) B hml rfl gi hv
  have hP := hv.1
  have hS : va_S (Af 0 g) s.heap s.heap [] := va_S.rf
  have hl := lv_entry ([.ref (g.2.1 (86 + a0)), .int a1, .int a2, .int a3, .int a4]) (n := 5) (Nat.le_of_ble_eq_true rfl)
  rw [lg_entry_eq]
  generalize (lg_sl ([.ref (g.2.1 (86 + a0)), .int a1, .int a2, .int a3, .int a4]) ++ List.replicate (5 - (lg_sl ([.ref (g.2.1 (86 + a0)), .int a1, .int a2, .int a3, .int a4])).length) Slot.unset).toArray = ls at hl ⊢
  have hl : lv_has ls 5 [(0, .ref (g.2.1 (86 + a0))), (1, .int a1), (2, .int a2), (3, .int a3), (4, .int a4)] := hl
  unfold p_X1_begin at hw
  refine lv_aload_n C.1 C.2.1 dX1_begin_0 rfl (lv_at hl 0 rfl) ?_
  refine lv_iload_n C.1 C.2.1 dX1_begin_1 rfl (lv_at hl 1 rfl) ?_
  refine pX1_9 C hP hS ha0 dX1_begin_2 (fun M1 e1 H locs hP hS => ?_)
  have hw := hw M1 e1
  refine lv_aload_n C.1 C.2.1 dX1_begin_5 rfl (lv_at hl 0 rfl) ?_
  refine lv_iload_n C.1 C.2.1 dX1_begin_6 rfl (lv_at hl 2 rfl) ?_
  refine lv_bipush (v := 62) C.1 C.2.1 dX1_begin_7 (by decide) ?_
  refine lv_irem C.1 C.2.1 dX1_begin_9 (by decide) ?_
  refine lv_iconst (v := 4) C.1 C.2.1 dX1_begin_10 (by decide) ?_
  refine lv_imul C.1 C.2.1 dX1_begin_11 ?_
  refine pX1_15 C hP hS ha0 dX1_begin_12 (fun M2 e2 H locs hP hS => ?_)
  have hw := hw M2 e2
  refine lv_aload_n C.1 C.2.1 dX1_begin_15 rfl (lv_at hl 0 rfl) ?_
  refine lv_iload_n C.1 C.2.1 dX1_begin_16 rfl (lv_at hl 2 rfl) ?_
  refine lv_bipush (v := 62) C.1 C.2.1 dX1_begin_17 (by decide) ?_
  refine lv_idiv C.1 C.2.1 dX1_begin_19 (by decide) ?_
  refine pX1_18 C hP hS ha0 dX1_begin_20 (fun M3 e3 H locs hP hS => ?_)
  have hw := hw M3 e3
  refine lv_aload_n C.1 C.2.1 dX1_begin_23 rfl (lv_at hl 0 rfl) ?_
  refine lv_iconst (v := 0) C.1 C.2.1 dX1_begin_24 (by decide) ?_
  refine pX1_21 C hP hS ha0 dX1_begin_25 (fun M4 e4 H locs hP hS => ?_)
  have hw := hw M4 e4
  refine lv_aload_n C.1 C.2.1 dX1_begin_28 rfl (lv_at hl 0 rfl) ?_
  refine lv_iload_n C.1 C.2.1 dX1_begin_29 rfl (lv_at hl 3 rfl) ?_
  refine pX1_24 C hP hS ha0 dX1_begin_30 (fun M5 e5 H locs hP hS => ?_)
  have hw := hw M5 e5
  refine lv_aload_n C.1 C.2.1 dX1_begin_33 rfl (lv_at hl 0 rfl) ?_
  refine lv_iload C.1 C.2.1 dX1_begin_34 (lv_at hl 4 rfl) ?_
  refine pX1_27 C hP hS ha0 dX1_begin_36 (fun M6 e6 H locs hP hS => ?_)
  have hw := hw M6 e6
  refine lv_aload_n C.1 C.2.1 dX1_begin_39 rfl (lv_at hl 0 rfl) ?_
  refine lv_iconst (v := 0) C.1 C.2.1 dX1_begin_40 (by decide) ?_
  refine pX1_30 C hP hS ha0 dX1_begin_41 (fun M7 e7 H locs hP hS => ?_)
  have hw := hw M7 e7
  refine lv_aload_n C.1 C.2.1 dX1_begin_44 rfl (lv_at hl 0 rfl) ?_
  refine lv_bipush (v := (-2)) C.1 C.2.1 dX1_begin_45 (by decide) ?_
  refine pX1_33 C hP hS ha0 dX1_begin_47 (fun M8 e8 H locs hP hS => ?_)
  have hw := hw M8 e8
  refine lv_aload_n C.1 C.2.1 dX1_begin_50 rfl (lv_at hl 0 rfl) ?_
  refine lv_lconst (v := 0) C.1 C.2.1 dX1_begin_51 (by decide) ?_
  refine pX1_36 C hP hS ha0 dX1_begin_52 (fun M9 e9 H locs hP hS => ?_)
  have hw := hw M9 e9
  refine lv_aload_n C.1 C.2.1 dX1_begin_55 rfl (lv_at hl 0 rfl) ?_
  refine lv_iconst (v := 0) C.1 C.2.1 dX1_begin_56 (by decide) ?_
  refine pX1_40 C hP hS ha0 dX1_begin_57 (fun M10 e10 H locs hP hS => ?_)
  have hw := hw M10 e10
  exact retV (wf := (xw g)) C hP hS hw dX1_begin_60
def p_X1_copyFrom (a0 : Nat) (a1 : Nat) (M : Mem) (Q : Mem → Prop) : Prop := (∀ M1 : Mem, M1 = sI M 30 a0 0 (M.1 30 a1 0) → (∀ M2 : Mem, M2 = sI M1 30 a0 1 (M1.1 30 a1 1) → (∀ M3 : Mem, M3 = sI M2 30 a0 2 (M2.1 30 a1 2) → (∀ M4 : Mem, M4 = sI M3 30 a0 3 (M3.1 30 a1 3) → (∀ M5 : Mem, M5 = sI M4 30 a0 4 (M4.1 30 a1 4) → (∀ M6 : Mem, M6 = sI M5 30 a0 5 (M5.1 30 a1 5) → (∀ M7 : Mem, M7 = sI M6 30 a0 6 (M6.1 30 a1 6) → (∀ M8 : Mem, M8 = sI M7 30 a0 7 (M7.1 30 a1 7) → (∀ M9 : Mem, M9 = sL M8 30 a0 8 (M8.2.1 30 a1 8) → (∀ M10 : Mem, M10 = sI M9 30 a0 9 (M9.1 30 a1 9) → (Q M10)))))))))))
set_option maxRecDepth 100000 in
set_option maxHeartbeats 4000000 in
theorem c_X1_copyFrom (l : Launch) (g : Geo) (gi : GI g) (a0 : Nat) (a1 : Nat) (ha0 : a0 < 52) (ha1 : a1 < 52) (M : Mem) (Q : Mem → Prop) (hw : p_X1_copyFrom a0 a1 M Q) : Met l yX1_copyFrom (Cond.code yX1_copyFrom cX1_copyFrom 2 none :: bg) ({ frames := 0, cells := 0, slots := 0, locals := 0 } : Room) (va_Pc [.ref (g.2.1 (86 + a0)), .ref (g.2.1 (86 + a1))] (PW g (xw g M))) (va_Qv Q (PB g (xw g)) (Af 0 g)) 0 0 (Af 0 g) := by
  refine Met.ofW (cc := cX1_copyFrom) (maxL := 2) (ret := none) (by decide +kernel) rfl ?_
  intro p e s m args below meth c s₁ B hml hv
  obtain ⟨rfl, hv⟩ := hv
  have C := CX.start (own := RX1) B hml rfl gi hv
  have hP := hv.1
  have hS : va_S (Af 0 g) s.heap s.heap [] := va_S.rf
  have hl := lv_entry ([.ref (g.2.1 (86 + a0)), .ref (g.2.1 (86 + a1))]) (n := 2) (Nat.le_of_ble_eq_true rfl)
  rw [lg_entry_eq]
  generalize (lg_sl ([.ref (g.2.1 (86 + a0)), .ref (g.2.1 (86 + a1))]) ++ List.replicate (2 - (lg_sl ([.ref (g.2.1 (86 + a0)), .ref (g.2.1 (86 + a1))])).length) Slot.unset).toArray = ls at hl ⊢
  have hl : lv_has ls 2 [(0, .ref (g.2.1 (86 + a0))), (1, .ref (g.2.1 (86 + a1)))] := hl
  unfold p_X1_copyFrom at hw
  refine lv_aload_n C.1 C.2.1 dX1_copyFrom_0 rfl (lv_at hl 0 rfl) ?_
  refine lv_aload_n C.1 C.2.1 dX1_copyFrom_1 rfl (lv_at hl 1 rfl) ?_
  refine gX1_9 C hP ha1 dX1_copyFrom_2 ?_
  refine pX1_9 C hP hS ha0 dX1_copyFrom_5 (fun M1 e1 H locs hP hS => ?_)
  have hw := hw M1 e1
  refine lv_aload_n C.1 C.2.1 dX1_copyFrom_8 rfl (lv_at hl 0 rfl) ?_
  refine lv_aload_n C.1 C.2.1 dX1_copyFrom_9 rfl (lv_at hl 1 rfl) ?_
  refine gX1_15 C hP ha1 dX1_copyFrom_10 ?_
  refine pX1_15 C hP hS ha0 dX1_copyFrom_13 (fun M2 e2 H locs hP hS => ?_)
  have hw := hw M2 e2
  refine lv_aload_n C.1 C.2.1 dX1_copyFrom_16 rfl (lv_at hl 0 rfl) ?_
  refine lv_aload_n C.1 C.2.1 dX1_copyFrom_17 rfl (lv_at hl 1 rfl) ?_
  refine gX1_18 C hP ha1 dX1_copyFrom_18 ?_
  refine pX1_18 C hP hS ha0 dX1_copyFrom_21 (fun M3 e3 H locs hP hS => ?_)
  have hw := hw M3 e3
  refine lv_aload_n C.1 C.2.1 dX1_copyFrom_24 rfl (lv_at hl 0 rfl) ?_
  refine lv_aload_n C.1 C.2.1 dX1_copyFrom_25 rfl (lv_at hl 1 rfl) ?_
  refine gX1_21 C hP ha1 dX1_copyFrom_26 ?_
  refine pX1_21 C hP hS ha0 dX1_copyFrom_29 (fun M4 e4 H locs hP hS => ?_)
  have hw := hw M4 e4
  refine lv_aload_n C.1 C.2.1 dX1_copyFrom_32 rfl (lv_at hl 0 rfl) ?_
  refine lv_aload_n C.1 C.2.1 dX1_copyFrom_33 rfl (lv_at hl 1 rfl) ?_
  refine gX1_24 C hP ha1 dX1_copyFrom_34 ?_
  refine pX1_24 C hP hS ha0 dX1_copyFrom_37 (fun M5 e5 H locs hP hS => ?_)
  have hw := hw M5 e5
  refine lv_aload_n C.1 C.2.1 dX1_copyFrom_40 rfl (lv_at hl 0 rfl) ?_
  refine lv_aload_n C.1 C.2.1 dX1_copyFrom_41 rfl (lv_at hl 1 rfl) ?_
  refine gX1_27 C hP ha1 dX1_copyFrom_42 ?_
  refine pX1_27 C hP hS ha0 dX1_copyFrom_45 (fun M6 e6 H locs hP hS => ?_)
  have hw := hw M6 e6
  refine lv_aload_n C.1 C.2.1 dX1_copyFrom_48 rfl (lv_at hl 0 rfl) ?_
  refine lv_aload_n C.1 C.2.1 dX1_copyFrom_49 rfl (lv_at hl 1 rfl) ?_
  refine gX1_30 C hP ha1 dX1_copyFrom_50 ?_
  refine pX1_30 C hP hS ha0 dX1_copyFrom_53 (fun M7 e7 H locs hP hS => ?_)
  have hw := hw M7 e7
  refine lv_aload_n C.1 C.2.1 dX1_copyFrom_56 rfl (lv_at hl 0 rfl) ?_
  refine lv_aload_n C.1 C.2.1 dX1_copyFrom_57 rfl (lv_at hl 1 rfl) ?_
  refine gX1_33 C hP ha1 dX1_copyFrom_58 ?_
  refine pX1_33 C hP hS ha0 dX1_copyFrom_61 (fun M8 e8 H locs hP hS => ?_)
  have hw := hw M8 e8
  refine lv_aload_n C.1 C.2.1 dX1_copyFrom_64 rfl (lv_at hl 0 rfl) ?_
  refine lv_aload_n C.1 C.2.1 dX1_copyFrom_65 rfl (lv_at hl 1 rfl) ?_
  refine gX1_36 C hP ha1 dX1_copyFrom_66 ?_
  refine pX1_36 C hP hS ha0 dX1_copyFrom_69 (fun M9 e9 H locs hP hS => ?_)
  have hw := hw M9 e9
  refine lv_aload_n C.1 C.2.1 dX1_copyFrom_72 rfl (lv_at hl 0 rfl) ?_
  refine lv_aload_n C.1 C.2.1 dX1_copyFrom_73 rfl (lv_at hl 1 rfl) ?_
  refine gX1_40 C hP ha1 dX1_copyFrom_74 ?_
  refine pX1_40 C hP hS ha0 dX1_copyFrom_77 (fun M10 e10 H locs hP hS => ?_)
  have hw := hw M10 e10
  exact retV (wf := (xw g)) C hP hS hw dX1_copyFrom_80
def p_X1_isLost (a0 : Nat) (M : Mem) (Q : Int32 → Mem → Prop) : Prop := (((M.1 30 a0 7) = (-2) → (Q 0 M)) ∧ (¬ (M.1 30 a0 7) = (-2) → (Q 1 M)))
set_option maxRecDepth 100000 in
set_option maxHeartbeats 4000000 in
theorem c_X1_isLost (l : Launch) (g : Geo) (gi : GI g) (a0 : Nat) (ha0 : a0 < 52) (M : Mem) (Q : Int32 → Mem → Prop) (hw : p_X1_isLost a0 M Q) : Met l yX1_isLost (Cond.code yX1_isLost cX1_isLost 1 (some .boolean) :: bg) ({ frames := 0, cells := 0, slots := 0, locals := 0 } : Room) (va_Pc [.ref (g.2.1 (86 + a0))] (PW g (xw g M))) (va_Qi (fun r M => Q r M ∧ narrow .boolean (.int r) = .int r) (PB g (xw g)) (Af 0 g)) 0 0 (Af 0 g) := by
  refine Met.ofW (cc := cX1_isLost) (maxL := 1) (ret := (some .boolean)) (by decide +kernel) rfl ?_
  intro p e s m args below meth c s₁ B hml hv
  obtain ⟨rfl, hv⟩ := hv
  have C := CX.start (own := RX1) B hml rfl gi hv
  have hP := hv.1
  have hS : va_S (Af 0 g) s.heap s.heap [] := va_S.rf
  have hl := lv_entry ([.ref (g.2.1 (86 + a0))]) (n := 1) (Nat.le_of_ble_eq_true rfl)
  rw [lg_entry_eq]
  generalize (lg_sl ([.ref (g.2.1 (86 + a0))]) ++ List.replicate (1 - (lg_sl ([.ref (g.2.1 (86 + a0))])).length) Slot.unset).toArray = ls at hl ⊢
  have hl : lv_has ls 1 [(0, .ref (g.2.1 (86 + a0)))] := hl
  unfold p_X1_isLost at hw
  refine lv_aload_n C.1 C.2.1 dX1_isLost_0 rfl (lv_at hl 0 rfl) ?_
  refine gX1_33 C hP ha0 dX1_isLost_1 ?_
  refine lv_bipush (v := (-2)) C.1 C.2.1 dX1_isLost_4 (by decide) ?_
  refine lv_icmp_eq (tgt := 13) C.1 C.2.1 dX1_isLost_6 (by decide) (fun h1 => ?_) (fun h1 => ?_)
  · have hw := hw.1 h1
    refine lv_iconst (v := 0) C.1 C.2.1 dX1_isLost_13 (by decide) ?_
    exact retZ (wf := (xw g)) C hP hS rfl hw dX1_isLost_14
  · have hw := hw.2 h1
    refine lv_iconst (v := 1) C.1 C.2.1 dX1_isLost_9 (by decide) ?_
    refine lv_goto (tgt := 14) C.1 C.2.1 dX1_isLost_10 (by decide) ?_
    exact retZ (wf := (xw g)) C hP hS rfl hw dX1_isLost_14
def p_X1_canFollow (a0 : Nat) (M : Mem) (Q : Int32 → Mem → Prop) : Prop := (p_X1_isLost a0 M (fun r1 M1 => ((¬ r1 = 0 → (Q 0 M1)) ∧ (r1 = 0 → ((200 ≤ (M1.1 30 a0 5) → (Q 0 M1)) ∧ (¬ 200 ≤ (M1.1 30 a0 5) → (Q 1 M1)))))))
set_option maxRecDepth 100000 in
set_option maxHeartbeats 4000000 in
theorem c_X1_canFollow (l : Launch) (g : Geo) (gi : GI g) (a0 : Nat) (ha0 : a0 < 52) (M : Mem) (Q : Int32 → Mem → Prop) (hw : p_X1_canFollow a0 M Q) : Met l yX1_canFollow (Cond.code yX1_canFollow cX1_canFollow 1 (some .boolean) :: bg) ({ frames := 1, cells := 0, slots := 0, locals := 20 } : Room) (va_Pc [.ref (g.2.1 (86 + a0))] (PW g (xw g M))) (va_Qi (fun r M => Q r M ∧ narrow .boolean (.int r) = .int r) (PB g (xw g)) (Af 0 g)) 0 0 (Af 0 g) := by
  refine Met.ofW (cc := cX1_canFollow) (maxL := 1) (ret := (some .boolean)) (by decide +kernel) rfl ?_
  intro p e s m args below meth c s₁ B hml hv
  obtain ⟨rfl, hv⟩ := hv
  have C := CX.start (own := RX1) B hml rfl gi hv
  have hP := hv.1
  have hS : va_S (Af 0 g) s.heap s.heap [] := va_S.rf
  have hl := lv_entry ([.ref (g.2.1 (86 + a0))]) (n := 1) (Nat.le_of_ble_eq_true rfl)
  rw [lg_entry_eq]
  generalize (lg_sl ([.ref (g.2.1 (86 + a0))]) ++ List.replicate (1 - (lg_sl ([.ref (g.2.1 (86 + a0))])).length) Slot.unset).toArray = ls at hl ⊢
  have hl : lv_has ls 1 [(0, .ref (g.2.1 (86 + a0)))] := hl
  unfold p_X1_canFollow at hw
  refine lv_aload_n C.1 C.2.1 dX1_canFollow_0 rfl (lv_at hl 0 rfl) ?_
  refine goI (wf := (xw g)) (runV (w := xw g M) (As := []) (rest := []) C lkX1_43 (c_X1_isLost l g C.2.2.2.2.2.2.2.2.2.2 a0 ha0 M _ hw) hP hS rfl rfl ⟨Nat.le_of_ble_eq_true rfl, Nat.le_of_ble_eq_true rfl⟩ (xx_30 ha0) rfl rfl hl.1 rfl (Nat.le_of_ble_eq_true rfl) dX1_canFollow_1) hS (fun r1 M1 hw H locs hP hS => ?_)
  obtain ⟨hw, hz1⟩ := hw
  refine lv_if_ne (tgt := 21) C.1 C.2.1 dX1_canFollow_4 (by decide) (fun h2 => ?_) (fun h2 => ?_)
  · have hw := hw.1 h2
    refine lv_iconst (v := 0) C.1 C.2.1 dX1_canFollow_21 (by decide) ?_
    exact retZ (wf := (xw g)) C hP hS rfl hw dX1_canFollow_22
  · have hw := hw.2 h2
    refine lv_aload_n C.1 C.2.1 dX1_canFollow_7 rfl (lv_at hl 0 rfl) ?_
    refine gX1_27 C hP ha0 dX1_canFollow_8 ?_
    refine lv_sipush (v := 200) C.1 C.2.1 dX1_canFollow_11 (by decide) ?_
    refine lv_icmp_ge (tgt := 21) C.1 C.2.1 dX1_canFollow_14 (by decide) (fun h3 => ?_) (fun h3 => ?_)
    · have hw := hw.1 h3
      refine lv_iconst (v := 0) C.1 C.2.1 dX1_canFollow_21 (by decide) ?_
      exact retZ (wf := (xw g)) C hP hS rfl hw dX1_canFollow_22
    · have hw := hw.2 h3
      refine lv_iconst (v := 1) C.1 C.2.1 dX1_canFollow_17 (by decide) ?_
      refine lv_goto (tgt := 22) C.1 C.2.1 dX1_canFollow_18 (by decide) ?_
      exact retZ (wf := (xw g)) C hP hS rfl hw dX1_canFollow_22
def p_X1_startOfPoint (a0 : Nat) (M : Mem) (Q : Int32 → Mem → Prop) : Prop := (Q ((M.1 30 a0 1) / 4) M)
set_option maxRecDepth 100000 in
set_option maxHeartbeats 4000000 in
theorem c_X1_startOfPoint (l : Launch) (g : Geo) (gi : GI g) (a0 : Nat) (ha0 : a0 < 52) (M : Mem) (Q : Int32 → Mem → Prop) (hw : p_X1_startOfPoint a0 M Q) : Met l yX1_startOfPoint (Cond.code yX1_startOfPoint cX1_startOfPoint 1 (some .int) :: bg) ({ frames := 0, cells := 0, slots := 0, locals := 0 } : Room) (va_Pc [.ref (g.2.1 (86 + a0))] (PW g (xw g M))) (va_Qi Q (PB g (xw g)) (Af 0 g)) 0 0 (Af 0 g) := by
  refine Met.ofW (cc := cX1_startOfPoint) (maxL := 1) (ret := (some .int)) (by decide +kernel) rfl ?_
  intro p e s m args below meth c s₁ B hml hv
  obtain ⟨rfl, hv⟩ := hv
  have C := CX.start (own := RX1) B hml rfl gi hv
  have hP := hv.1
  have hS : va_S (Af 0 g) s.heap s.heap [] := va_S.rf
  have hl := lv_entry ([.ref (g.2.1 (86 + a0))]) (n := 1) (Nat.le_of_ble_eq_true rfl)
  rw [lg_entry_eq]
  generalize (lg_sl ([.ref (g.2.1 (86 + a0))]) ++ List.replicate (1 - (lg_sl ([.ref (g.2.1 (86 + a0))])).length) Slot.unset).toArray = ls at hl ⊢
  have hl : lv_has ls 1 [(0, .ref (g.2.1 (86 + a0)))] := hl
  unfold p_X1_startOfPoint at hw
  refine lv_aload_n C.1 C.2.1 dX1_startOfPoint_0 rfl (lv_at hl 0 rfl) ?_
  refine gX1_15 C hP ha0 dX1_startOfPoint_1 ?_
  refine lv_iconst (v := 4) C.1 C.2.1 dX1_startOfPoint_4 (by decide) ?_
  refine lv_idiv C.1 C.2.1 dX1_startOfPoint_5 (by decide) ?_
  exact retI (wf := (xw g)) C hP hS hw dX1_startOfPoint_6
def p_X1_movePoint (a0 : Nat) (a1 : Int32) (a2 : Int32) (M : Mem) (Q : Mem → Prop) : Prop := ((a1 ≤ a2 → ((a2 ≤ a1 → (Q M)) ∧ (¬ a2 ≤ a1 → ((¬ (M.1 30 a0 1) = 247 → (∀ M4 : Mem, M4 = sI M 30 a0 1 ((M.1 30 a0 1) + 1) → (Q M4))) ∧ ((M.1 30 a0 1) = 247 → (∀ M5 : Mem, M5 = sI M 30 a0 1 0 → (Q M5))))))) ∧ (¬ a1 ≤ a2 → ((¬ (M.1 30 a0 1) = 0 → (∀ M7 : Mem, M7 = sI M 30 a0 1 ((M.1 30 a0 1) - 1) → (Q M7))) ∧ ((M.1 30 a0 1) = 0 → (∀ M8 : Mem, M8 = sI M 30 a0 1 247 → (Q M8))))))
set_option maxRecDepth 100000 in
set_option maxHeartbeats 4000000 in
theorem c_X1_movePoint (l : Launch) (g : Geo) (gi : GI g) (a0 : Nat) (a1 : Int32) (a2 : Int32) (ha0 : a0 < 52) (M : Mem) (Q : Mem → Prop) (hw : p_X1_movePoint a0 a1 a2 M Q) : Met l yX1_movePoint (Cond.code yX1_movePoint cX1_movePoint 3 none :: bg) ({ frames := 0, cells := 0, slots := 0, locals := 0 } : Room) (va_Pc [.ref (g.2.1 (86 + a0)), .int a1, .int a2] (PW g (xw g M))) (va_Qv Q (PB g (xw g)) (Af 0 g)) 0 0 (Af 0 g) := by
  refine Met.ofW (cc := cX1_movePoint) (maxL := 3) (ret := none) (by decide +kernel) rfl ?_
  intro p e s m args below meth c s₁ B hml hv
  obtain ⟨rfl, hv⟩ := hv
  have C := CX.start (own := RX1) B hml rfl gi hv
  have hP := hv.1
  have hS : va_S (Af 0 g) s.heap s.heap [] := va_S.rf
  have hl := lv_entry ([.ref (g.2.1 (86 + a0)), .int a1, .int a2]) (n := 3) (Nat.le_of_ble_eq_true rfl)
  rw [lg_entry_eq]
  generalize (lg_sl ([.ref (g.2.1 (86 + a0)), .int a1, .int a2]) ++ List.replicate (3 - (lg_sl ([.ref (g.2.1 (86 + a0)), .int a1, .int a2])).length) Slot.unset).toArray = ls at hl ⊢
  have hl : lv_has ls 3 [(0, .ref (g.2.1 (86 + a0))), (1, .int a1), (2, .int a2)] := hl
  unfold p_X1_movePoint at hw
  refine lv_iload_n C.1 C.2.1 dX1_movePoint_0 rfl (lv_at hl 1 rfl) ?_
  refine lv_iload_n C.1 C.2.1 dX1_movePoint_1 rfl (lv_at hl 2 rfl) ?_
  refine lv_icmp_le (tgt := 31) C.1 C.2.1 dX1_movePoint_2 (by decide) (fun h1 => ?_) (fun h1 => ?_)
  · have hw := hw.1 h1
    refine lv_iload_n C.1 C.2.1 dX1_movePoint_31 rfl (lv_at hl 1 rfl) ?_
    refine lv_iload_n C.1 C.2.1 dX1_movePoint_32 rfl (lv_at hl 2 rfl) ?_
    refine lv_icmp_ge (tgt := 60) C.1 C.2.1 dX1_movePoint_33 (by decide) (fun h2 => ?_) (fun h2 => ?_)
    · have hw := hw.1 h2
      exact retV (wf := (xw g)) C hP hS hw dX1_movePoint_60
    · have hw := hw.2 h2
      refine lv_aload_n C.1 C.2.1 dX1_movePoint_36 rfl (lv_at hl 0 rfl) ?_
      refine lv_aload_n C.1 C.2.1 dX1_movePoint_37 rfl (lv_at hl 0 rfl) ?_
      refine gX1_15 C hP ha0 dX1_movePoint_38 ?_
      refine lv_sipush (v := 247) C.1 C.2.1 dX1_movePoint_41 (by decide) ?_
      refine lv_icmp_ne (tgt := 51) C.1 C.2.1 dX1_movePoint_44 (by decide) (fun h3 => ?_) (fun h3 => ?_)
      · have hw := hw.1 h3
        refine lv_aload_n C.1 C.2.1 dX1_movePoint_51 rfl (lv_at hl 0 rfl) ?_
        refine gX1_15 C hP ha0 dX1_movePoint_52 ?_
        refine lv_iconst (v := 1) C.1 C.2.1 dX1_movePoint_55 (by decide) ?_
        refine lv_iadd C.1 C.2.1 dX1_movePoint_56 ?_
        refine pX1_15 C hP hS ha0 dX1_movePoint_57 (fun M4 e4 H locs hP hS => ?_)
        have hw := hw M4 e4
        exact retV (wf := (xw g)) C hP hS hw dX1_movePoint_60
      · have hw := hw.2 h3
        refine lv_iconst (v := 0) C.1 C.2.1 dX1_movePoint_47 (by decide) ?_
        refine lv_goto (tgt := 57) C.1 C.2.1 dX1_movePoint_48 (by decide) ?_
        refine pX1_15 C hP hS ha0 dX1_movePoint_57 (fun M5 e5 H locs hP hS => ?_)
        have hw := hw M5 e5
        exact retV (wf := (xw g)) C hP hS hw dX1_movePoint_60
  · have hw := hw.2 h1
    refine lv_aload_n C.1 C.2.1 dX1_movePoint_5 rfl (lv_at hl 0 rfl) ?_
    refine lv_aload_n C.1 C.2.1 dX1_movePoint_6 rfl (lv_at hl 0 rfl) ?_
    refine gX1_15 C hP ha0 dX1_movePoint_7 ?_
    refine lv_if_ne (tgt := 19) C.1 C.2.1 dX1_movePoint_10 (by decide) (fun h6 => ?_) (fun h6 => ?_)
    · have hw := hw.1 h6
      refine lv_aload_n C.1 C.2.1 dX1_movePoint_19 rfl (lv_at hl 0 rfl) ?_
      refine gX1_15 C hP ha0 dX1_movePoint_20 ?_
      refine lv_iconst (v := 1) C.1 C.2.1 dX1_movePoint_23 (by decide) ?_
      refine lv_isub C.1 C.2.1 dX1_movePoint_24 ?_
      refine pX1_15 C hP hS ha0 dX1_movePoint_25 (fun M7 e7 H locs hP hS => ?_)
      have hw := hw M7 e7
      refine lv_goto (tgt := 60) C.1 C.2.1 dX1_movePoint_28 (by decide) ?_
      exact retV (wf := (xw g)) C hP hS hw dX1_movePoint_60
    · have hw := hw.2 h6
      refine lv_sipush (v := 247) C.1 C.2.1 dX1_movePoint_13 (by decide) ?_
      refine lv_goto (tgt := 25) C.1 C.2.1 dX1_movePoint_16 (by decide) ?_
      refine pX1_15 C hP hS ha0 dX1_movePoint_25 (fun M8 e8 H locs hP hS => ?_)
      have hw := hw M8 e8
      refine lv_goto (tgt := 60) C.1 C.2.1 dX1_movePoint_28 (by decide) ?_
      exact retV (wf := (xw g)) C hP hS hw dX1_movePoint_60
def b_X1_moveTurn_10 (Q : Mem → Prop) (v0 : Nat) (v1 : Int32) (s0 : Int32) (M : Mem) : Prop := ((((2 : Int32) * (if 0 ≤ s0 then s0 else 0 - s0)) ≤ (if 0 ≤ v1 then v1 else 0 - v1) → (Q M)) ∧ (¬ ((2 : Int32) * (if 0 ≤ s0 then s0 else 0 - s0)) ≤ (if 0 ≤ v1 then v1 else 0 - v1) → ((s0 ≤ 0 → (∀ M4 : Mem, M4 = sI M 30 v0 3 ((((M.1 30 v0 3) + 16) - 1) - (((M.1 30 v0 3) + 16) - 1) / 16 * 16) → (Q M4))) ∧ (¬ s0 ≤ 0 → (∀ M5 : Mem, M5 = sI M 30 v0 3 (((M.1 30 v0 3) + 1) - ((M.1 30 v0 3) + 1) / 16 * 16) → (Q M5))))))
set_option maxRecDepth 100000 in
set_option maxHeartbeats 4000000 in
theorem k_X1_moveTurn_10 {p : Program} {l : Launch} {e : Env} {s : State} {m : MethodId} {args : Array Value} {below : List Frame} {meth : Method} {c : Code} {g : Geo} (C : CX g p s m args meth c cX1_moveTurn 4 none RX1) {Q : Mem → Prop} (v0 : Nat) (v1 : Int32) (s0 : Int32) (hv0 : v0 < 52) (M : Mem) (hw : b_X1_moveTurn_10 Q v0 v1 s0 M) {H : Heap} {locs : List Loc} {ls : Array Slot} (hl : lv_has ls 4 [(0, .ref (g.2.1 (86 + v0))), (1, .int v1)]) (hP : va_P g.1 clz (xw g M) H) (hS : va_S (Af 0 g) s.heap H locs) : W p l e ({ frames := 1, cells := 0, slots := 0, locals := 21 } : Room) s m args below meth c H locs 0 0 (MQ below (va_Qv Q (PB g (xw g)) (Af 0 g)) args s 0 0 (Af 0 g)) (F0 m 10 ls [.int s0]) := by
  unfold b_X1_moveTurn_10 at hw
  refine lv_istore_n (lv' := [(3, .int s0), (0, .ref (g.2.1 (86 + v0))), (1, .int v1)]) C.1 C.2.1 dX1_moveTurn_10 rfl hl (by decide) rfl (fun ls hl => ?_)
  refine lv_iconst (v := 2) C.1 C.2.1 dX1_moveTurn_11 (by decide) ?_
  refine lv_iload_n C.1 C.2.1 dX1_moveTurn_12 rfl (lv_at hl 0 rfl) ?_
  refine va_mabs C.1 C.2.1 (C.2.2.1.trans hl.1.symm) C.2.2.2.2.1 (C.2.2.2.2.2.1 _ (bg_of 1015 (by decide +kernel) rfl)) (C.2.2.2.2.2.1 _ (bg_of 788 (by decide +kernel) rfl)) (C.2.2.2.2.2.1 _ (bg_of 108 (by decide +kernel) rfl)) (C.2.2.2.2.2.1 _ (bg_of 789 (by decide +kernel) rfl)) (Nat.le_of_ble_eq_true rfl) (Nat.le_of_ble_eq_true rfl) (Nat.zero_le _) (Nat.zero_le _) dX1_moveTurn_13 ?_
  refine lv_imul C.1 C.2.1 dX1_moveTurn_16 ?_
  refine lv_iload_n C.1 C.2.1 dX1_moveTurn_17 rfl (lv_at hl 2 rfl) ?_
  refine va_mabs C.1 C.2.1 (C.2.2.1.trans hl.1.symm) C.2.2.2.2.1 (C.2.2.2.2.2.1 _ (bg_of 1015 (by decide +kernel) rfl)) (C.2.2.2.2.2.1 _ (bg_of 788 (by decide +kernel) rfl)) (C.2.2.2.2.2.1 _ (bg_of 108 (by decide +kernel) rfl)) (C.2.2.2.2.2.1 _ (bg_of 789 (by decide +kernel) rfl)) (Nat.le_of_ble_eq_true rfl) (Nat.le_of_ble_eq_true rfl) (Nat.zero_le _) (Nat.zero_le _) dX1_moveTurn_18 ?_
  refine lv_icmp_le (tgt := 53) C.1 C.2.1 dX1_moveTurn_21 (by decide) (fun h2 => ?_) (fun h2 => ?_)
  · have hw := hw.1 h2
    exact retV (wf := (xw g)) C hP hS hw dX1_moveTurn_53
  · have hw := hw.2 h2
    refine lv_aload_n C.1 C.2.1 dX1_moveTurn_24 rfl (lv_at hl 1 rfl) ?_
    refine lv_iload_n C.1 C.2.1 dX1_moveTurn_25 rfl (lv_at hl 0 rfl) ?_
    refine lv_if_le (tgt := 38) C.1 C.2.1 dX1_moveTurn_26 (by decide) (fun h3 => ?_) (fun h3 => ?_)
    · have hw := hw.1 h3
      refine lv_aload_n C.1 C.2.1 dX1_moveTurn_38 rfl (lv_at hl 1 rfl) ?_
      refine gX1_21 C hP hv0 dX1_moveTurn_39 ?_
      refine lv_bipush (v := 16) C.1 C.2.1 dX1_moveTurn_42 (by decide) ?_
      refine lv_iadd C.1 C.2.1 dX1_moveTurn_44 ?_
      refine lv_iconst (v := 1) C.1 C.2.1 dX1_moveTurn_45 (by decide) ?_
      refine lv_isub C.1 C.2.1 dX1_moveTurn_46 ?_
      refine lv_bipush (v := 16) C.1 C.2.1 dX1_moveTurn_47 (by decide) ?_
      refine lv_irem C.1 C.2.1 dX1_moveTurn_49 (by decide) ?_
      refine pX1_21 C hP hS hv0 dX1_moveTurn_50 (fun M4 e4 H locs hP hS => ?_)
      have hw := hw M4 e4
      exact retV (wf := (xw g)) C hP hS hw dX1_moveTurn_53
    · have hw := hw.2 h3
      refine lv_aload_n C.1 C.2.1 dX1_moveTurn_29 rfl (lv_at hl 1 rfl) ?_
      refine gX1_21 C hP hv0 dX1_moveTurn_30 ?_
      refine lv_iconst (v := 1) C.1 C.2.1 dX1_moveTurn_33 (by decide) ?_
      refine lv_iadd C.1 C.2.1 dX1_moveTurn_34 ?_
      refine lv_goto (tgt := 47) C.1 C.2.1 dX1_moveTurn_35 (by decide) ?_
      refine lv_bipush (v := 16) C.1 C.2.1 dX1_moveTurn_47 (by decide) ?_
      refine lv_irem C.1 C.2.1 dX1_moveTurn_49 (by decide) ?_
      refine pX1_21 C hP hS hv0 dX1_moveTurn_50 (fun M5 e5 H locs hP hS => ?_)
      have hw := hw M5 e5
      exact retV (wf := (xw g)) C hP hS hw dX1_moveTurn_53
def p_X1_moveTurn (a0 : Nat) (a1 : Int32) (a2 : Int32) (M : Mem) (Q : Mem → Prop) : Prop := ((0 ≤ a1 → (b_X1_moveTurn_10 Q a0 a1 a2 M)) ∧ (¬ 0 ≤ a1 → (b_X1_moveTurn_10 Q a0 a1 ((-a2)) M)))
set_option maxRecDepth 100000 in
set_option maxHeartbeats 4000000 in
theorem c_X1_moveTurn (l : Launch) (g : Geo) (gi : GI g) (a0 : Nat) (a1 : Int32) (a2 : Int32) (ha0 : a0 < 52) (M : Mem) (Q : Mem → Prop) (hw : p_X1_moveTurn a0 a1 a2 M Q) : Met l yX1_moveTurn (Cond.code yX1_moveTurn cX1_moveTurn 4 none :: bg) ({ frames := 1, cells := 0, slots := 0, locals := 21 } : Room) (va_Pc [.ref (g.2.1 (86 + a0)), .int a1, .int a2] (PW g (xw g M))) (va_Qv Q (PB g (xw g)) (Af 0 g)) 0 0 (Af 0 g) := by
  refine Met.ofW (cc := cX1_moveTurn) (maxL := 4) (ret := none) (by decide +kernel) rfl ?_
  intro p e s m args below meth c s₁ B hml hv
  obtain ⟨rfl, hv⟩ := hv
  have C := CX.start (own := RX1) B hml rfl gi hv
  have hP := hv.1
  have hS : va_S (Af 0 g) s.heap s.heap [] := va_S.rf
  have hl := lv_entry ([.ref (g.2.1 (86 + a0)), .int a1, .int a2]) (n := 4) (Nat.le_of_ble_eq_true rfl)
  rw [lg_entry_eq]
  generalize (lg_sl ([.ref (g.2.1 (86 + a0)), .int a1, .int a2]) ++ List.replicate (4 - (lg_sl ([.ref (g.2.1 (86 + a0)), .int a1, .int a2])).length) Slot.unset).toArray = ls at hl ⊢
  have hl : lv_has ls 4 [(0, .ref (g.2.1 (86 + a0))), (1, .int a1), (2, .int a2)] := hl
  unfold p_X1_moveTurn at hw
  refine lv_iload_n C.1 C.2.1 dX1_moveTurn_0 rfl (lv_at hl 1 rfl) ?_
  refine lv_if_ge (tgt := 9) C.1 C.2.1 dX1_moveTurn_1 (by decide) (fun h1 => ?_) (fun h1 => ?_)
  · have hw := hw.1 h1
    refine lv_iload_n C.1 C.2.1 dX1_moveTurn_9 rfl (lv_at hl 2 rfl) ?_
    exact k_X1_moveTurn_10 (Q := Q) C a0 a1 a2 ha0 _ hw (lv_sub hl [0, 1] rfl) hP hS
  · have hw := hw.2 h1
    refine lv_iload_n C.1 C.2.1 dX1_moveTurn_4 rfl (lv_at hl 2 rfl) ?_
    refine lv_ineg C.1 C.2.1 dX1_moveTurn_5 ?_
    refine lv_goto (tgt := 10) C.1 C.2.1 dX1_moveTurn_6 (by decide) ?_
    exact k_X1_moveTurn_10 (Q := Q) C a0 a1 ((-a2)) ha0 _ hw (lv_sub hl [0, 1] rfl) hP hS
def p_X1_write (a0 : Nat) (a1 : Int32) (M : Mem) (Q : Mem → Prop) : Prop := (∀ M1 : Mem, M1 = sL M 30 a0 8 (((M.2.1 30 a0 8) <<< ((1 : Int32).toInt64 &&& 63)) ||| (a1 : Int32).toInt64) → (∀ M2 : Mem, M2 = sI M1 30 a0 9 (if ((M1.1 30 a0 9) + 1) < 64 then ((M1.1 30 a0 9) + 1) else 64) → (Q M2)))
set_option maxRecDepth 100000 in
set_option maxHeartbeats 4000000 in
theorem c_X1_write (l : Launch) (g : Geo) (gi : GI g) (a0 : Nat) (a1 : Int32) (ha0 : a0 < 52) (M : Mem) (Q : Mem → Prop) (hw : p_X1_write a0 a1 M Q) : Met l yX1_write (Cond.code yX1_write cX1_write 2 none :: bg) ({ frames := 1, cells := 0, slots := 0, locals := 21 } : Room) (va_Pc [.ref (g.2.1 (86 + a0)), .int a1] (PW g (xw g M))) (va_Qv Q (PB g (xw g)) (Af 0 g)) 0 0 (Af 0 g) := by
  refine Met.ofW (cc := cX1_write) (maxL := 2) (ret := none) (by decide +kernel) rfl ?_
  intro p e s m args below meth c s₁ B hml hv
  obtain ⟨rfl, hv⟩ := hv
  have C := CX.start (own := RX1) B hml rfl gi hv
  have hP := hv.1
  have hS : va_S (Af 0 g) s.heap s.heap [] := va_S.rf
  have hl := lv_entry ([.ref (g.2.1 (86 + a0)), .int a1]) (n := 2) (Nat.le_of_ble_eq_true rfl)
  rw [lg_entry_eq]
  generalize (lg_sl ([.ref (g.2.1 (86 + a0)), .int a1]) ++ List.replicate (2 - (lg_sl ([.ref (g.2.1 (86 + a0)), .int a1])).length) Slot.unset).toArray = ls at hl ⊢
  have hl : lv_has ls 2 [(0, .ref (g.2.1 (86 + a0))), (1, .int a1)] := hl
  unfold p_X1_write at hw
  refine lv_aload_n C.1 C.2.1 dX1_write_0 rfl (lv_at hl 0 rfl) ?_
  refine lv_aload_n C.1 C.2.1 dX1_write_1 rfl (lv_at hl 0 rfl) ?_
  refine gX1_36 C hP ha0 dX1_write_2 ?_
  refine lv_iconst (v := 1) C.1 C.2.1 dX1_write_5 (by decide) ?_
  refine lv_lshl C.1 C.2.1 dX1_write_6 rfl ?_
  refine lv_iload_n C.1 C.2.1 dX1_write_7 rfl (lv_at hl 1 rfl) ?_
  refine lv_i2l C.1 C.2.1 dX1_write_8 rfl ?_
  refine lv_lor C.1 C.2.1 dX1_write_9 ?_
  refine pX1_36 C hP hS ha0 dX1_write_10 (fun M1 e1 H locs hP hS => ?_)
  have hw := hw M1 e1
  refine lv_aload_n C.1 C.2.1 dX1_write_13 rfl (lv_at hl 0 rfl) ?_
  refine lv_bipush (v := 64) C.1 C.2.1 dX1_write_14 (by decide) ?_
  refine lv_aload_n C.1 C.2.1 dX1_write_16 rfl (lv_at hl 0 rfl) ?_
  refine gX1_40 C hP ha0 dX1_write_17 ?_
  refine lv_iconst (v := 1) C.1 C.2.1 dX1_write_20 (by decide) ?_
  refine lv_iadd C.1 C.2.1 dX1_write_21 ?_
  refine va_mmin C.1 C.2.1 (C.2.2.1.trans hl.1.symm) C.2.2.2.2.1 (C.2.2.2.2.2.1 _ (bg_of 1020 (by decide +kernel) rfl)) (C.2.2.2.2.2.1 _ (bg_of 638 (by decide +kernel) rfl)) (C.2.2.2.2.2.1 _ (bg_of 108 (by decide +kernel) rfl)) (C.2.2.2.2.2.1 _ (bg_of 639 (by decide +kernel) rfl)) (Nat.le_of_ble_eq_true rfl) (Nat.le_of_ble_eq_true rfl) (Nat.zero_le _) (Nat.zero_le _) dX1_write_22 ?_
  refine pX1_40 C hP hS ha0 dX1_write_25 (fun M2 e2 H locs hP hS => ?_)
  have hw := hw M2 e2
  exact retV (wf := (xw g)) C hP hS hw dX1_write_28
def b_X1_hold_21 (Q : Mem → Prop) (v0 : Nat) (s0 : Nat) (s1 : Int32) (M : Mem) : Prop := (∀ M2 : Mem, M2 = sI M 30 s0 6 s1 → ((¬ (M2.1 30 v0 6) = 3 → (∀ M4 : Mem, M4 = sI M2 30 v0 5 ((M2.1 30 v0 5) + 1) → (Q M4))) ∧ ((M2.1 30 v0 6) = 3 → (∀ M5 : Mem, M5 = sI M2 30 v0 7 (M2.1 30 v0 5) → (∀ M6 : Mem, M6 = sI M5 30 v0 5 ((M5.1 30 v0 5) + 1) → (Q M6))))))
set_option maxRecDepth 100000 in
set_option maxHeartbeats 4000000 in
theorem k_X1_hold_21 {p : Program} {l : Launch} {e : Env} {s : State} {m : MethodId} {args : Array Value} {below : List Frame} {meth : Method} {c : Code} {g : Geo} (C : CX g p s m args meth c cX1_hold 2 none RX1) {Q : Mem → Prop} (v0 : Nat) (s0 : Nat) (s1 : Int32) (hv0 : v0 < 52) (hs0 : s0 < 52) (M : Mem) (hw : b_X1_hold_21 Q v0 s0 s1 M) {H : Heap} {locs : List Loc} {ls : Array Slot} (hl : lv_has ls 2 [(0, .ref (g.2.1 (86 + v0)))]) (hP : va_P g.1 clz (xw g M) H) (hS : va_S (Af 0 g) s.heap H locs) : W p l e ({ frames := 0, cells := 0, slots := 0, locals := 0 } : Room) s m args below meth c H locs 0 0 (MQ below (va_Qv Q (PB g (xw g)) (Af 0 g)) args s 0 0 (Af 0 g)) (F0 m 21 ls [.int s1, .ref (g.2.1 (86 + s0))]) := by
  unfold b_X1_hold_21 at hw
  refine pX1_30 C hP hS hs0 dX1_hold_21 (fun M2 e2 H locs hP hS => ?_)
  have hw := hw M2 e2
  refine lv_aload_n C.1 C.2.1 dX1_hold_24 rfl (lv_at hl 0 rfl) ?_
  refine gX1_30 C hP hv0 dX1_hold_25 ?_
  refine lv_iconst (v := 3) C.1 C.2.1 dX1_hold_28 (by decide) ?_
  refine lv_icmp_ne (tgt := 40) C.1 C.2.1 dX1_hold_29 (by decide) (fun h3 => ?_) (fun h3 => ?_)
  · have hw := hw.1 h3
    refine lv_aload_n C.1 C.2.1 dX1_hold_40 rfl (lv_at hl 0 rfl) ?_
    refine lv_dup C.1 C.2.1 dX1_hold_41 rfl ?_
    refine gX1_27 C hP hv0 dX1_hold_42 ?_
    refine lv_iconst (v := 1) C.1 C.2.1 dX1_hold_45 (by decide) ?_
    refine lv_iadd C.1 C.2.1 dX1_hold_46 ?_
    refine pX1_27 C hP hS hv0 dX1_hold_47 (fun M4 e4 H locs hP hS => ?_)
    have hw := hw M4 e4
    exact retV (wf := (xw g)) C hP hS hw dX1_hold_50
  · have hw := hw.2 h3
    refine lv_aload_n C.1 C.2.1 dX1_hold_32 rfl (lv_at hl 0 rfl) ?_
    refine lv_aload_n C.1 C.2.1 dX1_hold_33 rfl (lv_at hl 0 rfl) ?_
    refine gX1_27 C hP hv0 dX1_hold_34 ?_
    refine pX1_33 C hP hS hv0 dX1_hold_37 (fun M5 e5 H locs hP hS => ?_)
    have hw := hw M5 e5
    refine lv_aload_n C.1 C.2.1 dX1_hold_40 rfl (lv_at hl 0 rfl) ?_
    refine lv_dup C.1 C.2.1 dX1_hold_41 rfl ?_
    refine gX1_27 C hP hv0 dX1_hold_42 ?_
    refine lv_iconst (v := 1) C.1 C.2.1 dX1_hold_45 (by decide) ?_
    refine lv_iadd C.1 C.2.1 dX1_hold_46 ?_
    refine pX1_27 C hP hS hv0 dX1_hold_47 (fun M6 e6 H locs hP hS => ?_)
    have hw := hw M6 e6
    exact retV (wf := (xw g)) C hP hS hw dX1_hold_50
def p_X1_hold (a0 : Nat) (a1 : Int32) (M : Mem) (Q : Mem → Prop) : Prop := (((M.1 30 a0 4) ≤ ((4 : Int32) * a1) → (b_X1_hold_21 Q a0 a0 0 M)) ∧ (¬ (M.1 30 a0 4) ≤ ((4 : Int32) * a1) → (b_X1_hold_21 Q a0 a0 (((M.1 30 a0 6) + 1)) M)))
set_option maxRecDepth 100000 in
set_option maxHeartbeats 4000000 in
theorem c_X1_hold (l : Launch) (g : Geo) (gi : GI g) (a0 : Nat) (a1 : Int32) (ha0 : a0 < 52) (M : Mem) (Q : Mem → Prop) (hw : p_X1_hold a0 a1 M Q) : Met l yX1_hold (Cond.code yX1_hold cX1_hold 2 none :: bg) ({ frames := 0, cells := 0, slots := 0, locals := 0 } : Room) (va_Pc [.ref (g.2.1 (86 + a0)), .int a1] (PW g (xw g M))) (va_Qv Q (PB g (xw g)) (Af 0 g)) 0 0 (Af 0 g) := by
  refine Met.ofW (cc := cX1_hold) (maxL := 2) (ret := none) (by decide +kernel) rfl ?_
  intro p e s m args below meth c s₁ B hml hv
  obtain ⟨rfl, hv⟩ := hv
  have C := CX.start (own := RX1) B hml rfl gi hv
  have hP := hv.1
  have hS : va_S (Af 0 g) s.heap s.heap [] := va_S.rf
  have hl := lv_entry ([.ref (g.2.1 (86 + a0)), .int a1]) (n := 2) (Nat.le_of_ble_eq_true rfl)
  rw [lg_entry_eq]
  generalize (lg_sl ([.ref (g.2.1 (86 + a0)), .int a1]) ++ List.replicate (2 - (lg_sl ([.ref (g.2.1 (86 + a0)), .int a1])).length) Slot.unset).toArray = ls at hl ⊢
  have hl : lv_has ls 2 [(0, .ref (g.2.1 (86 + a0))), (1, .int a1)] := hl
  unfold p_X1_hold at hw
  refine lv_aload_n C.1 C.2.1 dX1_hold_0 rfl (lv_at hl 0 rfl) ?_
  refine lv_iconst (v := 4) C.1 C.2.1 dX1_hold_1 (by decide) ?_
  refine lv_iload_n C.1 C.2.1 dX1_hold_2 rfl (lv_at hl 1 rfl) ?_
  refine lv_imul C.1 C.2.1 dX1_hold_3 ?_
  refine lv_aload_n C.1 C.2.1 dX1_hold_4 rfl (lv_at hl 0 rfl) ?_
  refine gX1_24 C hP ha0 dX1_hold_5 ?_
  refine lv_icmp_ge (tgt := 20) C.1 C.2.1 dX1_hold_8 (by decide) (fun h1 => ?_) (fun h1 => ?_)
  · have hw := hw.1 h1
    refine lv_iconst (v := 0) C.1 C.2.1 dX1_hold_20 (by decide) ?_
    exact k_X1_hold_21 (Q := Q) C a0 a0 0 ha0 ha0 _ hw (lv_sub hl [0] rfl) hP hS
  · have hw := hw.2 h1
    refine lv_aload_n C.1 C.2.1 dX1_hold_11 rfl (lv_at hl 0 rfl) ?_
    refine gX1_30 C hP ha0 dX1_hold_12 ?_
    refine lv_iconst (v := 1) C.1 C.2.1 dX1_hold_15 (by decide) ?_
    refine lv_iadd C.1 C.2.1 dX1_hold_16 ?_
    refine lv_goto (tgt := 21) C.1 C.2.1 dX1_hold_17 (by decide) ?_
    exact k_X1_hold_21 (Q := Q) C a0 a0 (((M.1 30 a0 6) + 1)) ha0 ha0 _ hw (lv_sub hl [0] rfl) hP hS
def p_X1_logBit (a0 : Nat) (a1 : Int32) (M : Mem) (Q : Int32 → Mem → Prop) : Prop := (Q (((((M.2.1 30 a0 8) : Int64).toUInt64 >>> (((((M.1 30 a0 9) - 1) - a1) : Int32).toInt64.toUInt64 &&& Int64.toUInt64 63)).toInt64 : Int64).toInt32 &&& 1) M)
set_option maxRecDepth 100000 in
set_option maxHeartbeats 4000000 in
theorem c_X1_logBit (l : Launch) (g : Geo) (gi : GI g) (a0 : Nat) (a1 : Int32) (ha0 : a0 < 52) (M : Mem) (Q : Int32 → Mem → Prop) (hw : p_X1_logBit a0 a1 M Q) : Met l yX1_logBit (Cond.code yX1_logBit cX1_logBit 2 (some .int) :: bg) ({ frames := 0, cells := 0, slots := 0, locals := 0 } : Room) (va_Pc [.ref (g.2.1 (86 + a0)), .int a1] (PW g (xw g M))) (va_Qi Q (PB g (xw g)) (Af 0 g)) 0 0 (Af 0 g) := by
  refine Met.ofW (cc := cX1_logBit) (maxL := 2) (ret := (some .int)) (by decide +kernel) rfl ?_
  intro p e s m args below meth c s₁ B hml hv
  obtain ⟨rfl, hv⟩ := hv
  have C := CX.start (own := RX1) B hml rfl gi hv
  have hP := hv.1
  have hS : va_S (Af 0 g) s.heap s.heap [] := va_S.rf
  have hl := lv_entry ([.ref (g.2.1 (86 + a0)), .int a1]) (n := 2) (Nat.le_of_ble_eq_true rfl)
  rw [lg_entry_eq]
  generalize (lg_sl ([.ref (g.2.1 (86 + a0)), .int a1]) ++ List.replicate (2 - (lg_sl ([.ref (g.2.1 (86 + a0)), .int a1])).length) Slot.unset).toArray = ls at hl ⊢
  have hl : lv_has ls 2 [(0, .ref (g.2.1 (86 + a0))), (1, .int a1)] := hl
  unfold p_X1_logBit at hw
  refine lv_aload_n C.1 C.2.1 dX1_logBit_0 rfl (lv_at hl 0 rfl) ?_
  refine gX1_36 C hP ha0 dX1_logBit_1 ?_
  refine lv_aload_n C.1 C.2.1 dX1_logBit_4 rfl (lv_at hl 0 rfl) ?_
  refine gX1_40 C hP ha0 dX1_logBit_5 ?_
  refine lv_iconst (v := 1) C.1 C.2.1 dX1_logBit_8 (by decide) ?_
  refine lv_isub C.1 C.2.1 dX1_logBit_9 ?_
  refine lv_iload_n C.1 C.2.1 dX1_logBit_10 rfl (lv_at hl 1 rfl) ?_
  refine lv_isub C.1 C.2.1 dX1_logBit_11 ?_
  refine lv_lushr C.1 C.2.1 dX1_logBit_12 rfl ?_
  refine lv_l2i C.1 C.2.1 dX1_logBit_13 rfl ?_
  refine lv_iconst (v := 1) C.1 C.2.1 dX1_logBit_14 (by decide) ?_
  refine lv_iand C.1 C.2.1 dX1_logBit_15 ?_
  exact retI (wf := (xw g)) C hP hS hw dX1_logBit_16
def p_X1_told (a0 : Nat) (a1 : Int32) (M : Mem) (Q : Int32 → Mem → Prop) : Prop := ((a1 = 0 → (Q (M.1 30 a0 0) M)) ∧ (a1 = 1 → (Q (M.1 30 a0 1) M)) ∧ (a1 = 2 → (Q (M.1 30 a0 2) M)) ∧ (a1 = 3 → (Q (M.1 30 a0 3) M)) ∧ (a1 = 4 → (Q (M.1 30 a0 4) M)) ∧ (a1 = 5 → (Q (M.1 30 a0 5) M)) ∧ (a1 = 6 → (Q (M.1 30 a0 6) M)) ∧ (a1 = 7 → (Q (M.1 30 a0 7) M)) ∧ (a1 = 8 → (Q (M.1 30 a0 9) M)) ∧ (¬ a1 = 0 → ¬ a1 = 1 → ¬ a1 = 2 → ¬ a1 = 3 → ¬ a1 = 4 → ¬ a1 = 5 → ¬ a1 = 6 → ¬ a1 = 7 → ¬ a1 = 8 → (Q (-1) M)))
set_option maxRecDepth 100000 in
set_option maxHeartbeats 4000000 in
theorem c_X1_told (l : Launch) (g : Geo) (gi : GI g) (a0 : Nat) (a1 : Int32) (ha0 : a0 < 52) (M : Mem) (Q : Int32 → Mem → Prop) (hw : p_X1_told a0 a1 M Q) : Met l yX1_told (Cond.code yX1_told cX1_told 2 (some .int) :: bg) ({ frames := 0, cells := 0, slots := 0, locals := 0 } : Room) (va_Pc [.ref (g.2.1 (86 + a0)), .int a1] (PW g (xw g M))) (va_Qi Q (PB g (xw g)) (Af 0 g)) 0 0 (Af 0 g) := by
  refine Met.ofW (cc := cX1_told) (maxL := 2) (ret := (some .int)) (by decide +kernel) rfl ?_
  intro p e s m args below meth c s₁ B hml hv
  obtain ⟨rfl, hv⟩ := hv
  have C := CX.start (own := RX1) B hml rfl gi hv
  have hP := hv.1
  have hS : va_S (Af 0 g) s.heap s.heap [] := va_S.rf
  have hl := lv_entry ([.ref (g.2.1 (86 + a0)), .int a1]) (n := 2) (Nat.le_of_ble_eq_true rfl)
  rw [lg_entry_eq]
  generalize (lg_sl ([.ref (g.2.1 (86 + a0)), .int a1]) ++ List.replicate (2 - (lg_sl ([.ref (g.2.1 (86 + a0)), .int a1])).length) Slot.unset).toArray = ls at hl ⊢
  have hl : lv_has ls 2 [(0, .ref (g.2.1 (86 + a0))), (1, .int a1)] := hl
  unfold p_X1_told at hw
  refine lv_iload_n C.1 C.2.1 dX1_told_0 rfl (lv_at hl 1 rfl) ?_
  by_cases q1_0 : a1 = 0
  · have hw := hw.1 q1_0
    refine lv_tableIn (tgt := 52) (off := 51) C.1 C.2.1 dX1_told_1 (by rw [q1_0]; decide) (by rw [q1_0]; decide) (by rw [q1_0]; decide +kernel) (by decide) ?_
    refine lv_aload_n C.1 C.2.1 dX1_told_52 rfl (lv_at hl 0 rfl) ?_
    refine gX1_9 C hP ha0 dX1_told_53 ?_
    exact retI (wf := (xw g)) C hP hS hw dX1_told_56
  by_cases q1_1 : a1 = 1
  · have hw := hw.2.1 q1_1
    refine lv_tableIn (tgt := 57) (off := 56) C.1 C.2.1 dX1_told_1 (by rw [q1_1]; decide) (by rw [q1_1]; decide) (by rw [q1_1]; decide +kernel) (by decide) ?_
    refine lv_aload_n C.1 C.2.1 dX1_told_57 rfl (lv_at hl 0 rfl) ?_
    refine gX1_15 C hP ha0 dX1_told_58 ?_
    exact retI (wf := (xw g)) C hP hS hw dX1_told_61
  by_cases q1_2 : a1 = 2
  · have hw := hw.2.2.1 q1_2
    refine lv_tableIn (tgt := 62) (off := 61) C.1 C.2.1 dX1_told_1 (by rw [q1_2]; decide) (by rw [q1_2]; decide) (by rw [q1_2]; decide +kernel) (by decide) ?_
    refine lv_aload_n C.1 C.2.1 dX1_told_62 rfl (lv_at hl 0 rfl) ?_
    refine gX1_18 C hP ha0 dX1_told_63 ?_
    exact retI (wf := (xw g)) C hP hS hw dX1_told_66
  by_cases q1_3 : a1 = 3
  · have hw := hw.2.2.2.1 q1_3
    refine lv_tableIn (tgt := 67) (off := 66) C.1 C.2.1 dX1_told_1 (by rw [q1_3]; decide) (by rw [q1_3]; decide) (by rw [q1_3]; decide +kernel) (by decide) ?_
    refine lv_aload_n C.1 C.2.1 dX1_told_67 rfl (lv_at hl 0 rfl) ?_
    refine gX1_21 C hP ha0 dX1_told_68 ?_
    exact retI (wf := (xw g)) C hP hS hw dX1_told_71
  by_cases q1_4 : a1 = 4
  · have hw := hw.2.2.2.2.1 q1_4
    refine lv_tableIn (tgt := 72) (off := 71) C.1 C.2.1 dX1_told_1 (by rw [q1_4]; decide) (by rw [q1_4]; decide) (by rw [q1_4]; decide +kernel) (by decide) ?_
    refine lv_aload_n C.1 C.2.1 dX1_told_72 rfl (lv_at hl 0 rfl) ?_
    refine gX1_24 C hP ha0 dX1_told_73 ?_
    exact retI (wf := (xw g)) C hP hS hw dX1_told_76
  by_cases q1_5 : a1 = 5
  · have hw := hw.2.2.2.2.2.1 q1_5
    refine lv_tableIn (tgt := 77) (off := 76) C.1 C.2.1 dX1_told_1 (by rw [q1_5]; decide) (by rw [q1_5]; decide) (by rw [q1_5]; decide +kernel) (by decide) ?_
    refine lv_aload_n C.1 C.2.1 dX1_told_77 rfl (lv_at hl 0 rfl) ?_
    refine gX1_27 C hP ha0 dX1_told_78 ?_
    exact retI (wf := (xw g)) C hP hS hw dX1_told_81
  by_cases q1_6 : a1 = 6
  · have hw := hw.2.2.2.2.2.2.1 q1_6
    refine lv_tableIn (tgt := 82) (off := 81) C.1 C.2.1 dX1_told_1 (by rw [q1_6]; decide) (by rw [q1_6]; decide) (by rw [q1_6]; decide +kernel) (by decide) ?_
    refine lv_aload_n C.1 C.2.1 dX1_told_82 rfl (lv_at hl 0 rfl) ?_
    refine gX1_30 C hP ha0 dX1_told_83 ?_
    exact retI (wf := (xw g)) C hP hS hw dX1_told_86
  by_cases q1_7 : a1 = 7
  · have hw := hw.2.2.2.2.2.2.2.1 q1_7
    refine lv_tableIn (tgt := 87) (off := 86) C.1 C.2.1 dX1_told_1 (by rw [q1_7]; decide) (by rw [q1_7]; decide) (by rw [q1_7]; decide +kernel) (by decide) ?_
    refine lv_aload_n C.1 C.2.1 dX1_told_87 rfl (lv_at hl 0 rfl) ?_
    refine gX1_33 C hP ha0 dX1_told_88 ?_
    exact retI (wf := (xw g)) C hP hS hw dX1_told_91
  by_cases q1_8 : a1 = 8
  · have hw := hw.2.2.2.2.2.2.2.2.1 q1_8
    refine lv_tableIn (tgt := 92) (off := 91) C.1 C.2.1 dX1_told_1 (by rw [q1_8]; decide) (by rw [q1_8]; decide) (by rw [q1_8]; decide +kernel) (by decide) ?_
    refine lv_aload_n C.1 C.2.1 dX1_told_92 rfl (lv_at hl 0 rfl) ?_
    refine gX1_40 C hP ha0 dX1_told_93 ?_
    exact retI (wf := (xw g)) C hP hS hw dX1_told_96
  have hw := hw.2.2.2.2.2.2.2.2.2 q1_0 q1_1 q1_2 q1_3 q1_4 q1_5 q1_6 q1_7 q1_8
  have n1_0 : a1.toInt ≠ 0 := tsw q1_0
  have n1_1 : a1.toInt ≠ 1 := tsw q1_1
  have n1_2 : a1.toInt ≠ 2 := tsw q1_2
  have n1_3 : a1.toInt ≠ 3 := tsw q1_3
  have n1_4 : a1.toInt ≠ 4 := tsw q1_4
  have n1_5 : a1.toInt ≠ 5 := tsw q1_5
  have n1_6 : a1.toInt ≠ 6 := tsw q1_6
  have n1_7 : a1.toInt ≠ 7 := tsw q1_7
  have n1_8 : a1.toInt ≠ 8 := tsw q1_8
  refine lv_tableOut (tgt := 97) C.1 C.2.1 dX1_told_1 (by omega) (by decide) ?_
  refine lv_iconst (v := (-1)) C.1 C.2.1 dX1_told_97 (by decide) ?_
  exact retI (wf := (xw g)) C hP hS hw dX1_told_98
def p_X2_forget (M : Mem) (Q : Mem → Prop) : Prop := (∀ M1 : Mem, M1 = sI M 5 0 4 (-1) → (Q M1))
set_option maxRecDepth 100000 in
set_option maxHeartbeats 4000000 in
theorem c_X2_forget (l : Launch) (g : Geo) (gi : GI g) (M : Mem) (Q : Mem → Prop) (hw : p_X2_forget  M Q) : Met l yX2_forget (Cond.code yX2_forget cX2_forget 1 none :: bg) ({ frames := 0, cells := 0, slots := 0, locals := 0 } : Room) (va_Pc [.ref (g.2.1 (5 + 0))] (PW g (xw g M))) (va_Qv Q (PB g (xw g)) (Af 0 g)) 0 0 (Af 0 g) := by
  refine Met.ofW (cc := cX2_forget) (maxL := 1) (ret := none) (by decide +kernel) rfl ?_
  intro p e s m args below meth c s₁ B hml hv
  obtain ⟨rfl, hv⟩ := hv
  have C := CX.start (own := RX2) B hml rfl gi hv
  have hP := hv.1
  have hS : va_S (Af 0 g) s.heap s.heap [] := va_S.rf
  have hl := lv_entry ([.ref (g.2.1 (5 + 0))]) (n := 1) (Nat.le_of_ble_eq_true rfl)
  rw [lg_entry_eq]
  generalize (lg_sl ([.ref (g.2.1 (5 + 0))]) ++ List.replicate (1 - (lg_sl ([.ref (g.2.1 (5 + 0))])).length) Slot.unset).toArray = ls at hl ⊢
  have hl : lv_has ls 1 [(0, .ref (g.2.1 (5 + 0)))] := hl
  unfold p_X2_forget at hw
  refine lv_aload_n C.1 C.2.1 dX2_forget_0 rfl (lv_at hl 0 rfl) ?_
  refine lv_iconst (v := (-1)) C.1 C.2.1 dX2_forget_1 (by decide) ?_
  refine pX2_18 C hP hS Nat.zero_lt_one dX2_forget_2 (fun M1 e1 H locs hP hS => ?_)
  have hw := hw M1 e1
  exact retV (wf := (xw g)) C hP hS hw dX2_forget_5
def p_X10_nextNumber (a0 : Int32) (M : Mem) (Q : Int32 → Mem → Prop) : Prop := (Q (((a0 * 1103515245) + 12345) &&& 2147483647) M)
set_option maxRecDepth 100000 in
set_option maxHeartbeats 4000000 in
theorem c_X10_nextNumber (l : Launch) (g : Geo) (gi : GI g) (a0 : Int32) (M : Mem) (Q : Int32 → Mem → Prop) (hw : p_X10_nextNumber a0 M Q) : Met l yX10_nextNumber (Cond.code yX10_nextNumber cX10_nextNumber 1 (some .int) :: bg) ({ frames := 0, cells := 0, slots := 0, locals := 0 } : Room) (va_Pc [.int a0] (PW g (xw g M))) (va_Qi Q (PB g (xw g)) (Af 0 g)) 0 0 (Af 0 g) := by
  refine Met.ofW (cc := cX10_nextNumber) (maxL := 1) (ret := (some .int)) (by decide +kernel) rfl ?_
  intro p e s m args below meth c s₁ B hml hv
  obtain ⟨rfl, hv⟩ := hv
  have C := CX.start (own := RX10) B hml rfl gi hv
  have hP := hv.1
  have hS : va_S (Af 0 g) s.heap s.heap [] := va_S.rf
  have hl := lv_entry ([.int a0]) (n := 1) (Nat.le_of_ble_eq_true rfl)
  rw [lg_entry_eq]
  generalize (lg_sl ([.int a0]) ++ List.replicate (1 - (lg_sl ([.int a0])).length) Slot.unset).toArray = ls at hl ⊢
  have hl : lv_has ls 1 [(0, .int a0)] := hl
  unfold p_X10_nextNumber at hw
  refine lv_iload_n C.1 C.2.1 dX10_nextNumber_0 rfl (lv_at hl 0 rfl) ?_
  refine lv_ldcw (v := 1103515245) C.1 C.2.1 C.2.2.2.2.1 (C.2.2.2.2.2.1 _ (bg_of 841 (by decide +kernel) rfl)) dX10_nextNumber_1 ?_
  refine lv_imul C.1 C.2.1 dX10_nextNumber_4 ?_
  refine lv_sipush (v := 12345) C.1 C.2.1 dX10_nextNumber_5 (by decide) ?_
  refine lv_iadd C.1 C.2.1 dX10_nextNumber_8 ?_
  refine lv_ldc (v := 2147483647) C.1 C.2.1 C.2.2.2.2.1 (C.2.2.2.2.2.1 _ (bg_of 281 (by decide +kernel) rfl)) dX10_nextNumber_9 ?_
  refine lv_iand C.1 C.2.1 dX10_nextNumber_11 ?_
  exact retI (wf := (xw g)) C hP hS hw dX10_nextNumber_12
def p_X10_noiseOf (a0 : Int32) (a1 : Int32) (M : Mem) (Q : Int32 → Mem → Prop) : Prop := (∀ x1 : Int32, x1 = (((2 : Int32) * a1) + 1) → ((x1 ≤ 0 → (Q 0 M)) ∧ (¬ x1 ≤ 0 → (¬ x1 = 0 ∧ (Q (((a0 / 65536) - (a0 / 65536) / x1 * x1) - a1) M)))))
set_option maxRecDepth 100000 in
set_option maxHeartbeats 4000000 in
theorem c_X10_noiseOf (l : Launch) (g : Geo) (gi : GI g) (a0 : Int32) (a1 : Int32) (M : Mem) (Q : Int32 → Mem → Prop) (hw : p_X10_noiseOf a0 a1 M Q) : Met l yX10_noiseOf (Cond.code yX10_noiseOf cX10_noiseOf 3 (some .int) :: bg) ({ frames := 0, cells := 0, slots := 0, locals := 0 } : Room) (va_Pc [.int a0, .int a1] (PW g (xw g M))) (va_Qi Q (PB g (xw g)) (Af 0 g)) 0 0 (Af 0 g) := by
  refine Met.ofW (cc := cX10_noiseOf) (maxL := 3) (ret := (some .int)) (by decide +kernel) rfl ?_
  intro p e s m args below meth c s₁ B hml hv
  obtain ⟨rfl, hv⟩ := hv
  have C := CX.start (own := RX10) B hml rfl gi hv
  have hP := hv.1
  have hS : va_S (Af 0 g) s.heap s.heap [] := va_S.rf
  have hl := lv_entry ([.int a0, .int a1]) (n := 3) (Nat.le_of_ble_eq_true rfl)
  rw [lg_entry_eq]
  generalize (lg_sl ([.int a0, .int a1]) ++ List.replicate (3 - (lg_sl ([.int a0, .int a1])).length) Slot.unset).toArray = ls at hl ⊢
  have hl : lv_has ls 3 [(0, .int a0), (1, .int a1)] := hl
  unfold p_X10_noiseOf at hw
  refine lv_iconst (v := 2) C.1 C.2.1 dX10_noiseOf_0 (by decide) ?_
  refine lv_iload_n C.1 C.2.1 dX10_noiseOf_1 rfl (lv_at hl 1 rfl) ?_
  refine lv_imul C.1 C.2.1 dX10_noiseOf_2 ?_
  refine lv_iconst (v := 1) C.1 C.2.1 dX10_noiseOf_3 (by decide) ?_
  refine lv_iadd C.1 C.2.1 dX10_noiseOf_4 ?_
  refine lv_topi (fun x1 e1 => ?_)
  have hw := hw x1 e1
  refine lv_istore_n (lv' := [(2, .int x1), (0, .int a0), (1, .int a1)]) C.1 C.2.1 dX10_noiseOf_5 rfl hl (by decide) rfl (fun ls hl => ?_)
  refine lv_iload_n C.1 C.2.1 dX10_noiseOf_6 rfl (lv_at hl 0 rfl) ?_
  refine lv_if_le (tgt := 22) C.1 C.2.1 dX10_noiseOf_7 (by decide) (fun h2 => ?_) (fun h2 => ?_)
  · have hw := hw.1 h2
    refine lv_iconst (v := 0) C.1 C.2.1 dX10_noiseOf_22 (by decide) ?_
    exact retI (wf := (xw g)) C hP hS hw dX10_noiseOf_23
  · have hw := hw.2 h2
    refine lv_iload_n C.1 C.2.1 dX10_noiseOf_10 rfl (lv_at hl 1 rfl) ?_
    refine lv_ldcw (v := 65536) C.1 C.2.1 C.2.2.2.2.1 (C.2.2.2.2.2.1 _ (bg_of 845 (by decide +kernel) rfl)) dX10_noiseOf_11 ?_
    refine lv_idiv C.1 C.2.1 dX10_noiseOf_14 (by decide) ?_
    refine lv_iload_n C.1 C.2.1 dX10_noiseOf_15 rfl (lv_at hl 0 rfl) ?_
    obtain ⟨h3, hw⟩ := hw
    refine lv_irem C.1 C.2.1 dX10_noiseOf_16 h3 ?_
    refine lv_iload_n C.1 C.2.1 dX10_noiseOf_17 rfl (lv_at hl 2 rfl) ?_
    refine lv_isub C.1 C.2.1 dX10_noiseOf_18 ?_
    refine lv_goto (tgt := 23) C.1 C.2.1 dX10_noiseOf_19 (by decide) ?_
    exact retI (wf := (xw g)) C hP hS hw dX10_noiseOf_23
def b_X2_addNoise_3 (Q : Mem → Prop) : Nat → Int32 → Int32 → Int32 → Int32 → Mem → Prop
  | 0, _, _, _, _, _ => False
  | n + 1, v1, v2, v3, v4, M => ((62 ≤ v4 → (Q M)) ∧ (¬ 62 ≤ v4 → (p_X10_nextNumber (((v3 + ((62 : Int32) * v1)) + v4)) M (fun r2 M2 => (vp_in v4 62 ∧ (p_X10_noiseOf r2 v2 M2 (fun r4 M4 => (vp_in v4 62 ∧ (∀ M5 : Mem, M5 = sI M4 6 0 (v4 : Int32).toNatClampNeg ((M2.1 6 0 (v4 : Int32).toNatClampNeg) + r4) → (vp_in v4 62 ∧ (p_X10_nextNumber r2 M5 (fun r7 M7 => (p_X10_noiseOf r7 v2 M7 (fun r8 M8 => (vp_in v4 62 ∧ (∀ M9 : Mem, M9 = sI M8 7 0 (v4 : Int32).toNatClampNeg ((M5.1 7 0 (v4 : Int32).toNatClampNeg) + r8) → (∀ x10 : Int32, x10 = (v4 + 1) → (b_X2_addNoise_3 Q n v1 v2 v3 x10 M9))))))))))))))))))
set_option maxRecDepth 100000 in
set_option maxHeartbeats 4000000 in
theorem k_X2_addNoise_3 {p : Program} {l : Launch} {e : Env} {s : State} {m : MethodId} {args : Array Value} {below : List Frame} {meth : Method} {c : Code} {g : Geo} (C : CX g p s m args meth c cX2_addNoise 6 none RX2) {Q : Mem → Prop} : ∀ (n : Nat) (v1 : Int32) (v2 : Int32) (v3 : Int32) (v4 : Int32) (M : Mem) (hw : b_X2_addNoise_3 Q n v1 v2 v3 v4 M) {H : Heap} {locs : List Loc} {ls : Array Slot} (hl : lv_has ls 6 [(0, .ref (g.2.1 (5 + 0))), (1, .int v1), (2, .int v2), (3, .int v3), (4, .int v4)]) (hP : va_P g.1 clz (xw g M) H) (hS : va_S (Af 0 g) s.heap H locs), W p l e ({ frames := 1, cells := 0, slots := 0, locals := 22 } : Room) s m args below meth c H locs 0 0 (MQ below (va_Qv Q (PB g (xw g)) (Af 0 g)) args s 0 0 (Af 0 g)) (F0 m 3 ls []) := by
  intro n
  induction n with
  | zero => intro v1 v2 v3 v4 M hw H locs ls hl hP hS; exact absurd hw (by rw [b_X2_addNoise_3]; exact fun h => h)
  | succ n ih =>
    intro v1 v2 v3 v4 M hw H locs ls hl hP hS
    rw [b_X2_addNoise_3] at hw
    refine lv_iload C.1 C.2.1 dX2_addNoise_3 (lv_at hl 4 rfl) ?_
    refine lv_bipush (v := 62) C.1 C.2.1 dX2_addNoise_5 (by decide) ?_
    refine lv_icmp_ge (tgt := 65) C.1 C.2.1 dX2_addNoise_7 (by decide) (fun h1 => ?_) (fun h1 => ?_)
    · have hw := hw.1 h1
      exact retV (wf := (xw g)) C hP hS hw dX2_addNoise_65
    · have hw := hw.2 h1
      refine lv_iload_n C.1 C.2.1 dX2_addNoise_10 rfl (lv_at hl 3 rfl) ?_
      refine lv_bipush (v := 62) C.1 C.2.1 dX2_addNoise_11 (by decide) ?_
      refine lv_iload_n C.1 C.2.1 dX2_addNoise_13 rfl (lv_at hl 1 rfl) ?_
      refine lv_imul C.1 C.2.1 dX2_addNoise_14 ?_
      refine lv_iadd C.1 C.2.1 dX2_addNoise_15 ?_
      refine lv_iload C.1 C.2.1 dX2_addNoise_16 (lv_at hl 4 rfl) ?_
      refine lv_iadd C.1 C.2.1 dX2_addNoise_18 ?_
      refine goI (wf := (xw g)) (runN (w := xw g M) (As := [.int ((v3 + ((62 : Int32) * v1)) + v4)]) (rest := []) C lkX2_97 (c_X10_nextNumber l g C.2.2.2.2.2.2.2.2.2.2 (((v3 + ((62 : Int32) * v1)) + v4))  M _ hw) hP hS rfl rfl ⟨Nat.le_of_ble_eq_true rfl, Nat.le_of_ble_eq_true rfl⟩ hl.1 rfl (Nat.le_of_ble_eq_true rfl) dX2_addNoise_19) hS (fun r2 M2 hw H locs hP hS => ?_)
      refine lv_istore (lv' := [(5, .int r2), (0, .ref (g.2.1 (5 + 0))), (1, .int v1), (2, .int v2), (3, .int v3), (4, .int v4)]) C.1 C.2.1 dX2_addNoise_22 hl (by decide) rfl (fun ls hl => ?_)
      refine lv_aload_n C.1 C.2.1 dX2_addNoise_24 rfl (lv_at hl 1 rfl) ?_
      refine gX2_9 C hP Nat.zero_lt_one dX2_addNoise_25 ?_
      refine lv_iload C.1 C.2.1 dX2_addNoise_28 (lv_at hl 5 rfl) ?_
      refine lv_dup2_11 C.1 C.2.1 dX2_addNoise_30 rfl rfl ?_
      obtain ⟨h3, hw⟩ := hw
      refine al_6 C hP Nat.zero_lt_one h3 dX2_addNoise_31 ?_
      refine lv_iload C.1 C.2.1 dX2_addNoise_32 (lv_at hl 0 rfl) ?_
      refine lv_iload_n C.1 C.2.1 dX2_addNoise_34 rfl (lv_at hl 3 rfl) ?_
      refine goI (wf := (xw g)) (runN (w := xw g M2) (As := [.int r2, .int v2]) (rest := [.int (M2.1 6 0 (v4 : Int32).toNatClampNeg), .int v4, .ref (g.2.1 (6 + 0))]) C lkX2_100 (c_X10_noiseOf l g C.2.2.2.2.2.2.2.2.2.2 r2 v2  M2 _ hw) hP hS rfl rfl ⟨Nat.le_of_ble_eq_true rfl, Nat.le_of_ble_eq_true rfl⟩ hl.1 rfl (Nat.le_of_ble_eq_true rfl) dX2_addNoise_35) hS (fun r4 M4 hw H locs hP hS => ?_)
      refine lv_iadd C.1 C.2.1 dX2_addNoise_38 ?_
      obtain ⟨h5, hw⟩ := hw
      refine as_6 C hP hS Nat.zero_lt_one h5 dX2_addNoise_39 (fun M5 e5 H locs hP hS => ?_)
      have hw := hw M5 e5
      refine lv_aload_n C.1 C.2.1 dX2_addNoise_40 rfl (lv_at hl 1 rfl) ?_
      refine gX2_15 C hP Nat.zero_lt_one dX2_addNoise_41 ?_
      refine lv_iload C.1 C.2.1 dX2_addNoise_44 (lv_at hl 5 rfl) ?_
      refine lv_dup2_11 C.1 C.2.1 dX2_addNoise_46 rfl rfl ?_
      obtain ⟨h6, hw⟩ := hw
      refine al_7 C hP Nat.zero_lt_one h6 dX2_addNoise_47 ?_
      refine lv_iload C.1 C.2.1 dX2_addNoise_48 (lv_at hl 0 rfl) ?_
      refine goI (wf := (xw g)) (runN (w := xw g M5) (As := [.int r2]) (rest := [.int (M5.1 7 0 (v4 : Int32).toNatClampNeg), .int v4, .ref (g.2.1 (7 + 0))]) C lkX2_97 (c_X10_nextNumber l g C.2.2.2.2.2.2.2.2.2.2 r2  M5 _ hw) hP hS rfl rfl ⟨Nat.le_of_ble_eq_true rfl, Nat.le_of_ble_eq_true rfl⟩ hl.1 rfl (Nat.le_of_ble_eq_true rfl) dX2_addNoise_50) hS (fun r7 M7 hw H locs hP hS => ?_)
      refine lv_iload_n C.1 C.2.1 dX2_addNoise_53 rfl (lv_at hl 3 rfl) ?_
      refine goI (wf := (xw g)) (runN (w := xw g M7) (As := [.int r7, .int v2]) (rest := [.int (M5.1 7 0 (v4 : Int32).toNatClampNeg), .int v4, .ref (g.2.1 (7 + 0))]) C lkX2_100 (c_X10_noiseOf l g C.2.2.2.2.2.2.2.2.2.2 r7 v2  M7 _ hw) hP hS rfl rfl ⟨Nat.le_of_ble_eq_true rfl, Nat.le_of_ble_eq_true rfl⟩ hl.1 rfl (Nat.le_of_ble_eq_true rfl) dX2_addNoise_54) hS (fun r8 M8 hw H locs hP hS => ?_)
      refine lv_iadd C.1 C.2.1 dX2_addNoise_57 ?_
      obtain ⟨h9, hw⟩ := hw
      refine as_7 C hP hS Nat.zero_lt_one h9 dX2_addNoise_58 (fun M9 e9 H locs hP hS => ?_)
      have hw := hw M9 e9
      obtain ⟨x10, e10⟩ : ∃ y : Int32, y = (v4 + 1) := ⟨_, rfl⟩
      have hw := hw x10 e10
      refine lv_iinc (v := x10) (lv' := [(4, .int x10), (5, .int r2), (0, .ref (g.2.1 (5 + 0))), (1, .int v1), (2, .int v2), (3, .int v3)]) C.1 C.2.1 dX2_addNoise_59 hl (k := 5) rfl (by rw [e10]; rfl) (by decide) rfl (fun ls hl => ?_)
      refine lv_goto (tgt := 3) C.1 C.2.1 dX2_addNoise_62 (by decide) ?_
      exact ih v1 v2 v3 x10  _ hw (lv_sub hl [2, 3, 4, 5, 0] rfl) hP hS
def p_X2_addNoise (a1 : Int32) (a2 : Int32) (a3 : Int32) (M : Mem) (Q : Mem → Prop) : Prop := (∃ n3 : Nat, b_X2_addNoise_3 Q n3 a1 a2 a3 0 M)
set_option maxRecDepth 100000 in
set_option maxHeartbeats 4000000 in
theorem c_X2_addNoise (l : Launch) (g : Geo) (gi : GI g) (a1 : Int32) (a2 : Int32) (a3 : Int32) (M : Mem) (Q : Mem → Prop) (hw : p_X2_addNoise a1 a2 a3 M Q) : Met l yX2_addNoise (Cond.code yX2_addNoise cX2_addNoise 6 none :: bg) ({ frames := 1, cells := 0, slots := 0, locals := 22 } : Room) (va_Pc [.ref (g.2.1 (5 + 0)), .int a1, .int a2, .int a3] (PW g (xw g M))) (va_Qv Q (PB g (xw g)) (Af 0 g)) 0 0 (Af 0 g) := by
  refine Met.ofW (cc := cX2_addNoise) (maxL := 6) (ret := none) (by decide +kernel) rfl ?_
  intro p e s m args below meth c s₁ B hml hv
  obtain ⟨rfl, hv⟩ := hv
  have C := CX.start (own := RX2) B hml rfl gi hv
  have hP := hv.1
  have hS : va_S (Af 0 g) s.heap s.heap [] := va_S.rf
  have hl := lv_entry ([.ref (g.2.1 (5 + 0)), .int a1, .int a2, .int a3]) (n := 6) (Nat.le_of_ble_eq_true rfl)
  rw [lg_entry_eq]
  generalize (lg_sl ([.ref (g.2.1 (5 + 0)), .int a1, .int a2, .int a3]) ++ List.replicate (6 - (lg_sl ([.ref (g.2.1 (5 + 0)), .int a1, .int a2, .int a3])).length) Slot.unset).toArray = ls at hl ⊢
  have hl : lv_has ls 6 [(0, .ref (g.2.1 (5 + 0))), (1, .int a1), (2, .int a2), (3, .int a3)] := hl
  unfold p_X2_addNoise at hw
  refine lv_iconst (v := 0) C.1 C.2.1 dX2_addNoise_0 (by decide) ?_
  refine lv_istore (lv' := [(4, .int 0), (0, .ref (g.2.1 (5 + 0))), (1, .int a1), (2, .int a2), (3, .int a3)]) C.1 C.2.1 dX2_addNoise_1 hl (by decide) rfl (fun ls hl => ?_)
  obtain ⟨n9, hw⟩ := hw
  exact k_X2_addNoise_3 (Q := Q) C n9 a1 a2 a3 0  _ hw (lv_sub hl [1, 2, 3, 4, 0] rfl) hP hS
def p_J9_floorDiv_7cf53 (a0 : Int32) (a1 : Int32) (M : Mem) (Q : Int32 → Mem → Prop) : Prop := (¬ a1 = 0 ∧ (∀ x2 : Int32, x2 = (a0 / a1) → ((0 ≤ (a0 ^^^ a1) → (Q x2 M)) ∧ (¬ 0 ≤ (a0 ^^^ a1) → (((x2 * a1) = a0 → (Q x2 M)) ∧ (¬ (x2 * a1) = a0 → (Q (x2 - 1) M)))))))
set_option maxRecDepth 100000 in
set_option maxHeartbeats 4000000 in
theorem c_J9_floorDiv_7cf53 (l : Launch) (g : Geo) (gi : GI g) (a0 : Int32) (a1 : Int32) (M : Mem) (Q : Int32 → Mem → Prop) (hw : p_J9_floorDiv_7cf53 a0 a1 M Q) : Met l yJ9_floorDiv_7cf53 (Cond.code yJ9_floorDiv_7cf53 cJ9_floorDiv_7cf53 3 (some .int) :: bg) ({ frames := 0, cells := 0, slots := 0, locals := 0 } : Room) (va_Pc [.int a0, .int a1] (PW g (xw g M))) (va_Qi Q (PB g (xw g)) (Af 0 g)) 0 0 (Af 0 g) := by
  refine ofWF (cc := cJ9_floorDiv_7cf53) (maxL := 3) (ret := (some .int)) (by decide +kernel) rfl ?_
  intro p e s m args below meth c s₁ B hml hv
  obtain ⟨rfl, hv⟩ := hv
  have C := CX.start (own := RJ9) B hml rfl gi hv
  have hP := hv.1
  have hS : va_S (Af 0 g) s.heap s.heap [] := va_S.rf
  have hl := lv_entry ([.int a0, .int a1]) (n := 3) (Nat.le_of_ble_eq_true rfl)
  rw [lg_entry_eq]
  generalize (lg_sl ([.int a0, .int a1]) ++ List.replicate (3 - (lg_sl ([.int a0, .int a1])).length) Slot.unset).toArray = ls at hl ⊢
  have hl : lv_has ls 3 [(0, .int a0), (1, .int a1)] := hl
  unfold p_J9_floorDiv_7cf53 at hw
  refine lv_iload_n C.1 C.2.1 dJ9_floorDiv_7cf53_0 rfl (lv_at hl 0 rfl) ?_
  refine lv_iload_n C.1 C.2.1 dJ9_floorDiv_7cf53_1 rfl (lv_at hl 1 rfl) ?_
  obtain ⟨h1, hw⟩ := hw
  refine lv_idiv C.1 C.2.1 dJ9_floorDiv_7cf53_2 h1 ?_
  refine lv_topi (fun x2 e2 => ?_)
  have hw := hw x2 e2
  refine lv_istore_n (lv' := [(2, .int x2), (0, .int a0), (1, .int a1)]) C.1 C.2.1 dJ9_floorDiv_7cf53_3 rfl hl (by decide) rfl (fun ls hl => ?_)
  refine lv_iload_n C.1 C.2.1 dJ9_floorDiv_7cf53_4 rfl (lv_at hl 1 rfl) ?_
  refine lv_iload_n C.1 C.2.1 dJ9_floorDiv_7cf53_5 rfl (lv_at hl 2 rfl) ?_
  refine lv_ixor C.1 C.2.1 dJ9_floorDiv_7cf53_6 ?_
  refine lv_if_ge (tgt := 21) C.1 C.2.1 dJ9_floorDiv_7cf53_7 (by decide) (fun h3 => ?_) (fun h3 => ?_)
  · have hw := hw.1 h3
    refine lv_iload_n C.1 C.2.1 dJ9_floorDiv_7cf53_21 rfl (lv_at hl 0 rfl) ?_
    exact retI (wf := (xw g)) C hP hS hw dJ9_floorDiv_7cf53_22
  · have hw := hw.2 h3
    refine lv_iload_n C.1 C.2.1 dJ9_floorDiv_7cf53_10 rfl (lv_at hl 0 rfl) ?_
    refine lv_iload_n C.1 C.2.1 dJ9_floorDiv_7cf53_11 rfl (lv_at hl 2 rfl) ?_
    refine lv_imul C.1 C.2.1 dJ9_floorDiv_7cf53_12 ?_
    refine lv_iload_n C.1 C.2.1 dJ9_floorDiv_7cf53_13 rfl (lv_at hl 1 rfl) ?_
    refine lv_icmp_eq (tgt := 21) C.1 C.2.1 dJ9_floorDiv_7cf53_14 (by decide) (fun h4 => ?_) (fun h4 => ?_)
    · have hw := hw.1 h4
      refine lv_iload_n C.1 C.2.1 dJ9_floorDiv_7cf53_21 rfl (lv_at hl 0 rfl) ?_
      exact retI (wf := (xw g)) C hP hS hw dJ9_floorDiv_7cf53_22
    · have hw := hw.2 h4
      refine lv_iload_n C.1 C.2.1 dJ9_floorDiv_7cf53_17 rfl (lv_at hl 0 rfl) ?_
      refine lv_iconst (v := 1) C.1 C.2.1 dJ9_floorDiv_7cf53_18 (by decide) ?_
      refine lv_isub C.1 C.2.1 dJ9_floorDiv_7cf53_19 ?_
      exact retI (wf := (xw g)) C hP hS hw dJ9_floorDiv_7cf53_20
def p_X2_angleOf (a0 : Int32) (a1 : Int32) (a2 : Int32) (M : Mem) (Q : Int32 → Mem → Prop) : Prop := (Q (((((a1 - 7) * a0) >>> (3 &&& 31)) + a2) &&& 15) M)
set_option maxRecDepth 100000 in
set_option maxHeartbeats 4000000 in
theorem c_X2_angleOf (l : Launch) (g : Geo) (gi : GI g) (a0 : Int32) (a1 : Int32) (a2 : Int32) (M : Mem) (Q : Int32 → Mem → Prop) (hw : p_X2_angleOf a0 a1 a2 M Q) : Met l yX2_angleOf (Cond.code yX2_angleOf cX2_angleOf 3 (some .int) :: bg) ({ frames := 0, cells := 0, slots := 0, locals := 0 } : Room) (va_Pc [.int a0, .int a1, .int a2] (PW g (xw g M))) (va_Qi Q (PB g (xw g)) (Af 0 g)) 0 0 (Af 0 g) := by
  refine Met.ofW (cc := cX2_angleOf) (maxL := 3) (ret := (some .int)) (by decide +kernel) rfl ?_
  intro p e s m args below meth c s₁ B hml hv
  obtain ⟨rfl, hv⟩ := hv
  have C := CX.start (own := RX2) B hml rfl gi hv
  have hP := hv.1
  have hS : va_S (Af 0 g) s.heap s.heap [] := va_S.rf
  have hl := lv_entry ([.int a0, .int a1, .int a2]) (n := 3) (Nat.le_of_ble_eq_true rfl)
  rw [lg_entry_eq]
  generalize (lg_sl ([.int a0, .int a1, .int a2]) ++ List.replicate (3 - (lg_sl ([.int a0, .int a1, .int a2])).length) Slot.unset).toArray = ls at hl ⊢
  have hl : lv_has ls 3 [(0, .int a0), (1, .int a1), (2, .int a2)] := hl
  unfold p_X2_angleOf at hw
  refine lv_iload_n C.1 C.2.1 dX2_angleOf_0 rfl (lv_at hl 1 rfl) ?_
  refine lv_bipush (v := 7) C.1 C.2.1 dX2_angleOf_1 (by decide) ?_
  refine lv_isub C.1 C.2.1 dX2_angleOf_3 ?_
  refine lv_iload_n C.1 C.2.1 dX2_angleOf_4 rfl (lv_at hl 0 rfl) ?_
  refine lv_imul C.1 C.2.1 dX2_angleOf_5 ?_
  refine lv_iconst (v := 3) C.1 C.2.1 dX2_angleOf_6 (by decide) ?_
  refine lv_ishr C.1 C.2.1 dX2_angleOf_7 ?_
  refine lv_iload_n C.1 C.2.1 dX2_angleOf_8 rfl (lv_at hl 2 rfl) ?_
  refine lv_iadd C.1 C.2.1 dX2_angleOf_9 ?_
  refine lv_bipush (v := 15) C.1 C.2.1 dX2_angleOf_10 (by decide) ?_
  refine lv_iand C.1 C.2.1 dX2_angleOf_12 ?_
  exact retI (wf := (xw g)) C hP hS hw dX2_angleOf_13
def b_X2_addBird_167 (Q : Mem → Prop) (k45 : Nat → Int32 → Int32 → Int32 → Int32 → Int32 → Mem → Prop) (v1 : Nat) (v3 : Int32) (v4 : Int32) (v5 : Int32) (v6 : Int32) (v7 : Int32) (M : Mem) : Prop := (∀ x18 : Int32, x18 = (v7 + 1) → (k45 v1 v3 v4 v5 v6 x18 M))
set_option maxRecDepth 100000 in
set_option maxHeartbeats 4000000 in
theorem k_X2_addBird_167 {p : Program} {l : Launch} {e : Env} {s : State} {m : MethodId} {args : Array Value} {below : List Frame} {meth : Method} {c : Code} {g : Geo} (C : CX g p s m args meth c cX2_addBird 10 none RX2) {Q : Mem → Prop} {k45 : Nat → Int32 → Int32 → Int32 → Int32 → Int32 → Mem → Prop} (hk45 : ∀ (v1 : Nat) (v3 : Int32) (v4 : Int32) (v5 : Int32) (v6 : Int32) (v7 : Int32) (hv1 : v1 < 10) (M : Mem), k45 v1 v3 v4 v5 v6 v7 M → ∀ (H : Heap) (locs : List Loc) (ls : Array Slot), lv_has ls 10 [(0, .ref (g.2.1 (5 + 0))), (1, .ref (g.2.1 (27 + v1))), (3, .int v3), (4, .int v4), (5, .int v5), (6, .int v6), (7, .int v7)] → va_P g.1 clz (xw g M) H → va_S (Af 0 g) s.heap H locs → W p l e ({ frames := 1, cells := 0, slots := 0, locals := 22 } : Room) s m args below meth c H locs 0 0 (MQ below (va_Qv Q (PB g (xw g)) (Af 0 g)) args s 0 0 (Af 0 g)) (F0 m 45 ls [])) (v1 : Nat) (v3 : Int32) (v4 : Int32) (v5 : Int32) (v6 : Int32) (v7 : Int32) (hv1 : v1 < 10) (M : Mem) (hw : b_X2_addBird_167 Q k45 v1 v3 v4 v5 v6 v7 M) {H : Heap} {locs : List Loc} {ls : Array Slot} (hl : lv_has ls 10 [(0, .ref (g.2.1 (5 + 0))), (1, .ref (g.2.1 (27 + v1))), (3, .int v3), (4, .int v4), (5, .int v5), (6, .int v6), (7, .int v7)]) (hP : va_P g.1 clz (xw g M) H) (hS : va_S (Af 0 g) s.heap H locs) : W p l e ({ frames := 1, cells := 0, slots := 0, locals := 22 } : Room) s m args below meth c H locs 0 0 (MQ below (va_Qv Q (PB g (xw g)) (Af 0 g)) args s 0 0 (Af 0 g)) (F0 m 167 ls []) := by
  unfold b_X2_addBird_167 at hw
  obtain ⟨x18, e18⟩ : ∃ y : Int32, y = (v7 + 1) := ⟨_, rfl⟩
  have hw := hw x18 e18
  refine lv_iinc (v := x18) (lv' := [(7, .int x18), (0, .ref (g.2.1 (5 + 0))), (1, .ref (g.2.1 (27 + v1))), (3, .int v3), (4, .int v4), (5, .int v5), (6, .int v6)]) C.1 C.2.1 dX2_addBird_167 hl (k := 6) rfl (by rw [e18]; rfl) (by decide) rfl (fun ls hl => ?_)
  refine lv_goto (tgt := 45) C.1 C.2.1 dX2_addBird_170 (by decide) ?_
  exact hk45 v1 v3 v4 v5 v6 x18 hv1 _ hw _ _ _ (lv_sub hl [1, 2, 3, 4, 5, 6, 0] rfl) hP hS
def b_X2_addBird_97 (Q : Mem → Prop) (k45 : Nat → Int32 → Int32 → Int32 → Int32 → Int32 → Mem → Prop) (v1 : Nat) (v3 : Int32) (v4 : Int32) (v5 : Int32) (v6 : Int32) (v7 : Int32) (v8 : Int32) (s0 : Int32) (M : Mem) : Prop := (vp_in v7 62 ∧ (vp_in v8 16 ∧ (vp_in v7 62 ∧ (∀ M12 : Mem, M12 = sI M 6 0 (v7 : Int32).toNatClampNeg ((M.1 6 0 (v7 : Int32).toNatClampNeg) + (s0 * (stab 4 (v8 : Int32).toNatClampNeg))) → (vp_in v7 62 ∧ (vp_in ((v8 + 12) &&& 15) 16 ∧ (vp_in v7 62 ∧ (∀ M15 : Mem, M15 = sI M12 7 0 (v7 : Int32).toNatClampNeg ((M12.1 7 0 (v7 : Int32).toNatClampNeg) + (s0 * (stab 4 (((v8 + 12) &&& 15) : Int32).toNatClampNeg))) → (∀ x16 : Int32, x16 = (v5 + 1) → ((¬ x16 = 62 → (b_X2_addBird_167 Q k45 v1 v3 v4 x16 v6 v7 M15)) ∧ (x16 = 62 → (∀ x19 : Int32, x19 = (v4 + 1) → (p_X0_bitAt v1 x19 M15 (fun r20 M20 => (b_X2_addBird_167 Q k45 v1 v3 x19 0 r20 v7 M20)))))))))))))))
set_option maxRecDepth 100000 in
set_option maxHeartbeats 4000000 in
theorem k_X2_addBird_97 {p : Program} {l : Launch} {e : Env} {s : State} {m : MethodId} {args : Array Value} {below : List Frame} {meth : Method} {c : Code} {g : Geo} (C : CX g p s m args meth c cX2_addBird 10 none RX2) {Q : Mem → Prop} {k45 : Nat → Int32 → Int32 → Int32 → Int32 → Int32 → Mem → Prop} (hk45 : ∀ (v1 : Nat) (v3 : Int32) (v4 : Int32) (v5 : Int32) (v6 : Int32) (v7 : Int32) (hv1 : v1 < 10) (M : Mem), k45 v1 v3 v4 v5 v6 v7 M → ∀ (H : Heap) (locs : List Loc) (ls : Array Slot), lv_has ls 10 [(0, .ref (g.2.1 (5 + 0))), (1, .ref (g.2.1 (27 + v1))), (3, .int v3), (4, .int v4), (5, .int v5), (6, .int v6), (7, .int v7)] → va_P g.1 clz (xw g M) H → va_S (Af 0 g) s.heap H locs → W p l e ({ frames := 1, cells := 0, slots := 0, locals := 22 } : Room) s m args below meth c H locs 0 0 (MQ below (va_Qv Q (PB g (xw g)) (Af 0 g)) args s 0 0 (Af 0 g)) (F0 m 45 ls [])) (v1 : Nat) (v3 : Int32) (v4 : Int32) (v5 : Int32) (v6 : Int32) (v7 : Int32) (v8 : Int32) (s0 : Int32) (hv1 : v1 < 10) (M : Mem) (hw : b_X2_addBird_97 Q k45 v1 v3 v4 v5 v6 v7 v8 s0 M) {H : Heap} {locs : List Loc} {ls : Array Slot} (hl : lv_has ls 10 [(0, .ref (g.2.1 (5 + 0))), (1, .ref (g.2.1 (27 + v1))), (3, .int v3), (4, .int v4), (5, .int v5), (6, .int v6), (7, .int v7), (8, .int v8)]) (hP : va_P g.1 clz (xw g M) H) (hS : va_S (Af 0 g) s.heap H locs) : W p l e ({ frames := 1, cells := 0, slots := 0, locals := 22 } : Room) s m args below meth c H locs 0 0 (MQ below (va_Qv Q (PB g (xw g)) (Af 0 g)) args s 0 0 (Af 0 g)) (F0 m 97 ls [.int s0]) := by
  unfold b_X2_addBird_97 at hw
  refine lv_istore (lv' := [(9, .int s0), (0, .ref (g.2.1 (5 + 0))), (1, .ref (g.2.1 (27 + v1))), (3, .int v3), (4, .int v4), (5, .int v5), (6, .int v6), (7, .int v7), (8, .int v8)]) C.1 C.2.1 dX2_addBird_97 hl (by decide) rfl (fun ls hl => ?_)
  refine lv_aload_n C.1 C.2.1 dX2_addBird_99 rfl (lv_at hl 1 rfl) ?_
  refine gX2_9 C hP Nat.zero_lt_one dX2_addBird_100 ?_
  refine lv_iload C.1 C.2.1 dX2_addBird_103 (lv_at hl 7 rfl) ?_
  refine lv_dup2_11 C.1 C.2.1 dX2_addBird_105 rfl rfl ?_
  obtain ⟨h10, hw⟩ := hw
  refine al_6 C hP Nat.zero_lt_one h10 dX2_addBird_106 ?_
  refine lv_iload C.1 C.2.1 dX2_addBird_107 (lv_at hl 0 rfl) ?_
  refine gX2_94 C hS dX2_addBird_109 ?_
  refine lv_iload C.1 C.2.1 dX2_addBird_112 (lv_at hl 8 rfl) ?_
  obtain ⟨h11, hw⟩ := hw
  refine si_4 C hS h11 dX2_addBird_114 ?_
  refine lv_imul C.1 C.2.1 dX2_addBird_115 ?_
  refine lv_iadd C.1 C.2.1 dX2_addBird_116 ?_
  obtain ⟨h12, hw⟩ := hw
  refine as_6 C hP hS Nat.zero_lt_one h12 dX2_addBird_117 (fun M12 e12 H locs hP hS => ?_)
  have hw := hw M12 e12
  refine lv_aload_n C.1 C.2.1 dX2_addBird_118 rfl (lv_at hl 1 rfl) ?_
  refine gX2_15 C hP Nat.zero_lt_one dX2_addBird_119 ?_
  refine lv_iload C.1 C.2.1 dX2_addBird_122 (lv_at hl 7 rfl) ?_
  refine lv_dup2_11 C.1 C.2.1 dX2_addBird_124 rfl rfl ?_
  obtain ⟨h13, hw⟩ := hw
  refine al_7 C hP Nat.zero_lt_one h13 dX2_addBird_125 ?_
  refine lv_iload C.1 C.2.1 dX2_addBird_126 (lv_at hl 0 rfl) ?_
  refine gX2_94 C hS dX2_addBird_128 ?_
  refine lv_iload C.1 C.2.1 dX2_addBird_131 (lv_at hl 8 rfl) ?_
  refine lv_bipush (v := 12) C.1 C.2.1 dX2_addBird_133 (by decide) ?_
  refine lv_iadd C.1 C.2.1 dX2_addBird_135 ?_
  refine lv_bipush (v := 15) C.1 C.2.1 dX2_addBird_136 (by decide) ?_
  refine lv_iand C.1 C.2.1 dX2_addBird_138 ?_
  obtain ⟨h14, hw⟩ := hw
  refine si_4 C hS h14 dX2_addBird_139 ?_
  refine lv_imul C.1 C.2.1 dX2_addBird_140 ?_
  refine lv_iadd C.1 C.2.1 dX2_addBird_141 ?_
  obtain ⟨h15, hw⟩ := hw
  refine as_7 C hP hS Nat.zero_lt_one h15 dX2_addBird_142 (fun M15 e15 H locs hP hS => ?_)
  have hw := hw M15 e15
  obtain ⟨x16, e16⟩ : ∃ y : Int32, y = (v5 + 1) := ⟨_, rfl⟩
  have hw := hw x16 e16
  refine lv_iinc (v := x16) (lv' := [(5, .int x16), (9, .int s0), (0, .ref (g.2.1 (5 + 0))), (1, .ref (g.2.1 (27 + v1))), (3, .int v3), (4, .int v4), (6, .int v6), (7, .int v7), (8, .int v8)]) C.1 C.2.1 dX2_addBird_143 hl (k := 5) rfl (by rw [e16]; rfl) (by decide) rfl (fun ls hl => ?_)
  refine lv_iload C.1 C.2.1 dX2_addBird_146 (lv_at hl 0 rfl) ?_
  refine lv_bipush (v := 62) C.1 C.2.1 dX2_addBird_148 (by decide) ?_
  refine lv_icmp_ne (tgt := 167) C.1 C.2.1 dX2_addBird_150 (by decide) (fun h17 => ?_) (fun h17 => ?_)
  · have hw := hw.1 h17
    exact k_X2_addBird_167 (Q := Q) C hk45 v1 v3 v4 x16 v6 v7 hv1 _ hw (lv_sub hl [2, 3, 4, 5, 0, 6, 7] rfl) hP hS
  · have hw := hw.2 h17
    refine lv_iconst (v := 0) C.1 C.2.1 dX2_addBird_153 (by decide) ?_
    refine lv_istore (lv' := [(5, .int 0), (9, .int s0), (0, .ref (g.2.1 (5 + 0))), (1, .ref (g.2.1 (27 + v1))), (3, .int v3), (4, .int v4), (6, .int v6), (7, .int v7), (8, .int v8)]) C.1 C.2.1 dX2_addBird_154 hl (by decide) rfl (fun ls hl => ?_)
    obtain ⟨x19, e19⟩ : ∃ y : Int32, y = (v4 + 1) := ⟨_, rfl⟩
    have hw := hw x19 e19
    refine lv_iinc (v := x19) (lv' := [(4, .int x19), (5, .int 0), (9, .int s0), (0, .ref (g.2.1 (5 + 0))), (1, .ref (g.2.1 (27 + v1))), (3, .int v3), (6, .int v6), (7, .int v7), (8, .int v8)]) C.1 C.2.1 dX2_addBird_156 hl (k := 5) rfl (by rw [e19]; rfl) (by decide) rfl (fun ls hl => ?_)
    refine lv_aload_n C.1 C.2.1 dX2_addBird_159 rfl (lv_at hl 4 rfl) ?_
    refine lv_iload C.1 C.2.1 dX2_addBird_160 (lv_at hl 0 rfl) ?_
    refine goI (wf := (xw g)) (runV (w := xw g M15) (As := [.int x19]) (rest := []) C lkX2_75 (c_X0_bitAt l g C.2.2.2.2.2.2.2.2.2.2 v1 x19 hv1 M15 _ hw) hP hS rfl rfl ⟨Nat.le_of_ble_eq_true rfl, Nat.le_of_ble_eq_true rfl⟩ (xx_25 hv1) rfl rfl hl.1 rfl (Nat.le_of_ble_eq_true rfl) dX2_addBird_162) hS (fun r20 M20 hw H locs hP hS => ?_)
    refine lv_istore (lv' := [(6, .int r20), (4, .int x19), (5, .int 0), (9, .int s0), (0, .ref (g.2.1 (5 + 0))), (1, .ref (g.2.1 (27 + v1))), (3, .int v3), (7, .int v7), (8, .int v8)]) C.1 C.2.1 dX2_addBird_165 hl (by decide) rfl (fun ls hl => ?_)
    exact k_X2_addBird_167 (Q := Q) C hk45 v1 v3 x19 0 r20 v7 hv1 _ hw (lv_sub hl [4, 5, 6, 1, 2, 0, 7] rfl) hP hS
def b_X2_addBird_45 (Q : Mem → Prop) : Nat → Nat → Int32 → Int32 → Int32 → Int32 → Int32 → Mem → Prop
  | 0, _, _, _, _, _, _, _ => False
  | n + 1, v1, v3, v4, v5, v6, v7, M => ((62 ≤ v7 → (Q M)) ∧ (¬ 62 ≤ v7 → (p_X2_angleOf ((v3 + v7)) ((M.1 25 v1 4)) ((M.1 25 v1 5)) M (fun r8 M8 => ((¬ ((((M8.1 25 v1 2) : Int32).toUInt32 >>> (((v5 / 2) : Int32).toUInt32 &&& Int32.toUInt32 31)).toInt32 &&& 1) = v6 → (b_X2_addBird_97 Q (fun v1 v3 v4 v5 v6 v7 M => b_X2_addBird_45 Q n v1 v3 v4 v5 v6 v7 M) v1 v3 v4 v5 v6 v7 r8 ((M8.1 25 v1 6)) M8)) ∧ (((((M8.1 25 v1 2) : Int32).toUInt32 >>> (((v5 / 2) : Int32).toUInt32 &&& Int32.toUInt32 31)).toInt32 &&& 1) = v6 → (b_X2_addBird_97 Q (fun v1 v3 v4 v5 v6 v7 M => b_X2_addBird_45 Q n v1 v3 v4 v5 v6 v7 M) v1 v3 v4 v5 v6 v7 r8 ((-(M8.1 25 v1 6))) M8)))))))
set_option maxRecDepth 100000 in
set_option maxHeartbeats 4000000 in
theorem k_X2_addBird_45 {p : Program} {l : Launch} {e : Env} {s : State} {m : MethodId} {args : Array Value} {below : List Frame} {meth : Method} {c : Code} {g : Geo} (C : CX g p s m args meth c cX2_addBird 10 none RX2) {Q : Mem → Prop} : ∀ (n : Nat) (v1 : Nat) (v3 : Int32) (v4 : Int32) (v5 : Int32) (v6 : Int32) (v7 : Int32) (hv1 : v1 < 10) (M : Mem) (hw : b_X2_addBird_45 Q n v1 v3 v4 v5 v6 v7 M) {H : Heap} {locs : List Loc} {ls : Array Slot} (hl : lv_has ls 10 [(0, .ref (g.2.1 (5 + 0))), (1, .ref (g.2.1 (27 + v1))), (3, .int v3), (4, .int v4), (5, .int v5), (6, .int v6), (7, .int v7)]) (hP : va_P g.1 clz (xw g M) H) (hS : va_S (Af 0 g) s.heap H locs), W p l e ({ frames := 1, cells := 0, slots := 0, locals := 22 } : Room) s m args below meth c H locs 0 0 (MQ below (va_Qv Q (PB g (xw g)) (Af 0 g)) args s 0 0 (Af 0 g)) (F0 m 45 ls []) := by
  intro n
  induction n with
  | zero => intro v1 v3 v4 v5 v6 v7 hv1 M hw H locs ls hl hP hS; exact absurd hw (by rw [b_X2_addBird_45]; exact fun h => h)
  | succ n ih =>
    intro v1 v3 v4 v5 v6 v7 hv1 M hw H locs ls hl hP hS
    rw [b_X2_addBird_45] at hw
    refine lv_iload C.1 C.2.1 dX2_addBird_45 (lv_at hl 6 rfl) ?_
    refine lv_bipush (v := 62) C.1 C.2.1 dX2_addBird_47 (by decide) ?_
    refine lv_icmp_ge (tgt := 173) C.1 C.2.1 dX2_addBird_49 (by decide) (fun h7 => ?_) (fun h7 => ?_)
    · have hw := hw.1 h7
      exact retV (wf := (xw g)) C hP hS hw dX2_addBird_173
    · have hw := hw.2 h7
      refine lv_iload_n C.1 C.2.1 dX2_addBird_52 rfl (lv_at hl 2 rfl) ?_
      refine lv_iload C.1 C.2.1 dX2_addBird_53 (lv_at hl 6 rfl) ?_
      refine lv_iadd C.1 C.2.1 dX2_addBird_55 ?_
      refine lv_aload_n C.1 C.2.1 dX2_addBird_56 rfl (lv_at hl 1 rfl) ?_
      refine gX2_78 C hP hv1 dX2_addBird_57 ?_
      refine lv_aload_n C.1 C.2.1 dX2_addBird_60 rfl (lv_at hl 1 rfl) ?_
      refine gX2_81 C hP hv1 dX2_addBird_61 ?_
      refine goI (wf := (xw g)) (runS (w := xw g M) (As := [.int (v3 + v7), .int (M.1 25 v1 4), .int (M.1 25 v1 5)]) (rest := []) C lkX2_84 (c_X2_angleOf l g C.2.2.2.2.2.2.2.2.2.2 ((v3 + v7)) ((M.1 25 v1 4)) ((M.1 25 v1 5))  M _ hw) hP hS rfl rfl ⟨Nat.le_of_ble_eq_true rfl, Nat.le_of_ble_eq_true rfl⟩ hl.1 rfl (Nat.le_of_ble_eq_true rfl) dX2_addBird_64) hS (fun r8 M8 hw H locs hP hS => ?_)
      refine lv_istore (lv' := [(8, .int r8), (0, .ref (g.2.1 (5 + 0))), (1, .ref (g.2.1 (27 + v1))), (3, .int v3), (4, .int v4), (5, .int v5), (6, .int v6), (7, .int v7)]) C.1 C.2.1 dX2_addBird_67 hl (by decide) rfl (fun ls hl => ?_)
      refine lv_aload_n C.1 C.2.1 dX2_addBird_69 rfl (lv_at hl 2 rfl) ?_
      refine gX2_88 C hP hv1 dX2_addBird_70 ?_
      refine lv_iload C.1 C.2.1 dX2_addBird_73 (lv_at hl 5 rfl) ?_
      refine lv_iconst (v := 2) C.1 C.2.1 dX2_addBird_75 (by decide) ?_
      refine lv_idiv C.1 C.2.1 dX2_addBird_76 (by decide) ?_
      refine lv_iushr C.1 C.2.1 dX2_addBird_77 rfl ?_
      refine lv_iconst (v := 1) C.1 C.2.1 dX2_addBird_78 (by decide) ?_
      refine lv_iand C.1 C.2.1 dX2_addBird_79 ?_
      refine lv_iload C.1 C.2.1 dX2_addBird_80 (lv_at hl 6 rfl) ?_
      refine lv_icmp_ne (tgt := 93) C.1 C.2.1 dX2_addBird_82 (by decide) (fun h9 => ?_) (fun h9 => ?_)
      · have hw := hw.1 h9
        refine lv_aload_n C.1 C.2.1 dX2_addBird_93 rfl (lv_at hl 2 rfl) ?_
        refine gX2_91 C hP hv1 dX2_addBird_94 ?_
        exact k_X2_addBird_97 (Q := Q) C (fun v1 v3 v4 v5 v6 v7 hv1 M hw H locs ls hl hP hS => ih v1 v3 v4 v5 v6 v7 hv1 M hw hl hP hS) v1 v3 v4 v5 v6 v7 r8 ((M8.1 25 v1 6)) hv1 _ hw (lv_sub hl [1, 2, 3, 4, 5, 6, 7, 0] rfl) hP hS
      · have hw := hw.2 h9
        refine lv_aload_n C.1 C.2.1 dX2_addBird_85 rfl (lv_at hl 2 rfl) ?_
        refine gX2_91 C hP hv1 dX2_addBird_86 ?_
        refine lv_ineg C.1 C.2.1 dX2_addBird_89 ?_
        refine lv_goto (tgt := 97) C.1 C.2.1 dX2_addBird_90 (by decide) ?_
        exact k_X2_addBird_97 (Q := Q) C (fun v1 v3 v4 v5 v6 v7 hv1 M hw H locs ls hl hP hS => ih v1 v3 v4 v5 v6 v7 hv1 M hw hl hP hS) v1 v3 v4 v5 v6 v7 r8 ((-(M8.1 25 v1 6))) hv1 _ hw (lv_sub hl [1, 2, 3, 4, 5, 6, 7, 0] rfl) hP hS
def p_X2_addBird (a1 : Nat) (a2 : Int32) (M : Mem) (Q : Mem → Prop) : Prop := (∀ x1 : Int32, x1 = ((62 : Int32) * a2) → (p_X0_startIn a1 a2 M (fun r2 M2 => (p_J9_floorDiv_7cf53 ((x1 - r2)) 62 M2 (fun r3 M3 => (p_X0_startIn a1 a2 M3 (fun r4 M4 => (∀ x5 : Int32, x5 = ((x1 - r4) - ((62 : Int32) * r3)) → (p_X0_bitAt a1 r3 M4 (fun r6 M6 => (∃ n45 : Nat, b_X2_addBird_45 Q n45 a1 x1 r3 x5 r6 0 M6)))))))))))
set_option maxRecDepth 100000 in
set_option maxHeartbeats 4000000 in
theorem c_X2_addBird (l : Launch) (g : Geo) (gi : GI g) (a1 : Nat) (a2 : Int32) (ha1 : a1 < 10) (M : Mem) (Q : Mem → Prop) (hw : p_X2_addBird a1 a2 M Q) : Met l yX2_addBird (Cond.code yX2_addBird cX2_addBird 10 none :: bg) ({ frames := 1, cells := 0, slots := 0, locals := 22 } : Room) (va_Pc [.ref (g.2.1 (5 + 0)), .ref (g.2.1 (27 + a1)), .int a2] (PW g (xw g M))) (va_Qv Q (PB g (xw g)) (Af 0 g)) 0 0 (Af 0 g) := by
  refine Met.ofW (cc := cX2_addBird) (maxL := 10) (ret := none) (by decide +kernel) rfl ?_
  intro p e s m args below meth c s₁ B hml hv
  obtain ⟨rfl, hv⟩ := hv
  have C := CX.start (own := RX2) B hml rfl gi hv
  have hP := hv.1
  have hS : va_S (Af 0 g) s.heap s.heap [] := va_S.rf
  have hl := lv_entry ([.ref (g.2.1 (5 + 0)), .ref (g.2.1 (27 + a1)), .int a2]) (n := 10) (Nat.le_of_ble_eq_true rfl)
  rw [lg_entry_eq]
  generalize (lg_sl ([.ref (g.2.1 (5 + 0)), .ref (g.2.1 (27 + a1)), .int a2]) ++ List.replicate (10 - (lg_sl ([.ref (g.2.1 (5 + 0)), .ref (g.2.1 (27 + a1)), .int a2])).length) Slot.unset).toArray = ls at hl ⊢
  have hl : lv_has ls 10 [(0, .ref (g.2.1 (5 + 0))), (1, .ref (g.2.1 (27 + a1))), (2, .int a2)] := hl
  unfold p_X2_addBird at hw
  refine lv_bipush (v := 62) C.1 C.2.1 dX2_addBird_0 (by decide) ?_
  refine lv_iload_n C.1 C.2.1 dX2_addBird_2 rfl (lv_at hl 2 rfl) ?_
  refine lv_imul C.1 C.2.1 dX2_addBird_3 ?_
  refine lv_topi (fun x1 e1 => ?_)
  have hw := hw x1 e1
  refine lv_istore_n (lv' := [(3, .int x1), (0, .ref (g.2.1 (5 + 0))), (1, .ref (g.2.1 (27 + a1))), (2, .int a2)]) C.1 C.2.1 dX2_addBird_4 rfl hl (by decide) rfl (fun ls hl => ?_)
  refine lv_iload_n C.1 C.2.1 dX2_addBird_5 rfl (lv_at hl 0 rfl) ?_
  refine lv_aload_n C.1 C.2.1 dX2_addBird_6 rfl (lv_at hl 2 rfl) ?_
  refine lv_iload_n C.1 C.2.1 dX2_addBird_7 rfl (lv_at hl 3 rfl) ?_
  refine goI (wf := (xw g)) (runV (w := xw g M) (As := [.int a2]) (rest := [.int x1]) C lkX2_65 (c_X0_startIn l g C.2.2.2.2.2.2.2.2.2.2 a1 a2 ha1 M _ hw) hP hS rfl rfl ⟨Nat.le_of_ble_eq_true rfl, Nat.le_of_ble_eq_true rfl⟩ (xx_25 ha1) rfl rfl hl.1 rfl (Nat.le_of_ble_eq_true rfl) dX2_addBird_8) hS (fun r2 M2 hw H locs hP hS => ?_)
  refine lv_isub C.1 C.2.1 dX2_addBird_11 ?_
  refine lv_bipush (v := 62) C.1 C.2.1 dX2_addBird_12 (by decide) ?_
  refine goI (wf := (xw g)) (runS (w := xw g M2) (As := [.int (x1 - r2), .int 62]) (rest := []) C lkX2_69 (c_J9_floorDiv_7cf53 l g C.2.2.2.2.2.2.2.2.2.2 ((x1 - r2)) 62  M2 _ hw) hP hS rfl rfl ⟨Nat.le_of_ble_eq_true rfl, Nat.le_of_ble_eq_true rfl⟩ hl.1 rfl (Nat.le_of_ble_eq_true rfl) dX2_addBird_14) hS (fun r3 M3 hw H locs hP hS => ?_)
  refine lv_istore (lv' := [(4, .int r3), (3, .int x1), (0, .ref (g.2.1 (5 + 0))), (1, .ref (g.2.1 (27 + a1))), (2, .int a2)]) C.1 C.2.1 dX2_addBird_17 hl (by decide) rfl (fun ls hl => ?_)
  refine lv_iload_n C.1 C.2.1 dX2_addBird_19 rfl (lv_at hl 1 rfl) ?_
  refine lv_aload_n C.1 C.2.1 dX2_addBird_20 rfl (lv_at hl 3 rfl) ?_
  refine lv_iload_n C.1 C.2.1 dX2_addBird_21 rfl (lv_at hl 4 rfl) ?_
  refine goI (wf := (xw g)) (runV (w := xw g M3) (As := [.int a2]) (rest := [.int x1]) C lkX2_65 (c_X0_startIn l g C.2.2.2.2.2.2.2.2.2.2 a1 a2 ha1 M3 _ hw) hP hS rfl rfl ⟨Nat.le_of_ble_eq_true rfl, Nat.le_of_ble_eq_true rfl⟩ (xx_25 ha1) rfl rfl hl.1 rfl (Nat.le_of_ble_eq_true rfl) dX2_addBird_22) hS (fun r4 M4 hw H locs hP hS => ?_)
  refine lv_isub C.1 C.2.1 dX2_addBird_25 ?_
  refine lv_bipush (v := 62) C.1 C.2.1 dX2_addBird_26 (by decide) ?_
  refine lv_iload C.1 C.2.1 dX2_addBird_28 (lv_at hl 0 rfl) ?_
  refine lv_imul C.1 C.2.1 dX2_addBird_30 ?_
  refine lv_isub C.1 C.2.1 dX2_addBird_31 ?_
  refine lv_topi (fun x5 e5 => ?_)
  have hw := hw x5 e5
  refine lv_istore (lv' := [(5, .int x5), (4, .int r3), (3, .int x1), (0, .ref (g.2.1 (5 + 0))), (1, .ref (g.2.1 (27 + a1))), (2, .int a2)]) C.1 C.2.1 dX2_addBird_32 hl (by decide) rfl (fun ls hl => ?_)
  refine lv_aload_n C.1 C.2.1 dX2_addBird_34 rfl (lv_at hl 4 rfl) ?_
  refine lv_iload C.1 C.2.1 dX2_addBird_35 (lv_at hl 1 rfl) ?_
  refine goI (wf := (xw g)) (runV (w := xw g M4) (As := [.int r3]) (rest := []) C lkX2_75 (c_X0_bitAt l g C.2.2.2.2.2.2.2.2.2.2 a1 r3 ha1 M4 _ hw) hP hS rfl rfl ⟨Nat.le_of_ble_eq_true rfl, Nat.le_of_ble_eq_true rfl⟩ (xx_25 ha1) rfl rfl hl.1 rfl (Nat.le_of_ble_eq_true rfl) dX2_addBird_37) hS (fun r6 M6 hw H locs hP hS => ?_)
  refine lv_istore (lv' := [(6, .int r6), (5, .int x5), (4, .int r3), (3, .int x1), (0, .ref (g.2.1 (5 + 0))), (1, .ref (g.2.1 (27 + a1))), (2, .int a2)]) C.1 C.2.1 dX2_addBird_40 hl (by decide) rfl (fun ls hl => ?_)
  refine lv_iconst (v := 0) C.1 C.2.1 dX2_addBird_42 (by decide) ?_
  refine lv_istore (lv' := [(7, .int 0), (6, .int r6), (5, .int x5), (4, .int r3), (3, .int x1), (0, .ref (g.2.1 (5 + 0))), (1, .ref (g.2.1 (27 + a1))), (2, .int a2)]) C.1 C.2.1 dX2_addBird_43 hl (by decide) rfl (fun ls hl => ?_)
  obtain ⟨n9, hw⟩ := hw
  exact k_X2_addBird_45 (Q := Q) C n9 a1 x1 r3 x5 r6 0 ha1 _ hw (lv_sub hl [5, 6, 4, 3, 2, 1, 0] rfl) hP hS
def b_X2_hearAs_94 (Q : Mem → Prop) (v2 : Int32) (v3 : Int32) (v4 : Int32) (M : Mem) : Prop := ((v3 ≤ 0 → (Q M)) ∧ (¬ v3 ≤ 0 → (p_X2_addNoise v2 v3 v4 M (fun M5 => (Q M5)))))
set_option maxRecDepth 100000 in
set_option maxHeartbeats 4000000 in
theorem k_X2_hearAs_94 {p : Program} {l : Launch} {e : Env} {s : State} {m : MethodId} {args : Array Value} {below : List Frame} {meth : Method} {c : Code} {g : Geo} (C : CX g p s m args meth c cX2_hearAs 7 none RX2) {Q : Mem → Prop} (v2 : Int32) (v3 : Int32) (v4 : Int32) (M : Mem) (hw : b_X2_hearAs_94 Q v2 v3 v4 M) {H : Heap} {locs : List Loc} {ls : Array Slot} (hl : lv_has ls 7 [(0, .ref (g.2.1 (5 + 0))), (2, .int v2), (3, .int v3), (4, .int v4)]) (hP : va_P g.1 clz (xw g M) H) (hS : va_S (Af 0 g) s.heap H locs) : W p l e ({ frames := 2, cells := 0, slots := 0, locals := 51 } : Room) s m args below meth c H locs 0 0 (MQ below (va_Qv Q (PB g (xw g)) (Af 0 g)) args s 0 0 (Af 0 g)) (F0 m 94 ls []) := by
  unfold b_X2_hearAs_94 at hw
  refine lv_iload_n C.1 C.2.1 dX2_hearAs_94 rfl (lv_at hl 2 rfl) ?_
  refine lv_if_le (tgt := 106) C.1 C.2.1 dX2_hearAs_95 (by decide) (fun h4 => ?_) (fun h4 => ?_)
  · have hw := hw.1 h4
    exact retV (wf := (xw g)) C hP hS hw dX2_hearAs_106
  · have hw := hw.2 h4
    refine lv_aload_n C.1 C.2.1 dX2_hearAs_98 rfl (lv_at hl 0 rfl) ?_
    refine lv_iload_n C.1 C.2.1 dX2_hearAs_99 rfl (lv_at hl 1 rfl) ?_
    refine lv_iload_n C.1 C.2.1 dX2_hearAs_100 rfl (lv_at hl 2 rfl) ?_
    refine lv_iload C.1 C.2.1 dX2_hearAs_101 (lv_at hl 3 rfl) ?_
    refine goV (wf := (xw g)) (runV (w := xw g M) (As := [.int v2, .int v3, .int v4]) (rest := []) C lkX2_61 (c_X2_addNoise l g C.2.2.2.2.2.2.2.2.2.2 v2 v3 v4  M _ hw) hP hS rfl rfl ⟨Nat.le_of_ble_eq_true rfl, Nat.le_of_ble_eq_true rfl⟩ (xx_5 Nat.zero_lt_one) rfl rfl hl.1 rfl (Nat.le_of_ble_eq_true rfl) dX2_hearAs_103) hS (fun M5 hw H locs hP hS => ?_)
    exact retV (wf := (xw g)) C hP hS hw dX2_hearAs_106
def b_X2_hearAs_62 (Q : Mem → Prop) (k88 : Nat → Int32 → Int32 → Int32 → Int32 → Int32 → Mem → Prop) (v1 : Nat) (v2 : Int32) (v3 : Int32) (v4 : Int32) (v5 : Int32) (v6 : Int32) (M : Mem) : Prop := (vp_in v6 5 ∧ (p_X0_isHeardIn ((5 * v1 + (v6 : Int32).toNatClampNeg)) v2 M (fun r8 M8 => ((r8 = 0 → (k88 v1 v2 v3 v4 v5 v6 M8)) ∧ (¬ r8 = 0 → (vp_in v6 5 ∧ (p_X2_addBird ((5 * v1 + (v6 : Int32).toNatClampNeg)) v2 M8 (fun M11 => (k88 v1 v2 v3 v4 v5 v6 M11)))))))))
set_option maxRecDepth 100000 in
set_option maxHeartbeats 4000000 in
theorem k_X2_hearAs_62 {p : Program} {l : Launch} {e : Env} {s : State} {m : MethodId} {args : Array Value} {below : List Frame} {meth : Method} {c : Code} {g : Geo} (C : CX g p s m args meth c cX2_hearAs 7 none RX2) {Q : Mem → Prop} {k88 : Nat → Int32 → Int32 → Int32 → Int32 → Int32 → Mem → Prop} (hk88 : ∀ (v1 : Nat) (v2 : Int32) (v3 : Int32) (v4 : Int32) (v5 : Int32) (v6 : Int32) (hv1 : v1 < 2) (M : Mem), k88 v1 v2 v3 v4 v5 v6 M → ∀ (H : Heap) (locs : List Loc) (ls : Array Slot), lv_has ls 7 [(0, .ref (g.2.1 (5 + 0))), (1, .ref (g.2.1 (23 + v1))), (2, .int v2), (3, .int v3), (4, .int v4), (5, .int v5), (6, .int v6)] → va_P g.1 clz (xw g M) H → va_S (Af 0 g) s.heap H locs → W p l e ({ frames := 2, cells := 0, slots := 0, locals := 51 } : Room) s m args below meth c H locs 0 0 (MQ below (va_Qv Q (PB g (xw g)) (Af 0 g)) args s 0 0 (Af 0 g)) (F0 m 88 ls [])) (v1 : Nat) (v2 : Int32) (v3 : Int32) (v4 : Int32) (v5 : Int32) (v6 : Int32) (hv1 : v1 < 2) (M : Mem) (hw : b_X2_hearAs_62 Q k88 v1 v2 v3 v4 v5 v6 M) {H : Heap} {locs : List Loc} {ls : Array Slot} (hl : lv_has ls 7 [(0, .ref (g.2.1 (5 + 0))), (1, .ref (g.2.1 (23 + v1))), (2, .int v2), (3, .int v3), (4, .int v4), (5, .int v5), (6, .int v6)]) (hP : va_P g.1 clz (xw g M) H) (hS : va_S (Af 0 g) s.heap H locs) : W p l e ({ frames := 2, cells := 0, slots := 0, locals := 51 } : Room) s m args below meth c H locs 0 0 (MQ below (va_Qv Q (PB g (xw g)) (Af 0 g)) args s 0 0 (Af 0 g)) (F0 m 62 ls []) := by
  unfold b_X2_hearAs_62 at hw
  refine lv_aload_n C.1 C.2.1 dX2_hearAs_62 rfl (lv_at hl 1 rfl) ?_
  refine gX2_47 C hP hv1 dX2_hearAs_63 ?_
  refine lv_iload C.1 C.2.1 dX2_hearAs_66 (lv_at hl 6 rfl) ?_
  obtain ⟨h7, hw⟩ := hw
  have hb7 : (5 * v1 + (v6 : Int32).toNatClampNeg) < 10 := by have h9 := vp_lt h7; have h8 := hv1; omega
  refine al_24 C hP hv1 h7 dX2_hearAs_68 ?_
  refine lv_iload_n C.1 C.2.1 dX2_hearAs_69 rfl (lv_at hl 2 rfl) ?_
  refine goI (wf := (xw g)) (runV (w := xw g M) (As := [.int v2]) (rest := []) C lkX2_51 (c_X0_isHeardIn l g C.2.2.2.2.2.2.2.2.2.2 ((5 * v1 + (v6 : Int32).toNatClampNeg)) v2 hb7 M _ hw) hP hS rfl rfl ⟨Nat.le_of_ble_eq_true rfl, Nat.le_of_ble_eq_true rfl⟩ (xx_25 hb7) rfl rfl hl.1 rfl (Nat.le_of_ble_eq_true rfl) dX2_hearAs_70) hS (fun r8 M8 hw H locs hP hS => ?_)
  obtain ⟨hw, hz8⟩ := hw
  refine lv_if_eq (tgt := 88) C.1 C.2.1 dX2_hearAs_73 (by decide) (fun h9 => ?_) (fun h9 => ?_)
  · have hw := hw.1 h9
    exact hk88 v1 v2 v3 v4 v5 v6 hv1 _ hw _ _ _ (lv_sub hl [0, 1, 2, 3, 4, 5, 6] rfl) hP hS
  · have hw := hw.2 h9
    refine lv_aload_n C.1 C.2.1 dX2_hearAs_76 rfl (lv_at hl 0 rfl) ?_
    refine lv_aload_n C.1 C.2.1 dX2_hearAs_77 rfl (lv_at hl 1 rfl) ?_
    refine gX2_47 C hP hv1 dX2_hearAs_78 ?_
    refine lv_iload C.1 C.2.1 dX2_hearAs_81 (lv_at hl 6 rfl) ?_
    obtain ⟨h10, hw⟩ := hw
    have hb10 : (5 * v1 + (v6 : Int32).toNatClampNeg) < 10 := by have h9 := vp_lt h10; have h8 := hv1; omega
    refine al_24 C hP hv1 h10 dX2_hearAs_83 ?_
    refine lv_iload_n C.1 C.2.1 dX2_hearAs_84 rfl (lv_at hl 2 rfl) ?_
    refine goV (wf := (xw g)) (runV (w := xw g M8) (As := [.ref (g.2.1 (27 + (5 * v1 + (v6 : Int32).toNatClampNeg))), .int v2]) (rest := []) C lkX2_57 (c_X2_addBird l g C.2.2.2.2.2.2.2.2.2.2 ((5 * v1 + (v6 : Int32).toNatClampNeg)) v2 hb10 M8 _ hw) hP hS rfl rfl ⟨Nat.le_of_ble_eq_true rfl, Nat.le_of_ble_eq_true rfl⟩ (xx_5 Nat.zero_lt_one) rfl rfl hl.1 rfl (Nat.le_of_ble_eq_true rfl) dX2_hearAs_85) hS (fun M11 hw H locs hP hS => ?_)
    exact hk88 v1 v2 v3 v4 v5 v6 hv1 _ hw _ _ _ (lv_sub hl [0, 1, 2, 3, 4, 5, 6] rfl) hP hS
def b_X2_hearAs_88 (Q : Mem → Prop) (k40 : Nat → Int32 → Int32 → Int32 → Int32 → Int32 → Mem → Prop) (v1 : Nat) (v2 : Int32) (v3 : Int32) (v4 : Int32) (v5 : Int32) (v6 : Int32) (M : Mem) : Prop := (∀ x12 : Int32, x12 = (v6 + 1) → (k40 v1 v2 v3 v4 v5 x12 M))
set_option maxRecDepth 100000 in
set_option maxHeartbeats 4000000 in
theorem k_X2_hearAs_88 {p : Program} {l : Launch} {e : Env} {s : State} {m : MethodId} {args : Array Value} {below : List Frame} {meth : Method} {c : Code} {g : Geo} (C : CX g p s m args meth c cX2_hearAs 7 none RX2) {Q : Mem → Prop} {k40 : Nat → Int32 → Int32 → Int32 → Int32 → Int32 → Mem → Prop} (hk40 : ∀ (v1 : Nat) (v2 : Int32) (v3 : Int32) (v4 : Int32) (v5 : Int32) (v6 : Int32) (hv1 : v1 < 2) (M : Mem), k40 v1 v2 v3 v4 v5 v6 M → ∀ (H : Heap) (locs : List Loc) (ls : Array Slot), lv_has ls 7 [(0, .ref (g.2.1 (5 + 0))), (1, .ref (g.2.1 (23 + v1))), (2, .int v2), (3, .int v3), (4, .int v4), (5, .int v5), (6, .int v6)] → va_P g.1 clz (xw g M) H → va_S (Af 0 g) s.heap H locs → W p l e ({ frames := 2, cells := 0, slots := 0, locals := 51 } : Room) s m args below meth c H locs 0 0 (MQ below (va_Qv Q (PB g (xw g)) (Af 0 g)) args s 0 0 (Af 0 g)) (F0 m 40 ls [])) (v1 : Nat) (v2 : Int32) (v3 : Int32) (v4 : Int32) (v5 : Int32) (v6 : Int32) (hv1 : v1 < 2) (M : Mem) (hw : b_X2_hearAs_88 Q k40 v1 v2 v3 v4 v5 v6 M) {H : Heap} {locs : List Loc} {ls : Array Slot} (hl : lv_has ls 7 [(0, .ref (g.2.1 (5 + 0))), (1, .ref (g.2.1 (23 + v1))), (2, .int v2), (3, .int v3), (4, .int v4), (5, .int v5), (6, .int v6)]) (hP : va_P g.1 clz (xw g M) H) (hS : va_S (Af 0 g) s.heap H locs) : W p l e ({ frames := 2, cells := 0, slots := 0, locals := 51 } : Room) s m args below meth c H locs 0 0 (MQ below (va_Qv Q (PB g (xw g)) (Af 0 g)) args s 0 0 (Af 0 g)) (F0 m 88 ls []) := by
  unfold b_X2_hearAs_88 at hw
  obtain ⟨x12, e12⟩ : ∃ y : Int32, y = (v6 + 1) := ⟨_, rfl⟩
  have hw := hw x12 e12
  refine lv_iinc (v := x12) (lv' := [(6, .int x12), (0, .ref (g.2.1 (5 + 0))), (1, .ref (g.2.1 (23 + v1))), (2, .int v2), (3, .int v3), (4, .int v4), (5, .int v5)]) C.1 C.2.1 dX2_hearAs_88 hl (k := 6) rfl (by rw [e12]; rfl) (by decide) rfl (fun ls hl => ?_)
  refine lv_goto (tgt := 40) C.1 C.2.1 dX2_hearAs_91 (by decide) ?_
  exact hk40 v1 v2 v3 v4 v5 x12 hv1 _ hw _ _ _ (lv_sub hl [1, 2, 3, 4, 5, 6, 0] rfl) hP hS
def b_X2_hearAs_40 (Q : Mem → Prop) : Nat → Nat → Int32 → Int32 → Int32 → Int32 → Int32 → Mem → Prop
  | 0, _, _, _, _, _, _, _ => False
  | n + 1, v1, v2, v3, v4, v5, v6, M => (((M.1 23 v1 1) ≤ v6 → (b_X2_hearAs_94 Q v2 v3 v4 M)) ∧ (¬ (M.1 23 v1 1) ≤ v6 → ((v5 = (-1) → (b_X2_hearAs_62 Q (fun v1 v2 v3 v4 v5 v6 M => b_X2_hearAs_88 Q (fun v1 v2 v3 v4 v5 v6 M => b_X2_hearAs_40 Q n v1 v2 v3 v4 v5 v6 M) v1 v2 v3 v4 v5 v6 M) v1 v2 v3 v4 v5 v6 M)) ∧ (¬ v5 = (-1) → ((¬ v5 = v6 → (b_X2_hearAs_88 Q (fun v1 v2 v3 v4 v5 v6 M => b_X2_hearAs_40 Q n v1 v2 v3 v4 v5 v6 M) v1 v2 v3 v4 v5 v6 M)) ∧ (v5 = v6 → (b_X2_hearAs_62 Q (fun v1 v2 v3 v4 v5 v6 M => b_X2_hearAs_88 Q (fun v1 v2 v3 v4 v5 v6 M => b_X2_hearAs_40 Q n v1 v2 v3 v4 v5 v6 M) v1 v2 v3 v4 v5 v6 M) v1 v2 v3 v4 v5 v6 M)))))))
set_option maxRecDepth 100000 in
set_option maxHeartbeats 4000000 in
theorem k_X2_hearAs_40 {p : Program} {l : Launch} {e : Env} {s : State} {m : MethodId} {args : Array Value} {below : List Frame} {meth : Method} {c : Code} {g : Geo} (C : CX g p s m args meth c cX2_hearAs 7 none RX2) {Q : Mem → Prop} : ∀ (n : Nat) (v1 : Nat) (v2 : Int32) (v3 : Int32) (v4 : Int32) (v5 : Int32) (v6 : Int32) (hv1 : v1 < 2) (M : Mem) (hw : b_X2_hearAs_40 Q n v1 v2 v3 v4 v5 v6 M) {H : Heap} {locs : List Loc} {ls : Array Slot} (hl : lv_has ls 7 [(0, .ref (g.2.1 (5 + 0))), (1, .ref (g.2.1 (23 + v1))), (2, .int v2), (3, .int v3), (4, .int v4), (5, .int v5), (6, .int v6)]) (hP : va_P g.1 clz (xw g M) H) (hS : va_S (Af 0 g) s.heap H locs), W p l e ({ frames := 2, cells := 0, slots := 0, locals := 51 } : Room) s m args below meth c H locs 0 0 (MQ below (va_Qv Q (PB g (xw g)) (Af 0 g)) args s 0 0 (Af 0 g)) (F0 m 40 ls []) := by
  intro n
  induction n with
  | zero => intro v1 v2 v3 v4 v5 v6 hv1 M hw H locs ls hl hP hS; exact absurd hw (by rw [b_X2_hearAs_40]; exact fun h => h)
  | succ n ih =>
    intro v1 v2 v3 v4 v5 v6 hv1 M hw H locs ls hl hP hS
    rw [b_X2_hearAs_40] at hw
    refine lv_iload C.1 C.2.1 dX2_hearAs_40 (lv_at hl 6 rfl) ?_
    refine lv_aload_n C.1 C.2.1 dX2_hearAs_42 rfl (lv_at hl 1 rfl) ?_
    refine gX2_44 C hP hv1 dX2_hearAs_43 ?_
    refine lv_icmp_ge (tgt := 94) C.1 C.2.1 dX2_hearAs_46 (by decide) (fun h3 => ?_) (fun h3 => ?_)
    · have hw := hw.1 h3
      exact k_X2_hearAs_94 (Q := Q) C v2 v3 v4  _ hw (lv_sub hl [0, 2, 3, 4] rfl) hP hS
    · have hw := hw.2 h3
      refine lv_iload C.1 C.2.1 dX2_hearAs_49 (lv_at hl 5 rfl) ?_
      refine lv_iconst (v := (-1)) C.1 C.2.1 dX2_hearAs_51 (by decide) ?_
      refine lv_icmp_eq (tgt := 62) C.1 C.2.1 dX2_hearAs_52 (by decide) (fun h6 => ?_) (fun h6 => ?_)
      · have hw := hw.1 h6
        exact k_X2_hearAs_62 (Q := Q) C (fun v1 v2 v3 v4 v5 v6 hv1 M hw H locs ls hl hP hS => k_X2_hearAs_88 (Q := Q) C (fun v1 v2 v3 v4 v5 v6 hv1 M hw H locs ls hl hP hS => ih v1 v2 v3 v4 v5 v6 hv1 M hw hl hP hS) v1 v2 v3 v4 v5 v6 hv1 M hw hl hP hS) v1 v2 v3 v4 v5 v6 hv1 _ hw (lv_sub hl [0, 1, 2, 3, 4, 5, 6] rfl) hP hS
      · have hw := hw.2 h6
        refine lv_iload C.1 C.2.1 dX2_hearAs_55 (lv_at hl 5 rfl) ?_
        refine lv_iload C.1 C.2.1 dX2_hearAs_57 (lv_at hl 6 rfl) ?_
        refine lv_icmp_ne (tgt := 88) C.1 C.2.1 dX2_hearAs_59 (by decide) (fun h13 => ?_) (fun h13 => ?_)
        · have hw := hw.1 h13
          exact k_X2_hearAs_88 (Q := Q) C (fun v1 v2 v3 v4 v5 v6 hv1 M hw H locs ls hl hP hS => ih v1 v2 v3 v4 v5 v6 hv1 M hw hl hP hS) v1 v2 v3 v4 v5 v6 hv1 _ hw (lv_sub hl [0, 1, 2, 3, 4, 5, 6] rfl) hP hS
        · have hw := hw.2 h13
          exact k_X2_hearAs_62 (Q := Q) C (fun v1 v2 v3 v4 v5 v6 hv1 M hw H locs ls hl hP hS => k_X2_hearAs_88 (Q := Q) C (fun v1 v2 v3 v4 v5 v6 hv1 M hw H locs ls hl hP hS => ih v1 v2 v3 v4 v5 v6 hv1 M hw hl hP hS) v1 v2 v3 v4 v5 v6 hv1 M hw hl hP hS) v1 v2 v3 v4 v5 v6 hv1 _ hw (lv_sub hl [0, 1, 2, 3, 4, 5, 6] rfl) hP hS
def b_X2_hearAs_37 (Q : Mem → Prop) (v1 : Nat) (v2 : Int32) (v3 : Int32) (v4 : Int32) (v5 : Int32) (M : Mem) : Prop := (∃ n40 : Nat, b_X2_hearAs_40 Q n40 v1 v2 v3 v4 v5 0 M)
set_option maxRecDepth 100000 in
set_option maxHeartbeats 4000000 in
theorem k_X2_hearAs_37 {p : Program} {l : Launch} {e : Env} {s : State} {m : MethodId} {args : Array Value} {below : List Frame} {meth : Method} {c : Code} {g : Geo} (C : CX g p s m args meth c cX2_hearAs 7 none RX2) {Q : Mem → Prop} (v1 : Nat) (v2 : Int32) (v3 : Int32) (v4 : Int32) (v5 : Int32) (hv1 : v1 < 2) (M : Mem) (hw : b_X2_hearAs_37 Q v1 v2 v3 v4 v5 M) {H : Heap} {locs : List Loc} {ls : Array Slot} (hl : lv_has ls 7 [(0, .ref (g.2.1 (5 + 0))), (1, .ref (g.2.1 (23 + v1))), (2, .int v2), (3, .int v3), (4, .int v4), (5, .int v5)]) (hP : va_P g.1 clz (xw g M) H) (hS : va_S (Af 0 g) s.heap H locs) : W p l e ({ frames := 2, cells := 0, slots := 0, locals := 51 } : Room) s m args below meth c H locs 0 0 (MQ below (va_Qv Q (PB g (xw g)) (Af 0 g)) args s 0 0 (Af 0 g)) (F0 m 37 ls []) := by
  unfold b_X2_hearAs_37 at hw
  refine lv_iconst (v := 0) C.1 C.2.1 dX2_hearAs_37 (by decide) ?_
  refine lv_istore (lv' := [(6, .int 0), (0, .ref (g.2.1 (5 + 0))), (1, .ref (g.2.1 (23 + v1))), (2, .int v2), (3, .int v3), (4, .int v4), (5, .int v5)]) C.1 C.2.1 dX2_hearAs_38 hl (by decide) rfl (fun ls hl => ?_)
  obtain ⟨n9, hw⟩ := hw
  exact k_X2_hearAs_40 (Q := Q) C n9 v1 v2 v3 v4 v5 0 hv1 _ hw (lv_sub hl [1, 2, 3, 4, 5, 6, 0] rfl) hP hS
def b_X2_hearAs_8 (Q : Mem → Prop) : Nat → Nat → Int32 → Int32 → Int32 → Int32 → Int32 → Mem → Prop
  | 0, _, _, _, _, _, _, _ => False
  | n + 1, v1, v2, v3, v4, v5, v6, M => ((62 ≤ v6 → (b_X2_hearAs_37 Q v1 v2 v3 v4 v5 M)) ∧ (¬ 62 ≤ v6 → (vp_in v6 62 ∧ (∀ M14 : Mem, M14 = sI M 6 0 (v6 : Int32).toNatClampNeg 0 → (vp_in v6 62 ∧ (∀ M15 : Mem, M15 = sI M14 7 0 (v6 : Int32).toNatClampNeg 0 → (∀ x16 : Int32, x16 = (v6 + 1) → (b_X2_hearAs_8 Q n v1 v2 v3 v4 v5 x16 M15))))))))
set_option maxRecDepth 100000 in
set_option maxHeartbeats 4000000 in
theorem k_X2_hearAs_8 {p : Program} {l : Launch} {e : Env} {s : State} {m : MethodId} {args : Array Value} {below : List Frame} {meth : Method} {c : Code} {g : Geo} (C : CX g p s m args meth c cX2_hearAs 7 none RX2) {Q : Mem → Prop} : ∀ (n : Nat) (v1 : Nat) (v2 : Int32) (v3 : Int32) (v4 : Int32) (v5 : Int32) (v6 : Int32) (hv1 : v1 < 2) (M : Mem) (hw : b_X2_hearAs_8 Q n v1 v2 v3 v4 v5 v6 M) {H : Heap} {locs : List Loc} {ls : Array Slot} (hl : lv_has ls 7 [(0, .ref (g.2.1 (5 + 0))), (1, .ref (g.2.1 (23 + v1))), (2, .int v2), (3, .int v3), (4, .int v4), (5, .int v5), (6, .int v6)]) (hP : va_P g.1 clz (xw g M) H) (hS : va_S (Af 0 g) s.heap H locs), W p l e ({ frames := 2, cells := 0, slots := 0, locals := 51 } : Room) s m args below meth c H locs 0 0 (MQ below (va_Qv Q (PB g (xw g)) (Af 0 g)) args s 0 0 (Af 0 g)) (F0 m 8 ls []) := by
  intro n
  induction n with
  | zero => intro v1 v2 v3 v4 v5 v6 hv1 M hw H locs ls hl hP hS; exact absurd hw (by rw [b_X2_hearAs_8]; exact fun h => h)
  | succ n ih =>
    intro v1 v2 v3 v4 v5 v6 hv1 M hw H locs ls hl hP hS
    rw [b_X2_hearAs_8] at hw
    refine lv_iload C.1 C.2.1 dX2_hearAs_8 (lv_at hl 6 rfl) ?_
    refine lv_bipush (v := 62) C.1 C.2.1 dX2_hearAs_10 (by decide) ?_
    refine lv_icmp_ge (tgt := 37) C.1 C.2.1 dX2_hearAs_12 (by decide) (fun h2 => ?_) (fun h2 => ?_)
    · have hw := hw.1 h2
      exact k_X2_hearAs_37 (Q := Q) C v1 v2 v3 v4 v5 hv1 _ hw (lv_sub hl [0, 1, 2, 3, 4, 5] rfl) hP hS
    · have hw := hw.2 h2
      refine lv_aload_n C.1 C.2.1 dX2_hearAs_15 rfl (lv_at hl 0 rfl) ?_
      refine gX2_9 C hP Nat.zero_lt_one dX2_hearAs_16 ?_
      refine lv_iload C.1 C.2.1 dX2_hearAs_19 (lv_at hl 6 rfl) ?_
      refine lv_iconst (v := 0) C.1 C.2.1 dX2_hearAs_21 (by decide) ?_
      obtain ⟨h14, hw⟩ := hw
      refine as_6 C hP hS Nat.zero_lt_one h14 dX2_hearAs_22 (fun M14 e14 H locs hP hS => ?_)
      have hw := hw M14 e14
      refine lv_aload_n C.1 C.2.1 dX2_hearAs_23 rfl (lv_at hl 0 rfl) ?_
      refine gX2_15 C hP Nat.zero_lt_one dX2_hearAs_24 ?_
      refine lv_iload C.1 C.2.1 dX2_hearAs_27 (lv_at hl 6 rfl) ?_
      refine lv_iconst (v := 0) C.1 C.2.1 dX2_hearAs_29 (by decide) ?_
      obtain ⟨h15, hw⟩ := hw
      refine as_7 C hP hS Nat.zero_lt_one h15 dX2_hearAs_30 (fun M15 e15 H locs hP hS => ?_)
      have hw := hw M15 e15
      obtain ⟨x16, e16⟩ : ∃ y : Int32, y = (v6 + 1) := ⟨_, rfl⟩
      have hw := hw x16 e16
      refine lv_iinc (v := x16) (lv' := [(6, .int x16), (0, .ref (g.2.1 (5 + 0))), (1, .ref (g.2.1 (23 + v1))), (2, .int v2), (3, .int v3), (4, .int v4), (5, .int v5)]) C.1 C.2.1 dX2_hearAs_31 hl (k := 6) rfl (by rw [e16]; rfl) (by decide) rfl (fun ls hl => ?_)
      refine lv_goto (tgt := 8) C.1 C.2.1 dX2_hearAs_34 (by decide) ?_
      exact ih v1 v2 v3 v4 v5 x16 hv1 _ hw (lv_sub hl [1, 2, 3, 4, 5, 6, 0] rfl) hP hS
def p_X2_hearAs (a1 : Nat) (a2 : Int32) (a3 : Int32) (a4 : Int32) (a5 : Int32) (M : Mem) (Q : Mem → Prop) : Prop := (∀ M1 : Mem, M1 = sI M 5 0 4 (-1) → (∃ n8 : Nat, b_X2_hearAs_8 Q n8 a1 a2 a3 a4 a5 0 M1))
set_option maxRecDepth 100000 in
set_option maxHeartbeats 4000000 in
theorem c_X2_hearAs (l : Launch) (g : Geo) (gi : GI g) (a1 : Nat) (a2 : Int32) (a3 : Int32) (a4 : Int32) (a5 : Int32) (ha1 : a1 < 2) (M : Mem) (Q : Mem → Prop) (hw : p_X2_hearAs a1 a2 a3 a4 a5 M Q) : Met l yX2_hearAs (Cond.code yX2_hearAs cX2_hearAs 7 none :: bg) ({ frames := 2, cells := 0, slots := 0, locals := 51 } : Room) (va_Pc [.ref (g.2.1 (5 + 0)), .ref (g.2.1 (23 + a1)), .int a2, .int a3, .int a4, .int a5] (PW g (xw g M))) (va_Qv Q (PB g (xw g)) (Af 0 g)) 0 0 (Af 0 g) := by
  refine Met.ofW (cc := cX2_hearAs) (maxL := 7) (ret := none) (by decide +kernel) rfl ?_
  intro p e s m args below meth c s₁ B hml hv
  obtain ⟨rfl, hv⟩ := hv
  have C := CX.start (own := RX2) B hml rfl gi hv
  have hP := hv.1
  have hS : va_S (Af 0 g) s.heap s.heap [] := va_S.rf
  have hl := lv_entry ([.ref (g.2.1 (5 + 0)), .ref (g.2.1 (23 + a1)), .int a2, .int a3, .int a4, .int a5]) (n := 7) (Nat.le_of_ble_eq_true rfl)
  rw [lg_entry_eq]
  generalize (lg_sl ([.ref (g.2.1 (5 + 0)), .ref (g.2.1 (23 + a1)), .int a2, .int a3, .int a4, .int a5]) ++ List.replicate (7 - (lg_sl ([.ref (g.2.1 (5 + 0)), .ref (g.2.1 (23 + a1)), .int a2, .int a3, .int a4, .int a5])).length) Slot.unset).toArray = ls at hl ⊢
  have hl : lv_has ls 7 [(0, .ref (g.2.1 (5 + 0))), (1, .ref (g.2.1 (23 + a1))), (2, .int a2), (3, .int a3), (4, .int a4), (5, .int a5)] := hl
  unfold p_X2_hearAs at hw
  refine lv_aload_n C.1 C.2.1 dX2_hearAs_0 rfl (lv_at hl 0 rfl) ?_
  refine lv_iconst (v := (-1)) C.1 C.2.1 dX2_hearAs_1 (by decide) ?_
  refine pX2_18 C hP hS Nat.zero_lt_one dX2_hearAs_2 (fun M1 e1 H locs hP hS => ?_)
  have hw := hw M1 e1
  refine lv_iconst (v := 0) C.1 C.2.1 dX2_hearAs_5 (by decide) ?_
  refine lv_istore (lv' := [(6, .int 0), (0, .ref (g.2.1 (5 + 0))), (1, .ref (g.2.1 (23 + a1))), (2, .int a2), (3, .int a3), (4, .int a4), (5, .int a5)]) C.1 C.2.1 dX2_hearAs_6 hl (by decide) rfl (fun ls hl => ?_)
  obtain ⟨n9, hw⟩ := hw
  exact k_X2_hearAs_8 (Q := Q) C n9 a1 a2 a3 a4 a5 0 ha1 _ hw (lv_sub hl [1, 2, 3, 4, 5, 6, 0] rfl) hP hS
